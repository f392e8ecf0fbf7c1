/-! Calls that only look at numbers, change the task, the text, or go back. -/
theorem ne10 : ¬ (1 : Int32) = 0 := by decide
def outc (lim : Nat) (v : Int32) : Int32 := if v < 0 ∨ nI lim ≤ v then 0 else 1
theorem outc_in {lim j : Nat} (h : j < lim) (hl : lim < 2 ^ 31) : outc lim (nI j) = 1 := if_neg (fun q => q.elim (fun q => nI_pos (by omega) q) (fun q => nI_ge h hl q))
theorem outc_out {lim : Nat} {v : Int32} (h : v < 0 ∨ nI lim ≤ v) : outc lim v = 0 := if_pos h
theorem outc_cases (lim : Nat) (hl : lim < 2 ^ 31) (v : Int32) : (outc lim v = 0 ∧ (v < 0 ∨ nI lim ≤ v)) ∨ ∃ j, j < lim ∧ v = nI j ∧ outc lim v = 1 := by
  rcases pk_ix v hl with h | h | ⟨j, hj, e⟩
  · exact Or.inl ⟨outc_out (Or.inl h), Or.inl h⟩
  · exact Or.inl ⟨outc_out (Or.inr h), Or.inr h⟩
  · exact Or.inr ⟨j, hj, e, by rw [e]; exact outc_in hj hl⟩
theorem lt_pred {n : Nat} (hn : n < 2 ^ 30) (v : Int32) : nI n - 1 < v ↔ nI n ≤ v := by
  rw [Int32.lt_iff_toInt_lt, Int32.le_iff_toInt_le]
  have e1 : (nI n - nI 1).toInt = (n : Int) - (1 : Nat) := pk_sub_toInt hn (by omega)
  have e2 : (nI n).toInt = (n : Int) := nI_toInt (by omega)
  have e3 : nI n - 1 = nI n - nI 1 := rfl
  rw [e3, e1, e2]
  omega
theorem m_rng {S : St} {v : Int32} {n : Nat} (hn : n < 2 ^ 30) : fX7_in S v 0 (nI n - 1) = some (outc n v) := by
  rw [m_in]
  unfold outc
  simp only [lt_pred hn]
theorem zb_outc {α : Type} {n : Nat} {v : Int32} {k : Option α} : zb (outc n v) k = k := by
  unfold outc
  by_cases h : v < 0 ∨ nI n ≤ v
  · rw [if_pos h]; exact zb_0
  · rw [if_neg h]; exact zb_1
theorem crn : ∀ d, d < 5 → (1 : Int32) <<< (nI d &&& 31) = nI (2 ^ d) := by decide
theorem two_le {d : Nat} (h : d ≤ 4) : 2 ^ d ≤ 16 := by
  rcases (show d = 0 ∨ d = 1 ∨ d = 2 ∨ d = 3 ∨ d = 4 by omega) with rfl | rfl | rfl | rfl | rfl <;> decide
theorem two_ge {d : Nat} (h : 1 ≤ d) (h4 : d ≤ 4) : 2 ≤ 2 ^ d := by
  rcases (show d = 1 ∨ d = 2 ∨ d = 3 ∨ d = 4 by omega) with rfl | rfl | rfl | rfl <;> decide
theorem x_corners {X : St} {t : Tk} (ok : TkOK t) (h : X.1 0 = nI (tD t)) : fX3_corners X = some (nI (2 ^ tD t)) := by
  unfold fX3_corners
  rw [gF_e, h, crn _ (by have := ok.2.1; omega)]
theorem m_corners {M : St} {t : Tk} (ok : TkOK t) (h : M.1 1 = nI (tD t)) : fX7_corners M = some (nI (2 ^ tD t)) := by
  unfold fX7_corners
  rw [gF_e, h, crn _ (by have := ok.2.1; omega)]
theorem x_allows {X : St} {t : Tk} (ok : TkOK t) (h : X.1 0 = nI (tD t)) {w : Nat} (hw : w < 4) (v : Int32) : fX3_allows X (nI w) v = some (outc (if w = 3 then 100 else 2 ^ tD t) v) := by
  unfold fX3_allows
  have fin : ∀ n : Nat, ¬ v < 0 → fX3_allows_19 (nI n) v = some (outc n v) := by
    intro n hv
    unfold fX3_allows_19 outc
    by_cases hc : nI n ≤ v
    · rw [if_pos hc, if_pos (Or.inr hc)]
    · rw [if_neg hc, if_neg (by rintro (q | q) <;> contradiction)]
  by_cases hv : v < 0
  · rw [if_pos hv, outc_out (Or.inl hv)]
  · rw [if_neg hv]
    by_cases h3 : w = 3
    · subst h3
      rw [if_pos (show nI 3 = (3 : Int32) from rfl), if_pos rfl]
      exact fin 100 hv
    · rw [if_neg (show ¬ nI w = (3 : Int32) from fun q => h3 ((nI_eq (b := 3) (by omega) (by omega)).mp q)), if_neg h3, x_corners ok h, bq1_s]
      exact fin _ hv
theorem m_isCorner {M : St} {t : Tk} (ok : TkOK t) (h : M.1 1 = nI (tD t)) (v : Int32) : fX7_isCorner M v = some (outc (2 ^ tD t) v) := by
  unfold fX7_isCorner
  rw [m_corners ok h, bq1_s, m_rng (by have := two_le ok.2.1; omega), bq1_s, zb_outc]
theorem m_isRank {M : St} (v : Int32) : fX7_isRank M v = some (outc 100 v) := by
  unfold fX7_isRank
  rw [show (99 : Int32) = nI 100 - 1 from rfl, m_rng (by omega), bq1_s, zb_outc]
theorem m_isParcel {M : St} {t : Tk} (ok : TkOK t) (h : M.1 2 = nI (tN t)) (v : Int32) : fX7_isParcel M v = some (outc (tN t) v) := by
  unfold fX7_isParcel
  rw [gF_e, h, m_rng (by have := ok.2.2.2.2.1; omega), bq1_s, zb_outc]
theorem x_has {X : St} {t : Tk} (h : X.1 3 = nI (tN t)) (v : Int32) : fX3_has X v = some (outc (tN t) v) := by
  unfold fX3_has outc
  rw [gF_e, h]
  by_cases hv : v < 0
  · rw [if_pos hv, if_pos (Or.inl hv)]
  · rw [if_neg hv]
    by_cases hc : nI (tN t) ≤ v
    · rw [if_pos hc, if_pos (Or.inr hc)]
    · rw [if_neg hc, if_neg (by rintro (q | q) <;> contradiction)]
/-- the task alone changes -/
theorem XS.tk {a : Da} {X Y : St} {t : Tk} (x : XS a X) (h1 : ∀ k, 4 ≤ k → k < 32 ∨ k = 34 → Y.1 k = X.1 k) (h2 : ∀ k, k ≠ 0 → k < 8 ∨ k = 19 → Y.2.1 k = X.2.1 k) (ht : XT Y 0 t) : XS (aTk a t) Y := by
  obtain ⟨x1, ⟨w, hw, x2, x3, x4⟩, x5, x6, x7, x8, x9⟩ := x
  refine ⟨ht, ⟨w, hw, (h1 _ (by omega) (by omega)).trans x2, (h1 _ (by omega) (by omega)).trans x3, fun i hi => ?_⟩, fun k hk => ?_, (h1 _ (by omega) (by omega)).trans x6, (h1 _ (by omega) (by omega)).trans x7, (h1 _ (by omega) (by omega)).trans x8, fun i hi => ?_⟩
  · have hm := Nat.mod_lt (w + 6 - i) (show 0 < 6 by omega)
    obtain ⟨a1, b1, c1, d1, e1⟩ := x4 i hi
    refine ⟨(h1 _ (by omega) (by omega)).trans a1, (h1 _ (by omega) (by omega)).trans b1, (h1 _ (by omega) (by omega)).trans c1, (h1 _ (by omega) (by omega)).trans d1, fun p k hp hk => ?_⟩
    rw [h2 _ (by omega) (by omega)]; exact e1 p k hp hk
  · rw [h2 7 (by omega) (by omega)]; exact x5 k hk
  · rw [h2 19 (by omega) (by omega)]; exact x9 i hi
theorem MS.tk {a : Da} {M Y : St} {t : Tk} (m : MS a M) (h1 : ∀ k, k = 8 ∨ k = 14 ∨ k = 15 ∨ k = 24 → Y.1 k = M.1 k) (h2 : ∀ k, k = 0 ∨ k = 6 ∨ k = 16 → Y.2.1 k = M.2.1 k) (ht : MT Y t) : MS (aTk a t) Y := by
  obtain ⟨x1, ⟨x2, x4⟩, x5, x6, x7, x8, x9⟩ := m
  refine ⟨ht, ⟨(h1 _ (by omega)).trans x2, fun i hi => (x4 i hi).of (h2 6 (by omega))⟩, fun k hk => ?_, (h1 _ (by omega)).trans x6, (h1 _ (by omega)).trans x7, (h1 _ (by omega)).trans x8, fun i hi => ?_⟩
  · rw [h2 0 (by omega)]; exact x5 k hk
  · rw [h2 16 (by omega)]; exact x9 i hi
theorem sim_bad {a : Da} {X M : St} (ok : DaOK a) (x : XS a X) (m : MS a M) : ∃ X2 M2, fX6_refuse X (-2) = some (-2, X2) ∧ fX7_bad M = some (-2, M2) ∧ Sim X2 M2 := by
  obtain ⟨X2, e1, x2⟩ := x_bad x
  obtain ⟨M2, e2, m2⟩ := m_bad m
  exact ⟨X2, M2, e1, e2, _, ok.ref 0, x2, m2⟩
theorem sim_no {a : Da} {X M : St} (ok : DaOK a) (x : XS a X) (m : MS a M) : ∃ X2 M2, fX6_refuse X (-3) = some (-3, X2) ∧ fX7_no M = some (-3, M2) ∧ Sim X2 M2 := by
  obtain ⟨X2, e1, x2⟩ := x_no x
  obtain ⟨M2, e2, m2⟩ := m_no m
  exact ⟨X2, M2, e1, e2, _, ok.ref 1, x2, m2⟩
theorem sim_full {a : Da} {X M : St} (ok : DaOK a) (x : XS a X) (m : MS a M) : ∃ X2 M2, fX6_refuse X (-4) = some (-4, X2) ∧ fX7_full M = some (-4, M2) ∧ Sim X2 M2 := by
  obtain ⟨X2, e1, x2⟩ := x_full x
  obtain ⟨M2, e2, m2⟩ := m_full m
  exact ⟨X2, M2, e1, e2, _, ok.ref 2, x2, m2⟩
/-- both keep a state -/
theorem sim_keep {a : Da} {X M : St} (ok : DaOK a) (x : XS a X) (m : MS a M) : ∃ X2 M2, fX0_keep X = some X2 ∧ fX7_leavesState M = some M2 ∧ DaOK (aKeep a) ∧ XS (aKeep a) X2 ∧ MS (aKeep a) M2 := by
  obtain ⟨X2, e1, x2⟩ := x_keep ok x
  obtain ⟨M2, e2, m2⟩ := m_keep ok m
  exact ⟨X2, M2, e1, e2, ok.keep, x2, m2⟩
theorem rng2 {x : Int32} {l h : Nat} (hl : l ≤ h) (hh : h < 2 ^ 31) (h1 : ¬ x < nI l) (h2 : ¬ nI h < x) : ∃ v, l ≤ v ∧ v ≤ h ∧ x = nI v := by
  have h0 : ¬ x < 0 := by
    intro q
    apply h1
    rw [Int32.lt_iff_toInt_lt] at q ⊢
    rw [nI_toInt (by omega)]
    have : (0 : Int32).toInt = 0 := by decide
    omega
  obtain ⟨j, hj, e⟩ := nI_of h0
  subst e
  rw [nI_ltI hj (by omega)] at h1
  rw [nI_ltI (by omega) hj] at h2
  exact ⟨j, by omega, by omega, rfl⟩
theorem op_sides (X M : St) (v1 : Int32) (h : Sim X M) : ∃ (r : Int32) (X2 M2 : St), fX6_sides X v1 = some (r, X2) ∧ fX7_sides M v1 = some (r, M2) ∧ Sim X2 M2 := by
  obtain ⟨a, ok, x, m⟩ := h
  unfold fX6_sides fX7_sides fX6_sides_10
  rw [m_in, bq1_s]
  by_cases c1 : v1 < 1
  · rw [if_pos c1, if_pos (Or.inl c1), if_pos rfl]
    obtain ⟨X2, M2, e1, e2, s⟩ := sim_bad ok x m
    rw [e1, e2, bq2_s, bq2_s]
    exact ⟨_, _, _, rfl, rfl, s⟩
  · rw [if_neg c1]
    by_cases c2 : 4 < v1
    · rw [if_neg (show ¬ v1 ≤ 4 from Int32.not_le.mpr c2), if_pos (Or.inr c2), if_pos rfl]
      obtain ⟨X2, M2, e1, e2, s⟩ := sim_bad ok x m
      rw [e1, e2, bq2_s, bq2_s]
      exact ⟨_, _, _, rfl, rfl, s⟩
    · have hno : ¬ (v1 < 1 ∨ 4 < v1) := fun q => q.elim c1 c2
      rw [if_pos (Int32.not_lt.mp c2), if_neg hno, if_neg (show ¬ (1 : Int32) = 0 by decide)]
      obtain ⟨v, hv1, hv2, rfl⟩ := rng2 (l := 1) (h := 4) (by omega) (by omega) c1 c2
      obtain ⟨X2, M2, e1, e2, ok2, x2, m2⟩ := sim_keep ok x m
      rw [e1, e2, bq1_s, bq1_s]
      have hx := x2.1
      have hm := m2.1
      have t0 := ok2.1
      refine ⟨nI (tD (aT a)), _, _, by rw [gF_e, hx.1]; rfl, by rw [gF_e, hm.1]; rfl, aTk (aKeep a) (v, tO (aT a), tR (aT a), 0, tT (aT a)), ok2.tk ⟨hv1, hv2, t0.2.2.1, t0.2.2.2.1, by show 0 ≤ 16; omega, t0.2.2.2.2.2.1, fun p k hp => by exact absurd hp (Nat.not_lt_zero _)⟩, ?_, ?_⟩
      · refine x2.tk (fun k hk _ => by rw [pF_n _ _ (by omega), pF_n _ _ (by omega)]) (fun k hk _ => rfl) ⟨?_, ?_, ?_, ?_, hx.2.2.2.2⟩
        · rw [pF_n _ _ (by omega), pF_s]
        · rw [pF_n _ _ (by omega), pF_n _ _ (by omega)]; exact hx.2.1
        · rw [pF_n _ _ (by omega), pF_n _ _ (by omega)]; exact hx.2.2.1
        · rw [pF_s]; rfl
      · refine m2.tk (fun k hk => by rw [pF_n _ _ (by omega), pF_n _ _ (by omega)]) (fun k hk => rfl) ⟨?_, hm.2.1, hm.2.2.1, ?_, hm.2.2.2.2⟩
        · rw [pF_n _ _ (by omega), pF_s]
        · rw [pF_s]; rfl
theorem op_empties (X M : St) (h : Sim X M) : ∃ (r : Int32) (X2 M2 : St), fX6_empties X = some (r, X2) ∧ fX7_empties M = some (r, M2) ∧ Sim X2 M2 := by
  obtain ⟨a, ok, x, m⟩ := h
  unfold fX6_empties fX7_empties
  obtain ⟨X2, M2, e1, e2, ok2, x2, m2⟩ := sim_keep ok x m
  rw [e1, e2, bq1_s, bq1_s]
  have hx := x2.1
  have hm := m2.1
  have t0 := ok2.1
  refine ⟨nI (tN (aT a)), _, _, by rw [gF_e, hx.2.2.2.1]; rfl, by rw [gF_e, hm.2.2.2.1]; rfl, aTk (aKeep a) (tD (aT a), tO (aT a), tR (aT a), 0, tT (aT a)), ok2.tk ⟨t0.1, t0.2.1, t0.2.2.1, t0.2.2.2.1, by show 0 ≤ 16; omega, t0.2.2.2.2.2.1, fun p k hp => by exact absurd hp (Nat.not_lt_zero _)⟩, ?_, ?_⟩
  · refine x2.tk (fun k hk _ => by rw [pF_n _ _ (by omega)]) (fun k hk _ => rfl) ⟨?_, ?_, ?_, ?_, hx.2.2.2.2⟩
    · rw [pF_n _ _ (by omega)]; exact hx.1
    · rw [pF_n _ _ (by omega)]; exact hx.2.1
    · rw [pF_n _ _ (by omega)]; exact hx.2.2.1
    · rw [pF_s]; rfl
  · refine m2.tk (fun k hk => by rw [pF_n _ _ (by omega)]) (fun k hk => rfl) ⟨?_, hm.2.1, hm.2.2.1, ?_, hm.2.2.2.2⟩
    · rw [pF_n _ _ (by omega)]; exact hm.1
    · rw [pF_s]; rfl
def q4 (a b c d k : Nat) : Nat := if k = 0 then a else if k = 1 then b else if k = 2 then c else d
def tAdd (t : Tk) (a b c d : Nat) : Tk := (tD t, tO t, tR t, tN t + 1, fun p k => if p = tN t then q4 a b c d k else tT t p k)
theorem TkOK.add {t : Tk} (h : TkOK t) (hn : tN t < 16) {a b c d : Nat} (ha : a < 2 ^ tD t) (hb : b < 2 ^ tD t) (hc : c < 2 ^ tD t) (hd : d < 100) : TkOK (tAdd t a b c d) := by
  obtain ⟨h1, h2, h3, h4, h5, h6, h7⟩ := h
  have := two_le h2
  refine ⟨h1, h2, h3, h4, hn, fun p k hp hk => ?_, fun p k hp hk => ?_⟩
  · show (if p = tN t then q4 a b c d k else tT t p k) < 100
    by_cases e : p = tN t
    · rw [if_pos e]; unfold q4
      repeat (first | split | omega)
    · rw [if_neg e]; exact h6 p k hp hk
  · show (if p = tN t then q4 a b c d k else tT t p k) < 2 ^ tD t
    have hp2 : p < tN t + 1 := hp
    by_cases e : p = tN t
    · rw [if_pos e]; unfold q4
      repeat (first | split | assumption | omega)
    · rw [if_neg e]; exact h7 p k (by omega) hk
theorem x_change {X : St} {p k : Nat} (hp : p < 16) (hk : k < 4) (v : Int32) : fX3_change X (nI p) (nI k) v = some (pN X 0 (4 * p + k) v) := by
  unfold fX3_change
  rw [show nI p * (4 : Int32) = nI (p * 4) from pk_mul p 4, nI_add, chk_n (by omega) (by omega), pR_n (by omega), show p * 4 + k = 4 * p + k by omega]
theorem x_trait {X : St} {p k : Nat} (hp : p < 16) (hk : k < 4) : fX3_trait X (nI p) (nI k) = some (X.2.1 0 (4 * p + k)) := by
  unfold fX3_trait
  rw [show nI p * (4 : Int32) = nI (p * 4) from pk_mul p 4, nI_add, chk_n (by omega) (by omega), gR_n (by omega), show p * 4 + k = 4 * p + k by omega]
theorem gF_pN (S : St) (k i : Nat) (v : Int32) (j : Nat) : gF (pN S k i v) j = gF S j := rfl
theorem x_add {a : Da} {X : St} (ok : DaOK a) (x : XS a X) (hn : tN (aT a) < 16) (b c d e : Nat) : ∃ X2, fX3_add X (nI b) (nI c) (nI d) (nI e) = some X2 ∧ XS (aTk a (tAdd (aT a) b c d e)) X2 ∧ (∀ k, k ≠ 3 → X2.1 k = X.1 k) ∧ ∀ k, k ≠ 0 → X2.2.1 k = X.2.1 k := by
  unfold fX3_add
  have h3 : gF X 3 = nI (tN (aT a)) := x.1.2.2.2.1
  rw [h3, if_pos (show nI (tN (aT a)) < (16 : Int32) from nI_lt (b := 16) hn (by omega)), show (0 : Int32) = nI 0 from rfl, show (1 : Int32) = nI 1 from rfl, show (2 : Int32) = nI 2 from rfl, show (3 : Int32) = nI 3 from rfl, x_change hn (by omega), bq1_s, gF_pN, h3, x_change hn (by omega), bq1_s, gF_pN, gF_pN, h3, x_change hn (by omega), bq1_s, gF_pN, gF_pN, gF_pN, h3, x_change hn (by omega), bq1_s, gF_pN, gF_pN, gF_pN, gF_pN, h3, nI_add]
  generalize hY : pN (pN (pN (pN X 0 (4 * tN (aT a) + 0) (nI b)) 0 (4 * tN (aT a) + 1) (nI c)) 0 (4 * tN (aT a) + 2) (nI d)) 0 (4 * tN (aT a) + 3) (nI e) = Y
  have y1 : Y.1 = X.1 := by subst hY; rfl
  have y2 : ∀ k, k ≠ 0 → Y.2.1 k = X.2.1 k := by
    intro k hk; subst hY; funext b
    rw [pN_k _ _ hk, pN_k _ _ hk, pN_k _ _ hk, pN_k _ _ hk]
  refine ⟨_, rfl, ?_, fun k hk => by rw [pF_n _ _ hk, y1], fun k hk => y2 k hk⟩
  refine x.tk (fun k hk _ => by rw [pF_n _ _ (by omega), y1]) (fun k hk _ => y2 k hk) ⟨?_, ?_, ?_, ?_, ?_⟩
  · rw [pF_n _ _ (by omega), y1]; exact x.1.1
  · rw [pF_n _ _ (by omega), y1]; exact x.1.2.1
  · rw [pF_n _ _ (by omega), y1]; exact x.1.2.2.1
  · rw [pF_s]; rfl
  · intro p k hp hk
    show Y.2.1 0 (4 * p + k) = nI (if p = tN (aT a) then q4 b c d e k else tT (aT a) p k)
    by_cases hpn : p = tN (aT a)
    · rw [if_pos hpn, ← hY, hpn]
      rcases (show k = 0 ∨ k = 1 ∨ k = 2 ∨ k = 3 by omega) with rfl | rfl | rfl | rfl
      · rw [pN_i _ _ (by omega), pN_i _ _ (by omega), pN_i _ _ (by omega), pN_s]; rfl
      · rw [pN_i _ _ (by omega), pN_i _ _ (by omega), pN_s]; rfl
      · rw [pN_i _ _ (by omega), pN_s]; rfl
      · rw [pN_s]; rfl
    · rw [if_neg hpn, ← hY, pN_i _ _ (by omega), pN_i _ _ (by omega), pN_i _ _ (by omega), pN_i _ _ (by omega)]
      exact x.1.2.2.2.2 p k hp hk
theorem m_comes {a : Da} {M : St} (m : MS a M) (hn : tN (aT a) < 16) (b c d e : Nat) : ∃ M2, fX7_comes M (nI b) (nI c) (nI d) (nI e) = some M2 ∧ MS (aTk a (tAdd (aT a) b c d e)) M2 ∧ (∀ k, k ≠ 2 → M2.1 k = M.1 k) ∧ ∀ k, k < 2 ∨ 5 < k → M2.2.1 k = M.2.1 k := by
  have h2 : gF M 2 = nI (tN (aT a)) := m.1.2.2.2.1
  unfold fX7_comes
  rw [h2, chk_n hn (by omega), chk_n hn (by omega), chk_n hn (by omega), chk_n hn (by omega), pR_n (by omega), pR_n (by omega), pR_n (by omega), pR_n (by omega), nI_1]
  generalize hY : pN (pN (pN (pN M 2 (tN (aT a)) (nI b)) 3 (tN (aT a)) (nI c)) 4 (tN (aT a)) (nI d)) 5 (tN (aT a)) (nI e) = Y
  have y1 : Y.1 = M.1 := by subst hY; rfl
  have y2 : ∀ k, k < 2 ∨ 5 < k → Y.2.1 k = M.2.1 k := by
    intro k hk; subst hY; funext b
    rw [pN_k _ _ (by omega), pN_k _ _ (by omega), pN_k _ _ (by omega), pN_k _ _ (by omega)]
  refine ⟨_, rfl, ?_, fun k hk => by rw [pF_n _ _ hk, y1], fun k hk => y2 k hk⟩
  refine m.tk (fun k hk => by rw [pF_n _ _ (by omega), y1]) (fun k hk => y2 k (by omega)) ⟨?_, ?_, ?_, ?_, ?_⟩
  · rw [pF_n _ _ (by omega), y1]; exact m.1.1
  · show Y.2.1 1 0 = _; rw [y2 1 (by omega)]; exact m.1.2.1
  · show Y.2.1 1 1 = _; rw [y2 1 (by omega)]; exact m.1.2.2.1
  · rw [pF_s]; rfl
  · intro p k hp hk
    show Y.2.1 (2 + k) p = nI (if p = tN (aT a) then q4 b c d e k else tT (aT a) p k)
    by_cases hpn : p = tN (aT a)
    · rw [if_pos hpn, ← hY, hpn]
      rcases (show k = 0 ∨ k = 1 ∨ k = 2 ∨ k = 3 by omega) with rfl | rfl | rfl | rfl
      · rw [pN_k _ _ (by omega), pN_k _ _ (by omega), pN_k _ _ (by omega)]; exact pN_s _ _ _ _
      · rw [pN_k _ _ (by omega), pN_k _ _ (by omega)]; exact pN_s _ _ _ _
      · rw [pN_k _ _ (by omega)]; exact pN_s _ _ _ _
      · exact pN_s _ _ _ _
    · rw [if_neg hpn, ← hY, pN_i _ _ hpn, pN_i _ _ hpn, pN_i _ _ hpn, pN_i _ _ hpn]
      exact m.1.2.2.2.2 p k hp hk
theorem op_parcel (X M : St) (v1 v2 v3 v4 : Int32) (h : Sim X M) : ∃ (r : Int32) (X2 M2 : St), fX6_parcel X v1 v2 v3 v4 = some (r, X2) ∧ fX7_parcel M v1 v2 v3 v4 = some (r, M2) ∧ Sim X2 M2 := by
  obtain ⟨a, ok, x, m⟩ := h
  have t0 := ok.1
  have hx0 : X.1 0 = nI (tD (aT a)) := x.1.1
  have hm1 : M.1 1 = nI (tD (aT a)) := m.1.1
  have bad : ∃ (r : Int32) (X2 M2 : St), fX6_parcel_49 X = some (r, X2) ∧ fX7_parcel_32 M = some (r, M2) ∧ Sim X2 M2 := by
    obtain ⟨X2, M2, e1, e2, s⟩ := sim_bad ok x m
    unfold fX6_parcel_49 fX7_parcel_32
    rw [e1, e2, bq2_s, bq2_s]
    exact ⟨_, _, _, rfl, rfl, s⟩
  unfold fX6_parcel fX7_parcel
  have hlim := two_le t0.2.1
  have ex : ∀ w v, w < 3 → fX3_allows X (nI w) v = some (outc (2 ^ tD (aT a)) v) := fun w v hw => by rw [x_allows t0 hx0 (by omega), if_neg (by omega)]
  have ex3 : ∀ v, fX3_allows X (nI 3) v = some (outc 100 v) := fun v => by rw [x_allows t0 hx0 (by omega), if_pos rfl]
  rw [show (1 : Int32) = nI 1 from rfl, show (2 : Int32) = nI 2 from rfl, show (3 : Int32) = nI 3 from rfl, show fX3_allows X 0 v1 = _ from ex 0 v1 (by omega), ex 1 v2 (by omega), ex 2 v3 (by omega), ex3, m_isCorner t0 hm1, m_isCorner t0 hm1, m_isCorner t0 hm1, m_isRank, bq1_s, bq1_s, bq1_s, bq1_s, bq1_s, bq1_s, bq1_s, bq1_s]
  rcases outc_cases (2 ^ tD (aT a)) (by omega) v1 with ⟨q, -⟩ | ⟨b, hb, rfl, q⟩
  · rw [q, if_pos rfl, if_pos rfl]; exact bad
  rw [q, if_neg ne10, if_neg ne10]
  rcases outc_cases (2 ^ tD (aT a)) (by omega) v2 with ⟨q, -⟩ | ⟨c, hc, rfl, q⟩
  · rw [q, if_pos rfl, if_pos rfl]; exact bad
  rw [q, if_neg ne10, if_neg ne10]
  rcases outc_cases (2 ^ tD (aT a)) (by omega) v3 with ⟨q, -⟩ | ⟨d, hd, rfl, q⟩
  · rw [q, if_pos rfl, if_pos rfl]; exact bad
  rw [q, if_neg ne10, if_neg ne10]
  rcases outc_cases 100 (by omega) v4 with ⟨q, -⟩ | ⟨e, he, rfl, q⟩
  · rw [q, if_pos rfl, if_pos rfl]; exact bad
  rw [q, if_neg ne10, if_neg ne10, gF_e, gF_e, show X.1 3 = _ from x.1.2.2.2.1, show M.1 2 = _ from m.1.2.2.2.1]
  by_cases hn : tN (aT a) < 16
  · rw [if_pos (show nI (tN (aT a)) < (16 : Int32) from nI_lt (b := 16) hn (by omega)), if_neg (show ¬ nI (tN (aT a)) = (16 : Int32) from fun q => by have := (nI_eq (b := 16) (by omega) (by omega)).mp q; omega)]
    obtain ⟨X2, M2, e1, e2, ok2, x2, m2⟩ := sim_keep ok x m
    rw [e1, e2, bq1_s, bq1_s]
    obtain ⟨X3, e3, x3, -⟩ := x_add ok2 x2 hn b c d e
    obtain ⟨M3, e4, m3, -⟩ := m_comes m2 hn b c d e
    rw [e3, e4, bq1_s, bq1_s]
    exact ⟨nI (tN (aT a) + 1) - nI 1, X3, M3, by rw [gF_e, show X3.1 3 = _ from x3.1.2.2.2.1]; rfl, by rw [gF_e, show M3.1 2 = _ from m3.1.2.2.2.1]; rfl, _, ok2.tk (ok2.1.add hn hb hc hd he), x3, m3⟩
  · have h16 : tN (aT a) = 16 := by have := t0.2.2.2.2.1; omega
    rw [h16, if_neg (show ¬ nI 16 < (16 : Int32) by decide), if_pos (show nI 16 = (16 : Int32) from rfl)]
    obtain ⟨X2, M2, e1, e2, s⟩ := sim_full ok x m
    rw [e1, e2, bq2_s, bq2_s]
    exact ⟨_, _, _, rfl, rfl, s⟩
