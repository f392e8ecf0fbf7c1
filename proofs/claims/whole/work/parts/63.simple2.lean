/-! sets, rules, back, told, type, clear, part. -/
theorem nI_c {k c : Nat} (hk : k < 2 ^ 31) (hc : c < 2 ^ 31) (h : k ≠ c) : ¬ nI k = nI c := fun q => h ((nI_eq hk hc).mp q)
theorem m_tells {M : St} {p k : Nat} (hp : p < 16) (hk : k < 4) : fX7_tells M (nI p) (nI k) = some (M.2.1 (2 + k) p) := by
  unfold fX7_tells
  have e0 : ∀ c : Nat, c < 4 → k ≠ c → ¬ nI k = nI c := fun c hc h => nI_c (by omega) (by omega) h
  rw [show (0 : Int32) = nI 0 from rfl, show (1 : Int32) = nI 1 from rfl, show (2 : Int32) = nI 2 from rfl]
  rcases (show k = 0 ∨ k = 1 ∨ k = 2 ∨ k = 3 by omega) with rfl | rfl | rfl | rfl
  · rw [if_pos rfl, chk_n hp (by omega), gR_n (by omega)]
  · rw [if_neg (e0 0 (by omega) (by omega)), if_pos rfl, chk_n hp (by omega), gR_n (by omega)]
  · rw [if_neg (e0 0 (by omega) (by omega)), if_neg (e0 1 (by omega) (by omega)), if_pos rfl, chk_n hp (by omega), gR_n (by omega)]
  · rw [if_neg (e0 0 (by omega) (by omega)), if_neg (e0 1 (by omega) (by omega)), if_neg (e0 2 (by omega) (by omega)), chk_n hp (by omega), gR_n (by omega)]
theorem m_sets45 {M M9 : St} {p k j : Nat} (hp : p < 16) (hk : k < 4) (e : fX7_leavesState M = some M9) : ∃ M2, fX7_sets_45 M (nI p) (nI k) (nI j) = some (M9.2.1 (2 + k) p, M2) ∧ M2.1 = M9.1 ∧ ∀ a b, M2.2.1 a b = if a = 2 + k ∧ b = p then nI j else M9.2.1 a b := by
  unfold fX7_sets_45
  rw [e, bq1_s, m_tells hp hk, bq1_s]
  unfold fX7_sets_76 fX7_sets_97 fX7_sets_118
  have e0 : ∀ c : Nat, c < 4 → k ≠ c → ¬ nI k = nI c := fun c hc h => nI_c (by omega) (by omega) h
  rw [show (0 : Int32) = nI 0 from rfl, show (1 : Int32) = nI 1 from rfl, show (2 : Int32) = nI 2 from rfl, show (3 : Int32) = nI 3 from rfl]
  have fin : ∀ (a b c d : Int32), (∀ i, i < 4 → (if i = 0 then a else if i = 1 then b else if i = 2 then c else d) = if i = k then nI j else M9.2.1 (2 + i) p) → (pN (pN (pN (pN M9 2 p a) 3 p b) 4 p c) 5 p d).1 = M9.1 ∧ ∀ x y, (pN (pN (pN (pN M9 2 p a) 3 p b) 4 p c) 5 p d).2.1 x y = if x = 2 + k ∧ y = p then nI j else M9.2.1 x y := by
    intro a b c d h
    refine ⟨rfl, fun x y => ?_⟩
    simp only [pN_2]
    have h0 : a = _ := h 0 (by omega)
    have h1 : b = _ := h 1 (by omega)
    have h2 : c = _ := h 2 (by omega)
    have h3 : d = _ := h 3 (by omega)
    subst h0; subst h1; subst h2; subst h3
    by_cases hy : y = p
    · subst hy
      by_cases x2 : x = 2
      · subst x2; by_cases hk0 : (0 : Nat) = k <;> simp [hk0]; omega
      · by_cases x3 : x = 3
        · subst x3; by_cases hk0 : (1 : Nat) = k
          · subst hk0; simp
          · simp [hk0]; omega
        · by_cases x4 : x = 4
          · subst x4; by_cases hk0 : (2 : Nat) = k
            · subst hk0; simp
            · simp [hk0]; omega
          · by_cases x5 : x = 5
            · subst x5; by_cases hk0 : (3 : Nat) = k
              · subst hk0; simp
              · simp [hk0]; omega
            · rw [if_neg (by omega), if_neg (by omega), if_neg (by omega), if_neg (by omega), if_neg (by omega)]
    · rw [if_neg (by omega), if_neg (by omega), if_neg (by omega), if_neg (by omega), if_neg (by omega)]
  have ck : ∀ {α : Type} (K : Option α), chk (nI p) 16 K = K := fun K => chk_n hp (by omega)
  have pr : ∀ (S : St) (k : Nat) (v : Int32), pR S k (nI p) v = pN S k p v := fun S k v => pR_n (by omega)
  have gr : ∀ (S : St) (k : Nat), gR S k (nI p) = S.2.1 k p := fun S k => gR_n (by omega)
  have pk : ∀ (S : St) (a i : Nat) (v : Int32) (b y : Nat), b ≠ a → (pN S a i v).2.1 b y = S.2.1 b y := fun S a i v b y h => pN_k _ _ h
  rcases (show k = 0 ∨ k = 1 ∨ k = 2 ∨ k = 3 by omega) with rfl | rfl | rfl | rfl
  · have f1 := eq_false (e0 1 (by omega) (by omega))
    have f2 := eq_false (e0 2 (by omega) (by omega))
    have f3 := eq_false (e0 3 (by omega) (by omega))
    simp only [ck, pr, gr, eq_self, if_true, f1, f2, f3, if_false, pk _ 2 _ _ 4 _ (by omega), pk _ 2 _ _ 5 _ (by omega), pk _ 3 _ _ 5 _ (by omega)]
    exact ⟨_, rfl, fin _ _ _ _ (fun i hi => by rcases (show i = 0 ∨ i = 1 ∨ i = 2 ∨ i = 3 by omega) with rfl | rfl | rfl | rfl <;> simp)⟩
  · have f1 := eq_false (e0 0 (by omega) (by omega))
    have f2 := eq_false (e0 2 (by omega) (by omega))
    have f3 := eq_false (e0 3 (by omega) (by omega))
    simp only [ck, pr, gr, eq_self, if_true, f1, f2, f3, if_false, pk _ 2 _ _ 4 _ (by omega), pk _ 2 _ _ 5 _ (by omega), pk _ 3 _ _ 5 _ (by omega)]
    exact ⟨_, rfl, fin _ _ _ _ (fun i hi => by rcases (show i = 0 ∨ i = 1 ∨ i = 2 ∨ i = 3 by omega) with rfl | rfl | rfl | rfl <;> simp)⟩
  · have f1 := eq_false (e0 0 (by omega) (by omega))
    have f2 := eq_false (e0 1 (by omega) (by omega))
    have f3 := eq_false (e0 3 (by omega) (by omega))
    simp only [ck, pr, gr, eq_self, if_true, f1, f2, f3, if_false, pk _ 2 _ _ 4 _ (by omega), pk _ 2 _ _ 5 _ (by omega), pk _ 3 _ _ 5 _ (by omega)]
    exact ⟨_, rfl, fin _ _ _ _ (fun i hi => by rcases (show i = 0 ∨ i = 1 ∨ i = 2 ∨ i = 3 by omega) with rfl | rfl | rfl | rfl <;> simp)⟩
  · have f1 := eq_false (e0 0 (by omega) (by omega))
    have f2 := eq_false (e0 1 (by omega) (by omega))
    have f3 := eq_false (e0 2 (by omega) (by omega))
    simp only [ck, pr, gr, eq_self, if_true, f1, f2, f3, if_false, pk _ 2 _ _ 4 _ (by omega), pk _ 2 _ _ 5 _ (by omega), pk _ 3 _ _ 5 _ (by omega)]
    exact ⟨_, rfl, fin _ _ _ _ (fun i hi => by rcases (show i = 0 ∨ i = 1 ∨ i = 2 ∨ i = 3 by omega) with rfl | rfl | rfl | rfl <;> simp)⟩
def tSet (t : Tk) (p k j : Nat) : Tk := (tD t, tO t, tR t, tN t, fun p2 k2 => if p2 = p ∧ k2 = k then j else tT t p2 k2)
theorem TkOK.set {t : Tk} (h : TkOK t) {p k j : Nat} (hk : k < 4) (hj : j < if k = 3 then 100 else 2 ^ tD t) : TkOK (tSet t p k j) := by
  obtain ⟨h1, h2, h3, h4, h5, h6, h7⟩ := h
  have := two_le h2
  refine ⟨h1, h2, h3, h4, h5, fun p2 k2 hp2 hk2 => ?_, fun p2 k2 hp2 hk2 => ?_⟩
  · show (if p2 = p ∧ k2 = k then j else tT t p2 k2) < 100
    split
    · split at hj <;> omega
    · exact h6 p2 k2 hp2 hk2
  · show (if p2 = p ∧ k2 = k then j else tT t p2 k2) < 2 ^ tD t
    split
    · rw [if_neg (by omega)] at hj; exact hj
    · exact h7 p2 k2 hp2 hk2
theorem XS.set {a : Da} {X : St} (x : XS a X) {p k : Nat} (hp : p < 16) (hk : k < 4) (j : Nat) : XS (aTk a (tSet (aT a) p k j)) (pN X 0 (4 * p + k) (nI j)) := by
  refine x.tk (fun _ _ _ => rfl) (fun q hq _ => by funext b; rw [pN_k _ _ hq]) ⟨x.1.1, x.1.2.1, x.1.2.2.1, x.1.2.2.2.1, fun p2 k2 hp2 hk2 => ?_⟩
  show _ = nI (if p2 = p ∧ k2 = k then j else tT (aT a) p2 k2)
  by_cases h : p2 = p ∧ k2 = k
  · rw [if_pos h, h.1, h.2, pN_s]
  · rw [if_neg h, pN_i _ _ (by omega)]; exact x.1.2.2.2.2 p2 k2 hp2 hk2
theorem op_sets (X M : St) (v1 v2 v3 : Int32) (h : Sim X M) : ∃ (r : Int32) (X2 M2 : St), fX6_sets X v1 v2 v3 = some (r, X2) ∧ fX7_sets M v1 v2 v3 = some (r, M2) ∧ Sim X2 M2 := by
  obtain ⟨a, ok, x, m⟩ := h
  have t0 := ok.1
  have hx0 : X.1 0 = nI (tD (aT a)) := x.1.1
  have hm1 : M.1 1 = nI (tD (aT a)) := m.1.1
  have bad : ∃ (r : Int32) (X2 M2 : St), fX6_sets_32 X = some (r, X2) ∧ fX7_sets_40 M = some (r, M2) ∧ Sim X2 M2 := by
    obtain ⟨X2, M2, e1, e2, s⟩ := sim_bad ok x m
    unfold fX6_sets_32 fX7_sets_40
    rw [e1, e2, bq2_s, bq2_s]
    exact ⟨_, _, _, rfl, rfl, s⟩
  have hn16 := t0.2.2.2.2.1
  have hlim := two_le t0.2.1
  unfold fX6_sets fX7_sets
  rw [x_has x.1.2.2.2.1, m_isParcel t0 m.1.2.2.2.1, bq1_s, bq1_s]
  rcases outc_cases (tN (aT a)) (by omega) v1 with ⟨q, -⟩ | ⟨p, hp, rfl, q⟩
  · rw [q, if_pos rfl, if_pos rfl]; exact bad
  rw [q, if_neg ne10, if_neg ne10, show (3 : Int32) = nI 4 - 1 from rfl, m_rng (by omega), bq1_s]
  rcases outc_cases 4 (by omega) v2 with ⟨q, hc⟩ | ⟨k, hk, rfl, q⟩
  · rw [q, if_pos rfl]
    rcases hc with hc | hc
    · rw [if_pos hc]; exact bad
    · have h0 : ¬ v2 < 0 := Int32.not_lt.mpr (Int32.le_trans (show (0 : Int32) ≤ nI 4 by decide) hc)
      rw [if_neg h0, if_pos (show (4 : Int32) ≤ v2 from hc)]; exact bad
  rw [q, if_neg ne10, if_neg (nI_pos (by omega)), if_neg (show ¬ (4 : Int32) ≤ nI k from nI_ge (b := 4) hk (by omega)), x_allows t0 hx0 hk, bq1_s]
  have hl : (if k = 3 then 100 else 2 ^ tD (aT a)) < 2 ^ 31 := by split <;> omega
  have key : ∀ j, j < (if k = 3 then 100 else 2 ^ tD (aT a)) → ∃ (r : Int32) (X2 M2 : St), (bq1 (fX0_keep X) fun S8 => bq1 (fX3_trait S8 (nI p) (nI k)) fun r9 => bq1 (fX3_change S8 (nI p) (nI k) (nI j)) fun S10 => some (r9, S10)) = some (r, X2) ∧ fX7_sets_45 M (nI p) (nI k) (nI j) = some (r, M2) ∧ Sim X2 M2 := by
    intro j hj
    obtain ⟨X2, M2, e1, e2, ok2, x2, m2⟩ := sim_keep ok x m
    obtain ⟨M3, e3, m31, m32⟩ := m_sets45 (j := j) (show p < 16 by omega) hk e2
    rw [e1, bq1_s, x_trait (by omega) hk, bq1_s, x_change (by omega) hk, bq1_s, e3]
    refine ⟨nI (tT (aT a) p k), _, M3, by rw [x2.1.2.2.2.2 p k (by omega) hk]; rfl, by rw [m2.1.2.2.2.2 p k (by omega) hk]; rfl, aTk (aKeep a) (tSet (aT a) p k j), ok2.tk (ok2.1.set hk hj), x2.set (by omega) hk j, ?_⟩
    refine m2.tk (fun q _ => by rw [m31]) (fun q hq => by funext b; rw [m32, if_neg (by omega)]) ⟨?_, ?_, ?_, ?_, fun p2 k2 hp2 hk2 => ?_⟩
    · rw [m31]; exact m2.1.1
    · rw [m32, if_neg (by omega)]; exact m2.1.2.1
    · rw [m32, if_neg (by omega)]; exact m2.1.2.2.1
    · rw [m31]; exact m2.1.2.2.2.1
    · show _ = nI (if p2 = p ∧ k2 = k then j else tT (aT a) p2 k2)
      rw [m32]
      by_cases hc : p2 = p ∧ k2 = k
      · rw [if_pos hc, if_pos (by omega)]
      · rw [if_neg hc, if_neg (by omega)]; exact m2.1.2.2.2.2 p2 k2 hp2 hk2
  by_cases h3 : k = 3
  · subst h3
    rw [if_pos (show nI 3 = nI 4 - 1 from rfl), m_isRank, bq1_s]
    rw [if_pos rfl] at key ⊢
    rcases outc_cases 100 (by omega) v3 with ⟨q, -⟩ | ⟨j, hj, rfl, q⟩
    · rw [q, if_pos rfl, if_pos rfl]; exact bad
    · rw [q, if_neg ne10, if_neg ne10]; exact key j hj
  · rw [if_neg (show ¬ nI k = nI 4 - 1 from nI_c (c := 3) (by omega) (by omega) h3), m_isCorner t0 hm1, bq1_s]
    rw [if_neg h3] at key ⊢
    rcases outc_cases (2 ^ tD (aT a)) (by omega) v3 with ⟨q, -⟩ | ⟨j, hj, rfl, q⟩
    · rw [q, if_pos rfl, if_pos rfl]; exact bad
    · rw [q, if_neg ne10, if_neg ne10]; exact key j hj
