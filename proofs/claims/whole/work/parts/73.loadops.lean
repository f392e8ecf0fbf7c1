/-! load, loads, straight -/
theorem cntb_lt {P : Nat → Bool} {n : Nat} (h : ∀ k, k < n → P k = false) : cntb P n = 0 := by
  induction n with
  | zero => rfl
  | succ n ih =>
    show cntb P n + _ = 0
    rw [ih (fun k hk => h k (by omega)), if_neg (by rw [h n (by omega)]; decide)]
theorem cntb_congr {P Q : Nat → Bool} {n : Nat} (h : ∀ k, k < n → P k = Q k) : cntb P n = cntb Q n := by
  induction n with
  | zero => rfl
  | succ n ih =>
    show cntb P n + _ = cntb Q n + _
    rw [ih (fun k hk => h k (by omega)), h n (by omega)]
theorem ct_0 {d z : Nat} {w : Nat × Nat × (Nat → Nat)} (hw : WOK d w z) {e : Nat} (he : isE d e = false) : ct w e = 0 := by
  refine cntb_lt fun k hk => decide_eq_false ?_
  rintro rfl
  obtain ⟨-, h1, h2⟩ := hw.2.2 k hk
  unfold isE at he
  rw [decide_eq_true h2, decide_eq_true h1] at he
  exact absurd he (by decide)
theorem ct_le {d z : Nat} {w : Nat × Nat × (Nat → Nat)} (hw : WOK d w z) (e : Nat) : ct w e ≤ 2 * d := Nat.le_trans (cntb_le _ _) hw.1
theorem sumN_le {g : Nat → Nat} {b : Nat} : ∀ n, (∀ p, p < n → g p ≤ b) → sumN g n ≤ n * b
  | 0, _ => by show 0 ≤ _; omega
  | n + 1, h => by
    have h1 := sumN_le n (fun p hp => h p (by omega))
    have h2 := h n (by omega)
    show sumN g n + g n ≤ (n + 1) * b
    rw [Nat.add_mul, Nat.one_mul]
    omega
theorem sumN_0 {g : Nat → Nat} : ∀ n, (∀ p, p < n → g p = 0) → sumN g n = 0
  | 0, _ => rfl
  | n + 1, h => by
    show sumN g n + g n = 0
    rw [sumN_0 n (fun p hp => h p (by omega)), h n (by omega)]
theorem ldW_ok {t : Tk} (ok : TkOK t) : LOK (tD t) (ldW t) := by
  have hn := ok.2.2.2.2.1
  have hd := ok.2.1
  intro e he
  refine ⟨?_, fun h => sumN_0 _ fun p hp => ct_0 (wyP_ok ok hp) h⟩
  have h1 : ldW t e ≤ tN t * 8 := sumN_le _ fun p hp => by have := ct_le (wyP_ok ok hp) e; omega
  omega
/-- what 'loads' tells of a tally -/
def ldV (d : Nat) (ld : Nat → Nat) (k : Nat) : Int32 := if k = 0 then nI (mx ld) else if k = 1 then nI (cntb (fun e => isE d e && decide (mx ld ≤ ld e)) 64) else if k = 2 then nI (cntb (fun e => isE d e && decide (1 ≤ ld e)) 64) else if mx ld = 0 then -1 else nI (fg ld / 4 * 10 + fg ld % 4)
theorem name_x {X : St} {e : Nat} (he : e < 64) : fX6_nameOf X (nI e) = some (nI (e / 4 * 10 + e % 4)) := by
  unfold fX6_nameOf
  rw [show nI e - nI e / (4 : Int32) * (4 : Int32) = nI (e % 4) from pk_rem (d := 4) (by omega) (by omega) (by omega), show nI e / (4 : Int32) = nI (e / 4) from pk_div (d := 4) (by omega) (by omega) (by omega), show nI (e / 4) * (10 : Int32) = nI (e / 4 * 10) from pk_mul _ 10, nI_add]
theorem nI_m1 {e : Nat} (h : e < 2 ^ 31) : ¬ nI e = (-1 : Int32) := by
  intro q
  have h1 := congrArg Int32.toInt q
  rw [nI_toInt h] at h1
  have h2 : (-1 : Int32).toInt = -1 := by decide
  rw [h2] at h1
  omega
theorem name_m {M : St} {e : Nat} (he : e < 64) : fX7_tenTimes M (nI e) = some (nI (e / 4 * 10 + e % 4)) := by
  unfold fX7_tenTimes
  rw [if_neg (nI_m1 (show e < 2 ^ 31 by omega)), show nI e - nI e / (4 : Int32) * (4 : Int32) = nI (e % 4) from pk_rem (d := 4) (by omega) (by omega) (by omega), show nI e / (4 : Int32) = nI (e / 4) from pk_div (d := 4) (by omega) (by omega) (by omega), show (10 : Int32) * nI (e / 4) = nI (10 * (e / 4)) from pk_mul 10 _, nI_add, Nat.mul_comm]
theorem x_loadsFact {X : St} {t : Tk} (ok : TkOK t) (h0 : X.1 0 = nI (tD t)) {ld : Nat → Nat} (lo : LOK (tD t) ld) (xl : XL X ld) {k : Nat} (hk : k < 4) : fX6_loadsFact X (nI k) = some (ldV (tD t) ld k) := by
  have hf := fg_lt ld
  have hm := mx_le lo
  unfold fX6_loadsFact ldV
  rw [x_firstGreatest lo xl, bq1_s, chk_n hf (by omega), gR_n (by omega), xl _ hf, fg_mx ld, x_countAtLeast ok h0 lo xl hm, bq1_s, show fX1_countAtLeast X 1 = _ from x_countAtLeast ok h0 lo xl (am := 1) (by omega), bq1_s, name_x hf, bq1_s]
  rcases (show k = 0 ∨ k = 1 ∨ k = 2 ∨ k = 3 by omega) with rfl | rfl | rfl | rfl
  · rfl
  · rfl
  · rfl
  · show (if nI (mx ld) = (0 : Int32) then some (-1) else some _) = some (if mx ld = 0 then -1 else _)
    by_cases h : mx ld = 0
    · rw [if_pos h, if_pos (by rw [h]; rfl)]
    · rw [if_neg h, if_neg (show ¬ nI (mx ld) = (0 : Int32) from nI_c (c := 0) (by omega) (by omega) h)]
theorem m_tell {M : St} {t : Tk} (ok : TkOK t) (h1 : M.1 1 = nI (tD t)) {ld : Nat → Nat} (lo : LOK (tD t) ld) (ml : ML M ld) : ∃ y, lp (fun q => bX7_loadsTell_17 M (nI (mx ld)) q.1 q.2.1 q.2.2) fu ((0 : Int32), (0 : Int32), (0 : Int32)) = some (nI (cntb (fun e => isE (tD t) e && decide (mx ld ≤ ld e)) 64), nI (cntb (fun e => isE (tD t) e && decide (1 ≤ ld e)) 64), y) := by
  have hm := mx_le lo
  obtain ⟨⟨u, v, y⟩, e, i1, i2, i3⟩ := lp_fu (f := fun q => bX7_loadsTell_17 M (nI (mx ld)) q.1 q.2.1 q.2.2) (fun k s => s.1 = nI (cntb (fun e => isE (tD t) e && decide (mx ld ≤ ld e)) k) ∧ s.2.1 = nI (cntb (fun e => isE (tD t) e && decide (1 ≤ ld e)) k) ∧ s.2.2 = nI k) 64 (by omega) ((0 : Int32), (0 : Int32), (0 : Int32)) ⟨rfl, rfl, rfl⟩
    (by
      rintro k ⟨u, v, y⟩ hk ⟨i1, i2, i3⟩
      dsimp only at i1 i2 i3 ⊢
      subst i1; subst i2; subst i3
      obtain ⟨b1, b2⟩ := lo k hk
      have b3 := mx_ge ld hk
      show ∃ s2 : Int32 × Int32 × Int32, _ = some (true, s2) ∧ s2.1 = nI (cntb (fun e => isE (tD t) e && decide (mx ld ≤ ld e)) k + if (isE (tD t) k && decide (mx ld ≤ ld k)) = true then 1 else 0) ∧ s2.2.1 = nI (cntb (fun e => isE (tD t) e && decide (1 ≤ ld e)) k + if (isE (tD t) k && decide (1 ≤ ld k)) = true then 1 else 0) ∧ s2.2.2 = nI (k + 1)
      generalize cntb (fun e => isE (tD t) e && decide (mx ld ≤ ld e)) k = c1
      generalize cntb (fun e => isE (tD t) e && decide (1 ≤ ld e)) k = c2
      have h56 : ∀ s : Nat, fX7_loadsTell_56 M (nI c2) (nI k) (nI s) (nI c1) = some (true, nI (c1 + s), nI (c2 + if (isE (tD t) k && decide (1 ≤ ld k)) = true then 1 else 0), nI (k + 1)) := by
        intro s
        unfold fX7_loadsTell_56
        rw [chk_n hk (by omega), gR_n (by omega), ml k hk, nI_add, nI_1]
        by_cases h : ld k = 0
        · rw [if_pos (by rw [h]; decide), if_neg (by simp [h])]
          rw [show nI c2 + (0 : Int32) = nI c2 from Int32.add_zero _]
          rfl
        · have hE : isE (tD t) k = true := by
            cases q : isE (tD t) k with
            | true => rfl
            | false => exact absurd (b2 q) h
          rw [if_neg (nI_nle (by omega) (by omega)), if_pos (by simp [hE]; omega), nI_1]
      unfold bX7_loadsTell_17
      rw [if_neg (show ¬ (64 : Int32) ≤ nI k from nI_ge (b := 64) hk (by omega)), m_isE ok h1 hk, bq1_s]
      unfold fX7_loadsTell_55
      cases hE : isE (tD t) k with
      | false =>
        rw [if_pos (show bI false = (0 : Int32) from rfl), show fX7_loadsTell_56 M (nI c2) (nI k) 0 (nI c1) = _ from h56 0, hE]
        exact ⟨_, rfl, rfl, rfl, rfl⟩
      | true =>
        rw [if_neg (show ¬ bI true = (0 : Int32) by decide), chk_n hk (by omega), gR_n (by omega), ml k hk]
        by_cases h : ld k = mx ld
        · rw [if_pos (by rw [h]), show fX7_loadsTell_56 M (nI c2) (nI k) 1 (nI c1) = _ from h56 1, hE]
          refine ⟨_, rfl, ?_, rfl, rfl⟩
          simp [h]
        · rw [if_neg (nI_c (by omega) (by omega) h), show fX7_loadsTell_56 M (nI c2) (nI k) 0 (nI c1) = _ from h56 0, hE]
          refine ⟨_, rfl, ?_, rfl, rfl⟩
          have : ¬ mx ld ≤ ld k := by omega
          simp [this])
    (by
      rintro ⟨u, v, y⟩ ⟨i1, i2, i3⟩
      dsimp only at i3 ⊢
      subst i3
      unfold bX7_loadsTell_17
      exact if_pos (Int32.le_refl _))
  dsimp only at i1 i2
  exact ⟨y, by rw [e, i1, i2]⟩
theorem m_loadsTell {M : St} {t : Tk} (ok : TkOK t) (m : MT M t) {k : Nat} (hk : k < 4) : ∃ M2, fX7_loadsTell M (nI k) = some (ldV (tD t) (ldW t) k, M2) ∧ MU M M2 := by
  have lo := ldW_ok ok
  have hm := mx_le lo
  unfold fX7_loadsTell ldV
  obtain ⟨Y, e, y1, y2⟩ := m_setLoads ok m
  have h1 : Y.1 1 = nI (tD t) := by rw [y1.1]; exact m.1
  obtain ⟨z, e2⟩ := m_tell ok h1 lo y2
  rw [e, bq1_s, m_most lo y2, bq1_s, e2, bq3_s, m_firstOf ok h1 lo y2, bq1_s, name_m (fg_lt _), bq1_s]
  rcases (show k = 0 ∨ k = 1 ∨ k = 2 ∨ k = 3 by omega) with rfl | rfl | rfl | rfl
  · exact ⟨Y, rfl, y1⟩
  · exact ⟨Y, rfl, y1⟩
  · exact ⟨Y, rfl, y1⟩
  · refine ⟨Y, ?_, y1⟩
    show (if nI (mx (ldW t)) = (0 : Int32) then some ((-1 : Int32), Y) else some (_, Y)) = some ((if mx (ldW t) = 0 then -1 else _), Y)
    by_cases h : mx (ldW t) = 0
    · rw [if_pos h, if_pos (by rw [h]; rfl)]
    · rw [if_neg h, if_neg (show ¬ nI (mx (ldW t)) = (0 : Int32) from nI_c (c := 0) (by omega) (by omega) h)]
theorem op_loads (X M : St) (v1 : Int32) (h : Sim X M) : ∃ (r : Int32) (X2 M2 : St), fX6_loads X v1 = some (r, X2) ∧ fX7_loads M v1 = some (r, M2) ∧ Sim X2 M2 := by
  obtain ⟨a, ok, x, m⟩ := h
  have t0 := ok.1
  unfold fX6_loads fX7_loads fX6_loads_9
  rw [show fX7_in M v1 0 3 = some (outc 4 v1) from m_rng (n := 4) (by omega), bq1_s]
  rcases outc_cases 4 (by omega) v1 with ⟨q, hc⟩ | ⟨k, hk, rfl, q⟩
  · rw [q, if_pos rfl]
    obtain ⟨X2, M2, e1, e2, s⟩ := sim_bad ok x m
    rw [e1, e2, bq2_s, bq2_s]
    rcases hc with hc | hc
    · rw [if_pos hc]; exact ⟨_, _, _, rfl, rfl, s⟩
    · have h0 : ¬ v1 < 0 := Int32.not_lt.mpr (Int32.le_trans (show (0 : Int32) ≤ nI 4 by decide) hc)
      rw [if_neg h0, if_neg (show ¬ v1 ≤ (3 : Int32) from fun z => absurd (Int32.le_trans hc z) (by decide))]; exact ⟨_, _, _, rfl, rfl, s⟩
  · rw [q, if_neg ne10, if_neg (nI_pos (by omega)), if_pos (show nI k ≤ (3 : Int32) from nI_le (b := 3) (by omega) (by omega))]
    obtain ⟨Y, e1, y1, -, y2⟩ := x_tallyWays t0 x.1
    obtain ⟨N, e2, n1⟩ := m_loadsTell t0 m.1 hk
    rw [e1, bq1_s, x_loadsFact t0 (by rw [y1.1]; exact x.1.1) (ldW_ok t0) y2 hk, bq1_s, e2, bq2_s]
    exact ⟨_, Y, N, rfl, rfl, a, ok, x.of y1.C, m.of n1.C⟩
theorem x_hasEdge {X : St} {t : Tk} (ok : TkOK t) (h : X.1 0 = nI (tD t)) (u v : Int32) : fX3_hasEdge X u v = some (if outc (2 ^ tD t) u = 0 then 0 else outc (tD t) v) := by
  unfold fX3_hasEdge
  rw [x_corners ok h, bq1_s, gF_e, h]
  unfold outc
  by_cases h1 : u < 0
  · rw [if_pos h1, if_pos (Or.inl h1), if_pos rfl]
  · rw [if_neg h1]
    by_cases h2 : nI (2 ^ tD t) ≤ u
    · rw [if_pos h2, if_pos (Or.inr h2), if_pos rfl]
    · rw [if_neg h2, if_neg (show ¬ (u < 0 ∨ nI (2 ^ tD t) ≤ u) from fun q => q.elim h1 h2), if_neg ne10]
      by_cases h3 : v < 0
      · rw [if_pos h3, if_pos (Or.inl h3)]
      · rw [if_neg h3]
        by_cases h4 : nI (tD t) ≤ v
        · rw [if_pos h4, if_pos (Or.inr h4)]
        · rw [if_neg h4, if_neg (show ¬ (v < 0 ∨ nI (tD t) ≤ v) from fun q => q.elim h3 h4)]
/-- an edge, or none -/
theorem edge_cases {t : Tk} (ok : TkOK t) (u v : Int32) : (if outc (2 ^ tD t) u = 0 then (0 : Int32) else outc (tD t) v) = 0 ∨ ∃ c s, c < 2 ^ tD t ∧ s < tD t ∧ u = nI c ∧ v = nI s ∧ (if outc (2 ^ tD t) u = 0 then (0 : Int32) else outc (tD t) v) = 1 := by
  have hd := ok.2.1
  have h16 := two_le hd
  rcases outc_cases (2 ^ tD t) (by omega) u with ⟨q, -⟩ | ⟨c, hc, rfl, q⟩
  · rw [q, if_pos rfl]; exact Or.inl rfl
  · rw [q, if_neg ne10]
    rcases outc_cases (tD t) (by omega) v with ⟨q, -⟩ | ⟨s, hs, rfl, q⟩
    · exact Or.inl q
    · exact Or.inr ⟨c, s, hc, hs, rfl, rfl, q⟩
theorem op_load (X M : St) (v1 v2 : Int32) (h : Sim X M) : ∃ (r : Int32) (X2 M2 : St), fX6_load X v1 v2 = some (r, X2) ∧ fX7_load M v1 v2 = some (r, M2) ∧ Sim X2 M2 := by
  obtain ⟨a, ok, x, m⟩ := h
  have t0 := ok.1
  have hd := t0.2.1
  have h16 := two_le hd
  unfold fX6_load fX7_load
  rw [x_hasEdge t0 x.1.1, m_isEdge t0 m.1.1, bq1_s, bq1_s]
  rcases edge_cases t0 v1 v2 with q | ⟨c, s, hc, hs, rfl, rfl, q⟩
  · rw [q, if_pos rfl, if_pos rfl]
    obtain ⟨X2, M2, e1, e2, s⟩ := sim_bad ok x m
    rw [e1, e2, bq2_s, bq2_s]
    exact ⟨_, _, _, rfl, rfl, s⟩
  · rw [q, if_neg ne10, if_neg ne10]
    obtain ⟨Y, e1, y1, -, y2⟩ := x_tallyWays t0 x.1
    obtain ⟨N, e2, n1, n2⟩ := m_setLoads t0 m.1
    rw [e1, e2, bq1_s, bq1_s, show nI c * (4 : Int32) = nI (c * 4) from pk_mul c 4, show (4 : Int32) * nI c = nI (4 * c) from pk_mul 4 c, nI_add, nI_add, show c * 4 + s = 4 * c + s by omega, chk_n (by omega) (by omega), chk_n (by omega) (by omega), gR_n (by omega), gR_n (by omega), y2 _ (by omega), n2 _ (by omega)]
    exact ⟨_, Y, N, rfl, rfl, a, ok, x.of y1.C, m.of n1.C⟩
/-! straight -/
def ldS (t : Tk) (e : Nat) : Nat := sumN (fun p => ct (wy (tD t) (tO t) (tT t p 0) (tT t p 0) (tT t p 1)) e) (tN t)
theorem op_straight (X M : St) (h : Sim X M) : ∃ (r : Int32) (X2 M2 : St), fX6_straight X = some (r, X2) ∧ fX7_straight M = some (r, M2) ∧ Sim X2 M2 := by
  obtain ⟨a, ok, x, m⟩ := h
  have t0 := ok.1
  generalize ht : aT a = t at *
  have hn := t0.2.2.2.2.1
  have hd := t0.2.1
  have xt : XT X 0 t := by rw [← ht]; exact x.1
  have mt : MT M t := by rw [← ht]; exact m.1
  have wok : ∀ p, p < tN t → WOK (tD t) (wy (tD t) (tO t) (tT t p 0) (tT t p 0) (tT t p 1)) (tT t p 1) := fun p hp => wy_ok hd t0.2.2.1 (t0.2.2.2.2.2.2 p 0 hp (by omega)) (t0.2.2.2.2.2.2 p 0 hp (by omega)) (t0.2.2.2.2.2.2 p 1 hp (by omega))
  have lo : LOK (tD t) (ldS t) := by
    intro e he
    refine ⟨?_, fun h => sumN_0 _ fun p hp => ct_0 (wok p hp) h⟩
    have h1 : ldS t e ≤ tN t * 8 := sumN_le _ fun p hp => by have := ct_le (wok p hp) e; omega
    omega
  unfold fX6_straight fX7_straight
  obtain ⟨A, e1, a1, a2⟩ := x_empty X
  obtain ⟨B, e2, b1, b2⟩ := m_noLoads M
  rw [e1, e2, bq1_s, bq1_s]
  obtain ⟨⟨Y, y⟩, e3, i1, i2, i3⟩ := lp_fu (f := fun q => bX6_straight_9 q.1 q.2) (fun p s => XU X s.1 ∧ s.2 = nI p ∧ XL s.1 (fun e => sumN (fun p => ct (wy (tD t) (tO t) (tT t p 0) (tT t p 0) (tT t p 1)) e) p)) (tN t) (by omega) (A, (0 : Int32)) ⟨a1.U, rfl, fun e he => a2 e he⟩
    (by
      rintro p ⟨S, y⟩ hp ⟨i1, i2, i3⟩
      dsimp only at i1 i2 i3 ⊢
      subst i2
      have xs := xt.U i1
      unfold bX6_straight_9
      rw [show gF S 3 = nI (tN t) from xs.2.2.2.1, if_neg (nI_ge hp (by omega)), show fX3_trait S (nI p) 0 = _ from x_trait (k := 0) (by omega) (by omega), bq1_s, xs.2.2.2.2 p 0 (by omega) (by omega)]
      obtain ⟨Z, e4, z1, z2⟩ := x_trace t0 xs hp (t0.2.2.2.2.2.2 p 0 hp (by omega))
      have zl : XL Z (fun e => sumN (fun p => ct (wy (tD t) (tO t) (tT t p 0) (tT t p 0) (tT t p 1)) e) p) := fun e he => by rw [z1.2.1 11 (by omega) (by omega) (by omega)]; exact i3 e he
      obtain ⟨V, e5, v1, v2⟩ := x_addN hd (show p < 16 by omega) (wok p hp) z2 zl 1
      rw [e4, bq1_s, show fX1_add Z (nI p) 1 = _ from e5, bq1_s, nI_1]
      refine ⟨_, rfl, i1.tr (z1.R.U.tr v1.U), rfl, fun e he => ?_⟩
      rw [v2 e he]
      dsimp only
      rw [Nat.one_mul]
      rfl)
    (by
      rintro ⟨S, y⟩ ⟨i1, i2, i3⟩
      dsimp only at i1 i2 ⊢
      subst i2
      unfold bX6_straight_9
      rw [show gF S 3 = nI (tN t) from (xt.U i1).2.2.2.1]
      exact if_pos (Int32.le_refl _))
  obtain ⟨⟨N, y2⟩, e4, j1, j2, j3⟩ := lp_fu (f := fun q => bX7_straight_6 q.1 q.2) (fun p s => MU M s.1 ∧ s.2 = nI p ∧ ML s.1 (fun e => sumN (fun p => ct (wy (tD t) (tO t) (tT t p 0) (tT t p 0) (tT t p 1)) e) p)) (tN t) (by omega) (B, (0 : Int32)) ⟨b1.U, rfl, fun e he => b2 e he⟩
    (by
      rintro p ⟨S, y⟩ hp ⟨i1, i2, i3⟩
      dsimp only at i1 i2 i3 ⊢
      subst i2
      have xs := mt.U i1
      unfold bX7_straight_6
      rw [show gF S 2 = nI (tN t) from xs.2.2.2.1, if_neg (nI_ge hp (by omega)), chk_n (show p < 16 by omega) (by omega), gR_n (by omega), show S.2.1 2 p = nI (tT t p 0) from xs.2.2.2.2 p 0 (by omega) (by omega)]
      obtain ⟨Z, e4, z1, z2⟩ := m_setWay t0 xs hp (t0.2.2.2.2.2.2 p 0 hp (by omega))
      have zl : ML Z (fun e => sumN (fun p => ct (wy (tD t) (tO t) (tT t p 0) (tT t p 0) (tT t p 1)) e) p) := fun e he => by rw [z1.2.1 10 (by omega) (by omega) (by omega)]; exact i3 e he
      obtain ⟨V, e5, v1, v2⟩ := m_addN hd (show p < 16 by omega) (wok p hp) (t0.2.2.2.2.2.2 p 1 hp (by omega)) z2 zl 1
      rw [e4, bq1_s, show fX7_loadsBy Z (nI p) 1 = _ from e5, bq1_s, nI_1]
      refine ⟨_, rfl, i1.tr (z1.R.U.tr v1.U), rfl, fun e he => ?_⟩
      rw [v2 e he]
      dsimp only
      rw [Nat.one_mul]
      rfl)
    (by
      rintro ⟨S, y⟩ ⟨i1, i2, i3⟩
      dsimp only at i1 i2 ⊢
      subst i2
      unfold bX7_straight_6
      rw [show gF S 2 = nI (tN t) from (mt.U i1).2.2.2.1]
      exact if_pos (Int32.le_refl _))
  dsimp only at i1 i3 j1 j3
  rw [e3, e4, bq2_s, bq2_s, show fX6_loadsFact Y 0 = _ from x_loadsFact (k := 0) t0 (by rw [i1.1]; exact xt.1) lo i3 (by omega), bq1_s, m_most lo j3, bq1_s]
  exact ⟨_, Y, N, rfl, rfl, a, ok, x.of i1.C, m.of j1.C⟩
