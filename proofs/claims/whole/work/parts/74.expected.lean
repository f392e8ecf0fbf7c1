/-! Expected loads; the fraction. -/
def wyB (t : Tk) (p b : Nat) : Nat × Nat × (Nat → Nat) := wy (tD t) (tO t) (tT t p 0) b (tT t p 1)
theorem wyB_ok {t : Tk} (ok : TkOK t) {p b : Nat} (hp : p < tN t) (hb : b < 2 ^ tD t) : WOK (tD t) (wyB t p b) (tT t p 1) := wy_ok ok.2.1 ok.2.2.1 (ok.2.2.2.2.2.2 p 0 hp (by omega)) hb (ok.2.2.2.2.2.2 p 1 hp (by omega))
def dr (t : Tk) (p e : Nat) : Nat := sumN (fun b => ct (wyB t p b) e) (2 ^ tD t)
def ldE (t : Tk) (f e : Nat) : Nat := sumN (fun p => if p < f then 2 ^ tD t * ct (wyP t p) e else dr t p e) (tN t)
theorem dr_le {t : Tk} (ok : TkOK t) {p : Nat} (hp : p < tN t) (e : Nat) : dr t p e ≤ 128 := by
  have h16 := two_le ok.2.1
  have hd := ok.2.1
  have : dr t p e ≤ 2 ^ tD t * 8 := sumN_le _ fun b hb => by have := ct_le (wyB_ok ok hp hb) e; omega
  omega
theorem ldE_ok {t : Tk} (ok : TkOK t) (f : Nat) : LOK (tD t) (ldE t f) := by
  have hn := ok.2.2.2.2.1
  have hd := ok.2.1
  have h16 := two_le hd
  intro e he
  refine ⟨?_, fun h => sumN_0 _ fun p hp => ?_⟩
  · have h1 : ldE t f e ≤ tN t * 128 := sumN_le _ fun p hp => by
      split
      · have h2 := ct_le (wyP_ok ok hp) e
        have : 2 ^ tD t * ct (wyP t p) e ≤ 16 * 8 := Nat.mul_le_mul h16 (by omega)
        omega
      · exact dr_le ok hp e
    omega
  · split
    · rw [ct_0 (wyP_ok ok hp) h, Nat.mul_zero]
    · exact sumN_0 _ fun b hb => ct_0 (wyB_ok ok hp hb) h
theorem x_addDrawn {X : St} {t : Tk} (ok : TkOK t) (x : XT X 0 t) {p : Nat} (hp : p < tN t) (wt : Int32) : ∃ Y, fX6_addDrawn X (nI p) wt = some Y ∧ XU X Y ∧ ∀ e, e < 64 → Y.2.1 11 e = X.2.1 11 e + wt * nI (dr t p e) := by
  have hn := ok.2.2.2.2.1
  have hd := ok.2.1
  have h16 := two_le hd
  unfold fX6_addDrawn
  rw [x_corners ok x.1, bq1_s]
  obtain ⟨⟨Y, y⟩, e, i1, i2, i3⟩ := lp_fu (f := fun q => bX6_addDrawn_11 (nI p) wt (nI (2 ^ tD t)) q.1 q.2) (fun b s => XU X s.1 ∧ s.2 = nI b ∧ ∀ e, e < 64 → s.1.2.1 11 e = X.2.1 11 e + wt * nI (sumN (fun b => ct (wyB t p b) e) b)) (2 ^ tD t) (by omega) (X, (0 : Int32)) ⟨XU.rf X, rfl, fun e he => by show X.2.1 11 e = X.2.1 11 e + wt * 0; rw [Int32.mul_zero, Int32.add_zero]⟩
    (by
      rintro b ⟨S, y⟩ hb ⟨i1, i2, i3⟩
      dsimp only at i1 i2 i3 ⊢
      subst i2
      unfold bX6_addDrawn_11
      rw [if_neg (nI_ge hb (by omega))]
      obtain ⟨Z, e4, z1, z2⟩ := x_trace ok (x.U i1) hp hb
      obtain ⟨V, e5, v1, v2⟩ := x_add1 hd (show p < 16 by omega) (wyB_ok ok hp hb) z2 wt
      rw [e4, bq1_s, e5, bq1_s, nI_1]
      refine ⟨_, rfl, i1.tr (z1.R.U.tr v1.U), rfl, fun e he => ?_⟩
      dsimp only
      rw [v2 e he, z1.2.1 11 (by omega) (by omega) (by omega), i3 e he]
      show _ = _ + wt * nI (sumN (fun b => ct (wyB t p b) e) b + ct (wyB t p b) e)
      rw [← nI_add]
      grind)
    (by
      rintro ⟨S, y⟩ ⟨i1, i2, i3⟩
      dsimp only at i2 ⊢
      subst i2
      unfold bX6_addDrawn_11
      exact if_pos (Int32.le_refl _))
  rw [e, bq2_s]
  exact ⟨Y, rfl, i1, i3⟩
theorem x_tallyMean {X : St} {t : Tk} (ok : TkOK t) (x : XT X 0 t) {f : Nat} (hf : f < 100) : ∃ Y, fX6_tallyMean X (nI f) = some Y ∧ XU X Y ∧ XL Y (ldE t f) := by
  have hn := ok.2.2.2.2.1
  have hd := ok.2.1
  have h16 := two_le hd
  unfold fX6_tallyMean
  obtain ⟨B, e2, b1, b2⟩ := x_empty X
  rw [e2, bq1_s]
  obtain ⟨⟨Y, y⟩, e, i1, i2, i3⟩ := lp_fu (f := fun q => bX6_tallyMean_9 (nI f) q.1 q.2) (fun p s => XU X s.1 ∧ s.2 = nI p ∧ XL s.1 (fun e => sumN (fun p => if p < f then 2 ^ tD t * ct (wyP t p) e else dr t p e) p)) (tN t) (by omega) (B, (0 : Int32)) ⟨b1.U, rfl, fun e he => b2 e he⟩
    (by
      rintro p ⟨S, y⟩ hp ⟨i1, i2, i3⟩
      dsimp only at i1 i2 i3 ⊢
      subst i2
      have xs := x.U i1
      unfold bX6_tallyMean_9
      rw [show gF S 3 = nI (tN t) from xs.2.2.2.1, if_neg (nI_ge hp (by omega)), nI_1]
      by_cases hpf : p < f
      · rw [if_neg (nI_ge hpf (by omega)), show (2 : Int32) = nI 2 from rfl, x_trait (by omega) (by omega), bq1_s, xs.2.2.2.2 p 2 (by omega) (by omega)]
        obtain ⟨Z, e4, z1, z2⟩ := x_trace ok xs hp (ok.2.2.2.2.2.2 p 2 hp (by omega))
        have zl : XL Z (fun e => sumN (fun p => if p < f then 2 ^ tD t * ct (wyP t p) e else dr t p e) p) := fun e he => by rw [z1.2.1 11 (by omega) (by omega) (by omega)]; exact i3 e he
        obtain ⟨V, e5, v1, v2⟩ := x_addN hd (show p < 16 by omega) (wyP_ok ok hp) z2 zl (2 ^ tD t)
        rw [e4, bq1_s, x_corners ok (xs.R z1.R).1, bq1_s, e5, bq1_s]
        refine ⟨_, rfl, i1.tr (z1.R.U.tr v1.U), rfl, fun e he => ?_⟩
        rw [v2 e he]
        show nI (sumN _ p + _) = nI (sumN _ p + if p < f then _ else _)
        rw [if_pos hpf]
      · rw [if_pos (nI_le (by omega) (by omega))]
        obtain ⟨V, e5, v1, v2⟩ := x_addDrawn ok xs hp 1
        rw [e5, bq1_s]
        refine ⟨_, rfl, i1.tr v1, rfl, fun e he => ?_⟩
        dsimp only
        rw [v2 e he, i3 e he, Int32.one_mul, nI_add]
        show _ = nI (sumN _ p + if p < f then _ else _)
        rw [if_neg hpf])
    (by
      rintro ⟨S, y⟩ ⟨i1, i2, i3⟩
      dsimp only at i1 i2 ⊢
      subst i2
      unfold bX6_tallyMean_9
      rw [show gF S 3 = nI (tN t) from (x.U i1).2.2.2.1]
      exact if_pos (Int32.le_refl _))
  rw [e, bq2_s]
  exact ⟨Y, rfl, i1, i3⟩
theorem m_addsDrawn {M : St} {t : Tk} (ok : TkOK t) (x : MT M t) (hw : ∀ q, q < tN t → MWay M q (wyP t q) (tT t q 1)) {p : Nat} (hp : p < tN t) {ld : Nat → Nat} (ml : ML M ld) : ∃ Y, fX7_addsDrawn M (nI p) = some Y ∧ MU M Y ∧ (∀ q, q < tN t → MWay Y q (wyP t q) (tT t q 1)) ∧ ML Y (fun e => ld e + dr t p e) := by
  have hn := ok.2.2.2.2.1
  have hd := ok.2.1
  have h16 := two_le hd
  have hz := ok.2.2.2.2.2.2 p 1 hp (by omega)
  unfold fX7_addsDrawn
  obtain ⟨⟨Y, y⟩, e, i1, i2, i3, i4⟩ := lp_fu (f := fun q => bX7_addsDrawn_2 (nI p) q.1 q.2) (fun b s => MU M s.1 ∧ s.2 = nI b ∧ ML s.1 (fun e => ld e + sumN (fun b => ct (wyB t p b) e) b) ∧ ∀ q, q < tN t → q ≠ p → MWay s.1 q (wyP t q) (tT t q 1)) (2 ^ tD t) (by omega) (M, (0 : Int32)) ⟨MU.rf M, rfl, fun e he => ml e he, fun q hq _ => hw q hq⟩
    (by
      rintro b ⟨S, y⟩ hb ⟨i1, i2, i3, i4⟩
      dsimp only at i1 i2 i3 i4 ⊢
      subst i2
      unfold bX7_addsDrawn_2
      rw [m_corners ok (x.U i1).1, bq1_s, if_neg (nI_ge hb (by omega))]
      obtain ⟨Z, e4, z1, z2⟩ := m_setWay ok (x.U i1) hp hb
      have zl : ML Z (fun e => ld e + sumN (fun b => ct (wyB t p b) e) b) := fun e he => by rw [z1.2.1 10 (by omega) (by omega) (by omega)]; exact i3 e he
      obtain ⟨V, e5, v1, v2⟩ := m_addN hd (show p < 16 by omega) (wyB_ok ok hp hb) hz z2 zl 1
      rw [e4, bq1_s, show fX7_loadsBy Z (nI p) 1 = _ from e5, bq1_s, nI_1]
      refine ⟨_, rfl, i1.tr (z1.R.U.tr v1.U), rfl, fun e he => ?_, fun q hq hqp => ?_⟩
      · rw [v2 e he]
        dsimp only
        rw [Nat.one_mul, Nat.add_assoc]
        rfl
      · have := (wyP_ok ok hq).1
        exact ((i4 q hq hqp).else z1 hqp (by omega)).A v1)
    (by
      rintro ⟨S, y⟩ ⟨i1, i2, i3, i4⟩
      dsimp only at i1 i2 ⊢
      subst i2
      unfold bX7_addsDrawn_2
      rw [m_corners ok (x.U i1).1, bq1_s]
      exact if_pos (Int32.le_refl _))
  dsimp only at i1 i3 i4
  rw [e, bq2_s, chk_n (show p < 16 by omega) (by omega), gR_n (by omega), show Y.2.1 4 p = nI (tT t p 2) from (x.U i1).2.2.2.2 p 2 (by omega) (by omega)]
  obtain ⟨Z, e4, z1, z2⟩ := m_setWay ok (x.U i1) hp (ok.2.2.2.2.2.2 p 2 hp (by omega))
  rw [e4, bq1_s]
  refine ⟨Z, rfl, i1.tr z1.R.U, fun q hq => ?_, fun e he => ?_⟩
  · by_cases hqp : q = p
    · subst hqp; exact z2
    · have := (wyP_ok ok hq).1
      exact (i4 q hq hqp).else z1 hqp (by omega)
  · rw [z1.2.1 10 (by omega) (by omega) (by omega)]; exact i3 e he
theorem m_setExpected {M : St} {t : Tk} (ok : TkOK t) (x : MT M t) {f : Nat} (hf : f < 100) : ∃ Y, fX7_setExpected M (nI f) = some Y ∧ MU M Y ∧ ML Y (ldE t f) := by
  have hn := ok.2.2.2.2.1
  have hd := ok.2.1
  have h16 := two_le hd
  unfold fX7_setExpected
  obtain ⟨A, e1, a1, a2⟩ := m_setWays ok x
  obtain ⟨B, e2, b1, b2⟩ := m_noLoads A
  rw [e1, bq1_s, e2, bq1_s]
  have xB : MU M B := a1.U.tr b1.U
  obtain ⟨⟨Y, y⟩, e, i1, i2, i3, i4⟩ := lp_fu (f := fun q => bX7_setExpected_10 (nI f) q.1 q.2) (fun p s => MU M s.1 ∧ s.2 = nI p ∧ ML s.1 (fun e => sumN (fun p => if p < f then 2 ^ tD t * ct (wyP t p) e else dr t p e) p) ∧ ∀ q, q < tN t → MWay s.1 q (wyP t q) (tT t q 1)) (tN t) (by omega) (B, (0 : Int32)) ⟨xB, rfl, fun e he => b2 e he, fun q hq => (a2 q hq).A b1⟩
    (by
      rintro p ⟨S, y⟩ hp ⟨i1, i2, i3, i4⟩
      dsimp only at i1 i2 i3 i4 ⊢
      subst i2
      have xs := x.U i1
      unfold bX7_setExpected_10
      rw [show gF S 2 = nI (tN t) from xs.2.2.2.1, if_neg (nI_ge hp (by omega)), nI_1]
      by_cases hpf : p < f
      · rw [if_neg (nI_ge hpf (by omega)), m_corners ok xs.1, bq1_s]
        obtain ⟨V, e5, v1, v2⟩ := m_addN hd (show p < 16 by omega) (wyP_ok ok hp) (ok.2.2.2.2.2.2 p 1 hp (by omega)) (i4 p hp) i3 (2 ^ tD t)
        rw [e5, bq1_s]
        refine ⟨_, rfl, i1.tr v1.U, rfl, fun e he => ?_, fun q hq => (i4 q hq).A v1⟩
        rw [v2 e he]
        show nI (sumN _ p + _) = nI (sumN _ p + if p < f then _ else _)
        rw [if_pos hpf]
      · rw [if_pos (nI_le (by omega) (by omega))]
        obtain ⟨V, e5, v1, v3, v2⟩ := m_addsDrawn ok xs i4 hp i3
        rw [e5, bq1_s]
        refine ⟨_, rfl, i1.tr v1, rfl, fun e he => ?_, v3⟩
        rw [v2 e he]
        show nI (sumN _ p + _) = nI (sumN _ p + if p < f then _ else _)
        rw [if_neg hpf])
    (by
      rintro ⟨S, y⟩ ⟨i1, i2, i3, i4⟩
      dsimp only at i1 i2 ⊢
      subst i2
      unfold bX7_setExpected_10
      rw [show gF S 2 = nI (tN t) from (x.U i1).2.2.2.1]
      exact if_pos (Int32.le_refl _))
  rw [e, bq2_s]
  exact ⟨Y, rfl, i1, i3⟩
/-! lowest terms -/
def frac : Nat → Nat → Nat × Nat
  | 0, v => (v, 1)
  | d + 1, v => if v % 2 = 0 then frac d (v / 2) else (v, 2 ^ (d + 1))
theorem odd_gcd : ∀ d, d < 5 → ∀ r, r < 2 ^ d → r % 2 = 1 → Nat.gcd r (2 ^ d) = 1 := by decide +kernel
theorem frac_gcd : ∀ d, d < 5 → ∀ v, frac d v = (v / Nat.gcd v (2 ^ d), 2 ^ d / Nat.gcd v (2 ^ d))
  | 0, _, v => by
    show (v, 1) = _
    rw [Nat.pow_zero, Nat.gcd_one_right, Nat.div_one, Nat.div_one]
  | d + 1, hd, v => by
    show (if v % 2 = 0 then frac d (v / 2) else (v, 2 ^ (d + 1))) = _
    by_cases h : v % 2 = 0
    · rw [if_pos h, frac_gcd d (by omega)]
      obtain ⟨u, rfl⟩ : ∃ u, v = 2 * u := ⟨v / 2, by omega⟩
      rw [show 2 * u / 2 = u by omega, show 2 ^ (d + 1) = 2 * 2 ^ d by rw [Nat.pow_succ, Nat.mul_comm], Nat.gcd_mul_left, Nat.mul_div_mul_left _ _ (by omega), Nat.mul_div_mul_left _ _ (by omega)]
    · rw [if_neg h]
      have hp : 0 < 2 ^ (d + 1) := Nat.two_pow_pos _
      have e1 : Nat.gcd v (2 ^ (d + 1)) = 1 := by
        rw [Nat.gcd_comm, Nat.gcd_rec, ]
        refine odd_gcd (d + 1) hd _ (Nat.mod_lt _ hp) ?_
        have : v % 2 ^ (d + 1) % 2 = v % 2 := Nat.mod_mod_of_dvd v (by rw [Nat.pow_succ]; exact Nat.dvd_mul_left _ _)
        omega
      rw [e1, Nat.div_one, Nat.div_one]
theorem frac_le : ∀ d v, (frac d v).1 ≤ v ∧ (frac d v).2 ≤ 2 ^ d
  | 0, v => ⟨Nat.le_refl _, Nat.le_refl _⟩
  | d + 1, v => by
    have := frac_le d (v / 2)
    show ((if v % 2 = 0 then frac d (v / 2) else (v, 2 ^ (d + 1))).1) ≤ v ∧ (if v % 2 = 0 then frac d (v / 2) else (v, 2 ^ (d + 1))).2 ≤ 2 ^ (d + 1)
    split
    · exact ⟨by omega, by rw [Nat.pow_succ]; omega⟩
    · exact ⟨Nat.le_refl _, Nat.le_refl _⟩
def XF (X Y : St) (u v : Nat) : Prop := Y.1 28 = nI u ∧ Y.1 29 = nI v ∧ (∀ k, k ≠ 28 → k ≠ 29 → Y.1 k = X.1 k) ∧ Y.2 = X.2
theorem x_setFraction {X : St} {t : Tk} (ok : TkOK t) (h0 : X.1 0 = nI (tD t)) {v : Nat} (hv : v ≤ 65536) : ∃ Y, fX6_setFraction X (nI v) = some Y ∧ XF X Y (frac (tD t) v).1 (frac (tD t) v).2 := by
  have hd := ok.2.1
  have hd1 := ok.1
  have h16 := two_le hd
  unfold fX6_setFraction
  rw [x_corners ok (show (pF X 28 (nI v)).1 0 = nI (tD t) from (pF_n _ _ (by omega)).trans h0), bq1_s]
  have key := lp_fm (f := fun q => bX6_setFraction_18 q.1 q.2) (fun k s => ∃ u, k ≤ tD t ∧ s.2 = nI (tD t - k) ∧ u ≤ v ∧ XF X s.1 u (2 ^ k) ∧ frac (tD t) v = frac k u) (fun s => XF X s.1 (frac (tD t) v).1 (frac (tD t) v).2) (tD t) (by omega) (pF (pF X 28 (nI v)) 29 (nI (2 ^ tD t)), (0 : Int32)) ⟨v, Nat.le_refl _, by rw [Nat.sub_self]; rfl, Nat.le_refl _, ⟨(pF_n _ _ (by omega)).trans (pF_s _ _ _), pF_s _ _ _, fun k h1 h2 => (pF_n _ _ h2).trans (pF_n _ _ h1), rfl⟩, rfl⟩
    (by
      rintro k ⟨S, y⟩ ⟨u, hk, i2, hu, ⟨f1, f2, f3, f4⟩, i5⟩
      dsimp only at i2 f1 f2 f3 f4 ⊢
      subst i2
      have g28 : gF S 28 = nI u := f1
      have g29 : gF S 29 = nI (2 ^ k) := f2
      unfold bX6_setFraction_18
      rw [g28, g29]
      by_cases hk0 : k = 0
      · left
        subst hk0
        refine ⟨(S, nI (tD t - 0)), ?_, ?_⟩
        · by_cases h4 : (4 : Int32) ≤ nI (tD t - 0)
          · rw [if_pos h4]
          · rw [if_neg h4, if_pos (show nI (2 ^ 0) ≤ (1 : Int32) by decide)]
        · rw [i5]
          exact ⟨f1, f2, f3, f4⟩
      · have hk1 : 1 < 2 ^ k := by
          have : 2 ^ 1 ≤ 2 ^ k := Nat.pow_le_pow_right (by omega) (by omega)
          omega
        have hk2 : 2 ^ k ≤ 16 := two_le (by omega)
        rw [if_neg (show ¬ (4 : Int32) ≤ nI (tD t - k) from nI_ge (b := 4) (by omega) (by omega)), if_neg (show ¬ nI (2 ^ k) ≤ (1 : Int32) from nI_ge (a := 1) hk1 (by omega)), show nI u - nI u / (2 : Int32) * (2 : Int32) = nI (u % 2) from pk_rem (d := 2) (by omega) (by omega) (by omega)]
        obtain ⟨j, rfl⟩ : ∃ j, k = j + 1 := ⟨k - 1, by omega⟩
        by_cases hev : u % 2 = 0
        · right
          rw [if_pos (by rw [hev]; rfl), show nI u / (2 : Int32) = nI (u / 2) from pk_div (d := 2) (by omega) (by omega) (by omega), show nI (2 ^ (j + 1)) / (2 : Int32) = nI (2 ^ (j + 1) / 2) from pk_div (d := 2) (by omega) (by omega) (by omega), nI_1, show 2 ^ (j + 1) / 2 = 2 ^ j by rw [Nat.pow_succ]; omega]
          refine ⟨_, rfl, j, by omega, u / 2, by omega, by rw [show tD t - (j + 1) + 1 = tD t - j by omega], by omega, ⟨(pF_n _ _ (by omega)).trans (pF_s _ _ _), pF_s _ _ _, fun k h1 h2 => ((pF_n _ _ h2).trans (pF_n _ _ h1)).trans (f3 k h1 h2), f4⟩, ?_⟩
          rw [i5]
          show (if u % 2 = 0 then frac j (u / 2) else (u, 2 ^ (j + 1))) = _
          rw [if_pos hev]
        · left
          rw [if_neg (show ¬ nI (u % 2) = (0 : Int32) from nI_c (c := 0) (by omega) (by omega) hev)]
          refine ⟨_, rfl, ?_⟩
          rw [i5]
          show XF X S (if u % 2 = 0 then frac j (u / 2) else (u, 2 ^ (j + 1))).1 (if u % 2 = 0 then frac j (u / 2) else (u, 2 ^ (j + 1))).2
          rw [if_neg hev]
          exact ⟨f1, f2, f3, f4⟩)
  obtain ⟨⟨Y, y⟩, e, i⟩ := key
  rw [e, bq2_s]
  exact ⟨Y, rfl, i⟩
def MF (X Y : St) (u v : Nat) : Prop := Y.1 14 = nI u ∧ Y.1 15 = nI v ∧ (∀ k, k ≠ 14 → k ≠ 15 → Y.1 k = X.1 k) ∧ Y.2 = X.2
theorem m_tellsPart {M : St} {t : Tk} (ok : TkOK t) (h1 : M.1 1 = nI (tD t)) {v : Nat} (hv : v ≤ 65536) : ∃ Y, fX7_tellsPart M (nI v) = some Y ∧ MF M Y (frac (tD t) v).1 (frac (tD t) v).2 := by
  have hd := ok.2.1
  have h16 := two_le hd
  have hp : 0 < 2 ^ tD t := Nat.two_pow_pos _
  unfold fX7_tellsPart
  rw [m_corners ok h1, bq1_s]
  have hg : 0 < Nat.gcd v (2 ^ tD t) := Nat.gcd_pos_of_pos_right _ hp
  have hgl : Nat.gcd v (2 ^ tD t) ≤ 2 ^ tD t := Nat.gcd_le_right _ hp
  have key := lp_fm (f := fun q => bX7_tellsPart_7 q.1 q.2) (fun k s => ∃ a, a ≤ 65536 ∧ k ≤ 16 ∧ s.1 = nI a ∧ s.2 = nI k ∧ Nat.gcd a k = Nat.gcd v (2 ^ tD t)) (fun s => s.1 = nI (Nat.gcd v (2 ^ tD t))) (2 ^ tD t) (by omega) (nI v, nI (2 ^ tD t)) ⟨v, hv, h16, rfl, rfl, rfl⟩
    (by
      rintro k ⟨u, y⟩ ⟨a, ha, hk, i1, i2, i3⟩
      dsimp only at i1 i2 ⊢
      subst i1; subst i2
      unfold bX7_tellsPart_7
      by_cases hk0 : k = 0
      · left
        subst hk0
        rw [if_pos (show nI 0 = (0 : Int32) from rfl)]
        refine ⟨_, rfl, ?_⟩
        rw [← i3, Nat.gcd_zero_right]
      · right
        have hlt : a % k < k := Nat.mod_lt _ (by omega)
        rw [if_neg (show ¬ nI k = (0 : Int32) from nI_c (c := 0) (by omega) (by omega) hk0), nz_n (by omega) (by omega), pk_rem (by omega) (by omega) (by omega)]
        refine ⟨_, rfl, a % k, hlt, k, by omega, by omega, rfl, rfl, ?_⟩
        rw [← i3, Nat.gcd_comm a k, Nat.gcd_rec k a, Nat.gcd_comm])
  obtain ⟨⟨u, y⟩, e, i⟩ := key
  dsimp only at i
  rw [e, bq2_s, i, nz_n hg (by omega), pk_div (by omega) hg (by omega), m_corners ok (show (pF M 14 (nI (v / Nat.gcd v (2 ^ tD t)))).1 1 = nI (tD t) from (pF_n _ _ (by omega)).trans h1), bq1_s, nz_n hg (by omega), pk_div (by omega) hg (by omega), frac_gcd _ (by omega)]
  exact ⟨_, rfl, (pF_n _ _ (by omega)).trans (pF_s _ _ _), pF_s _ _ _, fun k h1 h2 => (pF_n _ _ h2).trans (pF_n _ _ h1), rfl⟩
def aFr (a : Da) (u v : Nat) : Da := (aT a, aC a, aH a, aZ a, aX a, aRf a, nI u, nI v)
theorem XS.fr {a : Da} {X Y : St} {u v : Nat} (x : XS a X) (h : XF X Y u v) : XS (aFr a u v) Y := by
  obtain ⟨f1, f2, f3, f4⟩ := h
  obtain ⟨x1, ⟨w, hw, x2, x3, x4⟩, x5, x6, x7, x8, x9⟩ := x
  have hx : ∀ j, j < 7 → ∀ t, XT X j t → XT Y j t := fun j hj t ⟨a, b, c, d, e⟩ => ⟨(f3 _ (by omega) (by omega)).trans a, (f3 _ (by omega) (by omega)).trans b, (f3 _ (by omega) (by omega)).trans c, (f3 _ (by omega) (by omega)).trans d, fun p q hp hq => by rw [f4]; exact e p q hp hq⟩
  exact ⟨hx 0 (by omega) _ x1, ⟨w, hw, (f3 _ (by omega) (by omega)).trans x2, (f3 _ (by omega) (by omega)).trans x3, fun i hi => hx _ (by have := Nat.mod_lt (w + 6 - i) (show 0 < 6 by omega); omega) _ (x4 i hi)⟩, fun k hk => by rw [f4]; exact x5 k hk, f1, f2, (f3 _ (by omega) (by omega)).trans x8, fun i hi => by rw [f4]; exact x9 i hi⟩
theorem MS.fr {a : Da} {M Y : St} {u v : Nat} (x : MS a M) (h : MF M Y u v) : MS (aFr a u v) Y := by
  obtain ⟨f1, f2, f3, f4⟩ := h
  obtain ⟨⟨t1, t2, t3, t4, t5⟩, ⟨x2, x4⟩, x5, x6, x7, x8, x9⟩ := x
  exact ⟨⟨(f3 _ (by omega) (by omega)).trans t1, by rw [f4]; exact t2, by rw [f4]; exact t3, (f3 _ (by omega) (by omega)).trans t4, fun p q hp hq => by rw [f4]; exact t5 p q hp hq⟩, ⟨(f3 _ (by omega) (by omega)).trans x2, fun i hi => (x4 i hi).of (by rw [f4])⟩, fun k hk => by rw [f4]; exact x5 k hk, f1, f2, (f3 _ (by omega) (by omega)).trans x8, fun i hi => by rw [f4]; exact x9 i hi⟩
theorem op_expected (X M : St) (v1 v2 v3 : Int32) (h : Sim X M) : ∃ (r : Int32) (X2 M2 : St), fX6_expected X v1 v2 v3 = some (r, X2) ∧ fX7_expected M v1 v2 v3 = some (r, M2) ∧ Sim X2 M2 := by
  obtain ⟨a, ok, x, m⟩ := h
  have t0 := ok.1
  have hd := t0.2.1
  have h16 := two_le hd
  have bad : ∃ (r : Int32) (X2 M2 : St), fX6_expected_22 X = some (r, X2) ∧ fX7_expected_19 M = some (r, M2) ∧ Sim X2 M2 := by
    obtain ⟨X2, M2, e1, e2, s⟩ := sim_bad ok x m
    unfold fX6_expected_22 fX7_expected_19
    rw [e1, e2, bq2_s, bq2_s]
    exact ⟨_, _, _, rfl, rfl, s⟩
  unfold fX6_expected fX7_expected
  rw [x_hasEdge t0 x.1.1, m_isEdge t0 m.1.1, bq1_s, bq1_s]
  rcases edge_cases t0 v1 v2 with q | ⟨c, s, hc, hs, rfl, rfl, q⟩
  · rw [q, if_pos rfl, if_pos rfl]; exact bad
  rw [q, if_neg ne10, if_neg ne10, show fX7_in M v3 0 16 = some (outc 17 v3) from m_rng (n := 17) (by omega), bq1_s]
  rcases outc_cases 17 (by omega) v3 with ⟨q, hc2⟩ | ⟨f, hf, rfl, q⟩
  · rw [q, if_pos rfl]
    rcases hc2 with hc2 | hc2
    · rw [if_pos hc2]; exact bad
    · have h0 : ¬ v3 < 0 := Int32.not_lt.mpr (Int32.le_trans (show (0 : Int32) ≤ nI 17 by decide) hc2)
      rw [if_neg h0, if_neg (show ¬ v3 ≤ (16 : Int32) from fun z => absurd (Int32.le_trans hc2 z) (by decide))]; exact bad
  rw [q, if_neg ne10, if_neg (nI_pos (by omega)), if_pos (show nI f ≤ (16 : Int32) from nI_le (b := 16) (by omega) (by omega))]
  obtain ⟨Y, e1, y1, y2⟩ := x_tallyMean t0 x.1 (show f < 100 by omega)
  obtain ⟨N, e2, n1, n2⟩ := m_setExpected t0 m.1 (show f < 100 by omega)
  have lo := ldE_ok t0 f
  have hb := (lo (4 * c + s) (by omega)).1
  obtain ⟨Y2, e3, y3⟩ := x_setFraction t0 (X := Y) (by rw [y1.1]; exact x.1.1) hb
  obtain ⟨N2, e4, n3⟩ := m_tellsPart t0 (M := N) (by rw [n1.1]; exact m.1.1) hb
  rw [e1, e2, bq1_s, bq1_s, show nI c * (4 : Int32) = nI (c * 4) from pk_mul c 4, show (4 : Int32) * nI c = nI (4 * c) from pk_mul 4 c, nI_add, nI_add, show c * 4 + s = 4 * c + s by omega, chk_n (by omega) (by omega), chk_n (by omega) (by omega), gR_n (by omega), gR_n (by omega), y2 _ (by omega), n2 _ (by omega), e3, e4, bq1_s, bq1_s]
  exact ⟨_, Y2, N2, rfl, rfl, aFr a (frac (tD (aT a)) (ldE (aT a) f (4 * c + s))).1 (frac (tD (aT a)) (ldE (aT a) f (4 * c + s))).2, ok, (x.of y1.C).fr y3, (m.of n1.C).fr n3⟩
theorem op_greatest (X M : St) (h : Sim X M) : ∃ (r : Int32) (X2 M2 : St), fX6_greatest X = some (r, X2) ∧ fX7_greatest M = some (r, M2) ∧ Sim X2 M2 := by
  obtain ⟨a, ok, x, m⟩ := h
  have t0 := ok.1
  have hn := t0.2.2.2.2.1
  unfold fX6_greatest fX7_greatest
  rw [show gF X 3 = nI (tN (aT a)) from x.1.2.2.2.1, show gF M 2 = nI (tN (aT a)) from m.1.2.2.2.1]
  by_cases h0 : tN (aT a) = 0
  · rw [h0, if_pos (show nI 0 = (0 : Int32) from rfl), if_pos (show nI 0 = (0 : Int32) from rfl)]
    obtain ⟨X2, M2, e1, e2, s⟩ := sim_no ok x m
    rw [e1, e2, bq2_s, bq2_s]
    exact ⟨_, _, _, rfl, rfl, s⟩
  · have hne : ¬ nI (tN (aT a)) = (0 : Int32) := nI_c (c := 0) (by omega) (by omega) h0
    rw [if_neg hne, if_neg hne]
    obtain ⟨Y, e1, y1, y2⟩ := x_tallyMean t0 x.1 (show 0 < 100 by omega)
    obtain ⟨N, e2, n1, n2⟩ := m_setExpected t0 m.1 (show 0 < 100 by omega)
    have lo := ldE_ok t0 0
    have hf := fg_lt (ldE (aT a) 0)
    have hm := mx_le lo
    obtain ⟨Y2, e3, y3⟩ := x_setFraction t0 (X := Y) (by rw [y1.1]; exact x.1.1) hm
    obtain ⟨N2, e4, n3⟩ := m_tellsPart t0 (M := N) (by rw [n1.1]; exact m.1.1) hm
    rw [show fX6_tallyMean X 0 = _ from e1, show fX7_setExpected M 0 = _ from e2, bq1_s, bq1_s, x_firstGreatest lo y2, bq1_s, chk_n hf (by omega), gR_n (by omega), y2 _ hf, fg_mx (ldE (aT a) 0), e3, bq1_s, name_x hf, bq1_s, m_most lo n2, bq1_s, e4, bq1_s, m_firstOf t0 (M := N2) (by rw [n3.2.2.1 1 (by omega) (by omega), n1.1]; exact m.1.1) lo (fun e he => by rw [n3.2.2.2]; exact n2 e he), bq1_s, name_m hf, bq1_s]
    exact ⟨_, Y2, N2, rfl, rfl, aFr a (frac (tD (aT a)) (mx (ldE (aT a) 0))).1 (frac (tD (aT a)) (mx (ldE (aT a) 0))).2, ok, (x.of y1.C).fr y3, (m.of n1.C).fr n3⟩
