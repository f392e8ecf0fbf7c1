/-! chooses -/
theorem sumN_cg {g h : Nat → Nat} : ∀ n, (∀ q, q < n → g q = h q) → sumN g n = sumN h n
  | 0, _ => rfl
  | n + 1, e => by
    show sumN g n + g n = sumN h n + h n
    rw [sumN_cg n (fun q hq => e q (by omega)), e n (by omega)]
theorem sumN_sw {g h : Nat → Nat} {p : Nat} : ∀ n, p < n → (∀ q, q < n → q ≠ p → g q = h q) → sumN g n + h p = sumN h n + g p
  | 0, hp, _ => absurd hp (Nat.not_lt_zero _)
  | n + 1, hp, e => by
    show sumN g n + g n + h p = sumN h n + h n + g p
    by_cases q : p = n
    · subst q
      rw [sumN_cg p (fun q hq => e q (by omega) (by omega))]; omega
    · have h1 := sumN_sw n (by omega) (fun q hq => e q (by omega))
      have h2 := e n (by omega) (by omega)
      omega
theorem set_0 (t : Tk) (p b q : Nat) : tT (tSet t p 2 b) q 0 = tT t q 0 := if_neg (fun h => absurd h.2 (by omega))
theorem set_1 (t : Tk) (p b q : Nat) : tT (tSet t p 2 b) q 1 = tT t q 1 := if_neg (fun h => absurd h.2 (by omega))
theorem set_2 (t : Tk) (p b : Nat) : tT (tSet t p 2 b) p 2 = b := if_pos ⟨rfl, rfl⟩
theorem set_2n (t : Tk) {p b q : Nat} (h : q ≠ p) : tT (tSet t p 2 b) q 2 = tT t q 2 := if_neg (fun g => h g.1)
theorem wyB_set (t : Tk) (p b q c : Nat) : wyB (tSet t p 2 b) q c = wyB t q c := by
  unfold wyB
  rw [set_0, set_1]
  rfl
theorem wyP_set (t : Tk) (p b : Nat) : wyP (tSet t p 2 b) p = wyB t p b := by
  unfold wyP wyB
  rw [set_0, set_1, set_2]
  rfl
theorem wyP_setn (t : Tk) {p b q : Nat} (h : q ≠ p) : wyP (tSet t p 2 b) q = wyP t q := by
  unfold wyP
  rw [set_0, set_1, set_2n t h]
  rfl
theorem dr_set (t : Tk) (p b q e : Nat) : dr (tSet t p 2 b) q e = dr t q e := sumN_cg _ fun c _ => by rw [wyB_set]
theorem ldE_set (t : Tk) {p : Nat} (hp : p < tN t) (b e : Nat) : ldE (tSet t p 2 b) (p + 1) e + dr t p e = ldE t p e + 2 ^ tD t * ct (wyB t p b) e := by
  have := sumN_sw (g := fun q => if q < p + 1 then 2 ^ tD t * ct (wyP (tSet t p 2 b) q) e else dr (tSet t p 2 b) q e) (h := fun q => if q < p then 2 ^ tD t * ct (wyP t q) e else dr t q e) (p := p) (tN t) hp (fun q hq hqp => by
    by_cases h : q < p
    · rw [if_pos (by omega), if_pos h, wyP_setn t hqp]
    · rw [if_neg (by omega), if_neg h, dr_set])
  rw [if_neg (Nat.lt_irrefl p), if_pos (Nat.lt_succ_self p), wyP_set] at this
  exact this
theorem ldE_le {t : Tk} (ok : TkOK t) (f e : Nat) : ldE t f e ≤ 2048 := by
  have hn := ok.2.2.2.2.1
  have hd := ok.2.1
  have h16 := two_le hd
  have h1 : ldE t f e ≤ tN t * 128 := sumN_le _ fun p hp => by
    split
    · have h2 := ct_le (wyP_ok ok hp) e
      have : 2 ^ tD t * ct (wyP t p) e ≤ 16 * 8 := Nat.mul_le_mul h16 (by omega)
      omega
    · exact dr_le ok hp e
  omega
def sq (ld : Nat → Nat) : Nat := sumN (fun e => ld e * ld e) 64
theorem sq_le {ld : Nat → Nat} (h : ∀ e, ld e ≤ 2048) : sq ld ≤ 268435456 := by
  have := sumN_le (g := fun e => ld e * ld e) (b := 2048 * 2048) 64 fun e _ => Nat.mul_le_mul (h e) (h e)
  exact this
theorem x_squares {X : St} {ld : Nat → Nat} (xl : XL X ld) : fX1_squares X = some (nI (sq ld)) := by
  unfold fX1_squares sq
  obtain ⟨⟨u, y⟩, e, i1, i2⟩ := lp_fu (f := fun q => bX1_squares_4 X q.1 q.2) (fun k s => s.1 = nI (sumN (fun e => ld e * ld e) k) ∧ s.2 = nI k) 64 (by omega) ((0 : Int32), (0 : Int32)) ⟨rfl, rfl⟩
    (by
      rintro k ⟨u, y⟩ hk ⟨i1, i2⟩
      dsimp only at i1 i2 ⊢
      subst i1; subst i2
      unfold bX1_squares_4
      rw [if_neg (show ¬ (64 : Int32) ≤ nI k from nI_ge (b := 64) (by omega) (by omega)), chk_n hk (by omega), chk_n hk (by omega), gR_n (by omega), xl k hk, pk_mul, nI_add, nI_1]
      exact ⟨_, rfl, rfl, rfl⟩)
    (by
      rintro ⟨u, y⟩ ⟨i1, i2⟩
      dsimp only at i2 ⊢
      subst i2
      unfold bX1_squares_4
      exact if_pos (Int32.le_refl _))
  dsimp only at i1
  rw [e, bq2_s, i1]
theorem m_squares {M : St} {ld : Nat → Nat} (hb : ∀ e, ld e ≤ 2048) (ml : ML M ld) : fX7_squares M = some (lN (sq ld)) := by
  unfold fX7_squares sq
  obtain ⟨⟨u, y⟩, e, i1, i2⟩ := lp_fu (f := fun q => bX7_squares_4 M q.1 q.2) (fun k s => s.1 = lN (sumN (fun e => ld e * ld e) k) ∧ s.2 = nI k) 64 (by omega) ((0 : Int64), (0 : Int32)) ⟨rfl, rfl⟩
    (by
      rintro k ⟨u, y⟩ hk ⟨i1, i2⟩
      dsimp only at i1 i2 ⊢
      subst i1; subst i2
      unfold bX7_squares_4
      have := hb k
      rw [if_neg (show ¬ (64 : Int32) ≤ nI k from nI_ge (b := 64) (by omega) (by omega)), chk_n hk (by omega), chk_n hk (by omega), gR_n (by omega), ml k hk, nI_l (by omega), lN_mul, lN_add, nI_1]
      exact ⟨_, rfl, rfl, rfl⟩)
    (by
      rintro ⟨u, y⟩ ⟨i1, i2⟩
      dsimp only at i2 ⊢
      subst i2
      unfold bX7_squares_4
      exact if_pos (Int32.le_refl _))
  dsimp only at i1
  rw [e, bq2_s, i1]
theorem lgc_le {a b : Nat} (ha : a < 2 ^ 31) (hb : b < 2 ^ 31) : ((0 : Int32) ≤ lg_cmp (lN a) (lN b)) ↔ b ≤ a := by
  unfold lg_cmp
  by_cases h : b < a
  · rw [if_pos (show lN a > lN b from (lN_lt hb ha).mpr h)]
    exact ⟨fun _ => by omega, fun _ => by decide⟩
  · rw [if_neg (show ¬ lN a > lN b from fun q => h ((lN_lt hb ha).mp q))]
    by_cases h2 : a = b
    · rw [if_pos (by rw [h2])]
      exact ⟨fun _ => by omega, fun _ => by decide⟩
    · rw [if_neg (fun q => h2 ((lN_eq ha hb).mp q))]
      exact ⟨fun q => absurd q (by decide), fun q => by omega⟩
def cv (t : Tk) (p b : Nat) : Nat := mx (ldE (tSet t p 2 b) (p + 1))
def cs (t : Tk) (p b : Nat) : Nat := sq (ldE (tSet t p 2 b) (p + 1))
def cbN (t : Tk) (p : Nat) : Nat → Nat × Nat × Nat
  | 0 => (0, 0, 0)
  | b + 1 => if b = 0 ∨ cv t p b < (cbN t p b).2.1 ∨ (cv t p b = (cbN t p b).2.1 ∧ cs t p b < (cbN t p b).2.2) then (b, cv t p b, cs t p b) else cbN t p b
theorem setB_ok {t : Tk} (ok : TkOK t) {p b : Nat} (hb : b < 2 ^ tD t) : TkOK (tSet t p 2 b) := ok.set (k := 2) (by omega) (by rw [if_neg (by omega)]; exact hb)
theorem cv_le {t : Tk} (ok : TkOK t) {p b : Nat} (hb : b < 2 ^ tD t) : cv t p b ≤ 65536 := mx_le (ldE_ok (setB_ok ok hb) (p + 1))
theorem cs_le {t : Tk} (ok : TkOK t) {p b : Nat} (hb : b < 2 ^ tD t) : cs t p b ≤ 268435456 := sq_le (ldE_le (setB_ok ok hb) (p + 1))
theorem cbN_ok {t : Tk} (ok : TkOK t) (p : Nat) : ∀ b, b ≤ 2 ^ tD t → (cbN t p b).1 < 2 ^ tD t ∧ (cbN t p b).2.1 ≤ 65536 ∧ (cbN t p b).2.2 ≤ 268435456
  | 0, _ => ⟨Nat.two_pow_pos _, Nat.zero_le _, Nat.zero_le _⟩
  | b + 1, hb => by
    have ih := cbN_ok ok p b (by omega)
    have h1 := cv_le ok (p := p) (b := b) (by omega)
    have h2 := cs_le ok (p := p) (b := b) (by omega)
    unfold cbN
    split
    · exact ⟨by show b < _; omega, h1, h2⟩
    · exact ih
def tB (t : Tk) (p : Nat) : Tk := tSet t p 2 (cbN t p (2 ^ tD t)).1
theorem tB_ok {t : Tk} (ok : TkOK t) (p : Nat) : TkOK (tB t p) := setB_ok ok (cbN_ok ok p _ (Nat.le_refl _)).1
theorem x_chooseBetween {a : Da} {X : St} (ok : DaOK a) (x : XS a X) {p : Nat} (hp : p < tN (aT a)) (xl : XL X (ldE (aT a) p)) : ∃ Y, fX6_chooseBetween X (nI p) = some Y ∧ XS (aTk a (tB (aT a) p)) Y ∧ XL Y (ldE (tB (aT a) p) (p + 1)) := by
  have t0 := ok.1
  generalize ht : aT a = t at *
  have hn := t0.2.2.2.2.1
  have hd := t0.2.1
  have h16 := two_le hd
  have xt : XT X 0 t := by rw [← ht]; exact x.1
  unfold fX6_chooseBetween
  obtain ⟨A, e1, a1, a2⟩ := x_addDrawn t0 xt hp (-1)
  rw [e1, bq1_s, x_corners t0 (xt.U a1).1, bq1_s]
  have hA : ∀ b, ∀ e, e < 64 → A.2.1 11 e + nI (2 ^ tD t) * nI (ct (wyB t p b) e) = nI (ldE (tSet t p 2 b) (p + 1) e) := by
    intro b e he
    have h1 := congrArg nI (ldE_set t hp b e)
    rw [← nI_add, ← nI_add, ← pk_mul] at h1
    rw [a2 e he, xl e he]
    grind
  obtain ⟨⟨Y, y3, y4, y5, y6⟩, e2, i1, i2, i3, i4, i5, i6⟩ := lp_fu (f := fun q => bX6_chooseBetween_25 (nI p) (nI (2 ^ tD t)) q.1 q.2.1 q.2.2.1 q.2.2.2.1 q.2.2.2.2) (fun b s => XU X s.1 ∧ (∀ e, e < 64 → s.1.2.1 11 e = A.2.1 11 e) ∧ s.2.1 = nI (cbN t p b).1 ∧ s.2.2.1 = nI (cbN t p b).2.1 ∧ s.2.2.2.1 = nI (cbN t p b).2.2 ∧ s.2.2.2.2 = nI b) (2 ^ tD t) (by omega) (A, (0 : Int32), (0 : Int32), (0 : Int32), (0 : Int32)) ⟨a1, fun _ _ => rfl, rfl, rfl, rfl, rfl⟩
    (by
      rintro b ⟨S, y3, y4, y5, y6⟩ hb ⟨i1, i2, i3, i4, i5, i6⟩
      dsimp only at i1 i2 i3 i4 i5 i6 ⊢
      subst i3; subst i4; subst i5; subst i6
      obtain ⟨c1, c2, c3⟩ := cbN_ok t0 p b (by omega)
      have h1 := cv_le t0 (p := p) hb
      have h2 := cs_le t0 (p := p) hb
      show ∃ s2 : St × Int32 × Int32 × Int32 × Int32, _ = some (true, s2) ∧ XU X s2.1 ∧ (∀ e, e < 64 → s2.1.2.1 11 e = A.2.1 11 e) ∧ s2.2.1 = nI (if b = 0 ∨ cv t p b < (cbN t p b).2.1 ∨ (cv t p b = (cbN t p b).2.1 ∧ cs t p b < (cbN t p b).2.2) then (b, cv t p b, cs t p b) else cbN t p b).1 ∧ s2.2.2.1 = nI (if b = 0 ∨ cv t p b < (cbN t p b).2.1 ∨ (cv t p b = (cbN t p b).2.1 ∧ cs t p b < (cbN t p b).2.2) then (b, cv t p b, cs t p b) else cbN t p b).2.1 ∧ s2.2.2.2.1 = nI (if b = 0 ∨ cv t p b < (cbN t p b).2.1 ∨ (cv t p b = (cbN t p b).2.1 ∧ cs t p b < (cbN t p b).2.2) then (b, cv t p b, cs t p b) else cbN t p b).2.2 ∧ s2.2.2.2.2 = nI (b + 1)
      have xs := xt.U i1
      obtain ⟨Z, e4, z1, z2⟩ := x_trace t0 xs hp hb
      obtain ⟨V, e5, v1, v2⟩ := x_add1 hd (show p < 16 by omega) (wyB_ok t0 hp hb) z2 (nI (2 ^ tD t))
      have vl : XL V (ldE (tSet t p 2 b) (p + 1)) := fun e he => by
        rw [v2 e he, z1.2.1 11 (by omega) (by omega) (by omega), i2 e he]
        exact hA b e he
      have lo := ldE_ok (setB_ok t0 (p := p) hb) (p + 1)
      have hf := fg_lt (ldE (tSet t p 2 b) (p + 1))
      obtain ⟨W, e6, w1, w2⟩ := x_add1 hd (show p < 16 by omega) (wyB_ok t0 hp hb) (z2.A v1) (-nI (2 ^ tD t))
      have uW : XU X W := i1.tr (z1.R.U.tr (v1.U.tr w1.U))
      have aW : ∀ e, e < 64 → W.2.1 11 e = A.2.1 11 e := by
        intro e he
        rw [w2 e he, v2 e he, z1.2.1 11 (by omega) (by omega) (by omega), i2 e he]
        grind
      unfold bX6_chooseBetween_25
      rw [if_neg (nI_ge hb (by omega)), e4, bq1_s, e5, bq1_s, x_firstGreatest lo vl, bq1_s, chk_n hf (by omega), x_squares vl, bq1_s, gR_n (by omega), vl _ hf, fg_mx (ldE (tSet t p 2 b) (p + 1))]
      show ∃ s2 : St × Int32 × Int32 × Int32 × Int32, (if nI b = (0 : Int32) then fX6_chooseBetween_110 V (nI p) (nI (2 ^ tD t)) (nI b) (nI (cv t p b)) (nI (cs t p b)) else if nI (cv t p b) < nI (cbN t p b).2.1 then fX6_chooseBetween_110 V (nI p) (nI (2 ^ tD t)) (nI b) (nI (cv t p b)) (nI (cs t p b)) else if nI (cv t p b) = nI (cbN t p b).2.1 then if nI (cbN t p b).2.2 ≤ nI (cs t p b) then _ else fX6_chooseBetween_110 V (nI p) (nI (2 ^ tD t)) (nI b) (nI (cv t p b)) (nI (cs t p b)) else _) = some (true, s2) ∧ _
      unfold fX6_chooseBetween_110 fX6_chooseBetween_121
      rw [e6, bq1_s, bq1_s, nI_1]
      by_cases q0 : b = 0
      · rw [if_pos (show nI b = (0 : Int32) by rw [q0]; rfl), if_pos (Or.inl q0)]
        exact ⟨_, rfl, uW, aW, rfl, rfl, rfl, rfl⟩
      rw [if_neg (show ¬ nI b = (0 : Int32) from nI_c (c := 0) (by omega) (by omega) q0)]
      by_cases q1 : cv t p b < (cbN t p b).2.1
      · rw [if_pos (nI_lt q1 (by omega)), if_pos (Or.inr (Or.inl q1))]
        exact ⟨_, rfl, uW, aW, rfl, rfl, rfl, rfl⟩
      rw [if_neg (nI_nlt (by omega) (by omega))]
      by_cases q2 : cv t p b = (cbN t p b).2.1
      · rw [if_pos (by rw [q2])]
        by_cases q3 : cs t p b < (cbN t p b).2.2
        · rw [if_neg (nI_ge q3 (by omega)), if_pos (Or.inr (Or.inr ⟨q2, q3⟩))]
          exact ⟨_, rfl, uW, aW, rfl, rfl, rfl, rfl⟩
        · rw [if_pos (nI_le (by omega) (by omega)), if_neg (by rintro (q | q | q) <;> omega)]
          exact ⟨_, rfl, uW, aW, rfl, rfl, rfl, rfl⟩
      · rw [if_neg (nI_c (by omega) (by omega) q2), if_neg (by rintro (q | q | q) <;> omega)]
        exact ⟨_, rfl, uW, aW, rfl, rfl, rfl, rfl⟩)
    (by
      rintro ⟨S, y3, y4, y5, y6⟩ ⟨i1, i2, i3, i4, i5, i6⟩
      dsimp only at i6 ⊢
      subst i6
      unfold bX6_chooseBetween_25
      exact if_pos (Int32.le_refl _))
  dsimp only at i1 i2 i3
  subst i3
  have hc := (cbN_ok t0 p _ (Nat.le_refl _)).1
  have tok := tB_ok t0 p
  rw [e2, bq5_s, show (2 : Int32) = nI 2 from rfl, x_change (show p < 16 by omega) (by omega), bq1_s]
  have xs2 : XS (aTk a (tB t p)) (pN Y 0 (4 * p + 2) (nI (cbN t p (2 ^ tD t)).1)) := by
    have := (x.of i1.C).set (p := p) (k := 2) (by omega) (by omega) (cbN t p (2 ^ tD t)).1
    rw [ht] at this
    exact this
  obtain ⟨Z, e4, z1, z2⟩ := x_trace tok (show XT _ 0 (tB t p) from xs2.1) (p := p) (b := (cbN t p (2 ^ tD t)).1) hp hc
  obtain ⟨V, e5, v1, v2⟩ := x_add1 hd (show p < 16 by omega) (wyB_ok tok (p := p) (b := (cbN t p (2 ^ tD t)).1) hp hc) z2 (nI (2 ^ tD t))
  rw [e4, bq1_s, e5, bq1_s]
  refine ⟨V, rfl, xs2.of (z1.R.U.tr v1.U).C, fun e he => ?_⟩
  rw [v2 e he, z1.2.1 11 (by omega) (by omega) (by omega), pN_k _ _ (by omega), i2 e he]
  have := hA (cbN t p (2 ^ tD t)).1 e he
  rw [← wyB_set t p (cbN t p (2 ^ tD t)).1] at this
  exact this
theorem MS.set {a : Da} {M : St} (m : MS a M) {p k : Nat} (hp : p < 16) (hk : k < 4) (j : Nat) : MS (aTk a (tSet (aT a) p k j)) (pN M (2 + k) p (nI j)) := by
  obtain ⟨t1, t2, t3, t4, t5⟩ := m.1
  refine m.tk (fun _ _ => rfl) (fun q hq => by funext b; exact pN_k _ _ (by omega)) ⟨t1, (pN_k _ _ (by omega)).trans t2, (pN_k _ _ (by omega)).trans t3, t4, fun p2 k2 hp2 hk2 => ?_⟩
  show (pN M (2 + k) p (nI j)).2.1 (2 + k2) p2 = nI (if p2 = p ∧ k2 = k then j else tT (aT a) p2 k2)
  by_cases h : p2 = p ∧ k2 = k
  · rw [if_pos h, h.1, h.2, pN_s]
  · rw [if_neg h, pN_2, if_neg (fun q => h ⟨q.2, by omega⟩)]
    exact t5 p2 k2 hp2 hk2
theorem set_set (t : Tk) (p k i j : Nat) : tSet (tSet t p k i) p k j = tSet t p k j := by
  unfold tSet
  refine Prod.ext rfl (Prod.ext rfl (Prod.ext rfl (Prod.ext rfl ?_)))
  funext p2 k2
  show (if p2 = p ∧ k2 = k then j else if p2 = p ∧ k2 = k then i else tT t p2 k2) = if p2 = p ∧ k2 = k then j else tT t p2 k2
  by_cases h : p2 = p ∧ k2 = k
  · rw [if_pos h, if_pos h]
  · rw [if_neg h, if_neg h, if_neg h]
theorem m_choosesFor {a : Da} {M : St} (ok : DaOK a) (m : MS a M) {p : Nat} (hp : p < tN (aT a)) : ∃ Y, fX7_choosesFor M (nI p) = some Y ∧ MS (aTk a (tB (aT a) p)) Y := by
  have t0 := ok.1
  generalize ht : aT a = t at *
  have hn := t0.2.2.2.2.1
  have hd := t0.2.1
  have h16 := two_le hd
  unfold fX7_choosesFor
  obtain ⟨⟨Y, y3, y4, y5, y6⟩, e2, ⟨t', m', s1, s2⟩, i3, i4, i5, i6⟩ := lp_fu (f := fun q => bX7_choosesFor_10 (nI p) q.1 q.2.1 q.2.2.1 q.2.2.2.1 q.2.2.2.2) (fun b s => (∃ t' : Tk, MS (aTk a t') s.1 ∧ tD t' = tD t ∧ ∀ j, tSet t' p 2 j = tSet t p 2 j) ∧ s.2.1 = nI (cbN t p b).1 ∧ s.2.2.1 = nI (cbN t p b).2.1 ∧ s.2.2.2.1 = lN (cbN t p b).2.2 ∧ s.2.2.2.2 = nI b) (2 ^ tD t) (by omega) (M, (0 : Int32), (0 : Int32), (0 : Int64), (0 : Int32)) ⟨⟨t, by rw [← ht]; exact m, rfl, fun _ => rfl⟩, rfl, rfl, rfl, rfl⟩
    (by
      rintro b ⟨S, y3, y4, y5, y6⟩ hb ⟨⟨t', m', s1, s2⟩, i3, i4, i5, i6⟩
      dsimp only at m' i3 i4 i5 i6 ⊢
      subst i3; subst i4; subst i5; subst i6
      obtain ⟨c1, c2, c3⟩ := cbN_ok t0 p b (by omega)
      have h1 := cv_le t0 (p := p) hb
      have h2 := cs_le t0 (p := p) hb
      show ∃ s2 : St × Int32 × Int32 × Int64 × Int32, _ = some (true, s2) ∧ (∃ t' : Tk, MS (aTk a t') s2.1 ∧ tD t' = tD t ∧ ∀ j, tSet t' p 2 j = tSet t p 2 j) ∧ s2.2.1 = nI (if b = 0 ∨ cv t p b < (cbN t p b).2.1 ∨ (cv t p b = (cbN t p b).2.1 ∧ cs t p b < (cbN t p b).2.2) then (b, cv t p b, cs t p b) else cbN t p b).1 ∧ s2.2.2.1 = nI (if b = 0 ∨ cv t p b < (cbN t p b).2.1 ∨ (cv t p b = (cbN t p b).2.1 ∧ cs t p b < (cbN t p b).2.2) then (b, cv t p b, cs t p b) else cbN t p b).2.1 ∧ s2.2.2.2.1 = lN (if b = 0 ∨ cv t p b < (cbN t p b).2.1 ∨ (cv t p b = (cbN t p b).2.1 ∧ cs t p b < (cbN t p b).2.2) then (b, cv t p b, cs t p b) else cbN t p b).2.2 ∧ s2.2.2.2.2 = nI (b + 1)
      have m1 : MS (aTk a (tSet t p 2 b)) (pN S 4 p (nI b)) := by
        have := m'.set (p := p) (k := 2) (by omega) (by omega) b
        rw [show aT (aTk a t') = t' from rfl, s2 b] at this
        exact this
      have tok := setB_ok t0 (p := p) hb
      obtain ⟨N, e3, n1, n2⟩ := m_setExpected tok (show MT _ (tSet t p 2 b) from m1.1) (show p + 1 < 100 by omega)
      have lo := ldE_ok tok (p + 1)
      unfold bX7_choosesFor_10
      rw [m_corners t0 (show S.1 1 = nI (tD t) by rw [← s1]; exact m'.1.1), bq1_s, if_neg (nI_ge hb (by omega)), chk_n (show p < 16 by omega) (by omega), pR_n (by omega), nI_1, e3, bq1_s, m_most lo n2, bq1_s, m_squares (ldE_le tok (p + 1)) n2, bq1_s]
      have mN : ∃ t' : Tk, MS (aTk a t') N ∧ tD t' = tD t ∧ ∀ j, tSet t' p 2 j = tSet t p 2 j := ⟨tSet t p 2 b, m1.of n1.C, rfl, fun j => set_set t p 2 b j⟩
      unfold fX7_choosesFor_71
      show ∃ s2 : St × Int32 × Int32 × Int64 × Int32, (if nI b = (0 : Int32) then some (true, N, nI b, nI (cv t p b), lN (cs t p b), nI b + 1) else if nI (cv t p b) < nI (cbN t p b).2.1 then some (true, N, nI b, nI (cv t p b), lN (cs t p b), nI b + 1) else if nI (cv t p b) = nI (cbN t p b).2.1 then if (0 : Int32) ≤ lg_cmp (lN (cs t p b)) (lN (cbN t p b).2.2) then _ else some (true, N, nI b, nI (cv t p b), lN (cs t p b), nI b + 1) else _) = some (true, s2) ∧ _
      rw [nI_1]
      by_cases q0 : b = 0
      · rw [if_pos (show nI b = (0 : Int32) by rw [q0]; rfl), if_pos (Or.inl q0)]
        exact ⟨_, rfl, mN, rfl, rfl, rfl, rfl⟩
      rw [if_neg (show ¬ nI b = (0 : Int32) from nI_c (c := 0) (by omega) (by omega) q0)]
      by_cases q1 : cv t p b < (cbN t p b).2.1
      · rw [if_pos (nI_lt q1 (by omega)), if_pos (Or.inr (Or.inl q1))]
        exact ⟨_, rfl, mN, rfl, rfl, rfl, rfl⟩
      rw [if_neg (nI_nlt (by omega) (by omega))]
      by_cases q2 : cv t p b = (cbN t p b).2.1
      · rw [if_pos (by rw [q2])]
        by_cases q3 : cs t p b < (cbN t p b).2.2
        · rw [if_neg (fun z => by have := (lgc_le (by omega) (by omega)).mp z; omega), if_pos (Or.inr (Or.inr ⟨q2, q3⟩))]
          exact ⟨_, rfl, mN, rfl, rfl, rfl, rfl⟩
        · rw [if_pos ((lgc_le (by omega) (by omega)).mpr (by omega)), if_neg (by rintro (q | q | q) <;> omega)]
          exact ⟨_, rfl, mN, rfl, rfl, rfl, rfl⟩
      · rw [if_neg (nI_c (by omega) (by omega) q2), if_neg (by rintro (q | q | q) <;> omega)]
        exact ⟨_, rfl, mN, rfl, rfl, rfl, rfl⟩)
    (by
      rintro ⟨S, y3, y4, y5, y6⟩ ⟨⟨t', m', s1, s2⟩, i3, i4, i5, i6⟩
      dsimp only at m' i6 ⊢
      subst i6
      unfold bX7_choosesFor_10
      rw [m_corners t0 (show S.1 1 = nI (tD t) by rw [← s1]; exact m'.1.1), bq1_s]
      exact if_pos (Int32.le_refl _))
  dsimp only at m' i3
  subst i3
  rw [e2, bq5_s, chk_n (show p < 16 by omega) (by omega), pR_n (by omega)]
  refine ⟨_, rfl, ?_⟩
  have := m'.set (p := p) (k := 2) (by omega) (by omega) (cbN t p (2 ^ tD t)).1
  rw [show aT (aTk a t') = t' from rfl, s2] at this
  exact this
def tCh (t : Tk) : Nat → Tk
  | 0 => t
  | p + 1 => tB (tCh t p) p
theorem tCh_ok {t : Tk} (ok : TkOK t) : ∀ p, TkOK (tCh t p) ∧ tN (tCh t p) = tN t
  | 0 => ⟨ok, rfl⟩
  | p + 1 => ⟨tB_ok (tCh_ok ok p).1 p, (tCh_ok ok p).2⟩
theorem op_chooses (X M : St) (h : Sim X M) : ∃ (r : Int32) (X2 M2 : St), fX6_chooses X = some (r, X2) ∧ fX7_chooses M = some (r, M2) ∧ Sim X2 M2 := by
  obtain ⟨a, ok, x, m⟩ := h
  have t0 := ok.1
  have hn := t0.2.2.2.2.1
  unfold fX6_chooses fX7_chooses
  rw [show gF X 3 = nI (tN (aT a)) from x.1.2.2.2.1, show gF M 2 = nI (tN (aT a)) from m.1.2.2.2.1]
  by_cases h0 : tN (aT a) = 0
  · rw [h0, if_pos (show nI 0 = (0 : Int32) from rfl), if_pos (show nI 0 = (0 : Int32) from rfl)]
    obtain ⟨X2, M2, e1, e2, s⟩ := sim_no ok x m
    rw [e1, e2, bq2_s, bq2_s]
    exact ⟨_, _, _, rfl, rfl, s⟩
  · have hne : ¬ nI (tN (aT a)) = (0 : Int32) := nI_c (c := 0) (by omega) (by omega) h0
    rw [if_neg hne, if_neg hne]
    obtain ⟨X2, M2, e1, e2, ok2, x2, m2⟩ := sim_keep ok x m
    rw [e1, e2, bq1_s, bq1_s]
    obtain ⟨Y, e3, y1, y2⟩ := x_tallyMean t0 (show XT X2 0 (aT a) from x2.1) (show 0 < 100 by omega)
    rw [show fX6_tallyMean X2 0 = _ from e3, bq1_s]
    obtain ⟨⟨Z, z⟩, e4, i1, i2, i3⟩ := lp_fu (f := fun q => bX6_chooses_35 q.1 q.2) (fun p s => XS (aTk (aKeep a) (tCh (aT a) p)) s.1 ∧ s.2 = nI p ∧ XL s.1 (ldE (tCh (aT a) p) p)) (tN (aT a)) (by omega) (Y, (0 : Int32)) ⟨x2.of y1.C, rfl, y2⟩
      (by
        rintro p ⟨S, y⟩ hp ⟨i1, i2, i3⟩
        dsimp only at i1 i2 i3 ⊢
        subst i2
        obtain ⟨k1, k2⟩ := tCh_ok t0 p
        unfold bX6_chooses_35
        rw [show gF S 3 = nI (tN (aT a)) by rw [← k2]; exact i1.1.2.2.2.1, if_neg (nI_ge hp (by omega)), nI_1]
        obtain ⟨V, e5, v1, v2⟩ := x_chooseBetween (a := aTk (aKeep a) (tCh (aT a) p)) (ok2.tk k1) i1 (p := p) (by show p < tN (tCh (aT a) p); omega) i3
        rw [e5, bq1_s]
        exact ⟨_, rfl, v1, rfl, v2⟩)
      (by
        rintro ⟨S, y⟩ ⟨i1, i2, i3⟩
        dsimp only at i1 i2 ⊢
        subst i2
        unfold bX6_chooses_35
        rw [show gF S 3 = nI (tN (aT a)) by rw [← (tCh_ok t0 (tN (aT a))).2]; exact i1.1.2.2.2.1]
        exact if_pos (Int32.le_refl _))
    obtain ⟨⟨N, n⟩, e5, j1, j2⟩ := lp_fu (f := fun q => bX7_chooses_18 q.1 q.2) (fun p s => MS (aTk (aKeep a) (tCh (aT a) p)) s.1 ∧ s.2 = nI p) (tN (aT a)) (by omega) (M2, (0 : Int32)) ⟨m2, rfl⟩
      (by
        rintro p ⟨S, y⟩ hp ⟨i1, i2⟩
        dsimp only at i1 i2 ⊢
        subst i2
        obtain ⟨k1, k2⟩ := tCh_ok t0 p
        unfold bX7_chooses_18
        rw [show gF S 2 = nI (tN (aT a)) by rw [← k2]; exact i1.1.2.2.2.1, if_neg (nI_ge hp (by omega)), nI_1]
        obtain ⟨V, e5, v1⟩ := m_choosesFor (a := aTk (aKeep a) (tCh (aT a) p)) (ok2.tk k1) i1 (p := p) (by show p < tN (tCh (aT a) p); omega)
        rw [e5, bq1_s]
        exact ⟨_, rfl, v1, rfl⟩)
      (by
        rintro ⟨S, y⟩ ⟨i1, i2⟩
        dsimp only at i1 i2 ⊢
        subst i2
        unfold bX7_chooses_18
        rw [show gF S 2 = nI (tN (aT a)) by rw [← (tCh_ok t0 (tN (aT a))).2]; exact i1.1.2.2.2.1]
        exact if_pos (Int32.le_refl _))
    dsimp only at i1 j1
    have k1 := (tCh_ok t0 (tN (aT a))).1
    have lo := ldW_ok k1
    obtain ⟨Y2, e6, y3, -, y4⟩ := x_tallyWays k1 (show XT Z 0 (tCh (aT a) (tN (aT a))) from i1.1)
    obtain ⟨N2, e7, n3, n4⟩ := m_setLoads k1 (show MT N (tCh (aT a) (tN (aT a))) from j1.1)
    rw [e4, e5, bq2_s, bq2_s, e6, e7, bq1_s, bq1_s, show fX6_loadsFact Y2 0 = _ from x_loadsFact (k := 0) k1 (by rw [y3.1]; exact i1.1.1) lo y4 (by omega), bq1_s, m_most lo n4, bq1_s]
    exact ⟨_, Y2, N2, rfl, rfl, aTk (aKeep a) (tCh (aT a) (tN (aT a))), ok2.tk k1, i1.of y3.C, j1.of n3.C⟩
