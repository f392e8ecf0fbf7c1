/-! follow and setWays; of and step -/
def wyP (t : Tk) (p : Nat) : Nat × Nat × (Nat → Nat) := wy (tD t) (tO t) (tT t p 0) (tT t p 2) (tT t p 1)
theorem wyP_ok {t : Tk} (ok : TkOK t) {p : Nat} (hp : p < tN t) : WOK (tD t) (wyP t p) (tT t p 1) := wy_ok ok.2.1 ok.2.2.1 (ok.2.2.2.2.2.2 p 0 hp (by omega)) (ok.2.2.2.2.2.2 p 2 hp (by omega)) (ok.2.2.2.2.2.2 p 1 hp (by omega))
theorem XWay.else {X Y : St} {p q : Nat} {w : Nat × Nat × (Nat → Nat)} (h : XW1 X Y p) (hq : q ≠ p) (hw : w.2.1 ≤ 8) (x : XWay X q w) : XWay Y q w := by
  obtain ⟨a, b, c, d⟩ := h.2.2 q hq
  exact ⟨b.trans x.1, a.trans x.2.1, fun k hk => (d k (by omega)).trans (x.2.2.1 k hk), c.trans x.2.2.2⟩
theorem MWay.else {X Y : St} {p q z : Nat} {w : Nat × Nat × (Nat → Nat)} (h : MW1 X Y p) (hq : q ≠ p) (hw : w.2.1 ≤ 8) (x : MWay X q w z) : MWay Y q w z := by
  obtain ⟨a, b, c⟩ := h.2.2 q hq
  exact ⟨b.trans x.1, a.trans x.2.1, fun k hk => (c k (by omega)).trans (x.2.2.1 k hk), (c _ (by omega)).trans x.2.2.2⟩
def XR (X Y : St) : Prop := Y.1 = X.1 ∧ ∀ k, k ≠ 8 → k ≠ 9 → k ≠ 10 → Y.2.1 k = X.2.1 k
def MR (X Y : St) : Prop := Y.1 = X.1 ∧ ∀ k, k ≠ 7 → k ≠ 8 → k ≠ 9 → Y.2.1 k = X.2.1 k
theorem XR.tr {X Y Z : St} (h : XR X Y) (g : XR Y Z) : XR X Z := ⟨g.1.trans h.1, fun k a b c => (g.2 k a b c).trans (h.2 k a b c)⟩
theorem MR.tr {X Y Z : St} (h : MR X Y) (g : MR Y Z) : MR X Z := ⟨g.1.trans h.1, fun k a b c => (g.2 k a b c).trans (h.2 k a b c)⟩
theorem XW1.R {X Y : St} {p : Nat} (h : XW1 X Y p) : XR X Y := ⟨h.1, h.2.1⟩
theorem MW1.R {X Y : St} {p : Nat} (h : MW1 X Y p) : MR X Y := ⟨h.1, h.2.1⟩
theorem XR.C {X Y : St} (h : XR X Y) : XC X Y := ⟨fun k _ => by rw [h.1], fun k hk => h.2 k (by omega) (by omega) (by omega)⟩
theorem MR.C {X Y : St} (h : MR X Y) : MC X Y := ⟨fun k _ => by rw [h.1], fun k hk => h.2 k (by omega) (by omega) (by omega)⟩
theorem XT.R {X Y : St} (h : XR X Y) {t : Tk} (x : XT X 0 t) : XT Y 0 t := x.of h.C (by omega)
theorem MT.R {X Y : St} (h : MR X Y) {t : Tk} (x : MT X t) : MT Y t := x.of h.C
theorem x_follow {X : St} {t : Tk} (ok : TkOK t) (x : XT X 0 t) : ∃ Y, fX5_follow X = some Y ∧ XR X Y ∧ ∀ p, p < tN t → XWay Y p (wyP t p) := by
  have hn := ok.2.2.2.2.1
  have hd := ok.2.1
  unfold fX5_follow
  obtain ⟨⟨Y, y⟩, e, i1, i2, i3⟩ := lp_fu (f := fun q => bX5_follow_2 q.1 q.2) (fun p s => XR X s.1 ∧ s.2 = nI p ∧ ∀ q, q < p → XWay s.1 q (wyP t q)) (tN t) (by omega) (X, (0 : Int32)) ⟨⟨rfl, fun _ _ _ _ => rfl⟩, rfl, fun q hq => absurd hq (Nat.not_lt_zero _)⟩
    (by
      rintro p ⟨S, y⟩ hp ⟨i1, i2, i3⟩
      dsimp only at i1 i2 i3 ⊢
      subst i2
      have xs := x.R i1
      unfold bX5_follow_2
      rw [show gF S 3 = nI (tN t) from xs.2.2.2.1, if_neg (nI_ge hp (by omega)), show (2 : Int32) = nI 2 from rfl, x_trait (by omega) (by omega), bq1_s, xs.2.2.2.2 p 2 (by omega) (by omega)]
      obtain ⟨Z, e1, z1, z2⟩ := x_trace ok xs hp (ok.2.2.2.2.2.2 p 2 hp (by omega))
      rw [e1, bq1_s, nI_1]
      refine ⟨_, rfl, i1.tr z1.R, rfl, fun q hq => ?_⟩
      by_cases hqp : q = p
      · subst hqp; exact z2
      · have hqn : q < p := by omega
        have := (wyP_ok ok (show q < tN t by omega)).1
        exact (i3 q hqn).else z1 hqp (by omega))
    (by
      rintro ⟨S, y⟩ ⟨i1, i2, i3⟩
      dsimp only at i1 i2 ⊢
      subst i2
      unfold bX5_follow_2
      rw [show gF S 3 = nI (tN t) from (x.R i1).2.2.2.1]
      exact if_pos (Int32.le_refl _))
  rw [e, bq2_s]
  exact ⟨Y, rfl, i1, i3⟩
theorem m_setWays {M : St} {t : Tk} (ok : TkOK t) (x : MT M t) : ∃ Y, fX7_setWays M = some Y ∧ MR M Y ∧ ∀ p, p < tN t → MWay Y p (wyP t p) (tT t p 1) := by
  have hn := ok.2.2.2.2.1
  have hd := ok.2.1
  unfold fX7_setWays
  obtain ⟨⟨Y, y⟩, e, i1, i2, i3⟩ := lp_fu (f := fun q => bX7_setWays_2 q.1 q.2) (fun p s => MR M s.1 ∧ s.2 = nI p ∧ ∀ q, q < p → MWay s.1 q (wyP t q) (tT t q 1)) (tN t) (by omega) (M, (0 : Int32)) ⟨⟨rfl, fun _ _ _ _ => rfl⟩, rfl, fun q hq => absurd hq (Nat.not_lt_zero _)⟩
    (by
      rintro p ⟨S, y⟩ hp ⟨i1, i2, i3⟩
      dsimp only at i1 i2 i3 ⊢
      subst i2
      have xs := x.R i1
      unfold bX7_setWays_2
      rw [show gF S 2 = nI (tN t) from xs.2.2.2.1, if_neg (nI_ge hp (by omega)), chk_n (show p < 16 by omega) (by omega), gR_n (by omega), show S.2.1 4 p = nI (tT t p 2) from xs.2.2.2.2 p 2 (by omega) (by omega)]
      obtain ⟨Z, e1, z1, z2⟩ := m_setWay ok xs hp (ok.2.2.2.2.2.2 p 2 hp (by omega))
      rw [e1, bq1_s, nI_1]
      refine ⟨_, rfl, i1.tr z1.R, rfl, fun q hq => ?_⟩
      by_cases hqp : q = p
      · subst hqp; exact z2
      · have hqn : q < p := by omega
        have := (wyP_ok ok (show q < tN t by omega)).1
        exact (i3 q hqn).else z1 hqp (by omega))
    (by
      rintro ⟨S, y⟩ ⟨i1, i2, i3⟩
      dsimp only at i1 i2 ⊢
      subst i2
      unfold bX7_setWays_2
      rw [show gF S 2 = nI (tN t) from (x.R i1).2.2.2.1]
      exact if_pos (Int32.le_refl _))
  rw [e, bq2_s]
  exact ⟨Y, rfl, i1, i3⟩
/-! what meets -/
def anyb (P : Nat → Bool) : Nat → Bool
  | 0 => false
  | n + 1 => anyb P n || P n
theorem anyb_iff (P : Nat → Bool) : ∀ n, anyb P n = true ↔ ∃ k, k < n ∧ P k = true
  | 0 => by simp [anyb]
  | n + 1 => by
    show (anyb P n || P n) = true ↔ _
    rw [Bool.or_eq_true, anyb_iff P n]
    constructor
    · rintro (⟨k, hk, h⟩ | h)
      · exact ⟨k, by omega, h⟩
      · exact ⟨n, by omega, h⟩
    · rintro ⟨k, hk, h⟩
      by_cases e : k = n
      · subst e; exact Or.inr h
      · exact Or.inl ⟨k, by omega, h⟩
def cntb (P : Nat → Bool) : Nat → Nat
  | 0 => 0
  | n + 1 => cntb P n + if P n = true then 1 else 0
theorem cntb_le (P : Nat → Bool) : ∀ n, cntb P n ≤ n
  | 0 => Nat.le_refl _
  | n + 1 => by
    have := cntb_le P n
    show cntb P n + (if P n = true then 1 else 0) ≤ n + 1
    split <;> omega
def bI (b : Bool) : Int32 := if b = true then 1 else 0
theorem bI_0 {b : Bool} : (bI b = (0 : Int32)) ↔ b = false := by cases b <;> decide
def hit (w : Nat × Nat × (Nat → Nat)) (e : Nat) : Bool := anyb (fun k => decide (w.2.2 k = e)) w.2.1
def shr (w v : Nat × Nat × (Nat → Nat)) : Bool := anyb (fun k => hit v (w.2.2 k)) w.2.1
theorem shr_iff (w v : Nat × Nat × (Nat → Nat)) : shr w v = true ↔ ∃ k j, k < w.2.1 ∧ j < v.2.1 ∧ v.2.2 j = w.2.2 k := by
  unfold shr hit
  rw [anyb_iff]
  constructor
  · rintro ⟨k, hk, h⟩
    obtain ⟨j, hj, h2⟩ := (anyb_iff _ _).mp h
    exact ⟨k, j, hk, hj, of_decide_eq_true h2⟩
  · rintro ⟨k, j, hk, hj, h⟩
    exact ⟨k, hk, (anyb_iff _ _).mpr ⟨j, hj, decide_eq_true h⟩⟩
theorem bit1 : ∀ v, v < 64 → ∀ e, e < 64 → ((1 : Int64) <<< (Int32.toInt64 (nI v) &&& (63 : Int64))).toBitVec.getLsbD e = decide (v = e) := by decide +kernel
theorem bset_bit (f : Nat → Nat) {e : Nat} (he : e < 64) : ∀ n, (∀ k, k < n → f k < 64) → (bset f n).toBitVec.getLsbD e = anyb (fun k => decide (f k = e)) n
  | 0, _ => by
    show (0 : Int64).toBitVec.getLsbD e = false
    simp
  | n + 1, h => by
    show (bset f n ||| _).toBitVec.getLsbD e = (anyb _ n || decide (f n = e))
    rw [Int64.toBitVec_or, BitVec.getLsbD_or, bset_bit f he n (fun k hk => h k (by omega)), bit1 (f n) (h n (by omega)) e he]
theorem lgc {x : Int64} : lg_cmp x 0 = (0 : Int32) ↔ x = 0 := by
  unfold lg_cmp
  constructor
  · intro h
    by_cases h1 : (0 : Int64) < x
    · rw [if_pos h1] at h; exact absurd h (by decide)
    · rw [if_neg h1] at h
      by_cases h2 : x < 0
      · first | (rw [if_pos h2] at h; exact absurd h (by decide)) | (rw [if_neg (by rintro rfl; exact absurd h2 (by decide))] at h; exact absurd h (by decide))
      · exact Int64.le_antisymm (Int64.not_lt.mp h1) (Int64.not_lt.mp h2)
  · rintro rfl; decide
theorem and0 {f g : Nat → Nat} {n m : Nat} (hf : ∀ k, k < n → f k < 64) (hg : ∀ k, k < m → g k < 64) : (bset f n &&& bset g m = 0) ↔ ¬ ∃ k j, k < n ∧ j < m ∧ f k = g j := by
  constructor
  · rintro h ⟨k, j, hk, hj, e⟩
    have h1 := congrArg (fun x : Int64 => x.toBitVec.getLsbD (f k)) h
    rw [Int64.toBitVec_and, BitVec.getLsbD_and, bset_bit f (hf k hk) n hf, bset_bit g (hf k hk) m hg, (anyb_iff _ _).mpr ⟨k, hk, decide_eq_true rfl⟩, (anyb_iff _ _).mpr ⟨j, hj, decide_eq_true e.symm⟩] at h1
    simp at h1
  · intro h
    apply Int64.toBitVec_inj.mp
    apply BitVec.eq_of_getLsbD_eq
    intro i hi
    rw [Int64.toBitVec_and, BitVec.getLsbD_and, bset_bit f hi n hf, bset_bit g hi m hg]
    have : (anyb (fun k => decide (f k = i)) n && anyb (fun k => decide (g k = i)) m) = false := by
      rw [Bool.eq_false_iff]
      intro q
      rw [Bool.and_eq_true, anyb_iff, anyb_iff] at q
      obtain ⟨⟨k, hk, e1⟩, j, hj, e2⟩ := q
      exact h ⟨k, j, hk, hj, (of_decide_eq_true e1).trans (of_decide_eq_true e2).symm⟩
    rw [this]
    simp
