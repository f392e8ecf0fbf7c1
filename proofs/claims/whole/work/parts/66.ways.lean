/-! Ways: edges one by one, on both sides. -/
def sd (d o i : Nat) : Nat := if o = 0 then i else d - 1 - i
abbrev Wq : Type := Nat × Nat × (Nat → Nat)
def wstep (d o z i : Nat) (q : Wq) : Wq := if (q.1 ^^^ z).testBit (sd d o i) then (q.1 ^^^ 2 ^ sd d o i, q.2.1 + 1, fun k => if k = q.2.1 then 4 * q.1 + sd d o i else q.2.2 k) else q
def wst (d o z : Nat) : Nat → Wq → Wq
  | 0, q => q
  | i + 1, q => wstep d o z i (wst d o z i q)
def us (d o z : Nat) : Nat → Nat → Nat
  | 0, u => u
  | i + 1, u => if (us d o z i u ^^^ z).testBit (sd d o i) then us d o z i u ^^^ 2 ^ sd d o i else us d o z i u
theorem us_end : ∀ d, d < 5 → ∀ o, o < 2 → ∀ u, u < 2 ^ d → ∀ z, z < 2 ^ d → us d o z d u = z := by decide +kernel
theorem wst_u (d o z : Nat) (q : Wq) : ∀ i, (wst d o z i q).1 = us d o z i q.1
  | 0 => rfl
  | i + 1 => by
    show (wstep d o z i (wst d o z i q)).1 = if (us d o z i q.1 ^^^ z).testBit (sd d o i) then us d o z i q.1 ^^^ 2 ^ sd d o i else us d o z i q.1
    unfold wstep
    rw [wst_u d o z q i]
    split
    · rfl
    · exact wst_u d o z q i
theorem wst_n (d o z : Nat) (q : Wq) : ∀ i, q.2.1 ≤ (wst d o z i q).2.1 ∧ (wst d o z i q).2.1 ≤ q.2.1 + i
  | 0 => ⟨Nat.le_refl _, Nat.le_refl _⟩
  | i + 1 => by
    have := wst_n d o z q i
    show q.2.1 ≤ (wstep d o z i (wst d o z i q)).2.1 ∧ (wstep d o z i (wst d o z i q)).2.1 ≤ q.2.1 + (i + 1)
    unfold wstep
    split
    · exact ⟨Nat.le_succ_of_le this.1, Nat.succ_le_succ this.2⟩
    · exact ⟨this.1, Nat.le_succ_of_le this.2⟩
/-- the corners hang together -/
def Ch (d : Nat) (q : Wq) : Prop := q.1 < 2 ^ d ∧ ∀ k, k < q.2.1 → (if k + 1 < q.2.1 then q.2.2 (k + 1) / 4 else q.1) = (q.2.2 k / 4) ^^^ 2 ^ (q.2.2 k % 4) ∧ q.2.2 k % 4 < d ∧ q.2.2 k / 4 < 2 ^ d
theorem sd_lt {d o i : Nat} (h : i < d) : sd d o i < d := by unfold sd; split <;> omega
theorem wstep_ch {d o z i : Nat} {q : Wq} (hd : d ≤ 4) (hi : i < d) (h : Ch d q) : Ch d (wstep d o z i q) := by
  have hs := sd_lt (o := o) hi
  unfold wstep
  split
  · obtain ⟨h1, h2⟩ := h
    refine ⟨Nat.xor_lt_two_pow h1 (Nat.pow_lt_pow_right (by omega) hs), fun k hk => ?_⟩
    have hk2 : k < q.2.1 + 1 := hk
    show (if k + 1 < q.2.1 + 1 then (if k + 1 = q.2.1 then 4 * q.1 + sd d o i else q.2.2 (k + 1)) / 4 else q.1 ^^^ 2 ^ sd d o i) = ((if k = q.2.1 then 4 * q.1 + sd d o i else q.2.2 k) / 4) ^^^ 2 ^ ((if k = q.2.1 then 4 * q.1 + sd d o i else q.2.2 k) % 4) ∧ (if k = q.2.1 then 4 * q.1 + sd d o i else q.2.2 k) % 4 < d ∧ (if k = q.2.1 then 4 * q.1 + sd d o i else q.2.2 k) / 4 < 2 ^ d
    by_cases hkn : k = q.2.1
    · rw [if_neg (by omega), if_pos hkn, show (4 * q.1 + sd d o i) / 4 = q.1 by omega, show (4 * q.1 + sd d o i) % 4 = sd d o i by omega]
      exact ⟨rfl, hs, h1⟩
    · rw [if_pos (by omega), if_neg hkn]
      obtain ⟨g1, g2⟩ := h2 k (by omega)
      refine ⟨?_, g2⟩
      by_cases hk1 : k + 1 = q.2.1
      · rw [if_pos hk1, show (4 * q.1 + sd d o i) / 4 = q.1 by omega]
        rw [if_neg (by omega)] at g1
        exact g1
      · rw [if_neg hk1]
        rw [if_pos (by omega)] at g1
        exact g1
  · exact h
theorem wst_ch {d o z : Nat} {q : Wq} (hd : d ≤ 4) (h : Ch d q) : ∀ i, i ≤ d → Ch d (wst d o z i q)
  | 0, _ => h
  | i + 1, hi => wstep_ch hd (by omega) (wst_ch hd h i (by omega))
def w1 (d o a b : Nat) : Wq := wst d o b d (a, 0, fun _ => 0)
def w2 (d o a b z : Nat) : Wq := wst d o z d (b, (w1 d o a b).2.1, (w1 d o a b).2.2)
/-- the way: how long its first leg is, how long it is, its edges -/
def wy (d o a b z : Nat) : Nat × Nat × (Nat → Nat) := ((w1 d o a b).2.1, (w2 d o a b z).2.1, (w2 d o a b z).2.2)
theorem w1_end {d o a b : Nat} (hd : d ≤ 4) (ho : o ≤ 1) (ha : a < 2 ^ d) (hb : b < 2 ^ d) : (w1 d o a b).1 = b ∧ (w1 d o a b).2.1 ≤ d ∧ Ch d (w1 d o a b) := by
  refine ⟨?_, ?_, wst_ch hd ⟨ha, fun k hk => absurd hk (Nat.not_lt_zero _)⟩ d (Nat.le_refl _)⟩
  · unfold w1; rw [wst_u]; exact us_end d (by omega) o (by omega) a ha b hb
  · have := (wst_n d o b (a, 0, fun _ => 0) d).2
    show (wst d o b d (a, 0, fun _ => 0)).2.1 ≤ d
    dsimp only at this
    omega
theorem w2_end {d o a b z : Nat} (hd : d ≤ 4) (ho : o ≤ 1) (ha : a < 2 ^ d) (hb : b < 2 ^ d) (hz : z < 2 ^ d) : (w2 d o a b z).1 = z ∧ (w2 d o a b z).2.1 ≤ 2 * d ∧ (w1 d o a b).2.1 ≤ (w2 d o a b z).2.1 ∧ Ch d (w2 d o a b z) := by
  obtain ⟨h1, h2, h3⟩ := w1_end hd ho ha hb
  have hn := wst_n d o z (b, (w1 d o a b).2.1, (w1 d o a b).2.2) d
  refine ⟨?_, ?_, hn.1, wst_ch hd ?_ d (Nat.le_refl _)⟩
  · unfold w2; rw [wst_u]; exact us_end d (by omega) o (by omega) b hb z hz
  · have := hn.2
    show (wst d o z d (b, (w1 d o a b).2.1, (w1 d o a b).2.2)).2.1 ≤ 2 * d
    dsimp only at this
    omega
  · refine ⟨hb, fun k hk => ?_⟩
    have := h3.2 k hk
    rw [h1] at this
    exact this
/-! bits -/
def bset (f : Nat → Nat) : Nat → Int64
  | 0 => 0
  | n + 1 => bset f n ||| ((1 : Int64) <<< (Int32.toInt64 (nI (f n)) &&& (63 : Int64)))
theorem bset_congr {f g : Nat → Nat} : ∀ n, (∀ k, k < n → f k = g k) → bset f n = bset g n
  | 0, _ => rfl
  | n + 1, h => by
    show bset f n ||| _ = bset g n ||| _
    rw [bset_congr n (fun k hk => h k (by omega)), h n (by omega)]
theorem bx1 : ∀ u, u < 16 → ∀ z, z < 16 → ∀ s, s < 4 → (((nI u ^^^ nI z) &&& ((1 : Int32) <<< (nI s &&& (31 : Int32)))) = (0 : Int32)) = ((u ^^^ z).testBit s = false) := by decide +kernel
theorem bm1 : ∀ u, u < 16 → ∀ z, z < 16 → ∀ s, s < 4 → ((((nI u ^^^ nI z) >>> (nI s &&& (31 : Int32))) &&& (1 : Int32)) = (1 : Int32)) = ((u ^^^ z).testBit s = true) := by decide +kernel
theorem bx2 : ∀ u, u < 16 → ∀ s, s < 4 → nI u ^^^ ((1 : Int32) <<< (nI s &&& (31 : Int32))) = nI (u ^^^ 2 ^ s) := by decide +kernel
theorem bx3 : ∀ u, u < 16 → ∀ s, s < 4 → nI u ^^^ nI (u ^^^ 2 ^ s) = nI (2 ^ s) := by decide +kernel
