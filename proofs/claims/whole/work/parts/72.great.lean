/-! The greatest of a tally, its first edge, how many have it. -/
def isE (d e : Nat) : Bool := decide (e / 4 < 2 ^ d) && decide (e % 4 < d)
/-- a tally as both hold it: small, nothing where the cube has no edge -/
def LOK (d : Nat) (ld : Nat → Nat) : Prop := ∀ e, e < 64 → ld e ≤ 65536 ∧ (isE d e = false → ld e = 0)
def fgN (ld : Nat → Nat) : Nat → Nat
  | 0 => 0
  | n + 1 => if ld (fgN ld n) < ld (n + 1) then n + 1 else fgN ld n
def mxN (ld : Nat → Nat) : Nat → Nat
  | 0 => 0
  | n + 1 => if mxN ld n < ld n then ld n else mxN ld n
theorem fgN_le (ld : Nat → Nat) : ∀ n, fgN ld n ≤ n
  | 0 => Nat.le_refl _
  | n + 1 => by
    have := fgN_le ld n
    show (if ld (fgN ld n) < ld (n + 1) then n + 1 else fgN ld n) ≤ n + 1
    split
    · exact Nat.le_refl _
    · exact Nat.le_succ_of_le this
theorem fgN_mx (ld : Nat → Nat) : ∀ n, ld (fgN ld n) = mxN ld (n + 1) ∧ (∀ e, e ≤ n → ld e ≤ ld (fgN ld n)) ∧ ∀ e, e < fgN ld n → ld e < ld (fgN ld n)
  | 0 => by
    refine ⟨?_, fun e he => by rw [show e = 0 by omega]; exact Nat.le_refl _, fun e he => absurd he (Nat.not_lt_zero _)⟩
    show ld 0 = if 0 < ld 0 then ld 0 else 0
    split <;> omega
  | n + 1 => by
    obtain ⟨h1, h2, h3⟩ := fgN_mx ld n
    have hle := fgN_le ld n
    show ld (if ld (fgN ld n) < ld (n + 1) then n + 1 else fgN ld n) = (if mxN ld (n + 1) < ld (n + 1) then ld (n + 1) else mxN ld (n + 1)) ∧ (∀ e, e ≤ n + 1 → ld e ≤ ld (if ld (fgN ld n) < ld (n + 1) then n + 1 else fgN ld n)) ∧ ∀ e, e < (if ld (fgN ld n) < ld (n + 1) then n + 1 else fgN ld n) → ld e < ld (if ld (fgN ld n) < ld (n + 1) then n + 1 else fgN ld n)
    rw [← h1]
    by_cases h : ld (fgN ld n) < ld (n + 1)
    · rw [if_pos h, if_pos h]
      refine ⟨rfl, fun e he => ?_, fun e he => ?_⟩
      · by_cases q : e = n + 1
        · rw [q]; exact Nat.le_refl _
        · have := h2 e (by omega); omega
      · have := h2 e (by omega); omega
    · rw [if_neg h, if_neg h]
      refine ⟨rfl, fun e he => ?_, h3⟩
      by_cases q : e = n + 1
      · rw [q]; omega
      · exact h2 e (by omega)
def fg (ld : Nat → Nat) : Nat := fgN ld 63
def mx (ld : Nat → Nat) : Nat := mxN ld 64
theorem fg_lt (ld : Nat → Nat) : fg ld < 64 := by have := fgN_le ld 63; unfold fg; omega
theorem fg_mx (ld : Nat → Nat) : ld (fg ld) = mx ld := (fgN_mx ld 63).1
theorem mx_ge (ld : Nat → Nat) {e : Nat} (h : e < 64) : ld e ≤ mx ld := by rw [← fg_mx]; exact (fgN_mx ld 63).2.1 e (by omega)
theorem fg_first (ld : Nat → Nat) {e : Nat} (h : e < fg ld) : ld e < mx ld := by rw [← fg_mx]; exact (fgN_mx ld 63).2.2 e h
theorem mx_le {d : Nat} {ld : Nat → Nat} (h : LOK d ld) : mx ld ≤ 65536 := by rw [← fg_mx]; exact (h _ (fg_lt ld)).1
theorem fg_isE {d : Nat} {ld : Nat → Nat} (hd : 1 ≤ d) (h : LOK d ld) : isE d (fg ld) = true := by
  by_cases h0 : mx ld = 0
  · have : fg ld = 0 := by
      rcases Nat.eq_zero_or_pos (fg ld) with q | q
      · exact q
      · have := fg_first ld (e := 0) q; omega
    rw [this]
    unfold isE
    rw [decide_eq_true (show 0 / 4 < 2 ^ d from Nat.two_pow_pos d), decide_eq_true (show 0 % 4 < d by omega)]
    rfl
  · cases hc : isE d (fg ld) with
    | true => rfl
    | false => exact absurd ((h _ (fg_lt ld)).2 hc) (by rw [fg_mx ld]; exact h0)
theorem x_firstGreatest {X : St} {d : Nat} {ld : Nat → Nat} (lo : LOK d ld) (xl : XL X ld) : fX1_firstGreatest X = some (nI (fg ld)) := by
  unfold fX1_firstGreatest
  obtain ⟨⟨u, y⟩, e, i1, i2⟩ := lp_fu (f := fun q => bX1_firstGreatest_4 X q.1 q.2) (fun k s => s.1 = nI (fgN ld k) ∧ s.2 = nI (k + 1)) 63 (by omega) ((0 : Int32), (1 : Int32)) ⟨rfl, rfl⟩
    (by
      rintro k ⟨u, y⟩ hk ⟨i1, i2⟩
      dsimp only at i1 i2 ⊢
      subst i1; subst i2
      have hf := fgN_le ld k
      unfold bX1_firstGreatest_4
      rw [if_neg (show ¬ (64 : Int32) ≤ nI (k + 1) from nI_ge (b := 64) (by omega) (by omega)), chk_n (by omega) (by omega), chk_n (by omega) (by omega), gR_n (by omega), gR_n (by omega), xl _ (by omega), xl _ (by omega), nI_1]
      have b1 := (lo (k + 1) (by omega)).1
      have b2 := (lo (fgN ld k) (by omega)).1
      show ∃ s2 : Int32 × Int32, _ = some (true, s2) ∧ s2.1 = nI (if ld (fgN ld k) < ld (k + 1) then k + 1 else fgN ld k) ∧ _
      by_cases h : ld (fgN ld k) < ld (k + 1)
      · rw [if_neg (nI_ge h (by omega)), if_pos h]
        exact ⟨_, rfl, rfl, rfl⟩
      · rw [if_pos (nI_le (by omega) (by omega)), if_neg h]
        exact ⟨_, rfl, rfl, rfl⟩)
    (by
      rintro ⟨u, y⟩ ⟨i1, i2⟩
      dsimp only at i2 ⊢
      subst i2
      unfold bX1_firstGreatest_4
      exact if_pos (Int32.le_refl _))
  dsimp only at i1
  rw [e, bq2_s, i1]
  rfl
theorem m_most {M : St} {d : Nat} {ld : Nat → Nat} (lo : LOK d ld) (ml : ML M ld) : fX7_most M = some (nI (mx ld)) := by
  unfold fX7_most
  have bnd : ∀ n, n ≤ 64 → mxN ld n ≤ 65536 := by
    intro n
    induction n with
    | zero => intro _; exact Nat.zero_le _
    | succ n ih =>
      intro hn
      have := ih (by omega)
      have := (lo n (by omega)).1
      show (if mxN ld n < ld n then ld n else mxN ld n) ≤ _
      split <;> omega
  obtain ⟨⟨u, y⟩, e, i1, i2⟩ := lp_fu (f := fun q => bX7_most_4 M q.1 q.2) (fun k s => s.1 = nI (mxN ld k) ∧ s.2 = nI k) 64 (by omega) ((0 : Int32), (0 : Int32)) ⟨rfl, rfl⟩
    (by
      rintro k ⟨u, y⟩ hk ⟨i1, i2⟩
      dsimp only at i1 i2 ⊢
      subst i1; subst i2
      unfold bX7_most_4
      rw [if_neg (show ¬ (64 : Int32) ≤ nI k from nI_ge (b := 64) (by omega) (by omega)), chk_n hk (by omega), gR_n (by omega), ml k hk, chk_n hk (by omega), nI_1]
      have b1 := (lo k hk).1
      have b2 := bnd k (by omega)
      show ∃ s2 : Int32 × Int32, _ = some (true, s2) ∧ s2.1 = nI (if mxN ld k < ld k then ld k else mxN ld k) ∧ _
      by_cases h : mxN ld k < ld k
      · rw [if_neg (nI_ge h (by omega)), if_pos h]
        exact ⟨_, rfl, rfl, rfl⟩
      · rw [if_pos (nI_le (by omega) (by omega)), if_neg h]
        exact ⟨_, rfl, rfl, rfl⟩)
    (by
      rintro ⟨u, y⟩ ⟨i1, i2⟩
      dsimp only at i2 ⊢
      subst i2
      unfold bX7_most_4
      exact if_pos (Int32.le_refl _))
  dsimp only at i1
  rw [e, bq2_s, i1]
  rfl
theorem m_isEdge {M : St} {t : Tk} (ok : TkOK t) (h : M.1 1 = nI (tD t)) (u v : Int32) : fX7_isEdge M u v = some (if outc (2 ^ tD t) u = 0 then 0 else outc (tD t) v) := by
  unfold fX7_isEdge
  have hd := ok.2.1
  rw [m_isCorner ok h, bq1_s, gF_e, h, m_rng (by omega), bq1_s]
  by_cases h1 : outc (2 ^ tD t) u = 0
  · rw [if_pos h1, if_pos h1]
  · rw [if_neg h1, if_neg h1]
    rcases outc_cases (tD t) (by omega) v with ⟨q, -⟩ | ⟨j, -, -, q⟩
    · rw [q, if_pos rfl]
    · rw [q, if_neg ne10]
theorem m_isE {M : St} {t : Tk} (ok : TkOK t) (h : M.1 1 = nI (tD t)) {e : Nat} (he : e < 64) : fX7_isEdge M (nI e / (4 : Int32)) (nI e - nI e / (4 : Int32) * (4 : Int32)) = some (bI (isE (tD t) e)) := by
  have hd := ok.2.1
  have h16 := two_le hd
  rw [show nI e - nI e / (4 : Int32) * (4 : Int32) = nI (e % 4) from pk_rem (d := 4) (by omega) (by omega) (by omega), show nI e / (4 : Int32) = nI (e / 4) from pk_div (d := 4) (by omega) (by omega) (by omega), m_isEdge ok h]
  unfold isE
  by_cases h1 : e / 4 < 2 ^ tD t
  · rw [outc_in h1 (by omega), if_neg ne10, decide_eq_true h1]
    by_cases h2 : e % 4 < tD t
    · rw [outc_in h2 (by omega), decide_eq_true h2]; rfl
    · rw [outc_out (Or.inr (nI_le (by omega) (by omega))), decide_eq_false h2]; rfl
  · rw [outc_out (Or.inr (nI_le (by omega) (by omega))), if_pos rfl, decide_eq_false h1]; rfl
/-- counting down: the last that is found is the first -/
def foN (P : Nat → Bool) : Nat → Int32
  | 0 => -1
  | k + 1 => if P (63 - k) = true then nI (63 - k) else foN P k
theorem foN_end (P : Nat → Bool) {j : Nat} (hj : j < 64) (hP : P j = true) (hm : ∀ e, e < j → P e = false) : ∀ k, 64 - j ≤ k → k ≤ 64 → foN P k = nI j
  | 0, h, _ => by omega
  | k + 1, h, h2 => by
    show (if P (63 - k) = true then nI (63 - k) else foN P k) = nI j
    by_cases e : 63 - k = j
    · rw [e, if_pos hP]
    · rw [if_neg (by rw [hm _ (by omega)]; decide)]
      exact foN_end P hj hP hm k (by omega) (by omega)
theorem m_firstOf {M : St} {t : Tk} (ok : TkOK t) (h1 : M.1 1 = nI (tD t)) {ld : Nat → Nat} (lo : LOK (tD t) ld) (ml : ML M ld) : fX7_firstOf M (nI (mx ld)) = some (nI (fg ld)) := by
  have hmx := mx_le lo
  unfold fX7_firstOf
  obtain ⟨⟨u, y⟩, e, i1, i2⟩ := lp_fu (f := fun q => bX7_firstOf_5 M (nI (mx ld)) q.1 q.2) (fun k s => s.1 = foN (fun e => isE (tD t) e && decide (ld e = mx ld)) k ∧ s.2 = nI 64 - 1 - nI k) 64 (by omega) ((-1 : Int32), (63 : Int32)) ⟨rfl, by decide⟩
    (by
      rintro k ⟨u, y⟩ hk ⟨i1, i2⟩
      dsimp only at i1 i2 ⊢
      subst i1
      have e63 : y = nI (63 - k) := by rw [i2, show nI 64 - 1 = nI 63 by decide]; exact pk_sub (by omega)
      subst e63
      unfold bX7_firstOf_5
      rw [if_neg (nI_pos (by omega)), m_isE ok h1 (by omega), bq1_s, chk_n (by omega) (by omega), gR_n (by omega), ml _ (by omega)]
      have b1 := (lo (63 - k) (by omega)).1
      have e2 : nI (63 - k) + (-1 : Int32) = nI 64 - 1 - nI (k + 1) := by
        rw [i2, ← nI_1 k]
        grind
      show ∃ s2 : Int32 × Int32, _ = some (true, s2) ∧ s2.1 = (if (isE (tD t) (63 - k) && decide (ld (63 - k) = mx ld)) = true then nI (63 - k) else foN _ k) ∧ _
      cases hE : isE (tD t) (63 - k) with
      | false => rw [if_pos (show bI false = (0 : Int32) from rfl)]; exact ⟨_, rfl, rfl, e2⟩
      | true =>
        rw [if_neg (show ¬ bI true = (0 : Int32) by decide)]
        by_cases h : ld (63 - k) = mx ld
        · rw [if_pos (by rw [h]), if_pos (by simp [h])]; exact ⟨_, rfl, rfl, e2⟩
        · rw [if_neg (nI_c (by omega) (by omega) h), if_neg (by simp [h])]; exact ⟨_, rfl, rfl, e2⟩)
    (by
      rintro ⟨u, y⟩ ⟨i1, i2⟩
      dsimp only at i2 ⊢
      subst i2
      unfold bX7_firstOf_5
      exact if_pos (by decide))
  dsimp only at i1
  rw [e, bq2_s, i1, foN_end _ (fg_lt ld) (by rw [fg_isE ok.1 lo, fg_mx ld, decide_eq_true rfl]; rfl) (fun e he => by have := fg_first ld he; rw [decide_eq_false (by omega), Bool.and_false]) 64 (by omega) (by omega)]
/-! how many edges -/
theorem cnt4 (Q : Nat → Bool) (c : Nat) : cntb Q (4 * (c + 1)) = cntb Q (4 * c) + (if Q (4 * c) = true then 1 else 0) + (if Q (4 * c + 1) = true then 1 else 0) + (if Q (4 * c + 2) = true then 1 else 0) + (if Q (4 * c + 3) = true then 1 else 0) := by
  rw [show 4 * (c + 1) = 4 * c + 1 + 1 + 1 + 1 by omega]
  rfl
theorem isE_at {d c s : Nat} (hs : s < 4) : isE d (4 * c + s) = (decide (c < 2 ^ d) && decide (s < d)) := by
  unfold isE
  rw [show (4 * c + s) / 4 = c by omega, show (4 * c + s) % 4 = s by omega]
theorem cnt_row {d c : Nat} (hd1 : 1 ≤ d) (hd : d ≤ 4) (hc : c < 2 ^ d) (P : Nat → Bool) : cntb (fun e => isE d e && P e) (4 * (c + 1)) = cntb (fun e => isE d e && P e) (4 * c) + cntb (fun s => P (4 * c + s)) d := by
  rw [cnt4]
  have a0 : isE d (4 * c) = (decide (c < 2 ^ d) && decide (0 < d)) := isE_at (s := 0) (by omega)
  have a1 := isE_at (d := d) (c := c) (s := 1) (by omega)
  have a2 := isE_at (d := d) (c := c) (s := 2) (by omega)
  have a3 := isE_at (d := d) (c := c) (s := 3) (by omega)
  rw [a0, a1, a2, a3, decide_eq_true hc]
  rcases (show d = 1 ∨ d = 2 ∨ d = 3 ∨ d = 4 by omega) with rfl | rfl | rfl | rfl <;> simp [cntb] <;> omega
theorem cnt_end {d : Nat} (hd : d ≤ 4) (P : Nat → Bool) : ∀ c, 2 ^ d ≤ c → cntb (fun e => isE d e && P e) (4 * c) = cntb (fun e => isE d e && P e) (4 * 2 ^ d)
  | 0, h => by have := Nat.two_pow_pos d; omega
  | c + 1, h => by
    by_cases e : 2 ^ d = c + 1
    · rw [e]
    · have hc : 2 ^ d ≤ c := by omega
      rw [cnt4]
      have a0 : isE d (4 * c) = (decide (c < 2 ^ d) && decide (0 < d)) := isE_at (s := 0) (by omega)
      rw [a0, isE_at (s := 1) (by omega), isE_at (s := 2) (by omega), isE_at (s := 3) (by omega), decide_eq_false (show ¬ c < 2 ^ d by omega)]
      simp only [Bool.false_and, if_neg (show ¬ false = true by decide), Nat.add_zero]
      exact cnt_end hd P c hc
theorem x_countAtLeast {X : St} {t : Tk} (ok : TkOK t) (h0 : X.1 0 = nI (tD t)) {ld : Nat → Nat} (lo : LOK (tD t) ld) (xl : XL X ld) {am : Nat} (ham : am ≤ 65536) : fX1_countAtLeast X (nI am) = some (nI (cntb (fun e => isE (tD t) e && decide (am ≤ ld e)) 64)) := by
  have hd := ok.2.1
  have h16 := two_le hd
  unfold fX1_countAtLeast
  obtain ⟨⟨u, y⟩, e, i1, i2⟩ := lp_fu (f := fun q => bX1_countAtLeast_5 X (nI am) q.1 q.2) (fun c s => s.1 = nI (cntb (fun e => isE (tD t) e && decide (am ≤ ld e)) (4 * c)) ∧ s.2 = nI c) (2 ^ tD t) (by omega) ((0 : Int32), (0 : Int32)) ⟨rfl, rfl⟩
    (by
      rintro c ⟨u, y⟩ hc ⟨i1, i2⟩
      dsimp only at i1 i2 ⊢
      subst i1; subst i2
      unfold bX1_countAtLeast_5
      rw [x_corners ok h0, bq1_s, if_neg (nI_ge hc (by omega))]
      obtain ⟨⟨u2, y2⟩, e2, j1, j2⟩ := lp_fu (f := fun r => bX1_countAtLeast_17 X (nI am) (nI c) r.1 r.2) (fun s r => r.1 = nI (cntb (fun e => isE (tD t) e && decide (am ≤ ld e)) (4 * c) + cntb (fun s => decide (am ≤ ld (4 * c + s))) s) ∧ r.2 = nI s) (tD t) (by omega) (nI (cntb (fun e => isE (tD t) e && decide (am ≤ ld e)) (4 * c)), (0 : Int32)) ⟨rfl, rfl⟩
        (by
          rintro s ⟨u, y⟩ hs ⟨j1, j2⟩
          dsimp only at j1 j2 ⊢
          subst j1; subst j2
          have b1 := (lo (4 * c + s) (by omega)).1
          unfold bX1_countAtLeast_17
          rw [gF_e, h0, if_neg (nI_ge hs (by omega)), show nI c * (4 : Int32) = nI (c * 4) from pk_mul c 4, nI_add, show c * 4 + s = 4 * c + s by omega, chk_n (by omega) (by omega), gR_n (by omega), xl _ (by omega), nI_1]
          show ∃ s2 : Int32 × Int32, _ = some (true, s2) ∧ s2.1 = nI (cntb (fun e => isE (tD t) e && decide (am ≤ ld e)) (4 * c) + (cntb (fun s => decide (am ≤ ld (4 * c + s))) s + if decide (am ≤ ld (4 * c + s)) = true then 1 else 0)) ∧ _
          by_cases h : am ≤ ld (4 * c + s)
          · rw [if_neg (nI_nlt h (by omega)), if_pos (decide_eq_true h), nI_1]
            exact ⟨_, rfl, rfl, rfl⟩
          · rw [if_pos (nI_lt (by omega) (by omega)), if_neg (by simp [h])]
            exact ⟨_, rfl, rfl, rfl⟩)
        (by
          rintro ⟨u, y⟩ ⟨j1, j2⟩
          dsimp only at j2 ⊢
          subst j2
          unfold bX1_countAtLeast_17
          rw [gF_e, h0]
          exact if_pos (Int32.le_refl _))
      dsimp only at j1
      rw [e2, bq2_s, nI_1]
      refine ⟨_, rfl, ?_, rfl⟩
      rw [j1, ← cnt_row ok.1 hd hc])
    (by
      rintro ⟨u, y⟩ ⟨i1, i2⟩
      dsimp only at i2 ⊢
      subst i2
      unfold bX1_countAtLeast_5
      rw [x_corners ok h0, bq1_s]
      exact if_pos (Int32.le_refl _))
  dsimp only at i1
  rw [e, bq2_s, i1, ← cnt_end hd _ 16 h16]
