/-! Reading a text. -/
def skF (c : Nat → Nat) : Nat → Nat → Nat
  | 0, k => k
  | m + 1, k => if c k = 32 then skF c m (k + 1) else k
def sk (c : Nat → Nat) (z k : Nat) : Nat := skF c (z - k) k
theorem skF_le (c : Nat → Nat) : ∀ m k, k ≤ skF c m k ∧ skF c m k ≤ k + m
  | 0, k => ⟨Nat.le_refl _, Nat.le_refl _⟩
  | m + 1, k => by
    have := skF_le c m (k + 1)
    unfold skF
    split <;> omega
theorem sk_le {c : Nat → Nat} {z k : Nat} (h : k ≤ z) : k ≤ sk c z k ∧ sk c z k ≤ z := by
  have := skF_le c (z - k) k
  unfold sk
  omega
theorem skF_st (c : Nat → Nat) : ∀ m k, skF c (k + m - skF c m k) (skF c m k) = skF c m k
  | 0, k => by
    show skF c (k + 0 - k) k = k
    rw [show k + 0 - k = 0 by omega]
    rfl
  | m + 1, k => by
    by_cases h : c k = 32
    · have e : skF c (m + 1) k = skF c m (k + 1) := if_pos h
      have := skF_st c m (k + 1)
      rw [e, show k + (m + 1) - skF c m (k + 1) = k + 1 + m - skF c m (k + 1) by omega]
      exact this
    · have e : skF c (m + 1) k = k := if_neg h
      rw [e, show k + (m + 1) - k = m + 1 by omega, e]
theorem sk_sk {c : Nat → Nat} {z k : Nat} (h : k ≤ z) : sk c z (sk c z k) = sk c z k := by
  have := skF_st c (z - k) k
  unfold sk
  rw [show k + (z - k) = z by omega] at this
  exact this
def dgF (c : Nat → Nat) : Nat → Nat → Nat
  | 0, k => k
  | m + 1, k => if 48 ≤ c k ∧ c k ≤ 57 then dgF c m (k + 1) else k
def dg (c : Nat → Nat) (z k : Nat) : Nat := dgF c (z - k) k
theorem dgF_le (c : Nat → Nat) : ∀ m k, k ≤ dgF c m k ∧ dgF c m k ≤ k + m
  | 0, k => ⟨Nat.le_refl _, Nat.le_refl _⟩
  | m + 1, k => by
    have := dgF_le c m (k + 1)
    unfold dgF
    split <;> omega
theorem dg_le {c : Nat → Nat} {z k : Nat} (h : k ≤ z) : k ≤ dg c z k ∧ dg c z k ≤ z := by
  have := dgF_le c (z - k) k
  unfold dg
  omega
def vv (c : Nat → Nat) (s n : Nat) : Nat := if n = 0 then 0 else if n = 1 then c s - 48 else 10 * (c s - 48) + (c (s + 1) - 48)
theorem vv_s (c : Nat → Nat) (s n : Nat) (h : n < 2) : vv c s (n + 1) = 10 * vv c s n + (c (s + n) - 48) := by
  rcases (show n = 0 ∨ n = 1 by omega) with rfl | rfl
  · show c s - 48 = 10 * 0 + (c (s + 0) - 48)
    rw [Nat.add_zero]; omega
  · rfl
theorem vv_b (c : Nat → Nat) (s n : Nat) (h : 2 ≤ n) : vv c s (n + 1) = vv c s n := by
  unfold vv
  rw [if_neg (by omega), if_neg (by omega), if_neg (by omega), if_neg (by omega)]
def xv (c : Nat → Nat) (s lim : Nat) : Nat → Nat
  | 0 => 0
  | n + 1 => if lim < 10 * xv c s lim n + (c (s + n) - 48) then lim else 10 * xv c s lim n + (c (s + n) - 48)
theorem xv_le (c : Nat → Nat) (s lim : Nat) : ∀ n, xv c s lim n ≤ lim
  | 0 => Nat.zero_le _
  | n + 1 => by unfold xv; split <;> omega
theorem xv_vv (c : Nat → Nat) (s lim : Nat) : ∀ n, n = 1 ∨ n = 2 → (xv c s lim n < lim ↔ vv c s n < lim) ∧ (vv c s n < lim → xv c s lim n = vv c s n) := by
  rintro n (rfl | rfl)
  · show ((if lim < 10 * 0 + (c (s + 0) - 48) then lim else 10 * 0 + (c (s + 0) - 48)) < lim ↔ c s - 48 < lim) ∧ (c s - 48 < lim → (if lim < 10 * 0 + (c (s + 0) - 48) then lim else 10 * 0 + (c (s + 0) - 48)) = c s - 48)
    rw [Nat.add_zero]
    split <;> omega
  · show ((if lim < 10 * (if lim < 10 * 0 + (c (s + 0) - 48) then lim else 10 * 0 + (c (s + 0) - 48)) + (c (s + 1) - 48) then lim else 10 * (if lim < 10 * 0 + (c (s + 0) - 48) then lim else 10 * 0 + (c (s + 0) - 48)) + (c (s + 1) - 48)) < lim ↔ 10 * (c s - 48) + (c (s + 1) - 48) < lim) ∧ (10 * (c s - 48) + (c (s + 1) - 48) < lim → (if lim < 10 * (if lim < 10 * 0 + (c (s + 0) - 48) then lim else 10 * 0 + (c (s + 0) - 48)) + (c (s + 1) - 48) then lim else 10 * (if lim < 10 * 0 + (c (s + 0) - 48) then lim else 10 * 0 + (c (s + 0) - 48)) + (c (s + 1) - 48)) = 10 * (c s - 48) + (c (s + 1) - 48))
    rw [Nat.add_zero]
    by_cases h : lim < 10 * 0 + (c s - 48)
    · rw [if_pos h]; split <;> omega
    · rw [if_neg h]; split <;> omega
def nuE (c : Nat → Nat) (z lim k : Nat) : Except Nat (Nat × Nat) := if (dg c z (sk c z k) = sk c z k + 1 ∨ dg c z (sk c z k) = sk c z k + 2) ∧ vv c (sk c z k) (dg c z (sk c z k) - sk c z k) < lim then .ok (dg c z (sk c z k), vv c (sk c z k) (dg c z (sk c z k) - sk c z k)) else .error (sk c z k)
def sgE (c : Nat → Nat) (z ch k : Nat) : Except Nat Nat := if sk c z k < z ∧ c (sk c z k) = ch then .ok (sk c z k + 1) else .error (sk c z k)
theorem nuE_ok {c : Nat → Nat} {z lim k e v : Nat} (hk : k ≤ z) (h : nuE c z lim k = .ok (e, v)) : e ≤ z ∧ k < e ∧ v < lim := by
  have h1 := sk_le (c := c) hk
  have h2 := dg_le (c := c) h1.2
  unfold nuE at h
  by_cases q : (dg c z (sk c z k) = sk c z k + 1 ∨ dg c z (sk c z k) = sk c z k + 2) ∧ vv c (sk c z k) (dg c z (sk c z k) - sk c z k) < lim
  · rw [if_pos q] at h
    have h3 : (dg c z (sk c z k), vv c (sk c z k) (dg c z (sk c z k) - sk c z k)) = (e, v) := Except.ok.inj h
    have h4 := congrArg Prod.fst h3
    have h5 := congrArg Prod.snd h3
    dsimp only at h4 h5
    rw [← h4, ← h5]
    exact ⟨h2.2, by omega, q.2⟩
  · rw [if_neg q] at h
    exact absurd h (by simp)
theorem nuE_er {c : Nat → Nat} {z lim k f : Nat} (hk : k ≤ z) (h : nuE c z lim k = .error f) : f ≤ z := by
  have h1 := sk_le (c := c) hk
  unfold nuE at h
  split at h
  · exact absurd h (by simp)
  · have : sk c z k = f := Except.error.inj h
    omega
theorem sgE_ok {c : Nat → Nat} {z ch k e : Nat} (hk : k ≤ z) (h : sgE c z ch k = .ok e) : e ≤ z ∧ k < e := by
  have h1 := sk_le (c := c) hk
  unfold sgE at h
  split at h
  · rename_i q
    have : sk c z k + 1 = e := Except.ok.inj h
    omega
  · exact absurd h (by simp)
theorem sgE_er {c : Nat → Nat} {z ch k f : Nat} (hk : k ≤ z) (h : sgE c z ch k = .error f) : f ≤ z ∧ k ≤ f := by
  have h1 := sk_le (c := c) hk
  unfold sgE at h
  split at h
  · exact absurd h (by simp)
  · have : sk c z k = f := Except.error.inj h
    omega
/-- the text, as the program holds it -/
def XTx (B : St) (c : Nat → Nat) (z : Nat) : Prop := z ≤ 120 ∧ (∀ i, i < z → c i < 128) ∧ B.1 34 = nI z ∧ ∀ i, i < z → B.2.1 19 i = nI (c i)
def XP (B S : St) (f : Int32) (k : Nat) : Prop := S.2 = B.2 ∧ (∀ j, j ≠ 35 → j ≠ 37 → S.1 j = B.1 j) ∧ S.1 35 = f ∧ S.1 37 = nI k
theorem XP.g34 {B S : St} {f : Int32} {k z : Nat} {c : Nat → Nat} (h : XP B S f k) (b : XTx B c z) : gF S 34 = nI z := (h.2.1 34 (by omega) (by omega)).trans b.2.2.1
theorem XP.g19 {B S : St} {f : Int32} {k z : Nat} {c : Nat → Nat} (h : XP B S f k) (b : XTx B c z) {i : Nat} (hi : i < z) : gR S 19 (nI i) = nI (c i) := by
  have := b.1
  rw [gR_n (by omega), h.1]
  exact b.2.2.2 i hi
theorem XP.to {B S : St} {f : Int32} {k : Nat} (h : XP B S f k) (j : Nat) : XP B (pF S 37 (nI j)) f j := ⟨h.1, fun i a b => (pF_n _ _ b).trans (h.2.1 i a b), (pF_n _ _ (by omega)).trans h.2.2.1, pF_s _ _ _⟩
theorem XP.fa {B S : St} {f : Int32} {k : Nat} (h : XP B S f k) (g : Int32) : XP B (pF S 35 g) g k := ⟨h.1, fun i a b => (pF_n _ _ a).trans (h.2.1 i a b), pF_s _ _ _, (pF_n _ _ (by omega)).trans h.2.2.2⟩
theorem x_skip {B S : St} {f : Int32} {c : Nat → Nat} {z k : Nat} (b : XTx B c z) (hk : k ≤ z) (h : XP B S f k) : ∃ S2, fX2_skipBlanks S = some S2 ∧ XP B S2 f (sk c z k) := by
  have hz := b.1
  unfold fX2_skipBlanks
  obtain ⟨S2, e, j⟩ := lp_fm (f := fun q => bX2_skipBlanks_0 q) (fun m s => ∃ k2, k2 + m = z ∧ XP B s f k2 ∧ skF c m k2 = sk c z k) (fun s => XP B s f (sk c z k)) (z - k) (by omega) S ⟨k, by omega, h, rfl⟩
    (by
      rintro m S ⟨k2, hm, i1, i2⟩
      unfold bX2_skipBlanks_0
      rw [i1.g34 b, show gF S 37 = nI k2 from i1.2.2.2]
      cases m with
      | zero =>
        left
        rw [show k2 = z by omega, if_pos (Int32.le_refl _)]
        refine ⟨S, rfl, ?_⟩
        rw [← i2]; exact i1
      | succ m =>
        rw [if_neg (nI_ge (by omega) (by omega)), chk_n (by omega) (by omega), i1.g19 b (by omega)]
        have hc := b.2.1 k2 (by omega)
        by_cases q : c k2 = 32
        · right
          rw [if_pos (by rw [q]; rfl), nI_1]
          exact ⟨_, rfl, m, by omega, k2 + 1, by omega, i1.to _, by rw [← i2]; exact (if_pos q).symm⟩
        · left
          rw [if_neg (show ¬ nI (c k2) = (32 : Int32) from nI_c (c := 32) (by omega) (by omega) q)]
          refine ⟨S, rfl, ?_⟩
          rw [← i2, show skF c (m + 1) k2 = k2 from if_neg q]
          exact i1)
  rw [e, bq1_s]
  exact ⟨S2, rfl, j⟩
theorem x_fail {B S : St} {k : Nat} (h : XP B S (-1) k) (g : Int32) : fX2_failAt S g = some (pF S 35 g) := if_pos h.2.2.1
theorem x_number {B S : St} {c : Nat → Nat} {z k lim : Nat} (b : XTx B c z) (hk : k ≤ z) (hl : lim ≤ 100) (h : XP B S (-1) k) : ∃ r S2, fX2_readNumber S (nI lim) = some (r, S2) ∧ ((∃ e v, nuE c z lim k = .ok (e, v) ∧ r = nI v ∧ XP B S2 (-1) e) ∨ ∃ f k2, nuE c z lim k = .error f ∧ k2 ≤ z ∧ XP B S2 (nI f) k2) := by
  have hz := b.1
  unfold fX2_readNumber
  obtain ⟨A, e1, a1⟩ := x_skip b hk h
  have hs := sk_le (c := c) hk
  rw [if_pos (show gF S 35 = (-1 : Int32) from h.2.2.1), e1, bq1_s]
  unfold nuE
  generalize sk c z k = s at *
  have gs : gF A 37 = nI s := a1.2.2.2
  have hd := dg_le (c := c) hs.2
  obtain ⟨⟨V, y⟩, e2, ⟨n, hn, j1, j2⟩⟩ := lp_fm (f := fun q => bX2_readNumber_21 (nI lim) q.1 q.2) (fun m q => ∃ n, s + n + m = z ∧ XP B q.1 (-1) (s + n) ∧ q.2 = nI (xv c s lim n) ∧ dgF c m (s + n) = dg c z s) (fun q => ∃ n, s + n = dg c z s ∧ XP B q.1 (-1) (s + n) ∧ q.2 = nI (xv c s lim n)) (z - s) (by omega) (A, (0 : Int32)) ⟨0, by omega, a1, rfl, rfl⟩
    (by
      rintro m ⟨Q, y⟩ ⟨n, hm, i1, i2, i3⟩
      dsimp only at i1 i2 ⊢
      subst i2
      unfold bX2_readNumber_21
      rw [i1.g34 b, show gF Q 37 = nI (s + n) from i1.2.2.2]
      cases m with
      | zero =>
        left
        rw [if_pos (nI_le (by omega) (by omega))]
        exact ⟨_, rfl, n, i3, i1, rfl⟩
      | succ m =>
        have hc := b.2.1 (s + n) (by omega)
        rw [if_neg (nI_ge (by omega) (by omega)), chk_n (by omega) (by omega), i1.g19 b (by omega), chk_n (by omega) (by omega), chk_n (by omega) (by omega)]
        by_cases q : 48 ≤ c (s + n) ∧ c (s + n) ≤ 57
        · right
          have hx := xv_le c s lim n
          rw [if_neg (show ¬ nI (c (s + n)) < (48 : Int32) from nI_nlt (b := 48) q.1 (by omega)), if_neg (show ¬ (57 : Int32) < nI (c (s + n)) from nI_nlt (a := 57) q.2 (by omega)), show (10 : Int32) * nI (xv c s lim n) = nI (10 * xv c s lim n) from pk_mul 10 _, nI_add, show nI (10 * xv c s lim n + c (s + n)) - (48 : Int32) = nI (10 * xv c s lim n + c (s + n) - 48) from pk_sub (b := 48) (by omega), nI_1]
          refine ⟨_, rfl, m, by omega, n + 1, by omega, i1.to _, ?_, by rw [← i3]; exact (if_pos q).symm⟩
          show (if nI lim < nI _ then nI lim else nI _) = nI (if lim < 10 * xv c s lim n + (c (s + n) - 48) then lim else 10 * xv c s lim n + (c (s + n) - 48))
          rw [show 10 * xv c s lim n + c (s + n) - 48 = 10 * xv c s lim n + (c (s + n) - 48) by omega]
          by_cases p : lim < 10 * xv c s lim n + (c (s + n) - 48)
          · rw [if_pos (nI_lt p (by omega)), if_pos p]
          · rw [if_neg (nI_nlt (by omega) (by omega)), if_neg p]
        · left
          have e3 : dgF c (m + 1) (s + n) = s + n := if_neg q
          have ex : ∃ s2 : St × Int32, some (false, Q, nI (xv c s lim n)) = some (false, s2) ∧ ∃ n, s + n = dg c z s ∧ XP B s2.1 (-1) (s + n) ∧ s2.2 = nI (xv c s lim n) := ⟨_, rfl, n, by rw [← i3, e3], i1, rfl⟩
          by_cases p : c (s + n) < 48
          · rw [if_pos (show nI (c (s + n)) < (48 : Int32) from nI_lt (b := 48) p (by omega))]; exact ex
          · rw [if_neg (show ¬ nI (c (s + n)) < (48 : Int32) from nI_nlt (b := 48) (by omega) (by omega)), if_pos (show (57 : Int32) < nI (c (s + n)) from nI_lt (a := 57) (by omega) (by omega))]; exact ex)
  dsimp only at j1 j2
  subst j2
  have hx := xv_le c s lim n
  have ge : gF V 37 = nI (s + n) := j1.2.2.2
  rw [e2, bq2_s, ge, gs, ← hn, show s + n - s = n by omega]
  have bad : (¬ ((s + n = s + 1 ∨ s + n = s + 2) ∧ vv c s n < lim)) → ∃ r S2, fX2_readNumber_118 V (nI s) (nI (xv c s lim n)) = some (r, S2) ∧ ((∃ e v, (if (s + n = s + 1 ∨ s + n = s + 2) ∧ vv c s n < lim then Except.ok (s + n, vv c s n) else Except.error s) = .ok (e, v) ∧ r = nI v ∧ XP B S2 (-1) e) ∨ ∃ f k2, (if (s + n = s + 1 ∨ s + n = s + 2) ∧ vv c s n < lim then Except.ok (s + n, vv c s n) else Except.error s) = .error f ∧ k2 ≤ z ∧ XP B S2 (nI f) k2) := by
    intro no
    unfold fX2_readNumber_118
    rw [x_fail j1, bq1_s, if_neg no]
    exact ⟨_, _, rfl, Or.inr ⟨s, s + n, rfl, by omega, j1.fa _⟩⟩
  by_cases n0 : n = 0
  · rw [if_pos (show nI (s + n) = nI s by rw [n0]; rfl)]
    exact bad (by omega)
  rw [if_neg (nI_c (by omega) (by omega) (by omega)), show nI (s + n) - nI s = nI n by rw [pk_sub (by omega), show s + n - s = n by omega]]
  by_cases n2 : 2 < n
  · rw [if_pos (show (2 : Int32) < nI n from nI_lt (a := 2) n2 (by omega))]
    exact bad (by omega)
  rw [if_neg (show ¬ (2 : Int32) < nI n from nI_nlt (a := 2) (by omega) (by omega))]
  obtain ⟨p1, p2⟩ := xv_vv c s lim n (by omega)
  by_cases hv : vv c s n < lim
  · rw [if_pos (nI_lt (p1.mpr hv) (by omega)), if_pos ⟨by omega, hv⟩]
    exact ⟨_, _, rfl, Or.inl ⟨s + n, vv c s n, rfl, by rw [p2 hv], j1⟩⟩
  · rw [if_neg (nI_nlt (by have := fun q => hv (p1.mp q); omega) (by omega))]
    exact bad (fun q => hv q.2)
theorem x_takes {B S : St} {c : Nat → Nat} {z k ch : Nat} (b : XTx B c z) (hk : k ≤ z) (hc : ch < 128) (h : XP B S (-1) k) : ∃ r S2, fX2_takes S (nI ch) = some (r, S2) ∧ ((∃ e, sgE c z ch k = .ok e ∧ r = 1 ∧ XP B S2 (-1) e) ∨ ∃ s, sgE c z ch k = .error s ∧ r = 0 ∧ XP B S2 (-1) s) := by
  have hz := b.1
  unfold fX2_takes
  obtain ⟨A, e1, a1⟩ := x_skip b hk h
  have hs := sk_le (c := c) hk
  rw [if_pos (show gF S 35 = (-1 : Int32) from h.2.2.1), e1, bq1_s]
  unfold sgE
  generalize sk c z k = s at *
  rw [a1.g34 b, show gF A 37 = nI s from a1.2.2.2]
  by_cases q : s < z
  · have hcc := b.2.1 s q
    rw [if_neg (nI_ge q (by omega)), chk_n (by omega) (by omega), a1.g19 b q]
    by_cases p : c s = ch
    · rw [if_pos (by rw [p]), if_pos ⟨q, p⟩, nI_1]
      exact ⟨_, _, rfl, Or.inl ⟨_, rfl, rfl, a1.to _⟩⟩
    · rw [if_neg (nI_c (by omega) (by omega) p), if_neg (fun r => p r.2)]
      exact ⟨_, _, rfl, Or.inr ⟨_, rfl, rfl, a1⟩⟩
  · rw [if_pos (nI_le (by omega) (by omega)), if_neg (fun r => q r.1)]
    exact ⟨_, _, rfl, Or.inr ⟨_, rfl, rfl, a1⟩⟩
theorem x_need {B S : St} {c : Nat → Nat} {z k ch : Nat} (b : XTx B c z) (hk : k ≤ z) (hc : ch < 128) (h : XP B S (-1) k) : ∃ S2, fX2_need S (nI ch) = some S2 ∧ ((∃ e, sgE c z ch k = .ok e ∧ XP B S2 (-1) e) ∨ ∃ s, sgE c z ch k = .error s ∧ XP B S2 (nI s) s) := by
  unfold fX2_need
  obtain ⟨r, A, e1, ⟨e, g1, g2, g3⟩ | ⟨s, g1, g2, g3⟩⟩ := x_takes b hk hc h
  · subst g2
    rw [e1, bq2_s, if_neg ne10]
    exact ⟨A, rfl, Or.inl ⟨e, g1, g3⟩⟩
  · subst g2
    rw [e1, bq2_s, if_pos rfl, x_fail g3, bq1_s, show gF A 37 = nI s from g3.2.2.2]
    exact ⟨_, rfl, Or.inr ⟨s, g1, g3.fa _⟩⟩
/-- after a fault nothing more is read -/
theorem xb_number {S : St} {f : Nat} (hf : f < 2 ^ 31) (h : S.1 35 = nI f) (l : Int32) : fX2_readNumber S l = some (0, S) := by
  unfold fX2_readNumber
  rw [if_neg (show ¬ gF S 35 = (-1 : Int32) by rw [gF_e, h]; exact nI_m1 hf)]
theorem xb_takes {S : St} {f : Nat} (hf : f < 2 ^ 31) (h : S.1 35 = nI f) (l : Int32) : fX2_takes S l = some (0, S) := by
  unfold fX2_takes
  rw [if_neg (show ¬ gF S 35 = (-1 : Int32) by rw [gF_e, h]; exact nI_m1 hf)]
theorem xb_need {S : St} {f : Nat} (hf : f < 2 ^ 31) (h : S.1 35 = nI f) (l : Int32) : fX2_need S l = some S := by
  unfold fX2_need fX2_failAt
  rw [xb_takes hf h, bq2_s, if_pos rfl, if_neg (show ¬ gF S 35 = (-1 : Int32) by rw [gF_e, h]; exact nI_m1 hf), bq1_s]
theorem xb_78 {S : St} {f : Nat} (hf : f < 2 ^ 31) (h : S.1 35 = nI f) (a b c d : Int32) : fX2_readParcel_78 S a b c d = some S := by
  unfold fX2_readParcel_78
  rw [xb_need hf h, bq1_s, if_neg (show ¬ gF S 35 = (-1 : Int32) by rw [gF_e, h]; exact nI_m1 hf)]
theorem xb_57 {S : St} {f : Nat} (hf : f < 2 ^ 31) (h : S.1 35 = nI f) (a b c : Int32) : fX2_readParcel_57 S a b c = some S := by
  unfold fX2_readParcel_57
  rw [xb_takes hf h, bq2_s, if_pos rfl, xb_78 hf h]
