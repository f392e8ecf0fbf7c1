/-! Reading in the reference; a parcel in both. -/
def MTx (B : St) (c : Nat → Nat) (z : Nat) : Prop := z ≤ 120 ∧ (∀ i, i < z → c i < 128) ∧ B.1 24 = nI z ∧ ∀ i, i < z → B.2.1 16 i = nI (c i)
def MQq (B S : St) : Prop := S.2 = B.2 ∧ ∀ j, j < 25 ∨ 28 < j → S.1 j = B.1 j
theorem MQq.rf (B : St) : MQq B B := ⟨rfl, fun _ _ => rfl⟩
theorem MQq.tr {X Y Z : St} (h : MQq X Y) (g : MQq Y Z) : MQq X Z := ⟨g.1.trans h.1, fun j hj => (g.2 j hj).trans (h.2 j hj)⟩
theorem MQq.C {X Y : St} (h : MQq X Y) : MC X Y := ⟨fun k hk => h.2 k (by omega), fun k _ => by rw [h.1]⟩
theorem MTx.q {B S : St} {c : Nat → Nat} {z : Nat} (b : MTx B c z) (h : MQq B S) : MTx S c z := ⟨b.1, b.2.1, (h.2 24 (by omega)).trans b.2.2.1, fun i hi => by rw [h.1]; exact b.2.2.2 i hi⟩
def MP (B S : St) (k : Nat) (tk : Int32) : Prop := MQq B S ∧ S.1 28 = B.1 28 ∧ S.1 25 = nI k ∧ S.1 26 = tk
theorem MP.g24 {B S : St} {k z : Nat} {tk : Int32} {c : Nat → Nat} (h : MP B S k tk) (b : MTx B c z) : gF S 24 = nI z := (h.1.2 24 (by omega)).trans b.2.2.1
theorem MP.to {B S : St} {k : Nat} {tk : Int32} (h : MP B S k tk) (j : Nat) : MP B (pF S 25 (nI j)) j tk := ⟨⟨h.1.1, fun i a => (pF_n _ _ (by omega)).trans (h.1.2 i a)⟩, (pF_n _ _ (by omega)).trans h.2.1, pF_s _ _ _, (pF_n _ _ (by omega)).trans h.2.2.2⟩
theorem MP.tok {B S : St} {k : Nat} {tk : Int32} (h : MP B S k tk) (j : Int32) : MP B (pF S 26 j) k j := ⟨⟨h.1.1, fun i a => (pF_n _ _ (by omega)).trans (h.1.2 i a)⟩, (pF_n _ _ (by omega)).trans h.2.1, (pF_n _ _ (by omega)).trans h.2.2.1, pF_s _ _ _⟩
theorem MP.num {B S : St} {k : Nat} {tk : Int32} (h : MP B S k tk) (v : Int32) : MP B (pF S 27 v) k tk := ⟨⟨h.1.1, fun i a => (pF_n _ _ (by omega)).trans (h.1.2 i a)⟩, (pF_n _ _ (by omega)).trans h.2.1, (pF_n _ _ (by omega)).trans h.2.2.1, (pF_n _ _ (by omega)).trans h.2.2.2⟩
theorem m_here {B S : St} {c : Nat → Nat} {z k : Nat} {tk : Int32} (b : MTx B c z) (h : MP B S k tk) (hk : k ≤ z) : fX7_here S = some (if k < z then nI (c k) else -1) := by
  have hz := b.1
  unfold fX7_here
  rw [h.g24 b, show gF S 25 = nI k from h.2.2.1]
  by_cases q : k < z
  · rw [if_neg (nI_ge q (by omega)), chk_n (by omega) (by omega), gR_n (by omega), h.1.1, b.2.2.2 k q, if_pos q]
  · rw [if_pos (nI_le (by omega) (by omega)), if_neg q]
theorem m_skip {B S : St} {c : Nat → Nat} {z k : Nat} {tk : Int32} (b : MTx B c z) (hk : k ≤ z) (h : MP B S k tk) : ∃ S2, fX7_skips S = some S2 ∧ MP B S2 (sk c z k) (nI (sk c z k)) := by
  have hz := b.1
  unfold fX7_skips
  obtain ⟨S2, e, j⟩ := lp_fm (f := fun q => bX7_skips_0 q) (fun m s => ∃ k2, k2 + m = z ∧ MP B s k2 tk ∧ skF c m k2 = sk c z k) (fun s => MP B s (sk c z k) tk) (z - k) (by omega) S ⟨k, by omega, h, rfl⟩
    (by
      rintro m S ⟨k2, hm, i1, i2⟩
      unfold bX7_skips_0
      rw [m_here b i1 (by omega), bq1_s, show gF S 25 = nI k2 from i1.2.2.1]
      cases m with
      | zero =>
        left
        rw [if_neg (show ¬ k2 < z by omega), if_neg (show ¬ (-1 : Int32) = 32 by decide)]
        refine ⟨S, rfl, ?_⟩
        rw [← i2]; exact i1
      | succ m =>
        have hc := b.2.1 k2 (by omega)
        rw [if_pos (show k2 < z by omega)]
        by_cases q : c k2 = 32
        · right
          rw [if_pos (by rw [q]; rfl), nI_1]
          exact ⟨_, rfl, m, by omega, k2 + 1, by omega, i1.to _, by rw [← i2]; exact (if_pos q).symm⟩
        · left
          rw [if_neg (show ¬ nI (c k2) = (32 : Int32) from nI_c (c := 32) (by omega) (by omega) q)]
          refine ⟨S, rfl, ?_⟩
          rw [← i2, show skF c (m + 1) k2 = k2 from if_neg q]
          exact i1)
  rw [e, bq1_s, show gF S2 25 = nI (sk c z k) from j.2.2.1]
  exact ⟨_, rfl, j.tok _⟩
theorem m_number {B S : St} {c : Nat → Nat} {z k lim : Nat} {tk : Int32} (b : MTx B c z) (hk : k ≤ z) (hl : lim ≤ 100) (h : MP B S k tk) : ∃ r S2, fX7_number S (nI lim - 1) = some (r, S2) ∧ ((∃ e v t2, nuE c z lim k = .ok (e, v) ∧ r = 1 ∧ S2.1 27 = nI v ∧ MP B S2 e t2) ∨ ∃ f k2, nuE c z lim k = .error f ∧ r = 0 ∧ MP B S2 k2 (nI f)) := by
  have hz := b.1
  unfold fX7_number
  obtain ⟨A, e1, a1⟩ := m_skip b hk h
  have hs := sk_le (c := c) hk
  rw [e1, bq1_s]
  unfold nuE
  generalize sk c z k = s at *
  have hd := dg_le (c := c) hs.2
  obtain ⟨⟨V, y, w⟩, e2, ⟨n, hn, j1, j2, j3⟩⟩ := lp_fm (f := fun q => bX7_number_8 q.1 q.2.1 q.2.2) (fun m q => ∃ n, s + n + m = z ∧ MP B q.1 (s + n) (nI s) ∧ q.2.1 = nI n ∧ q.2.2 = nI (vv c s n) ∧ dgF c m (s + n) = dg c z s) (fun q => ∃ n, s + n = dg c z s ∧ MP B q.1 (s + n) (nI s) ∧ q.2.1 = nI n ∧ q.2.2 = nI (vv c s n)) (z - s) (by omega) (A, (0 : Int32), (0 : Int32)) ⟨0, by omega, a1, rfl, rfl, rfl⟩
    (by
      rintro m ⟨Q, y, w⟩ ⟨n, hm, i1, i2, i3, i4⟩
      dsimp only at i1 i2 i3 ⊢
      subst i2; subst i3
      unfold bX7_number_8 fX7_number_43
      rw [m_here b i1 (by omega), bq1_s, bq1_s, m_in, bq1_s, show gF Q 25 = nI (s + n) from i1.2.2.1]
      cases m with
      | zero =>
        left
        rw [if_neg (show ¬ s + n < z by omega), if_pos (show (-1 : Int32) < 48 ∨ (57 : Int32) < -1 by decide), if_pos rfl]
        exact ⟨_, rfl, n, i4, i1, rfl, rfl⟩
      | succ m =>
        have hc := b.2.1 (s + n) (by omega)
        rw [if_pos (show s + n < z by omega)]
        by_cases q : 48 ≤ c (s + n) ∧ c (s + n) ≤ 57
        · right
          have no : ¬ (nI (c (s + n)) < (48 : Int32) ∨ (57 : Int32) < nI (c (s + n))) := fun p => p.elim (fun p => nI_nlt (b := 48) q.1 (by omega) p) (fun p => nI_nlt (a := 57) q.2 (by omega) p)
          rw [if_neg no, if_neg ne10, nI_1, nI_1]
          by_cases n2 : 2 ≤ n
          · rw [if_pos (show (2 : Int32) ≤ nI n from nI_le (a := 2) n2 (by omega))]
            exact ⟨_, rfl, m, by omega, n + 1, by omega, i1.to _, rfl, by rw [vv_b c s n n2], by rw [← i4]; exact (if_pos q).symm⟩
          · rw [if_neg (show ¬ (2 : Int32) ≤ nI n from nI_ge (b := 2) (by omega) (by omega)), show (10 : Int32) * nI (vv c s n) = nI (10 * vv c s n) from pk_mul 10 _, nI_add, show nI (10 * vv c s n + c (s + n)) - (48 : Int32) = nI (10 * vv c s n + c (s + n) - 48) from pk_sub (b := 48) (by omega)]
            exact ⟨_, rfl, m, by omega, n + 1, by omega, i1.to _, rfl, by rw [vv_s c s n (by omega), show 10 * vv c s n + c (s + n) - 48 = 10 * vv c s n + (c (s + n) - 48) by omega], by rw [← i4]; exact (if_pos q).symm⟩
        · left
          have yes : nI (c (s + n)) < (48 : Int32) ∨ (57 : Int32) < nI (c (s + n)) := by
            by_cases p : c (s + n) < 48
            · exact Or.inl (nI_lt (b := 48) p (by omega))
            · exact Or.inr (nI_lt (a := 57) (by omega) (by omega))
          rw [if_pos yes, if_pos rfl]
          have e3 : dgF c (m + 1) (s + n) = s + n := if_neg q
          exact ⟨_, rfl, n, by rw [← i4, e3], i1, rfl, rfl⟩)
  dsimp only at j1 j2 j3
  subst j2; subst j3
  rw [e2, bq3_s, m_in, bq1_s, ← hn, show s + n - s = n by omega]
  have j4 := j1.num (nI (vv c s n))
  by_cases q : n = 1 ∨ n = 2
  · have no : ¬ (nI n < (1 : Int32) ∨ (2 : Int32) < nI n) := fun p => p.elim (fun p => nI_nlt (b := 1) (by omega) (by omega) p) (fun p => nI_nlt (a := 2) (by omega) (by omega) p)
    rw [if_neg no, if_neg ne10]
    have hv : vv c s n < 2 ^ 20 := by
      have h1 := b.2.1 s (by omega)
      unfold vv
      rcases q with rfl | rfl
      · rw [if_neg (by omega), if_pos rfl]; omega
      · have h2 := b.2.1 (s + 1) (by omega)
        rw [if_neg (by omega), if_neg (by omega)]; omega
    by_cases p : vv c s n < lim
    · rw [if_neg (fun r => by have := (nI_leI (by omega) (by omega)).mp ((lt_pred (by omega) _).mp r); omega), if_pos ⟨by omega, p⟩]
      exact ⟨_, _, rfl, Or.inl ⟨s + n, vv c s n, _, rfl, rfl, pF_s _ _ _, j4⟩⟩
    · rw [if_pos ((lt_pred (by omega) _).mpr (nI_le (by omega) (by omega))), if_neg (fun r => p r.2)]
      exact ⟨_, _, rfl, Or.inr ⟨s, s + n, rfl, rfl, j4⟩⟩
  · have yes : nI n < (1 : Int32) ∨ (2 : Int32) < nI n := by
      by_cases p : n = 0
      · exact Or.inl (nI_lt (b := 1) (by omega) (by omega))
      · exact Or.inr (nI_lt (a := 2) (by omega) (by omega))
    rw [if_pos yes, if_pos rfl, if_neg (by omega)]
    exact ⟨_, _, rfl, Or.inr ⟨s, s + n, rfl, rfl, j4⟩⟩
theorem m_sign {B S : St} {c : Nat → Nat} {z k ch : Nat} {tk : Int32} (b : MTx B c z) (hk : k ≤ z) (hc : ch < 128) (h : MP B S k tk) : ∃ r S2, fX7_sign S (nI ch) = some (r, S2) ∧ ((∃ e t2, sgE c z ch k = .ok e ∧ r = 1 ∧ MP B S2 e t2) ∨ ∃ s, sgE c z ch k = .error s ∧ r = 0 ∧ MP B S2 s (nI s)) := by
  have hz := b.1
  unfold fX7_sign
  obtain ⟨A, e1, a1⟩ := m_skip b hk h
  have hs := sk_le (c := c) hk
  rw [e1, bq1_s]
  unfold sgE
  generalize sk c z k = s at *
  rw [m_here b a1 hs.2, bq1_s, show gF A 25 = nI s from a1.2.2.1]
  by_cases q : s < z
  · have hcc := b.2.1 s q
    rw [if_pos q]
    by_cases p : c s = ch
    · rw [if_pos (by rw [p]), if_pos ⟨q, p⟩, nI_1]
      exact ⟨_, _, rfl, Or.inl ⟨_, _, rfl, rfl, a1.to _⟩⟩
    · rw [if_neg (nI_c (by omega) (by omega) p), if_neg (fun r => p r.2)]
      exact ⟨_, _, rfl, Or.inr ⟨_, rfl, rfl, a1⟩⟩
  · rw [if_neg q, if_neg (fun r => nI_m1 (show ch < 2 ^ 31 by omega) r.symm), if_neg (fun r => q r.1)]
    exact ⟨_, _, rfl, Or.inr ⟨_, rfl, rfl, a1⟩⟩
/-! a parcel -/
abbrev Pq : Type := Nat × Nat × Nat × Nat × Nat
def p78 (c : Nat → Nat) (z k a b g r : Nat) : Except Nat Pq := match sgE c z 59 k with
  | .error f => .error f
  | .ok e => .ok (e, a, b, g, r)
def p57 (c : Nat → Nat) (z k a b g : Nat) : Except Nat Pq := match sgE c z 42 k with
  | .error s => p78 c z s a b g 0
  | .ok e => match nuE c z 100 e with
    | .error f => .error f
    | .ok (e2, r) => p78 c z e2 a b g r
def p47 (c : Nat → Nat) (z d k a b : Nat) : Except Nat Pq := match sgE c z 47 k with
  | .error s => p57 c z s a b a
  | .ok e => match nuE c z (2 ^ d) e with
    | .error f => .error f
    | .ok (e2, g) => p57 c z e2 a b g
def p62 (c : Nat → Nat) (z d k a : Nat) : Except Nat Pq := match sgE c z 62 k with
  | .error f => .error f
  | .ok e => match nuE c z (2 ^ d) e with
    | .error f => .error f
    | .ok (e2, b) => p47 c z d e2 a b
def pcE (c : Nat → Nat) (z d k : Nat) : Except Nat Pq := match nuE c z (2 ^ d) k with
  | .error f => .error f
  | .ok (e, a) => p62 c z d e a
theorem p78_e {c : Nat → Nat} {z k f : Nat} (h : sgE c z 59 k = .error f) (a b g r : Nat) : p78 c z k a b g r = .error f := by unfold p78; rw [h]
theorem p78_o {c : Nat → Nat} {z k e : Nat} (h : sgE c z 59 k = .ok e) (a b g r : Nat) : p78 c z k a b g r = .ok (e, a, b, g, r) := by unfold p78; rw [h]
theorem p57_e {c : Nat → Nat} {z k s : Nat} (h : sgE c z 42 k = .error s) (a b g : Nat) : p57 c z k a b g = p78 c z s a b g 0 := by unfold p57; rw [h]
theorem p57_n {c : Nat → Nat} {z k e f : Nat} (h : sgE c z 42 k = .ok e) (h2 : nuE c z 100 e = .error f) (a b g : Nat) : p57 c z k a b g = .error f := by unfold p57; rw [h]; dsimp only; rw [h2]
theorem p57_o {c : Nat → Nat} {z k e e2 r : Nat} (h : sgE c z 42 k = .ok e) (h2 : nuE c z 100 e = .ok (e2, r)) (a b g : Nat) : p57 c z k a b g = p78 c z e2 a b g r := by unfold p57; rw [h]; dsimp only; rw [h2]
theorem p47_e {c : Nat → Nat} {z k s : Nat} (h : sgE c z 47 k = .error s) (d a b : Nat) : p47 c z d k a b = p57 c z s a b a := by unfold p47; rw [h]
theorem p47_n {c : Nat → Nat} {z k d e f : Nat} (h : sgE c z 47 k = .ok e) (h2 : nuE c z (2 ^ d) e = .error f) (a b : Nat) : p47 c z d k a b = .error f := by unfold p47; rw [h]; dsimp only; rw [h2]
theorem p47_o {c : Nat → Nat} {z k d e e2 g : Nat} (h : sgE c z 47 k = .ok e) (h2 : nuE c z (2 ^ d) e = .ok (e2, g)) (a b : Nat) : p47 c z d k a b = p57 c z e2 a b g := by unfold p47; rw [h]; dsimp only; rw [h2]
theorem p62_e {c : Nat → Nat} {z k f : Nat} (h : sgE c z 62 k = .error f) (d a : Nat) : p62 c z d k a = .error f := by unfold p62; rw [h]
theorem p62_n {c : Nat → Nat} {z k d e f : Nat} (h : sgE c z 62 k = .ok e) (h2 : nuE c z (2 ^ d) e = .error f) (a : Nat) : p62 c z d k a = .error f := by unfold p62; rw [h]; dsimp only; rw [h2]
theorem p62_o {c : Nat → Nat} {z k d e e2 b : Nat} (h : sgE c z 62 k = .ok e) (h2 : nuE c z (2 ^ d) e = .ok (e2, b)) (a : Nat) : p62 c z d k a = p47 c z d e2 a b := by unfold p62; rw [h]; dsimp only; rw [h2]
theorem pcE_e {c : Nat → Nat} {z d k f : Nat} (h : nuE c z (2 ^ d) k = .error f) : pcE c z d k = .error f := by unfold pcE; rw [h]
theorem pcE_o {c : Nat → Nat} {z d k e a : Nat} (h : nuE c z (2 ^ d) k = .ok (e, a)) : pcE c z d k = p62 c z d e a := by unfold pcE; rw [h]
/-- what a parcel's numbers are, where it comes -/
theorem p78_b {c : Nat → Nat} {z k a b g r : Nat} {o : Pq} (hk : k ≤ z) (h : p78 c z k a b g r = .ok o) : o.1 ≤ z ∧ o.2 = (a, b, g, r) := by
  cases q : sgE c z 59 k with
  | error f => rw [p78_e q] at h; exact absurd h (by simp)
  | ok e =>
    rw [p78_o q] at h
    have := Except.ok.inj h
    subst this
    exact ⟨(sgE_ok hk q).1, rfl⟩
theorem p57_b {c : Nat → Nat} {z k a b g : Nat} {o : Pq} (hk : k ≤ z) (h : p57 c z k a b g = .ok o) : o.1 ≤ z ∧ ∃ r, r < 100 ∧ o.2 = (a, b, g, r) := by
  cases q : sgE c z 42 k with
  | error s =>
    rw [p57_e q] at h
    obtain ⟨h1, h2⟩ := p78_b (sgE_er hk q).1 h
    exact ⟨h1, 0, by omega, h2⟩
  | ok e =>
    have le := (sgE_ok hk q).1
    cases p : nuE c z 100 e with
    | error f => rw [p57_n q p] at h; exact absurd h (by simp)
    | ok v =>
      obtain ⟨e2, r⟩ := v
      rw [p57_o q p] at h
      have l2 := nuE_ok le p
      obtain ⟨h1, h2⟩ := p78_b l2.1 h
      exact ⟨h1, r, l2.2.2, h2⟩
theorem pcE_b {c : Nat → Nat} {z d k : Nat} {o : Pq} (hk : k ≤ z) (h : pcE c z d k = .ok o) : o.1 ≤ z ∧ ∃ a b g r, a < 2 ^ d ∧ b < 2 ^ d ∧ g < 2 ^ d ∧ r < 100 ∧ o.2 = (a, b, g, r) := by
  cases q : nuE c z (2 ^ d) k with
  | error f => rw [pcE_e q] at h; exact absurd h (by simp)
  | ok v =>
    obtain ⟨k1, a⟩ := v
    have l1 := nuE_ok hk q
    rw [pcE_o q] at h
    cases q2 : sgE c z 62 k1 with
    | error f => rw [p62_e q2] at h; exact absurd h (by simp)
    | ok k2 =>
      have l2 := sgE_ok l1.1 q2
      cases q3 : nuE c z (2 ^ d) k2 with
      | error f => rw [p62_n q2 q3] at h; exact absurd h (by simp)
      | ok v =>
        obtain ⟨k3, b⟩ := v
        have l3 := nuE_ok l2.1 q3
        rw [p62_o q2 q3] at h
        cases q4 : sgE c z 47 k3 with
        | error s =>
          have l4 := sgE_er l3.1 q4
          rw [p47_e q4] at h
          obtain ⟨h1, r, h2, h3⟩ := p57_b l4.1 h
          exact ⟨h1, a, b, a, r, l1.2.2, l3.2.2, l1.2.2, h2, h3⟩
        | ok k4 =>
          have l4 := sgE_ok l3.1 q4
          cases q5 : nuE c z (2 ^ d) k4 with
          | error f => rw [p47_n q4 q5] at h; exact absurd h (by simp)
          | ok v =>
            obtain ⟨k5, g⟩ := v
            have l5 := nuE_ok l4.1 q5
            rw [p47_o q4 q5] at h
            obtain ⟨h1, r, h2, h3⟩ := p57_b l5.1 h
            exact ⟨h1, a, b, g, r, l1.2.2, l3.2.2, l5.2.2, h2, h3⟩
/-- a parcel has come into the reader -/
def XG (B S : St) (i k a b g r : Nat) : Prop := S.2.2 = B.2.2 ∧ (∀ j, j ≠ 20 → S.2.1 j = B.2.1 j) ∧ (∀ q, q < 4 * i → S.2.1 20 q = B.2.1 20 q) ∧ (∀ q, q < 4 → S.2.1 20 (4 * i + q) = nI (q4 a b g r q)) ∧ (∀ j, j ≠ 35 → j ≠ 36 → j ≠ 37 → S.1 j = B.1 j) ∧ S.1 35 = -1 ∧ S.1 36 = nI (i + 1) ∧ S.1 37 = nI k
def XO (B S : St) (i z : Nat) (o : Except Nat Pq) : Prop := (∃ e a b g r, o = .ok (e, a, b, g, r) ∧ e ≤ z ∧ XG B S i e a b g r) ∨ ∃ f k, o = .error f ∧ f ≤ z ∧ k ≤ z ∧ XP B S (nI f) k
theorem x_p78 {B S : St} {c : Nat → Nat} {z k i : Nat} (tx : XTx B c z) (hk : k ≤ z) (hi : i < 16) (h36 : B.1 36 = nI i) (h : XP B S (-1) k) (a b g r : Nat) : ∃ S2, fX2_readParcel_78 S (nI a) (nI b) (nI g) (nI r) = some S2 ∧ XO B S2 i z (p78 c z k a b g r) := by
  unfold fX2_readParcel_78
  rw [show (59 : Int32) = nI 59 from rfl]
  obtain ⟨A, e1, ⟨e, g1, g3⟩ | ⟨s, g1, g3⟩⟩ := x_need tx hk (show 59 < 128 by omega) h
  · have le := sgE_ok hk g1
    have ev : gF A 36 = nI i := (g3.2.1 36 (by omega) (by omega)).trans h36
    have ix : ∀ q : Nat, nI i * (4 : Int32) + nI q = nI (4 * i + q) := fun q => by rw [show nI i * (4 : Int32) = nI (i * 4) from pk_mul i 4, nI_add, show i * 4 + q = 4 * i + q by omega]
    rw [e1, bq1_s, if_pos (show gF A 35 = (-1 : Int32) from g3.2.2.1), ev, show (0 : Int32) = nI 0 from rfl, show (1 : Int32) = nI 1 from rfl, show (2 : Int32) = nI 2 from rfl, show (3 : Int32) = nI 3 from rfl, ix, ix, ix, ix, chk_n (by omega) (by omega), chk_n (by omega) (by omega), chk_n (by omega) (by omega), chk_n (by omega) (by omega), pR_n (by omega), pR_n (by omega), pR_n (by omega), pR_n (by omega), nI_add]
    refine ⟨_, rfl, Or.inl ⟨e, a, b, g, r, p78_o g1 a b g r, le.1, ?_, fun j hj => ?_, fun q hq => ?_, fun q hq => ?_, fun j h1 h2 h3 => ?_, ?_, pF_s _ _ _, ?_⟩⟩
    · show A.2.2 = _; rw [g3.1]
    · funext x
      show (pN (pN (pN (pN A 20 _ _) 20 _ _) 20 _ _) 20 _ _).2.1 j x = _
      rw [pN_k _ _ hj, pN_k _ _ hj, pN_k _ _ hj, pN_k _ _ hj, g3.1]
    · show (pN (pN (pN (pN A 20 _ _) 20 _ _) 20 _ _) 20 _ _).2.1 20 q = _
      rw [pN_i _ _ (by omega), pN_i _ _ (by omega), pN_i _ _ (by omega), pN_i _ _ (by omega), g3.1]
    · show (pN (pN (pN (pN A 20 _ _) 20 _ _) 20 _ _) 20 _ _).2.1 20 (4 * i + q) = _
      rcases (show q = 0 ∨ q = 1 ∨ q = 2 ∨ q = 3 by omega) with rfl | rfl | rfl | rfl
      · rw [pN_i _ _ (by omega), pN_i _ _ (by omega), pN_i _ _ (by omega), pN_s]; rfl
      · rw [pN_i _ _ (by omega), pN_i _ _ (by omega), pN_s]; rfl
      · rw [pN_i _ _ (by omega), pN_s]; rfl
      · rw [pN_s]; rfl
    · rw [pF_n _ _ h2]; exact g3.2.1 j h1 h3
    · rw [pF_n _ _ (by omega)]; exact g3.2.2.1
    · rw [pF_n _ _ (by omega)]; exact g3.2.2.2
  · have le := sgE_er hk g1
    have hz := tx.1
    rw [e1, bq1_s, if_neg (show ¬ gF A 35 = (-1 : Int32) by rw [gF_e, g3.2.2.1]; exact nI_m1 (by omega))]
    exact ⟨A, rfl, Or.inr ⟨s, s, p78_e g1 a b g r, le.1, le.1, g3⟩⟩
theorem x_p57 {B S : St} {c : Nat → Nat} {z k i : Nat} (tx : XTx B c z) (hk : k ≤ z) (hi : i < 16) (h36 : B.1 36 = nI i) (h : XP B S (-1) k) (a b g : Nat) : ∃ S2, fX2_readParcel_57 S (nI a) (nI b) (nI g) = some S2 ∧ XO B S2 i z (p57 c z k a b g) := by
  have hz := tx.1
  unfold fX2_readParcel_57
  rw [show (42 : Int32) = nI 42 from rfl, show (100 : Int32) = nI 100 from rfl]
  obtain ⟨r, A, e1, ⟨e, g1, rfl, g3⟩ | ⟨s, g1, rfl, g3⟩⟩ := x_takes tx hk (show 42 < 128 by omega) h
  · have le := sgE_ok hk g1
    rw [e1, bq2_s, if_neg ne10]
    obtain ⟨r, V, e2, ⟨e', v, k1, rfl, k3⟩ | ⟨f, k2, k1, hk2, k3⟩⟩ := x_number tx le.1 (show 100 ≤ 100 by omega) g3
    · have le2 := nuE_ok le.1 k1
      rw [e2, bq2_s, p57_o g1 k1]
      exact x_p78 tx le2.1 hi h36 k3 a b g v
    · have le2 := nuE_er le.1 k1
      rw [e2, bq2_s, p57_n g1 k1, xb_78 (show f < 2 ^ 31 by omega) k3.2.2.1]
      exact ⟨V, rfl, Or.inr ⟨f, k2, rfl, le2, hk2, k3⟩⟩
  · have le := sgE_er hk g1
    rw [e1, bq2_s, if_pos rfl, p57_e g1]
    exact x_p78 tx le.1 hi h36 g3 a b g 0
theorem x_parcel {B : St} {c : Nat → Nat} {z k i n d : Nat} (tx : XTx B c z) (hk : k ≤ z) (hd : d ≤ 4) (hi : n + i < 16) (h36 : B.1 36 = nI i) (h : XP B B (-1) k) : ∃ S2, fX2_readParcel B (nI n) (nI (2 ^ d)) = some S2 ∧ XO B S2 i z (pcE c z d k) := by
  have hz := tx.1
  have h16 := two_le hd
  unfold fX2_readParcel
  rw [show gF B 36 = nI i from h36, nI_add, if_pos (show nI (n + i) < (16 : Int32) from nI_lt (b := 16) hi (by omega)), show (62 : Int32) = nI 62 from rfl, show (47 : Int32) = nI 47 from rfl]
  -- a fault goes through
  have thru : ∀ (V : St) (f k2 : Nat), f ≤ z → k2 ≤ z → XP B V (nI f) k2 → ∃ S2, some V = some S2 ∧ XO B S2 i z (.error f) := fun V f k2 hf hk2 x => ⟨V, rfl, Or.inr ⟨f, k2, rfl, hf, hk2, x⟩⟩
  obtain ⟨r, A, e1, ⟨k1, a, g1, rfl, a1⟩ | ⟨f, k2, g1, hk2, a1⟩⟩ := x_number tx hk (show 2 ^ d ≤ 100 by omega) h
  · have l1 := nuE_ok hk g1
    rw [e1, bq2_s, pcE_o g1]
    obtain ⟨C, e2, ⟨k2, g2, a2⟩ | ⟨s, g2, a2⟩⟩ := x_need tx l1.1 (show 62 < 128 by omega) a1
    · have l2 := sgE_ok l1.1 g2
      rw [e2, bq1_s]
      obtain ⟨r, D, e3, ⟨k3, b, g3, rfl, a3⟩ | ⟨f, kk, g3, hkk, a3⟩⟩ := x_number tx l2.1 (show 2 ^ d ≤ 100 by omega) a2
      · have l3 := nuE_ok l2.1 g3
        rw [e3, bq2_s, p62_o g2 g3]
        obtain ⟨r, E, e4, ⟨k4, g4, rfl, a4⟩ | ⟨s, g4, rfl, a4⟩⟩ := x_takes tx l3.1 (show 47 < 128 by omega) a3
        · have l4 := sgE_ok l3.1 g4
          rw [e4, bq2_s, if_neg ne10]
          obtain ⟨r, F, e5, ⟨k5, g, g5, rfl, a5⟩ | ⟨f, kk, g5, hkk, a5⟩⟩ := x_number tx l4.1 (show 2 ^ d ≤ 100 by omega) a4
          · have l5 := nuE_ok l4.1 g5
            rw [e5, bq2_s, p47_o g4 g5]
            exact x_p57 tx l5.1 (by omega) h36 a5 a b g
          · have l5 := nuE_er l4.1 g5
            rw [e5, bq2_s, p47_n g4 g5, xb_57 (show f < 2 ^ 31 by omega) a5.2.2.1]
            exact thru _ _ _ l5 hkk a5
        · have l4 := sgE_er l3.1 g4
          rw [e4, bq2_s, if_pos rfl, p47_e g4]
          exact x_p57 tx l4.1 (by omega) h36 a4 a b a
      · have l3 := nuE_er l2.1 g3
        have hf : f < 2 ^ 31 := by omega
        rw [e3, bq2_s, p62_n g2 g3, xb_takes hf a3.2.2.1, bq2_s, if_pos rfl, xb_57 hf a3.2.2.1]
        exact thru _ _ _ l3 hkk a3
    · have l2 := sgE_er l1.1 g2
      have hf : s < 2 ^ 31 := by omega
      rw [e2, bq1_s, p62_e g2, xb_number hf a2.2.2.1, bq2_s, xb_takes hf a2.2.2.1, bq2_s, if_pos rfl, xb_57 hf a2.2.2.1]
      exact thru _ _ _ l2.1 l2.1 a2
  · have l1 := nuE_er hk g1
    have hf : f < 2 ^ 31 := by omega
    rw [e1, bq2_s, pcE_e g1, xb_need hf a1.2.2.1, bq1_s, xb_number hf a1.2.2.1, bq2_s, xb_takes hf a1.2.2.1, bq2_s, if_pos rfl, xb_57 hf a1.2.2.1]
    exact thru _ _ _ l1 hk2 a1
/-- the reference's parcel: what it leaves -/
def MO (B : St) (n z : Nat) (x1 : Int32) (R : Option (Int32 × St)) (o : Except Nat Pq) : Prop := (∃ e a b g r S, o = .ok (e, a, b, g, r) ∧ e ≤ z ∧ MQq B S ∧ S.1 25 = nI e ∧ S.1 28 = nI (n + 1) ∧ R = if x1 = 0 then some (1, S) else bq1 (fX7_comes S (nI a) (nI b) (nI g) (nI r)) (fun S18 => some (1, S18))) ∨ ∃ f S, o = .error f ∧ f ≤ z ∧ MQq B S ∧ S.1 26 = nI f ∧ R = some (0, S)
theorem m_p78 {B S : St} {c : Nat → Nat} {z k n : Nat} {tk : Int32} (tx : MTx B c z) (hk : k ≤ z) (h28 : B.1 28 = nI n) (h : MP B S k tk) (x1 : Int32) (a b g r : Nat) : MO B n z x1 (fX7_readsParcel_124 S x1 (nI a) (nI b) (nI g) (nI r)) (p78 c z k a b g r) := by
  unfold fX7_readsParcel_124
  rw [show (59 : Int32) = nI 59 from rfl]
  obtain ⟨q, A, e1, ⟨e, t2, g1, rfl, a1⟩ | ⟨s, g1, rfl, a1⟩⟩ := m_sign tx hk (show 59 < 128 by omega) h
  · have le := sgE_ok hk g1
    rw [e1, bq2_s, if_neg ne10, show gF A 28 = nI n from a1.2.1.trans h28, nI_1]
    exact Or.inl ⟨e, a, b, g, r, pF A 28 (nI (n + 1)), p78_o g1 a b g r, le.1, ⟨a1.1.1, fun j hj => (pF_n _ _ (by omega)).trans (a1.1.2 j hj)⟩, (pF_n _ _ (by omega)).trans a1.2.2.1, pF_s _ _ _, rfl⟩
  · have le := sgE_er hk g1
    rw [e1, bq2_s, if_pos rfl]
    exact Or.inr ⟨s, A, p78_e g1 a b g r, le.1, a1.1, a1.2.2.2, rfl⟩
theorem m_p57 {B S : St} {c : Nat → Nat} {z k n : Nat} {tk : Int32} (tx : MTx B c z) (hk : k ≤ z) (h28 : B.1 28 = nI n) (h : MP B S k tk) (x1 : Int32) (a b g : Nat) : MO B n z x1 (fX7_readsParcel_98 S x1 (nI a) (nI b) (nI g) 0) (p57 c z k a b g) := by
  unfold fX7_readsParcel_98
  rw [show (42 : Int32) = nI 42 from rfl, show (99 : Int32) = nI 100 - 1 from rfl]
  obtain ⟨q, A, e1, ⟨e, t2, g1, rfl, a1⟩ | ⟨s, g1, rfl, a1⟩⟩ := m_sign tx hk (show 42 < 128 by omega) h
  · have le := sgE_ok hk g1
    rw [e1, bq2_s, if_neg ne10]
    obtain ⟨q, V, e2, ⟨e', v, t3, k1, rfl, k2, k3⟩ | ⟨f, kk, k1, rfl, k3⟩⟩ := m_number tx le.1 (show 100 ≤ 100 by omega) a1
    · have le2 := nuE_ok le.1 k1
      rw [e2, bq2_s, if_neg ne10, p57_o g1 k1, show gF V 27 = nI v from k2]
      exact m_p78 tx le2.1 h28 k3 x1 a b g v
    · have le2 := nuE_er le.1 k1
      rw [e2, bq2_s, if_pos rfl, p57_n g1 k1]
      exact Or.inr ⟨f, V, rfl, le2, k3.1, k3.2.2.2, rfl⟩
  · have le := sgE_er hk g1
    rw [e1, bq2_s, if_pos rfl, p57_e g1]
    exact m_p78 tx le.1 h28 a1 x1 a b g 0
theorem m_parcel {B : St} {c : Nat → Nat} {z k n : Nat} {tk : Int32} {t : Tk} (ok : TkOK t) (tx : MTx B c z) (hk : k ≤ z) (hs : sk c z k = k) (hn : n < 16) (h1 : B.1 1 = nI (tD t)) (h28 : B.1 28 = nI n) (h : MP B B k tk) (x1 : Int32) : MO B n z x1 (fX7_readsParcel B x1) (pcE c z (tD t) k) := by
  have hz := tx.1
  have h16 := two_le ok.2.1
  have hl : 2 ^ tD t ≤ 100 := by omega
  unfold fX7_readsParcel
  obtain ⟨W, e0, w1⟩ := m_skip tx hk h
  rw [hs] at w1
  have cn : ∀ {V : St}, MQq B V → fX7_corners V = some (nI (2 ^ tD t)) := fun v => m_corners ok ((v.2 1 (by omega)).trans h1)
  rw [e0, bq1_s, show gF W 28 = nI n from w1.2.1.trans h28, if_neg (show ¬ nI n = (16 : Int32) from nI_c (c := 16) (by omega) (by omega) (by omega)), cn w1.1, bq1_s, show (62 : Int32) = nI 62 from rfl, show (47 : Int32) = nI 47 from rfl]
  obtain ⟨r, A, e1, ⟨k1, a, t1, g1, rfl, b1, a1⟩ | ⟨f, k2, g1, rfl, a1⟩⟩ := m_number tx hk hl w1
  · have l1 := nuE_ok hk g1
    rw [e1, bq2_s, if_neg ne10, pcE_o g1, show gF A 27 = nI a from b1]
    obtain ⟨r, C, e2, ⟨k2, t2, g2, rfl, a2⟩ | ⟨s, g2, rfl, a2⟩⟩ := m_sign tx l1.1 (show 62 < 128 by omega) a1
    · have l2 := sgE_ok l1.1 g2
      rw [e2, bq2_s, if_neg ne10, cn a2.1, bq1_s]
      obtain ⟨r, D, e3, ⟨k3, b, t3, g3, rfl, b3, a3⟩ | ⟨f, kk, g3, rfl, a3⟩⟩ := m_number tx l2.1 hl a2
      · have l3 := nuE_ok l2.1 g3
        rw [e3, bq2_s, if_neg ne10, p62_o g2 g3, show gF D 27 = nI b from b3]
        obtain ⟨r, E, e4, ⟨k4, t4, g4, rfl, a4⟩ | ⟨s, g4, rfl, a4⟩⟩ := m_sign tx l3.1 (show 47 < 128 by omega) a3
        · have l4 := sgE_ok l3.1 g4
          rw [e4, bq2_s, if_neg ne10, cn a4.1, bq1_s]
          obtain ⟨r, F, e5, ⟨k5, g, t5, g5, rfl, b5, a5⟩ | ⟨f, kk, g5, rfl, a5⟩⟩ := m_number tx l4.1 hl a4
          · have l5 := nuE_ok l4.1 g5
            rw [e5, bq2_s, if_neg ne10, p47_o g4 g5, show gF F 27 = nI g from b5]
            exact m_p57 tx l5.1 h28 a5 x1 a b g
          · rw [e5, bq2_s, if_pos rfl, p47_n g4 g5]
            exact Or.inr ⟨f, F, rfl, nuE_er l4.1 g5, a5.1, a5.2.2.2, rfl⟩
        · have l4 := sgE_er l3.1 g4
          rw [e4, bq2_s, if_pos rfl, p47_e g4]
          exact m_p57 tx l4.1 h28 a4 x1 a b a
      · rw [e3, bq2_s, if_pos rfl, p62_n g2 g3]
        exact Or.inr ⟨f, D, rfl, nuE_er l2.1 g3, a3.1, a3.2.2.2, rfl⟩
    · rw [e2, bq2_s, if_pos rfl, p62_e g2]
      exact Or.inr ⟨s, C, rfl, (sgE_er l1.1 g2).1, a2.1, a2.2.2.2, rfl⟩
  · rw [e1, bq2_s, if_pos rfl, pcE_e g1]
    exact Or.inr ⟨f, A, rfl, nuE_er hk g1, a1.1, a1.2.2.2, rfl⟩
