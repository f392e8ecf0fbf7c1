/-! A run as numbers. -/
def allb (P : Nat → Bool) : Nat → Bool
  | 0 => true
  | n + 1 => allb P n && P n
theorem allb_iff (P : Nat → Bool) : ∀ n, allb P n = true ↔ ∀ k, k < n → P k = true
  | 0 => by simp [allb]
  | n + 1 => by
    show (allb P n && P n) = true ↔ _
    rw [Bool.and_eq_true, allb_iff P n]
    constructor
    · rintro ⟨h1, h2⟩ k hk
      by_cases e : k = n
      · subst e; exact h2
      · exact h1 k (by omega)
    · intro h
      exact ⟨fun k hk => h k (by omega), h n (by omega)⟩
abbrev Rq : Type := (Nat → Nat) × (Nat → Nat) × (Nat → Nat) × (Nat → Nat) × Nat × Nat
abbrev rG (r : Rq) : Nat → Nat := r.1
abbrev rC (r : Rq) : Nat → Nat := r.2.1
abbrev rH (r : Rq) : Nat → Nat := r.2.2.1
abbrev rD (r : Rq) : Nat → Nat := r.2.2.2.1
abbrev rK (r : Rq) : Nat := r.2.2.2.2.1
abbrev rM (r : Rq) : Nat := r.2.2.2.2.2
def hmB (t : Tk) (r : Rq) (p : Nat) : Bool := decide ((wyP t p).2.1 ≤ rG r p)
def edg (t : Tk) (r : Rq) (p : Nat) : Nat := (wyP t p).2.2 (rG r p)
def wnt (t : Tk) (r : Rq) (e q : Nat) : Bool := !hmB t r q && decide (edg t r q = e)
def lgN (t : Tk) (r : Rq) (p : Nat) : Nat := if (wyP t p).1 ≤ rG r p then 2 else 1
def uU (t : Tk) (l : Nat) (r : Rq) (p q : Nat) : Nat := if l = 0 then rC r q else if l = 2 then (wyP t p).2.1 - rG r p else if l = 3 then lgN t r p else 0
def ahd (t : Tk) (l : Nat) (r : Rq) (p q : Nat) : Bool := if uU t l r p q = uU t l r q p then (if tT t p 3 = tT t q 3 then decide (p < q) else decide (tT t q 3 < tT t p 3)) else decide (uU t l r q p < uU t l r p q)
theorem ahd_as {t : Tk} {l : Nat} {r : Rq} {p q : Nat} (h1 : ahd t l r p q = true) (h2 : ahd t l r q p = true) : False := by
  unfold ahd at h1 h2
  generalize uU t l r p q = a at *
  generalize uU t l r q p = b at *
  generalize tT t p 3 = c at *
  generalize tT t q 3 = d at *
  by_cases e : a = b
  · rw [if_pos e] at h1
    rw [if_pos e.symm] at h2
    by_cases g : c = d
    · rw [if_pos g] at h1
      rw [if_pos g.symm] at h2
      have := of_decide_eq_true h1
      have := of_decide_eq_true h2
      omega
    · rw [if_neg g] at h1
      rw [if_neg (Ne.symm g)] at h2
      have := of_decide_eq_true h1
      have := of_decide_eq_true h2
      omega
  · rw [if_neg e] at h1
    rw [if_neg (Ne.symm e)] at h2
    have := of_decide_eq_true h1
    have := of_decide_eq_true h2
    omega
theorem ahd_to {t : Tk} {l : Nat} {r : Rq} {p q : Nat} (hpq : p ≠ q) (h1 : ¬ ahd t l r p q = true) : ahd t l r q p = true := by
  unfold ahd at h1 ⊢
  generalize uU t l r p q = a at *
  generalize uU t l r q p = b at *
  generalize tT t p 3 = c at *
  generalize tT t q 3 = d at *
  by_cases e : a = b
  · rw [if_pos e] at h1
    rw [if_pos e.symm]
    by_cases g : c = d
    · rw [if_pos g] at h1
      rw [if_pos g.symm]
      have : ¬ p < q := fun z => h1 (decide_eq_true z)
      exact decide_eq_true (by omega)
    · rw [if_neg g] at h1
      rw [if_neg (Ne.symm g)]
      have : ¬ d < c := fun z => h1 (decide_eq_true z)
      exact decide_eq_true (by omega)
  · rw [if_neg e] at h1
    rw [if_neg (Ne.symm e)]
    have : ¬ b < a := fun z => h1 (decide_eq_true z)
    exact decide_eq_true (by omega)
theorem ahd_iff (t : Tk) (l : Nat) (r : Rq) (p q : Nat) : ahd t l r p q = true ↔ (uU t l r q p < uU t l r p q ∨ (uU t l r p q = uU t l r q p ∧ (tT t q 3 < tT t p 3 ∨ (tT t p 3 = tT t q 3 ∧ p < q)))) := by
  unfold ahd
  by_cases e : uU t l r p q = uU t l r q p
  · rw [if_pos e]
    by_cases g : tT t p 3 = tT t q 3
    · rw [if_pos g, decide_eq_true_iff]; omega
    · rw [if_neg g, decide_eq_true_iff]; omega
  · rw [if_neg e, decide_eq_true_iff]; omega
theorem ahd_tr {t : Tk} {l : Nat} {r : Rq} {p q s : Nat} (h1 : ahd t l r p q = true) (h2 : ahd t l r q s = true) : ahd t l r p s = true := by
  rw [ahd_iff] at *
  unfold uU at *
  by_cases l0 : l = 0
  · rw [if_pos l0, if_pos l0] at *; omega
  · rw [if_neg l0, if_neg l0] at *
    by_cases l2 : l = 2
    · rw [if_pos l2, if_pos l2] at *; omega
    · rw [if_neg l2, if_neg l2] at *
      by_cases l3 : l = 3
      · rw [if_pos l3, if_pos l3] at *; omega
      · rw [if_neg l3, if_neg l3] at *; omega
def wnN (P : Nat → Bool) (A : Nat → Nat → Bool) : Nat → Option Nat
  | 0 => none
  | k + 1 => if P k = true then (match wnN P A k with
    | none => some k
    | some w => if A k w = true then some k else some w) else wnN P A k
theorem wnN_no {P : Nat → Bool} {A : Nat → Nat → Bool} : ∀ n, wnN P A n = none → ∀ q, q < n → P q = false
  | 0, _, q, hq => absurd hq (Nat.not_lt_zero _)
  | n + 1, h, q, hq => by
    unfold wnN at h
    by_cases hp : P n = true
    · rw [if_pos hp] at h
      cases hw : wnN P A n with
      | none => rw [hw] at h; exact absurd h (by simp)
      | some w =>
        rw [hw] at h
        dsimp only at h
        split at h <;> exact absurd h (by simp)
    · rw [if_neg hp] at h
      by_cases e : q = n
      · rw [e]; simpa using hp
      · exact wnN_no n h q (by omega)
theorem wnN_ok {t : Tk} {l : Nat} {r : Rq} {P : Nat → Bool} : ∀ n w, wnN P (ahd t l r) n = some w → w < n ∧ P w = true ∧ ∀ q, q < n → P q = true → q = w ∨ ahd t l r w q = true
  | 0, w, h => by exact absurd h (by simp [wnN])
  | n + 1, w, h => by
    unfold wnN at h
    by_cases hp : P n = true
    · rw [if_pos hp] at h
      cases hw : wnN P (ahd t l r) n with
      | none =>
        rw [hw] at h
        have : n = w := by simpa using h
        subst this
        refine ⟨by omega, hp, fun q hq hPq => ?_⟩
        by_cases e : q = n
        · exact Or.inl e
        · have := wnN_no n hw q (by omega)
          rw [this] at hPq
          exact absurd hPq (by decide)
      | some v =>
        obtain ⟨i1, i2, i3⟩ := wnN_ok n v hw
        rw [hw] at h
        dsimp only at h
        by_cases ha : ahd t l r n v = true
        · rw [if_pos ha] at h
          have : n = w := by simpa using h
          subst this
          refine ⟨by omega, hp, fun q hq hPq => ?_⟩
          by_cases e : q = n
          · exact Or.inl e
          · rcases i3 q (by omega) hPq with h1 | h1
            · rw [h1]; exact Or.inr ha
            · exact Or.inr (ahd_tr ha h1)
        · rw [if_neg ha] at h
          have : v = w := by simpa using h
          subst this
          refine ⟨by omega, i2, fun q hq hPq => ?_⟩
          by_cases e : q = n
          · rw [e]; exact Or.inr (ahd_to (by omega) ha)
          · exact i3 q (by omega) hPq
    · rw [if_neg hp] at h
      obtain ⟨i1, i2, i3⟩ := wnN_ok n w h
      refine ⟨by omega, i2, fun q hq hPq => ?_⟩
      by_cases e : q = n
      · rw [e] at hPq; exact absurd hPq hp
      · exact i3 q (by omega) hPq
def goB (t : Tk) (l : Nat) (r : Rq) (p : Nat) : Bool := allb (fun q => !(wnt t r (edg t r p) q) || (decide (q = p) || ahd t l r p q)) (tN t)
theorem goB_iff (t : Tk) (l : Nat) (r : Rq) (p : Nat) : goB t l r p = true ↔ ∀ q, q < tN t → wnt t r (edg t r p) q = true → q = p ∨ ahd t l r p q = true := by
  unfold goB
  rw [allb_iff]
  constructor
  · intro h q hq hw
    have := h q hq
    rw [hw] at this
    simpa using this
  · intro h q hq
    cases hw : wnt t r (edg t r p) q with
    | false => rfl
    | true => simpa using h q hq hw
theorem wn_go {t : Tk} {l : Nat} {r : Rq} {p : Nat} (hp : p < tN t) (hh : hmB t r p = false) : (wnN (wnt t r (edg t r p)) (ahd t l r) (tN t) = some p) ↔ goB t l r p = true := by
  have hw : wnt t r (edg t r p) p = true := by unfold wnt; rw [hh]; simp
  constructor
  · intro h
    rw [goB_iff]
    exact (wnN_ok _ _ h).2.2
  · intro h
    rw [goB_iff] at h
    cases hc : wnN (wnt t r (edg t r p)) (ahd t l r) (tN t) with
    | none =>
      have := wnN_no _ hc p hp
      rw [hw] at this
      exact absurd this (by decide)
    | some w =>
      obtain ⟨i1, i2, i3⟩ := wnN_ok _ _ hc
      rcases i3 p hp hw with e | e
      · rw [e]
      · rcases h w i1 i2 with e2 | e2
        · rw [e2]
        · exact absurd (ahd_as e e2) not_false
/-- one goes, where one wants -/
theorem some_go {t : Tk} (l : Nat) {r : Rq} {p : Nat} (hp : p < tN t) (hh : hmB t r p = false) : ∃ w, w < tN t ∧ hmB t r w = false ∧ goB t l r w = true := by
  have hw : wnt t r (edg t r p) p = true := by unfold wnt; rw [hh]; simp
  cases hc : wnN (wnt t r (edg t r p)) (ahd t l r) (tN t) with
  | none =>
    have := wnN_no _ hc p hp
    rw [hw] at this
    exact absurd this (by decide)
  | some w =>
    obtain ⟨i1, i2, i3⟩ := wnN_ok _ _ hc
    have h1 : hmB t r w = false ∧ edg t r w = edg t r p := by
      unfold wnt at i2
      simpa using i2
    refine ⟨w, i1, h1.1, ?_⟩
    rw [goB_iff, h1.2]
    exact i3
def mxM (t : Tk) (r : Rq) : Nat → Nat
  | 0 => rM r
  | k + 1 => if hmB t r k = true then mxM t r k else if mxM t r k < cntb (wnt t r (edg t r k)) (tN t) then cntb (wnt t r (edg t r k)) (tN t) else mxM t r k
def mxX (t : Tk) (r : Rq) : Nat → Nat
  | 0 => rM r
  | k + 1 => if hmB t r k = true then mxX t r k else if mxX t r k < cntb (wnt t r (edg t r k)) (k + 1) then cntb (wnt t r (edg t r k)) (k + 1) else mxX t r k
theorem mxM_iff (t : Tk) (r : Rq) (v : Nat) : ∀ n, mxM t r n ≤ v ↔ rM r ≤ v ∧ ∀ k, k < n → hmB t r k = false → cntb (wnt t r (edg t r k)) (tN t) ≤ v
  | 0 => by
    show rM r ≤ v ↔ _
    exact ⟨fun h => ⟨h, fun k hk => absurd hk (Nat.not_lt_zero _)⟩, fun h => h.1⟩
  | n + 1 => by
    have ih := mxM_iff t r v n
    unfold mxM
    by_cases hh : hmB t r n = true
    · rw [if_pos hh, ih]
      constructor
      · rintro ⟨a, b⟩
        refine ⟨a, fun k hk hm => ?_⟩
        by_cases e : k = n
        · rw [e, hh] at hm; exact absurd hm (by decide)
        · exact b k (by omega) hm
      · rintro ⟨a, b⟩
        exact ⟨a, fun k hk hm => b k (by omega) hm⟩
    · rw [if_neg hh]
      have hh2 : hmB t r n = false := by simpa using hh
      constructor
      · intro h
        have h1 : mxM t r n ≤ v ∧ cntb (wnt t r (edg t r n)) (tN t) ≤ v := by split at h <;> omega
        obtain ⟨a, b⟩ := ih.mp h1.1
        refine ⟨a, fun k hk hm => ?_⟩
        by_cases e : k = n
        · rw [e]; exact h1.2
        · exact b k (by omega) hm
      · rintro ⟨a, b⟩
        have h1 := ih.mpr ⟨a, fun k hk hm => b k (by omega) hm⟩
        have h2 := b n (by omega) hh2
        split <;> omega
theorem mxX_iff (t : Tk) (r : Rq) (v : Nat) : ∀ n, mxX t r n ≤ v ↔ rM r ≤ v ∧ ∀ k, k < n → hmB t r k = false → cntb (wnt t r (edg t r k)) (k + 1) ≤ v
  | 0 => by
    show rM r ≤ v ↔ _
    exact ⟨fun h => ⟨h, fun k hk => absurd hk (Nat.not_lt_zero _)⟩, fun h => h.1⟩
  | n + 1 => by
    have ih := mxX_iff t r v n
    unfold mxX
    by_cases hh : hmB t r n = true
    · rw [if_pos hh, ih]
      constructor
      · rintro ⟨a, b⟩
        refine ⟨a, fun k hk hm => ?_⟩
        by_cases e : k = n
        · rw [e, hh] at hm; exact absurd hm (by decide)
        · exact b k (by omega) hm
      · rintro ⟨a, b⟩
        exact ⟨a, fun k hk hm => b k (by omega) hm⟩
    · rw [if_neg hh]
      have hh2 : hmB t r n = false := by simpa using hh
      constructor
      · intro h
        have h1 : mxX t r n ≤ v ∧ cntb (wnt t r (edg t r n)) (n + 1) ≤ v := by split at h <;> omega
        obtain ⟨a, b⟩ := ih.mp h1.1
        refine ⟨a, fun k hk hm => ?_⟩
        by_cases e : k = n
        · rw [e]; exact h1.2
        · exact b k (by omega) hm
      · rintro ⟨a, b⟩
        have h1 := ih.mpr ⟨a, fun k hk hm => b k (by omega) hm⟩
        have h2 := b n (by omega) hh2
        split <;> omega
theorem cntb_mono (P : Nat → Bool) (a : Nat) : ∀ k, cntb P a ≤ cntb P (a + k)
  | 0 => Nat.le_refl _
  | k + 1 => Nat.le_trans (cntb_mono P a k) (by show cntb P (a + k) ≤ cntb P (a + k) + _; omega)
theorem cntb_last {P : Nat → Bool} {v : Nat} : ∀ n, (∀ q, q < n → P q = true → cntb P (q + 1) ≤ v) → cntb P n ≤ v
  | 0, _ => Nat.zero_le _
  | n + 1, h => by
    by_cases hp : P n = true
    · exact h n (by omega) hp
    · have := cntb_last n (fun q hq => h q (by omega))
      show cntb P n + (if P n = true then 1 else 0) ≤ v
      rw [if_neg hp]
      omega
theorem mx_same (t : Tk) (r : Rq) : mxX t r (tN t) = mxM t r (tN t) := by
  apply Nat.le_antisymm
  · obtain ⟨a, b⟩ := (mxM_iff t r _ (tN t)).mp (Nat.le_refl _)
    refine (mxX_iff t r _ (tN t)).mpr ⟨a, fun k hk hm => Nat.le_trans ?_ (b k hk hm)⟩
    have := cntb_mono (wnt t r (edg t r k)) (k + 1) (tN t - (k + 1))
    rw [show k + 1 + (tN t - (k + 1)) = tN t by omega] at this
    exact this
  · obtain ⟨a, b⟩ := (mxX_iff t r _ (tN t)).mp (Nat.le_refl _)
    refine (mxM_iff t r _ (tN t)).mpr ⟨a, fun k hk hm => cntb_last _ fun q hq hw => ?_⟩
    have h1 : hmB t r q = false ∧ edg t r q = edg t r k := by
      unfold wnt at hw
      simpa using hw
    have := b q hq h1.1
    rw [h1.2] at this
    exact this
def mvB (t : Tk) (l : Nat) (r : Rq) (p : Nat) : Bool := !hmB t r p && goB t l r p
def gU (t : Tk) (l : Nat) (r : Rq) (p : Nat) : Nat := if mvB t l r p = true then rG r p + 1 else rG r p
def cU (t : Tk) (l : Nat) (r : Rq) (p : Nat) : Nat := if mvB t l r p = true then rK r + 1 else rC r p
def hU (t : Tk) (l : Nat) (r : Rq) (p : Nat) : Nat := if mvB t l r p = true then rK r + 1 else rH r p
def dU (t : Tk) (l : Nat) (r : Rq) (p : Nat) : Nat := if hmB t r p = true then rD r p else if goB t l r p = true then rD r p else rD r p + 1
def tick (t : Tk) (l : Nat) (r : Rq) : Rq := (gU t l r, cU t l r, hU t l r, dU t l r, rK r + 1, mxM t r (tN t))
def RnOK (t : Tk) (r : Rq) : Prop := (∀ p, p < tN t → rG r p ≤ (wyP t p).2.1) ∧ (∀ p, rC r p ≤ rK r ∧ rH r p ≤ rK r ∧ rD r p ≤ rK r) ∧ rK r ≤ sumN (rG r) (tN t) ∧ rM r ≤ 16
theorem sumN_lt {g h : Nat → Nat} : ∀ n, (∀ q, q < n → g q ≤ h q) → sumN g n ≤ sumN h n ∧ ((∃ q, q < n ∧ g q < h q) → sumN g n + 1 ≤ sumN h n)
  | 0, _ => ⟨Nat.le_refl _, by rintro ⟨q, hq, -⟩; exact absurd hq (Nat.not_lt_zero _)⟩
  | n + 1, e => by
    obtain ⟨a, b⟩ := sumN_lt n (fun q hq => e q (by omega))
    have h1 := e n (by omega)
    show sumN g n + g n ≤ sumN h n + h n ∧ (_ → sumN g n + g n + 1 ≤ sumN h n + h n)
    refine ⟨by omega, ?_⟩
    rintro ⟨q, hq, hlt⟩
    by_cases eq : q = n
    · rw [eq] at hlt; omega
    · have := b ⟨q, by omega, hlt⟩
      omega
theorem RnOK.le {t : Tk} (ok : TkOK t) {r : Rq} (h : RnOK t r) : rK r ≤ 128 ∧ (allb (hmB t r) (tN t) = false → rK r < 128) := by
  have hn := ok.2.2.2.2.1
  have hd := ok.2.1
  obtain ⟨h1, h2, h3, h4⟩ := h
  have l1 : sumN (fun p => (wyP t p).2.1) (tN t) ≤ tN t * 8 := sumN_le _ fun p hp => by have := (wyP_ok ok hp).1; omega
  obtain ⟨a, b⟩ := sumN_lt (g := rG r) (h := fun p => (wyP t p).2.1) (tN t) h1
  refine ⟨by omega, fun hf => ?_⟩
  have : ¬ ∀ k, k < tN t → hmB t r k = true := fun z => by rw [(allb_iff _ _).mpr z] at hf; exact absurd hf (by decide)
  have := b (Classical.byContradiction fun hno => this fun k hk => decide_eq_true (Nat.le_of_not_lt fun hlt => hno ⟨k, hk, hlt⟩))
  omega
theorem tick_ok {t : Tk} (ok : TkOK t) (l : Nat) {r : Rq} (h : RnOK t r) (hf : allb (hmB t r) (tN t) = false) : RnOK t (tick t l r) := by
  have hn := ok.2.2.2.2.1
  obtain ⟨h1, h2, h3, h4⟩ := h
  refine ⟨fun p hp => ?_, fun p => ?_, ?_, ?_⟩
  · show gU t l r p ≤ _
    have := h1 p hp
    unfold gU mvB hmB
    split
    · rename_i q
      simp at q
      omega
    · exact this
  · obtain ⟨a, b, c⟩ := h2 p
    show cU t l r p ≤ rK r + 1 ∧ hU t l r p ≤ rK r + 1 ∧ dU t l r p ≤ rK r + 1
    unfold cU hU dU
    refine ⟨?_, ?_, ?_⟩
    · split <;> omega
    · split <;> omega
    · split
      · omega
      · split <;> omega
  · show rK r + 1 ≤ sumN (gU t l r) (tN t)
    obtain ⟨a, b⟩ := sumN_lt (g := rG r) (h := gU t l r) (tN t) (fun q _ => by unfold gU; split <;> omega)
    have : ¬ ∀ k, k < tN t → hmB t r k = true := fun z => by rw [(allb_iff _ _).mpr z] at hf; exact absurd hf (by decide)
    obtain ⟨p, hp, hh⟩ : ∃ p, p < tN t ∧ hmB t r p = false := Classical.byContradiction fun hno => this fun k hk => by
      cases hc : hmB t r k with
      | true => rfl
      | false => exact absurd ⟨k, hk, hc⟩ hno
    obtain ⟨w, w1, w2, w3⟩ := some_go l hp hh
    have := b ⟨w, w1, by unfold gU mvB; rw [w2, w3]; simp⟩
    omega
  · show mxM t r (tN t) ≤ 16
    exact (mxM_iff t r 16 (tN t)).mpr ⟨h4, fun k hk hm => by have := cntb_le (wnt t r (edg t r k)) (tN t); omega⟩
def rn0 : Rq := (fun _ => 0, fun _ => 0, fun _ => 0, fun _ => 0, 0, 0)
def rn (t : Tk) (l : Nat) : Nat → Rq
  | 0 => rn0
  | k + 1 => if allb (hmB t (rn t l k)) (tN t) = true then rn t l k else tick t l (rn t l k)
theorem rn_ok {t : Tk} (ok : TkOK t) (l : Nat) : ∀ k, RnOK t (rn t l k) ∧ (allb (hmB t (rn t l k)) (tN t) = false → rK (rn t l k) = k) ∧ rK (rn t l k) ≤ k
  | 0 => ⟨⟨fun _ _ => Nat.zero_le _, fun _ => ⟨Nat.le_refl _, Nat.le_refl _, Nat.le_refl _⟩, Nat.zero_le _, by show 0 ≤ 16; omega⟩, fun _ => rfl, Nat.le_refl _⟩
  | k + 1 => by
    obtain ⟨a, b, c⟩ := rn_ok ok l k
    unfold rn
    by_cases h : allb (hmB t (rn t l k)) (tN t) = true
    · rw [if_pos h]
      exact ⟨a, fun z => by rw [h] at z; exact absurd z (by decide), by omega⟩
    · rw [if_neg h]
      have h2 : allb (hmB t (rn t l k)) (tN t) = false := by simpa using h
      have := b h2
      exact ⟨tick_ok ok l a h2, fun _ => by show rK (rn t l k) + 1 = k + 1; omega, by show rK (rn t l k) + 1 ≤ k + 1; omega⟩
theorem rn_stay {t : Tk} {l k : Nat} (h : allb (hmB t (rn t l k)) (tN t) = true) : ∀ j, rn t l (k + j) = rn t l k
  | 0 => rfl
  | j + 1 => by
    have ih := rn_stay h j
    show (if allb (hmB t (rn t l (k + j))) (tN t) = true then rn t l (k + j) else tick t l (rn t l (k + j))) = _
    rw [ih, if_pos h]
theorem rn_to {t : Tk} {l k m : Nat} (h : allb (hmB t (rn t l k)) (tN t) = true) (hm : k ≤ m) : rn t l m = rn t l k := by
  have := rn_stay h (m - k)
  rw [show k + (m - k) = m by omega] at this
  exact this
theorem rn_128 {t : Tk} (ok : TkOK t) (l : Nat) : allb (hmB t (rn t l 128)) (tN t) = true := by
  obtain ⟨a, b, c⟩ := rn_ok ok l 128
  cases h : allb (hmB t (rn t l 128)) (tN t) with
  | true => rfl
  | false =>
    have := b h
    have := (a.le ok).2 h
    omega
theorem rn_end {t : Tk} (ok : TkOK t) (l : Nat) {m : Nat} (hm : 128 ≤ m) : rn t l m = rn t l 128 := rn_to (rn_128 ok l) hm
