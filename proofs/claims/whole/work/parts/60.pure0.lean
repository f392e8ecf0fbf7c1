/-! Pure rows: reads and writes by natural numbers, checks, loops; the data that both states stand for. -/
theorem bq1_s {A1 B : Type} (a : A1) (k : A1 → Option B) : bq1 (some a) k = k a := rfl
theorem bq2_s {A1 A2 B : Type} (a : A1) (b : A2) (k : A1 → A2 → Option B) : bq2 (some (a, b)) k = k a b := rfl
theorem bq3_s {A1 A2 A3 B : Type} (a : A1) (b : A2) (c : A3) (k : A1 → A2 → A3 → Option B) : bq3 (some (a, b, c)) k = k a b c := rfl
theorem bq4_s {A1 A2 A3 A4 B : Type} (a : A1) (b : A2) (c : A3) (d : A4) (k : A1 → A2 → A3 → A4 → Option B) : bq4 (some (a, b, c, d)) k = k a b c d := rfl
theorem bq5_s {A1 A2 A3 A4 A5 B : Type} (a : A1) (b : A2) (c : A3) (d : A4) (e : A5) (k : A1 → A2 → A3 → A4 → A5 → Option B) : bq5 (some (a, b, c, d, e)) k = k a b c d e := rfl
theorem chk_n {α : Type} {i n : Nat} {k : Option α} (h : i < n) (hn : n < 2 ^ 31) : chk (nI i) n k = k := chk_ok (vp_in_nI h hn)
theorem chk_l {α : Type} {i : Int32} {n : Nat} {k : Option α} (h : decide (¬ (i < 0 ∨ n ≤ i.toNatClampNeg)) = true) : chk i n k = k := chk_ok (in_lit h)
theorem zb_0 {α : Type} {k : Option α} : zb 0 k = k := if_pos (Or.inl rfl)
theorem zb_1 {α : Type} {k : Option α} : zb 1 k = k := if_pos (Or.inr rfl)
theorem nz_n {α : Type} {i : Nat} {k : Option α} (h : 0 < i) (hn : i < 2 ^ 31) : nz (nI i) k = k := if_neg (nI_ne0 h hn)
theorem gR_n {S : St} {k i : Nat} (h : i < 2 ^ 31) : gR S k (nI i) = S.2.1 k i := by unfold gR; rw [nI_clamp h]
theorem gR_0 {S : St} {k : Nat} : gR S k 0 = S.2.1 k 0 := gR_n (i := 0) (by omega)
theorem gR_1 {S : St} {k : Nat} : gR S k 1 = S.2.1 k 1 := gR_n (i := 1) (by omega)
theorem gR_2 {S : St} {k : Nat} : gR S k 2 = S.2.1 k 2 := gR_n (i := 2) (by omega)
def pN (S : St) (k i : Nat) (v : Int32) : St := (S.1, fun a b => if a = k ∧ b = i then v else S.2.1 a b, S.2.2)
theorem pR_n {S : St} {k i : Nat} {v : Int32} (h : i < 2 ^ 31) : pR S k (nI i) v = pN S k i v := by
  unfold pR pN
  rw [nI_clamp h]
  refine Prod.ext rfl (Prod.ext ?_ rfl)
  funext a b
  show (if a = k then upd (S.2.1 k) i v else S.2.1 a) b = _
  by_cases ha : a = k
  · subst ha
    by_cases hb : b = i
    · subst hb; simp [upd]
    · simp [upd, hb]
  · simp [ha]
theorem pR_0 {S : St} {k : Nat} {v : Int32} : pR S k 0 v = pN S k 0 v := pR_n (i := 0) (by omega)
theorem pR_1 {S : St} {k : Nat} {v : Int32} : pR S k 1 v = pN S k 1 v := pR_n (i := 1) (by omega)
theorem pR_2 {S : St} {k : Nat} {v : Int32} : pR S k 2 v = pN S k 2 v := pR_n (i := 2) (by omega)
theorem pN_1 (S : St) (k i : Nat) (v : Int32) : (pN S k i v).1 = S.1 := rfl
theorem pN_E (S : St) (k i : Nat) (v : Int32) : (pN S k i v).2.2 = S.2.2 := rfl
theorem pN_2 (S : St) (k i : Nat) (v : Int32) (a b : Nat) : (pN S k i v).2.1 a b = if a = k ∧ b = i then v else S.2.1 a b := rfl
theorem pN_s (S : St) (k i : Nat) (v : Int32) : (pN S k i v).2.1 k i = v := if_pos ⟨rfl, rfl⟩
theorem pN_k (S : St) {k i : Nat} (v : Int32) {a b : Nat} (h : a ≠ k) : (pN S k i v).2.1 a b = S.2.1 a b := if_neg fun q => h q.1
theorem pN_i (S : St) {k i : Nat} (v : Int32) {a b : Nat} (h : b ≠ i) : (pN S k i v).2.1 a b = S.2.1 a b := if_neg fun q => h q.2
theorem pF_1 (S : St) (k : Nat) (v : Int32) (j : Nat) : (pF S k v).1 j = if j = k then v else S.1 j := rfl
theorem pF_s (S : St) (k : Nat) (v : Int32) : (pF S k v).1 k = v := if_pos rfl
theorem pF_n (S : St) {k : Nat} (v : Int32) {j : Nat} (h : j ≠ k) : (pF S k v).1 j = S.1 j := if_neg h
theorem pF_2 (S : St) (k : Nat) (v : Int32) : (pF S k v).2 = S.2 := rfl
theorem gF_e (S : St) (k : Nat) : gF S k = S.1 k := rfl
theorem lp_up {σ : Type} {f : σ → Option (Bool × σ)} (I : Nat → σ → Prop) (N : Nat) (hs : ∀ k s, k < N → I k s → ∃ s2, f s = some (true, s2) ∧ I (k + 1) s2) (hx : ∀ s, I N s → f s = some (false, s)) : ∀ (n k : Nat) (s : σ), k ≤ N → N - k < n → I k s → ∃ s2, lp f n s = some s2 ∧ I N s2 := by
  intro n
  induction n with
  | zero => intro k s h1 h2; omega
  | succ n ih =>
    intro k s h1 h2 hI
    rcases Nat.lt_or_ge k N with h | h
    · obtain ⟨s2, e, hI2⟩ := hs k s h hI
      obtain ⟨s3, e3, hI3⟩ := ih (k + 1) s2 h (by omega) hI2
      refine ⟨s3, ?_, hI3⟩
      unfold lp
      rw [e]
      exact e3
    · have hk : k = N := by omega
      subst hk
      refine ⟨s, ?_, hI⟩
      unfold lp
      rw [hx s hI]
      rfl
/-- a loop that counts up to N ≤ 900 -/
theorem lp_fu {σ : Type} {f : σ → Option (Bool × σ)} (I : Nat → σ → Prop) (N : Nat) (hN : N < 1000) (s : σ) (h0 : I 0 s) (hs : ∀ k s, k < N → I k s → ∃ s2, f s = some (true, s2) ∧ I (k + 1) s2) (hx : ∀ s, I N s → f s = some (false, s)) : ∃ s2, lp f fu s = some s2 ∧ I N s2 := lp_up I N hs hx fu 0 s (Nat.zero_le _) (by show N - 0 < 1000; omega) h0
theorem lp_ms {σ : Type} {f : σ → Option (Bool × σ)} (I : Nat → σ → Prop) (J : σ → Prop) (hs : ∀ k s, I k s → (∃ s2, f s = some (false, s2) ∧ J s2) ∨ ∃ s2, f s = some (true, s2) ∧ ∃ k2, k2 < k ∧ I k2 s2) : ∀ (n k : Nat) (s : σ), k < n → I k s → ∃ s2, lp f n s = some s2 ∧ J s2 := by
  intro n
  induction n with
  | zero => intro k s h1; omega
  | succ n ih =>
    intro k s h1 hI
    rcases hs k s hI with ⟨s2, e, hJ⟩ | ⟨s2, e, k2, hk, hI2⟩
    · refine ⟨s2, ?_, hJ⟩
      unfold lp
      rw [e]
      rfl
    · obtain ⟨s3, e3, hJ⟩ := ih k2 s2 (by omega) hI2
      refine ⟨s3, ?_, hJ⟩
      unfold lp
      rw [e]
      exact e3
theorem lp_fm {σ : Type} {f : σ → Option (Bool × σ)} (I : Nat → σ → Prop) (J : σ → Prop) (k : Nat) (hk : k < 1000) (s : σ) (h0 : I k s) (hs : ∀ k s, I k s → (∃ s2, f s = some (false, s2) ∧ J s2) ∨ ∃ s2, f s = some (true, s2) ∧ ∃ k2, k2 < k ∧ I k2 s2) : ∃ s2, lp f fu s = some s2 ∧ J s2 := lp_ms I J hs fu k s hk h0
/-! The data: a task (sides, order, rule, count, traits), the states to go back to (newest first), the text, how often refused, the fraction. -/
abbrev Tk : Type := Nat × Nat × Nat × Nat × (Nat → Nat → Nat)
abbrev tD (t : Tk) : Nat := t.1
abbrev tO (t : Tk) : Nat := t.2.1
abbrev tR (t : Tk) : Nat := t.2.2.1
abbrev tN (t : Tk) : Nat := t.2.2.2.1
abbrev tT (t : Tk) : Nat → Nat → Nat := t.2.2.2.2
def TkOK (t : Tk) : Prop := 1 ≤ tD t ∧ tD t ≤ 4 ∧ tO t ≤ 1 ∧ tR t ≤ 3 ∧ tN t ≤ 16 ∧ (∀ p k, p < 16 → k < 4 → tT t p k < 100) ∧ ∀ p k, p < tN t → k < 3 → tT t p k < 2 ^ tD t
abbrev Da : Type := Tk × Nat × (Nat → Tk) × Nat × (Nat → Nat) × (Nat → Int32) × Int32 × Int32
abbrev aT (a : Da) : Tk := a.1
abbrev aC (a : Da) : Nat := a.2.1
abbrev aH (a : Da) : Nat → Tk := a.2.2.1
abbrev aZ (a : Da) : Nat := a.2.2.2.1
abbrev aX (a : Da) : Nat → Nat := a.2.2.2.2.1
abbrev aRf (a : Da) : Nat → Int32 := a.2.2.2.2.2.1
abbrev aAb (a : Da) : Int32 := a.2.2.2.2.2.2.1
abbrev aBe (a : Da) : Int32 := a.2.2.2.2.2.2.2
def DaOK (a : Da) : Prop := TkOK (aT a) ∧ aC a ≤ 6 ∧ (∀ i, i < aC a → TkOK (aH a i)) ∧ aZ a ≤ 120 ∧ ∀ i, i < aZ a → aX a i < 128
def XT (S : St) (j : Nat) (t : Tk) : Prop := S.1 (4 * j) = nI (tD t) ∧ S.1 (4 * j + 1) = nI (tO t) ∧ S.1 (4 * j + 2) = nI (tR t) ∧ S.1 (4 * j + 3) = nI (tN t) ∧ ∀ p k, p < 16 → k < 4 → S.2.1 j (4 * p + k) = nI (tT t p k)
def MT (S : St) (t : Tk) : Prop := S.1 1 = nI (tD t) ∧ S.2.1 1 0 = nI (tO t) ∧ S.2.1 1 1 = nI (tR t) ∧ S.1 2 = nI (tN t) ∧ ∀ p k, p < 16 → k < 4 → S.2.1 (2 + k) p = nI (tT t p k)
def MK (S : St) (i : Nat) (t : Tk) : Prop := S.2.1 6 (68 * i) = nI (tD t) ∧ S.2.1 6 (68 * i + 2) = nI (tO t) ∧ S.2.1 6 (68 * i + 3) = nI (tR t) ∧ S.2.1 6 (68 * i + 1) = nI (tN t) ∧ ∀ p k, p < 16 → k < 4 → S.2.1 6 (68 * i + 4 + 16 * k + p) = nI (tT t p k)
def XS (a : Da) (X : St) : Prop := XT X 0 (aT a) ∧ (∃ w, w < 6 ∧ X.1 30 = nI (aC a) ∧ X.1 31 = nI w ∧ ∀ i, i < aC a → XT X (1 + (w + 6 - i) % 6) (aH a i)) ∧ (∀ k, k < 3 → X.2.1 7 k = aRf a k) ∧ X.1 28 = aAb a ∧ X.1 29 = aBe a ∧ X.1 34 = nI (aZ a) ∧ ∀ i, i < aZ a → X.2.1 19 i = nI (aX a i)
def MS (a : Da) (M : St) : Prop := MT M (aT a) ∧ (M.1 8 = nI (aC a) ∧ ∀ i, i < aC a → MK M (aC a - 1 - i) (aH a i)) ∧ (∀ k, k < 3 → M.2.1 0 k = aRf a k) ∧ M.1 14 = aAb a ∧ M.1 15 = aBe a ∧ M.1 24 = nI (aZ a) ∧ ∀ i, i < aZ a → M.2.1 16 i = nI (aX a i)
def Sim (X M : St) : Prop := ∃ a, DaOK a ∧ XS a X ∧ MS a M
/-- two states of the program that agree in all that is no scratch -/
def XC (X Y : St) : Prop := (∀ k, k < 32 ∨ k = 34 → Y.1 k = X.1 k) ∧ ∀ k, k < 8 ∨ k = 19 → Y.2.1 k = X.2.1 k
theorem XC.rf (X : St) : XC X X := ⟨fun _ _ => rfl, fun _ _ => rfl⟩
theorem XC.tr {X Y Z : St} (h : XC X Y) (g : XC Y Z) : XC X Z := ⟨fun k hk => (g.1 k hk).trans (h.1 k hk), fun k hk => (g.2 k hk).trans (h.2 k hk)⟩
theorem XT.of {X Y : St} (h : XC X Y) {j : Nat} (hj : j < 7) {t : Tk} (x : XT X j t) : XT Y j t := by
  obtain ⟨a, b, c, d, e⟩ := x
  refine ⟨(h.1 _ (by omega)).trans a, (h.1 _ (by omega)).trans b, (h.1 _ (by omega)).trans c, (h.1 _ (by omega)).trans d, fun p k hp hk => ?_⟩
  rw [h.2 j (by omega)]
  exact e p k hp hk
theorem XS.of {X Y : St} (h : XC X Y) {a : Da} (x : XS a X) : XS a Y := by
  obtain ⟨x1, ⟨w, hw, x2, x3, x4⟩, x5, x6, x7, x8, x9⟩ := x
  refine ⟨x1.of h (by omega), ⟨w, hw, (h.1 _ (by omega)).trans x2, (h.1 _ (by omega)).trans x3, fun i hi => (x4 i hi).of h (by have := Nat.mod_lt (w + 6 - i) (show 0 < 6 by omega); omega)⟩, fun k hk => ?_, (h.1 _ (by omega)).trans x6, (h.1 _ (by omega)).trans x7, (h.1 _ (by omega)).trans x8, fun i hi => ?_⟩
  · rw [h.2 7 (by omega)]; exact x5 k hk
  · rw [h.2 19 (by omega)]; exact x9 i hi
def MC (X Y : St) : Prop := (∀ k, k = 1 ∨ k = 2 ∨ k = 8 ∨ k = 14 ∨ k = 15 ∨ k = 24 → Y.1 k = X.1 k) ∧ ∀ k, k < 7 ∨ k = 16 → Y.2.1 k = X.2.1 k
theorem MC.rf (X : St) : MC X X := ⟨fun _ _ => rfl, fun _ _ => rfl⟩
theorem MC.tr {X Y Z : St} (h : MC X Y) (g : MC Y Z) : MC X Z := ⟨fun k hk => (g.1 k hk).trans (h.1 k hk), fun k hk => (g.2 k hk).trans (h.2 k hk)⟩
theorem MT.of {X Y : St} (h : MC X Y) {t : Tk} (x : MT X t) : MT Y t := by
  obtain ⟨a, b, c, d, e⟩ := x
  refine ⟨(h.1 _ (by omega)).trans a, ?_, ?_, (h.1 _ (by omega)).trans d, fun p k hp hk => ?_⟩
  · rw [h.2 1 (by omega)]; exact b
  · rw [h.2 1 (by omega)]; exact c
  · rw [h.2 (2 + k) (by omega)]; exact e p k hp hk
theorem MK.of {X Y : St} (h : Y.2.1 6 = X.2.1 6) {i : Nat} {t : Tk} (x : MK X i t) : MK Y i t := by
  unfold MK
  rw [h]
  exact x
theorem MS.of {X Y : St} (h : MC X Y) {a : Da} (x : MS a X) : MS a Y := by
  obtain ⟨x1, ⟨x2, x4⟩, x5, x6, x7, x8, x9⟩ := x
  refine ⟨x1.of h, ⟨(h.1 _ (by omega)).trans x2, fun i hi => (x4 i hi).of (h.2 6 (by omega))⟩, fun k hk => ?_, (h.1 _ (by omega)).trans x6, (h.1 _ (by omega)).trans x7, (h.1 _ (by omega)).trans x8, fun i hi => ?_⟩
  · rw [h.2 0 (by omega)]; exact x5 k hk
  · rw [h.2 16 (by omega)]; exact x9 i hi
def aRef (a : Da) (k : Nat) : Da := (aT a, aC a, aH a, aZ a, aX a, (fun j => if j = k then aRf a j + 1 else aRf a j), aAb a, aBe a)
def aTk (a : Da) (t : Tk) : Da := (t, aC a, aH a, aZ a, aX a, aRf a, aAb a, aBe a)
def aKeep (a : Da) : Da := (aT a, min (aC a + 1) 6, (fun i => if i = 0 then aT a else aH a (i - 1)), aZ a, aX a, aRf a, aAb a, aBe a)
theorem DaOK.ref {a : Da} (h : DaOK a) (k : Nat) : DaOK (aRef a k) := h
theorem DaOK.tk {a : Da} (h : DaOK a) {t : Tk} (ht : TkOK t) : DaOK (aTk a t) := ⟨ht, h.2⟩
theorem DaOK.keep {a : Da} (h : DaOK a) : DaOK (aKeep a) := by
  obtain ⟨h1, h2, h3, h4⟩ := h
  refine ⟨h1, Nat.min_le_right _ _, fun i hi => ?_, h4⟩
  show TkOK (if i = 0 then aT a else aH a (i - 1))
  by_cases h0 : i = 0
  · rw [if_pos h0]; exact h1
  · rw [if_neg h0]
    have hi2 : i < min (aC a + 1) 6 := hi
    exact h3 _ (by omega)
/-! Refusals. -/
theorem x_refuse {a : Da} {X : St} (x : XS a X) {k : Nat} (hk : k < 3) {v : Int32} (hv : (-2 : Int32) - v = nI k) : ∃ X2, fX6_refuse X v = some (v, X2) ∧ XS (aRef a k) X2 := by
  unfold fX6_refuse
  rw [hv, if_neg (nI_pos (by omega)), if_neg (show ¬ (3 : Int32) ≤ nI k from nI_ge (b := 3) hk (by omega)), chk_n hk (by omega), chk_n hk (by omega), gR_n (by omega), pR_n (by omega)]
  refine ⟨_, rfl, ?_⟩
  obtain ⟨x1, ⟨w, hw, x2, x3, x4⟩, x5, x6, x7, x8, x9⟩ := x
  have hx : ∀ j, j < 7 → ∀ t, XT X j t → XT (pN X 7 k (X.2.1 7 k + 1)) j t := fun j hj t ⟨a, b, c, d, e⟩ => ⟨a, b, c, d, fun p q hp hq => by rw [pN_k _ _ (by omega)]; exact e p q hp hq⟩
  refine ⟨hx 0 (by omega) _ x1, ⟨w, hw, x2, x3, fun i hi => hx _ (by have := Nat.mod_lt (w + 6 - i) (show 0 < 6 by omega); omega) _ (x4 i hi)⟩, fun j hj => ?_, x6, x7, x8, fun i hi => by rw [pN_k _ _ (by omega)]; exact x9 i hi⟩
  show (pN X 7 k (X.2.1 7 k + 1)).2.1 7 j = if j = k then aRf a j + 1 else aRf a j
  by_cases hjk : j = k
  · subst hjk; rw [pN_s, if_pos rfl, x5 j hj]
  · rw [pN_i _ _ hjk, if_neg hjk, x5 j hj]
theorem m_ref {a : Da} {M : St} (m : MS a M) {k : Nat} (hk : k < 3) : MS (aRef a k) (pN M 0 k (M.2.1 0 k + 1)) := by
  obtain ⟨⟨t1, t2, t3, t4, t5⟩, ⟨x2, x4⟩, x5, x6, x7, x8, x9⟩ := m
  refine ⟨⟨t1, t2, t3, t4, fun p q hp hq => by rw [pN_k _ _ (by omega)]; exact t5 p q hp hq⟩, ⟨x2, fun i hi => (x4 i hi).of (by funext b; exact pN_k _ _ (by omega))⟩, fun j hj => ?_, x6, x7, x8, fun i hi => by rw [pN_k _ _ (by omega)]; exact x9 i hi⟩
  show (pN M 0 k (M.2.1 0 k + 1)).2.1 0 j = if j = k then aRf a j + 1 else aRf a j
  by_cases hjk : j = k
  · subst hjk; rw [pN_s, if_pos rfl, x5 j hj]
  · rw [pN_i _ _ hjk, if_neg hjk, x5 j hj]
theorem m_bad {a : Da} {M : St} (m : MS a M) : ∃ M2, fX7_bad M = some (-2, M2) ∧ MS (aRef a 0) M2 := by
  unfold fX7_bad
  rw [gR_0, pR_0]
  exact ⟨_, rfl, m_ref m (by omega)⟩
theorem m_no {a : Da} {M : St} (m : MS a M) : ∃ M2, fX7_no M = some (-3, M2) ∧ MS (aRef a 1) M2 := by
  unfold fX7_no
  rw [gR_1, pR_1]
  exact ⟨_, rfl, m_ref m (by omega)⟩
theorem m_full {a : Da} {M : St} (m : MS a M) : ∃ M2, fX7_full M = some (-4, M2) ∧ MS (aRef a 2) M2 := by
  unfold fX7_full
  rw [gR_2, pR_2]
  exact ⟨_, rfl, m_ref m (by omega)⟩
theorem x_bad {a : Da} {X : St} (x : XS a X) : ∃ X2, fX6_refuse X (-2) = some (-2, X2) ∧ XS (aRef a 0) X2 := x_refuse x (k := 0) (by omega) (by decide)
theorem x_no {a : Da} {X : St} (x : XS a X) : ∃ X2, fX6_refuse X (-3) = some (-3, X2) ∧ XS (aRef a 1) X2 := x_refuse x (k := 1) (by omega) (by decide)
theorem x_full {a : Da} {X : St} (x : XS a X) : ∃ X2, fX6_refuse X (-4) = some (-4, X2) ∧ XS (aRef a 2) X2 := x_refuse x (k := 2) (by omega) (by decide)
theorem m_in {S : St} {x l h : Int32} : fX7_in S x l h = some (if x < l ∨ h < x then 0 else 1) := by
  unfold fX7_in
  by_cases h1 : x < l
  · rw [if_pos h1, if_pos (Or.inl h1)]
  · rw [if_neg h1]
    by_cases h2 : h < x
    · rw [if_pos h2, if_pos (Or.inr h2)]
    · rw [if_neg h2, if_neg (by rintro (q | q) <;> contradiction)]
