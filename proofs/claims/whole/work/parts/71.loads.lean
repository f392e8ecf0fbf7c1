/-! Loads: tallies on both sides as natural numbers. -/
def ct (w : Nat × Nat × (Nat → Nat)) (e : Nat) : Nat := cntb (fun k => decide (w.2.2 k = e)) w.2.1
def sumN (g : Nat → Nat) : Nat → Nat
  | 0 => 0
  | n + 1 => sumN g n + g n
def XA (X Y : St) : Prop := Y.1 = X.1 ∧ Y.2.2 = X.2.2 ∧ ∀ k, k ≠ 11 → Y.2.1 k = X.2.1 k
def MA (X Y : St) : Prop := Y.1 = X.1 ∧ ∀ k, k ≠ 10 → Y.2.1 k = X.2.1 k
theorem XA.tr {X Y Z : St} (h : XA X Y) (g : XA Y Z) : XA X Z := ⟨g.1.trans h.1, g.2.1.trans h.2.1, fun k hk => (g.2.2 k hk).trans (h.2.2 k hk)⟩
theorem MA.tr {X Y Z : St} (h : MA X Y) (g : MA Y Z) : MA X Z := ⟨g.1.trans h.1, fun k hk => (g.2 k hk).trans (h.2 k hk)⟩
theorem XA.C {X Y : St} (h : XA X Y) : XC X Y := ⟨fun k _ => by rw [h.1], fun k hk => h.2.2 k (by omega)⟩
theorem MA.C {X Y : St} (h : MA X Y) : MC X Y := ⟨fun k _ => by rw [h.1], fun k hk => h.2 k (by omega)⟩
theorem XWay.A {X Y : St} (h : XA X Y) {p : Nat} {w : Nat × Nat × (Nat → Nat)} (x : XWay X p w) : XWay Y p w := by
  obtain ⟨a, b, c, d⟩ := x
  refine ⟨?_, ?_, fun k hk => ?_, ?_⟩
  · rw [h.2.2 9 (by omega)]; exact a
  · rw [h.2.2 8 (by omega)]; exact b
  · rw [h.2.2 10 (by omega)]; exact c k hk
  · rw [h.2.1]; exact d
theorem MWay.A {X Y : St} (h : MA X Y) {p z : Nat} {w : Nat × Nat × (Nat → Nat)} (x : MWay X p w z) : MWay Y p w z := by
  obtain ⟨a, b, c, d⟩ := x
  refine ⟨?_, ?_, fun k hk => ?_, ?_⟩
  · rw [h.2 8 (by omega)]; exact a
  · rw [h.2 7 (by omega)]; exact b
  · rw [h.2 9 (by omega)]; exact c k hk
  · rw [h.2 9 (by omega)]; exact d
theorem x_empty (X : St) : ∃ Y, fX1_empty X = some Y ∧ XA X Y ∧ ∀ e, e < 64 → Y.2.1 11 e = 0 := by
  unfold fX1_empty ffill_23
  obtain ⟨⟨Y, y⟩, e, i1, i2, i3⟩ := lp_fu (f := fun q => bfill_23_5 0 64 q.1 q.2) (fun k s => XA X s.1 ∧ s.2 = nI k ∧ ∀ e, e < k → s.1.2.1 11 e = 0) 64 (by omega) (X, (0 : Int32)) ⟨⟨rfl, rfl, fun _ _ => rfl⟩, rfl, fun e he => absurd he (Nat.not_lt_zero _)⟩
    (by
      rintro k ⟨S, y⟩ hk ⟨i1, i2, i3⟩
      dsimp only at i1 i2 i3 ⊢
      subst i2
      unfold bfill_23_5
      rw [if_neg (show ¬ (64 : Int32) ≤ nI k from nI_ge (b := 64) hk (by omega)), chk_n hk (by omega), pR_n (by omega), nI_1]
      refine ⟨_, rfl, i1.tr ⟨rfl, rfl, fun q hq => by funext b; exact pN_k _ _ hq⟩, rfl, fun e he => ?_⟩
      by_cases h : e = k
      · rw [h]; exact pN_s _ _ _ _
      · dsimp only; rw [pN_i _ _ h]; exact i3 e (by omega))
    (by
      rintro ⟨S, y⟩ ⟨i1, i2, i3⟩
      dsimp only at i2 ⊢
      subst i2
      unfold bfill_23_5
      exact if_pos (Int32.le_refl _))
  rw [e, bq2_s, bq1_s]
  exact ⟨Y, rfl, i1, i3⟩
theorem m_noLoads (X : St) : ∃ Y, fX7_noLoads X = some Y ∧ MA X Y ∧ ∀ e, e < 64 → Y.2.1 10 e = 0 := by
  unfold fX7_noLoads
  obtain ⟨⟨Y, y⟩, e, i1, i2, i3⟩ := lp_fu (f := fun q => bX7_noLoads_2 q.1 q.2) (fun k s => MA X s.1 ∧ s.2 = nI k ∧ ∀ e, e < k → s.1.2.1 10 e = 0) 64 (by omega) (X, (0 : Int32)) ⟨⟨rfl, fun _ _ => rfl⟩, rfl, fun e he => absurd he (Nat.not_lt_zero _)⟩
    (by
      rintro k ⟨S, y⟩ hk ⟨i1, i2, i3⟩
      dsimp only at i1 i2 i3 ⊢
      subst i2
      unfold bX7_noLoads_2
      rw [if_neg (show ¬ (64 : Int32) ≤ nI k from nI_ge (b := 64) hk (by omega)), chk_n hk (by omega), pR_n (by omega), nI_1]
      refine ⟨_, rfl, i1.tr ⟨rfl, fun q hq => by funext b; exact pN_k _ _ hq⟩, rfl, fun e he => ?_⟩
      by_cases h : e = k
      · rw [h]; exact pN_s _ _ _ _
      · dsimp only; rw [pN_i _ _ h]; exact i3 e (by omega))
    (by
      rintro ⟨S, y⟩ ⟨i1, i2, i3⟩
      dsimp only at i2 ⊢
      subst i2
      unfold bX7_noLoads_2
      exact if_pos (Int32.le_refl _))
  rw [e, bq2_s]
  exact ⟨Y, rfl, i1, i3⟩
theorem add_step (a w : Int32) (c : Nat) : a + w * nI c + w = a + w * nI (c + 1) := by
  rw [← nI_1, Int32.mul_add, Int32.mul_one, Int32.add_assoc]
theorem x_add1 {X : St} {d p z : Nat} {w : Nat × Nat × (Nat → Nat)} (hd : d ≤ 4) (hp : p < 16) (hw : WOK d w z) (x : XWay X p w) (wt : Int32) : ∃ Y, fX1_add X (nI p) wt = some Y ∧ XA X Y ∧ ∀ e, e < 64 → Y.2.1 11 e = X.2.1 11 e + wt * nI (ct w e) := by
  have hl := hw.1
  unfold fX1_add
  obtain ⟨⟨Y, y⟩, e, i1, i2, i3⟩ := lp_fu (f := fun q => bX1_add_3 (nI p) wt q.1 q.2) (fun k s => XA X s.1 ∧ s.2 = nI k ∧ ∀ e, e < 64 → s.1.2.1 11 e = X.2.1 11 e + wt * nI (cntb (fun k => decide (w.2.2 k = e)) k)) w.2.1 (by omega) (X, (0 : Int32)) ⟨⟨rfl, rfl, fun _ _ => rfl⟩, rfl, fun e he => by show X.2.1 11 e = X.2.1 11 e + wt * 0; rw [Int32.mul_zero, Int32.add_zero]⟩
    (by
      rintro k ⟨S, y⟩ hk ⟨i1, i2, i3⟩
      dsimp only at i1 i2 i3 ⊢
      subst i2
      have xs := x.A i1
      have h64 := hw.lt hd k hk
      unfold bX1_add_3
      rw [chk_n hp (by omega), gR_n (by omega), xs.2.1, if_neg (nI_ge hk (by omega))]
      unfold fX5_edge
      rw [show nI p * (8 : Int32) = nI (p * 8) from pk_mul p 8, nI_add, chk_n (by omega) (by omega), gR_n (by omega), show p * 8 + k = 8 * p + k by omega, xs.2.2.1 k hk, bq1_s, chk_n h64 (by omega), chk_n h64 (by omega), gR_n (by omega), pR_n (by omega), nI_1]
      refine ⟨_, rfl, i1.tr ⟨rfl, rfl, fun q hq => by funext b; exact pN_k _ _ hq⟩, rfl, fun e he => ?_⟩
      dsimp only
      show _ = X.2.1 11 e + wt * nI (cntb (fun k => decide (w.2.2 k = e)) k + if decide (w.2.2 k = e) = true then 1 else 0)
      by_cases h : w.2.2 k = e
      · rw [if_pos (decide_eq_true h), ← h, pN_s, i3 _ h64, add_step]
      · rw [if_neg (by simp [h]), pN_i _ _ (fun q => h q.symm), i3 e he, Nat.add_zero])
    (by
      rintro ⟨S, y⟩ ⟨i1, i2, i3⟩
      dsimp only at i1 i2 ⊢
      subst i2
      unfold bX1_add_3
      rw [chk_n hp (by omega), gR_n (by omega), (x.A i1).2.1]
      exact if_pos (Int32.le_refl _))
  rw [e, bq2_s]
  exact ⟨Y, rfl, i1, i3⟩
theorem m_loadsBy {M : St} {d p z : Nat} {w : Nat × Nat × (Nat → Nat)} (hd : d ≤ 4) (hp : p < 16) (hw : WOK d w z) (hz : z < 2 ^ d) (x : MWay M p w z) (wt : Int32) : ∃ Y, fX7_loadsBy M (nI p) wt = some Y ∧ MA M Y ∧ ∀ e, e < 64 → Y.2.1 10 e = M.2.1 10 e + wt * nI (ct w e) := by
  have hl := hw.1
  unfold fX7_loadsBy
  obtain ⟨⟨Y, y⟩, e, i1, i2, i3⟩ := lp_fu (f := fun q => bX7_loadsBy_2 (nI p) wt q.1 q.2) (fun k s => MA M s.1 ∧ s.2 = nI k ∧ ∀ e, e < 64 → s.1.2.1 10 e = M.2.1 10 e + wt * nI (cntb (fun k => decide (w.2.2 k = e)) k)) w.2.1 (by omega) (M, (0 : Int32)) ⟨⟨rfl, fun _ _ => rfl⟩, rfl, fun e he => by show M.2.1 10 e = M.2.1 10 e + wt * 0; rw [Int32.mul_zero, Int32.add_zero]⟩
    (by
      rintro k ⟨S, y⟩ hk ⟨i1, i2, i3⟩
      dsimp only at i1 i2 i3 ⊢
      subst i2
      have xs := x.A i1
      have h64 := hw.lt hd k hk
      unfold bX7_loadsBy_2
      rw [chk_n hp (by omega), gR_n (by omega), xs.2.1, if_neg (nI_ge hk (by omega)), m_edgeOf hd hp hw hz xs hk, bq1_s, chk_n h64 (by omega), chk_n h64 (by omega), gR_n (by omega), pR_n (by omega), nI_1]
      refine ⟨_, rfl, i1.tr ⟨rfl, fun q hq => by funext b; exact pN_k _ _ hq⟩, rfl, fun e he => ?_⟩
      dsimp only
      show _ = M.2.1 10 e + wt * nI (cntb (fun k => decide (w.2.2 k = e)) k + if decide (w.2.2 k = e) = true then 1 else 0)
      by_cases h : w.2.2 k = e
      · rw [if_pos (decide_eq_true h), ← h, pN_s, i3 _ h64, add_step]
      · rw [if_neg (by simp [h]), pN_i _ _ (fun q => h q.symm), i3 e he, Nat.add_zero])
    (by
      rintro ⟨S, y⟩ ⟨i1, i2, i3⟩
      dsimp only at i1 i2 ⊢
      subst i2
      unfold bX7_loadsBy_2
      rw [chk_n hp (by omega), gR_n (by omega), (x.A i1).2.1]
      exact if_pos (Int32.le_refl _))
  rw [e, bq2_s]
  exact ⟨Y, rfl, i1, i3⟩
def XL (X : St) (ld : Nat → Nat) : Prop := ∀ e, e < 64 → X.2.1 11 e = nI (ld e)
def ML (M : St) (ld : Nat → Nat) : Prop := ∀ e, e < 64 → M.2.1 10 e = nI (ld e)
theorem x_addN {X : St} {d p z : Nat} {w : Nat × Nat × (Nat → Nat)} (hd : d ≤ 4) (hp : p < 16) (hw : WOK d w z) (x : XWay X p w) {ld : Nat → Nat} (xl : XL X ld) (v : Nat) : ∃ Y, fX1_add X (nI p) (nI v) = some Y ∧ XA X Y ∧ XL Y (fun e => ld e + v * ct w e) := by
  obtain ⟨Y, e, y1, y2⟩ := x_add1 hd hp hw x (nI v)
  exact ⟨Y, e, y1, fun e he => by rw [y2 e he, xl e he, pk_mul, nI_add]⟩
theorem m_addN {M : St} {d p z : Nat} {w : Nat × Nat × (Nat → Nat)} (hd : d ≤ 4) (hp : p < 16) (hw : WOK d w z) (hz : z < 2 ^ d) (x : MWay M p w z) {ld : Nat → Nat} (xl : ML M ld) (v : Nat) : ∃ Y, fX7_loadsBy M (nI p) (nI v) = some Y ∧ MA M Y ∧ ML Y (fun e => ld e + v * ct w e) := by
  obtain ⟨Y, e, y1, y2⟩ := m_loadsBy hd hp hw hz x (nI v)
  exact ⟨Y, e, y1, fun e he => by rw [y2 e he, xl e he, pk_mul, nI_add]⟩
def ldW (t : Tk) (e : Nat) : Nat := sumN (fun p => ct (wyP t p) e) (tN t)
/-- scratch of ways and loads may change -/
def XU (X Y : St) : Prop := Y.1 = X.1 ∧ ∀ k, k < 8 ∨ 11 < k → Y.2.1 k = X.2.1 k
def MU (X Y : St) : Prop := Y.1 = X.1 ∧ ∀ k, k < 7 ∨ 10 < k → Y.2.1 k = X.2.1 k
theorem XU.tr {X Y Z : St} (h : XU X Y) (g : XU Y Z) : XU X Z := ⟨g.1.trans h.1, fun k hk => (g.2 k hk).trans (h.2 k hk)⟩
theorem MU.tr {X Y Z : St} (h : MU X Y) (g : MU Y Z) : MU X Z := ⟨g.1.trans h.1, fun k hk => (g.2 k hk).trans (h.2 k hk)⟩
theorem XU.rf (X : St) : XU X X := ⟨rfl, fun _ _ => rfl⟩
theorem MU.rf (X : St) : MU X X := ⟨rfl, fun _ _ => rfl⟩
theorem XU.C {X Y : St} (h : XU X Y) : XC X Y := ⟨fun k _ => by rw [h.1], fun k hk => h.2 k (by omega)⟩
theorem MU.C {X Y : St} (h : MU X Y) : MC X Y := ⟨fun k _ => by rw [h.1], fun k hk => h.2 k (by omega)⟩
theorem XR.U {X Y : St} (h : XR X Y) : XU X Y := ⟨h.1, fun k hk => h.2 k (by omega) (by omega) (by omega)⟩
theorem MR.U {X Y : St} (h : MR X Y) : MU X Y := ⟨h.1, fun k hk => h.2 k (by omega) (by omega) (by omega)⟩
theorem XA.U {X Y : St} (h : XA X Y) : XU X Y := ⟨h.1, fun k hk => h.2.2 k (by omega)⟩
theorem MA.U {X Y : St} (h : MA X Y) : MU X Y := ⟨h.1, fun k hk => h.2 k (by omega)⟩
theorem XT.U {X Y : St} (h : XU X Y) {t : Tk} (x : XT X 0 t) : XT Y 0 t := x.of h.C (by omega)
theorem MT.U {X Y : St} (h : MU X Y) {t : Tk} (x : MT X t) : MT Y t := x.of h.C
theorem x_tallyWays {X : St} {t : Tk} (ok : TkOK t) (x : XT X 0 t) : ∃ Y, fX6_tallyWays X = some Y ∧ XU X Y ∧ (∀ p, p < tN t → XWay Y p (wyP t p)) ∧ XL Y (ldW t) := by
  have hn := ok.2.2.2.2.1
  have hd := ok.2.1
  unfold fX6_tallyWays
  obtain ⟨A, e1, a1, a2⟩ := x_follow ok x
  obtain ⟨B, e2, b1, b2⟩ := x_empty A
  rw [e1, bq1_s, e2, bq1_s]
  have xB : XT B 0 t := (x.R a1).U b1.U
  obtain ⟨⟨Y, y⟩, e, i1, i2, i3⟩ := lp_fu (f := fun q => bX6_tallyWays_20 q.1 q.2) (fun p s => XA B s.1 ∧ s.2 = nI p ∧ XL s.1 (fun e => sumN (fun p => ct (wyP t p) e) p)) (tN t) (by omega) (B, (0 : Int32)) ⟨⟨rfl, rfl, fun _ _ => rfl⟩, rfl, fun e he => b2 e he⟩
    (by
      rintro p ⟨S, y⟩ hp ⟨i1, i2, i3⟩
      dsimp only at i1 i2 i3 ⊢
      subst i2
      unfold bX6_tallyWays_20
      rw [show gF S 3 = nI (tN t) from (xB.U i1.U).2.2.2.1, if_neg (nI_ge hp (by omega)), show (1 : Int32) = nI 1 from rfl]
      obtain ⟨Z, e1, z1, z2⟩ := x_addN hd (show p < 16 by omega) (wyP_ok ok hp) (((a2 p hp).A b1).A i1) i3 1
      rw [e1, bq1_s, nI_add]
      refine ⟨_, rfl, i1.tr z1, rfl, fun e he => ?_⟩
      rw [z2 e he]
      dsimp only
      rw [Nat.one_mul]
      rfl)
    (by
      rintro ⟨S, y⟩ ⟨i1, i2, i3⟩
      dsimp only at i1 i2 ⊢
      subst i2
      unfold bX6_tallyWays_20
      rw [show gF S 3 = nI (tN t) from (xB.U i1.U).2.2.2.1]
      exact if_pos (Int32.le_refl _))
  rw [e, bq2_s]
  exact ⟨Y, rfl, a1.U.tr (b1.U.tr i1.U), fun p hp => ((a2 p hp).A b1).A i1, i3⟩
theorem m_setLoads {M : St} {t : Tk} (ok : TkOK t) (x : MT M t) : ∃ Y, fX7_setLoads M = some Y ∧ MU M Y ∧ ML Y (ldW t) := by
  have hn := ok.2.2.2.2.1
  have hd := ok.2.1
  unfold fX7_setLoads
  obtain ⟨A, e1, a1, a2⟩ := m_setWays ok x
  obtain ⟨B, e2, b1, b2⟩ := m_noLoads A
  rw [e1, bq1_s, e2, bq1_s]
  have xB : MT B t := (x.R a1).U b1.U
  obtain ⟨⟨Y, y⟩, e, i1, i2, i3⟩ := lp_fu (f := fun q => bX7_setLoads_10 q.1 q.2) (fun p s => MA B s.1 ∧ s.2 = nI p ∧ ML s.1 (fun e => sumN (fun p => ct (wyP t p) e) p)) (tN t) (by omega) (B, (0 : Int32)) ⟨⟨rfl, fun _ _ => rfl⟩, rfl, fun e he => b2 e he⟩
    (by
      rintro p ⟨S, y⟩ hp ⟨i1, i2, i3⟩
      dsimp only at i1 i2 i3 ⊢
      subst i2
      unfold bX7_setLoads_10
      rw [show gF S 2 = nI (tN t) from (xB.U i1.U).2.2.2.1, if_neg (nI_ge hp (by omega)), show (1 : Int32) = nI 1 from rfl]
      obtain ⟨Z, e1, z1, z2⟩ := m_addN hd (show p < 16 by omega) (wyP_ok ok hp) (ok.2.2.2.2.2.2 p 1 hp (by omega)) (((a2 p hp).A b1).A i1) i3 1
      rw [e1, bq1_s, nI_add]
      refine ⟨_, rfl, i1.tr z1, rfl, fun e he => ?_⟩
      rw [z2 e he]
      dsimp only
      rw [Nat.one_mul]
      rfl)
    (by
      rintro ⟨S, y⟩ ⟨i1, i2, i3⟩
      dsimp only at i1 i2 ⊢
      subst i2
      unfold bX7_setLoads_10
      rw [show gF S 2 = nI (tN t) from (xB.U i1.U).2.2.2.1]
      exact if_pos (Int32.le_refl _))
  rw [e, bq2_s]
  exact ⟨Y, rfl, a1.U.tr (b1.U.tr i1.U), i3⟩
