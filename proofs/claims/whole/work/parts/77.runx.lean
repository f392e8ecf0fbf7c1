/-! The program's run. -/
def XV (X Y : St) : Prop := (∀ k, k ≠ 32 → k ≠ 33 → Y.1 k = X.1 k) ∧ (∀ k, k < 12 ∨ 18 < k → Y.2.1 k = X.2.1 k) ∧ Y.2.2 = X.2.2
theorem XV.rf (X : St) : XV X X := ⟨fun _ _ _ => rfl, fun _ _ => rfl, rfl⟩
theorem XV.tr {X Y Z : St} (h : XV X Y) (g : XV Y Z) : XV X Z := ⟨fun k a b => (g.1 k a b).trans (h.1 k a b), fun k hk => (g.2.1 k hk).trans (h.2.1 k hk), g.2.2.trans h.2.2⟩
theorem XV.C {X Y : St} (h : XV X Y) : XC X Y := ⟨fun k hk => h.1 k (by omega) (by omega), fun k hk => h.2.1 k (by omega)⟩
theorem XT.V {X Y : St} (h : XV X Y) {t : Tk} (x : XT X 0 t) : XT Y 0 t := x.of h.C (by omega)
theorem XWay.V {X Y : St} (h : XV X Y) {p : Nat} {w : Nat × Nat × (Nat → Nat)} (x : XWay X p w) : XWay Y p w := by
  obtain ⟨a, b, c, d⟩ := x
  refine ⟨?_, ?_, fun k hk => ?_, ?_⟩
  · rw [h.2.1 9 (by omega)]; exact a
  · rw [h.2.1 8 (by omega)]; exact b
  · rw [h.2.1 10 (by omega)]; exact c k hk
  · rw [h.2.2]; exact d
def XN (S : St) (t : Tk) (r : Rq) : Prop := ∀ p, p < tN t → S.2.1 14 p = nI (rG r p) ∧ S.2.1 15 p = nI (rC r p) ∧ S.2.1 12 p = nI (rH r p) ∧ S.2.1 13 p = nI (rD r p)
theorem XN.of {X Y : St} {t : Tk} {r : Rq} (x : XN X t r) (h : ∀ k, 11 < k → k < 16 → Y.2.1 k = X.2.1 k) : XN Y t r := fun p hp => by
  rw [h 14 (by omega) (by omega), h 15 (by omega) (by omega), h 12 (by omega) (by omega), h 13 (by omega) (by omega)]
  exact x p hp
theorem sub_0 {a b : Nat} (ha : a < 2 ^ 30) (hb : b < 2 ^ 30) : (nI a - nI b = (0 : Int32)) ↔ a = b := by
  constructor
  · intro h
    have h1 := congrArg Int32.toInt h
    rw [pk_sub_toInt ha hb, show (0 : Int32).toInt = 0 by decide] at h1
    omega
  · rintro rfl
    exact Int32.sub_self _
theorem sub_le {a b : Nat} (ha : a < 2 ^ 30) (hb : b < 2 ^ 30) : (nI a - nI b ≤ (0 : Int32)) ↔ a ≤ b := by
  rw [Int32.le_iff_toInt_le, pk_sub_toInt ha hb, show (0 : Int32).toInt = 0 by decide]
  omega
theorem uU_le {t : Tk} (ok : TkOK t) {r : Rq} (rk : RnOK t r) (l : Nat) {p : Nat} (hp : p < tN t) (q : Nat) : uU t l r p q ≤ 128 := by
  have h1 := (rk.le ok).1
  have h2 := rk.2.1 q
  have h3 := (wyP_ok ok hp).1
  have hd := ok.2.1
  unfold uU lgN
  repeat (first | split | omega)
theorem x_legOf {X : St} {t : Tk} (ok : TkOK t) (hw : ∀ p, p < tN t → XWay X p (wyP t p)) {r : Rq} (rk : RnOK t r) (xn : XN X t r) {p : Nat} (hp : p < tN t) : fX4_legOf X (nI p) = some (nI (lgN t r p)) := by
  have hn := ok.2.2.2.2.1
  have hd := ok.2.1
  have h1 := wyP_ok ok hp
  have h2 := rk.1 p hp
  have h3 := h1.1
  have h4 := h1.2.1
  unfold fX4_legOf lgN
  rw [chk_n (show p < 16 by omega) (by omega), chk_n (show p < 16 by omega) (by omega), gR_n (by omega), gR_n (by omega), (hw p hp).1, (xn p hp).1]
  by_cases h : (wyP t p).1 ≤ rG r p
  · rw [if_pos (nI_le h (by omega)), if_pos h]; rfl
  · rw [if_neg (nI_ge (by omega) (by omega)), if_neg h]; rfl
theorem x_lead {X : St} {t : Tk} (ok : TkOK t) (hw : ∀ p, p < tN t → XWay X p (wyP t p)) {r : Rq} (rk : RnOK t r) (xn : XN X t r) {l p q : Nat} (hl : l < 4) (hp : p < tN t) (hq : q < tN t) : fX4_lead X (nI l) (nI p) (nI q) = some (nI (uU t l r p q) - nI (uU t l r q p)) := by
  have hn := ok.2.2.2.2.1
  have c1 : ∀ {α : Type} (K : Option α), chk (nI p) 16 K = K := fun K => chk_n (by omega) (by omega)
  have c2 : ∀ {α : Type} (K : Option α), chk (nI q) 16 K = K := fun K => chk_n (by omega) (by omega)
  unfold fX4_lead uU
  rcases (show l = 0 ∨ l = 1 ∨ l = 2 ∨ l = 3 by omega) with rfl | rfl | rfl | rfl
  · rw [if_pos (show nI 0 = (0 : Int32) from rfl), c2, c1, gR_n (by omega), gR_n (by omega), (xn p hp).2.1, (xn q hq).2.1, if_pos rfl, if_pos rfl]
  · rw [if_neg (show ¬ nI 1 = (0 : Int32) by decide), if_pos (show nI 1 = (1 : Int32) from rfl)]
    show some (0 : Int32) = some (nI 0 - nI 0)
    rfl
  · rw [if_neg (show ¬ nI 2 = (0 : Int32) by decide), if_neg (show ¬ nI 2 = (1 : Int32) by decide), if_pos (show nI 2 = (2 : Int32) from rfl), c1, c1, c2, c2, gR_n (by omega), gR_n (by omega), gR_n (by omega), gR_n (by omega), (xn p hp).1, (xn q hq).1, (hw p hp).2.1, (hw q hq).2.1, pk_sub (rk.1 p hp), pk_sub (rk.1 q hq), if_neg (by omega), if_pos rfl, if_neg (by omega), if_pos rfl]
  · rw [if_neg (show ¬ nI 3 = (0 : Int32) by decide), if_neg (show ¬ nI 3 = (1 : Int32) by decide), if_neg (show ¬ nI 3 = (2 : Int32) by decide), if_pos (show nI 3 = (3 : Int32) from rfl), x_legOf ok hw rk xn hp, bq1_s, x_legOf ok hw rk xn hq, bq1_s, if_neg (by omega), if_neg (by omega), if_pos rfl, if_neg (by omega), if_neg (by omega), if_pos rfl]
theorem x_isAhead {X : St} {t : Tk} (ok : TkOK t) (x : XT X 0 t) (hw : ∀ p, p < tN t → XWay X p (wyP t p)) {r : Rq} (rk : RnOK t r) (xn : XN X t r) {l p q : Nat} (hl : l < 4) (hp : p < tN t) (hq : q < tN t) : fX4_isAhead X (nI l) (nI p) (nI q) = some (bI (ahd t l r p q)) := by
  have hn := ok.2.2.2.2.1
  have b1 := uU_le ok rk l hp q
  have b2 := uU_le ok rk l hq p
  have r1 := ok.2.2.2.2.2.1 p 3 (by omega) (by omega)
  have r2 := ok.2.2.2.2.2.1 q 3 (by omega) (by omega)
  unfold fX4_isAhead ahd
  rw [x_lead ok hw rk xn hl hp hq, bq1_s]
  generalize uU t l r p q = a at *
  generalize uU t l r q p = b at *
  by_cases e : a = b
  · rw [if_pos ((sub_0 (by omega) (by omega)).mpr e), if_pos e, show (3 : Int32) = nI 3 from rfl, x_trait (by omega) (by omega), bq1_s, x_trait (by omega) (by omega), bq1_s, x.2.2.2.2 p 3 (by omega) (by omega), x.2.2.2.2 q 3 (by omega) (by omega)]
    by_cases g : tT t p 3 = tT t q 3
    · rw [if_pos (by rw [g]), if_pos g]
      by_cases h : p < q
      · rw [if_neg (nI_ge h (by omega)), decide_eq_true h]; rfl
      · rw [if_pos (nI_le (by omega) (by omega)), decide_eq_false h]; rfl
    · rw [if_neg (nI_c (by omega) (by omega) g), if_neg g]
      by_cases h : tT t q 3 < tT t p 3
      · rw [if_neg (nI_ge h (by omega)), decide_eq_true h]; rfl
      · rw [if_pos (nI_le (by omega) (by omega)), decide_eq_false h]; rfl
  · rw [if_neg (fun z => e ((sub_0 (by omega) (by omega)).mp z)), if_neg e]
    by_cases h : b < a
    · rw [if_neg (fun z => by have := (sub_le (by omega) (by omega)).mp z; omega), decide_eq_true h]; rfl
    · rw [if_pos ((sub_le (by omega) (by omega)).mpr (by omega)), decide_eq_false h]; rfl
theorem hm_f {t : Tk} {r : Rq} {p : Nat} (h : hmB t r p = false) : rG r p < (wyP t p).2.1 := Nat.lt_of_not_le (of_decide_eq_false h)
theorem edg_lt {t : Tk} (ok : TkOK t) {r : Rq} {p : Nat} (hp : p < tN t) (h : hmB t r p = false) : edg t r p < 64 := (wyP_ok ok hp).lt ok.2.1 _ (hm_f h)
theorem x_edge {X : St} {t : Tk} (ok : TkOK t) (hw : ∀ p, p < tN t → XWay X p (wyP t p)) {r : Rq} {p : Nat} (hp : p < tN t) (h : hmB t r p = false) : fX5_edge X (nI p) (nI (rG r p)) = some (nI (edg t r p)) := by
  have hn := ok.2.2.2.2.1
  have hd := ok.2.1
  have h1 := hm_f h
  have h3 := (wyP_ok ok hp).1
  unfold fX5_edge
  rw [show nI p * (8 : Int32) = nI (p * 8) from pk_mul p 8, nI_add, chk_n (by omega) (by omega), gR_n (by omega), show p * 8 + rG r p = 8 * p + rG r p by omega, (hw p hp).2.2.1 _ h1]
  rfl
def wI (t : Tk) (r : Rq) (p : Nat) : Int32 := if hmB t r p = true then -1 else nI (edg t r p)
theorem x_look {X : St} {t : Tk} (ok : TkOK t) (x : XT X 0 t) (hw : ∀ p, p < tN t → XWay X p (wyP t p)) {r : Rq} (rk : RnOK t r) (xn : XN X t r) : ∃ Y, fX4_look X = some (bI (!allb (hmB t r) (tN t)), Y) ∧ (Y.1 = X.1 ∧ Y.2.2 = X.2.2 ∧ ∀ k, k < 16 ∨ 18 < k → Y.2.1 k = X.2.1 k) ∧ (∀ p, p < tN t → Y.2.1 16 p = wI t r p) ∧ ∀ p, p < tN t → hmB t r p = false → Y.2.1 17 (edg t r p) = 0 ∧ Y.2.1 18 (edg t r p) = -1 := by
  have hn := ok.2.2.2.2.1
  have hd := ok.2.1
  unfold fX4_look
  obtain ⟨⟨Y, y3, y4⟩, e, i1, i2, i3, i4, i5⟩ := lp_fu (f := fun q => bX4_look_5 q.1 q.2.1 q.2.2) (fun k s => (s.1.1 = X.1 ∧ s.1.2.2 = X.2.2 ∧ ∀ k, k < 16 ∨ 18 < k → s.1.2.1 k = X.2.1 k) ∧ s.2.1 = bI (!allb (hmB t r) k) ∧ s.2.2 = nI k ∧ (∀ p, p < k → s.1.2.1 16 p = wI t r p) ∧ ∀ p, p < k → hmB t r p = false → s.1.2.1 17 (edg t r p) = 0 ∧ s.1.2.1 18 (edg t r p) = -1) (tN t) (by omega) (X, (0 : Int32), (0 : Int32)) ⟨⟨rfl, rfl, fun _ _ => rfl⟩, rfl, rfl, fun p hp => absurd hp (Nat.not_lt_zero _), fun p hp => absurd hp (Nat.not_lt_zero _)⟩
    (by
      rintro k ⟨S, y3, y4⟩ hk ⟨⟨f1, f2, f3⟩, i2, i3, i4, i5⟩
      dsimp only at f1 f2 f3 i2 i3 i4 i5 ⊢
      subst i2; subst i3
      have fv : XV X S := ⟨fun j _ _ => by rw [f1], fun j hj => f3 j (by omega), f2⟩
      have xs := x.V fv
      have hws : ∀ p, p < tN t → XWay S p (wyP t p) := fun p hp => (hw p hp).V fv
      have xns : XN S t r := xn.of (fun j _ _ => f3 j (by omega))
      have ck : ∀ {α : Type} (K : Option α), chk (nI k) 16 K = K := fun K => chk_n (by omega) (by omega)
      have g1 := rk.1 k hk
      have g2 := (wyP_ok ok hk).1
      unfold bX4_look_5
      rw [show gF S 3 = nI (tN t) from xs.2.2.2.1, if_neg (nI_ge hk (by omega)), ck, ck, ck, gR_n (S := S) (k := 8) (by omega), gR_n (S := S) (k := 14) (by omega), (hws k hk).2.1, (xns k hk).1, nI_1, pR_n (S := S) (by omega)]
      cases hh : hmB t r k with
      | true =>
        have hle : (wyP t k).2.1 ≤ rG r k := of_decide_eq_true hh
        rw [if_pos (nI_le hle (by omega))]
        refine ⟨_, rfl, ⟨f1, f2, fun j hj => ?_⟩, ?_, rfl, fun p hp => ?_, fun p hp hm => ?_⟩
        · funext b; dsimp only; rw [pN_k _ _ (by omega), f3 j hj]
        · show bI (!allb (hmB t r) k) = bI (!(allb (hmB t r) k && hmB t r k))
          rw [hh, Bool.and_true]
        · by_cases hpk : p = k
          · rw [hpk]; dsimp only; rw [pN_s]; unfold wI; rw [hh, if_pos rfl]
          · dsimp only; rw [pN_i _ _ hpk]; exact i4 p (by omega)
        · by_cases hpk : p = k
          · rw [hpk, hh] at hm; exact absurd hm (by decide)
          · dsimp only; rw [pN_k _ _ (by omega), pN_k _ _ (by omega)]; exact i5 p (by omega) hm
      | false =>
        have hlt := hm_f hh
        have he := edg_lt ok hk hh
        have hv2 : XV S (pN S 16 k (-1)) := ⟨fun _ _ _ => rfl, fun j hj => by funext b; exact pN_k _ _ (by omega), rfl⟩
        rw [if_neg (nI_ge hlt (by omega)), ck, x_edge ok (fun p hp => (hws p hp).V hv2) hk hh, bq1_s, ck, chk_n he (by omega), chk_n he (by omega), pR_n (by omega), pR_n (by omega), pR_n (by omega)]
        refine ⟨_, rfl, ⟨f1, f2, fun j hj => ?_⟩, ?_, rfl, fun p hp => ?_, fun p hp hm => ?_⟩
        · funext b; dsimp only; rw [pN_k _ _ (by omega), pN_k _ _ (by omega), pN_k _ _ (by omega), pN_k _ _ (by omega), f3 j hj]
        · show (1 : Int32) = bI (!(allb (hmB t r) k && hmB t r k))
          rw [hh, Bool.and_false]; rfl
        · dsimp only
          rw [pN_k _ _ (by omega), pN_k _ _ (by omega)]
          by_cases hpk : p = k
          · rw [hpk, pN_s]; unfold wI; rw [hh, if_neg (by decide)]
          · rw [pN_i _ _ hpk, pN_i _ _ hpk]; exact i4 p (by omega)
        · dsimp only
          by_cases hpk : edg t r p = edg t r k
          · rw [hpk, pN_k _ _ (by omega), pN_s, pN_s]; exact ⟨rfl, rfl⟩
          · have hpk2 : p ≠ k := fun z => hpk (by rw [z])
            rw [pN_k _ _ (by omega), pN_i _ _ hpk, pN_k _ _ (by omega), pN_k _ _ (by omega), pN_i _ _ hpk, pN_k _ _ (by omega), pN_k _ _ (by omega), pN_k _ _ (by omega)]
            exact i5 p (by omega) hm)
    (by
      rintro ⟨S, y3, y4⟩ ⟨⟨f1, f2, f3⟩, i2, i3, i4, i5⟩
      dsimp only at f1 i3 ⊢
      subst i3
      unfold bX4_look_5
      rw [show gF S 3 = nI (tN t) by rw [gF_e, f1]; exact x.2.2.2.1]
      exact if_pos (Int32.le_refl _))
  dsimp only at i1 i2 i4 i5
  rw [e, bq3_s, i2]
  refine ⟨Y, ?_, i1, i4, i5⟩
  cases allb (hmB t r) (tN t)
  · exact zb_1
  · exact zb_0
def oI (o : Option Nat) : Int32 := match o with
  | none => -1
  | some w => nI w
theorem wn_t {t : Tk} {r : Rq} {k : Nat} (h : hmB t r k = false) : wnt t r (edg t r k) k = true := by unfold wnt; rw [h]; simp
theorem wn_f1 {t : Tk} {r : Rq} {k e : Nat} (h : hmB t r k = true) : wnt t r e k = false := by unfold wnt; rw [h]; rfl
theorem wn_f2 {t : Tk} {r : Rq} {k e : Nat} (h : edg t r k ≠ e) : wnt t r e k = false := by unfold wnt; simp [h]
theorem cnt_t {P : Nat → Bool} {k : Nat} (h : P k = true) : cntb P (k + 1) = cntb P k + 1 := by show cntb P k + _ = _; rw [if_pos h]
theorem cnt_f {P : Nat → Bool} {k : Nat} (h : P k = false) : cntb P (k + 1) = cntb P k := by show cntb P k + _ = _; rw [if_neg (by rw [h]; decide)]; rfl
theorem wnN_f {P : Nat → Bool} {A : Nat → Nat → Bool} {k : Nat} (h : P k = false) : wnN P A (k + 1) = wnN P A k := if_neg (by rw [h]; decide)
theorem wnN_n {P : Nat → Bool} {A : Nat → Nat → Bool} {k : Nat} (h : P k = true) (g : wnN P A k = none) : wnN P A (k + 1) = some k := by
  unfold wnN
  rw [if_pos h, g]
theorem wnN_s {P : Nat → Bool} {A : Nat → Nat → Bool} {k w : Nat} (h : P k = true) (g : wnN P A k = some w) : wnN P A (k + 1) = if A k w = true then some k else some w := by
  rw [wnN, if_pos h, g]
theorem x_contest {X : St} {t : Tk} (ok : TkOK t) (x : XT X 0 t) (hw : ∀ p, p < tN t → XWay X p (wyP t p)) {r : Rq} (rk : RnOK t r) (xn : XN X t r) {l : Nat} (hl : l < 4) (h33 : X.1 33 = nI (rM r)) (h16 : ∀ p, p < tN t → X.2.1 16 p = wI t r p) (h17 : ∀ p, p < tN t → hmB t r p = false → X.2.1 17 (edg t r p) = 0 ∧ X.2.1 18 (edg t r p) = -1) : ∃ Y, fX4_contest X (nI l) = some Y ∧ ((∀ j, j ≠ 33 → Y.1 j = X.1 j) ∧ Y.2.2 = X.2.2 ∧ ∀ j, j ≠ 17 → j ≠ 18 → Y.2.1 j = X.2.1 j) ∧ Y.1 33 = nI (mxM t r (tN t)) ∧ ∀ p, p < tN t → hmB t r p = false → Y.2.1 18 (edg t r p) = oI (wnN (wnt t r (edg t r p)) (ahd t l r) (tN t)) := by
  have hn := ok.2.2.2.2.1
  have hd := ok.2.1
  have mb : ∀ k, k ≤ tN t → mxX t r k ≤ 16 := fun k hk => (mxX_iff t r 16 k).mpr ⟨rk.2.2.2, fun j hj _ => by have := cntb_le (wnt t r (edg t r j)) (j + 1); omega⟩
  unfold fX4_contest
  obtain ⟨⟨Y, y4⟩, e, i1, i2, i3, i4⟩ := lp_fu (f := fun q => bX4_contest_3 (nI l) q.1 q.2) (fun k s => ((∀ j, j ≠ 33 → s.1.1 j = X.1 j) ∧ s.1.2.2 = X.2.2 ∧ ∀ j, j ≠ 17 → j ≠ 18 → s.1.2.1 j = X.2.1 j) ∧ s.1.1 33 = nI (mxX t r k) ∧ s.2 = nI k ∧ ∀ p, p < tN t → hmB t r p = false → s.1.2.1 17 (edg t r p) = nI (cntb (wnt t r (edg t r p)) k) ∧ s.1.2.1 18 (edg t r p) = oI (wnN (wnt t r (edg t r p)) (ahd t l r) k)) (tN t) (by omega) (X, (0 : Int32)) ⟨⟨fun _ _ => rfl, rfl, fun _ _ _ => rfl⟩, h33, rfl, fun p hp hm => h17 p hp hm⟩
    (by
      rintro k ⟨S, y4⟩ hk ⟨⟨f1, f2, f3⟩, i2, i3, i4⟩
      dsimp only at f1 f2 f3 i2 i3 i4 ⊢
      subst i3
      have ck : ∀ {α : Type} (K : Option α), chk (nI k) 16 K = K := fun K => chk_n (by omega) (by omega)
      have g3 : gF S 3 = nI (tN t) := (f1 3 (by omega)).trans x.2.2.2.1
      unfold bX4_contest_3
      cases hh : hmB t r k with
      | true =>
        have g16 : gR S 16 (nI k) = -1 := by rw [gR_n (by omega), f3 16 (by omega) (by omega), h16 k hk]; unfold wI; rw [hh, if_pos rfl]
        rw [g3, if_neg (nI_ge hk (by omega)), ck, g16, if_pos rfl, nI_1]
        refine ⟨_, rfl, ⟨f1, f2, f3⟩, ?_, rfl, fun p hp hm => ?_⟩
        · show S.1 33 = nI (if hmB t r k = true then mxX t r k else _)
          rw [if_pos hh]; exact i2
        · rw [cnt_f (wn_f1 hh), wnN_f (wn_f1 hh)]; exact i4 p hp hm
      | false =>
        have he := edg_lt ok hk hh
        have g16 : gR S 16 (nI k) = nI (edg t r k) := by rw [gR_n (by omega), f3 16 (by omega) (by omega), h16 k hk]; unfold wI; rw [hh, if_neg (by decide)]
        obtain ⟨j1, j2⟩ := i4 k hk hh
        have wt := wn_t hh
        have cl := cntb_le (wnt t r (edg t r k)) k
        have g17 : gR S 17 (nI (edg t r k)) = nI (cntb (wnt t r (edg t r k)) k) := (gR_n (by omega)).trans j1
        have g18 : gR S 18 (nI (edg t r k)) = oI (wnN (wnt t r (edg t r k)) (ahd t l r) k) := (gR_n (by omega)).trans j2
        have p17 : pR S 17 (nI (edg t r k)) (nI (cntb (wnt t r (edg t r k)) k) + 1) = pN S 17 (edg t r k) (nI (cntb (wnt t r (edg t r k)) (k + 1))) := by rw [nI_1, pR_n (by omega), cnt_t wt]
        have gp17 : gR (pN S 17 (edg t r k) (nI (cntb (wnt t r (edg t r k)) (k + 1)))) 17 (nI (edg t r k)) = nI (cntb (wnt t r (edg t r k)) (k + 1)) := (gR_n (by omega)).trans (pN_s _ _ _ _)
        have gm : (if gF S 33 < nI (cntb (wnt t r (edg t r k)) (k + 1)) then nI (cntb (wnt t r (edg t r k)) (k + 1)) else gF S 33) = nI (mxX t r (k + 1)) := by
          rw [gF_e, i2]
          show _ = nI (if hmB t r k = true then mxX t r k else if mxX t r k < cntb (wnt t r (edg t r k)) (k + 1) then cntb (wnt t r (edg t r k)) (k + 1) else mxX t r k)
          have m1 := mb k (by omega)
          have c1 := cntb_le (wnt t r (edg t r k)) (k + 1)
          rw [if_neg (show ¬ hmB t r k = true by rw [hh]; decide)]
          by_cases q : mxX t r k < cntb (wnt t r (edg t r k)) (k + 1)
          · rw [if_pos (nI_lt q (by omega)), if_pos q]
          · rw [if_neg (nI_nlt (by omega) (by omega)), if_neg q]
        have ce : ∀ {α : Type} (K : Option α), chk (nI (edg t r k)) 64 K = K := fun K => chk_n he (by omega)
        rw [g3, if_neg (nI_ge hk (by omega)), ck, g16, if_neg (nI_m1 (by omega)), ce, ce, ce, ce, ce, g17, p17, gp17, gm, g18, nI_1]
        generalize hS : pF (pN S 17 (edg t r k) (nI (cntb (wnt t r (edg t r k)) (k + 1)))) 33 (nI (mxX t r (k + 1))) = Z
        have z1 : ∀ j, j ≠ 33 → Z.1 j = X.1 j := fun j hj => by subst hS; rw [pF_n _ _ hj]; exact f1 j hj
        have z2 : Z.2.2 = X.2.2 := by subst hS; exact f2
        have z3 : ∀ j, j ≠ 17 → j ≠ 18 → Z.2.1 j = X.2.1 j := fun j a b => by
          subst hS; funext c
          show (pN S 17 (edg t r k) _).2.1 j c = _
          rw [pN_k _ _ a, f3 j a b]
        have z4 : Z.1 33 = nI (mxX t r (k + 1)) := by subst hS; exact pF_s _ _ _
        have z5 : Z.2.1 17 (edg t r k) = nI (cntb (wnt t r (edg t r k)) (k + 1)) := by subst hS; exact pN_s _ _ _ _
        have z6 : ∀ e, e ≠ edg t r k → Z.2.1 17 e = S.2.1 17 e := fun e h => by subst hS; exact pN_i _ _ h
        have z7 : ∀ e, Z.2.1 18 e = S.2.1 18 e := fun e => by subst hS; exact pN_k _ _ (by omega)
        have zv : XV X Z := ⟨fun j _ b => z1 j b, fun j hj => z3 j (by omega) (by omega), z2⟩
        -- whoever is the winner now
        have fin : ∀ (w : Nat), wnN (wnt t r (edg t r k)) (ahd t l r) (k + 1) = some w → ∀ V : St, V.1 = Z.1 → V.2.2 = Z.2.2 → (∀ j, j ≠ 18 → V.2.1 j = Z.2.1 j) → V.2.1 18 (edg t r k) = nI w → (∀ e, e ≠ edg t r k → V.2.1 18 e = Z.2.1 18 e) → ((∀ j, j ≠ 33 → V.1 j = X.1 j) ∧ V.2.2 = X.2.2 ∧ ∀ j, j ≠ 17 → j ≠ 18 → V.2.1 j = X.2.1 j) ∧ V.1 33 = nI (mxX t r (k + 1)) ∧ ∀ p, p < tN t → hmB t r p = false → V.2.1 17 (edg t r p) = nI (cntb (wnt t r (edg t r p)) (k + 1)) ∧ V.2.1 18 (edg t r p) = oI (wnN (wnt t r (edg t r p)) (ahd t l r) (k + 1)) := by
          intro w hwn V v1 v2 v3 v4 v5
          refine ⟨⟨fun j hj => by rw [v1]; exact z1 j hj, v2.trans z2, fun j a b => (v3 j b).trans (z3 j a b)⟩, by rw [v1]; exact z4, fun p hp hm => ?_⟩
          by_cases q : edg t r p = edg t r k
          · rw [q, v3 17 (by omega), z5, v4, hwn]; exact ⟨rfl, rfl⟩
          · rw [v3 17 (by omega), z6 _ q, v5 _ q, z7, cnt_f (wn_f2 (Ne.symm q)), wnN_f (wn_f2 (Ne.symm q))]; exact i4 p hp hm
        have put : ∀ (w : Nat), wnN (wnt t r (edg t r k)) (ahd t l r) (k + 1) = some k → ∃ s2 : St × Int32, fX4_contest_86 Z (nI k) (nI (edg t r k)) = some (true, s2) ∧ ((∀ j, j ≠ 33 → s2.1.1 j = X.1 j) ∧ s2.1.2.2 = X.2.2 ∧ ∀ j, j ≠ 17 → j ≠ 18 → s2.1.2.1 j = X.2.1 j) ∧ s2.1.1 33 = nI (mxX t r (k + 1)) ∧ s2.2 = nI (k + 1) ∧ ∀ p, p < tN t → hmB t r p = false → s2.1.2.1 17 (edg t r p) = nI (cntb (wnt t r (edg t r p)) (k + 1)) ∧ s2.1.2.1 18 (edg t r p) = oI (wnN (wnt t r (edg t r p)) (ahd t l r) (k + 1)) := by
          intro w hwn
          unfold fX4_contest_86
          rw [ce, pR_n (by omega), nI_1]
          obtain ⟨q1, q2, q3⟩ := fin k hwn (pN Z 18 (edg t r k) (nI k)) rfl rfl (fun j hj => by funext b; exact pN_k _ _ hj) (pN_s _ _ _ _) (fun e h => pN_i _ _ h)
          exact ⟨_, rfl, q1, q2, rfl, q3⟩
        cases hc : wnN (wnt t r (edg t r k)) (ahd t l r) k with
        | none =>
          rw [if_pos (show oI none = (-1 : Int32) from rfl)]
          exact put 0 (wnN_n wt hc)
        | some w =>
          obtain ⟨w1, -, -⟩ := wnN_ok _ _ hc
          rw [show oI (some w) = nI w from rfl, if_neg (nI_m1 (by omega)), x_isAhead ok (x.V zv) (fun p hp => (hw p hp).V zv) rk (xn.of fun j _ _ => z3 j (by omega) (by omega)) hl hk (by omega), bq1_s]
          cases ha : ahd t l r k w with
          | true =>
            rw [if_neg (show ¬ bI true = (0 : Int32) by decide)]
            exact put 0 (by rw [wnN_s wt hc, if_pos ha])
          | false =>
            rw [if_pos (show bI false = (0 : Int32) from rfl)]
            obtain ⟨q1, q2, q3⟩ := fin w (by rw [wnN_s wt hc, if_neg (by rw [ha]; decide)]) Z rfl rfl (fun _ _ => rfl) (by rw [z7, j2, hc]; rfl) (fun _ _ => rfl)
            exact ⟨_, rfl, q1, q2, rfl, q3⟩)
    (by
      rintro ⟨S, y4⟩ ⟨⟨f1, f2, f3⟩, i2, i3, i4⟩
      dsimp only at f1 i3 ⊢
      subst i3
      unfold bX4_contest_3
      rw [show gF S 3 = nI (tN t) from (f1 3 (by omega)).trans x.2.2.2.1]
      exact if_pos (Int32.le_refl _))
  dsimp only at i1 i2 i4
  rw [e, bq2_s]
  exact ⟨Y, rfl, i1, by rw [i2, mx_same], fun p hp hm => (i4 p hp hm).2⟩
