/-! The reference's run. -/
def MV (X Y : St) : Prop := (∀ k, k ≠ 20 → k ≠ 21 → Y.1 k = X.1 k) ∧ ∀ k, k < 11 ∨ 15 < k → Y.2.1 k = X.2.1 k
theorem MV.rf (X : St) : MV X X := ⟨fun _ _ _ => rfl, fun _ _ => rfl⟩
theorem MV.tr {X Y Z : St} (h : MV X Y) (g : MV Y Z) : MV X Z := ⟨fun k a b => (g.1 k a b).trans (h.1 k a b), fun k hk => (g.2 k hk).trans (h.2 k hk)⟩
theorem MV.C {X Y : St} (h : MV X Y) : MC X Y := ⟨fun k hk => h.1 k (by omega) (by omega), fun k hk => h.2 k (by omega)⟩
theorem MT.V {X Y : St} (h : MV X Y) {t : Tk} (x : MT X t) : MT Y t := x.of h.C
theorem MWay.V {X Y : St} (h : MV X Y) {p z : Nat} {w : Nat × Nat × (Nat → Nat)} (x : MWay X p w z) : MWay Y p w z := by
  obtain ⟨a, b, c, d⟩ := x
  refine ⟨?_, ?_, fun k hk => ?_, ?_⟩
  · rw [h.2 8 (by omega)]; exact a
  · rw [h.2 7 (by omega)]; exact b
  · rw [h.2 9 (by omega)]; exact c k hk
  · rw [h.2 9 (by omega)]; exact d
abbrev MWs (M : St) (t : Tk) : Prop := ∀ p, p < tN t → MWay M p (wyP t p) (tT t p 1)
def MN (S : St) (t : Tk) (r : Rq) : Prop := ∀ p, p < tN t → S.2.1 11 p = nI (rG r p) ∧ S.2.1 12 p = nI (rC r p) ∧ S.2.1 13 p = nI (rH r p) ∧ S.2.1 14 p = nI (rD r p)
theorem MN.of {X Y : St} {t : Tk} {r : Rq} (x : MN X t r) (h : ∀ k, 10 < k → k < 15 → Y.2.1 k = X.2.1 k) : MN Y t r := fun p hp => by
  rw [h 11 (by omega) (by omega), h 12 (by omega) (by omega), h 13 (by omega) (by omega), h 14 (by omega) (by omega)]
  exact x p hp
theorem m_isHome {M : St} {t : Tk} (ok : TkOK t) {r : Rq} {p : Nat} (hp : p < tN t) (rk : rG r p ≤ (wyP t p).2.1) (hw : MWay M p (wyP t p) (tT t p 1)) (hg : M.2.1 11 p = nI (rG r p)) : fX7_isHome M (nI p) = some (bI (hmB t r p)) := by
  have hn := ok.2.2.2.2.1
  have hd := ok.2.1
  have h3 := (wyP_ok ok hp).1
  unfold fX7_isHome hmB
  rw [chk_n (show p < 16 by omega) (by omega), chk_n (show p < 16 by omega) (by omega), gR_n (by omega), gR_n (by omega), hg, hw.2.1]
  by_cases h : (wyP t p).2.1 ≤ rG r p
  · rw [if_pos (by rw [Nat.le_antisymm h rk]), decide_eq_true h]; rfl
  · rw [if_neg (nI_c (by omega) (by omega) (by omega)), decide_eq_false h]; rfl
theorem m_ah110 {M : St} {t : Tk} (ok : TkOK t) (m : MT M t) {p q a b : Nat} (hp : p < tN t) (hq : q < tN t) (ha : a < 2 ^ 30) (hb : b < 2 ^ 30) : fX7_isAhead_110 M (nI p) (nI q) (nI a - nI b) = some (bI (if a = b then (if tT t p 3 = tT t q 3 then decide (p < q) else decide (tT t q 3 < tT t p 3)) else decide (b < a))) := by
  have hn := ok.2.2.2.2.1
  have r1 := ok.2.2.2.2.2.1 p 3 (by omega) (by omega)
  have r2 := ok.2.2.2.2.2.1 q 3 (by omega) (by omega)
  unfold fX7_isAhead_110 fX7_isAhead_133
  by_cases e : a = b
  · rw [if_pos ((sub_0 ha hb).mpr e), if_pos e, chk_n (show p < 16 by omega) (by omega), chk_n (show q < 16 by omega) (by omega), gR_n (by omega), gR_n (by omega), show M.2.1 5 p = nI (tT t p 3) from m.2.2.2.2 p 3 (by omega) (by omega), show M.2.1 5 q = nI (tT t q 3) from m.2.2.2.2 q 3 (by omega) (by omega)]
    by_cases g : tT t p 3 = tT t q 3
    · rw [if_pos ((sub_0 (by omega) (by omega)).mpr g), if_pos g]
      by_cases h : p < q
      · rw [if_neg (nI_ge h (by omega)), decide_eq_true h]; rfl
      · rw [if_pos (nI_le (by omega) (by omega)), decide_eq_false h]; rfl
    · rw [if_neg (fun z => g ((sub_0 (by omega) (by omega)).mp z)), if_neg g]
      by_cases h : tT t q 3 < tT t p 3
      · rw [if_neg (fun z => by have := (sub_le (by omega) (by omega)).mp z; omega), decide_eq_true h]; rfl
      · rw [if_pos ((sub_le (by omega) (by omega)).mpr (by omega)), decide_eq_false h]; rfl
  · rw [if_neg (fun z => e ((sub_0 ha hb).mp z)), if_neg (fun z => e ((sub_0 ha hb).mp z)), if_neg e]
    by_cases h : b < a
    · rw [if_neg (fun z => by have := (sub_le ha hb).mp z; omega), decide_eq_true h]; rfl
    · rw [if_pos ((sub_le ha hb).mpr (by omega)), decide_eq_false h]; rfl
theorem m_isAhead {M : St} {t : Tk} (ok : TkOK t) (m : MT M t) (hw : MWs M t) {r : Rq} (rk : RnOK t r) (mn : MN M t r) {l p q : Nat} (hl : l < 4) (hp : p < tN t) (hq : q < tN t) : fX7_isAhead M (nI p) (nI q) (nI l) = some (bI (ahd t l r p q)) := by
  have hn := ok.2.2.2.2.1
  have hd := ok.2.1
  have c1 : ∀ {α : Type} (K : Option α), chk (nI p) 16 K = K := fun K => chk_n (by omega) (by omega)
  have c2 : ∀ {α : Type} (K : Option α), chk (nI q) 16 K = K := fun K => chk_n (by omega) (by omega)
  have b1 := uU_le ok rk l hp q
  have b2 := uU_le ok rk l hq p
  have key := m_ah110 ok m hp hq (show uU t l r p q < 2 ^ 30 by omega) (show uU t l r q p < 2 ^ 30 by omega)
  have goal : ∀ v : Int32, v = nI (uU t l r p q) - nI (uU t l r q p) → fX7_isAhead_110 M (nI p) (nI q) v = some (bI (ahd t l r p q)) := by
    rintro v rfl
    exact key
  obtain ⟨p1, p2, -, -⟩ := mn p hp
  obtain ⟨q1, q2, -, -⟩ := mn q hq
  have lp1 := wyP_ok ok hp
  have lq1 := wyP_ok ok hq
  have e1 := lp1.1
  have e2 := lq1.1
  have e3 := lp1.2.1
  have e4 := lq1.2.1
  have g1 := rk.1 p hp
  have g2 := rk.1 q hq
  unfold fX7_isAhead
  rcases (show l = 0 ∨ l = 1 ∨ l = 2 ∨ l = 3 by omega) with rfl | rfl | rfl | rfl
  · rw [if_pos (show nI 0 = (0 : Int32) from rfl), c2, c1, gR_n (by omega), gR_n (by omega), p2, q2]
    exact goal _ rfl
  · rw [if_neg (show ¬ nI 1 = (0 : Int32) by decide), if_neg (show ¬ nI 1 = (2 : Int32) by decide), if_neg (show ¬ nI 1 = (3 : Int32) by decide)]
    exact goal _ (show (0 : Int32) = nI 0 - nI 0 from rfl)
  · rw [if_neg (show ¬ nI 2 = (0 : Int32) by decide), if_pos (show nI 2 = (2 : Int32) from rfl), c1, c1, c2, c2, gR_n (by omega), gR_n (by omega), gR_n (by omega), gR_n (by omega), p1, q1, (hw p hp).2.1, (hw q hq).2.1]
    refine goal _ ?_
    show _ = nI ((wyP t p).2.1 - rG r p) - nI ((wyP t q).2.1 - rG r q)
    rw [← pk_sub g1, ← pk_sub g2]
    grind
  · rw [if_neg (show ¬ nI 3 = (0 : Int32) by decide), if_neg (show ¬ nI 3 = (2 : Int32) by decide), if_pos (show nI 3 = (3 : Int32) from rfl), c1, c1]
    unfold fX7_isAhead_87 fX7_isAhead_107
    rw [c2, c2, c2, c2, gR_n (by omega), gR_n (by omega), gR_n (by omega), gR_n (by omega), p1, q1, (hw p hp).1, (hw q hq).1]
    have u1 : uU t 3 r p q = if (wyP t p).1 ≤ rG r p then 2 else 1 := rfl
    have u2 : uU t 3 r q p = if (wyP t q).1 ≤ rG r q then 2 else 1 := rfl
    rw [u1, u2] at goal
    by_cases h1 : (wyP t p).1 ≤ rG r p
    · rw [if_pos h1] at goal
      rw [if_neg (nI_nlt h1 (by omega))]
      by_cases h2 : (wyP t q).1 ≤ rG r q
      · rw [if_pos h2] at goal
        rw [if_neg (nI_nlt h2 (by omega))]
        exact goal _ (by decide)
      · rw [if_neg h2] at goal
        rw [if_pos (nI_lt (by omega) (by omega))]
        exact goal _ (by decide)
    · rw [if_neg h1] at goal
      rw [if_pos (nI_lt (by omega) (by omega))]
      by_cases h2 : (wyP t q).1 ≤ rG r q
      · rw [if_pos h2] at goal
        rw [if_neg (nI_nlt h2 (by omega))]
        exact goal _ (by decide)
      · rw [if_neg h2] at goal
        rw [if_pos (nI_lt (by omega) (by omega))]
        exact goal _ (by decide)
theorem m_edge {M : St} {t : Tk} (ok : TkOK t) (hw : MWs M t) {r : Rq} {p : Nat} (hp : p < tN t) (h : hmB t r p = false) : fX7_edgeOf M (nI p) (nI (rG r p)) = some (nI (edg t r p)) := by
  have hn := ok.2.2.2.2.1
  exact m_edgeOf ok.2.1 (show p < 16 by omega) (wyP_ok ok hp) (ok.2.2.2.2.2.2 p 1 hp (by omega)) (hw p hp) (hm_f h)
theorem m_going46 {M : St} {t : Tk} (ok : TkOK t) (m : MT M t) (hw : MWs M t) {r : Rq} (rk : RnOK t r) (mn : MN M t r) {l p : Nat} (hl : l < 4) (hp : p < tN t) (hh : hmB t r p = false) : ∃ y, lp (fun q => bX7_setGoing_46 M (nI l) (nI p) (nI (edg t r p)) q.1 q.2.1 q.2.2) fu ((1 : Int32), (0 : Int32), (0 : Int32)) = some (bI (goB t l r p), nI (cntb (wnt t r (edg t r p)) (tN t)), y) := by
  have hn := ok.2.2.2.2.1
  have he := edg_lt ok hp hh
  obtain ⟨⟨u, v, y⟩, e, i1, i2, i3⟩ := lp_fu (f := fun q => bX7_setGoing_46 M (nI l) (nI p) (nI (edg t r p)) q.1 q.2.1 q.2.2) (fun k s => s.1 = bI (allb (fun q => !(wnt t r (edg t r p) q) || (decide (q = p) || ahd t l r p q)) k) ∧ s.2.1 = nI (cntb (wnt t r (edg t r p)) k) ∧ s.2.2 = nI k) (tN t) (by omega) ((1 : Int32), (0 : Int32), (0 : Int32)) ⟨rfl, rfl, rfl⟩
    (by
      rintro k ⟨u, v, y⟩ hk ⟨i1, i2, i3⟩
      dsimp only at i1 i2 i3 ⊢
      subst i1; subst i2; subst i3
      show ∃ s2 : Int32 × Int32 × Int32, _ = some (true, s2) ∧ s2.1 = bI (allb (fun q => !(wnt t r (edg t r p) q) || (decide (q = p) || ahd t l r p q)) k && (!(wnt t r (edg t r p) k) || (decide (k = p) || ahd t l r p k))) ∧ s2.2.1 = nI (cntb (wnt t r (edg t r p)) k + if wnt t r (edg t r p) k = true then 1 else 0) ∧ s2.2.2 = nI (k + 1)
      generalize allb (fun q => !(wnt t r (edg t r p) q) || (decide (q = p) || ahd t l r p q)) k = A
      generalize cntb (wnt t r (edg t r p)) k = c
      unfold bX7_setGoing_46
      rw [show gF M 2 = nI (tN t) from m.2.2.2.1, if_neg (nI_ge hk (by omega)), m_isHome ok hk (rk.1 k hk) (hw k hk) (mn k hk).1, bq1_s, nI_1, nI_1]
      cases hk1 : hmB t r k with
      | true =>
        rw [if_neg (show ¬ bI true = (0 : Int32) by decide), wn_f1 hk1]
        refine ⟨_, rfl, ?_, rfl, rfl⟩
        rw [Bool.not_false, Bool.true_or, Bool.and_true]
      | false =>
        rw [if_pos (show bI false = (0 : Int32) from rfl), chk_n (show k < 16 by omega) (by omega), gR_n (by omega), (mn k hk).1, m_edge ok hw hk hk1, bq1_s]
        have he2 := edg_lt ok hk hk1
        by_cases q : edg t r k = edg t r p
        · have wt : wnt t r (edg t r p) k = true := by rw [← q]; exact wn_t hk1
          rw [if_pos (by rw [q]), wt, Bool.not_true, Bool.false_or, if_pos rfl]
          cases A with
          | false =>
            rw [if_pos (show bI false = (0 : Int32) from rfl)]
            exact ⟨_, rfl, rfl, rfl, rfl⟩
          | true =>
            rw [if_neg (show ¬ bI true = (0 : Int32) by decide), Bool.true_and]
            by_cases hkp : k = p
            · rw [if_pos (by rw [hkp]), decide_eq_true hkp, Bool.true_or]
              exact ⟨_, rfl, rfl, rfl, rfl⟩
            · rw [if_neg (nI_c (by omega) (by omega) hkp), decide_eq_false hkp, Bool.false_or, m_isAhead ok m hw rk mn hl hp hk, bq1_s]
              cases ahd t l r p k with
              | true => rw [if_neg (show ¬ bI true = (0 : Int32) by decide)]; exact ⟨_, rfl, rfl, rfl, rfl⟩
              | false => rw [if_pos (show bI false = (0 : Int32) from rfl)]; exact ⟨_, rfl, rfl, rfl, rfl⟩
        · rw [if_neg (nI_c (by omega) (by omega) q), wn_f2 q]
          refine ⟨_, rfl, ?_, rfl, rfl⟩
          rw [Bool.not_false, Bool.true_or, Bool.and_true])
    (by
      rintro ⟨u, v, y⟩ ⟨i1, i2, i3⟩
      dsimp only at i3 ⊢
      subst i3
      unfold bX7_setGoing_46
      rw [show gF M 2 = nI (tN t) from m.2.2.2.1]
      exact if_pos (Int32.le_refl _))
  dsimp only at i1 i2
  exact ⟨y, by rw [e, i1, i2]; rfl⟩
theorem m_setGoing {M : St} {t : Tk} (ok : TkOK t) (m : MT M t) (hw : MWs M t) {r : Rq} (rk : RnOK t r) (mn : MN M t r) {l : Nat} (hl : l < 4) (h21 : M.1 21 = nI (rM r)) : ∃ Y, fX7_setGoing M (nI l) = some Y ∧ ((∀ j, j ≠ 21 → Y.1 j = M.1 j) ∧ ∀ j, j ≠ 15 → Y.2.1 j = M.2.1 j) ∧ Y.1 21 = nI (mxM t r (tN t)) ∧ ∀ p, p < tN t → Y.2.1 15 p = bI (mvB t l r p) := by
  have hn := ok.2.2.2.2.1
  have mb : ∀ k, k ≤ tN t → mxM t r k ≤ 16 := fun k hk => (mxM_iff t r 16 k).mpr ⟨rk.2.2.2, fun j hj _ => by have := cntb_le (wnt t r (edg t r j)) (tN t); omega⟩
  unfold fX7_setGoing
  obtain ⟨⟨Y, y⟩, e, i1, i2, i3, i4⟩ := lp_fu (f := fun q => bX7_setGoing_2 (nI l) q.1 q.2) (fun k s => ((∀ j, j ≠ 21 → s.1.1 j = M.1 j) ∧ ∀ j, j ≠ 15 → s.1.2.1 j = M.2.1 j) ∧ s.1.1 21 = nI (mxM t r k) ∧ s.2 = nI k ∧ ∀ p, p < k → s.1.2.1 15 p = bI (mvB t l r p)) (tN t) (by omega) (M, (0 : Int32)) ⟨⟨fun _ _ => rfl, fun _ _ => rfl⟩, h21, rfl, fun p hp => absurd hp (Nat.not_lt_zero _)⟩
    (by
      rintro k ⟨S, y⟩ hk ⟨⟨f1, f2⟩, i2, i3, i4⟩
      dsimp only at f1 f2 i2 i3 i4 ⊢
      subst i3
      have ck : ∀ {α : Type} (K : Option α), chk (nI k) 16 K = K := fun K => chk_n (by omega) (by omega)
      generalize hZ : pN S 15 k 0 = Z
      have z1 : ∀ j, j ≠ 21 → Z.1 j = M.1 j := fun j hj => by subst hZ; exact f1 j hj
      have z2 : ∀ j, j ≠ 15 → Z.2.1 j = M.2.1 j := fun j hj => by subst hZ; funext b; rw [pN_k _ _ hj, f2 j hj]
      have z3 : Z.1 21 = nI (mxM t r k) := by subst hZ; exact i2
      have z4 : ∀ p, p < k → Z.2.1 15 p = bI (mvB t l r p) := fun p hp => by subst hZ; rw [pN_i _ _ (by omega)]; exact i4 p hp
      have z5 : Z.2.1 15 k = 0 := by subst hZ; exact pN_s _ _ _ _
      have zv : MV M Z := ⟨fun j _ h => z1 j h, fun j hj => z2 j (by omega)⟩
      have mZ := m.V zv
      have hwZ : MWs Z t := fun p hp => (hw p hp).V zv
      have nZ : MN Z t r := mn.of fun j _ _ => z2 j (by omega)
      unfold bX7_setGoing_2
      rw [show gF S 2 = nI (tN t) from (f1 2 (by omega)).trans m.2.2.2.1, if_neg (nI_ge hk (by omega)), ck, pR_n (by omega), hZ, m_isHome ok hk (rk.1 k hk) (hwZ k hk) (nZ k hk).1, bq1_s, nI_1]
      cases hh : hmB t r k with
      | true =>
        rw [if_neg (show ¬ bI true = (0 : Int32) by decide)]
        refine ⟨_, rfl, ⟨z1, z2⟩, ?_, rfl, fun p hp => ?_⟩
        · show Z.1 21 = nI (if hmB t r k = true then mxM t r k else _)
          rw [if_pos hh]; exact z3
        · by_cases hpk : p = k
          · rw [hpk]; dsimp only; rw [z5]; unfold mvB; rw [hh]; rfl
          · exact z4 p (by omega)
      | false =>
        obtain ⟨y, e2⟩ := m_going46 ok mZ hwZ rk nZ hl hk hh
        have g11 : gR S 11 (nI k) = nI (rG r k) := by rw [gR_n (by omega), f2 11 (by omega)]; exact (mn k hk).1
        rw [if_pos (show bI false = (0 : Int32) from rfl), ck, g11, m_edge ok hwZ hk hh, bq1_s, e2, bq3_s]
        have c1 := cntb_le (wnt t r (edg t r k)) (tN t)
        have m1 := mb k (by omega)
        have fin : ∀ b : Bool, mvB t l r k = b → ∃ s2 : St × Int32, fX7_setGoing_134 Z (nI k) (nI (cntb (wnt t r (edg t r k)) (tN t))) (bI b) (nI k) = some (true, s2) ∧ ((∀ j, j ≠ 21 → s2.1.1 j = M.1 j) ∧ ∀ j, j ≠ 15 → s2.1.2.1 j = M.2.1 j) ∧ s2.1.1 21 = nI (mxM t r (k + 1)) ∧ s2.2 = nI (k + 1) ∧ ∀ p, p < k + 1 → s2.1.2.1 15 p = bI (mvB t l r p) := by
          intro b hb
          have rowsok : ∀ v : Int32, v = nI (mxM t r (k + 1)) → ∃ s2 : St × Int32, (some (true, (pF (pN Z 15 k (bI b)) 21 v), nI (k + 1)) : Option (Bool × St × Int32)) = some (true, s2) ∧ ((∀ j, j ≠ 21 → s2.1.1 j = M.1 j) ∧ ∀ j, j ≠ 15 → s2.1.2.1 j = M.2.1 j) ∧ s2.1.1 21 = nI (mxM t r (k + 1)) ∧ s2.2 = nI (k + 1) ∧ ∀ p, p < k + 1 → s2.1.2.1 15 p = bI (mvB t l r p) := by
            intro v hv
            refine ⟨_, rfl, ⟨fun j hj => ?_, fun j hj => ?_⟩, ?_, rfl, fun p hp => ?_⟩
            · dsimp only; rw [pF_n _ _ hj]; exact z1 j hj
            · funext c
              show (pN Z 15 k (bI b)).2.1 j c = _
              rw [pN_k _ _ hj, z2 j hj]
            · dsimp only; rw [pF_s]; exact hv
            · show (pN Z 15 k (bI b)).2.1 15 p = _
              by_cases hpk : p = k
              · rw [hpk, pN_s, hb]
              · rw [pN_i _ _ hpk]; exact z4 p (by omega)
          have em : mxM t r (k + 1) = if mxM t r k < cntb (wnt t r (edg t r k)) (tN t) then cntb (wnt t r (edg t r k)) (tN t) else mxM t r k := by
            show (if hmB t r k = true then _ else _) = _
            rw [if_neg (by rw [hh]; decide)]
          unfold fX7_setGoing_134
          rw [ck, pR_n (by omega), nI_1, show gF Z 21 = nI (mxM t r k) from z3]
          by_cases q : mxM t r k < cntb (wnt t r (edg t r k)) (tN t)
          · rw [if_neg (nI_ge q (by omega))]
            exact rowsok _ (by rw [em, if_pos q])
          · rw [if_pos (nI_le (by omega) (by omega))]
            exact rowsok _ (by rw [em, if_neg q])
        cases hg : goB t l r k with
        | true =>
          rw [if_neg (show ¬ bI true = (0 : Int32) by decide)]
          exact fin true (by unfold mvB; rw [hh, hg]; rfl)
        | false =>
          rw [if_pos (show bI false = (0 : Int32) from rfl)]
          exact fin false (by unfold mvB; rw [hh, hg]; rfl))
    (by
      rintro ⟨S, y⟩ ⟨⟨f1, f2⟩, i2, i3, i4⟩
      dsimp only at f1 i3 ⊢
      subst i3
      unfold bX7_setGoing_2
      rw [show gF S 2 = nI (tN t) from (f1 2 (by omega)).trans m.2.2.2.1]
      exact if_pos (Int32.le_refl _))
  rw [e, bq2_s]
  exact ⟨Y, rfl, i1, i2, i4⟩
theorem m_goesTick {M : St} {t : Tk} (ok : TkOK t) (m : MT M t) (hw : MWs M t) {r : Rq} (rk : RnOK t r) (mn : MN M t r) {l : Nat} (hl : l < 4) (h20 : M.1 20 = nI (rK r)) (h21 : M.1 21 = nI (rM r)) : ∃ Y, fX7_goesTick M (nI l) = some Y ∧ MV M Y ∧ MN Y t (tick t l r) ∧ Y.1 20 = nI (rK r + 1) ∧ Y.1 21 = nI (mxM t r (tN t)) := by
  have hn := ok.2.2.2.2.1
  have hd := ok.2.1
  unfold fX7_goesTick
  rw [show gF M 20 + (1 : Int32) = nI (rK r + 1) by rw [gF_e, h20, nI_1]]
  have v0 : MV M (pF M 20 (nI (rK r + 1))) := ⟨fun j h _ => pF_n _ _ h, fun _ _ => rfl⟩
  obtain ⟨A, e1, ⟨a1, a2⟩, a3, a4⟩ := m_setGoing ok (m.V v0) (fun p hp => (hw p hp).V v0) rk (show MN (pF M 20 (nI (rK r + 1))) t r from mn) hl (by rw [pF_n _ _ (by omega)]; exact h21)
  rw [e1, bq1_s]
  have vA : MV M A := v0.tr ⟨fun j _ h => a1 j h, fun j hj => a2 j (by omega)⟩
  have nA : MN A t r := mn.of fun j _ _ => a2 j (by omega)
  have A20 : A.1 20 = nI (rK r + 1) := (a1 20 (by omega)).trans (pF_s _ _ _)
  obtain ⟨⟨Y, y4⟩, e, i1, i3, i4⟩ := lp_fu (f := fun q => bX7_goesTick_17 q.1 q.2) (fun k s => (s.1.1 = A.1 ∧ ∀ j, j < 11 ∨ 14 < j → s.1.2.1 j = A.2.1 j) ∧ s.2 = nI k ∧ ∀ p, p < tN t → s.1.2.1 11 p = nI (if p < k then gU t l r p else rG r p) ∧ s.1.2.1 12 p = nI (if p < k then cU t l r p else rC r p) ∧ s.1.2.1 13 p = nI (if p < k then hU t l r p else rH r p) ∧ s.1.2.1 14 p = nI (if p < k then dU t l r p else rD r p)) (tN t) (by omega) (A, (0 : Int32)) ⟨⟨rfl, fun _ _ => rfl⟩, rfl, fun p hp => nA p hp⟩
    (by
      rintro k ⟨S, y4⟩ hk ⟨⟨f1, f3⟩, i3, i4⟩
      dsimp only at f1 f3 i3 i4 ⊢
      subst i3
      have ck : ∀ {α : Type} (K : Option α), chk (nI k) 16 K = K := fun K => chk_n (by omega) (by omega)
      have vS : MV A S := ⟨fun j _ _ => by rw [f1], fun j hj => f3 j (by omega)⟩
      have vS2 := vA.tr vS
      have g3 : gF S 2 = nI (tN t) := (m.V vS2).2.2.2.1
      obtain ⟨o1, o2, o3, o4⟩ := i4 k hk
      rw [if_neg (Nat.lt_irrefl k)] at o1 o2 o3 o4
      have oth : ∀ p, p < tN t → p ≠ k → S.2.1 11 p = nI (if p < k + 1 then gU t l r p else rG r p) ∧ S.2.1 12 p = nI (if p < k + 1 then cU t l r p else rC r p) ∧ S.2.1 13 p = nI (if p < k + 1 then hU t l r p else rH r p) ∧ S.2.1 14 p = nI (if p < k + 1 then dU t l r p else rD r p) := by
        intro p hp hpk
        have := i4 p hp
        by_cases q : p < k
        · rw [if_pos q, if_pos q, if_pos q, if_pos q] at this
          rw [if_pos (by omega), if_pos (by omega), if_pos (by omega), if_pos (by omega)]
          exact this
        · rw [if_neg q, if_neg q, if_neg q, if_neg q] at this
          rw [if_neg (by omega), if_neg (by omega), if_neg (by omega), if_neg (by omega)]
          exact this
      have hkk : k < k + 1 := Nat.lt_succ_self k
      unfold bX7_goesTick_17
      rw [g3, if_neg (nI_ge hk (by omega)), m_isHome ok hk (rk.1 k hk) ((hw k hk).V vS2) o1, bq1_s, nI_1]
      cases hh : hmB t r k with
      | true =>
        rw [if_neg (show ¬ bI true = (0 : Int32) by decide)]
        refine ⟨_, rfl, ⟨f1, f3⟩, rfl, fun p hp => ?_⟩
        by_cases hpk : p = k
        · subst hpk
          rw [if_pos hkk, if_pos hkk, if_pos hkk, if_pos hkk]
          have mv : mvB t l r p = false := by unfold mvB; rw [hh]; rfl
          unfold gU cU hU dU
          rw [mv, hh]
          exact ⟨o1, o2, o3, o4⟩
        · exact oth p hp hpk
      | false =>
        have g15 : gR S 15 (nI k) = bI (mvB t l r k) := by rw [gR_n (by omega), f3 15 (by omega), a4 k hk]
        have g20 : gF S 20 = nI (rK r + 1) := by rw [gF_e, f1]; exact A20
        rw [if_pos (show bI false = (0 : Int32) from rfl), ck, g15, ck, ck, ck, ck, ck, ck, g20]
        cases hg : goB t l r k with
        | true =>
          have mv : mvB t l r k = true := by unfold mvB; rw [hh, hg]; rfl
          rw [mv, if_pos (show bI true = (1 : Int32) from rfl), gR_n (by omega), o1, nI_1, pR_n (by omega), pR_n (by omega), pR_n (by omega)]
          refine ⟨_, rfl, ⟨f1, fun j hj => ?_⟩, rfl, fun p hp => ?_⟩
          · funext b; dsimp only; rw [pN_k _ _ (by omega), pN_k _ _ (by omega), pN_k _ _ (by omega), f3 j hj]
          · dsimp only
            rw [pN_k _ _ (by omega), pN_k _ _ (by omega)]
            by_cases hpk : p = k
            · subst hpk
              rw [if_pos hkk, if_pos hkk, if_pos hkk, if_pos hkk]
              unfold gU cU hU dU
              rw [mv, hh, hg, pN_s, pN_k _ _ (by omega), pN_s, pN_s, pN_k _ _ (by omega), pN_k _ _ (by omega), pN_k _ _ (by omega)]
              exact ⟨rfl, rfl, rfl, o4⟩
            · rw [pN_i _ _ hpk, pN_k _ _ (by omega), pN_i _ _ hpk, pN_k _ _ (by omega), pN_i _ _ hpk, pN_k _ _ (by omega), pN_k _ _ (by omega), pN_k _ _ (by omega), pN_k _ _ (by omega), pN_k _ _ (by omega)]
              exact oth p hp hpk
        | false =>
          have mv : mvB t l r k = false := by unfold mvB; rw [hh, hg]; rfl
          rw [mv, if_neg (show ¬ bI false = (1 : Int32) by decide), gR_n (by omega), o4, nI_1, pR_n (by omega)]
          refine ⟨_, rfl, ⟨f1, fun j hj => ?_⟩, rfl, fun p hp => ?_⟩
          · funext b; dsimp only; rw [pN_k _ _ (by omega), f3 j hj]
          · dsimp only
            rw [pN_k _ _ (by omega), pN_k _ _ (by omega), pN_k _ _ (by omega)]
            by_cases hpk : p = k
            · subst hpk
              rw [if_pos hkk, if_pos hkk, if_pos hkk, if_pos hkk]
              unfold gU cU hU dU
              rw [mv, hh, hg, pN_s]
              exact ⟨o1, o2, o3, rfl⟩
            · rw [pN_i _ _ hpk]
              exact oth p hp hpk)
    (by
      rintro ⟨S, y4⟩ ⟨⟨f1, f3⟩, i3, i4⟩
      dsimp only at f1 i3 ⊢
      subst i3
      unfold bX7_goesTick_17
      rw [show gF S 2 = nI (tN t) by rw [gF_e, f1]; exact (m.V vA).2.2.2.1]
      exact if_pos (Int32.le_refl _))
  dsimp only at i1 i4
  rw [e, bq2_s]
  refine ⟨Y, rfl, vA.tr ⟨fun j _ _ => by rw [i1.1], fun j hj => i1.2 j (by omega)⟩, fun p hp => ?_, by rw [i1.1]; exact A20, by rw [i1.1]; exact a3⟩
  have := i4 p hp
  rw [if_pos hp, if_pos hp, if_pos hp, if_pos hp] at this
  exact this
theorem m_allHome {M : St} {t : Tk} (ok : TkOK t) (m : MT M t) (hw : MWs M t) {r : Rq} (rk : RnOK t r) (mn : MN M t r) : fX7_allHome M = some (bI (allb (hmB t r) (tN t))) := by
  have hn := ok.2.2.2.2.1
  unfold fX7_allHome
  obtain ⟨⟨u, y⟩, e, i1, i2⟩ := lp_fu (f := fun q => bX7_allHome_4 M q.1 q.2) (fun k s => s.1 = bI (allb (hmB t r) k) ∧ s.2 = nI k) (tN t) (by omega) ((1 : Int32), (0 : Int32)) ⟨rfl, rfl⟩
    (by
      rintro k ⟨u, y⟩ hk ⟨i1, i2⟩
      dsimp only at i1 i2 ⊢
      subst i1; subst i2
      show ∃ s2 : Int32 × Int32, _ = some (true, s2) ∧ s2.1 = bI (allb (hmB t r) k && hmB t r k) ∧ s2.2 = nI (k + 1)
      unfold bX7_allHome_4
      rw [show gF M 2 = nI (tN t) from m.2.2.2.1, if_neg (nI_ge hk (by omega)), m_isHome ok hk (rk.1 k hk) (hw k hk) (mn k hk).1, bq1_s, nI_1]
      cases allb (hmB t r) k with
      | false => rw [if_pos (show bI false = (0 : Int32) from rfl)]; exact ⟨_, rfl, rfl, rfl⟩
      | true =>
        rw [if_neg (show ¬ bI true = (0 : Int32) by decide)]
        cases hmB t r k with
        | false => rw [if_pos (show bI false = (0 : Int32) from rfl)]; exact ⟨_, rfl, rfl, rfl⟩
        | true => rw [if_neg (show ¬ bI true = (0 : Int32) by decide)]; exact ⟨_, rfl, rfl, rfl⟩)
    (by
      rintro ⟨u, y⟩ ⟨i1, i2⟩
      dsimp only at i2 ⊢
      subst i2
      unfold bX7_allHome_4
      rw [show gF M 2 = nI (tN t) from m.2.2.2.1]
      exact if_pos (Int32.le_refl _))
  dsimp only at i1
  rw [e, bq2_s, i1]
  cases allb (hmB t r) (tN t)
  · exact zb_0
  · exact zb_1
theorem m_runs {M : St} {t : Tk} (ok : TkOK t) (m : MT M t) {l : Nat} (hl : l < 4) {L : Nat} (hL : L < 2 ^ 30) : ∃ Y, fX7_runs M (nI l) (nI L) = some Y ∧ MC M Y ∧ MWs Y t ∧ MN Y t (rn t l L) ∧ Y.1 20 = nI (rK (rn t l L)) ∧ Y.1 21 = nI (rM (rn t l L)) := by
  have hn := ok.2.2.2.2.1
  unfold fX7_runs
  obtain ⟨A, e1, a1, a2⟩ := m_setWays ok m
  rw [e1, bq1_s]
  have mA := m.R a1
  have vB : MV A (pF (pF A 20 0) 21 0) := ⟨fun j h1 h2 => by rw [pF_n _ _ h2, pF_n _ _ h1], fun _ _ => rfl⟩
  obtain ⟨⟨D, y⟩, e2, ⟨d1, d2⟩, d3, d4⟩ := lp_fu (f := fun q => bX7_runs_16 q.1 q.2) (fun k s => (s.1.1 = (pF (pF A 20 0) 21 0).1 ∧ ∀ j, j < 11 ∨ 14 < j → s.1.2.1 j = A.2.1 j) ∧ s.2 = nI k ∧ ∀ p, p < k → s.1.2.1 11 p = 0 ∧ s.1.2.1 12 p = 0 ∧ s.1.2.1 13 p = 0 ∧ s.1.2.1 14 p = 0) (tN t) (by omega) (pF (pF A 20 0) 21 0, (0 : Int32)) ⟨⟨rfl, fun _ _ => rfl⟩, rfl, fun p hp => absurd hp (Nat.not_lt_zero _)⟩
    (by
      rintro k ⟨S, y⟩ hk ⟨⟨f1, f2⟩, i3, i4⟩
      dsimp only at f1 f2 i3 i4 ⊢
      subst i3
      have ck : ∀ {α : Type} (K : Option α), chk (nI k) 16 K = K := fun K => chk_n (by omega) (by omega)
      unfold bX7_runs_16
      rw [show gF S 2 = nI (tN t) by rw [gF_e, f1, pF_n _ _ (by omega), pF_n _ _ (by omega)]; exact mA.2.2.2.1, if_neg (nI_ge hk (by omega)), ck, ck, ck, ck, pR_n (by omega), pR_n (by omega), pR_n (by omega), pR_n (by omega), nI_1]
      refine ⟨_, rfl, ⟨f1, fun j hj => ?_⟩, rfl, fun p hp => ?_⟩
      · funext b; dsimp only; rw [pN_k _ _ (by omega), pN_k _ _ (by omega), pN_k _ _ (by omega), pN_k _ _ (by omega), f2 j hj]
      · dsimp only
        by_cases hpk : p = k
        · subst hpk
          refine ⟨?_, ?_, ?_, ?_⟩
          · rw [pN_k _ _ (by omega), pN_k _ _ (by omega), pN_k _ _ (by omega), pN_s]
          · rw [pN_k _ _ (by omega), pN_k _ _ (by omega), pN_s]
          · rw [pN_k _ _ (by omega), pN_s]
          · rw [pN_s]
        · rw [pN_i _ _ hpk, pN_i _ _ hpk, pN_i _ _ hpk, pN_i _ _ hpk, pN_i _ _ hpk, pN_i _ _ hpk, pN_i _ _ hpk, pN_i _ _ hpk, pN_i _ _ hpk, pN_i _ _ hpk, pN_i _ _ hpk, pN_i _ _ hpk, pN_i _ _ hpk, pN_i _ _ hpk, pN_i _ _ hpk, pN_i _ _ hpk]
          exact i4 p (by omega))
    (by
      rintro ⟨S, y⟩ ⟨⟨f1, f2⟩, i3, i4⟩
      dsimp only at f1 i3 ⊢
      subst i3
      unfold bX7_runs_16
      rw [show gF S 2 = nI (tN t) by rw [gF_e, f1, pF_n _ _ (by omega), pF_n _ _ (by omega)]; exact mA.2.2.2.1]
      exact if_pos (Int32.le_refl _))
  dsimp only at d1 d2 d4
  rw [e2, bq2_s]
  have vD : MV A D := ⟨fun j h1 h2 => by rw [d1, pF_n _ _ h2, pF_n _ _ h1], fun j hj => d2 j (by omega)⟩
  obtain ⟨Y, e5, j1, j2, j3, j4⟩ := lp_fm (f := fun q => bX7_runs_58 (nI l) (nI L) q) (fun n s => ∃ k, k + n = 129 ∧ k ≤ L ∧ rK (rn t l k) = k ∧ MV A s ∧ MN s t (rn t l k) ∧ s.1 20 = nI (rK (rn t l k)) ∧ s.1 21 = nI (rM (rn t l k))) (fun s => MV A s ∧ MN s t (rn t l L) ∧ s.1 20 = nI (rK (rn t l L)) ∧ s.1 21 = nI (rM (rn t l L))) 129 (by omega) D ⟨0, by omega, by omega, rfl, vD, fun p hp => d4 p hp, by rw [d1, pF_n _ _ (by omega), pF_s]; rfl, by rw [d1, pF_s]; rfl⟩
    (by
      rintro n S ⟨k, hm, hkL, i2, i3, i4, i5, i6⟩
      obtain ⟨ro, ra, -⟩ := rn_ok ok l k
      unfold bX7_runs_58
      rw [show gF S 20 = nI k by rw [gF_e, i5, i2]]
      by_cases hend : k = L
      · left
        subst hend
        rw [if_pos (Int32.le_refl _)]
        exact ⟨_, rfl, i3, i4, i5, i6⟩
      rw [if_neg (nI_ge (by omega) (by omega)), m_allHome ok (mA.V i3) (fun p hp => (a2 p hp).V i3) ro i4, bq1_s]
      cases hall : allb (hmB t (rn t l k)) (tN t) with
      | true =>
        left
        rw [if_neg (show ¬ bI true = (0 : Int32) by decide), rn_to hall hkL]
        exact ⟨_, rfl, i3, i4, i5, i6⟩
      | false =>
        right
        rw [if_pos (show bI false = (0 : Int32) from rfl)]
        have hlt := (ro.le ok).2 hall
        obtain ⟨V, e7, v1, v2, v3, v4⟩ := m_goesTick ok (mA.V i3) (fun p hp => (a2 p hp).V i3) ro i4 hl i5 i6
        have er : rn t l (k + 1) = tick t l (rn t l k) := if_neg (by rw [hall]; decide)
        rw [e7, bq1_s]
        refine ⟨_, rfl, n - 1, by omega, k + 1, by omega, by omega, ?_, i3.tr v1, ?_, ?_, ?_⟩
        · rw [er]; show rK (rn t l k) + 1 = _; omega
        · rw [er]; exact v2
        · rw [er]; exact v3
        · rw [er]; exact v4)
  rw [e5, bq1_s]
  exact ⟨Y, rfl, a1.C.tr j1.C, fun p hp => (a2 p hp).V j1, j2, j3, j4⟩
