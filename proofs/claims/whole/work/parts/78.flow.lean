/-! move and flow -/
theorem x_move {X : St} {t : Tk} (ok : TkOK t) (x : XT X 0 t) {r : Rq} (xn : XN X t r) {l : Nat} (h16 : ∀ p, p < tN t → X.2.1 16 p = wI t r p) (h18 : ∀ p, p < tN t → hmB t r p = false → X.2.1 18 (edg t r p) = oI (wnN (wnt t r (edg t r p)) (ahd t l r) (tN t))) : ∃ Y, fX4_move X (nI (rK r + 1)) = some Y ∧ (Y.1 = X.1 ∧ Y.2.2 = X.2.2 ∧ ∀ j, j < 12 ∨ 15 < j → Y.2.1 j = X.2.1 j) ∧ XN Y t (tick t l r) := by
  have hn := ok.2.2.2.2.1
  unfold fX4_move
  obtain ⟨⟨Y, y4⟩, e, i1, i3, i4⟩ := lp_fu (f := fun q => bX4_move_2 (nI (rK r + 1)) q.1 q.2) (fun k s => (s.1.1 = X.1 ∧ s.1.2.2 = X.2.2 ∧ ∀ j, j < 12 ∨ 15 < j → s.1.2.1 j = X.2.1 j) ∧ s.2 = nI k ∧ ∀ p, p < tN t → s.1.2.1 14 p = nI (if p < k then gU t l r p else rG r p) ∧ s.1.2.1 15 p = nI (if p < k then cU t l r p else rC r p) ∧ s.1.2.1 12 p = nI (if p < k then hU t l r p else rH r p) ∧ s.1.2.1 13 p = nI (if p < k then dU t l r p else rD r p)) (tN t) (by omega) (X, (0 : Int32)) ⟨⟨rfl, rfl, fun _ _ => rfl⟩, rfl, fun p hp => xn p hp⟩
    (by
      rintro k ⟨S, y4⟩ hk ⟨⟨f1, f2, f3⟩, i3, i4⟩
      dsimp only at f1 f2 f3 i3 i4 ⊢
      subst i3
      have ck : ∀ {α : Type} (K : Option α), chk (nI k) 16 K = K := fun K => chk_n (by omega) (by omega)
      have g3 : gF S 3 = nI (tN t) := by rw [gF_e, f1]; exact x.2.2.2.1
      obtain ⟨o1, o2, o3, o4⟩ := i4 k hk
      rw [if_neg (Nat.lt_irrefl k)] at o1 o2 o3 o4
      -- what stands for the others
      have oth : ∀ p, p < tN t → p ≠ k → S.2.1 14 p = nI (if p < k + 1 then gU t l r p else rG r p) ∧ S.2.1 15 p = nI (if p < k + 1 then cU t l r p else rC r p) ∧ S.2.1 12 p = nI (if p < k + 1 then hU t l r p else rH r p) ∧ S.2.1 13 p = nI (if p < k + 1 then dU t l r p else rD r p) := by
        intro p hp hpk
        have := i4 p hp
        by_cases q : p < k
        · rw [if_pos q, if_pos q, if_pos q, if_pos q] at this
          rw [if_pos (by omega), if_pos (by omega), if_pos (by omega), if_pos (by omega)]
          exact this
        · rw [if_neg q, if_neg q, if_neg q, if_neg q] at this
          rw [if_neg (by omega), if_neg (by omega), if_neg (by omega), if_neg (by omega)]
          exact this
      have hkk : k < k + 1 := Nat.lt_succ_self k
      unfold bX4_move_2
      cases hh : hmB t r k with
      | true =>
        have g16 : gR S 16 (nI k) = -1 := by rw [gR_n (by omega), f3 16 (by omega), h16 k hk]; unfold wI; rw [hh, if_pos rfl]
        rw [g3, if_neg (nI_ge hk (by omega)), ck, g16, if_pos rfl, nI_1]
        refine ⟨_, rfl, ⟨f1, f2, f3⟩, rfl, fun p hp => ?_⟩
        by_cases hpk : p = k
        · subst hpk
          rw [if_pos hkk, if_pos hkk, if_pos hkk, if_pos hkk]
          have mv : mvB t l r p = false := by unfold mvB; rw [hh]; rfl
          unfold gU cU hU dU
          rw [mv, hh]
          exact ⟨o1, o2, o3, o4⟩
        · exact oth p hp hpk
      | false =>
        have he := edg_lt ok hk hh
        have g16 : gR S 16 (nI k) = nI (edg t r k) := by rw [gR_n (by omega), f3 16 (by omega), h16 k hk]; unfold wI; rw [hh, if_neg (by decide)]
        have g18 : gR S 18 (nI (edg t r k)) = oI (wnN (wnt t r (edg t r k)) (ahd t l r) (tN t)) := by rw [gR_n (by omega), f3 18 (by omega), h18 k hk hh]
        have hwg := wn_go (l := l) hk hh
        rw [g3, if_neg (nI_ge hk (by omega)), ck, g16, if_neg (nI_m1 (by omega)), chk_n he (by omega), g18, ck, ck, ck, ck, ck, ck, nI_1]
        cases hg : goB t l r k with
        | true =>
          rw [hwg.mpr hg, if_pos (show oI (some k) = nI k from rfl), gR_n (by omega), o1, nI_1, pR_n (by omega), pR_n (by omega), pR_n (by omega)]
          have mv : mvB t l r k = true := by unfold mvB; rw [hh, hg]; rfl
          refine ⟨_, rfl, ⟨f1, f2, fun j hj => ?_⟩, rfl, fun p hp => ?_⟩
          · funext b; dsimp only; rw [pN_k _ _ (by omega), pN_k _ _ (by omega), pN_k _ _ (by omega), f3 j hj]
          · dsimp only
            rw [pN_k _ _ (by omega), pN_k _ _ (by omega)]
            by_cases hpk : p = k
            · subst hpk
              rw [if_pos hkk, if_pos hkk, if_pos hkk, if_pos hkk]
              unfold gU cU hU dU
              rw [mv, hh, hg, pN_s, pN_k _ _ (by omega), pN_s, pN_s, pN_k _ _ (by omega), pN_k _ _ (by omega), pN_k _ _ (by omega)]
              exact ⟨rfl, rfl, rfl, o4⟩
            · rw [pN_i _ _ hpk, pN_k _ _ (by omega), pN_i _ _ hpk, pN_k _ _ (by omega), pN_i _ _ hpk, pN_k _ _ (by omega), pN_k _ _ (by omega), pN_k _ _ (by omega), pN_k _ _ (by omega), pN_k _ _ (by omega)]
              exact oth p hp hpk
        | false =>
          have hno : ¬ oI (wnN (wnt t r (edg t r k)) (ahd t l r) (tN t)) = nI k := by
            cases hc : wnN (wnt t r (edg t r k)) (ahd t l r) (tN t) with
            | none => exact fun z => nI_m1 (show k < 2 ^ 31 by omega) z.symm
            | some w =>
              have w1 := (wnN_ok _ _ hc).1
              refine nI_c (by omega) (by omega) ?_
              rintro rfl
              have := hwg.mp hc
              rw [hg] at this
              exact absurd this (by decide)
          rw [if_neg hno, gR_n (by omega), o4, nI_1, pR_n (by omega)]
          have mv : mvB t l r k = false := by unfold mvB; rw [hh, hg]; rfl
          refine ⟨_, rfl, ⟨f1, f2, fun j hj => ?_⟩, rfl, fun p hp => ?_⟩
          · funext b; dsimp only; rw [pN_k _ _ (by omega), f3 j hj]
          · dsimp only
            rw [pN_k _ _ (by omega), pN_k _ _ (by omega), pN_k _ _ (by omega)]
            by_cases hpk : p = k
            · subst hpk
              rw [if_pos hkk, if_pos hkk, if_pos hkk, if_pos hkk]
              unfold gU cU hU dU
              rw [mv, hh, hg, pN_s]
              exact ⟨o1, o2, o3, rfl⟩
            · rw [pN_i _ _ hpk]
              exact oth p hp hpk)
    (by
      rintro ⟨S, y4⟩ ⟨⟨f1, f2, f3⟩, i3, i4⟩
      dsimp only at f1 i3 ⊢
      subst i3
      unfold bX4_move_2
      rw [show gF S 3 = nI (tN t) by rw [gF_e, f1]; exact x.2.2.2.1]
      exact if_pos (Int32.le_refl _))
  dsimp only at i1 i4
  rw [e, bq2_s]
  refine ⟨Y, rfl, i1, fun p hp => ?_⟩
  have := i4 p hp
  rw [if_pos hp, if_pos hp, if_pos hp, if_pos hp] at this
  exact this
theorem fillg (R : Nat) (X : St) : ∃ Y y, lp (fun q : St × Int32 => if (16 : Int32) ≤ q.2 then some (false, q.1, q.2) else chk q.2 16 (some (true, (pR q.1 R q.2 0), (q.2 + (1 : Int32))))) fu (X, (0 : Int32)) = some (Y, y) ∧ Y.1 = X.1 ∧ Y.2.2 = X.2.2 ∧ (∀ k, k ≠ R → Y.2.1 k = X.2.1 k) ∧ ∀ i, i < 16 → Y.2.1 R i = 0 := by
  obtain ⟨⟨Y, y⟩, e, i1, i2, i3, i4, i5⟩ := lp_fu (f := fun q : St × Int32 => if (16 : Int32) ≤ q.2 then some (false, q.1, q.2) else chk q.2 16 (some (true, (pR q.1 R q.2 0), (q.2 + (1 : Int32))))) (fun k s => s.2 = nI k ∧ s.1.1 = X.1 ∧ s.1.2.2 = X.2.2 ∧ (∀ k, k ≠ R → s.1.2.1 k = X.2.1 k) ∧ ∀ i, i < k → s.1.2.1 R i = 0) 16 (by omega) (X, (0 : Int32)) ⟨rfl, rfl, rfl, fun _ _ => rfl, fun e he => absurd he (Nat.not_lt_zero _)⟩
    (by
      rintro k ⟨S, y⟩ hk ⟨i1, i2, i3, i4, i5⟩
      dsimp only at i1 i2 i3 i4 i5 ⊢
      subst i1
      rw [if_neg (show ¬ (16 : Int32) ≤ nI k from nI_ge (b := 16) hk (by omega)), chk_n hk (by omega), pR_n (by omega), nI_1]
      refine ⟨_, rfl, rfl, i2, i3, fun j hj => by funext b; dsimp only; rw [pN_k _ _ hj, i4 j hj], fun e he => ?_⟩
      by_cases h : e = k
      · rw [h]; exact pN_s _ _ _ _
      · dsimp only; rw [pN_i _ _ h]; exact i5 e (by omega))
    (by
      rintro ⟨S, y⟩ ⟨i1, i2, i3⟩
      dsimp only at i1 ⊢
      subst i1
      exact if_pos (Int32.le_refl _))
  exact ⟨Y, y, e, i2, i3, i4, i5⟩
theorem x_f25 (X : St) : ∃ Y, ffill_25 X 0 = some Y ∧ Y.1 = X.1 ∧ Y.2.2 = X.2.2 ∧ (∀ k, k ≠ 12 → Y.2.1 k = X.2.1 k) ∧ ∀ i, i < 16 → Y.2.1 12 i = 0 := by
  obtain ⟨Y, y, e, h⟩ := fillg 12 X
  refine ⟨Y, ?_, h⟩
  unfold ffill_25
  rw [show lp (fun q => bfill_25_5 0 16 q.1 q.2) fu (X, (0 : Int32)) = _ from e, bq2_s]
theorem x_f26 (X : St) : ∃ Y, ffill_26 X 0 = some Y ∧ Y.1 = X.1 ∧ Y.2.2 = X.2.2 ∧ (∀ k, k ≠ 13 → Y.2.1 k = X.2.1 k) ∧ ∀ i, i < 16 → Y.2.1 13 i = 0 := by
  obtain ⟨Y, y, e, h⟩ := fillg 13 X
  refine ⟨Y, ?_, h⟩
  unfold ffill_26
  rw [show lp (fun q => bfill_26_5 0 16 q.1 q.2) fu (X, (0 : Int32)) = _ from e, bq2_s]
theorem x_f27 (X : St) : ∃ Y, ffill_27 X 0 = some Y ∧ Y.1 = X.1 ∧ Y.2.2 = X.2.2 ∧ (∀ k, k ≠ 14 → Y.2.1 k = X.2.1 k) ∧ ∀ i, i < 16 → Y.2.1 14 i = 0 := by
  obtain ⟨Y, y, e, h⟩ := fillg 14 X
  refine ⟨Y, ?_, h⟩
  unfold ffill_27
  rw [show lp (fun q => bfill_27_5 0 16 q.1 q.2) fu (X, (0 : Int32)) = _ from e, bq2_s]
theorem x_f28 (X : St) : ∃ Y, ffill_28 X 0 = some Y ∧ Y.1 = X.1 ∧ Y.2.2 = X.2.2 ∧ (∀ k, k ≠ 15 → Y.2.1 k = X.2.1 k) ∧ ∀ i, i < 16 → Y.2.1 15 i = 0 := by
  obtain ⟨Y, y, e, h⟩ := fillg 15 X
  refine ⟨Y, ?_, h⟩
  unfold ffill_28
  rw [show lp (fun q => bfill_28_5 0 16 q.1 q.2) fu (X, (0 : Int32)) = _ from e, bq2_s]
theorem x_flow {X : St} {t : Tk} (ok : TkOK t) (x : XT X 0 t) (hw : ∀ p, p < tN t → XWay X p (wyP t p)) {l : Nat} (hl : l < 4) {L : Nat} (hL : L < 2 ^ 30) : ∃ Y, fX4_flow X (nI l) (nI L) = some Y ∧ XV X Y ∧ XN Y t (rn t l L) ∧ Y.1 32 = nI (rK (rn t l L)) ∧ Y.1 33 = nI (rM (rn t l L)) := by
  have hn := ok.2.2.2.2.1
  unfold fX4_flow
  obtain ⟨A, e1, a1, a2, a3, a4⟩ := x_f25 (pF (pF X 32 0) 33 0)
  obtain ⟨B, e2, b1, b2, b3, b4⟩ := x_f26 A
  obtain ⟨C, e3, c1, c2, c3, c4⟩ := x_f27 B
  obtain ⟨D, e4, d1, d2, d3, d4⟩ := x_f28 C
  rw [e1, bq1_s, e2, bq1_s, e3, bq1_s, e4, bq1_s]
  have dF : D.1 = (pF (pF X 32 0) 33 0).1 := d1.trans (c1.trans (b1.trans a1))
  have v0 : XV X D := by
    refine ⟨fun k h1 h2 => by rw [dF, pF_n _ _ h2, pF_n _ _ h1], fun k hk => ?_, d2.trans (c2.trans (b2.trans a2))⟩
    rw [d3 k (by omega), c3 k (by omega), b3 k (by omega), a3 k (by omega)]
    rfl
  have n0 : XN D t rn0 := by
    intro p hp
    refine ⟨?_, ?_, ?_, ?_⟩
    · rw [d3 14 (by omega), c4 p (by omega)]; rfl
    · rw [d4 p (by omega)]; rfl
    · rw [d3 12 (by omega), c3 12 (by omega), b3 12 (by omega), a4 p (by omega)]; rfl
    · rw [d3 13 (by omega), c3 13 (by omega), b4 p (by omega)]; rfl
  obtain ⟨⟨Y, y⟩, e5, j1, j2, j3, j4⟩ := lp_fm (f := fun q => bX4_flow_45 (nI l) (nI L) q.1 q.2) (fun m s => ∃ k, k + m = 129 ∧ k ≤ L ∧ s.2 = nI (k + 1) ∧ rK (rn t l k) = k ∧ XV X s.1 ∧ XN s.1 t (rn t l k) ∧ s.1.1 32 = nI (rK (rn t l k)) ∧ s.1.1 33 = nI (rM (rn t l k))) (fun s => XV X s.1 ∧ XN s.1 t (rn t l L) ∧ s.1.1 32 = nI (rK (rn t l L)) ∧ s.1.1 33 = nI (rM (rn t l L))) 129 (by omega) (D, (1 : Int32)) ⟨0, by omega, by omega, rfl, rfl, v0, n0, by rw [dF, pF_n _ _ (by omega), pF_s]; rfl, by rw [dF, pF_s]; rfl⟩
    (by
      rintro m ⟨S, y⟩ ⟨k, hm, hkL, i1, i2, i3, i4, i5, i6⟩
      dsimp only at i1 i3 i4 i5 i6 ⊢
      subst i1
      obtain ⟨ro, ra, -⟩ := rn_ok ok l k
      unfold bX4_flow_45
      by_cases hend : k = L
      · left
        subst hend
        rw [if_pos (nI_lt (by omega) (by omega))]
        exact ⟨_, rfl, i3, i4, i5, i6⟩
      rw [if_neg (nI_nlt (by omega) (by omega))]
      obtain ⟨Z, e6, ⟨z1, z2, z3⟩, z4, z5⟩ := x_look ok (x.V i3) (fun p hp => (hw p hp).V i3) ro i4
      have vZ : XV S Z := ⟨fun j _ _ => by rw [z1], fun j hj => z3 j (by omega), z2⟩
      have xZ := i3.tr vZ
      have nZ : XN Z t (rn t l k) := i4.of fun j _ _ => z3 j (by omega)
      rw [e6, bq2_s]
      cases hall : allb (hmB t (rn t l k)) (tN t) with
      | true =>
        left
        rw [if_pos (show bI (!true) = (0 : Int32) from rfl), rn_to hall hkL]
        exact ⟨_, rfl, xZ, nZ, by rw [z1]; exact i5, by rw [z1]; exact i6⟩
      | false =>
        right
        rw [if_neg (show ¬ bI (!false) = (0 : Int32) by decide)]
        have hlt := (ro.le ok).2 hall
        obtain ⟨V, e7, ⟨v1, v2, v3⟩, v4, v5⟩ := x_contest ok (x.V xZ) (fun p hp => (hw p hp).V xZ) ro nZ hl (by rw [z1]; exact i6) z4 z5
        have xV : XV X V := xZ.tr ⟨fun j _ h => v1 j h, fun j hj => v3 j (by omega) (by omega), v2⟩
        obtain ⟨W, e8, ⟨w1, w2, w3⟩, w4⟩ := x_move (l := l) ok (x.V xV) (nZ.of fun j _ _ => v3 j (by omega) (by omega)) (fun p hp => by rw [v3 16 (by omega) (by omega)]; exact z4 p hp) v5
        have e8' : fX4_move V (nI (k + 1)) = some W := by rw [← e8, i2]
        have er : rn t l (k + 1) = tick t l (rn t l k) := if_neg (by rw [hall]; decide)
        rw [e7, bq1_s, e8', bq1_s, nI_1]
        refine ⟨_, rfl, m - 1, by omega, k + 1, by omega, by omega, rfl, ?_, ?_, ?_, ?_, ?_⟩
        · rw [er]; show rK (rn t l k) + 1 = _; omega
        · exact (xV.tr ⟨fun j _ _ => by rw [w1], fun j hj => w3 j (by omega), w2⟩).tr ⟨fun j h _ => pF_n _ _ h, fun _ _ => rfl, rfl⟩
        · rw [er]; exact w4
        · rw [er]; dsimp only; rw [pF_s]; show _ = nI (rK (rn t l k) + 1); rw [i2]
        · rw [er]; dsimp only; rw [pF_n _ _ (by omega), w1]; exact v4)
  rw [e5, bq2_s]
  exact ⟨Y, rfl, j1, j2, j3, j4⟩
