/-! trace and setWay -/
def XW1 (X Y : St) (p : Nat) : Prop := Y.1 = X.1 ∧ (∀ k, k ≠ 8 → k ≠ 9 → k ≠ 10 → Y.2.1 k = X.2.1 k) ∧ ∀ j, j ≠ p → Y.2.1 8 j = X.2.1 8 j ∧ Y.2.1 9 j = X.2.1 9 j ∧ Y.2.2 j = X.2.2 j ∧ ∀ k, k < 8 → Y.2.1 10 (8 * j + k) = X.2.1 10 (8 * j + k)
theorem XW1.rf (X : St) (p : Nat) : XW1 X X p := ⟨rfl, fun _ _ _ _ => rfl, fun _ _ => ⟨rfl, rfl, rfl, fun _ _ => rfl⟩⟩
theorem XW1.tr {X Y Z : St} {p : Nat} (h : XW1 X Y p) (g : XW1 Y Z p) : XW1 X Z p := ⟨g.1.trans h.1, fun k a b c => (g.2.1 k a b c).trans (h.2.1 k a b c), fun j hj => ⟨(g.2.2 j hj).1.trans (h.2.2 j hj).1, (g.2.2 j hj).2.1.trans (h.2.2 j hj).2.1, (g.2.2 j hj).2.2.1.trans (h.2.2 j hj).2.2.1, fun k hk => ((g.2.2 j hj).2.2.2 k hk).trans ((h.2.2 j hj).2.2.2 k hk)⟩⟩
def XWq (X : St) (p : Nat) (q : Wq) : Prop := X.2.1 8 p = nI q.2.1 ∧ (∀ k, k < q.2.1 → X.2.1 10 (8 * p + k) = nI (q.2.2 k)) ∧ X.2.2 p = bset q.2.2 q.2.1
theorem pE_n {S : St} {i : Nat} {v : Int64} (h : i < 2 ^ 31) : pE S (nI i) v = (S.1, S.2.1, fun j => if j = i then v else S.2.2 j) := by
  unfold pE vp_updL
  rw [nI_clamp h]
theorem gE_n {S : St} {i : Nat} (h : i < 2 ^ 31) : gE S (nI i) = S.2.2 i := by
  unfold gE
  rw [nI_clamp h]
theorem x_addLeg {X : St} {t : Tk} (ok : TkOK t) (h0 : X.1 0 = nI (tD t)) (h1 : X.1 1 = nI (tO t)) {p z : Nat} (hp : p < 16) (hz : z < 2 ^ tD t) {q : Wq} (hq : Ch (tD t) q) (hn : q.2.1 + tD t ≤ 8) (hx : XWq X p q) : ∃ Y, fX5_addLeg X (nI p) (nI q.1) (nI z) = some Y ∧ XW1 X Y p ∧ XWq Y p (wst (tD t) (tO t) z (tD t) q) ∧ Y.2.1 9 = X.2.1 9 := by
  have hd := ok.2.1
  have h16 := two_le hd
  have ho := ok.2.2.1
  unfold fX5_addLeg
  obtain ⟨⟨Y, u, y⟩, e, i1, i2, i3, i4, i5⟩ := lp_fu (f := fun r => bX5_addLeg_6 (nI p) (nI z) r.1 r.2.1 r.2.2) (fun i s => XW1 X s.1 p ∧ XWq s.1 p (wst (tD t) (tO t) z i q) ∧ s.2.1 = nI (wst (tD t) (tO t) z i q).1 ∧ s.2.2 = nI i ∧ s.1.2.1 9 = X.2.1 9) (tD t) (by omega) (X, nI q.1, (0 : Int32)) ⟨XW1.rf X p, hx, rfl, rfl, rfl⟩
    (by
      rintro i ⟨S, u, y⟩ hi ⟨i1, i2, i3, i4, i5⟩
      dsimp only at i1 i2 i3 i4 i5 ⊢
      subst i3; subst i4
      have hc := wst_ch (o := tO t) (z := z) hd hq i (by omega)
      have hnn := (wst_n (tD t) (tO t) z q i).2
      show ∃ s2, bX5_addLeg_6 (nI p) (nI z) S (nI (wst (tD t) (tO t) z i q).1) (nI i) = some (true, s2) ∧ XW1 X s2.1 p ∧ XWq s2.1 p (wstep (tD t) (tO t) z i (wst (tD t) (tO t) z i q)) ∧ s2.2.1 = nI (wstep (tD t) (tO t) z i (wst (tD t) (tO t) z i q)).1 ∧ s2.2.2 = nI (i + 1) ∧ s2.1.2.1 9 = X.2.1 9
      generalize wst (tD t) (tO t) z i q = v at i1 i2 hc hnn ⊢
      have hs := sd_lt (o := tO t) hi
      have g0 : gF S 0 = nI (tD t) := by rw [gF_e, i1.1]; exact h0
      have g1 : gF S 1 = nI (tO t) := by rw [gF_e, i1.1]; exact h1
      unfold bX5_addLeg_6
      rw [g0, g1, if_neg (nI_ge hi (by omega))]
      have eS : (if nI (tO t) = (0 : Int32) then fX5_addLeg_36 S (nI p) (nI z) (nI v.1) (nI i) (nI i) else fX5_addLeg_36 S (nI p) (nI z) (nI v.1) (nI i) ((nI (tD t) - (1 : Int32)) - nI i)) = fX5_addLeg_36 S (nI p) (nI z) (nI v.1) (nI i) (nI (sd (tD t) (tO t) i)) := by
        unfold sd
        by_cases hoo : tO t = 0
        · rw [if_pos hoo, if_pos (by rw [hoo]; rfl)]
        · rw [if_neg hoo, if_neg (show ¬ nI (tO t) = (0 : Int32) from nI_c (c := 0) (by omega) (by omega) hoo), show nI (tD t) - (1 : Int32) = nI (tD t - 1) from pk_sub (b := 1) (by omega), pk_sub (by omega)]
      rw [eS]
      unfold fX5_addLeg_36 wstep
      have hu : v.1 < 16 := by have := hc.1; omega
      simp only [bx1 v.1 hu z (by omega) _ (show sd (tD t) (tO t) i < 4 by omega)]
      by_cases hb : (v.1 ^^^ z).testBit (sd (tD t) (tO t) i) = true
      · rw [if_neg (by rw [hb]; decide), if_pos hb]
        obtain ⟨c1, c2, c3⟩ := i2
        have ck : ∀ {α : Type} (K : Option α), chk (nI p) 16 K = K := fun K => chk_n hp (by omega)
        have e8 : nI p * (8 : Int32) + gR S 8 (nI p) = nI (8 * p + v.2.1) := by
          rw [gR_n (by omega), c1, show nI p * (8 : Int32) = nI (p * 8) from pk_mul p 8, nI_add, show p * 8 + v.2.1 = 8 * p + v.2.1 by omega]
        have e4 : nI v.1 * (4 : Int32) + nI (sd (tD t) (tO t) i) = nI (4 * v.1 + sd (tD t) (tO t) i) := by
          rw [show nI v.1 * (4 : Int32) = nI (v.1 * 4) from pk_mul v.1 4, nI_add, show v.1 * 4 + sd (tD t) (tO t) i = 4 * v.1 + sd (tD t) (tO t) i by omega]
        rw [ck, e8, chk_n (by omega) (by omega), ck, ck, ck, ck, e4, pR_n (show 8 * p + v.2.1 < 2 ^ 31 by omega), gE_n (by omega), pE_n (by omega), gR_n (by omega), pR_n (by omega), c1, nI_1, nI_1, bx2 v.1 hu _ (by omega)]
        refine ⟨_, rfl, ⟨i1.1, fun k k8 k9 k10 => ?_, fun j hj => ⟨?_, ?_, ?_, fun k hk => ?_⟩⟩, ⟨?_, fun k hk => ?_, ?_⟩, rfl, rfl, ?_⟩
        · funext b
          rw [pN_k _ _ k8]
          dsimp only
          rw [pN_k _ _ k10, i1.2.1 k k8 k9 k10]
        · rw [pN_i _ _ hj]
          dsimp only
          rw [pN_k _ _ (by omega)]; exact (i1.2.2 j hj).1
        · rw [pN_k _ _ (by omega)]
          dsimp only
          rw [pN_k _ _ (by omega)]; exact (i1.2.2 j hj).2.1
        · show (if j = p then _ else S.2.2 j) = _
          rw [if_neg hj]; exact (i1.2.2 j hj).2.2.1
        · rw [pN_k _ _ (by omega)]
          dsimp only
          rw [pN_i _ _ (by omega)]; exact (i1.2.2 j hj).2.2.2 k hk
        · exact pN_s _ _ _ _
        · have hk2 : k < v.2.1 + 1 := hk
          rw [pN_k _ _ (by omega)]
          dsimp only
          by_cases hkn : k = v.2.1
          · rw [if_pos hkn, hkn, pN_s]
          · rw [if_neg hkn, pN_i _ _ (by omega)]; exact c2 k (by omega)
        · show (if p = p then S.2.2 p ||| _ else S.2.2 p) = bset _ v.2.1 ||| _
          dsimp only
          rw [if_pos rfl, c3, if_pos rfl, bset_congr (f := fun k => if k = v.2.1 then 4 * v.1 + sd (tD t) (tO t) i else v.2.2 k) (g := v.2.2) v.2.1 (fun k hk => by rw [if_neg (by omega)])]
        · funext b
          rw [pN_k _ _ (by omega)]
          dsimp only
          rw [pN_k _ _ (by omega), i5]
      · rw [if_pos (by simpa using hb), if_neg hb, nI_1]
        exact ⟨_, rfl, i1, i2, rfl, rfl, i5⟩)
    (by
      rintro ⟨S, u, y⟩ ⟨i1, i2, i3, i4, i5⟩
      dsimp only at i1 i4 ⊢
      subst i4
      unfold bX5_addLeg_6
      rw [show gF S 0 = nI (tD t) from by rw [gF_e, i1.1]; exact h0]
      exact if_pos (Int32.le_refl _))
  dsimp only at i1 i2 i5
  rw [e, bq3_s]
  exact ⟨Y, rfl, i1, i2, i5⟩
def XWay (X : St) (p : Nat) (w : Nat × Nat × (Nat → Nat)) : Prop := X.2.1 9 p = nI w.1 ∧ X.2.1 8 p = nI w.2.1 ∧ (∀ k, k < w.2.1 → X.2.1 10 (8 * p + k) = nI (w.2.2 k)) ∧ X.2.2 p = bset w.2.2 w.2.1
theorem x_trace {X : St} {t : Tk} (ok : TkOK t) (x : XT X 0 t) {p b : Nat} (hp : p < tN t) (hb : b < 2 ^ tD t) : ∃ Y, fX5_trace X (nI p) (nI b) = some Y ∧ XW1 X Y p ∧ XWay Y p (wy (tD t) (tO t) (tT t p 0) b (tT t p 1)) := by
  have hd := ok.2.1
  have hn := ok.2.2.2.2.1
  have ha := ok.2.2.2.2.2.2 p 0 hp (by omega)
  have hz := ok.2.2.2.2.2.2 p 1 hp (by omega)
  have hp16 : p < 16 := by omega
  obtain ⟨u1, u2, u3⟩ := w1_end hd ok.2.2.1 ha hb
  unfold fX5_trace
  have ck : ∀ {α : Type} (K : Option α), chk (nI p) 16 K = K := fun K => chk_n hp16 (by omega)
  simp only [ck]
  rw [pR_n (show p < 2 ^ 31 by omega), pE_n (by omega)]
  generalize hA : (((pN X 8 p 0).1, (pN X 8 p 0).2.1, fun j => if j = p then (0 : Int64) else (pN X 8 p 0).2.2 j) : St) = A
  have a1 : XW1 X A p := by
    subst hA
    refine ⟨rfl, fun k k8 _ _ => by funext b; exact pN_k _ _ k8, fun j hj => ⟨pN_i _ _ hj, pN_k (a := 9) (k := 8) (i := p) X 0 (by omega), if_neg hj, fun k hk => pN_k (a := 10) (k := 8) (i := p) X 0 (by omega)⟩⟩
  have a2 : XWq A p (tT t p 0, 0, fun _ => 0) := by
    subst hA
    exact ⟨pN_s _ _ _ _, fun k hk => absurd hk (Nat.not_lt_zero _), if_pos rfl⟩
  have tr : ∀ (Z : St), XW1 X Z p → ∀ k, k < 4 → Z.2.1 0 (4 * p + k) = nI (tT t p k) := fun Z hZ k hk => by rw [hZ.2.1 0 (by omega) (by omega) (by omega)]; exact x.2.2.2.2 p k hp16 hk
  rw [show fX3_trait A (nI p) 0 = _ from x_trait (k := 0) hp16 (by omega), bq1_s, tr A a1 0 (by omega)]
  obtain ⟨B, e1, b1, b2, -⟩ := x_addLeg ok (by rw [a1.1]; exact x.1) (by rw [a1.1]; exact x.2.1) hp16 hb (q := (tT t p 0, 0, fun _ => 0)) ⟨ha, fun k hk => absurd hk (Nat.not_lt_zero _)⟩ (by show 0 + tD t ≤ 8; omega) a2
  rw [e1, bq1_s, gR_n (by omega), pR_n (by omega)]
  have b3 := a1.tr b1
  have c1 : XW1 X (pN B 9 p (B.2.1 8 p)) p := b3.tr ⟨rfl, fun k _ k9 _ => by funext b; exact pN_k _ _ k9, fun j hj => ⟨pN_k (a := 8) (k := 9) (i := p) B _ (by omega), pN_i _ _ hj, rfl, fun k hk => pN_k (a := 10) (k := 9) (i := p) B _ (by omega)⟩⟩
  rw [show fX3_trait (pN B 9 p (B.2.1 8 p)) (nI p) 1 = _ from x_trait (k := 1) hp16 (by omega), bq1_s, tr _ c1 1 (by omega)]
  have c2 : XWq (pN B 9 p (B.2.1 8 p)) p (b, (w1 (tD t) (tO t) (tT t p 0) b).2.1, (w1 (tD t) (tO t) (tT t p 0) b).2.2) := ⟨(pN_k _ _ (by omega)).trans b2.1, fun k hk => (pN_k _ _ (by omega)).trans (b2.2.1 k hk), b2.2.2⟩
  have hch : Ch (tD t) (b, (w1 (tD t) (tO t) (tT t p 0) b).2.1, (w1 (tD t) (tO t) (tT t p 0) b).2.2) := by
    refine ⟨hb, fun k hk => ?_⟩
    have := u3.2 k hk
    rw [u1] at this
    exact this
  obtain ⟨C, e2, d1, d2, d3⟩ := x_addLeg ok (by rw [c1.1]; exact x.1) (by rw [c1.1]; exact x.2.1) hp16 hz hch (by show (w1 (tD t) (tO t) (tT t p 0) b).2.1 + tD t ≤ 8; omega) c2
  rw [e2, bq1_s]
  refine ⟨C, rfl, c1.tr d1, ?_, d2.1, d2.2.1, d2.2.2⟩
  rw [d3, pN_s, b2.1]
  rfl
