/-! the reference's ways -/
def MW1 (X Y : St) (p : Nat) : Prop := Y.1 = X.1 ∧ (∀ k, k ≠ 7 → k ≠ 8 → k ≠ 9 → Y.2.1 k = X.2.1 k) ∧ ∀ j, j ≠ p → Y.2.1 7 j = X.2.1 7 j ∧ Y.2.1 8 j = X.2.1 8 j ∧ ∀ k, k < 9 → Y.2.1 9 (9 * j + k) = X.2.1 9 (9 * j + k)
theorem MW1.rf (X : St) (p : Nat) : MW1 X X p := ⟨rfl, fun _ _ _ _ => rfl, fun _ _ => ⟨rfl, rfl, fun _ _ => rfl⟩⟩
theorem MW1.tr {X Y Z : St} {p : Nat} (h : MW1 X Y p) (g : MW1 Y Z p) : MW1 X Z p := ⟨g.1.trans h.1, fun k a b c => (g.2.1 k a b c).trans (h.2.1 k a b c), fun j hj => ⟨(g.2.2 j hj).1.trans (h.2.2 j hj).1, (g.2.2 j hj).2.1.trans (h.2.2 j hj).2.1, fun k hk => ((g.2.2 j hj).2.2 k hk).trans ((h.2.2 j hj).2.2 k hk)⟩⟩
def MWq (M : St) (p : Nat) (q : Wq) : Prop := M.2.1 7 p = nI q.2.1 ∧ (∀ k, k < q.2.1 → M.2.1 9 (9 * p + k) = nI (q.2.2 k / 4)) ∧ M.2.1 9 (9 * p + q.2.1) = nI q.1
theorem m_comesLeg {M : St} {t : Tk} (ok : TkOK t) (h0 : M.1 1 = nI (tD t)) (h1 : M.2.1 1 0 = nI (tO t)) {p z : Nat} (hp : p < 16) (hz : z < 2 ^ tD t) {q : Wq} (hq : Ch (tD t) q) (hn : q.2.1 + tD t ≤ 8) (hx : MWq M p q) : ∃ Y, fX7_comesLeg M (nI p) (nI q.1) (nI z) = some Y ∧ MW1 M Y p ∧ MWq Y p (wst (tD t) (tO t) z (tD t) q) ∧ Y.2.1 8 = M.2.1 8 := by
  have hd := ok.2.1
  have h16 := two_le hd
  have ho := ok.2.2.1
  unfold fX7_comesLeg
  obtain ⟨⟨Y, u, y⟩, e, i1, i2, i3, i4, i5⟩ := lp_fu (f := fun r => bX7_comesLeg_6 (nI p) (nI z) r.1 r.2.1 r.2.2) (fun i s => MW1 M s.1 p ∧ MWq s.1 p (wst (tD t) (tO t) z i q) ∧ s.2.1 = nI (wst (tD t) (tO t) z i q).1 ∧ s.2.2 = nI i ∧ s.1.2.1 8 = M.2.1 8) (tD t) (by omega) (M, nI q.1, (0 : Int32)) ⟨MW1.rf M p, hx, rfl, rfl, rfl⟩
    (by
      rintro i ⟨S, u, y⟩ hi ⟨i1, i2, i3, i4, i5⟩
      dsimp only at i1 i2 i3 i4 i5 ⊢
      subst i3; subst i4
      have hc := wst_ch (o := tO t) (z := z) hd hq i (by omega)
      have hnn := (wst_n (tD t) (tO t) z q i).2
      show ∃ s2, bX7_comesLeg_6 (nI p) (nI z) S (nI (wst (tD t) (tO t) z i q).1) (nI i) = some (true, s2) ∧ MW1 M s2.1 p ∧ MWq s2.1 p (wstep (tD t) (tO t) z i (wst (tD t) (tO t) z i q)) ∧ s2.2.1 = nI (wstep (tD t) (tO t) z i (wst (tD t) (tO t) z i q)).1 ∧ s2.2.2 = nI (i + 1) ∧ s2.1.2.1 8 = M.2.1 8
      generalize wst (tD t) (tO t) z i q = v at i1 i2 hc hnn ⊢
      have hs := sd_lt (o := tO t) hi
      have hu : v.1 < 16 := by have := hc.1; omega
      have g0 : gF S 1 = nI (tD t) := by rw [gF_e, i1.1]; exact h0
      have g1 : gR S 1 0 = nI (tO t) := by rw [gR_0, i1.2.1 1 (by omega) (by omega) (by omega)]; exact h1
      unfold bX7_comesLeg_6
      rw [g0, g1, if_neg (nI_ge hi (by omega))]
      have eS : (if nI (tO t) = (0 : Int32) then fX7_comesLeg_38 S (nI p) (nI z) (nI v.1) (nI i) (nI i) else fX7_comesLeg_38 S (nI p) (nI z) (nI v.1) (nI i) ((nI (tD t) - (1 : Int32)) - nI i)) = fX7_comesLeg_38 S (nI p) (nI z) (nI v.1) (nI i) (nI (sd (tD t) (tO t) i)) := by
        unfold sd
        by_cases hoo : tO t = 0
        · rw [if_pos hoo, if_pos (by rw [hoo]; rfl)]
        · rw [if_neg hoo, if_neg (show ¬ nI (tO t) = (0 : Int32) from nI_c (c := 0) (by omega) (by omega) hoo), show nI (tD t) - (1 : Int32) = nI (tD t - 1) from pk_sub (b := 1) (by omega), pk_sub (by omega)]
      rw [eS]
      unfold fX7_comesLeg_38 wstep
      simp only [bm1 v.1 hu z (by omega) _ (show sd (tD t) (tO t) i < 4 by omega)]
      by_cases hb : (v.1 ^^^ z).testBit (sd (tD t) (tO t) i) = true
      · rw [if_pos hb, if_pos hb]
        obtain ⟨c1, c2, c3⟩ := i2
        have ck : ∀ {α : Type} (K : Option α), chk (nI p) 16 K = K := fun K => chk_n hp (by omega)
        rw [ck, ck, ck, gR_n (S := S) (by omega), c1, nI_1, pR_n (S := S) (by omega)]
        have e9 : (9 : Int32) * nI p + gR (pN S 7 p (nI (v.2.1 + 1))) 7 (nI p) = nI (9 * p + (v.2.1 + 1)) := by
          rw [gR_n (by omega), pN_s, show (9 : Int32) * nI p = nI (9 * p) from pk_mul 9 p, nI_add]
        rw [e9, chk_n (by omega) (by omega), pR_n (by omega), bx2 v.1 hu _ (by omega), nI_1]
        refine ⟨_, rfl, ⟨i1.1, fun k k7 k8 k9 => ?_, fun j hj => ⟨?_, ?_, fun k hk => ?_⟩⟩, ⟨?_, fun k hk => ?_, ?_⟩, rfl, rfl, ?_⟩
        · funext b; dsimp only; rw [pN_k _ _ k9, pN_k _ _ k7, i1.2.1 k k7 k8 k9]
        · dsimp only; rw [pN_k _ _ (by omega), pN_i _ _ hj]; exact (i1.2.2 j hj).1
        · dsimp only; rw [pN_k _ _ (by omega), pN_k _ _ (by omega)]; exact (i1.2.2 j hj).2.1
        · dsimp only; rw [pN_i _ _ (by omega), pN_k _ _ (by omega)]; exact (i1.2.2 j hj).2.2 k hk
        · dsimp only; rw [pN_k _ _ (by omega), pN_s]
        · have hk2 : k < v.2.1 + 1 := hk
          dsimp only
          rw [pN_i _ _ (by omega), pN_k _ _ (by omega)]
          by_cases hkn : k = v.2.1
          · rw [if_pos hkn, hkn, c3, show (4 * v.1 + sd (tD t) (tO t) i) / 4 = v.1 by omega]
          · rw [if_neg hkn]; exact c2 k (by omega)
        · exact pN_s _ _ _ _
        · funext b; dsimp only; rw [pN_k _ _ (by omega), pN_k _ _ (by omega), i5]
      · rw [if_neg hb, if_neg hb, nI_1]
        exact ⟨_, rfl, i1, i2, rfl, rfl, i5⟩)
    (by
      rintro ⟨S, u, y⟩ ⟨i1, i2, i3, i4, i5⟩
      dsimp only at i1 i4 ⊢
      subst i4
      unfold bX7_comesLeg_6
      rw [show gF S 1 = nI (tD t) from by rw [gF_e, i1.1]; exact h0]
      exact if_pos (Int32.le_refl _))
  dsimp only at i1 i2 i5
  rw [e, bq3_s]
  exact ⟨Y, rfl, i1, i2, i5⟩
def MWay (M : St) (p : Nat) (w : Nat × Nat × (Nat → Nat)) (z : Nat) : Prop := M.2.1 8 p = nI w.1 ∧ M.2.1 7 p = nI w.2.1 ∧ (∀ k, k < w.2.1 → M.2.1 9 (9 * p + k) = nI (w.2.2 k / 4)) ∧ M.2.1 9 (9 * p + w.2.1) = nI z
theorem m_setWay {M : St} {t : Tk} (ok : TkOK t) (x : MT M t) {p b : Nat} (hp : p < tN t) (hb : b < 2 ^ tD t) : ∃ Y, fX7_setWay M (nI p) (nI b) = some Y ∧ MW1 M Y p ∧ MWay Y p (wy (tD t) (tO t) (tT t p 0) b (tT t p 1)) (tT t p 1) := by
  have hd := ok.2.1
  have hn := ok.2.2.2.2.1
  have ha := ok.2.2.2.2.2.2 p 0 hp (by omega)
  have hz := ok.2.2.2.2.2.2 p 1 hp (by omega)
  have hp16 : p < 16 := by omega
  obtain ⟨u1, u2, u3⟩ := w1_end hd ok.2.2.1 ha hb
  obtain ⟨v1, v2, v3, v4⟩ := w2_end hd ok.2.2.1 ha hb hz
  unfold fX7_setWay
  have ck : ∀ {α : Type} (K : Option α), chk (nI p) 16 K = K := fun K => chk_n hp16 (by omega)
  have tr : ∀ (Z : St), MW1 M Z p → ∀ k, k < 4 → Z.2.1 (2 + k) p = nI (tT t p k) := fun Z hZ k hk => by rw [hZ.2.1 (2 + k) (by omega) (by omega) (by omega)]; exact x.2.2.2.2 p k hp16 hk
  simp only [ck]
  rw [show (9 : Int32) * nI p = nI (9 * p) from pk_mul 9 p, chk_n (by omega) (by omega), gR_n (S := M) (by omega), show M.2.1 2 p = nI (tT t p 0) from tr M (MW1.rf M p) 0 (by omega), pR_n (show p < 2 ^ 31 by omega), pR_n (show 9 * p < 2 ^ 31 by omega)]
  generalize hA : pN (pN M 7 p 0) 9 (9 * p) (nI (tT t p 0)) = A
  have a1 : MW1 M A p := by
    subst hA
    refine ⟨rfl, fun k k7 _ k9 => by funext b; rw [pN_k _ _ k9, pN_k _ _ k7], fun j hj => ⟨?_, ?_, fun k hk => ?_⟩⟩
    · rw [pN_k _ _ (by omega), pN_i _ _ hj]
    · rw [pN_k _ _ (by omega), pN_k _ _ (by omega)]
    · rw [pN_i _ _ (by omega), pN_k _ _ (by omega)]
  have a2 : MWq A p (tT t p 0, 0, fun _ => 0) := by
    subst hA
    refine ⟨?_, fun k hk => absurd hk (Nat.not_lt_zero _), ?_⟩
    · rw [pN_k _ _ (by omega), pN_s]; rfl
    · exact pN_s _ _ _ _
  obtain ⟨B, e1, b1, b2, -⟩ := m_comesLeg ok (by rw [a1.1]; exact x.1) (by rw [a1.2.1 1 (by omega) (by omega) (by omega)]; exact x.2.1) hp16 hb (q := (tT t p 0, 0, fun _ => 0)) ⟨ha, fun k hk => absurd hk (Nat.not_lt_zero _)⟩ (by show 0 + tD t ≤ 8; omega) a2
  rw [e1, bq1_s, gR_n (S := B) (by omega), gR_n (S := B) (by omega), pR_n (S := B) (by omega)]
  have b3 := a1.tr b1
  rw [show B.2.1 3 p = nI (tT t p 1) from tr B b3 1 (by omega)]
  have c1 : MW1 M (pN B 8 p (B.2.1 7 p)) p := b3.tr ⟨rfl, fun k _ k8 _ => by funext b; exact pN_k _ _ k8, fun j hj => ⟨pN_k (a := 7) (k := 8) (i := p) B _ (by omega), pN_i _ _ hj, fun k hk => pN_k (a := 9) (k := 8) (i := p) B _ (by omega)⟩⟩
  have c2 : MWq (pN B 8 p (B.2.1 7 p)) p (b, (w1 (tD t) (tO t) (tT t p 0) b).2.1, (w1 (tD t) (tO t) (tT t p 0) b).2.2) := ⟨(pN_k (a := 7) (k := 8) (i := p) B _ (by omega)).trans b2.1, fun k hk => (pN_k (a := 9) (k := 8) (i := p) B _ (by omega)).trans (b2.2.1 k hk), (pN_k (a := 9) (k := 8) (i := p) B _ (by omega)).trans (b2.2.2.trans (congrArg nI u1))⟩
  have hch : Ch (tD t) (b, (w1 (tD t) (tO t) (tT t p 0) b).2.1, (w1 (tD t) (tO t) (tT t p 0) b).2.2) := by
    refine ⟨hb, fun k hk => ?_⟩
    have := u3.2 k hk
    rw [u1] at this
    exact this
  obtain ⟨C, e2, d1, d2, d3⟩ := m_comesLeg ok (by rw [c1.1]; exact x.1) (by rw [c1.2.1 1 (by omega) (by omega) (by omega)]; exact x.2.1) hp16 hz hch (by show (w1 (tD t) (tO t) (tT t p 0) b).2.1 + tD t ≤ 8; omega) c2
  rw [e2, bq1_s]
  refine ⟨C, rfl, c1.tr d1, ?_, d2.1, d2.2.1, d2.2.2.trans (congrArg nI v1)⟩
  rw [d3, pN_s, b2.1]
  rfl
/-- all that is known of a way as numbers -/
def WOK (d : Nat) (w : Nat × Nat × (Nat → Nat)) (z : Nat) : Prop := w.2.1 ≤ 2 * d ∧ w.1 ≤ w.2.1 ∧ ∀ k, k < w.2.1 → (if k + 1 < w.2.1 then w.2.2 (k + 1) / 4 else z) = (w.2.2 k / 4) ^^^ 2 ^ (w.2.2 k % 4) ∧ w.2.2 k % 4 < d ∧ w.2.2 k / 4 < 2 ^ d
theorem wy_ok {d o a b z : Nat} (hd : d ≤ 4) (ho : o ≤ 1) (ha : a < 2 ^ d) (hb : b < 2 ^ d) (hz : z < 2 ^ d) : WOK d (wy d o a b z) z := by
  obtain ⟨v1, v2, v3, v4⟩ := w2_end hd ho ha hb hz
  refine ⟨v2, v3, fun k hk => ?_⟩
  have := v4.2 k hk
  rw [v1] at this
  exact this
theorem m_edgeOf {M : St} {d p z k : Nat} {w : Nat × Nat × (Nat → Nat)} (hd : d ≤ 4) (hp : p < 16) (hw : WOK d w z) (hz : z < 2 ^ d) (m : MWay M p w z) (hk : k < w.2.1) : fX7_edgeOf M (nI p) (nI k) = some (nI (w.2.2 k)) := by
  have h16 := two_le hd
  obtain ⟨m1, m2, m3, m4⟩ := m
  obtain ⟨w1, w2, w3⟩ := hw
  obtain ⟨g1, g2, g3⟩ := w3 k hk
  unfold fX7_edgeOf
  rw [show (9 : Int32) * nI p = nI (9 * p) from pk_mul 9 p, nI_add, nI_1, chk_n (by omega) (by omega), chk_n (by omega) (by omega), gR_n (by omega), gR_n (by omega), m3 k hk]
  have e1 : M.2.1 9 (9 * p + k + 1) = nI ((w.2.2 k / 4) ^^^ 2 ^ (w.2.2 k % 4)) := by
    rw [← g1]
    by_cases h : k + 1 < w.2.1
    · rw [if_pos h, show 9 * p + k + 1 = 9 * p + (k + 1) by omega]; exact m3 (k + 1) h
    · rw [if_neg h, show 9 * p + k + 1 = 9 * p + w.2.1 by omega]; exact m4
  rw [e1, bx3 _ (by omega) _ (by omega), show (4 : Int32) * nI (w.2.2 k / 4) = nI (4 * (w.2.2 k / 4)) from pk_mul 4 _]
  generalize hs : w.2.2 k % 4 = s at *
  have e2 : 4 * (w.2.2 k / 4) + s = w.2.2 k := by omega
  have fin : nI (4 * (w.2.2 k / 4)) + nI s = nI (w.2.2 k) := by rw [nI_add, e2]
  rcases (show s = 0 ∨ s = 1 ∨ s = 2 ∨ s = 3 by omega) with h | h | h | h <;> rw [h] at fin ⊢
  · rw [if_pos (show nI (2 ^ 0) = (1 : Int32) from rfl)]; exact congrArg some fin
  · rw [if_neg (show ¬ nI (2 ^ 1) = (1 : Int32) by decide), if_pos (show nI (2 ^ 1) = (2 : Int32) from rfl)]; exact congrArg some fin
  · rw [if_neg (show ¬ nI (2 ^ 2) = (1 : Int32) by decide), if_neg (show ¬ nI (2 ^ 2) = (2 : Int32) by decide), if_pos (show nI (2 ^ 2) = (4 : Int32) from rfl)]; exact congrArg some fin
  · rw [if_neg (show ¬ nI (2 ^ 3) = (1 : Int32) by decide), if_neg (show ¬ nI (2 ^ 3) = (2 : Int32) by decide), if_neg (show ¬ nI (2 ^ 3) = (4 : Int32) by decide)]; exact congrArg some fin
