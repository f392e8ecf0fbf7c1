/-! States to go back to: the program's ring and the reference's row. -/
theorem take_spec (d s : Nat) (hds : d ≠ s) (S : St) : ∃ S2, fX3_take d s S = some S2 ∧ (∀ k, k ≠ 4 * d → k ≠ 4 * d + 1 → k ≠ 4 * d + 2 → k ≠ 4 * d + 3 → S2.1 k = S.1 k) ∧ (∀ i, i < 4 → S2.1 (4 * d + i) = S.1 (4 * s + i)) ∧ (∀ k, k ≠ d → S2.2.1 k = S.2.1 k) ∧ ∀ b, b < 64 → S2.2.1 d b = S.2.1 s b := by
  refine ⟨_, rfl, ?_, ?_, ?_, ?_⟩
  · intro k h0 h1 h2 h3
    simp only [pC, pF_1, gF_e]
    repeat (first | rw [if_pos (by omega)] | rw [if_neg (by omega)])
  · intro i hi
    rcases (show i = 0 ∨ i = 1 ∨ i = 2 ∨ i = 3 by omega) with rfl | rfl | rfl | rfl <;>
    · simp only [pC, pF_1, gF_e]
      repeat (first | rw [if_pos trivial] | rw [if_pos (by omega)] | rw [if_neg (by omega)])
  · intro k hk
    show (if k = d then _ else _) = _
    rw [if_neg hk]
    rfl
  · intro b hb
    simp only [pC, pF_2, if_true]
    unfold va_cpy
    rw [if_pos (by omega)]
    show S.2.1 s (0 + (b - 0)) = _
    simp
theorem XT.take {S S2 : St} {d s : Nat} {t : Tk} (x : XT S s t) (h1 : ∀ i, i < 4 → S2.1 (4 * d + i) = S.1 (4 * s + i)) (h2 : ∀ b, b < 64 → S2.2.1 d b = S.2.1 s b) : XT S2 d t := by
  obtain ⟨a, b, c, e, f⟩ := x
  exact ⟨(h1 0 (by omega)).trans a, (h1 1 (by omega)).trans b, (h1 2 (by omega)).trans c, (h1 3 (by omega)).trans e, fun p k hp hk => (h2 _ (by omega)).trans (f p k hp hk)⟩
theorem XT.else {S S2 : St} {d j : Nat} {t : Tk} (x : XT S j t) (hj : j ≠ d) (h1 : ∀ k, k ≠ 4 * d → k ≠ 4 * d + 1 → k ≠ 4 * d + 2 → k ≠ 4 * d + 3 → S2.1 k = S.1 k) (h2 : ∀ k, k ≠ d → S2.2.1 k = S.2.1 k) : XT S2 j t := by
  obtain ⟨a, b, c, e, f⟩ := x
  exact ⟨(h1 _ (by omega) (by omega) (by omega) (by omega)).trans a, (h1 _ (by omega) (by omega) (by omega) (by omega)).trans b, (h1 _ (by omega) (by omega) (by omega) (by omega)).trans c, (h1 _ (by omega) (by omega) (by omega) (by omega)).trans e, fun p k hp hk => by rw [h2 j hj]; exact f p k hp hk⟩
/-- writing fields that are no task's -/
theorem XT.pF {S : St} {j k : Nat} {t : Tk} {v : Int32} (x : XT S j t) (hj : j < 7) (hk : 28 ≤ k) : XT (pF S k v) j t := by
  obtain ⟨a, b, c, e, f⟩ := x
  exact ⟨(pF_n _ _ (by omega)).trans a, (pF_n _ _ (by omega)).trans b, (pF_n _ _ (by omega)).trans c, (pF_n _ _ (by omega)).trans e, f⟩
theorem x_keep {a : Da} {X : St} (ok : DaOK a) (x : XS a X) : ∃ X2, fX0_keep X = some X2 ∧ XS (aKeep a) X2 := by
  obtain ⟨x1, ⟨w, hw, x2, x3, x4⟩, x5, x6, x7, x8, x9⟩ := x
  have hc := ok.2.1
  have e1 : (gF X 31 + (1 : Int32)) - (gF X 31 + (1 : Int32)) / (6 : Int32) * (6 : Int32) = nI ((w + 1) % 6) := by
    rw [gF_e, x3, nI_1]
    exact pk_rem (d := 6) (by omega) (by omega) (by omega)
  have hm : (w + 1) % 6 < 6 := Nat.mod_lt _ (by omega)
  unfold fX0_keep
  rw [e1, chk_n hm (by omega), nI_clamp (by omega)]
  obtain ⟨Y, hy, y1, y2, y3, y4⟩ := take_spec (1 + (w + 1) % 6) 0 (by omega) (pF X 31 (nI ((w + 1) % 6)))
  rw [hy, bq1_s]
  have y30 : Y.1 30 = nI (aC a) := by rw [y1 30 (by omega) (by omega) (by omega) (by omega), pF_n _ _ (by omega)]; exact x2
  have y31 : Y.1 31 = nI ((w + 1) % 6) := by rw [y1 31 (by omega) (by omega) (by omega) (by omega), pF_s]
  have ec : (if (6 : Int32) < gF Y 30 + (1 : Int32) then (6 : Int32) else gF Y 30 + (1 : Int32)) = nI (min (aC a + 1) 6) := by
    rw [gF_e, y30, nI_1]
    show (if nI 6 < nI (aC a + 1) then nI 6 else nI (aC a + 1)) = _
    by_cases h : aC a + 1 ≤ 6
    · rw [if_neg (nI_nlt h (by omega)), Nat.min_eq_left h]
    · rw [if_pos (nI_lt (by omega) (by omega)), Nat.min_eq_right (by omega)]
  rw [ec]
  refine ⟨_, rfl, ?_⟩
  have x0' : XT (pF X 31 (nI ((w + 1) % 6))) 0 (aT a) := x1.pF (by omega) (by omega)
  refine ⟨((x0'.else (by omega) y1 y3)).pF (by omega) (by omega), ⟨(w + 1) % 6, hm, pF_s _ _ _, ?_, ?_⟩, ?_, ?_, ?_, ?_, ?_⟩
  · rw [pF_n _ _ (by omega)]; exact y31
  · intro i hi
    have hi2 : i < min (aC a + 1) 6 := hi
    show XT _ _ (if i = 0 then aT a else aH a (i - 1))
    by_cases h0 : i = 0
    · subst h0
      rw [if_pos rfl, show 1 + ((w + 1) % 6 + 6 - 0) % 6 = 1 + (w + 1) % 6 by omega]
      exact (XT.take x0' y2 y4).pF (by omega) (by omega)
    · rw [if_neg h0]
      have e2 : ((w + 1) % 6 + 6 - i) % 6 = (w + 6 - (i - 1)) % 6 := by omega
      rw [e2]
      have hm2 : (w + 6 - (i - 1)) % 6 < 6 := Nat.mod_lt _ (by omega)
      have := x4 (i - 1) (by omega)
      exact ((this.pF (k := 31) (by omega) (by omega)).else (by omega) y1 y3).pF (by omega) (by omega)
  · intro k hk
    show Y.2.1 7 k = aRf a k
    rw [y3 7 (by omega)]; exact x5 k hk
  · rw [pF_n _ _ (by omega), y1 28 (by omega) (by omega) (by omega) (by omega), pF_n _ _ (by omega)]; exact x6
  · rw [pF_n _ _ (by omega), y1 29 (by omega) (by omega) (by omega) (by omega), pF_n _ _ (by omega)]; exact x7
  · rw [pF_n _ _ (by omega), y1 34 (by omega) (by omega) (by omega) (by omega), pF_n _ _ (by omega)]; exact x8
  · intro i hi
    show Y.2.1 19 i = _
    rw [y3 19 (by omega)]; exact x9 i hi
/-- the reference writes the task into its row -/
theorem m_kept {M : St} {t : Tk} {c : Nat} (hc : c ≤ 5) (m : MT M t) (h8 : M.1 8 = nI c) : ∃ M2, fX7_leavesState_49 M = some M2 ∧ M2.1 8 = nI (c + 1) ∧ (∀ k, k ≠ 8 → M2.1 k = M.1 k) ∧ (∀ k, k ≠ 6 → M2.2.1 k = M.2.1 k) ∧ MK M2 c t ∧ ∀ b, b < 68 * c → M2.2.1 6 b = M.2.1 6 b := by
  obtain ⟨t1, t2, t3, t4, t5⟩ := m
  have e0 : (68 : Int32) * gF M 8 = nI (68 * c) := by rw [gF_e, h8]; exact pk_mul 68 c
  have ea : ∀ j : Nat, nI (68 * c) + nI j = nI (68 * c + j) := fun j => nI_add _ _
  unfold fX7_leavesState_49
  rw [e0, show (1 : Int32) = nI 1 from rfl, show (2 : Int32) = nI 2 from rfl, show (3 : Int32) = nI 3 from rfl, ea, ea, ea, chk_n (by omega) (by omega), chk_n (by omega) (by omega), chk_n (by omega) (by omega), chk_n (by omega) (by omega), pR_n (by omega), pR_n (by omega), pR_n (by omega), pR_n (by omega), gR_0, gR_n (by omega)]
  generalize hM0 : pN (pN (pN (pN M 6 (68 * c) (gF M 1)) 6 (68 * c + 1) (gF M 2)) 6 (68 * c + 2) (M.2.1 1 0)) 6 (68 * c + 3) (M.2.1 1 1) = M0
  have a1 : ∀ k, k ≠ 6 → M0.2.1 k = M.2.1 k := by
    intro k hk; subst hM0; funext b
    rw [pN_k _ _ hk, pN_k _ _ hk, pN_k _ _ hk, pN_k _ _ hk]
  have a2 : M0.1 = M.1 := by subst hM0; rfl
  have a3 : M0.2.1 6 (68 * c) = nI (tD t) ∧ M0.2.1 6 (68 * c + 1) = nI (tN t) ∧ M0.2.1 6 (68 * c + 2) = nI (tO t) ∧ M0.2.1 6 (68 * c + 3) = nI (tR t) := by
    subst hM0
    refine ⟨?_, ?_, ?_, ?_⟩
    · rw [pN_i _ _ (by omega), pN_i _ _ (by omega), pN_i _ _ (by omega), pN_s]; exact t1
    · rw [pN_i _ _ (by omega), pN_i _ _ (by omega), pN_s]; exact t4
    · rw [pN_i _ _ (by omega), pN_s]; exact t2
    · rw [pN_s]; exact t3
  have a4 : ∀ b, b < 68 * c → M0.2.1 6 b = M.2.1 6 b := by
    intro b hb; subst hM0
    rw [pN_i _ _ (by omega), pN_i _ _ (by omega), pN_i _ _ (by omega), pN_i _ _ (by omega)]
  obtain ⟨⟨M3, y⟩, e3, i1, i2, i3, i4, i5⟩ := lp_fu (f := fun q => bX7_leavesState_109 (nI (68 * c)) q.1 q.2) (fun p s => s.1.1 = M.1 ∧ s.2 = nI p ∧ (∀ k, k ≠ 6 → s.1.2.1 k = M.2.1 k) ∧ (∀ b, b < 68 * c + 4 → s.1.2.1 6 b = M0.2.1 6 b) ∧ ∀ q k, q < p → k < 4 → s.1.2.1 6 (68 * c + 4 + 16 * k + q) = nI (tT t q k)) 16 (by omega) (M0, (0 : Int32)) ⟨a2, rfl, a1, fun b _ => rfl, fun q k h => by omega⟩
    (by
      rintro p ⟨S, y⟩ hp ⟨i1, i2, i3, i4, i5⟩
      dsimp only at i1 i2 i3 i4 i5 ⊢
      subst i2
      have eb : ∀ j : Nat, nI (68 * c) + nI j + nI p = nI (68 * c + j + p) := fun j => by rw [nI_add, nI_add]
      unfold bX7_leavesState_109
      rw [if_neg (show ¬ (16 : Int32) ≤ nI p from nI_ge (b := 16) hp (by omega)), chk_n hp (by omega), show (4 : Int32) = nI 4 from rfl, show (20 : Int32) = nI 20 from rfl, show (36 : Int32) = nI 36 from rfl, show (52 : Int32) = nI 52 from rfl, eb, eb, eb, eb, chk_n (by omega) (by omega), chk_n hp (by omega), chk_n (by omega) (by omega), chk_n hp (by omega), chk_n (by omega) (by omega), chk_n hp (by omega), chk_n (by omega) (by omega), pR_n (by omega), pR_n (by omega), pR_n (by omega), pR_n (by omega), gR_n (by omega), gR_n (by omega), gR_n (by omega), gR_n (by omega), nI_1]
      refine ⟨_, rfl, i1, rfl, ?_, ?_, ?_⟩
      · intro k hk; funext b
        rw [pN_k _ _ hk, pN_k _ _ hk, pN_k _ _ hk, pN_k _ _ hk, i3 k hk]
      · intro b hb
        rw [pN_i _ _ (by omega), pN_i _ _ (by omega), pN_i _ _ (by omega), pN_i _ _ (by omega)]
        exact i4 b hb
      · intro q k hq hk
        by_cases hqp : q = p
        · subst hqp
          have v : ∀ k, k < 4 → S.2.1 (2 + k) q = nI (tT t q k) := fun k hk => by rw [i3 (2 + k) (by omega)]; exact t5 q k hp hk
          rcases (show k = 0 ∨ k = 1 ∨ k = 2 ∨ k = 3 by omega) with rfl | rfl | rfl | rfl
          · rw [pN_i _ _ (by omega), pN_i _ _ (by omega), pN_i _ _ (by omega), show 68 * c + 4 + 16 * 0 + q = 68 * c + 4 + q by omega, pN_s]; exact v 0 (by omega)
          · rw [pN_i _ _ (by omega), pN_i _ _ (by omega), show 68 * c + 4 + 16 * 1 + q = 68 * c + 20 + q by omega, pN_s]; exact v 1 (by omega)
          · rw [pN_i _ _ (by omega), show 68 * c + 4 + 16 * 2 + q = 68 * c + 36 + q by omega, pN_s]; exact v 2 (by omega)
          · rw [show 68 * c + 4 + 16 * 3 + q = 68 * c + 52 + q by omega, pN_s]; exact v 3 (by omega)
        · have hqp2 : q < p := by omega
          rw [pN_i _ _ (by omega), pN_i _ _ (by omega), pN_i _ _ (by omega), pN_i _ _ (by omega)]
          exact i5 q k hqp2 hk)
    (by
      rintro ⟨S, y⟩ ⟨i1, i2, i3, i4, i5⟩
      dsimp only at i2 ⊢
      subst i2
      unfold bX7_leavesState_109
      exact if_pos (Int32.le_refl _))
  rw [show (0 : Int32) = nI 0 from rfl] at e3 ⊢
  rw [e3, bq2_s]
  dsimp only at i1 i2 i3 i4 i5
  refine ⟨_, rfl, ?_, ?_, ?_, ⟨?_, ?_, ?_, ?_, ?_⟩, ?_⟩
  · rw [pF_s, gF_e, i1, h8]; exact nI_1 c
  · intro k hk; rw [pF_n _ _ hk, i1]
  · intro k hk; exact i3 k hk
  · exact (i4 _ (by omega)).trans a3.1
  · exact (i4 _ (by omega)).trans a3.2.2.1
  · exact (i4 _ (by omega)).trans a3.2.2.2
  · exact (i4 _ (by omega)).trans a3.2.1
  · intro p k hp hk; exact i5 p k hp hk
  · intro b hb; exact (i4 _ (by omega)).trans (a4 b hb)
theorem MK.shift {S S2 : St} {i : Nat} {t : Tk} (h : ∀ b, b < 68 * i + 68 → 68 * i ≤ b → S2.2.1 6 b = S.2.1 6 (b + 68)) (x : MK S (i + 1) t) : MK S2 i t := by
  obtain ⟨a, b, c, d, e⟩ := x
  refine ⟨?_, ?_, ?_, ?_, fun p k hp hk => ?_⟩
  · rw [h _ (by omega) (by omega)]; exact a
  · rw [h _ (by omega) (by omega), show 68 * i + 2 + 68 = 68 * (i + 1) + 2 by omega]; exact b
  · rw [h _ (by omega) (by omega), show 68 * i + 3 + 68 = 68 * (i + 1) + 3 by omega]; exact c
  · rw [h _ (by omega) (by omega), show 68 * i + 1 + 68 = 68 * (i + 1) + 1 by omega]; exact d
  · rw [h _ (by omega) (by omega), show 68 * i + 4 + 16 * k + p + 68 = 68 * (i + 1) + 4 + 16 * k + p by omega]; exact e p k hp hk
theorem MK.low {S S2 : St} {i c : Nat} {t : Tk} (hi : i < c) (h : ∀ b, b < 68 * c → S2.2.1 6 b = S.2.1 6 b) (x : MK S i t) : MK S2 i t := by
  obtain ⟨a, b, c1, d, e⟩ := x
  exact ⟨(h _ (by omega)).trans a, (h _ (by omega)).trans b, (h _ (by omega)).trans c1, (h _ (by omega)).trans d, fun p k hp hk => (h _ (by omega)).trans (e p k hp hk)⟩
theorem m_keep {a : Da} {M : St} (ok : DaOK a) (m : MS a M) : ∃ M2, fX7_leavesState M = some M2 ∧ MS (aKeep a) M2 := by
  obtain ⟨t, ⟨x2, x4⟩, x5, x6, x7, x8, x9⟩ := m
  have hc := ok.2.1
  -- from a state with room on
  have fin : ∀ (N : St) (c : Nat), c ≤ 5 → min (aC a + 1) 6 = c + 1 → MT N (aT a) → N.1 8 = nI c → (∀ k, k ≠ 8 → N.1 k = M.1 k) → (∀ k, k ≠ 6 → N.2.1 k = M.2.1 k) → (∀ i, i < c → MK N (c - 1 - i) (aH a i)) → ∃ M2, fX7_leavesState_49 N = some M2 ∧ MS (aKeep a) M2 := by
    intro N c h5 hmin n1 n8 nF nR nK
    obtain ⟨M2, e, b1, b2, b3, b4, b5⟩ := m_kept h5 n1 n8
    refine ⟨M2, e, ?_, ⟨?_, ?_⟩, ?_, ?_, ?_, ?_, ?_⟩
    · obtain ⟨q1, q2, q3, q4, q5⟩ := n1
      refine ⟨(b2 1 (by omega)).trans q1, ?_, ?_, (b2 2 (by omega)).trans q4, fun p k hp hk => ?_⟩
      · rw [b3 1 (by omega)]; exact q2
      · rw [b3 1 (by omega)]; exact q3
      · rw [b3 (2 + k) (by omega)]; exact q5 p k hp hk
    · rw [b1]; show nI (c + 1) = nI (min (aC a + 1) 6); rw [hmin]
    · intro i hi
      have hi2 : i < min (aC a + 1) 6 := hi
      show MK M2 (min (aC a + 1) 6 - 1 - i) (if i = 0 then aT a else aH a (i - 1))
      rw [hmin]
      by_cases h0 : i = 0
      · subst h0; rw [if_pos rfl]; exact b4
      · rw [if_neg h0, show c + 1 - 1 - i = c - 1 - (i - 1) by omega]
        exact (nK (i - 1) (by omega)).low (by omega) b5
    · intro k hk; rw [b3 0 (by omega), nR 0 (by omega)]; exact x5 k hk
    · rw [b2 14 (by omega), nF 14 (by omega)]; exact x6
    · rw [b2 15 (by omega), nF 15 (by omega)]; exact x7
    · rw [b2 24 (by omega), nF 24 (by omega)]; exact x8
    · intro i hi; rw [b3 16 (by omega), nR 16 (by omega)]; exact x9 i hi
  unfold fX7_leavesState
  by_cases h6 : aC a = 6
  · rw [if_pos (show gF M 8 = (6 : Int32) by rw [gF_e, x2, h6]; rfl)]
    obtain ⟨⟨N, y⟩, e3, i1, i2, i3, i4⟩ := lp_fu (f := fun q => bX7_leavesState_11 q.1 q.2) (fun k s => s.1.1 = M.1 ∧ s.2 = nI k ∧ (∀ j, j ≠ 6 → s.1.2.1 j = M.2.1 j) ∧ ∀ b, b < 408 → s.1.2.1 6 b = if b < k then M.2.1 6 (b + 68) else M.2.1 6 b) 340 (by omega) (M, (0 : Int32)) ⟨rfl, rfl, fun _ _ => rfl, fun b _ => by simp⟩
      (by
        rintro k ⟨S, y⟩ hk ⟨i1, i2, i3, i4⟩
        dsimp only at i1 i2 i3 i4 ⊢
        subst i2
        unfold bX7_leavesState_11
        rw [if_neg (show ¬ (340 : Int32) ≤ nI k from nI_ge (b := 340) hk (by omega)), show (68 : Int32) = nI 68 from rfl, nI_add, chk_n (by omega) (by omega), chk_n (by omega) (by omega), gR_n (by omega), pR_n (by omega), nI_1]
        refine ⟨_, rfl, i1, rfl, ?_, ?_⟩
        · intro j hj; funext b; rw [pN_k _ _ hj, i3 j hj]
        · intro b hb
          by_cases hbk : b = k
          · subst hbk; rw [pN_s, if_pos (by omega), i4 _ (by omega), if_neg (by omega)]
          · rw [pN_i _ _ hbk, i4 b hb]
            by_cases hlt : b < k
            · rw [if_pos hlt, if_pos (by omega)]
            · rw [if_neg hlt, if_neg (by omega)])
      (by
        rintro ⟨S, y⟩ ⟨i1, i2, i3, i4⟩
        dsimp only at i2 ⊢
        subst i2
        unfold bX7_leavesState_11
        exact if_pos (Int32.le_refl _))
    dsimp only at i1 i2 i3 i4
    rw [e3, bq2_s]
    refine fin _ 5 (by omega) (by omega) ?_ ?_ ?_ ?_ ?_
    · obtain ⟨q1, q2, q3, q4, q5⟩ := t
      refine ⟨?_, ?_, ?_, ?_, fun p k hp hk => ?_⟩
      · rw [pF_n _ _ (by omega), i1]; exact q1
      · show N.2.1 1 0 = _; rw [i3 1 (by omega)]; exact q2
      · show N.2.1 1 1 = _; rw [i3 1 (by omega)]; exact q3
      · rw [pF_n _ _ (by omega), i1]; exact q4
      · show N.2.1 (2 + k) p = _; rw [i3 (2 + k) (by omega)]; exact q5 p k hp hk
    · rw [pF_s, gF_e, i1, x2, h6]; decide
    · intro k hk; rw [pF_n _ _ hk, i1]
    · intro k hk; exact i3 k hk
    · intro i hi
      have := x4 i (by omega)
      rw [h6, show 6 - 1 - i = (5 - 1 - i) + 1 by omega] at this
      exact this.shift (fun b hb1 hb2 => by
        show N.2.1 6 b = _
        rw [i4 b (by omega), if_pos (by omega)])
  · rw [if_neg (show ¬ gF M 8 = (6 : Int32) by rw [gF_e, x2]; exact fun q => h6 ((nI_eq (b := 6) (by omega) (by omega)).mp q))]
    exact fin M (aC a) (by omega) (by omega) t x2 (fun _ _ => rfl) (fun _ _ => rfl) x4
