/-! rules, back, told, type, clear, part. -/
theorem XS.ord {a : Da} {X : St} (x : XS a X) (v : Nat) : XS (aTk a (tD (aT a), v, tR (aT a), tN (aT a), tT (aT a))) (pF X 1 (nI v)) := by
  refine x.tk (fun k hk _ => pF_n _ _ (by omega)) (fun _ _ _ => rfl) ⟨(pF_n _ _ (by omega)).trans x.1.1, pF_s _ _ _, (pF_n _ _ (by omega)).trans x.1.2.2.1, (pF_n _ _ (by omega)).trans x.1.2.2.2.1, x.1.2.2.2.2⟩
theorem XS.rul {a : Da} {X : St} (x : XS a X) (v : Nat) : XS (aTk a (tD (aT a), tO (aT a), v, tN (aT a), tT (aT a))) (pF X 2 (nI v)) := by
  refine x.tk (fun k hk _ => pF_n _ _ (by omega)) (fun _ _ _ => rfl) ⟨(pF_n _ _ (by omega)).trans x.1.1, (pF_n _ _ (by omega)).trans x.1.2.1, pF_s _ _ _, (pF_n _ _ (by omega)).trans x.1.2.2.2.1, x.1.2.2.2.2⟩
theorem MS.ord {a : Da} {M : St} (m : MS a M) (v : Nat) : MS (aTk a (tD (aT a), v, tR (aT a), tN (aT a), tT (aT a))) (pN M 1 0 (nI v)) := by
  refine m.tk (fun _ _ => rfl) (fun k hk => by funext b; rw [pN_k _ _ (by omega)]) ⟨m.1.1, pN_s _ _ _ _, (pN_i _ _ (by omega)).trans m.1.2.2.1, m.1.2.2.2.1, fun p k hp hk => (pN_k _ _ (by omega)).trans (m.1.2.2.2.2 p k hp hk)⟩
theorem MS.rul {a : Da} {M : St} (m : MS a M) (v : Nat) : MS (aTk a (tD (aT a), tO (aT a), v, tN (aT a), tT (aT a))) (pN M 1 1 (nI v)) := by
  refine m.tk (fun _ _ => rfl) (fun k hk => by funext b; rw [pN_k _ _ (by omega)]) ⟨m.1.1, (pN_i _ _ (by omega)).trans m.1.2.1, pN_s _ _ _ _, m.1.2.2.2.1, fun p k hp hk => (pN_k _ _ (by omega)).trans (m.1.2.2.2.2 p k hp hk)⟩
theorem x_rules0 {X : St} {v : Nat} (hv : v < 2) : fX6_rules X (nI 0) (nI v) = bq1 (fX0_keep X) (fun S4 => some (gF S4 1, pF S4 1 (nI v))) := by
  unfold fX6_rules
  rw [if_pos (show nI 0 = (0 : Int32) from rfl), if_neg (nI_pos (by omega)), if_neg (show ¬ (2 : Int32) ≤ nI v from nI_ge (b := 2) hv (by omega))]
  unfold fX6_rules_18
  rw [if_neg (show ¬ nI 0 = (1 : Int32) by decide)]
  unfold fX6_rules_37 fX6_rules_38
  rw [if_neg ne10]
  unfold fX6_rules_56
  congr 1
theorem x_rules1 {X : St} {v : Nat} (hv : v < 4) : fX6_rules X (nI 1) (nI v) = bq1 (fX0_keep X) (fun S4 => some (gF S4 2, pF S4 2 (nI v))) := by
  unfold fX6_rules
  rw [if_neg (show ¬ nI 1 = (0 : Int32) by decide)]
  unfold fX6_rules_17 fX6_rules_18
  rw [if_pos (show nI 1 = (1 : Int32) from rfl), if_neg (nI_pos (by omega)), if_neg (show ¬ (4 : Int32) ≤ nI v from nI_ge (b := 4) hv (by omega))]
  unfold fX6_rules_38
  rw [if_pos rfl, if_neg ne10]
  unfold fX6_rules_56
  congr 1
theorem op_rules (X M : St) (v1 v2 : Int32) (h : Sim X M) : ∃ (r : Int32) (X2 M2 : St), fX6_rules X v1 v2 = some (r, X2) ∧ fX7_rules M v1 v2 = some (r, M2) ∧ Sim X2 M2 := by
  obtain ⟨a, ok, x, m⟩ := h
  have t0 := ok.1
  have bad : ∃ (r : Int32) (X2 M2 : St), (bq2 (fX6_refuse X (-2)) fun r8 S8 => some (r8, S8)) = some (r, X2) ∧ fX7_rules_26 M = some (r, M2) ∧ Sim X2 M2 := by
    obtain ⟨X2, M2, e1, e2, s⟩ := sim_bad ok x m
    unfold fX7_rules_26
    rw [e1, e2, bq2_s, bq2_s]
    exact ⟨_, _, _, rfl, rfl, s⟩
  have e37 : fX6_rules_37 X v2 0 = bq2 (fX6_refuse X (-2)) fun r8 S8 => some (r8, S8) := by
    unfold fX6_rules_37 fX6_rules_38
    rw [if_pos rfl, if_pos rfl]
  unfold fX7_rules
  rw [show (1 : Int32) = nI 2 - 1 from rfl, m_rng (by omega), bq1_s]
  rcases outc_cases 2 (by omega) v1 with ⟨q, hc⟩ | ⟨w, hw, rfl, q⟩
  · rw [q, if_pos rfl]
    have n0 : ¬ v1 = 0 := by
      rintro rfl
      rcases hc with hc | hc
      · exact absurd hc (by decide)
      · exact absurd hc (by decide)
    have n1 : ¬ v1 = 1 := by
      rintro rfl
      rcases hc with hc | hc
      · exact absurd hc (by decide)
      · exact absurd hc (by decide)
    unfold fX6_rules fX6_rules_17 fX6_rules_18
    rw [if_neg n0, if_neg n1, e37]
    exact bad
  rw [q, if_neg ne10]
  unfold fX7_rules_20
  rcases (show w = 0 ∨ w = 1 by omega) with rfl | rfl
  · rw [if_pos (show nI 0 = (0 : Int32) from rfl), m_rng (by omega), bq1_s]
    unfold fX6_rules fX6_rules_17 fX6_rules_18
    rw [if_pos (show nI 0 = (0 : Int32) from rfl), if_neg (show ¬ nI 0 = (1 : Int32) by decide)]
    rcases outc_cases 2 (by omega) v2 with ⟨q, hc⟩ | ⟨v, hv, rfl, q⟩
    · rw [q, if_pos rfl, e37]
      rcases hc with hc | hc
      · rw [if_pos hc]; exact bad
      · have h0 : ¬ v2 < 0 := Int32.not_lt.mpr (Int32.le_trans (show (0 : Int32) ≤ nI 2 by decide) hc)
        rw [if_neg h0, if_pos (show (2 : Int32) ≤ v2 from hc)]; exact bad
    · have e9 := x_rules0 (X := X) hv
      unfold fX6_rules fX6_rules_17 fX6_rules_18 at e9
      rw [if_pos (show nI 0 = (0 : Int32) from rfl), if_neg (show ¬ nI 0 = (1 : Int32) by decide)] at e9
      rw [e9, q, if_neg ne10]
      obtain ⟨X2, M2, e1, e2, ok2, x2, m2⟩ := sim_keep ok x m
      rw [e1, e2, bq1_s, bq1_s, chk_n (by omega) (by omega), chk_n (by omega) (by omega), gR_n (by omega), pR_n (by omega)]
      have t2 := ok2.1
      exact ⟨nI (tO (aT a)), _, _, by rw [gF_e, x2.1.2.1]; rfl, by rw [m2.1.2.1]; rfl, aTk (aKeep a) (tD (aT a), v, tR (aT a), tN (aT a), tT (aT a)), ok2.tk ⟨t2.1, t2.2.1, by show v ≤ 1; omega, t2.2.2.2.1, t2.2.2.2.2⟩, x2.ord v, m2.ord v⟩
  · rw [if_neg (show ¬ nI 1 = (0 : Int32) by decide), show (3 : Int32) = nI 4 - 1 from rfl, m_rng (by omega), bq1_s]
    rcases outc_cases 4 (by omega) v2 with ⟨q, hc⟩ | ⟨v, hv, rfl, q⟩
    · rw [q, if_pos rfl]
      unfold fX6_rules fX6_rules_17 fX6_rules_18
      rw [if_neg (show ¬ nI 1 = (0 : Int32) by decide), if_pos (show nI 1 = (1 : Int32) from rfl), e37]
      rcases hc with hc | hc
      · rw [if_pos hc]; exact bad
      · have h0 : ¬ v2 < 0 := Int32.not_lt.mpr (Int32.le_trans (show (0 : Int32) ≤ nI 4 by decide) hc)
        rw [if_neg h0, if_pos (show (4 : Int32) ≤ v2 from hc)]; exact bad
    · rw [x_rules1 hv, q, if_neg ne10]
      obtain ⟨X2, M2, e1, e2, ok2, x2, m2⟩ := sim_keep ok x m
      rw [e1, e2, bq1_s, bq1_s, chk_n (by omega) (by omega), chk_n (by omega) (by omega), gR_n (by omega), pR_n (by omega)]
      have t2 := ok2.1
      exact ⟨nI (tR (aT a)), _, _, by rw [gF_e, x2.1.2.2.1]; rfl, by rw [m2.1.2.2.1]; rfl, aTk (aKeep a) (tD (aT a), tO (aT a), v, tN (aT a), tT (aT a)), ok2.tk ⟨t2.1, t2.2.1, t2.2.2.1, by show v ≤ 3; omega, t2.2.2.2.2⟩, x2.rul v, m2.rul v⟩
theorem op_clear (X M : St) (h : Sim X M) : ∃ (r : Int32) (X2 M2 : St), fX6_clear X = some (r, X2) ∧ fX7_clear M = some (r, M2) ∧ Sim X2 M2 := by
  obtain ⟨a, ok, x, m⟩ := h
  unfold fX6_clear fX7_clear
  refine ⟨nI (aZ a), _, _, by rw [gF_e, x.2.2.2.2.2.1], by rw [gF_e, m.2.2.2.2.2.1], (aT a, aC a, aH a, 0, aX a, aRf a, aAb a, aBe a), ⟨ok.1, ok.2.1, ok.2.2.1, by show 0 ≤ 120; omega, fun i hi => absurd hi (Nat.not_lt_zero _)⟩, ?_, ?_⟩
  · obtain ⟨x1, ⟨w, hw, x2, x3, x4⟩, x5, x6, x7, x8, x9⟩ := x
    exact ⟨x1.pF (by omega) (by omega), ⟨w, hw, (pF_n _ _ (by omega)).trans x2, (pF_n _ _ (by omega)).trans x3, fun i hi => (x4 i hi).pF (by have := Nat.mod_lt (w + 6 - i) (show 0 < 6 by omega); omega) (by omega)⟩, x5, (pF_n _ _ (by omega)).trans x6, (pF_n _ _ (by omega)).trans x7, pF_s _ _ _, fun i hi => absurd hi (Nat.not_lt_zero _)⟩
  · obtain ⟨⟨t1, t2, t3, t4, t5⟩, ⟨x2, x4⟩, x5, x6, x7, x8, x9⟩ := m
    exact ⟨⟨(pF_n _ _ (by omega)).trans t1, t2, t3, (pF_n _ _ (by omega)).trans t4, t5⟩, ⟨(pF_n _ _ (by omega)).trans x2, fun i hi => (x4 i hi).of rfl⟩, x5, (pF_n _ _ (by omega)).trans x6, (pF_n _ _ (by omega)).trans x7, pF_s _ _ _, fun i hi => absurd hi (Nat.not_lt_zero _)⟩
theorem byt : ∀ j, j < 128 → vp_nar .byte (Int8.toInt32 (Int32.toInt8 (nI j))) = nI j := by decide +kernel
theorem op_type (X M : St) (v1 : Int32) (h : Sim X M) : ∃ (r : Int32) (X2 M2 : St), fX6_type X v1 = some (r, X2) ∧ fX7_type M v1 = some (r, M2) ∧ Sim X2 M2 := by
  obtain ⟨a, ok, x, m⟩ := h
  have hz := ok.2.2.2.1
  have hx34 : gF X 34 = nI (aZ a) := x.2.2.2.2.2.1
  have hm24 : gF M 24 = nI (aZ a) := m.2.2.2.2.2.1
  have bad : ∃ (r : Int32) (X2 M2 : St), fX6_type_11 X = some (r, X2) ∧ (bq2 (fX7_bad M) fun r6 S6 => some (r6, S6)) = some (r, M2) ∧ Sim X2 M2 := by
    obtain ⟨X2, M2, e1, e2, s⟩ := sim_bad ok x m
    unfold fX6_type_11
    rw [e1, e2, bq2_s, bq2_s]
    exact ⟨_, _, _, rfl, rfl, s⟩
  unfold fX6_type fX7_type
  rw [show (127 : Int32) = nI 128 - 1 from rfl, m_rng (by omega), bq1_s]
  rcases outc_cases 128 (by omega) v1 with ⟨q, hc⟩ | ⟨j, hj, rfl, q⟩
  · rw [q, if_pos rfl]
    rcases hc with hc | hc
    · rw [if_pos hc]; exact bad
    · have h0 : ¬ v1 < 0 := Int32.not_lt.mpr (Int32.le_trans (show (0 : Int32) ≤ nI 128 by decide) hc)
      rw [if_neg h0, if_neg (show ¬ v1 < (128 : Int32) from Int32.not_lt.mpr hc)]; exact bad
  rw [q, if_neg ne10, if_neg (nI_pos (by omega)), if_pos (show nI j < (128 : Int32) from nI_lt (b := 128) hj (by omega)), hx34, hm24]
  by_cases hz2 : aZ a < 120
  · rw [if_pos (show nI (aZ a) < (120 : Int32) from nI_lt (b := 120) hz2 (by omega)), if_neg (show ¬ nI (aZ a) = (120 : Int32) from nI_c (c := 120) (by omega) (by omega) (by omega)), chk_n hz2 (by omega), nI_1, pR_n (by omega)]
    unfold fX2_append
    rw [hx34, if_neg (show ¬ (120 : Int32) ≤ nI (aZ a) from nI_ge (b := 120) hz2 (by omega)), chk_n hz2 (by omega), nI_1, pR_n (by omega), byt j hj, bq1_s, gF_e, pF_s]
    refine ⟨_, _, _, rfl, rfl, (aT a, aC a, aH a, aZ a + 1, (fun i => if i = aZ a then j else aX a i), aRf a, aAb a, aBe a), ⟨ok.1, ok.2.1, ok.2.2.1, hz2, fun i hi => ?_⟩, ?_, ?_⟩
    · show (if i = aZ a then j else aX a i) < 128
      have hi2 : i < aZ a + 1 := hi
      split
      · exact hj
      · exact ok.2.2.2.2 i (by omega)
    · obtain ⟨x1, ⟨w, hw, x2, x3, x4⟩, x5, x6, x7, x8, x9⟩ := x
      have hx : ∀ q, q < 7 → ∀ t, XT X q t → XT (pN X 19 (aZ a) (nI j)) q t := fun q hq t ⟨a1, b1, c1, d1, e1⟩ => ⟨a1, b1, c1, d1, fun p k hp hk => by rw [pN_k _ _ (by omega)]; exact e1 p k hp hk⟩
      refine ⟨(hx 0 (by omega) _ x1).pF (by omega) (by omega), ⟨w, hw, (pF_n _ _ (by omega)).trans x2, (pF_n _ _ (by omega)).trans x3, fun i hi => ?_⟩, fun k hk => (pN_k _ _ (by omega)).trans (x5 k hk), (pF_n _ _ (by omega)).trans x6, (pF_n _ _ (by omega)).trans x7, pF_s _ _ _, fun i hi => ?_⟩
      · have hm := Nat.mod_lt (w + 6 - i) (show 0 < 6 by omega)
        exact (hx _ (by omega) _ (x4 i hi)).pF (by omega) (by omega)
      · have hi2 : i < aZ a + 1 := hi
        show (pN X 19 (aZ a) (nI j)).2.1 19 i = nI (if i = aZ a then j else aX a i)
        by_cases hc : i = aZ a
        · rw [if_pos hc, hc, pN_s]
        · rw [if_neg hc, pN_i _ _ hc]; exact x9 i (by omega)
    · obtain ⟨⟨t1, t2, t3, t4, t5⟩, ⟨x2, x4⟩, x5, x6, x7, x8, x9⟩ := m
      refine ⟨⟨(pF_n _ _ (by omega)).trans t1, (pN_k _ _ (by omega)).trans t2, (pN_k _ _ (by omega)).trans t3, (pF_n _ _ (by omega)).trans t4, fun p k hp hk => (pN_k _ _ (by omega)).trans (t5 p k hp hk)⟩, ⟨(pF_n _ _ (by omega)).trans x2, fun i hi => (x4 i hi).of (by funext b; exact pN_k _ _ (by omega))⟩, fun k hk => (pN_k _ _ (by omega)).trans (x5 k hk), (pF_n _ _ (by omega)).trans x6, (pF_n _ _ (by omega)).trans x7, pF_s _ _ _, fun i hi => ?_⟩
      have hi2 : i < aZ a + 1 := hi
      show (pN M 16 (aZ a) (nI j)).2.1 16 i = nI (if i = aZ a then j else aX a i)
      by_cases hc : i = aZ a
      · rw [if_pos hc, hc, pN_s]
      · rw [if_neg hc, pN_i _ _ hc]; exact x9 i (by omega)
  · have e120 : aZ a = 120 := by omega
    rw [e120, if_neg (show ¬ nI 120 < (120 : Int32) by decide), if_pos (show nI 120 = (120 : Int32) from rfl)]
    obtain ⟨X2, M2, e1, e2, s⟩ := sim_full ok x m
    rw [e1, e2, bq2_s, bq2_s]
    exact ⟨_, _, _, rfl, rfl, s⟩
theorem op_part (X M : St) (v1 : Int32) (h : Sim X M) : ∃ (r : Int32) (X2 M2 : St), fX6_part X v1 = some (r, X2) ∧ fX7_part M v1 = some (r, M2) ∧ Sim X2 M2 := by
  obtain ⟨a, ok, x, m⟩ := h
  have hs : Sim X M := ⟨a, ok, x, m⟩
  unfold fX6_part fX7_part fX6_part_9
  rw [show (1 : Int32) = nI 2 - 1 from rfl, m_rng (by omega), bq1_s]
  rcases outc_cases 2 (by omega) v1 with ⟨q, hc⟩ | ⟨j, hj, rfl, q⟩
  · rw [q, if_pos rfl]
    obtain ⟨X2, M2, e1, e2, s⟩ := sim_bad ok x m
    rw [e1, e2, bq2_s, bq2_s]
    rcases hc with hc | hc
    · rw [if_pos hc]; exact ⟨_, _, _, rfl, rfl, s⟩
    · have h0 : ¬ v1 < 0 := Int32.not_lt.mpr (Int32.le_trans (show (0 : Int32) ≤ nI 2 by decide) hc)
      rw [if_neg h0, if_neg (show ¬ v1 ≤ nI 2 - 1 from fun q => absurd (Int32.le_trans hc q) (by decide))]; exact ⟨_, _, _, rfl, rfl, s⟩
  · rw [q, if_neg ne10, if_neg (nI_pos (by omega)), if_pos (show nI j ≤ nI 2 - 1 from nI_le (b := 1) (by omega) (by omega))]
    have e1 : gF X 28 = gF M 14 := x.2.2.2.1.trans m.2.2.2.1.symm
    have e2 : gF X 29 = gF M 15 := x.2.2.2.2.1.trans m.2.2.2.2.1.symm
    rw [e1, e2]
    rcases (show j = 0 ∨ j = 1 by omega) with rfl | rfl
    · rw [if_pos (show nI 0 = (0 : Int32) from rfl), if_pos (show nI 0 = (0 : Int32) from rfl)]; exact ⟨_, _, _, rfl, rfl, hs⟩
    · rw [if_neg (show ¬ nI 1 = (0 : Int32) by decide), if_neg (show ¬ nI 1 = (0 : Int32) by decide)]; exact ⟨_, _, _, rfl, rfl, hs⟩
theorem x_told {a : Da} {X : St} (x : XS a X) {j : Nat} (hj : j < 9) : fX6_told X (nI j) = some ((if j < 3 then aRf a j else if j = 3 then nI (aZ a) else if j = 4 then nI (tD (aT a)) else if j = 5 then nI (tN (aT a)) else if j = 6 then nI (tO (aT a)) else if j = 7 then nI (tR (aT a)) else nI (aC a)), X) := by
  have e34 : gF X 34 = nI (aZ a) := x.2.2.2.2.2.1
  have e0 : gF X 0 = nI (tD (aT a)) := x.1.1
  have e3 : gF X 3 = nI (tN (aT a)) := x.1.2.2.2.1
  have e1 : gF X 1 = nI (tO (aT a)) := x.1.2.1
  have e2 : gF X 2 = nI (tR (aT a)) := x.1.2.2.1
  have e30 : gF X 30 = nI (aC a) := by obtain ⟨w, -, h, -⟩ := x.2.1; exact h
  unfold fX6_told
  rw [e34, e0, e3, e1, e2, e30, if_neg (nI_pos (by omega)), if_pos (show nI j ≤ (8 : Int32) from nI_le (b := 8) (by omega) (by omega))]
  rcases (show j = 0 ∨ j = 1 ∨ j = 2 ∨ j = 3 ∨ j = 4 ∨ j = 5 ∨ j = 6 ∨ j = 7 ∨ j = 8 by omega) with rfl | rfl | rfl | rfl | rfl | rfl | rfl | rfl | rfl
  · show some (gR X 7 (nI 0), X) = _; rw [gR_n (by omega), x.2.2.1 0 (by omega)]; rfl
  · show some (gR X 7 (nI 1), X) = _; rw [gR_n (by omega), x.2.2.1 1 (by omega)]; rfl
  · show some (gR X 7 (nI 2), X) = _; rw [gR_n (by omega), x.2.2.1 2 (by omega)]; rfl
  all_goals rfl
theorem m_told {a : Da} {M : St} (m : MS a M) {j : Nat} (hj : j < 9) : fX7_toldBy M (nI j) = some (if j < 3 then aRf a j else if j = 3 then nI (aZ a) else if j = 4 then nI (tD (aT a)) else if j = 5 then nI (tN (aT a)) else if j = 6 then nI (tO (aT a)) else if j = 7 then nI (tR (aT a)) else nI (aC a)) := by
  have e24 : gF M 24 = nI (aZ a) := m.2.2.2.2.2.1
  have e1 : gF M 1 = nI (tD (aT a)) := m.1.1
  have e2 : gF M 2 = nI (tN (aT a)) := m.1.2.2.2.1
  have e8 : gF M 8 = nI (aC a) := m.2.1.1
  unfold fX7_toldBy
  rw [e24, e1, e2, e8]
  rcases (show j = 0 ∨ j = 1 ∨ j = 2 ∨ j = 3 ∨ j = 4 ∨ j = 5 ∨ j = 6 ∨ j = 7 ∨ j = 8 by omega) with rfl | rfl | rfl | rfl | rfl | rfl | rfl | rfl | rfl
  · show some (gR M 0 (nI 0)) = _; rw [gR_n (by omega), m.2.2.1 0 (by omega)]; rfl
  · show some (gR M 0 (nI 1)) = _; rw [gR_n (by omega), m.2.2.1 1 (by omega)]; rfl
  · show some (gR M 0 (nI 2)) = _; rw [gR_n (by omega), m.2.2.1 2 (by omega)]; rfl
  · rfl
  · rfl
  · rfl
  · show some (gR M 1 (nI 6 - 6)) = _; rw [show nI 6 - 6 = nI 0 by decide, gR_n (by omega), m.1.2.1]; rfl
  · show some (gR M 1 (nI 7 - 6)) = _; rw [show nI 7 - 6 = nI 1 by decide, gR_n (by omega), m.1.2.2.1]; rfl
  · rfl
theorem op_told (X M : St) (v1 : Int32) (h : Sim X M) : ∃ (r : Int32) (X2 M2 : St), fX6_told X v1 = some (r, X2) ∧ fX7_told M v1 = some (r, M2) ∧ Sim X2 M2 := by
  obtain ⟨a, ok, x, m⟩ := h
  unfold fX7_told
  rw [show (8 : Int32) = nI 9 - 1 from rfl, m_rng (by omega), bq1_s]
  rcases outc_cases 9 (by omega) v1 with ⟨q, hc⟩ | ⟨j, hj, rfl, q⟩
  · rw [q, if_pos rfl]
    unfold fX6_told fX6_told_10
    obtain ⟨X2, M2, e1, e2, s⟩ := sim_bad ok x m
    rw [e1, e2, bq2_s, bq2_s]
    rcases hc with hc | hc
    · rw [if_pos hc]; exact ⟨_, _, _, rfl, rfl, s⟩
    · have h0 : ¬ v1 < 0 := Int32.not_lt.mpr (Int32.le_trans (show (0 : Int32) ≤ nI 9 by decide) hc)
      rw [if_neg h0, if_neg (show ¬ v1 ≤ 8 from fun q => absurd (Int32.le_trans hc q) (by decide))]; exact ⟨_, _, _, rfl, rfl, s⟩
  · rw [q, if_neg ne10, x_told x hj, m_told m hj, bq1_s]
    exact ⟨_, _, _, rfl, rfl, a, ok, x, m⟩
/-! back -/
def aBack (a : Da) : Da := (aH a 0, aC a - 1, (fun i => aH a (i + 1)), aZ a, aX a, aRf a, aAb a, aBe a)
theorem x_restore {a : Da} {X : St} (ok : DaOK a) (hc : aC a ≠ 0) (x : XS a X) : ∃ X2, fX0_restore X = some X2 ∧ XS (aBack a) X2 := by
  obtain ⟨x1, ⟨w, hw, x2, x3, x4⟩, x5, x6, x7, x8, x9⟩ := x
  have hc6 := ok.2.1
  unfold fX0_restore
  have g30 : gF X 30 = nI (aC a) := x2
  have g31 : gF X 31 = nI w := x3
  rw [g30, g31, if_neg (show ¬ nI (aC a) = (0 : Int32) from nI_c (c := 0) (by omega) (by omega) hc), chk_n hw (by omega), nI_clamp (by omega)]
  obtain ⟨Y, hy, y1, y2, y3, y4⟩ := take_spec 0 (1 + w) (by omega) X
  rw [hy, bq1_s]
  have y30 : gF Y 30 = nI (aC a) := (y1 30 (by omega) (by omega) (by omega) (by omega)).trans x2
  have y31 : gF Y 31 = nI w := (y1 31 (by omega) (by omega) (by omega) (by omega)).trans x3
  rw [y30, y31, show nI w + (6 : Int32) = nI (w + 6) from nI_add w 6, show nI (w + 6) - (1 : Int32) = nI (w + 5) from pk_sub (a := w + 6) (b := 1) (by omega), show nI (w + 5) - nI (w + 5) / (6 : Int32) * (6 : Int32) = nI ((w + 5) % 6) from pk_rem (d := 6) (by omega) (by omega) (by omega), show nI (aC a) - (1 : Int32) = nI (aC a - 1) from pk_sub (b := 1) (by omega)]
  have hm : (w + 5) % 6 < 6 := Nat.mod_lt _ (by omega)
  refine ⟨_, rfl, ?_⟩
  have x40 := x4 0 (by omega)
  rw [show 1 + (w + 6 - 0) % 6 = 1 + w by omega] at x40
  refine ⟨((XT.take (d := 0) x40 y2 y4).pF (by omega) (by omega)).pF (by omega) (by omega), ⟨(w + 5) % 6, hm, pF_s _ _ _, ?_, ?_⟩, ?_, ?_, ?_, ?_, ?_⟩
  · rw [pF_n _ _ (by omega), pF_s]
  · intro i hi
    have hi2 : i < aC a - 1 := hi
    have := x4 (i + 1) (by omega)
    have e : (w + 6 - (i + 1)) % 6 = ((w + 5) % 6 + 6 - i) % 6 := by omega
    rw [e] at this
    have hm2 : ((w + 5) % 6 + 6 - i) % 6 < 6 := Nat.mod_lt _ (by omega)
    exact ((this.else (d := 0) (by omega) y1 y3).pF (by omega) (by omega)).pF (by omega) (by omega)
  · intro k hk
    show Y.2.1 7 k = aRf a k
    rw [y3 7 (by omega)]; exact x5 k hk
  · rw [pF_n _ _ (by omega), pF_n _ _ (by omega), y1 28 (by omega) (by omega) (by omega) (by omega)]; exact x6
  · rw [pF_n _ _ (by omega), pF_n _ _ (by omega), y1 29 (by omega) (by omega) (by omega) (by omega)]; exact x7
  · rw [pF_n _ _ (by omega), pF_n _ _ (by omega), y1 34 (by omega) (by omega) (by omega) (by omega)]; exact x8
  · intro i hi
    show Y.2.1 19 i = _
    rw [y3 19 (by omega)]; exact x9 i hi
theorem m_back {a : Da} {M : St} (ok : DaOK a) (hc : aC a ≠ 0) (m : MS a M) : ∃ M2, fX7_back M = some (nI (aC a - 1), M2) ∧ MS (aBack a) M2 := by
  obtain ⟨t, ⟨x2, x4⟩, x5, x6, x7, x8, x9⟩ := m
  have hc6 := ok.2.1
  have g8 : gF M 8 = nI (aC a) := x2
  have k0 := x4 0 (by omega)
  generalize hcc : aC a - 1 = c at *
  obtain ⟨k1, k2, k3, k4, k5⟩ := k0
  unfold fX7_back
  rw [g8, if_neg (show ¬ nI (aC a) = (0 : Int32) from nI_c (c := 0) (by omega) (by omega) hc), show nI (aC a) - (1 : Int32) = nI c from by rw [← hcc]; exact pk_sub (b := 1) (by omega), show (68 : Int32) * nI c = nI (68 * c) from pk_mul 68 c]
  have ea : ∀ j : Nat, nI (68 * c) + nI j = nI (68 * c + j) := fun j => nI_add _ _
  rw [show (2 : Int32) = nI 2 from rfl, show (3 : Int32) = nI 3 from rfl, show nI (68 * c) + (1 : Int32) = nI (68 * c + 1) from ea 1, ea, ea, chk_n (by omega) (by omega), chk_n (by omega) (by omega), chk_n (by omega) (by omega), chk_n (by omega) (by omega), gR_n (by omega), gR_n (by omega), gR_n (by omega), gR_n (by omega), pR_0, pR_1, k1, k2, k3, k4]
  generalize hM0 : pN (pN (pF (pF (pF M 8 (nI c)) 1 (nI (tD (aH a 0)))) 2 (nI (tN (aH a 0)))) 1 0 (nI (tO (aH a 0)))) 1 1 (nI (tR (aH a 0))) = M0
  have a1 : M0.1 8 = nI c ∧ M0.1 1 = nI (tD (aH a 0)) ∧ M0.1 2 = nI (tN (aH a 0)) ∧ ∀ k, k ≠ 8 → k ≠ 1 → k ≠ 2 → M0.1 k = M.1 k := by
    subst hM0
    refine ⟨rfl, rfl, rfl, fun k h1 h2 h3 => ?_⟩
    show (pF (pF (pF M 8 _) 1 _) 2 _).1 k = _
    rw [pF_n _ _ h3, pF_n _ _ h2, pF_n _ _ h1]
  have a2 : M0.2.1 1 0 = nI (tO (aH a 0)) ∧ M0.2.1 1 1 = nI (tR (aH a 0)) ∧ ∀ k, k ≠ 1 → M0.2.1 k = M.2.1 k := by
    subst hM0
    refine ⟨(pN_i _ _ (by omega)).trans (pN_s _ _ _ _), pN_s _ _ _ _, fun k h1 => ?_⟩
    funext b
    rw [pN_k _ _ h1, pN_k _ _ h1]; rfl
  obtain ⟨⟨M3, y⟩, e3, i1, i2, i3, i4⟩ := lp_fu (f := fun q => bX7_back_82 (nI (68 * c)) q.1 q.2) (fun p s => s.1.1 = M0.1 ∧ s.2 = nI p ∧ (∀ k, k < 2 ∨ 5 < k → s.1.2.1 k = M0.2.1 k) ∧ ∀ q k, q < p → k < 4 → s.1.2.1 (2 + k) q = nI (tT (aH a 0) q k)) 16 (by omega) (M0, (0 : Int32)) ⟨rfl, rfl, fun _ _ => rfl, fun q k h => by omega⟩
    (by
      rintro p ⟨S, y⟩ hp ⟨i1, i2, i3, i4⟩
      dsimp only at i1 i2 i3 i4 ⊢
      subst i2
      have eb : ∀ j : Nat, nI (68 * c) + nI j + nI p = nI (68 * c + j + p) := fun j => by rw [nI_add, nI_add]
      unfold bX7_back_82
      rw [if_neg (show ¬ (16 : Int32) ≤ nI p from nI_ge (b := 16) hp (by omega)), show (4 : Int32) = nI 4 from rfl, show (20 : Int32) = nI 20 from rfl, show (36 : Int32) = nI 36 from rfl, show (52 : Int32) = nI 52 from rfl, eb, eb, eb, eb]
      rw [chk_n (by omega) (by omega), chk_n hp (by omega), chk_n (by omega) (by omega), chk_n hp (by omega), chk_n (by omega) (by omega), chk_n hp (by omega), chk_n (by omega) (by omega), chk_n hp (by omega), pR_n (by omega), pR_n (by omega), pR_n (by omega), pR_n (by omega), gR_n (by omega), gR_n (by omega), gR_n (by omega), gR_n (by omega), nI_1]
      have v : ∀ k, k < 4 → S.2.1 6 (68 * c + 4 + 16 * k + p) = nI (tT (aH a 0) p k) := fun k hk => by rw [i3 6 (by omega), a2.2.2 6 (by omega)]; exact k5 p k hp hk
      refine ⟨_, rfl, i1, rfl, ?_, ?_⟩
      · intro k hk; funext b
        rw [pN_k _ _ (by omega), pN_k _ _ (by omega), pN_k _ _ (by omega), pN_k _ _ (by omega), i3 k hk]
      · intro q k hq hk
        by_cases hqp : q = p
        · subst hqp
          rcases (show k = 0 ∨ k = 1 ∨ k = 2 ∨ k = 3 by omega) with rfl | rfl | rfl | rfl
          · rw [pN_k _ _ (by omega), pN_k _ _ (by omega), pN_k _ _ (by omega)]; exact (pN_s _ _ _ _).trans (by rw [← v 0 (by omega)])
          · rw [pN_k _ _ (by omega), pN_k _ _ (by omega)]; exact (pN_s _ _ _ _).trans (by rw [← v 1 (by omega)])
          · rw [pN_k _ _ (by omega)]; exact (pN_s _ _ _ _).trans (by rw [← v 2 (by omega)])
          · exact (pN_s _ _ _ _).trans (by rw [← v 3 (by omega)])
        · rw [pN_i _ _ hqp, pN_i _ _ hqp, pN_i _ _ hqp, pN_i _ _ hqp]
          exact i4 q k (by omega) hk)
    (by
      rintro ⟨S, y⟩ ⟨i1, i2, i3, i4⟩
      dsimp only at i2 ⊢
      subst i2
      unfold bX7_back_82
      exact if_pos (Int32.le_refl _))
  dsimp only at i1 i2 i3 i4
  rw [e3, bq2_s]
  refine ⟨M3, by rw [gF_e, i1, a1.1], ?_, ⟨?_, ?_⟩, ?_, ?_, ?_, ?_, ?_⟩
  · refine ⟨?_, ?_, ?_, ?_, fun p k hp hk => i4 p k hp hk⟩
    · rw [i1]; exact a1.2.1
    · rw [i3 1 (by omega)]; exact a2.1
    · rw [i3 1 (by omega)]; exact a2.2.1
    · rw [i1]; exact a1.2.2.1
  · rw [i1, a1.1]; show nI c = nI (aC a - 1); rw [hcc]
  · intro i hi
    have hi2 : i < aC a - 1 := hi
    have := x4 (i + 1) (by omega)
    show MK M3 (aC a - 1 - 1 - i) (aH a (i + 1))
    rw [hcc, show c - 1 - i = c - (i + 1) by omega]
    exact this.of (by rw [i3 6 (by omega), a2.2.2 6 (by omega)])
  · intro k hk; rw [i3 0 (by omega), a2.2.2 0 (by omega)]; exact x5 k hk
  · rw [i1, a1.2.2.2 14 (by omega) (by omega) (by omega)]; exact x6
  · rw [i1, a1.2.2.2 15 (by omega) (by omega) (by omega)]; exact x7
  · rw [i1, a1.2.2.2 24 (by omega) (by omega) (by omega)]; exact x8
  · intro i hi; rw [i3 16 (by omega), a2.2.2 16 (by omega)]; exact x9 i hi
theorem op_back (X M : St) (h : Sim X M) : ∃ (r : Int32) (X2 M2 : St), fX6_back X = some (r, X2) ∧ fX7_back M = some (r, M2) ∧ Sim X2 M2 := by
  obtain ⟨a, ok, x, m⟩ := h
  have g30 : gF X 30 = nI (aC a) := by obtain ⟨w, -, h, -⟩ := x.2.1; exact h
  have hc6 := ok.2.1
  by_cases hc : aC a = 0
  · unfold fX6_back fX7_back
    rw [g30, show gF M 8 = nI (aC a) from m.2.1.1, hc, if_pos (show nI 0 = (0 : Int32) from rfl), if_pos (show nI 0 = (0 : Int32) from rfl)]
    obtain ⟨X2, M2, e1, e2, s⟩ := sim_no ok x m
    rw [e1, e2, bq2_s, bq2_s]
    exact ⟨_, _, _, rfl, rfl, s⟩
  · obtain ⟨X2, e1, x2⟩ := x_restore ok hc x
    obtain ⟨M2, e2, m2⟩ := m_back ok hc m
    unfold fX6_back
    rw [g30, if_neg (show ¬ nI (aC a) = (0 : Int32) from nI_c (c := 0) (by omega) (by omega) hc), e1, bq1_s, e2]
    refine ⟨nI (aC a - 1), X2, M2, ?_, rfl, aBack a, ⟨ok.2.2.1 0 (by omega), ?_, fun i hi => ok.2.2.1 (i + 1) ?_, ok.2.2.2⟩, x2, m2⟩
    · obtain ⟨w, -, h, -⟩ := x2.2.1
      rw [gF_e, h]; rfl
    · show aC a - 1 ≤ 6; omega
    · have hi2 : i < aC a - 1 := hi; omega
