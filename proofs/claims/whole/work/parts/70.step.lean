/-! of and step -/
theorem WOK.lt {d z : Nat} {w : Nat × Nat × (Nat → Nat)} (hd : d ≤ 4) (h : WOK d w z) : ∀ k, k < w.2.1 → w.2.2 k < 64 := by
  intro k hk
  have := (h.2.2 k hk).2.2
  have := two_le hd
  omega
def metN (t : Tk) (p : Nat) : Nat := cntb (fun q => decide (q ≠ p) && shr (wyP t p) (wyP t q)) (tN t)
theorem x_meetings {X : St} {t : Tk} (ok : TkOK t) (hw : ∀ p, p < tN t → XWay X p (wyP t p)) {p : Nat} (hp : p < tN t) : fX5_meetings X (nI p) (nI (tN t)) = some (nI (metN t p)) := by
  have hn := ok.2.2.2.2.1
  have hd := ok.2.1
  unfold fX5_meetings metN
  obtain ⟨⟨u, y⟩, e, i1, i2⟩ := lp_fu (f := fun q => bX5_meetings_5 X (nI p) (nI (tN t)) q.1 q.2) (fun k s => s.1 = nI (cntb (fun q => decide (q ≠ p) && shr (wyP t p) (wyP t q)) k) ∧ s.2 = nI k) (tN t) (by omega) ((0 : Int32), (0 : Int32)) ⟨rfl, rfl⟩
    (by
      rintro k ⟨u, y⟩ hk ⟨i1, i2⟩
      dsimp only at i1 i2 ⊢
      subst i1; subst i2
      show ∃ s2, bX5_meetings_5 X (nI p) (nI (tN t)) (nI (cntb (fun q => decide (q ≠ p) && shr (wyP t p) (wyP t q)) k)) (nI k) = some (true, s2) ∧ s2.1 = nI (cntb (fun q => decide (q ≠ p) && shr (wyP t p) (wyP t q)) k + if (decide (k ≠ p) && shr (wyP t p) (wyP t k)) = true then 1 else 0) ∧ s2.2 = nI (k + 1)
      unfold bX5_meetings_5
      rw [if_neg (nI_ge hk (by omega)), nI_1]
      by_cases hkp : k = p
      · rw [if_pos (by rw [hkp]), hkp]
        refine ⟨_, rfl, ?_, rfl⟩
        simp
      · rw [if_neg (nI_c (by omega) (by omega) hkp), chk_n (by omega) (by omega), chk_n (by omega) (by omega), gE_n (by omega), gE_n (by omega), (hw k hk).2.2.2, (hw p hp).2.2.2]
        have hiff : (lg_cmp (bset (wyP t k).2.2 (wyP t k).2.1 &&& bset (wyP t p).2.2 (wyP t p).2.1) 0 = (0 : Int32)) ↔ ¬ shr (wyP t p) (wyP t k) = true := by
          rw [lgc, and0 ((wyP_ok ok hk).lt hd) ((wyP_ok ok hp).lt hd), shr_iff]
          constructor
          · rintro h ⟨a, b, h1, h2, h3⟩; exact h ⟨b, a, h2, h1, h3⟩
          · rintro h ⟨a, b, h1, h2, h3⟩; exact h ⟨b, a, h2, h1, h3⟩
        by_cases hs : shr (wyP t p) (wyP t k) = true
        · rw [if_neg (fun q => (hiff.mp q) hs), nI_1]
          refine ⟨_, rfl, ?_, rfl⟩
          simp [hkp, hs]
        · rw [if_pos (hiff.mpr hs)]
          refine ⟨_, rfl, ?_, rfl⟩
          simp [hs])
    (by
      rintro ⟨u, y⟩ ⟨i1, i2⟩
      dsimp only at i2 ⊢
      subst i2
      unfold bX5_meetings_5
      exact if_pos (Int32.le_refl _))
  dsimp only at i1
  rw [e, bq2_s, i1]
theorem m_uses {M : St} {d q z : Nat} {w : Nat × Nat × (Nat → Nat)} (hd : d ≤ 4) (hq : q < 16) (hw : WOK d w z) (hz : z < 2 ^ d) (m : MWay M q w z) {e : Nat} (he : e < 64) : fX7_uses M (nI q) (nI e) = some (bI (hit w e)) := by
  have hlen := hw.1
  unfold fX7_uses hit
  obtain ⟨⟨u, y⟩, e1, i1, i2⟩ := lp_fu (f := fun r => bX7_uses_5 M (nI q) (nI e) r.1 r.2) (fun k s => s.1 = bI (anyb (fun k => decide (w.2.2 k = e)) k) ∧ s.2 = nI k) w.2.1 (by omega) ((0 : Int32), (0 : Int32)) ⟨rfl, rfl⟩
    (by
      rintro k ⟨u, y⟩ hk ⟨i1, i2⟩
      dsimp only at i1 i2 ⊢
      subst i1; subst i2
      show ∃ s2, bX7_uses_5 M (nI q) (nI e) (bI (anyb (fun k => decide (w.2.2 k = e)) k)) (nI k) = some (true, s2) ∧ s2.1 = bI (anyb (fun k => decide (w.2.2 k = e)) k || decide (w.2.2 k = e)) ∧ s2.2 = nI (k + 1)
      unfold bX7_uses_5
      rw [chk_n hq (by omega), gR_n (by omega), m.2.1, if_neg (nI_ge hk (by omega)), nI_1]
      cases anyb (fun k => decide (w.2.2 k = e)) k with
      | true =>
        rw [if_neg (show ¬ bI true = (0 : Int32) by decide)]
        exact ⟨_, rfl, rfl, rfl⟩
      | false =>
        rw [if_pos (show bI false = (0 : Int32) from rfl), m_edgeOf hd hq hw hz m hk, bq1_s]
        by_cases h : w.2.2 k = e
        · rw [if_pos (by rw [h])]
          exact ⟨_, rfl, by simp [h]; rfl, rfl⟩
        · rw [if_neg (nI_c (by have := hw.lt hd k hk; omega) (by omega) h)]
          exact ⟨_, rfl, by simp [h]; rfl, rfl⟩)
    (by
      rintro ⟨u, y⟩ ⟨i1, i2⟩
      dsimp only at i2 ⊢
      subst i2
      unfold bX7_uses_5
      rw [chk_n hq (by omega), gR_n (by omega), m.2.1]
      exact if_pos (Int32.le_refl _))
  dsimp only at i1
  rw [e1, bq2_s, i1]
  cases anyb (fun k => decide (w.2.2 k = e)) w.2.1
  · exact zb_0
  · exact zb_1
theorem m_metBy {M : St} {t : Tk} (ok : TkOK t) (h2 : M.1 2 = nI (tN t)) (hw : ∀ p, p < tN t → MWay M p (wyP t p) (tT t p 1)) {p : Nat} (hp : p < tN t) : fX7_metBy M (nI p) = some (nI (metN t p)) := by
  have hn := ok.2.2.2.2.1
  have hd := ok.2.1
  have wp := wyP_ok ok hp
  unfold fX7_metBy metN
  obtain ⟨⟨u, y⟩, e, i1, i2⟩ := lp_fu (f := fun q => bX7_metBy_4 M (nI p) q.1 q.2) (fun k s => s.1 = nI (cntb (fun q => decide (q ≠ p) && shr (wyP t p) (wyP t q)) k) ∧ s.2 = nI k) (tN t) (by omega) ((0 : Int32), (0 : Int32)) ⟨rfl, rfl⟩
    (by
      rintro k ⟨u, y⟩ hk ⟨i1, i2⟩
      dsimp only at i1 i2 ⊢
      subst i1; subst i2
      show ∃ s2, bX7_metBy_4 M (nI p) (nI (cntb (fun q => decide (q ≠ p) && shr (wyP t p) (wyP t q)) k)) (nI k) = some (true, s2) ∧ s2.1 = nI (cntb (fun q => decide (q ≠ p) && shr (wyP t p) (wyP t q)) k + if (decide (k ≠ p) && shr (wyP t p) (wyP t k)) = true then 1 else 0) ∧ s2.2 = nI (k + 1)
      unfold bX7_metBy_4
      rw [gF_e, h2, if_neg (nI_ge hk (by omega)), nI_1]
      have wk := wyP_ok ok hk
      obtain ⟨⟨u2, y2⟩, e2, j1, j2⟩ := lp_fu (f := fun r => bX7_metBy_18 M (nI p) (nI k) r.1 r.2) (fun j s => s.1 = bI (anyb (fun i => hit (wyP t k) ((wyP t p).2.2 i)) j) ∧ s.2 = nI j) (wyP t p).2.1 (by have := wp.1; omega) ((0 : Int32), (0 : Int32)) ⟨rfl, rfl⟩
        (by
          rintro j ⟨u, y⟩ hj ⟨j1, j2⟩
          dsimp only at j1 j2 ⊢
          subst j1; subst j2
          show ∃ s2, bX7_metBy_18 M (nI p) (nI k) (bI (anyb (fun i => hit (wyP t k) ((wyP t p).2.2 i)) j)) (nI j) = some (true, s2) ∧ s2.1 = bI (anyb (fun i => hit (wyP t k) ((wyP t p).2.2 i)) j || hit (wyP t k) ((wyP t p).2.2 j)) ∧ s2.2 = nI (j + 1)
          unfold bX7_metBy_18
          rw [chk_n (show p < 16 by omega) (by omega), gR_n (by omega), (hw p hp).2.1, if_neg (nI_ge hj (by have := wp.1; omega)), nI_1]
          cases anyb (fun i => hit (wyP t k) ((wyP t p).2.2 i)) j with
          | true =>
            rw [if_neg (show ¬ bI true = (0 : Int32) by decide)]
            exact ⟨_, rfl, rfl, rfl⟩
          | false =>
            rw [if_pos (show bI false = (0 : Int32) from rfl), m_edgeOf hd (show p < 16 by omega) wp (ok.2.2.2.2.2.2 p 1 hp (by omega)) (hw p hp) hj, bq1_s, m_uses hd (show k < 16 by omega) wk (ok.2.2.2.2.2.2 k 1 hk (by omega)) (hw k hk) (wp.lt hd j hj), bq1_s]
            cases hit (wyP t k) ((wyP t p).2.2 j) with
            | true => rw [if_neg (show ¬ bI true = (0 : Int32) by decide)]; exact ⟨_, rfl, rfl, rfl⟩
            | false => rw [if_pos (show bI false = (0 : Int32) from rfl)]; exact ⟨_, rfl, rfl, rfl⟩)
        (by
          rintro ⟨u, y⟩ ⟨j1, j2⟩
          dsimp only at j2 ⊢
          subst j2
          unfold bX7_metBy_18
          rw [chk_n (show p < 16 by omega) (by omega), gR_n (by omega), (hw p hp).2.1]
          exact if_pos (Int32.le_refl _))
      dsimp only at j1
      rw [e2, bq2_s, j1]
      show ∃ s2, (if bI (shr (wyP t p) (wyP t k)) = (0 : Int32) then _ else _) = some (true, s2) ∧ _
      cases shr (wyP t p) (wyP t k) with
      | false =>
        rw [if_pos (show bI false = (0 : Int32) from rfl)]
        refine ⟨_, rfl, ?_, rfl⟩
        simp
      | true =>
        rw [if_neg (show ¬ bI true = (0 : Int32) by decide)]
        by_cases hkp : k = p
        · rw [if_pos (by rw [hkp])]
          refine ⟨_, rfl, ?_, rfl⟩
          simp [hkp]
        · rw [if_neg (nI_c (by omega) (by omega) hkp), nI_1]
          refine ⟨_, rfl, ?_, rfl⟩
          simp [hkp])
    (by
      rintro ⟨u, y⟩ ⟨i1, i2⟩
      dsimp only at i2 ⊢
      subst i2
      unfold bX7_metBy_4
      rw [gF_e, h2]
      exact if_pos (Int32.le_refl _))
  dsimp only at i1
  rw [e, bq2_s, i1]
/-- what 'of' tells -/
def ofV (t : Tk) (p k : Nat) : Nat := if k = 4 then (wyP t p).2.1 else if k = 5 then metN t p else tT t p k
theorem x_factOf {X : St} {t : Tk} (ok : TkOK t) (x : XT X 0 t) (hw : ∀ p, p < tN t → XWay X p (wyP t p)) {p k : Nat} (hp : p < tN t) (hk : k < 6) : fX6_factOf X (nI p) (nI k) = some (nI (ofV t p k)) := by
  have hn := ok.2.2.2.2.1
  unfold fX6_factOf ofV
  by_cases h4 : k = 4
  · rw [if_pos (show nI k = (4 : Int32) by rw [h4]; rfl), if_pos h4, chk_n (show p < 16 by omega) (by omega), gR_n (by omega), (hw p hp).2.1]
  · rw [if_neg (show ¬ nI k = (4 : Int32) from nI_c (c := 4) (by omega) (by omega) h4), if_neg h4]
    by_cases h5 : k = 5
    · rw [if_pos (show nI k = (5 : Int32) by rw [h5]; rfl), if_pos h5, show gF X 3 = nI (tN t) from x.2.2.2.1, x_meetings ok hw hp, bq1_s]
    · rw [if_neg (show ¬ nI k = (5 : Int32) from nI_c (c := 5) (by omega) (by omega) h5), if_neg h5, x_trait (by omega) (by omega), bq1_s, x.2.2.2.2 p k (by omega) (by omega)]
theorem m_ofBy {M : St} {t : Tk} (ok : TkOK t) (m : MT M t) {p k : Nat} (hp : p < tN t) (hk : k < 6) : ∃ M2, fX7_ofBy M (nI p) (nI k) = some (nI (ofV t p k), M2) ∧ MR M M2 := by
  have hn := ok.2.2.2.2.1
  unfold fX7_ofBy ofV
  by_cases hk4 : k < 4
  · rw [if_neg (show ¬ (4 : Int32) ≤ nI k from nI_ge (b := 4) hk4 (by omega)), m_tells (by omega) hk4, bq1_s, m.2.2.2.2 p k (by omega) hk4, if_neg (by omega), if_neg (by omega)]
    exact ⟨M, rfl, rfl, fun _ _ _ _ => rfl⟩
  · rw [if_pos (show (4 : Int32) ≤ nI k from nI_le (a := 4) (by omega) (by omega))]
    obtain ⟨Y, e, y1, y2⟩ := m_setWays ok m
    rw [e, bq1_s]
    by_cases h4 : k = 4
    · rw [if_pos (show nI k = (4 : Int32) by rw [h4]; rfl), if_pos h4, chk_n (show p < 16 by omega) (by omega), gR_n (by omega), (y2 p hp).2.1]
      exact ⟨Y, rfl, y1⟩
    · rw [if_neg (show ¬ nI k = (4 : Int32) from nI_c (c := 4) (by omega) (by omega) h4), if_neg h4, if_pos (show k = 5 by omega), m_metBy ok (by rw [y1.1]; exact m.2.2.2.1) y2 hp, bq1_s]
      exact ⟨Y, rfl, y1⟩
theorem op_of (X M : St) (v1 v2 : Int32) (h : Sim X M) : ∃ (r : Int32) (X2 M2 : St), fX6_of X v1 v2 = some (r, X2) ∧ fX7_of M v1 v2 = some (r, M2) ∧ Sim X2 M2 := by
  obtain ⟨a, ok, x, m⟩ := h
  have t0 := ok.1
  have hn16 := t0.2.2.2.2.1
  have bad : ∃ (r : Int32) (X2 M2 : St), fX6_of_20 X = some (r, X2) ∧ fX7_of_26 M = some (r, M2) ∧ Sim X2 M2 := by
    obtain ⟨X2, M2, e1, e2, s⟩ := sim_bad ok x m
    unfold fX6_of_20 fX7_of_26
    rw [e1, e2, bq2_s, bq2_s]
    exact ⟨_, _, _, rfl, rfl, s⟩
  unfold fX6_of fX7_of
  rw [x_has x.1.2.2.2.1, m_isParcel t0 m.1.2.2.2.1, bq1_s, bq1_s]
  rcases outc_cases (tN (aT a)) (by omega) v1 with ⟨q, -⟩ | ⟨p, hp, rfl, q⟩
  · rw [q, if_pos rfl, if_pos rfl]; exact bad
  rw [q, if_neg ne10, if_neg ne10, show fX7_in M v2 0 5 = some (outc 6 v2) from m_rng (n := 6) (by omega), bq1_s]
  rcases outc_cases 6 (by omega) v2 with ⟨q, hc⟩ | ⟨k, hk, rfl, q⟩
  · rw [q, if_pos rfl]
    rcases hc with hc | hc
    · rw [if_pos hc]; exact bad
    · have h0 : ¬ v2 < 0 := Int32.not_lt.mpr (Int32.le_trans (show (0 : Int32) ≤ nI 6 by decide) hc)
      rw [if_neg h0, if_neg (show ¬ v2 ≤ (5 : Int32) from fun z => absurd (Int32.le_trans hc z) (by decide))]; exact bad
  rw [q, if_neg ne10, if_neg (nI_pos (by omega)), if_pos (show nI k ≤ (5 : Int32) from nI_le (b := 5) (by omega) (by omega))]
  obtain ⟨Y, e1, y1, y2⟩ := x_follow t0 x.1
  obtain ⟨N, e2, n1⟩ := m_ofBy t0 m.1 hp hk
  rw [e1, bq1_s, x_factOf t0 (x.1.R y1) y2 hp hk, bq1_s, e2, bq2_s]
  exact ⟨_, Y, N, rfl, rfl, a, ok, x.of y1.C, m.of n1.C⟩
def cor (w : Nat × Nat × (Nat → Nat)) (z k : Nat) : Nat := if k < w.2.1 then w.2.2 k / 4 else z
theorem x_cornerBehind {X : St} {t : Tk} (ok : TkOK t) (x : XT X 0 t) {p k : Nat} (hp : p < tN t) (hk : k < 2 ^ 20) (hw : XWay X p (wyP t p)) : fX5_cornerBehind X (nI p) (nI k) = some (nI (cor (wyP t p) (tT t p 1) k)) := by
  have hn := ok.2.2.2.2.1
  have hd := ok.2.1
  have wp := wyP_ok ok hp
  unfold fX5_cornerBehind cor
  rw [chk_n (show p < 16 by omega) (by omega), gR_n (by omega), hw.2.1]
  by_cases h : k < (wyP t p).2.1
  · rw [if_neg (nI_ge h (by have := wp.1; omega)), if_pos h]
    unfold fX5_edge
    rw [show nI p * (8 : Int32) = nI (p * 8) from pk_mul p 8, nI_add, chk_n (by have := wp.1; omega) (by omega), gR_n (by have := wp.1; omega), show p * 8 + k = 8 * p + k by omega, hw.2.2.1 k h, bq1_s]
    have := wp.lt hd k h
    rw [show nI ((wyP t p).2.2 k) / (4 : Int32) = nI ((wyP t p).2.2 k / 4) from pk_div (d := 4) (by omega) (by omega) (by omega)]
  · rw [if_pos (nI_le (by omega) (by omega)), if_neg h, show (1 : Int32) = nI 1 from rfl, x_trait (by omega) (by omega), bq1_s, x.2.2.2.2 p 1 (by omega) (by omega)]
theorem m_at {M : St} {w : Nat × Nat × (Nat → Nat)} {p k z : Nat} (hw : MWay M p w z) (hk : k ≤ w.2.1) : M.2.1 9 (9 * p + k) = nI (cor w z k) := by
  unfold cor
  by_cases h : k < w.2.1
  · rw [if_pos h]; exact hw.2.2.1 k h
  · rw [if_neg h, show k = w.2.1 by omega]; exact hw.2.2.2
theorem op_step (X M : St) (v1 v2 : Int32) (h : Sim X M) : ∃ (r : Int32) (X2 M2 : St), fX6_step X v1 v2 = some (r, X2) ∧ fX7_step M v1 v2 = some (r, M2) ∧ Sim X2 M2 := by
  obtain ⟨a, ok, x, m⟩ := h
  have t0 := ok.1
  have hn16 := t0.2.2.2.2.1
  have hd := t0.2.1
  have bad : ∃ (r : Int32) (X2 M2 : St), fX6_step_15 X = some (r, X2) ∧ fX7_step_12 M = some (r, M2) ∧ Sim X2 M2 := by
    obtain ⟨X2, M2, e1, e2, s⟩ := sim_bad ok x m
    unfold fX6_step_15 fX7_step_12
    rw [e1, e2, bq2_s, bq2_s]
    exact ⟨_, _, _, rfl, rfl, s⟩
  unfold fX6_step fX7_step
  rw [x_has x.1.2.2.2.1, m_isParcel t0 m.1.2.2.2.1, bq1_s, bq1_s]
  rcases outc_cases (tN (aT a)) (by omega) v1 with ⟨q, -⟩ | ⟨p, hp, rfl, q⟩
  · rw [q, if_pos rfl, if_pos rfl]; exact bad
  rw [q, if_neg ne10, if_neg ne10]
  by_cases h0 : (0 : Int32) ≤ v2
  · rw [if_pos h0, if_pos h0]
    obtain ⟨k, hk, rfl⟩ := nI_of (Int32.not_lt.mpr h0)
    obtain ⟨Y, e1, y1, y2⟩ := x_follow t0 x.1
    obtain ⟨N, e2, n1, n2⟩ := m_setWays t0 m.1
    have s2 : Sim Y N := ⟨a, ok, x.of y1.C, m.of n1.C⟩
    have wl := (wyP_ok t0 hp).1
    rw [e1, e2, bq1_s, bq1_s, chk_n (show p < 16 by omega) (by omega), chk_n (show p < 16 by omega) (by omega), gR_n (by omega), gR_n (by omega), (y2 p hp).2.1, (n2 p hp).2.1]
    by_cases hkl : k ≤ (wyP (aT a) p).2.1
    · rw [if_pos (nI_le hkl (by omega)), if_neg (nI_nlt hkl (by omega)), x_cornerBehind t0 (x.1.R y1) hp (by omega) (y2 p hp), bq1_s, show (9 : Int32) * nI p = nI (9 * p) from pk_mul 9 p, nI_add, chk_n (by omega) (by omega), gR_n (by omega), m_at (n2 p hp) hkl]
      exact ⟨_, Y, N, rfl, rfl, s2⟩
    · rw [if_neg (nI_ge (by omega) hk), if_pos (nI_lt (by omega) hk)]
      exact ⟨_, Y, N, rfl, rfl, s2⟩
  · rw [if_neg h0, if_neg h0]; exact bad
