/-! run, ran, best -/
def ltI (d : Nat → Nat) (k : Nat) : Int32 := if k = 0 then -1 else nI (fgN d (k - 1))
def rfV (t : Tk) (r : Rq) (k : Nat) : Int32 := if k = 0 then nI (rK r) else if k = 1 then nI (sumN (rD r) (tN t)) else if k = 2 then nI (mxN (rD r) (tN t)) else if k = 3 then ltI (rD r) (tN t) else nI (rM r)
theorem fg_pre (d : Nat → Nat) : ∀ k, fgN d k = if mxN d k < d k then k else fgN d (k - 1)
  | 0 => by
    show 0 = if 0 < d 0 then 0 else 0
    split <;> rfl
  | k + 1 => by
    show (if d (fgN d k) < d (k + 1) then k + 1 else fgN d k) = if mxN d (k + 1) < d (k + 1) then k + 1 else fgN d k
    rw [(fgN_mx d k).1]
theorem mxN_le {d : Nat → Nat} {b : Nat} (h : ∀ p, d p ≤ b) : ∀ n, mxN d n ≤ b
  | 0 => Nat.zero_le _
  | n + 1 => by
    have := mxN_le h n
    have := h n
    show (if mxN d n < d n then d n else mxN d n) ≤ b
    split <;> omega
theorem x_mostDelayed {X : St} {t : Tk} (ok : TkOK t) {r : Rq} (rk : RnOK t r) (xn : XN X t r) : fX4_mostDelayed X (nI (tN t)) = some (ltI (rD r) (tN t)) := by
  have hn := ok.2.2.2.2.1
  have hb := (rk.le ok).1
  unfold fX4_mostDelayed
  obtain ⟨⟨u, y⟩, e, i1, i2⟩ := lp_fu (f := fun q => bX4_mostDelayed_4 X (nI (tN t)) q.1 q.2) (fun k s => s.1 = ltI (rD r) k ∧ s.2 = nI k) (tN t) (by omega) ((-1 : Int32), (0 : Int32)) ⟨rfl, rfl⟩
    (by
      rintro k ⟨u, y⟩ hk ⟨i1, i2⟩
      dsimp only at i1 i2 ⊢
      subst i1; subst i2
      show ∃ s2 : Int32 × Int32, _ = some (true, s2) ∧ s2.1 = nI (fgN (rD r) k) ∧ s2.2 = nI (k + 1)
      unfold bX4_mostDelayed_4
      rw [if_neg (nI_ge hk (by omega)), nI_1]
      by_cases h0 : k = 0
      · subst h0
        rw [if_pos (show ltI (rD r) 0 = (-1 : Int32) from rfl)]
        exact ⟨_, rfl, rfl, rfl⟩
      · have hf := fgN_le (rD r) (k - 1)
        have b1 := (rk.2.1 k).2.2
        have b2 := (rk.2.1 (fgN (rD r) (k - 1))).2.2
        rw [show ltI (rD r) k = nI (fgN (rD r) (k - 1)) from if_neg h0, if_neg (nI_m1 (by omega)), chk_n (show k < 16 by omega) (by omega), chk_n (show fgN (rD r) (k - 1) < 16 by omega) (by omega), gR_n (by omega), gR_n (by omega), (xn k hk).2.2.2, (xn (fgN (rD r) (k - 1)) (by omega)).2.2.2, fg_pre (rD r) k]
        have hm := (fgN_mx (rD r) (k - 1)).1
        rw [show k - 1 + 1 = k by omega] at hm
        rw [hm]
        by_cases q : mxN (rD r) k < rD r k
        · rw [if_neg (nI_ge q (by omega)), if_pos q]
          exact ⟨_, rfl, rfl, rfl⟩
        · rw [if_pos (nI_le (by omega) (by omega)), if_neg q]
          exact ⟨_, rfl, rfl, rfl⟩)
    (by
      rintro ⟨u, y⟩ ⟨i1, i2⟩
      dsimp only at i2 ⊢
      subst i2
      unfold bX4_mostDelayed_4
      exact if_pos (Int32.le_refl _))
  dsimp only at i1
  rw [e, bq2_s, i1]
theorem x_delayOfAll {X : St} {t : Tk} (ok : TkOK t) {r : Rq} (xn : XN X t r) : fX4_delayOfAll X (nI (tN t)) = some (nI (sumN (rD r) (tN t))) := by
  have hn := ok.2.2.2.2.1
  unfold fX4_delayOfAll
  obtain ⟨⟨u, y⟩, e, i1, i2⟩ := lp_fu (f := fun q => bX4_delayOfAll_4 X (nI (tN t)) q.1 q.2) (fun k s => s.1 = nI (sumN (rD r) k) ∧ s.2 = nI k) (tN t) (by omega) ((0 : Int32), (0 : Int32)) ⟨rfl, rfl⟩
    (by
      rintro k ⟨u, y⟩ hk ⟨i1, i2⟩
      dsimp only at i1 i2 ⊢
      subst i1; subst i2
      unfold bX4_delayOfAll_4
      rw [if_neg (nI_ge hk (by omega)), chk_n (show k < 16 by omega) (by omega), gR_n (by omega), (xn k hk).2.2.2, nI_add, nI_1]
      exact ⟨_, rfl, rfl, rfl⟩)
    (by
      rintro ⟨u, y⟩ ⟨i1, i2⟩
      dsimp only at i2 ⊢
      subst i2
      unfold bX4_delayOfAll_4
      exact if_pos (Int32.le_refl _))
  dsimp only at i1
  rw [e, bq2_s, i1]
theorem x_runFact {X : St} {t : Tk} (ok : TkOK t) (x : XT X 0 t) {r : Rq} (rk : RnOK t r) (xn : XN X t r) (h32 : X.1 32 = nI (rK r)) (h33 : X.1 33 = nI (rM r)) {k : Nat} (hk : k < 5) : fX6_runFact X (nI k) = some (rfV t r k) := by
  have hn := ok.2.2.2.2.1
  unfold fX6_runFact rfV
  rw [show gF X 3 = nI (tN t) from x.2.2.2.1, x_mostDelayed ok rk xn, bq1_s, x_delayOfAll ok xn, bq1_s, show gF X 32 = nI (rK r) from h32, show gF X 33 = nI (rM r) from h33]
  rcases (show k = 0 ∨ k = 1 ∨ k = 2 ∨ k = 3 ∨ k = 4 by omega) with rfl | rfl | rfl | rfl | rfl
  · rfl
  · rfl
  · show (if ltI (rD r) (tN t) = (-1 : Int32) then some (0 : Int32) else chk (ltI (rD r) (tN t)) 16 (some (gR X 13 (ltI (rD r) (tN t))))) = some (nI (mxN (rD r) (tN t)))
    by_cases h0 : tN t = 0
    · rw [h0]; rfl
    · have hf := fgN_le (rD r) (tN t - 1)
      rw [show ltI (rD r) (tN t) = nI (fgN (rD r) (tN t - 1)) from if_neg h0, if_neg (nI_m1 (by omega)), chk_n (by omega) (by omega), gR_n (by omega), (xn _ (by omega)).2.2.2, (fgN_mx (rD r) (tN t - 1)).1, show tN t - 1 + 1 = tN t by omega]
  · rfl
  · rfl
theorem m_runTells {M : St} {t : Tk} (ok : TkOK t) (m : MT M t) {k : Nat} (hk : k < 5) : ∃ M2, fX7_runTells M (nI k) = some (rfV t (rn t (tR t) 128) k, M2) ∧ MC M M2 := by
  have hn := ok.2.2.2.2.1
  have hr := ok.2.2.2.1
  unfold fX7_runTells
  obtain ⟨Y, e1, y1, y2, y3, y4, y5⟩ := m_runs ok m (show tR t < 4 by omega) (show 9999 < 2 ^ 30 by omega)
  rw [gR_1, m.2.2.1, show fX7_runs M (nI (tR t)) 9999 = _ from e1, bq1_s]
  rw [rn_end ok (tR t) (by omega)] at y3 y4 y5
  have mY := m.of y1
  obtain ⟨rk, -, -⟩ := rn_ok ok (tR t) 128
  generalize rn t (tR t) 128 = r at *
  have hb := (rk.le ok).1
  have bd := mxN_le (d := rD r) (b := 128) (fun p => by have := (rk.2.1 p).2.2; omega)
  have g2 : gF Y 2 = nI (tN t) := mY.2.2.2.1
  have main : fX7_runTells_29 Y (nI k) 0 0 (if tN t = 0 then -1 else nI 0) = some (rfV t r k, Y) := by
    unfold fX7_runTells_29
    obtain ⟨⟨u, v, w, y⟩, e, i1, i2, i3, i4⟩ := lp_fu (f := fun q => bX7_runTells_34 Y q.1 q.2.1 q.2.2.1 q.2.2.2) (fun k s => s.1 = nI (sumN (rD r) k) ∧ s.2.1 = nI (mxN (rD r) k) ∧ s.2.2.1 = (if tN t = 0 then (-1 : Int32) else nI (fgN (rD r) (k - 1))) ∧ s.2.2.2 = nI k) (tN t) (by omega) ((0 : Int32), (0 : Int32), (if tN t = 0 then (-1 : Int32) else nI 0), (0 : Int32)) ⟨rfl, rfl, rfl, rfl⟩
      (by
        rintro k ⟨u, v, w, y⟩ hk ⟨i1, i2, i3, i4⟩
        dsimp only at i1 i2 i3 i4 ⊢
        subst i1; subst i2; subst i3; subst i4
        show ∃ s2 : Int32 × Int32 × Int32 × Int32, _ = some (true, s2) ∧ s2.1 = nI (sumN (rD r) k + rD r k) ∧ s2.2.1 = nI (if mxN (rD r) k < rD r k then rD r k else mxN (rD r) k) ∧ s2.2.2.1 = (if tN t = 0 then (-1 : Int32) else nI (fgN (rD r) k)) ∧ s2.2.2.2 = nI (k + 1)
        have ck : ∀ {α : Type} (K : Option α), chk (nI k) 16 K = K := fun K => chk_n (by omega) (by omega)
        have b1 := (rk.2.1 k).2.2
        have b2 := bd k
        unfold bX7_runTells_34 fX7_runTells_71
        rw [g2, if_neg (nI_ge hk (by omega)), ck, ck, ck, ck, ck, ck, gR_n (by omega), (y3 k hk).2.2.2, nI_add, nI_1, if_neg (show ¬ tN t = 0 by omega), if_neg (show ¬ tN t = 0 by omega), fg_pre (rD r) k]
        by_cases q : mxN (rD r) k < rD r k
        · rw [if_neg (nI_ge q (by omega)), if_neg (nI_ge q (by omega)), if_pos q, if_pos q]
          exact ⟨_, rfl, rfl, rfl, rfl, rfl⟩
        · rw [if_pos (nI_le (by omega) (by omega)), if_pos (nI_le (by omega) (by omega)), if_neg q, if_neg q]
          exact ⟨_, rfl, rfl, rfl, rfl, rfl⟩)
      (by
        rintro ⟨u, v, w, y⟩ ⟨i1, i2, i3, i4⟩
        dsimp only at i4 ⊢
        subst i4
        unfold bX7_runTells_34
        rw [g2]
        exact if_pos (Int32.le_refl _))
    dsimp only at i1 i2 i3
    rw [e, bq4_s, i1, i2, i3, show gF Y 20 = nI (rK r) from y4, show gF Y 21 = nI (rM r) from y5]
    unfold rfV ltI
    rcases (show k = 0 ∨ k = 1 ∨ k = 2 ∨ k = 3 ∨ k = 4 by omega) with rfl | rfl | rfl | rfl | rfl <;> rfl
  rw [g2]
  refine ⟨Y, ?_, y1⟩
  by_cases h0 : tN t = 0
  · rw [if_pos h0] at main
    rw [if_pos (show nI (tN t) = (0 : Int32) by rw [h0]; rfl)]
    exact main
  · rw [if_neg h0] at main
    rw [if_neg (show ¬ nI (tN t) = (0 : Int32) from nI_c (c := 0) (by omega) (by omega) h0)]
    exact main
theorem op_run (X M : St) (v1 : Int32) (h : Sim X M) : ∃ (r : Int32) (X2 M2 : St), fX6_run X v1 = some (r, X2) ∧ fX7_run M v1 = some (r, M2) ∧ Sim X2 M2 := by
  obtain ⟨a, ok, x, m⟩ := h
  have t0 := ok.1
  have hr := t0.2.2.2.1
  unfold fX6_run fX7_run fX6_run_9
  rw [show fX7_in M v1 0 4 = some (outc 5 v1) from m_rng (n := 5) (by omega), bq1_s]
  rcases outc_cases 5 (by omega) v1 with ⟨q, hc⟩ | ⟨k, hk, rfl, q⟩
  · rw [q, if_pos rfl]
    obtain ⟨X2, M2, e1, e2, s⟩ := sim_bad ok x m
    rw [e1, e2, bq2_s, bq2_s]
    rcases hc with hc | hc
    · rw [if_pos hc]; exact ⟨_, _, _, rfl, rfl, s⟩
    · have h0 : ¬ v1 < 0 := Int32.not_lt.mpr (Int32.le_trans (show (0 : Int32) ≤ nI 5 by decide) hc)
      rw [if_neg h0, if_neg (show ¬ v1 ≤ (4 : Int32) from fun z => absurd (Int32.le_trans hc z) (by decide))]; exact ⟨_, _, _, rfl, rfl, s⟩
  · rw [q, if_neg ne10, if_neg (nI_pos (by omega)), if_pos (show nI k ≤ (4 : Int32) from nI_le (b := 4) (by omega) (by omega))]
    obtain ⟨Y, e1, y1, y2⟩ := x_follow t0 x.1
    have xY := x.1.R y1
    obtain ⟨Z, e2, z1, z2, z3, z4⟩ := x_flow t0 xY y2 (show tR (aT a) < 4 by omega) (show 400 < 2 ^ 30 by omega)
    rw [rn_end t0 (tR (aT a)) (by omega)] at z2 z3 z4
    obtain ⟨rk, -, -⟩ := rn_ok t0 (tR (aT a)) 128
    obtain ⟨N, e3, n1⟩ := m_runTells t0 m.1 hk
    rw [e1, bq1_s, show gF Y 2 = nI (tR (aT a)) from xY.2.2.1, show fX4_flow Y (nI (tR (aT a))) 400 = _ from e2, bq1_s, x_runFact t0 (xY.V z1) rk z2 z3 z4 hk, bq1_s, e3, bq2_s]
    exact ⟨_, Z, N, rfl, rfl, a, ok, (x.of y1.C).of z1.C, m.of n1⟩
theorem x_ran92 {X : St} {t : Tk} (ok : TkOK t) (x : XT X 0 t) (hw : ∀ p, p < tN t → XWay X p (wyP t p)) {l L p k : Nat} (hl : l < 4) (hL : L < 2 ^ 30) (hp : p < tN t) (hk : k < 3) : ∃ Y, fX6_ran_92 X (nI p) (nI k) (nI L) (nI l) = some (nI (if k = 0 then rH (rn t l L) p else if k = 1 then rD (rn t l L) p else cor (wyP t p) (tT t p 1) (rG (rn t l L) p)), Y) ∧ XV X Y := by
  have hn := ok.2.2.2.2.1
  have hd := ok.2.1
  unfold fX6_ran_92
  obtain ⟨Z, e2, z1, z2, z3, z4⟩ := x_flow ok x hw hl hL
  obtain ⟨rk, -, -⟩ := rn_ok ok l L
  have g1 := rk.1 p hp
  have g2 := (wyP_ok ok hp).1
  have ck : ∀ {α : Type} (K : Option α), chk (nI p) 16 K = K := fun K => chk_n (by omega) (by omega)
  rw [e2, bq1_s, ck, ck, ck, gR_n (by omega), gR_n (by omega), gR_n (by omega), (z2 p hp).1, (z2 p hp).2.2.1, (z2 p hp).2.2.2, x_cornerBehind ok (x.V z1) hp (by omega) ((hw p hp).V z1), bq1_s]
  rcases (show k = 0 ∨ k = 1 ∨ k = 2 by omega) with rfl | rfl | rfl <;> exact ⟨Z, rfl, z1⟩
theorem m_ran57 {M : St} {t : Tk} (ok : TkOK t) (m : MT M t) {l L p k : Nat} (hl : l < 4) (hL : L < 2 ^ 30) (hp : p < tN t) (hk : k < 3) : ∃ Y, fX7_ran_57 M (nI p) (nI k) (nI L) (nI l) = some (nI (if k = 0 then rH (rn t l L) p else if k = 1 then rD (rn t l L) p else cor (wyP t p) (tT t p 1) (rG (rn t l L) p)), Y) ∧ MC M Y := by
  have hn := ok.2.2.2.2.1
  have hd := ok.2.1
  unfold fX7_ran_57
  obtain ⟨Y, e1, y1, y2, y3, y4, y5⟩ := m_runs ok m hl hL
  obtain ⟨rk, -, -⟩ := rn_ok ok l L
  have g1 := rk.1 p hp
  have g2 := (wyP_ok ok hp).1
  have ck : ∀ {α : Type} (K : Option α), chk (nI p) 16 K = K := fun K => chk_n (by omega) (by omega)
  rw [e1, bq1_s, ck, ck, ck, gR_n (k := 13) (by omega), gR_n (k := 14) (by omega), gR_n (k := 11) (by omega), (y3 p hp).1, (y3 p hp).2.2.1, (y3 p hp).2.2.2, show (9 : Int32) * nI p = nI (9 * p) from pk_mul 9 p, nI_add, chk_n (by omega) (by omega), gR_n (by omega), m_at (y2 p hp) g1]
  rcases (show k = 0 ∨ k = 1 ∨ k = 2 by omega) with rfl | rfl | rfl <;> exact ⟨Y, rfl, y1⟩
theorem op_ran (X M : St) (v1 v2 v3 : Int32) (h : Sim X M) : ∃ (r : Int32) (X2 M2 : St), fX6_ran X v1 v2 v3 = some (r, X2) ∧ fX7_ran M v1 v2 v3 = some (r, M2) ∧ Sim X2 M2 := by
  obtain ⟨a, ok, x, m⟩ := h
  have t0 := ok.1
  have hn16 := t0.2.2.2.2.1
  have hr := t0.2.2.2.1
  have bad : ∃ (r : Int32) (X2 M2 : St), fX6_ran_20 X = some (r, X2) ∧ fX7_ran_33 M = some (r, M2) ∧ Sim X2 M2 := by
    obtain ⟨X2, M2, e1, e2, s⟩ := sim_bad ok x m
    unfold fX6_ran_20 fX7_ran_33
    rw [e1, e2, bq2_s, bq2_s]
    exact ⟨_, _, _, rfl, rfl, s⟩
  have bad2 : ∃ (r : Int32) (X2 M2 : St), fX6_ran_43 X = some (r, X2) ∧ fX7_ran_33 M = some (r, M2) ∧ Sim X2 M2 := bad
  unfold fX6_ran fX7_ran
  rw [x_has x.1.2.2.2.1, m_isParcel t0 m.1.2.2.2.1, bq1_s, bq1_s]
  rcases outc_cases (tN (aT a)) (by omega) v1 with ⟨q, -⟩ | ⟨p, hp, rfl, q⟩
  · rw [q, if_pos rfl, if_pos rfl]; exact bad
  rw [q, if_neg ne10, if_neg ne10, show fX7_in M v2 0 2 = some (outc 3 v2) from m_rng (n := 3) (by omega), bq1_s]
  rcases outc_cases 3 (by omega) v2 with ⟨q, hc⟩ | ⟨k, hk, rfl, q⟩
  · rw [q, if_pos rfl]
    rcases hc with hc | hc
    · rw [if_pos hc]; exact bad
    · have h0 : ¬ v2 < 0 := Int32.not_lt.mpr (Int32.le_trans (show (0 : Int32) ≤ nI 3 by decide) hc)
      rw [if_neg h0, if_neg (show ¬ v2 ≤ (2 : Int32) from fun z => absurd (Int32.le_trans hc z) (by decide))]; exact bad
  rw [q, if_neg ne10, if_neg (nI_pos (by omega)), if_pos (show nI k ≤ (2 : Int32) from nI_le (b := 2) (by omega) (by omega))]
  obtain ⟨Y, e1, y1, y2⟩ := x_follow t0 x.1
  have xY := x.1.R y1
  have g2 : gF Y 2 = nI (tR (aT a)) := xY.2.2.1
  have g1 : gR M 1 1 = nI (tR (aT a)) := gR_1.trans m.1.2.2.1
  by_cases h2 : k = 2
  · subst h2
    rw [if_pos (show nI 2 = (2 : Int32) from rfl), if_pos (show nI 2 = (2 : Int32) from rfl), show fX7_in M v3 0 400 = some (outc 401 v3) from m_rng (n := 401) (by omega), bq1_s]
    rcases outc_cases 401 (by omega) v3 with ⟨q, hc⟩ | ⟨L, hL, rfl, q⟩
    · rw [q, if_pos rfl]
      rcases hc with hc | hc
      · rw [if_pos hc]; exact bad2
      · have h0 : ¬ v3 < 0 := Int32.not_lt.mpr (Int32.le_trans (show (0 : Int32) ≤ nI 401 by decide) hc)
        rw [if_neg h0, if_neg (show ¬ v3 ≤ (400 : Int32) from fun z => absurd (Int32.le_trans hc z) (by decide))]; exact bad2
    · rw [q, if_neg ne10, if_neg (nI_pos (by omega)), if_pos (show nI L ≤ (400 : Int32) from nI_le (b := 400) (by omega) (by omega))]
      unfold fX6_ran_50 fX7_ran_38
      rw [e1, bq1_s, if_pos (show nI 2 = (2 : Int32) from rfl), if_pos (show nI 2 = (2 : Int32) from rfl), g2, g1]
      obtain ⟨Z, e2, z1⟩ := x_ran92 t0 xY y2 (show tR (aT a) < 4 by omega) (show L < 2 ^ 30 by omega) hp hk
      obtain ⟨N, e3, n1⟩ := m_ran57 t0 m.1 (show tR (aT a) < 4 by omega) (show L < 2 ^ 30 by omega) hp hk
      rw [e2, e3]
      exact ⟨_, Z, N, rfl, rfl, a, ok, (x.of y1.C).of z1.C, m.of n1⟩
  · have hne : ¬ nI k = (2 : Int32) := nI_c (c := 2) (by omega) (by omega) h2
    rw [if_neg hne, if_neg hne]
    unfold fX6_ran_50 fX7_ran_38
    rw [e1, bq1_s, if_neg hne, if_neg hne, g2, g1]
    obtain ⟨Z, e2, z1⟩ := x_ran92 t0 xY y2 (show tR (aT a) < 4 by omega) (show 400 < 2 ^ 30 by omega) hp hk
    obtain ⟨N, e3, n1⟩ := m_ran57 t0 m.1 (show tR (aT a) < 4 by omega) (show 9999 < 2 ^ 30 by omega) hp hk
    rw [rn_end t0 (tR (aT a)) (show 128 ≤ 400 by omega)] at e2
    rw [rn_end t0 (tR (aT a)) (show 128 ≤ 9999 by omega)] at e3
    rw [show fX6_ran_92 Y (nI p) (nI k) 400 (nI (tR (aT a))) = _ from e2, show fX7_ran_57 M (nI p) (nI k) 9999 (nI (tR (aT a))) = _ from e3]
    exact ⟨_, Z, N, rfl, rfl, a, ok, (x.of y1.C).of z1.C, m.of n1⟩
def bT (t : Tk) (l : Nat) : Nat := rK (rn t l 128)
def bsN (t : Tk) : Nat → Nat × Nat
  | 0 => (0, 0)
  | l + 1 => if l = 0 ∨ bT t l < (bsN t l).2 then (l, bT t l) else bsN t l
theorem bsN_le {t : Tk} (ok : TkOK t) : ∀ l, (bsN t l).2 ≤ 128
  | 0 => Nat.zero_le _
  | l + 1 => by
    have := bsN_le ok l
    have := ((rn_ok ok l 128).1.le ok).1
    unfold bsN
    split
    · exact this
    · assumption
theorem op_best (X M : St) (v1 : Int32) (h : Sim X M) : ∃ (r : Int32) (X2 M2 : St), fX6_best X v1 = some (r, X2) ∧ fX7_best M v1 = some (r, M2) ∧ Sim X2 M2 := by
  obtain ⟨a, ok, x, m⟩ := h
  have t0 := ok.1
  unfold fX6_best fX7_best fX6_best_9
  rw [show fX7_in M v1 0 1 = some (outc 2 v1) from m_rng (n := 2) (by omega), bq1_s]
  rcases outc_cases 2 (by omega) v1 with ⟨q, hc⟩ | ⟨k, hk, rfl, q⟩
  · rw [q, if_pos rfl]
    obtain ⟨X2, M2, e1, e2, s⟩ := sim_bad ok x m
    rw [e1, e2, bq2_s, bq2_s]
    rcases hc with hc | hc
    · rw [if_pos hc]; exact ⟨_, _, _, rfl, rfl, s⟩
    · have h0 : ¬ v1 < 0 := Int32.not_lt.mpr (Int32.le_trans (show (0 : Int32) ≤ nI 2 by decide) hc)
      rw [if_neg h0, if_neg (show ¬ v1 ≤ (1 : Int32) from fun z => absurd (Int32.le_trans hc z) (by decide))]; exact ⟨_, _, _, rfl, rfl, s⟩
  · rw [q, if_neg ne10, if_neg (nI_pos (by omega)), if_pos (show nI k ≤ (1 : Int32) from nI_le (b := 1) (by omega) (by omega))]
    obtain ⟨Y, e1, y1, y2⟩ := x_follow t0 x.1
    have xY := x.1.R y1
    rw [e1, bq1_s]
    obtain ⟨⟨Z, z2, z3, z4⟩, e2, i1, i2, i3, i4⟩ := lp_fu (f := fun q => bX6_best_36 q.1 q.2.1 q.2.2.1 q.2.2.2) (fun l s => XV Y s.1 ∧ s.2.1 = nI (bsN (aT a) l).1 ∧ s.2.2.1 = nI (if l = 0 then 400 else (bsN (aT a) l).2) ∧ s.2.2.2 = nI l) 4 (by omega) (Y, (0 : Int32), (400 : Int32), (0 : Int32)) ⟨XV.rf Y, rfl, rfl, rfl⟩
      (by
        rintro l ⟨S, y2', y3, y4⟩ hl ⟨i1, i2, i3, i4⟩
        dsimp only at i1 i2 i3 i4 ⊢
        subst i2; subst i3; subst i4
        show ∃ s2 : St × Int32 × Int32 × Int32, _ = some (true, s2) ∧ XV Y s2.1 ∧ s2.2.1 = nI (if l = 0 ∨ bT (aT a) l < (bsN (aT a) l).2 then (l, bT (aT a) l) else bsN (aT a) l).1 ∧ s2.2.2.1 = nI (if l + 1 = 0 then 400 else (if l = 0 ∨ bT (aT a) l < (bsN (aT a) l).2 then (l, bT (aT a) l) else bsN (aT a) l).2) ∧ s2.2.2.2 = nI (l + 1)
        obtain ⟨Z, e3, z1, z2, z3, z4⟩ := x_flow t0 (xY.V i1) (fun p hp => (y2 p hp).V i1) hl (show 400 < 2 ^ 30 by omega)
        rw [rn_end t0 l (show 128 ≤ 400 by omega)] at z3
        have b1 : bT (aT a) l ≤ 128 := ((rn_ok t0 l 128).1.le t0).1
        have b2 := bsN_le t0 l
        unfold bX6_best_36
        rw [if_neg (show ¬ (4 : Int32) ≤ nI l from nI_ge (b := 4) hl (by omega)), show fX4_flow S (nI l) 400 = _ from e3, bq1_s, show gF Z 32 = nI (bT (aT a) l) from z3, nI_1, if_neg (show ¬ l + 1 = 0 by omega)]
        by_cases h0 : l = 0
        · rw [if_pos h0, if_neg (nI_ge (by omega) (by omega)), if_pos (Or.inl h0)]
          exact ⟨_, rfl, i1.tr z1, rfl, rfl, rfl⟩
        · rw [if_neg h0]
          by_cases h1 : bT (aT a) l < (bsN (aT a) l).2
          · rw [if_neg (nI_ge h1 (by omega)), if_pos (Or.inr h1)]
            exact ⟨_, rfl, i1.tr z1, rfl, rfl, rfl⟩
          · rw [if_pos (nI_le (by omega) (by omega)), if_neg (fun z => z.elim h0 h1)]
            exact ⟨_, rfl, i1.tr z1, rfl, rfl, rfl⟩)
      (by
        rintro ⟨S, y2', y3, y4⟩ ⟨i1, i2, i3, i4⟩
        dsimp only at i4 ⊢
        subst i4
        unfold bX6_best_36
        exact if_pos (Int32.le_refl _))
    obtain ⟨⟨N, n2, n3, n4⟩, e3, j1, j2, j3, j4⟩ := lp_fu (f := fun q => bX7_best_21 q.1 q.2.1 q.2.2.1 q.2.2.2) (fun l s => MC M s.1 ∧ s.2.1 = nI (bsN (aT a) l).1 ∧ s.2.2.1 = nI (bsN (aT a) l).2 ∧ s.2.2.2 = nI l) 4 (by omega) (M, (0 : Int32), (0 : Int32), (0 : Int32)) ⟨MC.rf M, rfl, rfl, rfl⟩
      (by
        rintro l ⟨S, y2', y3, y4⟩ hl ⟨i1, i2, i3, i4⟩
        dsimp only at i1 i2 i3 i4 ⊢
        subst i2; subst i3; subst i4
        show ∃ s2 : St × Int32 × Int32 × Int32, _ = some (true, s2) ∧ MC M s2.1 ∧ s2.2.1 = nI (if l = 0 ∨ bT (aT a) l < (bsN (aT a) l).2 then (l, bT (aT a) l) else bsN (aT a) l).1 ∧ s2.2.2.1 = nI (if l = 0 ∨ bT (aT a) l < (bsN (aT a) l).2 then (l, bT (aT a) l) else bsN (aT a) l).2 ∧ s2.2.2.2 = nI (l + 1)
        obtain ⟨Z, e3, z1, z2, z3, z4, z5⟩ := m_runs t0 (m.1.of i1) hl (show 9999 < 2 ^ 30 by omega)
        rw [rn_end t0 l (show 128 ≤ 9999 by omega)] at z4
        have b1 : bT (aT a) l ≤ 128 := ((rn_ok t0 l 128).1.le t0).1
        have b2 := bsN_le t0 l
        have g20 : gF Z 20 = nI (bT (aT a) l) := z4
        unfold bX7_best_21 fX7_best_49 fX7_best_55
        rw [if_neg (show ¬ (4 : Int32) ≤ nI l from nI_ge (b := 4) hl (by omega)), show fX7_runs S (nI l) 9999 = _ from e3, bq1_s, g20, nI_1]
        by_cases h0 : l = 0
        · have hz : nI l = (0 : Int32) := by rw [h0]; rfl
          rw [if_pos hz, if_pos hz, if_pos (Or.inl h0)]
          exact ⟨_, rfl, i1.tr z1, rfl, rfl, rfl⟩
        · have hz : ¬ nI l = (0 : Int32) := nI_c (c := 0) (by omega) (by omega) h0
          rw [if_neg hz, if_neg hz, if_neg hz]
          by_cases h1 : bT (aT a) l < (bsN (aT a) l).2
          · rw [if_neg (nI_ge h1 (by omega)), if_neg (nI_ge h1 (by omega)), if_pos (Or.inr h1)]
            exact ⟨_, rfl, i1.tr z1, rfl, rfl, rfl⟩
          · rw [if_pos (nI_le (by omega) (by omega)), if_pos (nI_le (by omega) (by omega)), if_neg (fun z => z.elim h0 h1)]
            exact ⟨_, rfl, i1.tr z1, rfl, rfl, rfl⟩)
      (by
        rintro ⟨S, y2', y3, y4⟩ ⟨i1, i2, i3, i4⟩
        dsimp only at i4 ⊢
        subst i4
        unfold bX7_best_21
        exact if_pos (Int32.le_refl _))
    dsimp only at i1 i2 i3 j1 j2 j3
    rw [if_neg (by omega)] at i3
    rw [e2, e3, bq4_s, bq4_s, i2, i3, j2, j3]
    have s : Sim Z N := ⟨a, ok, (x.of y1.C).of i1.C, m.of j1⟩
    by_cases h0 : k = 0
    · have hz : nI k = (0 : Int32) := by rw [h0]; rfl
      rw [if_pos hz, if_pos hz]
      exact ⟨_, Z, N, rfl, rfl, s⟩
    · have hz : ¬ nI k = (0 : Int32) := nI_c (c := 0) (by omega) (by omega) h0
      rw [if_neg hz, if_neg hz]
      exact ⟨_, Z, N, rfl, rfl, s⟩
