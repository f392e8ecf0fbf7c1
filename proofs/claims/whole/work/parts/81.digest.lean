/-! digest -/
def hs (f : Nat → Int32) : Nat → Int64 → Int64
  | 0, h => h
  | n + 1, h => (31 : Int64) * hs f n h + Int32.toInt64 (f n)
def hsP (t : Tk) : Nat → Int64 → Int64
  | 0, h => h
  | p + 1, h => hs (fun k => nI (ofV t p k)) 6 (hsP t p h)
def tdV (a : Da) (j : Nat) : Int32 := if j < 3 then aRf a j else if j = 3 then nI (aZ a) else if j = 4 then nI (tD (aT a)) else if j = 5 then nI (tN (aT a)) else if j = 6 then nI (tO (aT a)) else if j = 7 then nI (tR (aT a)) else nI (aC a)
theorem x_dg1 {a : Da} {X : St} (x : XS a X) (h : Int64) : ∃ y, lp (fun q => bX6_digest_6 q.1 q.2.1 q.2.2) fu (X, h, (0 : Int32)) = some (X, hs (tdV a) 9 h, y) := by
  obtain ⟨⟨Y, u, y⟩, e, i1, i2, i3⟩ := lp_fu (f := fun q => bX6_digest_6 q.1 q.2.1 q.2.2) (fun k s => s.1 = X ∧ s.2.1 = hs (tdV a) k h ∧ s.2.2 = nI k) 9 (by omega) (X, h, (0 : Int32)) ⟨rfl, rfl, rfl⟩
    (by
      rintro k ⟨S, u, y⟩ hk ⟨i1, i2, i3⟩
      dsimp only at i1 i2 i3 ⊢
      subst i1; subst i2; subst i3
      unfold bX6_digest_6
      rw [if_neg (show ¬ (8 : Int32) < nI k from nI_nlt (b := k) (a := 8) (by omega) (by omega)), x_told x hk, bq2_s, nI_1]
      exact ⟨_, rfl, rfl, rfl, rfl⟩)
    (by
      rintro ⟨S, u, y⟩ ⟨i1, i2, i3⟩
      dsimp only at i3 ⊢
      subst i3
      unfold bX6_digest_6
      exact if_pos (show (8 : Int32) < nI 9 by decide))
  dsimp only at i1 i2
  exact ⟨y, by rw [e, i1, i2]⟩
theorem m_dg1 {a : Da} {M : St} (m : MS a M) (h : Int64) : ∃ y, lp (fun q => bX7_digest_6 M q.1 q.2) fu (h, (0 : Int32)) = some (hs (tdV a) 9 h, y) := by
  obtain ⟨⟨u, y⟩, e, i2, i3⟩ := lp_fu (f := fun q => bX7_digest_6 M q.1 q.2) (fun k s => s.1 = hs (tdV a) k h ∧ s.2 = nI k) 9 (by omega) (h, (0 : Int32)) ⟨rfl, rfl⟩
    (by
      rintro k ⟨u, y⟩ hk ⟨i2, i3⟩
      dsimp only at i2 i3 ⊢
      subst i2; subst i3
      unfold bX7_digest_6
      rw [if_neg (show ¬ (9 : Int32) ≤ nI k from nI_ge (b := 9) hk (by omega)), m_told m hk, bq1_s, nI_1]
      exact ⟨_, rfl, rfl, rfl⟩)
    (by
      rintro ⟨u, y⟩ ⟨i2, i3⟩
      dsimp only at i3 ⊢
      subst i3
      unfold bX7_digest_6
      exact if_pos (Int32.le_refl _))
  dsimp only at i2
  exact ⟨y, by rw [e, i2]⟩
theorem x_dg2 {X : St} {t : Tk} (ok : TkOK t) (x : XT X 0 t) (hw : ∀ p, p < tN t → XWay X p (wyP t p)) (h : Int64) : ∃ y, lp (fun q => bX6_digest_37 X q.1 q.2) fu (h, (0 : Int32)) = some (hsP t (tN t) h, y) := by
  have hn := ok.2.2.2.2.1
  obtain ⟨⟨u, y⟩, e, i2, i3⟩ := lp_fu (f := fun q => bX6_digest_37 X q.1 q.2) (fun p s => s.1 = hsP t p h ∧ s.2 = nI p) (tN t) (by omega) (h, (0 : Int32)) ⟨rfl, rfl⟩
    (by
      rintro p ⟨u, y⟩ hp ⟨i2, i3⟩
      dsimp only at i2 i3 ⊢
      subst i2; subst i3
      unfold bX6_digest_37
      obtain ⟨⟨v, z⟩, e2, j2, j3⟩ := lp_fu (f := fun q => bX6_digest_51 X (nI p) q.1 q.2) (fun k s => s.1 = hs (fun k => nI (ofV t p k)) k (hsP t p h) ∧ s.2 = nI k) 6 (by omega) (hsP t p h, (0 : Int32)) ⟨rfl, rfl⟩
        (by
          rintro k ⟨u, y⟩ hk ⟨i2, i3⟩
          dsimp only at i2 i3 ⊢
          subst i2; subst i3
          unfold bX6_digest_51
          rw [if_neg (show ¬ (5 : Int32) < nI k from nI_nlt (b := k) (a := 5) (by omega) (by omega)), x_factOf ok x hw hp hk, bq1_s, nI_1]
          exact ⟨_, rfl, rfl, rfl⟩)
        (by
          rintro ⟨u, y⟩ ⟨i2, i3⟩
          dsimp only at i3 ⊢
          subst i3
          unfold bX6_digest_51
          exact if_pos (show (5 : Int32) < nI 6 by decide))
      dsimp only at j2
      rw [show gF X 3 = nI (tN t) from x.2.2.2.1, if_neg (nI_ge hp (by omega)), e2, bq2_s, j2, nI_1]
      exact ⟨_, rfl, rfl, rfl⟩)
    (by
      rintro ⟨u, y⟩ ⟨i2, i3⟩
      dsimp only at i3 ⊢
      subst i3
      unfold bX6_digest_37
      rw [show gF X 3 = nI (tN t) from x.2.2.2.1]
      exact if_pos (Int32.le_refl _))
  dsimp only at i2
  exact ⟨y, by rw [e, i2]⟩
theorem m_dg2 {M : St} {t : Tk} (ok : TkOK t) (m : MT M t) (h : Int64) : ∃ Y y, lp (fun q => bX7_digest_33 q.1 q.2.1 q.2.2) fu (M, h, (0 : Int32)) = some (Y, hsP t (tN t) h, y) ∧ MC M Y := by
  have hn := ok.2.2.2.2.1
  obtain ⟨⟨Y, u, y⟩, e, i1, i2, i3⟩ := lp_fu (f := fun q => bX7_digest_33 q.1 q.2.1 q.2.2) (fun p s => MC M s.1 ∧ s.2.1 = hsP t p h ∧ s.2.2 = nI p) (tN t) (by omega) (M, h, (0 : Int32)) ⟨MC.rf M, rfl, rfl⟩
    (by
      rintro p ⟨S, u, y⟩ hp ⟨i1, i2, i3⟩
      dsimp only at i1 i2 i3 ⊢
      subst i2; subst i3
      unfold bX7_digest_33
      obtain ⟨⟨V, v, z⟩, e2, j1, j2, j3⟩ := lp_fu (f := fun q => bX7_digest_44 (nI p) q.1 q.2.1 q.2.2) (fun k s => MC M s.1 ∧ s.2.1 = hs (fun k => nI (ofV t p k)) k (hsP t p h) ∧ s.2.2 = nI k) 6 (by omega) (S, hsP t p h, (0 : Int32)) ⟨i1, rfl, rfl⟩
        (by
          rintro k ⟨S, u, y⟩ hk ⟨i1, i2, i3⟩
          dsimp only at i1 i2 i3 ⊢
          subst i2; subst i3
          obtain ⟨N, e3, n1⟩ := m_ofBy ok (m.of i1) hp hk
          unfold bX7_digest_44
          rw [if_neg (show ¬ (6 : Int32) ≤ nI k from nI_ge (b := 6) hk (by omega)), e3, bq2_s, nI_1]
          exact ⟨_, rfl, i1.tr n1.C, rfl, rfl⟩)
        (by
          rintro ⟨S, u, y⟩ ⟨i1, i2, i3⟩
          dsimp only at i3 ⊢
          subst i3
          unfold bX7_digest_44
          exact if_pos (Int32.le_refl _))
      dsimp only at j1 j2
      rw [show gF S 2 = nI (tN t) from (m.of i1).2.2.2.1, if_neg (nI_ge hp (by omega)), e2, bq3_s, j2, nI_1]
      exact ⟨_, rfl, j1, rfl, rfl⟩)
    (by
      rintro ⟨S, u, y⟩ ⟨i1, i2, i3⟩
      dsimp only at i1 i3 ⊢
      subst i3
      unfold bX7_digest_33
      rw [show gF S 2 = nI (tN t) from (m.of i1).2.2.2.1]
      exact if_pos (Int32.le_refl _))
  dsimp only at i1 i2
  exact ⟨Y, y, by rw [e, i2], i1⟩
theorem x_dg3 {X : St} {t : Tk} (ok : TkOK t) (x : XT X 0 t) (xl : XL X (ldW t)) (h : Int64) : ∃ y, lp (fun q => bX6_digest_110 X q.1 q.2) fu (h, (0 : Int32)) = some (hs (ldV (tD t) (ldW t)) 3 h, y) := by
  obtain ⟨⟨u, y⟩, e, i2, i3⟩ := lp_fu (f := fun q => bX6_digest_110 X q.1 q.2) (fun k s => s.1 = hs (ldV (tD t) (ldW t)) k h ∧ s.2 = nI k) 3 (by omega) (h, (0 : Int32)) ⟨rfl, rfl⟩
    (by
      rintro k ⟨u, y⟩ hk ⟨i2, i3⟩
      dsimp only at i2 i3 ⊢
      subst i2; subst i3
      unfold bX6_digest_110
      rw [if_neg (show ¬ (2 : Int32) < nI k from nI_nlt (b := k) (a := 2) (by omega) (by omega)), x_loadsFact ok x.1 (ldW_ok ok) xl (by omega), bq1_s, nI_1]
      exact ⟨_, rfl, rfl, rfl⟩)
    (by
      rintro ⟨u, y⟩ ⟨i2, i3⟩
      dsimp only at i3 ⊢
      subst i3
      unfold bX6_digest_110
      exact if_pos (show (2 : Int32) < nI 3 by decide))
  dsimp only at i2
  exact ⟨y, by rw [e, i2]⟩
theorem m_dg3 {M : St} {t : Tk} (ok : TkOK t) (m : MT M t) (h : Int64) : ∃ Y y, lp (fun q => bX7_digest_104 q.1 q.2.1 q.2.2) fu (M, h, (0 : Int32)) = some (Y, hs (ldV (tD t) (ldW t)) 3 h, y) ∧ MC M Y := by
  obtain ⟨⟨Y, u, y⟩, e, i1, i2, i3⟩ := lp_fu (f := fun q => bX7_digest_104 q.1 q.2.1 q.2.2) (fun k s => MC M s.1 ∧ s.2.1 = hs (ldV (tD t) (ldW t)) k h ∧ s.2.2 = nI k) 3 (by omega) (M, h, (0 : Int32)) ⟨MC.rf M, rfl, rfl⟩
    (by
      rintro k ⟨S, u, y⟩ hk ⟨i1, i2, i3⟩
      dsimp only at i1 i2 i3 ⊢
      subst i2; subst i3
      obtain ⟨N, e3, n1⟩ := m_loadsTell ok (m.of i1) (show k < 4 by omega)
      unfold bX7_digest_104
      rw [if_neg (show ¬ (3 : Int32) ≤ nI k from nI_ge (b := 3) hk (by omega)), e3, bq2_s, nI_1]
      exact ⟨_, rfl, i1.tr n1.C, rfl, rfl⟩)
    (by
      rintro ⟨S, u, y⟩ ⟨i1, i2, i3⟩
      dsimp only at i3 ⊢
      subst i3
      unfold bX7_digest_104
      exact if_pos (Int32.le_refl _))
  dsimp only at i1 i2
  exact ⟨Y, y, by rw [e, i2], i1⟩
theorem x_dg4 {X : St} {t : Tk} (ok : TkOK t) (x : XT X 0 t) {r : Rq} (rk : RnOK t r) (xn : XN X t r) (h32 : X.1 32 = nI (rK r)) (h33 : X.1 33 = nI (rM r)) (h : Int64) : ∃ y, lp (fun q => bX6_digest_161 X q.1 q.2) fu (h, (0 : Int32)) = some (hs (rfV t r) 3 h, y) := by
  obtain ⟨⟨u, y⟩, e, i2, i3⟩ := lp_fu (f := fun q => bX6_digest_161 X q.1 q.2) (fun k s => s.1 = hs (rfV t r) k h ∧ s.2 = nI k) 3 (by omega) (h, (0 : Int32)) ⟨rfl, rfl⟩
    (by
      rintro k ⟨u, y⟩ hk ⟨i2, i3⟩
      dsimp only at i2 i3 ⊢
      subst i2; subst i3
      unfold bX6_digest_161
      rw [if_neg (show ¬ (2 : Int32) < nI k from nI_nlt (b := k) (a := 2) (by omega) (by omega)), x_runFact ok x rk xn h32 h33 (by omega), bq1_s, nI_1]
      exact ⟨_, rfl, rfl, rfl⟩)
    (by
      rintro ⟨u, y⟩ ⟨i2, i3⟩
      dsimp only at i3 ⊢
      subst i3
      unfold bX6_digest_161
      exact if_pos (show (2 : Int32) < nI 3 by decide))
  dsimp only at i2
  exact ⟨y, by rw [e, i2]⟩
theorem m_dg4 {M : St} {t : Tk} (ok : TkOK t) (m : MT M t) {r : Rq} (hr : rn t (tR t) 128 = r) (h : Int64) : ∃ Y y, lp (fun q => bX7_digest_130 q.1 q.2.1 q.2.2) fu (M, h, (0 : Int32)) = some (Y, hs (rfV t r) 3 h, y) ∧ MC M Y := by
  obtain ⟨⟨Y, u, y⟩, e, i1, i2, i3⟩ := lp_fu (f := fun q => bX7_digest_130 q.1 q.2.1 q.2.2) (fun k s => MC M s.1 ∧ s.2.1 = hs (rfV t r) k h ∧ s.2.2 = nI k) 3 (by omega) (M, h, (0 : Int32)) ⟨MC.rf M, rfl, rfl⟩
    (by
      rintro k ⟨S, u, y⟩ hk ⟨i1, i2, i3⟩
      dsimp only at i1 i2 i3 ⊢
      subst i2; subst i3
      obtain ⟨N, e3, n1⟩ := m_runTells ok (m.of i1) (show k < 5 by omega)
      rw [hr] at e3
      unfold bX7_digest_130
      rw [if_neg (show ¬ (3 : Int32) ≤ nI k from nI_ge (b := 3) hk (by omega)), e3, bq2_s, nI_1]
      exact ⟨_, rfl, i1.tr n1, rfl, rfl⟩)
    (by
      rintro ⟨S, u, y⟩ ⟨i1, i2, i3⟩
      dsimp only at i3 ⊢
      subst i3
      unfold bX7_digest_130
      exact if_pos (Int32.le_refl _))
  dsimp only at i1 i2
  exact ⟨Y, y, by rw [e, i2], i1⟩
theorem op_digest (X M : St) (h : Sim X M) : ∃ (r : Int64) (X2 M2 : St), fX6_digest X = some (r, X2) ∧ fX7_digest M = some (r, M2) ∧ Sim X2 M2 := by
  obtain ⟨a, ok, x, m⟩ := h
  have t0 := ok.1
  have hr := t0.2.2.2.1
  unfold fX6_digest fX7_digest
  obtain ⟨u1, e1⟩ := x_dg1 x 2141
  obtain ⟨u2, e2⟩ := m_dg1 m 2141
  rw [e1, e2, bq3_s, bq2_s]
  obtain ⟨Y, e3, y1, y2, y3⟩ := x_tallyWays t0 x.1
  have xY := x.of y1.C
  obtain ⟨u3, e4⟩ := x_dg2 t0 xY.1 y2 (hs (tdV a) 9 2141)
  obtain ⟨N, u4, e5, n1⟩ := m_dg2 t0 m.1 (hs (tdV a) 9 2141)
  have mN := m.of n1
  rw [e3, bq1_s, e4, e5, bq2_s, bq3_s, show gF Y 28 = aAb a from xY.2.2.2.1, show gF Y 29 = aBe a from xY.2.2.2.2.1, show gF N 14 = aAb a from mN.2.2.2.1, show gF N 15 = aBe a from mN.2.2.2.2.1]
  generalize (31 : Int64) * ((31 : Int64) * hsP (aT a) (tN (aT a)) (hs (tdV a) 9 2141) + Int32.toInt64 (aAb a)) + Int32.toInt64 (aBe a) = H
  obtain ⟨u5, e6⟩ := x_dg3 t0 xY.1 y3 H
  obtain ⟨K, u6, e7, k1⟩ := m_dg3 t0 mN.1 H
  have mK := mN.of k1
  obtain ⟨Z, e8, z1, z2, z3, z4⟩ := x_flow t0 xY.1 y2 (show tR (aT a) < 4 by omega) (show 400 < 2 ^ 30 by omega)
  rw [rn_end t0 (tR (aT a)) (by omega)] at z2 z3 z4
  obtain ⟨rk, -, -⟩ := rn_ok t0 (tR (aT a)) 128
  obtain ⟨r, hrr⟩ : ∃ r, rn (aT a) (tR (aT a)) 128 = r := ⟨_, rfl⟩
  rw [hrr] at z2 z3 z4 rk
  obtain ⟨u7, e9⟩ := x_dg4 t0 (xY.1.V z1) rk z2 z3 z4 (hs (ldV (tD (aT a)) (ldW (aT a))) 3 H)
  obtain ⟨J, u8, e10, j1⟩ := m_dg4 t0 mK.1 hrr (hs (ldV (tD (aT a)) (ldW (aT a))) 3 H)
  rw [e6, e7, bq2_s, bq3_s, show gF Y 2 = nI (tR (aT a)) from xY.1.2.2.1, show fX4_flow Y (nI (tR (aT a))) 400 = _ from e8, bq1_s, e9, e10, bq2_s, bq3_s]
  exact ⟨_, Z, J, rfl, rfl, a, ok, xY.of z1.C, mK.of j1⟩
