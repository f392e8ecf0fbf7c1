/-! fills -/
def nx (k : Nat) : Nat := (k * 1103515245 + 12345) % 2147483648
theorem nx_lt (k : Nat) : nx k < 2147483648 := Nat.mod_lt _ (by omega)
theorem lcg {k : Nat} (hk : k < 2147483648) : ((lN k * (1103515245 : Int64)) + (12345 : Int64)) - ((lN k * (1103515245 : Int64)) + (12345 : Int64)) / (2147483648 : Int64) * (2147483648 : Int64) = lN (nx k) := by
  have e1 : lN k * (1103515245 : Int64) = lN (k * 1103515245) := lN_mul k 1103515245
  have e2 : lN (k * 1103515245) + (12345 : Int64) = lN (k * 1103515245 + 12345) := lN_add _ 12345
  rw [e1, e2]
  exact pk_lRem (b := 2147483648) (by omega) (by omega) (by omega)
theorem drw {k q n : Nat} (hk : k < 2147483648) (hq : 0 < q) (hq2 : q < 2 ^ 31) (hn : 0 < n) (hn2 : n < 2 ^ 31) : (lN k / lN q) - (lN k / lN q) / lN n * lN n = lN (k / q % n) := by
  have : k / q ≤ k := Nat.div_le_self _ _
  rw [pk_lDiv (by omega) hq (by omega)]
  exact pk_lRem (by omega) hn (by omega)
def rX : Nat → Nat → Nat
  | 0, _ => 0
  | s + 1, c => 2 * rX s c + c / 2 ^ s % 2
theorem rX_lt : ∀ s c, rX s c < 2 ^ s
  | 0, c => by show 0 < 1; omega
  | s + 1, c => by
    have := rX_lt s c
    have h2 : c / 2 ^ s % 2 < 2 := Nat.mod_lt _ (by omega)
    show 2 * rX s c + c / 2 ^ s % 2 < 2 ^ (s + 1)
    rw [Nat.pow_succ]
    omega
theorem bitx : ∀ s, s < 4 → ∀ c, c < 16 → (nI c >>> (nI s &&& (31 : Int32))) - (nI c >>> (nI s &&& (31 : Int32))) / (2 : Int32) * (2 : Int32) = nI (c / 2 ^ s % 2) := by decide +kernel
theorem bitm : ∀ d, d < 5 → ∀ s, s < d → ∀ r, r < 2 ^ s → ∀ c, c < 16 → (nI (r * 2 ^ (d - s)) ||| (((nI c >>> (nI s &&& (31 : Int32))) &&& (1 : Int32)) <<< (((nI d - (1 : Int32)) - nI s) &&& (31 : Int32)))) = nI ((2 * r + c / 2 ^ s % 2) * 2 ^ (d - (s + 1))) := by decide +kernel
theorem x_turn {X : St} {d c : Nat} (hd : d < 5) (hc : c < 16) (h : X.1 0 = nI d) : ∃ y, lp (fun q => bX3_partner_39 X (nI c) q.1 q.2) fu ((0 : Int32), (0 : Int32)) = some (nI (rX d c), y) := by
  obtain ⟨⟨u, y⟩, e, i1, i2⟩ := lp_fu (f := fun q => bX3_partner_39 X (nI c) q.1 q.2) (fun s q => q.1 = nI (rX s c) ∧ q.2 = nI s) d (by omega) ((0 : Int32), (0 : Int32)) ⟨rfl, rfl⟩
    (by
      rintro s ⟨u, y⟩ hs ⟨i1, i2⟩
      dsimp only at i1 i2 ⊢
      subst i1; subst i2
      unfold bX3_partner_39
      rw [gF_e, h, if_neg (nI_ge hs (by omega)), bitx s (by omega) c hc, show (2 : Int32) * nI (rX s c) = nI (2 * rX s c) from pk_mul 2 _, nI_add, nI_1]
      exact ⟨_, rfl, rfl, rfl⟩)
    (by
      rintro ⟨u, y⟩ ⟨i1, i2⟩
      dsimp only at i2 ⊢
      subst i2
      unfold bX3_partner_39
      rw [gF_e, h]
      exact if_pos (Int32.le_refl _))
  dsimp only at i1
  exact ⟨y, by rw [e, i1]⟩
theorem m_turn {M : St} {d c : Nat} (hd : d < 5) (hc : c < 16) (h : M.1 1 = nI d) : fX7_turned M (nI c) = some (nI (rX d c)) := by
  unfold fX7_turned
  obtain ⟨⟨u, y⟩, e, i1, i2⟩ := lp_fu (f := fun q => bX7_turned_4 M (nI c) q.1 q.2) (fun s q => q.1 = nI (rX s c * 2 ^ (d - s)) ∧ q.2 = nI s) d (by omega) ((0 : Int32), (0 : Int32)) ⟨by show (0 : Int32) = nI (0 * 2 ^ (d - 0)); rw [Nat.zero_mul]; rfl, rfl⟩
    (by
      rintro s ⟨u, y⟩ hs ⟨i1, i2⟩
      dsimp only at i1 i2 ⊢
      subst i1; subst i2
      unfold bX7_turned_4
      rw [gF_e, h, if_neg (nI_ge hs (by omega)), bitm d hd s hs _ (rX_lt s c) c hc, nI_1]
      exact ⟨_, rfl, rfl, rfl⟩)
    (by
      rintro ⟨u, y⟩ ⟨i1, i2⟩
      dsimp only at i2 ⊢
      subst i2
      unfold bX7_turned_4
      rw [gF_e, h]
      exact if_pos (Int32.le_refl _))
  dsimp only at i1
  rw [e, bq2_s, i1, Nat.sub_self, Nat.pow_zero, Nat.mul_one]
def tov (how d c k : Nat) : Nat := if how = 0 then 2 ^ d - 1 - c else if how = 1 then rX d c else if how = 2 then (c + 1) % 2 ^ d else k / 32768 % 2 ^ d
theorem tov_3 (d c k : Nat) : tov 3 d c k = k / 32768 % 2 ^ d := by
  unfold tov
  rw [if_neg (show ¬ (3 : Nat) = 0 by decide), if_neg (show ¬ (3 : Nat) = 1 by decide), if_neg (show ¬ (3 : Nat) = 2 by decide)]
theorem tov_lt {how d c k : Nat} : tov how d c k < 2 ^ d := by
  have h0 : 0 < 2 ^ d := Nat.two_pow_pos d
  unfold tov
  split
  · omega
  split
  · exact rX_lt d c
  split
  · exact Nat.mod_lt _ h0
  · exact Nat.mod_lt _ h0
def fl (t : Tk) (how seed : Nat) : Nat → Tk × Nat
  | 0 => ((tD t, tO t, tR t, 0, tT t), seed)
  | c + 1 => (tAdd (fl t how seed c).1 c (tov how (tD t) c (nx (fl t how seed c).2)) (nx (fl t how seed c).2 / 65536 % 2 ^ tD t) (nx (fl t how seed c).2 / 1024 % 100), nx (fl t how seed c).2)
theorem fl_ok {t : Tk} (ok : TkOK t) {how seed : Nat} (hs : seed < 2147483648) : ∀ c, c ≤ 2 ^ tD t → TkOK (fl t how seed c).1 ∧ tD (fl t how seed c).1 = tD t ∧ tN (fl t how seed c).1 = c ∧ (fl t how seed c).2 < 2147483648
  | 0, _ => ⟨⟨ok.1, ok.2.1, ok.2.2.1, ok.2.2.2.1, by show 0 ≤ 16; omega, ok.2.2.2.2.2.1, fun p k hp => absurd hp (Nat.not_lt_zero _)⟩, rfl, rfl, hs⟩
  | c + 1, h => by
    obtain ⟨h1, h2, h3, h4⟩ := fl_ok ok (how := how) hs c (by omega)
    have hp : 0 < 2 ^ tD t := Nat.two_pow_pos _
    have := two_le ok.2.1
    refine ⟨h1.add (by rw [h3]; omega) (by rw [h2]; omega) (by rw [h2]; exact tov_lt) (by rw [h2]; exact Nat.mod_lt _ hp) (Nat.mod_lt _ (by omega)), h2, ?_, nx_lt _⟩
    show tN (fl t how seed c).1 + 1 = c + 1
    rw [h3]
theorem x_fill1 {a : Da} {X : St} (ok : DaOK a) (x : XS a X) {d : Nat} (hd : tD (aT a) = d) {c k z : Nat} (hc : tN (aT a) = c) (hc2 : c < 2 ^ d) (hk : k < 2147483648) : ∃ X2, fX6_fills_110 X (nI (2 ^ d)) (lN k) (nI c) (nI z) = some (true, X2, lN k, nI (c + 1)) ∧ XS (aTk a (tAdd (aT a) c z (k / 65536 % 2 ^ d) (k / 1024 % 100))) X2 := by
  have h16 := two_le ok.1.2.1
  rw [hd] at h16
  have hp : 0 < 2 ^ d := Nat.two_pow_pos _
  unfold fX6_fills_110
  have en : Int32.toInt64 (nI (2 ^ d)) = lN (2 ^ d) := nI_l (by omega)
  have e0 : ¬ lN (2 ^ d) = 0 := fun q => by have := (pk_lEQ (b := 0) (by omega) (by omega)).mp q; omega
  rw [en, nzl, if_neg e0, show (65536 : Int64) = lN 65536 from rfl, show (1024 : Int64) = lN 1024 from rfl, show (100 : Int64) = lN 100 from rfl, drw hk (by omega) (by omega) hp (by omega), drw hk (by omega) (by omega) (by omega) (by omega), lN_i, lN_i]
  obtain ⟨X2, e, x2, -⟩ := x_add ok x (by omega) c z (k / 65536 % 2 ^ d) (k / 1024 % 100)
  rw [e, bq1_s, nI_1]
  exact ⟨X2, rfl, x2⟩
theorem m_fill1 {a : Da} {M : St} (ok : DaOK a) (m : MS a M) {d : Nat} (hd : tD (aT a) = d) {c k z : Nat} (hc : tN (aT a) = c) (hc2 : c < 2 ^ d) (hk : k < 2147483648) : ∃ M2, fX7_fills_118 M (nI (2 ^ d)) (lN k) (nI c) (nI z) = some (true, M2, lN k, nI (c + 1)) ∧ MS (aTk a (tAdd (aT a) c z (k / 65536 % 2 ^ d) (k / 1024 % 100))) M2 := by
  have h16 := two_le ok.1.2.1
  rw [hd] at h16
  have hp : 0 < 2 ^ d := Nat.two_pow_pos _
  unfold fX7_fills_118
  have en : Int32.toInt64 (nI (2 ^ d)) = lN (2 ^ d) := nI_l (by omega)
  have e0 : ¬ lN (2 ^ d) = 0 := fun q => by have := (pk_lEQ (b := 0) (by omega) (by omega)).mp q; omega
  rw [en, nzl, if_neg e0, show (65536 : Int64) = lN 65536 from rfl, show (1024 : Int64) = lN 1024 from rfl, show (100 : Int64) = lN 100 from rfl, drw hk (by omega) (by omega) hp (by omega), drw hk (by omega) (by omega) (by omega) (by omega), lN_i, lN_i]
  obtain ⟨M2, e, m2, -⟩ := m_comes m (by omega) c z (k / 65536 % 2 ^ d) (k / 1024 % 100)
  rw [e, bq1_s, nI_1]
  exact ⟨M2, rfl, m2⟩
theorem suc_mod {c n : Nat} (h : c < n) : (c + 1) % n = if c = n - 1 then 0 else c + 1 := by
  split
  · rename_i e; rw [show c + 1 = n by omega]; exact Nat.mod_self n
  · exact Nat.mod_eq_of_lt (by omega)
theorem x_partner {X : St} {d c how : Nat} (hd1 : 1 ≤ d) (hd : d ≤ 4) (hc : c < 2 ^ d) (hh : how < 3) (h : X.1 0 = nI d) (k : Nat) : fX3_partner X (nI c) (nI how) = some (nI (tov how d c k)) := by
  have h16 := two_le hd
  unfold fX3_partner fX3_corners
  rw [gF_e, h, crn d (by omega), bq1_s, show nI (2 ^ d) - (1 : Int32) = nI (2 ^ d - 1) from pk_sub (b := 1) (by omega)]
  unfold tov
  rcases (show how = 0 ∨ how = 1 ∨ how = 2 by omega) with rfl | rfl | rfl
  · rw [if_pos (show nI 0 = (0 : Int32) from rfl), if_pos rfl, pk_sub (by omega)]
  · rw [if_neg (show ¬ nI 1 = (0 : Int32) by decide), if_neg (show ¬ nI 1 = (2 : Int32) by decide), if_neg (show ¬ (1 : Nat) = 0 by decide), if_pos (show (1 : Nat) = 1 from rfl)]
    obtain ⟨y, e⟩ := x_turn (X := X) (d := d) (c := c) (by omega) (by omega) h
    rw [e, bq2_s]
  · rw [if_neg (show ¬ nI 2 = (0 : Int32) by decide), if_pos (show nI 2 = (2 : Int32) from rfl), if_neg (show ¬ (2 : Nat) = 0 by decide), if_neg (show ¬ (2 : Nat) = 1 by decide), if_pos (show (2 : Nat) = 2 from rfl), suc_mod hc]
    by_cases e : c = 2 ^ d - 1
    · rw [if_pos e, if_pos (congrArg nI e)]; rfl
    · rw [if_neg e, if_neg (nI_c (by omega) (by omega) e), nI_1]
theorem e999 : (999999 : Int32) = nI 1000000 - 1 := by decide +kernel
theorem l999 : (0 : Int32) ≤ nI 1000000 := by decide +kernel
theorem n999 : ¬ nI 1000000 ≤ (999999 : Int32) := by decide +kernel
theorem op_fills (X M : St) (v1 v2 : Int32) (h : Sim X M) : ∃ (r : Int32) (X2 M2 : St), fX6_fills X v1 v2 = some (r, X2) ∧ fX7_fills M v1 v2 = some (r, M2) ∧ Sim X2 M2 := by
  obtain ⟨a, ok, x, m⟩ := h
  have t0 := ok.1
  have bad : ∃ (r : Int32) (X2 M2 : St), fX6_fills_19 X = some (r, X2) ∧ fX7_fills_19 M = some (r, M2) ∧ Sim X2 M2 := by
    obtain ⟨X2, M2, e1, e2, s⟩ := sim_bad ok x m
    unfold fX6_fills_19 fX7_fills_19
    rw [e1, e2, bq2_s, bq2_s]
    exact ⟨_, _, _, rfl, rfl, s⟩
  unfold fX6_fills fX7_fills
  rw [show fX7_in M v1 0 3 = some (outc 4 v1) from m_rng (n := 4) (by omega), bq1_s, show fX7_in M v2 0 999999 = some (outc 1000000 v2) from by rw [e999]; exact m_rng (n := 1000000) (by omega), bq1_s]
  rcases outc_cases 4 (by omega) v1 with ⟨q, hc⟩ | ⟨how, hh, rfl, q⟩
  · rw [q, if_pos rfl]
    rcases hc with hc | hc
    · rw [if_pos hc]; exact bad
    · have h0 : ¬ v1 < 0 := Int32.not_lt.mpr (Int32.le_trans (show (0 : Int32) ≤ nI 4 by decide) hc)
      rw [if_neg h0, if_pos (show (3 : Int32) < v1 from Int32.lt_of_lt_of_le (show (3 : Int32) < nI 4 by decide) hc)]; exact bad
  rw [q, if_neg ne10, if_neg (nI_pos (by omega)), if_neg (show ¬ (3 : Int32) < nI how from nI_nlt (a := 3) (by omega) (by omega))]
  rcases outc_cases 1000000 (by omega) v2 with ⟨q, hc⟩ | ⟨seed, hs, rfl, q⟩
  · rw [q, if_pos rfl]
    rcases hc with hc | hc
    · rw [if_pos hc]; exact bad
    · have h0 : ¬ v2 < 0 := Int32.not_lt.mpr (Int32.le_trans l999 hc)
      rw [if_neg h0, if_neg (show ¬ v2 ≤ (999999 : Int32) from fun z => n999 (Int32.le_trans hc z))]; exact bad
  rw [q, if_neg ne10, if_neg (nI_pos (by omega)), if_pos (show nI seed ≤ (999999 : Int32) from nI_le (b := 999999) (by omega) (by omega))]
  obtain ⟨X2, M2, e1, e2, ok2, x2, m2⟩ := sim_keep ok x m
  rw [e1, e2, bq1_s, bq1_s]
  generalize hb : aKeep a = b at *
  have tb := ok2.1
  have hd1 := tb.1
  have hd := tb.2.1
  have h16 := two_le hd
  have hp : 0 < 2 ^ tD (aT b) := Nat.two_pow_pos _
  have x3 : XS (aTk b (tD (aT b), tO (aT b), tR (aT b), 0, tT (aT b))) (pF X2 3 0) := x2.tk (fun k hk _ => pF_n _ _ (by omega)) (fun _ _ _ => rfl) ⟨(pF_n _ _ (by omega)).trans x2.1.1, (pF_n _ _ (by omega)).trans x2.1.2.1, (pF_n _ _ (by omega)).trans x2.1.2.2.1, pF_s _ _ _, x2.1.2.2.2.2⟩
  have m3 : MS (aTk b (tD (aT b), tO (aT b), tR (aT b), 0, tT (aT b))) (pF M2 2 0) := m2.tk (fun k hk => pF_n _ _ (by omega)) (fun _ _ => rfl) ⟨(pF_n _ _ (by omega)).trans m2.1.1, m2.1.2.1, m2.1.2.2.1, pF_s _ _ _, m2.1.2.2.2.2⟩
  rw [x_corners (X := pF X2 3 0) tb x3.1.1, m_corners tb m2.1.1, bq1_s, bq1_s, nI_l (show seed < 2 ^ 31 by omega)]
  have flk := fun c hc => fl_ok tb (how := how) (show seed < 2147483648 by omega) c hc
  obtain ⟨⟨X4, u4, y4⟩, e4, i4, -, -⟩ := lp_fu (f := fun q => bX6_fills_60 (nI how) (nI (2 ^ tD (aT b))) q.1 q.2.1 q.2.2) (fun c s => XS (aTk b (fl (aT b) how seed c).1) s.1 ∧ s.2.1 = lN (fl (aT b) how seed c).2 ∧ s.2.2 = nI c) (2 ^ tD (aT b)) (by omega) (pF X2 3 0, lN seed, (0 : Int32)) ⟨x3, rfl, rfl⟩
    (by
      rintro c ⟨S, u, y⟩ hc ⟨i1, i2, i3⟩
      dsimp only at i1 i2 i3 ⊢
      subst i2; subst i3
      obtain ⟨f1, f2, f3, f4⟩ := flk c (by omega)
      obtain ⟨S2, g1, g2⟩ := x_fill1 (a := aTk b (fl (aT b) how seed c).1) (ok2.tk f1) i1 (d := tD (aT b)) f2 (c := c) (k := nx (fl (aT b) how seed c).2) (z := tov how (tD (aT b)) c (nx (fl (aT b) how seed c).2)) f3 hc (nx_lt _)
      refine ⟨(S2, lN (nx (fl (aT b) how seed c).2), nI (c + 1)), ?_, g2, rfl, rfl⟩
      unfold bX6_fills_60
      rw [if_neg (nI_ge hc (by omega)), lcg f4]
      by_cases h3 : how = 3
      · have en : Int32.toInt64 (nI (2 ^ tD (aT b))) = lN (2 ^ tD (aT b)) := nI_l (by omega)
        have e0 : ¬ lN (2 ^ tD (aT b)) = 0 := fun q => by have := (pk_lEQ (b := 0) (by omega) (by omega)).mp q; omega
        rw [h3, if_pos (show nI 3 = (3 : Int32) from rfl), en, nzl, if_neg e0, show (32768 : Int64) = lN 32768 from rfl, drw (nx_lt _) (by omega) (by omega) hp (by omega), lN_i]
        rw [h3, tov_3] at g1
        exact g1
      · rw [if_neg (show ¬ nI how = (3 : Int32) from nI_c (c := 3) (by omega) (by omega) h3), x_partner hd1 hd hc (by omega) (i1.1.1.trans (congrArg nI f2)) (nx (fl (aT b) how seed c).2), bq1_s]
        exact g1)
    (by
      rintro ⟨S, u, y⟩ ⟨i1, i2, i3⟩
      dsimp only at i3 ⊢
      subst i3
      unfold bX6_fills_60
      exact if_pos (Int32.le_refl _))
  obtain ⟨⟨M4, v4, z4⟩, e5, j4, -, -⟩ := lp_fu (f := fun q => bX7_fills_45 (nI how) (nI (2 ^ tD (aT b))) q.1 q.2.1 q.2.2) (fun c s => MS (aTk b (fl (aT b) how seed c).1) s.1 ∧ s.2.1 = lN (fl (aT b) how seed c).2 ∧ s.2.2 = nI c) (2 ^ tD (aT b)) (by omega) (pF M2 2 0, lN seed, (0 : Int32)) ⟨m3, rfl, rfl⟩
    (by
      rintro c ⟨S, u, y⟩ hc ⟨i1, i2, i3⟩
      dsimp only at i1 i2 i3 ⊢
      subst i2; subst i3
      obtain ⟨f1, f2, f3, f4⟩ := flk c (by omega)
      obtain ⟨S2, g1, g2⟩ := m_fill1 (a := aTk b (fl (aT b) how seed c).1) (ok2.tk f1) i1 (d := tD (aT b)) f2 (c := c) (k := nx (fl (aT b) how seed c).2) (z := tov how (tD (aT b)) c (nx (fl (aT b) how seed c).2)) f3 hc (nx_lt _)
      refine ⟨(S2, lN (nx (fl (aT b) how seed c).2), nI (c + 1)), ?_, g2, rfl, rfl⟩
      unfold bX7_fills_45
      rw [if_neg (nI_ge hc (by omega)), lcg f4]
      unfold tov at g1
      rcases (show how = 0 ∨ how = 1 ∨ how = 2 ∨ how = 3 by omega) with rfl | rfl | rfl | rfl
      · rw [if_pos (show nI 0 = (0 : Int32) from rfl), show nI (2 ^ tD (aT b)) - (1 : Int32) = nI (2 ^ tD (aT b) - 1) from pk_sub (b := 1) (by omega), pk_sub (by omega)]
        rw [if_pos rfl] at g1
        exact g1
      · rw [if_neg (show ¬ nI 1 = (0 : Int32) by decide), if_pos (show nI 1 = (1 : Int32) from rfl), m_turn (d := tD (aT b)) (by omega) (by omega) (i1.1.1.trans (congrArg nI f2)), bq1_s]
        rw [if_neg (by omega), if_pos rfl] at g1
        exact g1
      · rw [if_neg (show ¬ nI 2 = (0 : Int32) by decide), if_neg (show ¬ nI 2 = (1 : Int32) by decide), if_pos (show nI 2 = (2 : Int32) from rfl), nz_n hp (by omega), nI_1, pk_rem (by omega) hp (by omega)]
        rw [if_neg (by omega), if_neg (by omega), if_pos rfl] at g1
        exact g1
      · have en : Int32.toInt64 (nI (2 ^ tD (aT b))) = lN (2 ^ tD (aT b)) := nI_l (by omega)
        have e0 : ¬ lN (2 ^ tD (aT b)) = 0 := fun q => by have := (pk_lEQ (b := 0) (by omega) (by omega)).mp q; omega
        rw [if_neg (show ¬ nI 3 = (0 : Int32) by decide), if_neg (show ¬ nI 3 = (1 : Int32) by decide), if_neg (show ¬ nI 3 = (2 : Int32) by decide), en, nzl, if_neg e0, show (32768 : Int64) = lN 32768 from rfl, drw (nx_lt _) (by omega) (by omega) hp (by omega), lN_i]
        rw [if_neg (by omega), if_neg (by omega), if_neg (by omega)] at g1
        exact g1)
    (by
      rintro ⟨S, u, y⟩ ⟨i1, i2, i3⟩
      dsimp only at i3 ⊢
      subst i3
      unfold bX7_fills_45
      exact if_pos (Int32.le_refl _))
  dsimp only at i4 j4
  rw [e4, e5, bq3_s, bq3_s]
  exact ⟨_, X4, M4, by rw [gF_e, show X4.1 3 = _ from i4.1.2.2.2.1], by rw [gF_e, show M4.1 2 = _ from j4.1.2.2.2.1], _, ok2.tk (flk _ (Nat.le_refl _)).1, i4, j4⟩
