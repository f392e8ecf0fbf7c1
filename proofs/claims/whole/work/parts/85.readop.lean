/-! reads: the call -/
theorem m_goes {c : Nat → Nat} {z d n I : Nat} (P : Nat → St → Prop) (x1 : Int32) (hP : ∀ i S, P i S → MTx S c z ∧ ∃ t, TkOK t ∧ tD t = d ∧ S.1 1 = nI (tD t)) (hq : ∀ i S S2, P i S → MQq S S2 → P i S2) (hs : ∀ i S, P i S → stp c z d n i = none → ∃ S2, (if x1 = 0 then some ((1 : Int32), S) else bq1 (fX7_comes S (nI (rdV c z d i).1) (nI (rdV c z d i).2.1) (nI (rdV c z d i).2.2.1) (nI (rdV c z d i).2.2.2)) (fun S18 => some ((1 : Int32), S18))) = some (1, S2) ∧ P (i + 1) S2 ∧ S2.1 25 = S.1 25 ∧ S2.1 28 = S.1 28) (hI : I ≤ 16) (h1 : ∀ j, j < I → stp c z d n j = none) (h2 : stp c z d n I ≠ none) (hn : n ≤ 16) {S : St} (p0 : P 0 S) (s2 : S.1 2 = nI n) : ∃ v S2, fX7_goesThrough S x1 = some (v, S2) ∧ ((rdN c z d 0 = z ∧ v = -10 - nI z ∧ P 0 S2) ∨ (rdN c z d 0 ≠ z ∧ ((stp c z d n I = some none ∧ v = nI I ∧ P I S2) ∨ ∃ f, f ≤ z ∧ stp c z d n I = some (some f) ∧ v = -10 - nI f ∧ ∃ i, i ≤ I ∧ P i S2))) := by
  unfold fX7_goesThrough
  rw [show gF S 2 = nI n from s2]
  generalize hB : pF (pF S 25 0) 28 (nI n) = B
  have qB : MQq S B := by
    subst hB
    exact ⟨rfl, fun j hj => by rw [pF_n _ _ (by omega), pF_n _ _ (by omega)]⟩
  have b25 : B.1 25 = nI 0 := by subst hB; rw [pF_n _ _ (by omega), pF_s]; rfl
  have b28 : B.1 28 = nI n := by subst hB; rw [pF_s]
  have pB := hq 0 S B p0 qB
  obtain ⟨tx, -⟩ := hP 0 B pB
  have hz := tx.1
  obtain ⟨A, e1, a1⟩ := m_skip tx (Nat.zero_le z) (show MP B B 0 (B.1 26) from ⟨MQq.rf B, rfl, b25, rfl⟩)
  have pA := hq 0 B A pB a1.1
  obtain ⟨txA, -⟩ := hP 0 A pA
  have q1 := (rdN_le c z d 0).1
  have a25 : A.1 25 = nI (rdN c z d 0) := a1.2.2.1
  rw [e1, bq1_s, show gF A 25 = nI (rdN c z d 0) from a25, show gF A 24 = nI z from txA.2.2.1]
  by_cases q : rdN c z d 0 = z
  · rw [if_pos (by rw [q])]
    exact ⟨_, A, rfl, Or.inl ⟨q, rfl, pA⟩⟩
  · rw [if_neg (nI_c (by omega) (by omega) q)]
    obtain ⟨V, o, e2, ⟨g1, rfl, g3, g4⟩ | ⟨f, hf, g1, rfl, g3⟩⟩ := m_goesloop P x1 hP hq hs hI h1 h2 hn pA a25 (a1.2.1.trans b28)
    · rw [e2, bq2_s, show gF V 28 = nI (n + I) from g4, pk_sub (by omega), show n + I - n = I by omega]
      exact ⟨_, V, rfl, Or.inr ⟨q, Or.inl ⟨g1, rfl, g3⟩⟩⟩
    · rw [e2, bq2_s]
      exact ⟨_, V, rfl, Or.inr ⟨q, Or.inr ⟨f, hf, g1, rfl, g3⟩⟩⟩
theorem neg10 : ∀ f, f < 121 → ¬ (0 : Int32) ≤ -10 - nI f := by decide +kernel
def tA (t : Tk) (c : Nat → Nat) (z d : Nat) : Nat → Tk
  | 0 => t
  | i + 1 => tAdd (tA t c z d i) (rdV c z d i).1 (rdV c z d i).2.1 (rdV c z d i).2.2.1 (rdV c z d i).2.2.2
theorem tA_D (t : Tk) (c : Nat → Nat) (z d : Nat) : ∀ i, tD (tA t c z d i) = tD t ∧ tN (tA t c z d i) = tN t + i
  | 0 => ⟨rfl, rfl⟩
  | i + 1 => by
    obtain ⟨h1, h2⟩ := tA_D t c z d i
    refine ⟨h1, ?_⟩
    show tN (tA t c z d i) + 1 = _
    omega
theorem tA_ok {t : Tk} (ok : TkOK t) {c : Nat → Nat} {z i : Nat} (h : TkOK (tA t c z (tD t) i)) (hs : stp c z (tD t) (tN t) i = none) : TkOK (tA t c z (tD t) (i + 1)) := by
  obtain ⟨q1, q2, o, q3⟩ := stp_n hs
  obtain ⟨d1, d2⟩ := tA_D t c z (tD t) i
  obtain ⟨-, a, b, g, r, b1, b2, b3, b4, b5⟩ := pcE_b (rdN_le c z (tD t) i).1 q3
  have hv := rdV_o q3
  rw [b5] at hv
  show TkOK (tAdd (tA t c z (tD t) i) (rdV c z (tD t) i).1 (rdV c z (tD t) i).2.1 (rdV c z (tD t) i).2.2.1 (rdV c z (tD t) i).2.2.2)
  rw [hv]
  refine h.add (by omega) ?_ ?_ ?_ b4
  · rw [d1]; exact b1
  · rw [d1]; exact b2
  · rw [d1]; exact b3
theorem x_keepF {a : Da} {X X2 : St} (ok : DaOK a) (x : XS a X) (h : fX0_keep X = some X2) : X2.1 36 = X.1 36 ∧ X2.2.1 20 = X.2.1 20 := by
  obtain ⟨x1, ⟨w, hw, x2, x3, x4⟩, x5, x6, x7, x8, x9⟩ := x
  have e1 : (gF X 31 + (1 : Int32)) - (gF X 31 + (1 : Int32)) / (6 : Int32) * (6 : Int32) = nI ((w + 1) % 6) := by
    rw [gF_e, x3, nI_1]
    exact pk_rem (d := 6) (by omega) (by omega) (by omega)
  have hm : (w + 1) % 6 < 6 := Nat.mod_lt _ (by omega)
  unfold fX0_keep at h
  rw [e1, chk_n hm (by omega), nI_clamp (by omega)] at h
  obtain ⟨Y, hy, y1, y2, y3, y4⟩ := take_spec (1 + (w + 1) % 6) 0 (by omega) (pF X 31 (nI ((w + 1) % 6)))
  rw [hy, bq1_s] at h
  have := Option.some.inj h
  subst this
  refine ⟨?_, ?_⟩
  · rw [pF_n _ _ (by omega), y1 36 (by omega) (by omega) (by omega) (by omega), pF_n _ _ (by omega)]
  · show Y.2.1 20 = _
    rw [y3 20 (by omega)]
    rfl
theorem op_reads (X M : St) (h : Sim X M) : ∃ (r : Int32) (X2 M2 : St), fX6_reads X = some (r, X2) ∧ fX7_reads M = some (r, M2) ∧ Sim X2 M2 := by
  obtain ⟨a, ok, x, m⟩ := h
  have t0 := ok.1
  have hn := t0.2.2.2.2.1
  have hd := t0.2.1
  have hz := ok.2.2.2.1
  have hc := ok.2.2.2.2
  have tx : XTx X (aX a) (aZ a) := ⟨hz, hc, x.2.2.2.2.2.1, x.2.2.2.2.2.2⟩
  have tm : MTx M (aX a) (aZ a) := ⟨hz, hc, m.2.2.2.2.2.1, m.2.2.2.2.2.2⟩
  obtain ⟨I, hI, h1, h2⟩ := stp_end (aX a) (aZ a) (tD (aT a)) (tN (aT a))
  unfold fX6_reads fX7_reads
  rw [x_corners t0 x.1.1, bq1_s, show gF X 3 = nI (tN (aT a)) from x.1.2.2.2.1]
  obtain ⟨S, e1, sx⟩ := x_read tx hd hI h1 h2 hn
  obtain ⟨v, N, e2, sm⟩ := m_goes (I := I) (fun _ S => MQq M S) 0 (fun i S p => ⟨tm.q p, aT a, t0, rfl, (p.2 1 (by omega)).trans m.1.1⟩) (fun i S S2 p q => p.tr q) (fun i S p _ => ⟨S, if_pos rfl, p, rfl, rfl⟩) hI h1 h2 hn (MQq.rf M) m.1.2.2.2.1
  rw [e1, bq1_s, e2, bq2_s]
  have flt : ∀ f, f ≤ aZ a → FX X f S → v = -10 - nI f → MQq M N → ∃ (r : Int32) (X2 M2 : St), (if gF S 35 = (-1 : Int32) then bq1 (fX0_keep S) (fun S4 => bq2 (lp (fun q => bX6_reads_56 q.1 q.2) fu (S4, (0 : Int32))) (fun S11 y1_11 => some ((gF S11 36), S11))) else some (((-10 : Int32) - (gF S 35)), S)) = some (r, X2) ∧ (if (0 : Int32) ≤ v then bq1 (fX7_leavesState N) (fun S3 => bq2 (fX7_goesThrough S3 (1 : Int32)) (fun r4 S4 => some (r4, S4))) else some (v, N)) = some (r, M2) ∧ Sim X2 M2 := by
    intro f hf fx hv mq
    subst hv
    rw [show gF S 35 = nI f from fx.2, if_neg (nI_m1 (by omega)), if_neg (neg10 f (by omega))]
    exact ⟨_, S, N, rfl, rfl, a, ok, x.of fx.1.C, m.of mq.C⟩
  rcases sx with ⟨q, fx⟩ | ⟨q, ⟨g1, gx⟩ | ⟨f, hf, g1, fx⟩⟩
  · rcases sm with ⟨_, g2, g3⟩ | ⟨q2, -⟩
    · exact flt _ (Nat.le_refl _) fx g2 g3
    · exact absurd q q2
  · rcases sm with ⟨q2, -, -⟩ | ⟨-, ⟨_, g2, g3⟩ | ⟨f, hf, g2, -⟩⟩
    · exact absurd q2 q
    · subst g2
      obtain ⟨k0, k1, k2, k3, k4⟩ := gx
      have xS := x.of k0.C
      obtain ⟨X4, e4, x4⟩ := x_keep ok xS
      obtain ⟨f36, f20⟩ := x_keepF ok xS e4
      obtain ⟨M3, e5, m3⟩ := m_keep ok (m.of g3.C)
      have ok3 := ok.keep
      rw [if_pos (show gF S 35 = (-1 : Int32) from k1), if_pos (nI_pos' (by omega)), e4, bq1_s, e5, bq1_s]
      -- the program adds what it has read
      obtain ⟨⟨Y, y⟩, e6, i1, i2, i3, i4, i5⟩ := lp_fu (f := fun q => bX6_reads_56 q.1 q.2) (fun i s => XS (aTk (aKeep a) (tA (aT a) (aX a) (aZ a) (tD (aT a)) i)) s.1 ∧ TkOK (tA (aT a) (aX a) (aZ a) (tD (aT a)) i) ∧ s.1.1 36 = nI I ∧ s.1.2.1 20 = S.2.1 20 ∧ s.2 = nI i) I (by omega) (X4, (0 : Int32)) ⟨x4, t0, by rw [f36]; exact k2, f20, rfl⟩
        (by
          rintro i ⟨Q, y⟩ hi ⟨i1, i2, i3, i4, i5⟩
          dsimp only at i1 i2 i3 i4 i5 ⊢
          subst i5
          have hs := h1 i hi
          obtain ⟨q1, q2, -⟩ := stp_n hs
          obtain ⟨d1, d2⟩ := tA_D (aT a) (aX a) (aZ a) (tD (aT a)) i
          have tr : ∀ q : Nat, q < 4 → fX2_trait Q (nI i) (nI q) = some (nI (rv (aX a) (aZ a) (tD (aT a)) i q)) := by
            intro q hq
            unfold fX2_trait
            rw [show nI i * (4 : Int32) = nI (i * 4) from pk_mul i 4, nI_add, chk_n (by omega) (by omega), gR_n (by omega), i4, show i * 4 + q = 4 * i + q by omega, k4 i q hi hq]
          unfold bX6_reads_56
          rw [show gF Q 36 = nI I from i3, if_neg (nI_ge hi (by omega)), show fX2_trait Q (nI i) 0 = _ from tr 0 (by omega), bq1_s, show fX2_trait Q (nI i) 1 = _ from tr 1 (by omega), bq1_s, show fX2_trait Q (nI i) 2 = _ from tr 2 (by omega), bq1_s, show fX2_trait Q (nI i) 3 = _ from tr 3 (by omega), bq1_s]
          obtain ⟨W, e7, w1, w2, w3⟩ := x_add (a := aTk (aKeep a) (tA (aT a) (aX a) (aZ a) (tD (aT a)) i)) (ok3.tk i2) i1 (show tN (tA (aT a) (aX a) (aZ a) (tD (aT a)) i) < 16 by omega) (rv (aX a) (aZ a) (tD (aT a)) i 0) (rv (aX a) (aZ a) (tD (aT a)) i 1) (rv (aX a) (aZ a) (tD (aT a)) i 2) (rv (aX a) (aZ a) (tD (aT a)) i 3)
          rw [e7, bq1_s, nI_1]
          exact ⟨_, rfl, w1, tA_ok t0 i2 hs, (w2 36 (by omega)).trans i3, (w3 20 (by omega)).trans i4, rfl⟩)
        (by
          rintro ⟨Q, y⟩ ⟨i1, i2, i3, i4, i5⟩
          dsimp only at i3 i5 ⊢
          subst i5
          unfold bX6_reads_56
          rw [show gF Q 36 = nI I from i3]
          exact if_pos (Int32.le_refl _))
      dsimp only at i1 i2 i3
      -- the reference reads again, and adds
      obtain ⟨v2, N2, e8, sm2⟩ := m_goes (I := I) (fun i S => TkOK (tA (aT a) (aX a) (aZ a) (tD (aT a)) i) ∧ MS (aTk (aKeep a) (tA (aT a) (aX a) (aZ a) (tD (aT a)) i)) S) 1
        (fun i S p => ⟨⟨hz, hc, p.2.2.2.2.2.2.1, p.2.2.2.2.2.2.2⟩, tA (aT a) (aX a) (aZ a) (tD (aT a)) i, p.1, (tA_D (aT a) (aX a) (aZ a) (tD (aT a)) i).1, p.2.1.1⟩)
        (fun i S S2 p q => ⟨p.1, p.2.of q.C⟩)
        (fun i S p hs => by
          obtain ⟨q1, q2, -⟩ := stp_n hs
          obtain ⟨d1, d2⟩ := tA_D (aT a) (aX a) (aZ a) (tD (aT a)) i
          obtain ⟨W, e7, w1, w2, w3⟩ := m_comes (a := aTk (aKeep a) (tA (aT a) (aX a) (aZ a) (tD (aT a)) i)) p.2 (show tN (tA (aT a) (aX a) (aZ a) (tD (aT a)) i) < 16 by omega) (rdV (aX a) (aZ a) (tD (aT a)) i).1 (rdV (aX a) (aZ a) (tD (aT a)) i).2.1 (rdV (aX a) (aZ a) (tD (aT a)) i).2.2.1 (rdV (aX a) (aZ a) (tD (aT a)) i).2.2.2
          refine ⟨W, ?_, ⟨tA_ok t0 p.1 hs, w1⟩, w2 25 (by omega), w2 28 (by omega)⟩
          rw [if_neg ne10, e7, bq1_s])
        hI h1 h2 hn (S := M3) ⟨t0, m3⟩ m3.1.2.2.2.1
      rcases sm2 with ⟨q2, -, -⟩ | ⟨-, ⟨_, g4, g5⟩ | ⟨f, hf, g4, -⟩⟩
      · exact absurd q2 q
      · subst g4
        rw [e6, bq2_s, e8, bq2_s, show gF Y 36 = nI I from i3]
        exact ⟨_, Y, N2, rfl, rfl, aTk (aKeep a) (tA (aT a) (aX a) (aZ a) (tD (aT a)) I), ok3.tk i2, i1, g5.2⟩
      · rw [g1] at g4; exact absurd g4 (by simp)
    · rw [g1] at g2; exact absurd g2 (by simp)
  · rcases sm with ⟨q2, -, -⟩ | ⟨-, ⟨g2, -, -⟩ | ⟨f2, hf2, g2, g3, i, -, g4⟩⟩
    · exact absurd q2 q
    · rw [g1] at g2; exact absurd g2 (by simp)
    · rw [g1] at g2
      have : f = f2 := by simpa using g2
      subst this
      exact flt f hf fx g3 g4
