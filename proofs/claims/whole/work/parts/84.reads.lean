/-! reads -/
def rdN (c : Nat → Nat) (z d : Nat) : Nat → Nat
  | 0 => sk c z 0
  | i + 1 => match pcE c z d (rdN c z d i) with
    | .ok o => sk c z o.1
    | .error _ => rdN c z d i
def rdV (c : Nat → Nat) (z d i : Nat) : Nat × Nat × Nat × Nat := match pcE c z d (rdN c z d i) with
  | .ok o => o.2
  | .error _ => (0, 0, 0, 0)
theorem rdN_o {c : Nat → Nat} {z d i : Nat} {o : Pq} (h : pcE c z d (rdN c z d i) = .ok o) : rdN c z d (i + 1) = sk c z o.1 := by
  rw [rdN, h]
theorem rdV_o {c : Nat → Nat} {z d i : Nat} {o : Pq} (h : pcE c z d (rdN c z d i) = .ok o) : rdV c z d i = o.2 := by
  unfold rdV
  rw [h]
theorem rdN_le (c : Nat → Nat) (z d : Nat) : ∀ i, rdN c z d i ≤ z ∧ sk c z (rdN c z d i) = rdN c z d i
  | 0 => ⟨(sk_le (Nat.zero_le z)).2, sk_sk (Nat.zero_le z)⟩
  | i + 1 => by
    have ih := rdN_le c z d i
    cases h : pcE c z d (rdN c z d i) with
    | error f =>
      rw [rdN, h]
      exact ih
    | ok o =>
      have hb := (pcE_b ih.1 h).1
      rw [rdN_o h]
      exact ⟨(sk_le hb).2, sk_sk hb⟩
def stp (c : Nat → Nat) (z d n i : Nat) : Option (Option Nat) := if z ≤ rdN c z d i then some none else if 16 ≤ n + i then some (some (rdN c z d i)) else match pcE c z d (rdN c z d i) with
  | .ok _ => none
  | .error f => some (some f)
theorem stp_d {c : Nat → Nat} {z d n i : Nat} (h : z ≤ rdN c z d i) : stp c z d n i = some none := if_pos h
theorem stp_f {c : Nat → Nat} {z d n i : Nat} (h : ¬ z ≤ rdN c z d i) (h2 : 16 ≤ n + i) : stp c z d n i = some (some (rdN c z d i)) := by
  unfold stp
  rw [if_neg h, if_pos h2]
theorem stp_e {c : Nat → Nat} {z d n i f : Nat} (h : ¬ z ≤ rdN c z d i) (h2 : ¬ 16 ≤ n + i) (h3 : pcE c z d (rdN c z d i) = .error f) : stp c z d n i = some (some f) := by
  unfold stp
  rw [if_neg h, if_neg h2, h3]
theorem stp_o {c : Nat → Nat} {z d n i : Nat} {o : Pq} (h : ¬ z ≤ rdN c z d i) (h2 : ¬ 16 ≤ n + i) (h3 : pcE c z d (rdN c z d i) = .ok o) : stp c z d n i = none := by
  unfold stp
  rw [if_neg h, if_neg h2, h3]
theorem stp_n {c : Nat → Nat} {z d n i : Nat} (h : stp c z d n i = none) : rdN c z d i < z ∧ n + i < 16 ∧ ∃ o, pcE c z d (rdN c z d i) = .ok o := by
  by_cases h1 : z ≤ rdN c z d i
  · rw [stp_d h1] at h; exact absurd h (by simp)
  · by_cases h2 : 16 ≤ n + i
    · rw [stp_f h1 h2] at h; exact absurd h (by simp)
    · cases h3 : pcE c z d (rdN c z d i) with
      | error f => rw [stp_e h1 h2 h3] at h; exact absurd h (by simp)
      | ok o => exact ⟨by omega, by omega, o, rfl⟩
theorem first_some {α : Type} (f : Nat → Option α) : ∀ m, (∀ j, j < m → f j = none) ∨ ∃ i, i < m ∧ (∀ j, j < i → f j = none) ∧ f i ≠ none
  | 0 => Or.inl fun j hj => absurd hj (Nat.not_lt_zero _)
  | m + 1 => by
    rcases first_some f m with h | ⟨i, h1, h2, h3⟩
    · by_cases q : f m = none
      · left
        intro j hj
        by_cases e : j = m
        · rw [e]; exact q
        · exact h j (by omega)
      · exact Or.inr ⟨m, by omega, h, q⟩
    · exact Or.inr ⟨i, by omega, h2, h3⟩
/-- where reading ends -/
theorem stp_end (c : Nat → Nat) (z d n : Nat) : ∃ I, I ≤ 16 ∧ (∀ j, j < I → stp c z d n j = none) ∧ stp c z d n I ≠ none := by
  rcases first_some (stp c z d n) 17 with h | ⟨i, h1, h2, h3⟩
  · have := (stp_n (h 16 (by omega))).2.1
    omega
  · exact ⟨i, by omega, h2, h3⟩
def rv (c : Nat → Nat) (z d p q : Nat) : Nat := q4 (rdV c z d p).1 (rdV c z d p).2.1 (rdV c z d p).2.2.1 (rdV c z d p).2.2.2 q
def XK (X S : St) : Prop := S.2.2 = X.2.2 ∧ (∀ j, j ≠ 20 → S.2.1 j = X.2.1 j) ∧ ∀ j, j ≠ 35 → j ≠ 36 → j ≠ 37 → S.1 j = X.1 j
theorem XK.tr {X Y Z : St} (h : XK X Y) (g : XK Y Z) : XK X Z := ⟨g.1.trans h.1, fun j a => (g.2.1 j a).trans (h.2.1 j a), fun j a b e => (g.2.2 j a b e).trans (h.2.2 j a b e)⟩
theorem XK.C {X Y : St} (h : XK X Y) : XC X Y := ⟨fun k hk => h.2.2 k (by omega) (by omega) (by omega), fun k hk => h.2.1 k (by omega)⟩
theorem XTx.K {X S : St} {c : Nat → Nat} {z : Nat} (b : XTx X c z) (h : XK X S) : XTx S c z := ⟨b.1, b.2.1, (h.2.2 34 (by omega) (by omega) (by omega)).trans b.2.2.1, fun i hi => by rw [h.2.1 19 (by omega)]; exact b.2.2.2 i hi⟩
theorem XP.K {B S : St} {f : Int32} {k : Nat} (h : XP B S f k) : XK B S := ⟨by rw [h.1], fun j _ => by rw [h.1], fun j a _ e => h.2.1 j a e⟩
theorem XP.self {S : St} {f : Int32} {k : Nat} (h1 : S.1 35 = f) (h2 : S.1 37 = nI k) : XP S S f k := ⟨rfl, fun _ _ _ => rfl, h1, h2⟩
def GX (X : St) (c : Nat → Nat) (z d i : Nat) (S : St) : Prop := XK X S ∧ S.1 35 = -1 ∧ S.1 36 = nI i ∧ S.1 37 = nI (rdN c z d i) ∧ ∀ p q, p < i → q < 4 → S.2.1 20 (4 * p + q) = nI (rv c z d p q)
def FX (X : St) (f : Nat) (S : St) : Prop := XK X S ∧ S.1 35 = nI f
theorem x_readloop {X S0 : St} {c : Nat → Nat} {z d n I : Nat} (tx : XTx X c z) (hd : d ≤ 4) (hI : I ≤ 16) (h1 : ∀ j, j < I → stp c z d n j = none) (h2 : stp c z d n I ≠ none) (hn : n ≤ 16) (g0 : GX X c z d 0 S0) : ∃ S, fX2_read_38 S0 (nI n) (nI (2 ^ d)) = some S ∧ ((stp c z d n I = some none ∧ GX X c z d I S) ∨ ∃ f, f ≤ z ∧ stp c z d n I = some (some f) ∧ FX X f S) := by
  have hz := tx.1
  unfold fX2_read_38
  obtain ⟨⟨S, y⟩, e, j⟩ := lp_fm (f := fun q => bX2_read_40 (nI n) (nI (2 ^ d)) q.1 q.2) (fun m s => (∃ i, i + m = I + 1 ∧ i ≤ I ∧ s.2 = nI i ∧ GX X c z d i s.1) ∨ (m = 0 ∧ ∃ f, f ≤ z ∧ stp c z d n I = some (some f) ∧ FX X f s.1)) (fun s => (stp c z d n I = some none ∧ GX X c z d I s.1) ∨ ∃ f, f ≤ z ∧ stp c z d n I = some (some f) ∧ FX X f s.1) (I + 1) (by omega) (S0, (0 : Int32)) (Or.inl ⟨0, by omega, by omega, rfl, g0⟩)
    (by
      rintro m ⟨S, y⟩ (⟨i, hm, hiI, i1, i2⟩ | ⟨hm, f, hf, i1, i2⟩)
      · dsimp only at i1 i2 ⊢
        subst i1
        obtain ⟨k0, k1, k2, k3, k4⟩ := i2
        have txS := tx.K k0
        obtain ⟨q1, q2⟩ := rdN_le c z d i
        have atI : stp c z d n i ≠ none → i = I := fun q => by
          rcases Nat.lt_or_ge i I with h | h
          · exact absurd (h1 i h) q
          · omega
        have ps : XP S S (-1) (rdN c z d i) := XP.self k1 k3
        unfold bX2_read_40
        rw [if_neg (show ¬ (120 : Int32) ≤ nI i from nI_ge (b := 120) (by omega) (by omega)), show gF S 34 = nI z from txS.2.2.1, show gF S 37 = nI (rdN c z d i) from k3, nI_1]
        by_cases a1 : z ≤ rdN c z d i
        · left
          have hs := stp_d (n := n) a1
          have := atI (by rw [hs]; simp)
          subst this
          rw [if_pos (nI_le a1 (by omega))]
          exact ⟨_, rfl, Or.inl ⟨hs, k0, k1, k2, k3, k4⟩⟩
        rw [if_neg (nI_ge (by omega) (by omega)), if_pos (show gF S 35 = (-1 : Int32) from k1)]
        right
        by_cases a2 : 16 ≤ n + i
        · have hs := stp_f (n := n) a1 a2
          have := atI (by rw [hs]; simp)
          subst this
          unfold fX2_readParcel
          rw [show gF S 36 = nI i from k2, nI_add, if_neg (show ¬ nI (n + i) < (16 : Int32) from nI_nlt (b := 16) a2 (by omega)), x_fail ps, bq1_s, bq1_s, show gF S 37 = nI (rdN c z d i) from k3]
          obtain ⟨V, e1, v1⟩ := x_skip txS q1 (ps.fa (nI (rdN c z d i)))
          rw [e1, bq1_s]
          exact ⟨_, rfl, 0, by omega, Or.inr ⟨rfl, _, q1, hs, k0.tr v1.K, v1.2.2.1⟩⟩
        · obtain ⟨W, e1, ⟨e, a, b, g, r, o1, o2, w⟩ | ⟨f, k, o1, o2, o3, w⟩⟩ := x_parcel txS q1 hd (show n + i < 16 by omega) k2 ps
          · have hs := stp_o (n := n) a1 a2 o1
            have hlt : i < I := by
              rcases Nat.lt_or_ge i I with h | h
              · exact h
              · have : i = I := by omega
                subst this
                exact absurd hs h2
            obtain ⟨w1, w2, w3, w4, w5, w6, w7, w8⟩ := w
            have kW : XK S W := ⟨w1, w2, w5⟩
            obtain ⟨V, e2, v1⟩ := x_skip (txS.K kW) o2 (XP.self w6 w8)
            rw [e1, bq1_s, e2, bq1_s]
            refine ⟨_, rfl, m - 1, by omega, Or.inl ⟨i + 1, by omega, by omega, rfl, k0.tr (kW.tr v1.K), v1.2.2.1, (v1.2.1 36 (by omega) (by omega)).trans w7, ?_, fun p q hp hq => ?_⟩⟩
            · rw [v1.2.2.2, rdN_o o1]
            · dsimp only
              rw [v1.1]
              by_cases hpi : p = i
              · subst hpi
                rw [w4 q hq]
                unfold rv
                rw [rdV_o o1]
              · rw [w3 _ (by omega)]
                exact k4 p q (by omega) hq
          · have hs := stp_e (n := n) a1 a2 o1
            have := atI (by rw [hs]; simp)
            subst this
            obtain ⟨V, e2, v1⟩ := x_skip txS o3 w
            rw [e1, bq1_s, e2, bq1_s]
            exact ⟨_, rfl, 0, by omega, Or.inr ⟨rfl, f, o2, hs, k0.tr v1.K, v1.2.2.1⟩⟩
      · left
        dsimp only at i2 ⊢
        unfold bX2_read_40
        rw [if_neg (show ¬ gF S 35 = (-1 : Int32) by rw [gF_e, i2.2]; exact nI_m1 (by omega))]
        refine ⟨(S, y), ?_, Or.inr ⟨f, hf, i1, i2⟩⟩
        repeat (first | rfl | split))
  rw [e, bq2_s]
  exact ⟨S, rfl, j⟩
theorem x_read {X : St} {c : Nat → Nat} {z d n I : Nat} (tx : XTx X c z) (hd : d ≤ 4) (hI : I ≤ 16) (h1 : ∀ j, j < I → stp c z d n j = none) (h2 : stp c z d n I ≠ none) (hn : n ≤ 16) : ∃ S, fX2_read X (nI n) (nI (2 ^ d)) = some S ∧ ((rdN c z d 0 = z ∧ FX X z S) ∨ (rdN c z d 0 ≠ z ∧ ((stp c z d n I = some none ∧ GX X c z d I S) ∨ ∃ f, f ≤ z ∧ stp c z d n I = some (some f) ∧ FX X f S))) := by
  have hz := tx.1
  unfold fX2_read
  generalize hB : pF (pF (pF X 35 (-1)) 36 0) 37 0 = B
  have kB : XK X B := by
    subst hB
    exact ⟨rfl, fun _ _ => rfl, fun j a b e => by rw [pF_n _ _ e, pF_n _ _ b, pF_n _ _ a]⟩
  have b35 : B.1 35 = -1 := by subst hB; rw [pF_n _ _ (by omega), pF_n _ _ (by omega), pF_s]
  have b36 : B.1 36 = nI 0 := by subst hB; rw [pF_n _ _ (by omega), pF_s]; rfl
  have b37 : B.1 37 = nI 0 := by subst hB; rw [pF_s]; rfl
  have txB := tx.K kB
  obtain ⟨S, e1, s1⟩ := x_skip txB (Nat.zero_le z) (XP.self b35 b37)
  have q1 := (rdN_le c z d 0).1
  have kS := kB.tr s1.K
  have txS := tx.K kS
  have g37 : gF S 37 = nI (rdN c z d 0) := s1.2.2.2
  rw [e1, bq1_s, g37, show gF S 34 = nI z from txS.2.2.1]
  by_cases q : rdN c z d 0 = z
  · rw [if_neg (nI_nlt (by omega) (by omega)), x_fail s1, bq1_s]
    refine ⟨pF S 35 (nI z), ?_, Or.inl ⟨q, kB.tr (s1.fa (nI z)).K, pF_s _ _ _⟩⟩
    unfold fX2_read_38
    have : lp (fun q => bX2_read_40 (nI n) (nI (2 ^ d)) q.1 q.2) fu (pF S 35 (nI z), (0 : Int32)) = some (pF S 35 (nI z), (0 : Int32)) := by
      have hb : bX2_read_40 (nI n) (nI (2 ^ d)) (pF S 35 (nI z)) 0 = some (false, pF S 35 (nI z), 0) := by
        unfold bX2_read_40
        rw [if_neg (by decide), if_pos (show gF (pF S 35 (nI z)) 34 ≤ gF (pF S 35 (nI z)) 37 by
          show (pF S 35 (nI z)).1 34 ≤ (pF S 35 (nI z)).1 37
          rw [pF_n _ _ (by omega), pF_n _ _ (by omega), txS.2.2.1, show S.1 37 = nI (rdN c z d 0) from s1.2.2.2, q]
          exact Int32.le_refl _)]
      show lp (fun q : St × Int32 => bX2_read_40 (nI n) (nI (2 ^ d)) q.1 q.2) (999 + 1) (pF S 35 (nI z), (0 : Int32)) = _
      unfold lp
      dsimp only
      rw [hb]
      rfl
    rw [this, bq2_s]
  · rw [if_pos (nI_lt (by omega) (by omega))]
    have g0 : GX X c z d 0 S := ⟨kS, s1.2.2.1, (s1.2.1 36 (by omega) (by omega)).trans b36, s1.2.2.2, fun p q hp => absurd hp (Nat.not_lt_zero _)⟩
    obtain ⟨V, e2, v⟩ := x_readloop tx hd hI h1 h2 hn g0
    exact ⟨V, e2, Or.inr ⟨q, v⟩⟩
theorem m_goesloop {c : Nat → Nat} {z d n I : Nat} (P : Nat → St → Prop) (x1 : Int32) (hP : ∀ i S, P i S → MTx S c z ∧ ∃ t, TkOK t ∧ tD t = d ∧ S.1 1 = nI (tD t)) (hq : ∀ i S S2, P i S → MQq S S2 → P i S2) (hs : ∀ i S, P i S → stp c z d n i = none → ∃ S2, (if x1 = 0 then some ((1 : Int32), S) else bq1 (fX7_comes S (nI (rdV c z d i).1) (nI (rdV c z d i).2.1) (nI (rdV c z d i).2.2.1) (nI (rdV c z d i).2.2.2)) (fun S18 => some ((1 : Int32), S18))) = some (1, S2) ∧ P (i + 1) S2 ∧ S2.1 25 = S.1 25 ∧ S2.1 28 = S.1 28) (hI : I ≤ 16) (h1 : ∀ j, j < I → stp c z d n j = none) (h2 : stp c z d n I ≠ none) (hn : n ≤ 16) {S0 : St} (p0 : P 0 S0) (s25 : S0.1 25 = nI (rdN c z d 0)) (s28 : S0.1 28 = nI n) : ∃ S o, lp (fun q => bX7_goesThrough_41 x1 q.1) fu (S0, (none : Option Int32)) = some (S, o) ∧ ((stp c z d n I = some none ∧ o = none ∧ P I S ∧ S.1 28 = nI (n + I)) ∨ ∃ f, f ≤ z ∧ stp c z d n I = some (some f) ∧ o = some (-10 - nI f) ∧ ∃ i, i ≤ I ∧ P i S) := by
  obtain ⟨⟨S, o⟩, e, j⟩ := lp_fm (f := fun q : St × Option Int32 => bX7_goesThrough_41 x1 q.1) (fun m s => ∃ i, i + m = I + 1 ∧ i ≤ I ∧ P i s.1 ∧ s.1.1 25 = nI (rdN c z d i) ∧ s.1.1 28 = nI (n + i)) (fun s => (stp c z d n I = some none ∧ s.2 = none ∧ P I s.1 ∧ s.1.1 28 = nI (n + I)) ∨ ∃ f, f ≤ z ∧ stp c z d n I = some (some f) ∧ s.2 = some (-10 - nI f) ∧ ∃ i, i ≤ I ∧ P i s.1) (I + 1) (by omega) (S0, none) ⟨0, by omega, by omega, p0, s25, s28⟩
    (by
      rintro m ⟨S, o⟩ ⟨i, hm, hiI, i1, i2, i3⟩
      dsimp only at i1 i2 i3 ⊢
      obtain ⟨tx, t, tok, td, t1⟩ := hP i S i1
      have hz := tx.1
      obtain ⟨q1, q2⟩ := rdN_le c z d i
      have atI : stp c z d n i ≠ none → i = I := fun q => by
        rcases Nat.lt_or_ge i I with h | h
        · exact absurd (h1 i h) q
        · omega
      have ps : MP S S (rdN c z d i) (S.1 26) := ⟨MQq.rf S, rfl, i2, rfl⟩
      unfold bX7_goesThrough_41
      rw [show gF S 24 = nI z from tx.2.2.1, show gF S 25 = nI (rdN c z d i) from i2]
      by_cases a1 : z ≤ rdN c z d i
      · left
        have hs := stp_d (n := n) a1
        have := atI (by rw [hs]; simp)
        subst this
        rw [if_pos (nI_le a1 (by omega))]
        exact ⟨_, rfl, Or.inl ⟨hs, rfl, i1, i3⟩⟩
      rw [if_neg (nI_ge (by omega) (by omega))]
      by_cases a2 : 16 ≤ n + i
      · left
        have hs := stp_f (n := n) a1 a2
        have := atI (by rw [hs]; simp)
        have e16 : n + i = 16 := by
          by_cases h0 : i = 0
          · omega
          · have := (stp_n (h1 (i - 1) (by omega))).2.1
            omega
        obtain ⟨W, e0, w1⟩ := m_skip tx q1 ps
        rw [q2] at w1
        unfold fX7_readsParcel
        rw [e0, bq1_s, if_pos (show gF W 28 = (16 : Int32) by rw [gF_e, w1.2.1, i3, e16]; rfl), bq2_s, if_pos rfl, show gF W 26 = nI (rdN c z d i) from w1.2.2.2]
        subst this
        exact ⟨_, rfl, Or.inr ⟨_, q1, hs, rfl, i, hiI, hq i S W i1 w1.1⟩⟩
      · have mp := m_parcel tok tx q1 q2 (show n + i < 16 by omega) t1 i3 ps x1
        rw [td] at mp
        rcases mp with ⟨e, a, b, g, r, V, o1, o2, v1, v2, v3, v4⟩ | ⟨f, V, o1, o2, v1, v2, v3⟩
        · right
          have hst := stp_o (n := n) a1 a2 o1
          have hlt : i < I := by
            rcases Nat.lt_or_ge i I with h | h
            · exact h
            · have : i = I := by omega
              subst this
              exact absurd hst h2
          obtain ⟨W, e2, w1, w2, w3⟩ := hs i V (hq i S V i1 v1) hst
          rw [rdV_o o1] at e2
          rw [v4, show (if x1 = 0 then some ((1 : Int32), V) else bq1 (fX7_comes V (nI a) (nI b) (nI g) (nI r)) (fun S18 => some ((1 : Int32), S18))) = _ from e2, bq2_s, if_neg ne10]
          obtain ⟨txW, -⟩ := hP (i + 1) W w1
          obtain ⟨U, e3, u1⟩ := m_skip txW o2 (show MP W W e (W.1 26) from ⟨MQq.rf W, rfl, w2.trans v2, rfl⟩)
          rw [e3, bq1_s]
          refine ⟨_, rfl, m - 1, by omega, i + 1, by omega, by omega, hq _ _ _ w1 u1.1, ?_, ?_⟩
          · rw [u1.2.2.1, rdN_o o1]
          · rw [u1.2.1, w3, v3]; rfl
        · left
          have hst := stp_e (n := n) a1 a2 o1
          have := atI (by rw [hst]; simp)
          subst this
          rw [v3, bq2_s, if_pos rfl, show gF V 26 = nI f from v2]
          exact ⟨_, rfl, Or.inr ⟨f, o2, hst, rfl, i, hiI, hq i S V i1 v1⟩⟩)
  exact ⟨S, o, e, j⟩
