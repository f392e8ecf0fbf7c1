section
variable {p : Program} {l : Launch} {e : Env} {s : State} {m : MethodId} {args : Array Value} {below : List Frame} {meth : Method} {c : Code} {Q : State → Prop} {g : xG} {H : Heap} {locs : List Loc} {ls : Array Slot} {S S' : St}
set_option maxHeartbeats 4000000 in
set_option maxRecDepth 100000 in
theorem tX7_loadsTell_56 (C0 : CallFix p m c cX7_loadsTell 6 s args big RX7) (hr : meth.sig.returnType = (some .int)) (hk : meth.locks = false) {x1 : Int32} {x2 : Int32} {x3 : Int32} {x4 : Int32} {x5 : Int32} {s0 : Int32} {s1 : Int32} {b : Bool} {y3 : Int32} {y4 : Int32} {y5 : Int32} (Kt : b = true → ∀ (H : Heap) (locs : List Loc) (ls : Array Slot), mI g s S H locs → lv_has ls 6 [(0, .ref (g.2.2 0)), (1, .int x1), (2, .int x2), (3, .int y3), (4, .int y4), (5, .int y5)] → W p l e ({ frames := 4, cells := 0, slots := 0, locals := 90 } : Room) s m args below meth c H locs 0 0 Q (F0 m 17 ls [])) (Kf : b = false → ∀ (H : Heap) (locs : List Loc) (ls : Array Slot), mI g s S H locs → lv_has ls 6 [(0, .ref (g.2.2 0)), (1, .int x1), (2, .int x2), (3, .int y3), (4, .int y4), (5, .int y5)] → W p l e ({ frames := 4, cells := 0, slots := 0, locals := 90 } : Room) s m args below meth c H locs 0 0 Q (F0 m 84 ls [])) (hf : fX7_loadsTell_56 S x4 x5 s0 s1 = some (b, y3, y4, y5)) (I : mI g s S H locs) (hl : lv_has ls 6 [(0, .ref (g.2.2 0)), (1, .int x1), (2, .int x2), (3, .int x3), (4, .int x4), (5, .int x5)]) : W p l e ({ frames := 4, cells := 0, slots := 0, locals := 90 } : Room) s m args below meth c H locs 0 0 Q (F0 m 56 ls [.int s0, .int s1]) := by
  obtain ⟨hx, hb, hml, -, -⟩ := id C0
  unfold fX7_loadsTell_56 at hf
  refine lv_iadd hx hb dX7_loadsTell_56 ?_
  refine lv_istore_n (lv' := [(3, .int (s1 + s0)), (0, .ref (g.2.2 0)), (1, .int x1), (2, .int x2), (4, .int x4), (5, .int x5)]) hx hb dX7_loadsTell_57 rfl hl (by decide) rfl (fun ls hl => ?_)
  refine lv_iload hx hb dX7_loadsTell_58 (lv_at hl 4 rfl) ?_
  refine lv_aload_n hx hb dX7_loadsTell_60 rfl (lv_at hl 1 rfl) ?_
  refine mg_X7_44_0 C0 I dX7_loadsTell_61 ?_
  refine lv_iload hx hb dX7_loadsTell_64 (lv_at hl 5 rfl) ?_
  obtain ⟨b6, hf⟩ := chk_some hf
  refine ml_11 hx hb I b6 dX7_loadsTell_66 ?_
  refine lv_if_le (tgt := 74) hx hb dX7_loadsTell_67 (by decide) (fun c7 => ?_) (fun c7 => ?_)
  · have hf := ip c7 hf
    refine lv_iconst (v := 0) hx hb dX7_loadsTell_74 (by decide) ?_
    refine lv_iadd hx hb dX7_loadsTell_75 ?_
    refine lv_istore (lv' := [(4, .int (x4 + (0 : Int32))), (3, .int (s1 + s0)), (0, .ref (g.2.2 0)), (1, .int x1), (2, .int x2), (5, .int x5)]) hx hb dX7_loadsTell_76 hl (by decide) rfl (fun ls hl => ?_)
    refine lv_iinc (v := (x5 + (1 : Int32))) (lv' := [(5, .int (x5 + (1 : Int32))), (4, .int (x4 + (0 : Int32))), (3, .int (s1 + s0)), (0, .ref (g.2.2 0)), (1, .int x1), (2, .int x2)]) hx hb dX7_loadsTell_78 hl (k := 5) rfl rfl (by decide) rfl (fun ls hl => ?_)
    refine lv_goto (tgt := 17) hx hb dX7_loadsTell_81 (by decide) ?_
    obtain ⟨rfl, rfl, rfl, rfl⟩ := se4 hf
    exact Kt rfl _ _ _ I (lv_sub hl [3, 4, 5, 2, 1, 0] rfl)
  · have hf := inn c7 hf
    refine lv_iconst (v := 1) hx hb dX7_loadsTell_70 (by decide) ?_
    refine lv_goto (tgt := 75) hx hb dX7_loadsTell_71 (by decide) ?_
    refine lv_iadd hx hb dX7_loadsTell_75 ?_
    refine lv_istore (lv' := [(4, .int (x4 + (1 : Int32))), (3, .int (s1 + s0)), (0, .ref (g.2.2 0)), (1, .int x1), (2, .int x2), (5, .int x5)]) hx hb dX7_loadsTell_76 hl (by decide) rfl (fun ls hl => ?_)
    refine lv_iinc (v := (x5 + (1 : Int32))) (lv' := [(5, .int (x5 + (1 : Int32))), (4, .int (x4 + (1 : Int32))), (3, .int (s1 + s0)), (0, .ref (g.2.2 0)), (1, .int x1), (2, .int x2)]) hx hb dX7_loadsTell_78 hl (k := 5) rfl rfl (by decide) rfl (fun ls hl => ?_)
    refine lv_goto (tgt := 17) hx hb dX7_loadsTell_81 (by decide) ?_
    obtain ⟨rfl, rfl, rfl, rfl⟩ := se4 hf
    exact Kt rfl _ _ _ I (lv_sub hl [3, 4, 5, 2, 1, 0] rfl)
set_option maxHeartbeats 4000000 in
set_option maxRecDepth 100000 in
theorem tX7_loadsTell_55 (C0 : CallFix p m c cX7_loadsTell 6 s args big RX7) (hr : meth.sig.returnType = (some .int)) (hk : meth.locks = false) {x1 : Int32} {x2 : Int32} {x3 : Int32} {x4 : Int32} {x5 : Int32} {s0 : Int32} {b : Bool} {y3 : Int32} {y4 : Int32} {y5 : Int32} (Kt : b = true → ∀ (H : Heap) (locs : List Loc) (ls : Array Slot), mI g s S H locs → lv_has ls 6 [(0, .ref (g.2.2 0)), (1, .int x1), (2, .int x2), (3, .int y3), (4, .int y4), (5, .int y5)] → W p l e ({ frames := 4, cells := 0, slots := 0, locals := 90 } : Room) s m args below meth c H locs 0 0 Q (F0 m 17 ls [])) (Kf : b = false → ∀ (H : Heap) (locs : List Loc) (ls : Array Slot), mI g s S H locs → lv_has ls 6 [(0, .ref (g.2.2 0)), (1, .int x1), (2, .int x2), (3, .int y3), (4, .int y4), (5, .int y5)] → W p l e ({ frames := 4, cells := 0, slots := 0, locals := 90 } : Room) s m args below meth c H locs 0 0 Q (F0 m 84 ls [])) (hf : fX7_loadsTell_55 S x4 x5 s0 = some (b, y3, y4, y5)) (I : mI g s S H locs) (hl : lv_has ls 6 [(0, .ref (g.2.2 0)), (1, .int x1), (2, .int x2), (3, .int x3), (4, .int x4), (5, .int x5)]) : W p l e ({ frames := 4, cells := 0, slots := 0, locals := 90 } : Room) s m args below meth c H locs 0 0 Q (F0 m 55 ls [.int s0]) := by
  obtain ⟨hx, hb, hml, -, -⟩ := id C0
  unfold fX7_loadsTell_55 at hf
  refine lv_iconst (v := 0) hx hb dX7_loadsTell_55 (by decide) ?_
  exact tX7_loadsTell_56 C0 hr hk Kt Kf hf I (lv_sub hl [0, 1, 2, 3, 4, 5] rfl)
set_option maxHeartbeats 4000000 in
set_option maxRecDepth 100000 in
theorem BX7_loadsTell_17 (C0 : CallFix p m c cX7_loadsTell 6 s args big RX7) (hr : meth.sig.returnType = (some .int)) (hk : meth.locks = false) {x1 : Int32} {x2 : Int32} {x3 : Int32} {x4 : Int32} {x5 : Int32} {b : Bool} {y3 : Int32} {y4 : Int32} {y5 : Int32} (Kt : b = true → ∀ (H : Heap) (locs : List Loc) (ls : Array Slot), mI g s S H locs → lv_has ls 6 [(0, .ref (g.2.2 0)), (1, .int x1), (2, .int x2), (3, .int y3), (4, .int y4), (5, .int y5)] → W p l e ({ frames := 4, cells := 0, slots := 0, locals := 90 } : Room) s m args below meth c H locs 0 0 Q (F0 m 17 ls [])) (Kf : b = false → ∀ (H : Heap) (locs : List Loc) (ls : Array Slot), mI g s S H locs → lv_has ls 6 [(0, .ref (g.2.2 0)), (1, .int x1), (2, .int x2), (3, .int y3), (4, .int y4), (5, .int y5)] → W p l e ({ frames := 4, cells := 0, slots := 0, locals := 90 } : Room) s m args below meth c H locs 0 0 Q (F0 m 84 ls [])) (hf : bX7_loadsTell_17 S x2 x3 x4 x5 = some (b, y3, y4, y5)) (I : mI g s S H locs) (hl : lv_has ls 6 [(0, .ref (g.2.2 0)), (1, .int x1), (2, .int x2), (3, .int x3), (4, .int x4), (5, .int x5)]) : W p l e ({ frames := 4, cells := 0, slots := 0, locals := 90 } : Room) s m args below meth c H locs 0 0 Q (F0 m 17 ls []) := by
  obtain ⟨hx, hb, hml, -, -⟩ := id C0
  unfold bX7_loadsTell_17 at hf
  refine lv_iload hx hb dX7_loadsTell_17 (lv_at hl 5 rfl) ?_
  refine lv_bipush (v := 64) hx hb dX7_loadsTell_19 (by decide) ?_
  refine lv_icmp_ge (tgt := 84) hx hb dX7_loadsTell_21 (by decide) (fun c3 => ?_) (fun c3 => ?_)
  · have hf := ip c3 hf
    obtain ⟨rfl, rfl, rfl, rfl⟩ := se4 hf
    exact Kf rfl _ _ _ I (lv_sub hl [0, 1, 2, 3, 4, 5] rfl)
  · have hf := inn c3 hf
    refine lv_iload_n hx hb dX7_loadsTell_24 rfl (lv_at hl 3 rfl) ?_
    refine lv_aload_n hx hb dX7_loadsTell_25 rfl (lv_at hl 0 rfl) ?_
    refine lv_iload hx hb dX7_loadsTell_26 (lv_at hl 5 rfl) ?_
    refine lv_iconst (v := 4) hx hb dX7_loadsTell_28 (by decide) ?_
    refine lv_idiv hx hb dX7_loadsTell_29 (by decide) ?_
    refine lv_iload hx hb dX7_loadsTell_30 (lv_at hl 5 rfl) ?_
    refine lv_iconst (v := 4) hx hb dX7_loadsTell_32 (by decide) ?_
    refine lv_irem hx hb dX7_loadsTell_33 (by decide) ?_
    obtain ⟨r4, h4, hf⟩ := bq1_some hf
    refine mcv_i (As := [.int (x5 / (4 : Int32)), .int (x5 - x5 / (4 : Int32) * (4 : Int32))]) C0 I (kX7_isEdge h4) (cwV 2 C0.2.2.2.2 (gwV wd_812 wd_814 wd_39 wd_73 wd_815) rfl rfl rfl dsc_X7_isEdge ⟨Nat.le_of_ble_eq_true rfl, Nat.le_of_ble_eq_true rfl⟩) (mo_0 I) rfl hl.1 rfl (Nat.le_of_ble_eq_true rfl) dX7_loadsTell_34 (fun H locs I => ?_)
    refine lv_if_eq (tgt := 55) hx hb dX7_loadsTell_37 (by decide) (fun c5 => ?_) (fun c5 => ?_)
    · have hf := ip c5 hf
      exact tX7_loadsTell_55 C0 hr hk Kt Kf hf I (lv_sub hl [0, 1, 2, 3, 4, 5] rfl)
    · have hf := inn c5 hf
      refine lv_aload_n hx hb dX7_loadsTell_40 rfl (lv_at hl 0 rfl) ?_
      refine mg_X7_44_0 C0 I dX7_loadsTell_41 ?_
      refine lv_iload hx hb dX7_loadsTell_44 (lv_at hl 5 rfl) ?_
      obtain ⟨b8, hf⟩ := chk_some hf
      refine ml_11 hx hb I b8 dX7_loadsTell_46 ?_
      refine lv_iload_n hx hb dX7_loadsTell_47 rfl (lv_at hl 2 rfl) ?_
      refine lv_icmp_ne (tgt := 55) hx hb dX7_loadsTell_48 (by decide) (fun c9 => ?_) (fun c9 => ?_)
      · have hf := inn c9 hf
        exact tX7_loadsTell_55 C0 hr hk Kt Kf hf I (lv_sub hl [0, 1, 2, 3, 4, 5] rfl)
      · have hf := ip c9 hf
        refine lv_iconst (v := 1) hx hb dX7_loadsTell_51 (by decide) ?_
        refine lv_goto (tgt := 56) hx hb dX7_loadsTell_52 (by decide) ?_
        exact tX7_loadsTell_56 C0 hr hk Kt Kf hf I (lv_sub hl [0, 1, 2, 3, 4, 5] rfl)
set_option maxHeartbeats 4000000 in
theorem lX7_loadsTell_17 (C0 : CallFix p m c cX7_loadsTell 6 s args big RX7) (hr : meth.sig.returnType = (some .int)) (hk : meth.locks = false) {S : St} {x1 : Int32} {x2 : Int32} {y3 : Int32} {y4 : Int32} {y5 : Int32} : ∀ (n : Nat) {x3 : Int32} {x4 : Int32} {x5 : Int32}, lp (fun q => bX7_loadsTell_17 S x2 q.1 q.2.1 q.2.2) n (x3, x4, x5) = some (y3, y4, y5) → ∀ {H : Heap} {locs : List Loc}, mI g s S H locs → ∀ {ls : Array Slot}, lv_has ls 6 [(0, .ref (g.2.2 0)), (1, .int x1), (2, .int x2), (3, .int x3), (4, .int x4), (5, .int x5)] → (∀ (H : Heap) (locs : List Loc) (ls : Array Slot), mI g s S H locs → lv_has ls 6 [(0, .ref (g.2.2 0)), (1, .int x1), (2, .int x2), (3, .int y3), (4, .int y4), (5, .int y5)] → W p l e ({ frames := 4, cells := 0, slots := 0, locals := 90 } : Room) s m args below meth c H locs 0 0 Q (F0 m 84 ls [])) → W p l e ({ frames := 4, cells := 0, slots := 0, locals := 90 } : Room) s m args below meth c H locs 0 0 Q (F0 m 17 ls []) := by
  intro n
  induction n with
  | zero => intro x3 x4 x5 hf; cases hf
  | succ n ih =>
    intro x3 x4 x5 hf H locs I ls hl K
    obtain ⟨b, ⟨z0, z1, z2⟩, h1, h2, h3⟩ := lp_some hf
    refine BX7_loadsTell_17 C0 hr hk (fun hb1 H locs ls I hl => ?_) (fun hb1 H locs ls I hl => ?_) h1 I hl
    · exact ih (h2 hb1) I hl K
    · have e := h3 hb1
      cases e
      exact K H locs ls I hl
set_option maxHeartbeats 4000000 in
set_option maxRecDepth 100000 in
theorem tX7_loadsTell_0 (C0 : CallFix p m c cX7_loadsTell 6 s args big RX7) (hr : meth.sig.returnType = (some .int)) (hk : meth.locks = false) {x1 : Int32} {rr : Int32}  (hf : fX7_loadsTell S x1 = some (rr, S')) (I : mI g s S H locs) (hl : lv_has ls 6 [(0, .ref (g.2.2 0)), (1, .int x1)]) : W p l e ({ frames := 4, cells := 0, slots := 0, locals := 90 } : Room) s m args below meth c H locs 0 0 (MQ below (va_Qi (fun r' S2 => r' = rr ∧ S2 = S') (mB g) (mA g)) args s 0 0 (mA g)) (F0 m 0 ls []) := by
  obtain ⟨hx, hb, hml, -, -⟩ := id C0
  unfold fX7_loadsTell at hf
  refine lv_aload_n hx hb dX7_loadsTell_0 rfl (lv_at hl 0 rfl) ?_
  obtain ⟨S1, h1, hf⟩ := bq1_some hf
  refine mcv_v (As := []) C0 I (kX7_setLoads h1) (cwV 0 C0.2.2.2.2 (gwV wd_816 wd_818 wd_40 wd_73 wd_819) rfl rfl rfl dsc_X7_setLoads ⟨Nat.le_of_ble_eq_true rfl, Nat.le_of_ble_eq_true rfl⟩) (mo_0 I) rfl hl.1 rfl (Nat.le_of_ble_eq_true rfl) dX7_loadsTell_1 (fun H locs I => ?_)
  refine lv_aload_n hx hb dX7_loadsTell_4 rfl (lv_at hl 0 rfl) ?_
  obtain ⟨r2, h2, hf⟩ := bq1_some hf
  refine mcv_i (As := []) C0 I (kX7_most h2) (cwV 0 C0.2.2.2.2 (gwV wd_836 wd_838 wd_44 wd_73 wd_839) rfl rfl rfl dsc_X7_most ⟨Nat.le_of_ble_eq_true rfl, Nat.le_of_ble_eq_true rfl⟩) (mo_0 I) rfl hl.1 rfl (Nat.le_of_ble_eq_true rfl) dX7_loadsTell_5 (fun H locs I => ?_)
  refine lv_istore_n (lv' := [(2, .int r2), (0, .ref (g.2.2 0)), (1, .int x1)]) hx hb dX7_loadsTell_8 rfl hl (by decide) rfl (fun ls hl => ?_)
  refine lv_iconst (v := 0) hx hb dX7_loadsTell_9 (by decide) ?_
  refine lv_istore_n (lv' := [(3, .int (0 : Int32)), (2, .int r2), (0, .ref (g.2.2 0)), (1, .int x1)]) hx hb dX7_loadsTell_10 rfl hl (by decide) rfl (fun ls hl => ?_)
  refine lv_iconst (v := 0) hx hb dX7_loadsTell_11 (by decide) ?_
  refine lv_istore (lv' := [(4, .int (0 : Int32)), (3, .int (0 : Int32)), (2, .int r2), (0, .ref (g.2.2 0)), (1, .int x1)]) hx hb dX7_loadsTell_12 hl (by decide) rfl (fun ls hl => ?_)
  refine lv_iconst (v := 0) hx hb dX7_loadsTell_14 (by decide) ?_
  refine lv_istore (lv' := [(5, .int (0 : Int32)), (4, .int (0 : Int32)), (3, .int (0 : Int32)), (2, .int r2), (0, .ref (g.2.2 0)), (1, .int x1)]) hx hb dX7_loadsTell_15 hl (by decide) rfl (fun ls hl => ?_)
  obtain ⟨y3_10, y4_10, y5_10, h10, hf⟩ := bq3_some hf
  refine lX7_loadsTell_17 C0 hr hk fu h10 I (lv_sub hl [4, 5, 3, 2, 1, 0] rfl) (fun H locs ls I hl => ?_)
  refine lv_iload_n hx hb dX7_loadsTell_84 rfl (lv_at hl 1 rfl) ?_
  refine lv_if_ne (tgt := 92) hx hb dX7_loadsTell_85 (by decide) (fun c11 => ?_) (fun c11 => ?_)
  · have hf := inn c11 hf
    refine lv_iload_n hx hb dX7_loadsTell_92 rfl (lv_at hl 1 rfl) ?_
    refine lv_iconst (v := 1) hx hb dX7_loadsTell_93 (by decide) ?_
    refine lv_icmp_ne (tgt := 101) hx hb dX7_loadsTell_94 (by decide) (fun c12 => ?_) (fun c12 => ?_)
    · have hf := inn c12 hf
      refine lv_iload_n hx hb dX7_loadsTell_101 rfl (lv_at hl 1 rfl) ?_
      refine lv_iconst (v := 2) hx hb dX7_loadsTell_102 (by decide) ?_
      refine lv_icmp_ne (tgt := 111) hx hb dX7_loadsTell_103 (by decide) (fun c13 => ?_) (fun c13 => ?_)
      · have hf := inn c13 hf
        refine lv_iload_n hx hb dX7_loadsTell_111 rfl (lv_at hl 2 rfl) ?_
        refine lv_if_ne (tgt := 119) hx hb dX7_loadsTell_112 (by decide) (fun c14 => ?_) (fun c14 => ?_)
        · have hf := inn c14 hf
          refine lv_aload_n hx hb dX7_loadsTell_119 rfl (lv_at hl 0 rfl) ?_
          refine lv_iload_n hx hb dX7_loadsTell_120 rfl (lv_at hl 2 rfl) ?_
          obtain ⟨r15, h15, hf⟩ := bq1_some hf
          refine mcv_i (As := [.int r2]) C0 I (kX7_firstOf h15) (cwV 1 C0.2.2.2.2 (gwV wd_840 wd_842 wd_45 wd_73 wd_843) rfl rfl rfl dsc_X7_firstOf ⟨Nat.le_of_ble_eq_true rfl, Nat.le_of_ble_eq_true rfl⟩) (mo_0 I) rfl hl.1 rfl (Nat.le_of_ble_eq_true rfl) dX7_loadsTell_121 (fun H locs I => ?_)
          obtain ⟨r16, h16, hf⟩ := bq1_some hf
          refine mcs_i (As := [.int r15]) C0 I (kX7_tenTimes h16) (va_cwS 1 C0.2.2.2.2 (gwS wd_844 wd_845 wd_73 wd_846) rfl rfl rfl dsc_X7_tenTimes.2 ⟨Nat.le_of_ble_eq_true rfl, Nat.le_of_ble_eq_true rfl⟩) rfl hl.1 rfl (Nat.le_of_ble_eq_true rfl) dX7_loadsTell_124 (fun H locs I => ?_)
          obtain ⟨rfl, rfl⟩ := se2 hf
          exact mri C0 hr hk I dX7_loadsTell_127
        · have hf := ip c14 hf
          refine lv_iconst (v := -1) hx hb dX7_loadsTell_115 (by decide) ?_
          refine lv_goto (tgt := 127) hx hb dX7_loadsTell_116 (by decide) ?_
          obtain ⟨rfl, rfl⟩ := se2 hf
          exact mri C0 hr hk I dX7_loadsTell_127
      · have hf := ip c13 hf
        refine lv_iload hx hb dX7_loadsTell_106 (lv_at hl 4 rfl) ?_
        refine lv_goto (tgt := 127) hx hb dX7_loadsTell_108 (by decide) ?_
        obtain ⟨rfl, rfl⟩ := se2 hf
        exact mri C0 hr hk I dX7_loadsTell_127
    · have hf := ip c12 hf
      refine lv_iload_n hx hb dX7_loadsTell_97 rfl (lv_at hl 3 rfl) ?_
      refine lv_goto (tgt := 127) hx hb dX7_loadsTell_98 (by decide) ?_
      obtain ⟨rfl, rfl⟩ := se2 hf
      exact mri C0 hr hk I dX7_loadsTell_127
  · have hf := ip c11 hf
    refine lv_iload_n hx hb dX7_loadsTell_88 rfl (lv_at hl 2 rfl) ?_
    refine lv_goto (tgt := 127) hx hb dX7_loadsTell_89 (by decide) ?_
    obtain ⟨rfl, rfl⟩ := se2 hf
    exact mri C0 hr hk I dX7_loadsTell_127
set_option maxRecDepth 100000 in
theorem kX7_loadsTell {x1 : Int32} {rr : Int32} (hf : fX7_loadsTell S x1 = some (rr, S')) : Met l yX7_loadsTell (Cond.code yX7_loadsTell cX7_loadsTell 6 (some .int) :: big) ({ frames := 4, cells := 0, slots := 0, locals := 90 } : Room) (va_Pc [.ref (g.2.2 0), .int x1] (mB g S)) (va_Qi (fun r' S2 => r' = rr ∧ S2 = S') (mB g) (mA g)) 0 0 (mA g) := by
  refine Met.ofW (cc := cX7_loadsTell) (maxL := 6) (ret := (some .int)) (by decide) rfl ?_
  intro p e s m args below meth c s₁ B hml hv
  obtain ⟨rfl, hP, hK, hD⟩ := hv
  have hts0 := atoms_spec (ws := (Cond.code yX7_loadsTell cX7_loadsTell 6 (some .int) :: big)) B.pre
  have C0 : CallFix p m c cX7_loadsTell 6 s _ big RX7 := ⟨B.exec, B.bytes, hml, findClass_of_methodNamed B.named, fun w h => hts0 w (List.mem_cons_of_mem _ h)⟩
  have I : mI g s S s.heap [] := ⟨hK, hP, hD, va_S.rf⟩
  have hl := lv_entry ([.ref (g.2.2 0), .int x1]) (n := 6) (Nat.le_of_ble_eq_true rfl)
  rw [lg_entry_eq]
  generalize (lg_sl ([.ref (g.2.2 0), .int x1]) ++ List.replicate (6 - (lg_sl ([.ref (g.2.2 0), .int x1])).length) Slot.unset).toArray = ls at hl ⊢
  have hl : lv_has ls 6 [(0, .ref (g.2.2 0)), (1, .int x1)] := hl
  exact tX7_loadsTell_0 C0 B.returns B.notSynchronized hf I (lv_sub hl [0, 1] rfl)
set_option maxHeartbeats 4000000 in
set_option maxRecDepth 100000 in
theorem tX7_loads_0 (C0 : CallFix p m c cX7_loads 2 s args big RX7) (hr : meth.sig.returnType = (some .int)) (hk : meth.locks = false) {x1 : Int32} {rr : Int32}  (hf : fX7_loads S x1 = some (rr, S')) (I : mI g s S H locs) (hl : lv_has ls 2 [(0, .ref (g.2.2 0)), (1, .int x1)]) : W p l e ({ frames := 5, cells := 0, slots := 0, locals := 115 } : Room) s m args below meth c H locs 0 0 (MQ below (va_Qi (fun r' S2 => r' = rr ∧ S2 = S') (mB g) (mA g)) args s 0 0 (mA g)) (F0 m 0 ls []) := by
  obtain ⟨hx, hb, hml, -, -⟩ := id C0
  unfold fX7_loads at hf
  refine lv_iload_n hx hb dX7_loads_0 rfl (lv_at hl 1 rfl) ?_
  refine lv_iconst (v := 0) hx hb dX7_loads_1 (by decide) ?_
  refine lv_iconst (v := 3) hx hb dX7_loads_2 (by decide) ?_
  obtain ⟨r1, h1, hf⟩ := bq1_some hf
  refine mcs_i (As := [.int x1, .int (0 : Int32), .int (3 : Int32)]) C0 I (kX7_in h1) (va_cwS 3 C0.2.2.2.2 (gwS wd_702 wd_703 wd_73 wd_704) rfl rfl rfl dsc_X7_in.2 ⟨Nat.le_of_ble_eq_true rfl, Nat.le_of_ble_eq_true rfl⟩) rfl hl.1 rfl (Nat.le_of_ble_eq_true rfl) dX7_loads_3 (fun H locs I => ?_)
  refine lv_if_eq (tgt := 17) hx hb dX7_loads_6 (by decide) (fun c2 => ?_) (fun c2 => ?_)
  · have hf := ip c2 hf
    refine lv_aload_n hx hb dX7_loads_17 rfl (lv_at hl 0 rfl) ?_
    obtain ⟨r3, S3, h3, hf⟩ := bq2_some hf
    refine mcv_i (As := []) C0 I (kX7_bad h3) (cwV 0 C0.2.2.2.2 (gwV wd_705 wd_707 wd_23 wd_73 wd_708) rfl rfl rfl dsc_X7_bad ⟨Nat.le_of_ble_eq_true rfl, Nat.le_of_ble_eq_true rfl⟩) (mo_0 I) rfl hl.1 rfl (Nat.le_of_ble_eq_true rfl) dX7_loads_18 (fun H locs I => ?_)
    obtain ⟨rfl, rfl⟩ := se2 hf
    exact mri C0 hr hk I dX7_loads_21
  · have hf := inn c2 hf
    refine lv_aload_n hx hb dX7_loads_9 rfl (lv_at hl 0 rfl) ?_
    refine lv_iload_n hx hb dX7_loads_10 rfl (lv_at hl 1 rfl) ?_
    obtain ⟨r4, S4, h4, hf⟩ := bq2_some hf
    refine mcv_i (As := [.int x1]) C0 I (kX7_loadsTell h4) (cwV 1 C0.2.2.2.2 (gwV wd_832 wd_834 wd_43 wd_73 wd_835) rfl rfl rfl dsc_X7_loadsTell ⟨Nat.le_of_ble_eq_true rfl, Nat.le_of_ble_eq_true rfl⟩) (mo_0 I) rfl hl.1 rfl (Nat.le_of_ble_eq_true rfl) dX7_loads_11 (fun H locs I => ?_)
    refine lv_goto (tgt := 21) hx hb dX7_loads_14 (by decide) ?_
    obtain ⟨rfl, rfl⟩ := se2 hf
    exact mri C0 hr hk I dX7_loads_21
set_option maxRecDepth 100000 in
theorem kX7_loads {x1 : Int32} {rr : Int32} (hf : fX7_loads S x1 = some (rr, S')) : Met l yX7_loads (Cond.code yX7_loads cX7_loads 2 (some .int) :: big) ({ frames := 5, cells := 0, slots := 0, locals := 115 } : Room) (va_Pc [.ref (g.2.2 0), .int x1] (mB g S)) (va_Qi (fun r' S2 => r' = rr ∧ S2 = S') (mB g) (mA g)) 0 0 (mA g) := by
  refine Met.ofW (cc := cX7_loads) (maxL := 2) (ret := (some .int)) (by decide) rfl ?_
  intro p e s m args below meth c s₁ B hml hv
  obtain ⟨rfl, hP, hK, hD⟩ := hv
  have hts0 := atoms_spec (ws := (Cond.code yX7_loads cX7_loads 2 (some .int) :: big)) B.pre
  have C0 : CallFix p m c cX7_loads 2 s _ big RX7 := ⟨B.exec, B.bytes, hml, findClass_of_methodNamed B.named, fun w h => hts0 w (List.mem_cons_of_mem _ h)⟩
  have I : mI g s S s.heap [] := ⟨hK, hP, hD, va_S.rf⟩
  have hl := lv_entry ([.ref (g.2.2 0), .int x1]) (n := 2) (Nat.le_of_ble_eq_true rfl)
  rw [lg_entry_eq]
  generalize (lg_sl ([.ref (g.2.2 0), .int x1]) ++ List.replicate (2 - (lg_sl ([.ref (g.2.2 0), .int x1])).length) Slot.unset).toArray = ls at hl ⊢
  have hl : lv_has ls 2 [(0, .ref (g.2.2 0)), (1, .int x1)] := hl
  exact tX7_loads_0 C0 B.returns B.notSynchronized hf I (lv_sub hl [0, 1] rfl)
set_option maxHeartbeats 4000000 in
set_option maxRecDepth 100000 in
theorem BX7_addsDrawn_2 (C0 : CallFix p m c cX7_addsDrawn 3 s args big RX7) (hr : meth.sig.returnType = none) (hk : meth.locks = false) {x1 : Int32} {x2 : Int32} {b : Bool} {y2 : Int32} (Kt : b = true → ∀ (H : Heap) (locs : List Loc) (ls : Array Slot), mI g s S' H locs → lv_has ls 3 [(0, .ref (g.2.2 0)), (1, .int x1), (2, .int y2)] → W p l e ({ frames := 2, cells := 0, slots := 0, locals := 48 } : Room) s m args below meth c H locs 0 0 Q (F0 m 2 ls [])) (Kf : b = false → ∀ (H : Heap) (locs : List Loc) (ls : Array Slot), mI g s S' H locs → lv_has ls 3 [(0, .ref (g.2.2 0)), (1, .int x1), (2, .int y2)] → W p l e ({ frames := 2, cells := 0, slots := 0, locals := 48 } : Room) s m args below meth c H locs 0 0 Q (F0 m 28 ls [])) (hf : bX7_addsDrawn_2 x1 S x2 = some (b, S', y2)) (I : mI g s S H locs) (hl : lv_has ls 3 [(0, .ref (g.2.2 0)), (1, .int x1), (2, .int x2)]) : W p l e ({ frames := 2, cells := 0, slots := 0, locals := 48 } : Room) s m args below meth c H locs 0 0 Q (F0 m 2 ls []) := by
  obtain ⟨hx, hb, hml, -, -⟩ := id C0
  unfold bX7_addsDrawn_2 at hf
  refine lv_iload_n hx hb dX7_addsDrawn_2 rfl (lv_at hl 2 rfl) ?_
  refine lv_aload_n hx hb dX7_addsDrawn_3 rfl (lv_at hl 0 rfl) ?_
  obtain ⟨r1, h1, hf⟩ := bq1_some hf
  refine mcv_i (As := []) C0 I (kX7_corners h1) (cwV 0 C0.2.2.2.2 (gwV wd_721 wd_723 wd_26 wd_73 wd_724) rfl rfl rfl dsc_X7_corners ⟨Nat.le_of_ble_eq_true rfl, Nat.le_of_ble_eq_true rfl⟩) (mo_0 I) rfl hl.1 rfl (Nat.le_of_ble_eq_true rfl) dX7_addsDrawn_4 (fun H locs I => ?_)
  refine lv_icmp_ge (tgt := 28) hx hb dX7_addsDrawn_7 (by decide) (fun c2 => ?_) (fun c2 => ?_)
  · have hf := ip c2 hf
    obtain ⟨rfl, rfl, rfl⟩ := se3 hf
    exact Kf rfl _ _ _ I (lv_sub hl [0, 1, 2] rfl)
  · have hf := inn c2 hf
    refine lv_aload_n hx hb dX7_addsDrawn_10 rfl (lv_at hl 0 rfl) ?_
    refine lv_iload_n hx hb dX7_addsDrawn_11 rfl (lv_at hl 1 rfl) ?_
    refine lv_iload_n hx hb dX7_addsDrawn_12 rfl (lv_at hl 2 rfl) ?_
    obtain ⟨S3, h3, hf⟩ := bq1_some hf
    refine mcv_v (As := [.int x1, .int x2]) C0 I (kX7_setWay h3) (cwV 2 C0.2.2.2.2 (gwV wd_784 wd_786 wd_34 wd_73 wd_787) rfl rfl rfl dsc_X7_setWay ⟨Nat.le_of_ble_eq_true rfl, Nat.le_of_ble_eq_true rfl⟩) (mo_0 I) rfl hl.1 rfl (Nat.le_of_ble_eq_true rfl) dX7_addsDrawn_13 (fun H locs I => ?_)
    refine lv_aload_n hx hb dX7_addsDrawn_16 rfl (lv_at hl 0 rfl) ?_
    refine lv_iload_n hx hb dX7_addsDrawn_17 rfl (lv_at hl 1 rfl) ?_
    refine lv_iconst (v := 1) hx hb dX7_addsDrawn_18 (by decide) ?_
    obtain ⟨S4, h4, hf⟩ := bq1_some hf
    refine mcv_v (As := [.int x1, .int (1 : Int32)]) C0 I (kX7_loadsBy h4) (cwV 2 C0.2.2.2.2 (gwV wd_824 wd_826 wd_42 wd_73 wd_827) rfl rfl rfl dsc_X7_loadsBy ⟨Nat.le_of_ble_eq_true rfl, Nat.le_of_ble_eq_true rfl⟩) (mo_0 I) rfl hl.1 rfl (Nat.le_of_ble_eq_true rfl) dX7_addsDrawn_19 (fun H locs I => ?_)
    refine lv_iinc (v := (x2 + (1 : Int32))) (lv' := [(2, .int (x2 + (1 : Int32))), (0, .ref (g.2.2 0)), (1, .int x1)]) hx hb dX7_addsDrawn_22 hl (k := 2) rfl rfl (by decide) rfl (fun ls hl => ?_)
    refine lv_goto (tgt := 2) hx hb dX7_addsDrawn_25 (by decide) ?_
    obtain ⟨rfl, rfl, rfl⟩ := se3 hf
    exact Kt rfl _ _ _ I (lv_sub hl [1, 2, 0] rfl)
set_option maxHeartbeats 4000000 in
theorem lX7_addsDrawn_2 (C0 : CallFix p m c cX7_addsDrawn 3 s args big RX7) (hr : meth.sig.returnType = none) (hk : meth.locks = false) {x1 : Int32} {S' : St} {y2 : Int32} : ∀ (n : Nat) {S : St} {x2 : Int32}, lp (fun q => bX7_addsDrawn_2 x1 q.1 q.2) n (S, x2) = some (S', y2) → ∀ {H : Heap} {locs : List Loc}, mI g s S H locs → ∀ {ls : Array Slot}, lv_has ls 3 [(0, .ref (g.2.2 0)), (1, .int x1), (2, .int x2)] → (∀ (H : Heap) (locs : List Loc) (ls : Array Slot), mI g s S' H locs → lv_has ls 3 [(0, .ref (g.2.2 0)), (1, .int x1), (2, .int y2)] → W p l e ({ frames := 2, cells := 0, slots := 0, locals := 48 } : Room) s m args below meth c H locs 0 0 Q (F0 m 28 ls [])) → W p l e ({ frames := 2, cells := 0, slots := 0, locals := 48 } : Room) s m args below meth c H locs 0 0 Q (F0 m 2 ls []) := by
  intro n
  induction n with
  | zero => intro S x2 hf; cases hf
  | succ n ih =>
    intro S x2 hf H locs I ls hl K
    obtain ⟨b, ⟨z0, z1⟩, h1, h2, h3⟩ := lp_some hf
    refine BX7_addsDrawn_2 C0 hr hk (fun hb1 H locs ls I hl => ?_) (fun hb1 H locs ls I hl => ?_) h1 I hl
    · exact ih (h2 hb1) I hl K
    · have e := h3 hb1
      cases e
      exact K H locs ls I hl
set_option maxHeartbeats 4000000 in
set_option maxRecDepth 100000 in
theorem tX7_addsDrawn_0 (C0 : CallFix p m c cX7_addsDrawn 3 s args big RX7) (hr : meth.sig.returnType = none) (hk : meth.locks = false) {x1 : Int32}  (hf : fX7_addsDrawn S x1 = some S') (I : mI g s S H locs) (hl : lv_has ls 3 [(0, .ref (g.2.2 0)), (1, .int x1)]) : W p l e ({ frames := 2, cells := 0, slots := 0, locals := 48 } : Room) s m args below meth c H locs 0 0 (MQ below (va_Qv (fun S2 => S2 = S') (mB g) (mA g)) args s 0 0 (mA g)) (F0 m 0 ls []) := by
  obtain ⟨hx, hb, hml, -, -⟩ := id C0
  unfold fX7_addsDrawn at hf
  refine lv_iconst (v := 0) hx hb dX7_addsDrawn_0 (by decide) ?_
  refine lv_istore_n (lv' := [(2, .int (0 : Int32)), (0, .ref (g.2.2 0)), (1, .int x1)]) hx hb dX7_addsDrawn_1 rfl hl (by decide) rfl (fun ls hl => ?_)
  obtain ⟨S5, y2_5, h5, hf⟩ := bq2_some hf
  refine lX7_addsDrawn_2 C0 hr hk fu h5 I (lv_sub hl [1, 2, 0] rfl) (fun H locs ls I hl => ?_)
  refine lv_aload_n hx hb dX7_addsDrawn_28 rfl (lv_at hl 0 rfl) ?_
  refine lv_iload_n hx hb dX7_addsDrawn_29 rfl (lv_at hl 1 rfl) ?_
  refine lv_aload_n hx hb dX7_addsDrawn_30 rfl (lv_at hl 0 rfl) ?_
  refine mg_X7_26_0 C0 I dX7_addsDrawn_31 ?_
  refine lv_iload_n hx hb dX7_addsDrawn_34 rfl (lv_at hl 1 rfl) ?_
  obtain ⟨b6, hf⟩ := chk_some hf
  refine ml_5 hx hb I b6 dX7_addsDrawn_35 ?_
  obtain ⟨S7, h7, hf⟩ := bq1_some hf
  refine mcv_v (As := [.int x1, .int (gR S5 4 x1)]) C0 I (kX7_setWay h7) (cwV 2 C0.2.2.2.2 (gwV wd_784 wd_786 wd_34 wd_73 wd_787) rfl rfl rfl dsc_X7_setWay ⟨Nat.le_of_ble_eq_true rfl, Nat.le_of_ble_eq_true rfl⟩) (mo_0 I) rfl hl.1 rfl (Nat.le_of_ble_eq_true rfl) dX7_addsDrawn_36 (fun H locs I => ?_)
  obtain rfl := se1 hf
  exact mrv C0 hr hk I dX7_addsDrawn_39
set_option maxRecDepth 100000 in
theorem kX7_addsDrawn {x1 : Int32}  (hf : fX7_addsDrawn S x1 = some S') : Met l yX7_addsDrawn (Cond.code yX7_addsDrawn cX7_addsDrawn 3 none :: big) ({ frames := 2, cells := 0, slots := 0, locals := 48 } : Room) (va_Pc [.ref (g.2.2 0), .int x1] (mB g S)) (va_Qv (fun S2 => S2 = S') (mB g) (mA g)) 0 0 (mA g) := by
  refine Met.ofW (cc := cX7_addsDrawn) (maxL := 3) (ret := none) (by decide) rfl ?_
  intro p e s m args below meth c s₁ B hml hv
  obtain ⟨rfl, hP, hK, hD⟩ := hv
  have hts0 := atoms_spec (ws := (Cond.code yX7_addsDrawn cX7_addsDrawn 3 none :: big)) B.pre
  have C0 : CallFix p m c cX7_addsDrawn 3 s _ big RX7 := ⟨B.exec, B.bytes, hml, findClass_of_methodNamed B.named, fun w h => hts0 w (List.mem_cons_of_mem _ h)⟩
  have I : mI g s S s.heap [] := ⟨hK, hP, hD, va_S.rf⟩
  have hl := lv_entry ([.ref (g.2.2 0), .int x1]) (n := 3) (Nat.le_of_ble_eq_true rfl)
  rw [lg_entry_eq]
  generalize (lg_sl ([.ref (g.2.2 0), .int x1]) ++ List.replicate (3 - (lg_sl ([.ref (g.2.2 0), .int x1])).length) Slot.unset).toArray = ls at hl ⊢
  have hl : lv_has ls 3 [(0, .ref (g.2.2 0)), (1, .int x1)] := hl
  exact tX7_addsDrawn_0 C0 B.returns B.notSynchronized hf I (lv_sub hl [0, 1] rfl)
set_option maxHeartbeats 4000000 in
set_option maxRecDepth 100000 in
theorem BX7_setExpected_10 (C0 : CallFix p m c cX7_setExpected 3 s args big RX7) (hr : meth.sig.returnType = none) (hk : meth.locks = false) {x1 : Int32} {x2 : Int32} {b : Bool} {y2 : Int32} (Kt : b = true → ∀ (H : Heap) (locs : List Loc) (ls : Array Slot), mI g s S' H locs → lv_has ls 3 [(0, .ref (g.2.2 0)), (1, .int x1), (2, .int y2)] → W p l e ({ frames := 3, cells := 0, slots := 0, locals := 70 } : Room) s m args below meth c H locs 0 0 Q (F0 m 10 ls [])) (Kf : b = false → ∀ (H : Heap) (locs : List Loc) (ls : Array Slot), mI g s S' H locs → lv_has ls 3 [(0, .ref (g.2.2 0)), (1, .int x1), (2, .int y2)] → W p l e ({ frames := 3, cells := 0, slots := 0, locals := 70 } : Room) s m args below meth c H locs 0 0 Q (F0 m 46 ls [])) (hf : bX7_setExpected_10 x1 S x2 = some (b, S', y2)) (I : mI g s S H locs) (hl : lv_has ls 3 [(0, .ref (g.2.2 0)), (1, .int x1), (2, .int x2)]) : W p l e ({ frames := 3, cells := 0, slots := 0, locals := 70 } : Room) s m args below meth c H locs 0 0 Q (F0 m 10 ls []) := by
  obtain ⟨hx, hb, hml, -, -⟩ := id C0
  unfold bX7_setExpected_10 at hf
  refine lv_iload_n hx hb dX7_setExpected_10 rfl (lv_at hl 2 rfl) ?_
  refine lv_aload_n hx hb dX7_setExpected_11 rfl (lv_at hl 0 rfl) ?_
  refine mg_X7_76_0 C0 I dX7_setExpected_12 ?_
  refine lv_icmp_ge (tgt := 46) hx hb dX7_setExpected_15 (by decide) (fun c3 => ?_) (fun c3 => ?_)
  · have hf := ip c3 hf
    obtain ⟨rfl, rfl, rfl⟩ := se3 hf
    exact Kf rfl _ _ _ I (lv_sub hl [0, 1, 2] rfl)
  · have hf := inn c3 hf
    refine lv_iload_n hx hb dX7_setExpected_18 rfl (lv_at hl 2 rfl) ?_
    refine lv_iload_n hx hb dX7_setExpected_19 rfl (lv_at hl 1 rfl) ?_
    refine lv_icmp_ge (tgt := 35) hx hb dX7_setExpected_20 (by decide) (fun c4 => ?_) (fun c4 => ?_)
    · have hf := ip c4 hf
      refine lv_aload_n hx hb dX7_setExpected_35 rfl (lv_at hl 0 rfl) ?_
      refine lv_iload_n hx hb dX7_setExpected_36 rfl (lv_at hl 2 rfl) ?_
      obtain ⟨S5, h5, hf⟩ := bq1_some hf
      refine mcv_v (As := [.int x2]) C0 I (kX7_addsDrawn h5) (cwV 1 C0.2.2.2.2 (gwV wd_855 wd_857 wd_47 wd_73 wd_858) rfl rfl rfl dsc_X7_addsDrawn ⟨Nat.le_of_ble_eq_true rfl, Nat.le_of_ble_eq_true rfl⟩) (mo_0 I) rfl hl.1 rfl (Nat.le_of_ble_eq_true rfl) dX7_setExpected_37 (fun H locs I => ?_)
      refine lv_iinc (v := (x2 + (1 : Int32))) (lv' := [(2, .int (x2 + (1 : Int32))), (0, .ref (g.2.2 0)), (1, .int x1)]) hx hb dX7_setExpected_40 hl (k := 2) rfl rfl (by decide) rfl (fun ls hl => ?_)
      refine lv_goto (tgt := 10) hx hb dX7_setExpected_43 (by decide) ?_
      obtain ⟨rfl, rfl, rfl⟩ := se3 hf
      exact Kt rfl _ _ _ I (lv_sub hl [1, 2, 0] rfl)
    · have hf := inn c4 hf
      refine lv_aload_n hx hb dX7_setExpected_23 rfl (lv_at hl 0 rfl) ?_
      refine lv_iload_n hx hb dX7_setExpected_24 rfl (lv_at hl 2 rfl) ?_
      refine lv_aload_n hx hb dX7_setExpected_25 rfl (lv_at hl 0 rfl) ?_
      obtain ⟨r6, h6, hf⟩ := bq1_some hf
      refine mcv_i (As := []) C0 I (kX7_corners h6) (cwV 0 C0.2.2.2.2 (gwV wd_721 wd_723 wd_26 wd_73 wd_724) rfl rfl rfl dsc_X7_corners ⟨Nat.le_of_ble_eq_true rfl, Nat.le_of_ble_eq_true rfl⟩) (mo_0 I) rfl hl.1 rfl (Nat.le_of_ble_eq_true rfl) dX7_setExpected_26 (fun H locs I => ?_)
      obtain ⟨S7, h7, hf⟩ := bq1_some hf
      refine mcv_v (As := [.int x2, .int r6]) C0 I (kX7_loadsBy h7) (cwV 2 C0.2.2.2.2 (gwV wd_824 wd_826 wd_42 wd_73 wd_827) rfl rfl rfl dsc_X7_loadsBy ⟨Nat.le_of_ble_eq_true rfl, Nat.le_of_ble_eq_true rfl⟩) (mo_0 I) rfl hl.1 rfl (Nat.le_of_ble_eq_true rfl) dX7_setExpected_29 (fun H locs I => ?_)
      refine lv_goto (tgt := 40) hx hb dX7_setExpected_32 (by decide) ?_
      refine lv_iinc (v := (x2 + (1 : Int32))) (lv' := [(2, .int (x2 + (1 : Int32))), (0, .ref (g.2.2 0)), (1, .int x1)]) hx hb dX7_setExpected_40 hl (k := 2) rfl rfl (by decide) rfl (fun ls hl => ?_)
      refine lv_goto (tgt := 10) hx hb dX7_setExpected_43 (by decide) ?_
      obtain ⟨rfl, rfl, rfl⟩ := se3 hf
      exact Kt rfl _ _ _ I (lv_sub hl [1, 2, 0] rfl)
set_option maxHeartbeats 4000000 in
theorem lX7_setExpected_10 (C0 : CallFix p m c cX7_setExpected 3 s args big RX7) (hr : meth.sig.returnType = none) (hk : meth.locks = false) {x1 : Int32} {S' : St} {y2 : Int32} : ∀ (n : Nat) {S : St} {x2 : Int32}, lp (fun q => bX7_setExpected_10 x1 q.1 q.2) n (S, x2) = some (S', y2) → ∀ {H : Heap} {locs : List Loc}, mI g s S H locs → ∀ {ls : Array Slot}, lv_has ls 3 [(0, .ref (g.2.2 0)), (1, .int x1), (2, .int x2)] → (∀ (H : Heap) (locs : List Loc) (ls : Array Slot), mI g s S' H locs → lv_has ls 3 [(0, .ref (g.2.2 0)), (1, .int x1), (2, .int y2)] → W p l e ({ frames := 3, cells := 0, slots := 0, locals := 70 } : Room) s m args below meth c H locs 0 0 Q (F0 m 46 ls [])) → W p l e ({ frames := 3, cells := 0, slots := 0, locals := 70 } : Room) s m args below meth c H locs 0 0 Q (F0 m 10 ls []) := by
  intro n
  induction n with
  | zero => intro S x2 hf; cases hf
  | succ n ih =>
    intro S x2 hf H locs I ls hl K
    obtain ⟨b, ⟨z0, z1⟩, h1, h2, h3⟩ := lp_some hf
    refine BX7_setExpected_10 C0 hr hk (fun hb1 H locs ls I hl => ?_) (fun hb1 H locs ls I hl => ?_) h1 I hl
    · exact ih (h2 hb1) I hl K
    · have e := h3 hb1
      cases e
      exact K H locs ls I hl
set_option maxHeartbeats 4000000 in
set_option maxRecDepth 100000 in
theorem tX7_setExpected_0 (C0 : CallFix p m c cX7_setExpected 3 s args big RX7) (hr : meth.sig.returnType = none) (hk : meth.locks = false) {x1 : Int32}  (hf : fX7_setExpected S x1 = some S') (I : mI g s S H locs) (hl : lv_has ls 3 [(0, .ref (g.2.2 0)), (1, .int x1)]) : W p l e ({ frames := 3, cells := 0, slots := 0, locals := 70 } : Room) s m args below meth c H locs 0 0 (MQ below (va_Qv (fun S2 => S2 = S') (mB g) (mA g)) args s 0 0 (mA g)) (F0 m 0 ls []) := by
  obtain ⟨hx, hb, hml, -, -⟩ := id C0
  unfold fX7_setExpected at hf
  refine lv_aload_n hx hb dX7_setExpected_0 rfl (lv_at hl 0 rfl) ?_
  obtain ⟨S1, h1, hf⟩ := bq1_some hf
  refine mcv_v (As := []) C0 I (kX7_setWays h1) (cwV 0 C0.2.2.2.2 (gwV wd_780 wd_782 wd_33 wd_73 wd_783) rfl rfl rfl dsc_X7_setWays ⟨Nat.le_of_ble_eq_true rfl, Nat.le_of_ble_eq_true rfl⟩) (mo_0 I) rfl hl.1 rfl (Nat.le_of_ble_eq_true rfl) dX7_setExpected_1 (fun H locs I => ?_)
  refine lv_aload_n hx hb dX7_setExpected_4 rfl (lv_at hl 0 rfl) ?_
  obtain ⟨S2, h2, hf⟩ := bq1_some hf
  refine mcv_v (As := []) C0 I (kX7_noLoads h2) (cwV 0 C0.2.2.2.2 (gwV wd_820 wd_822 wd_41 wd_73 wd_823) rfl rfl rfl dsc_X7_noLoads ⟨Nat.le_of_ble_eq_true rfl, Nat.le_of_ble_eq_true rfl⟩) (mo_0 I) rfl hl.1 rfl (Nat.le_of_ble_eq_true rfl) dX7_setExpected_5 (fun H locs I => ?_)
  refine lv_iconst (v := 0) hx hb dX7_setExpected_8 (by decide) ?_
  refine lv_istore_n (lv' := [(2, .int (0 : Int32)), (0, .ref (g.2.2 0)), (1, .int x1)]) hx hb dX7_setExpected_9 rfl hl (by decide) rfl (fun ls hl => ?_)
  obtain ⟨S8, y2_8, h8, hf⟩ := bq2_some hf
  refine lX7_setExpected_10 C0 hr hk fu h8 I (lv_sub hl [1, 2, 0] rfl) (fun H locs ls I hl => ?_)
  obtain rfl := se1 hf
  exact mrv C0 hr hk I dX7_setExpected_46
set_option maxRecDepth 100000 in
theorem kX7_setExpected {x1 : Int32}  (hf : fX7_setExpected S x1 = some S') : Met l yX7_setExpected (Cond.code yX7_setExpected cX7_setExpected 3 none :: big) ({ frames := 3, cells := 0, slots := 0, locals := 70 } : Room) (va_Pc [.ref (g.2.2 0), .int x1] (mB g S)) (va_Qv (fun S2 => S2 = S') (mB g) (mA g)) 0 0 (mA g) := by
  refine Met.ofW (cc := cX7_setExpected) (maxL := 3) (ret := none) (by decide) rfl ?_
  intro p e s m args below meth c s₁ B hml hv
  obtain ⟨rfl, hP, hK, hD⟩ := hv
  have hts0 := atoms_spec (ws := (Cond.code yX7_setExpected cX7_setExpected 3 none :: big)) B.pre
  have C0 : CallFix p m c cX7_setExpected 3 s _ big RX7 := ⟨B.exec, B.bytes, hml, findClass_of_methodNamed B.named, fun w h => hts0 w (List.mem_cons_of_mem _ h)⟩
  have I : mI g s S s.heap [] := ⟨hK, hP, hD, va_S.rf⟩
  have hl := lv_entry ([.ref (g.2.2 0), .int x1]) (n := 3) (Nat.le_of_ble_eq_true rfl)
  rw [lg_entry_eq]
  generalize (lg_sl ([.ref (g.2.2 0), .int x1]) ++ List.replicate (3 - (lg_sl ([.ref (g.2.2 0), .int x1])).length) Slot.unset).toArray = ls at hl ⊢
  have hl : lv_has ls 3 [(0, .ref (g.2.2 0)), (1, .int x1)] := hl
  exact tX7_setExpected_0 C0 B.returns B.notSynchronized hf I (lv_sub hl [0, 1] rfl)
set_option maxHeartbeats 4000000 in
set_option maxRecDepth 100000 in
theorem BX7_tellsPart_7 (C0 : CallFix p m c cX7_tellsPart 5 s args big RX7) (hr : meth.sig.returnType = none) (hk : meth.locks = false) {x1 : Int32} {x2 : Int32} {x3 : Int32} {b : Bool} {y2 : Int32} {y3 : Int32} (Kt : b = true → ∀ (H : Heap) (locs : List Loc) (ls : Array Slot), mI g s S H locs → lv_has ls 5 [(0, .ref (g.2.2 0)), (1, .int x1), (2, .int y2), (3, .int y3)] → W p l e ({ frames := 1, cells := 0, slots := 0, locals := 20 } : Room) s m args below meth c H locs 0 0 Q (F0 m 7 ls [])) (Kf : b = false → ∀ (H : Heap) (locs : List Loc) (ls : Array Slot), mI g s S H locs → lv_has ls 5 [(0, .ref (g.2.2 0)), (1, .int x1), (2, .int y2), (3, .int y3)] → W p l e ({ frames := 1, cells := 0, slots := 0, locals := 20 } : Room) s m args below meth c H locs 0 0 Q (F0 m 24 ls [])) (hf : bX7_tellsPart_7 x2 x3 = some (b, y2, y3)) (I : mI g s S H locs) (hl : lv_has ls 5 [(0, .ref (g.2.2 0)), (1, .int x1), (2, .int x2), (3, .int x3)]) : W p l e ({ frames := 1, cells := 0, slots := 0, locals := 20 } : Room) s m args below meth c H locs 0 0 Q (F0 m 7 ls []) := by
  obtain ⟨hx, hb, hml, -, -⟩ := id C0
  unfold bX7_tellsPart_7 at hf
  refine lv_iload_n hx hb dX7_tellsPart_7 rfl (lv_at hl 3 rfl) ?_
  refine lv_if_eq (tgt := 24) hx hb dX7_tellsPart_8 (by decide) (fun c2 => ?_) (fun c2 => ?_)
  · have hf := ip c2 hf
    obtain ⟨rfl, rfl, rfl⟩ := se3 hf
    exact Kf rfl _ _ _ I (lv_sub hl [0, 1, 2, 3] rfl)
  · have hf := inn c2 hf
    refine lv_iload_n hx hb dX7_tellsPart_11 rfl (lv_at hl 2 rfl) ?_
    refine lv_iload_n hx hb dX7_tellsPart_12 rfl (lv_at hl 3 rfl) ?_
    obtain ⟨n3, hf⟩ := nz_some hf
    refine lv_irem hx hb dX7_tellsPart_13 n3 ?_
    refine lv_istore (lv' := [(4, .int (x2 - x2 / x3 * x3)), (0, .ref (g.2.2 0)), (1, .int x1), (2, .int x2), (3, .int x3)]) hx hb dX7_tellsPart_14 hl (by decide) rfl (fun ls hl => ?_)
    refine lv_iload_n hx hb dX7_tellsPart_16 rfl (lv_at hl 4 rfl) ?_
    refine lv_istore_n (lv' := [(2, .int x3), (4, .int (x2 - x2 / x3 * x3)), (0, .ref (g.2.2 0)), (1, .int x1), (3, .int x3)]) hx hb dX7_tellsPart_17 rfl hl (by decide) rfl (fun ls hl => ?_)
    refine lv_iload hx hb dX7_tellsPart_18 (lv_at hl 1 rfl) ?_
    refine lv_istore_n (lv' := [(3, .int (x2 - x2 / x3 * x3)), (2, .int x3), (4, .int (x2 - x2 / x3 * x3)), (0, .ref (g.2.2 0)), (1, .int x1)]) hx hb dX7_tellsPart_20 rfl hl (by decide) rfl (fun ls hl => ?_)
    refine lv_goto (tgt := 7) hx hb dX7_tellsPart_21 (by decide) ?_
    obtain ⟨rfl, rfl, rfl⟩ := se3 hf
    exact Kt rfl _ _ _ I (lv_sub hl [3, 4, 1, 0] rfl)
set_option maxHeartbeats 4000000 in
theorem lX7_tellsPart_7 (C0 : CallFix p m c cX7_tellsPart 5 s args big RX7) (hr : meth.sig.returnType = none) (hk : meth.locks = false) {S : St} {x1 : Int32} {y2 : Int32} {y3 : Int32} : ∀ (n : Nat) {x2 : Int32} {x3 : Int32}, lp (fun q => bX7_tellsPart_7 q.1 q.2) n (x2, x3) = some (y2, y3) → ∀ {H : Heap} {locs : List Loc}, mI g s S H locs → ∀ {ls : Array Slot}, lv_has ls 5 [(0, .ref (g.2.2 0)), (1, .int x1), (2, .int x2), (3, .int x3)] → (∀ (H : Heap) (locs : List Loc) (ls : Array Slot), mI g s S H locs → lv_has ls 5 [(0, .ref (g.2.2 0)), (1, .int x1), (2, .int y2), (3, .int y3)] → W p l e ({ frames := 1, cells := 0, slots := 0, locals := 20 } : Room) s m args below meth c H locs 0 0 Q (F0 m 24 ls [])) → W p l e ({ frames := 1, cells := 0, slots := 0, locals := 20 } : Room) s m args below meth c H locs 0 0 Q (F0 m 7 ls []) := by
  intro n
  induction n with
  | zero => intro x2 x3 hf; cases hf
  | succ n ih =>
    intro x2 x3 hf H locs I ls hl K
    obtain ⟨b, ⟨z0, z1⟩, h1, h2, h3⟩ := lp_some hf
    refine BX7_tellsPart_7 C0 hr hk (fun hb1 H locs ls I hl => ?_) (fun hb1 H locs ls I hl => ?_) h1 I hl
    · exact ih (h2 hb1) I hl K
    · have e := h3 hb1
      cases e
      exact K H locs ls I hl
set_option maxHeartbeats 4000000 in
set_option maxRecDepth 100000 in
theorem tX7_tellsPart_0 (C0 : CallFix p m c cX7_tellsPart 5 s args big RX7) (hr : meth.sig.returnType = none) (hk : meth.locks = false) {x1 : Int32}  (hf : fX7_tellsPart S x1 = some S') (I : mI g s S H locs) (hl : lv_has ls 5 [(0, .ref (g.2.2 0)), (1, .int x1)]) : W p l e ({ frames := 1, cells := 0, slots := 0, locals := 20 } : Room) s m args below meth c H locs 0 0 (MQ below (va_Qv (fun S2 => S2 = S') (mB g) (mA g)) args s 0 0 (mA g)) (F0 m 0 ls []) := by
  obtain ⟨hx, hb, hml, -, -⟩ := id C0
  unfold fX7_tellsPart at hf
  refine lv_iload_n hx hb dX7_tellsPart_0 rfl (lv_at hl 1 rfl) ?_
  refine lv_istore_n (lv' := [(2, .int x1), (0, .ref (g.2.2 0)), (1, .int x1)]) hx hb dX7_tellsPart_1 rfl hl (by decide) rfl (fun ls hl => ?_)
  refine lv_aload_n hx hb dX7_tellsPart_2 rfl (lv_at hl 1 rfl) ?_
  obtain ⟨r1, h1, hf⟩ := bq1_some hf
  refine mcv_i (As := []) C0 I (kX7_corners h1) (cwV 0 C0.2.2.2.2 (gwV wd_721 wd_723 wd_26 wd_73 wd_724) rfl rfl rfl dsc_X7_corners ⟨Nat.le_of_ble_eq_true rfl, Nat.le_of_ble_eq_true rfl⟩) (mo_0 I) rfl hl.1 rfl (Nat.le_of_ble_eq_true rfl) dX7_tellsPart_3 (fun H locs I => ?_)
  refine lv_istore_n (lv' := [(3, .int r1), (2, .int x1), (0, .ref (g.2.2 0)), (1, .int x1)]) hx hb dX7_tellsPart_6 rfl hl (by decide) rfl (fun ls hl => ?_)
  obtain ⟨y2_4, y3_4, h4, hf⟩ := bq2_some hf
  refine lX7_tellsPart_7 C0 hr hk fu h4 I (lv_sub hl [2, 3, 1, 0] rfl) (fun H locs ls I hl => ?_)
  refine lv_aload_n hx hb dX7_tellsPart_24 rfl (lv_at hl 0 rfl) ?_
  refine lv_iload_n hx hb dX7_tellsPart_25 rfl (lv_at hl 1 rfl) ?_
  refine lv_iload_n hx hb dX7_tellsPart_26 rfl (lv_at hl 2 rfl) ?_
  obtain ⟨n5, hf⟩ := nz_some hf
  refine lv_idiv hx hb dX7_tellsPart_27 n5 ?_
  refine mp_X7_179_0 C0 I dX7_tellsPart_28 (fun H locs I => ?_)
  refine lv_aload_n hx hb dX7_tellsPart_31 rfl (lv_at hl 0 rfl) ?_
  refine lv_aload_n hx hb dX7_tellsPart_32 rfl (lv_at hl 0 rfl) ?_
  obtain ⟨r6, h6, hf⟩ := bq1_some hf
  refine mcv_i (As := []) C0 I (kX7_corners h6) (cwV 0 C0.2.2.2.2 (gwV wd_721 wd_723 wd_26 wd_73 wd_724) rfl rfl rfl dsc_X7_corners ⟨Nat.le_of_ble_eq_true rfl, Nat.le_of_ble_eq_true rfl⟩) (mo_0 I) rfl hl.1 rfl (Nat.le_of_ble_eq_true rfl) dX7_tellsPart_33 (fun H locs I => ?_)
  refine lv_iload_n hx hb dX7_tellsPart_36 rfl (lv_at hl 2 rfl) ?_
  obtain ⟨n7, hf⟩ := nz_some hf
  refine lv_idiv hx hb dX7_tellsPart_37 n7 ?_
  refine mp_X7_47_0 C0 I dX7_tellsPart_38 (fun H locs I => ?_)
  obtain rfl := se1 hf
  exact mrv C0 hr hk I dX7_tellsPart_41
set_option maxRecDepth 100000 in
theorem kX7_tellsPart {x1 : Int32}  (hf : fX7_tellsPart S x1 = some S') : Met l yX7_tellsPart (Cond.code yX7_tellsPart cX7_tellsPart 5 none :: big) ({ frames := 1, cells := 0, slots := 0, locals := 20 } : Room) (va_Pc [.ref (g.2.2 0), .int x1] (mB g S)) (va_Qv (fun S2 => S2 = S') (mB g) (mA g)) 0 0 (mA g) := by
  refine Met.ofW (cc := cX7_tellsPart) (maxL := 5) (ret := none) (by decide) rfl ?_
  intro p e s m args below meth c s₁ B hml hv
  obtain ⟨rfl, hP, hK, hD⟩ := hv
  have hts0 := atoms_spec (ws := (Cond.code yX7_tellsPart cX7_tellsPart 5 none :: big)) B.pre
  have C0 : CallFix p m c cX7_tellsPart 5 s _ big RX7 := ⟨B.exec, B.bytes, hml, findClass_of_methodNamed B.named, fun w h => hts0 w (List.mem_cons_of_mem _ h)⟩
  have I : mI g s S s.heap [] := ⟨hK, hP, hD, va_S.rf⟩
  have hl := lv_entry ([.ref (g.2.2 0), .int x1]) (n := 5) (Nat.le_of_ble_eq_true rfl)
  rw [lg_entry_eq]
  generalize (lg_sl ([.ref (g.2.2 0), .int x1]) ++ List.replicate (5 - (lg_sl ([.ref (g.2.2 0), .int x1])).length) Slot.unset).toArray = ls at hl ⊢
  have hl : lv_has ls 5 [(0, .ref (g.2.2 0)), (1, .int x1)] := hl
  exact tX7_tellsPart_0 C0 B.returns B.notSynchronized hf I (lv_sub hl [0, 1] rfl)
set_option maxHeartbeats 4000000 in
set_option maxRecDepth 100000 in
theorem tX7_expected_19 (C0 : CallFix p m c cX7_expected 4 s args big RX7) (hr : meth.sig.returnType = (some .int)) (hk : meth.locks = false)  {rr : Int32}  (hf : fX7_expected_19 S = some (rr, S')) (I : mI g s S H locs) (hl : lv_has ls 4 [(0, .ref (g.2.2 0))]) : W p l e ({ frames := 4, cells := 0, slots := 0, locals := 92 } : Room) s m args below meth c H locs 0 0 (MQ below (va_Qi (fun r' S2 => r' = rr ∧ S2 = S') (mB g) (mA g)) args s 0 0 (mA g)) (F0 m 19 ls []) := by
  obtain ⟨hx, hb, hml, -, -⟩ := id C0
  unfold fX7_expected_19 at hf
  refine lv_aload_n hx hb dX7_expected_19 rfl (lv_at hl 0 rfl) ?_
  obtain ⟨r3, S3, h3, hf⟩ := bq2_some hf
  refine mcv_i (As := []) C0 I (kX7_bad h3) (cwV 0 C0.2.2.2.2 (gwV wd_705 wd_707 wd_23 wd_73 wd_708) rfl rfl rfl dsc_X7_bad ⟨Nat.le_of_ble_eq_true rfl, Nat.le_of_ble_eq_true rfl⟩) (mo_0 I) rfl hl.1 rfl (Nat.le_of_ble_eq_true rfl) dX7_expected_20 (fun H locs I => ?_)
  obtain ⟨rfl, rfl⟩ := se2 hf
  exact mri C0 hr hk I dX7_expected_23
set_option maxHeartbeats 4000000 in
set_option maxRecDepth 100000 in
theorem tX7_expected_0 (C0 : CallFix p m c cX7_expected 4 s args big RX7) (hr : meth.sig.returnType = (some .int)) (hk : meth.locks = false) {x1 : Int32} {x2 : Int32} {x3 : Int32} {rr : Int32}  (hf : fX7_expected S x1 x2 x3 = some (rr, S')) (I : mI g s S H locs) (hl : lv_has ls 4 [(0, .ref (g.2.2 0)), (1, .int x1), (2, .int x2), (3, .int x3)]) : W p l e ({ frames := 4, cells := 0, slots := 0, locals := 92 } : Room) s m args below meth c H locs 0 0 (MQ below (va_Qi (fun r' S2 => r' = rr ∧ S2 = S') (mB g) (mA g)) args s 0 0 (mA g)) (F0 m 0 ls []) := by
  obtain ⟨hx, hb, hml, -, -⟩ := id C0
  unfold fX7_expected at hf
  refine lv_aload_n hx hb dX7_expected_0 rfl (lv_at hl 0 rfl) ?_
  refine lv_iload_n hx hb dX7_expected_1 rfl (lv_at hl 1 rfl) ?_
  refine lv_iload_n hx hb dX7_expected_2 rfl (lv_at hl 2 rfl) ?_
  obtain ⟨r1, h1, hf⟩ := bq1_some hf
  refine mcv_i (As := [.int x1, .int x2]) C0 I (kX7_isEdge h1) (cwV 2 C0.2.2.2.2 (gwV wd_812 wd_814 wd_39 wd_73 wd_815) rfl rfl rfl dsc_X7_isEdge ⟨Nat.le_of_ble_eq_true rfl, Nat.le_of_ble_eq_true rfl⟩) (mo_0 I) rfl hl.1 rfl (Nat.le_of_ble_eq_true rfl) dX7_expected_3 (fun H locs I => ?_)
  refine lv_if_eq (tgt := 19) hx hb dX7_expected_6 (by decide) (fun c2 => ?_) (fun c2 => ?_)
  · have hf := ip c2 hf
    exact tX7_expected_19 C0 hr hk hf I (lv_sub hl [0] rfl)
  · have hf := inn c2 hf
    refine lv_iload_n hx hb dX7_expected_9 rfl (lv_at hl 3 rfl) ?_
    refine lv_iconst (v := 0) hx hb dX7_expected_10 (by decide) ?_
    refine lv_bipush (v := 16) hx hb dX7_expected_11 (by decide) ?_
    obtain ⟨r4, h4, hf⟩ := bq1_some hf
    refine mcs_i (As := [.int x3, .int (0 : Int32), .int (16 : Int32)]) C0 I (kX7_in h4) (va_cwS 3 C0.2.2.2.2 (gwS wd_702 wd_703 wd_73 wd_704) rfl rfl rfl dsc_X7_in.2 ⟨Nat.le_of_ble_eq_true rfl, Nat.le_of_ble_eq_true rfl⟩) rfl hl.1 rfl (Nat.le_of_ble_eq_true rfl) dX7_expected_13 (fun H locs I => ?_)
    refine lv_if_ne (tgt := 24) hx hb dX7_expected_16 (by decide) (fun c5 => ?_) (fun c5 => ?_)
    · have hf := inn c5 hf
      refine lv_aload_n hx hb dX7_expected_24 rfl (lv_at hl 0 rfl) ?_
      refine lv_iload_n hx hb dX7_expected_25 rfl (lv_at hl 3 rfl) ?_
      obtain ⟨S6, h6, hf⟩ := bq1_some hf
      refine mcv_v (As := [.int x3]) C0 I (kX7_setExpected h6) (cwV 1 C0.2.2.2.2 (gwV wd_851 wd_853 wd_46 wd_73 wd_854) rfl rfl rfl dsc_X7_setExpected ⟨Nat.le_of_ble_eq_true rfl, Nat.le_of_ble_eq_true rfl⟩) (mo_0 I) rfl hl.1 rfl (Nat.le_of_ble_eq_true rfl) dX7_expected_26 (fun H locs I => ?_)
      refine lv_aload_n hx hb dX7_expected_29 rfl (lv_at hl 0 rfl) ?_
      refine lv_aload_n hx hb dX7_expected_30 rfl (lv_at hl 0 rfl) ?_
      refine mg_X7_44_0 C0 I dX7_expected_31 ?_
      refine lv_iconst (v := 4) hx hb dX7_expected_34 (by decide) ?_
      refine lv_iload_n hx hb dX7_expected_35 rfl (lv_at hl 1 rfl) ?_
      refine lv_imul hx hb dX7_expected_36 ?_
      refine lv_iload_n hx hb dX7_expected_37 rfl (lv_at hl 2 rfl) ?_
      refine lv_iadd hx hb dX7_expected_38 ?_
      obtain ⟨b7, hf⟩ := chk_some hf
      refine ml_11 hx hb I b7 dX7_expected_39 ?_
      obtain ⟨S8, h8, hf⟩ := bq1_some hf
      refine mcv_v (As := [.int (gR S6 10 (((4 : Int32) * x1) + x2))]) C0 I (kX7_tellsPart h8) (cwV 1 C0.2.2.2.2 (gwV wd_859 wd_861 wd_48 wd_73 wd_862) rfl rfl rfl dsc_X7_tellsPart ⟨Nat.le_of_ble_eq_true rfl, Nat.le_of_ble_eq_true rfl⟩) (mo_0 I) rfl hl.1 rfl (Nat.le_of_ble_eq_true rfl) dX7_expected_40 (fun H locs I => ?_)
      refine lv_iconst (v := 1) hx hb dX7_expected_43 (by decide) ?_
      obtain ⟨rfl, rfl⟩ := se2 hf
      exact mri C0 hr hk I dX7_expected_44
    · have hf := ip c5 hf
      exact tX7_expected_19 C0 hr hk hf I (lv_sub hl [0] rfl)
set_option maxRecDepth 100000 in
theorem kX7_expected {x1 : Int32} {x2 : Int32} {x3 : Int32} {rr : Int32} (hf : fX7_expected S x1 x2 x3 = some (rr, S')) : Met l yX7_expected (Cond.code yX7_expected cX7_expected 4 (some .int) :: big) ({ frames := 4, cells := 0, slots := 0, locals := 92 } : Room) (va_Pc [.ref (g.2.2 0), .int x1, .int x2, .int x3] (mB g S)) (va_Qi (fun r' S2 => r' = rr ∧ S2 = S') (mB g) (mA g)) 0 0 (mA g) := by
  refine Met.ofW (cc := cX7_expected) (maxL := 4) (ret := (some .int)) (by decide) rfl ?_
  intro p e s m args below meth c s₁ B hml hv
  obtain ⟨rfl, hP, hK, hD⟩ := hv
  have hts0 := atoms_spec (ws := (Cond.code yX7_expected cX7_expected 4 (some .int) :: big)) B.pre
  have C0 : CallFix p m c cX7_expected 4 s _ big RX7 := ⟨B.exec, B.bytes, hml, findClass_of_methodNamed B.named, fun w h => hts0 w (List.mem_cons_of_mem _ h)⟩
  have I : mI g s S s.heap [] := ⟨hK, hP, hD, va_S.rf⟩
  have hl := lv_entry ([.ref (g.2.2 0), .int x1, .int x2, .int x3]) (n := 4) (Nat.le_of_ble_eq_true rfl)
  rw [lg_entry_eq]
  generalize (lg_sl ([.ref (g.2.2 0), .int x1, .int x2, .int x3]) ++ List.replicate (4 - (lg_sl ([.ref (g.2.2 0), .int x1, .int x2, .int x3])).length) Slot.unset).toArray = ls at hl ⊢
  have hl : lv_has ls 4 [(0, .ref (g.2.2 0)), (1, .int x1), (2, .int x2), (3, .int x3)] := hl
  exact tX7_expected_0 C0 B.returns B.notSynchronized hf I (lv_sub hl [0, 1, 2, 3] rfl)
set_option maxHeartbeats 4000000 in
set_option maxRecDepth 100000 in
theorem tX7_part_0 (C0 : CallFix p m c cX7_part 2 s args big RX7) (hr : meth.sig.returnType = (some .int)) (hk : meth.locks = false) {x1 : Int32} {rr : Int32}  (hf : fX7_part S x1 = some (rr, S')) (I : mI g s S H locs) (hl : lv_has ls 2 [(0, .ref (g.2.2 0)), (1, .int x1)]) : W p l e ({ frames := 1, cells := 0, slots := 0, locals := 22 } : Room) s m args below meth c H locs 0 0 (MQ below (va_Qi (fun r' S2 => r' = rr ∧ S2 = S') (mB g) (mA g)) args s 0 0 (mA g)) (F0 m 0 ls []) := by
  obtain ⟨hx, hb, hml, -, -⟩ := id C0
  unfold fX7_part at hf
  refine lv_iload_n hx hb dX7_part_0 rfl (lv_at hl 1 rfl) ?_
  refine lv_iconst (v := 0) hx hb dX7_part_1 (by decide) ?_
  refine lv_iconst (v := 1) hx hb dX7_part_2 (by decide) ?_
  obtain ⟨r1, h1, hf⟩ := bq1_some hf
  refine mcs_i (As := [.int x1, .int (0 : Int32), .int (1 : Int32)]) C0 I (kX7_in h1) (va_cwS 3 C0.2.2.2.2 (gwS wd_702 wd_703 wd_73 wd_704) rfl rfl rfl dsc_X7_in.2 ⟨Nat.le_of_ble_eq_true rfl, Nat.le_of_ble_eq_true rfl⟩) rfl hl.1 rfl (Nat.le_of_ble_eq_true rfl) dX7_part_3 (fun H locs I => ?_)
  refine lv_if_ne (tgt := 14) hx hb dX7_part_6 (by decide) (fun c2 => ?_) (fun c2 => ?_)
  · have hf := inn c2 hf
    refine lv_iload_n hx hb dX7_part_14 rfl (lv_at hl 1 rfl) ?_
    refine lv_if_ne (tgt := 25) hx hb dX7_part_15 (by decide) (fun c3 => ?_) (fun c3 => ?_)
    · have hf := inn c3 hf
      refine lv_aload_n hx hb dX7_part_25 rfl (lv_at hl 0 rfl) ?_
      refine mg_X7_47_0 C0 I dX7_part_26 ?_
      obtain ⟨rfl, rfl⟩ := se2 hf
      exact mri C0 hr hk I dX7_part_29
    · have hf := ip c3 hf
      refine lv_aload_n hx hb dX7_part_18 rfl (lv_at hl 0 rfl) ?_
      refine mg_X7_179_0 C0 I dX7_part_19 ?_
      refine lv_goto (tgt := 29) hx hb dX7_part_22 (by decide) ?_
      obtain ⟨rfl, rfl⟩ := se2 hf
      exact mri C0 hr hk I dX7_part_29
  · have hf := ip c2 hf
    refine lv_aload_n hx hb dX7_part_9 rfl (lv_at hl 0 rfl) ?_
    obtain ⟨r4, S4, h4, hf⟩ := bq2_some hf
    refine mcv_i (As := []) C0 I (kX7_bad h4) (cwV 0 C0.2.2.2.2 (gwV wd_705 wd_707 wd_23 wd_73 wd_708) rfl rfl rfl dsc_X7_bad ⟨Nat.le_of_ble_eq_true rfl, Nat.le_of_ble_eq_true rfl⟩) (mo_0 I) rfl hl.1 rfl (Nat.le_of_ble_eq_true rfl) dX7_part_10 (fun H locs I => ?_)
    obtain ⟨rfl, rfl⟩ := se2 hf
    exact mri C0 hr hk I dX7_part_13
set_option maxRecDepth 100000 in
theorem kX7_part {x1 : Int32} {rr : Int32} (hf : fX7_part S x1 = some (rr, S')) : Met l yX7_part (Cond.code yX7_part cX7_part 2 (some .int) :: big) ({ frames := 1, cells := 0, slots := 0, locals := 22 } : Room) (va_Pc [.ref (g.2.2 0), .int x1] (mB g S)) (va_Qi (fun r' S2 => r' = rr ∧ S2 = S') (mB g) (mA g)) 0 0 (mA g) := by
  refine Met.ofW (cc := cX7_part) (maxL := 2) (ret := (some .int)) (by decide) rfl ?_
  intro p e s m args below meth c s₁ B hml hv
  obtain ⟨rfl, hP, hK, hD⟩ := hv
  have hts0 := atoms_spec (ws := (Cond.code yX7_part cX7_part 2 (some .int) :: big)) B.pre
  have C0 : CallFix p m c cX7_part 2 s _ big RX7 := ⟨B.exec, B.bytes, hml, findClass_of_methodNamed B.named, fun w h => hts0 w (List.mem_cons_of_mem _ h)⟩
  have I : mI g s S s.heap [] := ⟨hK, hP, hD, va_S.rf⟩
  have hl := lv_entry ([.ref (g.2.2 0), .int x1]) (n := 2) (Nat.le_of_ble_eq_true rfl)
  rw [lg_entry_eq]
  generalize (lg_sl ([.ref (g.2.2 0), .int x1]) ++ List.replicate (2 - (lg_sl ([.ref (g.2.2 0), .int x1])).length) Slot.unset).toArray = ls at hl ⊢
  have hl : lv_has ls 2 [(0, .ref (g.2.2 0)), (1, .int x1)] := hl
  exact tX7_part_0 C0 B.returns B.notSynchronized hf I (lv_sub hl [0, 1] rfl)
set_option maxHeartbeats 4000000 in
set_option maxRecDepth 100000 in
theorem tX7_no_0 (C0 : CallFix p m c cX7_no 1 s args big RX7) (hr : meth.sig.returnType = (some .int)) (hk : meth.locks = false)  {rr : Int32}  (hf : fX7_no S = some (rr, S')) (I : mI g s S H locs) (hl : lv_has ls 1 [(0, .ref (g.2.2 0))]) : W p l e ({ frames := 0, cells := 0, slots := 0, locals := 0 } : Room) s m args below meth c H locs 0 0 (MQ below (va_Qi (fun r' S2 => r' = rr ∧ S2 = S') (mB g) (mA g)) args s 0 0 (mA g)) (F0 m 0 ls []) := by
  obtain ⟨hx, hb, hml, -, -⟩ := id C0
  unfold fX7_no at hf
  refine lv_aload_n hx hb dX7_no_0 rfl (lv_at hl 0 rfl) ?_
  refine mg_X7_7_0 C0 I dX7_no_1 ?_
  refine lv_iconst (v := 1) hx hb dX7_no_4 (by decide) ?_
  refine lv_dup2_11 hx hb dX7_no_5 rfl rfl ?_
  refine ml_1 hx hb I (in_lit rfl) dX7_no_6 ?_
  refine lv_iconst (v := 1) hx hb dX7_no_7 (by decide) ?_
  refine lv_iadd hx hb dX7_no_8 ?_
  refine ms_1 hx hb I (in_lit rfl) dX7_no_9 (fun H locs I => ?_)
  refine lv_bipush (v := -3) hx hb dX7_no_10 (by decide) ?_
  obtain ⟨rfl, rfl⟩ := se2 hf
  exact mri C0 hr hk I dX7_no_12
set_option maxRecDepth 100000 in
theorem kX7_no  {rr : Int32} (hf : fX7_no S  = some (rr, S')) : Met l yX7_no (Cond.code yX7_no cX7_no 1 (some .int) :: big) ({ frames := 0, cells := 0, slots := 0, locals := 0 } : Room) (va_Pc [.ref (g.2.2 0)] (mB g S)) (va_Qi (fun r' S2 => r' = rr ∧ S2 = S') (mB g) (mA g)) 0 0 (mA g) := by
  refine Met.ofW (cc := cX7_no) (maxL := 1) (ret := (some .int)) (by decide) rfl ?_
  intro p e s m args below meth c s₁ B hml hv
  obtain ⟨rfl, hP, hK, hD⟩ := hv
  have hts0 := atoms_spec (ws := (Cond.code yX7_no cX7_no 1 (some .int) :: big)) B.pre
  have C0 : CallFix p m c cX7_no 1 s _ big RX7 := ⟨B.exec, B.bytes, hml, findClass_of_methodNamed B.named, fun w h => hts0 w (List.mem_cons_of_mem _ h)⟩
  have I : mI g s S s.heap [] := ⟨hK, hP, hD, va_S.rf⟩
  have hl := lv_entry ([.ref (g.2.2 0)]) (n := 1) (Nat.le_of_ble_eq_true rfl)
  rw [lg_entry_eq]
  generalize (lg_sl ([.ref (g.2.2 0)]) ++ List.replicate (1 - (lg_sl ([.ref (g.2.2 0)])).length) Slot.unset).toArray = ls at hl ⊢
  have hl : lv_has ls 1 [(0, .ref (g.2.2 0))] := hl
  exact tX7_no_0 C0 B.returns B.notSynchronized hf I (lv_sub hl [0] rfl)
set_option maxHeartbeats 4000000 in
set_option maxRecDepth 100000 in
theorem tX7_greatest_0 (C0 : CallFix p m c cX7_greatest 2 s args big RX7) (hr : meth.sig.returnType = (some .int)) (hk : meth.locks = false)  {rr : Int32}  (hf : fX7_greatest S = some (rr, S')) (I : mI g s S H locs) (hl : lv_has ls 2 [(0, .ref (g.2.2 0))]) : W p l e ({ frames := 4, cells := 0, slots := 0, locals := 92 } : Room) s m args below meth c H locs 0 0 (MQ below (va_Qi (fun r' S2 => r' = rr ∧ S2 = S') (mB g) (mA g)) args s 0 0 (mA g)) (F0 m 0 ls []) := by
  obtain ⟨hx, hb, hml, -, -⟩ := id C0
  unfold fX7_greatest at hf
  refine lv_aload_n hx hb dX7_greatest_0 rfl (lv_at hl 0 rfl) ?_
  refine mg_X7_76_0 C0 I dX7_greatest_1 ?_
  refine lv_if_ne (tgt := 12) hx hb dX7_greatest_4 (by decide) (fun c1 => ?_) (fun c1 => ?_)
  · have hf := inn c1 hf
    refine lv_aload_n hx hb dX7_greatest_12 rfl (lv_at hl 0 rfl) ?_
    refine lv_iconst (v := 0) hx hb dX7_greatest_13 (by decide) ?_
    obtain ⟨S2, h2, hf⟩ := bq1_some hf
    refine mcv_v (As := [.int (0 : Int32)]) C0 I (kX7_setExpected h2) (cwV 1 C0.2.2.2.2 (gwV wd_851 wd_853 wd_46 wd_73 wd_854) rfl rfl rfl dsc_X7_setExpected ⟨Nat.le_of_ble_eq_true rfl, Nat.le_of_ble_eq_true rfl⟩) (mo_0 I) rfl hl.1 rfl (Nat.le_of_ble_eq_true rfl) dX7_greatest_14 (fun H locs I => ?_)
    refine lv_aload_n hx hb dX7_greatest_17 rfl (lv_at hl 0 rfl) ?_
    obtain ⟨r3, h3, hf⟩ := bq1_some hf
    refine mcv_i (As := []) C0 I (kX7_most h3) (cwV 0 C0.2.2.2.2 (gwV wd_836 wd_838 wd_44 wd_73 wd_839) rfl rfl rfl dsc_X7_most ⟨Nat.le_of_ble_eq_true rfl, Nat.le_of_ble_eq_true rfl⟩) (mo_0 I) rfl hl.1 rfl (Nat.le_of_ble_eq_true rfl) dX7_greatest_18 (fun H locs I => ?_)
    refine lv_istore_n (lv' := [(1, .int r3), (0, .ref (g.2.2 0))]) hx hb dX7_greatest_21 rfl hl (by decide) rfl (fun ls hl => ?_)
    refine lv_aload_n hx hb dX7_greatest_22 rfl (lv_at hl 1 rfl) ?_
    refine lv_iload_n hx hb dX7_greatest_23 rfl (lv_at hl 0 rfl) ?_
    obtain ⟨S4, h4, hf⟩ := bq1_some hf
    refine mcv_v (As := [.int r3]) C0 I (kX7_tellsPart h4) (cwV 1 C0.2.2.2.2 (gwV wd_859 wd_861 wd_48 wd_73 wd_862) rfl rfl rfl dsc_X7_tellsPart ⟨Nat.le_of_ble_eq_true rfl, Nat.le_of_ble_eq_true rfl⟩) (mo_0 I) rfl hl.1 rfl (Nat.le_of_ble_eq_true rfl) dX7_greatest_24 (fun H locs I => ?_)
    refine lv_aload_n hx hb dX7_greatest_27 rfl (lv_at hl 1 rfl) ?_
    refine lv_iload_n hx hb dX7_greatest_28 rfl (lv_at hl 0 rfl) ?_
    obtain ⟨r5, h5, hf⟩ := bq1_some hf
    refine mcv_i (As := [.int r3]) C0 I (kX7_firstOf h5) (cwV 1 C0.2.2.2.2 (gwV wd_840 wd_842 wd_45 wd_73 wd_843) rfl rfl rfl dsc_X7_firstOf ⟨Nat.le_of_ble_eq_true rfl, Nat.le_of_ble_eq_true rfl⟩) (mo_0 I) rfl hl.1 rfl (Nat.le_of_ble_eq_true rfl) dX7_greatest_29 (fun H locs I => ?_)
    obtain ⟨r6, h6, hf⟩ := bq1_some hf
    refine mcs_i (As := [.int r5]) C0 I (kX7_tenTimes h6) (va_cwS 1 C0.2.2.2.2 (gwS wd_844 wd_845 wd_73 wd_846) rfl rfl rfl dsc_X7_tenTimes.2 ⟨Nat.le_of_ble_eq_true rfl, Nat.le_of_ble_eq_true rfl⟩) rfl hl.1 rfl (Nat.le_of_ble_eq_true rfl) dX7_greatest_32 (fun H locs I => ?_)
    obtain ⟨rfl, rfl⟩ := se2 hf
    exact mri C0 hr hk I dX7_greatest_35
  · have hf := ip c1 hf
    refine lv_aload_n hx hb dX7_greatest_7 rfl (lv_at hl 0 rfl) ?_
    obtain ⟨r7, S7, h7, hf⟩ := bq2_some hf
    refine mcv_i (As := []) C0 I (kX7_no h7) (cwV 0 C0.2.2.2.2 (gwV wd_694 wd_696 wd_22 wd_73 wd_697) rfl rfl rfl dsc_X7_no ⟨Nat.le_of_ble_eq_true rfl, Nat.le_of_ble_eq_true rfl⟩) (mo_0 I) rfl hl.1 rfl (Nat.le_of_ble_eq_true rfl) dX7_greatest_8 (fun H locs I => ?_)
    obtain ⟨rfl, rfl⟩ := se2 hf
    exact mri C0 hr hk I dX7_greatest_11
set_option maxRecDepth 100000 in
theorem kX7_greatest  {rr : Int32} (hf : fX7_greatest S  = some (rr, S')) : Met l yX7_greatest (Cond.code yX7_greatest cX7_greatest 2 (some .int) :: big) ({ frames := 4, cells := 0, slots := 0, locals := 92 } : Room) (va_Pc [.ref (g.2.2 0)] (mB g S)) (va_Qi (fun r' S2 => r' = rr ∧ S2 = S') (mB g) (mA g)) 0 0 (mA g) := by
  refine Met.ofW (cc := cX7_greatest) (maxL := 2) (ret := (some .int)) (by decide) rfl ?_
  intro p e s m args below meth c s₁ B hml hv
  obtain ⟨rfl, hP, hK, hD⟩ := hv
  have hts0 := atoms_spec (ws := (Cond.code yX7_greatest cX7_greatest 2 (some .int) :: big)) B.pre
  have C0 : CallFix p m c cX7_greatest 2 s _ big RX7 := ⟨B.exec, B.bytes, hml, findClass_of_methodNamed B.named, fun w h => hts0 w (List.mem_cons_of_mem _ h)⟩
  have I : mI g s S s.heap [] := ⟨hK, hP, hD, va_S.rf⟩
  have hl := lv_entry ([.ref (g.2.2 0)]) (n := 2) (Nat.le_of_ble_eq_true rfl)
  rw [lg_entry_eq]
  generalize (lg_sl ([.ref (g.2.2 0)]) ++ List.replicate (2 - (lg_sl ([.ref (g.2.2 0)])).length) Slot.unset).toArray = ls at hl ⊢
  have hl : lv_has ls 2 [(0, .ref (g.2.2 0))] := hl
  exact tX7_greatest_0 C0 B.returns B.notSynchronized hf I (lv_sub hl [0] rfl)
set_option maxHeartbeats 4000000 in
set_option maxRecDepth 100000 in
theorem BX7_squares_4 (C0 : CallFix p m c cX7_squares 4 s args big RX7) (hr : meth.sig.returnType = (some .long)) (hk : meth.locks = false) {x1 : Int64} {x3 : Int32} {b : Bool} {y1 : Int64} {y3 : Int32} (Kt : b = true → ∀ (H : Heap) (locs : List Loc) (ls : Array Slot), mI g s S H locs → lv_has ls 4 [(0, .ref (g.2.2 0)), (1, .long y1), (3, .int y3)] → W p l e ({ frames := 0, cells := 0, slots := 0, locals := 0 } : Room) s m args below meth c H locs 0 0 Q (F0 m 4 ls [])) (Kf : b = false → ∀ (H : Heap) (locs : List Loc) (ls : Array Slot), mI g s S H locs → lv_has ls 4 [(0, .ref (g.2.2 0)), (1, .long y1), (3, .int y3)] → W p l e ({ frames := 0, cells := 0, slots := 0, locals := 0 } : Room) s m args below meth c H locs 0 0 Q (F0 m 34 ls [])) (hf : bX7_squares_4 S x1 x3 = some (b, y1, y3)) (I : mI g s S H locs) (hl : lv_has ls 4 [(0, .ref (g.2.2 0)), (1, .long x1), (3, .int x3)]) : W p l e ({ frames := 0, cells := 0, slots := 0, locals := 0 } : Room) s m args below meth c H locs 0 0 Q (F0 m 4 ls []) := by
  obtain ⟨hx, hb, hml, -, -⟩ := id C0
  unfold bX7_squares_4 at hf
  refine lv_iload_n hx hb dX7_squares_4 rfl (lv_at hl 2 rfl) ?_
  refine lv_bipush (v := 64) hx hb dX7_squares_5 (by decide) ?_
  refine lv_icmp_ge (tgt := 34) hx hb dX7_squares_7 (by decide) (fun c1 => ?_) (fun c1 => ?_)
  · have hf := ip c1 hf
    obtain ⟨rfl, rfl, rfl⟩ := se3 hf
    exact Kf rfl _ _ _ I (lv_sub hl [0, 1, 2] rfl)
  · have hf := inn c1 hf
    refine lv_lload_n hx hb dX7_squares_10 rfl (lv_at hl 1 rfl) ?_
    refine lv_aload_n hx hb dX7_squares_11 rfl (lv_at hl 0 rfl) ?_
    refine mg_X7_44_0 C0 I dX7_squares_12 ?_
    refine lv_iload_n hx hb dX7_squares_15 rfl (lv_at hl 2 rfl) ?_
    obtain ⟨b2, hf⟩ := chk_some hf
    refine ml_11 hx hb I b2 dX7_squares_16 ?_
    refine lv_i2l hx hb dX7_squares_17 rfl ?_
    refine lv_aload_n hx hb dX7_squares_18 rfl (lv_at hl 0 rfl) ?_
    refine mg_X7_44_0 C0 I dX7_squares_19 ?_
    refine lv_iload_n hx hb dX7_squares_22 rfl (lv_at hl 2 rfl) ?_
    obtain ⟨b3, hf⟩ := chk_some hf
    refine ml_11 hx hb I b3 dX7_squares_23 ?_
    refine lv_i2l hx hb dX7_squares_24 rfl ?_
    refine lv_lmul hx hb dX7_squares_25 ?_
    refine lv_ladd hx hb dX7_squares_26 ?_
    refine lv_lstore_n (lv' := [(1, .long (x1 + ((Int32.toInt64 (gR S 10 x3)) * (Int32.toInt64 (gR S 10 x3))))), (0, .ref (g.2.2 0)), (3, .int x3)]) hx hb dX7_squares_27 rfl hl (by decide) rfl (fun ls hl => ?_)
    refine lv_iinc (v := (x3 + (1 : Int32))) (lv' := [(3, .int (x3 + (1 : Int32))), (1, .long (x1 + ((Int32.toInt64 (gR S 10 x3)) * (Int32.toInt64 (gR S 10 x3))))), (0, .ref (g.2.2 0))]) hx hb dX7_squares_28 hl (k := 2) rfl rfl (by decide) rfl (fun ls hl => ?_)
    refine lv_goto (tgt := 4) hx hb dX7_squares_31 (by decide) ?_
    obtain ⟨rfl, rfl, rfl⟩ := se3 hf
    exact Kt rfl _ _ _ I (lv_sub hl [2, 1, 0] rfl)
set_option maxHeartbeats 4000000 in
theorem lX7_squares_4 (C0 : CallFix p m c cX7_squares 4 s args big RX7) (hr : meth.sig.returnType = (some .long)) (hk : meth.locks = false) {S : St}  {y1 : Int64} {y3 : Int32} : ∀ (n : Nat) {x1 : Int64} {x3 : Int32}, lp (fun q => bX7_squares_4 S q.1 q.2) n (x1, x3) = some (y1, y3) → ∀ {H : Heap} {locs : List Loc}, mI g s S H locs → ∀ {ls : Array Slot}, lv_has ls 4 [(0, .ref (g.2.2 0)), (1, .long x1), (3, .int x3)] → (∀ (H : Heap) (locs : List Loc) (ls : Array Slot), mI g s S H locs → lv_has ls 4 [(0, .ref (g.2.2 0)), (1, .long y1), (3, .int y3)] → W p l e ({ frames := 0, cells := 0, slots := 0, locals := 0 } : Room) s m args below meth c H locs 0 0 Q (F0 m 34 ls [])) → W p l e ({ frames := 0, cells := 0, slots := 0, locals := 0 } : Room) s m args below meth c H locs 0 0 Q (F0 m 4 ls []) := by
  intro n
  induction n with
  | zero => intro x1 x3 hf; cases hf
  | succ n ih =>
    intro x1 x3 hf H locs I ls hl K
    obtain ⟨b, ⟨z0, z1⟩, h1, h2, h3⟩ := lp_some hf
    refine BX7_squares_4 C0 hr hk (fun hb1 H locs ls I hl => ?_) (fun hb1 H locs ls I hl => ?_) h1 I hl
    · exact ih (h2 hb1) I hl K
    · have e := h3 hb1
      cases e
      exact K H locs ls I hl
set_option maxHeartbeats 4000000 in
set_option maxRecDepth 100000 in
theorem tX7_squares_0 (C0 : CallFix p m c cX7_squares 4 s args big RX7) (hr : meth.sig.returnType = (some .long)) (hk : meth.locks = false)  {rr : Int64}  (hf : fX7_squares S = some rr) (I : mI g s S H locs) (hl : lv_has ls 4 [(0, .ref (g.2.2 0))]) : W p l e ({ frames := 0, cells := 0, slots := 0, locals := 0 } : Room) s m args below meth c H locs 0 0 (MQ below (va_Ql (fun r' S2 => r' = rr ∧ S2 = S) (mB g) (mA g)) args s 0 0 (mA g)) (F0 m 0 ls []) := by
  obtain ⟨hx, hb, hml, -, -⟩ := id C0
  unfold fX7_squares at hf
  refine lv_lconst (v := 0) hx hb dX7_squares_0 (by decide) ?_
  refine lv_lstore_n (lv' := [(1, .long (0 : Int64)), (0, .ref (g.2.2 0))]) hx hb dX7_squares_1 rfl hl (by decide) rfl (fun ls hl => ?_)
  refine lv_iconst (v := 0) hx hb dX7_squares_2 (by decide) ?_
  refine lv_istore_n (lv' := [(3, .int (0 : Int32)), (1, .long (0 : Int64)), (0, .ref (g.2.2 0))]) hx hb dX7_squares_3 rfl hl (by decide) rfl (fun ls hl => ?_)
  obtain ⟨y1_4, y3_4, h4, hf⟩ := bq2_some hf
  refine lX7_squares_4 C0 hr hk fu h4 I (lv_sub hl [2, 1, 0] rfl) (fun H locs ls I hl => ?_)
  refine lv_lload_n hx hb dX7_squares_34 rfl (lv_at hl 1 rfl) ?_
  obtain rfl := se1 hf
  exact mrl C0 hr hk I dX7_squares_35
set_option maxRecDepth 100000 in
theorem kX7_squares  {rr : Int64} (hf : fX7_squares S  = some rr) : Met l yX7_squares (Cond.code yX7_squares cX7_squares 4 (some .long) :: big) ({ frames := 0, cells := 0, slots := 0, locals := 0 } : Room) (va_Pc [.ref (g.2.2 0)] (mB g S)) (va_Ql (fun r' S2 => r' = rr ∧ S2 = S) (mB g) (mA g)) 0 0 (mA g) := by
  refine Met.ofW (cc := cX7_squares) (maxL := 4) (ret := (some .long)) (by decide) rfl ?_
  intro p e s m args below meth c s₁ B hml hv
  obtain ⟨rfl, hP, hK, hD⟩ := hv
  have hts0 := atoms_spec (ws := (Cond.code yX7_squares cX7_squares 4 (some .long) :: big)) B.pre
  have C0 : CallFix p m c cX7_squares 4 s _ big RX7 := ⟨B.exec, B.bytes, hml, findClass_of_methodNamed B.named, fun w h => hts0 w (List.mem_cons_of_mem _ h)⟩
  have I : mI g s S s.heap [] := ⟨hK, hP, hD, va_S.rf⟩
  have hl := lv_entry ([.ref (g.2.2 0)]) (n := 4) (Nat.le_of_ble_eq_true rfl)
  rw [lg_entry_eq]
  generalize (lg_sl ([.ref (g.2.2 0)]) ++ List.replicate (4 - (lg_sl ([.ref (g.2.2 0)])).length) Slot.unset).toArray = ls at hl ⊢
  have hl : lv_has ls 4 [(0, .ref (g.2.2 0))] := hl
  exact tX7_squares_0 C0 B.returns B.notSynchronized hf I (lv_sub hl [0] rfl)
set_option maxHeartbeats 4000000 in
set_option maxRecDepth 100000 in
theorem tX7_choosesFor_71 (C0 : CallFix p m c cX7_choosesFor 10 s args big RX7) (hr : meth.sig.returnType = none) (hk : meth.locks = false) {x1 : Int32} {x2 : Int32} {x3 : Int32} {x4 : Int64} {x6 : Int32} {x7 : Int32} {x8 : Int64} {b : Bool} {y2 : Int32} {y3 : Int32} {y4 : Int64} {y6 : Int32} (Kt : b = true → ∀ (H : Heap) (locs : List Loc) (ls : Array Slot), mI g s S' H locs → lv_has ls 10 [(0, .ref (g.2.2 0)), (1, .int x1), (2, .int y2), (3, .int y3), (4, .long y4), (6, .int y6)] → W p l e ({ frames := 4, cells := 0, slots := 0, locals := 92 } : Room) s m args below meth c H locs 0 0 Q (F0 m 10 ls [])) (Kf : b = false → ∀ (H : Heap) (locs : List Loc) (ls : Array Slot), mI g s S' H locs → lv_has ls 10 [(0, .ref (g.2.2 0)), (1, .int x1), (2, .int y2), (3, .int y3), (4, .long y4), (6, .int y6)] → W p l e ({ frames := 4, cells := 0, slots := 0, locals := 92 } : Room) s m args below meth c H locs 0 0 Q (F0 m 87 ls [])) (hf : fX7_choosesFor_71 S x6 x7 x8 = some (b, S', y2, y3, y4, y6)) (I : mI g s S H locs) (hl : lv_has ls 10 [(0, .ref (g.2.2 0)), (1, .int x1), (2, .int x2), (3, .int x3), (4, .long x4), (6, .int x6), (7, .int x7), (8, .long x8)]) : W p l e ({ frames := 4, cells := 0, slots := 0, locals := 92 } : Room) s m args below meth c H locs 0 0 Q (F0 m 71 ls []) := by
  obtain ⟨hx, hb, hml, -, -⟩ := id C0
  unfold fX7_choosesFor_71 at hf
  refine lv_iload hx hb dX7_choosesFor_71 (lv_at hl 5 rfl) ?_
  refine lv_istore_n (lv' := [(2, .int x6), (0, .ref (g.2.2 0)), (1, .int x1), (3, .int x3), (4, .long x4), (6, .int x6), (7, .int x7), (8, .long x8)]) hx hb dX7_choosesFor_73 rfl hl (by decide) rfl (fun ls hl => ?_)
  refine lv_iload hx hb dX7_choosesFor_74 (lv_at hl 6 rfl) ?_
  refine lv_istore_n (lv' := [(3, .int x7), (2, .int x6), (0, .ref (g.2.2 0)), (1, .int x1), (4, .long x4), (6, .int x6), (7, .int x7), (8, .long x8)]) hx hb dX7_choosesFor_76 rfl hl (by decide) rfl (fun ls hl => ?_)
  refine lv_lload hx hb dX7_choosesFor_77 (lv_at hl 7 rfl) ?_
  refine lv_lstore (lv' := [(4, .long x8), (3, .int x7), (2, .int x6), (0, .ref (g.2.2 0)), (1, .int x1), (6, .int x6), (7, .int x7), (8, .long x8)]) hx hb dX7_choosesFor_79 hl (by decide) rfl (fun ls hl => ?_)
  refine lv_iinc (v := (x6 + (1 : Int32))) (lv' := [(6, .int (x6 + (1 : Int32))), (4, .long x8), (3, .int x7), (2, .int x6), (0, .ref (g.2.2 0)), (1, .int x1), (7, .int x7), (8, .long x8)]) hx hb dX7_choosesFor_81 hl (k := 5) rfl rfl (by decide) rfl (fun ls hl => ?_)
  refine lv_goto (tgt := 10) hx hb dX7_choosesFor_84 (by decide) ?_
  obtain ⟨rfl, rfl, rfl, rfl, rfl, rfl⟩ := se6 hf
  exact Kt rfl _ _ _ I (lv_sub hl [4, 5, 3, 2, 1, 0] rfl)
set_option maxHeartbeats 4000000 in
set_option maxRecDepth 100000 in
theorem BX7_choosesFor_10 (C0 : CallFix p m c cX7_choosesFor 10 s args big RX7) (hr : meth.sig.returnType = none) (hk : meth.locks = false) {x1 : Int32} {x2 : Int32} {x3 : Int32} {x4 : Int64} {x6 : Int32} {b : Bool} {y2 : Int32} {y3 : Int32} {y4 : Int64} {y6 : Int32} (Kt : b = true → ∀ (H : Heap) (locs : List Loc) (ls : Array Slot), mI g s S' H locs → lv_has ls 10 [(0, .ref (g.2.2 0)), (1, .int x1), (2, .int y2), (3, .int y3), (4, .long y4), (6, .int y6)] → W p l e ({ frames := 4, cells := 0, slots := 0, locals := 92 } : Room) s m args below meth c H locs 0 0 Q (F0 m 10 ls [])) (Kf : b = false → ∀ (H : Heap) (locs : List Loc) (ls : Array Slot), mI g s S' H locs → lv_has ls 10 [(0, .ref (g.2.2 0)), (1, .int x1), (2, .int y2), (3, .int y3), (4, .long y4), (6, .int y6)] → W p l e ({ frames := 4, cells := 0, slots := 0, locals := 92 } : Room) s m args below meth c H locs 0 0 Q (F0 m 87 ls [])) (hf : bX7_choosesFor_10 x1 S x2 x3 x4 x6 = some (b, S', y2, y3, y4, y6)) (I : mI g s S H locs) (hl : lv_has ls 10 [(0, .ref (g.2.2 0)), (1, .int x1), (2, .int x2), (3, .int x3), (4, .long x4), (6, .int x6)]) : W p l e ({ frames := 4, cells := 0, slots := 0, locals := 92 } : Room) s m args below meth c H locs 0 0 Q (F0 m 10 ls []) := by
  obtain ⟨hx, hb, hml, -, -⟩ := id C0
  unfold bX7_choosesFor_10 at hf
  refine lv_iload hx hb dX7_choosesFor_10 (lv_at hl 5 rfl) ?_
  refine lv_aload_n hx hb dX7_choosesFor_12 rfl (lv_at hl 0 rfl) ?_
  obtain ⟨r1, h1, hf⟩ := bq1_some hf
  refine mcv_i (As := []) C0 I (kX7_corners h1) (cwV 0 C0.2.2.2.2 (gwV wd_721 wd_723 wd_26 wd_73 wd_724) rfl rfl rfl dsc_X7_corners ⟨Nat.le_of_ble_eq_true rfl, Nat.le_of_ble_eq_true rfl⟩) (mo_0 I) rfl hl.1 rfl (Nat.le_of_ble_eq_true rfl) dX7_choosesFor_13 (fun H locs I => ?_)
  refine lv_icmp_ge (tgt := 87) hx hb dX7_choosesFor_16 (by decide) (fun c2 => ?_) (fun c2 => ?_)
  · have hf := ip c2 hf
    obtain ⟨rfl, rfl, rfl, rfl, rfl, rfl⟩ := se6 hf
    exact Kf rfl _ _ _ I (lv_sub hl [0, 1, 2, 3, 4, 5] rfl)
  · have hf := inn c2 hf
    refine lv_aload_n hx hb dX7_choosesFor_19 rfl (lv_at hl 0 rfl) ?_
    refine mg_X7_26_0 C0 I dX7_choosesFor_20 ?_
    refine lv_iload_n hx hb dX7_choosesFor_23 rfl (lv_at hl 1 rfl) ?_
    refine lv_iload hx hb dX7_choosesFor_24 (lv_at hl 5 rfl) ?_
    obtain ⟨b3, hf⟩ := chk_some hf
    refine ms_5 hx hb I b3 dX7_choosesFor_26 (fun H locs I => ?_)
    refine lv_aload_n hx hb dX7_choosesFor_27 rfl (lv_at hl 0 rfl) ?_
    refine lv_iload_n hx hb dX7_choosesFor_28 rfl (lv_at hl 1 rfl) ?_
    refine lv_iconst (v := 1) hx hb dX7_choosesFor_29 (by decide) ?_
    refine lv_iadd hx hb dX7_choosesFor_30 ?_
    obtain ⟨S4, h4, hf⟩ := bq1_some hf
    refine mcv_v (As := [.int (x1 + (1 : Int32))]) C0 I (kX7_setExpected h4) (cwV 1 C0.2.2.2.2 (gwV wd_851 wd_853 wd_46 wd_73 wd_854) rfl rfl rfl dsc_X7_setExpected ⟨Nat.le_of_ble_eq_true rfl, Nat.le_of_ble_eq_true rfl⟩) (mo_0 I) rfl hl.1 rfl (Nat.le_of_ble_eq_true rfl) dX7_choosesFor_31 (fun H locs I => ?_)
    refine lv_aload_n hx hb dX7_choosesFor_34 rfl (lv_at hl 0 rfl) ?_
    obtain ⟨r5, h5, hf⟩ := bq1_some hf
    refine mcv_i (As := []) C0 I (kX7_most h5) (cwV 0 C0.2.2.2.2 (gwV wd_836 wd_838 wd_44 wd_73 wd_839) rfl rfl rfl dsc_X7_most ⟨Nat.le_of_ble_eq_true rfl, Nat.le_of_ble_eq_true rfl⟩) (mo_0 I) rfl hl.1 rfl (Nat.le_of_ble_eq_true rfl) dX7_choosesFor_35 (fun H locs I => ?_)
    refine lv_istore (lv' := [(7, .int r5), (0, .ref (g.2.2 0)), (1, .int x1), (2, .int x2), (3, .int x3), (4, .long x4), (6, .int x6)]) hx hb dX7_choosesFor_38 hl (by decide) rfl (fun ls hl => ?_)
    refine lv_aload_n hx hb dX7_choosesFor_40 rfl (lv_at hl 1 rfl) ?_
    obtain ⟨r6, h6, hf⟩ := bq1_some hf
    refine mcv_l (As := []) C0 I (kX7_squares h6) (cwV 0 C0.2.2.2.2 (gwV wd_879 wd_881 wd_50 wd_73 wd_882) rfl rfl rfl dsc_X7_squares ⟨Nat.le_of_ble_eq_true rfl, Nat.le_of_ble_eq_true rfl⟩) (mo_0 I) rfl hl.1 rfl (Nat.le_of_ble_eq_true rfl) dX7_choosesFor_41 (fun H locs I => ?_)
    refine lv_lstore (lv' := [(8, .long r6), (7, .int r5), (0, .ref (g.2.2 0)), (1, .int x1), (2, .int x2), (3, .int x3), (4, .long x4), (6, .int x6)]) hx hb dX7_choosesFor_44 hl (by decide) rfl (fun ls hl => ?_)
    refine lv_iload hx hb dX7_choosesFor_46 (lv_at hl 7 rfl) ?_
    refine lv_if_eq (tgt := 71) hx hb dX7_choosesFor_48 (by decide) (fun c7 => ?_) (fun c7 => ?_)
    · have hf := ip c7 hf
      exact tX7_choosesFor_71 C0 hr hk Kt Kf hf I (lv_sub hl [2, 3, 4, 5, 6, 7, 1, 0] rfl)
    · have hf := inn c7 hf
      refine lv_iload hx hb dX7_choosesFor_51 (lv_at hl 1 rfl) ?_
      refine lv_iload_n hx hb dX7_choosesFor_53 rfl (lv_at hl 5 rfl) ?_
      refine lv_icmp_lt (tgt := 71) hx hb dX7_choosesFor_54 (by decide) (fun c8 => ?_) (fun c8 => ?_)
      · have hf := ip c8 hf
        exact tX7_choosesFor_71 C0 hr hk Kt Kf hf I (lv_sub hl [2, 3, 4, 5, 6, 7, 1, 0] rfl)
      · have hf := inn c8 hf
        refine lv_iload hx hb dX7_choosesFor_57 (lv_at hl 1 rfl) ?_
        refine lv_iload_n hx hb dX7_choosesFor_59 rfl (lv_at hl 5 rfl) ?_
        refine lv_icmp_ne (tgt := 81) hx hb dX7_choosesFor_60 (by decide) (fun c9 => ?_) (fun c9 => ?_)
        · have hf := inn c9 hf
          refine lv_iinc (v := (x6 + (1 : Int32))) (lv' := [(6, .int (x6 + (1 : Int32))), (8, .long r6), (7, .int r5), (0, .ref (g.2.2 0)), (1, .int x1), (2, .int x2), (3, .int x3), (4, .long x4)]) hx hb dX7_choosesFor_81 hl (k := 7) rfl rfl (by decide) rfl (fun ls hl => ?_)
          refine lv_goto (tgt := 10) hx hb dX7_choosesFor_84 (by decide) ?_
          obtain ⟨rfl, rfl, rfl, rfl, rfl, rfl⟩ := se6 hf
          exact Kt rfl _ _ _ I (lv_sub hl [3, 4, 5, 6, 7, 0] rfl)
        · have hf := ip c9 hf
          refine lv_lload hx hb dX7_choosesFor_63 (lv_at hl 0 rfl) ?_
          refine lv_lload hx hb dX7_choosesFor_65 (lv_at hl 6 rfl) ?_
          refine W.lcmp hx hb dX7_choosesFor_67 ?_
          refine lv_if_ge (tgt := 81) hx hb dX7_choosesFor_68 (by decide) (fun c10 => ?_) (fun c10 => ?_)
          · have hf := ip c10 hf
            refine lv_iinc (v := (x6 + (1 : Int32))) (lv' := [(6, .int (x6 + (1 : Int32))), (8, .long r6), (7, .int r5), (0, .ref (g.2.2 0)), (1, .int x1), (2, .int x2), (3, .int x3), (4, .long x4)]) hx hb dX7_choosesFor_81 hl (k := 7) rfl rfl (by decide) rfl (fun ls hl => ?_)
            refine lv_goto (tgt := 10) hx hb dX7_choosesFor_84 (by decide) ?_
            obtain ⟨rfl, rfl, rfl, rfl, rfl, rfl⟩ := se6 hf
            exact Kt rfl _ _ _ I (lv_sub hl [3, 4, 5, 6, 7, 0] rfl)
          · have hf := inn c10 hf
            exact tX7_choosesFor_71 C0 hr hk Kt Kf hf I (lv_sub hl [2, 3, 4, 5, 6, 7, 1, 0] rfl)
set_option maxHeartbeats 4000000 in
theorem lX7_choosesFor_10 (C0 : CallFix p m c cX7_choosesFor 10 s args big RX7) (hr : meth.sig.returnType = none) (hk : meth.locks = false) {x1 : Int32} {S' : St} {y2 : Int32} {y3 : Int32} {y4 : Int64} {y6 : Int32} : ∀ (n : Nat) {S : St} {x2 : Int32} {x3 : Int32} {x4 : Int64} {x6 : Int32}, lp (fun q => bX7_choosesFor_10 x1 q.1 q.2.1 q.2.2.1 q.2.2.2.1 q.2.2.2.2) n (S, x2, x3, x4, x6) = some (S', y2, y3, y4, y6) → ∀ {H : Heap} {locs : List Loc}, mI g s S H locs → ∀ {ls : Array Slot}, lv_has ls 10 [(0, .ref (g.2.2 0)), (1, .int x1), (2, .int x2), (3, .int x3), (4, .long x4), (6, .int x6)] → (∀ (H : Heap) (locs : List Loc) (ls : Array Slot), mI g s S' H locs → lv_has ls 10 [(0, .ref (g.2.2 0)), (1, .int x1), (2, .int y2), (3, .int y3), (4, .long y4), (6, .int y6)] → W p l e ({ frames := 4, cells := 0, slots := 0, locals := 92 } : Room) s m args below meth c H locs 0 0 Q (F0 m 87 ls [])) → W p l e ({ frames := 4, cells := 0, slots := 0, locals := 92 } : Room) s m args below meth c H locs 0 0 Q (F0 m 10 ls []) := by
  intro n
  induction n with
  | zero => intro S x2 x3 x4 x6 hf; cases hf
  | succ n ih =>
    intro S x2 x3 x4 x6 hf H locs I ls hl K
    obtain ⟨b, ⟨z0, z1, z2, z3, z4⟩, h1, h2, h3⟩ := lp_some hf
    refine BX7_choosesFor_10 C0 hr hk (fun hb1 H locs ls I hl => ?_) (fun hb1 H locs ls I hl => ?_) h1 I hl
    · exact ih (h2 hb1) I hl K
    · have e := h3 hb1
      cases e
      exact K H locs ls I hl
set_option maxHeartbeats 4000000 in
set_option maxRecDepth 100000 in
theorem tX7_choosesFor_0 (C0 : CallFix p m c cX7_choosesFor 10 s args big RX7) (hr : meth.sig.returnType = none) (hk : meth.locks = false) {x1 : Int32}  (hf : fX7_choosesFor S x1 = some S') (I : mI g s S H locs) (hl : lv_has ls 10 [(0, .ref (g.2.2 0)), (1, .int x1)]) : W p l e ({ frames := 4, cells := 0, slots := 0, locals := 92 } : Room) s m args below meth c H locs 0 0 (MQ below (va_Qv (fun S2 => S2 = S') (mB g) (mA g)) args s 0 0 (mA g)) (F0 m 0 ls []) := by
  obtain ⟨hx, hb, hml, -, -⟩ := id C0
  unfold fX7_choosesFor at hf
  refine lv_iconst (v := 0) hx hb dX7_choosesFor_0 (by decide) ?_
  refine lv_istore_n (lv' := [(2, .int (0 : Int32)), (0, .ref (g.2.2 0)), (1, .int x1)]) hx hb dX7_choosesFor_1 rfl hl (by decide) rfl (fun ls hl => ?_)
  refine lv_iconst (v := 0) hx hb dX7_choosesFor_2 (by decide) ?_
  refine lv_istore_n (lv' := [(3, .int (0 : Int32)), (2, .int (0 : Int32)), (0, .ref (g.2.2 0)), (1, .int x1)]) hx hb dX7_choosesFor_3 rfl hl (by decide) rfl (fun ls hl => ?_)
  refine lv_lconst (v := 0) hx hb dX7_choosesFor_4 (by decide) ?_
  refine lv_lstore (lv' := [(4, .long (0 : Int64)), (3, .int (0 : Int32)), (2, .int (0 : Int32)), (0, .ref (g.2.2 0)), (1, .int x1)]) hx hb dX7_choosesFor_5 hl (by decide) rfl (fun ls hl => ?_)
  refine lv_iconst (v := 0) hx hb dX7_choosesFor_7 (by decide) ?_
  refine lv_istore (lv' := [(6, .int (0 : Int32)), (4, .long (0 : Int64)), (3, .int (0 : Int32)), (2, .int (0 : Int32)), (0, .ref (g.2.2 0)), (1, .int x1)]) hx hb dX7_choosesFor_8 hl (by decide) rfl (fun ls hl => ?_)
  obtain ⟨S11, y2_11, y3_11, y4_11, y6_11, h11, hf⟩ := bq5_some hf
  refine lX7_choosesFor_10 C0 hr hk fu h11 I (lv_sub hl [4, 5, 3, 2, 1, 0] rfl) (fun H locs ls I hl => ?_)
  refine lv_aload_n hx hb dX7_choosesFor_87 rfl (lv_at hl 0 rfl) ?_
  refine mg_X7_26_0 C0 I dX7_choosesFor_88 ?_
  refine lv_iload_n hx hb dX7_choosesFor_91 rfl (lv_at hl 1 rfl) ?_
  refine lv_iload_n hx hb dX7_choosesFor_92 rfl (lv_at hl 2 rfl) ?_
  obtain ⟨b12, hf⟩ := chk_some hf
  refine ms_5 hx hb I b12 dX7_choosesFor_93 (fun H locs I => ?_)
  obtain rfl := se1 hf
  exact mrv C0 hr hk I dX7_choosesFor_94
set_option maxRecDepth 100000 in
theorem kX7_choosesFor {x1 : Int32}  (hf : fX7_choosesFor S x1 = some S') : Met l yX7_choosesFor (Cond.code yX7_choosesFor cX7_choosesFor 10 none :: big) ({ frames := 4, cells := 0, slots := 0, locals := 92 } : Room) (va_Pc [.ref (g.2.2 0), .int x1] (mB g S)) (va_Qv (fun S2 => S2 = S') (mB g) (mA g)) 0 0 (mA g) := by
  refine Met.ofW (cc := cX7_choosesFor) (maxL := 10) (ret := none) (by decide) rfl ?_
  intro p e s m args below meth c s₁ B hml hv
  obtain ⟨rfl, hP, hK, hD⟩ := hv
  have hts0 := atoms_spec (ws := (Cond.code yX7_choosesFor cX7_choosesFor 10 none :: big)) B.pre
  have C0 : CallFix p m c cX7_choosesFor 10 s _ big RX7 := ⟨B.exec, B.bytes, hml, findClass_of_methodNamed B.named, fun w h => hts0 w (List.mem_cons_of_mem _ h)⟩
  have I : mI g s S s.heap [] := ⟨hK, hP, hD, va_S.rf⟩
  have hl := lv_entry ([.ref (g.2.2 0), .int x1]) (n := 10) (Nat.le_of_ble_eq_true rfl)
  rw [lg_entry_eq]
  generalize (lg_sl ([.ref (g.2.2 0), .int x1]) ++ List.replicate (10 - (lg_sl ([.ref (g.2.2 0), .int x1])).length) Slot.unset).toArray = ls at hl ⊢
  have hl : lv_has ls 10 [(0, .ref (g.2.2 0)), (1, .int x1)] := hl
  exact tX7_choosesFor_0 C0 B.returns B.notSynchronized hf I (lv_sub hl [0, 1] rfl)
set_option maxHeartbeats 4000000 in
set_option maxRecDepth 100000 in
theorem BX7_chooses_18 (C0 : CallFix p m c cX7_chooses 2 s args big RX7) (hr : meth.sig.returnType = (some .int)) (hk : meth.locks = false) {x1 : Int32} {b : Bool} {y1 : Int32} (Kt : b = true → ∀ (H : Heap) (locs : List Loc) (ls : Array Slot), mI g s S' H locs → lv_has ls 2 [(0, .ref (g.2.2 0)), (1, .int y1)] → W p l e ({ frames := 5, cells := 0, slots := 0, locals := 121 } : Room) s m args below meth c H locs 0 0 Q (F0 m 18 ls [])) (Kf : b = false → ∀ (H : Heap) (locs : List Loc) (ls : Array Slot), mI g s S' H locs → lv_has ls 2 [(0, .ref (g.2.2 0)), (1, .int y1)] → W p l e ({ frames := 5, cells := 0, slots := 0, locals := 121 } : Room) s m args below meth c H locs 0 0 Q (F0 m 37 ls [])) (hf : bX7_chooses_18 S x1 = some (b, S', y1)) (I : mI g s S H locs) (hl : lv_has ls 2 [(0, .ref (g.2.2 0)), (1, .int x1)]) : W p l e ({ frames := 5, cells := 0, slots := 0, locals := 121 } : Room) s m args below meth c H locs 0 0 Q (F0 m 18 ls []) := by
  obtain ⟨hx, hb, hml, -, -⟩ := id C0
  unfold bX7_chooses_18 at hf
  refine lv_iload_n hx hb dX7_chooses_18 rfl (lv_at hl 1 rfl) ?_
  refine lv_aload_n hx hb dX7_chooses_19 rfl (lv_at hl 0 rfl) ?_
  refine mg_X7_76_0 C0 I dX7_chooses_20 ?_
  refine lv_icmp_ge (tgt := 37) hx hb dX7_chooses_23 (by decide) (fun c3 => ?_) (fun c3 => ?_)
  · have hf := ip c3 hf
    obtain ⟨rfl, rfl, rfl⟩ := se3 hf
    exact Kf rfl _ _ _ I (lv_sub hl [0, 1] rfl)
  · have hf := inn c3 hf
    refine lv_aload_n hx hb dX7_chooses_26 rfl (lv_at hl 0 rfl) ?_
    refine lv_iload_n hx hb dX7_chooses_27 rfl (lv_at hl 1 rfl) ?_
    obtain ⟨S4, h4, hf⟩ := bq1_some hf
    refine mcv_v (As := [.int x1]) C0 I (kX7_choosesFor h4) (cwV 1 C0.2.2.2.2 (gwV wd_875 wd_877 wd_49 wd_73 wd_878) rfl rfl rfl dsc_X7_choosesFor ⟨Nat.le_of_ble_eq_true rfl, Nat.le_of_ble_eq_true rfl⟩) (mo_0 I) rfl hl.1 rfl (Nat.le_of_ble_eq_true rfl) dX7_chooses_28 (fun H locs I => ?_)
    refine lv_iinc (v := (x1 + (1 : Int32))) (lv' := [(1, .int (x1 + (1 : Int32))), (0, .ref (g.2.2 0))]) hx hb dX7_chooses_31 hl (k := 1) rfl rfl (by decide) rfl (fun ls hl => ?_)
    refine lv_goto (tgt := 18) hx hb dX7_chooses_34 (by decide) ?_
    obtain ⟨rfl, rfl, rfl⟩ := se3 hf
    exact Kt rfl _ _ _ I (lv_sub hl [1, 0] rfl)
set_option maxHeartbeats 4000000 in
theorem lX7_chooses_18 (C0 : CallFix p m c cX7_chooses 2 s args big RX7) (hr : meth.sig.returnType = (some .int)) (hk : meth.locks = false)  {S' : St} {y1 : Int32} : ∀ (n : Nat) {S : St} {x1 : Int32}, lp (fun q => bX7_chooses_18 q.1 q.2) n (S, x1) = some (S', y1) → ∀ {H : Heap} {locs : List Loc}, mI g s S H locs → ∀ {ls : Array Slot}, lv_has ls 2 [(0, .ref (g.2.2 0)), (1, .int x1)] → (∀ (H : Heap) (locs : List Loc) (ls : Array Slot), mI g s S' H locs → lv_has ls 2 [(0, .ref (g.2.2 0)), (1, .int y1)] → W p l e ({ frames := 5, cells := 0, slots := 0, locals := 121 } : Room) s m args below meth c H locs 0 0 Q (F0 m 37 ls [])) → W p l e ({ frames := 5, cells := 0, slots := 0, locals := 121 } : Room) s m args below meth c H locs 0 0 Q (F0 m 18 ls []) := by
  intro n
  induction n with
  | zero => intro S x1 hf; cases hf
  | succ n ih =>
    intro S x1 hf H locs I ls hl K
    obtain ⟨b, ⟨z0, z1⟩, h1, h2, h3⟩ := lp_some hf
    refine BX7_chooses_18 C0 hr hk (fun hb1 H locs ls I hl => ?_) (fun hb1 H locs ls I hl => ?_) h1 I hl
    · exact ih (h2 hb1) I hl K
    · have e := h3 hb1
      cases e
      exact K H locs ls I hl
set_option maxHeartbeats 4000000 in
set_option maxRecDepth 100000 in
theorem tX7_chooses_0 (C0 : CallFix p m c cX7_chooses 2 s args big RX7) (hr : meth.sig.returnType = (some .int)) (hk : meth.locks = false)  {rr : Int32}  (hf : fX7_chooses S = some (rr, S')) (I : mI g s S H locs) (hl : lv_has ls 2 [(0, .ref (g.2.2 0))]) : W p l e ({ frames := 5, cells := 0, slots := 0, locals := 121 } : Room) s m args below meth c H locs 0 0 (MQ below (va_Qi (fun r' S2 => r' = rr ∧ S2 = S') (mB g) (mA g)) args s 0 0 (mA g)) (F0 m 0 ls []) := by
  obtain ⟨hx, hb, hml, -, -⟩ := id C0
  unfold fX7_chooses at hf
  refine lv_aload_n hx hb dX7_chooses_0 rfl (lv_at hl 0 rfl) ?_
  refine mg_X7_76_0 C0 I dX7_chooses_1 ?_
  refine lv_if_ne (tgt := 12) hx hb dX7_chooses_4 (by decide) (fun c1 => ?_) (fun c1 => ?_)
  · have hf := inn c1 hf
    refine lv_aload_n hx hb dX7_chooses_12 rfl (lv_at hl 0 rfl) ?_
    obtain ⟨S2, h2, hf⟩ := bq1_some hf
    refine mcv_v (As := []) C0 I (kX7_leavesState h2) (cwV 0 C0.2.2.2.2 (gwV wd_709 wd_711 wd_24 wd_73 wd_712) rfl rfl rfl dsc_X7_leavesState ⟨Nat.le_of_ble_eq_true rfl, Nat.le_of_ble_eq_true rfl⟩) (mo_0 I) rfl hl.1 rfl (Nat.le_of_ble_eq_true rfl) dX7_chooses_13 (fun H locs I => ?_)
    refine lv_iconst (v := 0) hx hb dX7_chooses_16 (by decide) ?_
    refine lv_istore_n (lv' := [(1, .int (0 : Int32)), (0, .ref (g.2.2 0))]) hx hb dX7_chooses_17 rfl hl (by decide) rfl (fun ls hl => ?_)
    obtain ⟨S5, y1_5, h5, hf⟩ := bq2_some hf
    refine lX7_chooses_18 C0 hr hk fu h5 I (lv_sub hl [1, 0] rfl) (fun H locs ls I hl => ?_)
    refine lv_aload_n hx hb dX7_chooses_37 rfl (lv_at hl 0 rfl) ?_
    obtain ⟨S6, h6, hf⟩ := bq1_some hf
    refine mcv_v (As := []) C0 I (kX7_setLoads h6) (cwV 0 C0.2.2.2.2 (gwV wd_816 wd_818 wd_40 wd_73 wd_819) rfl rfl rfl dsc_X7_setLoads ⟨Nat.le_of_ble_eq_true rfl, Nat.le_of_ble_eq_true rfl⟩) (mo_0 I) rfl hl.1 rfl (Nat.le_of_ble_eq_true rfl) dX7_chooses_38 (fun H locs I => ?_)
    refine lv_aload_n hx hb dX7_chooses_41 rfl (lv_at hl 0 rfl) ?_
    obtain ⟨r7, h7, hf⟩ := bq1_some hf
    refine mcv_i (As := []) C0 I (kX7_most h7) (cwV 0 C0.2.2.2.2 (gwV wd_836 wd_838 wd_44 wd_73 wd_839) rfl rfl rfl dsc_X7_most ⟨Nat.le_of_ble_eq_true rfl, Nat.le_of_ble_eq_true rfl⟩) (mo_0 I) rfl hl.1 rfl (Nat.le_of_ble_eq_true rfl) dX7_chooses_42 (fun H locs I => ?_)
    obtain ⟨rfl, rfl⟩ := se2 hf
    exact mri C0 hr hk I dX7_chooses_45
  · have hf := ip c1 hf
    refine lv_aload_n hx hb dX7_chooses_7 rfl (lv_at hl 0 rfl) ?_
    obtain ⟨r8, S8, h8, hf⟩ := bq2_some hf
    refine mcv_i (As := []) C0 I (kX7_no h8) (cwV 0 C0.2.2.2.2 (gwV wd_694 wd_696 wd_22 wd_73 wd_697) rfl rfl rfl dsc_X7_no ⟨Nat.le_of_ble_eq_true rfl, Nat.le_of_ble_eq_true rfl⟩) (mo_0 I) rfl hl.1 rfl (Nat.le_of_ble_eq_true rfl) dX7_chooses_8 (fun H locs I => ?_)
    obtain ⟨rfl, rfl⟩ := se2 hf
    exact mri C0 hr hk I dX7_chooses_11
set_option maxRecDepth 100000 in
theorem kX7_chooses  {rr : Int32} (hf : fX7_chooses S  = some (rr, S')) : Met l yX7_chooses (Cond.code yX7_chooses cX7_chooses 2 (some .int) :: big) ({ frames := 5, cells := 0, slots := 0, locals := 121 } : Room) (va_Pc [.ref (g.2.2 0)] (mB g S)) (va_Qi (fun r' S2 => r' = rr ∧ S2 = S') (mB g) (mA g)) 0 0 (mA g) := by
  refine Met.ofW (cc := cX7_chooses) (maxL := 2) (ret := (some .int)) (by decide) rfl ?_
  intro p e s m args below meth c s₁ B hml hv
  obtain ⟨rfl, hP, hK, hD⟩ := hv
  have hts0 := atoms_spec (ws := (Cond.code yX7_chooses cX7_chooses 2 (some .int) :: big)) B.pre
  have C0 : CallFix p m c cX7_chooses 2 s _ big RX7 := ⟨B.exec, B.bytes, hml, findClass_of_methodNamed B.named, fun w h => hts0 w (List.mem_cons_of_mem _ h)⟩
  have I : mI g s S s.heap [] := ⟨hK, hP, hD, va_S.rf⟩
  have hl := lv_entry ([.ref (g.2.2 0)]) (n := 2) (Nat.le_of_ble_eq_true rfl)
  rw [lg_entry_eq]
  generalize (lg_sl ([.ref (g.2.2 0)]) ++ List.replicate (2 - (lg_sl ([.ref (g.2.2 0)])).length) Slot.unset).toArray = ls at hl ⊢
  have hl : lv_has ls 2 [(0, .ref (g.2.2 0))] := hl
  exact tX7_chooses_0 C0 B.returns B.notSynchronized hf I (lv_sub hl [0] rfl)
end
