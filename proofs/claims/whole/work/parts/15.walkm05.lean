section
variable {p : Program} {l : Launch} {e : Env} {s : State} {m : MethodId} {args : Array Value} {below : List Frame} {meth : Method} {c : Code} {Q : State → Prop} {g : xG} {H : Heap} {locs : List Loc} {ls : Array Slot} {S S' : St}
set_option maxHeartbeats 4000000 in
set_option maxRecDepth 100000 in
theorem tX7_runTells_71 (C0 : CallFix p m c cX7_runTells 6 s args big RX7) (hr : meth.sig.returnType = (some .int)) (hk : meth.locks = false) {x1 : Int32} {x2 : Int32} {x3 : Int32} {x4 : Int32} {x5 : Int32} {s0 : Int32} {b : Bool} {y2 : Int32} {y3 : Int32} {y4 : Int32} {y5 : Int32} (Kt : b = true → ∀ (H : Heap) (locs : List Loc) (ls : Array Slot), mI g s S H locs → lv_has ls 6 [(0, .ref (g.2.2 0)), (1, .int x1), (2, .int y2), (3, .int y3), (4, .int y4), (5, .int y5)] → W p l e ({ frames := 4, cells := 0, slots := 0, locals := 95 } : Room) s m args below meth c H locs 0 0 Q (F0 m 34 ls [])) (Kf : b = false → ∀ (H : Heap) (locs : List Loc) (ls : Array Slot), mI g s S H locs → lv_has ls 6 [(0, .ref (g.2.2 0)), (1, .int x1), (2, .int y2), (3, .int y3), (4, .int y4), (5, .int y5)] → W p l e ({ frames := 4, cells := 0, slots := 0, locals := 95 } : Room) s m args below meth c H locs 0 0 Q (F0 m 102 ls [])) (hf : fX7_runTells_71 S x2 x3 x5 s0 = some (b, y2, y3, y4, y5)) (I : mI g s S H locs) (hl : lv_has ls 6 [(0, .ref (g.2.2 0)), (1, .int x1), (2, .int x2), (3, .int x3), (4, .int x4), (5, .int x5)]) : W p l e ({ frames := 4, cells := 0, slots := 0, locals := 95 } : Room) s m args below meth c H locs 0 0 Q (F0 m 71 ls [.int s0]) := by
  obtain ⟨hx, hb, hml, -, -⟩ := id C0
  unfold fX7_runTells_71 at hf
  refine lv_istore (lv' := [(4, .int s0), (0, .ref (g.2.2 0)), (1, .int x1), (2, .int x2), (3, .int x3), (5, .int x5)]) hx hb dX7_runTells_71 hl (by decide) rfl (fun ls hl => ?_)
  refine lv_aload_n hx hb dX7_runTells_73 rfl (lv_at hl 1 rfl) ?_
  refine mg_X7_59_0 C0 I dX7_runTells_74 ?_
  refine lv_iload hx hb dX7_runTells_77 (lv_at hl 5 rfl) ?_
  obtain ⟨b7, hf⟩ := chk_some hf
  refine ml_15 hx hb I b7 dX7_runTells_79 ?_
  refine lv_iload_n hx hb dX7_runTells_80 rfl (lv_at hl 4 rfl) ?_
  refine lv_icmp_le (tgt := 94) hx hb dX7_runTells_81 (by decide) (fun c8 => ?_) (fun c8 => ?_)
  · have hf := ip c8 hf
    refine lv_iload_n hx hb dX7_runTells_94 rfl (lv_at hl 4 rfl) ?_
    refine lv_istore_n (lv' := [(3, .int x3), (4, .int s0), (0, .ref (g.2.2 0)), (1, .int x1), (2, .int x2), (5, .int x5)]) hx hb dX7_runTells_95 rfl hl (by decide) rfl (fun ls hl => ?_)
    refine lv_iinc (v := (x5 + (1 : Int32))) (lv' := [(5, .int (x5 + (1 : Int32))), (3, .int x3), (4, .int s0), (0, .ref (g.2.2 0)), (1, .int x1), (2, .int x2)]) hx hb dX7_runTells_96 hl (k := 5) rfl rfl (by decide) rfl (fun ls hl => ?_)
    refine lv_goto (tgt := 34) hx hb dX7_runTells_99 (by decide) ?_
    obtain ⟨rfl, rfl, rfl, rfl, rfl⟩ := se5 hf
    exact Kt rfl _ _ _ I (lv_sub hl [3, 4, 5, 1, 2, 0] rfl)
  · have hf := inn c8 hf
    refine lv_aload_n hx hb dX7_runTells_84 rfl (lv_at hl 1 rfl) ?_
    refine mg_X7_59_0 C0 I dX7_runTells_85 ?_
    refine lv_iload hx hb dX7_runTells_88 (lv_at hl 5 rfl) ?_
    obtain ⟨b9, hf⟩ := chk_some hf
    refine ml_15 hx hb I b9 dX7_runTells_90 ?_
    refine lv_goto (tgt := 95) hx hb dX7_runTells_91 (by decide) ?_
    refine lv_istore_n (lv' := [(3, .int (gR S 14 x5)), (4, .int s0), (0, .ref (g.2.2 0)), (1, .int x1), (2, .int x2), (5, .int x5)]) hx hb dX7_runTells_95 rfl hl (by decide) rfl (fun ls hl => ?_)
    refine lv_iinc (v := (x5 + (1 : Int32))) (lv' := [(5, .int (x5 + (1 : Int32))), (3, .int (gR S 14 x5)), (4, .int s0), (0, .ref (g.2.2 0)), (1, .int x1), (2, .int x2)]) hx hb dX7_runTells_96 hl (k := 5) rfl rfl (by decide) rfl (fun ls hl => ?_)
    refine lv_goto (tgt := 34) hx hb dX7_runTells_99 (by decide) ?_
    obtain ⟨rfl, rfl, rfl, rfl, rfl⟩ := se5 hf
    exact Kt rfl _ _ _ I (lv_sub hl [3, 4, 5, 1, 2, 0] rfl)
set_option maxHeartbeats 4000000 in
set_option maxRecDepth 100000 in
theorem BX7_runTells_34 (C0 : CallFix p m c cX7_runTells 6 s args big RX7) (hr : meth.sig.returnType = (some .int)) (hk : meth.locks = false) {x1 : Int32} {x2 : Int32} {x3 : Int32} {x4 : Int32} {x5 : Int32} {b : Bool} {y2 : Int32} {y3 : Int32} {y4 : Int32} {y5 : Int32} (Kt : b = true → ∀ (H : Heap) (locs : List Loc) (ls : Array Slot), mI g s S H locs → lv_has ls 6 [(0, .ref (g.2.2 0)), (1, .int x1), (2, .int y2), (3, .int y3), (4, .int y4), (5, .int y5)] → W p l e ({ frames := 4, cells := 0, slots := 0, locals := 95 } : Room) s m args below meth c H locs 0 0 Q (F0 m 34 ls [])) (Kf : b = false → ∀ (H : Heap) (locs : List Loc) (ls : Array Slot), mI g s S H locs → lv_has ls 6 [(0, .ref (g.2.2 0)), (1, .int x1), (2, .int y2), (3, .int y3), (4, .int y4), (5, .int y5)] → W p l e ({ frames := 4, cells := 0, slots := 0, locals := 95 } : Room) s m args below meth c H locs 0 0 Q (F0 m 102 ls [])) (hf : bX7_runTells_34 S x2 x3 x4 x5 = some (b, y2, y3, y4, y5)) (I : mI g s S H locs) (hl : lv_has ls 6 [(0, .ref (g.2.2 0)), (1, .int x1), (2, .int x2), (3, .int x3), (4, .int x4), (5, .int x5)]) : W p l e ({ frames := 4, cells := 0, slots := 0, locals := 95 } : Room) s m args below meth c H locs 0 0 Q (F0 m 34 ls []) := by
  obtain ⟨hx, hb, hml, -, -⟩ := id C0
  unfold bX7_runTells_34 at hf
  refine lv_iload hx hb dX7_runTells_34 (lv_at hl 5 rfl) ?_
  refine lv_aload_n hx hb dX7_runTells_36 rfl (lv_at hl 0 rfl) ?_
  refine mg_X7_76_0 C0 I dX7_runTells_37 ?_
  refine lv_icmp_ge (tgt := 102) hx hb dX7_runTells_40 (by decide) (fun c3 => ?_) (fun c3 => ?_)
  · have hf := ip c3 hf
    obtain ⟨rfl, rfl, rfl, rfl, rfl⟩ := se5 hf
    exact Kf rfl _ _ _ I (lv_sub hl [0, 1, 2, 3, 4, 5] rfl)
  · have hf := inn c3 hf
    refine lv_iload_n hx hb dX7_runTells_43 rfl (lv_at hl 2 rfl) ?_
    refine lv_aload_n hx hb dX7_runTells_44 rfl (lv_at hl 0 rfl) ?_
    refine mg_X7_59_0 C0 I dX7_runTells_45 ?_
    refine lv_iload hx hb dX7_runTells_48 (lv_at hl 5 rfl) ?_
    obtain ⟨b4, hf⟩ := chk_some hf
    refine ml_15 hx hb I b4 dX7_runTells_50 ?_
    refine lv_iadd hx hb dX7_runTells_51 ?_
    refine lv_istore_n (lv' := [(2, .int (x2 + (gR S 14 x5))), (0, .ref (g.2.2 0)), (1, .int x1), (3, .int x3), (4, .int x4), (5, .int x5)]) hx hb dX7_runTells_52 rfl hl (by decide) rfl (fun ls hl => ?_)
    refine lv_aload_n hx hb dX7_runTells_53 rfl (lv_at hl 1 rfl) ?_
    refine mg_X7_59_0 C0 I dX7_runTells_54 ?_
    refine lv_iload hx hb dX7_runTells_57 (lv_at hl 5 rfl) ?_
    obtain ⟨b5, hf⟩ := chk_some hf
    refine ml_15 hx hb I b5 dX7_runTells_59 ?_
    refine lv_iload_n hx hb dX7_runTells_60 rfl (lv_at hl 3 rfl) ?_
    refine lv_icmp_le (tgt := 69) hx hb dX7_runTells_61 (by decide) (fun c6 => ?_) (fun c6 => ?_)
    · have hf := ip c6 hf
      refine lv_iload hx hb dX7_runTells_69 (lv_at hl 4 rfl) ?_
      exact tX7_runTells_71 C0 hr hk Kt Kf hf I (lv_sub hl [1, 2, 0, 3, 4, 5] rfl)
    · have hf := inn c6 hf
      refine lv_iload hx hb dX7_runTells_64 (lv_at hl 5 rfl) ?_
      refine lv_goto (tgt := 71) hx hb dX7_runTells_66 (by decide) ?_
      exact tX7_runTells_71 C0 hr hk Kt Kf hf I (lv_sub hl [1, 2, 0, 3, 4, 5] rfl)
set_option maxHeartbeats 4000000 in
theorem lX7_runTells_34 (C0 : CallFix p m c cX7_runTells 6 s args big RX7) (hr : meth.sig.returnType = (some .int)) (hk : meth.locks = false) {S : St} {x1 : Int32} {y2 : Int32} {y3 : Int32} {y4 : Int32} {y5 : Int32} : ∀ (n : Nat) {x2 : Int32} {x3 : Int32} {x4 : Int32} {x5 : Int32}, lp (fun q => bX7_runTells_34 S q.1 q.2.1 q.2.2.1 q.2.2.2) n (x2, x3, x4, x5) = some (y2, y3, y4, y5) → ∀ {H : Heap} {locs : List Loc}, mI g s S H locs → ∀ {ls : Array Slot}, lv_has ls 6 [(0, .ref (g.2.2 0)), (1, .int x1), (2, .int x2), (3, .int x3), (4, .int x4), (5, .int x5)] → (∀ (H : Heap) (locs : List Loc) (ls : Array Slot), mI g s S H locs → lv_has ls 6 [(0, .ref (g.2.2 0)), (1, .int x1), (2, .int y2), (3, .int y3), (4, .int y4), (5, .int y5)] → W p l e ({ frames := 4, cells := 0, slots := 0, locals := 95 } : Room) s m args below meth c H locs 0 0 Q (F0 m 102 ls [])) → W p l e ({ frames := 4, cells := 0, slots := 0, locals := 95 } : Room) s m args below meth c H locs 0 0 Q (F0 m 34 ls []) := by
  intro n
  induction n with
  | zero => intro x2 x3 x4 x5 hf; cases hf
  | succ n ih =>
    intro x2 x3 x4 x5 hf H locs I ls hl K
    obtain ⟨b, ⟨z0, z1, z2, z3⟩, h1, h2, h3⟩ := lp_some hf
    refine BX7_runTells_34 C0 hr hk (fun hb1 H locs ls I hl => ?_) (fun hb1 H locs ls I hl => ?_) h1 I hl
    · exact ih (h2 hb1) I hl K
    · have e := h3 hb1
      cases e
      exact K H locs ls I hl
set_option maxHeartbeats 4000000 in
set_option maxRecDepth 100000 in
theorem tX7_runTells_29 (C0 : CallFix p m c cX7_runTells 6 s args big RX7) (hr : meth.sig.returnType = (some .int)) (hk : meth.locks = false) {x1 : Int32} {x2 : Int32} {x3 : Int32} {s0 : Int32} {rr : Int32}  (hf : fX7_runTells_29 S x1 x2 x3 s0 = some (rr, S')) (I : mI g s S H locs) (hl : lv_has ls 6 [(0, .ref (g.2.2 0)), (1, .int x1), (2, .int x2), (3, .int x3)]) : W p l e ({ frames := 4, cells := 0, slots := 0, locals := 95 } : Room) s m args below meth c H locs 0 0 (MQ below (va_Qi (fun r' S2 => r' = rr ∧ S2 = S') (mB g) (mA g)) args s 0 0 (mA g)) (F0 m 29 ls [.int s0]) := by
  obtain ⟨hx, hb, hml, -, -⟩ := id C0
  unfold fX7_runTells_29 at hf
  refine lv_istore (lv' := [(4, .int s0), (0, .ref (g.2.2 0)), (1, .int x1), (2, .int x2), (3, .int x3)]) hx hb dX7_runTells_29 hl (by decide) rfl (fun ls hl => ?_)
  refine lv_iconst (v := 0) hx hb dX7_runTells_31 (by decide) ?_
  refine lv_istore (lv' := [(5, .int (0 : Int32)), (4, .int s0), (0, .ref (g.2.2 0)), (1, .int x1), (2, .int x2), (3, .int x3)]) hx hb dX7_runTells_32 hl (by decide) rfl (fun ls hl => ?_)
  obtain ⟨y2_10, y3_10, y4_10, y5_10, h10, hf⟩ := bq4_some hf
  refine lX7_runTells_34 C0 hr hk fu h10 I (lv_sub hl [2, 3, 4, 5, 1, 0] rfl) (fun H locs ls I hl => ?_)
  refine lv_iload_n hx hb dX7_runTells_102 rfl (lv_at hl 1 rfl) ?_
  refine lv_if_ne (tgt := 113) hx hb dX7_runTells_103 (by decide) (fun c11 => ?_) (fun c11 => ?_)
  · have hf := inn c11 hf
    refine lv_iload_n hx hb dX7_runTells_113 rfl (lv_at hl 1 rfl) ?_
    refine lv_iconst (v := 1) hx hb dX7_runTells_114 (by decide) ?_
    refine lv_icmp_ne (tgt := 122) hx hb dX7_runTells_115 (by decide) (fun c12 => ?_) (fun c12 => ?_)
    · have hf := inn c12 hf
      refine lv_iload_n hx hb dX7_runTells_122 rfl (lv_at hl 1 rfl) ?_
      refine lv_iconst (v := 2) hx hb dX7_runTells_123 (by decide) ?_
      refine lv_icmp_ne (tgt := 131) hx hb dX7_runTells_124 (by decide) (fun c13 => ?_) (fun c13 => ?_)
      · have hf := inn c13 hf
        refine lv_iload_n hx hb dX7_runTells_131 rfl (lv_at hl 1 rfl) ?_
        refine lv_iconst (v := 3) hx hb dX7_runTells_132 (by decide) ?_
        refine lv_icmp_ne (tgt := 141) hx hb dX7_runTells_133 (by decide) (fun c14 => ?_) (fun c14 => ?_)
        · have hf := inn c14 hf
          refine lv_aload_n hx hb dX7_runTells_141 rfl (lv_at hl 0 rfl) ?_
          refine mg_X7_205_0 C0 I dX7_runTells_142 ?_
          obtain ⟨rfl, rfl⟩ := se2 hf
          exact mri C0 hr hk I dX7_runTells_145
        · have hf := ip c14 hf
          refine lv_iload hx hb dX7_runTells_136 (lv_at hl 4 rfl) ?_
          refine lv_goto (tgt := 145) hx hb dX7_runTells_138 (by decide) ?_
          obtain ⟨rfl, rfl⟩ := se2 hf
          exact mri C0 hr hk I dX7_runTells_145
      · have hf := ip c13 hf
        refine lv_iload_n hx hb dX7_runTells_127 rfl (lv_at hl 3 rfl) ?_
        refine lv_goto (tgt := 145) hx hb dX7_runTells_128 (by decide) ?_
        obtain ⟨rfl, rfl⟩ := se2 hf
        exact mri C0 hr hk I dX7_runTells_145
    · have hf := ip c12 hf
      refine lv_iload_n hx hb dX7_runTells_118 rfl (lv_at hl 2 rfl) ?_
      refine lv_goto (tgt := 145) hx hb dX7_runTells_119 (by decide) ?_
      obtain ⟨rfl, rfl⟩ := se2 hf
      exact mri C0 hr hk I dX7_runTells_145
  · have hf := ip c11 hf
    refine lv_aload_n hx hb dX7_runTells_106 rfl (lv_at hl 0 rfl) ?_
    refine mg_X7_208_0 C0 I dX7_runTells_107 ?_
    refine lv_goto (tgt := 145) hx hb dX7_runTells_110 (by decide) ?_
    obtain ⟨rfl, rfl⟩ := se2 hf
    exact mri C0 hr hk I dX7_runTells_145
set_option maxHeartbeats 4000000 in
set_option maxRecDepth 100000 in
theorem tX7_runTells_0 (C0 : CallFix p m c cX7_runTells 6 s args big RX7) (hr : meth.sig.returnType = (some .int)) (hk : meth.locks = false) {x1 : Int32} {rr : Int32}  (hf : fX7_runTells S x1 = some (rr, S')) (I : mI g s S H locs) (hl : lv_has ls 6 [(0, .ref (g.2.2 0)), (1, .int x1)]) : W p l e ({ frames := 4, cells := 0, slots := 0, locals := 95 } : Room) s m args below meth c H locs 0 0 (MQ below (va_Qi (fun r' S2 => r' = rr ∧ S2 = S') (mB g) (mA g)) args s 0 0 (mA g)) (F0 m 0 ls []) := by
  obtain ⟨hx, hb, hml, -, -⟩ := id C0
  unfold fX7_runTells at hf
  refine lv_aload_n hx hb dX7_runTells_0 rfl (lv_at hl 0 rfl) ?_
  refine lv_aload_n hx hb dX7_runTells_1 rfl (lv_at hl 0 rfl) ?_
  refine mg_X7_17_0 C0 I dX7_runTells_2 ?_
  refine lv_iconst (v := 1) hx hb dX7_runTells_5 (by decide) ?_
  refine ml_2 hx hb I (in_lit rfl) dX7_runTells_6 ?_
  refine lv_sipush (v := 9999) hx hb dX7_runTells_7 (by decide) ?_
  obtain ⟨S1, h1, hf⟩ := bq1_some hf
  refine mcv_v (As := [.int (gR S 1 (1 : Int32)), .int (9999 : Int32)]) C0 I (kX7_runs h1) (cwV 2 C0.2.2.2.2 (gwV wd_891 wd_893 wd_52 wd_73 wd_894) rfl rfl rfl dsc_X7_runs ⟨Nat.le_of_ble_eq_true rfl, Nat.le_of_ble_eq_true rfl⟩) (mo_0 I) rfl hl.1 rfl (Nat.le_of_ble_eq_true rfl) dX7_runTells_10 (fun H locs I => ?_)
  refine lv_iconst (v := 0) hx hb dX7_runTells_13 (by decide) ?_
  refine lv_istore_n (lv' := [(2, .int (0 : Int32)), (0, .ref (g.2.2 0)), (1, .int x1)]) hx hb dX7_runTells_14 rfl hl (by decide) rfl (fun ls hl => ?_)
  refine lv_iconst (v := 0) hx hb dX7_runTells_15 (by decide) ?_
  refine lv_istore_n (lv' := [(3, .int (0 : Int32)), (2, .int (0 : Int32)), (0, .ref (g.2.2 0)), (1, .int x1)]) hx hb dX7_runTells_16 rfl hl (by decide) rfl (fun ls hl => ?_)
  refine lv_aload_n hx hb dX7_runTells_17 rfl (lv_at hl 2 rfl) ?_
  refine mg_X7_76_0 C0 I dX7_runTells_18 ?_
  refine lv_if_ne (tgt := 28) hx hb dX7_runTells_21 (by decide) (fun c2 => ?_) (fun c2 => ?_)
  · have hf := inn c2 hf
    refine lv_iconst (v := 0) hx hb dX7_runTells_28 (by decide) ?_
    exact tX7_runTells_29 C0 hr hk hf I (lv_sub hl [2, 3, 1, 0] rfl)
  · have hf := ip c2 hf
    refine lv_iconst (v := -1) hx hb dX7_runTells_24 (by decide) ?_
    refine lv_goto (tgt := 29) hx hb dX7_runTells_25 (by decide) ?_
    exact tX7_runTells_29 C0 hr hk hf I (lv_sub hl [2, 3, 1, 0] rfl)
set_option maxRecDepth 100000 in
theorem kX7_runTells {x1 : Int32} {rr : Int32} (hf : fX7_runTells S x1 = some (rr, S')) : Met l yX7_runTells (Cond.code yX7_runTells cX7_runTells 6 (some .int) :: big) ({ frames := 4, cells := 0, slots := 0, locals := 95 } : Room) (va_Pc [.ref (g.2.2 0), .int x1] (mB g S)) (va_Qi (fun r' S2 => r' = rr ∧ S2 = S') (mB g) (mA g)) 0 0 (mA g) := by
  refine Met.ofW (cc := cX7_runTells) (maxL := 6) (ret := (some .int)) (by decide) rfl ?_
  intro p e s m args below meth c s₁ B hml hv
  obtain ⟨rfl, hP, hK, hD⟩ := hv
  have hts0 := atoms_spec (ws := (Cond.code yX7_runTells cX7_runTells 6 (some .int) :: big)) B.pre
  have C0 : CallFix p m c cX7_runTells 6 s _ big RX7 := ⟨B.exec, B.bytes, hml, findClass_of_methodNamed B.named, fun w h => hts0 w (List.mem_cons_of_mem _ h)⟩
  have I : mI g s S s.heap [] := ⟨hK, hP, hD, va_S.rf⟩
  have hl := lv_entry ([.ref (g.2.2 0), .int x1]) (n := 6) (Nat.le_of_ble_eq_true rfl)
  rw [lg_entry_eq]
  generalize (lg_sl ([.ref (g.2.2 0), .int x1]) ++ List.replicate (6 - (lg_sl ([.ref (g.2.2 0), .int x1])).length) Slot.unset).toArray = ls at hl ⊢
  have hl : lv_has ls 6 [(0, .ref (g.2.2 0)), (1, .int x1)] := hl
  exact tX7_runTells_0 C0 B.returns B.notSynchronized hf I (lv_sub hl [0, 1] rfl)
set_option maxHeartbeats 4000000 in
set_option maxRecDepth 100000 in
theorem tX7_run_0 (C0 : CallFix p m c cX7_run 2 s args big RX7) (hr : meth.sig.returnType = (some .int)) (hk : meth.locks = false) {x1 : Int32} {rr : Int32}  (hf : fX7_run S x1 = some (rr, S')) (I : mI g s S H locs) (hl : lv_has ls 2 [(0, .ref (g.2.2 0)), (1, .int x1)]) : W p l e ({ frames := 5, cells := 0, slots := 0, locals := 120 } : Room) s m args below meth c H locs 0 0 (MQ below (va_Qi (fun r' S2 => r' = rr ∧ S2 = S') (mB g) (mA g)) args s 0 0 (mA g)) (F0 m 0 ls []) := by
  obtain ⟨hx, hb, hml, -, -⟩ := id C0
  unfold fX7_run at hf
  refine lv_iload_n hx hb dX7_run_0 rfl (lv_at hl 1 rfl) ?_
  refine lv_iconst (v := 0) hx hb dX7_run_1 (by decide) ?_
  refine lv_iconst (v := 4) hx hb dX7_run_2 (by decide) ?_
  obtain ⟨r1, h1, hf⟩ := bq1_some hf
  refine mcs_i (As := [.int x1, .int (0 : Int32), .int (4 : Int32)]) C0 I (kX7_in h1) (va_cwS 3 C0.2.2.2.2 (gwS wd_702 wd_703 wd_73 wd_704) rfl rfl rfl dsc_X7_in.2 ⟨Nat.le_of_ble_eq_true rfl, Nat.le_of_ble_eq_true rfl⟩) rfl hl.1 rfl (Nat.le_of_ble_eq_true rfl) dX7_run_3 (fun H locs I => ?_)
  refine lv_if_eq (tgt := 17) hx hb dX7_run_6 (by decide) (fun c2 => ?_) (fun c2 => ?_)
  · have hf := ip c2 hf
    refine lv_aload_n hx hb dX7_run_17 rfl (lv_at hl 0 rfl) ?_
    obtain ⟨r3, S3, h3, hf⟩ := bq2_some hf
    refine mcv_i (As := []) C0 I (kX7_bad h3) (cwV 0 C0.2.2.2.2 (gwV wd_705 wd_707 wd_23 wd_73 wd_708) rfl rfl rfl dsc_X7_bad ⟨Nat.le_of_ble_eq_true rfl, Nat.le_of_ble_eq_true rfl⟩) (mo_0 I) rfl hl.1 rfl (Nat.le_of_ble_eq_true rfl) dX7_run_18 (fun H locs I => ?_)
    obtain ⟨rfl, rfl⟩ := se2 hf
    exact mri C0 hr hk I dX7_run_21
  · have hf := inn c2 hf
    refine lv_aload_n hx hb dX7_run_9 rfl (lv_at hl 0 rfl) ?_
    refine lv_iload_n hx hb dX7_run_10 rfl (lv_at hl 1 rfl) ?_
    obtain ⟨r4, S4, h4, hf⟩ := bq2_some hf
    refine mcv_i (As := [.int x1]) C0 I (kX7_runTells h4) (cwV 1 C0.2.2.2.2 (gwV wd_887 wd_889 wd_51 wd_73 wd_890) rfl rfl rfl dsc_X7_runTells ⟨Nat.le_of_ble_eq_true rfl, Nat.le_of_ble_eq_true rfl⟩) (mo_0 I) rfl hl.1 rfl (Nat.le_of_ble_eq_true rfl) dX7_run_11 (fun H locs I => ?_)
    refine lv_goto (tgt := 21) hx hb dX7_run_14 (by decide) ?_
    obtain ⟨rfl, rfl⟩ := se2 hf
    exact mri C0 hr hk I dX7_run_21
set_option maxRecDepth 100000 in
theorem kX7_run {x1 : Int32} {rr : Int32} (hf : fX7_run S x1 = some (rr, S')) : Met l yX7_run (Cond.code yX7_run cX7_run 2 (some .int) :: big) ({ frames := 5, cells := 0, slots := 0, locals := 120 } : Room) (va_Pc [.ref (g.2.2 0), .int x1] (mB g S)) (va_Qi (fun r' S2 => r' = rr ∧ S2 = S') (mB g) (mA g)) 0 0 (mA g) := by
  refine Met.ofW (cc := cX7_run) (maxL := 2) (ret := (some .int)) (by decide) rfl ?_
  intro p e s m args below meth c s₁ B hml hv
  obtain ⟨rfl, hP, hK, hD⟩ := hv
  have hts0 := atoms_spec (ws := (Cond.code yX7_run cX7_run 2 (some .int) :: big)) B.pre
  have C0 : CallFix p m c cX7_run 2 s _ big RX7 := ⟨B.exec, B.bytes, hml, findClass_of_methodNamed B.named, fun w h => hts0 w (List.mem_cons_of_mem _ h)⟩
  have I : mI g s S s.heap [] := ⟨hK, hP, hD, va_S.rf⟩
  have hl := lv_entry ([.ref (g.2.2 0), .int x1]) (n := 2) (Nat.le_of_ble_eq_true rfl)
  rw [lg_entry_eq]
  generalize (lg_sl ([.ref (g.2.2 0), .int x1]) ++ List.replicate (2 - (lg_sl ([.ref (g.2.2 0), .int x1])).length) Slot.unset).toArray = ls at hl ⊢
  have hl : lv_has ls 2 [(0, .ref (g.2.2 0)), (1, .int x1)] := hl
  exact tX7_run_0 C0 B.returns B.notSynchronized hf I (lv_sub hl [0, 1] rfl)
set_option maxHeartbeats 4000000 in
set_option maxRecDepth 100000 in
theorem tX7_ran_33 (C0 : CallFix p m c cX7_ran 4 s args big RX7) (hr : meth.sig.returnType = (some .int)) (hk : meth.locks = false)  {rr : Int32}  (hf : fX7_ran_33 S = some (rr, S')) (I : mI g s S H locs) (hl : lv_has ls 4 [(0, .ref (g.2.2 0))]) : W p l e ({ frames := 4, cells := 0, slots := 0, locals := 95 } : Room) s m args below meth c H locs 0 0 (MQ below (va_Qi (fun r' S2 => r' = rr ∧ S2 = S') (mB g) (mA g)) args s 0 0 (mA g)) (F0 m 33 ls []) := by
  obtain ⟨hx, hb, hml, -, -⟩ := id C0
  unfold fX7_ran_33 at hf
  refine lv_aload_n hx hb dX7_ran_33 rfl (lv_at hl 0 rfl) ?_
  obtain ⟨r3, S3, h3, hf⟩ := bq2_some hf
  refine mcv_i (As := []) C0 I (kX7_bad h3) (cwV 0 C0.2.2.2.2 (gwV wd_705 wd_707 wd_23 wd_73 wd_708) rfl rfl rfl dsc_X7_bad ⟨Nat.le_of_ble_eq_true rfl, Nat.le_of_ble_eq_true rfl⟩) (mo_0 I) rfl hl.1 rfl (Nat.le_of_ble_eq_true rfl) dX7_ran_34 (fun H locs I => ?_)
  obtain ⟨rfl, rfl⟩ := se2 hf
  exact mri C0 hr hk I dX7_ran_37
set_option maxHeartbeats 4000000 in
set_option maxRecDepth 100000 in
theorem tX7_ran_57 (C0 : CallFix p m c cX7_ran 4 s args big RX7) (hr : meth.sig.returnType = (some .int)) (hk : meth.locks = false) {x1 : Int32} {x2 : Int32} {s0 : Int32} {s1 : Int32} {rr : Int32}  (hf : fX7_ran_57 S x1 x2 s0 s1 = some (rr, S')) (I : mI g s S H locs) (hl : lv_has ls 4 [(0, .ref (g.2.2 0)), (1, .int x1), (2, .int x2)]) : W p l e ({ frames := 4, cells := 0, slots := 0, locals := 95 } : Room) s m args below meth c H locs 0 0 (MQ below (va_Qi (fun r' S2 => r' = rr ∧ S2 = S') (mB g) (mA g)) args s 0 0 (mA g)) (F0 m 57 ls [.int s0, .int s1, .ref (g.2.2 0)]) := by
  obtain ⟨hx, hb, hml, -, -⟩ := id C0
  unfold fX7_ran_57 at hf
  obtain ⟨S8, h8, hf⟩ := bq1_some hf
  refine mcv_v (As := [.int s1, .int s0]) C0 I (kX7_runs h8) (cwV 2 C0.2.2.2.2 (gwV wd_891 wd_893 wd_52 wd_73 wd_894) rfl rfl rfl dsc_X7_runs ⟨Nat.le_of_ble_eq_true rfl, Nat.le_of_ble_eq_true rfl⟩) (mo_0 I) rfl hl.1 rfl (Nat.le_of_ble_eq_true rfl) dX7_ran_57 (fun H locs I => ?_)
  refine lv_iload_n hx hb dX7_ran_60 rfl (lv_at hl 2 rfl) ?_
  refine lv_if_ne (tgt := 73) hx hb dX7_ran_61 (by decide) (fun c9 => ?_) (fun c9 => ?_)
  · have hf := inn c9 hf
    refine lv_iload_n hx hb dX7_ran_73 rfl (lv_at hl 2 rfl) ?_
    refine lv_iconst (v := 1) hx hb dX7_ran_74 (by decide) ?_
    refine lv_icmp_ne (tgt := 87) hx hb dX7_ran_75 (by decide) (fun c10 => ?_) (fun c10 => ?_)
    · have hf := inn c10 hf
      refine lv_aload_n hx hb dX7_ran_87 rfl (lv_at hl 0 rfl) ?_
      refine mg_X7_41_0 C0 I dX7_ran_88 ?_
      refine lv_bipush (v := 9) hx hb dX7_ran_91 (by decide) ?_
      refine lv_iload_n hx hb dX7_ran_93 rfl (lv_at hl 1 rfl) ?_
      refine lv_imul hx hb dX7_ran_94 ?_
      refine lv_aload_n hx hb dX7_ran_95 rfl (lv_at hl 0 rfl) ?_
      refine mg_X7_50_0 C0 I dX7_ran_96 ?_
      refine lv_iload_n hx hb dX7_ran_99 rfl (lv_at hl 1 rfl) ?_
      obtain ⟨b11, hf⟩ := chk_some hf
      refine ml_12 hx hb I b11 dX7_ran_100 ?_
      refine lv_iadd hx hb dX7_ran_101 ?_
      obtain ⟨b12, hf⟩ := chk_some hf
      refine ml_10 hx hb I b12 dX7_ran_102 ?_
      obtain ⟨rfl, rfl⟩ := se2 hf
      exact mri C0 hr hk I dX7_ran_103
    · have hf := ip c10 hf
      refine lv_aload_n hx hb dX7_ran_78 rfl (lv_at hl 0 rfl) ?_
      refine mg_X7_59_0 C0 I dX7_ran_79 ?_
      refine lv_iload_n hx hb dX7_ran_82 rfl (lv_at hl 1 rfl) ?_
      obtain ⟨b13, hf⟩ := chk_some hf
      refine ml_15 hx hb I b13 dX7_ran_83 ?_
      refine lv_goto (tgt := 103) hx hb dX7_ran_84 (by decide) ?_
      obtain ⟨rfl, rfl⟩ := se2 hf
      exact mri C0 hr hk I dX7_ran_103
  · have hf := ip c9 hf
    refine lv_aload_n hx hb dX7_ran_64 rfl (lv_at hl 0 rfl) ?_
    refine mg_X7_56_0 C0 I dX7_ran_65 ?_
    refine lv_iload_n hx hb dX7_ran_68 rfl (lv_at hl 1 rfl) ?_
    obtain ⟨b14, hf⟩ := chk_some hf
    refine ml_14 hx hb I b14 dX7_ran_69 ?_
    refine lv_goto (tgt := 103) hx hb dX7_ran_70 (by decide) ?_
    obtain ⟨rfl, rfl⟩ := se2 hf
    exact mri C0 hr hk I dX7_ran_103
set_option maxHeartbeats 4000000 in
set_option maxRecDepth 100000 in
theorem tX7_ran_38 (C0 : CallFix p m c cX7_ran 4 s args big RX7) (hr : meth.sig.returnType = (some .int)) (hk : meth.locks = false) {x1 : Int32} {x2 : Int32} {x3 : Int32} {rr : Int32}  (hf : fX7_ran_38 S x1 x2 x3 = some (rr, S')) (I : mI g s S H locs) (hl : lv_has ls 4 [(0, .ref (g.2.2 0)), (1, .int x1), (2, .int x2), (3, .int x3)]) : W p l e ({ frames := 4, cells := 0, slots := 0, locals := 95 } : Room) s m args below meth c H locs 0 0 (MQ below (va_Qi (fun r' S2 => r' = rr ∧ S2 = S') (mB g) (mA g)) args s 0 0 (mA g)) (F0 m 38 ls []) := by
  obtain ⟨hx, hb, hml, -, -⟩ := id C0
  unfold fX7_ran_38 at hf
  refine lv_aload_n hx hb dX7_ran_38 rfl (lv_at hl 0 rfl) ?_
  refine lv_aload_n hx hb dX7_ran_39 rfl (lv_at hl 0 rfl) ?_
  refine mg_X7_17_0 C0 I dX7_ran_40 ?_
  refine lv_iconst (v := 1) hx hb dX7_ran_43 (by decide) ?_
  refine ml_2 hx hb I (in_lit rfl) dX7_ran_44 ?_
  refine lv_iload_n hx hb dX7_ran_45 rfl (lv_at hl 2 rfl) ?_
  refine lv_iconst (v := 2) hx hb dX7_ran_46 (by decide) ?_
  refine lv_icmp_ne (tgt := 54) hx hb dX7_ran_47 (by decide) (fun c7 => ?_) (fun c7 => ?_)
  · have hf := inn c7 hf
    refine lv_sipush (v := 9999) hx hb dX7_ran_54 (by decide) ?_
    exact tX7_ran_57 C0 hr hk hf I (lv_sub hl [0, 1, 2] rfl)
  · have hf := ip c7 hf
    refine lv_iload_n hx hb dX7_ran_50 rfl (lv_at hl 3 rfl) ?_
    refine lv_goto (tgt := 57) hx hb dX7_ran_51 (by decide) ?_
    exact tX7_ran_57 C0 hr hk hf I (lv_sub hl [0, 1, 2] rfl)
set_option maxHeartbeats 4000000 in
set_option maxRecDepth 100000 in
theorem tX7_ran_0 (C0 : CallFix p m c cX7_ran 4 s args big RX7) (hr : meth.sig.returnType = (some .int)) (hk : meth.locks = false) {x1 : Int32} {x2 : Int32} {x3 : Int32} {rr : Int32}  (hf : fX7_ran S x1 x2 x3 = some (rr, S')) (I : mI g s S H locs) (hl : lv_has ls 4 [(0, .ref (g.2.2 0)), (1, .int x1), (2, .int x2), (3, .int x3)]) : W p l e ({ frames := 4, cells := 0, slots := 0, locals := 95 } : Room) s m args below meth c H locs 0 0 (MQ below (va_Qi (fun r' S2 => r' = rr ∧ S2 = S') (mB g) (mA g)) args s 0 0 (mA g)) (F0 m 0 ls []) := by
  obtain ⟨hx, hb, hml, -, -⟩ := id C0
  unfold fX7_ran at hf
  refine lv_aload_n hx hb dX7_ran_0 rfl (lv_at hl 0 rfl) ?_
  refine lv_iload_n hx hb dX7_ran_1 rfl (lv_at hl 1 rfl) ?_
  obtain ⟨r1, h1, hf⟩ := bq1_some hf
  refine mcv_i (As := [.int x1]) C0 I (kX7_isParcel h1) (cwV 1 C0.2.2.2.2 (gwV wd_740 wd_742 wd_29 wd_73 wd_743) rfl rfl rfl dsc_X7_isParcel ⟨Nat.le_of_ble_eq_true rfl, Nat.le_of_ble_eq_true rfl⟩) (mo_0 I) rfl hl.1 rfl (Nat.le_of_ble_eq_true rfl) dX7_ran_2 (fun H locs I => ?_)
  refine lv_if_eq (tgt := 33) hx hb dX7_ran_5 (by decide) (fun c2 => ?_) (fun c2 => ?_)
  · have hf := ip c2 hf
    exact tX7_ran_33 C0 hr hk hf I (lv_sub hl [0] rfl)
  · have hf := inn c2 hf
    refine lv_iload_n hx hb dX7_ran_8 rfl (lv_at hl 2 rfl) ?_
    refine lv_iconst (v := 0) hx hb dX7_ran_9 (by decide) ?_
    refine lv_iconst (v := 2) hx hb dX7_ran_10 (by decide) ?_
    obtain ⟨r4, h4, hf⟩ := bq1_some hf
    refine mcs_i (As := [.int x2, .int (0 : Int32), .int (2 : Int32)]) C0 I (kX7_in h4) (va_cwS 3 C0.2.2.2.2 (gwS wd_702 wd_703 wd_73 wd_704) rfl rfl rfl dsc_X7_in.2 ⟨Nat.le_of_ble_eq_true rfl, Nat.le_of_ble_eq_true rfl⟩) rfl hl.1 rfl (Nat.le_of_ble_eq_true rfl) dX7_ran_11 (fun H locs I => ?_)
    refine lv_if_eq (tgt := 33) hx hb dX7_ran_14 (by decide) (fun c5 => ?_) (fun c5 => ?_)
    · have hf := ip c5 hf
      exact tX7_ran_33 C0 hr hk hf I (lv_sub hl [0] rfl)
    · have hf := inn c5 hf
      refine lv_iload_n hx hb dX7_ran_17 rfl (lv_at hl 2 rfl) ?_
      refine lv_iconst (v := 2) hx hb dX7_ran_18 (by decide) ?_
      refine lv_icmp_ne (tgt := 38) hx hb dX7_ran_19 (by decide) (fun c6 => ?_) (fun c6 => ?_)
      · have hf := inn c6 hf
        exact tX7_ran_38 C0 hr hk hf I (lv_sub hl [0, 1, 2, 3] rfl)
      · have hf := ip c6 hf
        refine lv_iload_n hx hb dX7_ran_22 rfl (lv_at hl 3 rfl) ?_
        refine lv_iconst (v := 0) hx hb dX7_ran_23 (by decide) ?_
        refine lv_sipush (v := 400) hx hb dX7_ran_24 (by decide) ?_
        obtain ⟨r15, h15, hf⟩ := bq1_some hf
        refine mcs_i (As := [.int x3, .int (0 : Int32), .int (400 : Int32)]) C0 I (kX7_in h15) (va_cwS 3 C0.2.2.2.2 (gwS wd_702 wd_703 wd_73 wd_704) rfl rfl rfl dsc_X7_in.2 ⟨Nat.le_of_ble_eq_true rfl, Nat.le_of_ble_eq_true rfl⟩) rfl hl.1 rfl (Nat.le_of_ble_eq_true rfl) dX7_ran_27 (fun H locs I => ?_)
        refine lv_if_ne (tgt := 38) hx hb dX7_ran_30 (by decide) (fun c16 => ?_) (fun c16 => ?_)
        · have hf := inn c16 hf
          exact tX7_ran_38 C0 hr hk hf I (lv_sub hl [0, 1, 2, 3] rfl)
        · have hf := ip c16 hf
          exact tX7_ran_33 C0 hr hk hf I (lv_sub hl [0] rfl)
set_option maxRecDepth 100000 in
theorem kX7_ran {x1 : Int32} {x2 : Int32} {x3 : Int32} {rr : Int32} (hf : fX7_ran S x1 x2 x3 = some (rr, S')) : Met l yX7_ran (Cond.code yX7_ran cX7_ran 4 (some .int) :: big) ({ frames := 4, cells := 0, slots := 0, locals := 95 } : Room) (va_Pc [.ref (g.2.2 0), .int x1, .int x2, .int x3] (mB g S)) (va_Qi (fun r' S2 => r' = rr ∧ S2 = S') (mB g) (mA g)) 0 0 (mA g) := by
  refine Met.ofW (cc := cX7_ran) (maxL := 4) (ret := (some .int)) (by decide) rfl ?_
  intro p e s m args below meth c s₁ B hml hv
  obtain ⟨rfl, hP, hK, hD⟩ := hv
  have hts0 := atoms_spec (ws := (Cond.code yX7_ran cX7_ran 4 (some .int) :: big)) B.pre
  have C0 : CallFix p m c cX7_ran 4 s _ big RX7 := ⟨B.exec, B.bytes, hml, findClass_of_methodNamed B.named, fun w h => hts0 w (List.mem_cons_of_mem _ h)⟩
  have I : mI g s S s.heap [] := ⟨hK, hP, hD, va_S.rf⟩
  have hl := lv_entry ([.ref (g.2.2 0), .int x1, .int x2, .int x3]) (n := 4) (Nat.le_of_ble_eq_true rfl)
  rw [lg_entry_eq]
  generalize (lg_sl ([.ref (g.2.2 0), .int x1, .int x2, .int x3]) ++ List.replicate (4 - (lg_sl ([.ref (g.2.2 0), .int x1, .int x2, .int x3])).length) Slot.unset).toArray = ls at hl ⊢
  have hl : lv_has ls 4 [(0, .ref (g.2.2 0)), (1, .int x1), (2, .int x2), (3, .int x3)] := hl
  exact tX7_ran_0 C0 B.returns B.notSynchronized hf I (lv_sub hl [0, 1, 2, 3] rfl)
set_option maxHeartbeats 4000000 in
set_option maxRecDepth 100000 in
theorem tX7_best_55 (C0 : CallFix p m c cX7_best 5 s args big RX7) (hr : meth.sig.returnType = (some .int)) (hk : meth.locks = false) {x1 : Int32} {x2 : Int32} {x3 : Int32} {x4 : Int32} {s0 : Int32} {b : Bool} {y2 : Int32} {y3 : Int32} {y4 : Int32} (Kt : b = true → ∀ (H : Heap) (locs : List Loc) (ls : Array Slot), mI g s S' H locs → lv_has ls 5 [(0, .ref (g.2.2 0)), (1, .int x1), (2, .int y2), (3, .int y3), (4, .int y4)] → W p l e ({ frames := 4, cells := 0, slots := 0, locals := 95 } : Room) s m args below meth c H locs 0 0 Q (F0 m 21 ls [])) (Kf : b = false → ∀ (H : Heap) (locs : List Loc) (ls : Array Slot), mI g s S' H locs → lv_has ls 5 [(0, .ref (g.2.2 0)), (1, .int x1), (2, .int y2), (3, .int y3), (4, .int y4)] → W p l e ({ frames := 4, cells := 0, slots := 0, locals := 95 } : Room) s m args below meth c H locs 0 0 Q (F0 m 84 ls [])) (hf : fX7_best_55 S x3 x4 s0 = some (b, S', y2, y3, y4)) (I : mI g s S H locs) (hl : lv_has ls 5 [(0, .ref (g.2.2 0)), (1, .int x1), (2, .int x2), (3, .int x3), (4, .int x4)]) : W p l e ({ frames := 4, cells := 0, slots := 0, locals := 95 } : Room) s m args below meth c H locs 0 0 Q (F0 m 55 ls [.int s0]) := by
  obtain ⟨hx, hb, hml, -, -⟩ := id C0
  unfold fX7_best_55 at hf
  refine lv_istore_n (lv' := [(2, .int s0), (0, .ref (g.2.2 0)), (1, .int x1), (3, .int x3), (4, .int x4)]) hx hb dX7_best_55 rfl hl (by decide) rfl (fun ls hl => ?_)
  refine lv_iload hx hb dX7_best_56 (lv_at hl 4 rfl) ?_
  refine lv_if_eq (tgt := 69) hx hb dX7_best_58 (by decide) (fun c6 => ?_) (fun c6 => ?_)
  · have hf := ip c6 hf
    refine lv_aload_n hx hb dX7_best_69 rfl (lv_at hl 1 rfl) ?_
    refine mg_X7_208_0 C0 I dX7_best_70 ?_
    refine lv_goto (tgt := 77) hx hb dX7_best_73 (by decide) ?_
    refine lv_istore_n (lv' := [(3, .int (gF S 20)), (2, .int s0), (0, .ref (g.2.2 0)), (1, .int x1), (4, .int x4)]) hx hb dX7_best_77 rfl hl (by decide) rfl (fun ls hl => ?_)
    refine lv_iinc (v := (x4 + (1 : Int32))) (lv' := [(4, .int (x4 + (1 : Int32))), (3, .int (gF S 20)), (2, .int s0), (0, .ref (g.2.2 0)), (1, .int x1)]) hx hb dX7_best_78 hl (k := 4) rfl rfl (by decide) rfl (fun ls hl => ?_)
    refine lv_goto (tgt := 21) hx hb dX7_best_81 (by decide) ?_
    obtain ⟨rfl, rfl, rfl, rfl, rfl⟩ := se5 hf
    exact Kt rfl _ _ _ I (lv_sub hl [3, 4, 2, 1, 0] rfl)
  · have hf := inn c6 hf
    refine lv_aload_n hx hb dX7_best_61 rfl (lv_at hl 1 rfl) ?_
    refine mg_X7_208_0 C0 I dX7_best_62 ?_
    refine lv_iload_n hx hb dX7_best_65 rfl (lv_at hl 3 rfl) ?_
    refine lv_icmp_ge (tgt := 76) hx hb dX7_best_66 (by decide) (fun c7 => ?_) (fun c7 => ?_)
    · have hf := ip c7 hf
      refine lv_iload_n hx hb dX7_best_76 rfl (lv_at hl 3 rfl) ?_
      refine lv_istore_n (lv' := [(3, .int x3), (2, .int s0), (0, .ref (g.2.2 0)), (1, .int x1), (4, .int x4)]) hx hb dX7_best_77 rfl hl (by decide) rfl (fun ls hl => ?_)
      refine lv_iinc (v := (x4 + (1 : Int32))) (lv' := [(4, .int (x4 + (1 : Int32))), (3, .int x3), (2, .int s0), (0, .ref (g.2.2 0)), (1, .int x1)]) hx hb dX7_best_78 hl (k := 4) rfl rfl (by decide) rfl (fun ls hl => ?_)
      refine lv_goto (tgt := 21) hx hb dX7_best_81 (by decide) ?_
      obtain ⟨rfl, rfl, rfl, rfl, rfl⟩ := se5 hf
      exact Kt rfl _ _ _ I (lv_sub hl [3, 4, 2, 1, 0] rfl)
    · have hf := inn c7 hf
      refine lv_aload_n hx hb dX7_best_69 rfl (lv_at hl 1 rfl) ?_
      refine mg_X7_208_0 C0 I dX7_best_70 ?_
      refine lv_goto (tgt := 77) hx hb dX7_best_73 (by decide) ?_
      refine lv_istore_n (lv' := [(3, .int (gF S 20)), (2, .int s0), (0, .ref (g.2.2 0)), (1, .int x1), (4, .int x4)]) hx hb dX7_best_77 rfl hl (by decide) rfl (fun ls hl => ?_)
      refine lv_iinc (v := (x4 + (1 : Int32))) (lv' := [(4, .int (x4 + (1 : Int32))), (3, .int (gF S 20)), (2, .int s0), (0, .ref (g.2.2 0)), (1, .int x1)]) hx hb dX7_best_78 hl (k := 4) rfl rfl (by decide) rfl (fun ls hl => ?_)
      refine lv_goto (tgt := 21) hx hb dX7_best_81 (by decide) ?_
      obtain ⟨rfl, rfl, rfl, rfl, rfl⟩ := se5 hf
      exact Kt rfl _ _ _ I (lv_sub hl [3, 4, 2, 1, 0] rfl)
set_option maxHeartbeats 4000000 in
set_option maxRecDepth 100000 in
theorem tX7_best_49 (C0 : CallFix p m c cX7_best 5 s args big RX7) (hr : meth.sig.returnType = (some .int)) (hk : meth.locks = false) {x1 : Int32} {x2 : Int32} {x3 : Int32} {x4 : Int32} {b : Bool} {y2 : Int32} {y3 : Int32} {y4 : Int32} (Kt : b = true → ∀ (H : Heap) (locs : List Loc) (ls : Array Slot), mI g s S' H locs → lv_has ls 5 [(0, .ref (g.2.2 0)), (1, .int x1), (2, .int y2), (3, .int y3), (4, .int y4)] → W p l e ({ frames := 4, cells := 0, slots := 0, locals := 95 } : Room) s m args below meth c H locs 0 0 Q (F0 m 21 ls [])) (Kf : b = false → ∀ (H : Heap) (locs : List Loc) (ls : Array Slot), mI g s S' H locs → lv_has ls 5 [(0, .ref (g.2.2 0)), (1, .int x1), (2, .int y2), (3, .int y3), (4, .int y4)] → W p l e ({ frames := 4, cells := 0, slots := 0, locals := 95 } : Room) s m args below meth c H locs 0 0 Q (F0 m 84 ls [])) (hf : fX7_best_49 S x3 x4 = some (b, S', y2, y3, y4)) (I : mI g s S H locs) (hl : lv_has ls 5 [(0, .ref (g.2.2 0)), (1, .int x1), (2, .int x2), (3, .int x3), (4, .int x4)]) : W p l e ({ frames := 4, cells := 0, slots := 0, locals := 95 } : Room) s m args below meth c H locs 0 0 Q (F0 m 49 ls []) := by
  obtain ⟨hx, hb, hml, -, -⟩ := id C0
  unfold fX7_best_49 at hf
  refine lv_iload hx hb dX7_best_49 (lv_at hl 4 rfl) ?_
  refine lv_goto (tgt := 55) hx hb dX7_best_51 (by decide) ?_
  exact tX7_best_55 C0 hr hk Kt Kf hf I (lv_sub hl [0, 1, 2, 3, 4] rfl)
set_option maxHeartbeats 4000000 in
set_option maxRecDepth 100000 in
theorem BX7_best_21 (C0 : CallFix p m c cX7_best 5 s args big RX7) (hr : meth.sig.returnType = (some .int)) (hk : meth.locks = false) {x1 : Int32} {x2 : Int32} {x3 : Int32} {x4 : Int32} {b : Bool} {y2 : Int32} {y3 : Int32} {y4 : Int32} (Kt : b = true → ∀ (H : Heap) (locs : List Loc) (ls : Array Slot), mI g s S' H locs → lv_has ls 5 [(0, .ref (g.2.2 0)), (1, .int x1), (2, .int y2), (3, .int y3), (4, .int y4)] → W p l e ({ frames := 4, cells := 0, slots := 0, locals := 95 } : Room) s m args below meth c H locs 0 0 Q (F0 m 21 ls [])) (Kf : b = false → ∀ (H : Heap) (locs : List Loc) (ls : Array Slot), mI g s S' H locs → lv_has ls 5 [(0, .ref (g.2.2 0)), (1, .int x1), (2, .int y2), (3, .int y3), (4, .int y4)] → W p l e ({ frames := 4, cells := 0, slots := 0, locals := 95 } : Room) s m args below meth c H locs 0 0 Q (F0 m 84 ls [])) (hf : bX7_best_21 S x2 x3 x4 = some (b, S', y2, y3, y4)) (I : mI g s S H locs) (hl : lv_has ls 5 [(0, .ref (g.2.2 0)), (1, .int x1), (2, .int x2), (3, .int x3), (4, .int x4)]) : W p l e ({ frames := 4, cells := 0, slots := 0, locals := 95 } : Room) s m args below meth c H locs 0 0 Q (F0 m 21 ls []) := by
  obtain ⟨hx, hb, hml, -, -⟩ := id C0
  unfold bX7_best_21 at hf
  refine lv_iload hx hb dX7_best_21 (lv_at hl 4 rfl) ?_
  refine lv_iconst (v := 4) hx hb dX7_best_23 (by decide) ?_
  refine lv_icmp_ge (tgt := 84) hx hb dX7_best_24 (by decide) (fun c3 => ?_) (fun c3 => ?_)
  · have hf := ip c3 hf
    obtain ⟨rfl, rfl, rfl, rfl, rfl⟩ := se5 hf
    exact Kf rfl _ _ _ I (lv_sub hl [0, 1, 2, 3, 4] rfl)
  · have hf := inn c3 hf
    refine lv_aload_n hx hb dX7_best_27 rfl (lv_at hl 0 rfl) ?_
    refine lv_iload hx hb dX7_best_28 (lv_at hl 4 rfl) ?_
    refine lv_sipush (v := 9999) hx hb dX7_best_30 (by decide) ?_
    obtain ⟨S4, h4, hf⟩ := bq1_some hf
    refine mcv_v (As := [.int x4, .int (9999 : Int32)]) C0 I (kX7_runs h4) (cwV 2 C0.2.2.2.2 (gwV wd_891 wd_893 wd_52 wd_73 wd_894) rfl rfl rfl dsc_X7_runs ⟨Nat.le_of_ble_eq_true rfl, Nat.le_of_ble_eq_true rfl⟩) (mo_0 I) rfl hl.1 rfl (Nat.le_of_ble_eq_true rfl) dX7_best_33 (fun H locs I => ?_)
    refine lv_iload hx hb dX7_best_36 (lv_at hl 4 rfl) ?_
    refine lv_if_eq (tgt := 49) hx hb dX7_best_38 (by decide) (fun c5 => ?_) (fun c5 => ?_)
    · have hf := ip c5 hf
      exact tX7_best_49 C0 hr hk Kt Kf hf I (lv_sub hl [0, 1, 2, 3, 4] rfl)
    · have hf := inn c5 hf
      refine lv_aload_n hx hb dX7_best_41 rfl (lv_at hl 0 rfl) ?_
      refine mg_X7_208_0 C0 I dX7_best_42 ?_
      refine lv_iload_n hx hb dX7_best_45 rfl (lv_at hl 3 rfl) ?_
      refine lv_icmp_ge (tgt := 54) hx hb dX7_best_46 (by decide) (fun c8 => ?_) (fun c8 => ?_)
      · have hf := ip c8 hf
        refine lv_iload_n hx hb dX7_best_54 rfl (lv_at hl 2 rfl) ?_
        exact tX7_best_55 C0 hr hk Kt Kf hf I (lv_sub hl [0, 1, 2, 3, 4] rfl)
      · have hf := inn c8 hf
        exact tX7_best_49 C0 hr hk Kt Kf hf I (lv_sub hl [0, 1, 2, 3, 4] rfl)
set_option maxHeartbeats 4000000 in
theorem lX7_best_21 (C0 : CallFix p m c cX7_best 5 s args big RX7) (hr : meth.sig.returnType = (some .int)) (hk : meth.locks = false) {x1 : Int32} {S' : St} {y2 : Int32} {y3 : Int32} {y4 : Int32} : ∀ (n : Nat) {S : St} {x2 : Int32} {x3 : Int32} {x4 : Int32}, lp (fun q => bX7_best_21 q.1 q.2.1 q.2.2.1 q.2.2.2) n (S, x2, x3, x4) = some (S', y2, y3, y4) → ∀ {H : Heap} {locs : List Loc}, mI g s S H locs → ∀ {ls : Array Slot}, lv_has ls 5 [(0, .ref (g.2.2 0)), (1, .int x1), (2, .int x2), (3, .int x3), (4, .int x4)] → (∀ (H : Heap) (locs : List Loc) (ls : Array Slot), mI g s S' H locs → lv_has ls 5 [(0, .ref (g.2.2 0)), (1, .int x1), (2, .int y2), (3, .int y3), (4, .int y4)] → W p l e ({ frames := 4, cells := 0, slots := 0, locals := 95 } : Room) s m args below meth c H locs 0 0 Q (F0 m 84 ls [])) → W p l e ({ frames := 4, cells := 0, slots := 0, locals := 95 } : Room) s m args below meth c H locs 0 0 Q (F0 m 21 ls []) := by
  intro n
  induction n with
  | zero => intro S x2 x3 x4 hf; cases hf
  | succ n ih =>
    intro S x2 x3 x4 hf H locs I ls hl K
    obtain ⟨b, ⟨z0, z1, z2, z3⟩, h1, h2, h3⟩ := lp_some hf
    refine BX7_best_21 C0 hr hk (fun hb1 H locs ls I hl => ?_) (fun hb1 H locs ls I hl => ?_) h1 I hl
    · exact ih (h2 hb1) I hl K
    · have e := h3 hb1
      cases e
      exact K H locs ls I hl
set_option maxHeartbeats 4000000 in
set_option maxRecDepth 100000 in
theorem tX7_best_0 (C0 : CallFix p m c cX7_best 5 s args big RX7) (hr : meth.sig.returnType = (some .int)) (hk : meth.locks = false) {x1 : Int32} {rr : Int32}  (hf : fX7_best S x1 = some (rr, S')) (I : mI g s S H locs) (hl : lv_has ls 5 [(0, .ref (g.2.2 0)), (1, .int x1)]) : W p l e ({ frames := 4, cells := 0, slots := 0, locals := 95 } : Room) s m args below meth c H locs 0 0 (MQ below (va_Qi (fun r' S2 => r' = rr ∧ S2 = S') (mB g) (mA g)) args s 0 0 (mA g)) (F0 m 0 ls []) := by
  obtain ⟨hx, hb, hml, -, -⟩ := id C0
  unfold fX7_best at hf
  refine lv_iload_n hx hb dX7_best_0 rfl (lv_at hl 1 rfl) ?_
  refine lv_iconst (v := 0) hx hb dX7_best_1 (by decide) ?_
  refine lv_iconst (v := 1) hx hb dX7_best_2 (by decide) ?_
  obtain ⟨r1, h1, hf⟩ := bq1_some hf
  refine mcs_i (As := [.int x1, .int (0 : Int32), .int (1 : Int32)]) C0 I (kX7_in h1) (va_cwS 3 C0.2.2.2.2 (gwS wd_702 wd_703 wd_73 wd_704) rfl rfl rfl dsc_X7_in.2 ⟨Nat.le_of_ble_eq_true rfl, Nat.le_of_ble_eq_true rfl⟩) rfl hl.1 rfl (Nat.le_of_ble_eq_true rfl) dX7_best_3 (fun H locs I => ?_)
  refine lv_if_ne (tgt := 14) hx hb dX7_best_6 (by decide) (fun c2 => ?_) (fun c2 => ?_)
  · have hf := inn c2 hf
    refine lv_iconst (v := 0) hx hb dX7_best_14 (by decide) ?_
    refine lv_istore_n (lv' := [(2, .int (0 : Int32)), (0, .ref (g.2.2 0)), (1, .int x1)]) hx hb dX7_best_15 rfl hl (by decide) rfl (fun ls hl => ?_)
    refine lv_iconst (v := 0) hx hb dX7_best_16 (by decide) ?_
    refine lv_istore_n (lv' := [(3, .int (0 : Int32)), (2, .int (0 : Int32)), (0, .ref (g.2.2 0)), (1, .int x1)]) hx hb dX7_best_17 rfl hl (by decide) rfl (fun ls hl => ?_)
    refine lv_iconst (v := 0) hx hb dX7_best_18 (by decide) ?_
    refine lv_istore (lv' := [(4, .int (0 : Int32)), (3, .int (0 : Int32)), (2, .int (0 : Int32)), (0, .ref (g.2.2 0)), (1, .int x1)]) hx hb dX7_best_19 hl (by decide) rfl (fun ls hl => ?_)
    obtain ⟨S9, y2_9, y3_9, y4_9, h9, hf⟩ := bq4_some hf
    refine lX7_best_21 C0 hr hk fu h9 I (lv_sub hl [3, 4, 2, 1, 0] rfl) (fun H locs ls I hl => ?_)
    refine lv_iload_n hx hb dX7_best_84 rfl (lv_at hl 1 rfl) ?_
    refine lv_if_ne (tgt := 92) hx hb dX7_best_85 (by decide) (fun c10 => ?_) (fun c10 => ?_)
    · have hf := inn c10 hf
      refine lv_iload_n hx hb dX7_best_92 rfl (lv_at hl 3 rfl) ?_
      obtain ⟨rfl, rfl⟩ := se2 hf
      exact mri C0 hr hk I dX7_best_93
    · have hf := ip c10 hf
      refine lv_iload_n hx hb dX7_best_88 rfl (lv_at hl 2 rfl) ?_
      refine lv_goto (tgt := 93) hx hb dX7_best_89 (by decide) ?_
      obtain ⟨rfl, rfl⟩ := se2 hf
      exact mri C0 hr hk I dX7_best_93
  · have hf := ip c2 hf
    refine lv_aload_n hx hb dX7_best_9 rfl (lv_at hl 0 rfl) ?_
    obtain ⟨r11, S11, h11, hf⟩ := bq2_some hf
    refine mcv_i (As := []) C0 I (kX7_bad h11) (cwV 0 C0.2.2.2.2 (gwV wd_705 wd_707 wd_23 wd_73 wd_708) rfl rfl rfl dsc_X7_bad ⟨Nat.le_of_ble_eq_true rfl, Nat.le_of_ble_eq_true rfl⟩) (mo_0 I) rfl hl.1 rfl (Nat.le_of_ble_eq_true rfl) dX7_best_10 (fun H locs I => ?_)
    obtain ⟨rfl, rfl⟩ := se2 hf
    exact mri C0 hr hk I dX7_best_13
set_option maxRecDepth 100000 in
theorem kX7_best {x1 : Int32} {rr : Int32} (hf : fX7_best S x1 = some (rr, S')) : Met l yX7_best (Cond.code yX7_best cX7_best 5 (some .int) :: big) ({ frames := 4, cells := 0, slots := 0, locals := 95 } : Room) (va_Pc [.ref (g.2.2 0), .int x1] (mB g S)) (va_Qi (fun r' S2 => r' = rr ∧ S2 = S') (mB g) (mA g)) 0 0 (mA g) := by
  refine Met.ofW (cc := cX7_best) (maxL := 5) (ret := (some .int)) (by decide) rfl ?_
  intro p e s m args below meth c s₁ B hml hv
  obtain ⟨rfl, hP, hK, hD⟩ := hv
  have hts0 := atoms_spec (ws := (Cond.code yX7_best cX7_best 5 (some .int) :: big)) B.pre
  have C0 : CallFix p m c cX7_best 5 s _ big RX7 := ⟨B.exec, B.bytes, hml, findClass_of_methodNamed B.named, fun w h => hts0 w (List.mem_cons_of_mem _ h)⟩
  have I : mI g s S s.heap [] := ⟨hK, hP, hD, va_S.rf⟩
  have hl := lv_entry ([.ref (g.2.2 0), .int x1]) (n := 5) (Nat.le_of_ble_eq_true rfl)
  rw [lg_entry_eq]
  generalize (lg_sl ([.ref (g.2.2 0), .int x1]) ++ List.replicate (5 - (lg_sl ([.ref (g.2.2 0), .int x1])).length) Slot.unset).toArray = ls at hl ⊢
  have hl : lv_has ls 5 [(0, .ref (g.2.2 0)), (1, .int x1)] := hl
  exact tX7_best_0 C0 B.returns B.notSynchronized hf I (lv_sub hl [0, 1] rfl)
set_option maxHeartbeats 4000000 in
set_option maxRecDepth 100000 in
theorem BX7_straight_6 (C0 : CallFix p m c cX7_straight 2 s args big RX7) (hr : meth.sig.returnType = (some .int)) (hk : meth.locks = false) {x1 : Int32} {b : Bool} {y1 : Int32} (Kt : b = true → ∀ (H : Heap) (locs : List Loc) (ls : Array Slot), mI g s S' H locs → lv_has ls 2 [(0, .ref (g.2.2 0)), (1, .int y1)] → W p l e ({ frames := 2, cells := 0, slots := 0, locals := 48 } : Room) s m args below meth c H locs 0 0 Q (F0 m 6 ls [])) (Kf : b = false → ∀ (H : Heap) (locs : List Loc) (ls : Array Slot), mI g s S' H locs → lv_has ls 2 [(0, .ref (g.2.2 0)), (1, .int y1)] → W p l e ({ frames := 2, cells := 0, slots := 0, locals := 48 } : Room) s m args below meth c H locs 0 0 Q (F0 m 37 ls [])) (hf : bX7_straight_6 S x1 = some (b, S', y1)) (I : mI g s S H locs) (hl : lv_has ls 2 [(0, .ref (g.2.2 0)), (1, .int x1)]) : W p l e ({ frames := 2, cells := 0, slots := 0, locals := 48 } : Room) s m args below meth c H locs 0 0 Q (F0 m 6 ls []) := by
  obtain ⟨hx, hb, hml, -, -⟩ := id C0
  unfold bX7_straight_6 at hf
  refine lv_iload_n hx hb dX7_straight_6 rfl (lv_at hl 1 rfl) ?_
  refine lv_aload_n hx hb dX7_straight_7 rfl (lv_at hl 0 rfl) ?_
  refine mg_X7_76_0 C0 I dX7_straight_8 ?_
  refine lv_icmp_ge (tgt := 37) hx hb dX7_straight_11 (by decide) (fun c2 => ?_) (fun c2 => ?_)
  · have hf := ip c2 hf
    obtain ⟨rfl, rfl, rfl⟩ := se3 hf
    exact Kf rfl _ _ _ I (lv_sub hl [0, 1] rfl)
  · have hf := inn c2 hf
    refine lv_aload_n hx hb dX7_straight_14 rfl (lv_at hl 0 rfl) ?_
    refine lv_iload_n hx hb dX7_straight_15 rfl (lv_at hl 1 rfl) ?_
    refine lv_aload_n hx hb dX7_straight_16 rfl (lv_at hl 0 rfl) ?_
    refine mg_X7_20_0 C0 I dX7_straight_17 ?_
    refine lv_iload_n hx hb dX7_straight_20 rfl (lv_at hl 1 rfl) ?_
    obtain ⟨b3, hf⟩ := chk_some hf
    refine ml_3 hx hb I b3 dX7_straight_21 ?_
    obtain ⟨S4, h4, hf⟩ := bq1_some hf
    refine mcv_v (As := [.int x1, .int (gR S 2 x1)]) C0 I (kX7_setWay h4) (cwV 2 C0.2.2.2.2 (gwV wd_784 wd_786 wd_34 wd_73 wd_787) rfl rfl rfl dsc_X7_setWay ⟨Nat.le_of_ble_eq_true rfl, Nat.le_of_ble_eq_true rfl⟩) (mo_0 I) rfl hl.1 rfl (Nat.le_of_ble_eq_true rfl) dX7_straight_22 (fun H locs I => ?_)
    refine lv_aload_n hx hb dX7_straight_25 rfl (lv_at hl 0 rfl) ?_
    refine lv_iload_n hx hb dX7_straight_26 rfl (lv_at hl 1 rfl) ?_
    refine lv_iconst (v := 1) hx hb dX7_straight_27 (by decide) ?_
    obtain ⟨S5, h5, hf⟩ := bq1_some hf
    refine mcv_v (As := [.int x1, .int (1 : Int32)]) C0 I (kX7_loadsBy h5) (cwV 2 C0.2.2.2.2 (gwV wd_824 wd_826 wd_42 wd_73 wd_827) rfl rfl rfl dsc_X7_loadsBy ⟨Nat.le_of_ble_eq_true rfl, Nat.le_of_ble_eq_true rfl⟩) (mo_0 I) rfl hl.1 rfl (Nat.le_of_ble_eq_true rfl) dX7_straight_28 (fun H locs I => ?_)
    refine lv_iinc (v := (x1 + (1 : Int32))) (lv' := [(1, .int (x1 + (1 : Int32))), (0, .ref (g.2.2 0))]) hx hb dX7_straight_31 hl (k := 1) rfl rfl (by decide) rfl (fun ls hl => ?_)
    refine lv_goto (tgt := 6) hx hb dX7_straight_34 (by decide) ?_
    obtain ⟨rfl, rfl, rfl⟩ := se3 hf
    exact Kt rfl _ _ _ I (lv_sub hl [1, 0] rfl)
set_option maxHeartbeats 4000000 in
theorem lX7_straight_6 (C0 : CallFix p m c cX7_straight 2 s args big RX7) (hr : meth.sig.returnType = (some .int)) (hk : meth.locks = false)  {S' : St} {y1 : Int32} : ∀ (n : Nat) {S : St} {x1 : Int32}, lp (fun q => bX7_straight_6 q.1 q.2) n (S, x1) = some (S', y1) → ∀ {H : Heap} {locs : List Loc}, mI g s S H locs → ∀ {ls : Array Slot}, lv_has ls 2 [(0, .ref (g.2.2 0)), (1, .int x1)] → (∀ (H : Heap) (locs : List Loc) (ls : Array Slot), mI g s S' H locs → lv_has ls 2 [(0, .ref (g.2.2 0)), (1, .int y1)] → W p l e ({ frames := 2, cells := 0, slots := 0, locals := 48 } : Room) s m args below meth c H locs 0 0 Q (F0 m 37 ls [])) → W p l e ({ frames := 2, cells := 0, slots := 0, locals := 48 } : Room) s m args below meth c H locs 0 0 Q (F0 m 6 ls []) := by
  intro n
  induction n with
  | zero => intro S x1 hf; cases hf
  | succ n ih =>
    intro S x1 hf H locs I ls hl K
    obtain ⟨b, ⟨z0, z1⟩, h1, h2, h3⟩ := lp_some hf
    refine BX7_straight_6 C0 hr hk (fun hb1 H locs ls I hl => ?_) (fun hb1 H locs ls I hl => ?_) h1 I hl
    · exact ih (h2 hb1) I hl K
    · have e := h3 hb1
      cases e
      exact K H locs ls I hl
set_option maxHeartbeats 4000000 in
set_option maxRecDepth 100000 in
theorem tX7_straight_0 (C0 : CallFix p m c cX7_straight 2 s args big RX7) (hr : meth.sig.returnType = (some .int)) (hk : meth.locks = false)  {rr : Int32}  (hf : fX7_straight S = some (rr, S')) (I : mI g s S H locs) (hl : lv_has ls 2 [(0, .ref (g.2.2 0))]) : W p l e ({ frames := 2, cells := 0, slots := 0, locals := 48 } : Room) s m args below meth c H locs 0 0 (MQ below (va_Qi (fun r' S2 => r' = rr ∧ S2 = S') (mB g) (mA g)) args s 0 0 (mA g)) (F0 m 0 ls []) := by
  obtain ⟨hx, hb, hml, -, -⟩ := id C0
  unfold fX7_straight at hf
  refine lv_aload_n hx hb dX7_straight_0 rfl (lv_at hl 0 rfl) ?_
  obtain ⟨S1, h1, hf⟩ := bq1_some hf
  refine mcv_v (As := []) C0 I (kX7_noLoads h1) (cwV 0 C0.2.2.2.2 (gwV wd_820 wd_822 wd_41 wd_73 wd_823) rfl rfl rfl dsc_X7_noLoads ⟨Nat.le_of_ble_eq_true rfl, Nat.le_of_ble_eq_true rfl⟩) (mo_0 I) rfl hl.1 rfl (Nat.le_of_ble_eq_true rfl) dX7_straight_1 (fun H locs I => ?_)
  refine lv_iconst (v := 0) hx hb dX7_straight_4 (by decide) ?_
  refine lv_istore_n (lv' := [(1, .int (0 : Int32)), (0, .ref (g.2.2 0))]) hx hb dX7_straight_5 rfl hl (by decide) rfl (fun ls hl => ?_)
  obtain ⟨S6, y1_6, h6, hf⟩ := bq2_some hf
  refine lX7_straight_6 C0 hr hk fu h6 I (lv_sub hl [1, 0] rfl) (fun H locs ls I hl => ?_)
  refine lv_aload_n hx hb dX7_straight_37 rfl (lv_at hl 0 rfl) ?_
  obtain ⟨r7, h7, hf⟩ := bq1_some hf
  refine mcv_i (As := []) C0 I (kX7_most h7) (cwV 0 C0.2.2.2.2 (gwV wd_836 wd_838 wd_44 wd_73 wd_839) rfl rfl rfl dsc_X7_most ⟨Nat.le_of_ble_eq_true rfl, Nat.le_of_ble_eq_true rfl⟩) (mo_0 I) rfl hl.1 rfl (Nat.le_of_ble_eq_true rfl) dX7_straight_38 (fun H locs I => ?_)
  obtain ⟨rfl, rfl⟩ := se2 hf
  exact mri C0 hr hk I dX7_straight_41
set_option maxRecDepth 100000 in
theorem kX7_straight  {rr : Int32} (hf : fX7_straight S  = some (rr, S')) : Met l yX7_straight (Cond.code yX7_straight cX7_straight 2 (some .int) :: big) ({ frames := 2, cells := 0, slots := 0, locals := 48 } : Room) (va_Pc [.ref (g.2.2 0)] (mB g S)) (va_Qi (fun r' S2 => r' = rr ∧ S2 = S') (mB g) (mA g)) 0 0 (mA g) := by
  refine Met.ofW (cc := cX7_straight) (maxL := 2) (ret := (some .int)) (by decide) rfl ?_
  intro p e s m args below meth c s₁ B hml hv
  obtain ⟨rfl, hP, hK, hD⟩ := hv
  have hts0 := atoms_spec (ws := (Cond.code yX7_straight cX7_straight 2 (some .int) :: big)) B.pre
  have C0 : CallFix p m c cX7_straight 2 s _ big RX7 := ⟨B.exec, B.bytes, hml, findClass_of_methodNamed B.named, fun w h => hts0 w (List.mem_cons_of_mem _ h)⟩
  have I : mI g s S s.heap [] := ⟨hK, hP, hD, va_S.rf⟩
  have hl := lv_entry ([.ref (g.2.2 0)]) (n := 2) (Nat.le_of_ble_eq_true rfl)
  rw [lg_entry_eq]
  generalize (lg_sl ([.ref (g.2.2 0)]) ++ List.replicate (2 - (lg_sl ([.ref (g.2.2 0)])).length) Slot.unset).toArray = ls at hl ⊢
  have hl : lv_has ls 2 [(0, .ref (g.2.2 0))] := hl
  exact tX7_straight_0 C0 B.returns B.notSynchronized hf I (lv_sub hl [0] rfl)
set_option maxHeartbeats 4000000 in
set_option maxRecDepth 100000 in
theorem tX7_type_0 (C0 : CallFix p m c cX7_type 2 s args big RX7) (hr : meth.sig.returnType = (some .int)) (hk : meth.locks = false) {x1 : Int32} {rr : Int32}  (hf : fX7_type S x1 = some (rr, S')) (I : mI g s S H locs) (hl : lv_has ls 2 [(0, .ref (g.2.2 0)), (1, .int x1)]) : W p l e ({ frames := 1, cells := 0, slots := 0, locals := 22 } : Room) s m args below meth c H locs 0 0 (MQ below (va_Qi (fun r' S2 => r' = rr ∧ S2 = S') (mB g) (mA g)) args s 0 0 (mA g)) (F0 m 0 ls []) := by
  obtain ⟨hx, hb, hml, -, -⟩ := id C0
  unfold fX7_type at hf
  refine lv_iload_n hx hb dX7_type_0 rfl (lv_at hl 1 rfl) ?_
  refine lv_iconst (v := 0) hx hb dX7_type_1 (by decide) ?_
  refine lv_bipush (v := 127) hx hb dX7_type_2 (by decide) ?_
  obtain ⟨r1, h1, hf⟩ := bq1_some hf
  refine mcs_i (As := [.int x1, .int (0 : Int32), .int (127 : Int32)]) C0 I (kX7_in h1) (va_cwS 3 C0.2.2.2.2 (gwS wd_702 wd_703 wd_73 wd_704) rfl rfl rfl dsc_X7_in.2 ⟨Nat.le_of_ble_eq_true rfl, Nat.le_of_ble_eq_true rfl⟩) rfl hl.1 rfl (Nat.le_of_ble_eq_true rfl) dX7_type_4 (fun H locs I => ?_)
  refine lv_if_ne (tgt := 15) hx hb dX7_type_7 (by decide) (fun c2 => ?_) (fun c2 => ?_)
  · have hf := inn c2 hf
    refine lv_aload_n hx hb dX7_type_15 rfl (lv_at hl 0 rfl) ?_
    refine mg_X7_227_0 C0 I dX7_type_16 ?_
    refine lv_bipush (v := 120) hx hb dX7_type_19 (by decide) ?_
    refine lv_icmp_ne (tgt := 29) hx hb dX7_type_21 (by decide) (fun c3 => ?_) (fun c3 => ?_)
    · have hf := inn c3 hf
      refine lv_aload_n hx hb dX7_type_29 rfl (lv_at hl 0 rfl) ?_
      refine mg_X7_65_0 C0 I dX7_type_30 ?_
      refine lv_aload_n hx hb dX7_type_33 rfl (lv_at hl 0 rfl) ?_
      refine mg_X7_227_0 C0 I dX7_type_34 ?_
      refine lv_iload_n hx hb dX7_type_37 rfl (lv_at hl 1 rfl) ?_
      obtain ⟨b4, hf⟩ := chk_some hf
      refine ms_17 hx hb I b4 dX7_type_38 (fun H locs I => ?_)
      refine lv_aload_n hx hb dX7_type_39 rfl (lv_at hl 0 rfl) ?_
      refine lv_dup hx hb dX7_type_40 rfl ?_
      refine mg_X7_227_0 C0 I dX7_type_41 ?_
      refine lv_iconst (v := 1) hx hb dX7_type_44 (by decide) ?_
      refine lv_iadd hx hb dX7_type_45 ?_
      refine mp_X7_227_0 C0 I dX7_type_46 (fun H locs I => ?_)
      refine lv_aload_n hx hb dX7_type_49 rfl (lv_at hl 0 rfl) ?_
      refine mg_X7_227_0 C0 I dX7_type_50 ?_
      obtain ⟨rfl, rfl⟩ := se2 hf
      exact mri C0 hr hk I dX7_type_53
    · have hf := ip c3 hf
      refine lv_aload_n hx hb dX7_type_24 rfl (lv_at hl 0 rfl) ?_
      obtain ⟨r5, S5, h5, hf⟩ := bq2_some hf
      refine mcv_i (As := []) C0 I (kX7_full h5) (cwV 0 C0.2.2.2.2 (gwV wd_728 wd_730 wd_27 wd_73 wd_731) rfl rfl rfl dsc_X7_full ⟨Nat.le_of_ble_eq_true rfl, Nat.le_of_ble_eq_true rfl⟩) (mo_0 I) rfl hl.1 rfl (Nat.le_of_ble_eq_true rfl) dX7_type_25 (fun H locs I => ?_)
      obtain ⟨rfl, rfl⟩ := se2 hf
      exact mri C0 hr hk I dX7_type_28
  · have hf := ip c2 hf
    refine lv_aload_n hx hb dX7_type_10 rfl (lv_at hl 0 rfl) ?_
    obtain ⟨r6, S6, h6, hf⟩ := bq2_some hf
    refine mcv_i (As := []) C0 I (kX7_bad h6) (cwV 0 C0.2.2.2.2 (gwV wd_705 wd_707 wd_23 wd_73 wd_708) rfl rfl rfl dsc_X7_bad ⟨Nat.le_of_ble_eq_true rfl, Nat.le_of_ble_eq_true rfl⟩) (mo_0 I) rfl hl.1 rfl (Nat.le_of_ble_eq_true rfl) dX7_type_11 (fun H locs I => ?_)
    obtain ⟨rfl, rfl⟩ := se2 hf
    exact mri C0 hr hk I dX7_type_14
set_option maxRecDepth 100000 in
theorem kX7_type {x1 : Int32} {rr : Int32} (hf : fX7_type S x1 = some (rr, S')) : Met l yX7_type (Cond.code yX7_type cX7_type 2 (some .int) :: big) ({ frames := 1, cells := 0, slots := 0, locals := 22 } : Room) (va_Pc [.ref (g.2.2 0), .int x1] (mB g S)) (va_Qi (fun r' S2 => r' = rr ∧ S2 = S') (mB g) (mA g)) 0 0 (mA g) := by
  refine Met.ofW (cc := cX7_type) (maxL := 2) (ret := (some .int)) (by decide) rfl ?_
  intro p e s m args below meth c s₁ B hml hv
  obtain ⟨rfl, hP, hK, hD⟩ := hv
  have hts0 := atoms_spec (ws := (Cond.code yX7_type cX7_type 2 (some .int) :: big)) B.pre
  have C0 : CallFix p m c cX7_type 2 s _ big RX7 := ⟨B.exec, B.bytes, hml, findClass_of_methodNamed B.named, fun w h => hts0 w (List.mem_cons_of_mem _ h)⟩
  have I : mI g s S s.heap [] := ⟨hK, hP, hD, va_S.rf⟩
  have hl := lv_entry ([.ref (g.2.2 0), .int x1]) (n := 2) (Nat.le_of_ble_eq_true rfl)
  rw [lg_entry_eq]
  generalize (lg_sl ([.ref (g.2.2 0), .int x1]) ++ List.replicate (2 - (lg_sl ([.ref (g.2.2 0), .int x1])).length) Slot.unset).toArray = ls at hl ⊢
  have hl : lv_has ls 2 [(0, .ref (g.2.2 0)), (1, .int x1)] := hl
  exact tX7_type_0 C0 B.returns B.notSynchronized hf I (lv_sub hl [0, 1] rfl)
set_option maxHeartbeats 4000000 in
set_option maxRecDepth 100000 in
theorem tX7_clear_0 (C0 : CallFix p m c cX7_clear 2 s args big RX7) (hr : meth.sig.returnType = (some .int)) (hk : meth.locks = false)  {rr : Int32}  (hf : fX7_clear S = some (rr, S')) (I : mI g s S H locs) (hl : lv_has ls 2 [(0, .ref (g.2.2 0))]) : W p l e ({ frames := 0, cells := 0, slots := 0, locals := 0 } : Room) s m args below meth c H locs 0 0 (MQ below (va_Qi (fun r' S2 => r' = rr ∧ S2 = S') (mB g) (mA g)) args s 0 0 (mA g)) (F0 m 0 ls []) := by
  obtain ⟨hx, hb, hml, -, -⟩ := id C0
  unfold fX7_clear at hf
  refine lv_aload_n hx hb dX7_clear_0 rfl (lv_at hl 0 rfl) ?_
  refine mg_X7_227_0 C0 I dX7_clear_1 ?_
  refine lv_istore_n (lv' := [(1, .int (gF S 24)), (0, .ref (g.2.2 0))]) hx hb dX7_clear_4 rfl hl (by decide) rfl (fun ls hl => ?_)
  refine lv_aload_n hx hb dX7_clear_5 rfl (lv_at hl 1 rfl) ?_
  refine lv_iconst (v := 0) hx hb dX7_clear_6 (by decide) ?_
  refine mp_X7_227_0 C0 I dX7_clear_7 (fun H locs I => ?_)
  refine lv_iload_n hx hb dX7_clear_10 rfl (lv_at hl 0 rfl) ?_
  obtain ⟨rfl, rfl⟩ := se2 hf
  exact mri C0 hr hk I dX7_clear_11
set_option maxRecDepth 100000 in
theorem kX7_clear  {rr : Int32} (hf : fX7_clear S  = some (rr, S')) : Met l yX7_clear (Cond.code yX7_clear cX7_clear 2 (some .int) :: big) ({ frames := 0, cells := 0, slots := 0, locals := 0 } : Room) (va_Pc [.ref (g.2.2 0)] (mB g S)) (va_Qi (fun r' S2 => r' = rr ∧ S2 = S') (mB g) (mA g)) 0 0 (mA g) := by
  refine Met.ofW (cc := cX7_clear) (maxL := 2) (ret := (some .int)) (by decide) rfl ?_
  intro p e s m args below meth c s₁ B hml hv
  obtain ⟨rfl, hP, hK, hD⟩ := hv
  have hts0 := atoms_spec (ws := (Cond.code yX7_clear cX7_clear 2 (some .int) :: big)) B.pre
  have C0 : CallFix p m c cX7_clear 2 s _ big RX7 := ⟨B.exec, B.bytes, hml, findClass_of_methodNamed B.named, fun w h => hts0 w (List.mem_cons_of_mem _ h)⟩
  have I : mI g s S s.heap [] := ⟨hK, hP, hD, va_S.rf⟩
  have hl := lv_entry ([.ref (g.2.2 0)]) (n := 2) (Nat.le_of_ble_eq_true rfl)
  rw [lg_entry_eq]
  generalize (lg_sl ([.ref (g.2.2 0)]) ++ List.replicate (2 - (lg_sl ([.ref (g.2.2 0)])).length) Slot.unset).toArray = ls at hl ⊢
  have hl : lv_has ls 2 [(0, .ref (g.2.2 0))] := hl
  exact tX7_clear_0 C0 B.returns B.notSynchronized hf I (lv_sub hl [0] rfl)
set_option maxHeartbeats 4000000 in
set_option maxRecDepth 100000 in
theorem tX7_here_0 (C0 : CallFix p m c cX7_here 1 s args big RX7) (hr : meth.sig.returnType = (some .int)) (hk : meth.locks = false)  {rr : Int32}  (hf : fX7_here S = some rr) (I : mI g s S H locs) (hl : lv_has ls 1 [(0, .ref (g.2.2 0))]) : W p l e ({ frames := 0, cells := 0, slots := 0, locals := 0 } : Room) s m args below meth c H locs 0 0 (MQ below (va_Qi (fun r' S2 => r' = rr ∧ S2 = S) (mB g) (mA g)) args s 0 0 (mA g)) (F0 m 0 ls []) := by
  obtain ⟨hx, hb, hml, -, -⟩ := id C0
  unfold fX7_here at hf
  refine lv_aload_n hx hb dX7_here_0 rfl (lv_at hl 0 rfl) ?_
  refine mg_X7_230_0 C0 I dX7_here_1 ?_
  refine lv_aload_n hx hb dX7_here_4 rfl (lv_at hl 0 rfl) ?_
  refine mg_X7_227_0 C0 I dX7_here_5 ?_
  refine lv_icmp_ge (tgt := 23) hx hb dX7_here_8 (by decide) (fun c1 => ?_) (fun c1 => ?_)
  · have hf := ip c1 hf
    refine lv_iconst (v := -1) hx hb dX7_here_23 (by decide) ?_
    obtain rfl := se1 hf
    exact mri C0 hr hk I dX7_here_24
  · have hf := inn c1 hf
    refine lv_aload_n hx hb dX7_here_11 rfl (lv_at hl 0 rfl) ?_
    refine mg_X7_65_0 C0 I dX7_here_12 ?_
    refine lv_aload_n hx hb dX7_here_15 rfl (lv_at hl 0 rfl) ?_
    refine mg_X7_230_0 C0 I dX7_here_16 ?_
    obtain ⟨b2, hf⟩ := chk_some hf
    refine ml_17 hx hb I b2 dX7_here_19 ?_
    refine lv_goto (tgt := 24) hx hb dX7_here_20 (by decide) ?_
    obtain rfl := se1 hf
    exact mri C0 hr hk I dX7_here_24
set_option maxRecDepth 100000 in
theorem kX7_here  {rr : Int32} (hf : fX7_here S  = some rr) : Met l yX7_here (Cond.code yX7_here cX7_here 1 (some .int) :: big) ({ frames := 0, cells := 0, slots := 0, locals := 0 } : Room) (va_Pc [.ref (g.2.2 0)] (mB g S)) (va_Qi (fun r' S2 => r' = rr ∧ S2 = S) (mB g) (mA g)) 0 0 (mA g) := by
  refine Met.ofW (cc := cX7_here) (maxL := 1) (ret := (some .int)) (by decide) rfl ?_
  intro p e s m args below meth c s₁ B hml hv
  obtain ⟨rfl, hP, hK, hD⟩ := hv
  have hts0 := atoms_spec (ws := (Cond.code yX7_here cX7_here 1 (some .int) :: big)) B.pre
  have C0 : CallFix p m c cX7_here 1 s _ big RX7 := ⟨B.exec, B.bytes, hml, findClass_of_methodNamed B.named, fun w h => hts0 w (List.mem_cons_of_mem _ h)⟩
  have I : mI g s S s.heap [] := ⟨hK, hP, hD, va_S.rf⟩
  have hl := lv_entry ([.ref (g.2.2 0)]) (n := 1) (Nat.le_of_ble_eq_true rfl)
  rw [lg_entry_eq]
  generalize (lg_sl ([.ref (g.2.2 0)]) ++ List.replicate (1 - (lg_sl ([.ref (g.2.2 0)])).length) Slot.unset).toArray = ls at hl ⊢
  have hl : lv_has ls 1 [(0, .ref (g.2.2 0))] := hl
  exact tX7_here_0 C0 B.returns B.notSynchronized hf I (lv_sub hl [0] rfl)
set_option maxHeartbeats 4000000 in
set_option maxRecDepth 100000 in
theorem BX7_skips_0 (C0 : CallFix p m c cX7_skips 1 s args big RX7) (hr : meth.sig.returnType = none) (hk : meth.locks = false)  {b : Bool}  (Kt : b = true → ∀ (H : Heap) (locs : List Loc) (ls : Array Slot), mI g s S' H locs → lv_has ls 1 [(0, .ref (g.2.2 0))] → W p l e ({ frames := 1, cells := 0, slots := 0, locals := 20 } : Room) s m args below meth c H locs 0 0 Q (F0 m 0 ls [])) (Kf : b = false → ∀ (H : Heap) (locs : List Loc) (ls : Array Slot), mI g s S' H locs → lv_has ls 1 [(0, .ref (g.2.2 0))] → W p l e ({ frames := 1, cells := 0, slots := 0, locals := 20 } : Room) s m args below meth c H locs 0 0 Q (F0 m 22 ls [])) (hf : bX7_skips_0 S = some (b, S')) (I : mI g s S H locs) (hl : lv_has ls 1 [(0, .ref (g.2.2 0))]) : W p l e ({ frames := 1, cells := 0, slots := 0, locals := 20 } : Room) s m args below meth c H locs 0 0 Q (F0 m 0 ls []) := by
  obtain ⟨hx, hb, hml, -, -⟩ := id C0
  unfold bX7_skips_0 at hf
  refine lv_aload_n hx hb dX7_skips_0 rfl (lv_at hl 0 rfl) ?_
  obtain ⟨r1, h1, hf⟩ := bq1_some hf
  refine mcv_i (As := []) C0 I (kX7_here h1) (cwV 0 C0.2.2.2.2 (gwV wd_947 wd_949 wd_60 wd_73 wd_950) rfl rfl rfl dsc_X7_here ⟨Nat.le_of_ble_eq_true rfl, Nat.le_of_ble_eq_true rfl⟩) (mo_0 I) rfl hl.1 rfl (Nat.le_of_ble_eq_true rfl) dX7_skips_1 (fun H locs I => ?_)
  refine lv_bipush (v := 32) hx hb dX7_skips_4 (by decide) ?_
  refine lv_icmp_ne (tgt := 22) hx hb dX7_skips_6 (by decide) (fun c2 => ?_) (fun c2 => ?_)
  · have hf := inn c2 hf
    obtain ⟨rfl, rfl⟩ := se2 hf
    exact Kf rfl _ _ _ I (lv_sub hl [0] rfl)
  · have hf := ip c2 hf
    refine lv_aload_n hx hb dX7_skips_9 rfl (lv_at hl 0 rfl) ?_
    refine lv_dup hx hb dX7_skips_10 rfl ?_
    refine mg_X7_230_0 C0 I dX7_skips_11 ?_
    refine lv_iconst (v := 1) hx hb dX7_skips_14 (by decide) ?_
    refine lv_iadd hx hb dX7_skips_15 ?_
    refine mp_X7_230_0 C0 I dX7_skips_16 (fun H locs I => ?_)
    refine lv_goto (tgt := 0) hx hb dX7_skips_19 (by decide) ?_
    obtain ⟨rfl, rfl⟩ := se2 hf
    exact Kt rfl _ _ _ I (lv_sub hl [0] rfl)
set_option maxHeartbeats 4000000 in
theorem lX7_skips_0 (C0 : CallFix p m c cX7_skips 1 s args big RX7) (hr : meth.sig.returnType = none) (hk : meth.locks = false)  {S' : St}  : ∀ (n : Nat) {S : St}, lp (fun q => bX7_skips_0 q) n S = some S' → ∀ {H : Heap} {locs : List Loc}, mI g s S H locs → ∀ {ls : Array Slot}, lv_has ls 1 [(0, .ref (g.2.2 0))] → (∀ (H : Heap) (locs : List Loc) (ls : Array Slot), mI g s S' H locs → lv_has ls 1 [(0, .ref (g.2.2 0))] → W p l e ({ frames := 1, cells := 0, slots := 0, locals := 20 } : Room) s m args below meth c H locs 0 0 Q (F0 m 22 ls [])) → W p l e ({ frames := 1, cells := 0, slots := 0, locals := 20 } : Room) s m args below meth c H locs 0 0 Q (F0 m 0 ls []) := by
  intro n
  induction n with
  | zero => intro S hf; cases hf
  | succ n ih =>
    intro S hf H locs I ls hl K
    obtain ⟨b, z0, h1, h2, h3⟩ := lp_some hf
    refine BX7_skips_0 C0 hr hk (fun hb1 H locs ls I hl => ?_) (fun hb1 H locs ls I hl => ?_) h1 I hl
    · exact ih (h2 hb1) I hl K
    · have e := h3 hb1
      cases e
      exact K H locs ls I hl
set_option maxHeartbeats 4000000 in
set_option maxRecDepth 100000 in
theorem tX7_skips_0 (C0 : CallFix p m c cX7_skips 1 s args big RX7) (hr : meth.sig.returnType = none) (hk : meth.locks = false)   (hf : fX7_skips S = some S') (I : mI g s S H locs) (hl : lv_has ls 1 [(0, .ref (g.2.2 0))]) : W p l e ({ frames := 1, cells := 0, slots := 0, locals := 20 } : Room) s m args below meth c H locs 0 0 (MQ below (va_Qv (fun S2 => S2 = S') (mB g) (mA g)) args s 0 0 (mA g)) (F0 m 0 ls []) := by
  obtain ⟨hx, hb, hml, -, -⟩ := id C0
  unfold fX7_skips at hf
  obtain ⟨S3, h3, hf⟩ := bq1_some hf
  refine lX7_skips_0 C0 hr hk fu h3 I (lv_sub hl [0] rfl) (fun H locs ls I hl => ?_)
  refine lv_aload_n hx hb dX7_skips_22 rfl (lv_at hl 0 rfl) ?_
  refine lv_aload_n hx hb dX7_skips_23 rfl (lv_at hl 0 rfl) ?_
  refine mg_X7_230_0 C0 I dX7_skips_24 ?_
  refine mp_X7_236_0 C0 I dX7_skips_27 (fun H locs I => ?_)
  obtain rfl := se1 hf
  exact mrv C0 hr hk I dX7_skips_30
set_option maxRecDepth 100000 in
theorem kX7_skips   (hf : fX7_skips S  = some S') : Met l yX7_skips (Cond.code yX7_skips cX7_skips 1 none :: big) ({ frames := 1, cells := 0, slots := 0, locals := 20 } : Room) (va_Pc [.ref (g.2.2 0)] (mB g S)) (va_Qv (fun S2 => S2 = S') (mB g) (mA g)) 0 0 (mA g) := by
  refine Met.ofW (cc := cX7_skips) (maxL := 1) (ret := none) (by decide) rfl ?_
  intro p e s m args below meth c s₁ B hml hv
  obtain ⟨rfl, hP, hK, hD⟩ := hv
  have hts0 := atoms_spec (ws := (Cond.code yX7_skips cX7_skips 1 none :: big)) B.pre
  have C0 : CallFix p m c cX7_skips 1 s _ big RX7 := ⟨B.exec, B.bytes, hml, findClass_of_methodNamed B.named, fun w h => hts0 w (List.mem_cons_of_mem _ h)⟩
  have I : mI g s S s.heap [] := ⟨hK, hP, hD, va_S.rf⟩
  have hl := lv_entry ([.ref (g.2.2 0)]) (n := 1) (Nat.le_of_ble_eq_true rfl)
  rw [lg_entry_eq]
  generalize (lg_sl ([.ref (g.2.2 0)]) ++ List.replicate (1 - (lg_sl ([.ref (g.2.2 0)])).length) Slot.unset).toArray = ls at hl ⊢
  have hl : lv_has ls 1 [(0, .ref (g.2.2 0))] := hl
  exact tX7_skips_0 C0 B.returns B.notSynchronized hf I (lv_sub hl [0] rfl)
set_option maxHeartbeats 4000000 in
set_option maxRecDepth 100000 in
theorem tX7_number_43 (C0 : CallFix p m c cX7_number 4 s args big RX7) (hr : meth.sig.returnType = (some .boolean)) (hk : meth.locks = false) {x1 : Int32} {x2 : Int32} {x3 : Int32} {s0 : Int32} {b : Bool} {y2 : Int32} {y3 : Int32} (Kt : b = true → ∀ (H : Heap) (locs : List Loc) (ls : Array Slot), mI g s S' H locs → lv_has ls 4 [(0, .ref (g.2.2 0)), (1, .int x1), (2, .int y2), (3, .int y3)] → W p l e ({ frames := 2, cells := 0, slots := 0, locals := 40 } : Room) s m args below meth c H locs 0 0 Q (F0 m 8 ls [])) (Kf : b = false → ∀ (H : Heap) (locs : List Loc) (ls : Array Slot), mI g s S' H locs → lv_has ls 4 [(0, .ref (g.2.2 0)), (1, .int x1), (2, .int y2), (3, .int y3)] → W p l e ({ frames := 2, cells := 0, slots := 0, locals := 40 } : Room) s m args below meth c H locs 0 0 Q (F0 m 60 ls [])) (hf : fX7_number_43 S x2 s0 = some (b, S', y2, y3)) (I : mI g s S H locs) (hl : lv_has ls 4 [(0, .ref (g.2.2 0)), (1, .int x1), (2, .int x2), (3, .int x3)]) : W p l e ({ frames := 2, cells := 0, slots := 0, locals := 40 } : Room) s m args below meth c H locs 0 0 Q (F0 m 43 ls [.int s0]) := by
  obtain ⟨hx, hb, hml, -, -⟩ := id C0
  unfold fX7_number_43 at hf
  refine lv_istore_n (lv' := [(3, .int s0), (0, .ref (g.2.2 0)), (1, .int x1), (2, .int x2)]) hx hb dX7_number_43 rfl hl (by decide) rfl (fun ls hl => ?_)
  refine lv_iinc (v := (x2 + (1 : Int32))) (lv' := [(2, .int (x2 + (1 : Int32))), (3, .int s0), (0, .ref (g.2.2 0)), (1, .int x1)]) hx hb dX7_number_44 hl (k := 3) rfl rfl (by decide) rfl (fun ls hl => ?_)
  refine lv_aload_n hx hb dX7_number_47 rfl (lv_at hl 2 rfl) ?_
  refine lv_dup hx hb dX7_number_48 rfl ?_
  refine mg_X7_230_0 C0 I dX7_number_49 ?_
  refine lv_iconst (v := 1) hx hb dX7_number_52 (by decide) ?_
  refine lv_iadd hx hb dX7_number_53 ?_
  refine mp_X7_230_0 C0 I dX7_number_54 (fun H locs I => ?_)
  refine lv_goto (tgt := 8) hx hb dX7_number_57 (by decide) ?_
  obtain ⟨rfl, rfl, rfl, rfl⟩ := se4 hf
  exact Kt rfl _ _ _ I (lv_sub hl [2, 3, 0, 1] rfl)
set_option maxHeartbeats 4000000 in
set_option maxRecDepth 100000 in
theorem BX7_number_8 (C0 : CallFix p m c cX7_number 4 s args big RX7) (hr : meth.sig.returnType = (some .boolean)) (hk : meth.locks = false) {x1 : Int32} {x2 : Int32} {x3 : Int32} {b : Bool} {y2 : Int32} {y3 : Int32} (Kt : b = true → ∀ (H : Heap) (locs : List Loc) (ls : Array Slot), mI g s S' H locs → lv_has ls 4 [(0, .ref (g.2.2 0)), (1, .int x1), (2, .int y2), (3, .int y3)] → W p l e ({ frames := 2, cells := 0, slots := 0, locals := 40 } : Room) s m args below meth c H locs 0 0 Q (F0 m 8 ls [])) (Kf : b = false → ∀ (H : Heap) (locs : List Loc) (ls : Array Slot), mI g s S' H locs → lv_has ls 4 [(0, .ref (g.2.2 0)), (1, .int x1), (2, .int y2), (3, .int y3)] → W p l e ({ frames := 2, cells := 0, slots := 0, locals := 40 } : Room) s m args below meth c H locs 0 0 Q (F0 m 60 ls [])) (hf : bX7_number_8 S x2 x3 = some (b, S', y2, y3)) (I : mI g s S H locs) (hl : lv_has ls 4 [(0, .ref (g.2.2 0)), (1, .int x1), (2, .int x2), (3, .int x3)]) : W p l e ({ frames := 2, cells := 0, slots := 0, locals := 40 } : Room) s m args below meth c H locs 0 0 Q (F0 m 8 ls []) := by
  obtain ⟨hx, hb, hml, -, -⟩ := id C0
  unfold bX7_number_8 at hf
  refine lv_aload_n hx hb dX7_number_8 rfl (lv_at hl 0 rfl) ?_
  obtain ⟨r2, h2, hf⟩ := bq1_some hf
  refine mcv_i (As := []) C0 I (kX7_here h2) (cwV 0 C0.2.2.2.2 (gwV wd_947 wd_949 wd_60 wd_73 wd_950) rfl rfl rfl dsc_X7_here ⟨Nat.le_of_ble_eq_true rfl, Nat.le_of_ble_eq_true rfl⟩) (mo_0 I) rfl hl.1 rfl (Nat.le_of_ble_eq_true rfl) dX7_number_9 (fun H locs I => ?_)
  refine lv_bipush (v := 48) hx hb dX7_number_12 (by decide) ?_
  refine lv_bipush (v := 57) hx hb dX7_number_14 (by decide) ?_
  obtain ⟨r3, h3, hf⟩ := bq1_some hf
  refine mcs_i (As := [.int r2, .int (48 : Int32), .int (57 : Int32)]) C0 I (kX7_in h3) (va_cwS 3 C0.2.2.2.2 (gwS wd_702 wd_703 wd_73 wd_704) rfl rfl rfl dsc_X7_in.2 ⟨Nat.le_of_ble_eq_true rfl, Nat.le_of_ble_eq_true rfl⟩) rfl hl.1 rfl (Nat.le_of_ble_eq_true rfl) dX7_number_16 (fun H locs I => ?_)
  refine lv_if_eq (tgt := 60) hx hb dX7_number_19 (by decide) (fun c4 => ?_) (fun c4 => ?_)
  · have hf := ip c4 hf
    obtain ⟨rfl, rfl, rfl, rfl⟩ := se4 hf
    exact Kf rfl _ _ _ I (lv_sub hl [0, 1, 2, 3] rfl)
  · have hf := inn c4 hf
    refine lv_iload_n hx hb dX7_number_22 rfl (lv_at hl 2 rfl) ?_
    refine lv_iconst (v := 2) hx hb dX7_number_23 (by decide) ?_
    refine lv_icmp_ge (tgt := 42) hx hb dX7_number_24 (by decide) (fun c5 => ?_) (fun c5 => ?_)
    · have hf := ip c5 hf
      refine lv_iload_n hx hb dX7_number_42 rfl (lv_at hl 3 rfl) ?_
      exact tX7_number_43 C0 hr hk Kt Kf hf I (lv_sub hl [0, 1, 2, 3] rfl)
    · have hf := inn c5 hf
      refine lv_bipush (v := 10) hx hb dX7_number_27 (by decide) ?_
      refine lv_iload_n hx hb dX7_number_29 rfl (lv_at hl 3 rfl) ?_
      refine lv_imul hx hb dX7_number_30 ?_
      refine lv_aload_n hx hb dX7_number_31 rfl (lv_at hl 0 rfl) ?_
      obtain ⟨r6, h6, hf⟩ := bq1_some hf
      refine mcv_i (As := []) C0 I (kX7_here h6) (cwV 0 C0.2.2.2.2 (gwV wd_947 wd_949 wd_60 wd_73 wd_950) rfl rfl rfl dsc_X7_here ⟨Nat.le_of_ble_eq_true rfl, Nat.le_of_ble_eq_true rfl⟩) (mo_0 I) rfl hl.1 rfl (Nat.le_of_ble_eq_true rfl) dX7_number_32 (fun H locs I => ?_)
      refine lv_iadd hx hb dX7_number_35 ?_
      refine lv_bipush (v := 48) hx hb dX7_number_36 (by decide) ?_
      refine lv_isub hx hb dX7_number_38 ?_
      refine lv_goto (tgt := 43) hx hb dX7_number_39 (by decide) ?_
      exact tX7_number_43 C0 hr hk Kt Kf hf I (lv_sub hl [0, 1, 2, 3] rfl)
set_option maxHeartbeats 4000000 in
theorem lX7_number_8 (C0 : CallFix p m c cX7_number 4 s args big RX7) (hr : meth.sig.returnType = (some .boolean)) (hk : meth.locks = false) {x1 : Int32} {S' : St} {y2 : Int32} {y3 : Int32} : ∀ (n : Nat) {S : St} {x2 : Int32} {x3 : Int32}, lp (fun q => bX7_number_8 q.1 q.2.1 q.2.2) n (S, x2, x3) = some (S', y2, y3) → ∀ {H : Heap} {locs : List Loc}, mI g s S H locs → ∀ {ls : Array Slot}, lv_has ls 4 [(0, .ref (g.2.2 0)), (1, .int x1), (2, .int x2), (3, .int x3)] → (∀ (H : Heap) (locs : List Loc) (ls : Array Slot), mI g s S' H locs → lv_has ls 4 [(0, .ref (g.2.2 0)), (1, .int x1), (2, .int y2), (3, .int y3)] → W p l e ({ frames := 2, cells := 0, slots := 0, locals := 40 } : Room) s m args below meth c H locs 0 0 Q (F0 m 60 ls [])) → W p l e ({ frames := 2, cells := 0, slots := 0, locals := 40 } : Room) s m args below meth c H locs 0 0 Q (F0 m 8 ls []) := by
  intro n
  induction n with
  | zero => intro S x2 x3 hf; cases hf
  | succ n ih =>
    intro S x2 x3 hf H locs I ls hl K
    obtain ⟨b, ⟨z0, z1, z2⟩, h1, h2, h3⟩ := lp_some hf
    refine BX7_number_8 C0 hr hk (fun hb1 H locs ls I hl => ?_) (fun hb1 H locs ls I hl => ?_) h1 I hl
    · exact ih (h2 hb1) I hl K
    · have e := h3 hb1
      cases e
      exact K H locs ls I hl
set_option maxHeartbeats 4000000 in
set_option maxRecDepth 100000 in
theorem tX7_number_0 (C0 : CallFix p m c cX7_number 4 s args big RX7) (hr : meth.sig.returnType = (some .boolean)) (hk : meth.locks = false) {x1 : Int32} {rr : Int32}  (hf : fX7_number S x1 = some (rr, S')) (I : mI g s S H locs) (hl : lv_has ls 4 [(0, .ref (g.2.2 0)), (1, .int x1)]) : W p l e ({ frames := 2, cells := 0, slots := 0, locals := 40 } : Room) s m args below meth c H locs 0 0 (MQ below (va_Qi (fun r' S2 => r' = rr ∧ S2 = S') (mB g) (mA g)) args s 0 0 (mA g)) (F0 m 0 ls []) := by
  obtain ⟨hx, hb, hml, -, -⟩ := id C0
  unfold fX7_number at hf
  refine lv_aload_n hx hb dX7_number_0 rfl (lv_at hl 0 rfl) ?_
  obtain ⟨S1, h1, hf⟩ := bq1_some hf
  refine mcv_v (As := []) C0 I (kX7_skips h1) (cwV 0 C0.2.2.2.2 (gwV wd_943 wd_945 wd_59 wd_73 wd_946) rfl rfl rfl dsc_X7_skips ⟨Nat.le_of_ble_eq_true rfl, Nat.le_of_ble_eq_true rfl⟩) (mo_0 I) rfl hl.1 rfl (Nat.le_of_ble_eq_true rfl) dX7_number_1 (fun H locs I => ?_)
  refine lv_iconst (v := 0) hx hb dX7_number_4 (by decide) ?_
  refine lv_istore_n (lv' := [(2, .int (0 : Int32)), (0, .ref (g.2.2 0)), (1, .int x1)]) hx hb dX7_number_5 rfl hl (by decide) rfl (fun ls hl => ?_)
  refine lv_iconst (v := 0) hx hb dX7_number_6 (by decide) ?_
  refine lv_istore_n (lv' := [(3, .int (0 : Int32)), (2, .int (0 : Int32)), (0, .ref (g.2.2 0)), (1, .int x1)]) hx hb dX7_number_7 rfl hl (by decide) rfl (fun ls hl => ?_)
  obtain ⟨S7, y2_7, y3_7, h7, hf⟩ := bq3_some hf
  refine lX7_number_8 C0 hr hk fu h7 I (lv_sub hl [2, 3, 1, 0] rfl) (fun H locs ls I hl => ?_)
  refine lv_aload_n hx hb dX7_number_60 rfl (lv_at hl 0 rfl) ?_
  refine lv_iload_n hx hb dX7_number_61 rfl (lv_at hl 3 rfl) ?_
  refine mp_X7_242_0 C0 I dX7_number_62 (fun H locs I => ?_)
  refine lv_iload_n hx hb dX7_number_65 rfl (lv_at hl 2 rfl) ?_
  refine lv_iconst (v := 1) hx hb dX7_number_66 (by decide) ?_
  refine lv_iconst (v := 2) hx hb dX7_number_67 (by decide) ?_
  obtain ⟨r8, h8, hf⟩ := bq1_some hf
  refine mcs_i (As := [.int y2_7, .int (1 : Int32), .int (2 : Int32)]) C0 I (kX7_in h8) (va_cwS 3 C0.2.2.2.2 (gwS wd_702 wd_703 wd_73 wd_704) rfl rfl rfl dsc_X7_in.2 ⟨Nat.le_of_ble_eq_true rfl, Nat.le_of_ble_eq_true rfl⟩) rfl hl.1 rfl (Nat.le_of_ble_eq_true rfl) dX7_number_68 (fun H locs I => ?_)
  refine lv_if_eq (tgt := 83) hx hb dX7_number_71 (by decide) (fun c9 => ?_) (fun c9 => ?_)
  · have hf := ip c9 hf
    refine lv_iconst (v := 0) hx hb dX7_number_83 (by decide) ?_
    obtain ⟨rfl, rfl⟩ := se2 hf
    exact mrz C0 hr hk rfl I dX7_number_84
  · have hf := inn c9 hf
    refine lv_iload_n hx hb dX7_number_74 rfl (lv_at hl 3 rfl) ?_
    refine lv_iload_n hx hb dX7_number_75 rfl (lv_at hl 1 rfl) ?_
    refine lv_icmp_gt (tgt := 83) hx hb dX7_number_76 (by decide) (fun c10 => ?_) (fun c10 => ?_)
    · have hf := ip c10 hf
      refine lv_iconst (v := 0) hx hb dX7_number_83 (by decide) ?_
      obtain ⟨rfl, rfl⟩ := se2 hf
      exact mrz C0 hr hk rfl I dX7_number_84
    · have hf := inn c10 hf
      refine lv_iconst (v := 1) hx hb dX7_number_79 (by decide) ?_
      refine lv_goto (tgt := 84) hx hb dX7_number_80 (by decide) ?_
      obtain ⟨rfl, rfl⟩ := se2 hf
      exact mrz C0 hr hk rfl I dX7_number_84
set_option maxRecDepth 100000 in
theorem kX7_number {x1 : Int32} {rr : Int32} (hf : fX7_number S x1 = some (rr, S')) : Met l yX7_number (Cond.code yX7_number cX7_number 4 (some .boolean) :: big) ({ frames := 2, cells := 0, slots := 0, locals := 40 } : Room) (va_Pc [.ref (g.2.2 0), .int x1] (mB g S)) (va_Qi (fun r' S2 => r' = rr ∧ S2 = S') (mB g) (mA g)) 0 0 (mA g) := by
  refine Met.ofW (cc := cX7_number) (maxL := 4) (ret := (some .boolean)) (by decide) rfl ?_
  intro p e s m args below meth c s₁ B hml hv
  obtain ⟨rfl, hP, hK, hD⟩ := hv
  have hts0 := atoms_spec (ws := (Cond.code yX7_number cX7_number 4 (some .boolean) :: big)) B.pre
  have C0 : CallFix p m c cX7_number 4 s _ big RX7 := ⟨B.exec, B.bytes, hml, findClass_of_methodNamed B.named, fun w h => hts0 w (List.mem_cons_of_mem _ h)⟩
  have I : mI g s S s.heap [] := ⟨hK, hP, hD, va_S.rf⟩
  have hl := lv_entry ([.ref (g.2.2 0), .int x1]) (n := 4) (Nat.le_of_ble_eq_true rfl)
  rw [lg_entry_eq]
  generalize (lg_sl ([.ref (g.2.2 0), .int x1]) ++ List.replicate (4 - (lg_sl ([.ref (g.2.2 0), .int x1])).length) Slot.unset).toArray = ls at hl ⊢
  have hl : lv_has ls 4 [(0, .ref (g.2.2 0)), (1, .int x1)] := hl
  exact tX7_number_0 C0 B.returns B.notSynchronized hf I (lv_sub hl [0, 1] rfl)
set_option maxHeartbeats 4000000 in
set_option maxRecDepth 100000 in
theorem tX7_sign_0 (C0 : CallFix p m c cX7_sign 2 s args big RX7) (hr : meth.sig.returnType = (some .boolean)) (hk : meth.locks = false) {x1 : Int32} {rr : Int32}  (hf : fX7_sign S x1 = some (rr, S')) (I : mI g s S H locs) (hl : lv_has ls 2 [(0, .ref (g.2.2 0)), (1, .int x1)]) : W p l e ({ frames := 2, cells := 0, slots := 0, locals := 40 } : Room) s m args below meth c H locs 0 0 (MQ below (va_Qi (fun r' S2 => r' = rr ∧ S2 = S') (mB g) (mA g)) args s 0 0 (mA g)) (F0 m 0 ls []) := by
  obtain ⟨hx, hb, hml, -, -⟩ := id C0
  unfold fX7_sign at hf
  refine lv_aload_n hx hb dX7_sign_0 rfl (lv_at hl 0 rfl) ?_
  obtain ⟨S1, h1, hf⟩ := bq1_some hf
  refine mcv_v (As := []) C0 I (kX7_skips h1) (cwV 0 C0.2.2.2.2 (gwV wd_943 wd_945 wd_59 wd_73 wd_946) rfl rfl rfl dsc_X7_skips ⟨Nat.le_of_ble_eq_true rfl, Nat.le_of_ble_eq_true rfl⟩) (mo_0 I) rfl hl.1 rfl (Nat.le_of_ble_eq_true rfl) dX7_sign_1 (fun H locs I => ?_)
  refine lv_aload_n hx hb dX7_sign_4 rfl (lv_at hl 0 rfl) ?_
  obtain ⟨r2, h2, hf⟩ := bq1_some hf
  refine mcv_i (As := []) C0 I (kX7_here h2) (cwV 0 C0.2.2.2.2 (gwV wd_947 wd_949 wd_60 wd_73 wd_950) rfl rfl rfl dsc_X7_here ⟨Nat.le_of_ble_eq_true rfl, Nat.le_of_ble_eq_true rfl⟩) (mo_0 I) rfl hl.1 rfl (Nat.le_of_ble_eq_true rfl) dX7_sign_5 (fun H locs I => ?_)
  refine lv_iload_n hx hb dX7_sign_8 rfl (lv_at hl 1 rfl) ?_
  refine lv_icmp_eq (tgt := 14) hx hb dX7_sign_9 (by decide) (fun c3 => ?_) (fun c3 => ?_)
  · have hf := ip c3 hf
    refine lv_aload_n hx hb dX7_sign_14 rfl (lv_at hl 0 rfl) ?_
    refine lv_dup hx hb dX7_sign_15 rfl ?_
    refine mg_X7_230_0 C0 I dX7_sign_16 ?_
    refine lv_iconst (v := 1) hx hb dX7_sign_19 (by decide) ?_
    refine lv_iadd hx hb dX7_sign_20 ?_
    refine mp_X7_230_0 C0 I dX7_sign_21 (fun H locs I => ?_)
    refine lv_iconst (v := 1) hx hb dX7_sign_24 (by decide) ?_
    obtain ⟨rfl, rfl⟩ := se2 hf
    exact mrz C0 hr hk rfl I dX7_sign_25
  · have hf := inn c3 hf
    refine lv_iconst (v := 0) hx hb dX7_sign_12 (by decide) ?_
    obtain ⟨rfl, rfl⟩ := se2 hf
    exact mrz C0 hr hk rfl I dX7_sign_13
set_option maxRecDepth 100000 in
theorem kX7_sign {x1 : Int32} {rr : Int32} (hf : fX7_sign S x1 = some (rr, S')) : Met l yX7_sign (Cond.code yX7_sign cX7_sign 2 (some .boolean) :: big) ({ frames := 2, cells := 0, slots := 0, locals := 40 } : Room) (va_Pc [.ref (g.2.2 0), .int x1] (mB g S)) (va_Qi (fun r' S2 => r' = rr ∧ S2 = S') (mB g) (mA g)) 0 0 (mA g) := by
  refine Met.ofW (cc := cX7_sign) (maxL := 2) (ret := (some .boolean)) (by decide) rfl ?_
  intro p e s m args below meth c s₁ B hml hv
  obtain ⟨rfl, hP, hK, hD⟩ := hv
  have hts0 := atoms_spec (ws := (Cond.code yX7_sign cX7_sign 2 (some .boolean) :: big)) B.pre
  have C0 : CallFix p m c cX7_sign 2 s _ big RX7 := ⟨B.exec, B.bytes, hml, findClass_of_methodNamed B.named, fun w h => hts0 w (List.mem_cons_of_mem _ h)⟩
  have I : mI g s S s.heap [] := ⟨hK, hP, hD, va_S.rf⟩
  have hl := lv_entry ([.ref (g.2.2 0), .int x1]) (n := 2) (Nat.le_of_ble_eq_true rfl)
  rw [lg_entry_eq]
  generalize (lg_sl ([.ref (g.2.2 0), .int x1]) ++ List.replicate (2 - (lg_sl ([.ref (g.2.2 0), .int x1])).length) Slot.unset).toArray = ls at hl ⊢
  have hl : lv_has ls 2 [(0, .ref (g.2.2 0)), (1, .int x1)] := hl
  exact tX7_sign_0 C0 B.returns B.notSynchronized hf I (lv_sub hl [0, 1] rfl)
end
