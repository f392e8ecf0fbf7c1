section
variable {p : Program} {l : Launch} {e : Env} {s : State} {m : MethodId} {args : Array Value} {below : List Frame} {meth : Method} {c : Code} {Q : State → Prop} {g : xG} {H : Heap} {locs : List Loc} {ls : Array Slot} {S S' : St}
set_option maxHeartbeats 4000000 in
set_option maxRecDepth 100000 in
theorem BX7_metBy_18 (C0 : CallFix p m c cX7_metBy 6 s args big RX7) (hr : meth.sig.returnType = (some .int)) (hk : meth.locks = false) {x1 : Int32} {x2 : Int32} {x3 : Int32} {x4 : Int32} {x5 : Int32} {b : Bool} {y4 : Int32} {y5 : Int32} (Kt : b = true → ∀ (H : Heap) (locs : List Loc) (ls : Array Slot), mI g s S H locs → lv_has ls 6 [(0, .ref (g.2.2 0)), (1, .int x1), (2, .int x2), (3, .int x3), (4, .int y4), (5, .int y5)] → W p l e ({ frames := 2, cells := 0, slots := 0, locals := 48 } : Room) s m args below meth c H locs 0 0 Q (F0 m 18 ls [])) (Kf : b = false → ∀ (H : Heap) (locs : List Loc) (ls : Array Slot), mI g s S H locs → lv_has ls 6 [(0, .ref (g.2.2 0)), (1, .int x1), (2, .int x2), (3, .int x3), (4, .int y4), (5, .int y5)] → W p l e ({ frames := 2, cells := 0, slots := 0, locals := 48 } : Room) s m args below meth c H locs 0 0 Q (F0 m 62 ls [])) (hf : bX7_metBy_18 S x1 x3 x4 x5 = some (b, y4, y5)) (I : mI g s S H locs) (hl : lv_has ls 6 [(0, .ref (g.2.2 0)), (1, .int x1), (2, .int x2), (3, .int x3), (4, .int x4), (5, .int x5)]) : W p l e ({ frames := 2, cells := 0, slots := 0, locals := 48 } : Room) s m args below meth c H locs 0 0 Q (F0 m 18 ls []) := by
  obtain ⟨hx, hb, hml, -, -⟩ := id C0
  unfold bX7_metBy_18 at hf
  refine lv_iload hx hb dX7_metBy_18 (lv_at hl 5 rfl) ?_
  refine lv_aload_n hx hb dX7_metBy_20 rfl (lv_at hl 0 rfl) ?_
  refine mg_X7_35_0 C0 I dX7_metBy_21 ?_
  refine lv_iload_n hx hb dX7_metBy_24 rfl (lv_at hl 1 rfl) ?_
  obtain ⟨b2, hf⟩ := chk_some hf
  refine ml_8 hx hb I b2 dX7_metBy_25 ?_
  refine lv_icmp_ge (tgt := 62) hx hb dX7_metBy_26 (by decide) (fun c3 => ?_) (fun c3 => ?_)
  · have hf := ip c3 hf
    obtain ⟨rfl, rfl, rfl⟩ := se3 hf
    exact Kf rfl _ _ _ I (lv_sub hl [0, 1, 2, 3, 4, 5] rfl)
  · have hf := inn c3 hf
    refine lv_iload hx hb dX7_metBy_29 (lv_at hl 4 rfl) ?_
    refine lv_if_ne (tgt := 49) hx hb dX7_metBy_31 (by decide) (fun c4 => ?_) (fun c4 => ?_)
    · have hf := inn c4 hf
      refine lv_iconst (v := 1) hx hb dX7_metBy_49 (by decide) ?_
      refine lv_goto (tgt := 54) hx hb dX7_metBy_50 (by decide) ?_
      refine lv_istore (lv' := [(4, .int (1 : Int32)), (0, .ref (g.2.2 0)), (1, .int x1), (2, .int x2), (3, .int x3), (5, .int x5)]) hx hb dX7_metBy_54 hl (by decide) rfl (fun ls hl => ?_)
      refine lv_iinc (v := (x5 + (1 : Int32))) (lv' := [(5, .int (x5 + (1 : Int32))), (4, .int (1 : Int32)), (0, .ref (g.2.2 0)), (1, .int x1), (2, .int x2), (3, .int x3)]) hx hb dX7_metBy_56 hl (k := 5) rfl rfl (by decide) rfl (fun ls hl => ?_)
      refine lv_goto (tgt := 18) hx hb dX7_metBy_59 (by decide) ?_
      obtain ⟨rfl, rfl, rfl⟩ := se3 hf
      exact Kt rfl _ _ _ I (lv_sub hl [2, 3, 4, 5, 1, 0] rfl)
    · have hf := ip c4 hf
      refine lv_aload_n hx hb dX7_metBy_34 rfl (lv_at hl 0 rfl) ?_
      refine lv_iload_n hx hb dX7_metBy_35 rfl (lv_at hl 3 rfl) ?_
      refine lv_aload_n hx hb dX7_metBy_36 rfl (lv_at hl 0 rfl) ?_
      refine lv_iload_n hx hb dX7_metBy_37 rfl (lv_at hl 1 rfl) ?_
      refine lv_iload hx hb dX7_metBy_38 (lv_at hl 5 rfl) ?_
      obtain ⟨r5, h5, hf⟩ := bq1_some hf
      refine mcv_i (As := [.int x1, .int x5]) C0 I (kX7_edgeOf h5) (cwV 2 C0.2.2.2.2 (gwV wd_796 wd_798 wd_37 wd_73 wd_799) rfl rfl rfl dsc_X7_edgeOf ⟨Nat.le_of_ble_eq_true rfl, Nat.le_of_ble_eq_true rfl⟩) (mo_0 I) rfl hl.1 rfl (Nat.le_of_ble_eq_true rfl) dX7_metBy_40 (fun H locs I => ?_)
      obtain ⟨r6, h6, hf⟩ := bq1_some hf
      refine mcv_i (As := [.int x3, .int r5]) C0 I (kX7_uses h6) (cwV 2 C0.2.2.2.2 (gwV wd_800 wd_802 wd_38 wd_73 wd_803) rfl rfl rfl dsc_X7_uses ⟨Nat.le_of_ble_eq_true rfl, Nat.le_of_ble_eq_true rfl⟩) (mo_0 I) rfl hl.1 rfl (Nat.le_of_ble_eq_true rfl) dX7_metBy_43 (fun H locs I => ?_)
      refine lv_if_eq (tgt := 53) hx hb dX7_metBy_46 (by decide) (fun c7 => ?_) (fun c7 => ?_)
      · have hf := ip c7 hf
        refine lv_iconst (v := 0) hx hb dX7_metBy_53 (by decide) ?_
        refine lv_istore (lv' := [(4, .int (0 : Int32)), (0, .ref (g.2.2 0)), (1, .int x1), (2, .int x2), (3, .int x3), (5, .int x5)]) hx hb dX7_metBy_54 hl (by decide) rfl (fun ls hl => ?_)
        refine lv_iinc (v := (x5 + (1 : Int32))) (lv' := [(5, .int (x5 + (1 : Int32))), (4, .int (0 : Int32)), (0, .ref (g.2.2 0)), (1, .int x1), (2, .int x2), (3, .int x3)]) hx hb dX7_metBy_56 hl (k := 5) rfl rfl (by decide) rfl (fun ls hl => ?_)
        refine lv_goto (tgt := 18) hx hb dX7_metBy_59 (by decide) ?_
        obtain ⟨rfl, rfl, rfl⟩ := se3 hf
        exact Kt rfl _ _ _ I (lv_sub hl [2, 3, 4, 5, 1, 0] rfl)
      · have hf := inn c7 hf
        refine lv_iconst (v := 1) hx hb dX7_metBy_49 (by decide) ?_
        refine lv_goto (tgt := 54) hx hb dX7_metBy_50 (by decide) ?_
        refine lv_istore (lv' := [(4, .int (1 : Int32)), (0, .ref (g.2.2 0)), (1, .int x1), (2, .int x2), (3, .int x3), (5, .int x5)]) hx hb dX7_metBy_54 hl (by decide) rfl (fun ls hl => ?_)
        refine lv_iinc (v := (x5 + (1 : Int32))) (lv' := [(5, .int (x5 + (1 : Int32))), (4, .int (1 : Int32)), (0, .ref (g.2.2 0)), (1, .int x1), (2, .int x2), (3, .int x3)]) hx hb dX7_metBy_56 hl (k := 5) rfl rfl (by decide) rfl (fun ls hl => ?_)
        refine lv_goto (tgt := 18) hx hb dX7_metBy_59 (by decide) ?_
        obtain ⟨rfl, rfl, rfl⟩ := se3 hf
        exact Kt rfl _ _ _ I (lv_sub hl [2, 3, 4, 5, 1, 0] rfl)
set_option maxHeartbeats 4000000 in
theorem lX7_metBy_18 (C0 : CallFix p m c cX7_metBy 6 s args big RX7) (hr : meth.sig.returnType = (some .int)) (hk : meth.locks = false) {S : St} {x1 : Int32} {x2 : Int32} {x3 : Int32} {y4 : Int32} {y5 : Int32} : ∀ (n : Nat) {x4 : Int32} {x5 : Int32}, lp (fun q => bX7_metBy_18 S x1 x3 q.1 q.2) n (x4, x5) = some (y4, y5) → ∀ {H : Heap} {locs : List Loc}, mI g s S H locs → ∀ {ls : Array Slot}, lv_has ls 6 [(0, .ref (g.2.2 0)), (1, .int x1), (2, .int x2), (3, .int x3), (4, .int x4), (5, .int x5)] → (∀ (H : Heap) (locs : List Loc) (ls : Array Slot), mI g s S H locs → lv_has ls 6 [(0, .ref (g.2.2 0)), (1, .int x1), (2, .int x2), (3, .int x3), (4, .int y4), (5, .int y5)] → W p l e ({ frames := 2, cells := 0, slots := 0, locals := 48 } : Room) s m args below meth c H locs 0 0 Q (F0 m 62 ls [])) → W p l e ({ frames := 2, cells := 0, slots := 0, locals := 48 } : Room) s m args below meth c H locs 0 0 Q (F0 m 18 ls []) := by
  intro n
  induction n with
  | zero => intro x4 x5 hf; cases hf
  | succ n ih =>
    intro x4 x5 hf H locs I ls hl K
    obtain ⟨b, ⟨z0, z1⟩, h1, h2, h3⟩ := lp_some hf
    refine BX7_metBy_18 C0 hr hk (fun hb1 H locs ls I hl => ?_) (fun hb1 H locs ls I hl => ?_) h1 I hl
    · exact ih (h2 hb1) I hl K
    · have e := h3 hb1
      cases e
      exact K H locs ls I hl
set_option maxHeartbeats 4000000 in
set_option maxRecDepth 100000 in
theorem BX7_metBy_4 (C0 : CallFix p m c cX7_metBy 6 s args big RX7) (hr : meth.sig.returnType = (some .int)) (hk : meth.locks = false) {x1 : Int32} {x2 : Int32} {x3 : Int32} {b : Bool} {y2 : Int32} {y3 : Int32} (Kt : b = true → ∀ (H : Heap) (locs : List Loc) (ls : Array Slot), mI g s S H locs → lv_has ls 6 [(0, .ref (g.2.2 0)), (1, .int x1), (2, .int y2), (3, .int y3)] → W p l e ({ frames := 2, cells := 0, slots := 0, locals := 48 } : Room) s m args below meth c H locs 0 0 Q (F0 m 4 ls [])) (Kf : b = false → ∀ (H : Heap) (locs : List Loc) (ls : Array Slot), mI g s S H locs → lv_has ls 6 [(0, .ref (g.2.2 0)), (1, .int x1), (2, .int y2), (3, .int y3)] → W p l e ({ frames := 2, cells := 0, slots := 0, locals := 48 } : Room) s m args below meth c H locs 0 0 Q (F0 m 86 ls [])) (hf : bX7_metBy_4 S x1 x2 x3 = some (b, y2, y3)) (I : mI g s S H locs) (hl : lv_has ls 6 [(0, .ref (g.2.2 0)), (1, .int x1), (2, .int x2), (3, .int x3)]) : W p l e ({ frames := 2, cells := 0, slots := 0, locals := 48 } : Room) s m args below meth c H locs 0 0 Q (F0 m 4 ls []) := by
  obtain ⟨hx, hb, hml, -, -⟩ := id C0
  unfold bX7_metBy_4 at hf
  refine lv_iload_n hx hb dX7_metBy_4 rfl (lv_at hl 3 rfl) ?_
  refine lv_aload_n hx hb dX7_metBy_5 rfl (lv_at hl 0 rfl) ?_
  refine mg_X7_76_0 C0 I dX7_metBy_6 ?_
  refine lv_icmp_ge (tgt := 86) hx hb dX7_metBy_9 (by decide) (fun c1 => ?_) (fun c1 => ?_)
  · have hf := ip c1 hf
    obtain ⟨rfl, rfl, rfl⟩ := se3 hf
    exact Kf rfl _ _ _ I (lv_sub hl [0, 1, 2, 3] rfl)
  · have hf := inn c1 hf
    refine lv_iconst (v := 0) hx hb dX7_metBy_12 (by decide) ?_
    refine lv_istore (lv' := [(4, .int (0 : Int32)), (0, .ref (g.2.2 0)), (1, .int x1), (2, .int x2), (3, .int x3)]) hx hb dX7_metBy_13 hl (by decide) rfl (fun ls hl => ?_)
    refine lv_iconst (v := 0) hx hb dX7_metBy_15 (by decide) ?_
    refine lv_istore (lv' := [(5, .int (0 : Int32)), (4, .int (0 : Int32)), (0, .ref (g.2.2 0)), (1, .int x1), (2, .int x2), (3, .int x3)]) hx hb dX7_metBy_16 hl (by decide) rfl (fun ls hl => ?_)
    obtain ⟨y4_8, y5_8, h8, hf⟩ := bq2_some hf
    refine lX7_metBy_18 C0 hr hk fu h8 I (lv_sub hl [2, 3, 4, 5, 1, 0] rfl) (fun H locs ls I hl => ?_)
    refine lv_iload_n hx hb dX7_metBy_62 rfl (lv_at hl 2 rfl) ?_
    refine lv_iload hx hb dX7_metBy_63 (lv_at hl 4 rfl) ?_
    refine lv_if_eq (tgt := 77) hx hb dX7_metBy_65 (by decide) (fun c9 => ?_) (fun c9 => ?_)
    · have hf := ip c9 hf
      refine lv_iconst (v := 0) hx hb dX7_metBy_77 (by decide) ?_
      refine lv_iadd hx hb dX7_metBy_78 ?_
      refine lv_istore_n (lv' := [(2, .int (x2 + (0 : Int32))), (0, .ref (g.2.2 0)), (1, .int x1), (3, .int x3), (4, .int y4_8), (5, .int y5_8)]) hx hb dX7_metBy_79 rfl hl (by decide) rfl (fun ls hl => ?_)
      refine lv_iinc (v := (x3 + (1 : Int32))) (lv' := [(3, .int (x3 + (1 : Int32))), (2, .int (x2 + (0 : Int32))), (0, .ref (g.2.2 0)), (1, .int x1), (4, .int y4_8), (5, .int y5_8)]) hx hb dX7_metBy_80 hl (k := 3) rfl rfl (by decide) rfl (fun ls hl => ?_)
      refine lv_goto (tgt := 4) hx hb dX7_metBy_83 (by decide) ?_
      obtain ⟨rfl, rfl, rfl⟩ := se3 hf
      exact Kt rfl _ _ _ I (lv_sub hl [2, 3, 1, 0] rfl)
    · have hf := inn c9 hf
      refine lv_iload_n hx hb dX7_metBy_68 rfl (lv_at hl 3 rfl) ?_
      refine lv_iload_n hx hb dX7_metBy_69 rfl (lv_at hl 1 rfl) ?_
      refine lv_icmp_eq (tgt := 77) hx hb dX7_metBy_70 (by decide) (fun c10 => ?_) (fun c10 => ?_)
      · have hf := ip c10 hf
        refine lv_iconst (v := 0) hx hb dX7_metBy_77 (by decide) ?_
        refine lv_iadd hx hb dX7_metBy_78 ?_
        refine lv_istore_n (lv' := [(2, .int (x2 + (0 : Int32))), (0, .ref (g.2.2 0)), (1, .int x1), (3, .int x3), (4, .int y4_8), (5, .int y5_8)]) hx hb dX7_metBy_79 rfl hl (by decide) rfl (fun ls hl => ?_)
        refine lv_iinc (v := (x3 + (1 : Int32))) (lv' := [(3, .int (x3 + (1 : Int32))), (2, .int (x2 + (0 : Int32))), (0, .ref (g.2.2 0)), (1, .int x1), (4, .int y4_8), (5, .int y5_8)]) hx hb dX7_metBy_80 hl (k := 3) rfl rfl (by decide) rfl (fun ls hl => ?_)
        refine lv_goto (tgt := 4) hx hb dX7_metBy_83 (by decide) ?_
        obtain ⟨rfl, rfl, rfl⟩ := se3 hf
        exact Kt rfl _ _ _ I (lv_sub hl [2, 3, 1, 0] rfl)
      · have hf := inn c10 hf
        refine lv_iconst (v := 1) hx hb dX7_metBy_73 (by decide) ?_
        refine lv_goto (tgt := 78) hx hb dX7_metBy_74 (by decide) ?_
        refine lv_iadd hx hb dX7_metBy_78 ?_
        refine lv_istore_n (lv' := [(2, .int (x2 + (1 : Int32))), (0, .ref (g.2.2 0)), (1, .int x1), (3, .int x3), (4, .int y4_8), (5, .int y5_8)]) hx hb dX7_metBy_79 rfl hl (by decide) rfl (fun ls hl => ?_)
        refine lv_iinc (v := (x3 + (1 : Int32))) (lv' := [(3, .int (x3 + (1 : Int32))), (2, .int (x2 + (1 : Int32))), (0, .ref (g.2.2 0)), (1, .int x1), (4, .int y4_8), (5, .int y5_8)]) hx hb dX7_metBy_80 hl (k := 3) rfl rfl (by decide) rfl (fun ls hl => ?_)
        refine lv_goto (tgt := 4) hx hb dX7_metBy_83 (by decide) ?_
        obtain ⟨rfl, rfl, rfl⟩ := se3 hf
        exact Kt rfl _ _ _ I (lv_sub hl [2, 3, 1, 0] rfl)
set_option maxHeartbeats 4000000 in
theorem lX7_metBy_4 (C0 : CallFix p m c cX7_metBy 6 s args big RX7) (hr : meth.sig.returnType = (some .int)) (hk : meth.locks = false) {S : St} {x1 : Int32} {y2 : Int32} {y3 : Int32} : ∀ (n : Nat) {x2 : Int32} {x3 : Int32}, lp (fun q => bX7_metBy_4 S x1 q.1 q.2) n (x2, x3) = some (y2, y3) → ∀ {H : Heap} {locs : List Loc}, mI g s S H locs → ∀ {ls : Array Slot}, lv_has ls 6 [(0, .ref (g.2.2 0)), (1, .int x1), (2, .int x2), (3, .int x3)] → (∀ (H : Heap) (locs : List Loc) (ls : Array Slot), mI g s S H locs → lv_has ls 6 [(0, .ref (g.2.2 0)), (1, .int x1), (2, .int y2), (3, .int y3)] → W p l e ({ frames := 2, cells := 0, slots := 0, locals := 48 } : Room) s m args below meth c H locs 0 0 Q (F0 m 86 ls [])) → W p l e ({ frames := 2, cells := 0, slots := 0, locals := 48 } : Room) s m args below meth c H locs 0 0 Q (F0 m 4 ls []) := by
  intro n
  induction n with
  | zero => intro x2 x3 hf; cases hf
  | succ n ih =>
    intro x2 x3 hf H locs I ls hl K
    obtain ⟨b, ⟨z0, z1⟩, h1, h2, h3⟩ := lp_some hf
    refine BX7_metBy_4 C0 hr hk (fun hb1 H locs ls I hl => ?_) (fun hb1 H locs ls I hl => ?_) h1 I hl
    · exact ih (h2 hb1) I hl K
    · have e := h3 hb1
      cases e
      exact K H locs ls I hl
set_option maxHeartbeats 4000000 in
set_option maxRecDepth 100000 in
theorem tX7_metBy_0 (C0 : CallFix p m c cX7_metBy 6 s args big RX7) (hr : meth.sig.returnType = (some .int)) (hk : meth.locks = false) {x1 : Int32} {rr : Int32}  (hf : fX7_metBy S x1 = some rr) (I : mI g s S H locs) (hl : lv_has ls 6 [(0, .ref (g.2.2 0)), (1, .int x1)]) : W p l e ({ frames := 2, cells := 0, slots := 0, locals := 48 } : Room) s m args below meth c H locs 0 0 (MQ below (va_Qi (fun r' S2 => r' = rr ∧ S2 = S) (mB g) (mA g)) args s 0 0 (mA g)) (F0 m 0 ls []) := by
  obtain ⟨hx, hb, hml, -, -⟩ := id C0
  unfold fX7_metBy at hf
  refine lv_iconst (v := 0) hx hb dX7_metBy_0 (by decide) ?_
  refine lv_istore_n (lv' := [(2, .int (0 : Int32)), (0, .ref (g.2.2 0)), (1, .int x1)]) hx hb dX7_metBy_1 rfl hl (by decide) rfl (fun ls hl => ?_)
  refine lv_iconst (v := 0) hx hb dX7_metBy_2 (by decide) ?_
  refine lv_istore_n (lv' := [(3, .int (0 : Int32)), (2, .int (0 : Int32)), (0, .ref (g.2.2 0)), (1, .int x1)]) hx hb dX7_metBy_3 rfl hl (by decide) rfl (fun ls hl => ?_)
  obtain ⟨y2_11, y3_11, h11, hf⟩ := bq2_some hf
  refine lX7_metBy_4 C0 hr hk fu h11 I (lv_sub hl [2, 3, 1, 0] rfl) (fun H locs ls I hl => ?_)
  refine lv_iload_n hx hb dX7_metBy_86 rfl (lv_at hl 2 rfl) ?_
  obtain rfl := se1 hf
  exact mri C0 hr hk I dX7_metBy_87
set_option maxRecDepth 100000 in
theorem kX7_metBy {x1 : Int32} {rr : Int32} (hf : fX7_metBy S x1 = some rr) : Met l yX7_metBy (Cond.code yX7_metBy cX7_metBy 6 (some .int) :: big) ({ frames := 2, cells := 0, slots := 0, locals := 48 } : Room) (va_Pc [.ref (g.2.2 0), .int x1] (mB g S)) (va_Qi (fun r' S2 => r' = rr ∧ S2 = S) (mB g) (mA g)) 0 0 (mA g) := by
  refine Met.ofW (cc := cX7_metBy) (maxL := 6) (ret := (some .int)) (by decide) rfl ?_
  intro p e s m args below meth c s₁ B hml hv
  obtain ⟨rfl, hP, hK, hD⟩ := hv
  have hts0 := atoms_spec (ws := (Cond.code yX7_metBy cX7_metBy 6 (some .int) :: big)) B.pre
  have C0 : CallFix p m c cX7_metBy 6 s _ big RX7 := ⟨B.exec, B.bytes, hml, findClass_of_methodNamed B.named, fun w h => hts0 w (List.mem_cons_of_mem _ h)⟩
  have I : mI g s S s.heap [] := ⟨hK, hP, hD, va_S.rf⟩
  have hl := lv_entry ([.ref (g.2.2 0), .int x1]) (n := 6) (Nat.le_of_ble_eq_true rfl)
  rw [lg_entry_eq]
  generalize (lg_sl ([.ref (g.2.2 0), .int x1]) ++ List.replicate (6 - (lg_sl ([.ref (g.2.2 0), .int x1])).length) Slot.unset).toArray = ls at hl ⊢
  have hl : lv_has ls 6 [(0, .ref (g.2.2 0)), (1, .int x1)] := hl
  exact tX7_metBy_0 C0 B.returns B.notSynchronized hf I (lv_sub hl [0, 1] rfl)
set_option maxHeartbeats 4000000 in
set_option maxRecDepth 100000 in
theorem tX7_ofBy_0 (C0 : CallFix p m c cX7_ofBy 3 s args big RX7) (hr : meth.sig.returnType = (some .int)) (hk : meth.locks = false) {x1 : Int32} {x2 : Int32} {rr : Int32}  (hf : fX7_ofBy S x1 x2 = some (rr, S')) (I : mI g s S H locs) (hl : lv_has ls 3 [(0, .ref (g.2.2 0)), (1, .int x1), (2, .int x2)]) : W p l e ({ frames := 3, cells := 0, slots := 0, locals := 73 } : Room) s m args below meth c H locs 0 0 (MQ below (va_Qi (fun r' S2 => r' = rr ∧ S2 = S') (mB g) (mA g)) args s 0 0 (mA g)) (F0 m 0 ls []) := by
  obtain ⟨hx, hb, hml, -, -⟩ := id C0
  unfold fX7_ofBy at hf
  refine lv_iload_n hx hb dX7_ofBy_0 rfl (lv_at hl 2 rfl) ?_
  refine lv_iconst (v := 4) hx hb dX7_ofBy_1 (by decide) ?_
  refine lv_icmp_ge (tgt := 12) hx hb dX7_ofBy_2 (by decide) (fun c1 => ?_) (fun c1 => ?_)
  · have hf := ip c1 hf
    refine lv_aload_n hx hb dX7_ofBy_12 rfl (lv_at hl 0 rfl) ?_
    obtain ⟨S2, h2, hf⟩ := bq1_some hf
    refine mcv_v (As := []) C0 I (kX7_setWays h2) (cwV 0 C0.2.2.2.2 (gwV wd_780 wd_782 wd_33 wd_73 wd_783) rfl rfl rfl dsc_X7_setWays ⟨Nat.le_of_ble_eq_true rfl, Nat.le_of_ble_eq_true rfl⟩) (mo_0 I) rfl hl.1 rfl (Nat.le_of_ble_eq_true rfl) dX7_ofBy_13 (fun H locs I => ?_)
    refine lv_iload_n hx hb dX7_ofBy_16 rfl (lv_at hl 2 rfl) ?_
    refine lv_iconst (v := 4) hx hb dX7_ofBy_17 (by decide) ?_
    refine lv_icmp_ne (tgt := 30) hx hb dX7_ofBy_18 (by decide) (fun c3 => ?_) (fun c3 => ?_)
    · have hf := inn c3 hf
      refine lv_aload_n hx hb dX7_ofBy_30 rfl (lv_at hl 0 rfl) ?_
      refine lv_iload_n hx hb dX7_ofBy_31 rfl (lv_at hl 1 rfl) ?_
      obtain ⟨r4, h4, hf⟩ := bq1_some hf
      refine mcv_i (As := [.int x1]) C0 I (kX7_metBy h4) (cwV 1 C0.2.2.2.2 (gwV wd_792 wd_794 wd_36 wd_73 wd_795) rfl rfl rfl dsc_X7_metBy ⟨Nat.le_of_ble_eq_true rfl, Nat.le_of_ble_eq_true rfl⟩) (mo_0 I) rfl hl.1 rfl (Nat.le_of_ble_eq_true rfl) dX7_ofBy_32 (fun H locs I => ?_)
      obtain ⟨rfl, rfl⟩ := se2 hf
      exact mri C0 hr hk I dX7_ofBy_35
    · have hf := ip c3 hf
      refine lv_aload_n hx hb dX7_ofBy_21 rfl (lv_at hl 0 rfl) ?_
      refine mg_X7_35_0 C0 I dX7_ofBy_22 ?_
      refine lv_iload_n hx hb dX7_ofBy_25 rfl (lv_at hl 1 rfl) ?_
      obtain ⟨b5, hf⟩ := chk_some hf
      refine ml_8 hx hb I b5 dX7_ofBy_26 ?_
      refine lv_goto (tgt := 35) hx hb dX7_ofBy_27 (by decide) ?_
      obtain ⟨rfl, rfl⟩ := se2 hf
      exact mri C0 hr hk I dX7_ofBy_35
  · have hf := inn c1 hf
    refine lv_aload_n hx hb dX7_ofBy_5 rfl (lv_at hl 0 rfl) ?_
    refine lv_iload_n hx hb dX7_ofBy_6 rfl (lv_at hl 1 rfl) ?_
    refine lv_iload_n hx hb dX7_ofBy_7 rfl (lv_at hl 2 rfl) ?_
    obtain ⟨r6, h6, hf⟩ := bq1_some hf
    refine mcv_i (As := [.int x1, .int x2]) C0 I (kX7_tells h6) (cwV 2 C0.2.2.2.2 (gwV wd_744 wd_746 wd_30 wd_73 wd_747) rfl rfl rfl dsc_X7_tells ⟨Nat.le_of_ble_eq_true rfl, Nat.le_of_ble_eq_true rfl⟩) (mo_0 I) rfl hl.1 rfl (Nat.le_of_ble_eq_true rfl) dX7_ofBy_8 (fun H locs I => ?_)
    obtain ⟨rfl, rfl⟩ := se2 hf
    exact mri C0 hr hk I dX7_ofBy_11
set_option maxRecDepth 100000 in
theorem kX7_ofBy {x1 : Int32} {x2 : Int32} {rr : Int32} (hf : fX7_ofBy S x1 x2 = some (rr, S')) : Met l yX7_ofBy (Cond.code yX7_ofBy cX7_ofBy 3 (some .int) :: big) ({ frames := 3, cells := 0, slots := 0, locals := 73 } : Room) (va_Pc [.ref (g.2.2 0), .int x1, .int x2] (mB g S)) (va_Qi (fun r' S2 => r' = rr ∧ S2 = S') (mB g) (mA g)) 0 0 (mA g) := by
  refine Met.ofW (cc := cX7_ofBy) (maxL := 3) (ret := (some .int)) (by decide) rfl ?_
  intro p e s m args below meth c s₁ B hml hv
  obtain ⟨rfl, hP, hK, hD⟩ := hv
  have hts0 := atoms_spec (ws := (Cond.code yX7_ofBy cX7_ofBy 3 (some .int) :: big)) B.pre
  have C0 : CallFix p m c cX7_ofBy 3 s _ big RX7 := ⟨B.exec, B.bytes, hml, findClass_of_methodNamed B.named, fun w h => hts0 w (List.mem_cons_of_mem _ h)⟩
  have I : mI g s S s.heap [] := ⟨hK, hP, hD, va_S.rf⟩
  have hl := lv_entry ([.ref (g.2.2 0), .int x1, .int x2]) (n := 3) (Nat.le_of_ble_eq_true rfl)
  rw [lg_entry_eq]
  generalize (lg_sl ([.ref (g.2.2 0), .int x1, .int x2]) ++ List.replicate (3 - (lg_sl ([.ref (g.2.2 0), .int x1, .int x2])).length) Slot.unset).toArray = ls at hl ⊢
  have hl : lv_has ls 3 [(0, .ref (g.2.2 0)), (1, .int x1), (2, .int x2)] := hl
  exact tX7_ofBy_0 C0 B.returns B.notSynchronized hf I (lv_sub hl [0, 1, 2] rfl)
set_option maxHeartbeats 4000000 in
set_option maxRecDepth 100000 in
theorem tX7_of_26 (C0 : CallFix p m c cX7_of 3 s args big RX7) (hr : meth.sig.returnType = (some .int)) (hk : meth.locks = false)  {rr : Int32}  (hf : fX7_of_26 S = some (rr, S')) (I : mI g s S H locs) (hl : lv_has ls 3 [(0, .ref (g.2.2 0))]) : W p l e ({ frames := 4, cells := 0, slots := 0, locals := 95 } : Room) s m args below meth c H locs 0 0 (MQ below (va_Qi (fun r' S2 => r' = rr ∧ S2 = S') (mB g) (mA g)) args s 0 0 (mA g)) (F0 m 26 ls []) := by
  obtain ⟨hx, hb, hml, -, -⟩ := id C0
  unfold fX7_of_26 at hf
  refine lv_aload_n hx hb dX7_of_26 rfl (lv_at hl 0 rfl) ?_
  obtain ⟨r3, S3, h3, hf⟩ := bq2_some hf
  refine mcv_i (As := []) C0 I (kX7_bad h3) (cwV 0 C0.2.2.2.2 (gwV wd_705 wd_707 wd_23 wd_73 wd_708) rfl rfl rfl dsc_X7_bad ⟨Nat.le_of_ble_eq_true rfl, Nat.le_of_ble_eq_true rfl⟩) (mo_0 I) rfl hl.1 rfl (Nat.le_of_ble_eq_true rfl) dX7_of_27 (fun H locs I => ?_)
  obtain ⟨rfl, rfl⟩ := se2 hf
  exact mri C0 hr hk I dX7_of_30
set_option maxHeartbeats 4000000 in
set_option maxRecDepth 100000 in
theorem tX7_of_0 (C0 : CallFix p m c cX7_of 3 s args big RX7) (hr : meth.sig.returnType = (some .int)) (hk : meth.locks = false) {x1 : Int32} {x2 : Int32} {rr : Int32}  (hf : fX7_of S x1 x2 = some (rr, S')) (I : mI g s S H locs) (hl : lv_has ls 3 [(0, .ref (g.2.2 0)), (1, .int x1), (2, .int x2)]) : W p l e ({ frames := 4, cells := 0, slots := 0, locals := 95 } : Room) s m args below meth c H locs 0 0 (MQ below (va_Qi (fun r' S2 => r' = rr ∧ S2 = S') (mB g) (mA g)) args s 0 0 (mA g)) (F0 m 0 ls []) := by
  obtain ⟨hx, hb, hml, -, -⟩ := id C0
  unfold fX7_of at hf
  refine lv_aload_n hx hb dX7_of_0 rfl (lv_at hl 0 rfl) ?_
  refine lv_iload_n hx hb dX7_of_1 rfl (lv_at hl 1 rfl) ?_
  obtain ⟨r1, h1, hf⟩ := bq1_some hf
  refine mcv_i (As := [.int x1]) C0 I (kX7_isParcel h1) (cwV 1 C0.2.2.2.2 (gwV wd_740 wd_742 wd_29 wd_73 wd_743) rfl rfl rfl dsc_X7_isParcel ⟨Nat.le_of_ble_eq_true rfl, Nat.le_of_ble_eq_true rfl⟩) (mo_0 I) rfl hl.1 rfl (Nat.le_of_ble_eq_true rfl) dX7_of_2 (fun H locs I => ?_)
  refine lv_if_eq (tgt := 26) hx hb dX7_of_5 (by decide) (fun c2 => ?_) (fun c2 => ?_)
  · have hf := ip c2 hf
    exact tX7_of_26 C0 hr hk hf I (lv_sub hl [0] rfl)
  · have hf := inn c2 hf
    refine lv_iload_n hx hb dX7_of_8 rfl (lv_at hl 2 rfl) ?_
    refine lv_iconst (v := 0) hx hb dX7_of_9 (by decide) ?_
    refine lv_iconst (v := 5) hx hb dX7_of_10 (by decide) ?_
    obtain ⟨r4, h4, hf⟩ := bq1_some hf
    refine mcs_i (As := [.int x2, .int (0 : Int32), .int (5 : Int32)]) C0 I (kX7_in h4) (va_cwS 3 C0.2.2.2.2 (gwS wd_702 wd_703 wd_73 wd_704) rfl rfl rfl dsc_X7_in.2 ⟨Nat.le_of_ble_eq_true rfl, Nat.le_of_ble_eq_true rfl⟩) rfl hl.1 rfl (Nat.le_of_ble_eq_true rfl) dX7_of_11 (fun H locs I => ?_)
    refine lv_if_eq (tgt := 26) hx hb dX7_of_14 (by decide) (fun c5 => ?_) (fun c5 => ?_)
    · have hf := ip c5 hf
      exact tX7_of_26 C0 hr hk hf I (lv_sub hl [0] rfl)
    · have hf := inn c5 hf
      refine lv_aload_n hx hb dX7_of_17 rfl (lv_at hl 0 rfl) ?_
      refine lv_iload_n hx hb dX7_of_18 rfl (lv_at hl 1 rfl) ?_
      refine lv_iload_n hx hb dX7_of_19 rfl (lv_at hl 2 rfl) ?_
      obtain ⟨r6, S6, h6, hf⟩ := bq2_some hf
      refine mcv_i (As := [.int x1, .int x2]) C0 I (kX7_ofBy h6) (cwV 2 C0.2.2.2.2 (gwV wd_776 wd_778 wd_32 wd_73 wd_779) rfl rfl rfl dsc_X7_ofBy ⟨Nat.le_of_ble_eq_true rfl, Nat.le_of_ble_eq_true rfl⟩) (mo_0 I) rfl hl.1 rfl (Nat.le_of_ble_eq_true rfl) dX7_of_20 (fun H locs I => ?_)
      refine lv_goto (tgt := 30) hx hb dX7_of_23 (by decide) ?_
      obtain ⟨rfl, rfl⟩ := se2 hf
      exact mri C0 hr hk I dX7_of_30
set_option maxRecDepth 100000 in
theorem kX7_of {x1 : Int32} {x2 : Int32} {rr : Int32} (hf : fX7_of S x1 x2 = some (rr, S')) : Met l yX7_of (Cond.code yX7_of cX7_of 3 (some .int) :: big) ({ frames := 4, cells := 0, slots := 0, locals := 95 } : Room) (va_Pc [.ref (g.2.2 0), .int x1, .int x2] (mB g S)) (va_Qi (fun r' S2 => r' = rr ∧ S2 = S') (mB g) (mA g)) 0 0 (mA g) := by
  refine Met.ofW (cc := cX7_of) (maxL := 3) (ret := (some .int)) (by decide) rfl ?_
  intro p e s m args below meth c s₁ B hml hv
  obtain ⟨rfl, hP, hK, hD⟩ := hv
  have hts0 := atoms_spec (ws := (Cond.code yX7_of cX7_of 3 (some .int) :: big)) B.pre
  have C0 : CallFix p m c cX7_of 3 s _ big RX7 := ⟨B.exec, B.bytes, hml, findClass_of_methodNamed B.named, fun w h => hts0 w (List.mem_cons_of_mem _ h)⟩
  have I : mI g s S s.heap [] := ⟨hK, hP, hD, va_S.rf⟩
  have hl := lv_entry ([.ref (g.2.2 0), .int x1, .int x2]) (n := 3) (Nat.le_of_ble_eq_true rfl)
  rw [lg_entry_eq]
  generalize (lg_sl ([.ref (g.2.2 0), .int x1, .int x2]) ++ List.replicate (3 - (lg_sl ([.ref (g.2.2 0), .int x1, .int x2])).length) Slot.unset).toArray = ls at hl ⊢
  have hl : lv_has ls 3 [(0, .ref (g.2.2 0)), (1, .int x1), (2, .int x2)] := hl
  exact tX7_of_0 C0 B.returns B.notSynchronized hf I (lv_sub hl [0, 1, 2] rfl)
set_option maxHeartbeats 4000000 in
set_option maxRecDepth 100000 in
theorem tX7_step_12 (C0 : CallFix p m c cX7_step 3 s args big RX7) (hr : meth.sig.returnType = (some .int)) (hk : meth.locks = false)  {rr : Int32}  (hf : fX7_step_12 S = some (rr, S')) (I : mI g s S H locs) (hl : lv_has ls 3 [(0, .ref (g.2.2 0))]) : W p l e ({ frames := 3, cells := 0, slots := 0, locals := 69 } : Room) s m args below meth c H locs 0 0 (MQ below (va_Qi (fun r' S2 => r' = rr ∧ S2 = S') (mB g) (mA g)) args s 0 0 (mA g)) (F0 m 12 ls []) := by
  obtain ⟨hx, hb, hml, -, -⟩ := id C0
  unfold fX7_step_12 at hf
  refine lv_aload_n hx hb dX7_step_12 rfl (lv_at hl 0 rfl) ?_
  obtain ⟨r3, S3, h3, hf⟩ := bq2_some hf
  refine mcv_i (As := []) C0 I (kX7_bad h3) (cwV 0 C0.2.2.2.2 (gwV wd_705 wd_707 wd_23 wd_73 wd_708) rfl rfl rfl dsc_X7_bad ⟨Nat.le_of_ble_eq_true rfl, Nat.le_of_ble_eq_true rfl⟩) (mo_0 I) rfl hl.1 rfl (Nat.le_of_ble_eq_true rfl) dX7_step_13 (fun H locs I => ?_)
  obtain ⟨rfl, rfl⟩ := se2 hf
  exact mri C0 hr hk I dX7_step_16
set_option maxHeartbeats 4000000 in
set_option maxRecDepth 100000 in
theorem tX7_step_0 (C0 : CallFix p m c cX7_step 3 s args big RX7) (hr : meth.sig.returnType = (some .int)) (hk : meth.locks = false) {x1 : Int32} {x2 : Int32} {rr : Int32}  (hf : fX7_step S x1 x2 = some (rr, S')) (I : mI g s S H locs) (hl : lv_has ls 3 [(0, .ref (g.2.2 0)), (1, .int x1), (2, .int x2)]) : W p l e ({ frames := 3, cells := 0, slots := 0, locals := 69 } : Room) s m args below meth c H locs 0 0 (MQ below (va_Qi (fun r' S2 => r' = rr ∧ S2 = S') (mB g) (mA g)) args s 0 0 (mA g)) (F0 m 0 ls []) := by
  obtain ⟨hx, hb, hml, -, -⟩ := id C0
  unfold fX7_step at hf
  refine lv_aload_n hx hb dX7_step_0 rfl (lv_at hl 0 rfl) ?_
  refine lv_iload_n hx hb dX7_step_1 rfl (lv_at hl 1 rfl) ?_
  obtain ⟨r1, h1, hf⟩ := bq1_some hf
  refine mcv_i (As := [.int x1]) C0 I (kX7_isParcel h1) (cwV 1 C0.2.2.2.2 (gwV wd_740 wd_742 wd_29 wd_73 wd_743) rfl rfl rfl dsc_X7_isParcel ⟨Nat.le_of_ble_eq_true rfl, Nat.le_of_ble_eq_true rfl⟩) (mo_0 I) rfl hl.1 rfl (Nat.le_of_ble_eq_true rfl) dX7_step_2 (fun H locs I => ?_)
  refine lv_if_eq (tgt := 12) hx hb dX7_step_5 (by decide) (fun c2 => ?_) (fun c2 => ?_)
  · have hf := ip c2 hf
    exact tX7_step_12 C0 hr hk hf I (lv_sub hl [0] rfl)
  · have hf := inn c2 hf
    refine lv_iload_n hx hb dX7_step_8 rfl (lv_at hl 2 rfl) ?_
    refine lv_if_ge (tgt := 17) hx hb dX7_step_9 (by decide) (fun c4 => ?_) (fun c4 => ?_)
    · have hf := ip c4 hf
      refine lv_aload_n hx hb dX7_step_17 rfl (lv_at hl 0 rfl) ?_
      obtain ⟨S5, h5, hf⟩ := bq1_some hf
      refine mcv_v (As := []) C0 I (kX7_setWays h5) (cwV 0 C0.2.2.2.2 (gwV wd_780 wd_782 wd_33 wd_73 wd_783) rfl rfl rfl dsc_X7_setWays ⟨Nat.le_of_ble_eq_true rfl, Nat.le_of_ble_eq_true rfl⟩) (mo_0 I) rfl hl.1 rfl (Nat.le_of_ble_eq_true rfl) dX7_step_18 (fun H locs I => ?_)
      refine lv_iload_n hx hb dX7_step_21 rfl (lv_at hl 2 rfl) ?_
      refine lv_aload_n hx hb dX7_step_22 rfl (lv_at hl 0 rfl) ?_
      refine mg_X7_35_0 C0 I dX7_step_23 ?_
      refine lv_iload_n hx hb dX7_step_26 rfl (lv_at hl 1 rfl) ?_
      obtain ⟨b6, hf⟩ := chk_some hf
      refine ml_8 hx hb I b6 dX7_step_27 ?_
      refine lv_icmp_gt (tgt := 45) hx hb dX7_step_28 (by decide) (fun c7 => ?_) (fun c7 => ?_)
      · have hf := ip c7 hf
        refine lv_bipush (v := -5) hx hb dX7_step_45 (by decide) ?_
        obtain ⟨rfl, rfl⟩ := se2 hf
        exact mri C0 hr hk I dX7_step_47
      · have hf := inn c7 hf
        refine lv_aload_n hx hb dX7_step_31 rfl (lv_at hl 0 rfl) ?_
        refine mg_X7_41_0 C0 I dX7_step_32 ?_
        refine lv_bipush (v := 9) hx hb dX7_step_35 (by decide) ?_
        refine lv_iload_n hx hb dX7_step_37 rfl (lv_at hl 1 rfl) ?_
        refine lv_imul hx hb dX7_step_38 ?_
        refine lv_iload_n hx hb dX7_step_39 rfl (lv_at hl 2 rfl) ?_
        refine lv_iadd hx hb dX7_step_40 ?_
        obtain ⟨b8, hf⟩ := chk_some hf
        refine ml_10 hx hb I b8 dX7_step_41 ?_
        refine lv_goto (tgt := 47) hx hb dX7_step_42 (by decide) ?_
        obtain ⟨rfl, rfl⟩ := se2 hf
        exact mri C0 hr hk I dX7_step_47
    · have hf := inn c4 hf
      exact tX7_step_12 C0 hr hk hf I (lv_sub hl [0] rfl)
set_option maxRecDepth 100000 in
theorem kX7_step {x1 : Int32} {x2 : Int32} {rr : Int32} (hf : fX7_step S x1 x2 = some (rr, S')) : Met l yX7_step (Cond.code yX7_step cX7_step 3 (some .int) :: big) ({ frames := 3, cells := 0, slots := 0, locals := 69 } : Room) (va_Pc [.ref (g.2.2 0), .int x1, .int x2] (mB g S)) (va_Qi (fun r' S2 => r' = rr ∧ S2 = S') (mB g) (mA g)) 0 0 (mA g) := by
  refine Met.ofW (cc := cX7_step) (maxL := 3) (ret := (some .int)) (by decide) rfl ?_
  intro p e s m args below meth c s₁ B hml hv
  obtain ⟨rfl, hP, hK, hD⟩ := hv
  have hts0 := atoms_spec (ws := (Cond.code yX7_step cX7_step 3 (some .int) :: big)) B.pre
  have C0 : CallFix p m c cX7_step 3 s _ big RX7 := ⟨B.exec, B.bytes, hml, findClass_of_methodNamed B.named, fun w h => hts0 w (List.mem_cons_of_mem _ h)⟩
  have I : mI g s S s.heap [] := ⟨hK, hP, hD, va_S.rf⟩
  have hl := lv_entry ([.ref (g.2.2 0), .int x1, .int x2]) (n := 3) (Nat.le_of_ble_eq_true rfl)
  rw [lg_entry_eq]
  generalize (lg_sl ([.ref (g.2.2 0), .int x1, .int x2]) ++ List.replicate (3 - (lg_sl ([.ref (g.2.2 0), .int x1, .int x2])).length) Slot.unset).toArray = ls at hl ⊢
  have hl : lv_has ls 3 [(0, .ref (g.2.2 0)), (1, .int x1), (2, .int x2)] := hl
  exact tX7_step_0 C0 B.returns B.notSynchronized hf I (lv_sub hl [0, 1, 2] rfl)
set_option maxHeartbeats 4000000 in
set_option maxRecDepth 100000 in
theorem tX7_isEdge_0 (C0 : CallFix p m c cX7_isEdge 3 s args big RX7) (hr : meth.sig.returnType = (some .boolean)) (hk : meth.locks = false) {x1 : Int32} {x2 : Int32} {rr : Int32}  (hf : fX7_isEdge S x1 x2 = some rr) (I : mI g s S H locs) (hl : lv_has ls 3 [(0, .ref (g.2.2 0)), (1, .int x1), (2, .int x2)]) : W p l e ({ frames := 2, cells := 0, slots := 0, locals := 43 } : Room) s m args below meth c H locs 0 0 (MQ below (va_Qi (fun r' S2 => r' = rr ∧ S2 = S) (mB g) (mA g)) args s 0 0 (mA g)) (F0 m 0 ls []) := by
  obtain ⟨hx, hb, hml, -, -⟩ := id C0
  unfold fX7_isEdge at hf
  refine lv_aload_n hx hb dX7_isEdge_0 rfl (lv_at hl 0 rfl) ?_
  refine lv_iload_n hx hb dX7_isEdge_1 rfl (lv_at hl 1 rfl) ?_
  obtain ⟨r1, h1, hf⟩ := bq1_some hf
  refine mcv_i (As := [.int x1]) C0 I (kX7_isCorner h1) (cwV 1 C0.2.2.2.2 (gwV wd_717 wd_719 wd_25 wd_73 wd_720) rfl rfl rfl dsc_X7_isCorner ⟨Nat.le_of_ble_eq_true rfl, Nat.le_of_ble_eq_true rfl⟩) (mo_0 I) rfl hl.1 rfl (Nat.le_of_ble_eq_true rfl) dX7_isEdge_2 (fun H locs I => ?_)
  refine lv_if_eq (tgt := 26) hx hb dX7_isEdge_5 (by decide) (fun c2 => ?_) (fun c2 => ?_)
  · have hf := ip c2 hf
    refine lv_iconst (v := 0) hx hb dX7_isEdge_26 (by decide) ?_
    obtain rfl := se1 hf
    exact mrz C0 hr hk rfl I dX7_isEdge_27
  · have hf := inn c2 hf
    refine lv_iload_n hx hb dX7_isEdge_8 rfl (lv_at hl 2 rfl) ?_
    refine lv_iconst (v := 0) hx hb dX7_isEdge_9 (by decide) ?_
    refine lv_aload_n hx hb dX7_isEdge_10 rfl (lv_at hl 0 rfl) ?_
    refine mg_X7_13_0 C0 I dX7_isEdge_11 ?_
    refine lv_iconst (v := 1) hx hb dX7_isEdge_14 (by decide) ?_
    refine lv_isub hx hb dX7_isEdge_15 ?_
    obtain ⟨r3, h3, hf⟩ := bq1_some hf
    refine mcs_i (As := [.int x2, .int (0 : Int32), .int ((gF S 1) - (1 : Int32))]) C0 I (kX7_in h3) (va_cwS 3 C0.2.2.2.2 (gwS wd_702 wd_703 wd_73 wd_704) rfl rfl rfl dsc_X7_in.2 ⟨Nat.le_of_ble_eq_true rfl, Nat.le_of_ble_eq_true rfl⟩) rfl hl.1 rfl (Nat.le_of_ble_eq_true rfl) dX7_isEdge_16 (fun H locs I => ?_)
    refine lv_if_eq (tgt := 26) hx hb dX7_isEdge_19 (by decide) (fun c4 => ?_) (fun c4 => ?_)
    · have hf := ip c4 hf
      refine lv_iconst (v := 0) hx hb dX7_isEdge_26 (by decide) ?_
      obtain rfl := se1 hf
      exact mrz C0 hr hk rfl I dX7_isEdge_27
    · have hf := inn c4 hf
      refine lv_iconst (v := 1) hx hb dX7_isEdge_22 (by decide) ?_
      refine lv_goto (tgt := 27) hx hb dX7_isEdge_23 (by decide) ?_
      obtain rfl := se1 hf
      exact mrz C0 hr hk rfl I dX7_isEdge_27
set_option maxRecDepth 100000 in
theorem kX7_isEdge {x1 : Int32} {x2 : Int32} {rr : Int32} (hf : fX7_isEdge S x1 x2 = some rr) : Met l yX7_isEdge (Cond.code yX7_isEdge cX7_isEdge 3 (some .boolean) :: big) ({ frames := 2, cells := 0, slots := 0, locals := 43 } : Room) (va_Pc [.ref (g.2.2 0), .int x1, .int x2] (mB g S)) (va_Qi (fun r' S2 => r' = rr ∧ S2 = S) (mB g) (mA g)) 0 0 (mA g) := by
  refine Met.ofW (cc := cX7_isEdge) (maxL := 3) (ret := (some .boolean)) (by decide) rfl ?_
  intro p e s m args below meth c s₁ B hml hv
  obtain ⟨rfl, hP, hK, hD⟩ := hv
  have hts0 := atoms_spec (ws := (Cond.code yX7_isEdge cX7_isEdge 3 (some .boolean) :: big)) B.pre
  have C0 : CallFix p m c cX7_isEdge 3 s _ big RX7 := ⟨B.exec, B.bytes, hml, findClass_of_methodNamed B.named, fun w h => hts0 w (List.mem_cons_of_mem _ h)⟩
  have I : mI g s S s.heap [] := ⟨hK, hP, hD, va_S.rf⟩
  have hl := lv_entry ([.ref (g.2.2 0), .int x1, .int x2]) (n := 3) (Nat.le_of_ble_eq_true rfl)
  rw [lg_entry_eq]
  generalize (lg_sl ([.ref (g.2.2 0), .int x1, .int x2]) ++ List.replicate (3 - (lg_sl ([.ref (g.2.2 0), .int x1, .int x2])).length) Slot.unset).toArray = ls at hl ⊢
  have hl : lv_has ls 3 [(0, .ref (g.2.2 0)), (1, .int x1), (2, .int x2)] := hl
  exact tX7_isEdge_0 C0 B.returns B.notSynchronized hf I (lv_sub hl [0, 1, 2] rfl)
set_option maxHeartbeats 4000000 in
set_option maxRecDepth 100000 in
theorem BX7_noLoads_2 (C0 : CallFix p m c cX7_noLoads 2 s args big RX7) (hr : meth.sig.returnType = none) (hk : meth.locks = false) {x1 : Int32} {b : Bool} {y1 : Int32} (Kt : b = true → ∀ (H : Heap) (locs : List Loc) (ls : Array Slot), mI g s S' H locs → lv_has ls 2 [(0, .ref (g.2.2 0)), (1, .int y1)] → W p l e ({ frames := 0, cells := 0, slots := 0, locals := 0 } : Room) s m args below meth c H locs 0 0 Q (F0 m 2 ls [])) (Kf : b = false → ∀ (H : Heap) (locs : List Loc) (ls : Array Slot), mI g s S' H locs → lv_has ls 2 [(0, .ref (g.2.2 0)), (1, .int y1)] → W p l e ({ frames := 0, cells := 0, slots := 0, locals := 0 } : Room) s m args below meth c H locs 0 0 Q (F0 m 21 ls [])) (hf : bX7_noLoads_2 S x1 = some (b, S', y1)) (I : mI g s S H locs) (hl : lv_has ls 2 [(0, .ref (g.2.2 0)), (1, .int x1)]) : W p l e ({ frames := 0, cells := 0, slots := 0, locals := 0 } : Room) s m args below meth c H locs 0 0 Q (F0 m 2 ls []) := by
  obtain ⟨hx, hb, hml, -, -⟩ := id C0
  unfold bX7_noLoads_2 at hf
  refine lv_iload_n hx hb dX7_noLoads_2 rfl (lv_at hl 1 rfl) ?_
  refine lv_bipush (v := 64) hx hb dX7_noLoads_3 (by decide) ?_
  refine lv_icmp_ge (tgt := 21) hx hb dX7_noLoads_5 (by decide) (fun c1 => ?_) (fun c1 => ?_)
  · have hf := ip c1 hf
    obtain ⟨rfl, rfl, rfl⟩ := se3 hf
    exact Kf rfl _ _ _ I (lv_sub hl [0, 1] rfl)
  · have hf := inn c1 hf
    refine lv_aload_n hx hb dX7_noLoads_8 rfl (lv_at hl 0 rfl) ?_
    refine mg_X7_44_0 C0 I dX7_noLoads_9 ?_
    refine lv_iload_n hx hb dX7_noLoads_12 rfl (lv_at hl 1 rfl) ?_
    refine lv_iconst (v := 0) hx hb dX7_noLoads_13 (by decide) ?_
    obtain ⟨b2, hf⟩ := chk_some hf
    refine ms_11 hx hb I b2 dX7_noLoads_14 (fun H locs I => ?_)
    refine lv_iinc (v := (x1 + (1 : Int32))) (lv' := [(1, .int (x1 + (1 : Int32))), (0, .ref (g.2.2 0))]) hx hb dX7_noLoads_15 hl (k := 1) rfl rfl (by decide) rfl (fun ls hl => ?_)
    refine lv_goto (tgt := 2) hx hb dX7_noLoads_18 (by decide) ?_
    obtain ⟨rfl, rfl, rfl⟩ := se3 hf
    exact Kt rfl _ _ _ I (lv_sub hl [1, 0] rfl)
set_option maxHeartbeats 4000000 in
theorem lX7_noLoads_2 (C0 : CallFix p m c cX7_noLoads 2 s args big RX7) (hr : meth.sig.returnType = none) (hk : meth.locks = false)  {S' : St} {y1 : Int32} : ∀ (n : Nat) {S : St} {x1 : Int32}, lp (fun q => bX7_noLoads_2 q.1 q.2) n (S, x1) = some (S', y1) → ∀ {H : Heap} {locs : List Loc}, mI g s S H locs → ∀ {ls : Array Slot}, lv_has ls 2 [(0, .ref (g.2.2 0)), (1, .int x1)] → (∀ (H : Heap) (locs : List Loc) (ls : Array Slot), mI g s S' H locs → lv_has ls 2 [(0, .ref (g.2.2 0)), (1, .int y1)] → W p l e ({ frames := 0, cells := 0, slots := 0, locals := 0 } : Room) s m args below meth c H locs 0 0 Q (F0 m 21 ls [])) → W p l e ({ frames := 0, cells := 0, slots := 0, locals := 0 } : Room) s m args below meth c H locs 0 0 Q (F0 m 2 ls []) := by
  intro n
  induction n with
  | zero => intro S x1 hf; cases hf
  | succ n ih =>
    intro S x1 hf H locs I ls hl K
    obtain ⟨b, ⟨z0, z1⟩, h1, h2, h3⟩ := lp_some hf
    refine BX7_noLoads_2 C0 hr hk (fun hb1 H locs ls I hl => ?_) (fun hb1 H locs ls I hl => ?_) h1 I hl
    · exact ih (h2 hb1) I hl K
    · have e := h3 hb1
      cases e
      exact K H locs ls I hl
set_option maxHeartbeats 4000000 in
set_option maxRecDepth 100000 in
theorem tX7_noLoads_0 (C0 : CallFix p m c cX7_noLoads 2 s args big RX7) (hr : meth.sig.returnType = none) (hk : meth.locks = false)   (hf : fX7_noLoads S = some S') (I : mI g s S H locs) (hl : lv_has ls 2 [(0, .ref (g.2.2 0))]) : W p l e ({ frames := 0, cells := 0, slots := 0, locals := 0 } : Room) s m args below meth c H locs 0 0 (MQ below (va_Qv (fun S2 => S2 = S') (mB g) (mA g)) args s 0 0 (mA g)) (F0 m 0 ls []) := by
  obtain ⟨hx, hb, hml, -, -⟩ := id C0
  unfold fX7_noLoads at hf
  refine lv_iconst (v := 0) hx hb dX7_noLoads_0 (by decide) ?_
  refine lv_istore_n (lv' := [(1, .int (0 : Int32)), (0, .ref (g.2.2 0))]) hx hb dX7_noLoads_1 rfl hl (by decide) rfl (fun ls hl => ?_)
  obtain ⟨S3, y1_3, h3, hf⟩ := bq2_some hf
  refine lX7_noLoads_2 C0 hr hk fu h3 I (lv_sub hl [1, 0] rfl) (fun H locs ls I hl => ?_)
  obtain rfl := se1 hf
  exact mrv C0 hr hk I dX7_noLoads_21
set_option maxRecDepth 100000 in
theorem kX7_noLoads   (hf : fX7_noLoads S  = some S') : Met l yX7_noLoads (Cond.code yX7_noLoads cX7_noLoads 2 none :: big) ({ frames := 0, cells := 0, slots := 0, locals := 0 } : Room) (va_Pc [.ref (g.2.2 0)] (mB g S)) (va_Qv (fun S2 => S2 = S') (mB g) (mA g)) 0 0 (mA g) := by
  refine Met.ofW (cc := cX7_noLoads) (maxL := 2) (ret := none) (by decide) rfl ?_
  intro p e s m args below meth c s₁ B hml hv
  obtain ⟨rfl, hP, hK, hD⟩ := hv
  have hts0 := atoms_spec (ws := (Cond.code yX7_noLoads cX7_noLoads 2 none :: big)) B.pre
  have C0 : CallFix p m c cX7_noLoads 2 s _ big RX7 := ⟨B.exec, B.bytes, hml, findClass_of_methodNamed B.named, fun w h => hts0 w (List.mem_cons_of_mem _ h)⟩
  have I : mI g s S s.heap [] := ⟨hK, hP, hD, va_S.rf⟩
  have hl := lv_entry ([.ref (g.2.2 0)]) (n := 2) (Nat.le_of_ble_eq_true rfl)
  rw [lg_entry_eq]
  generalize (lg_sl ([.ref (g.2.2 0)]) ++ List.replicate (2 - (lg_sl ([.ref (g.2.2 0)])).length) Slot.unset).toArray = ls at hl ⊢
  have hl : lv_has ls 2 [(0, .ref (g.2.2 0))] := hl
  exact tX7_noLoads_0 C0 B.returns B.notSynchronized hf I (lv_sub hl [0] rfl)
set_option maxHeartbeats 4000000 in
set_option maxRecDepth 100000 in
theorem BX7_loadsBy_2 (C0 : CallFix p m c cX7_loadsBy 4 s args big RX7) (hr : meth.sig.returnType = none) (hk : meth.locks = false) {x1 : Int32} {x2 : Int32} {x3 : Int32} {b : Bool} {y3 : Int32} (Kt : b = true → ∀ (H : Heap) (locs : List Loc) (ls : Array Slot), mI g s S' H locs → lv_has ls 4 [(0, .ref (g.2.2 0)), (1, .int x1), (2, .int x2), (3, .int y3)] → W p l e ({ frames := 1, cells := 0, slots := 0, locals := 24 } : Room) s m args below meth c H locs 0 0 Q (F0 m 2 ls [])) (Kf : b = false → ∀ (H : Heap) (locs : List Loc) (ls : Array Slot), mI g s S' H locs → lv_has ls 4 [(0, .ref (g.2.2 0)), (1, .int x1), (2, .int x2), (3, .int y3)] → W p l e ({ frames := 1, cells := 0, slots := 0, locals := 24 } : Room) s m args below meth c H locs 0 0 Q (F0 m 33 ls [])) (hf : bX7_loadsBy_2 x1 x2 S x3 = some (b, S', y3)) (I : mI g s S H locs) (hl : lv_has ls 4 [(0, .ref (g.2.2 0)), (1, .int x1), (2, .int x2), (3, .int x3)]) : W p l e ({ frames := 1, cells := 0, slots := 0, locals := 24 } : Room) s m args below meth c H locs 0 0 Q (F0 m 2 ls []) := by
  obtain ⟨hx, hb, hml, -, -⟩ := id C0
  unfold bX7_loadsBy_2 at hf
  refine lv_iload_n hx hb dX7_loadsBy_2 rfl (lv_at hl 3 rfl) ?_
  refine lv_aload_n hx hb dX7_loadsBy_3 rfl (lv_at hl 0 rfl) ?_
  refine mg_X7_35_0 C0 I dX7_loadsBy_4 ?_
  refine lv_iload_n hx hb dX7_loadsBy_7 rfl (lv_at hl 1 rfl) ?_
  obtain ⟨b1, hf⟩ := chk_some hf
  refine ml_8 hx hb I b1 dX7_loadsBy_8 ?_
  refine lv_icmp_ge (tgt := 33) hx hb dX7_loadsBy_9 (by decide) (fun c2 => ?_) (fun c2 => ?_)
  · have hf := ip c2 hf
    obtain ⟨rfl, rfl, rfl⟩ := se3 hf
    exact Kf rfl _ _ _ I (lv_sub hl [0, 1, 2, 3] rfl)
  · have hf := inn c2 hf
    refine lv_aload_n hx hb dX7_loadsBy_12 rfl (lv_at hl 0 rfl) ?_
    refine mg_X7_44_0 C0 I dX7_loadsBy_13 ?_
    refine lv_aload_n hx hb dX7_loadsBy_16 rfl (lv_at hl 0 rfl) ?_
    refine lv_iload_n hx hb dX7_loadsBy_17 rfl (lv_at hl 1 rfl) ?_
    refine lv_iload_n hx hb dX7_loadsBy_18 rfl (lv_at hl 3 rfl) ?_
    obtain ⟨r3, h3, hf⟩ := bq1_some hf
    refine mcv_i (As := [.int x1, .int x3]) C0 I (kX7_edgeOf h3) (cwV 2 C0.2.2.2.2 (gwV wd_796 wd_798 wd_37 wd_73 wd_799) rfl rfl rfl dsc_X7_edgeOf ⟨Nat.le_of_ble_eq_true rfl, Nat.le_of_ble_eq_true rfl⟩) (mo_0 I) rfl hl.1 rfl (Nat.le_of_ble_eq_true rfl) dX7_loadsBy_19 (fun H locs I => ?_)
    refine lv_dup2_11 hx hb dX7_loadsBy_22 rfl rfl ?_
    obtain ⟨b4, hf⟩ := chk_some hf
    refine ml_11 hx hb I b4 dX7_loadsBy_23 ?_
    refine lv_iload_n hx hb dX7_loadsBy_24 rfl (lv_at hl 2 rfl) ?_
    refine lv_iadd hx hb dX7_loadsBy_25 ?_
    obtain ⟨b5, hf⟩ := chk_some hf
    refine ms_11 hx hb I b5 dX7_loadsBy_26 (fun H locs I => ?_)
    refine lv_iinc (v := (x3 + (1 : Int32))) (lv' := [(3, .int (x3 + (1 : Int32))), (0, .ref (g.2.2 0)), (1, .int x1), (2, .int x2)]) hx hb dX7_loadsBy_27 hl (k := 3) rfl rfl (by decide) rfl (fun ls hl => ?_)
    refine lv_goto (tgt := 2) hx hb dX7_loadsBy_30 (by decide) ?_
    obtain ⟨rfl, rfl, rfl⟩ := se3 hf
    exact Kt rfl _ _ _ I (lv_sub hl [1, 2, 3, 0] rfl)
set_option maxHeartbeats 4000000 in
theorem lX7_loadsBy_2 (C0 : CallFix p m c cX7_loadsBy 4 s args big RX7) (hr : meth.sig.returnType = none) (hk : meth.locks = false) {x1 : Int32} {x2 : Int32} {S' : St} {y3 : Int32} : ∀ (n : Nat) {S : St} {x3 : Int32}, lp (fun q => bX7_loadsBy_2 x1 x2 q.1 q.2) n (S, x3) = some (S', y3) → ∀ {H : Heap} {locs : List Loc}, mI g s S H locs → ∀ {ls : Array Slot}, lv_has ls 4 [(0, .ref (g.2.2 0)), (1, .int x1), (2, .int x2), (3, .int x3)] → (∀ (H : Heap) (locs : List Loc) (ls : Array Slot), mI g s S' H locs → lv_has ls 4 [(0, .ref (g.2.2 0)), (1, .int x1), (2, .int x2), (3, .int y3)] → W p l e ({ frames := 1, cells := 0, slots := 0, locals := 24 } : Room) s m args below meth c H locs 0 0 Q (F0 m 33 ls [])) → W p l e ({ frames := 1, cells := 0, slots := 0, locals := 24 } : Room) s m args below meth c H locs 0 0 Q (F0 m 2 ls []) := by
  intro n
  induction n with
  | zero => intro S x3 hf; cases hf
  | succ n ih =>
    intro S x3 hf H locs I ls hl K
    obtain ⟨b, ⟨z0, z1⟩, h1, h2, h3⟩ := lp_some hf
    refine BX7_loadsBy_2 C0 hr hk (fun hb1 H locs ls I hl => ?_) (fun hb1 H locs ls I hl => ?_) h1 I hl
    · exact ih (h2 hb1) I hl K
    · have e := h3 hb1
      cases e
      exact K H locs ls I hl
set_option maxHeartbeats 4000000 in
set_option maxRecDepth 100000 in
theorem tX7_loadsBy_0 (C0 : CallFix p m c cX7_loadsBy 4 s args big RX7) (hr : meth.sig.returnType = none) (hk : meth.locks = false) {x1 : Int32} {x2 : Int32}  (hf : fX7_loadsBy S x1 x2 = some S') (I : mI g s S H locs) (hl : lv_has ls 4 [(0, .ref (g.2.2 0)), (1, .int x1), (2, .int x2)]) : W p l e ({ frames := 1, cells := 0, slots := 0, locals := 24 } : Room) s m args below meth c H locs 0 0 (MQ below (va_Qv (fun S2 => S2 = S') (mB g) (mA g)) args s 0 0 (mA g)) (F0 m 0 ls []) := by
  obtain ⟨hx, hb, hml, -, -⟩ := id C0
  unfold fX7_loadsBy at hf
  refine lv_iconst (v := 0) hx hb dX7_loadsBy_0 (by decide) ?_
  refine lv_istore_n (lv' := [(3, .int (0 : Int32)), (0, .ref (g.2.2 0)), (1, .int x1), (2, .int x2)]) hx hb dX7_loadsBy_1 rfl hl (by decide) rfl (fun ls hl => ?_)
  obtain ⟨S6, y3_6, h6, hf⟩ := bq2_some hf
  refine lX7_loadsBy_2 C0 hr hk fu h6 I (lv_sub hl [1, 2, 3, 0] rfl) (fun H locs ls I hl => ?_)
  obtain rfl := se1 hf
  exact mrv C0 hr hk I dX7_loadsBy_33
set_option maxRecDepth 100000 in
theorem kX7_loadsBy {x1 : Int32} {x2 : Int32}  (hf : fX7_loadsBy S x1 x2 = some S') : Met l yX7_loadsBy (Cond.code yX7_loadsBy cX7_loadsBy 4 none :: big) ({ frames := 1, cells := 0, slots := 0, locals := 24 } : Room) (va_Pc [.ref (g.2.2 0), .int x1, .int x2] (mB g S)) (va_Qv (fun S2 => S2 = S') (mB g) (mA g)) 0 0 (mA g) := by
  refine Met.ofW (cc := cX7_loadsBy) (maxL := 4) (ret := none) (by decide) rfl ?_
  intro p e s m args below meth c s₁ B hml hv
  obtain ⟨rfl, hP, hK, hD⟩ := hv
  have hts0 := atoms_spec (ws := (Cond.code yX7_loadsBy cX7_loadsBy 4 none :: big)) B.pre
  have C0 : CallFix p m c cX7_loadsBy 4 s _ big RX7 := ⟨B.exec, B.bytes, hml, findClass_of_methodNamed B.named, fun w h => hts0 w (List.mem_cons_of_mem _ h)⟩
  have I : mI g s S s.heap [] := ⟨hK, hP, hD, va_S.rf⟩
  have hl := lv_entry ([.ref (g.2.2 0), .int x1, .int x2]) (n := 4) (Nat.le_of_ble_eq_true rfl)
  rw [lg_entry_eq]
  generalize (lg_sl ([.ref (g.2.2 0), .int x1, .int x2]) ++ List.replicate (4 - (lg_sl ([.ref (g.2.2 0), .int x1, .int x2])).length) Slot.unset).toArray = ls at hl ⊢
  have hl : lv_has ls 4 [(0, .ref (g.2.2 0)), (1, .int x1), (2, .int x2)] := hl
  exact tX7_loadsBy_0 C0 B.returns B.notSynchronized hf I (lv_sub hl [0, 1, 2] rfl)
set_option maxHeartbeats 4000000 in
set_option maxRecDepth 100000 in
theorem BX7_setLoads_10 (C0 : CallFix p m c cX7_setLoads 2 s args big RX7) (hr : meth.sig.returnType = none) (hk : meth.locks = false) {x1 : Int32} {b : Bool} {y1 : Int32} (Kt : b = true → ∀ (H : Heap) (locs : List Loc) (ls : Array Slot), mI g s S' H locs → lv_has ls 2 [(0, .ref (g.2.2 0)), (1, .int y1)] → W p l e ({ frames := 3, cells := 0, slots := 0, locals := 69 } : Room) s m args below meth c H locs 0 0 Q (F0 m 10 ls [])) (Kf : b = false → ∀ (H : Heap) (locs : List Loc) (ls : Array Slot), mI g s S' H locs → lv_has ls 2 [(0, .ref (g.2.2 0)), (1, .int y1)] → W p l e ({ frames := 3, cells := 0, slots := 0, locals := 69 } : Room) s m args below meth c H locs 0 0 Q (F0 m 30 ls [])) (hf : bX7_setLoads_10 S x1 = some (b, S', y1)) (I : mI g s S H locs) (hl : lv_has ls 2 [(0, .ref (g.2.2 0)), (1, .int x1)]) : W p l e ({ frames := 3, cells := 0, slots := 0, locals := 69 } : Room) s m args below meth c H locs 0 0 Q (F0 m 10 ls []) := by
  obtain ⟨hx, hb, hml, -, -⟩ := id C0
  unfold bX7_setLoads_10 at hf
  refine lv_iload_n hx hb dX7_setLoads_10 rfl (lv_at hl 1 rfl) ?_
  refine lv_aload_n hx hb dX7_setLoads_11 rfl (lv_at hl 0 rfl) ?_
  refine mg_X7_76_0 C0 I dX7_setLoads_12 ?_
  refine lv_icmp_ge (tgt := 30) hx hb dX7_setLoads_15 (by decide) (fun c3 => ?_) (fun c3 => ?_)
  · have hf := ip c3 hf
    obtain ⟨rfl, rfl, rfl⟩ := se3 hf
    exact Kf rfl _ _ _ I (lv_sub hl [0, 1] rfl)
  · have hf := inn c3 hf
    refine lv_aload_n hx hb dX7_setLoads_18 rfl (lv_at hl 0 rfl) ?_
    refine lv_iload_n hx hb dX7_setLoads_19 rfl (lv_at hl 1 rfl) ?_
    refine lv_iconst (v := 1) hx hb dX7_setLoads_20 (by decide) ?_
    obtain ⟨S4, h4, hf⟩ := bq1_some hf
    refine mcv_v (As := [.int x1, .int (1 : Int32)]) C0 I (kX7_loadsBy h4) (cwV 2 C0.2.2.2.2 (gwV wd_824 wd_826 wd_42 wd_73 wd_827) rfl rfl rfl dsc_X7_loadsBy ⟨Nat.le_of_ble_eq_true rfl, Nat.le_of_ble_eq_true rfl⟩) (mo_0 I) rfl hl.1 rfl (Nat.le_of_ble_eq_true rfl) dX7_setLoads_21 (fun H locs I => ?_)
    refine lv_iinc (v := (x1 + (1 : Int32))) (lv' := [(1, .int (x1 + (1 : Int32))), (0, .ref (g.2.2 0))]) hx hb dX7_setLoads_24 hl (k := 1) rfl rfl (by decide) rfl (fun ls hl => ?_)
    refine lv_goto (tgt := 10) hx hb dX7_setLoads_27 (by decide) ?_
    obtain ⟨rfl, rfl, rfl⟩ := se3 hf
    exact Kt rfl _ _ _ I (lv_sub hl [1, 0] rfl)
set_option maxHeartbeats 4000000 in
theorem lX7_setLoads_10 (C0 : CallFix p m c cX7_setLoads 2 s args big RX7) (hr : meth.sig.returnType = none) (hk : meth.locks = false)  {S' : St} {y1 : Int32} : ∀ (n : Nat) {S : St} {x1 : Int32}, lp (fun q => bX7_setLoads_10 q.1 q.2) n (S, x1) = some (S', y1) → ∀ {H : Heap} {locs : List Loc}, mI g s S H locs → ∀ {ls : Array Slot}, lv_has ls 2 [(0, .ref (g.2.2 0)), (1, .int x1)] → (∀ (H : Heap) (locs : List Loc) (ls : Array Slot), mI g s S' H locs → lv_has ls 2 [(0, .ref (g.2.2 0)), (1, .int y1)] → W p l e ({ frames := 3, cells := 0, slots := 0, locals := 69 } : Room) s m args below meth c H locs 0 0 Q (F0 m 30 ls [])) → W p l e ({ frames := 3, cells := 0, slots := 0, locals := 69 } : Room) s m args below meth c H locs 0 0 Q (F0 m 10 ls []) := by
  intro n
  induction n with
  | zero => intro S x1 hf; cases hf
  | succ n ih =>
    intro S x1 hf H locs I ls hl K
    obtain ⟨b, ⟨z0, z1⟩, h1, h2, h3⟩ := lp_some hf
    refine BX7_setLoads_10 C0 hr hk (fun hb1 H locs ls I hl => ?_) (fun hb1 H locs ls I hl => ?_) h1 I hl
    · exact ih (h2 hb1) I hl K
    · have e := h3 hb1
      cases e
      exact K H locs ls I hl
set_option maxHeartbeats 4000000 in
set_option maxRecDepth 100000 in
theorem tX7_setLoads_0 (C0 : CallFix p m c cX7_setLoads 2 s args big RX7) (hr : meth.sig.returnType = none) (hk : meth.locks = false)   (hf : fX7_setLoads S = some S') (I : mI g s S H locs) (hl : lv_has ls 2 [(0, .ref (g.2.2 0))]) : W p l e ({ frames := 3, cells := 0, slots := 0, locals := 69 } : Room) s m args below meth c H locs 0 0 (MQ below (va_Qv (fun S2 => S2 = S') (mB g) (mA g)) args s 0 0 (mA g)) (F0 m 0 ls []) := by
  obtain ⟨hx, hb, hml, -, -⟩ := id C0
  unfold fX7_setLoads at hf
  refine lv_aload_n hx hb dX7_setLoads_0 rfl (lv_at hl 0 rfl) ?_
  obtain ⟨S1, h1, hf⟩ := bq1_some hf
  refine mcv_v (As := []) C0 I (kX7_setWays h1) (cwV 0 C0.2.2.2.2 (gwV wd_780 wd_782 wd_33 wd_73 wd_783) rfl rfl rfl dsc_X7_setWays ⟨Nat.le_of_ble_eq_true rfl, Nat.le_of_ble_eq_true rfl⟩) (mo_0 I) rfl hl.1 rfl (Nat.le_of_ble_eq_true rfl) dX7_setLoads_1 (fun H locs I => ?_)
  refine lv_aload_n hx hb dX7_setLoads_4 rfl (lv_at hl 0 rfl) ?_
  obtain ⟨S2, h2, hf⟩ := bq1_some hf
  refine mcv_v (As := []) C0 I (kX7_noLoads h2) (cwV 0 C0.2.2.2.2 (gwV wd_820 wd_822 wd_41 wd_73 wd_823) rfl rfl rfl dsc_X7_noLoads ⟨Nat.le_of_ble_eq_true rfl, Nat.le_of_ble_eq_true rfl⟩) (mo_0 I) rfl hl.1 rfl (Nat.le_of_ble_eq_true rfl) dX7_setLoads_5 (fun H locs I => ?_)
  refine lv_iconst (v := 0) hx hb dX7_setLoads_8 (by decide) ?_
  refine lv_istore_n (lv' := [(1, .int (0 : Int32)), (0, .ref (g.2.2 0))]) hx hb dX7_setLoads_9 rfl hl (by decide) rfl (fun ls hl => ?_)
  obtain ⟨S5, y1_5, h5, hf⟩ := bq2_some hf
  refine lX7_setLoads_10 C0 hr hk fu h5 I (lv_sub hl [1, 0] rfl) (fun H locs ls I hl => ?_)
  obtain rfl := se1 hf
  exact mrv C0 hr hk I dX7_setLoads_30
set_option maxRecDepth 100000 in
theorem kX7_setLoads   (hf : fX7_setLoads S  = some S') : Met l yX7_setLoads (Cond.code yX7_setLoads cX7_setLoads 2 none :: big) ({ frames := 3, cells := 0, slots := 0, locals := 69 } : Room) (va_Pc [.ref (g.2.2 0)] (mB g S)) (va_Qv (fun S2 => S2 = S') (mB g) (mA g)) 0 0 (mA g) := by
  refine Met.ofW (cc := cX7_setLoads) (maxL := 2) (ret := none) (by decide) rfl ?_
  intro p e s m args below meth c s₁ B hml hv
  obtain ⟨rfl, hP, hK, hD⟩ := hv
  have hts0 := atoms_spec (ws := (Cond.code yX7_setLoads cX7_setLoads 2 none :: big)) B.pre
  have C0 : CallFix p m c cX7_setLoads 2 s _ big RX7 := ⟨B.exec, B.bytes, hml, findClass_of_methodNamed B.named, fun w h => hts0 w (List.mem_cons_of_mem _ h)⟩
  have I : mI g s S s.heap [] := ⟨hK, hP, hD, va_S.rf⟩
  have hl := lv_entry ([.ref (g.2.2 0)]) (n := 2) (Nat.le_of_ble_eq_true rfl)
  rw [lg_entry_eq]
  generalize (lg_sl ([.ref (g.2.2 0)]) ++ List.replicate (2 - (lg_sl ([.ref (g.2.2 0)])).length) Slot.unset).toArray = ls at hl ⊢
  have hl : lv_has ls 2 [(0, .ref (g.2.2 0))] := hl
  exact tX7_setLoads_0 C0 B.returns B.notSynchronized hf I (lv_sub hl [0] rfl)
set_option maxHeartbeats 4000000 in
set_option maxRecDepth 100000 in
theorem tX7_load_0 (C0 : CallFix p m c cX7_load 3 s args big RX7) (hr : meth.sig.returnType = (some .int)) (hk : meth.locks = false) {x1 : Int32} {x2 : Int32} {rr : Int32}  (hf : fX7_load S x1 x2 = some (rr, S')) (I : mI g s S H locs) (hl : lv_has ls 3 [(0, .ref (g.2.2 0)), (1, .int x1), (2, .int x2)]) : W p l e ({ frames := 4, cells := 0, slots := 0, locals := 90 } : Room) s m args below meth c H locs 0 0 (MQ below (va_Qi (fun r' S2 => r' = rr ∧ S2 = S') (mB g) (mA g)) args s 0 0 (mA g)) (F0 m 0 ls []) := by
  obtain ⟨hx, hb, hml, -, -⟩ := id C0
  unfold fX7_load at hf
  refine lv_aload_n hx hb dX7_load_0 rfl (lv_at hl 0 rfl) ?_
  refine lv_iload_n hx hb dX7_load_1 rfl (lv_at hl 1 rfl) ?_
  refine lv_iload_n hx hb dX7_load_2 rfl (lv_at hl 2 rfl) ?_
  obtain ⟨r1, h1, hf⟩ := bq1_some hf
  refine mcv_i (As := [.int x1, .int x2]) C0 I (kX7_isEdge h1) (cwV 2 C0.2.2.2.2 (gwV wd_812 wd_814 wd_39 wd_73 wd_815) rfl rfl rfl dsc_X7_isEdge ⟨Nat.le_of_ble_eq_true rfl, Nat.le_of_ble_eq_true rfl⟩) (mo_0 I) rfl hl.1 rfl (Nat.le_of_ble_eq_true rfl) dX7_load_3 (fun H locs I => ?_)
  refine lv_if_ne (tgt := 14) hx hb dX7_load_6 (by decide) (fun c2 => ?_) (fun c2 => ?_)
  · have hf := inn c2 hf
    refine lv_aload_n hx hb dX7_load_14 rfl (lv_at hl 0 rfl) ?_
    obtain ⟨S3, h3, hf⟩ := bq1_some hf
    refine mcv_v (As := []) C0 I (kX7_setLoads h3) (cwV 0 C0.2.2.2.2 (gwV wd_816 wd_818 wd_40 wd_73 wd_819) rfl rfl rfl dsc_X7_setLoads ⟨Nat.le_of_ble_eq_true rfl, Nat.le_of_ble_eq_true rfl⟩) (mo_0 I) rfl hl.1 rfl (Nat.le_of_ble_eq_true rfl) dX7_load_15 (fun H locs I => ?_)
    refine lv_aload_n hx hb dX7_load_18 rfl (lv_at hl 0 rfl) ?_
    refine mg_X7_44_0 C0 I dX7_load_19 ?_
    refine lv_iconst (v := 4) hx hb dX7_load_22 (by decide) ?_
    refine lv_iload_n hx hb dX7_load_23 rfl (lv_at hl 1 rfl) ?_
    refine lv_imul hx hb dX7_load_24 ?_
    refine lv_iload_n hx hb dX7_load_25 rfl (lv_at hl 2 rfl) ?_
    refine lv_iadd hx hb dX7_load_26 ?_
    obtain ⟨b4, hf⟩ := chk_some hf
    refine ml_11 hx hb I b4 dX7_load_27 ?_
    obtain ⟨rfl, rfl⟩ := se2 hf
    exact mri C0 hr hk I dX7_load_28
  · have hf := ip c2 hf
    refine lv_aload_n hx hb dX7_load_9 rfl (lv_at hl 0 rfl) ?_
    obtain ⟨r5, S5, h5, hf⟩ := bq2_some hf
    refine mcv_i (As := []) C0 I (kX7_bad h5) (cwV 0 C0.2.2.2.2 (gwV wd_705 wd_707 wd_23 wd_73 wd_708) rfl rfl rfl dsc_X7_bad ⟨Nat.le_of_ble_eq_true rfl, Nat.le_of_ble_eq_true rfl⟩) (mo_0 I) rfl hl.1 rfl (Nat.le_of_ble_eq_true rfl) dX7_load_10 (fun H locs I => ?_)
    obtain ⟨rfl, rfl⟩ := se2 hf
    exact mri C0 hr hk I dX7_load_13
set_option maxRecDepth 100000 in
theorem kX7_load {x1 : Int32} {x2 : Int32} {rr : Int32} (hf : fX7_load S x1 x2 = some (rr, S')) : Met l yX7_load (Cond.code yX7_load cX7_load 3 (some .int) :: big) ({ frames := 4, cells := 0, slots := 0, locals := 90 } : Room) (va_Pc [.ref (g.2.2 0), .int x1, .int x2] (mB g S)) (va_Qi (fun r' S2 => r' = rr ∧ S2 = S') (mB g) (mA g)) 0 0 (mA g) := by
  refine Met.ofW (cc := cX7_load) (maxL := 3) (ret := (some .int)) (by decide) rfl ?_
  intro p e s m args below meth c s₁ B hml hv
  obtain ⟨rfl, hP, hK, hD⟩ := hv
  have hts0 := atoms_spec (ws := (Cond.code yX7_load cX7_load 3 (some .int) :: big)) B.pre
  have C0 : CallFix p m c cX7_load 3 s _ big RX7 := ⟨B.exec, B.bytes, hml, findClass_of_methodNamed B.named, fun w h => hts0 w (List.mem_cons_of_mem _ h)⟩
  have I : mI g s S s.heap [] := ⟨hK, hP, hD, va_S.rf⟩
  have hl := lv_entry ([.ref (g.2.2 0), .int x1, .int x2]) (n := 3) (Nat.le_of_ble_eq_true rfl)
  rw [lg_entry_eq]
  generalize (lg_sl ([.ref (g.2.2 0), .int x1, .int x2]) ++ List.replicate (3 - (lg_sl ([.ref (g.2.2 0), .int x1, .int x2])).length) Slot.unset).toArray = ls at hl ⊢
  have hl : lv_has ls 3 [(0, .ref (g.2.2 0)), (1, .int x1), (2, .int x2)] := hl
  exact tX7_load_0 C0 B.returns B.notSynchronized hf I (lv_sub hl [0, 1, 2] rfl)
set_option maxHeartbeats 4000000 in
set_option maxRecDepth 100000 in
theorem BX7_most_4 (C0 : CallFix p m c cX7_most 3 s args big RX7) (hr : meth.sig.returnType = (some .int)) (hk : meth.locks = false) {x1 : Int32} {x2 : Int32} {b : Bool} {y1 : Int32} {y2 : Int32} (Kt : b = true → ∀ (H : Heap) (locs : List Loc) (ls : Array Slot), mI g s S H locs → lv_has ls 3 [(0, .ref (g.2.2 0)), (1, .int y1), (2, .int y2)] → W p l e ({ frames := 0, cells := 0, slots := 0, locals := 0 } : Room) s m args below meth c H locs 0 0 Q (F0 m 4 ls [])) (Kf : b = false → ∀ (H : Heap) (locs : List Loc) (ls : Array Slot), mI g s S H locs → lv_has ls 3 [(0, .ref (g.2.2 0)), (1, .int y1), (2, .int y2)] → W p l e ({ frames := 0, cells := 0, slots := 0, locals := 0 } : Room) s m args below meth c H locs 0 0 Q (F0 m 37 ls [])) (hf : bX7_most_4 S x1 x2 = some (b, y1, y2)) (I : mI g s S H locs) (hl : lv_has ls 3 [(0, .ref (g.2.2 0)), (1, .int x1), (2, .int x2)]) : W p l e ({ frames := 0, cells := 0, slots := 0, locals := 0 } : Room) s m args below meth c H locs 0 0 Q (F0 m 4 ls []) := by
  obtain ⟨hx, hb, hml, -, -⟩ := id C0
  unfold bX7_most_4 at hf
  refine lv_iload_n hx hb dX7_most_4 rfl (lv_at hl 2 rfl) ?_
  refine lv_bipush (v := 64) hx hb dX7_most_5 (by decide) ?_
  refine lv_icmp_ge (tgt := 37) hx hb dX7_most_7 (by decide) (fun c1 => ?_) (fun c1 => ?_)
  · have hf := ip c1 hf
    obtain ⟨rfl, rfl, rfl⟩ := se3 hf
    exact Kf rfl _ _ _ I (lv_sub hl [0, 1, 2] rfl)
  · have hf := inn c1 hf
    refine lv_aload_n hx hb dX7_most_10 rfl (lv_at hl 0 rfl) ?_
    refine mg_X7_44_0 C0 I dX7_most_11 ?_
    refine lv_iload_n hx hb dX7_most_14 rfl (lv_at hl 2 rfl) ?_
    obtain ⟨b2, hf⟩ := chk_some hf
    refine ml_11 hx hb I b2 dX7_most_15 ?_
    refine lv_iload_n hx hb dX7_most_16 rfl (lv_at hl 1 rfl) ?_
    refine lv_icmp_le (tgt := 29) hx hb dX7_most_17 (by decide) (fun c3 => ?_) (fun c3 => ?_)
    · have hf := ip c3 hf
      refine lv_iload_n hx hb dX7_most_29 rfl (lv_at hl 1 rfl) ?_
      refine lv_istore_n (lv' := [(1, .int x1), (0, .ref (g.2.2 0)), (2, .int x2)]) hx hb dX7_most_30 rfl hl (by decide) rfl (fun ls hl => ?_)
      refine lv_iinc (v := (x2 + (1 : Int32))) (lv' := [(2, .int (x2 + (1 : Int32))), (1, .int x1), (0, .ref (g.2.2 0))]) hx hb dX7_most_31 hl (k := 2) rfl rfl (by decide) rfl (fun ls hl => ?_)
      refine lv_goto (tgt := 4) hx hb dX7_most_34 (by decide) ?_
      obtain ⟨rfl, rfl, rfl⟩ := se3 hf
      exact Kt rfl _ _ _ I (lv_sub hl [2, 1, 0] rfl)
    · have hf := inn c3 hf
      refine lv_aload_n hx hb dX7_most_20 rfl (lv_at hl 0 rfl) ?_
      refine mg_X7_44_0 C0 I dX7_most_21 ?_
      refine lv_iload_n hx hb dX7_most_24 rfl (lv_at hl 2 rfl) ?_
      obtain ⟨b4, hf⟩ := chk_some hf
      refine ml_11 hx hb I b4 dX7_most_25 ?_
      refine lv_goto (tgt := 30) hx hb dX7_most_26 (by decide) ?_
      refine lv_istore_n (lv' := [(1, .int (gR S 10 x2)), (0, .ref (g.2.2 0)), (2, .int x2)]) hx hb dX7_most_30 rfl hl (by decide) rfl (fun ls hl => ?_)
      refine lv_iinc (v := (x2 + (1 : Int32))) (lv' := [(2, .int (x2 + (1 : Int32))), (1, .int (gR S 10 x2)), (0, .ref (g.2.2 0))]) hx hb dX7_most_31 hl (k := 2) rfl rfl (by decide) rfl (fun ls hl => ?_)
      refine lv_goto (tgt := 4) hx hb dX7_most_34 (by decide) ?_
      obtain ⟨rfl, rfl, rfl⟩ := se3 hf
      exact Kt rfl _ _ _ I (lv_sub hl [2, 1, 0] rfl)
set_option maxHeartbeats 4000000 in
theorem lX7_most_4 (C0 : CallFix p m c cX7_most 3 s args big RX7) (hr : meth.sig.returnType = (some .int)) (hk : meth.locks = false) {S : St}  {y1 : Int32} {y2 : Int32} : ∀ (n : Nat) {x1 : Int32} {x2 : Int32}, lp (fun q => bX7_most_4 S q.1 q.2) n (x1, x2) = some (y1, y2) → ∀ {H : Heap} {locs : List Loc}, mI g s S H locs → ∀ {ls : Array Slot}, lv_has ls 3 [(0, .ref (g.2.2 0)), (1, .int x1), (2, .int x2)] → (∀ (H : Heap) (locs : List Loc) (ls : Array Slot), mI g s S H locs → lv_has ls 3 [(0, .ref (g.2.2 0)), (1, .int y1), (2, .int y2)] → W p l e ({ frames := 0, cells := 0, slots := 0, locals := 0 } : Room) s m args below meth c H locs 0 0 Q (F0 m 37 ls [])) → W p l e ({ frames := 0, cells := 0, slots := 0, locals := 0 } : Room) s m args below meth c H locs 0 0 Q (F0 m 4 ls []) := by
  intro n
  induction n with
  | zero => intro x1 x2 hf; cases hf
  | succ n ih =>
    intro x1 x2 hf H locs I ls hl K
    obtain ⟨b, ⟨z0, z1⟩, h1, h2, h3⟩ := lp_some hf
    refine BX7_most_4 C0 hr hk (fun hb1 H locs ls I hl => ?_) (fun hb1 H locs ls I hl => ?_) h1 I hl
    · exact ih (h2 hb1) I hl K
    · have e := h3 hb1
      cases e
      exact K H locs ls I hl
set_option maxHeartbeats 4000000 in
set_option maxRecDepth 100000 in
theorem tX7_most_0 (C0 : CallFix p m c cX7_most 3 s args big RX7) (hr : meth.sig.returnType = (some .int)) (hk : meth.locks = false)  {rr : Int32}  (hf : fX7_most S = some rr) (I : mI g s S H locs) (hl : lv_has ls 3 [(0, .ref (g.2.2 0))]) : W p l e ({ frames := 0, cells := 0, slots := 0, locals := 0 } : Room) s m args below meth c H locs 0 0 (MQ below (va_Qi (fun r' S2 => r' = rr ∧ S2 = S) (mB g) (mA g)) args s 0 0 (mA g)) (F0 m 0 ls []) := by
  obtain ⟨hx, hb, hml, -, -⟩ := id C0
  unfold fX7_most at hf
  refine lv_iconst (v := 0) hx hb dX7_most_0 (by decide) ?_
  refine lv_istore_n (lv' := [(1, .int (0 : Int32)), (0, .ref (g.2.2 0))]) hx hb dX7_most_1 rfl hl (by decide) rfl (fun ls hl => ?_)
  refine lv_iconst (v := 0) hx hb dX7_most_2 (by decide) ?_
  refine lv_istore_n (lv' := [(2, .int (0 : Int32)), (1, .int (0 : Int32)), (0, .ref (g.2.2 0))]) hx hb dX7_most_3 rfl hl (by decide) rfl (fun ls hl => ?_)
  obtain ⟨y1_5, y2_5, h5, hf⟩ := bq2_some hf
  refine lX7_most_4 C0 hr hk fu h5 I (lv_sub hl [2, 1, 0] rfl) (fun H locs ls I hl => ?_)
  refine lv_iload_n hx hb dX7_most_37 rfl (lv_at hl 1 rfl) ?_
  obtain rfl := se1 hf
  exact mri C0 hr hk I dX7_most_38
set_option maxRecDepth 100000 in
theorem kX7_most  {rr : Int32} (hf : fX7_most S  = some rr) : Met l yX7_most (Cond.code yX7_most cX7_most 3 (some .int) :: big) ({ frames := 0, cells := 0, slots := 0, locals := 0 } : Room) (va_Pc [.ref (g.2.2 0)] (mB g S)) (va_Qi (fun r' S2 => r' = rr ∧ S2 = S) (mB g) (mA g)) 0 0 (mA g) := by
  refine Met.ofW (cc := cX7_most) (maxL := 3) (ret := (some .int)) (by decide) rfl ?_
  intro p e s m args below meth c s₁ B hml hv
  obtain ⟨rfl, hP, hK, hD⟩ := hv
  have hts0 := atoms_spec (ws := (Cond.code yX7_most cX7_most 3 (some .int) :: big)) B.pre
  have C0 : CallFix p m c cX7_most 3 s _ big RX7 := ⟨B.exec, B.bytes, hml, findClass_of_methodNamed B.named, fun w h => hts0 w (List.mem_cons_of_mem _ h)⟩
  have I : mI g s S s.heap [] := ⟨hK, hP, hD, va_S.rf⟩
  have hl := lv_entry ([.ref (g.2.2 0)]) (n := 3) (Nat.le_of_ble_eq_true rfl)
  rw [lg_entry_eq]
  generalize (lg_sl ([.ref (g.2.2 0)]) ++ List.replicate (3 - (lg_sl ([.ref (g.2.2 0)])).length) Slot.unset).toArray = ls at hl ⊢
  have hl : lv_has ls 3 [(0, .ref (g.2.2 0))] := hl
  exact tX7_most_0 C0 B.returns B.notSynchronized hf I (lv_sub hl [0] rfl)
set_option maxHeartbeats 4000000 in
set_option maxRecDepth 100000 in
theorem BX7_firstOf_5 (C0 : CallFix p m c cX7_firstOf 4 s args big RX7) (hr : meth.sig.returnType = (some .int)) (hk : meth.locks = false) {x1 : Int32} {x2 : Int32} {x3 : Int32} {b : Bool} {y2 : Int32} {y3 : Int32} (Kt : b = true → ∀ (H : Heap) (locs : List Loc) (ls : Array Slot), mI g s S H locs → lv_has ls 4 [(0, .ref (g.2.2 0)), (1, .int x1), (2, .int y2), (3, .int y3)] → W p l e ({ frames := 3, cells := 0, slots := 0, locals := 65 } : Room) s m args below meth c H locs 0 0 Q (F0 m 5 ls [])) (Kf : b = false → ∀ (H : Heap) (locs : List Loc) (ls : Array Slot), mI g s S H locs → lv_has ls 4 [(0, .ref (g.2.2 0)), (1, .int x1), (2, .int y2), (3, .int y3)] → W p l e ({ frames := 3, cells := 0, slots := 0, locals := 65 } : Room) s m args below meth c H locs 0 0 Q (F0 m 44 ls [])) (hf : bX7_firstOf_5 S x1 x2 x3 = some (b, y2, y3)) (I : mI g s S H locs) (hl : lv_has ls 4 [(0, .ref (g.2.2 0)), (1, .int x1), (2, .int x2), (3, .int x3)]) : W p l e ({ frames := 3, cells := 0, slots := 0, locals := 65 } : Room) s m args below meth c H locs 0 0 Q (F0 m 5 ls []) := by
  obtain ⟨hx, hb, hml, -, -⟩ := id C0
  unfold bX7_firstOf_5 at hf
  refine lv_iload_n hx hb dX7_firstOf_5 rfl (lv_at hl 3 rfl) ?_
  refine lv_if_lt (tgt := 44) hx hb dX7_firstOf_6 (by decide) (fun c1 => ?_) (fun c1 => ?_)
  · have hf := ip c1 hf
    obtain ⟨rfl, rfl, rfl⟩ := se3 hf
    exact Kf rfl _ _ _ I (lv_sub hl [0, 1, 2, 3] rfl)
  · have hf := inn c1 hf
    refine lv_aload_n hx hb dX7_firstOf_9 rfl (lv_at hl 0 rfl) ?_
    refine lv_iload_n hx hb dX7_firstOf_10 rfl (lv_at hl 3 rfl) ?_
    refine lv_iconst (v := 4) hx hb dX7_firstOf_11 (by decide) ?_
    refine lv_idiv hx hb dX7_firstOf_12 (by decide) ?_
    refine lv_iload_n hx hb dX7_firstOf_13 rfl (lv_at hl 3 rfl) ?_
    refine lv_iconst (v := 4) hx hb dX7_firstOf_14 (by decide) ?_
    refine lv_irem hx hb dX7_firstOf_15 (by decide) ?_
    obtain ⟨r2, h2, hf⟩ := bq1_some hf
    refine mcv_i (As := [.int (x3 / (4 : Int32)), .int (x3 - x3 / (4 : Int32) * (4 : Int32))]) C0 I (kX7_isEdge h2) (cwV 2 C0.2.2.2.2 (gwV wd_812 wd_814 wd_39 wd_73 wd_815) rfl rfl rfl dsc_X7_isEdge ⟨Nat.le_of_ble_eq_true rfl, Nat.le_of_ble_eq_true rfl⟩) (mo_0 I) rfl hl.1 rfl (Nat.le_of_ble_eq_true rfl) dX7_firstOf_16 (fun H locs I => ?_)
    refine lv_if_eq (tgt := 36) hx hb dX7_firstOf_19 (by decide) (fun c3 => ?_) (fun c3 => ?_)
    · have hf := ip c3 hf
      refine lv_iload_n hx hb dX7_firstOf_36 rfl (lv_at hl 2 rfl) ?_
      refine lv_istore_n (lv' := [(2, .int x2), (0, .ref (g.2.2 0)), (1, .int x1), (3, .int x3)]) hx hb dX7_firstOf_37 rfl hl (by decide) rfl (fun ls hl => ?_)
      refine lv_iinc (v := (x3 + (-1 : Int32))) (lv' := [(3, .int (x3 + (-1 : Int32))), (2, .int x2), (0, .ref (g.2.2 0)), (1, .int x1)]) hx hb dX7_firstOf_38 hl (k := 3) rfl rfl (by decide) rfl (fun ls hl => ?_)
      refine lv_goto (tgt := 5) hx hb dX7_firstOf_41 (by decide) ?_
      obtain ⟨rfl, rfl, rfl⟩ := se3 hf
      exact Kt rfl _ _ _ I (lv_sub hl [2, 3, 1, 0] rfl)
    · have hf := inn c3 hf
      refine lv_aload_n hx hb dX7_firstOf_22 rfl (lv_at hl 0 rfl) ?_
      refine mg_X7_44_0 C0 I dX7_firstOf_23 ?_
      refine lv_iload_n hx hb dX7_firstOf_26 rfl (lv_at hl 3 rfl) ?_
      obtain ⟨b4, hf⟩ := chk_some hf
      refine ml_11 hx hb I b4 dX7_firstOf_27 ?_
      refine lv_iload_n hx hb dX7_firstOf_28 rfl (lv_at hl 1 rfl) ?_
      refine lv_icmp_ne (tgt := 36) hx hb dX7_firstOf_29 (by decide) (fun c5 => ?_) (fun c5 => ?_)
      · have hf := inn c5 hf
        refine lv_iload_n hx hb dX7_firstOf_36 rfl (lv_at hl 2 rfl) ?_
        refine lv_istore_n (lv' := [(2, .int x2), (0, .ref (g.2.2 0)), (1, .int x1), (3, .int x3)]) hx hb dX7_firstOf_37 rfl hl (by decide) rfl (fun ls hl => ?_)
        refine lv_iinc (v := (x3 + (-1 : Int32))) (lv' := [(3, .int (x3 + (-1 : Int32))), (2, .int x2), (0, .ref (g.2.2 0)), (1, .int x1)]) hx hb dX7_firstOf_38 hl (k := 3) rfl rfl (by decide) rfl (fun ls hl => ?_)
        refine lv_goto (tgt := 5) hx hb dX7_firstOf_41 (by decide) ?_
        obtain ⟨rfl, rfl, rfl⟩ := se3 hf
        exact Kt rfl _ _ _ I (lv_sub hl [2, 3, 1, 0] rfl)
      · have hf := ip c5 hf
        refine lv_iload_n hx hb dX7_firstOf_32 rfl (lv_at hl 3 rfl) ?_
        refine lv_goto (tgt := 37) hx hb dX7_firstOf_33 (by decide) ?_
        refine lv_istore_n (lv' := [(2, .int x3), (0, .ref (g.2.2 0)), (1, .int x1), (3, .int x3)]) hx hb dX7_firstOf_37 rfl hl (by decide) rfl (fun ls hl => ?_)
        refine lv_iinc (v := (x3 + (-1 : Int32))) (lv' := [(3, .int (x3 + (-1 : Int32))), (2, .int x3), (0, .ref (g.2.2 0)), (1, .int x1)]) hx hb dX7_firstOf_38 hl (k := 3) rfl rfl (by decide) rfl (fun ls hl => ?_)
        refine lv_goto (tgt := 5) hx hb dX7_firstOf_41 (by decide) ?_
        obtain ⟨rfl, rfl, rfl⟩ := se3 hf
        exact Kt rfl _ _ _ I (lv_sub hl [2, 3, 1, 0] rfl)
set_option maxHeartbeats 4000000 in
theorem lX7_firstOf_5 (C0 : CallFix p m c cX7_firstOf 4 s args big RX7) (hr : meth.sig.returnType = (some .int)) (hk : meth.locks = false) {S : St} {x1 : Int32} {y2 : Int32} {y3 : Int32} : ∀ (n : Nat) {x2 : Int32} {x3 : Int32}, lp (fun q => bX7_firstOf_5 S x1 q.1 q.2) n (x2, x3) = some (y2, y3) → ∀ {H : Heap} {locs : List Loc}, mI g s S H locs → ∀ {ls : Array Slot}, lv_has ls 4 [(0, .ref (g.2.2 0)), (1, .int x1), (2, .int x2), (3, .int x3)] → (∀ (H : Heap) (locs : List Loc) (ls : Array Slot), mI g s S H locs → lv_has ls 4 [(0, .ref (g.2.2 0)), (1, .int x1), (2, .int y2), (3, .int y3)] → W p l e ({ frames := 3, cells := 0, slots := 0, locals := 65 } : Room) s m args below meth c H locs 0 0 Q (F0 m 44 ls [])) → W p l e ({ frames := 3, cells := 0, slots := 0, locals := 65 } : Room) s m args below meth c H locs 0 0 Q (F0 m 5 ls []) := by
  intro n
  induction n with
  | zero => intro x2 x3 hf; cases hf
  | succ n ih =>
    intro x2 x3 hf H locs I ls hl K
    obtain ⟨b, ⟨z0, z1⟩, h1, h2, h3⟩ := lp_some hf
    refine BX7_firstOf_5 C0 hr hk (fun hb1 H locs ls I hl => ?_) (fun hb1 H locs ls I hl => ?_) h1 I hl
    · exact ih (h2 hb1) I hl K
    · have e := h3 hb1
      cases e
      exact K H locs ls I hl
set_option maxHeartbeats 4000000 in
set_option maxRecDepth 100000 in
theorem tX7_firstOf_0 (C0 : CallFix p m c cX7_firstOf 4 s args big RX7) (hr : meth.sig.returnType = (some .int)) (hk : meth.locks = false) {x1 : Int32} {rr : Int32}  (hf : fX7_firstOf S x1 = some rr) (I : mI g s S H locs) (hl : lv_has ls 4 [(0, .ref (g.2.2 0)), (1, .int x1)]) : W p l e ({ frames := 3, cells := 0, slots := 0, locals := 65 } : Room) s m args below meth c H locs 0 0 (MQ below (va_Qi (fun r' S2 => r' = rr ∧ S2 = S) (mB g) (mA g)) args s 0 0 (mA g)) (F0 m 0 ls []) := by
  obtain ⟨hx, hb, hml, -, -⟩ := id C0
  unfold fX7_firstOf at hf
  refine lv_iconst (v := -1) hx hb dX7_firstOf_0 (by decide) ?_
  refine lv_istore_n (lv' := [(2, .int (-1 : Int32)), (0, .ref (g.2.2 0)), (1, .int x1)]) hx hb dX7_firstOf_1 rfl hl (by decide) rfl (fun ls hl => ?_)
  refine lv_bipush (v := 63) hx hb dX7_firstOf_2 (by decide) ?_
  refine lv_istore_n (lv' := [(3, .int (63 : Int32)), (2, .int (-1 : Int32)), (0, .ref (g.2.2 0)), (1, .int x1)]) hx hb dX7_firstOf_4 rfl hl (by decide) rfl (fun ls hl => ?_)
  obtain ⟨y2_6, y3_6, h6, hf⟩ := bq2_some hf
  refine lX7_firstOf_5 C0 hr hk fu h6 I (lv_sub hl [2, 3, 1, 0] rfl) (fun H locs ls I hl => ?_)
  refine lv_iload_n hx hb dX7_firstOf_44 rfl (lv_at hl 2 rfl) ?_
  obtain rfl := se1 hf
  exact mri C0 hr hk I dX7_firstOf_45
set_option maxRecDepth 100000 in
theorem kX7_firstOf {x1 : Int32} {rr : Int32} (hf : fX7_firstOf S x1 = some rr) : Met l yX7_firstOf (Cond.code yX7_firstOf cX7_firstOf 4 (some .int) :: big) ({ frames := 3, cells := 0, slots := 0, locals := 65 } : Room) (va_Pc [.ref (g.2.2 0), .int x1] (mB g S)) (va_Qi (fun r' S2 => r' = rr ∧ S2 = S) (mB g) (mA g)) 0 0 (mA g) := by
  refine Met.ofW (cc := cX7_firstOf) (maxL := 4) (ret := (some .int)) (by decide) rfl ?_
  intro p e s m args below meth c s₁ B hml hv
  obtain ⟨rfl, hP, hK, hD⟩ := hv
  have hts0 := atoms_spec (ws := (Cond.code yX7_firstOf cX7_firstOf 4 (some .int) :: big)) B.pre
  have C0 : CallFix p m c cX7_firstOf 4 s _ big RX7 := ⟨B.exec, B.bytes, hml, findClass_of_methodNamed B.named, fun w h => hts0 w (List.mem_cons_of_mem _ h)⟩
  have I : mI g s S s.heap [] := ⟨hK, hP, hD, va_S.rf⟩
  have hl := lv_entry ([.ref (g.2.2 0), .int x1]) (n := 4) (Nat.le_of_ble_eq_true rfl)
  rw [lg_entry_eq]
  generalize (lg_sl ([.ref (g.2.2 0), .int x1]) ++ List.replicate (4 - (lg_sl ([.ref (g.2.2 0), .int x1])).length) Slot.unset).toArray = ls at hl ⊢
  have hl : lv_has ls 4 [(0, .ref (g.2.2 0)), (1, .int x1)] := hl
  exact tX7_firstOf_0 C0 B.returns B.notSynchronized hf I (lv_sub hl [0, 1] rfl)
set_option maxHeartbeats 4000000 in
set_option maxRecDepth 100000 in
theorem tX7_tenTimes_0 (C0 : CallFix p m c cX7_tenTimes 1 s args big RX7) (hr : meth.sig.returnType = (some .int)) (hk : meth.locks = false) {x0 : Int32} {rr : Int32}  (hf : fX7_tenTimes S x0 = some rr) (I : mI g s S H locs) (hl : lv_has ls 1 [(0, .int x0)]) : W p l e ({ frames := 0, cells := 0, slots := 0, locals := 0 } : Room) s m args below meth c H locs 0 0 (MQ below (va_Qi (fun r' S2 => r' = rr ∧ S2 = S) (mB g) (mA g)) args s 0 0 (mA g)) (F0 m 0 ls []) := by
  obtain ⟨hx, hb, hml, -, -⟩ := id C0
  unfold fX7_tenTimes at hf
  refine lv_iload_n hx hb dX7_tenTimes_0 rfl (lv_at hl 0 rfl) ?_
  refine lv_iconst (v := -1) hx hb dX7_tenTimes_1 (by decide) ?_
  refine lv_icmp_ne (tgt := 9) hx hb dX7_tenTimes_2 (by decide) (fun c1 => ?_) (fun c1 => ?_)
  · have hf := inn c1 hf
    refine lv_bipush (v := 10) hx hb dX7_tenTimes_9 (by decide) ?_
    refine lv_iload_n hx hb dX7_tenTimes_11 rfl (lv_at hl 0 rfl) ?_
    refine lv_iconst (v := 4) hx hb dX7_tenTimes_12 (by decide) ?_
    refine lv_idiv hx hb dX7_tenTimes_13 (by decide) ?_
    refine lv_imul hx hb dX7_tenTimes_14 ?_
    refine lv_iload_n hx hb dX7_tenTimes_15 rfl (lv_at hl 0 rfl) ?_
    refine lv_iconst (v := 4) hx hb dX7_tenTimes_16 (by decide) ?_
    refine lv_irem hx hb dX7_tenTimes_17 (by decide) ?_
    refine lv_iadd hx hb dX7_tenTimes_18 ?_
    obtain rfl := se1 hf
    exact mri C0 hr hk I dX7_tenTimes_19
  · have hf := ip c1 hf
    refine lv_iconst (v := -1) hx hb dX7_tenTimes_5 (by decide) ?_
    refine lv_goto (tgt := 19) hx hb dX7_tenTimes_6 (by decide) ?_
    obtain rfl := se1 hf
    exact mri C0 hr hk I dX7_tenTimes_19
set_option maxRecDepth 100000 in
theorem kX7_tenTimes {x0 : Int32} {rr : Int32} (hf : fX7_tenTimes S x0 = some rr) : Met l yX7_tenTimes (Cond.code yX7_tenTimes cX7_tenTimes 1 (some .int) :: big) ({ frames := 0, cells := 0, slots := 0, locals := 0 } : Room) (va_Pc [.int x0] (mB g S)) (va_Qi (fun r' S2 => r' = rr ∧ S2 = S) (mB g) (mA g)) 0 0 (mA g) := by
  refine Met.ofW (cc := cX7_tenTimes) (maxL := 1) (ret := (some .int)) (by decide) rfl ?_
  intro p e s m args below meth c s₁ B hml hv
  obtain ⟨rfl, hP, hK, hD⟩ := hv
  have hts0 := atoms_spec (ws := (Cond.code yX7_tenTimes cX7_tenTimes 1 (some .int) :: big)) B.pre
  have C0 : CallFix p m c cX7_tenTimes 1 s _ big RX7 := ⟨B.exec, B.bytes, hml, findClass_of_methodNamed B.named, fun w h => hts0 w (List.mem_cons_of_mem _ h)⟩
  have I : mI g s S s.heap [] := ⟨hK, hP, hD, va_S.rf⟩
  have hl := lv_entry ([.int x0]) (n := 1) (Nat.le_of_ble_eq_true rfl)
  rw [lg_entry_eq]
  generalize (lg_sl ([.int x0]) ++ List.replicate (1 - (lg_sl ([.int x0])).length) Slot.unset).toArray = ls at hl ⊢
  have hl : lv_has ls 1 [(0, .int x0)] := hl
  exact tX7_tenTimes_0 C0 B.returns B.notSynchronized hf I (lv_sub hl [0] rfl)
end
