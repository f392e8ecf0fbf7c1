section
variable {p : Program} {l : Launch} {e : Env} {s : State} {m : MethodId} {args : Array Value} {below : List Frame} {meth : Method} {c : Code} {Q : State → Prop} {g : xG} {H : Heap} {locs : List Loc} {ls : Array Slot} {S S' : St}
set_option maxHeartbeats 4000000 in
set_option maxRecDepth 100000 in
theorem tX6_refuse_0 (C0 : CallFix p m c cX6_refuse 3 s args big RX6) (hr : meth.sig.returnType = (some .int)) (hk : meth.locks = false) {x1 : Int32} {rr : Int32}  (hf : fX6_refuse S x1 = some (rr, S')) (I : xI g s S H locs) (hl : lv_has ls 3 [(0, .ref (g.2.2 0)), (1, .int x1)]) : W p l e ({ frames := 0, cells := 0, slots := 0, locals := 0 } : Room) s m args below meth c H locs 0 0 (MQ below (va_Qi (fun r' S2 => r' = rr ∧ S2 = S') (xB g) (xA g)) args s 0 0 (xA g)) (F0 m 0 ls []) := by
  obtain ⟨hx, hb, hml, -, -⟩ := id C0
  unfold fX6_refuse at hf
  refine lv_bipush (v := -2) hx hb dX6_refuse_0 (by decide) ?_
  refine lv_iload_n hx hb dX6_refuse_2 rfl (lv_at hl 1 rfl) ?_
  refine lv_isub hx hb dX6_refuse_3 ?_
  refine lv_istore_n (lv' := [(2, .int ((-2 : Int32) - x1)), (0, .ref (g.2.2 0)), (1, .int x1)]) hx hb dX6_refuse_4 rfl hl (by decide) rfl (fun ls hl => ?_)
  refine lv_iload_n hx hb dX6_refuse_5 rfl (lv_at hl 0 rfl) ?_
  refine lv_if_lt (tgt := 28) hx hb dX6_refuse_6 (by decide) (fun c1 => ?_) (fun c1 => ?_)
  · have hf := ip c1 hf
    refine lv_iload_n hx hb dX6_refuse_28 rfl (lv_at hl 2 rfl) ?_
    obtain ⟨rfl, rfl⟩ := se2 hf
    exact xri C0 hr hk I dX6_refuse_29
  · have hf := inn c1 hf
    refine lv_iload_n hx hb dX6_refuse_9 rfl (lv_at hl 0 rfl) ?_
    refine lv_aload_n hx hb dX6_refuse_10 rfl (lv_at hl 1 rfl) ?_
    refine xg_X6_51_0 C0 I dX6_refuse_11 ?_
    refine xn_35 hx hb I dX6_refuse_14 ?_
    refine lv_icmp_ge (tgt := 28) hx hb dX6_refuse_15 (by decide) (fun c2 => ?_) (fun c2 => ?_)
    · have hf := ip c2 hf
      refine lv_iload_n hx hb dX6_refuse_28 rfl (lv_at hl 2 rfl) ?_
      obtain ⟨rfl, rfl⟩ := se2 hf
      exact xri C0 hr hk I dX6_refuse_29
    · have hf := inn c2 hf
      refine lv_aload_n hx hb dX6_refuse_18 rfl (lv_at hl 1 rfl) ?_
      refine xg_X6_51_0 C0 I dX6_refuse_19 ?_
      refine lv_iload_n hx hb dX6_refuse_22 rfl (lv_at hl 0 rfl) ?_
      refine lv_dup2_11 hx hb dX6_refuse_23 rfl rfl ?_
      obtain ⟨b3, hf⟩ := chk_some hf
      refine xl_35 hx hb I b3 dX6_refuse_24 ?_
      refine lv_iconst (v := 1) hx hb dX6_refuse_25 (by decide) ?_
      refine lv_iadd hx hb dX6_refuse_26 ?_
      obtain ⟨b4, hf⟩ := chk_some hf
      refine xs_35 hx hb I b4 dX6_refuse_27 (fun H locs I => ?_)
      refine lv_iload_n hx hb dX6_refuse_28 rfl (lv_at hl 2 rfl) ?_
      obtain ⟨rfl, rfl⟩ := se2 hf
      exact xri C0 hr hk I dX6_refuse_29
set_option maxRecDepth 100000 in
theorem kX6_refuse {x1 : Int32} {rr : Int32} (hf : fX6_refuse S x1 = some (rr, S')) : Met l yX6_refuse (Cond.code yX6_refuse cX6_refuse 3 (some .int) :: big) ({ frames := 0, cells := 0, slots := 0, locals := 0 } : Room) (va_Pc [.ref (g.2.2 0), .int x1] (xB g S)) (va_Qi (fun r' S2 => r' = rr ∧ S2 = S') (xB g) (xA g)) 0 0 (xA g) := by
  refine Met.ofW (cc := cX6_refuse) (maxL := 3) (ret := (some .int)) (by decide) rfl ?_
  intro p e s m args below meth c s₁ B hml hv
  obtain ⟨rfl, hP, hK, hD⟩ := hv
  have hts0 := atoms_spec (ws := (Cond.code yX6_refuse cX6_refuse 3 (some .int) :: big)) B.pre
  have C0 : CallFix p m c cX6_refuse 3 s _ big RX6 := ⟨B.exec, B.bytes, hml, findClass_of_methodNamed B.named, fun w h => hts0 w (List.mem_cons_of_mem _ h)⟩
  have I : xI g s S s.heap [] := ⟨hK, hP, hD, va_S.rf⟩
  have hl := lv_entry ([.ref (g.2.2 0), .int x1]) (n := 3) (Nat.le_of_ble_eq_true rfl)
  rw [lg_entry_eq]
  generalize (lg_sl ([.ref (g.2.2 0), .int x1]) ++ List.replicate (3 - (lg_sl ([.ref (g.2.2 0), .int x1])).length) Slot.unset).toArray = ls at hl ⊢
  have hl : lv_has ls 3 [(0, .ref (g.2.2 0)), (1, .int x1)] := hl
  exact tX6_refuse_0 C0 B.returns B.notSynchronized hf I (lv_sub hl [0, 1] rfl)
set_option maxHeartbeats 4000000 in
set_option maxRecDepth 100000 in
theorem tX3_take_1_0_0 (C0 : CallFix p m c cX3_take 2 s args big RX3) (hr : meth.sig.returnType = none) (hk : meth.locks = false)   (hf : fX3_take 1 0 S = some S') (I : xI g s S H locs) (hl : lv_has ls 2 [(0, .ref (g.2.2 5)), (1, .ref (g.2.2 1))]) : W p l e ({ frames := 1, cells := 0, slots := 0, locals := 40 } : Room) s m args below meth c H locs 0 0 (MQ below (va_Qv (fun S2 => S2 = S') (xB g) (xA g)) args s 0 0 (xA g)) (F0 m 0 ls []) := by
  obtain ⟨hx, hb, hml, -, -⟩ := id C0
  unfold fX3_take at hf
  refine lv_aload_n hx hb dX3_take_0 rfl (lv_at hl 0 rfl) ?_
  refine lv_aload_n hx hb dX3_take_1 rfl (lv_at hl 1 rfl) ?_
  refine xg_X3_9_1 C0 I dX3_take_2 ?_
  refine xp_X3_9_5 C0 I dX3_take_5 (fun H locs I => ?_)
  refine lv_aload_n hx hb dX3_take_8 rfl (lv_at hl 0 rfl) ?_
  refine lv_aload_n hx hb dX3_take_9 rfl (lv_at hl 1 rfl) ?_
  refine xg_X3_15_1 C0 I dX3_take_10 ?_
  refine xp_X3_15_5 C0 I dX3_take_13 (fun H locs I => ?_)
  refine lv_aload_n hx hb dX3_take_16 rfl (lv_at hl 0 rfl) ?_
  refine lv_aload_n hx hb dX3_take_17 rfl (lv_at hl 1 rfl) ?_
  refine xg_X3_18_1 C0 I dX3_take_18 ?_
  refine xp_X3_18_5 C0 I dX3_take_21 (fun H locs I => ?_)
  refine lv_aload_n hx hb dX3_take_24 rfl (lv_at hl 0 rfl) ?_
  refine lv_aload_n hx hb dX3_take_25 rfl (lv_at hl 1 rfl) ?_
  refine xg_X3_21_1 C0 I dX3_take_26 ?_
  refine xp_X3_21_5 C0 I dX3_take_29 (fun H locs I => ?_)
  refine lv_aload_n hx hb dX3_take_32 rfl (lv_at hl 1 rfl) ?_
  refine xg_X3_24_1 C0 I dX3_take_33 ?_
  refine lv_iconst (v := 0) hx hb dX3_take_36 (by decide) ?_
  refine lv_aload_n hx hb dX3_take_37 rfl (lv_at hl 0 rfl) ?_
  refine xg_X3_24_5 C0 I dX3_take_38 ?_
  refine lv_iconst (v := 0) hx hb dX3_take_41 (by decide) ?_
  refine lv_aload_n hx hb dX3_take_42 rfl (lv_at hl 0 rfl) ?_
  refine xg_X3_24_5 C0 I dX3_take_43 ?_
  refine xn_6 hx hb I dX3_take_46 ?_
  refine xc_6_2 C0 hl.1 I (Nat.le_of_ble_eq_true rfl) (by decide) dX3_take_47 (fun H locs I => ?_)
  obtain rfl := se1 hf
  exact xrv C0 hr hk I dX3_take_50
set_option maxRecDepth 100000 in
theorem kX3_take_1_0   (hf : fX3_take 1 0 S  = some S') : Met l yX3_take (Cond.code yX3_take cX3_take 2 none :: big) ({ frames := 1, cells := 0, slots := 0, locals := 40 } : Room) (va_Pc [.ref (g.2.2 5), .ref (g.2.2 1)] (xB g S)) (va_Qv (fun S2 => S2 = S') (xB g) (xA g)) 0 0 (xA g) := by
  refine Met.ofW (cc := cX3_take) (maxL := 2) (ret := none) (by decide) rfl ?_
  intro p e s m args below meth c s₁ B hml hv
  obtain ⟨rfl, hP, hK, hD⟩ := hv
  have hts0 := atoms_spec (ws := (Cond.code yX3_take cX3_take 2 none :: big)) B.pre
  have C0 : CallFix p m c cX3_take 2 s _ big RX3 := ⟨B.exec, B.bytes, hml, findClass_of_methodNamed B.named, fun w h => hts0 w (List.mem_cons_of_mem _ h)⟩
  have I : xI g s S s.heap [] := ⟨hK, hP, hD, va_S.rf⟩
  have hl := lv_entry ([.ref (g.2.2 5), .ref (g.2.2 1)]) (n := 2) (Nat.le_of_ble_eq_true rfl)
  rw [lg_entry_eq]
  generalize (lg_sl ([.ref (g.2.2 5), .ref (g.2.2 1)]) ++ List.replicate (2 - (lg_sl ([.ref (g.2.2 5), .ref (g.2.2 1)])).length) Slot.unset).toArray = ls at hl ⊢
  have hl : lv_has ls 2 [(0, .ref (g.2.2 5)), (1, .ref (g.2.2 1))] := hl
  exact tX3_take_1_0_0 C0 B.returns B.notSynchronized hf I (lv_sub hl [0, 1] rfl)
set_option maxHeartbeats 4000000 in
set_option maxRecDepth 100000 in
theorem tX3_take_2_0_0 (C0 : CallFix p m c cX3_take 2 s args big RX3) (hr : meth.sig.returnType = none) (hk : meth.locks = false)   (hf : fX3_take 2 0 S = some S') (I : xI g s S H locs) (hl : lv_has ls 2 [(0, .ref (g.2.2 7)), (1, .ref (g.2.2 1))]) : W p l e ({ frames := 1, cells := 0, slots := 0, locals := 40 } : Room) s m args below meth c H locs 0 0 (MQ below (va_Qv (fun S2 => S2 = S') (xB g) (xA g)) args s 0 0 (xA g)) (F0 m 0 ls []) := by
  obtain ⟨hx, hb, hml, -, -⟩ := id C0
  unfold fX3_take at hf
  refine lv_aload_n hx hb dX3_take_0 rfl (lv_at hl 0 rfl) ?_
  refine lv_aload_n hx hb dX3_take_1 rfl (lv_at hl 1 rfl) ?_
  refine xg_X3_9_1 C0 I dX3_take_2 ?_
  refine xp_X3_9_7 C0 I dX3_take_5 (fun H locs I => ?_)
  refine lv_aload_n hx hb dX3_take_8 rfl (lv_at hl 0 rfl) ?_
  refine lv_aload_n hx hb dX3_take_9 rfl (lv_at hl 1 rfl) ?_
  refine xg_X3_15_1 C0 I dX3_take_10 ?_
  refine xp_X3_15_7 C0 I dX3_take_13 (fun H locs I => ?_)
  refine lv_aload_n hx hb dX3_take_16 rfl (lv_at hl 0 rfl) ?_
  refine lv_aload_n hx hb dX3_take_17 rfl (lv_at hl 1 rfl) ?_
  refine xg_X3_18_1 C0 I dX3_take_18 ?_
  refine xp_X3_18_7 C0 I dX3_take_21 (fun H locs I => ?_)
  refine lv_aload_n hx hb dX3_take_24 rfl (lv_at hl 0 rfl) ?_
  refine lv_aload_n hx hb dX3_take_25 rfl (lv_at hl 1 rfl) ?_
  refine xg_X3_21_1 C0 I dX3_take_26 ?_
  refine xp_X3_21_7 C0 I dX3_take_29 (fun H locs I => ?_)
  refine lv_aload_n hx hb dX3_take_32 rfl (lv_at hl 1 rfl) ?_
  refine xg_X3_24_1 C0 I dX3_take_33 ?_
  refine lv_iconst (v := 0) hx hb dX3_take_36 (by decide) ?_
  refine lv_aload_n hx hb dX3_take_37 rfl (lv_at hl 0 rfl) ?_
  refine xg_X3_24_7 C0 I dX3_take_38 ?_
  refine lv_iconst (v := 0) hx hb dX3_take_41 (by decide) ?_
  refine lv_aload_n hx hb dX3_take_42 rfl (lv_at hl 0 rfl) ?_
  refine xg_X3_24_7 C0 I dX3_take_43 ?_
  refine xn_8 hx hb I dX3_take_46 ?_
  refine xc_8_2 C0 hl.1 I (Nat.le_of_ble_eq_true rfl) (by decide) dX3_take_47 (fun H locs I => ?_)
  obtain rfl := se1 hf
  exact xrv C0 hr hk I dX3_take_50
set_option maxRecDepth 100000 in
theorem kX3_take_2_0   (hf : fX3_take 2 0 S  = some S') : Met l yX3_take (Cond.code yX3_take cX3_take 2 none :: big) ({ frames := 1, cells := 0, slots := 0, locals := 40 } : Room) (va_Pc [.ref (g.2.2 7), .ref (g.2.2 1)] (xB g S)) (va_Qv (fun S2 => S2 = S') (xB g) (xA g)) 0 0 (xA g) := by
  refine Met.ofW (cc := cX3_take) (maxL := 2) (ret := none) (by decide) rfl ?_
  intro p e s m args below meth c s₁ B hml hv
  obtain ⟨rfl, hP, hK, hD⟩ := hv
  have hts0 := atoms_spec (ws := (Cond.code yX3_take cX3_take 2 none :: big)) B.pre
  have C0 : CallFix p m c cX3_take 2 s _ big RX3 := ⟨B.exec, B.bytes, hml, findClass_of_methodNamed B.named, fun w h => hts0 w (List.mem_cons_of_mem _ h)⟩
  have I : xI g s S s.heap [] := ⟨hK, hP, hD, va_S.rf⟩
  have hl := lv_entry ([.ref (g.2.2 7), .ref (g.2.2 1)]) (n := 2) (Nat.le_of_ble_eq_true rfl)
  rw [lg_entry_eq]
  generalize (lg_sl ([.ref (g.2.2 7), .ref (g.2.2 1)]) ++ List.replicate (2 - (lg_sl ([.ref (g.2.2 7), .ref (g.2.2 1)])).length) Slot.unset).toArray = ls at hl ⊢
  have hl : lv_has ls 2 [(0, .ref (g.2.2 7)), (1, .ref (g.2.2 1))] := hl
  exact tX3_take_2_0_0 C0 B.returns B.notSynchronized hf I (lv_sub hl [0, 1] rfl)
set_option maxHeartbeats 4000000 in
set_option maxRecDepth 100000 in
theorem tX3_take_3_0_0 (C0 : CallFix p m c cX3_take 2 s args big RX3) (hr : meth.sig.returnType = none) (hk : meth.locks = false)   (hf : fX3_take 3 0 S = some S') (I : xI g s S H locs) (hl : lv_has ls 2 [(0, .ref (g.2.2 9)), (1, .ref (g.2.2 1))]) : W p l e ({ frames := 1, cells := 0, slots := 0, locals := 40 } : Room) s m args below meth c H locs 0 0 (MQ below (va_Qv (fun S2 => S2 = S') (xB g) (xA g)) args s 0 0 (xA g)) (F0 m 0 ls []) := by
  obtain ⟨hx, hb, hml, -, -⟩ := id C0
  unfold fX3_take at hf
  refine lv_aload_n hx hb dX3_take_0 rfl (lv_at hl 0 rfl) ?_
  refine lv_aload_n hx hb dX3_take_1 rfl (lv_at hl 1 rfl) ?_
  refine xg_X3_9_1 C0 I dX3_take_2 ?_
  refine xp_X3_9_9 C0 I dX3_take_5 (fun H locs I => ?_)
  refine lv_aload_n hx hb dX3_take_8 rfl (lv_at hl 0 rfl) ?_
  refine lv_aload_n hx hb dX3_take_9 rfl (lv_at hl 1 rfl) ?_
  refine xg_X3_15_1 C0 I dX3_take_10 ?_
  refine xp_X3_15_9 C0 I dX3_take_13 (fun H locs I => ?_)
  refine lv_aload_n hx hb dX3_take_16 rfl (lv_at hl 0 rfl) ?_
  refine lv_aload_n hx hb dX3_take_17 rfl (lv_at hl 1 rfl) ?_
  refine xg_X3_18_1 C0 I dX3_take_18 ?_
  refine xp_X3_18_9 C0 I dX3_take_21 (fun H locs I => ?_)
  refine lv_aload_n hx hb dX3_take_24 rfl (lv_at hl 0 rfl) ?_
  refine lv_aload_n hx hb dX3_take_25 rfl (lv_at hl 1 rfl) ?_
  refine xg_X3_21_1 C0 I dX3_take_26 ?_
  refine xp_X3_21_9 C0 I dX3_take_29 (fun H locs I => ?_)
  refine lv_aload_n hx hb dX3_take_32 rfl (lv_at hl 1 rfl) ?_
  refine xg_X3_24_1 C0 I dX3_take_33 ?_
  refine lv_iconst (v := 0) hx hb dX3_take_36 (by decide) ?_
  refine lv_aload_n hx hb dX3_take_37 rfl (lv_at hl 0 rfl) ?_
  refine xg_X3_24_9 C0 I dX3_take_38 ?_
  refine lv_iconst (v := 0) hx hb dX3_take_41 (by decide) ?_
  refine lv_aload_n hx hb dX3_take_42 rfl (lv_at hl 0 rfl) ?_
  refine xg_X3_24_9 C0 I dX3_take_43 ?_
  refine xn_10 hx hb I dX3_take_46 ?_
  refine xc_10_2 C0 hl.1 I (Nat.le_of_ble_eq_true rfl) (by decide) dX3_take_47 (fun H locs I => ?_)
  obtain rfl := se1 hf
  exact xrv C0 hr hk I dX3_take_50
set_option maxRecDepth 100000 in
theorem kX3_take_3_0   (hf : fX3_take 3 0 S  = some S') : Met l yX3_take (Cond.code yX3_take cX3_take 2 none :: big) ({ frames := 1, cells := 0, slots := 0, locals := 40 } : Room) (va_Pc [.ref (g.2.2 9), .ref (g.2.2 1)] (xB g S)) (va_Qv (fun S2 => S2 = S') (xB g) (xA g)) 0 0 (xA g) := by
  refine Met.ofW (cc := cX3_take) (maxL := 2) (ret := none) (by decide) rfl ?_
  intro p e s m args below meth c s₁ B hml hv
  obtain ⟨rfl, hP, hK, hD⟩ := hv
  have hts0 := atoms_spec (ws := (Cond.code yX3_take cX3_take 2 none :: big)) B.pre
  have C0 : CallFix p m c cX3_take 2 s _ big RX3 := ⟨B.exec, B.bytes, hml, findClass_of_methodNamed B.named, fun w h => hts0 w (List.mem_cons_of_mem _ h)⟩
  have I : xI g s S s.heap [] := ⟨hK, hP, hD, va_S.rf⟩
  have hl := lv_entry ([.ref (g.2.2 9), .ref (g.2.2 1)]) (n := 2) (Nat.le_of_ble_eq_true rfl)
  rw [lg_entry_eq]
  generalize (lg_sl ([.ref (g.2.2 9), .ref (g.2.2 1)]) ++ List.replicate (2 - (lg_sl ([.ref (g.2.2 9), .ref (g.2.2 1)])).length) Slot.unset).toArray = ls at hl ⊢
  have hl : lv_has ls 2 [(0, .ref (g.2.2 9)), (1, .ref (g.2.2 1))] := hl
  exact tX3_take_3_0_0 C0 B.returns B.notSynchronized hf I (lv_sub hl [0, 1] rfl)
set_option maxHeartbeats 4000000 in
set_option maxRecDepth 100000 in
theorem tX3_take_4_0_0 (C0 : CallFix p m c cX3_take 2 s args big RX3) (hr : meth.sig.returnType = none) (hk : meth.locks = false)   (hf : fX3_take 4 0 S = some S') (I : xI g s S H locs) (hl : lv_has ls 2 [(0, .ref (g.2.2 11)), (1, .ref (g.2.2 1))]) : W p l e ({ frames := 1, cells := 0, slots := 0, locals := 40 } : Room) s m args below meth c H locs 0 0 (MQ below (va_Qv (fun S2 => S2 = S') (xB g) (xA g)) args s 0 0 (xA g)) (F0 m 0 ls []) := by
  obtain ⟨hx, hb, hml, -, -⟩ := id C0
  unfold fX3_take at hf
  refine lv_aload_n hx hb dX3_take_0 rfl (lv_at hl 0 rfl) ?_
  refine lv_aload_n hx hb dX3_take_1 rfl (lv_at hl 1 rfl) ?_
  refine xg_X3_9_1 C0 I dX3_take_2 ?_
  refine xp_X3_9_11 C0 I dX3_take_5 (fun H locs I => ?_)
  refine lv_aload_n hx hb dX3_take_8 rfl (lv_at hl 0 rfl) ?_
  refine lv_aload_n hx hb dX3_take_9 rfl (lv_at hl 1 rfl) ?_
  refine xg_X3_15_1 C0 I dX3_take_10 ?_
  refine xp_X3_15_11 C0 I dX3_take_13 (fun H locs I => ?_)
  refine lv_aload_n hx hb dX3_take_16 rfl (lv_at hl 0 rfl) ?_
  refine lv_aload_n hx hb dX3_take_17 rfl (lv_at hl 1 rfl) ?_
  refine xg_X3_18_1 C0 I dX3_take_18 ?_
  refine xp_X3_18_11 C0 I dX3_take_21 (fun H locs I => ?_)
  refine lv_aload_n hx hb dX3_take_24 rfl (lv_at hl 0 rfl) ?_
  refine lv_aload_n hx hb dX3_take_25 rfl (lv_at hl 1 rfl) ?_
  refine xg_X3_21_1 C0 I dX3_take_26 ?_
  refine xp_X3_21_11 C0 I dX3_take_29 (fun H locs I => ?_)
  refine lv_aload_n hx hb dX3_take_32 rfl (lv_at hl 1 rfl) ?_
  refine xg_X3_24_1 C0 I dX3_take_33 ?_
  refine lv_iconst (v := 0) hx hb dX3_take_36 (by decide) ?_
  refine lv_aload_n hx hb dX3_take_37 rfl (lv_at hl 0 rfl) ?_
  refine xg_X3_24_11 C0 I dX3_take_38 ?_
  refine lv_iconst (v := 0) hx hb dX3_take_41 (by decide) ?_
  refine lv_aload_n hx hb dX3_take_42 rfl (lv_at hl 0 rfl) ?_
  refine xg_X3_24_11 C0 I dX3_take_43 ?_
  refine xn_12 hx hb I dX3_take_46 ?_
  refine xc_12_2 C0 hl.1 I (Nat.le_of_ble_eq_true rfl) (by decide) dX3_take_47 (fun H locs I => ?_)
  obtain rfl := se1 hf
  exact xrv C0 hr hk I dX3_take_50
set_option maxRecDepth 100000 in
theorem kX3_take_4_0   (hf : fX3_take 4 0 S  = some S') : Met l yX3_take (Cond.code yX3_take cX3_take 2 none :: big) ({ frames := 1, cells := 0, slots := 0, locals := 40 } : Room) (va_Pc [.ref (g.2.2 11), .ref (g.2.2 1)] (xB g S)) (va_Qv (fun S2 => S2 = S') (xB g) (xA g)) 0 0 (xA g) := by
  refine Met.ofW (cc := cX3_take) (maxL := 2) (ret := none) (by decide) rfl ?_
  intro p e s m args below meth c s₁ B hml hv
  obtain ⟨rfl, hP, hK, hD⟩ := hv
  have hts0 := atoms_spec (ws := (Cond.code yX3_take cX3_take 2 none :: big)) B.pre
  have C0 : CallFix p m c cX3_take 2 s _ big RX3 := ⟨B.exec, B.bytes, hml, findClass_of_methodNamed B.named, fun w h => hts0 w (List.mem_cons_of_mem _ h)⟩
  have I : xI g s S s.heap [] := ⟨hK, hP, hD, va_S.rf⟩
  have hl := lv_entry ([.ref (g.2.2 11), .ref (g.2.2 1)]) (n := 2) (Nat.le_of_ble_eq_true rfl)
  rw [lg_entry_eq]
  generalize (lg_sl ([.ref (g.2.2 11), .ref (g.2.2 1)]) ++ List.replicate (2 - (lg_sl ([.ref (g.2.2 11), .ref (g.2.2 1)])).length) Slot.unset).toArray = ls at hl ⊢
  have hl : lv_has ls 2 [(0, .ref (g.2.2 11)), (1, .ref (g.2.2 1))] := hl
  exact tX3_take_4_0_0 C0 B.returns B.notSynchronized hf I (lv_sub hl [0, 1] rfl)
set_option maxHeartbeats 4000000 in
set_option maxRecDepth 100000 in
theorem tX3_take_5_0_0 (C0 : CallFix p m c cX3_take 2 s args big RX3) (hr : meth.sig.returnType = none) (hk : meth.locks = false)   (hf : fX3_take 5 0 S = some S') (I : xI g s S H locs) (hl : lv_has ls 2 [(0, .ref (g.2.2 13)), (1, .ref (g.2.2 1))]) : W p l e ({ frames := 1, cells := 0, slots := 0, locals := 40 } : Room) s m args below meth c H locs 0 0 (MQ below (va_Qv (fun S2 => S2 = S') (xB g) (xA g)) args s 0 0 (xA g)) (F0 m 0 ls []) := by
  obtain ⟨hx, hb, hml, -, -⟩ := id C0
  unfold fX3_take at hf
  refine lv_aload_n hx hb dX3_take_0 rfl (lv_at hl 0 rfl) ?_
  refine lv_aload_n hx hb dX3_take_1 rfl (lv_at hl 1 rfl) ?_
  refine xg_X3_9_1 C0 I dX3_take_2 ?_
  refine xp_X3_9_13 C0 I dX3_take_5 (fun H locs I => ?_)
  refine lv_aload_n hx hb dX3_take_8 rfl (lv_at hl 0 rfl) ?_
  refine lv_aload_n hx hb dX3_take_9 rfl (lv_at hl 1 rfl) ?_
  refine xg_X3_15_1 C0 I dX3_take_10 ?_
  refine xp_X3_15_13 C0 I dX3_take_13 (fun H locs I => ?_)
  refine lv_aload_n hx hb dX3_take_16 rfl (lv_at hl 0 rfl) ?_
  refine lv_aload_n hx hb dX3_take_17 rfl (lv_at hl 1 rfl) ?_
  refine xg_X3_18_1 C0 I dX3_take_18 ?_
  refine xp_X3_18_13 C0 I dX3_take_21 (fun H locs I => ?_)
  refine lv_aload_n hx hb dX3_take_24 rfl (lv_at hl 0 rfl) ?_
  refine lv_aload_n hx hb dX3_take_25 rfl (lv_at hl 1 rfl) ?_
  refine xg_X3_21_1 C0 I dX3_take_26 ?_
  refine xp_X3_21_13 C0 I dX3_take_29 (fun H locs I => ?_)
  refine lv_aload_n hx hb dX3_take_32 rfl (lv_at hl 1 rfl) ?_
  refine xg_X3_24_1 C0 I dX3_take_33 ?_
  refine lv_iconst (v := 0) hx hb dX3_take_36 (by decide) ?_
  refine lv_aload_n hx hb dX3_take_37 rfl (lv_at hl 0 rfl) ?_
  refine xg_X3_24_13 C0 I dX3_take_38 ?_
  refine lv_iconst (v := 0) hx hb dX3_take_41 (by decide) ?_
  refine lv_aload_n hx hb dX3_take_42 rfl (lv_at hl 0 rfl) ?_
  refine xg_X3_24_13 C0 I dX3_take_43 ?_
  refine xn_14 hx hb I dX3_take_46 ?_
  refine xc_14_2 C0 hl.1 I (Nat.le_of_ble_eq_true rfl) (by decide) dX3_take_47 (fun H locs I => ?_)
  obtain rfl := se1 hf
  exact xrv C0 hr hk I dX3_take_50
set_option maxRecDepth 100000 in
theorem kX3_take_5_0   (hf : fX3_take 5 0 S  = some S') : Met l yX3_take (Cond.code yX3_take cX3_take 2 none :: big) ({ frames := 1, cells := 0, slots := 0, locals := 40 } : Room) (va_Pc [.ref (g.2.2 13), .ref (g.2.2 1)] (xB g S)) (va_Qv (fun S2 => S2 = S') (xB g) (xA g)) 0 0 (xA g) := by
  refine Met.ofW (cc := cX3_take) (maxL := 2) (ret := none) (by decide) rfl ?_
  intro p e s m args below meth c s₁ B hml hv
  obtain ⟨rfl, hP, hK, hD⟩ := hv
  have hts0 := atoms_spec (ws := (Cond.code yX3_take cX3_take 2 none :: big)) B.pre
  have C0 : CallFix p m c cX3_take 2 s _ big RX3 := ⟨B.exec, B.bytes, hml, findClass_of_methodNamed B.named, fun w h => hts0 w (List.mem_cons_of_mem _ h)⟩
  have I : xI g s S s.heap [] := ⟨hK, hP, hD, va_S.rf⟩
  have hl := lv_entry ([.ref (g.2.2 13), .ref (g.2.2 1)]) (n := 2) (Nat.le_of_ble_eq_true rfl)
  rw [lg_entry_eq]
  generalize (lg_sl ([.ref (g.2.2 13), .ref (g.2.2 1)]) ++ List.replicate (2 - (lg_sl ([.ref (g.2.2 13), .ref (g.2.2 1)])).length) Slot.unset).toArray = ls at hl ⊢
  have hl : lv_has ls 2 [(0, .ref (g.2.2 13)), (1, .ref (g.2.2 1))] := hl
  exact tX3_take_5_0_0 C0 B.returns B.notSynchronized hf I (lv_sub hl [0, 1] rfl)
set_option maxHeartbeats 4000000 in
set_option maxRecDepth 100000 in
theorem tX3_take_6_0_0 (C0 : CallFix p m c cX3_take 2 s args big RX3) (hr : meth.sig.returnType = none) (hk : meth.locks = false)   (hf : fX3_take 6 0 S = some S') (I : xI g s S H locs) (hl : lv_has ls 2 [(0, .ref (g.2.2 15)), (1, .ref (g.2.2 1))]) : W p l e ({ frames := 1, cells := 0, slots := 0, locals := 40 } : Room) s m args below meth c H locs 0 0 (MQ below (va_Qv (fun S2 => S2 = S') (xB g) (xA g)) args s 0 0 (xA g)) (F0 m 0 ls []) := by
  obtain ⟨hx, hb, hml, -, -⟩ := id C0
  unfold fX3_take at hf
  refine lv_aload_n hx hb dX3_take_0 rfl (lv_at hl 0 rfl) ?_
  refine lv_aload_n hx hb dX3_take_1 rfl (lv_at hl 1 rfl) ?_
  refine xg_X3_9_1 C0 I dX3_take_2 ?_
  refine xp_X3_9_15 C0 I dX3_take_5 (fun H locs I => ?_)
  refine lv_aload_n hx hb dX3_take_8 rfl (lv_at hl 0 rfl) ?_
  refine lv_aload_n hx hb dX3_take_9 rfl (lv_at hl 1 rfl) ?_
  refine xg_X3_15_1 C0 I dX3_take_10 ?_
  refine xp_X3_15_15 C0 I dX3_take_13 (fun H locs I => ?_)
  refine lv_aload_n hx hb dX3_take_16 rfl (lv_at hl 0 rfl) ?_
  refine lv_aload_n hx hb dX3_take_17 rfl (lv_at hl 1 rfl) ?_
  refine xg_X3_18_1 C0 I dX3_take_18 ?_
  refine xp_X3_18_15 C0 I dX3_take_21 (fun H locs I => ?_)
  refine lv_aload_n hx hb dX3_take_24 rfl (lv_at hl 0 rfl) ?_
  refine lv_aload_n hx hb dX3_take_25 rfl (lv_at hl 1 rfl) ?_
  refine xg_X3_21_1 C0 I dX3_take_26 ?_
  refine xp_X3_21_15 C0 I dX3_take_29 (fun H locs I => ?_)
  refine lv_aload_n hx hb dX3_take_32 rfl (lv_at hl 1 rfl) ?_
  refine xg_X3_24_1 C0 I dX3_take_33 ?_
  refine lv_iconst (v := 0) hx hb dX3_take_36 (by decide) ?_
  refine lv_aload_n hx hb dX3_take_37 rfl (lv_at hl 0 rfl) ?_
  refine xg_X3_24_15 C0 I dX3_take_38 ?_
  refine lv_iconst (v := 0) hx hb dX3_take_41 (by decide) ?_
  refine lv_aload_n hx hb dX3_take_42 rfl (lv_at hl 0 rfl) ?_
  refine xg_X3_24_15 C0 I dX3_take_43 ?_
  refine xn_16 hx hb I dX3_take_46 ?_
  refine xc_16_2 C0 hl.1 I (Nat.le_of_ble_eq_true rfl) (by decide) dX3_take_47 (fun H locs I => ?_)
  obtain rfl := se1 hf
  exact xrv C0 hr hk I dX3_take_50
set_option maxRecDepth 100000 in
theorem kX3_take_6_0   (hf : fX3_take 6 0 S  = some S') : Met l yX3_take (Cond.code yX3_take cX3_take 2 none :: big) ({ frames := 1, cells := 0, slots := 0, locals := 40 } : Room) (va_Pc [.ref (g.2.2 15), .ref (g.2.2 1)] (xB g S)) (va_Qv (fun S2 => S2 = S') (xB g) (xA g)) 0 0 (xA g) := by
  refine Met.ofW (cc := cX3_take) (maxL := 2) (ret := none) (by decide) rfl ?_
  intro p e s m args below meth c s₁ B hml hv
  obtain ⟨rfl, hP, hK, hD⟩ := hv
  have hts0 := atoms_spec (ws := (Cond.code yX3_take cX3_take 2 none :: big)) B.pre
  have C0 : CallFix p m c cX3_take 2 s _ big RX3 := ⟨B.exec, B.bytes, hml, findClass_of_methodNamed B.named, fun w h => hts0 w (List.mem_cons_of_mem _ h)⟩
  have I : xI g s S s.heap [] := ⟨hK, hP, hD, va_S.rf⟩
  have hl := lv_entry ([.ref (g.2.2 15), .ref (g.2.2 1)]) (n := 2) (Nat.le_of_ble_eq_true rfl)
  rw [lg_entry_eq]
  generalize (lg_sl ([.ref (g.2.2 15), .ref (g.2.2 1)]) ++ List.replicate (2 - (lg_sl ([.ref (g.2.2 15), .ref (g.2.2 1)])).length) Slot.unset).toArray = ls at hl ⊢
  have hl : lv_has ls 2 [(0, .ref (g.2.2 15)), (1, .ref (g.2.2 1))] := hl
  exact tX3_take_6_0_0 C0 B.returns B.notSynchronized hf I (lv_sub hl [0, 1] rfl)
set_option maxHeartbeats 4000000 in
set_option maxRecDepth 100000 in
theorem tX0_keep_0 (C0 : CallFix p m c cX0_keep 2 s args big RX0) (hr : meth.sig.returnType = none) (hk : meth.locks = false)   (hf : fX0_keep S = some S') (I : xI g s S H locs) (hl : lv_has ls 2 [(0, .ref (g.2.2 3)), (1, .ref (g.2.2 1))]) : W p l e ({ frames := 2, cells := 0, slots := 0, locals := 61 } : Room) s m args below meth c H locs 0 0 (MQ below (va_Qv (fun S2 => S2 = S') (xB g) (xA g)) args s 0 0 (xA g)) (F0 m 0 ls []) := by
  obtain ⟨hx, hb, hml, -, -⟩ := id C0
  unfold fX0_keep at hf
  refine lv_aload_n hx hb dX0_keep_0 rfl (lv_at hl 0 rfl) ?_
  refine lv_aload_n hx hb dX0_keep_1 rfl (lv_at hl 0 rfl) ?_
  refine xg_X0_15_3 C0 I dX0_keep_2 ?_
  refine lv_iconst (v := 1) hx hb dX0_keep_5 (by decide) ?_
  refine lv_iadd hx hb dX0_keep_6 ?_
  refine lv_bipush (v := 6) hx hb dX0_keep_7 (by decide) ?_
  refine lv_irem hx hb dX0_keep_9 (by decide) ?_
  refine xp_X0_15_3 C0 I dX0_keep_10 (fun H locs I => ?_)
  refine lv_aload_n hx hb dX0_keep_13 rfl (lv_at hl 0 rfl) ?_
  refine xg_X0_20_3 C0 I dX0_keep_14 ?_
  refine lv_aload_n hx hb dX0_keep_17 rfl (lv_at hl 0 rfl) ?_
  refine xg_X0_15_3 C0 I dX0_keep_18 ?_
  obtain ⟨b1, hf⟩ := chk_some hf
  rcases kc6 b1 with e1 | e1 | e1 | e1 | e1 | e1
  · rw [e1] at hf
    refine xa hx hb I b1 e1 dX0_keep_21 ?_
    refine lv_aload_n hx hb dX0_keep_22 rfl (lv_at hl 1 rfl) ?_
    obtain ⟨S2, h2, hf⟩ := bq1_some hf
    refine xcv_v (As := [.ref (g.2.2 1)]) C0 I (kX3_take_1_0 h2) (cwV 1 C0.2.2.2.2 (gwV wd_280 wd_281 wd_282 wd_67 wd_283) rfl rfl rfl dsc_X3_take ⟨Nat.le_of_ble_eq_true rfl, Nat.le_of_ble_eq_true rfl⟩) (xo_5 I) rfl hl.1 rfl (Nat.le_of_ble_eq_true rfl) dX0_keep_23 (fun H locs I => ?_)
    refine lv_aload_n hx hb dX0_keep_26 rfl (lv_at hl 0 rfl) ?_
    refine lv_aload_n hx hb dX0_keep_27 rfl (lv_at hl 0 rfl) ?_
    refine xg_X0_9_3 C0 I dX0_keep_28 ?_
    refine lv_iconst (v := 1) hx hb dX0_keep_31 (by decide) ?_
    refine lv_iadd hx hb dX0_keep_32 ?_
    refine lv_bipush (v := 6) hx hb dX0_keep_33 (by decide) ?_
    refine va_mmin hx hb (C0.2.2.1.trans hl.1.symm) C0.2.2.2.1 (C0.2.2.2.2 _ wd_287) (C0.2.2.2.2 _ wd_288) (C0.2.2.2.2 _ wd_75) (C0.2.2.2.2 _ wd_289) (Nat.le_of_ble_eq_true rfl) (Nat.le_of_ble_eq_true rfl) (Nat.zero_le _) (Nat.zero_le _) dX0_keep_35 ?_
    refine xp_X0_9_3 C0 I dX0_keep_38 (fun H locs I => ?_)
    obtain rfl := se1 hf
    exact xrv C0 hr hk I dX0_keep_41
  · rw [e1] at hf
    refine xa hx hb I b1 e1 dX0_keep_21 ?_
    refine lv_aload_n hx hb dX0_keep_22 rfl (lv_at hl 1 rfl) ?_
    obtain ⟨S2, h2, hf⟩ := bq1_some hf
    refine xcv_v (As := [.ref (g.2.2 1)]) C0 I (kX3_take_2_0 h2) (cwV 1 C0.2.2.2.2 (gwV wd_280 wd_281 wd_282 wd_67 wd_283) rfl rfl rfl dsc_X3_take ⟨Nat.le_of_ble_eq_true rfl, Nat.le_of_ble_eq_true rfl⟩) (xo_7 I) rfl hl.1 rfl (Nat.le_of_ble_eq_true rfl) dX0_keep_23 (fun H locs I => ?_)
    refine lv_aload_n hx hb dX0_keep_26 rfl (lv_at hl 0 rfl) ?_
    refine lv_aload_n hx hb dX0_keep_27 rfl (lv_at hl 0 rfl) ?_
    refine xg_X0_9_3 C0 I dX0_keep_28 ?_
    refine lv_iconst (v := 1) hx hb dX0_keep_31 (by decide) ?_
    refine lv_iadd hx hb dX0_keep_32 ?_
    refine lv_bipush (v := 6) hx hb dX0_keep_33 (by decide) ?_
    refine va_mmin hx hb (C0.2.2.1.trans hl.1.symm) C0.2.2.2.1 (C0.2.2.2.2 _ wd_287) (C0.2.2.2.2 _ wd_288) (C0.2.2.2.2 _ wd_75) (C0.2.2.2.2 _ wd_289) (Nat.le_of_ble_eq_true rfl) (Nat.le_of_ble_eq_true rfl) (Nat.zero_le _) (Nat.zero_le _) dX0_keep_35 ?_
    refine xp_X0_9_3 C0 I dX0_keep_38 (fun H locs I => ?_)
    obtain rfl := se1 hf
    exact xrv C0 hr hk I dX0_keep_41
  · rw [e1] at hf
    refine xa hx hb I b1 e1 dX0_keep_21 ?_
    refine lv_aload_n hx hb dX0_keep_22 rfl (lv_at hl 1 rfl) ?_
    obtain ⟨S2, h2, hf⟩ := bq1_some hf
    refine xcv_v (As := [.ref (g.2.2 1)]) C0 I (kX3_take_3_0 h2) (cwV 1 C0.2.2.2.2 (gwV wd_280 wd_281 wd_282 wd_67 wd_283) rfl rfl rfl dsc_X3_take ⟨Nat.le_of_ble_eq_true rfl, Nat.le_of_ble_eq_true rfl⟩) (xo_9 I) rfl hl.1 rfl (Nat.le_of_ble_eq_true rfl) dX0_keep_23 (fun H locs I => ?_)
    refine lv_aload_n hx hb dX0_keep_26 rfl (lv_at hl 0 rfl) ?_
    refine lv_aload_n hx hb dX0_keep_27 rfl (lv_at hl 0 rfl) ?_
    refine xg_X0_9_3 C0 I dX0_keep_28 ?_
    refine lv_iconst (v := 1) hx hb dX0_keep_31 (by decide) ?_
    refine lv_iadd hx hb dX0_keep_32 ?_
    refine lv_bipush (v := 6) hx hb dX0_keep_33 (by decide) ?_
    refine va_mmin hx hb (C0.2.2.1.trans hl.1.symm) C0.2.2.2.1 (C0.2.2.2.2 _ wd_287) (C0.2.2.2.2 _ wd_288) (C0.2.2.2.2 _ wd_75) (C0.2.2.2.2 _ wd_289) (Nat.le_of_ble_eq_true rfl) (Nat.le_of_ble_eq_true rfl) (Nat.zero_le _) (Nat.zero_le _) dX0_keep_35 ?_
    refine xp_X0_9_3 C0 I dX0_keep_38 (fun H locs I => ?_)
    obtain rfl := se1 hf
    exact xrv C0 hr hk I dX0_keep_41
  · rw [e1] at hf
    refine xa hx hb I b1 e1 dX0_keep_21 ?_
    refine lv_aload_n hx hb dX0_keep_22 rfl (lv_at hl 1 rfl) ?_
    obtain ⟨S2, h2, hf⟩ := bq1_some hf
    refine xcv_v (As := [.ref (g.2.2 1)]) C0 I (kX3_take_4_0 h2) (cwV 1 C0.2.2.2.2 (gwV wd_280 wd_281 wd_282 wd_67 wd_283) rfl rfl rfl dsc_X3_take ⟨Nat.le_of_ble_eq_true rfl, Nat.le_of_ble_eq_true rfl⟩) (xo_11 I) rfl hl.1 rfl (Nat.le_of_ble_eq_true rfl) dX0_keep_23 (fun H locs I => ?_)
    refine lv_aload_n hx hb dX0_keep_26 rfl (lv_at hl 0 rfl) ?_
    refine lv_aload_n hx hb dX0_keep_27 rfl (lv_at hl 0 rfl) ?_
    refine xg_X0_9_3 C0 I dX0_keep_28 ?_
    refine lv_iconst (v := 1) hx hb dX0_keep_31 (by decide) ?_
    refine lv_iadd hx hb dX0_keep_32 ?_
    refine lv_bipush (v := 6) hx hb dX0_keep_33 (by decide) ?_
    refine va_mmin hx hb (C0.2.2.1.trans hl.1.symm) C0.2.2.2.1 (C0.2.2.2.2 _ wd_287) (C0.2.2.2.2 _ wd_288) (C0.2.2.2.2 _ wd_75) (C0.2.2.2.2 _ wd_289) (Nat.le_of_ble_eq_true rfl) (Nat.le_of_ble_eq_true rfl) (Nat.zero_le _) (Nat.zero_le _) dX0_keep_35 ?_
    refine xp_X0_9_3 C0 I dX0_keep_38 (fun H locs I => ?_)
    obtain rfl := se1 hf
    exact xrv C0 hr hk I dX0_keep_41
  · rw [e1] at hf
    refine xa hx hb I b1 e1 dX0_keep_21 ?_
    refine lv_aload_n hx hb dX0_keep_22 rfl (lv_at hl 1 rfl) ?_
    obtain ⟨S2, h2, hf⟩ := bq1_some hf
    refine xcv_v (As := [.ref (g.2.2 1)]) C0 I (kX3_take_5_0 h2) (cwV 1 C0.2.2.2.2 (gwV wd_280 wd_281 wd_282 wd_67 wd_283) rfl rfl rfl dsc_X3_take ⟨Nat.le_of_ble_eq_true rfl, Nat.le_of_ble_eq_true rfl⟩) (xo_13 I) rfl hl.1 rfl (Nat.le_of_ble_eq_true rfl) dX0_keep_23 (fun H locs I => ?_)
    refine lv_aload_n hx hb dX0_keep_26 rfl (lv_at hl 0 rfl) ?_
    refine lv_aload_n hx hb dX0_keep_27 rfl (lv_at hl 0 rfl) ?_
    refine xg_X0_9_3 C0 I dX0_keep_28 ?_
    refine lv_iconst (v := 1) hx hb dX0_keep_31 (by decide) ?_
    refine lv_iadd hx hb dX0_keep_32 ?_
    refine lv_bipush (v := 6) hx hb dX0_keep_33 (by decide) ?_
    refine va_mmin hx hb (C0.2.2.1.trans hl.1.symm) C0.2.2.2.1 (C0.2.2.2.2 _ wd_287) (C0.2.2.2.2 _ wd_288) (C0.2.2.2.2 _ wd_75) (C0.2.2.2.2 _ wd_289) (Nat.le_of_ble_eq_true rfl) (Nat.le_of_ble_eq_true rfl) (Nat.zero_le _) (Nat.zero_le _) dX0_keep_35 ?_
    refine xp_X0_9_3 C0 I dX0_keep_38 (fun H locs I => ?_)
    obtain rfl := se1 hf
    exact xrv C0 hr hk I dX0_keep_41
  · rw [e1] at hf
    refine xa hx hb I b1 e1 dX0_keep_21 ?_
    refine lv_aload_n hx hb dX0_keep_22 rfl (lv_at hl 1 rfl) ?_
    obtain ⟨S2, h2, hf⟩ := bq1_some hf
    refine xcv_v (As := [.ref (g.2.2 1)]) C0 I (kX3_take_6_0 h2) (cwV 1 C0.2.2.2.2 (gwV wd_280 wd_281 wd_282 wd_67 wd_283) rfl rfl rfl dsc_X3_take ⟨Nat.le_of_ble_eq_true rfl, Nat.le_of_ble_eq_true rfl⟩) (xo_15 I) rfl hl.1 rfl (Nat.le_of_ble_eq_true rfl) dX0_keep_23 (fun H locs I => ?_)
    refine lv_aload_n hx hb dX0_keep_26 rfl (lv_at hl 0 rfl) ?_
    refine lv_aload_n hx hb dX0_keep_27 rfl (lv_at hl 0 rfl) ?_
    refine xg_X0_9_3 C0 I dX0_keep_28 ?_
    refine lv_iconst (v := 1) hx hb dX0_keep_31 (by decide) ?_
    refine lv_iadd hx hb dX0_keep_32 ?_
    refine lv_bipush (v := 6) hx hb dX0_keep_33 (by decide) ?_
    refine va_mmin hx hb (C0.2.2.1.trans hl.1.symm) C0.2.2.2.1 (C0.2.2.2.2 _ wd_287) (C0.2.2.2.2 _ wd_288) (C0.2.2.2.2 _ wd_75) (C0.2.2.2.2 _ wd_289) (Nat.le_of_ble_eq_true rfl) (Nat.le_of_ble_eq_true rfl) (Nat.zero_le _) (Nat.zero_le _) dX0_keep_35 ?_
    refine xp_X0_9_3 C0 I dX0_keep_38 (fun H locs I => ?_)
    obtain rfl := se1 hf
    exact xrv C0 hr hk I dX0_keep_41
set_option maxRecDepth 100000 in
theorem kX0_keep   (hf : fX0_keep S  = some S') : Met l yX0_keep (Cond.code yX0_keep cX0_keep 2 none :: big) ({ frames := 2, cells := 0, slots := 0, locals := 61 } : Room) (va_Pc [.ref (g.2.2 3), .ref (g.2.2 1)] (xB g S)) (va_Qv (fun S2 => S2 = S') (xB g) (xA g)) 0 0 (xA g) := by
  refine Met.ofW (cc := cX0_keep) (maxL := 2) (ret := none) (by decide) rfl ?_
  intro p e s m args below meth c s₁ B hml hv
  obtain ⟨rfl, hP, hK, hD⟩ := hv
  have hts0 := atoms_spec (ws := (Cond.code yX0_keep cX0_keep 2 none :: big)) B.pre
  have C0 : CallFix p m c cX0_keep 2 s _ big RX0 := ⟨B.exec, B.bytes, hml, findClass_of_methodNamed B.named, fun w h => hts0 w (List.mem_cons_of_mem _ h)⟩
  have I : xI g s S s.heap [] := ⟨hK, hP, hD, va_S.rf⟩
  have hl := lv_entry ([.ref (g.2.2 3), .ref (g.2.2 1)]) (n := 2) (Nat.le_of_ble_eq_true rfl)
  rw [lg_entry_eq]
  generalize (lg_sl ([.ref (g.2.2 3), .ref (g.2.2 1)]) ++ List.replicate (2 - (lg_sl ([.ref (g.2.2 3), .ref (g.2.2 1)])).length) Slot.unset).toArray = ls at hl ⊢
  have hl : lv_has ls 2 [(0, .ref (g.2.2 3)), (1, .ref (g.2.2 1))] := hl
  exact tX0_keep_0 C0 B.returns B.notSynchronized hf I (lv_sub hl [0, 1] rfl)
set_option maxHeartbeats 4000000 in
set_option maxRecDepth 100000 in
theorem tX6_sides_10 (C0 : CallFix p m c cX6_sides 3 s args big RX6) (hr : meth.sig.returnType = (some .int)) (hk : meth.locks = false)  {rr : Int32}  (hf : fX6_sides_10 S = some (rr, S')) (I : xI g s S H locs) (hl : lv_has ls 3 [(0, .ref (g.2.2 0))]) : W p l e ({ frames := 3, cells := 0, slots := 0, locals := 82 } : Room) s m args below meth c H locs 0 0 (MQ below (va_Qi (fun r' S2 => r' = rr ∧ S2 = S') (xB g) (xA g)) args s 0 0 (xA g)) (F0 m 10 ls []) := by
  obtain ⟨hx, hb, hml, -, -⟩ := id C0
  unfold fX6_sides_10 at hf
  refine lv_aload_n hx hb dX6_sides_10 rfl (lv_at hl 0 rfl) ?_
  refine lv_bipush (v := -2) hx hb dX6_sides_11 (by decide) ?_
  obtain ⟨r2, S2, h2, hf⟩ := bq2_some hf
  refine xcv_i (As := [.int (-2 : Int32)]) C0 I (kX6_refuse h2) (cwV 1 C0.2.2.2.2 (gwV wd_272 wd_274 wd_0 wd_66 wd_275) rfl rfl rfl dsc_X6_refuse ⟨Nat.le_of_ble_eq_true rfl, Nat.le_of_ble_eq_true rfl⟩) (xo_0 I) rfl hl.1 rfl (Nat.le_of_ble_eq_true rfl) dX6_sides_13 (fun H locs I => ?_)
  obtain ⟨rfl, rfl⟩ := se2 hf
  exact xri C0 hr hk I dX6_sides_16
set_option maxHeartbeats 4000000 in
set_option maxRecDepth 100000 in
theorem tX6_sides_0 (C0 : CallFix p m c cX6_sides 3 s args big RX6) (hr : meth.sig.returnType = (some .int)) (hk : meth.locks = false) {x1 : Int32} {rr : Int32}  (hf : fX6_sides S x1 = some (rr, S')) (I : xI g s S H locs) (hl : lv_has ls 3 [(0, .ref (g.2.2 0)), (1, .int x1)]) : W p l e ({ frames := 3, cells := 0, slots := 0, locals := 82 } : Room) s m args below meth c H locs 0 0 (MQ below (va_Qi (fun r' S2 => r' = rr ∧ S2 = S') (xB g) (xA g)) args s 0 0 (xA g)) (F0 m 0 ls []) := by
  obtain ⟨hx, hb, hml, -, -⟩ := id C0
  unfold fX6_sides at hf
  refine lv_iload_n hx hb dX6_sides_0 rfl (lv_at hl 1 rfl) ?_
  refine lv_iconst (v := 1) hx hb dX6_sides_1 (by decide) ?_
  refine lv_icmp_lt (tgt := 10) hx hb dX6_sides_2 (by decide) (fun c1 => ?_) (fun c1 => ?_)
  · have hf := ip c1 hf
    exact tX6_sides_10 C0 hr hk hf I (lv_sub hl [0] rfl)
  · have hf := inn c1 hf
    refine lv_iload_n hx hb dX6_sides_5 rfl (lv_at hl 1 rfl) ?_
    refine lv_iconst (v := 4) hx hb dX6_sides_6 (by decide) ?_
    refine lv_icmp_le (tgt := 17) hx hb dX6_sides_7 (by decide) (fun c3 => ?_) (fun c3 => ?_)
    · have hf := ip c3 hf
      refine lv_aload_n hx hb dX6_sides_17 rfl (lv_at hl 0 rfl) ?_
      refine xg_X6_19_0 C0 I dX6_sides_18 ?_
      refine lv_aload_n hx hb dX6_sides_21 rfl (lv_at hl 0 rfl) ?_
      refine xg_X6_10_0 C0 I dX6_sides_22 ?_
      obtain ⟨S4, h4, hf⟩ := bq1_some hf
      refine xcv_v (As := [.ref (g.2.2 1)]) C0 I (kX0_keep h4) (cwV 1 C0.2.2.2.2 (gwV wd_276 wd_277 wd_278 wd_68 wd_279) rfl rfl rfl dsc_X0_keep ⟨Nat.le_of_ble_eq_true rfl, Nat.le_of_ble_eq_true rfl⟩) (xo_3 I) rfl hl.1 rfl (Nat.le_of_ble_eq_true rfl) dX6_sides_25 (fun H locs I => ?_)
      refine lv_aload_n hx hb dX6_sides_28 rfl (lv_at hl 0 rfl) ?_
      refine xg_X6_10_0 C0 I dX6_sides_29 ?_
      refine xg_X6_70_1 C0 I dX6_sides_32 ?_
      refine lv_istore_n (lv' := [(2, .int (gF S4 0)), (0, .ref (g.2.2 0)), (1, .int x1)]) hx hb dX6_sides_35 rfl hl (by decide) rfl (fun ls hl => ?_)
      refine lv_aload_n hx hb dX6_sides_36 rfl (lv_at hl 1 rfl) ?_
      refine xg_X6_10_0 C0 I dX6_sides_37 ?_
      refine lv_iload_n hx hb dX6_sides_40 rfl (lv_at hl 2 rfl) ?_
      refine xp_X6_70_1 C0 I dX6_sides_41 (fun H locs I => ?_)
      refine lv_aload_n hx hb dX6_sides_44 rfl (lv_at hl 1 rfl) ?_
      refine xg_X6_10_0 C0 I dX6_sides_45 ?_
      refine lv_iconst (v := 0) hx hb dX6_sides_48 (by decide) ?_
      refine xp_X6_73_1 C0 I dX6_sides_49 (fun H locs I => ?_)
      refine lv_iload_n hx hb dX6_sides_52 rfl (lv_at hl 0 rfl) ?_
      obtain ⟨rfl, rfl⟩ := se2 hf
      exact xri C0 hr hk I dX6_sides_53
    · have hf := inn c3 hf
      exact tX6_sides_10 C0 hr hk hf I (lv_sub hl [0] rfl)
set_option maxRecDepth 100000 in
theorem kX6_sides {x1 : Int32} {rr : Int32} (hf : fX6_sides S x1 = some (rr, S')) : Met l yX6_sides (Cond.code yX6_sides cX6_sides 3 (some .int) :: big) ({ frames := 3, cells := 0, slots := 0, locals := 82 } : Room) (va_Pc [.ref (g.2.2 0), .int x1] (xB g S)) (va_Qi (fun r' S2 => r' = rr ∧ S2 = S') (xB g) (xA g)) 0 0 (xA g) := by
  refine Met.ofW (cc := cX6_sides) (maxL := 3) (ret := (some .int)) (by decide) rfl ?_
  intro p e s m args below meth c s₁ B hml hv
  obtain ⟨rfl, hP, hK, hD⟩ := hv
  have hts0 := atoms_spec (ws := (Cond.code yX6_sides cX6_sides 3 (some .int) :: big)) B.pre
  have C0 : CallFix p m c cX6_sides 3 s _ big RX6 := ⟨B.exec, B.bytes, hml, findClass_of_methodNamed B.named, fun w h => hts0 w (List.mem_cons_of_mem _ h)⟩
  have I : xI g s S s.heap [] := ⟨hK, hP, hD, va_S.rf⟩
  have hl := lv_entry ([.ref (g.2.2 0), .int x1]) (n := 3) (Nat.le_of_ble_eq_true rfl)
  rw [lg_entry_eq]
  generalize (lg_sl ([.ref (g.2.2 0), .int x1]) ++ List.replicate (3 - (lg_sl ([.ref (g.2.2 0), .int x1])).length) Slot.unset).toArray = ls at hl ⊢
  have hl : lv_has ls 3 [(0, .ref (g.2.2 0)), (1, .int x1)] := hl
  exact tX6_sides_0 C0 B.returns B.notSynchronized hf I (lv_sub hl [0, 1] rfl)
set_option maxHeartbeats 4000000 in
set_option maxRecDepth 100000 in
theorem tX3_corners_0 (C0 : CallFix p m c cX3_corners 1 s args big RX3) (hr : meth.sig.returnType = (some .int)) (hk : meth.locks = false)  {rr : Int32}  (hf : fX3_corners S = some rr) (I : xI g s S H locs) (hl : lv_has ls 1 [(0, .ref (g.2.2 1))]) : W p l e ({ frames := 0, cells := 0, slots := 0, locals := 0 } : Room) s m args below meth c H locs 0 0 (MQ below (va_Qi (fun r' S2 => r' = rr ∧ S2 = S) (xB g) (xA g)) args s 0 0 (xA g)) (F0 m 0 ls []) := by
  obtain ⟨hx, hb, hml, -, -⟩ := id C0
  unfold fX3_corners at hf
  refine lv_iconst (v := 1) hx hb dX3_corners_0 (by decide) ?_
  refine lv_aload_n hx hb dX3_corners_1 rfl (lv_at hl 0 rfl) ?_
  refine xg_X3_9_1 C0 I dX3_corners_2 ?_
  refine lv_ishl hx hb dX3_corners_5 ?_
  obtain rfl := se1 hf
  exact xri C0 hr hk I dX3_corners_6
set_option maxRecDepth 100000 in
theorem kX3_corners  {rr : Int32} (hf : fX3_corners S  = some rr) : Met l yX3_corners (Cond.code yX3_corners cX3_corners 1 (some .int) :: big) ({ frames := 0, cells := 0, slots := 0, locals := 0 } : Room) (va_Pc [.ref (g.2.2 1)] (xB g S)) (va_Qi (fun r' S2 => r' = rr ∧ S2 = S) (xB g) (xA g)) 0 0 (xA g) := by
  refine Met.ofW (cc := cX3_corners) (maxL := 1) (ret := (some .int)) (by decide) rfl ?_
  intro p e s m args below meth c s₁ B hml hv
  obtain ⟨rfl, hP, hK, hD⟩ := hv
  have hts0 := atoms_spec (ws := (Cond.code yX3_corners cX3_corners 1 (some .int) :: big)) B.pre
  have C0 : CallFix p m c cX3_corners 1 s _ big RX3 := ⟨B.exec, B.bytes, hml, findClass_of_methodNamed B.named, fun w h => hts0 w (List.mem_cons_of_mem _ h)⟩
  have I : xI g s S s.heap [] := ⟨hK, hP, hD, va_S.rf⟩
  have hl := lv_entry ([.ref (g.2.2 1)]) (n := 1) (Nat.le_of_ble_eq_true rfl)
  rw [lg_entry_eq]
  generalize (lg_sl ([.ref (g.2.2 1)]) ++ List.replicate (1 - (lg_sl ([.ref (g.2.2 1)])).length) Slot.unset).toArray = ls at hl ⊢
  have hl : lv_has ls 1 [(0, .ref (g.2.2 1))] := hl
  exact tX3_corners_0 C0 B.returns B.notSynchronized hf I (lv_sub hl [0] rfl)
set_option maxHeartbeats 4000000 in
set_option maxRecDepth 100000 in
theorem tX3_allows_19 (C0 : CallFix p m c cX3_allows 3 s args big RX3) (hr : meth.sig.returnType = (some .boolean)) (hk : meth.locks = false) {s0 : Int32} {s1 : Int32} {rr : Int32}  (hf : fX3_allows_19 s0 s1 = some rr) (I : xI g s S H locs) (hl : lv_has ls 3 []) : W p l e ({ frames := 1, cells := 0, slots := 0, locals := 20 } : Room) s m args below meth c H locs 0 0 (MQ below (va_Qi (fun r' S2 => r' = rr ∧ S2 = S) (xB g) (xA g)) args s 0 0 (xA g)) (F0 m 19 ls [.int s0, .int s1]) := by
  obtain ⟨hx, hb, hml, -, -⟩ := id C0
  unfold fX3_allows_19 at hf
  refine lv_icmp_ge (tgt := 26) hx hb dX3_allows_19 (by decide) (fun c4 => ?_) (fun c4 => ?_)
  · have hf := ip c4 hf
    refine lv_iconst (v := 0) hx hb dX3_allows_26 (by decide) ?_
    obtain rfl := se1 hf
    exact xrz C0 hr hk rfl I dX3_allows_27
  · have hf := inn c4 hf
    refine lv_iconst (v := 1) hx hb dX3_allows_22 (by decide) ?_
    refine lv_goto (tgt := 27) hx hb dX3_allows_23 (by decide) ?_
    obtain rfl := se1 hf
    exact xrz C0 hr hk rfl I dX3_allows_27
set_option maxHeartbeats 4000000 in
set_option maxRecDepth 100000 in
theorem tX3_allows_0 (C0 : CallFix p m c cX3_allows 3 s args big RX3) (hr : meth.sig.returnType = (some .boolean)) (hk : meth.locks = false) {x1 : Int32} {x2 : Int32} {rr : Int32}  (hf : fX3_allows S x1 x2 = some rr) (I : xI g s S H locs) (hl : lv_has ls 3 [(0, .ref (g.2.2 1)), (1, .int x1), (2, .int x2)]) : W p l e ({ frames := 1, cells := 0, slots := 0, locals := 20 } : Room) s m args below meth c H locs 0 0 (MQ below (va_Qi (fun r' S2 => r' = rr ∧ S2 = S) (xB g) (xA g)) args s 0 0 (xA g)) (F0 m 0 ls []) := by
  obtain ⟨hx, hb, hml, -, -⟩ := id C0
  unfold fX3_allows at hf
  refine lv_iload_n hx hb dX3_allows_0 rfl (lv_at hl 2 rfl) ?_
  refine lv_if_lt (tgt := 26) hx hb dX3_allows_1 (by decide) (fun c1 => ?_) (fun c1 => ?_)
  · have hf := ip c1 hf
    refine lv_iconst (v := 0) hx hb dX3_allows_26 (by decide) ?_
    obtain rfl := se1 hf
    exact xrz C0 hr hk rfl I dX3_allows_27
  · have hf := inn c1 hf
    refine lv_iload_n hx hb dX3_allows_4 rfl (lv_at hl 2 rfl) ?_
    refine lv_iload_n hx hb dX3_allows_5 rfl (lv_at hl 1 rfl) ?_
    refine lv_iconst (v := 3) hx hb dX3_allows_6 (by decide) ?_
    refine lv_icmp_ne (tgt := 15) hx hb dX3_allows_7 (by decide) (fun c2 => ?_) (fun c2 => ?_)
    · have hf := inn c2 hf
      refine lv_aload_n hx hb dX3_allows_15 rfl (lv_at hl 0 rfl) ?_
      obtain ⟨r3, h3, hf⟩ := bq1_some hf
      refine xcv_i (As := []) C0 I (kX3_corners h3) (cwV 0 C0.2.2.2.2 (gwV wd_298 wd_299 wd_300 wd_67 wd_301) rfl rfl rfl dsc_X3_corners ⟨Nat.le_of_ble_eq_true rfl, Nat.le_of_ble_eq_true rfl⟩) (xo_1 I) rfl hl.1 rfl (Nat.le_of_ble_eq_true rfl) dX3_allows_16 (fun H locs I => ?_)
      exact tX3_allows_19 C0 hr hk hf I (lv_sub hl [] rfl)
    · have hf := ip c2 hf
      refine lv_bipush (v := 100) hx hb dX3_allows_10 (by decide) ?_
      refine lv_goto (tgt := 19) hx hb dX3_allows_12 (by decide) ?_
      exact tX3_allows_19 C0 hr hk hf I (lv_sub hl [] rfl)
set_option maxRecDepth 100000 in
theorem kX3_allows {x1 : Int32} {x2 : Int32} {rr : Int32} (hf : fX3_allows S x1 x2 = some rr) : Met l yX3_allows (Cond.code yX3_allows cX3_allows 3 (some .boolean) :: big) ({ frames := 1, cells := 0, slots := 0, locals := 20 } : Room) (va_Pc [.ref (g.2.2 1), .int x1, .int x2] (xB g S)) (va_Qi (fun r' S2 => r' = rr ∧ S2 = S) (xB g) (xA g)) 0 0 (xA g) := by
  refine Met.ofW (cc := cX3_allows) (maxL := 3) (ret := (some .boolean)) (by decide) rfl ?_
  intro p e s m args below meth c s₁ B hml hv
  obtain ⟨rfl, hP, hK, hD⟩ := hv
  have hts0 := atoms_spec (ws := (Cond.code yX3_allows cX3_allows 3 (some .boolean) :: big)) B.pre
  have C0 : CallFix p m c cX3_allows 3 s _ big RX3 := ⟨B.exec, B.bytes, hml, findClass_of_methodNamed B.named, fun w h => hts0 w (List.mem_cons_of_mem _ h)⟩
  have I : xI g s S s.heap [] := ⟨hK, hP, hD, va_S.rf⟩
  have hl := lv_entry ([.ref (g.2.2 1), .int x1, .int x2]) (n := 3) (Nat.le_of_ble_eq_true rfl)
  rw [lg_entry_eq]
  generalize (lg_sl ([.ref (g.2.2 1), .int x1, .int x2]) ++ List.replicate (3 - (lg_sl ([.ref (g.2.2 1), .int x1, .int x2])).length) Slot.unset).toArray = ls at hl ⊢
  have hl : lv_has ls 3 [(0, .ref (g.2.2 1)), (1, .int x1), (2, .int x2)] := hl
  exact tX3_allows_0 C0 B.returns B.notSynchronized hf I (lv_sub hl [0, 1, 2] rfl)
set_option maxHeartbeats 4000000 in
set_option maxRecDepth 100000 in
theorem tX3_change_0 (C0 : CallFix p m c cX3_change 4 s args big RX3) (hr : meth.sig.returnType = none) (hk : meth.locks = false) {x1 : Int32} {x2 : Int32} {x3 : Int32}  (hf : fX3_change S x1 x2 x3 = some S') (I : xI g s S H locs) (hl : lv_has ls 4 [(0, .ref (g.2.2 1)), (1, .int x1), (2, .int x2), (3, .int x3)]) : W p l e ({ frames := 0, cells := 0, slots := 0, locals := 0 } : Room) s m args below meth c H locs 0 0 (MQ below (va_Qv (fun S2 => S2 = S') (xB g) (xA g)) args s 0 0 (xA g)) (F0 m 0 ls []) := by
  obtain ⟨hx, hb, hml, -, -⟩ := id C0
  unfold fX3_change at hf
  refine lv_aload_n hx hb dX3_change_0 rfl (lv_at hl 0 rfl) ?_
  refine xg_X3_24_1 C0 I dX3_change_1 ?_
  refine lv_iload_n hx hb dX3_change_4 rfl (lv_at hl 1 rfl) ?_
  refine lv_iconst (v := 4) hx hb dX3_change_5 (by decide) ?_
  refine lv_imul hx hb dX3_change_6 ?_
  refine lv_iload_n hx hb dX3_change_7 rfl (lv_at hl 2 rfl) ?_
  refine lv_iadd hx hb dX3_change_8 ?_
  refine lv_iload_n hx hb dX3_change_9 rfl (lv_at hl 3 rfl) ?_
  obtain ⟨b1, hf⟩ := chk_some hf
  refine xs_2 hx hb I b1 dX3_change_10 (fun H locs I => ?_)
  obtain rfl := se1 hf
  exact xrv C0 hr hk I dX3_change_11
set_option maxRecDepth 100000 in
theorem kX3_change {x1 : Int32} {x2 : Int32} {x3 : Int32}  (hf : fX3_change S x1 x2 x3 = some S') : Met l yX3_change (Cond.code yX3_change cX3_change 4 none :: big) ({ frames := 0, cells := 0, slots := 0, locals := 0 } : Room) (va_Pc [.ref (g.2.2 1), .int x1, .int x2, .int x3] (xB g S)) (va_Qv (fun S2 => S2 = S') (xB g) (xA g)) 0 0 (xA g) := by
  refine Met.ofW (cc := cX3_change) (maxL := 4) (ret := none) (by decide) rfl ?_
  intro p e s m args below meth c s₁ B hml hv
  obtain ⟨rfl, hP, hK, hD⟩ := hv
  have hts0 := atoms_spec (ws := (Cond.code yX3_change cX3_change 4 none :: big)) B.pre
  have C0 : CallFix p m c cX3_change 4 s _ big RX3 := ⟨B.exec, B.bytes, hml, findClass_of_methodNamed B.named, fun w h => hts0 w (List.mem_cons_of_mem _ h)⟩
  have I : xI g s S s.heap [] := ⟨hK, hP, hD, va_S.rf⟩
  have hl := lv_entry ([.ref (g.2.2 1), .int x1, .int x2, .int x3]) (n := 4) (Nat.le_of_ble_eq_true rfl)
  rw [lg_entry_eq]
  generalize (lg_sl ([.ref (g.2.2 1), .int x1, .int x2, .int x3]) ++ List.replicate (4 - (lg_sl ([.ref (g.2.2 1), .int x1, .int x2, .int x3])).length) Slot.unset).toArray = ls at hl ⊢
  have hl : lv_has ls 4 [(0, .ref (g.2.2 1)), (1, .int x1), (2, .int x2), (3, .int x3)] := hl
  exact tX3_change_0 C0 B.returns B.notSynchronized hf I (lv_sub hl [0, 1, 2, 3] rfl)
set_option maxHeartbeats 4000000 in
set_option maxRecDepth 100000 in
theorem tX3_add_0 (C0 : CallFix p m c cX3_add 5 s args big RX3) (hr : meth.sig.returnType = none) (hk : meth.locks = false) {x1 : Int32} {x2 : Int32} {x3 : Int32} {x4 : Int32}  (hf : fX3_add S x1 x2 x3 x4 = some S') (I : xI g s S H locs) (hl : lv_has ls 5 [(0, .ref (g.2.2 1)), (1, .int x1), (2, .int x2), (3, .int x3), (4, .int x4)]) : W p l e ({ frames := 1, cells := 0, slots := 0, locals := 23 } : Room) s m args below meth c H locs 0 0 (MQ below (va_Qv (fun S2 => S2 = S') (xB g) (xA g)) args s 0 0 (xA g)) (F0 m 0 ls []) := by
  obtain ⟨hx, hb, hml, -, -⟩ := id C0
  unfold fX3_add at hf
  refine lv_aload_n hx hb dX3_add_0 rfl (lv_at hl 0 rfl) ?_
  refine xg_X3_21_1 C0 I dX3_add_1 ?_
  refine lv_bipush (v := 16) hx hb dX3_add_4 (by decide) ?_
  refine lv_icmp_lt (tgt := 10) hx hb dX3_add_6 (by decide) (fun c1 => ?_) (fun c1 => ?_)
  · have hf := ip c1 hf
    refine lv_aload_n hx hb dX3_add_10 rfl (lv_at hl 0 rfl) ?_
    refine lv_aload_n hx hb dX3_add_11 rfl (lv_at hl 0 rfl) ?_
    refine xg_X3_21_1 C0 I dX3_add_12 ?_
    refine lv_iconst (v := 0) hx hb dX3_add_15 (by decide) ?_
    refine lv_iload_n hx hb dX3_add_16 rfl (lv_at hl 1 rfl) ?_
    obtain ⟨S2, h2, hf⟩ := bq1_some hf
    refine xcv_v (As := [.int (gF S 3), .int (0 : Int32), .int x1]) C0 I (kX3_change h2) (cwV 3 C0.2.2.2.2 (gwV wd_306 wd_307 wd_308 wd_67 wd_309) rfl rfl rfl dsc_X3_change ⟨Nat.le_of_ble_eq_true rfl, Nat.le_of_ble_eq_true rfl⟩) (xo_1 I) rfl hl.1 rfl (Nat.le_of_ble_eq_true rfl) dX3_add_17 (fun H locs I => ?_)
    refine lv_aload_n hx hb dX3_add_20 rfl (lv_at hl 0 rfl) ?_
    refine lv_aload_n hx hb dX3_add_21 rfl (lv_at hl 0 rfl) ?_
    refine xg_X3_21_1 C0 I dX3_add_22 ?_
    refine lv_iconst (v := 1) hx hb dX3_add_25 (by decide) ?_
    refine lv_iload_n hx hb dX3_add_26 rfl (lv_at hl 2 rfl) ?_
    obtain ⟨S3, h3, hf⟩ := bq1_some hf
    refine xcv_v (As := [.int (gF S2 3), .int (1 : Int32), .int x2]) C0 I (kX3_change h3) (cwV 3 C0.2.2.2.2 (gwV wd_306 wd_307 wd_308 wd_67 wd_309) rfl rfl rfl dsc_X3_change ⟨Nat.le_of_ble_eq_true rfl, Nat.le_of_ble_eq_true rfl⟩) (xo_1 I) rfl hl.1 rfl (Nat.le_of_ble_eq_true rfl) dX3_add_27 (fun H locs I => ?_)
    refine lv_aload_n hx hb dX3_add_30 rfl (lv_at hl 0 rfl) ?_
    refine lv_aload_n hx hb dX3_add_31 rfl (lv_at hl 0 rfl) ?_
    refine xg_X3_21_1 C0 I dX3_add_32 ?_
    refine lv_iconst (v := 2) hx hb dX3_add_35 (by decide) ?_
    refine lv_iload_n hx hb dX3_add_36 rfl (lv_at hl 3 rfl) ?_
    obtain ⟨S4, h4, hf⟩ := bq1_some hf
    refine xcv_v (As := [.int (gF S3 3), .int (2 : Int32), .int x3]) C0 I (kX3_change h4) (cwV 3 C0.2.2.2.2 (gwV wd_306 wd_307 wd_308 wd_67 wd_309) rfl rfl rfl dsc_X3_change ⟨Nat.le_of_ble_eq_true rfl, Nat.le_of_ble_eq_true rfl⟩) (xo_1 I) rfl hl.1 rfl (Nat.le_of_ble_eq_true rfl) dX3_add_37 (fun H locs I => ?_)
    refine lv_aload_n hx hb dX3_add_40 rfl (lv_at hl 0 rfl) ?_
    refine lv_aload_n hx hb dX3_add_41 rfl (lv_at hl 0 rfl) ?_
    refine xg_X3_21_1 C0 I dX3_add_42 ?_
    refine lv_iconst (v := 3) hx hb dX3_add_45 (by decide) ?_
    refine lv_iload hx hb dX3_add_46 (lv_at hl 4 rfl) ?_
    obtain ⟨S5, h5, hf⟩ := bq1_some hf
    refine xcv_v (As := [.int (gF S4 3), .int (3 : Int32), .int x4]) C0 I (kX3_change h5) (cwV 3 C0.2.2.2.2 (gwV wd_306 wd_307 wd_308 wd_67 wd_309) rfl rfl rfl dsc_X3_change ⟨Nat.le_of_ble_eq_true rfl, Nat.le_of_ble_eq_true rfl⟩) (xo_1 I) rfl hl.1 rfl (Nat.le_of_ble_eq_true rfl) dX3_add_48 (fun H locs I => ?_)
    refine lv_aload_n hx hb dX3_add_51 rfl (lv_at hl 0 rfl) ?_
    refine lv_dup hx hb dX3_add_52 rfl ?_
    refine xg_X3_21_1 C0 I dX3_add_53 ?_
    refine lv_iconst (v := 1) hx hb dX3_add_56 (by decide) ?_
    refine lv_iadd hx hb dX3_add_57 ?_
    refine xp_X3_21_1 C0 I dX3_add_58 (fun H locs I => ?_)
    obtain rfl := se1 hf
    exact xrv C0 hr hk I dX3_add_61
  · have hf := inn c1 hf
    obtain rfl := se1 hf
    exact xrv C0 hr hk I dX3_add_9
set_option maxRecDepth 100000 in
theorem kX3_add {x1 : Int32} {x2 : Int32} {x3 : Int32} {x4 : Int32}  (hf : fX3_add S x1 x2 x3 x4 = some S') : Met l yX3_add (Cond.code yX3_add cX3_add 5 none :: big) ({ frames := 1, cells := 0, slots := 0, locals := 23 } : Room) (va_Pc [.ref (g.2.2 1), .int x1, .int x2, .int x3, .int x4] (xB g S)) (va_Qv (fun S2 => S2 = S') (xB g) (xA g)) 0 0 (xA g) := by
  refine Met.ofW (cc := cX3_add) (maxL := 5) (ret := none) (by decide) rfl ?_
  intro p e s m args below meth c s₁ B hml hv
  obtain ⟨rfl, hP, hK, hD⟩ := hv
  have hts0 := atoms_spec (ws := (Cond.code yX3_add cX3_add 5 none :: big)) B.pre
  have C0 : CallFix p m c cX3_add 5 s _ big RX3 := ⟨B.exec, B.bytes, hml, findClass_of_methodNamed B.named, fun w h => hts0 w (List.mem_cons_of_mem _ h)⟩
  have I : xI g s S s.heap [] := ⟨hK, hP, hD, va_S.rf⟩
  have hl := lv_entry ([.ref (g.2.2 1), .int x1, .int x2, .int x3, .int x4]) (n := 5) (Nat.le_of_ble_eq_true rfl)
  rw [lg_entry_eq]
  generalize (lg_sl ([.ref (g.2.2 1), .int x1, .int x2, .int x3, .int x4]) ++ List.replicate (5 - (lg_sl ([.ref (g.2.2 1), .int x1, .int x2, .int x3, .int x4])).length) Slot.unset).toArray = ls at hl ⊢
  have hl : lv_has ls 5 [(0, .ref (g.2.2 1)), (1, .int x1), (2, .int x2), (3, .int x3), (4, .int x4)] := hl
  exact tX3_add_0 C0 B.returns B.notSynchronized hf I (lv_sub hl [0, 1, 2, 3, 4] rfl)
set_option maxHeartbeats 4000000 in
set_option maxRecDepth 100000 in
theorem tX6_parcel_49 (C0 : CallFix p m c cX6_parcel 5 s args big RX6) (hr : meth.sig.returnType = (some .int)) (hk : meth.locks = false)  {rr : Int32}  (hf : fX6_parcel_49 S = some (rr, S')) (I : xI g s S H locs) (hl : lv_has ls 5 [(0, .ref (g.2.2 0))]) : W p l e ({ frames := 3, cells := 0, slots := 0, locals := 82 } : Room) s m args below meth c H locs 0 0 (MQ below (va_Qi (fun r' S2 => r' = rr ∧ S2 = S') (xB g) (xA g)) args s 0 0 (xA g)) (F0 m 49 ls []) := by
  obtain ⟨hx, hb, hml, -, -⟩ := id C0
  unfold fX6_parcel_49 at hf
  refine lv_aload_n hx hb dX6_parcel_49 rfl (lv_at hl 0 rfl) ?_
  refine lv_bipush (v := -2) hx hb dX6_parcel_50 (by decide) ?_
  obtain ⟨r3, S3, h3, hf⟩ := bq2_some hf
  refine xcv_i (As := [.int (-2 : Int32)]) C0 I (kX6_refuse h3) (cwV 1 C0.2.2.2.2 (gwV wd_272 wd_274 wd_0 wd_66 wd_275) rfl rfl rfl dsc_X6_refuse ⟨Nat.le_of_ble_eq_true rfl, Nat.le_of_ble_eq_true rfl⟩) (xo_0 I) rfl hl.1 rfl (Nat.le_of_ble_eq_true rfl) dX6_parcel_52 (fun H locs I => ?_)
  obtain ⟨rfl, rfl⟩ := se2 hf
  exact xri C0 hr hk I dX6_parcel_55
set_option maxHeartbeats 4000000 in
set_option maxRecDepth 100000 in
theorem tX6_parcel_0 (C0 : CallFix p m c cX6_parcel 5 s args big RX6) (hr : meth.sig.returnType = (some .int)) (hk : meth.locks = false) {x1 : Int32} {x2 : Int32} {x3 : Int32} {x4 : Int32} {rr : Int32}  (hf : fX6_parcel S x1 x2 x3 x4 = some (rr, S')) (I : xI g s S H locs) (hl : lv_has ls 5 [(0, .ref (g.2.2 0)), (1, .int x1), (2, .int x2), (3, .int x3), (4, .int x4)]) : W p l e ({ frames := 3, cells := 0, slots := 0, locals := 82 } : Room) s m args below meth c H locs 0 0 (MQ below (va_Qi (fun r' S2 => r' = rr ∧ S2 = S') (xB g) (xA g)) args s 0 0 (xA g)) (F0 m 0 ls []) := by
  obtain ⟨hx, hb, hml, -, -⟩ := id C0
  unfold fX6_parcel at hf
  refine lv_aload_n hx hb dX6_parcel_0 rfl (lv_at hl 0 rfl) ?_
  refine xg_X6_10_0 C0 I dX6_parcel_1 ?_
  refine lv_iconst (v := 0) hx hb dX6_parcel_4 (by decide) ?_
  refine lv_iload_n hx hb dX6_parcel_5 rfl (lv_at hl 1 rfl) ?_
  obtain ⟨r1, h1, hf⟩ := bq1_some hf
  refine xcv_i (As := [.int (0 : Int32), .int x1]) C0 I (kX3_allows h1) (cwV 2 C0.2.2.2.2 (gwV wd_294 wd_295 wd_296 wd_67 wd_297) rfl rfl rfl dsc_X3_allows ⟨Nat.le_of_ble_eq_true rfl, Nat.le_of_ble_eq_true rfl⟩) (xo_1 I) rfl hl.1 rfl (Nat.le_of_ble_eq_true rfl) dX6_parcel_6 (fun H locs I => ?_)
  refine lv_if_eq (tgt := 49) hx hb dX6_parcel_9 (by decide) (fun c2 => ?_) (fun c2 => ?_)
  · have hf := ip c2 hf
    exact tX6_parcel_49 C0 hr hk hf I (lv_sub hl [0] rfl)
  · have hf := inn c2 hf
    refine lv_aload_n hx hb dX6_parcel_12 rfl (lv_at hl 0 rfl) ?_
    refine xg_X6_10_0 C0 I dX6_parcel_13 ?_
    refine lv_iconst (v := 1) hx hb dX6_parcel_16 (by decide) ?_
    refine lv_iload_n hx hb dX6_parcel_17 rfl (lv_at hl 2 rfl) ?_
    obtain ⟨r4, h4, hf⟩ := bq1_some hf
    refine xcv_i (As := [.int (1 : Int32), .int x2]) C0 I (kX3_allows h4) (cwV 2 C0.2.2.2.2 (gwV wd_294 wd_295 wd_296 wd_67 wd_297) rfl rfl rfl dsc_X3_allows ⟨Nat.le_of_ble_eq_true rfl, Nat.le_of_ble_eq_true rfl⟩) (xo_1 I) rfl hl.1 rfl (Nat.le_of_ble_eq_true rfl) dX6_parcel_18 (fun H locs I => ?_)
    refine lv_if_eq (tgt := 49) hx hb dX6_parcel_21 (by decide) (fun c5 => ?_) (fun c5 => ?_)
    · have hf := ip c5 hf
      exact tX6_parcel_49 C0 hr hk hf I (lv_sub hl [0] rfl)
    · have hf := inn c5 hf
      refine lv_aload_n hx hb dX6_parcel_24 rfl (lv_at hl 0 rfl) ?_
      refine xg_X6_10_0 C0 I dX6_parcel_25 ?_
      refine lv_iconst (v := 2) hx hb dX6_parcel_28 (by decide) ?_
      refine lv_iload_n hx hb dX6_parcel_29 rfl (lv_at hl 3 rfl) ?_
      obtain ⟨r6, h6, hf⟩ := bq1_some hf
      refine xcv_i (As := [.int (2 : Int32), .int x3]) C0 I (kX3_allows h6) (cwV 2 C0.2.2.2.2 (gwV wd_294 wd_295 wd_296 wd_67 wd_297) rfl rfl rfl dsc_X3_allows ⟨Nat.le_of_ble_eq_true rfl, Nat.le_of_ble_eq_true rfl⟩) (xo_1 I) rfl hl.1 rfl (Nat.le_of_ble_eq_true rfl) dX6_parcel_30 (fun H locs I => ?_)
      refine lv_if_eq (tgt := 49) hx hb dX6_parcel_33 (by decide) (fun c7 => ?_) (fun c7 => ?_)
      · have hf := ip c7 hf
        exact tX6_parcel_49 C0 hr hk hf I (lv_sub hl [0] rfl)
      · have hf := inn c7 hf
        refine lv_aload_n hx hb dX6_parcel_36 rfl (lv_at hl 0 rfl) ?_
        refine xg_X6_10_0 C0 I dX6_parcel_37 ?_
        refine lv_iconst (v := 3) hx hb dX6_parcel_40 (by decide) ?_
        refine lv_iload hx hb dX6_parcel_41 (lv_at hl 4 rfl) ?_
        obtain ⟨r8, h8, hf⟩ := bq1_some hf
        refine xcv_i (As := [.int (3 : Int32), .int x4]) C0 I (kX3_allows h8) (cwV 2 C0.2.2.2.2 (gwV wd_294 wd_295 wd_296 wd_67 wd_297) rfl rfl rfl dsc_X3_allows ⟨Nat.le_of_ble_eq_true rfl, Nat.le_of_ble_eq_true rfl⟩) (xo_1 I) rfl hl.1 rfl (Nat.le_of_ble_eq_true rfl) dX6_parcel_43 (fun H locs I => ?_)
        refine lv_if_ne (tgt := 56) hx hb dX6_parcel_46 (by decide) (fun c9 => ?_) (fun c9 => ?_)
        · have hf := inn c9 hf
          refine lv_aload_n hx hb dX6_parcel_56 rfl (lv_at hl 0 rfl) ?_
          refine xg_X6_10_0 C0 I dX6_parcel_57 ?_
          refine xg_X6_73_1 C0 I dX6_parcel_60 ?_
          refine lv_bipush (v := 16) hx hb dX6_parcel_63 (by decide) ?_
          refine lv_icmp_lt (tgt := 75) hx hb dX6_parcel_65 (by decide) (fun c10 => ?_) (fun c10 => ?_)
          · have hf := ip c10 hf
            refine lv_aload_n hx hb dX6_parcel_75 rfl (lv_at hl 0 rfl) ?_
            refine xg_X6_19_0 C0 I dX6_parcel_76 ?_
            refine lv_aload_n hx hb dX6_parcel_79 rfl (lv_at hl 0 rfl) ?_
            refine xg_X6_10_0 C0 I dX6_parcel_80 ?_
            obtain ⟨S11, h11, hf⟩ := bq1_some hf
            refine xcv_v (As := [.ref (g.2.2 1)]) C0 I (kX0_keep h11) (cwV 1 C0.2.2.2.2 (gwV wd_276 wd_277 wd_278 wd_68 wd_279) rfl rfl rfl dsc_X0_keep ⟨Nat.le_of_ble_eq_true rfl, Nat.le_of_ble_eq_true rfl⟩) (xo_3 I) rfl hl.1 rfl (Nat.le_of_ble_eq_true rfl) dX6_parcel_83 (fun H locs I => ?_)
            refine lv_aload_n hx hb dX6_parcel_86 rfl (lv_at hl 0 rfl) ?_
            refine xg_X6_10_0 C0 I dX6_parcel_87 ?_
            refine lv_iload_n hx hb dX6_parcel_90 rfl (lv_at hl 1 rfl) ?_
            refine lv_iload_n hx hb dX6_parcel_91 rfl (lv_at hl 2 rfl) ?_
            refine lv_iload_n hx hb dX6_parcel_92 rfl (lv_at hl 3 rfl) ?_
            refine lv_iload hx hb dX6_parcel_93 (lv_at hl 4 rfl) ?_
            obtain ⟨S12, h12, hf⟩ := bq1_some hf
            refine xcv_v (As := [.int x1, .int x2, .int x3, .int x4]) C0 I (kX3_add h12) (cwV 4 C0.2.2.2.2 (gwV wd_302 wd_303 wd_304 wd_67 wd_305) rfl rfl rfl dsc_X3_add ⟨Nat.le_of_ble_eq_true rfl, Nat.le_of_ble_eq_true rfl⟩) (xo_1 I) rfl hl.1 rfl (Nat.le_of_ble_eq_true rfl) dX6_parcel_95 (fun H locs I => ?_)
            refine lv_aload_n hx hb dX6_parcel_98 rfl (lv_at hl 0 rfl) ?_
            refine xg_X6_10_0 C0 I dX6_parcel_99 ?_
            refine xg_X6_73_1 C0 I dX6_parcel_102 ?_
            refine lv_iconst (v := 1) hx hb dX6_parcel_105 (by decide) ?_
            refine lv_isub hx hb dX6_parcel_106 ?_
            obtain ⟨rfl, rfl⟩ := se2 hf
            exact xri C0 hr hk I dX6_parcel_107
          · have hf := inn c10 hf
            refine lv_aload_n hx hb dX6_parcel_68 rfl (lv_at hl 0 rfl) ?_
            refine lv_bipush (v := -4) hx hb dX6_parcel_69 (by decide) ?_
            obtain ⟨r13, S13, h13, hf⟩ := bq2_some hf
            refine xcv_i (As := [.int (-4 : Int32)]) C0 I (kX6_refuse h13) (cwV 1 C0.2.2.2.2 (gwV wd_272 wd_274 wd_0 wd_66 wd_275) rfl rfl rfl dsc_X6_refuse ⟨Nat.le_of_ble_eq_true rfl, Nat.le_of_ble_eq_true rfl⟩) (xo_0 I) rfl hl.1 rfl (Nat.le_of_ble_eq_true rfl) dX6_parcel_71 (fun H locs I => ?_)
            obtain ⟨rfl, rfl⟩ := se2 hf
            exact xri C0 hr hk I dX6_parcel_74
        · have hf := ip c9 hf
          exact tX6_parcel_49 C0 hr hk hf I (lv_sub hl [0] rfl)
set_option maxRecDepth 100000 in
theorem kX6_parcel {x1 : Int32} {x2 : Int32} {x3 : Int32} {x4 : Int32} {rr : Int32} (hf : fX6_parcel S x1 x2 x3 x4 = some (rr, S')) : Met l yX6_parcel (Cond.code yX6_parcel cX6_parcel 5 (some .int) :: big) ({ frames := 3, cells := 0, slots := 0, locals := 82 } : Room) (va_Pc [.ref (g.2.2 0), .int x1, .int x2, .int x3, .int x4] (xB g S)) (va_Qi (fun r' S2 => r' = rr ∧ S2 = S') (xB g) (xA g)) 0 0 (xA g) := by
  refine Met.ofW (cc := cX6_parcel) (maxL := 5) (ret := (some .int)) (by decide) rfl ?_
  intro p e s m args below meth c s₁ B hml hv
  obtain ⟨rfl, hP, hK, hD⟩ := hv
  have hts0 := atoms_spec (ws := (Cond.code yX6_parcel cX6_parcel 5 (some .int) :: big)) B.pre
  have C0 : CallFix p m c cX6_parcel 5 s _ big RX6 := ⟨B.exec, B.bytes, hml, findClass_of_methodNamed B.named, fun w h => hts0 w (List.mem_cons_of_mem _ h)⟩
  have I : xI g s S s.heap [] := ⟨hK, hP, hD, va_S.rf⟩
  have hl := lv_entry ([.ref (g.2.2 0), .int x1, .int x2, .int x3, .int x4]) (n := 5) (Nat.le_of_ble_eq_true rfl)
  rw [lg_entry_eq]
  generalize (lg_sl ([.ref (g.2.2 0), .int x1, .int x2, .int x3, .int x4]) ++ List.replicate (5 - (lg_sl ([.ref (g.2.2 0), .int x1, .int x2, .int x3, .int x4])).length) Slot.unset).toArray = ls at hl ⊢
  have hl : lv_has ls 5 [(0, .ref (g.2.2 0)), (1, .int x1), (2, .int x2), (3, .int x3), (4, .int x4)] := hl
  exact tX6_parcel_0 C0 B.returns B.notSynchronized hf I (lv_sub hl [0, 1, 2, 3, 4] rfl)
set_option maxHeartbeats 4000000 in
set_option maxRecDepth 100000 in
theorem tX3_has_0 (C0 : CallFix p m c cX3_has 2 s args big RX3) (hr : meth.sig.returnType = (some .boolean)) (hk : meth.locks = false) {x1 : Int32} {rr : Int32}  (hf : fX3_has S x1 = some rr) (I : xI g s S H locs) (hl : lv_has ls 2 [(0, .ref (g.2.2 1)), (1, .int x1)]) : W p l e ({ frames := 0, cells := 0, slots := 0, locals := 0 } : Room) s m args below meth c H locs 0 0 (MQ below (va_Qi (fun r' S2 => r' = rr ∧ S2 = S) (xB g) (xA g)) args s 0 0 (xA g)) (F0 m 0 ls []) := by
  obtain ⟨hx, hb, hml, -, -⟩ := id C0
  unfold fX3_has at hf
  refine lv_iload_n hx hb dX3_has_0 rfl (lv_at hl 1 rfl) ?_
  refine lv_if_lt (tgt := 16) hx hb dX3_has_1 (by decide) (fun c1 => ?_) (fun c1 => ?_)
  · have hf := ip c1 hf
    refine lv_iconst (v := 0) hx hb dX3_has_16 (by decide) ?_
    obtain rfl := se1 hf
    exact xrz C0 hr hk rfl I dX3_has_17
  · have hf := inn c1 hf
    refine lv_iload_n hx hb dX3_has_4 rfl (lv_at hl 1 rfl) ?_
    refine lv_aload_n hx hb dX3_has_5 rfl (lv_at hl 0 rfl) ?_
    refine xg_X3_21_1 C0 I dX3_has_6 ?_
    refine lv_icmp_ge (tgt := 16) hx hb dX3_has_9 (by decide) (fun c2 => ?_) (fun c2 => ?_)
    · have hf := ip c2 hf
      refine lv_iconst (v := 0) hx hb dX3_has_16 (by decide) ?_
      obtain rfl := se1 hf
      exact xrz C0 hr hk rfl I dX3_has_17
    · have hf := inn c2 hf
      refine lv_iconst (v := 1) hx hb dX3_has_12 (by decide) ?_
      refine lv_goto (tgt := 17) hx hb dX3_has_13 (by decide) ?_
      obtain rfl := se1 hf
      exact xrz C0 hr hk rfl I dX3_has_17
set_option maxRecDepth 100000 in
theorem kX3_has {x1 : Int32} {rr : Int32} (hf : fX3_has S x1 = some rr) : Met l yX3_has (Cond.code yX3_has cX3_has 2 (some .boolean) :: big) ({ frames := 0, cells := 0, slots := 0, locals := 0 } : Room) (va_Pc [.ref (g.2.2 1), .int x1] (xB g S)) (va_Qi (fun r' S2 => r' = rr ∧ S2 = S) (xB g) (xA g)) 0 0 (xA g) := by
  refine Met.ofW (cc := cX3_has) (maxL := 2) (ret := (some .boolean)) (by decide) rfl ?_
  intro p e s m args below meth c s₁ B hml hv
  obtain ⟨rfl, hP, hK, hD⟩ := hv
  have hts0 := atoms_spec (ws := (Cond.code yX3_has cX3_has 2 (some .boolean) :: big)) B.pre
  have C0 : CallFix p m c cX3_has 2 s _ big RX3 := ⟨B.exec, B.bytes, hml, findClass_of_methodNamed B.named, fun w h => hts0 w (List.mem_cons_of_mem _ h)⟩
  have I : xI g s S s.heap [] := ⟨hK, hP, hD, va_S.rf⟩
  have hl := lv_entry ([.ref (g.2.2 1), .int x1]) (n := 2) (Nat.le_of_ble_eq_true rfl)
  rw [lg_entry_eq]
  generalize (lg_sl ([.ref (g.2.2 1), .int x1]) ++ List.replicate (2 - (lg_sl ([.ref (g.2.2 1), .int x1])).length) Slot.unset).toArray = ls at hl ⊢
  have hl : lv_has ls 2 [(0, .ref (g.2.2 1)), (1, .int x1)] := hl
  exact tX3_has_0 C0 B.returns B.notSynchronized hf I (lv_sub hl [0, 1] rfl)
set_option maxHeartbeats 4000000 in
set_option maxRecDepth 100000 in
theorem tX3_trait_0 (C0 : CallFix p m c cX3_trait 3 s args big RX3) (hr : meth.sig.returnType = (some .int)) (hk : meth.locks = false) {x1 : Int32} {x2 : Int32} {rr : Int32}  (hf : fX3_trait S x1 x2 = some rr) (I : xI g s S H locs) (hl : lv_has ls 3 [(0, .ref (g.2.2 1)), (1, .int x1), (2, .int x2)]) : W p l e ({ frames := 0, cells := 0, slots := 0, locals := 0 } : Room) s m args below meth c H locs 0 0 (MQ below (va_Qi (fun r' S2 => r' = rr ∧ S2 = S) (xB g) (xA g)) args s 0 0 (xA g)) (F0 m 0 ls []) := by
  obtain ⟨hx, hb, hml, -, -⟩ := id C0
  unfold fX3_trait at hf
  refine lv_aload_n hx hb dX3_trait_0 rfl (lv_at hl 0 rfl) ?_
  refine xg_X3_24_1 C0 I dX3_trait_1 ?_
  refine lv_iload_n hx hb dX3_trait_4 rfl (lv_at hl 1 rfl) ?_
  refine lv_iconst (v := 4) hx hb dX3_trait_5 (by decide) ?_
  refine lv_imul hx hb dX3_trait_6 ?_
  refine lv_iload_n hx hb dX3_trait_7 rfl (lv_at hl 2 rfl) ?_
  refine lv_iadd hx hb dX3_trait_8 ?_
  obtain ⟨b1, hf⟩ := chk_some hf
  refine xl_2 hx hb I b1 dX3_trait_9 ?_
  obtain rfl := se1 hf
  exact xri C0 hr hk I dX3_trait_10
set_option maxRecDepth 100000 in
theorem kX3_trait {x1 : Int32} {x2 : Int32} {rr : Int32} (hf : fX3_trait S x1 x2 = some rr) : Met l yX3_trait (Cond.code yX3_trait cX3_trait 3 (some .int) :: big) ({ frames := 0, cells := 0, slots := 0, locals := 0 } : Room) (va_Pc [.ref (g.2.2 1), .int x1, .int x2] (xB g S)) (va_Qi (fun r' S2 => r' = rr ∧ S2 = S) (xB g) (xA g)) 0 0 (xA g) := by
  refine Met.ofW (cc := cX3_trait) (maxL := 3) (ret := (some .int)) (by decide) rfl ?_
  intro p e s m args below meth c s₁ B hml hv
  obtain ⟨rfl, hP, hK, hD⟩ := hv
  have hts0 := atoms_spec (ws := (Cond.code yX3_trait cX3_trait 3 (some .int) :: big)) B.pre
  have C0 : CallFix p m c cX3_trait 3 s _ big RX3 := ⟨B.exec, B.bytes, hml, findClass_of_methodNamed B.named, fun w h => hts0 w (List.mem_cons_of_mem _ h)⟩
  have I : xI g s S s.heap [] := ⟨hK, hP, hD, va_S.rf⟩
  have hl := lv_entry ([.ref (g.2.2 1), .int x1, .int x2]) (n := 3) (Nat.le_of_ble_eq_true rfl)
  rw [lg_entry_eq]
  generalize (lg_sl ([.ref (g.2.2 1), .int x1, .int x2]) ++ List.replicate (3 - (lg_sl ([.ref (g.2.2 1), .int x1, .int x2])).length) Slot.unset).toArray = ls at hl ⊢
  have hl : lv_has ls 3 [(0, .ref (g.2.2 1)), (1, .int x1), (2, .int x2)] := hl
  exact tX3_trait_0 C0 B.returns B.notSynchronized hf I (lv_sub hl [0, 1, 2] rfl)
end
