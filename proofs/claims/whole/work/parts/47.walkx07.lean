section
variable {p : Program} {l : Launch} {e : Env} {s : State} {m : MethodId} {args : Array Value} {below : List Frame} {meth : Method} {c : Code} {Q : State → Prop} {g : xG} {H : Heap} {locs : List Loc} {ls : Array Slot} {S S' : St}
set_option maxHeartbeats 4000000 in
set_option maxRecDepth 100000 in
theorem tX3_take_0_6_0 (C0 : CallFix p m c cX3_take 2 s args big RX3) (hr : meth.sig.returnType = none) (hk : meth.locks = false)   (hf : fX3_take 0 6 S = some S') (I : xI g s S H locs) (hl : lv_has ls 2 [(0, .ref (g.2.2 1)), (1, .ref (g.2.2 15))]) : W p l e ({ frames := 1, cells := 0, slots := 0, locals := 40 } : Room) s m args below meth c H locs 0 0 (MQ below (va_Qv (fun S2 => S2 = S') (xB g) (xA g)) args s 0 0 (xA g)) (F0 m 0 ls []) := by
  obtain ⟨hx, hb, hml, -, -⟩ := id C0
  unfold fX3_take at hf
  refine lv_aload_n hx hb dX3_take_0 rfl (lv_at hl 0 rfl) ?_
  refine lv_aload_n hx hb dX3_take_1 rfl (lv_at hl 1 rfl) ?_
  refine xg_X3_9_15 C0 I dX3_take_2 ?_
  refine xp_X3_9_1 C0 I dX3_take_5 (fun H locs I => ?_)
  refine lv_aload_n hx hb dX3_take_8 rfl (lv_at hl 0 rfl) ?_
  refine lv_aload_n hx hb dX3_take_9 rfl (lv_at hl 1 rfl) ?_
  refine xg_X3_15_15 C0 I dX3_take_10 ?_
  refine xp_X3_15_1 C0 I dX3_take_13 (fun H locs I => ?_)
  refine lv_aload_n hx hb dX3_take_16 rfl (lv_at hl 0 rfl) ?_
  refine lv_aload_n hx hb dX3_take_17 rfl (lv_at hl 1 rfl) ?_
  refine xg_X3_18_15 C0 I dX3_take_18 ?_
  refine xp_X3_18_1 C0 I dX3_take_21 (fun H locs I => ?_)
  refine lv_aload_n hx hb dX3_take_24 rfl (lv_at hl 0 rfl) ?_
  refine lv_aload_n hx hb dX3_take_25 rfl (lv_at hl 1 rfl) ?_
  refine xg_X3_21_15 C0 I dX3_take_26 ?_
  refine xp_X3_21_1 C0 I dX3_take_29 (fun H locs I => ?_)
  refine lv_aload_n hx hb dX3_take_32 rfl (lv_at hl 1 rfl) ?_
  refine xg_X3_24_15 C0 I dX3_take_33 ?_
  refine lv_iconst (v := 0) hx hb dX3_take_36 (by decide) ?_
  refine lv_aload_n hx hb dX3_take_37 rfl (lv_at hl 0 rfl) ?_
  refine xg_X3_24_1 C0 I dX3_take_38 ?_
  refine lv_iconst (v := 0) hx hb dX3_take_41 (by decide) ?_
  refine lv_aload_n hx hb dX3_take_42 rfl (lv_at hl 0 rfl) ?_
  refine xg_X3_24_1 C0 I dX3_take_43 ?_
  refine xn_2 hx hb I dX3_take_46 ?_
  refine xc_2_16 C0 hl.1 I (Nat.le_of_ble_eq_true rfl) (by decide) dX3_take_47 (fun H locs I => ?_)
  obtain rfl := se1 hf
  exact xrv C0 hr hk I dX3_take_50
set_option maxRecDepth 100000 in
theorem kX3_take_0_6   (hf : fX3_take 0 6 S  = some S') : Met l yX3_take (Cond.code yX3_take cX3_take 2 none :: big) ({ frames := 1, cells := 0, slots := 0, locals := 40 } : Room) (va_Pc [.ref (g.2.2 1), .ref (g.2.2 15)] (xB g S)) (va_Qv (fun S2 => S2 = S') (xB g) (xA g)) 0 0 (xA g) := by
  refine Met.ofW (cc := cX3_take) (maxL := 2) (ret := none) (by decide) rfl ?_
  intro p e s m args below meth c s₁ B hml hv
  obtain ⟨rfl, hP, hK, hD⟩ := hv
  have hts0 := atoms_spec (ws := (Cond.code yX3_take cX3_take 2 none :: big)) B.pre
  have C0 : CallFix p m c cX3_take 2 s _ big RX3 := ⟨B.exec, B.bytes, hml, findClass_of_methodNamed B.named, fun w h => hts0 w (List.mem_cons_of_mem _ h)⟩
  have I : xI g s S s.heap [] := ⟨hK, hP, hD, va_S.rf⟩
  have hl := lv_entry ([.ref (g.2.2 1), .ref (g.2.2 15)]) (n := 2) (Nat.le_of_ble_eq_true rfl)
  rw [lg_entry_eq]
  generalize (lg_sl ([.ref (g.2.2 1), .ref (g.2.2 15)]) ++ List.replicate (2 - (lg_sl ([.ref (g.2.2 1), .ref (g.2.2 15)])).length) Slot.unset).toArray = ls at hl ⊢
  have hl : lv_has ls 2 [(0, .ref (g.2.2 1)), (1, .ref (g.2.2 15))] := hl
  exact tX3_take_0_6_0 C0 B.returns B.notSynchronized hf I (lv_sub hl [0, 1] rfl)
set_option maxHeartbeats 4000000 in
set_option maxRecDepth 100000 in
theorem tX0_restore_0 (C0 : CallFix p m c cX0_restore 2 s args big RX0) (hr : meth.sig.returnType = none) (hk : meth.locks = false)   (hf : fX0_restore S = some S') (I : xI g s S H locs) (hl : lv_has ls 2 [(0, .ref (g.2.2 3)), (1, .ref (g.2.2 1))]) : W p l e ({ frames := 2, cells := 0, slots := 0, locals := 61 } : Room) s m args below meth c H locs 0 0 (MQ below (va_Qv (fun S2 => S2 = S') (xB g) (xA g)) args s 0 0 (xA g)) (F0 m 0 ls []) := by
  obtain ⟨hx, hb, hml, -, -⟩ := id C0
  unfold fX0_restore at hf
  refine lv_aload_n hx hb dX0_restore_0 rfl (lv_at hl 0 rfl) ?_
  refine xg_X0_9_3 C0 I dX0_restore_1 ?_
  refine lv_if_ne (tgt := 8) hx hb dX0_restore_4 (by decide) (fun c1 => ?_) (fun c1 => ?_)
  · have hf := inn c1 hf
    refine lv_aload_n hx hb dX0_restore_8 rfl (lv_at hl 1 rfl) ?_
    refine lv_aload_n hx hb dX0_restore_9 rfl (lv_at hl 0 rfl) ?_
    refine xg_X0_20_3 C0 I dX0_restore_10 ?_
    refine lv_aload_n hx hb dX0_restore_13 rfl (lv_at hl 0 rfl) ?_
    refine xg_X0_15_3 C0 I dX0_restore_14 ?_
    obtain ⟨b2, hf⟩ := chk_some hf
    rcases kc6 b2 with e2 | e2 | e2 | e2 | e2 | e2
    · rw [e2] at hf
      refine xa hx hb I b2 e2 dX0_restore_17 ?_
      obtain ⟨S3, h3, hf⟩ := bq1_some hf
      refine xcv_v (As := [.ref (g.2.2 5)]) C0 I (kX3_take_0_1 h3) (cwV 1 C0.2.2.2.2 (gwV wd_280 wd_281 wd_282 wd_67 wd_283) rfl rfl rfl dsc_X3_take ⟨Nat.le_of_ble_eq_true rfl, Nat.le_of_ble_eq_true rfl⟩) (xo_1 I) rfl hl.1 rfl (Nat.le_of_ble_eq_true rfl) dX0_restore_18 (fun H locs I => ?_)
      refine lv_aload_n hx hb dX0_restore_21 rfl (lv_at hl 0 rfl) ?_
      refine lv_aload_n hx hb dX0_restore_22 rfl (lv_at hl 0 rfl) ?_
      refine xg_X0_15_3 C0 I dX0_restore_23 ?_
      refine lv_bipush (v := 6) hx hb dX0_restore_26 (by decide) ?_
      refine lv_iadd hx hb dX0_restore_28 ?_
      refine lv_iconst (v := 1) hx hb dX0_restore_29 (by decide) ?_
      refine lv_isub hx hb dX0_restore_30 ?_
      refine lv_bipush (v := 6) hx hb dX0_restore_31 (by decide) ?_
      refine lv_irem hx hb dX0_restore_33 (by decide) ?_
      refine xp_X0_15_3 C0 I dX0_restore_34 (fun H locs I => ?_)
      refine lv_aload_n hx hb dX0_restore_37 rfl (lv_at hl 0 rfl) ?_
      refine lv_dup hx hb dX0_restore_38 rfl ?_
      refine xg_X0_9_3 C0 I dX0_restore_39 ?_
      refine lv_iconst (v := 1) hx hb dX0_restore_42 (by decide) ?_
      refine lv_isub hx hb dX0_restore_43 ?_
      refine xp_X0_9_3 C0 I dX0_restore_44 (fun H locs I => ?_)
      obtain rfl := se1 hf
      exact xrv C0 hr hk I dX0_restore_47
    · rw [e2] at hf
      refine xa hx hb I b2 e2 dX0_restore_17 ?_
      obtain ⟨S3, h3, hf⟩ := bq1_some hf
      refine xcv_v (As := [.ref (g.2.2 7)]) C0 I (kX3_take_0_2 h3) (cwV 1 C0.2.2.2.2 (gwV wd_280 wd_281 wd_282 wd_67 wd_283) rfl rfl rfl dsc_X3_take ⟨Nat.le_of_ble_eq_true rfl, Nat.le_of_ble_eq_true rfl⟩) (xo_1 I) rfl hl.1 rfl (Nat.le_of_ble_eq_true rfl) dX0_restore_18 (fun H locs I => ?_)
      refine lv_aload_n hx hb dX0_restore_21 rfl (lv_at hl 0 rfl) ?_
      refine lv_aload_n hx hb dX0_restore_22 rfl (lv_at hl 0 rfl) ?_
      refine xg_X0_15_3 C0 I dX0_restore_23 ?_
      refine lv_bipush (v := 6) hx hb dX0_restore_26 (by decide) ?_
      refine lv_iadd hx hb dX0_restore_28 ?_
      refine lv_iconst (v := 1) hx hb dX0_restore_29 (by decide) ?_
      refine lv_isub hx hb dX0_restore_30 ?_
      refine lv_bipush (v := 6) hx hb dX0_restore_31 (by decide) ?_
      refine lv_irem hx hb dX0_restore_33 (by decide) ?_
      refine xp_X0_15_3 C0 I dX0_restore_34 (fun H locs I => ?_)
      refine lv_aload_n hx hb dX0_restore_37 rfl (lv_at hl 0 rfl) ?_
      refine lv_dup hx hb dX0_restore_38 rfl ?_
      refine xg_X0_9_3 C0 I dX0_restore_39 ?_
      refine lv_iconst (v := 1) hx hb dX0_restore_42 (by decide) ?_
      refine lv_isub hx hb dX0_restore_43 ?_
      refine xp_X0_9_3 C0 I dX0_restore_44 (fun H locs I => ?_)
      obtain rfl := se1 hf
      exact xrv C0 hr hk I dX0_restore_47
    · rw [e2] at hf
      refine xa hx hb I b2 e2 dX0_restore_17 ?_
      obtain ⟨S3, h3, hf⟩ := bq1_some hf
      refine xcv_v (As := [.ref (g.2.2 9)]) C0 I (kX3_take_0_3 h3) (cwV 1 C0.2.2.2.2 (gwV wd_280 wd_281 wd_282 wd_67 wd_283) rfl rfl rfl dsc_X3_take ⟨Nat.le_of_ble_eq_true rfl, Nat.le_of_ble_eq_true rfl⟩) (xo_1 I) rfl hl.1 rfl (Nat.le_of_ble_eq_true rfl) dX0_restore_18 (fun H locs I => ?_)
      refine lv_aload_n hx hb dX0_restore_21 rfl (lv_at hl 0 rfl) ?_
      refine lv_aload_n hx hb dX0_restore_22 rfl (lv_at hl 0 rfl) ?_
      refine xg_X0_15_3 C0 I dX0_restore_23 ?_
      refine lv_bipush (v := 6) hx hb dX0_restore_26 (by decide) ?_
      refine lv_iadd hx hb dX0_restore_28 ?_
      refine lv_iconst (v := 1) hx hb dX0_restore_29 (by decide) ?_
      refine lv_isub hx hb dX0_restore_30 ?_
      refine lv_bipush (v := 6) hx hb dX0_restore_31 (by decide) ?_
      refine lv_irem hx hb dX0_restore_33 (by decide) ?_
      refine xp_X0_15_3 C0 I dX0_restore_34 (fun H locs I => ?_)
      refine lv_aload_n hx hb dX0_restore_37 rfl (lv_at hl 0 rfl) ?_
      refine lv_dup hx hb dX0_restore_38 rfl ?_
      refine xg_X0_9_3 C0 I dX0_restore_39 ?_
      refine lv_iconst (v := 1) hx hb dX0_restore_42 (by decide) ?_
      refine lv_isub hx hb dX0_restore_43 ?_
      refine xp_X0_9_3 C0 I dX0_restore_44 (fun H locs I => ?_)
      obtain rfl := se1 hf
      exact xrv C0 hr hk I dX0_restore_47
    · rw [e2] at hf
      refine xa hx hb I b2 e2 dX0_restore_17 ?_
      obtain ⟨S3, h3, hf⟩ := bq1_some hf
      refine xcv_v (As := [.ref (g.2.2 11)]) C0 I (kX3_take_0_4 h3) (cwV 1 C0.2.2.2.2 (gwV wd_280 wd_281 wd_282 wd_67 wd_283) rfl rfl rfl dsc_X3_take ⟨Nat.le_of_ble_eq_true rfl, Nat.le_of_ble_eq_true rfl⟩) (xo_1 I) rfl hl.1 rfl (Nat.le_of_ble_eq_true rfl) dX0_restore_18 (fun H locs I => ?_)
      refine lv_aload_n hx hb dX0_restore_21 rfl (lv_at hl 0 rfl) ?_
      refine lv_aload_n hx hb dX0_restore_22 rfl (lv_at hl 0 rfl) ?_
      refine xg_X0_15_3 C0 I dX0_restore_23 ?_
      refine lv_bipush (v := 6) hx hb dX0_restore_26 (by decide) ?_
      refine lv_iadd hx hb dX0_restore_28 ?_
      refine lv_iconst (v := 1) hx hb dX0_restore_29 (by decide) ?_
      refine lv_isub hx hb dX0_restore_30 ?_
      refine lv_bipush (v := 6) hx hb dX0_restore_31 (by decide) ?_
      refine lv_irem hx hb dX0_restore_33 (by decide) ?_
      refine xp_X0_15_3 C0 I dX0_restore_34 (fun H locs I => ?_)
      refine lv_aload_n hx hb dX0_restore_37 rfl (lv_at hl 0 rfl) ?_
      refine lv_dup hx hb dX0_restore_38 rfl ?_
      refine xg_X0_9_3 C0 I dX0_restore_39 ?_
      refine lv_iconst (v := 1) hx hb dX0_restore_42 (by decide) ?_
      refine lv_isub hx hb dX0_restore_43 ?_
      refine xp_X0_9_3 C0 I dX0_restore_44 (fun H locs I => ?_)
      obtain rfl := se1 hf
      exact xrv C0 hr hk I dX0_restore_47
    · rw [e2] at hf
      refine xa hx hb I b2 e2 dX0_restore_17 ?_
      obtain ⟨S3, h3, hf⟩ := bq1_some hf
      refine xcv_v (As := [.ref (g.2.2 13)]) C0 I (kX3_take_0_5 h3) (cwV 1 C0.2.2.2.2 (gwV wd_280 wd_281 wd_282 wd_67 wd_283) rfl rfl rfl dsc_X3_take ⟨Nat.le_of_ble_eq_true rfl, Nat.le_of_ble_eq_true rfl⟩) (xo_1 I) rfl hl.1 rfl (Nat.le_of_ble_eq_true rfl) dX0_restore_18 (fun H locs I => ?_)
      refine lv_aload_n hx hb dX0_restore_21 rfl (lv_at hl 0 rfl) ?_
      refine lv_aload_n hx hb dX0_restore_22 rfl (lv_at hl 0 rfl) ?_
      refine xg_X0_15_3 C0 I dX0_restore_23 ?_
      refine lv_bipush (v := 6) hx hb dX0_restore_26 (by decide) ?_
      refine lv_iadd hx hb dX0_restore_28 ?_
      refine lv_iconst (v := 1) hx hb dX0_restore_29 (by decide) ?_
      refine lv_isub hx hb dX0_restore_30 ?_
      refine lv_bipush (v := 6) hx hb dX0_restore_31 (by decide) ?_
      refine lv_irem hx hb dX0_restore_33 (by decide) ?_
      refine xp_X0_15_3 C0 I dX0_restore_34 (fun H locs I => ?_)
      refine lv_aload_n hx hb dX0_restore_37 rfl (lv_at hl 0 rfl) ?_
      refine lv_dup hx hb dX0_restore_38 rfl ?_
      refine xg_X0_9_3 C0 I dX0_restore_39 ?_
      refine lv_iconst (v := 1) hx hb dX0_restore_42 (by decide) ?_
      refine lv_isub hx hb dX0_restore_43 ?_
      refine xp_X0_9_3 C0 I dX0_restore_44 (fun H locs I => ?_)
      obtain rfl := se1 hf
      exact xrv C0 hr hk I dX0_restore_47
    · rw [e2] at hf
      refine xa hx hb I b2 e2 dX0_restore_17 ?_
      obtain ⟨S3, h3, hf⟩ := bq1_some hf
      refine xcv_v (As := [.ref (g.2.2 15)]) C0 I (kX3_take_0_6 h3) (cwV 1 C0.2.2.2.2 (gwV wd_280 wd_281 wd_282 wd_67 wd_283) rfl rfl rfl dsc_X3_take ⟨Nat.le_of_ble_eq_true rfl, Nat.le_of_ble_eq_true rfl⟩) (xo_1 I) rfl hl.1 rfl (Nat.le_of_ble_eq_true rfl) dX0_restore_18 (fun H locs I => ?_)
      refine lv_aload_n hx hb dX0_restore_21 rfl (lv_at hl 0 rfl) ?_
      refine lv_aload_n hx hb dX0_restore_22 rfl (lv_at hl 0 rfl) ?_
      refine xg_X0_15_3 C0 I dX0_restore_23 ?_
      refine lv_bipush (v := 6) hx hb dX0_restore_26 (by decide) ?_
      refine lv_iadd hx hb dX0_restore_28 ?_
      refine lv_iconst (v := 1) hx hb dX0_restore_29 (by decide) ?_
      refine lv_isub hx hb dX0_restore_30 ?_
      refine lv_bipush (v := 6) hx hb dX0_restore_31 (by decide) ?_
      refine lv_irem hx hb dX0_restore_33 (by decide) ?_
      refine xp_X0_15_3 C0 I dX0_restore_34 (fun H locs I => ?_)
      refine lv_aload_n hx hb dX0_restore_37 rfl (lv_at hl 0 rfl) ?_
      refine lv_dup hx hb dX0_restore_38 rfl ?_
      refine xg_X0_9_3 C0 I dX0_restore_39 ?_
      refine lv_iconst (v := 1) hx hb dX0_restore_42 (by decide) ?_
      refine lv_isub hx hb dX0_restore_43 ?_
      refine xp_X0_9_3 C0 I dX0_restore_44 (fun H locs I => ?_)
      obtain rfl := se1 hf
      exact xrv C0 hr hk I dX0_restore_47
  · have hf := ip c1 hf
    obtain rfl := se1 hf
    exact xrv C0 hr hk I dX0_restore_7
set_option maxRecDepth 100000 in
theorem kX0_restore   (hf : fX0_restore S  = some S') : Met l yX0_restore (Cond.code yX0_restore cX0_restore 2 none :: big) ({ frames := 2, cells := 0, slots := 0, locals := 61 } : Room) (va_Pc [.ref (g.2.2 3), .ref (g.2.2 1)] (xB g S)) (va_Qv (fun S2 => S2 = S') (xB g) (xA g)) 0 0 (xA g) := by
  refine Met.ofW (cc := cX0_restore) (maxL := 2) (ret := none) (by decide) rfl ?_
  intro p e s m args below meth c s₁ B hml hv
  obtain ⟨rfl, hP, hK, hD⟩ := hv
  have hts0 := atoms_spec (ws := (Cond.code yX0_restore cX0_restore 2 none :: big)) B.pre
  have C0 : CallFix p m c cX0_restore 2 s _ big RX0 := ⟨B.exec, B.bytes, hml, findClass_of_methodNamed B.named, fun w h => hts0 w (List.mem_cons_of_mem _ h)⟩
  have I : xI g s S s.heap [] := ⟨hK, hP, hD, va_S.rf⟩
  have hl := lv_entry ([.ref (g.2.2 3), .ref (g.2.2 1)]) (n := 2) (Nat.le_of_ble_eq_true rfl)
  rw [lg_entry_eq]
  generalize (lg_sl ([.ref (g.2.2 3), .ref (g.2.2 1)]) ++ List.replicate (2 - (lg_sl ([.ref (g.2.2 3), .ref (g.2.2 1)])).length) Slot.unset).toArray = ls at hl ⊢
  have hl : lv_has ls 2 [(0, .ref (g.2.2 3)), (1, .ref (g.2.2 1))] := hl
  exact tX0_restore_0 C0 B.returns B.notSynchronized hf I (lv_sub hl [0, 1] rfl)
set_option maxHeartbeats 4000000 in
set_option maxRecDepth 100000 in
theorem tX6_back_0 (C0 : CallFix p m c cX6_back 1 s args big RX6) (hr : meth.sig.returnType = (some .int)) (hk : meth.locks = false)  {rr : Int32}  (hf : fX6_back S = some (rr, S')) (I : xI g s S H locs) (hl : lv_has ls 1 [(0, .ref (g.2.2 0))]) : W p l e ({ frames := 3, cells := 0, slots := 0, locals := 82 } : Room) s m args below meth c H locs 0 0 (MQ below (va_Qi (fun r' S2 => r' = rr ∧ S2 = S') (xB g) (xA g)) args s 0 0 (xA g)) (F0 m 0 ls []) := by
  obtain ⟨hx, hb, hml, -, -⟩ := id C0
  unfold fX6_back at hf
  refine lv_aload_n hx hb dX6_back_0 rfl (lv_at hl 0 rfl) ?_
  refine xg_X6_19_0 C0 I dX6_back_1 ?_
  refine xg_X6_211_3 C0 I dX6_back_4 ?_
  refine lv_if_ne (tgt := 17) hx hb dX6_back_7 (by decide) (fun c1 => ?_) (fun c1 => ?_)
  · have hf := inn c1 hf
    refine lv_aload_n hx hb dX6_back_17 rfl (lv_at hl 0 rfl) ?_
    refine xg_X6_19_0 C0 I dX6_back_18 ?_
    refine lv_aload_n hx hb dX6_back_21 rfl (lv_at hl 0 rfl) ?_
    refine xg_X6_10_0 C0 I dX6_back_22 ?_
    obtain ⟨S2, h2, hf⟩ := bq1_some hf
    refine xcv_v (As := [.ref (g.2.2 1)]) C0 I (kX0_restore h2) (cwV 1 C0.2.2.2.2 (gwV wd_581 wd_582 wd_583 wd_68 wd_584) rfl rfl rfl dsc_X0_restore ⟨Nat.le_of_ble_eq_true rfl, Nat.le_of_ble_eq_true rfl⟩) (xo_3 I) rfl hl.1 rfl (Nat.le_of_ble_eq_true rfl) dX6_back_25 (fun H locs I => ?_)
    refine lv_aload_n hx hb dX6_back_28 rfl (lv_at hl 0 rfl) ?_
    refine xg_X6_19_0 C0 I dX6_back_29 ?_
    refine xg_X6_211_3 C0 I dX6_back_32 ?_
    obtain ⟨rfl, rfl⟩ := se2 hf
    exact xri C0 hr hk I dX6_back_35
  · have hf := ip c1 hf
    refine lv_aload_n hx hb dX6_back_10 rfl (lv_at hl 0 rfl) ?_
    refine lv_bipush (v := -3) hx hb dX6_back_11 (by decide) ?_
    obtain ⟨r3, S3, h3, hf⟩ := bq2_some hf
    refine xcv_i (As := [.int (-3 : Int32)]) C0 I (kX6_refuse h3) (cwV 1 C0.2.2.2.2 (gwV wd_272 wd_274 wd_0 wd_66 wd_275) rfl rfl rfl dsc_X6_refuse ⟨Nat.le_of_ble_eq_true rfl, Nat.le_of_ble_eq_true rfl⟩) (xo_0 I) rfl hl.1 rfl (Nat.le_of_ble_eq_true rfl) dX6_back_13 (fun H locs I => ?_)
    obtain ⟨rfl, rfl⟩ := se2 hf
    exact xri C0 hr hk I dX6_back_16
set_option maxRecDepth 100000 in
theorem kX6_back  {rr : Int32} (hf : fX6_back S  = some (rr, S')) : Met l yX6_back (Cond.code yX6_back cX6_back 1 (some .int) :: big) ({ frames := 3, cells := 0, slots := 0, locals := 82 } : Room) (va_Pc [.ref (g.2.2 0)] (xB g S)) (va_Qi (fun r' S2 => r' = rr ∧ S2 = S') (xB g) (xA g)) 0 0 (xA g) := by
  refine Met.ofW (cc := cX6_back) (maxL := 1) (ret := (some .int)) (by decide) rfl ?_
  intro p e s m args below meth c s₁ B hml hv
  obtain ⟨rfl, hP, hK, hD⟩ := hv
  have hts0 := atoms_spec (ws := (Cond.code yX6_back cX6_back 1 (some .int) :: big)) B.pre
  have C0 : CallFix p m c cX6_back 1 s _ big RX6 := ⟨B.exec, B.bytes, hml, findClass_of_methodNamed B.named, fun w h => hts0 w (List.mem_cons_of_mem _ h)⟩
  have I : xI g s S s.heap [] := ⟨hK, hP, hD, va_S.rf⟩
  have hl := lv_entry ([.ref (g.2.2 0)]) (n := 1) (Nat.le_of_ble_eq_true rfl)
  rw [lg_entry_eq]
  generalize (lg_sl ([.ref (g.2.2 0)]) ++ List.replicate (1 - (lg_sl ([.ref (g.2.2 0)])).length) Slot.unset).toArray = ls at hl ⊢
  have hl : lv_has ls 1 [(0, .ref (g.2.2 0))] := hl
  exact tX6_back_0 C0 B.returns B.notSynchronized hf I (lv_sub hl [0] rfl)
set_option maxHeartbeats 4000000 in
set_option maxRecDepth 100000 in
theorem tX6_told_10 (C0 : CallFix p m c cX6_told 2 s args big RX6) (hr : meth.sig.returnType = (some .int)) (hk : meth.locks = false)  {rr : Int32}  (hf : fX6_told_10 S = some (rr, S')) (I : xI g s S H locs) (hl : lv_has ls 2 [(0, .ref (g.2.2 0))]) : W p l e ({ frames := 1, cells := 0, slots := 0, locals := 22 } : Room) s m args below meth c H locs 0 0 (MQ below (va_Qi (fun r' S2 => r' = rr ∧ S2 = S') (xB g) (xA g)) args s 0 0 (xA g)) (F0 m 10 ls []) := by
  obtain ⟨hx, hb, hml, -, -⟩ := id C0
  unfold fX6_told_10 at hf
  refine lv_aload_n hx hb dX6_told_10 rfl (lv_at hl 0 rfl) ?_
  refine lv_bipush (v := -2) hx hb dX6_told_11 (by decide) ?_
  obtain ⟨r2, S2, h2, hf⟩ := bq2_some hf
  refine xcv_i (As := [.int (-2 : Int32)]) C0 I (kX6_refuse h2) (cwV 1 C0.2.2.2.2 (gwV wd_272 wd_274 wd_0 wd_66 wd_275) rfl rfl rfl dsc_X6_refuse ⟨Nat.le_of_ble_eq_true rfl, Nat.le_of_ble_eq_true rfl⟩) (xo_0 I) rfl hl.1 rfl (Nat.le_of_ble_eq_true rfl) dX6_told_13 (fun H locs I => ?_)
  obtain ⟨rfl, rfl⟩ := se2 hf
  exact xri C0 hr hk I dX6_told_16
set_option maxHeartbeats 4000000 in
set_option maxRecDepth 100000 in
theorem tX6_told_0 (C0 : CallFix p m c cX6_told 2 s args big RX6) (hr : meth.sig.returnType = (some .int)) (hk : meth.locks = false) {x1 : Int32} {rr : Int32}  (hf : fX6_told S x1 = some (rr, S')) (I : xI g s S H locs) (hl : lv_has ls 2 [(0, .ref (g.2.2 0)), (1, .int x1)]) : W p l e ({ frames := 1, cells := 0, slots := 0, locals := 22 } : Room) s m args below meth c H locs 0 0 (MQ below (va_Qi (fun r' S2 => r' = rr ∧ S2 = S') (xB g) (xA g)) args s 0 0 (xA g)) (F0 m 0 ls []) := by
  obtain ⟨hx, hb, hml, -, -⟩ := id C0
  unfold fX6_told at hf
  refine lv_iload_n hx hb dX6_told_0 rfl (lv_at hl 1 rfl) ?_
  refine lv_if_lt (tgt := 10) hx hb dX6_told_1 (by decide) (fun c1 => ?_) (fun c1 => ?_)
  · have hf := ip c1 hf
    exact tX6_told_10 C0 hr hk hf I (lv_sub hl [0] rfl)
  · have hf := inn c1 hf
    refine lv_iload_n hx hb dX6_told_4 rfl (lv_at hl 1 rfl) ?_
    refine lv_bipush (v := 8) hx hb dX6_told_5 (by decide) ?_
    refine lv_icmp_le (tgt := 17) hx hb dX6_told_7 (by decide) (fun c3 => ?_) (fun c3 => ?_)
    · have hf := ip c3 hf
      refine lv_iload_n hx hb dX6_told_17 rfl (lv_at hl 1 rfl) ?_
      by_cases e4 : x1 = (3 : Int32)
      · have hf := ip e4 hf
        refine lv_tableIn (off := 38) (tgt := 56) hx hb dX6_told_18 (by rw [e4]; decide) (by rw [e4]; decide) (by rw [e4]; rfl) (by decide) ?_
        refine lv_aload_n hx hb dX6_told_56 rfl (lv_at hl 0 rfl) ?_
        refine xg_X6_47_0 C0 I dX6_told_57 ?_
        refine xg_X6_194_32 C0 I dX6_told_60 ?_
        obtain ⟨rfl, rfl⟩ := se2 hf
        exact xri C0 hr hk I dX6_told_63
      · have hf := inn e4 hf
        by_cases e5 : x1 = (4 : Int32)
        · have hf := ip e5 hf
          refine lv_tableIn (off := 46) (tgt := 64) hx hb dX6_told_18 (by rw [e5]; decide) (by rw [e5]; decide) (by rw [e5]; rfl) (by decide) ?_
          refine lv_aload_n hx hb dX6_told_64 rfl (lv_at hl 0 rfl) ?_
          refine xg_X6_10_0 C0 I dX6_told_65 ?_
          refine xg_X6_70_1 C0 I dX6_told_68 ?_
          obtain ⟨rfl, rfl⟩ := se2 hf
          exact xri C0 hr hk I dX6_told_71
        · have hf := inn e5 hf
          by_cases e6 : x1 = (5 : Int32)
          · have hf := ip e6 hf
            refine lv_tableIn (off := 54) (tgt := 72) hx hb dX6_told_18 (by rw [e6]; decide) (by rw [e6]; decide) (by rw [e6]; rfl) (by decide) ?_
            refine lv_aload_n hx hb dX6_told_72 rfl (lv_at hl 0 rfl) ?_
            refine xg_X6_10_0 C0 I dX6_told_73 ?_
            refine xg_X6_73_1 C0 I dX6_told_76 ?_
            obtain ⟨rfl, rfl⟩ := se2 hf
            exact xri C0 hr hk I dX6_told_79
          · have hf := inn e6 hf
            by_cases e7 : x1 = (6 : Int32)
            · have hf := ip e7 hf
              refine lv_tableIn (off := 62) (tgt := 80) hx hb dX6_told_18 (by rw [e7]; decide) (by rw [e7]; decide) (by rw [e7]; rfl) (by decide) ?_
              refine lv_aload_n hx hb dX6_told_80 rfl (lv_at hl 0 rfl) ?_
              refine xg_X6_10_0 C0 I dX6_told_81 ?_
              refine xg_X6_96_1 C0 I dX6_told_84 ?_
              obtain ⟨rfl, rfl⟩ := se2 hf
              exact xri C0 hr hk I dX6_told_87
            · have hf := inn e7 hf
              by_cases e8 : x1 = (7 : Int32)
              · have hf := ip e8 hf
                refine lv_tableIn (off := 70) (tgt := 88) hx hb dX6_told_18 (by rw [e8]; decide) (by rw [e8]; decide) (by rw [e8]; rfl) (by decide) ?_
                refine lv_aload_n hx hb dX6_told_88 rfl (lv_at hl 0 rfl) ?_
                refine xg_X6_10_0 C0 I dX6_told_89 ?_
                refine xg_X6_99_1 C0 I dX6_told_92 ?_
                obtain ⟨rfl, rfl⟩ := se2 hf
                exact xri C0 hr hk I dX6_told_95
              · have hf := inn e8 hf
                by_cases e9 : x1 = (8 : Int32)
                · have hf := ip e9 hf
                  refine lv_tableIn (off := 78) (tgt := 96) hx hb dX6_told_18 (by rw [e9]; decide) (by rw [e9]; decide) (by rw [e9]; rfl) (by decide) ?_
                  refine lv_aload_n hx hb dX6_told_96 rfl (lv_at hl 0 rfl) ?_
                  refine xg_X6_19_0 C0 I dX6_told_97 ?_
                  refine xg_X6_211_3 C0 I dX6_told_100 ?_
                  obtain ⟨rfl, rfl⟩ := se2 hf
                  exact xri C0 hr hk I dX6_told_103
                · have hf := inn e9 hf
                  refine lv_tableOut (tgt := 104) hx hb dX6_told_18 (by have q4 := lv_neT (a := 3) e4 (by decide); have q5 := lv_neT (a := 4) e5 (by decide); have q6 := lv_neT (a := 5) e6 (by decide); have q7 := lv_neT (a := 6) e7 (by decide); have q8 := lv_neT (a := 7) e8 (by decide); have q9 := lv_neT (a := 8) e9 (by decide); omega) (by decide) ?_
                  refine lv_aload_n hx hb dX6_told_104 rfl (lv_at hl 0 rfl) ?_
                  refine xg_X6_51_0 C0 I dX6_told_105 ?_
                  refine lv_iload_n hx hb dX6_told_108 rfl (lv_at hl 1 rfl) ?_
                  obtain ⟨b10, hf⟩ := chk_some hf
                  refine xl_35 hx hb I b10 dX6_told_109 ?_
                  obtain ⟨rfl, rfl⟩ := se2 hf
                  exact xri C0 hr hk I dX6_told_110
    · have hf := inn c3 hf
      exact tX6_told_10 C0 hr hk hf I (lv_sub hl [0] rfl)
set_option maxRecDepth 100000 in
theorem kX6_told {x1 : Int32} {rr : Int32} (hf : fX6_told S x1 = some (rr, S')) : Met l yX6_told (Cond.code yX6_told cX6_told 2 (some .int) :: big) ({ frames := 1, cells := 0, slots := 0, locals := 22 } : Room) (va_Pc [.ref (g.2.2 0), .int x1] (xB g S)) (va_Qi (fun r' S2 => r' = rr ∧ S2 = S') (xB g) (xA g)) 0 0 (xA g) := by
  refine Met.ofW (cc := cX6_told) (maxL := 2) (ret := (some .int)) (by decide) rfl ?_
  intro p e s m args below meth c s₁ B hml hv
  obtain ⟨rfl, hP, hK, hD⟩ := hv
  have hts0 := atoms_spec (ws := (Cond.code yX6_told cX6_told 2 (some .int) :: big)) B.pre
  have C0 : CallFix p m c cX6_told 2 s _ big RX6 := ⟨B.exec, B.bytes, hml, findClass_of_methodNamed B.named, fun w h => hts0 w (List.mem_cons_of_mem _ h)⟩
  have I : xI g s S s.heap [] := ⟨hK, hP, hD, va_S.rf⟩
  have hl := lv_entry ([.ref (g.2.2 0), .int x1]) (n := 2) (Nat.le_of_ble_eq_true rfl)
  rw [lg_entry_eq]
  generalize (lg_sl ([.ref (g.2.2 0), .int x1]) ++ List.replicate (2 - (lg_sl ([.ref (g.2.2 0), .int x1])).length) Slot.unset).toArray = ls at hl ⊢
  have hl : lv_has ls 2 [(0, .ref (g.2.2 0)), (1, .int x1)] := hl
  exact tX6_told_0 C0 B.returns B.notSynchronized hf I (lv_sub hl [0, 1] rfl)
set_option maxHeartbeats 4000000 in
set_option maxRecDepth 100000 in
theorem BX6_digest_6 (C0 : CallFix p m c cX6_digest 5 s args big RX6) (hr : meth.sig.returnType = (some .long)) (hk : meth.locks = false) {x1 : Int64} {x3 : Int32} {b : Bool} {y1 : Int64} {y3 : Int32} (Kt : b = true → ∀ (H : Heap) (locs : List Loc) (ls : Array Slot), xI g s S' H locs → lv_has ls 5 [(0, .ref (g.2.2 0)), (1, .long y1), (3, .int y3)] → W p l e ({ frames := 5, cells := 0, slots := 0, locals := 124 } : Room) s m args below meth c H locs 0 0 Q (F0 m 6 ls [])) (Kf : b = false → ∀ (H : Heap) (locs : List Loc) (ls : Array Slot), xI g s S' H locs → lv_has ls 5 [(0, .ref (g.2.2 0)), (1, .long y1), (3, .int y3)] → W p l e ({ frames := 5, cells := 0, slots := 0, locals := 124 } : Room) s m args below meth c H locs 0 0 Q (F0 m 31 ls [])) (hf : bX6_digest_6 S x1 x3 = some (b, S', y1, y3)) (I : xI g s S H locs) (hl : lv_has ls 5 [(0, .ref (g.2.2 0)), (1, .long x1), (3, .int x3)]) : W p l e ({ frames := 5, cells := 0, slots := 0, locals := 124 } : Room) s m args below meth c H locs 0 0 Q (F0 m 6 ls []) := by
  obtain ⟨hx, hb, hml, -, -⟩ := id C0
  unfold bX6_digest_6 at hf
  refine lv_iload_n hx hb dX6_digest_6 rfl (lv_at hl 2 rfl) ?_
  refine lv_bipush (v := 8) hx hb dX6_digest_7 (by decide) ?_
  refine lv_icmp_gt (tgt := 31) hx hb dX6_digest_9 (by decide) (fun c1 => ?_) (fun c1 => ?_)
  · have hf := ip c1 hf
    obtain ⟨rfl, rfl, rfl, rfl⟩ := se4 hf
    exact Kf rfl _ _ _ I (lv_sub hl [0, 1, 2] rfl)
  · have hf := inn c1 hf
    refine lv_ldc2 (v := 31) hx hb C0.2.2.2.1 (C0.2.2.2.2 _ wd_594) dX6_digest_12 ?_
    refine lv_lload_n hx hb dX6_digest_15 rfl (lv_at hl 1 rfl) ?_
    refine lv_lmul hx hb dX6_digest_16 ?_
    refine lv_aload_n hx hb dX6_digest_17 rfl (lv_at hl 0 rfl) ?_
    refine lv_iload_n hx hb dX6_digest_18 rfl (lv_at hl 2 rfl) ?_
    obtain ⟨r2, S2, h2, hf⟩ := bq2_some hf
    refine xcv_i (As := [.int x3]) C0 I (kX6_told h2) (cwV 1 C0.2.2.2.2 (gwV wd_595 wd_586 wd_587 wd_66 wd_588) rfl rfl rfl dsc_X6_told ⟨Nat.le_of_ble_eq_true rfl, Nat.le_of_ble_eq_true rfl⟩) (xo_0 I) rfl hl.1 rfl (Nat.le_of_ble_eq_true rfl) dX6_digest_19 (fun H locs I => ?_)
    refine lv_i2l hx hb dX6_digest_22 rfl ?_
    refine lv_ladd hx hb dX6_digest_23 ?_
    refine lv_lstore_n (lv' := [(1, .long (((31 : Int64) * x1) + (Int32.toInt64 r2))), (0, .ref (g.2.2 0)), (3, .int x3)]) hx hb dX6_digest_24 rfl hl (by decide) rfl (fun ls hl => ?_)
    refine lv_iinc (v := (x3 + (1 : Int32))) (lv' := [(3, .int (x3 + (1 : Int32))), (1, .long (((31 : Int64) * x1) + (Int32.toInt64 r2))), (0, .ref (g.2.2 0))]) hx hb dX6_digest_25 hl (k := 2) rfl rfl (by decide) rfl (fun ls hl => ?_)
    refine lv_goto (tgt := 6) hx hb dX6_digest_28 (by decide) ?_
    obtain ⟨rfl, rfl, rfl, rfl⟩ := se4 hf
    exact Kt rfl _ _ _ I (lv_sub hl [2, 1, 0] rfl)
set_option maxHeartbeats 4000000 in
theorem lX6_digest_6 (C0 : CallFix p m c cX6_digest 5 s args big RX6) (hr : meth.sig.returnType = (some .long)) (hk : meth.locks = false)  {S' : St} {y1 : Int64} {y3 : Int32} : ∀ (n : Nat) {S : St} {x1 : Int64} {x3 : Int32}, lp (fun q => bX6_digest_6 q.1 q.2.1 q.2.2) n (S, x1, x3) = some (S', y1, y3) → ∀ {H : Heap} {locs : List Loc}, xI g s S H locs → ∀ {ls : Array Slot}, lv_has ls 5 [(0, .ref (g.2.2 0)), (1, .long x1), (3, .int x3)] → (∀ (H : Heap) (locs : List Loc) (ls : Array Slot), xI g s S' H locs → lv_has ls 5 [(0, .ref (g.2.2 0)), (1, .long y1), (3, .int y3)] → W p l e ({ frames := 5, cells := 0, slots := 0, locals := 124 } : Room) s m args below meth c H locs 0 0 Q (F0 m 31 ls [])) → W p l e ({ frames := 5, cells := 0, slots := 0, locals := 124 } : Room) s m args below meth c H locs 0 0 Q (F0 m 6 ls []) := by
  intro n
  induction n with
  | zero => intro S x1 x3 hf; cases hf
  | succ n ih =>
    intro S x1 x3 hf H locs I ls hl K
    obtain ⟨b, ⟨z0, z1, z2⟩, h1, h2, h3⟩ := lp_some hf
    refine BX6_digest_6 C0 hr hk (fun hb1 H locs ls I hl => ?_) (fun hb1 H locs ls I hl => ?_) h1 I hl
    · exact ih (h2 hb1) I hl K
    · have e := h3 hb1
      cases e
      exact K H locs ls I hl
set_option maxHeartbeats 4000000 in
set_option maxRecDepth 100000 in
theorem BX6_digest_51 (C0 : CallFix p m c cX6_digest 5 s args big RX6) (hr : meth.sig.returnType = (some .long)) (hk : meth.locks = false) {x1 : Int64} {x3 : Int32} {x4 : Int32} {b : Bool} {y1 : Int64} {y4 : Int32} (Kt : b = true → ∀ (H : Heap) (locs : List Loc) (ls : Array Slot), xI g s S H locs → lv_has ls 5 [(0, .ref (g.2.2 0)), (1, .long y1), (3, .int x3), (4, .int y4)] → W p l e ({ frames := 5, cells := 0, slots := 0, locals := 124 } : Room) s m args below meth c H locs 0 0 Q (F0 m 51 ls [])) (Kf : b = false → ∀ (H : Heap) (locs : List Loc) (ls : Array Slot), xI g s S H locs → lv_has ls 5 [(0, .ref (g.2.2 0)), (1, .long y1), (3, .int x3), (4, .int y4)] → W p l e ({ frames := 5, cells := 0, slots := 0, locals := 124 } : Room) s m args below meth c H locs 0 0 Q (F0 m 78 ls [])) (hf : bX6_digest_51 S x3 x1 x4 = some (b, y1, y4)) (I : xI g s S H locs) (hl : lv_has ls 5 [(0, .ref (g.2.2 0)), (1, .long x1), (3, .int x3), (4, .int x4)]) : W p l e ({ frames := 5, cells := 0, slots := 0, locals := 124 } : Room) s m args below meth c H locs 0 0 Q (F0 m 51 ls []) := by
  obtain ⟨hx, hb, hml, -, -⟩ := id C0
  unfold bX6_digest_51 at hf
  refine lv_iload hx hb dX6_digest_51 (lv_at hl 3 rfl) ?_
  refine lv_iconst (v := 5) hx hb dX6_digest_53 (by decide) ?_
  refine lv_icmp_gt (tgt := 78) hx hb dX6_digest_54 (by decide) (fun c6 => ?_) (fun c6 => ?_)
  · have hf := ip c6 hf
    obtain ⟨rfl, rfl, rfl⟩ := se3 hf
    exact Kf rfl _ _ _ I (lv_sub hl [0, 1, 2, 3] rfl)
  · have hf := inn c6 hf
    refine lv_ldc2 (v := 31) hx hb C0.2.2.2.1 (C0.2.2.2.2 _ wd_594) dX6_digest_57 ?_
    refine lv_lload_n hx hb dX6_digest_60 rfl (lv_at hl 1 rfl) ?_
    refine lv_lmul hx hb dX6_digest_61 ?_
    refine lv_aload_n hx hb dX6_digest_62 rfl (lv_at hl 0 rfl) ?_
    refine lv_iload_n hx hb dX6_digest_63 rfl (lv_at hl 2 rfl) ?_
    refine lv_iload hx hb dX6_digest_64 (lv_at hl 3 rfl) ?_
    obtain ⟨r7, h7, hf⟩ := bq1_some hf
    refine xcv_i (As := [.int x3, .int x4]) C0 I (kX6_factOf h7) (cwV 2 C0.2.2.2.2 (gwV wd_365 wd_367 wd_2 wd_66 wd_368) rfl rfl rfl dsc_X6_factOf ⟨Nat.le_of_ble_eq_true rfl, Nat.le_of_ble_eq_true rfl⟩) (xo_0 I) rfl hl.1 rfl (Nat.le_of_ble_eq_true rfl) dX6_digest_66 (fun H locs I => ?_)
    refine lv_i2l hx hb dX6_digest_69 rfl ?_
    refine lv_ladd hx hb dX6_digest_70 ?_
    refine lv_lstore_n (lv' := [(1, .long (((31 : Int64) * x1) + (Int32.toInt64 r7))), (0, .ref (g.2.2 0)), (3, .int x3), (4, .int x4)]) hx hb dX6_digest_71 rfl hl (by decide) rfl (fun ls hl => ?_)
    refine lv_iinc (v := (x4 + (1 : Int32))) (lv' := [(4, .int (x4 + (1 : Int32))), (1, .long (((31 : Int64) * x1) + (Int32.toInt64 r7))), (0, .ref (g.2.2 0)), (3, .int x3)]) hx hb dX6_digest_72 hl (k := 3) rfl rfl (by decide) rfl (fun ls hl => ?_)
    refine lv_goto (tgt := 51) hx hb dX6_digest_75 (by decide) ?_
    obtain ⟨rfl, rfl, rfl⟩ := se3 hf
    exact Kt rfl _ _ _ I (lv_sub hl [2, 1, 3, 0] rfl)
set_option maxHeartbeats 4000000 in
theorem lX6_digest_51 (C0 : CallFix p m c cX6_digest 5 s args big RX6) (hr : meth.sig.returnType = (some .long)) (hk : meth.locks = false) {S : St} {x3 : Int32} {y1 : Int64} {y4 : Int32} : ∀ (n : Nat) {x1 : Int64} {x4 : Int32}, lp (fun q => bX6_digest_51 S x3 q.1 q.2) n (x1, x4) = some (y1, y4) → ∀ {H : Heap} {locs : List Loc}, xI g s S H locs → ∀ {ls : Array Slot}, lv_has ls 5 [(0, .ref (g.2.2 0)), (1, .long x1), (3, .int x3), (4, .int x4)] → (∀ (H : Heap) (locs : List Loc) (ls : Array Slot), xI g s S H locs → lv_has ls 5 [(0, .ref (g.2.2 0)), (1, .long y1), (3, .int x3), (4, .int y4)] → W p l e ({ frames := 5, cells := 0, slots := 0, locals := 124 } : Room) s m args below meth c H locs 0 0 Q (F0 m 78 ls [])) → W p l e ({ frames := 5, cells := 0, slots := 0, locals := 124 } : Room) s m args below meth c H locs 0 0 Q (F0 m 51 ls []) := by
  intro n
  induction n with
  | zero => intro x1 x4 hf; cases hf
  | succ n ih =>
    intro x1 x4 hf H locs I ls hl K
    obtain ⟨b, ⟨z0, z1⟩, h1, h2, h3⟩ := lp_some hf
    refine BX6_digest_51 C0 hr hk (fun hb1 H locs ls I hl => ?_) (fun hb1 H locs ls I hl => ?_) h1 I hl
    · exact ih (h2 hb1) I hl K
    · have e := h3 hb1
      cases e
      exact K H locs ls I hl
set_option maxHeartbeats 4000000 in
set_option maxRecDepth 100000 in
theorem BX6_digest_37 (C0 : CallFix p m c cX6_digest 5 s args big RX6) (hr : meth.sig.returnType = (some .long)) (hk : meth.locks = false) {x1 : Int64} {x3 : Int32} {b : Bool} {y1 : Int64} {y3 : Int32} (Kt : b = true → ∀ (H : Heap) (locs : List Loc) (ls : Array Slot), xI g s S H locs → lv_has ls 5 [(0, .ref (g.2.2 0)), (1, .long y1), (3, .int y3)] → W p l e ({ frames := 5, cells := 0, slots := 0, locals := 124 } : Room) s m args below meth c H locs 0 0 Q (F0 m 37 ls [])) (Kf : b = false → ∀ (H : Heap) (locs : List Loc) (ls : Array Slot), xI g s S H locs → lv_has ls 5 [(0, .ref (g.2.2 0)), (1, .long y1), (3, .int y3)] → W p l e ({ frames := 5, cells := 0, slots := 0, locals := 124 } : Room) s m args below meth c H locs 0 0 Q (F0 m 84 ls [])) (hf : bX6_digest_37 S x1 x3 = some (b, y1, y3)) (I : xI g s S H locs) (hl : lv_has ls 5 [(0, .ref (g.2.2 0)), (1, .long x1), (3, .int x3)]) : W p l e ({ frames := 5, cells := 0, slots := 0, locals := 124 } : Room) s m args below meth c H locs 0 0 Q (F0 m 37 ls []) := by
  obtain ⟨hx, hb, hml, -, -⟩ := id C0
  unfold bX6_digest_37 at hf
  refine lv_iload_n hx hb dX6_digest_37 rfl (lv_at hl 2 rfl) ?_
  refine lv_aload_n hx hb dX6_digest_38 rfl (lv_at hl 0 rfl) ?_
  refine xg_X6_10_0 C0 I dX6_digest_39 ?_
  refine xg_X6_73_1 C0 I dX6_digest_42 ?_
  refine lv_icmp_ge (tgt := 84) hx hb dX6_digest_45 (by decide) (fun c5 => ?_) (fun c5 => ?_)
  · have hf := ip c5 hf
    obtain ⟨rfl, rfl, rfl⟩ := se3 hf
    exact Kf rfl _ _ _ I (lv_sub hl [0, 1, 2] rfl)
  · have hf := inn c5 hf
    refine lv_iconst (v := 0) hx hb dX6_digest_48 (by decide) ?_
    refine lv_istore (lv' := [(4, .int (0 : Int32)), (0, .ref (g.2.2 0)), (1, .long x1), (3, .int x3)]) hx hb dX6_digest_49 hl (by decide) rfl (fun ls hl => ?_)
    obtain ⟨y1_8, y4_8, h8, hf⟩ := bq2_some hf
    refine lX6_digest_51 C0 hr hk fu h8 I (lv_sub hl [1, 2, 3, 0] rfl) (fun H locs ls I hl => ?_)
    refine lv_iinc (v := (x3 + (1 : Int32))) (lv' := [(3, .int (x3 + (1 : Int32))), (0, .ref (g.2.2 0)), (1, .long y1_8), (4, .int y4_8)]) hx hb dX6_digest_78 hl (k := 2) rfl rfl (by decide) rfl (fun ls hl => ?_)
    refine lv_goto (tgt := 37) hx hb dX6_digest_81 (by decide) ?_
    obtain ⟨rfl, rfl, rfl⟩ := se3 hf
    exact Kt rfl _ _ _ I (lv_sub hl [1, 2, 0] rfl)
set_option maxHeartbeats 4000000 in
theorem lX6_digest_37 (C0 : CallFix p m c cX6_digest 5 s args big RX6) (hr : meth.sig.returnType = (some .long)) (hk : meth.locks = false) {S : St}  {y1 : Int64} {y3 : Int32} : ∀ (n : Nat) {x1 : Int64} {x3 : Int32}, lp (fun q => bX6_digest_37 S q.1 q.2) n (x1, x3) = some (y1, y3) → ∀ {H : Heap} {locs : List Loc}, xI g s S H locs → ∀ {ls : Array Slot}, lv_has ls 5 [(0, .ref (g.2.2 0)), (1, .long x1), (3, .int x3)] → (∀ (H : Heap) (locs : List Loc) (ls : Array Slot), xI g s S H locs → lv_has ls 5 [(0, .ref (g.2.2 0)), (1, .long y1), (3, .int y3)] → W p l e ({ frames := 5, cells := 0, slots := 0, locals := 124 } : Room) s m args below meth c H locs 0 0 Q (F0 m 84 ls [])) → W p l e ({ frames := 5, cells := 0, slots := 0, locals := 124 } : Room) s m args below meth c H locs 0 0 Q (F0 m 37 ls []) := by
  intro n
  induction n with
  | zero => intro x1 x3 hf; cases hf
  | succ n ih =>
    intro x1 x3 hf H locs I ls hl K
    obtain ⟨b, ⟨z0, z1⟩, h1, h2, h3⟩ := lp_some hf
    refine BX6_digest_37 C0 hr hk (fun hb1 H locs ls I hl => ?_) (fun hb1 H locs ls I hl => ?_) h1 I hl
    · exact ih (h2 hb1) I hl K
    · have e := h3 hb1
      cases e
      exact K H locs ls I hl
set_option maxHeartbeats 4000000 in
set_option maxRecDepth 100000 in
theorem BX6_digest_110 (C0 : CallFix p m c cX6_digest 5 s args big RX6) (hr : meth.sig.returnType = (some .long)) (hk : meth.locks = false) {x1 : Int64} {x3 : Int32} {b : Bool} {y1 : Int64} {y3 : Int32} (Kt : b = true → ∀ (H : Heap) (locs : List Loc) (ls : Array Slot), xI g s S H locs → lv_has ls 5 [(0, .ref (g.2.2 0)), (1, .long y1), (3, .int y3)] → W p l e ({ frames := 5, cells := 0, slots := 0, locals := 124 } : Room) s m args below meth c H locs 0 0 Q (F0 m 110 ls [])) (Kf : b = false → ∀ (H : Heap) (locs : List Loc) (ls : Array Slot), xI g s S H locs → lv_has ls 5 [(0, .ref (g.2.2 0)), (1, .long y1), (3, .int y3)] → W p l e ({ frames := 5, cells := 0, slots := 0, locals := 124 } : Room) s m args below meth c H locs 0 0 Q (F0 m 134 ls [])) (hf : bX6_digest_110 S x1 x3 = some (b, y1, y3)) (I : xI g s S H locs) (hl : lv_has ls 5 [(0, .ref (g.2.2 0)), (1, .long x1), (3, .int x3)]) : W p l e ({ frames := 5, cells := 0, slots := 0, locals := 124 } : Room) s m args below meth c H locs 0 0 Q (F0 m 110 ls []) := by
  obtain ⟨hx, hb, hml, -, -⟩ := id C0
  unfold bX6_digest_110 at hf
  refine lv_iload_n hx hb dX6_digest_110 rfl (lv_at hl 2 rfl) ?_
  refine lv_iconst (v := 2) hx hb dX6_digest_111 (by decide) ?_
  refine lv_icmp_gt (tgt := 134) hx hb dX6_digest_112 (by decide) (fun c10 => ?_) (fun c10 => ?_)
  · have hf := ip c10 hf
    obtain ⟨rfl, rfl, rfl⟩ := se3 hf
    exact Kf rfl _ _ _ I (lv_sub hl [0, 1, 2] rfl)
  · have hf := inn c10 hf
    refine lv_ldc2 (v := 31) hx hb C0.2.2.2.1 (C0.2.2.2.2 _ wd_594) dX6_digest_115 ?_
    refine lv_lload_n hx hb dX6_digest_118 rfl (lv_at hl 1 rfl) ?_
    refine lv_lmul hx hb dX6_digest_119 ?_
    refine lv_aload_n hx hb dX6_digest_120 rfl (lv_at hl 0 rfl) ?_
    refine lv_iload_n hx hb dX6_digest_121 rfl (lv_at hl 2 rfl) ?_
    obtain ⟨r11, h11, hf⟩ := bq1_some hf
    refine xcv_i (As := [.int x3]) C0 I (kX6_loadsFact h11) (cwV 1 C0.2.2.2.2 (gwV wd_413 wd_415 wd_4 wd_66 wd_416) rfl rfl rfl dsc_X6_loadsFact ⟨Nat.le_of_ble_eq_true rfl, Nat.le_of_ble_eq_true rfl⟩) (xo_0 I) rfl hl.1 rfl (Nat.le_of_ble_eq_true rfl) dX6_digest_122 (fun H locs I => ?_)
    refine lv_i2l hx hb dX6_digest_125 rfl ?_
    refine lv_ladd hx hb dX6_digest_126 ?_
    refine lv_lstore_n (lv' := [(1, .long (((31 : Int64) * x1) + (Int32.toInt64 r11))), (0, .ref (g.2.2 0)), (3, .int x3)]) hx hb dX6_digest_127 rfl hl (by decide) rfl (fun ls hl => ?_)
    refine lv_iinc (v := (x3 + (1 : Int32))) (lv' := [(3, .int (x3 + (1 : Int32))), (1, .long (((31 : Int64) * x1) + (Int32.toInt64 r11))), (0, .ref (g.2.2 0))]) hx hb dX6_digest_128 hl (k := 2) rfl rfl (by decide) rfl (fun ls hl => ?_)
    refine lv_goto (tgt := 110) hx hb dX6_digest_131 (by decide) ?_
    obtain ⟨rfl, rfl, rfl⟩ := se3 hf
    exact Kt rfl _ _ _ I (lv_sub hl [2, 1, 0] rfl)
set_option maxHeartbeats 4000000 in
theorem lX6_digest_110 (C0 : CallFix p m c cX6_digest 5 s args big RX6) (hr : meth.sig.returnType = (some .long)) (hk : meth.locks = false) {S : St}  {y1 : Int64} {y3 : Int32} : ∀ (n : Nat) {x1 : Int64} {x3 : Int32}, lp (fun q => bX6_digest_110 S q.1 q.2) n (x1, x3) = some (y1, y3) → ∀ {H : Heap} {locs : List Loc}, xI g s S H locs → ∀ {ls : Array Slot}, lv_has ls 5 [(0, .ref (g.2.2 0)), (1, .long x1), (3, .int x3)] → (∀ (H : Heap) (locs : List Loc) (ls : Array Slot), xI g s S H locs → lv_has ls 5 [(0, .ref (g.2.2 0)), (1, .long y1), (3, .int y3)] → W p l e ({ frames := 5, cells := 0, slots := 0, locals := 124 } : Room) s m args below meth c H locs 0 0 Q (F0 m 134 ls [])) → W p l e ({ frames := 5, cells := 0, slots := 0, locals := 124 } : Room) s m args below meth c H locs 0 0 Q (F0 m 110 ls []) := by
  intro n
  induction n with
  | zero => intro x1 x3 hf; cases hf
  | succ n ih =>
    intro x1 x3 hf H locs I ls hl K
    obtain ⟨b, ⟨z0, z1⟩, h1, h2, h3⟩ := lp_some hf
    refine BX6_digest_110 C0 hr hk (fun hb1 H locs ls I hl => ?_) (fun hb1 H locs ls I hl => ?_) h1 I hl
    · exact ih (h2 hb1) I hl K
    · have e := h3 hb1
      cases e
      exact K H locs ls I hl
set_option maxHeartbeats 4000000 in
set_option maxRecDepth 100000 in
theorem BX6_digest_161 (C0 : CallFix p m c cX6_digest 5 s args big RX6) (hr : meth.sig.returnType = (some .long)) (hk : meth.locks = false) {x1 : Int64} {x3 : Int32} {b : Bool} {y1 : Int64} {y3 : Int32} (Kt : b = true → ∀ (H : Heap) (locs : List Loc) (ls : Array Slot), xI g s S H locs → lv_has ls 5 [(0, .ref (g.2.2 0)), (1, .long y1), (3, .int y3)] → W p l e ({ frames := 5, cells := 0, slots := 0, locals := 124 } : Room) s m args below meth c H locs 0 0 Q (F0 m 161 ls [])) (Kf : b = false → ∀ (H : Heap) (locs : List Loc) (ls : Array Slot), xI g s S H locs → lv_has ls 5 [(0, .ref (g.2.2 0)), (1, .long y1), (3, .int y3)] → W p l e ({ frames := 5, cells := 0, slots := 0, locals := 124 } : Room) s m args below meth c H locs 0 0 Q (F0 m 185 ls [])) (hf : bX6_digest_161 S x1 x3 = some (b, y1, y3)) (I : xI g s S H locs) (hl : lv_has ls 5 [(0, .ref (g.2.2 0)), (1, .long x1), (3, .int x3)]) : W p l e ({ frames := 5, cells := 0, slots := 0, locals := 124 } : Room) s m args below meth c H locs 0 0 Q (F0 m 161 ls []) := by
  obtain ⟨hx, hb, hml, -, -⟩ := id C0
  unfold bX6_digest_161 at hf
  refine lv_iload_n hx hb dX6_digest_161 rfl (lv_at hl 2 rfl) ?_
  refine lv_iconst (v := 2) hx hb dX6_digest_162 (by decide) ?_
  refine lv_icmp_gt (tgt := 185) hx hb dX6_digest_163 (by decide) (fun c14 => ?_) (fun c14 => ?_)
  · have hf := ip c14 hf
    obtain ⟨rfl, rfl, rfl⟩ := se3 hf
    exact Kf rfl _ _ _ I (lv_sub hl [0, 1, 2] rfl)
  · have hf := inn c14 hf
    refine lv_ldc2 (v := 31) hx hb C0.2.2.2.1 (C0.2.2.2.2 _ wd_594) dX6_digest_166 ?_
    refine lv_lload_n hx hb dX6_digest_169 rfl (lv_at hl 1 rfl) ?_
    refine lv_lmul hx hb dX6_digest_170 ?_
    refine lv_aload_n hx hb dX6_digest_171 rfl (lv_at hl 0 rfl) ?_
    refine lv_iload_n hx hb dX6_digest_172 rfl (lv_at hl 2 rfl) ?_
    obtain ⟨r15, h15, hf⟩ := bq1_some hf
    refine xcv_i (As := [.int x3]) C0 I (kX6_runFact h15) (cwV 1 C0.2.2.2.2 (gwV wd_504 wd_506 wd_15 wd_66 wd_507) rfl rfl rfl dsc_X6_runFact ⟨Nat.le_of_ble_eq_true rfl, Nat.le_of_ble_eq_true rfl⟩) (xo_0 I) rfl hl.1 rfl (Nat.le_of_ble_eq_true rfl) dX6_digest_173 (fun H locs I => ?_)
    refine lv_i2l hx hb dX6_digest_176 rfl ?_
    refine lv_ladd hx hb dX6_digest_177 ?_
    refine lv_lstore_n (lv' := [(1, .long (((31 : Int64) * x1) + (Int32.toInt64 r15))), (0, .ref (g.2.2 0)), (3, .int x3)]) hx hb dX6_digest_178 rfl hl (by decide) rfl (fun ls hl => ?_)
    refine lv_iinc (v := (x3 + (1 : Int32))) (lv' := [(3, .int (x3 + (1 : Int32))), (1, .long (((31 : Int64) * x1) + (Int32.toInt64 r15))), (0, .ref (g.2.2 0))]) hx hb dX6_digest_179 hl (k := 2) rfl rfl (by decide) rfl (fun ls hl => ?_)
    refine lv_goto (tgt := 161) hx hb dX6_digest_182 (by decide) ?_
    obtain ⟨rfl, rfl, rfl⟩ := se3 hf
    exact Kt rfl _ _ _ I (lv_sub hl [2, 1, 0] rfl)
set_option maxHeartbeats 4000000 in
theorem lX6_digest_161 (C0 : CallFix p m c cX6_digest 5 s args big RX6) (hr : meth.sig.returnType = (some .long)) (hk : meth.locks = false) {S : St}  {y1 : Int64} {y3 : Int32} : ∀ (n : Nat) {x1 : Int64} {x3 : Int32}, lp (fun q => bX6_digest_161 S q.1 q.2) n (x1, x3) = some (y1, y3) → ∀ {H : Heap} {locs : List Loc}, xI g s S H locs → ∀ {ls : Array Slot}, lv_has ls 5 [(0, .ref (g.2.2 0)), (1, .long x1), (3, .int x3)] → (∀ (H : Heap) (locs : List Loc) (ls : Array Slot), xI g s S H locs → lv_has ls 5 [(0, .ref (g.2.2 0)), (1, .long y1), (3, .int y3)] → W p l e ({ frames := 5, cells := 0, slots := 0, locals := 124 } : Room) s m args below meth c H locs 0 0 Q (F0 m 185 ls [])) → W p l e ({ frames := 5, cells := 0, slots := 0, locals := 124 } : Room) s m args below meth c H locs 0 0 Q (F0 m 161 ls []) := by
  intro n
  induction n with
  | zero => intro x1 x3 hf; cases hf
  | succ n ih =>
    intro x1 x3 hf H locs I ls hl K
    obtain ⟨b, ⟨z0, z1⟩, h1, h2, h3⟩ := lp_some hf
    refine BX6_digest_161 C0 hr hk (fun hb1 H locs ls I hl => ?_) (fun hb1 H locs ls I hl => ?_) h1 I hl
    · exact ih (h2 hb1) I hl K
    · have e := h3 hb1
      cases e
      exact K H locs ls I hl
set_option maxHeartbeats 4000000 in
set_option maxRecDepth 100000 in
theorem tX6_digest_0 (C0 : CallFix p m c cX6_digest 5 s args big RX6) (hr : meth.sig.returnType = (some .long)) (hk : meth.locks = false)  {rr : Int64}  (hf : fX6_digest S = some (rr, S')) (I : xI g s S H locs) (hl : lv_has ls 5 [(0, .ref (g.2.2 0))]) : W p l e ({ frames := 5, cells := 0, slots := 0, locals := 124 } : Room) s m args below meth c H locs 0 0 (MQ below (va_Ql (fun r' S2 => r' = rr ∧ S2 = S') (xB g) (xA g)) args s 0 0 (xA g)) (F0 m 0 ls []) := by
  obtain ⟨hx, hb, hml, -, -⟩ := id C0
  unfold fX6_digest at hf
  refine lv_ldc2 (v := 2141) hx hb C0.2.2.2.1 (C0.2.2.2.2 _ wd_593) dX6_digest_0 ?_
  refine lv_lstore_n (lv' := [(1, .long (2141 : Int64)), (0, .ref (g.2.2 0))]) hx hb dX6_digest_3 rfl hl (by decide) rfl (fun ls hl => ?_)
  refine lv_iconst (v := 0) hx hb dX6_digest_4 (by decide) ?_
  refine lv_istore_n (lv' := [(3, .int (0 : Int32)), (1, .long (2141 : Int64)), (0, .ref (g.2.2 0))]) hx hb dX6_digest_5 rfl hl (by decide) rfl (fun ls hl => ?_)
  obtain ⟨S3, y1_3, y3_3, h3, hf⟩ := bq3_some hf
  refine lX6_digest_6 C0 hr hk fu h3 I (lv_sub hl [2, 1, 0] rfl) (fun H locs ls I hl => ?_)
  refine lv_aload_n hx hb dX6_digest_31 rfl (lv_at hl 0 rfl) ?_
  obtain ⟨S4, h4, hf⟩ := bq1_some hf
  refine xcv_v (As := []) C0 I (kX6_tallyWays h4) (cwV 0 C0.2.2.2.2 (gwV wd_393 wd_395 wd_3 wd_66 wd_396) rfl rfl rfl dsc_X6_tallyWays ⟨Nat.le_of_ble_eq_true rfl, Nat.le_of_ble_eq_true rfl⟩) (xo_0 I) rfl hl.1 rfl (Nat.le_of_ble_eq_true rfl) dX6_digest_32 (fun H locs I => ?_)
  refine lv_iconst (v := 0) hx hb dX6_digest_35 (by decide) ?_
  refine lv_istore_n (lv' := [(3, .int (0 : Int32)), (0, .ref (g.2.2 0)), (1, .long y1_3)]) hx hb dX6_digest_36 rfl hl (by decide) rfl (fun ls hl => ?_)
  obtain ⟨y1_9, y3_9, h9, hf⟩ := bq2_some hf
  refine lX6_digest_37 C0 hr hk fu h9 I (lv_sub hl [1, 2, 0] rfl) (fun H locs ls I hl => ?_)
  refine lv_ldc2 (v := 31) hx hb C0.2.2.2.1 (C0.2.2.2.2 _ wd_594) dX6_digest_84 ?_
  refine lv_lload_n hx hb dX6_digest_87 rfl (lv_at hl 1 rfl) ?_
  refine lv_lmul hx hb dX6_digest_88 ?_
  refine lv_aload_n hx hb dX6_digest_89 rfl (lv_at hl 0 rfl) ?_
  refine xg_X6_55_0 C0 I dX6_digest_90 ?_
  refine lv_i2l hx hb dX6_digest_93 rfl ?_
  refine lv_ladd hx hb dX6_digest_94 ?_
  refine lv_lstore_n (lv' := [(1, .long (((31 : Int64) * y1_9) + (Int32.toInt64 (gF S4 28)))), (0, .ref (g.2.2 0)), (3, .int y3_9)]) hx hb dX6_digest_95 rfl hl (by decide) rfl (fun ls hl => ?_)
  refine lv_ldc2 (v := 31) hx hb C0.2.2.2.1 (C0.2.2.2.2 _ wd_594) dX6_digest_96 ?_
  refine lv_lload_n hx hb dX6_digest_99 rfl (lv_at hl 0 rfl) ?_
  refine lv_lmul hx hb dX6_digest_100 ?_
  refine lv_aload_n hx hb dX6_digest_101 rfl (lv_at hl 1 rfl) ?_
  refine xg_X6_59_0 C0 I dX6_digest_102 ?_
  refine lv_i2l hx hb dX6_digest_105 rfl ?_
  refine lv_ladd hx hb dX6_digest_106 ?_
  refine lv_lstore_n (lv' := [(1, .long (((31 : Int64) * (((31 : Int64) * y1_9) + (Int32.toInt64 (gF S4 28)))) + (Int32.toInt64 (gF S4 29)))), (0, .ref (g.2.2 0)), (3, .int y3_9)]) hx hb dX6_digest_107 rfl hl (by decide) rfl (fun ls hl => ?_)
  refine lv_iconst (v := 0) hx hb dX6_digest_108 (by decide) ?_
  refine lv_istore_n (lv' := [(3, .int (0 : Int32)), (1, .long (((31 : Int64) * (((31 : Int64) * y1_9) + (Int32.toInt64 (gF S4 28)))) + (Int32.toInt64 (gF S4 29)))), (0, .ref (g.2.2 0))]) hx hb dX6_digest_109 rfl hl (by decide) rfl (fun ls hl => ?_)
  obtain ⟨y1_12, y3_12, h12, hf⟩ := bq2_some hf
  refine lX6_digest_110 C0 hr hk fu h12 I (lv_sub hl [2, 1, 0] rfl) (fun H locs ls I hl => ?_)
  refine lv_aload_n hx hb dX6_digest_134 rfl (lv_at hl 0 rfl) ?_
  refine xg_X6_40_0 C0 I dX6_digest_135 ?_
  refine lv_aload_n hx hb dX6_digest_138 rfl (lv_at hl 0 rfl) ?_
  refine xg_X6_10_0 C0 I dX6_digest_139 ?_
  refine lv_aload_n hx hb dX6_digest_142 rfl (lv_at hl 0 rfl) ?_
  refine xg_X6_26_0 C0 I dX6_digest_143 ?_
  refine lv_aload_n hx hb dX6_digest_146 rfl (lv_at hl 0 rfl) ?_
  refine xg_X6_10_0 C0 I dX6_digest_147 ?_
  refine xg_X6_99_1 C0 I dX6_digest_150 ?_
  refine lv_sipush (v := 400) hx hb dX6_digest_153 (by decide) ?_
  obtain ⟨S13, h13, hf⟩ := bq1_some hf
  refine xcv_v (As := [.ref (g.2.2 1), .ref (g.2.2 17), .int (gF S4 2), .int (400 : Int32)]) C0 I (kX4_flow h13) (cwV 4 C0.2.2.2.2 (gwV wd_470 wd_471 wd_472 wd_71 wd_473) rfl rfl rfl dsc_X4_flow ⟨Nat.le_of_ble_eq_true rfl, Nat.le_of_ble_eq_true rfl⟩) (xo_24 I) rfl hl.1 rfl (Nat.le_of_ble_eq_true rfl) dX6_digest_156 (fun H locs I => ?_)
  refine lv_iconst (v := 0) hx hb dX6_digest_159 (by decide) ?_
  refine lv_istore_n (lv' := [(3, .int (0 : Int32)), (0, .ref (g.2.2 0)), (1, .long y1_12)]) hx hb dX6_digest_160 rfl hl (by decide) rfl (fun ls hl => ?_)
  obtain ⟨y1_16, y3_16, h16, hf⟩ := bq2_some hf
  refine lX6_digest_161 C0 hr hk fu h16 I (lv_sub hl [1, 2, 0] rfl) (fun H locs ls I hl => ?_)
  refine lv_lload_n hx hb dX6_digest_185 rfl (lv_at hl 1 rfl) ?_
  obtain ⟨rfl, rfl⟩ := se2 hf
  exact xrl C0 hr hk I dX6_digest_186
set_option maxRecDepth 100000 in
theorem kX6_digest  {rr : Int64} (hf : fX6_digest S  = some (rr, S')) : Met l yX6_digest (Cond.code yX6_digest cX6_digest 5 (some .long) :: big) ({ frames := 5, cells := 0, slots := 0, locals := 124 } : Room) (va_Pc [.ref (g.2.2 0)] (xB g S)) (va_Ql (fun r' S2 => r' = rr ∧ S2 = S') (xB g) (xA g)) 0 0 (xA g) := by
  refine Met.ofW (cc := cX6_digest) (maxL := 5) (ret := (some .long)) (by decide) rfl ?_
  intro p e s m args below meth c s₁ B hml hv
  obtain ⟨rfl, hP, hK, hD⟩ := hv
  have hts0 := atoms_spec (ws := (Cond.code yX6_digest cX6_digest 5 (some .long) :: big)) B.pre
  have C0 : CallFix p m c cX6_digest 5 s _ big RX6 := ⟨B.exec, B.bytes, hml, findClass_of_methodNamed B.named, fun w h => hts0 w (List.mem_cons_of_mem _ h)⟩
  have I : xI g s S s.heap [] := ⟨hK, hP, hD, va_S.rf⟩
  have hl := lv_entry ([.ref (g.2.2 0)]) (n := 5) (Nat.le_of_ble_eq_true rfl)
  rw [lg_entry_eq]
  generalize (lg_sl ([.ref (g.2.2 0)]) ++ List.replicate (5 - (lg_sl ([.ref (g.2.2 0)])).length) Slot.unset).toArray = ls at hl ⊢
  have hl : lv_has ls 5 [(0, .ref (g.2.2 0))] := hl
  exact tX6_digest_0 C0 B.returns B.notSynchronized hf I (lv_sub hl [0] rfl)
end
