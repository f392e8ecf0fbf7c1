section
variable {p : Program} {l : Launch} {e : Env} {s : State} {m : MethodId} {args : Array Value} {below : List Frame} {meth : Method} {c : Code} {Q : State → Prop} {g : xG} {H : Heap} {locs : List Loc} {ls : Array Slot} {S S' : St}
set_option maxHeartbeats 4000000 in
set_option maxRecDepth 100000 in
theorem tX6_factOf_0 (C0 : CallFix p m c cX6_factOf 3 s args big RX6) (hr : meth.sig.returnType = (some .int)) (hk : meth.locks = false) {x1 : Int32} {x2 : Int32} {rr : Int32}  (hf : fX6_factOf S x1 x2 = some rr) (I : xI g s S H locs) (hl : lv_has ls 3 [(0, .ref (g.2.2 0)), (1, .int x1), (2, .int x2)]) : W p l e ({ frames := 1, cells := 0, slots := 0, locals := 24 } : Room) s m args below meth c H locs 0 0 (MQ below (va_Qi (fun r' S2 => r' = rr ∧ S2 = S) (xB g) (xA g)) args s 0 0 (xA g)) (F0 m 0 ls []) := by
  obtain ⟨hx, hb, hml, -, -⟩ := id C0
  unfold fX6_factOf at hf
  refine lv_iload_n hx hb dX6_factOf_0 rfl (lv_at hl 2 rfl) ?_
  by_cases e1 : x2 = (4 : Int32)
  · have hf := ip e1 hf
    refine lv_lookup (off := 27) (tgt := 28) hx hb dX6_factOf_1 (by decide) (by rw [e1]; rfl) (by decide) ?_
    refine lv_aload_n hx hb dX6_factOf_28 rfl (lv_at hl 0 rfl) ?_
    refine xg_X6_26_0 C0 I dX6_factOf_29 ?_
    refine xg_X6_130_17 C0 I dX6_factOf_32 ?_
    refine lv_iload_n hx hb dX6_factOf_35 rfl (lv_at hl 1 rfl) ?_
    obtain ⟨b2, hf⟩ := chk_some hf
    refine xl_18 hx hb I b2 dX6_factOf_36 ?_
    obtain rfl := se1 hf
    exact xri C0 hr hk I dX6_factOf_37
  · have hf := inn e1 hf
    by_cases e3 : x2 = (5 : Int32)
    · have hf := ip e3 hf
      refine lv_lookup (off := 37) (tgt := 38) hx hb dX6_factOf_1 (by decide) (by rw [e3]; rfl) (by decide) ?_
      refine lv_aload_n hx hb dX6_factOf_38 rfl (lv_at hl 0 rfl) ?_
      refine xg_X6_26_0 C0 I dX6_factOf_39 ?_
      refine lv_iload_n hx hb dX6_factOf_42 rfl (lv_at hl 1 rfl) ?_
      refine lv_aload_n hx hb dX6_factOf_43 rfl (lv_at hl 0 rfl) ?_
      refine xg_X6_10_0 C0 I dX6_factOf_44 ?_
      refine xg_X6_73_1 C0 I dX6_factOf_47 ?_
      obtain ⟨r4, h4, hf⟩ := bq1_some hf
      refine xcv_i (As := [.int x1, .int (gF S 3)]) C0 I (kX5_meetings h4) (cwV 2 C0.2.2.2.2 (gwV wd_369 wd_370 wd_371 wd_69 wd_372) rfl rfl rfl dsc_X5_meetings ⟨Nat.le_of_ble_eq_true rfl, Nat.le_of_ble_eq_true rfl⟩) (xo_17 I) rfl hl.1 rfl (Nat.le_of_ble_eq_true rfl) dX6_factOf_50 (fun H locs I => ?_)
      obtain rfl := se1 hf
      exact xri C0 hr hk I dX6_factOf_53
    · have hf := inn e3 hf
      refine lv_lookup (off := 53) (tgt := 54) hx hb dX6_factOf_1 (by decide) ((lv_osw e1 (by decide)).trans ((lv_osw e3 (by decide)).trans rfl)) (by decide) ?_
      refine lv_aload_n hx hb dX6_factOf_54 rfl (lv_at hl 0 rfl) ?_
      refine xg_X6_10_0 C0 I dX6_factOf_55 ?_
      refine lv_iload_n hx hb dX6_factOf_58 rfl (lv_at hl 1 rfl) ?_
      refine lv_iload_n hx hb dX6_factOf_59 rfl (lv_at hl 2 rfl) ?_
      obtain ⟨r5, h5, hf⟩ := bq1_some hf
      refine xcv_i (As := [.int x1, .int x2]) C0 I (kX3_trait h5) (cwV 2 C0.2.2.2.2 (gwV wd_318 wd_319 wd_320 wd_67 wd_321) rfl rfl rfl dsc_X3_trait ⟨Nat.le_of_ble_eq_true rfl, Nat.le_of_ble_eq_true rfl⟩) (xo_1 I) rfl hl.1 rfl (Nat.le_of_ble_eq_true rfl) dX6_factOf_60 (fun H locs I => ?_)
      obtain rfl := se1 hf
      exact xri C0 hr hk I dX6_factOf_63
set_option maxRecDepth 100000 in
theorem kX6_factOf {x1 : Int32} {x2 : Int32} {rr : Int32} (hf : fX6_factOf S x1 x2 = some rr) : Met l yX6_factOf (Cond.code yX6_factOf cX6_factOf 3 (some .int) :: big) ({ frames := 1, cells := 0, slots := 0, locals := 24 } : Room) (va_Pc [.ref (g.2.2 0), .int x1, .int x2] (xB g S)) (va_Qi (fun r' S2 => r' = rr ∧ S2 = S) (xB g) (xA g)) 0 0 (xA g) := by
  refine Met.ofW (cc := cX6_factOf) (maxL := 3) (ret := (some .int)) (by decide) rfl ?_
  intro p e s m args below meth c s₁ B hml hv
  obtain ⟨rfl, hP, hK, hD⟩ := hv
  have hts0 := atoms_spec (ws := (Cond.code yX6_factOf cX6_factOf 3 (some .int) :: big)) B.pre
  have C0 : CallFix p m c cX6_factOf 3 s _ big RX6 := ⟨B.exec, B.bytes, hml, findClass_of_methodNamed B.named, fun w h => hts0 w (List.mem_cons_of_mem _ h)⟩
  have I : xI g s S s.heap [] := ⟨hK, hP, hD, va_S.rf⟩
  have hl := lv_entry ([.ref (g.2.2 0), .int x1, .int x2]) (n := 3) (Nat.le_of_ble_eq_true rfl)
  rw [lg_entry_eq]
  generalize (lg_sl ([.ref (g.2.2 0), .int x1, .int x2]) ++ List.replicate (3 - (lg_sl ([.ref (g.2.2 0), .int x1, .int x2])).length) Slot.unset).toArray = ls at hl ⊢
  have hl : lv_has ls 3 [(0, .ref (g.2.2 0)), (1, .int x1), (2, .int x2)] := hl
  exact tX6_factOf_0 C0 B.returns B.notSynchronized hf I (lv_sub hl [0, 1, 2] rfl)
set_option maxHeartbeats 4000000 in
set_option maxRecDepth 100000 in
theorem tX6_of_20 (C0 : CallFix p m c cX6_of 3 s args big RX6) (hr : meth.sig.returnType = (some .int)) (hk : meth.locks = false)  {rr : Int32}  (hf : fX6_of_20 S = some (rr, S')) (I : xI g s S H locs) (hl : lv_has ls 3 [(0, .ref (g.2.2 0))]) : W p l e ({ frames := 3, cells := 0, slots := 0, locals := 74 } : Room) s m args below meth c H locs 0 0 (MQ below (va_Qi (fun r' S2 => r' = rr ∧ S2 = S') (xB g) (xA g)) args s 0 0 (xA g)) (F0 m 20 ls []) := by
  obtain ⟨hx, hb, hml, -, -⟩ := id C0
  unfold fX6_of_20 at hf
  refine lv_aload_n hx hb dX6_of_20 rfl (lv_at hl 0 rfl) ?_
  refine lv_bipush (v := -2) hx hb dX6_of_21 (by decide) ?_
  obtain ⟨r3, S3, h3, hf⟩ := bq2_some hf
  refine xcv_i (As := [.int (-2 : Int32)]) C0 I (kX6_refuse h3) (cwV 1 C0.2.2.2.2 (gwV wd_272 wd_274 wd_0 wd_66 wd_275) rfl rfl rfl dsc_X6_refuse ⟨Nat.le_of_ble_eq_true rfl, Nat.le_of_ble_eq_true rfl⟩) (xo_0 I) rfl hl.1 rfl (Nat.le_of_ble_eq_true rfl) dX6_of_23 (fun H locs I => ?_)
  obtain ⟨rfl, rfl⟩ := se2 hf
  exact xri C0 hr hk I dX6_of_26
set_option maxHeartbeats 4000000 in
set_option maxRecDepth 100000 in
theorem tX6_of_0 (C0 : CallFix p m c cX6_of 3 s args big RX6) (hr : meth.sig.returnType = (some .int)) (hk : meth.locks = false) {x1 : Int32} {x2 : Int32} {rr : Int32}  (hf : fX6_of S x1 x2 = some (rr, S')) (I : xI g s S H locs) (hl : lv_has ls 3 [(0, .ref (g.2.2 0)), (1, .int x1), (2, .int x2)]) : W p l e ({ frames := 3, cells := 0, slots := 0, locals := 74 } : Room) s m args below meth c H locs 0 0 (MQ below (va_Qi (fun r' S2 => r' = rr ∧ S2 = S') (xB g) (xA g)) args s 0 0 (xA g)) (F0 m 0 ls []) := by
  obtain ⟨hx, hb, hml, -, -⟩ := id C0
  unfold fX6_of at hf
  refine lv_aload_n hx hb dX6_of_0 rfl (lv_at hl 0 rfl) ?_
  refine xg_X6_10_0 C0 I dX6_of_1 ?_
  refine lv_iload_n hx hb dX6_of_4 rfl (lv_at hl 1 rfl) ?_
  obtain ⟨r1, h1, hf⟩ := bq1_some hf
  refine xcv_i (As := [.int x1]) C0 I (kX3_has h1) (cwV 1 C0.2.2.2.2 (gwV wd_314 wd_315 wd_316 wd_67 wd_317) rfl rfl rfl dsc_X3_has ⟨Nat.le_of_ble_eq_true rfl, Nat.le_of_ble_eq_true rfl⟩) (xo_1 I) rfl hl.1 rfl (Nat.le_of_ble_eq_true rfl) dX6_of_5 (fun H locs I => ?_)
  refine lv_if_eq (tgt := 20) hx hb dX6_of_8 (by decide) (fun c2 => ?_) (fun c2 => ?_)
  · have hf := ip c2 hf
    exact tX6_of_20 C0 hr hk hf I (lv_sub hl [0] rfl)
  · have hf := inn c2 hf
    refine lv_iload_n hx hb dX6_of_11 rfl (lv_at hl 2 rfl) ?_
    refine lv_if_lt (tgt := 20) hx hb dX6_of_12 (by decide) (fun c4 => ?_) (fun c4 => ?_)
    · have hf := ip c4 hf
      exact tX6_of_20 C0 hr hk hf I (lv_sub hl [0] rfl)
    · have hf := inn c4 hf
      refine lv_iload_n hx hb dX6_of_15 rfl (lv_at hl 2 rfl) ?_
      refine lv_iconst (v := 5) hx hb dX6_of_16 (by decide) ?_
      refine lv_icmp_le (tgt := 27) hx hb dX6_of_17 (by decide) (fun c5 => ?_) (fun c5 => ?_)
      · have hf := ip c5 hf
        refine lv_aload_n hx hb dX6_of_27 rfl (lv_at hl 0 rfl) ?_
        refine xg_X6_26_0 C0 I dX6_of_28 ?_
        refine lv_aload_n hx hb dX6_of_31 rfl (lv_at hl 0 rfl) ?_
        refine xg_X6_10_0 C0 I dX6_of_32 ?_
        obtain ⟨S6, h6, hf⟩ := bq1_some hf
        refine xcv_v (As := [.ref (g.2.2 1)]) C0 I (kX5_follow h6) (cwV 1 C0.2.2.2.2 (gwV wd_352 wd_353 wd_354 wd_69 wd_355) rfl rfl rfl dsc_X5_follow ⟨Nat.le_of_ble_eq_true rfl, Nat.le_of_ble_eq_true rfl⟩) (xo_17 I) rfl hl.1 rfl (Nat.le_of_ble_eq_true rfl) dX6_of_35 (fun H locs I => ?_)
        refine lv_aload_n hx hb dX6_of_38 rfl (lv_at hl 0 rfl) ?_
        refine lv_iload_n hx hb dX6_of_39 rfl (lv_at hl 1 rfl) ?_
        refine lv_iload_n hx hb dX6_of_40 rfl (lv_at hl 2 rfl) ?_
        obtain ⟨r7, h7, hf⟩ := bq1_some hf
        refine xcv_i (As := [.int x1, .int x2]) C0 I (kX6_factOf h7) (cwV 2 C0.2.2.2.2 (gwV wd_365 wd_367 wd_2 wd_66 wd_368) rfl rfl rfl dsc_X6_factOf ⟨Nat.le_of_ble_eq_true rfl, Nat.le_of_ble_eq_true rfl⟩) (xo_0 I) rfl hl.1 rfl (Nat.le_of_ble_eq_true rfl) dX6_of_41 (fun H locs I => ?_)
        obtain ⟨rfl, rfl⟩ := se2 hf
        exact xri C0 hr hk I dX6_of_44
      · have hf := inn c5 hf
        exact tX6_of_20 C0 hr hk hf I (lv_sub hl [0] rfl)
set_option maxRecDepth 100000 in
theorem kX6_of {x1 : Int32} {x2 : Int32} {rr : Int32} (hf : fX6_of S x1 x2 = some (rr, S')) : Met l yX6_of (Cond.code yX6_of cX6_of 3 (some .int) :: big) ({ frames := 3, cells := 0, slots := 0, locals := 74 } : Room) (va_Pc [.ref (g.2.2 0), .int x1, .int x2] (xB g S)) (va_Qi (fun r' S2 => r' = rr ∧ S2 = S') (xB g) (xA g)) 0 0 (xA g) := by
  refine Met.ofW (cc := cX6_of) (maxL := 3) (ret := (some .int)) (by decide) rfl ?_
  intro p e s m args below meth c s₁ B hml hv
  obtain ⟨rfl, hP, hK, hD⟩ := hv
  have hts0 := atoms_spec (ws := (Cond.code yX6_of cX6_of 3 (some .int) :: big)) B.pre
  have C0 : CallFix p m c cX6_of 3 s _ big RX6 := ⟨B.exec, B.bytes, hml, findClass_of_methodNamed B.named, fun w h => hts0 w (List.mem_cons_of_mem _ h)⟩
  have I : xI g s S s.heap [] := ⟨hK, hP, hD, va_S.rf⟩
  have hl := lv_entry ([.ref (g.2.2 0), .int x1, .int x2]) (n := 3) (Nat.le_of_ble_eq_true rfl)
  rw [lg_entry_eq]
  generalize (lg_sl ([.ref (g.2.2 0), .int x1, .int x2]) ++ List.replicate (3 - (lg_sl ([.ref (g.2.2 0), .int x1, .int x2])).length) Slot.unset).toArray = ls at hl ⊢
  have hl : lv_has ls 3 [(0, .ref (g.2.2 0)), (1, .int x1), (2, .int x2)] := hl
  exact tX6_of_0 C0 B.returns B.notSynchronized hf I (lv_sub hl [0, 1, 2] rfl)
set_option maxHeartbeats 4000000 in
set_option maxRecDepth 100000 in
theorem tX5_edge_0 (C0 : CallFix p m c cX5_edge 3 s args big RX5) (hr : meth.sig.returnType = (some .int)) (hk : meth.locks = false) {x1 : Int32} {x2 : Int32} {rr : Int32}  (hf : fX5_edge S x1 x2 = some rr) (I : xI g s S H locs) (hl : lv_has ls 3 [(0, .ref (g.2.2 17)), (1, .int x1), (2, .int x2)]) : W p l e ({ frames := 0, cells := 0, slots := 0, locals := 0 } : Room) s m args below meth c H locs 0 0 (MQ below (va_Qi (fun r' S2 => r' = rr ∧ S2 = S) (xB g) (xA g)) args s 0 0 (xA g)) (F0 m 0 ls []) := by
  obtain ⟨hx, hb, hml, -, -⟩ := id C0
  unfold fX5_edge at hf
  refine lv_aload_n hx hb dX5_edge_0 rfl (lv_at hl 0 rfl) ?_
  refine xg_X5_18_17 C0 I dX5_edge_1 ?_
  refine lv_iload_n hx hb dX5_edge_4 rfl (lv_at hl 1 rfl) ?_
  refine lv_bipush (v := 8) hx hb dX5_edge_5 (by decide) ?_
  refine lv_imul hx hb dX5_edge_7 ?_
  refine lv_iload_n hx hb dX5_edge_8 rfl (lv_at hl 2 rfl) ?_
  refine lv_iadd hx hb dX5_edge_9 ?_
  obtain ⟨b1, hf⟩ := chk_some hf
  refine xl_20 hx hb I b1 dX5_edge_10 ?_
  obtain rfl := se1 hf
  exact xri C0 hr hk I dX5_edge_11
set_option maxRecDepth 100000 in
theorem kX5_edge {x1 : Int32} {x2 : Int32} {rr : Int32} (hf : fX5_edge S x1 x2 = some rr) : Met l yX5_edge (Cond.code yX5_edge cX5_edge 3 (some .int) :: big) ({ frames := 0, cells := 0, slots := 0, locals := 0 } : Room) (va_Pc [.ref (g.2.2 17), .int x1, .int x2] (xB g S)) (va_Qi (fun r' S2 => r' = rr ∧ S2 = S) (xB g) (xA g)) 0 0 (xA g) := by
  refine Met.ofW (cc := cX5_edge) (maxL := 3) (ret := (some .int)) (by decide) rfl ?_
  intro p e s m args below meth c s₁ B hml hv
  obtain ⟨rfl, hP, hK, hD⟩ := hv
  have hts0 := atoms_spec (ws := (Cond.code yX5_edge cX5_edge 3 (some .int) :: big)) B.pre
  have C0 : CallFix p m c cX5_edge 3 s _ big RX5 := ⟨B.exec, B.bytes, hml, findClass_of_methodNamed B.named, fun w h => hts0 w (List.mem_cons_of_mem _ h)⟩
  have I : xI g s S s.heap [] := ⟨hK, hP, hD, va_S.rf⟩
  have hl := lv_entry ([.ref (g.2.2 17), .int x1, .int x2]) (n := 3) (Nat.le_of_ble_eq_true rfl)
  rw [lg_entry_eq]
  generalize (lg_sl ([.ref (g.2.2 17), .int x1, .int x2]) ++ List.replicate (3 - (lg_sl ([.ref (g.2.2 17), .int x1, .int x2])).length) Slot.unset).toArray = ls at hl ⊢
  have hl : lv_has ls 3 [(0, .ref (g.2.2 17)), (1, .int x1), (2, .int x2)] := hl
  exact tX5_edge_0 C0 B.returns B.notSynchronized hf I (lv_sub hl [0, 1, 2] rfl)
set_option maxHeartbeats 4000000 in
set_option maxRecDepth 100000 in
theorem tX5_cornerBehind_0 (C0 : CallFix p m c cX5_cornerBehind 4 s args big RX5) (hr : meth.sig.returnType = (some .int)) (hk : meth.locks = false) {x2 : Int32} {x3 : Int32} {rr : Int32}  (hf : fX5_cornerBehind S x2 x3 = some rr) (I : xI g s S H locs) (hl : lv_has ls 4 [(0, .ref (g.2.2 17)), (1, .ref (g.2.2 1)), (2, .int x2), (3, .int x3)]) : W p l e ({ frames := 1, cells := 0, slots := 0, locals := 22 } : Room) s m args below meth c H locs 0 0 (MQ below (va_Qi (fun r' S2 => r' = rr ∧ S2 = S) (xB g) (xA g)) args s 0 0 (xA g)) (F0 m 0 ls []) := by
  obtain ⟨hx, hb, hml, -, -⟩ := id C0
  unfold fX5_cornerBehind at hf
  refine lv_iload_n hx hb dX5_cornerBehind_0 rfl (lv_at hl 3 rfl) ?_
  refine lv_aload_n hx hb dX5_cornerBehind_1 rfl (lv_at hl 0 rfl) ?_
  refine xg_X5_9_17 C0 I dX5_cornerBehind_2 ?_
  refine lv_iload_n hx hb dX5_cornerBehind_5 rfl (lv_at hl 2 rfl) ?_
  obtain ⟨b1, hf⟩ := chk_some hf
  refine xl_18 hx hb I b1 dX5_cornerBehind_6 ?_
  refine lv_icmp_ge (tgt := 21) hx hb dX5_cornerBehind_7 (by decide) (fun c2 => ?_) (fun c2 => ?_)
  · have hf := ip c2 hf
    refine lv_aload_n hx hb dX5_cornerBehind_21 rfl (lv_at hl 1 rfl) ?_
    refine lv_iload_n hx hb dX5_cornerBehind_22 rfl (lv_at hl 2 rfl) ?_
    refine lv_iconst (v := 1) hx hb dX5_cornerBehind_23 (by decide) ?_
    obtain ⟨r3, h3, hf⟩ := bq1_some hf
    refine xcv_i (As := [.int x2, .int (1 : Int32)]) C0 I (kX3_trait h3) (cwV 2 C0.2.2.2.2 (gwV wd_356 wd_319 wd_320 wd_67 wd_321) rfl rfl rfl dsc_X3_trait ⟨Nat.le_of_ble_eq_true rfl, Nat.le_of_ble_eq_true rfl⟩) (xo_1 I) rfl hl.1 rfl (Nat.le_of_ble_eq_true rfl) dX5_cornerBehind_24 (fun H locs I => ?_)
    obtain rfl := se1 hf
    exact xri C0 hr hk I dX5_cornerBehind_27
  · have hf := inn c2 hf
    refine lv_aload_n hx hb dX5_cornerBehind_10 rfl (lv_at hl 0 rfl) ?_
    refine lv_iload_n hx hb dX5_cornerBehind_11 rfl (lv_at hl 2 rfl) ?_
    refine lv_iload_n hx hb dX5_cornerBehind_12 rfl (lv_at hl 3 rfl) ?_
    obtain ⟨r4, h4, hf⟩ := bq1_some hf
    refine xcv_i (As := [.int x2, .int x3]) C0 I (kX5_edge h4) (cwV 2 C0.2.2.2.2 (gwV wd_381 wd_382 wd_383 wd_69 wd_384) rfl rfl rfl dsc_X5_edge ⟨Nat.le_of_ble_eq_true rfl, Nat.le_of_ble_eq_true rfl⟩) (xo_17 I) rfl hl.1 rfl (Nat.le_of_ble_eq_true rfl) dX5_cornerBehind_13 (fun H locs I => ?_)
    refine lv_iconst (v := 4) hx hb dX5_cornerBehind_16 (by decide) ?_
    refine lv_idiv hx hb dX5_cornerBehind_17 (by decide) ?_
    refine lv_goto (tgt := 27) hx hb dX5_cornerBehind_18 (by decide) ?_
    obtain rfl := se1 hf
    exact xri C0 hr hk I dX5_cornerBehind_27
set_option maxRecDepth 100000 in
theorem kX5_cornerBehind {x2 : Int32} {x3 : Int32} {rr : Int32} (hf : fX5_cornerBehind S x2 x3 = some rr) : Met l yX5_cornerBehind (Cond.code yX5_cornerBehind cX5_cornerBehind 4 (some .int) :: big) ({ frames := 1, cells := 0, slots := 0, locals := 22 } : Room) (va_Pc [.ref (g.2.2 17), .ref (g.2.2 1), .int x2, .int x3] (xB g S)) (va_Qi (fun r' S2 => r' = rr ∧ S2 = S) (xB g) (xA g)) 0 0 (xA g) := by
  refine Met.ofW (cc := cX5_cornerBehind) (maxL := 4) (ret := (some .int)) (by decide) rfl ?_
  intro p e s m args below meth c s₁ B hml hv
  obtain ⟨rfl, hP, hK, hD⟩ := hv
  have hts0 := atoms_spec (ws := (Cond.code yX5_cornerBehind cX5_cornerBehind 4 (some .int) :: big)) B.pre
  have C0 : CallFix p m c cX5_cornerBehind 4 s _ big RX5 := ⟨B.exec, B.bytes, hml, findClass_of_methodNamed B.named, fun w h => hts0 w (List.mem_cons_of_mem _ h)⟩
  have I : xI g s S s.heap [] := ⟨hK, hP, hD, va_S.rf⟩
  have hl := lv_entry ([.ref (g.2.2 17), .ref (g.2.2 1), .int x2, .int x3]) (n := 4) (Nat.le_of_ble_eq_true rfl)
  rw [lg_entry_eq]
  generalize (lg_sl ([.ref (g.2.2 17), .ref (g.2.2 1), .int x2, .int x3]) ++ List.replicate (4 - (lg_sl ([.ref (g.2.2 17), .ref (g.2.2 1), .int x2, .int x3])).length) Slot.unset).toArray = ls at hl ⊢
  have hl : lv_has ls 4 [(0, .ref (g.2.2 17)), (1, .ref (g.2.2 1)), (2, .int x2), (3, .int x3)] := hl
  exact tX5_cornerBehind_0 C0 B.returns B.notSynchronized hf I (lv_sub hl [0, 1, 2, 3] rfl)
set_option maxHeartbeats 4000000 in
set_option maxRecDepth 100000 in
theorem tX6_step_15 (C0 : CallFix p m c cX6_step 3 s args big RX6) (hr : meth.sig.returnType = (some .int)) (hk : meth.locks = false)  {rr : Int32}  (hf : fX6_step_15 S = some (rr, S')) (I : xI g s S H locs) (hl : lv_has ls 3 [(0, .ref (g.2.2 0))]) : W p l e ({ frames := 3, cells := 0, slots := 0, locals := 74 } : Room) s m args below meth c H locs 0 0 (MQ below (va_Qi (fun r' S2 => r' = rr ∧ S2 = S') (xB g) (xA g)) args s 0 0 (xA g)) (F0 m 15 ls []) := by
  obtain ⟨hx, hb, hml, -, -⟩ := id C0
  unfold fX6_step_15 at hf
  refine lv_aload_n hx hb dX6_step_15 rfl (lv_at hl 0 rfl) ?_
  refine lv_bipush (v := -2) hx hb dX6_step_16 (by decide) ?_
  obtain ⟨r3, S3, h3, hf⟩ := bq2_some hf
  refine xcv_i (As := [.int (-2 : Int32)]) C0 I (kX6_refuse h3) (cwV 1 C0.2.2.2.2 (gwV wd_272 wd_274 wd_0 wd_66 wd_275) rfl rfl rfl dsc_X6_refuse ⟨Nat.le_of_ble_eq_true rfl, Nat.le_of_ble_eq_true rfl⟩) (xo_0 I) rfl hl.1 rfl (Nat.le_of_ble_eq_true rfl) dX6_step_18 (fun H locs I => ?_)
  obtain ⟨rfl, rfl⟩ := se2 hf
  exact xri C0 hr hk I dX6_step_21
set_option maxHeartbeats 4000000 in
set_option maxRecDepth 100000 in
theorem tX6_step_0 (C0 : CallFix p m c cX6_step 3 s args big RX6) (hr : meth.sig.returnType = (some .int)) (hk : meth.locks = false) {x1 : Int32} {x2 : Int32} {rr : Int32}  (hf : fX6_step S x1 x2 = some (rr, S')) (I : xI g s S H locs) (hl : lv_has ls 3 [(0, .ref (g.2.2 0)), (1, .int x1), (2, .int x2)]) : W p l e ({ frames := 3, cells := 0, slots := 0, locals := 74 } : Room) s m args below meth c H locs 0 0 (MQ below (va_Qi (fun r' S2 => r' = rr ∧ S2 = S') (xB g) (xA g)) args s 0 0 (xA g)) (F0 m 0 ls []) := by
  obtain ⟨hx, hb, hml, -, -⟩ := id C0
  unfold fX6_step at hf
  refine lv_aload_n hx hb dX6_step_0 rfl (lv_at hl 0 rfl) ?_
  refine xg_X6_10_0 C0 I dX6_step_1 ?_
  refine lv_iload_n hx hb dX6_step_4 rfl (lv_at hl 1 rfl) ?_
  obtain ⟨r1, h1, hf⟩ := bq1_some hf
  refine xcv_i (As := [.int x1]) C0 I (kX3_has h1) (cwV 1 C0.2.2.2.2 (gwV wd_314 wd_315 wd_316 wd_67 wd_317) rfl rfl rfl dsc_X3_has ⟨Nat.le_of_ble_eq_true rfl, Nat.le_of_ble_eq_true rfl⟩) (xo_1 I) rfl hl.1 rfl (Nat.le_of_ble_eq_true rfl) dX6_step_5 (fun H locs I => ?_)
  refine lv_if_eq (tgt := 15) hx hb dX6_step_8 (by decide) (fun c2 => ?_) (fun c2 => ?_)
  · have hf := ip c2 hf
    exact tX6_step_15 C0 hr hk hf I (lv_sub hl [0] rfl)
  · have hf := inn c2 hf
    refine lv_iload_n hx hb dX6_step_11 rfl (lv_at hl 2 rfl) ?_
    refine lv_if_ge (tgt := 22) hx hb dX6_step_12 (by decide) (fun c4 => ?_) (fun c4 => ?_)
    · have hf := ip c4 hf
      refine lv_aload_n hx hb dX6_step_22 rfl (lv_at hl 0 rfl) ?_
      refine xg_X6_26_0 C0 I dX6_step_23 ?_
      refine lv_aload_n hx hb dX6_step_26 rfl (lv_at hl 0 rfl) ?_
      refine xg_X6_10_0 C0 I dX6_step_27 ?_
      obtain ⟨S5, h5, hf⟩ := bq1_some hf
      refine xcv_v (As := [.ref (g.2.2 1)]) C0 I (kX5_follow h5) (cwV 1 C0.2.2.2.2 (gwV wd_352 wd_353 wd_354 wd_69 wd_355) rfl rfl rfl dsc_X5_follow ⟨Nat.le_of_ble_eq_true rfl, Nat.le_of_ble_eq_true rfl⟩) (xo_17 I) rfl hl.1 rfl (Nat.le_of_ble_eq_true rfl) dX6_step_30 (fun H locs I => ?_)
      refine lv_iload_n hx hb dX6_step_33 rfl (lv_at hl 2 rfl) ?_
      refine lv_aload_n hx hb dX6_step_34 rfl (lv_at hl 0 rfl) ?_
      refine xg_X6_26_0 C0 I dX6_step_35 ?_
      refine xg_X6_130_17 C0 I dX6_step_38 ?_
      refine lv_iload_n hx hb dX6_step_41 rfl (lv_at hl 1 rfl) ?_
      obtain ⟨b6, hf⟩ := chk_some hf
      refine xl_18 hx hb I b6 dX6_step_42 ?_
      refine lv_icmp_le (tgt := 51) hx hb dX6_step_43 (by decide) (fun c7 => ?_) (fun c7 => ?_)
      · have hf := ip c7 hf
        refine lv_aload_n hx hb dX6_step_51 rfl (lv_at hl 0 rfl) ?_
        refine xg_X6_26_0 C0 I dX6_step_52 ?_
        refine lv_aload_n hx hb dX6_step_55 rfl (lv_at hl 0 rfl) ?_
        refine xg_X6_10_0 C0 I dX6_step_56 ?_
        refine lv_iload_n hx hb dX6_step_59 rfl (lv_at hl 1 rfl) ?_
        refine lv_iload_n hx hb dX6_step_60 rfl (lv_at hl 2 rfl) ?_
        obtain ⟨r8, h8, hf⟩ := bq1_some hf
        refine xcv_i (As := [.ref (g.2.2 1), .int x1, .int x2]) C0 I (kX5_cornerBehind h8) (cwV 3 C0.2.2.2.2 (gwV wd_377 wd_378 wd_379 wd_69 wd_380) rfl rfl rfl dsc_X5_cornerBehind ⟨Nat.le_of_ble_eq_true rfl, Nat.le_of_ble_eq_true rfl⟩) (xo_17 I) rfl hl.1 rfl (Nat.le_of_ble_eq_true rfl) dX6_step_61 (fun H locs I => ?_)
        obtain ⟨rfl, rfl⟩ := se2 hf
        exact xri C0 hr hk I dX6_step_64
      · have hf := inn c7 hf
        refine lv_bipush (v := -5) hx hb dX6_step_46 (by decide) ?_
        refine lv_goto (tgt := 64) hx hb dX6_step_48 (by decide) ?_
        obtain ⟨rfl, rfl⟩ := se2 hf
        exact xri C0 hr hk I dX6_step_64
    · have hf := inn c4 hf
      exact tX6_step_15 C0 hr hk hf I (lv_sub hl [0] rfl)
set_option maxRecDepth 100000 in
theorem kX6_step {x1 : Int32} {x2 : Int32} {rr : Int32} (hf : fX6_step S x1 x2 = some (rr, S')) : Met l yX6_step (Cond.code yX6_step cX6_step 3 (some .int) :: big) ({ frames := 3, cells := 0, slots := 0, locals := 74 } : Room) (va_Pc [.ref (g.2.2 0), .int x1, .int x2] (xB g S)) (va_Qi (fun r' S2 => r' = rr ∧ S2 = S') (xB g) (xA g)) 0 0 (xA g) := by
  refine Met.ofW (cc := cX6_step) (maxL := 3) (ret := (some .int)) (by decide) rfl ?_
  intro p e s m args below meth c s₁ B hml hv
  obtain ⟨rfl, hP, hK, hD⟩ := hv
  have hts0 := atoms_spec (ws := (Cond.code yX6_step cX6_step 3 (some .int) :: big)) B.pre
  have C0 : CallFix p m c cX6_step 3 s _ big RX6 := ⟨B.exec, B.bytes, hml, findClass_of_methodNamed B.named, fun w h => hts0 w (List.mem_cons_of_mem _ h)⟩
  have I : xI g s S s.heap [] := ⟨hK, hP, hD, va_S.rf⟩
  have hl := lv_entry ([.ref (g.2.2 0), .int x1, .int x2]) (n := 3) (Nat.le_of_ble_eq_true rfl)
  rw [lg_entry_eq]
  generalize (lg_sl ([.ref (g.2.2 0), .int x1, .int x2]) ++ List.replicate (3 - (lg_sl ([.ref (g.2.2 0), .int x1, .int x2])).length) Slot.unset).toArray = ls at hl ⊢
  have hl : lv_has ls 3 [(0, .ref (g.2.2 0)), (1, .int x1), (2, .int x2)] := hl
  exact tX6_step_0 C0 B.returns B.notSynchronized hf I (lv_sub hl [0, 1, 2] rfl)
set_option maxHeartbeats 4000000 in
set_option maxRecDepth 100000 in
theorem tX3_hasEdge_0 (C0 : CallFix p m c cX3_hasEdge 3 s args big RX3) (hr : meth.sig.returnType = (some .boolean)) (hk : meth.locks = false) {x1 : Int32} {x2 : Int32} {rr : Int32}  (hf : fX3_hasEdge S x1 x2 = some rr) (I : xI g s S H locs) (hl : lv_has ls 3 [(0, .ref (g.2.2 1)), (1, .int x1), (2, .int x2)]) : W p l e ({ frames := 1, cells := 0, slots := 0, locals := 20 } : Room) s m args below meth c H locs 0 0 (MQ below (va_Qi (fun r' S2 => r' = rr ∧ S2 = S) (xB g) (xA g)) args s 0 0 (xA g)) (F0 m 0 ls []) := by
  obtain ⟨hx, hb, hml, -, -⟩ := id C0
  unfold fX3_hasEdge at hf
  refine lv_iload_n hx hb dX3_hasEdge_0 rfl (lv_at hl 1 rfl) ?_
  refine lv_if_lt (tgt := 28) hx hb dX3_hasEdge_1 (by decide) (fun c1 => ?_) (fun c1 => ?_)
  · have hf := ip c1 hf
    refine lv_iconst (v := 0) hx hb dX3_hasEdge_28 (by decide) ?_
    obtain rfl := se1 hf
    exact xrz C0 hr hk rfl I dX3_hasEdge_29
  · have hf := inn c1 hf
    refine lv_iload_n hx hb dX3_hasEdge_4 rfl (lv_at hl 1 rfl) ?_
    refine lv_aload_n hx hb dX3_hasEdge_5 rfl (lv_at hl 0 rfl) ?_
    obtain ⟨r2, h2, hf⟩ := bq1_some hf
    refine xcv_i (As := []) C0 I (kX3_corners h2) (cwV 0 C0.2.2.2.2 (gwV wd_298 wd_299 wd_300 wd_67 wd_301) rfl rfl rfl dsc_X3_corners ⟨Nat.le_of_ble_eq_true rfl, Nat.le_of_ble_eq_true rfl⟩) (xo_1 I) rfl hl.1 rfl (Nat.le_of_ble_eq_true rfl) dX3_hasEdge_6 (fun H locs I => ?_)
    refine lv_icmp_ge (tgt := 28) hx hb dX3_hasEdge_9 (by decide) (fun c3 => ?_) (fun c3 => ?_)
    · have hf := ip c3 hf
      refine lv_iconst (v := 0) hx hb dX3_hasEdge_28 (by decide) ?_
      obtain rfl := se1 hf
      exact xrz C0 hr hk rfl I dX3_hasEdge_29
    · have hf := inn c3 hf
      refine lv_iload_n hx hb dX3_hasEdge_12 rfl (lv_at hl 2 rfl) ?_
      refine lv_if_lt (tgt := 28) hx hb dX3_hasEdge_13 (by decide) (fun c4 => ?_) (fun c4 => ?_)
      · have hf := ip c4 hf
        refine lv_iconst (v := 0) hx hb dX3_hasEdge_28 (by decide) ?_
        obtain rfl := se1 hf
        exact xrz C0 hr hk rfl I dX3_hasEdge_29
      · have hf := inn c4 hf
        refine lv_iload_n hx hb dX3_hasEdge_16 rfl (lv_at hl 2 rfl) ?_
        refine lv_aload_n hx hb dX3_hasEdge_17 rfl (lv_at hl 0 rfl) ?_
        refine xg_X3_9_1 C0 I dX3_hasEdge_18 ?_
        refine lv_icmp_ge (tgt := 28) hx hb dX3_hasEdge_21 (by decide) (fun c5 => ?_) (fun c5 => ?_)
        · have hf := ip c5 hf
          refine lv_iconst (v := 0) hx hb dX3_hasEdge_28 (by decide) ?_
          obtain rfl := se1 hf
          exact xrz C0 hr hk rfl I dX3_hasEdge_29
        · have hf := inn c5 hf
          refine lv_iconst (v := 1) hx hb dX3_hasEdge_24 (by decide) ?_
          refine lv_goto (tgt := 29) hx hb dX3_hasEdge_25 (by decide) ?_
          obtain rfl := se1 hf
          exact xrz C0 hr hk rfl I dX3_hasEdge_29
set_option maxRecDepth 100000 in
theorem kX3_hasEdge {x1 : Int32} {x2 : Int32} {rr : Int32} (hf : fX3_hasEdge S x1 x2 = some rr) : Met l yX3_hasEdge (Cond.code yX3_hasEdge cX3_hasEdge 3 (some .boolean) :: big) ({ frames := 1, cells := 0, slots := 0, locals := 20 } : Room) (va_Pc [.ref (g.2.2 1), .int x1, .int x2] (xB g S)) (va_Qi (fun r' S2 => r' = rr ∧ S2 = S) (xB g) (xA g)) 0 0 (xA g) := by
  refine Met.ofW (cc := cX3_hasEdge) (maxL := 3) (ret := (some .boolean)) (by decide) rfl ?_
  intro p e s m args below meth c s₁ B hml hv
  obtain ⟨rfl, hP, hK, hD⟩ := hv
  have hts0 := atoms_spec (ws := (Cond.code yX3_hasEdge cX3_hasEdge 3 (some .boolean) :: big)) B.pre
  have C0 : CallFix p m c cX3_hasEdge 3 s _ big RX3 := ⟨B.exec, B.bytes, hml, findClass_of_methodNamed B.named, fun w h => hts0 w (List.mem_cons_of_mem _ h)⟩
  have I : xI g s S s.heap [] := ⟨hK, hP, hD, va_S.rf⟩
  have hl := lv_entry ([.ref (g.2.2 1), .int x1, .int x2]) (n := 3) (Nat.le_of_ble_eq_true rfl)
  rw [lg_entry_eq]
  generalize (lg_sl ([.ref (g.2.2 1), .int x1, .int x2]) ++ List.replicate (3 - (lg_sl ([.ref (g.2.2 1), .int x1, .int x2])).length) Slot.unset).toArray = ls at hl ⊢
  have hl : lv_has ls 3 [(0, .ref (g.2.2 1)), (1, .int x1), (2, .int x2)] := hl
  exact tX3_hasEdge_0 C0 B.returns B.notSynchronized hf I (lv_sub hl [0, 1, 2] rfl)
set_option maxHeartbeats 4000000 in
set_option maxRecDepth 100000 in
theorem Bfill_23_5 (C0 : CallFix p m c cJ7_fill_53178 4 s args big RJ7) (hr : meth.sig.returnType = none) (hk : meth.locks = false) {x1 : Int32} {x2 : Int32} {x3 : Int32} {b : Bool} {y2 : Int32} (Kt : b = true → ∀ (H : Heap) (locs : List Loc) (ls : Array Slot), xI g s S' H locs → lv_has ls 4 [(0, .ref (g.2.2 23)), (1, .int x1), (2, .int y2), (3, .int x3)] → W p l e ({ frames := 0, cells := 0, slots := 0, locals := 0 } : Room) s m args below meth c H locs 0 0 Q (F0 m 5 ls [])) (Kf : b = false → ∀ (H : Heap) (locs : List Loc) (ls : Array Slot), xI g s S' H locs → lv_has ls 4 [(0, .ref (g.2.2 23)), (1, .int x1), (2, .int y2), (3, .int x3)] → W p l e ({ frames := 0, cells := 0, slots := 0, locals := 0 } : Room) s m args below meth c H locs 0 0 Q (F0 m 20 ls [])) (hf : bfill_23_5 x1 x3 S x2 = some (b, S', y2)) (I : xI g s S H locs) (hl : lv_has ls 4 [(0, .ref (g.2.2 23)), (1, .int x1), (2, .int x2), (3, .int x3)]) : W p l e ({ frames := 0, cells := 0, slots := 0, locals := 0 } : Room) s m args below meth c H locs 0 0 Q (F0 m 5 ls []) := by
  obtain ⟨hx, hb, hml, -, -⟩ := id C0
  unfold bfill_23_5 at hf
  refine lv_iload_n hx hb dJ7_fill_53178_5 rfl (lv_at hl 2 rfl) ?_
  refine lv_iload_n hx hb dJ7_fill_53178_6 rfl (lv_at hl 3 rfl) ?_
  refine lv_icmp_ge (tgt := 20) hx hb dJ7_fill_53178_7 (by decide) (fun c1 => ?_) (fun c1 => ?_)
  · have hf := ip c1 hf
    obtain ⟨rfl, rfl, rfl⟩ := se3 hf
    exact Kf rfl _ _ _ I (lv_sub hl [0, 1, 2, 3] rfl)
  · have hf := inn c1 hf
    refine lv_aload_n hx hb dJ7_fill_53178_10 rfl (lv_at hl 0 rfl) ?_
    refine lv_iload_n hx hb dJ7_fill_53178_11 rfl (lv_at hl 2 rfl) ?_
    refine lv_iload_n hx hb dJ7_fill_53178_12 rfl (lv_at hl 1 rfl) ?_
    obtain ⟨b2, hf⟩ := chk_some hf
    refine xs_23 hx hb I b2 dJ7_fill_53178_13 (fun H locs I => ?_)
    refine lv_iinc (v := (x2 + (1 : Int32))) (lv' := [(2, .int (x2 + (1 : Int32))), (0, .ref (g.2.2 23)), (1, .int x1), (3, .int x3)]) hx hb dJ7_fill_53178_14 hl (k := 2) rfl rfl (by decide) rfl (fun ls hl => ?_)
    refine lv_goto (tgt := 5) hx hb dJ7_fill_53178_17 (by decide) ?_
    obtain ⟨rfl, rfl, rfl⟩ := se3 hf
    exact Kt rfl _ _ _ I (lv_sub hl [1, 2, 0, 3] rfl)
set_option maxHeartbeats 4000000 in
theorem lfill_23_5 (C0 : CallFix p m c cJ7_fill_53178 4 s args big RJ7) (hr : meth.sig.returnType = none) (hk : meth.locks = false) {x1 : Int32} {x3 : Int32} {S' : St} {y2 : Int32} : ∀ (n : Nat) {S : St} {x2 : Int32}, lp (fun q => bfill_23_5 x1 x3 q.1 q.2) n (S, x2) = some (S', y2) → ∀ {H : Heap} {locs : List Loc}, xI g s S H locs → ∀ {ls : Array Slot}, lv_has ls 4 [(0, .ref (g.2.2 23)), (1, .int x1), (2, .int x2), (3, .int x3)] → (∀ (H : Heap) (locs : List Loc) (ls : Array Slot), xI g s S' H locs → lv_has ls 4 [(0, .ref (g.2.2 23)), (1, .int x1), (2, .int y2), (3, .int x3)] → W p l e ({ frames := 0, cells := 0, slots := 0, locals := 0 } : Room) s m args below meth c H locs 0 0 Q (F0 m 20 ls [])) → W p l e ({ frames := 0, cells := 0, slots := 0, locals := 0 } : Room) s m args below meth c H locs 0 0 Q (F0 m 5 ls []) := by
  intro n
  induction n with
  | zero => intro S x2 hf; cases hf
  | succ n ih =>
    intro S x2 hf H locs I ls hl K
    obtain ⟨b, ⟨z0, z1⟩, h1, h2, h3⟩ := lp_some hf
    refine Bfill_23_5 C0 hr hk (fun hb1 H locs ls I hl => ?_) (fun hb1 H locs ls I hl => ?_) h1 I hl
    · exact ih (h2 hb1) I hl K
    · have e := h3 hb1
      cases e
      exact K H locs ls I hl
set_option maxHeartbeats 4000000 in
set_option maxRecDepth 100000 in
theorem tfill_23_0 (C0 : CallFix p m c cJ7_fill_53178 4 s args big RJ7) (hr : meth.sig.returnType = none) (hk : meth.locks = false) {x1 : Int32}  (hf : ffill_23 S x1 = some S') (I : xI g s S H locs) (hl : lv_has ls 4 [(0, .ref (g.2.2 23)), (1, .int x1)]) : W p l e ({ frames := 0, cells := 0, slots := 0, locals := 0 } : Room) s m args below meth c H locs 0 0 (MQ below (va_Qv (fun S2 => S2 = S') (xB g) (xA g)) args s 0 0 (xA g)) (F0 m 0 ls []) := by
  obtain ⟨hx, hb, hml, -, -⟩ := id C0
  unfold ffill_23 at hf
  refine lv_iconst (v := 0) hx hb dJ7_fill_53178_0 (by decide) ?_
  refine lv_istore_n (lv' := [(2, .int (0 : Int32)), (0, .ref (g.2.2 23)), (1, .int x1)]) hx hb dJ7_fill_53178_1 rfl hl (by decide) rfl (fun ls hl => ?_)
  refine lv_aload_n hx hb dJ7_fill_53178_2 rfl (lv_at hl 1 rfl) ?_
  refine xn_23 hx hb I dJ7_fill_53178_3 ?_
  refine lv_istore_n (lv' := [(3, .int (64 : Int32)), (2, .int (0 : Int32)), (0, .ref (g.2.2 23)), (1, .int x1)]) hx hb dJ7_fill_53178_4 rfl hl (by decide) rfl (fun ls hl => ?_)
  obtain ⟨S3, y2_3, h3, hf⟩ := bq2_some hf
  refine lfill_23_5 C0 hr hk fu h3 I (lv_sub hl [2, 3, 1, 0] rfl) (fun H locs ls I hl => ?_)
  obtain rfl := se1 hf
  exact xrv C0 hr hk I dJ7_fill_53178_20
set_option maxRecDepth 100000 in
theorem kfill_23 {x1 : Int32}  (hf : ffill_23 S x1 = some S') : Met l yJ7_fill_53178 (Cond.code yJ7_fill_53178 cJ7_fill_53178 4 none :: big) ({ frames := 0, cells := 0, slots := 0, locals := 0 } : Room) (va_Pc [.ref (g.2.2 23), .int x1] (xB g S)) (va_Qv (fun S2 => S2 = S') (xB g) (xA g)) 0 0 (xA g) := by
  refine Met.ofW (cc := cJ7_fill_53178) (maxL := 4) (ret := none) (by decide) rfl ?_
  intro p e s m args below meth c s₁ B hml hv
  obtain ⟨rfl, hP, hK, hD⟩ := hv
  have hts0 := atoms_spec (ws := (Cond.code yJ7_fill_53178 cJ7_fill_53178 4 none :: big)) B.pre
  have C0 : CallFix p m c cJ7_fill_53178 4 s _ big RJ7 := ⟨B.exec, B.bytes, hml, findClass_of_methodNamed B.named, fun w h => hts0 w (List.mem_cons_of_mem _ h)⟩
  have I : xI g s S s.heap [] := ⟨hK, hP, hD, va_S.rf⟩
  have hl := lv_entry ([.ref (g.2.2 23), .int x1]) (n := 4) (Nat.le_of_ble_eq_true rfl)
  rw [lg_entry_eq]
  generalize (lg_sl ([.ref (g.2.2 23), .int x1]) ++ List.replicate (4 - (lg_sl ([.ref (g.2.2 23), .int x1])).length) Slot.unset).toArray = ls at hl ⊢
  have hl : lv_has ls 4 [(0, .ref (g.2.2 23)), (1, .int x1)] := hl
  exact tfill_23_0 C0 B.returns B.notSynchronized hf I (lv_sub hl [0, 1] rfl)
set_option maxHeartbeats 4000000 in
set_option maxRecDepth 100000 in
theorem tX1_empty_0 (C0 : CallFix p m c cX1_empty 1 s args big RX1) (hr : meth.sig.returnType = none) (hk : meth.locks = false)   (hf : fX1_empty S = some S') (I : xI g s S H locs) (hl : lv_has ls 1 [(0, .ref (g.2.2 22))]) : W p l e ({ frames := 1, cells := 0, slots := 0, locals := 23 } : Room) s m args below meth c H locs 0 0 (MQ below (va_Qv (fun S2 => S2 = S') (xB g) (xA g)) args s 0 0 (xA g)) (F0 m 0 ls []) := by
  obtain ⟨hx, hb, hml, -, -⟩ := id C0
  unfold fX1_empty at hf
  refine lv_aload_n hx hb dX1_empty_0 rfl (lv_at hl 0 rfl) ?_
  refine xg_X1_9_22 C0 I dX1_empty_1 ?_
  refine lv_iconst (v := 0) hx hb dX1_empty_4 (by decide) ?_
  obtain ⟨S1, h1, hf⟩ := bq1_some hf
  refine xcs_v (As := [.ref (g.2.2 23), .int (0 : Int32)]) C0 I (kfill_23 h1) (va_cwS 2 C0.2.2.2.2 (gwS wd_401 wd_402 wd_76 wd_403) rfl rfl rfl dsc_J7_fill_53178.2 ⟨Nat.le_of_ble_eq_true rfl, Nat.le_of_ble_eq_true rfl⟩) rfl hl.1 rfl (Nat.le_of_ble_eq_true rfl) dX1_empty_5 (fun H locs I => ?_)
  obtain rfl := se1 hf
  exact xrv C0 hr hk I dX1_empty_8
set_option maxRecDepth 100000 in
theorem kX1_empty   (hf : fX1_empty S  = some S') : Met l yX1_empty (Cond.code yX1_empty cX1_empty 1 none :: big) ({ frames := 1, cells := 0, slots := 0, locals := 23 } : Room) (va_Pc [.ref (g.2.2 22)] (xB g S)) (va_Qv (fun S2 => S2 = S') (xB g) (xA g)) 0 0 (xA g) := by
  refine Met.ofW (cc := cX1_empty) (maxL := 1) (ret := none) (by decide) rfl ?_
  intro p e s m args below meth c s₁ B hml hv
  obtain ⟨rfl, hP, hK, hD⟩ := hv
  have hts0 := atoms_spec (ws := (Cond.code yX1_empty cX1_empty 1 none :: big)) B.pre
  have C0 : CallFix p m c cX1_empty 1 s _ big RX1 := ⟨B.exec, B.bytes, hml, findClass_of_methodNamed B.named, fun w h => hts0 w (List.mem_cons_of_mem _ h)⟩
  have I : xI g s S s.heap [] := ⟨hK, hP, hD, va_S.rf⟩
  have hl := lv_entry ([.ref (g.2.2 22)]) (n := 1) (Nat.le_of_ble_eq_true rfl)
  rw [lg_entry_eq]
  generalize (lg_sl ([.ref (g.2.2 22)]) ++ List.replicate (1 - (lg_sl ([.ref (g.2.2 22)])).length) Slot.unset).toArray = ls at hl ⊢
  have hl : lv_has ls 1 [(0, .ref (g.2.2 22))] := hl
  exact tX1_empty_0 C0 B.returns B.notSynchronized hf I (lv_sub hl [0] rfl)
set_option maxHeartbeats 4000000 in
set_option maxRecDepth 100000 in
theorem BX1_add_3 (C0 : CallFix p m c cX1_add 5 s args big RX1) (hr : meth.sig.returnType = none) (hk : meth.locks = false) {x2 : Int32} {x3 : Int32} {x4 : Int32} {b : Bool} {y4 : Int32} (Kt : b = true → ∀ (H : Heap) (locs : List Loc) (ls : Array Slot), xI g s S' H locs → lv_has ls 5 [(0, .ref (g.2.2 22)), (1, .ref (g.2.2 17)), (2, .int x2), (3, .int x3), (4, .int y4)] → W p l e ({ frames := 1, cells := 0, slots := 0, locals := 22 } : Room) s m args below meth c H locs 0 0 Q (F0 m 3 ls [])) (Kf : b = false → ∀ (H : Heap) (locs : List Loc) (ls : Array Slot), xI g s S' H locs → lv_has ls 5 [(0, .ref (g.2.2 22)), (1, .ref (g.2.2 17)), (2, .int x2), (3, .int x3), (4, .int y4)] → W p l e ({ frames := 1, cells := 0, slots := 0, locals := 22 } : Room) s m args below meth c H locs 0 0 Q (F0 m 36 ls [])) (hf : bX1_add_3 x2 x3 S x4 = some (b, S', y4)) (I : xI g s S H locs) (hl : lv_has ls 5 [(0, .ref (g.2.2 22)), (1, .ref (g.2.2 17)), (2, .int x2), (3, .int x3), (4, .int x4)]) : W p l e ({ frames := 1, cells := 0, slots := 0, locals := 22 } : Room) s m args below meth c H locs 0 0 Q (F0 m 3 ls []) := by
  obtain ⟨hx, hb, hml, -, -⟩ := id C0
  unfold bX1_add_3 at hf
  refine lv_iload hx hb dX1_add_3 (lv_at hl 4 rfl) ?_
  refine lv_aload_n hx hb dX1_add_5 rfl (lv_at hl 1 rfl) ?_
  refine xg_X1_21_17 C0 I dX1_add_6 ?_
  refine lv_iload_n hx hb dX1_add_9 rfl (lv_at hl 2 rfl) ?_
  obtain ⟨b1, hf⟩ := chk_some hf
  refine xl_18 hx hb I b1 dX1_add_10 ?_
  refine lv_icmp_ge (tgt := 36) hx hb dX1_add_11 (by decide) (fun c2 => ?_) (fun c2 => ?_)
  · have hf := ip c2 hf
    obtain ⟨rfl, rfl, rfl⟩ := se3 hf
    exact Kf rfl _ _ _ I (lv_sub hl [0, 1, 2, 3, 4] rfl)
  · have hf := inn c2 hf
    refine lv_aload_n hx hb dX1_add_14 rfl (lv_at hl 0 rfl) ?_
    refine xg_X1_9_22 C0 I dX1_add_15 ?_
    refine lv_aload_n hx hb dX1_add_18 rfl (lv_at hl 1 rfl) ?_
    refine lv_iload_n hx hb dX1_add_19 rfl (lv_at hl 2 rfl) ?_
    refine lv_iload hx hb dX1_add_20 (lv_at hl 4 rfl) ?_
    obtain ⟨r3, h3, hf⟩ := bq1_some hf
    refine xcv_i (As := [.int x2, .int x4]) C0 I (kX5_edge h3) (cwV 2 C0.2.2.2.2 (gwV wd_408 wd_382 wd_383 wd_69 wd_384) rfl rfl rfl dsc_X5_edge ⟨Nat.le_of_ble_eq_true rfl, Nat.le_of_ble_eq_true rfl⟩) (xo_17 I) rfl hl.1 rfl (Nat.le_of_ble_eq_true rfl) dX1_add_22 (fun H locs I => ?_)
    refine lv_dup2_11 hx hb dX1_add_25 rfl rfl ?_
    obtain ⟨b4, hf⟩ := chk_some hf
    refine xl_23 hx hb I b4 dX1_add_26 ?_
    refine lv_iload_n hx hb dX1_add_27 rfl (lv_at hl 3 rfl) ?_
    refine lv_iadd hx hb dX1_add_28 ?_
    obtain ⟨b5, hf⟩ := chk_some hf
    refine xs_23 hx hb I b5 dX1_add_29 (fun H locs I => ?_)
    refine lv_iinc (v := (x4 + (1 : Int32))) (lv' := [(4, .int (x4 + (1 : Int32))), (0, .ref (g.2.2 22)), (1, .ref (g.2.2 17)), (2, .int x2), (3, .int x3)]) hx hb dX1_add_30 hl (k := 4) rfl rfl (by decide) rfl (fun ls hl => ?_)
    refine lv_goto (tgt := 3) hx hb dX1_add_33 (by decide) ?_
    obtain ⟨rfl, rfl, rfl⟩ := se3 hf
    exact Kt rfl _ _ _ I (lv_sub hl [1, 2, 3, 4, 0] rfl)
set_option maxHeartbeats 4000000 in
theorem lX1_add_3 (C0 : CallFix p m c cX1_add 5 s args big RX1) (hr : meth.sig.returnType = none) (hk : meth.locks = false) {x2 : Int32} {x3 : Int32} {S' : St} {y4 : Int32} : ∀ (n : Nat) {S : St} {x4 : Int32}, lp (fun q => bX1_add_3 x2 x3 q.1 q.2) n (S, x4) = some (S', y4) → ∀ {H : Heap} {locs : List Loc}, xI g s S H locs → ∀ {ls : Array Slot}, lv_has ls 5 [(0, .ref (g.2.2 22)), (1, .ref (g.2.2 17)), (2, .int x2), (3, .int x3), (4, .int x4)] → (∀ (H : Heap) (locs : List Loc) (ls : Array Slot), xI g s S' H locs → lv_has ls 5 [(0, .ref (g.2.2 22)), (1, .ref (g.2.2 17)), (2, .int x2), (3, .int x3), (4, .int y4)] → W p l e ({ frames := 1, cells := 0, slots := 0, locals := 22 } : Room) s m args below meth c H locs 0 0 Q (F0 m 36 ls [])) → W p l e ({ frames := 1, cells := 0, slots := 0, locals := 22 } : Room) s m args below meth c H locs 0 0 Q (F0 m 3 ls []) := by
  intro n
  induction n with
  | zero => intro S x4 hf; cases hf
  | succ n ih =>
    intro S x4 hf H locs I ls hl K
    obtain ⟨b, ⟨z0, z1⟩, h1, h2, h3⟩ := lp_some hf
    refine BX1_add_3 C0 hr hk (fun hb1 H locs ls I hl => ?_) (fun hb1 H locs ls I hl => ?_) h1 I hl
    · exact ih (h2 hb1) I hl K
    · have e := h3 hb1
      cases e
      exact K H locs ls I hl
set_option maxHeartbeats 4000000 in
set_option maxRecDepth 100000 in
theorem tX1_add_0 (C0 : CallFix p m c cX1_add 5 s args big RX1) (hr : meth.sig.returnType = none) (hk : meth.locks = false) {x2 : Int32} {x3 : Int32}  (hf : fX1_add S x2 x3 = some S') (I : xI g s S H locs) (hl : lv_has ls 5 [(0, .ref (g.2.2 22)), (1, .ref (g.2.2 17)), (2, .int x2), (3, .int x3)]) : W p l e ({ frames := 1, cells := 0, slots := 0, locals := 22 } : Room) s m args below meth c H locs 0 0 (MQ below (va_Qv (fun S2 => S2 = S') (xB g) (xA g)) args s 0 0 (xA g)) (F0 m 0 ls []) := by
  obtain ⟨hx, hb, hml, -, -⟩ := id C0
  unfold fX1_add at hf
  refine lv_iconst (v := 0) hx hb dX1_add_0 (by decide) ?_
  refine lv_istore (lv' := [(4, .int (0 : Int32)), (0, .ref (g.2.2 22)), (1, .ref (g.2.2 17)), (2, .int x2), (3, .int x3)]) hx hb dX1_add_1 hl (by decide) rfl (fun ls hl => ?_)
  obtain ⟨S6, y4_6, h6, hf⟩ := bq2_some hf
  refine lX1_add_3 C0 hr hk fu h6 I (lv_sub hl [1, 2, 3, 4, 0] rfl) (fun H locs ls I hl => ?_)
  obtain rfl := se1 hf
  exact xrv C0 hr hk I dX1_add_36
set_option maxRecDepth 100000 in
theorem kX1_add {x2 : Int32} {x3 : Int32}  (hf : fX1_add S x2 x3 = some S') : Met l yX1_add (Cond.code yX1_add cX1_add 5 none :: big) ({ frames := 1, cells := 0, slots := 0, locals := 22 } : Room) (va_Pc [.ref (g.2.2 22), .ref (g.2.2 17), .int x2, .int x3] (xB g S)) (va_Qv (fun S2 => S2 = S') (xB g) (xA g)) 0 0 (xA g) := by
  refine Met.ofW (cc := cX1_add) (maxL := 5) (ret := none) (by decide) rfl ?_
  intro p e s m args below meth c s₁ B hml hv
  obtain ⟨rfl, hP, hK, hD⟩ := hv
  have hts0 := atoms_spec (ws := (Cond.code yX1_add cX1_add 5 none :: big)) B.pre
  have C0 : CallFix p m c cX1_add 5 s _ big RX1 := ⟨B.exec, B.bytes, hml, findClass_of_methodNamed B.named, fun w h => hts0 w (List.mem_cons_of_mem _ h)⟩
  have I : xI g s S s.heap [] := ⟨hK, hP, hD, va_S.rf⟩
  have hl := lv_entry ([.ref (g.2.2 22), .ref (g.2.2 17), .int x2, .int x3]) (n := 5) (Nat.le_of_ble_eq_true rfl)
  rw [lg_entry_eq]
  generalize (lg_sl ([.ref (g.2.2 22), .ref (g.2.2 17), .int x2, .int x3]) ++ List.replicate (5 - (lg_sl ([.ref (g.2.2 22), .ref (g.2.2 17), .int x2, .int x3])).length) Slot.unset).toArray = ls at hl ⊢
  have hl : lv_has ls 5 [(0, .ref (g.2.2 22)), (1, .ref (g.2.2 17)), (2, .int x2), (3, .int x3)] := hl
  exact tX1_add_0 C0 B.returns B.notSynchronized hf I (lv_sub hl [0, 1, 2, 3] rfl)
set_option maxHeartbeats 4000000 in
set_option maxRecDepth 100000 in
theorem BX6_tallyWays_20 (C0 : CallFix p m c cX6_tallyWays 2 s args big RX6) (hr : meth.sig.returnType = none) (hk : meth.locks = false) {x1 : Int32} {b : Bool} {y1 : Int32} (Kt : b = true → ∀ (H : Heap) (locs : List Loc) (ls : Array Slot), xI g s S' H locs → lv_has ls 2 [(0, .ref (g.2.2 0)), (1, .int y1)] → W p l e ({ frames := 3, cells := 0, slots := 0, locals := 74 } : Room) s m args below meth c H locs 0 0 Q (F0 m 20 ls [])) (Kf : b = false → ∀ (H : Heap) (locs : List Loc) (ls : Array Slot), xI g s S' H locs → lv_has ls 2 [(0, .ref (g.2.2 0)), (1, .int y1)] → W p l e ({ frames := 3, cells := 0, slots := 0, locals := 74 } : Room) s m args below meth c H locs 0 0 Q (F0 m 50 ls [])) (hf : bX6_tallyWays_20 S x1 = some (b, S', y1)) (I : xI g s S H locs) (hl : lv_has ls 2 [(0, .ref (g.2.2 0)), (1, .int x1)]) : W p l e ({ frames := 3, cells := 0, slots := 0, locals := 74 } : Room) s m args below meth c H locs 0 0 Q (F0 m 20 ls []) := by
  obtain ⟨hx, hb, hml, -, -⟩ := id C0
  unfold bX6_tallyWays_20 at hf
  refine lv_iload_n hx hb dX6_tallyWays_20 rfl (lv_at hl 1 rfl) ?_
  refine lv_aload_n hx hb dX6_tallyWays_21 rfl (lv_at hl 0 rfl) ?_
  refine xg_X6_10_0 C0 I dX6_tallyWays_22 ?_
  refine xg_X6_73_1 C0 I dX6_tallyWays_25 ?_
  refine lv_icmp_ge (tgt := 50) hx hb dX6_tallyWays_28 (by decide) (fun c3 => ?_) (fun c3 => ?_)
  · have hf := ip c3 hf
    obtain ⟨rfl, rfl, rfl⟩ := se3 hf
    exact Kf rfl _ _ _ I (lv_sub hl [0, 1] rfl)
  · have hf := inn c3 hf
    refine lv_aload_n hx hb dX6_tallyWays_31 rfl (lv_at hl 0 rfl) ?_
    refine xg_X6_33_0 C0 I dX6_tallyWays_32 ?_
    refine lv_aload_n hx hb dX6_tallyWays_35 rfl (lv_at hl 0 rfl) ?_
    refine xg_X6_26_0 C0 I dX6_tallyWays_36 ?_
    refine lv_iload_n hx hb dX6_tallyWays_39 rfl (lv_at hl 1 rfl) ?_
    refine lv_iconst (v := 1) hx hb dX6_tallyWays_40 (by decide) ?_
    obtain ⟨S4, h4, hf⟩ := bq1_some hf
    refine xcv_v (As := [.ref (g.2.2 17), .int x1, .int (1 : Int32)]) C0 I (kX1_add h4) (cwV 3 C0.2.2.2.2 (gwV wd_404 wd_405 wd_406 wd_70 wd_407) rfl rfl rfl dsc_X1_add ⟨Nat.le_of_ble_eq_true rfl, Nat.le_of_ble_eq_true rfl⟩) (xo_22 I) rfl hl.1 rfl (Nat.le_of_ble_eq_true rfl) dX6_tallyWays_41 (fun H locs I => ?_)
    refine lv_iinc (v := (x1 + (1 : Int32))) (lv' := [(1, .int (x1 + (1 : Int32))), (0, .ref (g.2.2 0))]) hx hb dX6_tallyWays_44 hl (k := 1) rfl rfl (by decide) rfl (fun ls hl => ?_)
    refine lv_goto (tgt := 20) hx hb dX6_tallyWays_47 (by decide) ?_
    obtain ⟨rfl, rfl, rfl⟩ := se3 hf
    exact Kt rfl _ _ _ I (lv_sub hl [1, 0] rfl)
set_option maxHeartbeats 4000000 in
theorem lX6_tallyWays_20 (C0 : CallFix p m c cX6_tallyWays 2 s args big RX6) (hr : meth.sig.returnType = none) (hk : meth.locks = false)  {S' : St} {y1 : Int32} : ∀ (n : Nat) {S : St} {x1 : Int32}, lp (fun q => bX6_tallyWays_20 q.1 q.2) n (S, x1) = some (S', y1) → ∀ {H : Heap} {locs : List Loc}, xI g s S H locs → ∀ {ls : Array Slot}, lv_has ls 2 [(0, .ref (g.2.2 0)), (1, .int x1)] → (∀ (H : Heap) (locs : List Loc) (ls : Array Slot), xI g s S' H locs → lv_has ls 2 [(0, .ref (g.2.2 0)), (1, .int y1)] → W p l e ({ frames := 3, cells := 0, slots := 0, locals := 74 } : Room) s m args below meth c H locs 0 0 Q (F0 m 50 ls [])) → W p l e ({ frames := 3, cells := 0, slots := 0, locals := 74 } : Room) s m args below meth c H locs 0 0 Q (F0 m 20 ls []) := by
  intro n
  induction n with
  | zero => intro S x1 hf; cases hf
  | succ n ih =>
    intro S x1 hf H locs I ls hl K
    obtain ⟨b, ⟨z0, z1⟩, h1, h2, h3⟩ := lp_some hf
    refine BX6_tallyWays_20 C0 hr hk (fun hb1 H locs ls I hl => ?_) (fun hb1 H locs ls I hl => ?_) h1 I hl
    · exact ih (h2 hb1) I hl K
    · have e := h3 hb1
      cases e
      exact K H locs ls I hl
set_option maxHeartbeats 4000000 in
set_option maxRecDepth 100000 in
theorem tX6_tallyWays_0 (C0 : CallFix p m c cX6_tallyWays 2 s args big RX6) (hr : meth.sig.returnType = none) (hk : meth.locks = false)   (hf : fX6_tallyWays S = some S') (I : xI g s S H locs) (hl : lv_has ls 2 [(0, .ref (g.2.2 0))]) : W p l e ({ frames := 3, cells := 0, slots := 0, locals := 74 } : Room) s m args below meth c H locs 0 0 (MQ below (va_Qv (fun S2 => S2 = S') (xB g) (xA g)) args s 0 0 (xA g)) (F0 m 0 ls []) := by
  obtain ⟨hx, hb, hml, -, -⟩ := id C0
  unfold fX6_tallyWays at hf
  refine lv_aload_n hx hb dX6_tallyWays_0 rfl (lv_at hl 0 rfl) ?_
  refine xg_X6_26_0 C0 I dX6_tallyWays_1 ?_
  refine lv_aload_n hx hb dX6_tallyWays_4 rfl (lv_at hl 0 rfl) ?_
  refine xg_X6_10_0 C0 I dX6_tallyWays_5 ?_
  obtain ⟨S1, h1, hf⟩ := bq1_some hf
  refine xcv_v (As := [.ref (g.2.2 1)]) C0 I (kX5_follow h1) (cwV 1 C0.2.2.2.2 (gwV wd_352 wd_353 wd_354 wd_69 wd_355) rfl rfl rfl dsc_X5_follow ⟨Nat.le_of_ble_eq_true rfl, Nat.le_of_ble_eq_true rfl⟩) (xo_17 I) rfl hl.1 rfl (Nat.le_of_ble_eq_true rfl) dX6_tallyWays_8 (fun H locs I => ?_)
  refine lv_aload_n hx hb dX6_tallyWays_11 rfl (lv_at hl 0 rfl) ?_
  refine xg_X6_33_0 C0 I dX6_tallyWays_12 ?_
  obtain ⟨S2, h2, hf⟩ := bq1_some hf
  refine xcv_v (As := []) C0 I (kX1_empty h2) (cwV 0 C0.2.2.2.2 (gwV wd_397 wd_398 wd_399 wd_70 wd_400) rfl rfl rfl dsc_X1_empty ⟨Nat.le_of_ble_eq_true rfl, Nat.le_of_ble_eq_true rfl⟩) (xo_22 I) rfl hl.1 rfl (Nat.le_of_ble_eq_true rfl) dX6_tallyWays_15 (fun H locs I => ?_)
  refine lv_iconst (v := 0) hx hb dX6_tallyWays_18 (by decide) ?_
  refine lv_istore_n (lv' := [(1, .int (0 : Int32)), (0, .ref (g.2.2 0))]) hx hb dX6_tallyWays_19 rfl hl (by decide) rfl (fun ls hl => ?_)
  obtain ⟨S5, y1_5, h5, hf⟩ := bq2_some hf
  refine lX6_tallyWays_20 C0 hr hk fu h5 I (lv_sub hl [1, 0] rfl) (fun H locs ls I hl => ?_)
  obtain rfl := se1 hf
  exact xrv C0 hr hk I dX6_tallyWays_50
set_option maxRecDepth 100000 in
theorem kX6_tallyWays   (hf : fX6_tallyWays S  = some S') : Met l yX6_tallyWays (Cond.code yX6_tallyWays cX6_tallyWays 2 none :: big) ({ frames := 3, cells := 0, slots := 0, locals := 74 } : Room) (va_Pc [.ref (g.2.2 0)] (xB g S)) (va_Qv (fun S2 => S2 = S') (xB g) (xA g)) 0 0 (xA g) := by
  refine Met.ofW (cc := cX6_tallyWays) (maxL := 2) (ret := none) (by decide) rfl ?_
  intro p e s m args below meth c s₁ B hml hv
  obtain ⟨rfl, hP, hK, hD⟩ := hv
  have hts0 := atoms_spec (ws := (Cond.code yX6_tallyWays cX6_tallyWays 2 none :: big)) B.pre
  have C0 : CallFix p m c cX6_tallyWays 2 s _ big RX6 := ⟨B.exec, B.bytes, hml, findClass_of_methodNamed B.named, fun w h => hts0 w (List.mem_cons_of_mem _ h)⟩
  have I : xI g s S s.heap [] := ⟨hK, hP, hD, va_S.rf⟩
  have hl := lv_entry ([.ref (g.2.2 0)]) (n := 2) (Nat.le_of_ble_eq_true rfl)
  rw [lg_entry_eq]
  generalize (lg_sl ([.ref (g.2.2 0)]) ++ List.replicate (2 - (lg_sl ([.ref (g.2.2 0)])).length) Slot.unset).toArray = ls at hl ⊢
  have hl : lv_has ls 2 [(0, .ref (g.2.2 0))] := hl
  exact tX6_tallyWays_0 C0 B.returns B.notSynchronized hf I (lv_sub hl [0] rfl)
set_option maxHeartbeats 4000000 in
set_option maxRecDepth 100000 in
theorem tX6_load_0 (C0 : CallFix p m c cX6_load 3 s args big RX6) (hr : meth.sig.returnType = (some .int)) (hk : meth.locks = false) {x1 : Int32} {x2 : Int32} {rr : Int32}  (hf : fX6_load S x1 x2 = some (rr, S')) (I : xI g s S H locs) (hl : lv_has ls 3 [(0, .ref (g.2.2 0)), (1, .int x1), (2, .int x2)]) : W p l e ({ frames := 4, cells := 0, slots := 0, locals := 95 } : Room) s m args below meth c H locs 0 0 (MQ below (va_Qi (fun r' S2 => r' = rr ∧ S2 = S') (xB g) (xA g)) args s 0 0 (xA g)) (F0 m 0 ls []) := by
  obtain ⟨hx, hb, hml, -, -⟩ := id C0
  unfold fX6_load at hf
  refine lv_aload_n hx hb dX6_load_0 rfl (lv_at hl 0 rfl) ?_
  refine xg_X6_10_0 C0 I dX6_load_1 ?_
  refine lv_iload_n hx hb dX6_load_4 rfl (lv_at hl 1 rfl) ?_
  refine lv_iload_n hx hb dX6_load_5 rfl (lv_at hl 2 rfl) ?_
  obtain ⟨r1, h1, hf⟩ := bq1_some hf
  refine xcv_i (As := [.int x1, .int x2]) C0 I (kX3_hasEdge h1) (cwV 2 C0.2.2.2.2 (gwV wd_389 wd_390 wd_391 wd_67 wd_392) rfl rfl rfl dsc_X3_hasEdge ⟨Nat.le_of_ble_eq_true rfl, Nat.le_of_ble_eq_true rfl⟩) (xo_1 I) rfl hl.1 rfl (Nat.le_of_ble_eq_true rfl) dX6_load_6 (fun H locs I => ?_)
  refine lv_if_ne (tgt := 19) hx hb dX6_load_9 (by decide) (fun c2 => ?_) (fun c2 => ?_)
  · have hf := inn c2 hf
    refine lv_aload_n hx hb dX6_load_19 rfl (lv_at hl 0 rfl) ?_
    obtain ⟨S3, h3, hf⟩ := bq1_some hf
    refine xcv_v (As := []) C0 I (kX6_tallyWays h3) (cwV 0 C0.2.2.2.2 (gwV wd_393 wd_395 wd_3 wd_66 wd_396) rfl rfl rfl dsc_X6_tallyWays ⟨Nat.le_of_ble_eq_true rfl, Nat.le_of_ble_eq_true rfl⟩) (xo_0 I) rfl hl.1 rfl (Nat.le_of_ble_eq_true rfl) dX6_load_20 (fun H locs I => ?_)
    refine lv_aload_n hx hb dX6_load_23 rfl (lv_at hl 0 rfl) ?_
    refine xg_X6_33_0 C0 I dX6_load_24 ?_
    refine xg_X6_143_22 C0 I dX6_load_27 ?_
    refine lv_iload_n hx hb dX6_load_30 rfl (lv_at hl 1 rfl) ?_
    refine lv_iconst (v := 4) hx hb dX6_load_31 (by decide) ?_
    refine lv_imul hx hb dX6_load_32 ?_
    refine lv_iload_n hx hb dX6_load_33 rfl (lv_at hl 2 rfl) ?_
    refine lv_iadd hx hb dX6_load_34 ?_
    obtain ⟨b4, hf⟩ := chk_some hf
    refine xl_23 hx hb I b4 dX6_load_35 ?_
    obtain ⟨rfl, rfl⟩ := se2 hf
    exact xri C0 hr hk I dX6_load_36
  · have hf := ip c2 hf
    refine lv_aload_n hx hb dX6_load_12 rfl (lv_at hl 0 rfl) ?_
    refine lv_bipush (v := -2) hx hb dX6_load_13 (by decide) ?_
    obtain ⟨r5, S5, h5, hf⟩ := bq2_some hf
    refine xcv_i (As := [.int (-2 : Int32)]) C0 I (kX6_refuse h5) (cwV 1 C0.2.2.2.2 (gwV wd_272 wd_274 wd_0 wd_66 wd_275) rfl rfl rfl dsc_X6_refuse ⟨Nat.le_of_ble_eq_true rfl, Nat.le_of_ble_eq_true rfl⟩) (xo_0 I) rfl hl.1 rfl (Nat.le_of_ble_eq_true rfl) dX6_load_15 (fun H locs I => ?_)
    obtain ⟨rfl, rfl⟩ := se2 hf
    exact xri C0 hr hk I dX6_load_18
set_option maxRecDepth 100000 in
theorem kX6_load {x1 : Int32} {x2 : Int32} {rr : Int32} (hf : fX6_load S x1 x2 = some (rr, S')) : Met l yX6_load (Cond.code yX6_load cX6_load 3 (some .int) :: big) ({ frames := 4, cells := 0, slots := 0, locals := 95 } : Room) (va_Pc [.ref (g.2.2 0), .int x1, .int x2] (xB g S)) (va_Qi (fun r' S2 => r' = rr ∧ S2 = S') (xB g) (xA g)) 0 0 (xA g) := by
  refine Met.ofW (cc := cX6_load) (maxL := 3) (ret := (some .int)) (by decide) rfl ?_
  intro p e s m args below meth c s₁ B hml hv
  obtain ⟨rfl, hP, hK, hD⟩ := hv
  have hts0 := atoms_spec (ws := (Cond.code yX6_load cX6_load 3 (some .int) :: big)) B.pre
  have C0 : CallFix p m c cX6_load 3 s _ big RX6 := ⟨B.exec, B.bytes, hml, findClass_of_methodNamed B.named, fun w h => hts0 w (List.mem_cons_of_mem _ h)⟩
  have I : xI g s S s.heap [] := ⟨hK, hP, hD, va_S.rf⟩
  have hl := lv_entry ([.ref (g.2.2 0), .int x1, .int x2]) (n := 3) (Nat.le_of_ble_eq_true rfl)
  rw [lg_entry_eq]
  generalize (lg_sl ([.ref (g.2.2 0), .int x1, .int x2]) ++ List.replicate (3 - (lg_sl ([.ref (g.2.2 0), .int x1, .int x2])).length) Slot.unset).toArray = ls at hl ⊢
  have hl : lv_has ls 3 [(0, .ref (g.2.2 0)), (1, .int x1), (2, .int x2)] := hl
  exact tX6_load_0 C0 B.returns B.notSynchronized hf I (lv_sub hl [0, 1, 2] rfl)
set_option maxHeartbeats 4000000 in
set_option maxRecDepth 100000 in
theorem BX1_firstGreatest_4 (C0 : CallFix p m c cX1_firstGreatest 3 s args big RX1) (hr : meth.sig.returnType = (some .int)) (hk : meth.locks = false) {x1 : Int32} {x2 : Int32} {b : Bool} {y1 : Int32} {y2 : Int32} (Kt : b = true → ∀ (H : Heap) (locs : List Loc) (ls : Array Slot), xI g s S H locs → lv_has ls 3 [(0, .ref (g.2.2 22)), (1, .int y1), (2, .int y2)] → W p l e ({ frames := 0, cells := 0, slots := 0, locals := 0 } : Room) s m args below meth c H locs 0 0 Q (F0 m 4 ls [])) (Kf : b = false → ∀ (H : Heap) (locs : List Loc) (ls : Array Slot), xI g s S H locs → lv_has ls 3 [(0, .ref (g.2.2 22)), (1, .int y1), (2, .int y2)] → W p l e ({ frames := 0, cells := 0, slots := 0, locals := 0 } : Room) s m args below meth c H locs 0 0 Q (F0 m 33 ls [])) (hf : bX1_firstGreatest_4 S x1 x2 = some (b, y1, y2)) (I : xI g s S H locs) (hl : lv_has ls 3 [(0, .ref (g.2.2 22)), (1, .int x1), (2, .int x2)]) : W p l e ({ frames := 0, cells := 0, slots := 0, locals := 0 } : Room) s m args below meth c H locs 0 0 Q (F0 m 4 ls []) := by
  obtain ⟨hx, hb, hml, -, -⟩ := id C0
  unfold bX1_firstGreatest_4 at hf
  refine lv_iload_n hx hb dX1_firstGreatest_4 rfl (lv_at hl 2 rfl) ?_
  refine lv_bipush (v := 64) hx hb dX1_firstGreatest_5 (by decide) ?_
  refine lv_icmp_ge (tgt := 33) hx hb dX1_firstGreatest_7 (by decide) (fun c1 => ?_) (fun c1 => ?_)
  · have hf := ip c1 hf
    obtain ⟨rfl, rfl, rfl⟩ := se3 hf
    exact Kf rfl _ _ _ I (lv_sub hl [0, 1, 2] rfl)
  · have hf := inn c1 hf
    refine lv_aload_n hx hb dX1_firstGreatest_10 rfl (lv_at hl 0 rfl) ?_
    refine xg_X1_9_22 C0 I dX1_firstGreatest_11 ?_
    refine lv_iload_n hx hb dX1_firstGreatest_14 rfl (lv_at hl 2 rfl) ?_
    obtain ⟨b2, hf⟩ := chk_some hf
    refine xl_23 hx hb I b2 dX1_firstGreatest_15 ?_
    refine lv_aload_n hx hb dX1_firstGreatest_16 rfl (lv_at hl 0 rfl) ?_
    refine xg_X1_9_22 C0 I dX1_firstGreatest_17 ?_
    refine lv_iload_n hx hb dX1_firstGreatest_20 rfl (lv_at hl 1 rfl) ?_
    obtain ⟨b3, hf⟩ := chk_some hf
    refine xl_23 hx hb I b3 dX1_firstGreatest_21 ?_
    refine lv_icmp_le (tgt := 27) hx hb dX1_firstGreatest_22 (by decide) (fun c4 => ?_) (fun c4 => ?_)
    · have hf := ip c4 hf
      refine lv_iinc (v := (x2 + (1 : Int32))) (lv' := [(2, .int (x2 + (1 : Int32))), (0, .ref (g.2.2 22)), (1, .int x1)]) hx hb dX1_firstGreatest_27 hl (k := 2) rfl rfl (by decide) rfl (fun ls hl => ?_)
      refine lv_goto (tgt := 4) hx hb dX1_firstGreatest_30 (by decide) ?_
      obtain ⟨rfl, rfl, rfl⟩ := se3 hf
      exact Kt rfl _ _ _ I (lv_sub hl [1, 2, 0] rfl)
    · have hf := inn c4 hf
      refine lv_iload_n hx hb dX1_firstGreatest_25 rfl (lv_at hl 2 rfl) ?_
      refine lv_istore_n (lv' := [(1, .int x2), (0, .ref (g.2.2 22)), (2, .int x2)]) hx hb dX1_firstGreatest_26 rfl hl (by decide) rfl (fun ls hl => ?_)
      refine lv_iinc (v := (x2 + (1 : Int32))) (lv' := [(2, .int (x2 + (1 : Int32))), (1, .int x2), (0, .ref (g.2.2 22))]) hx hb dX1_firstGreatest_27 hl (k := 2) rfl rfl (by decide) rfl (fun ls hl => ?_)
      refine lv_goto (tgt := 4) hx hb dX1_firstGreatest_30 (by decide) ?_
      obtain ⟨rfl, rfl, rfl⟩ := se3 hf
      exact Kt rfl _ _ _ I (lv_sub hl [2, 1, 0] rfl)
set_option maxHeartbeats 4000000 in
theorem lX1_firstGreatest_4 (C0 : CallFix p m c cX1_firstGreatest 3 s args big RX1) (hr : meth.sig.returnType = (some .int)) (hk : meth.locks = false) {S : St}  {y1 : Int32} {y2 : Int32} : ∀ (n : Nat) {x1 : Int32} {x2 : Int32}, lp (fun q => bX1_firstGreatest_4 S q.1 q.2) n (x1, x2) = some (y1, y2) → ∀ {H : Heap} {locs : List Loc}, xI g s S H locs → ∀ {ls : Array Slot}, lv_has ls 3 [(0, .ref (g.2.2 22)), (1, .int x1), (2, .int x2)] → (∀ (H : Heap) (locs : List Loc) (ls : Array Slot), xI g s S H locs → lv_has ls 3 [(0, .ref (g.2.2 22)), (1, .int y1), (2, .int y2)] → W p l e ({ frames := 0, cells := 0, slots := 0, locals := 0 } : Room) s m args below meth c H locs 0 0 Q (F0 m 33 ls [])) → W p l e ({ frames := 0, cells := 0, slots := 0, locals := 0 } : Room) s m args below meth c H locs 0 0 Q (F0 m 4 ls []) := by
  intro n
  induction n with
  | zero => intro x1 x2 hf; cases hf
  | succ n ih =>
    intro x1 x2 hf H locs I ls hl K
    obtain ⟨b, ⟨z0, z1⟩, h1, h2, h3⟩ := lp_some hf
    refine BX1_firstGreatest_4 C0 hr hk (fun hb1 H locs ls I hl => ?_) (fun hb1 H locs ls I hl => ?_) h1 I hl
    · exact ih (h2 hb1) I hl K
    · have e := h3 hb1
      cases e
      exact K H locs ls I hl
set_option maxHeartbeats 4000000 in
set_option maxRecDepth 100000 in
theorem tX1_firstGreatest_0 (C0 : CallFix p m c cX1_firstGreatest 3 s args big RX1) (hr : meth.sig.returnType = (some .int)) (hk : meth.locks = false)  {rr : Int32}  (hf : fX1_firstGreatest S = some rr) (I : xI g s S H locs) (hl : lv_has ls 3 [(0, .ref (g.2.2 22))]) : W p l e ({ frames := 0, cells := 0, slots := 0, locals := 0 } : Room) s m args below meth c H locs 0 0 (MQ below (va_Qi (fun r' S2 => r' = rr ∧ S2 = S) (xB g) (xA g)) args s 0 0 (xA g)) (F0 m 0 ls []) := by
  obtain ⟨hx, hb, hml, -, -⟩ := id C0
  unfold fX1_firstGreatest at hf
  refine lv_iconst (v := 0) hx hb dX1_firstGreatest_0 (by decide) ?_
  refine lv_istore_n (lv' := [(1, .int (0 : Int32)), (0, .ref (g.2.2 22))]) hx hb dX1_firstGreatest_1 rfl hl (by decide) rfl (fun ls hl => ?_)
  refine lv_iconst (v := 1) hx hb dX1_firstGreatest_2 (by decide) ?_
  refine lv_istore_n (lv' := [(2, .int (1 : Int32)), (1, .int (0 : Int32)), (0, .ref (g.2.2 22))]) hx hb dX1_firstGreatest_3 rfl hl (by decide) rfl (fun ls hl => ?_)
  obtain ⟨y1_5, y2_5, h5, hf⟩ := bq2_some hf
  refine lX1_firstGreatest_4 C0 hr hk fu h5 I (lv_sub hl [2, 1, 0] rfl) (fun H locs ls I hl => ?_)
  refine lv_iload_n hx hb dX1_firstGreatest_33 rfl (lv_at hl 1 rfl) ?_
  obtain rfl := se1 hf
  exact xri C0 hr hk I dX1_firstGreatest_34
set_option maxRecDepth 100000 in
theorem kX1_firstGreatest  {rr : Int32} (hf : fX1_firstGreatest S  = some rr) : Met l yX1_firstGreatest (Cond.code yX1_firstGreatest cX1_firstGreatest 3 (some .int) :: big) ({ frames := 0, cells := 0, slots := 0, locals := 0 } : Room) (va_Pc [.ref (g.2.2 22)] (xB g S)) (va_Qi (fun r' S2 => r' = rr ∧ S2 = S) (xB g) (xA g)) 0 0 (xA g) := by
  refine Met.ofW (cc := cX1_firstGreatest) (maxL := 3) (ret := (some .int)) (by decide) rfl ?_
  intro p e s m args below meth c s₁ B hml hv
  obtain ⟨rfl, hP, hK, hD⟩ := hv
  have hts0 := atoms_spec (ws := (Cond.code yX1_firstGreatest cX1_firstGreatest 3 (some .int) :: big)) B.pre
  have C0 : CallFix p m c cX1_firstGreatest 3 s _ big RX1 := ⟨B.exec, B.bytes, hml, findClass_of_methodNamed B.named, fun w h => hts0 w (List.mem_cons_of_mem _ h)⟩
  have I : xI g s S s.heap [] := ⟨hK, hP, hD, va_S.rf⟩
  have hl := lv_entry ([.ref (g.2.2 22)]) (n := 3) (Nat.le_of_ble_eq_true rfl)
  rw [lg_entry_eq]
  generalize (lg_sl ([.ref (g.2.2 22)]) ++ List.replicate (3 - (lg_sl ([.ref (g.2.2 22)])).length) Slot.unset).toArray = ls at hl ⊢
  have hl : lv_has ls 3 [(0, .ref (g.2.2 22))] := hl
  exact tX1_firstGreatest_0 C0 B.returns B.notSynchronized hf I (lv_sub hl [0] rfl)
set_option maxHeartbeats 4000000 in
set_option maxRecDepth 100000 in
theorem BX1_countAtLeast_17 (C0 : CallFix p m c cX1_countAtLeast 6 s args big RX1) (hr : meth.sig.returnType = (some .int)) (hk : meth.locks = false) {x1 : Int32} {x3 : Int32} {x4 : Int32} {x5 : Int32} {b : Bool} {y3 : Int32} {y5 : Int32} (Kt : b = true → ∀ (H : Heap) (locs : List Loc) (ls : Array Slot), xI g s S H locs → lv_has ls 6 [(0, .ref (g.2.2 22)), (1, .int x1), (2, .ref (g.2.2 1)), (3, .int y3), (4, .int x4), (5, .int y5)] → W p l e ({ frames := 1, cells := 0, slots := 0, locals := 20 } : Room) s m args below meth c H locs 0 0 Q (F0 m 17 ls [])) (Kf : b = false → ∀ (H : Heap) (locs : List Loc) (ls : Array Slot), xI g s S H locs → lv_has ls 6 [(0, .ref (g.2.2 22)), (1, .int x1), (2, .ref (g.2.2 1)), (3, .int y3), (4, .int x4), (5, .int y5)] → W p l e ({ frames := 1, cells := 0, slots := 0, locals := 20 } : Room) s m args below meth c H locs 0 0 Q (F0 m 51 ls [])) (hf : bX1_countAtLeast_17 S x1 x4 x3 x5 = some (b, y3, y5)) (I : xI g s S H locs) (hl : lv_has ls 6 [(0, .ref (g.2.2 22)), (1, .int x1), (2, .ref (g.2.2 1)), (3, .int x3), (4, .int x4), (5, .int x5)]) : W p l e ({ frames := 1, cells := 0, slots := 0, locals := 20 } : Room) s m args below meth c H locs 0 0 Q (F0 m 17 ls []) := by
  obtain ⟨hx, hb, hml, -, -⟩ := id C0
  unfold bX1_countAtLeast_17 at hf
  refine lv_iload hx hb dX1_countAtLeast_17 (lv_at hl 5 rfl) ?_
  refine lv_aload_n hx hb dX1_countAtLeast_19 rfl (lv_at hl 2 rfl) ?_
  refine xg_X1_36_1 C0 I dX1_countAtLeast_20 ?_
  refine lv_icmp_ge (tgt := 51) hx hb dX1_countAtLeast_23 (by decide) (fun c3 => ?_) (fun c3 => ?_)
  · have hf := ip c3 hf
    obtain ⟨rfl, rfl, rfl⟩ := se3 hf
    exact Kf rfl _ _ _ I (lv_sub hl [0, 1, 2, 3, 4, 5] rfl)
  · have hf := inn c3 hf
    refine lv_aload_n hx hb dX1_countAtLeast_26 rfl (lv_at hl 0 rfl) ?_
    refine xg_X1_9_22 C0 I dX1_countAtLeast_27 ?_
    refine lv_iload hx hb dX1_countAtLeast_30 (lv_at hl 4 rfl) ?_
    refine lv_iconst (v := 4) hx hb dX1_countAtLeast_32 (by decide) ?_
    refine lv_imul hx hb dX1_countAtLeast_33 ?_
    refine lv_iload hx hb dX1_countAtLeast_34 (lv_at hl 5 rfl) ?_
    refine lv_iadd hx hb dX1_countAtLeast_36 ?_
    obtain ⟨b4, hf⟩ := chk_some hf
    refine xl_23 hx hb I b4 dX1_countAtLeast_37 ?_
    refine lv_iload_n hx hb dX1_countAtLeast_38 rfl (lv_at hl 1 rfl) ?_
    refine lv_icmp_lt (tgt := 45) hx hb dX1_countAtLeast_39 (by decide) (fun c5 => ?_) (fun c5 => ?_)
    · have hf := ip c5 hf
      refine lv_iinc (v := (x5 + (1 : Int32))) (lv' := [(5, .int (x5 + (1 : Int32))), (0, .ref (g.2.2 22)), (1, .int x1), (2, .ref (g.2.2 1)), (3, .int x3), (4, .int x4)]) hx hb dX1_countAtLeast_45 hl (k := 5) rfl rfl (by decide) rfl (fun ls hl => ?_)
      refine lv_goto (tgt := 17) hx hb dX1_countAtLeast_48 (by decide) ?_
      obtain ⟨rfl, rfl, rfl⟩ := se3 hf
      exact Kt rfl _ _ _ I (lv_sub hl [1, 2, 3, 4, 5, 0] rfl)
    · have hf := inn c5 hf
      refine lv_iinc (v := (x3 + (1 : Int32))) (lv' := [(3, .int (x3 + (1 : Int32))), (0, .ref (g.2.2 22)), (1, .int x1), (2, .ref (g.2.2 1)), (4, .int x4), (5, .int x5)]) hx hb dX1_countAtLeast_42 hl (k := 3) rfl rfl (by decide) rfl (fun ls hl => ?_)
      refine lv_iinc (v := (x5 + (1 : Int32))) (lv' := [(5, .int (x5 + (1 : Int32))), (3, .int (x3 + (1 : Int32))), (0, .ref (g.2.2 22)), (1, .int x1), (2, .ref (g.2.2 1)), (4, .int x4)]) hx hb dX1_countAtLeast_45 hl (k := 5) rfl rfl (by decide) rfl (fun ls hl => ?_)
      refine lv_goto (tgt := 17) hx hb dX1_countAtLeast_48 (by decide) ?_
      obtain ⟨rfl, rfl, rfl⟩ := se3 hf
      exact Kt rfl _ _ _ I (lv_sub hl [2, 3, 4, 1, 5, 0] rfl)
set_option maxHeartbeats 4000000 in
theorem lX1_countAtLeast_17 (C0 : CallFix p m c cX1_countAtLeast 6 s args big RX1) (hr : meth.sig.returnType = (some .int)) (hk : meth.locks = false) {S : St} {x1 : Int32} {x4 : Int32} {y3 : Int32} {y5 : Int32} : ∀ (n : Nat) {x3 : Int32} {x5 : Int32}, lp (fun q => bX1_countAtLeast_17 S x1 x4 q.1 q.2) n (x3, x5) = some (y3, y5) → ∀ {H : Heap} {locs : List Loc}, xI g s S H locs → ∀ {ls : Array Slot}, lv_has ls 6 [(0, .ref (g.2.2 22)), (1, .int x1), (2, .ref (g.2.2 1)), (3, .int x3), (4, .int x4), (5, .int x5)] → (∀ (H : Heap) (locs : List Loc) (ls : Array Slot), xI g s S H locs → lv_has ls 6 [(0, .ref (g.2.2 22)), (1, .int x1), (2, .ref (g.2.2 1)), (3, .int y3), (4, .int x4), (5, .int y5)] → W p l e ({ frames := 1, cells := 0, slots := 0, locals := 20 } : Room) s m args below meth c H locs 0 0 Q (F0 m 51 ls [])) → W p l e ({ frames := 1, cells := 0, slots := 0, locals := 20 } : Room) s m args below meth c H locs 0 0 Q (F0 m 17 ls []) := by
  intro n
  induction n with
  | zero => intro x3 x5 hf; cases hf
  | succ n ih =>
    intro x3 x5 hf H locs I ls hl K
    obtain ⟨b, ⟨z0, z1⟩, h1, h2, h3⟩ := lp_some hf
    refine BX1_countAtLeast_17 C0 hr hk (fun hb1 H locs ls I hl => ?_) (fun hb1 H locs ls I hl => ?_) h1 I hl
    · exact ih (h2 hb1) I hl K
    · have e := h3 hb1
      cases e
      exact K H locs ls I hl
set_option maxHeartbeats 4000000 in
set_option maxRecDepth 100000 in
theorem BX1_countAtLeast_5 (C0 : CallFix p m c cX1_countAtLeast 6 s args big RX1) (hr : meth.sig.returnType = (some .int)) (hk : meth.locks = false) {x1 : Int32} {x3 : Int32} {x4 : Int32} {b : Bool} {y3 : Int32} {y4 : Int32} (Kt : b = true → ∀ (H : Heap) (locs : List Loc) (ls : Array Slot), xI g s S H locs → lv_has ls 6 [(0, .ref (g.2.2 22)), (1, .int x1), (2, .ref (g.2.2 1)), (3, .int y3), (4, .int y4)] → W p l e ({ frames := 1, cells := 0, slots := 0, locals := 20 } : Room) s m args below meth c H locs 0 0 Q (F0 m 5 ls [])) (Kf : b = false → ∀ (H : Heap) (locs : List Loc) (ls : Array Slot), xI g s S H locs → lv_has ls 6 [(0, .ref (g.2.2 22)), (1, .int x1), (2, .ref (g.2.2 1)), (3, .int y3), (4, .int y4)] → W p l e ({ frames := 1, cells := 0, slots := 0, locals := 20 } : Room) s m args below meth c H locs 0 0 Q (F0 m 57 ls [])) (hf : bX1_countAtLeast_5 S x1 x3 x4 = some (b, y3, y4)) (I : xI g s S H locs) (hl : lv_has ls 6 [(0, .ref (g.2.2 22)), (1, .int x1), (2, .ref (g.2.2 1)), (3, .int x3), (4, .int x4)]) : W p l e ({ frames := 1, cells := 0, slots := 0, locals := 20 } : Room) s m args below meth c H locs 0 0 Q (F0 m 5 ls []) := by
  obtain ⟨hx, hb, hml, -, -⟩ := id C0
  unfold bX1_countAtLeast_5 at hf
  refine lv_iload hx hb dX1_countAtLeast_5 (lv_at hl 4 rfl) ?_
  refine lv_aload_n hx hb dX1_countAtLeast_7 rfl (lv_at hl 2 rfl) ?_
  obtain ⟨r1, h1, hf⟩ := bq1_some hf
  refine xcv_i (As := []) C0 I (kX3_corners h1) (cwV 0 C0.2.2.2.2 (gwV wd_425 wd_299 wd_300 wd_67 wd_301) rfl rfl rfl dsc_X3_corners ⟨Nat.le_of_ble_eq_true rfl, Nat.le_of_ble_eq_true rfl⟩) (xo_1 I) rfl hl.1 rfl (Nat.le_of_ble_eq_true rfl) dX1_countAtLeast_8 (fun H locs I => ?_)
  refine lv_icmp_ge (tgt := 57) hx hb dX1_countAtLeast_11 (by decide) (fun c2 => ?_) (fun c2 => ?_)
  · have hf := ip c2 hf
    obtain ⟨rfl, rfl, rfl⟩ := se3 hf
    exact Kf rfl _ _ _ I (lv_sub hl [0, 1, 2, 3, 4] rfl)
  · have hf := inn c2 hf
    refine lv_iconst (v := 0) hx hb dX1_countAtLeast_14 (by decide) ?_
    refine lv_istore (lv' := [(5, .int (0 : Int32)), (0, .ref (g.2.2 22)), (1, .int x1), (2, .ref (g.2.2 1)), (3, .int x3), (4, .int x4)]) hx hb dX1_countAtLeast_15 hl (by decide) rfl (fun ls hl => ?_)
    obtain ⟨y3_6, y5_6, h6, hf⟩ := bq2_some hf
    refine lX1_countAtLeast_17 C0 hr hk fu h6 I (lv_sub hl [1, 2, 3, 4, 5, 0] rfl) (fun H locs ls I hl => ?_)
    refine lv_iinc (v := (x4 + (1 : Int32))) (lv' := [(4, .int (x4 + (1 : Int32))), (0, .ref (g.2.2 22)), (1, .int x1), (2, .ref (g.2.2 1)), (3, .int y3_6), (5, .int y5_6)]) hx hb dX1_countAtLeast_51 hl (k := 4) rfl rfl (by decide) rfl (fun ls hl => ?_)
    refine lv_goto (tgt := 5) hx hb dX1_countAtLeast_54 (by decide) ?_
    obtain ⟨rfl, rfl, rfl⟩ := se3 hf
    exact Kt rfl _ _ _ I (lv_sub hl [1, 2, 3, 4, 0] rfl)
set_option maxHeartbeats 4000000 in
theorem lX1_countAtLeast_5 (C0 : CallFix p m c cX1_countAtLeast 6 s args big RX1) (hr : meth.sig.returnType = (some .int)) (hk : meth.locks = false) {S : St} {x1 : Int32} {y3 : Int32} {y4 : Int32} : ∀ (n : Nat) {x3 : Int32} {x4 : Int32}, lp (fun q => bX1_countAtLeast_5 S x1 q.1 q.2) n (x3, x4) = some (y3, y4) → ∀ {H : Heap} {locs : List Loc}, xI g s S H locs → ∀ {ls : Array Slot}, lv_has ls 6 [(0, .ref (g.2.2 22)), (1, .int x1), (2, .ref (g.2.2 1)), (3, .int x3), (4, .int x4)] → (∀ (H : Heap) (locs : List Loc) (ls : Array Slot), xI g s S H locs → lv_has ls 6 [(0, .ref (g.2.2 22)), (1, .int x1), (2, .ref (g.2.2 1)), (3, .int y3), (4, .int y4)] → W p l e ({ frames := 1, cells := 0, slots := 0, locals := 20 } : Room) s m args below meth c H locs 0 0 Q (F0 m 57 ls [])) → W p l e ({ frames := 1, cells := 0, slots := 0, locals := 20 } : Room) s m args below meth c H locs 0 0 Q (F0 m 5 ls []) := by
  intro n
  induction n with
  | zero => intro x3 x4 hf; cases hf
  | succ n ih =>
    intro x3 x4 hf H locs I ls hl K
    obtain ⟨b, ⟨z0, z1⟩, h1, h2, h3⟩ := lp_some hf
    refine BX1_countAtLeast_5 C0 hr hk (fun hb1 H locs ls I hl => ?_) (fun hb1 H locs ls I hl => ?_) h1 I hl
    · exact ih (h2 hb1) I hl K
    · have e := h3 hb1
      cases e
      exact K H locs ls I hl
set_option maxHeartbeats 4000000 in
set_option maxRecDepth 100000 in
theorem tX1_countAtLeast_0 (C0 : CallFix p m c cX1_countAtLeast 6 s args big RX1) (hr : meth.sig.returnType = (some .int)) (hk : meth.locks = false) {x1 : Int32} {rr : Int32}  (hf : fX1_countAtLeast S x1 = some rr) (I : xI g s S H locs) (hl : lv_has ls 6 [(0, .ref (g.2.2 22)), (1, .int x1), (2, .ref (g.2.2 1))]) : W p l e ({ frames := 1, cells := 0, slots := 0, locals := 20 } : Room) s m args below meth c H locs 0 0 (MQ below (va_Qi (fun r' S2 => r' = rr ∧ S2 = S) (xB g) (xA g)) args s 0 0 (xA g)) (F0 m 0 ls []) := by
  obtain ⟨hx, hb, hml, -, -⟩ := id C0
  unfold fX1_countAtLeast at hf
  refine lv_iconst (v := 0) hx hb dX1_countAtLeast_0 (by decide) ?_
  refine lv_istore_n (lv' := [(3, .int (0 : Int32)), (0, .ref (g.2.2 22)), (1, .int x1), (2, .ref (g.2.2 1))]) hx hb dX1_countAtLeast_1 rfl hl (by decide) rfl (fun ls hl => ?_)
  refine lv_iconst (v := 0) hx hb dX1_countAtLeast_2 (by decide) ?_
  refine lv_istore (lv' := [(4, .int (0 : Int32)), (3, .int (0 : Int32)), (0, .ref (g.2.2 22)), (1, .int x1), (2, .ref (g.2.2 1))]) hx hb dX1_countAtLeast_3 hl (by decide) rfl (fun ls hl => ?_)
  obtain ⟨y3_7, y4_7, h7, hf⟩ := bq2_some hf
  refine lX1_countAtLeast_5 C0 hr hk fu h7 I (lv_sub hl [2, 3, 4, 1, 0] rfl) (fun H locs ls I hl => ?_)
  refine lv_iload_n hx hb dX1_countAtLeast_57 rfl (lv_at hl 3 rfl) ?_
  obtain rfl := se1 hf
  exact xri C0 hr hk I dX1_countAtLeast_58
set_option maxRecDepth 100000 in
theorem kX1_countAtLeast {x1 : Int32} {rr : Int32} (hf : fX1_countAtLeast S x1 = some rr) : Met l yX1_countAtLeast (Cond.code yX1_countAtLeast cX1_countAtLeast 6 (some .int) :: big) ({ frames := 1, cells := 0, slots := 0, locals := 20 } : Room) (va_Pc [.ref (g.2.2 22), .int x1, .ref (g.2.2 1)] (xB g S)) (va_Qi (fun r' S2 => r' = rr ∧ S2 = S) (xB g) (xA g)) 0 0 (xA g) := by
  refine Met.ofW (cc := cX1_countAtLeast) (maxL := 6) (ret := (some .int)) (by decide) rfl ?_
  intro p e s m args below meth c s₁ B hml hv
  obtain ⟨rfl, hP, hK, hD⟩ := hv
  have hts0 := atoms_spec (ws := (Cond.code yX1_countAtLeast cX1_countAtLeast 6 (some .int) :: big)) B.pre
  have C0 : CallFix p m c cX1_countAtLeast 6 s _ big RX1 := ⟨B.exec, B.bytes, hml, findClass_of_methodNamed B.named, fun w h => hts0 w (List.mem_cons_of_mem _ h)⟩
  have I : xI g s S s.heap [] := ⟨hK, hP, hD, va_S.rf⟩
  have hl := lv_entry ([.ref (g.2.2 22), .int x1, .ref (g.2.2 1)]) (n := 6) (Nat.le_of_ble_eq_true rfl)
  rw [lg_entry_eq]
  generalize (lg_sl ([.ref (g.2.2 22), .int x1, .ref (g.2.2 1)]) ++ List.replicate (6 - (lg_sl ([.ref (g.2.2 22), .int x1, .ref (g.2.2 1)])).length) Slot.unset).toArray = ls at hl ⊢
  have hl : lv_has ls 6 [(0, .ref (g.2.2 22)), (1, .int x1), (2, .ref (g.2.2 1))] := hl
  exact tX1_countAtLeast_0 C0 B.returns B.notSynchronized hf I (lv_sub hl [0, 1, 2] rfl)
set_option maxHeartbeats 4000000 in
set_option maxRecDepth 100000 in
theorem tX6_nameOf_0 (C0 : CallFix p m c cX6_nameOf 1 s args big RX6) (hr : meth.sig.returnType = (some .int)) (hk : meth.locks = false) {x0 : Int32} {rr : Int32}  (hf : fX6_nameOf S x0 = some rr) (I : xI g s S H locs) (hl : lv_has ls 1 [(0, .int x0)]) : W p l e ({ frames := 0, cells := 0, slots := 0, locals := 0 } : Room) s m args below meth c H locs 0 0 (MQ below (va_Qi (fun r' S2 => r' = rr ∧ S2 = S) (xB g) (xA g)) args s 0 0 (xA g)) (F0 m 0 ls []) := by
  obtain ⟨hx, hb, hml, -, -⟩ := id C0
  unfold fX6_nameOf at hf
  refine lv_iload_n hx hb dX6_nameOf_0 rfl (lv_at hl 0 rfl) ?_
  refine lv_iconst (v := 4) hx hb dX6_nameOf_1 (by decide) ?_
  refine lv_idiv hx hb dX6_nameOf_2 (by decide) ?_
  refine lv_bipush (v := 10) hx hb dX6_nameOf_3 (by decide) ?_
  refine lv_imul hx hb dX6_nameOf_5 ?_
  refine lv_iload_n hx hb dX6_nameOf_6 rfl (lv_at hl 0 rfl) ?_
  refine lv_iconst (v := 4) hx hb dX6_nameOf_7 (by decide) ?_
  refine lv_irem hx hb dX6_nameOf_8 (by decide) ?_
  refine lv_iadd hx hb dX6_nameOf_9 ?_
  obtain rfl := se1 hf
  exact xri C0 hr hk I dX6_nameOf_10
set_option maxRecDepth 100000 in
theorem kX6_nameOf {x0 : Int32} {rr : Int32} (hf : fX6_nameOf S x0 = some rr) : Met l yX6_nameOf (Cond.code yX6_nameOf cX6_nameOf 1 (some .int) :: big) ({ frames := 0, cells := 0, slots := 0, locals := 0 } : Room) (va_Pc [.int x0] (xB g S)) (va_Qi (fun r' S2 => r' = rr ∧ S2 = S) (xB g) (xA g)) 0 0 (xA g) := by
  refine Met.ofW (cc := cX6_nameOf) (maxL := 1) (ret := (some .int)) (by decide) rfl ?_
  intro p e s m args below meth c s₁ B hml hv
  obtain ⟨rfl, hP, hK, hD⟩ := hv
  have hts0 := atoms_spec (ws := (Cond.code yX6_nameOf cX6_nameOf 1 (some .int) :: big)) B.pre
  have C0 : CallFix p m c cX6_nameOf 1 s _ big RX6 := ⟨B.exec, B.bytes, hml, findClass_of_methodNamed B.named, fun w h => hts0 w (List.mem_cons_of_mem _ h)⟩
  have I : xI g s S s.heap [] := ⟨hK, hP, hD, va_S.rf⟩
  have hl := lv_entry ([.int x0]) (n := 1) (Nat.le_of_ble_eq_true rfl)
  rw [lg_entry_eq]
  generalize (lg_sl ([.int x0]) ++ List.replicate (1 - (lg_sl ([.int x0])).length) Slot.unset).toArray = ls at hl ⊢
  have hl : lv_has ls 1 [(0, .int x0)] := hl
  exact tX6_nameOf_0 C0 B.returns B.notSynchronized hf I (lv_sub hl [0] rfl)
set_option maxHeartbeats 4000000 in
set_option maxRecDepth 100000 in
theorem tX6_loadsFact_0 (C0 : CallFix p m c cX6_loadsFact 4 s args big RX6) (hr : meth.sig.returnType = (some .int)) (hk : meth.locks = false) {x1 : Int32} {rr : Int32}  (hf : fX6_loadsFact S x1 = some rr) (I : xI g s S H locs) (hl : lv_has ls 4 [(0, .ref (g.2.2 0)), (1, .int x1)]) : W p l e ({ frames := 2, cells := 0, slots := 0, locals := 45 } : Room) s m args below meth c H locs 0 0 (MQ below (va_Qi (fun r' S2 => r' = rr ∧ S2 = S) (xB g) (xA g)) args s 0 0 (xA g)) (F0 m 0 ls []) := by
  obtain ⟨hx, hb, hml, -, -⟩ := id C0
  unfold fX6_loadsFact at hf
  refine lv_aload_n hx hb dX6_loadsFact_0 rfl (lv_at hl 0 rfl) ?_
  refine xg_X6_33_0 C0 I dX6_loadsFact_1 ?_
  obtain ⟨r1, h1, hf⟩ := bq1_some hf
  refine xcv_i (As := []) C0 I (kX1_firstGreatest h1) (cwV 0 C0.2.2.2.2 (gwV wd_417 wd_418 wd_419 wd_70 wd_420) rfl rfl rfl dsc_X1_firstGreatest ⟨Nat.le_of_ble_eq_true rfl, Nat.le_of_ble_eq_true rfl⟩) (xo_22 I) rfl hl.1 rfl (Nat.le_of_ble_eq_true rfl) dX6_loadsFact_4 (fun H locs I => ?_)
  refine lv_istore_n (lv' := [(2, .int r1), (0, .ref (g.2.2 0)), (1, .int x1)]) hx hb dX6_loadsFact_7 rfl hl (by decide) rfl (fun ls hl => ?_)
  refine lv_aload_n hx hb dX6_loadsFact_8 rfl (lv_at hl 1 rfl) ?_
  refine xg_X6_33_0 C0 I dX6_loadsFact_9 ?_
  refine xg_X6_143_22 C0 I dX6_loadsFact_12 ?_
  refine lv_iload_n hx hb dX6_loadsFact_15 rfl (lv_at hl 0 rfl) ?_
  obtain ⟨b2, hf⟩ := chk_some hf
  refine xl_23 hx hb I b2 dX6_loadsFact_16 ?_
  refine lv_istore_n (lv' := [(3, .int (gR S 11 r1)), (2, .int r1), (0, .ref (g.2.2 0)), (1, .int x1)]) hx hb dX6_loadsFact_17 rfl hl (by decide) rfl (fun ls hl => ?_)
  refine lv_iload_n hx hb dX6_loadsFact_18 rfl (lv_at hl 3 rfl) ?_
  by_cases e3 : x1 = (0 : Int32)
  · have hf := ip e3 hf
    refine lv_tableIn (off := 25) (tgt := 44) hx hb dX6_loadsFact_19 (by rw [e3]; decide) (by rw [e3]; decide) (by rw [e3]; rfl) (by decide) ?_
    refine lv_iload_n hx hb dX6_loadsFact_44 rfl (lv_at hl 0 rfl) ?_
    obtain rfl := se1 hf
    exact xri C0 hr hk I dX6_loadsFact_45
  · have hf := inn e3 hf
    by_cases e4 : x1 = (1 : Int32)
    · have hf := ip e4 hf
      refine lv_tableIn (off := 27) (tgt := 46) hx hb dX6_loadsFact_19 (by rw [e4]; decide) (by rw [e4]; decide) (by rw [e4]; rfl) (by decide) ?_
      refine lv_aload_n hx hb dX6_loadsFact_46 rfl (lv_at hl 2 rfl) ?_
      refine xg_X6_33_0 C0 I dX6_loadsFact_47 ?_
      refine lv_iload_n hx hb dX6_loadsFact_50 rfl (lv_at hl 0 rfl) ?_
      refine lv_aload_n hx hb dX6_loadsFact_51 rfl (lv_at hl 2 rfl) ?_
      refine xg_X6_10_0 C0 I dX6_loadsFact_52 ?_
      obtain ⟨r5, h5, hf⟩ := bq1_some hf
      refine xcv_i (As := [.int (gR S 11 r1), .ref (g.2.2 1)]) C0 I (kX1_countAtLeast h5) (cwV 2 C0.2.2.2.2 (gwV wd_421 wd_422 wd_423 wd_70 wd_424) rfl rfl rfl dsc_X1_countAtLeast ⟨Nat.le_of_ble_eq_true rfl, Nat.le_of_ble_eq_true rfl⟩) (xo_22 I) rfl hl.1 rfl (Nat.le_of_ble_eq_true rfl) dX6_loadsFact_55 (fun H locs I => ?_)
      obtain rfl := se1 hf
      exact xri C0 hr hk I dX6_loadsFact_58
    · have hf := inn e4 hf
      by_cases e6 : x1 = (2 : Int32)
      · have hf := ip e6 hf
        refine lv_tableIn (off := 40) (tgt := 59) hx hb dX6_loadsFact_19 (by rw [e6]; decide) (by rw [e6]; decide) (by rw [e6]; rfl) (by decide) ?_
        refine lv_aload_n hx hb dX6_loadsFact_59 rfl (lv_at hl 2 rfl) ?_
        refine xg_X6_33_0 C0 I dX6_loadsFact_60 ?_
        refine lv_iconst (v := 1) hx hb dX6_loadsFact_63 (by decide) ?_
        refine lv_aload_n hx hb dX6_loadsFact_64 rfl (lv_at hl 2 rfl) ?_
        refine xg_X6_10_0 C0 I dX6_loadsFact_65 ?_
        obtain ⟨r7, h7, hf⟩ := bq1_some hf
        refine xcv_i (As := [.int (1 : Int32), .ref (g.2.2 1)]) C0 I (kX1_countAtLeast h7) (cwV 2 C0.2.2.2.2 (gwV wd_421 wd_422 wd_423 wd_70 wd_424) rfl rfl rfl dsc_X1_countAtLeast ⟨Nat.le_of_ble_eq_true rfl, Nat.le_of_ble_eq_true rfl⟩) (xo_22 I) rfl hl.1 rfl (Nat.le_of_ble_eq_true rfl) dX6_loadsFact_68 (fun H locs I => ?_)
        obtain rfl := se1 hf
        exact xri C0 hr hk I dX6_loadsFact_71
      · have hf := inn e6 hf
        refine lv_tableOut (tgt := 72) hx hb dX6_loadsFact_19 (by have q3 := lv_neT (a := 0) e3 (by decide); have q4 := lv_neT (a := 1) e4 (by decide); have q6 := lv_neT (a := 2) e6 (by decide); omega) (by decide) ?_
        refine lv_iload_n hx hb dX6_loadsFact_72 rfl (lv_at hl 0 rfl) ?_
        refine lv_if_ne (tgt := 80) hx hb dX6_loadsFact_73 (by decide) (fun c8 => ?_) (fun c8 => ?_)
        · have hf := inn c8 hf
          refine lv_iload_n hx hb dX6_loadsFact_80 rfl (lv_at hl 1 rfl) ?_
          obtain ⟨r9, h9, hf⟩ := bq1_some hf
          refine xcs_i (As := [.int r1]) C0 I (kX6_nameOf h9) (va_cwS 1 C0.2.2.2.2 (gwS wd_426 wd_427 wd_66 wd_428) rfl rfl rfl dsc_X6_nameOf.2 ⟨Nat.le_of_ble_eq_true rfl, Nat.le_of_ble_eq_true rfl⟩) rfl hl.1 rfl (Nat.le_of_ble_eq_true rfl) dX6_loadsFact_81 (fun H locs I => ?_)
          obtain rfl := se1 hf
          exact xri C0 hr hk I dX6_loadsFact_84
        · have hf := ip c8 hf
          refine lv_iconst (v := -1) hx hb dX6_loadsFact_76 (by decide) ?_
          refine lv_goto (tgt := 84) hx hb dX6_loadsFact_77 (by decide) ?_
          obtain rfl := se1 hf
          exact xri C0 hr hk I dX6_loadsFact_84
set_option maxRecDepth 100000 in
theorem kX6_loadsFact {x1 : Int32} {rr : Int32} (hf : fX6_loadsFact S x1 = some rr) : Met l yX6_loadsFact (Cond.code yX6_loadsFact cX6_loadsFact 4 (some .int) :: big) ({ frames := 2, cells := 0, slots := 0, locals := 45 } : Room) (va_Pc [.ref (g.2.2 0), .int x1] (xB g S)) (va_Qi (fun r' S2 => r' = rr ∧ S2 = S) (xB g) (xA g)) 0 0 (xA g) := by
  refine Met.ofW (cc := cX6_loadsFact) (maxL := 4) (ret := (some .int)) (by decide) rfl ?_
  intro p e s m args below meth c s₁ B hml hv
  obtain ⟨rfl, hP, hK, hD⟩ := hv
  have hts0 := atoms_spec (ws := (Cond.code yX6_loadsFact cX6_loadsFact 4 (some .int) :: big)) B.pre
  have C0 : CallFix p m c cX6_loadsFact 4 s _ big RX6 := ⟨B.exec, B.bytes, hml, findClass_of_methodNamed B.named, fun w h => hts0 w (List.mem_cons_of_mem _ h)⟩
  have I : xI g s S s.heap [] := ⟨hK, hP, hD, va_S.rf⟩
  have hl := lv_entry ([.ref (g.2.2 0), .int x1]) (n := 4) (Nat.le_of_ble_eq_true rfl)
  rw [lg_entry_eq]
  generalize (lg_sl ([.ref (g.2.2 0), .int x1]) ++ List.replicate (4 - (lg_sl ([.ref (g.2.2 0), .int x1])).length) Slot.unset).toArray = ls at hl ⊢
  have hl : lv_has ls 4 [(0, .ref (g.2.2 0)), (1, .int x1)] := hl
  exact tX6_loadsFact_0 C0 B.returns B.notSynchronized hf I (lv_sub hl [0, 1] rfl)
end
