section
variable {p : Program} {l : Launch} {e : Env} {s : State} {m : MethodId} {args : Array Value} {below : List Frame} {meth : Method} {c : Code} {Q : State → Prop} {g : xG} {H : Heap} {locs : List Loc} {ls : Array Slot} {S S' : St}
set_option maxHeartbeats 4000000 in
set_option maxRecDepth 100000 in
theorem tX6_sets_32 (C0 : CallFix p m c cX6_sets 5 s args big RX6) (hr : meth.sig.returnType = (some .int)) (hk : meth.locks = false)  {rr : Int32}  (hf : fX6_sets_32 S = some (rr, S')) (I : xI g s S H locs) (hl : lv_has ls 5 [(0, .ref (g.2.2 0))]) : W p l e ({ frames := 3, cells := 0, slots := 0, locals := 82 } : Room) s m args below meth c H locs 0 0 (MQ below (va_Qi (fun r' S2 => r' = rr ∧ S2 = S') (xB g) (xA g)) args s 0 0 (xA g)) (F0 m 32 ls []) := by
  obtain ⟨hx, hb, hml, -, -⟩ := id C0
  unfold fX6_sets_32 at hf
  refine lv_aload_n hx hb dX6_sets_32 rfl (lv_at hl 0 rfl) ?_
  refine lv_bipush (v := -2) hx hb dX6_sets_33 (by decide) ?_
  obtain ⟨r3, S3, h3, hf⟩ := bq2_some hf
  refine xcv_i (As := [.int (-2 : Int32)]) C0 I (kX6_refuse h3) (cwV 1 C0.2.2.2.2 (gwV wd_272 wd_274 wd_0 wd_66 wd_275) rfl rfl rfl dsc_X6_refuse ⟨Nat.le_of_ble_eq_true rfl, Nat.le_of_ble_eq_true rfl⟩) (xo_0 I) rfl hl.1 rfl (Nat.le_of_ble_eq_true rfl) dX6_sets_35 (fun H locs I => ?_)
  obtain ⟨rfl, rfl⟩ := se2 hf
  exact xri C0 hr hk I dX6_sets_38
set_option maxHeartbeats 4000000 in
set_option maxRecDepth 100000 in
theorem tX6_sets_0 (C0 : CallFix p m c cX6_sets 5 s args big RX6) (hr : meth.sig.returnType = (some .int)) (hk : meth.locks = false) {x1 : Int32} {x2 : Int32} {x3 : Int32} {rr : Int32}  (hf : fX6_sets S x1 x2 x3 = some (rr, S')) (I : xI g s S H locs) (hl : lv_has ls 5 [(0, .ref (g.2.2 0)), (1, .int x1), (2, .int x2), (3, .int x3)]) : W p l e ({ frames := 3, cells := 0, slots := 0, locals := 82 } : Room) s m args below meth c H locs 0 0 (MQ below (va_Qi (fun r' S2 => r' = rr ∧ S2 = S') (xB g) (xA g)) args s 0 0 (xA g)) (F0 m 0 ls []) := by
  obtain ⟨hx, hb, hml, -, -⟩ := id C0
  unfold fX6_sets at hf
  refine lv_aload_n hx hb dX6_sets_0 rfl (lv_at hl 0 rfl) ?_
  refine xg_X6_10_0 C0 I dX6_sets_1 ?_
  refine lv_iload_n hx hb dX6_sets_4 rfl (lv_at hl 1 rfl) ?_
  obtain ⟨r1, h1, hf⟩ := bq1_some hf
  refine xcv_i (As := [.int x1]) C0 I (kX3_has h1) (cwV 1 C0.2.2.2.2 (gwV wd_314 wd_315 wd_316 wd_67 wd_317) rfl rfl rfl dsc_X3_has ⟨Nat.le_of_ble_eq_true rfl, Nat.le_of_ble_eq_true rfl⟩) (xo_1 I) rfl hl.1 rfl (Nat.le_of_ble_eq_true rfl) dX6_sets_5 (fun H locs I => ?_)
  refine lv_if_eq (tgt := 32) hx hb dX6_sets_8 (by decide) (fun c2 => ?_) (fun c2 => ?_)
  · have hf := ip c2 hf
    exact tX6_sets_32 C0 hr hk hf I (lv_sub hl [0] rfl)
  · have hf := inn c2 hf
    refine lv_iload_n hx hb dX6_sets_11 rfl (lv_at hl 2 rfl) ?_
    refine lv_if_lt (tgt := 32) hx hb dX6_sets_12 (by decide) (fun c4 => ?_) (fun c4 => ?_)
    · have hf := ip c4 hf
      exact tX6_sets_32 C0 hr hk hf I (lv_sub hl [0] rfl)
    · have hf := inn c4 hf
      refine lv_iload_n hx hb dX6_sets_15 rfl (lv_at hl 2 rfl) ?_
      refine lv_iconst (v := 4) hx hb dX6_sets_16 (by decide) ?_
      refine lv_icmp_ge (tgt := 32) hx hb dX6_sets_17 (by decide) (fun c5 => ?_) (fun c5 => ?_)
      · have hf := ip c5 hf
        exact tX6_sets_32 C0 hr hk hf I (lv_sub hl [0] rfl)
      · have hf := inn c5 hf
        refine lv_aload_n hx hb dX6_sets_20 rfl (lv_at hl 0 rfl) ?_
        refine xg_X6_10_0 C0 I dX6_sets_21 ?_
        refine lv_iload_n hx hb dX6_sets_24 rfl (lv_at hl 2 rfl) ?_
        refine lv_iload_n hx hb dX6_sets_25 rfl (lv_at hl 3 rfl) ?_
        obtain ⟨r6, h6, hf⟩ := bq1_some hf
        refine xcv_i (As := [.int x2, .int x3]) C0 I (kX3_allows h6) (cwV 2 C0.2.2.2.2 (gwV wd_294 wd_295 wd_296 wd_67 wd_297) rfl rfl rfl dsc_X3_allows ⟨Nat.le_of_ble_eq_true rfl, Nat.le_of_ble_eq_true rfl⟩) (xo_1 I) rfl hl.1 rfl (Nat.le_of_ble_eq_true rfl) dX6_sets_26 (fun H locs I => ?_)
        refine lv_if_ne (tgt := 39) hx hb dX6_sets_29 (by decide) (fun c7 => ?_) (fun c7 => ?_)
        · have hf := inn c7 hf
          refine lv_aload_n hx hb dX6_sets_39 rfl (lv_at hl 0 rfl) ?_
          refine xg_X6_19_0 C0 I dX6_sets_40 ?_
          refine lv_aload_n hx hb dX6_sets_43 rfl (lv_at hl 0 rfl) ?_
          refine xg_X6_10_0 C0 I dX6_sets_44 ?_
          obtain ⟨S8, h8, hf⟩ := bq1_some hf
          refine xcv_v (As := [.ref (g.2.2 1)]) C0 I (kX0_keep h8) (cwV 1 C0.2.2.2.2 (gwV wd_276 wd_277 wd_278 wd_68 wd_279) rfl rfl rfl dsc_X0_keep ⟨Nat.le_of_ble_eq_true rfl, Nat.le_of_ble_eq_true rfl⟩) (xo_3 I) rfl hl.1 rfl (Nat.le_of_ble_eq_true rfl) dX6_sets_47 (fun H locs I => ?_)
          refine lv_aload_n hx hb dX6_sets_50 rfl (lv_at hl 0 rfl) ?_
          refine xg_X6_10_0 C0 I dX6_sets_51 ?_
          refine lv_iload_n hx hb dX6_sets_54 rfl (lv_at hl 1 rfl) ?_
          refine lv_iload_n hx hb dX6_sets_55 rfl (lv_at hl 2 rfl) ?_
          obtain ⟨r9, h9, hf⟩ := bq1_some hf
          refine xcv_i (As := [.int x1, .int x2]) C0 I (kX3_trait h9) (cwV 2 C0.2.2.2.2 (gwV wd_318 wd_319 wd_320 wd_67 wd_321) rfl rfl rfl dsc_X3_trait ⟨Nat.le_of_ble_eq_true rfl, Nat.le_of_ble_eq_true rfl⟩) (xo_1 I) rfl hl.1 rfl (Nat.le_of_ble_eq_true rfl) dX6_sets_56 (fun H locs I => ?_)
          refine lv_istore (lv' := [(4, .int r9), (0, .ref (g.2.2 0)), (1, .int x1), (2, .int x2), (3, .int x3)]) hx hb dX6_sets_59 hl (by decide) rfl (fun ls hl => ?_)
          refine lv_aload_n hx hb dX6_sets_61 rfl (lv_at hl 1 rfl) ?_
          refine xg_X6_10_0 C0 I dX6_sets_62 ?_
          refine lv_iload_n hx hb dX6_sets_65 rfl (lv_at hl 2 rfl) ?_
          refine lv_iload_n hx hb dX6_sets_66 rfl (lv_at hl 3 rfl) ?_
          refine lv_iload_n hx hb dX6_sets_67 rfl (lv_at hl 4 rfl) ?_
          obtain ⟨S10, h10, hf⟩ := bq1_some hf
          refine xcv_v (As := [.int x1, .int x2, .int x3]) C0 I (kX3_change h10) (cwV 3 C0.2.2.2.2 (gwV wd_322 wd_307 wd_308 wd_67 wd_309) rfl rfl rfl dsc_X3_change ⟨Nat.le_of_ble_eq_true rfl, Nat.le_of_ble_eq_true rfl⟩) (xo_1 I) rfl hl.1 rfl (Nat.le_of_ble_eq_true rfl) dX6_sets_68 (fun H locs I => ?_)
          refine lv_iload hx hb dX6_sets_71 (lv_at hl 0 rfl) ?_
          obtain ⟨rfl, rfl⟩ := se2 hf
          exact xri C0 hr hk I dX6_sets_73
        · have hf := ip c7 hf
          exact tX6_sets_32 C0 hr hk hf I (lv_sub hl [0] rfl)
set_option maxRecDepth 100000 in
theorem kX6_sets {x1 : Int32} {x2 : Int32} {x3 : Int32} {rr : Int32} (hf : fX6_sets S x1 x2 x3 = some (rr, S')) : Met l yX6_sets (Cond.code yX6_sets cX6_sets 5 (some .int) :: big) ({ frames := 3, cells := 0, slots := 0, locals := 82 } : Room) (va_Pc [.ref (g.2.2 0), .int x1, .int x2, .int x3] (xB g S)) (va_Qi (fun r' S2 => r' = rr ∧ S2 = S') (xB g) (xA g)) 0 0 (xA g) := by
  refine Met.ofW (cc := cX6_sets) (maxL := 5) (ret := (some .int)) (by decide) rfl ?_
  intro p e s m args below meth c s₁ B hml hv
  obtain ⟨rfl, hP, hK, hD⟩ := hv
  have hts0 := atoms_spec (ws := (Cond.code yX6_sets cX6_sets 5 (some .int) :: big)) B.pre
  have C0 : CallFix p m c cX6_sets 5 s _ big RX6 := ⟨B.exec, B.bytes, hml, findClass_of_methodNamed B.named, fun w h => hts0 w (List.mem_cons_of_mem _ h)⟩
  have I : xI g s S s.heap [] := ⟨hK, hP, hD, va_S.rf⟩
  have hl := lv_entry ([.ref (g.2.2 0), .int x1, .int x2, .int x3]) (n := 5) (Nat.le_of_ble_eq_true rfl)
  rw [lg_entry_eq]
  generalize (lg_sl ([.ref (g.2.2 0), .int x1, .int x2, .int x3]) ++ List.replicate (5 - (lg_sl ([.ref (g.2.2 0), .int x1, .int x2, .int x3])).length) Slot.unset).toArray = ls at hl ⊢
  have hl : lv_has ls 5 [(0, .ref (g.2.2 0)), (1, .int x1), (2, .int x2), (3, .int x3)] := hl
  exact tX6_sets_0 C0 B.returns B.notSynchronized hf I (lv_sub hl [0, 1, 2, 3] rfl)
set_option maxHeartbeats 4000000 in
set_option maxRecDepth 100000 in
theorem tX6_rules_88 (C0 : CallFix p m c cX6_rules 6 s args big RX6) (hr : meth.sig.returnType = (some .int)) (hk : meth.locks = false) {x2 : Int32} {x3 : Int32} {s0 : Int32} {rr : Int32}  (hf : fX6_rules_88 S x2 x3 s0 = some (rr, S')) (I : xI g s S H locs) (hl : lv_has ls 6 [(0, .ref (g.2.2 0)), (2, .int x2), (3, .int x3)]) : W p l e ({ frames := 3, cells := 0, slots := 0, locals := 82 } : Room) s m args below meth c H locs 0 0 (MQ below (va_Qi (fun r' S2 => r' = rr ∧ S2 = S') (xB g) (xA g)) args s 0 0 (xA g)) (F0 m 88 ls [.int s0]) := by
  obtain ⟨hx, hb, hml, -, -⟩ := id C0
  unfold fX6_rules_88 at hf
  refine lv_istore (lv' := [(5, .int s0), (0, .ref (g.2.2 0)), (2, .int x2), (3, .int x3)]) hx hb dX6_rules_88 hl (by decide) rfl (fun ls hl => ?_)
  refine lv_iload_n hx hb dX6_rules_90 rfl (lv_at hl 3 rfl) ?_
  refine lv_if_eq (tgt := 105) hx hb dX6_rules_91 (by decide) (fun c6 => ?_) (fun c6 => ?_)
  · have hf := ip c6 hf
    refine lv_aload_n hx hb dX6_rules_105 rfl (lv_at hl 1 rfl) ?_
    refine xg_X6_10_0 C0 I dX6_rules_106 ?_
    refine lv_iload_n hx hb dX6_rules_109 rfl (lv_at hl 2 rfl) ?_
    refine xp_X6_99_1 C0 I dX6_rules_110 (fun H locs I => ?_)
    refine lv_iload hx hb dX6_rules_113 (lv_at hl 0 rfl) ?_
    obtain ⟨rfl, rfl⟩ := se2 hf
    exact xri C0 hr hk I dX6_rules_115
  · have hf := inn c6 hf
    refine lv_aload_n hx hb dX6_rules_94 rfl (lv_at hl 1 rfl) ?_
    refine xg_X6_10_0 C0 I dX6_rules_95 ?_
    refine lv_iload_n hx hb dX6_rules_98 rfl (lv_at hl 2 rfl) ?_
    refine xp_X6_96_1 C0 I dX6_rules_99 (fun H locs I => ?_)
    refine lv_goto (tgt := 113) hx hb dX6_rules_102 (by decide) ?_
    refine lv_iload hx hb dX6_rules_113 (lv_at hl 0 rfl) ?_
    obtain ⟨rfl, rfl⟩ := se2 hf
    exact xri C0 hr hk I dX6_rules_115
set_option maxHeartbeats 4000000 in
set_option maxRecDepth 100000 in
theorem tX6_rules_56 (C0 : CallFix p m c cX6_rules 6 s args big RX6) (hr : meth.sig.returnType = (some .int)) (hk : meth.locks = false) {x2 : Int32} {x3 : Int32} {rr : Int32}  (hf : fX6_rules_56 S x2 x3 = some (rr, S')) (I : xI g s S H locs) (hl : lv_has ls 6 [(0, .ref (g.2.2 0)), (2, .int x2), (3, .int x3)]) : W p l e ({ frames := 3, cells := 0, slots := 0, locals := 82 } : Room) s m args below meth c H locs 0 0 (MQ below (va_Qi (fun r' S2 => r' = rr ∧ S2 = S') (xB g) (xA g)) args s 0 0 (xA g)) (F0 m 56 ls []) := by
  obtain ⟨hx, hb, hml, -, -⟩ := id C0
  unfold fX6_rules_56 at hf
  refine lv_aload_n hx hb dX6_rules_56 rfl (lv_at hl 0 rfl) ?_
  refine xg_X6_19_0 C0 I dX6_rules_57 ?_
  refine lv_aload_n hx hb dX6_rules_60 rfl (lv_at hl 0 rfl) ?_
  refine xg_X6_10_0 C0 I dX6_rules_61 ?_
  obtain ⟨S4, h4, hf⟩ := bq1_some hf
  refine xcv_v (As := [.ref (g.2.2 1)]) C0 I (kX0_keep h4) (cwV 1 C0.2.2.2.2 (gwV wd_276 wd_277 wd_278 wd_68 wd_279) rfl rfl rfl dsc_X0_keep ⟨Nat.le_of_ble_eq_true rfl, Nat.le_of_ble_eq_true rfl⟩) (xo_3 I) rfl hl.1 rfl (Nat.le_of_ble_eq_true rfl) dX6_rules_64 (fun H locs I => ?_)
  refine lv_iload_n hx hb dX6_rules_67 rfl (lv_at hl 2 rfl) ?_
  refine lv_if_eq (tgt := 81) hx hb dX6_rules_68 (by decide) (fun c5 => ?_) (fun c5 => ?_)
  · have hf := ip c5 hf
    refine lv_aload_n hx hb dX6_rules_81 rfl (lv_at hl 0 rfl) ?_
    refine xg_X6_10_0 C0 I dX6_rules_82 ?_
    refine xg_X6_99_1 C0 I dX6_rules_85 ?_
    exact tX6_rules_88 C0 hr hk hf I (lv_sub hl [0, 1, 2] rfl)
  · have hf := inn c5 hf
    refine lv_aload_n hx hb dX6_rules_71 rfl (lv_at hl 0 rfl) ?_
    refine xg_X6_10_0 C0 I dX6_rules_72 ?_
    refine xg_X6_96_1 C0 I dX6_rules_75 ?_
    refine lv_goto (tgt := 88) hx hb dX6_rules_78 (by decide) ?_
    exact tX6_rules_88 C0 hr hk hf I (lv_sub hl [0, 1, 2] rfl)
set_option maxHeartbeats 4000000 in
set_option maxRecDepth 100000 in
theorem tX6_rules_38 (C0 : CallFix p m c cX6_rules 6 s args big RX6) (hr : meth.sig.returnType = (some .int)) (hk : meth.locks = false) {x2 : Int32} {x3 : Int32} {s0 : Int32} {rr : Int32}  (hf : fX6_rules_38 S x2 x3 s0 = some (rr, S')) (I : xI g s S H locs) (hl : lv_has ls 6 [(0, .ref (g.2.2 0)), (2, .int x2), (3, .int x3)]) : W p l e ({ frames := 3, cells := 0, slots := 0, locals := 82 } : Room) s m args below meth c H locs 0 0 (MQ below (va_Qi (fun r' S2 => r' = rr ∧ S2 = S') (xB g) (xA g)) args s 0 0 (xA g)) (F0 m 38 ls [.int s0]) := by
  obtain ⟨hx, hb, hml, -, -⟩ := id C0
  unfold fX6_rules_38 at hf
  refine lv_istore (lv' := [(4, .int s0), (0, .ref (g.2.2 0)), (2, .int x2), (3, .int x3)]) hx hb dX6_rules_38 hl (by decide) rfl (fun ls hl => ?_)
  refine lv_iload_n hx hb dX6_rules_40 rfl (lv_at hl 3 rfl) ?_
  refine lv_if_ne (tgt := 56) hx hb dX6_rules_41 (by decide) (fun c3 => ?_) (fun c3 => ?_)
  · have hf := inn c3 hf
    exact tX6_rules_56 C0 hr hk hf I (lv_sub hl [1, 2, 3] rfl)
  · have hf := ip c3 hf
    refine lv_iload hx hb dX6_rules_44 (lv_at hl 0 rfl) ?_
    refine lv_if_ne (tgt := 56) hx hb dX6_rules_46 (by decide) (fun c7 => ?_) (fun c7 => ?_)
    · have hf := inn c7 hf
      exact tX6_rules_56 C0 hr hk hf I (lv_sub hl [1, 2, 3] rfl)
    · have hf := ip c7 hf
      refine lv_aload_n hx hb dX6_rules_49 rfl (lv_at hl 1 rfl) ?_
      refine lv_bipush (v := -2) hx hb dX6_rules_50 (by decide) ?_
      obtain ⟨r8, S8, h8, hf⟩ := bq2_some hf
      refine xcv_i (As := [.int (-2 : Int32)]) C0 I (kX6_refuse h8) (cwV 1 C0.2.2.2.2 (gwV wd_272 wd_274 wd_0 wd_66 wd_275) rfl rfl rfl dsc_X6_refuse ⟨Nat.le_of_ble_eq_true rfl, Nat.le_of_ble_eq_true rfl⟩) (xo_0 I) rfl hl.1 rfl (Nat.le_of_ble_eq_true rfl) dX6_rules_52 (fun H locs I => ?_)
      obtain ⟨rfl, rfl⟩ := se2 hf
      exact xri C0 hr hk I dX6_rules_55
set_option maxHeartbeats 4000000 in
set_option maxRecDepth 100000 in
theorem tX6_rules_37 (C0 : CallFix p m c cX6_rules 6 s args big RX6) (hr : meth.sig.returnType = (some .int)) (hk : meth.locks = false) {x2 : Int32} {x3 : Int32} {rr : Int32}  (hf : fX6_rules_37 S x2 x3 = some (rr, S')) (I : xI g s S H locs) (hl : lv_has ls 6 [(0, .ref (g.2.2 0)), (2, .int x2), (3, .int x3)]) : W p l e ({ frames := 3, cells := 0, slots := 0, locals := 82 } : Room) s m args below meth c H locs 0 0 (MQ below (va_Qi (fun r' S2 => r' = rr ∧ S2 = S') (xB g) (xA g)) args s 0 0 (xA g)) (F0 m 37 ls []) := by
  obtain ⟨hx, hb, hml, -, -⟩ := id C0
  unfold fX6_rules_37 at hf
  refine lv_iconst (v := 0) hx hb dX6_rules_37 (by decide) ?_
  exact tX6_rules_38 C0 hr hk hf I (lv_sub hl [0, 1, 2] rfl)
set_option maxHeartbeats 4000000 in
set_option maxRecDepth 100000 in
theorem tX6_rules_18 (C0 : CallFix p m c cX6_rules 6 s args big RX6) (hr : meth.sig.returnType = (some .int)) (hk : meth.locks = false) {x1 : Int32} {x2 : Int32} {s0 : Int32} {rr : Int32}  (hf : fX6_rules_18 S x1 x2 s0 = some (rr, S')) (I : xI g s S H locs) (hl : lv_has ls 6 [(0, .ref (g.2.2 0)), (1, .int x1), (2, .int x2)]) : W p l e ({ frames := 3, cells := 0, slots := 0, locals := 82 } : Room) s m args below meth c H locs 0 0 (MQ below (va_Qi (fun r' S2 => r' = rr ∧ S2 = S') (xB g) (xA g)) args s 0 0 (xA g)) (F0 m 18 ls [.int s0]) := by
  obtain ⟨hx, hb, hml, -, -⟩ := id C0
  unfold fX6_rules_18 at hf
  refine lv_istore_n (lv' := [(3, .int s0), (0, .ref (g.2.2 0)), (1, .int x1), (2, .int x2)]) hx hb dX6_rules_18 rfl hl (by decide) rfl (fun ls hl => ?_)
  refine lv_iload_n hx hb dX6_rules_19 rfl (lv_at hl 2 rfl) ?_
  refine lv_iconst (v := 1) hx hb dX6_rules_20 (by decide) ?_
  refine lv_icmp_ne (tgt := 37) hx hb dX6_rules_21 (by decide) (fun c2 => ?_) (fun c2 => ?_)
  · have hf := inn c2 hf
    exact tX6_rules_37 C0 hr hk hf I (lv_sub hl [1, 3, 0] rfl)
  · have hf := ip c2 hf
    refine lv_iload_n hx hb dX6_rules_24 rfl (lv_at hl 3 rfl) ?_
    refine lv_if_lt (tgt := 37) hx hb dX6_rules_25 (by decide) (fun c9 => ?_) (fun c9 => ?_)
    · have hf := ip c9 hf
      exact tX6_rules_37 C0 hr hk hf I (lv_sub hl [1, 3, 0] rfl)
    · have hf := inn c9 hf
      refine lv_iload_n hx hb dX6_rules_28 rfl (lv_at hl 3 rfl) ?_
      refine lv_iconst (v := 4) hx hb dX6_rules_29 (by decide) ?_
      refine lv_icmp_ge (tgt := 37) hx hb dX6_rules_30 (by decide) (fun c10 => ?_) (fun c10 => ?_)
      · have hf := ip c10 hf
        exact tX6_rules_37 C0 hr hk hf I (lv_sub hl [1, 3, 0] rfl)
      · have hf := inn c10 hf
        refine lv_iconst (v := 1) hx hb dX6_rules_33 (by decide) ?_
        refine lv_goto (tgt := 38) hx hb dX6_rules_34 (by decide) ?_
        exact tX6_rules_38 C0 hr hk hf I (lv_sub hl [1, 3, 0] rfl)
set_option maxHeartbeats 4000000 in
set_option maxRecDepth 100000 in
theorem tX6_rules_17 (C0 : CallFix p m c cX6_rules 6 s args big RX6) (hr : meth.sig.returnType = (some .int)) (hk : meth.locks = false) {x1 : Int32} {x2 : Int32} {rr : Int32}  (hf : fX6_rules_17 S x1 x2 = some (rr, S')) (I : xI g s S H locs) (hl : lv_has ls 6 [(0, .ref (g.2.2 0)), (1, .int x1), (2, .int x2)]) : W p l e ({ frames := 3, cells := 0, slots := 0, locals := 82 } : Room) s m args below meth c H locs 0 0 (MQ below (va_Qi (fun r' S2 => r' = rr ∧ S2 = S') (xB g) (xA g)) args s 0 0 (xA g)) (F0 m 17 ls []) := by
  obtain ⟨hx, hb, hml, -, -⟩ := id C0
  unfold fX6_rules_17 at hf
  refine lv_iconst (v := 0) hx hb dX6_rules_17 (by decide) ?_
  exact tX6_rules_18 C0 hr hk hf I (lv_sub hl [0, 1, 2] rfl)
set_option maxHeartbeats 4000000 in
set_option maxRecDepth 100000 in
theorem tX6_rules_0 (C0 : CallFix p m c cX6_rules 6 s args big RX6) (hr : meth.sig.returnType = (some .int)) (hk : meth.locks = false) {x1 : Int32} {x2 : Int32} {rr : Int32}  (hf : fX6_rules S x1 x2 = some (rr, S')) (I : xI g s S H locs) (hl : lv_has ls 6 [(0, .ref (g.2.2 0)), (1, .int x1), (2, .int x2)]) : W p l e ({ frames := 3, cells := 0, slots := 0, locals := 82 } : Room) s m args below meth c H locs 0 0 (MQ below (va_Qi (fun r' S2 => r' = rr ∧ S2 = S') (xB g) (xA g)) args s 0 0 (xA g)) (F0 m 0 ls []) := by
  obtain ⟨hx, hb, hml, -, -⟩ := id C0
  unfold fX6_rules at hf
  refine lv_iload_n hx hb dX6_rules_0 rfl (lv_at hl 1 rfl) ?_
  refine lv_if_ne (tgt := 17) hx hb dX6_rules_1 (by decide) (fun c1 => ?_) (fun c1 => ?_)
  · have hf := inn c1 hf
    exact tX6_rules_17 C0 hr hk hf I (lv_sub hl [0, 1, 2] rfl)
  · have hf := ip c1 hf
    refine lv_iload_n hx hb dX6_rules_4 rfl (lv_at hl 2 rfl) ?_
    refine lv_if_lt (tgt := 17) hx hb dX6_rules_5 (by decide) (fun c11 => ?_) (fun c11 => ?_)
    · have hf := ip c11 hf
      exact tX6_rules_17 C0 hr hk hf I (lv_sub hl [0, 1, 2] rfl)
    · have hf := inn c11 hf
      refine lv_iload_n hx hb dX6_rules_8 rfl (lv_at hl 2 rfl) ?_
      refine lv_iconst (v := 2) hx hb dX6_rules_9 (by decide) ?_
      refine lv_icmp_ge (tgt := 17) hx hb dX6_rules_10 (by decide) (fun c12 => ?_) (fun c12 => ?_)
      · have hf := ip c12 hf
        exact tX6_rules_17 C0 hr hk hf I (lv_sub hl [0, 1, 2] rfl)
      · have hf := inn c12 hf
        refine lv_iconst (v := 1) hx hb dX6_rules_13 (by decide) ?_
        refine lv_goto (tgt := 18) hx hb dX6_rules_14 (by decide) ?_
        exact tX6_rules_18 C0 hr hk hf I (lv_sub hl [0, 1, 2] rfl)
set_option maxRecDepth 100000 in
theorem kX6_rules {x1 : Int32} {x2 : Int32} {rr : Int32} (hf : fX6_rules S x1 x2 = some (rr, S')) : Met l yX6_rules (Cond.code yX6_rules cX6_rules 6 (some .int) :: big) ({ frames := 3, cells := 0, slots := 0, locals := 82 } : Room) (va_Pc [.ref (g.2.2 0), .int x1, .int x2] (xB g S)) (va_Qi (fun r' S2 => r' = rr ∧ S2 = S') (xB g) (xA g)) 0 0 (xA g) := by
  refine Met.ofW (cc := cX6_rules) (maxL := 6) (ret := (some .int)) (by decide) rfl ?_
  intro p e s m args below meth c s₁ B hml hv
  obtain ⟨rfl, hP, hK, hD⟩ := hv
  have hts0 := atoms_spec (ws := (Cond.code yX6_rules cX6_rules 6 (some .int) :: big)) B.pre
  have C0 : CallFix p m c cX6_rules 6 s _ big RX6 := ⟨B.exec, B.bytes, hml, findClass_of_methodNamed B.named, fun w h => hts0 w (List.mem_cons_of_mem _ h)⟩
  have I : xI g s S s.heap [] := ⟨hK, hP, hD, va_S.rf⟩
  have hl := lv_entry ([.ref (g.2.2 0), .int x1, .int x2]) (n := 6) (Nat.le_of_ble_eq_true rfl)
  rw [lg_entry_eq]
  generalize (lg_sl ([.ref (g.2.2 0), .int x1, .int x2]) ++ List.replicate (6 - (lg_sl ([.ref (g.2.2 0), .int x1, .int x2])).length) Slot.unset).toArray = ls at hl ⊢
  have hl : lv_has ls 6 [(0, .ref (g.2.2 0)), (1, .int x1), (2, .int x2)] := hl
  exact tX6_rules_0 C0 B.returns B.notSynchronized hf I (lv_sub hl [0, 1, 2] rfl)
set_option maxHeartbeats 4000000 in
set_option maxRecDepth 100000 in
theorem tX6_empties_0 (C0 : CallFix p m c cX6_empties 2 s args big RX6) (hr : meth.sig.returnType = (some .int)) (hk : meth.locks = false)  {rr : Int32}  (hf : fX6_empties S = some (rr, S')) (I : xI g s S H locs) (hl : lv_has ls 2 [(0, .ref (g.2.2 0))]) : W p l e ({ frames := 3, cells := 0, slots := 0, locals := 82 } : Room) s m args below meth c H locs 0 0 (MQ below (va_Qi (fun r' S2 => r' = rr ∧ S2 = S') (xB g) (xA g)) args s 0 0 (xA g)) (F0 m 0 ls []) := by
  obtain ⟨hx, hb, hml, -, -⟩ := id C0
  unfold fX6_empties at hf
  refine lv_aload_n hx hb dX6_empties_0 rfl (lv_at hl 0 rfl) ?_
  refine xg_X6_19_0 C0 I dX6_empties_1 ?_
  refine lv_aload_n hx hb dX6_empties_4 rfl (lv_at hl 0 rfl) ?_
  refine xg_X6_10_0 C0 I dX6_empties_5 ?_
  obtain ⟨S1, h1, hf⟩ := bq1_some hf
  refine xcv_v (As := [.ref (g.2.2 1)]) C0 I (kX0_keep h1) (cwV 1 C0.2.2.2.2 (gwV wd_276 wd_277 wd_278 wd_68 wd_279) rfl rfl rfl dsc_X0_keep ⟨Nat.le_of_ble_eq_true rfl, Nat.le_of_ble_eq_true rfl⟩) (xo_3 I) rfl hl.1 rfl (Nat.le_of_ble_eq_true rfl) dX6_empties_8 (fun H locs I => ?_)
  refine lv_aload_n hx hb dX6_empties_11 rfl (lv_at hl 0 rfl) ?_
  refine xg_X6_10_0 C0 I dX6_empties_12 ?_
  refine xg_X6_73_1 C0 I dX6_empties_15 ?_
  refine lv_istore_n (lv' := [(1, .int (gF S1 3)), (0, .ref (g.2.2 0))]) hx hb dX6_empties_18 rfl hl (by decide) rfl (fun ls hl => ?_)
  refine lv_aload_n hx hb dX6_empties_19 rfl (lv_at hl 1 rfl) ?_
  refine xg_X6_10_0 C0 I dX6_empties_20 ?_
  refine lv_iconst (v := 0) hx hb dX6_empties_23 (by decide) ?_
  refine xp_X6_73_1 C0 I dX6_empties_24 (fun H locs I => ?_)
  refine lv_iload_n hx hb dX6_empties_27 rfl (lv_at hl 0 rfl) ?_
  obtain ⟨rfl, rfl⟩ := se2 hf
  exact xri C0 hr hk I dX6_empties_28
set_option maxRecDepth 100000 in
theorem kX6_empties  {rr : Int32} (hf : fX6_empties S  = some (rr, S')) : Met l yX6_empties (Cond.code yX6_empties cX6_empties 2 (some .int) :: big) ({ frames := 3, cells := 0, slots := 0, locals := 82 } : Room) (va_Pc [.ref (g.2.2 0)] (xB g S)) (va_Qi (fun r' S2 => r' = rr ∧ S2 = S') (xB g) (xA g)) 0 0 (xA g) := by
  refine Met.ofW (cc := cX6_empties) (maxL := 2) (ret := (some .int)) (by decide) rfl ?_
  intro p e s m args below meth c s₁ B hml hv
  obtain ⟨rfl, hP, hK, hD⟩ := hv
  have hts0 := atoms_spec (ws := (Cond.code yX6_empties cX6_empties 2 (some .int) :: big)) B.pre
  have C0 : CallFix p m c cX6_empties 2 s _ big RX6 := ⟨B.exec, B.bytes, hml, findClass_of_methodNamed B.named, fun w h => hts0 w (List.mem_cons_of_mem _ h)⟩
  have I : xI g s S s.heap [] := ⟨hK, hP, hD, va_S.rf⟩
  have hl := lv_entry ([.ref (g.2.2 0)]) (n := 2) (Nat.le_of_ble_eq_true rfl)
  rw [lg_entry_eq]
  generalize (lg_sl ([.ref (g.2.2 0)]) ++ List.replicate (2 - (lg_sl ([.ref (g.2.2 0)])).length) Slot.unset).toArray = ls at hl ⊢
  have hl : lv_has ls 2 [(0, .ref (g.2.2 0))] := hl
  exact tX6_empties_0 C0 B.returns B.notSynchronized hf I (lv_sub hl [0] rfl)
set_option maxHeartbeats 4000000 in
set_option maxRecDepth 100000 in
theorem BX3_partner_39 (C0 : CallFix p m c cX3_partner 6 s args big RX3) (hr : meth.sig.returnType = (some .int)) (hk : meth.locks = false) {x1 : Int32} {x4 : Int32} {x5 : Int32} {b : Bool} {y4 : Int32} {y5 : Int32} (Kt : b = true → ∀ (H : Heap) (locs : List Loc) (ls : Array Slot), xI g s S H locs → lv_has ls 6 [(0, .ref (g.2.2 1)), (1, .int x1), (4, .int y4), (5, .int y5)] → W p l e ({ frames := 1, cells := 0, slots := 0, locals := 20 } : Room) s m args below meth c H locs 0 0 Q (F0 m 39 ls [])) (Kf : b = false → ∀ (H : Heap) (locs : List Loc) (ls : Array Slot), xI g s S H locs → lv_has ls 6 [(0, .ref (g.2.2 1)), (1, .int x1), (4, .int y4), (5, .int y5)] → W p l e ({ frames := 1, cells := 0, slots := 0, locals := 20 } : Room) s m args below meth c H locs 0 0 Q (F0 m 67 ls [])) (hf : bX3_partner_39 S x1 x4 x5 = some (b, y4, y5)) (I : xI g s S H locs) (hl : lv_has ls 6 [(0, .ref (g.2.2 1)), (1, .int x1), (4, .int x4), (5, .int x5)]) : W p l e ({ frames := 1, cells := 0, slots := 0, locals := 20 } : Room) s m args below meth c H locs 0 0 Q (F0 m 39 ls []) := by
  obtain ⟨hx, hb, hml, -, -⟩ := id C0
  unfold bX3_partner_39 at hf
  refine lv_iload hx hb dX3_partner_39 (lv_at hl 3 rfl) ?_
  refine lv_aload_n hx hb dX3_partner_41 rfl (lv_at hl 0 rfl) ?_
  refine xg_X3_9_1 C0 I dX3_partner_42 ?_
  refine lv_icmp_ge (tgt := 67) hx hb dX3_partner_45 (by decide) (fun c4 => ?_) (fun c4 => ?_)
  · have hf := ip c4 hf
    obtain ⟨rfl, rfl, rfl⟩ := se3 hf
    exact Kf rfl _ _ _ I (lv_sub hl [0, 1, 2, 3] rfl)
  · have hf := inn c4 hf
    refine lv_iconst (v := 2) hx hb dX3_partner_48 (by decide) ?_
    refine lv_iload hx hb dX3_partner_49 (lv_at hl 2 rfl) ?_
    refine lv_imul hx hb dX3_partner_51 ?_
    refine lv_iload_n hx hb dX3_partner_52 rfl (lv_at hl 1 rfl) ?_
    refine lv_iload hx hb dX3_partner_53 (lv_at hl 3 rfl) ?_
    refine lv_ishr hx hb dX3_partner_55 ?_
    refine lv_iconst (v := 2) hx hb dX3_partner_56 (by decide) ?_
    refine lv_irem hx hb dX3_partner_57 (by decide) ?_
    refine lv_iadd hx hb dX3_partner_58 ?_
    refine lv_istore (lv' := [(4, .int (((2 : Int32) * x4) + ((x1 >>> (x5 &&& (31 : Int32))) - (x1 >>> (x5 &&& (31 : Int32))) / (2 : Int32) * (2 : Int32)))), (0, .ref (g.2.2 1)), (1, .int x1), (5, .int x5)]) hx hb dX3_partner_59 hl (by decide) rfl (fun ls hl => ?_)
    refine lv_iinc (v := (x5 + (1 : Int32))) (lv' := [(5, .int (x5 + (1 : Int32))), (4, .int (((2 : Int32) * x4) + ((x1 >>> (x5 &&& (31 : Int32))) - (x1 >>> (x5 &&& (31 : Int32))) / (2 : Int32) * (2 : Int32)))), (0, .ref (g.2.2 1)), (1, .int x1)]) hx hb dX3_partner_61 hl (k := 3) rfl rfl (by decide) rfl (fun ls hl => ?_)
    refine lv_goto (tgt := 39) hx hb dX3_partner_64 (by decide) ?_
    obtain ⟨rfl, rfl, rfl⟩ := se3 hf
    exact Kt rfl _ _ _ I (lv_sub hl [2, 3, 1, 0] rfl)
set_option maxHeartbeats 4000000 in
theorem lX3_partner_39 (C0 : CallFix p m c cX3_partner 6 s args big RX3) (hr : meth.sig.returnType = (some .int)) (hk : meth.locks = false) {S : St} {x1 : Int32} {y4 : Int32} {y5 : Int32} : ∀ (n : Nat) {x4 : Int32} {x5 : Int32}, lp (fun q => bX3_partner_39 S x1 q.1 q.2) n (x4, x5) = some (y4, y5) → ∀ {H : Heap} {locs : List Loc}, xI g s S H locs → ∀ {ls : Array Slot}, lv_has ls 6 [(0, .ref (g.2.2 1)), (1, .int x1), (4, .int x4), (5, .int x5)] → (∀ (H : Heap) (locs : List Loc) (ls : Array Slot), xI g s S H locs → lv_has ls 6 [(0, .ref (g.2.2 1)), (1, .int x1), (4, .int y4), (5, .int y5)] → W p l e ({ frames := 1, cells := 0, slots := 0, locals := 20 } : Room) s m args below meth c H locs 0 0 Q (F0 m 67 ls [])) → W p l e ({ frames := 1, cells := 0, slots := 0, locals := 20 } : Room) s m args below meth c H locs 0 0 Q (F0 m 39 ls []) := by
  intro n
  induction n with
  | zero => intro x4 x5 hf; cases hf
  | succ n ih =>
    intro x4 x5 hf H locs I ls hl K
    obtain ⟨b, ⟨z0, z1⟩, h1, h2, h3⟩ := lp_some hf
    refine BX3_partner_39 C0 hr hk (fun hb1 H locs ls I hl => ?_) (fun hb1 H locs ls I hl => ?_) h1 I hl
    · exact ih (h2 hb1) I hl K
    · have e := h3 hb1
      cases e
      exact K H locs ls I hl
set_option maxHeartbeats 4000000 in
set_option maxRecDepth 100000 in
theorem tX3_partner_0 (C0 : CallFix p m c cX3_partner 6 s args big RX3) (hr : meth.sig.returnType = (some .int)) (hk : meth.locks = false) {x1 : Int32} {x2 : Int32} {rr : Int32}  (hf : fX3_partner S x1 x2 = some rr) (I : xI g s S H locs) (hl : lv_has ls 6 [(0, .ref (g.2.2 1)), (1, .int x1), (2, .int x2)]) : W p l e ({ frames := 1, cells := 0, slots := 0, locals := 20 } : Room) s m args below meth c H locs 0 0 (MQ below (va_Qi (fun r' S2 => r' = rr ∧ S2 = S) (xB g) (xA g)) args s 0 0 (xA g)) (F0 m 0 ls []) := by
  obtain ⟨hx, hb, hml, -, -⟩ := id C0
  unfold fX3_partner at hf
  refine lv_aload_n hx hb dX3_partner_0 rfl (lv_at hl 0 rfl) ?_
  obtain ⟨r1, h1, hf⟩ := bq1_some hf
  refine xcv_i (As := []) C0 I (kX3_corners h1) (cwV 0 C0.2.2.2.2 (gwV wd_298 wd_299 wd_300 wd_67 wd_301) rfl rfl rfl dsc_X3_corners ⟨Nat.le_of_ble_eq_true rfl, Nat.le_of_ble_eq_true rfl⟩) (xo_1 I) rfl hl.1 rfl (Nat.le_of_ble_eq_true rfl) dX3_partner_1 (fun H locs I => ?_)
  refine lv_iconst (v := 1) hx hb dX3_partner_4 (by decide) ?_
  refine lv_isub hx hb dX3_partner_5 ?_
  refine lv_istore_n (lv' := [(3, .int (r1 - (1 : Int32))), (0, .ref (g.2.2 1)), (1, .int x1), (2, .int x2)]) hx hb dX3_partner_6 rfl hl (by decide) rfl (fun ls hl => ?_)
  refine lv_iload_n hx hb dX3_partner_7 rfl (lv_at hl 3 rfl) ?_
  refine lv_if_ne (tgt := 15) hx hb dX3_partner_8 (by decide) (fun c2 => ?_) (fun c2 => ?_)
  · have hf := inn c2 hf
    refine lv_iload_n hx hb dX3_partner_15 rfl (lv_at hl 3 rfl) ?_
    refine lv_iconst (v := 2) hx hb dX3_partner_16 (by decide) ?_
    refine lv_icmp_ne (tgt := 33) hx hb dX3_partner_17 (by decide) (fun c3 => ?_) (fun c3 => ?_)
    · have hf := inn c3 hf
      refine lv_iconst (v := 0) hx hb dX3_partner_33 (by decide) ?_
      refine lv_istore (lv' := [(4, .int (0 : Int32)), (3, .int (r1 - (1 : Int32))), (0, .ref (g.2.2 1)), (1, .int x1), (2, .int x2)]) hx hb dX3_partner_34 hl (by decide) rfl (fun ls hl => ?_)
      refine lv_iconst (v := 0) hx hb dX3_partner_36 (by decide) ?_
      refine lv_istore (lv' := [(5, .int (0 : Int32)), (4, .int (0 : Int32)), (3, .int (r1 - (1 : Int32))), (0, .ref (g.2.2 1)), (1, .int x1), (2, .int x2)]) hx hb dX3_partner_37 hl (by decide) rfl (fun ls hl => ?_)
      obtain ⟨y4_5, y5_5, h5, hf⟩ := bq2_some hf
      refine lX3_partner_39 C0 hr hk fu h5 I (lv_sub hl [3, 4, 1, 0] rfl) (fun H locs ls I hl => ?_)
      refine lv_iload hx hb dX3_partner_67 (lv_at hl 2 rfl) ?_
      obtain rfl := se1 hf
      exact xri C0 hr hk I dX3_partner_69
    · have hf := ip c3 hf
      refine lv_iload_n hx hb dX3_partner_20 rfl (lv_at hl 2 rfl) ?_
      refine lv_iload_n hx hb dX3_partner_21 rfl (lv_at hl 0 rfl) ?_
      refine lv_icmp_ne (tgt := 29) hx hb dX3_partner_22 (by decide) (fun c6 => ?_) (fun c6 => ?_)
      · have hf := inn c6 hf
        refine lv_iload_n hx hb dX3_partner_29 rfl (lv_at hl 2 rfl) ?_
        refine lv_iconst (v := 1) hx hb dX3_partner_30 (by decide) ?_
        refine lv_iadd hx hb dX3_partner_31 ?_
        obtain rfl := se1 hf
        exact xri C0 hr hk I dX3_partner_32
      · have hf := ip c6 hf
        refine lv_iconst (v := 0) hx hb dX3_partner_25 (by decide) ?_
        refine lv_goto (tgt := 32) hx hb dX3_partner_26 (by decide) ?_
        obtain rfl := se1 hf
        exact xri C0 hr hk I dX3_partner_32
  · have hf := ip c2 hf
    refine lv_iload_n hx hb dX3_partner_11 rfl (lv_at hl 0 rfl) ?_
    refine lv_iload_n hx hb dX3_partner_12 rfl (lv_at hl 2 rfl) ?_
    refine lv_isub hx hb dX3_partner_13 ?_
    obtain rfl := se1 hf
    exact xri C0 hr hk I dX3_partner_14
set_option maxRecDepth 100000 in
theorem kX3_partner {x1 : Int32} {x2 : Int32} {rr : Int32} (hf : fX3_partner S x1 x2 = some rr) : Met l yX3_partner (Cond.code yX3_partner cX3_partner 6 (some .int) :: big) ({ frames := 1, cells := 0, slots := 0, locals := 20 } : Room) (va_Pc [.ref (g.2.2 1), .int x1, .int x2] (xB g S)) (va_Qi (fun r' S2 => r' = rr ∧ S2 = S) (xB g) (xA g)) 0 0 (xA g) := by
  refine Met.ofW (cc := cX3_partner) (maxL := 6) (ret := (some .int)) (by decide) rfl ?_
  intro p e s m args below meth c s₁ B hml hv
  obtain ⟨rfl, hP, hK, hD⟩ := hv
  have hts0 := atoms_spec (ws := (Cond.code yX3_partner cX3_partner 6 (some .int) :: big)) B.pre
  have C0 : CallFix p m c cX3_partner 6 s _ big RX3 := ⟨B.exec, B.bytes, hml, findClass_of_methodNamed B.named, fun w h => hts0 w (List.mem_cons_of_mem _ h)⟩
  have I : xI g s S s.heap [] := ⟨hK, hP, hD, va_S.rf⟩
  have hl := lv_entry ([.ref (g.2.2 1), .int x1, .int x2]) (n := 6) (Nat.le_of_ble_eq_true rfl)
  rw [lg_entry_eq]
  generalize (lg_sl ([.ref (g.2.2 1), .int x1, .int x2]) ++ List.replicate (6 - (lg_sl ([.ref (g.2.2 1), .int x1, .int x2])).length) Slot.unset).toArray = ls at hl ⊢
  have hl : lv_has ls 6 [(0, .ref (g.2.2 1)), (1, .int x1), (2, .int x2)] := hl
  exact tX3_partner_0 C0 B.returns B.notSynchronized hf I (lv_sub hl [0, 1, 2] rfl)
set_option maxHeartbeats 4000000 in
set_option maxRecDepth 100000 in
theorem tX6_fills_19 (C0 : CallFix p m c cX6_fills 8 s args big RX6) (hr : meth.sig.returnType = (some .int)) (hk : meth.locks = false)  {rr : Int32}  (hf : fX6_fills_19 S = some (rr, S')) (I : xI g s S H locs) (hl : lv_has ls 8 [(0, .ref (g.2.2 0))]) : W p l e ({ frames := 3, cells := 0, slots := 0, locals := 82 } : Room) s m args below meth c H locs 0 0 (MQ below (va_Qi (fun r' S2 => r' = rr ∧ S2 = S') (xB g) (xA g)) args s 0 0 (xA g)) (F0 m 19 ls []) := by
  obtain ⟨hx, hb, hml, -, -⟩ := id C0
  unfold fX6_fills_19 at hf
  refine lv_aload_n hx hb dX6_fills_19 rfl (lv_at hl 0 rfl) ?_
  refine lv_bipush (v := -2) hx hb dX6_fills_20 (by decide) ?_
  obtain ⟨r2, S2, h2, hf⟩ := bq2_some hf
  refine xcv_i (As := [.int (-2 : Int32)]) C0 I (kX6_refuse h2) (cwV 1 C0.2.2.2.2 (gwV wd_272 wd_274 wd_0 wd_66 wd_275) rfl rfl rfl dsc_X6_refuse ⟨Nat.le_of_ble_eq_true rfl, Nat.le_of_ble_eq_true rfl⟩) (xo_0 I) rfl hl.1 rfl (Nat.le_of_ble_eq_true rfl) dX6_fills_22 (fun H locs I => ?_)
  obtain ⟨rfl, rfl⟩ := se2 hf
  exact xri C0 hr hk I dX6_fills_25
set_option maxHeartbeats 4000000 in
set_option maxRecDepth 100000 in
theorem tX6_fills_110 (C0 : CallFix p m c cX6_fills 8 s args big RX6) (hr : meth.sig.returnType = (some .int)) (hk : meth.locks = false) {x1 : Int32} {x3 : Int32} {x4 : Int64} {x6 : Int32} {s0 : Int32} {b : Bool} {y4 : Int64} {y6 : Int32} (Kt : b = true → ∀ (H : Heap) (locs : List Loc) (ls : Array Slot), xI g s S' H locs → lv_has ls 8 [(0, .ref (g.2.2 0)), (1, .int x1), (3, .int x3), (4, .long y4), (6, .int y6)] → W p l e ({ frames := 3, cells := 0, slots := 0, locals := 82 } : Room) s m args below meth c H locs 0 0 Q (F0 m 60 ls [])) (Kf : b = false → ∀ (H : Heap) (locs : List Loc) (ls : Array Slot), xI g s S' H locs → lv_has ls 8 [(0, .ref (g.2.2 0)), (1, .int x1), (3, .int x3), (4, .long y4), (6, .int y6)] → W p l e ({ frames := 3, cells := 0, slots := 0, locals := 82 } : Room) s m args below meth c H locs 0 0 Q (F0 m 150 ls [])) (hf : fX6_fills_110 S x3 x4 x6 s0 = some (b, S', y4, y6)) (I : xI g s S H locs) (hl : lv_has ls 8 [(0, .ref (g.2.2 0)), (1, .int x1), (3, .int x3), (4, .long x4), (6, .int x6)]) : W p l e ({ frames := 3, cells := 0, slots := 0, locals := 82 } : Room) s m args below meth c H locs 0 0 Q (F0 m 110 ls [.int s0]) := by
  obtain ⟨hx, hb, hml, -, -⟩ := id C0
  unfold fX6_fills_110 at hf
  refine lv_istore (lv' := [(7, .int s0), (0, .ref (g.2.2 0)), (1, .int x1), (3, .int x3), (4, .long x4), (6, .int x6)]) hx hb dX6_fills_110 hl (by decide) rfl (fun ls hl => ?_)
  refine lv_aload_n hx hb dX6_fills_112 rfl (lv_at hl 1 rfl) ?_
  refine xg_X6_10_0 C0 I dX6_fills_113 ?_
  refine lv_iload hx hb dX6_fills_116 (lv_at hl 5 rfl) ?_
  refine lv_iload hx hb dX6_fills_118 (lv_at hl 0 rfl) ?_
  refine lv_lload hx hb dX6_fills_120 (lv_at hl 4 rfl) ?_
  refine lv_ldc2 (v := 65536) hx hb C0.2.2.2.1 (C0.2.2.2.2 _ wd_345) dX6_fills_122 ?_
  refine lv_ldiv hx hb dX6_fills_125 (by decide) ?_
  refine lv_iload_n hx hb dX6_fills_126 rfl (lv_at hl 3 rfl) ?_
  refine lv_i2l hx hb dX6_fills_127 rfl ?_
  obtain ⟨n11, hf⟩ := nzl_some hf
  refine lv_lrem hx hb dX6_fills_128 n11 ?_
  refine lv_l2i hx hb dX6_fills_129 rfl ?_
  refine lv_lload hx hb dX6_fills_130 (lv_at hl 4 rfl) ?_
  refine lv_ldc2 (v := 1024) hx hb C0.2.2.2.1 (C0.2.2.2.2 _ wd_346) dX6_fills_132 ?_
  refine lv_ldiv hx hb dX6_fills_135 (by decide) ?_
  refine lv_ldc2 (v := 100) hx hb C0.2.2.2.1 (C0.2.2.2.2 _ wd_347) dX6_fills_136 ?_
  refine lv_lrem hx hb dX6_fills_139 (by decide) ?_
  refine lv_l2i hx hb dX6_fills_140 rfl ?_
  obtain ⟨S12, h12, hf⟩ := bq1_some hf
  refine xcv_v (As := [.int x6, .int s0, .int (Int64.toInt32 ((x4 / (65536 : Int64)) - (x4 / (65536 : Int64)) / (Int32.toInt64 x3) * (Int32.toInt64 x3))), .int (Int64.toInt32 ((x4 / (1024 : Int64)) - (x4 / (1024 : Int64)) / (100 : Int64) * (100 : Int64)))]) C0 I (kX3_add h12) (cwV 4 C0.2.2.2.2 (gwV wd_302 wd_303 wd_304 wd_67 wd_305) rfl rfl rfl dsc_X3_add ⟨Nat.le_of_ble_eq_true rfl, Nat.le_of_ble_eq_true rfl⟩) (xo_1 I) rfl hl.1 rfl (Nat.le_of_ble_eq_true rfl) dX6_fills_141 (fun H locs I => ?_)
  refine lv_iinc (v := (x6 + (1 : Int32))) (lv' := [(6, .int (x6 + (1 : Int32))), (7, .int s0), (0, .ref (g.2.2 0)), (1, .int x1), (3, .int x3), (4, .long x4)]) hx hb dX6_fills_144 hl (k := 5) rfl rfl (by decide) rfl (fun ls hl => ?_)
  refine lv_goto (tgt := 60) hx hb dX6_fills_147 (by decide) ?_
  obtain ⟨rfl, rfl, rfl, rfl⟩ := se4 hf
  exact Kt rfl _ _ _ I (lv_sub hl [2, 3, 4, 5, 0] rfl)
set_option maxHeartbeats 4000000 in
set_option maxRecDepth 100000 in
theorem BX6_fills_60 (C0 : CallFix p m c cX6_fills 8 s args big RX6) (hr : meth.sig.returnType = (some .int)) (hk : meth.locks = false) {x1 : Int32} {x3 : Int32} {x4 : Int64} {x6 : Int32} {b : Bool} {y4 : Int64} {y6 : Int32} (Kt : b = true → ∀ (H : Heap) (locs : List Loc) (ls : Array Slot), xI g s S' H locs → lv_has ls 8 [(0, .ref (g.2.2 0)), (1, .int x1), (3, .int x3), (4, .long y4), (6, .int y6)] → W p l e ({ frames := 3, cells := 0, slots := 0, locals := 82 } : Room) s m args below meth c H locs 0 0 Q (F0 m 60 ls [])) (Kf : b = false → ∀ (H : Heap) (locs : List Loc) (ls : Array Slot), xI g s S' H locs → lv_has ls 8 [(0, .ref (g.2.2 0)), (1, .int x1), (3, .int x3), (4, .long y4), (6, .int y6)] → W p l e ({ frames := 3, cells := 0, slots := 0, locals := 82 } : Room) s m args below meth c H locs 0 0 Q (F0 m 150 ls [])) (hf : bX6_fills_60 x1 x3 S x4 x6 = some (b, S', y4, y6)) (I : xI g s S H locs) (hl : lv_has ls 8 [(0, .ref (g.2.2 0)), (1, .int x1), (3, .int x3), (4, .long x4), (6, .int x6)]) : W p l e ({ frames := 3, cells := 0, slots := 0, locals := 82 } : Room) s m args below meth c H locs 0 0 Q (F0 m 60 ls []) := by
  obtain ⟨hx, hb, hml, -, -⟩ := id C0
  unfold bX6_fills_60 at hf
  refine lv_iload hx hb dX6_fills_60 (lv_at hl 4 rfl) ?_
  refine lv_iload_n hx hb dX6_fills_62 rfl (lv_at hl 2 rfl) ?_
  refine lv_icmp_ge (tgt := 150) hx hb dX6_fills_63 (by decide) (fun c8 => ?_) (fun c8 => ?_)
  · have hf := ip c8 hf
    obtain ⟨rfl, rfl, rfl, rfl⟩ := se4 hf
    exact Kf rfl _ _ _ I (lv_sub hl [0, 1, 2, 3, 4] rfl)
  · have hf := inn c8 hf
    refine lv_lload hx hb dX6_fills_66 (lv_at hl 3 rfl) ?_
    refine lv_ldc2 (v := 1103515245) hx hb C0.2.2.2.1 (C0.2.2.2.2 _ wd_337) dX6_fills_68 ?_
    refine lv_lmul hx hb dX6_fills_71 ?_
    refine lv_ldc2 (v := 12345) hx hb C0.2.2.2.1 (C0.2.2.2.2 _ wd_338) dX6_fills_72 ?_
    refine lv_ladd hx hb dX6_fills_75 ?_
    refine lv_ldc2 (v := 2147483648) hx hb C0.2.2.2.1 (C0.2.2.2.2 _ wd_339) dX6_fills_76 ?_
    refine lv_lrem hx hb dX6_fills_79 (by decide) ?_
    refine lv_lstore (lv' := [(4, .long (((x4 * (1103515245 : Int64)) + (12345 : Int64)) - ((x4 * (1103515245 : Int64)) + (12345 : Int64)) / (2147483648 : Int64) * (2147483648 : Int64))), (0, .ref (g.2.2 0)), (1, .int x1), (3, .int x3), (6, .int x6)]) hx hb dX6_fills_80 hl (by decide) rfl (fun ls hl => ?_)
    refine lv_iload_n hx hb dX6_fills_82 rfl (lv_at hl 2 rfl) ?_
    refine lv_iconst (v := 3) hx hb dX6_fills_83 (by decide) ?_
    refine lv_icmp_ne (tgt := 100) hx hb dX6_fills_84 (by decide) (fun c9 => ?_) (fun c9 => ?_)
    · have hf := inn c9 hf
      refine lv_aload_n hx hb dX6_fills_100 rfl (lv_at hl 1 rfl) ?_
      refine xg_X6_10_0 C0 I dX6_fills_101 ?_
      refine lv_iload hx hb dX6_fills_104 (lv_at hl 4 rfl) ?_
      refine lv_iload_n hx hb dX6_fills_106 rfl (lv_at hl 2 rfl) ?_
      obtain ⟨r10, h10, hf⟩ := bq1_some hf
      refine xcv_i (As := [.int x6, .int x1]) C0 I (kX3_partner h10) (cwV 2 C0.2.2.2.2 (gwV wd_341 wd_342 wd_343 wd_67 wd_344) rfl rfl rfl dsc_X3_partner ⟨Nat.le_of_ble_eq_true rfl, Nat.le_of_ble_eq_true rfl⟩) (xo_1 I) rfl hl.1 rfl (Nat.le_of_ble_eq_true rfl) dX6_fills_107 (fun H locs I => ?_)
      exact tX6_fills_110 C0 hr hk Kt Kf hf I (lv_sub hl [1, 2, 3, 0, 4] rfl)
    · have hf := ip c9 hf
      refine lv_lload hx hb dX6_fills_87 (lv_at hl 0 rfl) ?_
      refine lv_ldc2 (v := 32768) hx hb C0.2.2.2.1 (C0.2.2.2.2 _ wd_340) dX6_fills_89 ?_
      refine lv_ldiv hx hb dX6_fills_92 (by decide) ?_
      refine lv_iload_n hx hb dX6_fills_93 rfl (lv_at hl 3 rfl) ?_
      refine lv_i2l hx hb dX6_fills_94 rfl ?_
      obtain ⟨n13, hf⟩ := nzl_some hf
      refine lv_lrem hx hb dX6_fills_95 n13 ?_
      refine lv_l2i hx hb dX6_fills_96 rfl ?_
      refine lv_goto (tgt := 110) hx hb dX6_fills_97 (by decide) ?_
      exact tX6_fills_110 C0 hr hk Kt Kf hf I (lv_sub hl [1, 2, 3, 0, 4] rfl)
set_option maxHeartbeats 4000000 in
theorem lX6_fills_60 (C0 : CallFix p m c cX6_fills 8 s args big RX6) (hr : meth.sig.returnType = (some .int)) (hk : meth.locks = false) {x1 : Int32} {x3 : Int32} {S' : St} {y4 : Int64} {y6 : Int32} : ∀ (n : Nat) {S : St} {x4 : Int64} {x6 : Int32}, lp (fun q => bX6_fills_60 x1 x3 q.1 q.2.1 q.2.2) n (S, x4, x6) = some (S', y4, y6) → ∀ {H : Heap} {locs : List Loc}, xI g s S H locs → ∀ {ls : Array Slot}, lv_has ls 8 [(0, .ref (g.2.2 0)), (1, .int x1), (3, .int x3), (4, .long x4), (6, .int x6)] → (∀ (H : Heap) (locs : List Loc) (ls : Array Slot), xI g s S' H locs → lv_has ls 8 [(0, .ref (g.2.2 0)), (1, .int x1), (3, .int x3), (4, .long y4), (6, .int y6)] → W p l e ({ frames := 3, cells := 0, slots := 0, locals := 82 } : Room) s m args below meth c H locs 0 0 Q (F0 m 150 ls [])) → W p l e ({ frames := 3, cells := 0, slots := 0, locals := 82 } : Room) s m args below meth c H locs 0 0 Q (F0 m 60 ls []) := by
  intro n
  induction n with
  | zero => intro S x4 x6 hf; cases hf
  | succ n ih =>
    intro S x4 x6 hf H locs I ls hl K
    obtain ⟨b, ⟨z0, z1, z2⟩, h1, h2, h3⟩ := lp_some hf
    refine BX6_fills_60 C0 hr hk (fun hb1 H locs ls I hl => ?_) (fun hb1 H locs ls I hl => ?_) h1 I hl
    · exact ih (h2 hb1) I hl K
    · have e := h3 hb1
      cases e
      exact K H locs ls I hl
set_option maxHeartbeats 4000000 in
set_option maxRecDepth 100000 in
theorem tX6_fills_0 (C0 : CallFix p m c cX6_fills 8 s args big RX6) (hr : meth.sig.returnType = (some .int)) (hk : meth.locks = false) {x1 : Int32} {x2 : Int32} {rr : Int32}  (hf : fX6_fills S x1 x2 = some (rr, S')) (I : xI g s S H locs) (hl : lv_has ls 8 [(0, .ref (g.2.2 0)), (1, .int x1), (2, .int x2)]) : W p l e ({ frames := 3, cells := 0, slots := 0, locals := 82 } : Room) s m args below meth c H locs 0 0 (MQ below (va_Qi (fun r' S2 => r' = rr ∧ S2 = S') (xB g) (xA g)) args s 0 0 (xA g)) (F0 m 0 ls []) := by
  obtain ⟨hx, hb, hml, -, -⟩ := id C0
  unfold fX6_fills at hf
  refine lv_iload_n hx hb dX6_fills_0 rfl (lv_at hl 1 rfl) ?_
  refine lv_if_lt (tgt := 19) hx hb dX6_fills_1 (by decide) (fun c1 => ?_) (fun c1 => ?_)
  · have hf := ip c1 hf
    exact tX6_fills_19 C0 hr hk hf I (lv_sub hl [0] rfl)
  · have hf := inn c1 hf
    refine lv_iload_n hx hb dX6_fills_4 rfl (lv_at hl 1 rfl) ?_
    refine lv_iconst (v := 3) hx hb dX6_fills_5 (by decide) ?_
    refine lv_icmp_gt (tgt := 19) hx hb dX6_fills_6 (by decide) (fun c3 => ?_) (fun c3 => ?_)
    · have hf := ip c3 hf
      exact tX6_fills_19 C0 hr hk hf I (lv_sub hl [0] rfl)
    · have hf := inn c3 hf
      refine lv_iload_n hx hb dX6_fills_9 rfl (lv_at hl 2 rfl) ?_
      refine lv_if_lt (tgt := 19) hx hb dX6_fills_10 (by decide) (fun c4 => ?_) (fun c4 => ?_)
      · have hf := ip c4 hf
        exact tX6_fills_19 C0 hr hk hf I (lv_sub hl [0] rfl)
      · have hf := inn c4 hf
        refine lv_iload_n hx hb dX6_fills_13 rfl (lv_at hl 2 rfl) ?_
        refine lv_ldc (v := 999999) hx hb C0.2.2.2.1 (C0.2.2.2.2 _ wd_335) dX6_fills_14 ?_
        refine lv_icmp_le (tgt := 26) hx hb dX6_fills_16 (by decide) (fun c5 => ?_) (fun c5 => ?_)
        · have hf := ip c5 hf
          refine lv_aload_n hx hb dX6_fills_26 rfl (lv_at hl 0 rfl) ?_
          refine xg_X6_19_0 C0 I dX6_fills_27 ?_
          refine lv_aload_n hx hb dX6_fills_30 rfl (lv_at hl 0 rfl) ?_
          refine xg_X6_10_0 C0 I dX6_fills_31 ?_
          obtain ⟨S6, h6, hf⟩ := bq1_some hf
          refine xcv_v (As := [.ref (g.2.2 1)]) C0 I (kX0_keep h6) (cwV 1 C0.2.2.2.2 (gwV wd_276 wd_277 wd_278 wd_68 wd_279) rfl rfl rfl dsc_X0_keep ⟨Nat.le_of_ble_eq_true rfl, Nat.le_of_ble_eq_true rfl⟩) (xo_3 I) rfl hl.1 rfl (Nat.le_of_ble_eq_true rfl) dX6_fills_34 (fun H locs I => ?_)
          refine lv_aload_n hx hb dX6_fills_37 rfl (lv_at hl 0 rfl) ?_
          refine xg_X6_10_0 C0 I dX6_fills_38 ?_
          refine lv_iconst (v := 0) hx hb dX6_fills_41 (by decide) ?_
          refine xp_X6_73_1 C0 I dX6_fills_42 (fun H locs I => ?_)
          refine lv_aload_n hx hb dX6_fills_45 rfl (lv_at hl 0 rfl) ?_
          refine xg_X6_10_0 C0 I dX6_fills_46 ?_
          obtain ⟨r7, h7, hf⟩ := bq1_some hf
          refine xcv_i (As := []) C0 I (kX3_corners h7) (cwV 0 C0.2.2.2.2 (gwV wd_336 wd_299 wd_300 wd_67 wd_301) rfl rfl rfl dsc_X3_corners ⟨Nat.le_of_ble_eq_true rfl, Nat.le_of_ble_eq_true rfl⟩) (xo_1 I) rfl hl.1 rfl (Nat.le_of_ble_eq_true rfl) dX6_fills_49 (fun H locs I => ?_)
          refine lv_istore_n (lv' := [(3, .int r7), (0, .ref (g.2.2 0)), (1, .int x1), (2, .int x2)]) hx hb dX6_fills_52 rfl hl (by decide) rfl (fun ls hl => ?_)
          refine lv_iload_n hx hb dX6_fills_53 rfl (lv_at hl 3 rfl) ?_
          refine lv_i2l hx hb dX6_fills_54 rfl ?_
          refine lv_lstore (lv' := [(4, .long (Int32.toInt64 x2)), (3, .int r7), (0, .ref (g.2.2 0)), (1, .int x1), (2, .int x2)]) hx hb dX6_fills_55 hl (by decide) rfl (fun ls hl => ?_)
          refine lv_iconst (v := 0) hx hb dX6_fills_57 (by decide) ?_
          refine lv_istore (lv' := [(6, .int (0 : Int32)), (4, .long (Int32.toInt64 x2)), (3, .int r7), (0, .ref (g.2.2 0)), (1, .int x1), (2, .int x2)]) hx hb dX6_fills_58 hl (by decide) rfl (fun ls hl => ?_)
          obtain ⟨S14, y4_14, y6_14, h14, hf⟩ := bq3_some hf
          refine lX6_fills_60 C0 hr hk fu h14 I (lv_sub hl [3, 4, 2, 1, 0] rfl) (fun H locs ls I hl => ?_)
          refine lv_aload_n hx hb dX6_fills_150 rfl (lv_at hl 0 rfl) ?_
          refine xg_X6_10_0 C0 I dX6_fills_151 ?_
          refine xg_X6_73_1 C0 I dX6_fills_154 ?_
          obtain ⟨rfl, rfl⟩ := se2 hf
          exact xri C0 hr hk I dX6_fills_157
        · have hf := inn c5 hf
          exact tX6_fills_19 C0 hr hk hf I (lv_sub hl [0] rfl)
set_option maxRecDepth 100000 in
theorem kX6_fills {x1 : Int32} {x2 : Int32} {rr : Int32} (hf : fX6_fills S x1 x2 = some (rr, S')) : Met l yX6_fills (Cond.code yX6_fills cX6_fills 8 (some .int) :: big) ({ frames := 3, cells := 0, slots := 0, locals := 82 } : Room) (va_Pc [.ref (g.2.2 0), .int x1, .int x2] (xB g S)) (va_Qi (fun r' S2 => r' = rr ∧ S2 = S') (xB g) (xA g)) 0 0 (xA g) := by
  refine Met.ofW (cc := cX6_fills) (maxL := 8) (ret := (some .int)) (by decide) rfl ?_
  intro p e s m args below meth c s₁ B hml hv
  obtain ⟨rfl, hP, hK, hD⟩ := hv
  have hts0 := atoms_spec (ws := (Cond.code yX6_fills cX6_fills 8 (some .int) :: big)) B.pre
  have C0 : CallFix p m c cX6_fills 8 s _ big RX6 := ⟨B.exec, B.bytes, hml, findClass_of_methodNamed B.named, fun w h => hts0 w (List.mem_cons_of_mem _ h)⟩
  have I : xI g s S s.heap [] := ⟨hK, hP, hD, va_S.rf⟩
  have hl := lv_entry ([.ref (g.2.2 0), .int x1, .int x2]) (n := 8) (Nat.le_of_ble_eq_true rfl)
  rw [lg_entry_eq]
  generalize (lg_sl ([.ref (g.2.2 0), .int x1, .int x2]) ++ List.replicate (8 - (lg_sl ([.ref (g.2.2 0), .int x1, .int x2])).length) Slot.unset).toArray = ls at hl ⊢
  have hl : lv_has ls 8 [(0, .ref (g.2.2 0)), (1, .int x1), (2, .int x2)] := hl
  exact tX6_fills_0 C0 B.returns B.notSynchronized hf I (lv_sub hl [0, 1, 2] rfl)
set_option maxHeartbeats 4000000 in
set_option maxRecDepth 100000 in
theorem tX5_addLeg_36 (C0 : CallFix p m c cX5_addLeg 10 s args big RX5) (hr : meth.sig.returnType = none) (hk : meth.locks = false) {x2 : Int32} {x4 : Int32} {x5 : Int32} {x6 : Int32} {s0 : Int32} {b : Bool} {y5 : Int32} {y6 : Int32} (Kt : b = true → ∀ (H : Heap) (locs : List Loc) (ls : Array Slot), xI g s S' H locs → lv_has ls 10 [(0, .ref (g.2.2 17)), (1, .ref (g.2.2 1)), (2, .int x2), (4, .int x4), (5, .int y5), (6, .int y6)] → W p l e ({ frames := 0, cells := 0, slots := 0, locals := 0 } : Room) s m args below meth c H locs 0 0 Q (F0 m 6 ls [])) (Kf : b = false → ∀ (H : Heap) (locs : List Loc) (ls : Array Slot), xI g s S' H locs → lv_has ls 10 [(0, .ref (g.2.2 17)), (1, .ref (g.2.2 1)), (2, .int x2), (4, .int x4), (5, .int y5), (6, .int y6)] → W p l e ({ frames := 0, cells := 0, slots := 0, locals := 0 } : Room) s m args below meth c H locs 0 0 Q (F0 m 118 ls [])) (hf : fX5_addLeg_36 S x2 x4 x5 x6 s0 = some (b, S', y5, y6)) (I : xI g s S H locs) (hl : lv_has ls 10 [(0, .ref (g.2.2 17)), (1, .ref (g.2.2 1)), (2, .int x2), (4, .int x4), (5, .int x5), (6, .int x6)]) : W p l e ({ frames := 0, cells := 0, slots := 0, locals := 0 } : Room) s m args below meth c H locs 0 0 Q (F0 m 36 ls [.int s0]) := by
  obtain ⟨hx, hb, hml, -, -⟩ := id C0
  unfold fX5_addLeg_36 at hf
  refine lv_istore (lv' := [(7, .int s0), (0, .ref (g.2.2 17)), (1, .ref (g.2.2 1)), (2, .int x2), (4, .int x4), (5, .int x5), (6, .int x6)]) hx hb dX5_addLeg_36 hl (by decide) rfl (fun ls hl => ?_)
  refine lv_iconst (v := 1) hx hb dX5_addLeg_38 (by decide) ?_
  refine lv_iload hx hb dX5_addLeg_39 (lv_at hl 0 rfl) ?_
  refine lv_ishl hx hb dX5_addLeg_41 ?_
  refine lv_istore (lv' := [(8, .int ((1 : Int32) <<< (s0 &&& (31 : Int32)))), (7, .int s0), (0, .ref (g.2.2 17)), (1, .ref (g.2.2 1)), (2, .int x2), (4, .int x4), (5, .int x5), (6, .int x6)]) hx hb dX5_addLeg_42 hl (by decide) rfl (fun ls hl => ?_)
  refine lv_iload hx hb dX5_addLeg_44 (lv_at hl 6 rfl) ?_
  refine lv_iload hx hb dX5_addLeg_46 (lv_at hl 5 rfl) ?_
  refine lv_ixor hx hb dX5_addLeg_48 ?_
  refine lv_iload hx hb dX5_addLeg_49 (lv_at hl 0 rfl) ?_
  refine lv_iand hx hb dX5_addLeg_51 ?_
  refine lv_if_eq (tgt := 112) hx hb dX5_addLeg_52 (by decide) (fun c3 => ?_) (fun c3 => ?_)
  · have hf := ip c3 hf
    refine lv_iinc (v := (x6 + (1 : Int32))) (lv' := [(6, .int (x6 + (1 : Int32))), (8, .int ((1 : Int32) <<< (s0 &&& (31 : Int32)))), (7, .int s0), (0, .ref (g.2.2 17)), (1, .ref (g.2.2 1)), (2, .int x2), (4, .int x4), (5, .int x5)]) hx hb dX5_addLeg_112 hl (k := 7) rfl rfl (by decide) rfl (fun ls hl => ?_)
    refine lv_goto (tgt := 6) hx hb dX5_addLeg_115 (by decide) ?_
    obtain ⟨rfl, rfl, rfl, rfl⟩ := se4 hf
    exact Kt rfl _ _ _ I (lv_sub hl [3, 4, 5, 6, 7, 0] rfl)
  · have hf := inn c3 hf
    refine lv_iload hx hb dX5_addLeg_55 (lv_at hl 6 rfl) ?_
    refine lv_iconst (v := 4) hx hb dX5_addLeg_57 (by decide) ?_
    refine lv_imul hx hb dX5_addLeg_58 ?_
    refine lv_iload hx hb dX5_addLeg_59 (lv_at hl 1 rfl) ?_
    refine lv_iadd hx hb dX5_addLeg_61 ?_
    refine lv_istore (lv' := [(9, .int ((x5 * (4 : Int32)) + s0)), (8, .int ((1 : Int32) <<< (s0 &&& (31 : Int32)))), (7, .int s0), (0, .ref (g.2.2 17)), (1, .ref (g.2.2 1)), (2, .int x2), (4, .int x4), (5, .int x5), (6, .int x6)]) hx hb dX5_addLeg_62 hl (by decide) rfl (fun ls hl => ?_)
    refine lv_aload_n hx hb dX5_addLeg_64 rfl (lv_at hl 3 rfl) ?_
    refine xg_X5_18_17 C0 I dX5_addLeg_65 ?_
    refine lv_iload_n hx hb dX5_addLeg_68 rfl (lv_at hl 5 rfl) ?_
    refine lv_bipush (v := 8) hx hb dX5_addLeg_69 (by decide) ?_
    refine lv_imul hx hb dX5_addLeg_71 ?_
    refine lv_aload_n hx hb dX5_addLeg_72 rfl (lv_at hl 3 rfl) ?_
    refine xg_X5_9_17 C0 I dX5_addLeg_73 ?_
    refine lv_iload_n hx hb dX5_addLeg_76 rfl (lv_at hl 5 rfl) ?_
    obtain ⟨b4, hf⟩ := chk_some hf
    refine xl_18 hx hb I b4 dX5_addLeg_77 ?_
    refine lv_iadd hx hb dX5_addLeg_78 ?_
    refine lv_iload hx hb dX5_addLeg_79 (lv_at hl 0 rfl) ?_
    obtain ⟨b5, hf⟩ := chk_some hf
    refine xs_20 hx hb I b5 dX5_addLeg_81 (fun H locs I => ?_)
    refine lv_aload_n hx hb dX5_addLeg_82 rfl (lv_at hl 3 rfl) ?_
    refine xg_X5_21_17 C0 I dX5_addLeg_83 ?_
    refine lv_iload_n hx hb dX5_addLeg_86 rfl (lv_at hl 5 rfl) ?_
    refine lv_dup2_11 hx hb dX5_addLeg_87 rfl rfl ?_
    obtain ⟨b6, hf⟩ := chk_some hf
    refine xl_21 hx hb I b6 dX5_addLeg_88 ?_
    refine lv_lconst (v := 1) hx hb dX5_addLeg_89 (by decide) ?_
    refine lv_iload hx hb dX5_addLeg_90 (lv_at hl 0 rfl) ?_
    refine lv_lshl hx hb dX5_addLeg_92 rfl ?_
    refine lv_lor hx hb dX5_addLeg_93 ?_
    obtain ⟨b7, hf⟩ := chk_some hf
    refine xs_21 hx hb I b7 dX5_addLeg_94 (fun H locs I => ?_)
    refine lv_aload_n hx hb dX5_addLeg_95 rfl (lv_at hl 3 rfl) ?_
    refine xg_X5_9_17 C0 I dX5_addLeg_96 ?_
    refine lv_iload_n hx hb dX5_addLeg_99 rfl (lv_at hl 5 rfl) ?_
    refine lv_dup2_11 hx hb dX5_addLeg_100 rfl rfl ?_
    obtain ⟨b8, hf⟩ := chk_some hf
    refine xl_18 hx hb I b8 dX5_addLeg_101 ?_
    refine lv_iconst (v := 1) hx hb dX5_addLeg_102 (by decide) ?_
    refine lv_iadd hx hb dX5_addLeg_103 ?_
    obtain ⟨b9, hf⟩ := chk_some hf
    refine xs_18 hx hb I b9 dX5_addLeg_104 (fun H locs I => ?_)
    refine lv_iload hx hb dX5_addLeg_105 (lv_at hl 7 rfl) ?_
    refine lv_iload hx hb dX5_addLeg_107 (lv_at hl 1 rfl) ?_
    refine lv_ixor hx hb dX5_addLeg_109 ?_
    refine lv_istore (lv' := [(5, .int (x5 ^^^ ((1 : Int32) <<< (s0 &&& (31 : Int32))))), (9, .int ((x5 * (4 : Int32)) + s0)), (8, .int ((1 : Int32) <<< (s0 &&& (31 : Int32)))), (7, .int s0), (0, .ref (g.2.2 17)), (1, .ref (g.2.2 1)), (2, .int x2), (4, .int x4), (6, .int x6)]) hx hb dX5_addLeg_110 hl (by decide) rfl (fun ls hl => ?_)
    refine lv_iinc (v := (x6 + (1 : Int32))) (lv' := [(6, .int (x6 + (1 : Int32))), (5, .int (x5 ^^^ ((1 : Int32) <<< (s0 &&& (31 : Int32))))), (9, .int ((x5 * (4 : Int32)) + s0)), (8, .int ((1 : Int32) <<< (s0 &&& (31 : Int32)))), (7, .int s0), (0, .ref (g.2.2 17)), (1, .ref (g.2.2 1)), (2, .int x2), (4, .int x4)]) hx hb dX5_addLeg_112 hl (k := 8) rfl rfl (by decide) rfl (fun ls hl => ?_)
    refine lv_goto (tgt := 6) hx hb dX5_addLeg_115 (by decide) ?_
    obtain ⟨rfl, rfl, rfl, rfl⟩ := se4 hf
    exact Kt rfl _ _ _ I (lv_sub hl [5, 6, 7, 8, 1, 0] rfl)
set_option maxHeartbeats 4000000 in
set_option maxRecDepth 100000 in
theorem BX5_addLeg_6 (C0 : CallFix p m c cX5_addLeg 10 s args big RX5) (hr : meth.sig.returnType = none) (hk : meth.locks = false) {x2 : Int32} {x4 : Int32} {x5 : Int32} {x6 : Int32} {b : Bool} {y5 : Int32} {y6 : Int32} (Kt : b = true → ∀ (H : Heap) (locs : List Loc) (ls : Array Slot), xI g s S' H locs → lv_has ls 10 [(0, .ref (g.2.2 17)), (1, .ref (g.2.2 1)), (2, .int x2), (4, .int x4), (5, .int y5), (6, .int y6)] → W p l e ({ frames := 0, cells := 0, slots := 0, locals := 0 } : Room) s m args below meth c H locs 0 0 Q (F0 m 6 ls [])) (Kf : b = false → ∀ (H : Heap) (locs : List Loc) (ls : Array Slot), xI g s S' H locs → lv_has ls 10 [(0, .ref (g.2.2 17)), (1, .ref (g.2.2 1)), (2, .int x2), (4, .int x4), (5, .int y5), (6, .int y6)] → W p l e ({ frames := 0, cells := 0, slots := 0, locals := 0 } : Room) s m args below meth c H locs 0 0 Q (F0 m 118 ls [])) (hf : bX5_addLeg_6 x2 x4 S x5 x6 = some (b, S', y5, y6)) (I : xI g s S H locs) (hl : lv_has ls 10 [(0, .ref (g.2.2 17)), (1, .ref (g.2.2 1)), (2, .int x2), (4, .int x4), (5, .int x5), (6, .int x6)]) : W p l e ({ frames := 0, cells := 0, slots := 0, locals := 0 } : Room) s m args below meth c H locs 0 0 Q (F0 m 6 ls []) := by
  obtain ⟨hx, hb, hml, -, -⟩ := id C0
  unfold bX5_addLeg_6 at hf
  refine lv_iload hx hb dX5_addLeg_6 (lv_at hl 5 rfl) ?_
  refine lv_aload_n hx hb dX5_addLeg_8 rfl (lv_at hl 1 rfl) ?_
  refine xg_X5_43_1 C0 I dX5_addLeg_9 ?_
  refine lv_icmp_ge (tgt := 118) hx hb dX5_addLeg_12 (by decide) (fun c1 => ?_) (fun c1 => ?_)
  · have hf := ip c1 hf
    obtain ⟨rfl, rfl, rfl, rfl⟩ := se4 hf
    exact Kf rfl _ _ _ I (lv_sub hl [0, 1, 2, 3, 4, 5] rfl)
  · have hf := inn c1 hf
    refine lv_aload_n hx hb dX5_addLeg_15 rfl (lv_at hl 1 rfl) ?_
    refine xg_X5_46_1 C0 I dX5_addLeg_16 ?_
    refine lv_if_ne (tgt := 27) hx hb dX5_addLeg_19 (by decide) (fun c2 => ?_) (fun c2 => ?_)
    · have hf := inn c2 hf
      refine lv_aload_n hx hb dX5_addLeg_27 rfl (lv_at hl 1 rfl) ?_
      refine xg_X5_43_1 C0 I dX5_addLeg_28 ?_
      refine lv_iconst (v := 1) hx hb dX5_addLeg_31 (by decide) ?_
      refine lv_isub hx hb dX5_addLeg_32 ?_
      refine lv_iload hx hb dX5_addLeg_33 (lv_at hl 5 rfl) ?_
      refine lv_isub hx hb dX5_addLeg_35 ?_
      exact tX5_addLeg_36 C0 hr hk Kt Kf hf I (lv_sub hl [0, 1, 2, 3, 4, 5] rfl)
    · have hf := ip c2 hf
      refine lv_iload hx hb dX5_addLeg_22 (lv_at hl 5 rfl) ?_
      refine lv_goto (tgt := 36) hx hb dX5_addLeg_24 (by decide) ?_
      exact tX5_addLeg_36 C0 hr hk Kt Kf hf I (lv_sub hl [0, 1, 2, 3, 4, 5] rfl)
set_option maxHeartbeats 4000000 in
theorem lX5_addLeg_6 (C0 : CallFix p m c cX5_addLeg 10 s args big RX5) (hr : meth.sig.returnType = none) (hk : meth.locks = false) {x2 : Int32} {x4 : Int32} {S' : St} {y5 : Int32} {y6 : Int32} : ∀ (n : Nat) {S : St} {x5 : Int32} {x6 : Int32}, lp (fun q => bX5_addLeg_6 x2 x4 q.1 q.2.1 q.2.2) n (S, x5, x6) = some (S', y5, y6) → ∀ {H : Heap} {locs : List Loc}, xI g s S H locs → ∀ {ls : Array Slot}, lv_has ls 10 [(0, .ref (g.2.2 17)), (1, .ref (g.2.2 1)), (2, .int x2), (4, .int x4), (5, .int x5), (6, .int x6)] → (∀ (H : Heap) (locs : List Loc) (ls : Array Slot), xI g s S' H locs → lv_has ls 10 [(0, .ref (g.2.2 17)), (1, .ref (g.2.2 1)), (2, .int x2), (4, .int x4), (5, .int y5), (6, .int y6)] → W p l e ({ frames := 0, cells := 0, slots := 0, locals := 0 } : Room) s m args below meth c H locs 0 0 Q (F0 m 118 ls [])) → W p l e ({ frames := 0, cells := 0, slots := 0, locals := 0 } : Room) s m args below meth c H locs 0 0 Q (F0 m 6 ls []) := by
  intro n
  induction n with
  | zero => intro S x5 x6 hf; cases hf
  | succ n ih =>
    intro S x5 x6 hf H locs I ls hl K
    obtain ⟨b, ⟨z0, z1, z2⟩, h1, h2, h3⟩ := lp_some hf
    refine BX5_addLeg_6 C0 hr hk (fun hb1 H locs ls I hl => ?_) (fun hb1 H locs ls I hl => ?_) h1 I hl
    · exact ih (h2 hb1) I hl K
    · have e := h3 hb1
      cases e
      exact K H locs ls I hl
set_option maxHeartbeats 4000000 in
set_option maxRecDepth 100000 in
theorem tX5_addLeg_0 (C0 : CallFix p m c cX5_addLeg 10 s args big RX5) (hr : meth.sig.returnType = none) (hk : meth.locks = false) {x2 : Int32} {x3 : Int32} {x4 : Int32}  (hf : fX5_addLeg S x2 x3 x4 = some S') (I : xI g s S H locs) (hl : lv_has ls 10 [(0, .ref (g.2.2 17)), (1, .ref (g.2.2 1)), (2, .int x2), (3, .int x3), (4, .int x4)]) : W p l e ({ frames := 0, cells := 0, slots := 0, locals := 0 } : Room) s m args below meth c H locs 0 0 (MQ below (va_Qv (fun S2 => S2 = S') (xB g) (xA g)) args s 0 0 (xA g)) (F0 m 0 ls []) := by
  obtain ⟨hx, hb, hml, -, -⟩ := id C0
  unfold fX5_addLeg at hf
  refine lv_iload_n hx hb dX5_addLeg_0 rfl (lv_at hl 3 rfl) ?_
  refine lv_istore (lv' := [(5, .int x3), (0, .ref (g.2.2 17)), (1, .ref (g.2.2 1)), (2, .int x2), (3, .int x3), (4, .int x4)]) hx hb dX5_addLeg_1 hl (by decide) rfl (fun ls hl => ?_)
  refine lv_iconst (v := 0) hx hb dX5_addLeg_3 (by decide) ?_
  refine lv_istore (lv' := [(6, .int (0 : Int32)), (5, .int x3), (0, .ref (g.2.2 17)), (1, .ref (g.2.2 1)), (2, .int x2), (3, .int x3), (4, .int x4)]) hx hb dX5_addLeg_4 hl (by decide) rfl (fun ls hl => ?_)
  obtain ⟨S10, y5_10, y6_10, h10, hf⟩ := bq3_some hf
  refine lX5_addLeg_6 C0 hr hk fu h10 I (lv_sub hl [2, 3, 4, 6, 1, 0] rfl) (fun H locs ls I hl => ?_)
  obtain rfl := se1 hf
  exact xrv C0 hr hk I dX5_addLeg_118
set_option maxRecDepth 100000 in
theorem kX5_addLeg {x2 : Int32} {x3 : Int32} {x4 : Int32}  (hf : fX5_addLeg S x2 x3 x4 = some S') : Met l yX5_addLeg (Cond.code yX5_addLeg cX5_addLeg 10 none :: big) ({ frames := 0, cells := 0, slots := 0, locals := 0 } : Room) (va_Pc [.ref (g.2.2 17), .ref (g.2.2 1), .int x2, .int x3, .int x4] (xB g S)) (va_Qv (fun S2 => S2 = S') (xB g) (xA g)) 0 0 (xA g) := by
  refine Met.ofW (cc := cX5_addLeg) (maxL := 10) (ret := none) (by decide) rfl ?_
  intro p e s m args below meth c s₁ B hml hv
  obtain ⟨rfl, hP, hK, hD⟩ := hv
  have hts0 := atoms_spec (ws := (Cond.code yX5_addLeg cX5_addLeg 10 none :: big)) B.pre
  have C0 : CallFix p m c cX5_addLeg 10 s _ big RX5 := ⟨B.exec, B.bytes, hml, findClass_of_methodNamed B.named, fun w h => hts0 w (List.mem_cons_of_mem _ h)⟩
  have I : xI g s S s.heap [] := ⟨hK, hP, hD, va_S.rf⟩
  have hl := lv_entry ([.ref (g.2.2 17), .ref (g.2.2 1), .int x2, .int x3, .int x4]) (n := 10) (Nat.le_of_ble_eq_true rfl)
  rw [lg_entry_eq]
  generalize (lg_sl ([.ref (g.2.2 17), .ref (g.2.2 1), .int x2, .int x3, .int x4]) ++ List.replicate (10 - (lg_sl ([.ref (g.2.2 17), .ref (g.2.2 1), .int x2, .int x3, .int x4])).length) Slot.unset).toArray = ls at hl ⊢
  have hl : lv_has ls 10 [(0, .ref (g.2.2 17)), (1, .ref (g.2.2 1)), (2, .int x2), (3, .int x3), (4, .int x4)] := hl
  exact tX5_addLeg_0 C0 B.returns B.notSynchronized hf I (lv_sub hl [0, 1, 2, 3, 4] rfl)
set_option maxHeartbeats 4000000 in
set_option maxRecDepth 100000 in
theorem tX5_trace_0 (C0 : CallFix p m c cX5_trace 4 s args big RX5) (hr : meth.sig.returnType = none) (hk : meth.locks = false) {x2 : Int32} {x3 : Int32}  (hf : fX5_trace S x2 x3 = some S') (I : xI g s S H locs) (hl : lv_has ls 4 [(0, .ref (g.2.2 17)), (1, .ref (g.2.2 1)), (2, .int x2), (3, .int x3)]) : W p l e ({ frames := 1, cells := 0, slots := 0, locals := 29 } : Room) s m args below meth c H locs 0 0 (MQ below (va_Qv (fun S2 => S2 = S') (xB g) (xA g)) args s 0 0 (xA g)) (F0 m 0 ls []) := by
  obtain ⟨hx, hb, hml, -, -⟩ := id C0
  unfold fX5_trace at hf
  refine lv_aload_n hx hb dX5_trace_0 rfl (lv_at hl 0 rfl) ?_
  refine xg_X5_9_17 C0 I dX5_trace_1 ?_
  refine lv_iload_n hx hb dX5_trace_4 rfl (lv_at hl 2 rfl) ?_
  refine lv_iconst (v := 0) hx hb dX5_trace_5 (by decide) ?_
  obtain ⟨b1, hf⟩ := chk_some hf
  refine xs_18 hx hb I b1 dX5_trace_6 (fun H locs I => ?_)
  refine lv_aload_n hx hb dX5_trace_7 rfl (lv_at hl 0 rfl) ?_
  refine xg_X5_21_17 C0 I dX5_trace_8 ?_
  refine lv_iload_n hx hb dX5_trace_11 rfl (lv_at hl 2 rfl) ?_
  refine lv_lconst (v := 0) hx hb dX5_trace_12 (by decide) ?_
  obtain ⟨b2, hf⟩ := chk_some hf
  refine xs_21 hx hb I b2 dX5_trace_13 (fun H locs I => ?_)
  refine lv_aload_n hx hb dX5_trace_14 rfl (lv_at hl 0 rfl) ?_
  refine lv_aload_n hx hb dX5_trace_15 rfl (lv_at hl 1 rfl) ?_
  refine lv_iload_n hx hb dX5_trace_16 rfl (lv_at hl 2 rfl) ?_
  refine lv_aload_n hx hb dX5_trace_17 rfl (lv_at hl 1 rfl) ?_
  refine lv_iload_n hx hb dX5_trace_18 rfl (lv_at hl 2 rfl) ?_
  refine lv_iconst (v := 0) hx hb dX5_trace_19 (by decide) ?_
  obtain ⟨r3, h3, hf⟩ := bq1_some hf
  refine xcv_i (As := [.int x2, .int (0 : Int32)]) C0 I (kX3_trait h3) (cwV 2 C0.2.2.2.2 (gwV wd_356 wd_319 wd_320 wd_67 wd_321) rfl rfl rfl dsc_X3_trait ⟨Nat.le_of_ble_eq_true rfl, Nat.le_of_ble_eq_true rfl⟩) (xo_1 I) rfl hl.1 rfl (Nat.le_of_ble_eq_true rfl) dX5_trace_20 (fun H locs I => ?_)
  refine lv_iload_n hx hb dX5_trace_23 rfl (lv_at hl 3 rfl) ?_
  obtain ⟨S4, h4, hf⟩ := bq1_some hf
  refine xcv_v (As := [.ref (g.2.2 1), .int x2, .int r3, .int x3]) C0 I (kX5_addLeg h4) (cwV 4 C0.2.2.2.2 (gwV wd_361 wd_363 wd_1 wd_69 wd_364) rfl rfl rfl dsc_X5_addLeg ⟨Nat.le_of_ble_eq_true rfl, Nat.le_of_ble_eq_true rfl⟩) (xo_17 I) rfl hl.1 rfl (Nat.le_of_ble_eq_true rfl) dX5_trace_24 (fun H locs I => ?_)
  refine lv_aload_n hx hb dX5_trace_27 rfl (lv_at hl 0 rfl) ?_
  refine xg_X5_15_17 C0 I dX5_trace_28 ?_
  refine lv_iload_n hx hb dX5_trace_31 rfl (lv_at hl 2 rfl) ?_
  refine lv_aload_n hx hb dX5_trace_32 rfl (lv_at hl 0 rfl) ?_
  refine xg_X5_9_17 C0 I dX5_trace_33 ?_
  refine lv_iload_n hx hb dX5_trace_36 rfl (lv_at hl 2 rfl) ?_
  obtain ⟨b5, hf⟩ := chk_some hf
  refine xl_18 hx hb I b5 dX5_trace_37 ?_
  obtain ⟨b6, hf⟩ := chk_some hf
  refine xs_19 hx hb I b6 dX5_trace_38 (fun H locs I => ?_)
  refine lv_aload_n hx hb dX5_trace_39 rfl (lv_at hl 0 rfl) ?_
  refine lv_aload_n hx hb dX5_trace_40 rfl (lv_at hl 1 rfl) ?_
  refine lv_iload_n hx hb dX5_trace_41 rfl (lv_at hl 2 rfl) ?_
  refine lv_iload_n hx hb dX5_trace_42 rfl (lv_at hl 3 rfl) ?_
  refine lv_aload_n hx hb dX5_trace_43 rfl (lv_at hl 1 rfl) ?_
  refine lv_iload_n hx hb dX5_trace_44 rfl (lv_at hl 2 rfl) ?_
  refine lv_iconst (v := 1) hx hb dX5_trace_45 (by decide) ?_
  obtain ⟨r7, h7, hf⟩ := bq1_some hf
  refine xcv_i (As := [.int x2, .int (1 : Int32)]) C0 I (kX3_trait h7) (cwV 2 C0.2.2.2.2 (gwV wd_356 wd_319 wd_320 wd_67 wd_321) rfl rfl rfl dsc_X3_trait ⟨Nat.le_of_ble_eq_true rfl, Nat.le_of_ble_eq_true rfl⟩) (xo_1 I) rfl hl.1 rfl (Nat.le_of_ble_eq_true rfl) dX5_trace_46 (fun H locs I => ?_)
  obtain ⟨S8, h8, hf⟩ := bq1_some hf
  refine xcv_v (As := [.ref (g.2.2 1), .int x2, .int x3, .int r7]) C0 I (kX5_addLeg h8) (cwV 4 C0.2.2.2.2 (gwV wd_361 wd_363 wd_1 wd_69 wd_364) rfl rfl rfl dsc_X5_addLeg ⟨Nat.le_of_ble_eq_true rfl, Nat.le_of_ble_eq_true rfl⟩) (xo_17 I) rfl hl.1 rfl (Nat.le_of_ble_eq_true rfl) dX5_trace_49 (fun H locs I => ?_)
  obtain rfl := se1 hf
  exact xrv C0 hr hk I dX5_trace_52
set_option maxRecDepth 100000 in
theorem kX5_trace {x2 : Int32} {x3 : Int32}  (hf : fX5_trace S x2 x3 = some S') : Met l yX5_trace (Cond.code yX5_trace cX5_trace 4 none :: big) ({ frames := 1, cells := 0, slots := 0, locals := 29 } : Room) (va_Pc [.ref (g.2.2 17), .ref (g.2.2 1), .int x2, .int x3] (xB g S)) (va_Qv (fun S2 => S2 = S') (xB g) (xA g)) 0 0 (xA g) := by
  refine Met.ofW (cc := cX5_trace) (maxL := 4) (ret := none) (by decide) rfl ?_
  intro p e s m args below meth c s₁ B hml hv
  obtain ⟨rfl, hP, hK, hD⟩ := hv
  have hts0 := atoms_spec (ws := (Cond.code yX5_trace cX5_trace 4 none :: big)) B.pre
  have C0 : CallFix p m c cX5_trace 4 s _ big RX5 := ⟨B.exec, B.bytes, hml, findClass_of_methodNamed B.named, fun w h => hts0 w (List.mem_cons_of_mem _ h)⟩
  have I : xI g s S s.heap [] := ⟨hK, hP, hD, va_S.rf⟩
  have hl := lv_entry ([.ref (g.2.2 17), .ref (g.2.2 1), .int x2, .int x3]) (n := 4) (Nat.le_of_ble_eq_true rfl)
  rw [lg_entry_eq]
  generalize (lg_sl ([.ref (g.2.2 17), .ref (g.2.2 1), .int x2, .int x3]) ++ List.replicate (4 - (lg_sl ([.ref (g.2.2 17), .ref (g.2.2 1), .int x2, .int x3])).length) Slot.unset).toArray = ls at hl ⊢
  have hl : lv_has ls 4 [(0, .ref (g.2.2 17)), (1, .ref (g.2.2 1)), (2, .int x2), (3, .int x3)] := hl
  exact tX5_trace_0 C0 B.returns B.notSynchronized hf I (lv_sub hl [0, 1, 2, 3] rfl)
set_option maxHeartbeats 4000000 in
set_option maxRecDepth 100000 in
theorem BX5_follow_2 (C0 : CallFix p m c cX5_follow 3 s args big RX5) (hr : meth.sig.returnType = none) (hk : meth.locks = false) {x2 : Int32} {b : Bool} {y2 : Int32} (Kt : b = true → ∀ (H : Heap) (locs : List Loc) (ls : Array Slot), xI g s S' H locs → lv_has ls 3 [(0, .ref (g.2.2 17)), (1, .ref (g.2.2 1)), (2, .int y2)] → W p l e ({ frames := 2, cells := 0, slots := 0, locals := 52 } : Room) s m args below meth c H locs 0 0 Q (F0 m 2 ls [])) (Kf : b = false → ∀ (H : Heap) (locs : List Loc) (ls : Array Slot), xI g s S' H locs → lv_has ls 3 [(0, .ref (g.2.2 17)), (1, .ref (g.2.2 1)), (2, .int y2)] → W p l e ({ frames := 2, cells := 0, slots := 0, locals := 52 } : Room) s m args below meth c H locs 0 0 Q (F0 m 28 ls [])) (hf : bX5_follow_2 S x2 = some (b, S', y2)) (I : xI g s S H locs) (hl : lv_has ls 3 [(0, .ref (g.2.2 17)), (1, .ref (g.2.2 1)), (2, .int x2)]) : W p l e ({ frames := 2, cells := 0, slots := 0, locals := 52 } : Room) s m args below meth c H locs 0 0 Q (F0 m 2 ls []) := by
  obtain ⟨hx, hb, hml, -, -⟩ := id C0
  unfold bX5_follow_2 at hf
  refine lv_iload_n hx hb dX5_follow_2 rfl (lv_at hl 2 rfl) ?_
  refine lv_aload_n hx hb dX5_follow_3 rfl (lv_at hl 1 rfl) ?_
  refine xg_X5_25_1 C0 I dX5_follow_4 ?_
  refine lv_icmp_ge (tgt := 28) hx hb dX5_follow_7 (by decide) (fun c1 => ?_) (fun c1 => ?_)
  · have hf := ip c1 hf
    obtain ⟨rfl, rfl, rfl⟩ := se3 hf
    exact Kf rfl _ _ _ I (lv_sub hl [0, 1, 2] rfl)
  · have hf := inn c1 hf
    refine lv_aload_n hx hb dX5_follow_10 rfl (lv_at hl 0 rfl) ?_
    refine lv_aload_n hx hb dX5_follow_11 rfl (lv_at hl 1 rfl) ?_
    refine lv_iload_n hx hb dX5_follow_12 rfl (lv_at hl 2 rfl) ?_
    refine lv_aload_n hx hb dX5_follow_13 rfl (lv_at hl 1 rfl) ?_
    refine lv_iload_n hx hb dX5_follow_14 rfl (lv_at hl 2 rfl) ?_
    refine lv_iconst (v := 2) hx hb dX5_follow_15 (by decide) ?_
    obtain ⟨r2, h2, hf⟩ := bq1_some hf
    refine xcv_i (As := [.int x2, .int (2 : Int32)]) C0 I (kX3_trait h2) (cwV 2 C0.2.2.2.2 (gwV wd_356 wd_319 wd_320 wd_67 wd_321) rfl rfl rfl dsc_X3_trait ⟨Nat.le_of_ble_eq_true rfl, Nat.le_of_ble_eq_true rfl⟩) (xo_1 I) rfl hl.1 rfl (Nat.le_of_ble_eq_true rfl) dX5_follow_16 (fun H locs I => ?_)
    obtain ⟨S3, h3, hf⟩ := bq1_some hf
    refine xcv_v (As := [.ref (g.2.2 1), .int x2, .int r2]) C0 I (kX5_trace h3) (cwV 3 C0.2.2.2.2 (gwV wd_357 wd_358 wd_359 wd_69 wd_360) rfl rfl rfl dsc_X5_trace ⟨Nat.le_of_ble_eq_true rfl, Nat.le_of_ble_eq_true rfl⟩) (xo_17 I) rfl hl.1 rfl (Nat.le_of_ble_eq_true rfl) dX5_follow_19 (fun H locs I => ?_)
    refine lv_iinc (v := (x2 + (1 : Int32))) (lv' := [(2, .int (x2 + (1 : Int32))), (0, .ref (g.2.2 17)), (1, .ref (g.2.2 1))]) hx hb dX5_follow_22 hl (k := 2) rfl rfl (by decide) rfl (fun ls hl => ?_)
    refine lv_goto (tgt := 2) hx hb dX5_follow_25 (by decide) ?_
    obtain ⟨rfl, rfl, rfl⟩ := se3 hf
    exact Kt rfl _ _ _ I (lv_sub hl [1, 2, 0] rfl)
set_option maxHeartbeats 4000000 in
theorem lX5_follow_2 (C0 : CallFix p m c cX5_follow 3 s args big RX5) (hr : meth.sig.returnType = none) (hk : meth.locks = false)  {S' : St} {y2 : Int32} : ∀ (n : Nat) {S : St} {x2 : Int32}, lp (fun q => bX5_follow_2 q.1 q.2) n (S, x2) = some (S', y2) → ∀ {H : Heap} {locs : List Loc}, xI g s S H locs → ∀ {ls : Array Slot}, lv_has ls 3 [(0, .ref (g.2.2 17)), (1, .ref (g.2.2 1)), (2, .int x2)] → (∀ (H : Heap) (locs : List Loc) (ls : Array Slot), xI g s S' H locs → lv_has ls 3 [(0, .ref (g.2.2 17)), (1, .ref (g.2.2 1)), (2, .int y2)] → W p l e ({ frames := 2, cells := 0, slots := 0, locals := 52 } : Room) s m args below meth c H locs 0 0 Q (F0 m 28 ls [])) → W p l e ({ frames := 2, cells := 0, slots := 0, locals := 52 } : Room) s m args below meth c H locs 0 0 Q (F0 m 2 ls []) := by
  intro n
  induction n with
  | zero => intro S x2 hf; cases hf
  | succ n ih =>
    intro S x2 hf H locs I ls hl K
    obtain ⟨b, ⟨z0, z1⟩, h1, h2, h3⟩ := lp_some hf
    refine BX5_follow_2 C0 hr hk (fun hb1 H locs ls I hl => ?_) (fun hb1 H locs ls I hl => ?_) h1 I hl
    · exact ih (h2 hb1) I hl K
    · have e := h3 hb1
      cases e
      exact K H locs ls I hl
set_option maxHeartbeats 4000000 in
set_option maxRecDepth 100000 in
theorem tX5_follow_0 (C0 : CallFix p m c cX5_follow 3 s args big RX5) (hr : meth.sig.returnType = none) (hk : meth.locks = false)   (hf : fX5_follow S = some S') (I : xI g s S H locs) (hl : lv_has ls 3 [(0, .ref (g.2.2 17)), (1, .ref (g.2.2 1))]) : W p l e ({ frames := 2, cells := 0, slots := 0, locals := 52 } : Room) s m args below meth c H locs 0 0 (MQ below (va_Qv (fun S2 => S2 = S') (xB g) (xA g)) args s 0 0 (xA g)) (F0 m 0 ls []) := by
  obtain ⟨hx, hb, hml, -, -⟩ := id C0
  unfold fX5_follow at hf
  refine lv_iconst (v := 0) hx hb dX5_follow_0 (by decide) ?_
  refine lv_istore_n (lv' := [(2, .int (0 : Int32)), (0, .ref (g.2.2 17)), (1, .ref (g.2.2 1))]) hx hb dX5_follow_1 rfl hl (by decide) rfl (fun ls hl => ?_)
  obtain ⟨S4, y2_4, h4, hf⟩ := bq2_some hf
  refine lX5_follow_2 C0 hr hk fu h4 I (lv_sub hl [1, 2, 0] rfl) (fun H locs ls I hl => ?_)
  obtain rfl := se1 hf
  exact xrv C0 hr hk I dX5_follow_28
set_option maxRecDepth 100000 in
theorem kX5_follow   (hf : fX5_follow S  = some S') : Met l yX5_follow (Cond.code yX5_follow cX5_follow 3 none :: big) ({ frames := 2, cells := 0, slots := 0, locals := 52 } : Room) (va_Pc [.ref (g.2.2 17), .ref (g.2.2 1)] (xB g S)) (va_Qv (fun S2 => S2 = S') (xB g) (xA g)) 0 0 (xA g) := by
  refine Met.ofW (cc := cX5_follow) (maxL := 3) (ret := none) (by decide) rfl ?_
  intro p e s m args below meth c s₁ B hml hv
  obtain ⟨rfl, hP, hK, hD⟩ := hv
  have hts0 := atoms_spec (ws := (Cond.code yX5_follow cX5_follow 3 none :: big)) B.pre
  have C0 : CallFix p m c cX5_follow 3 s _ big RX5 := ⟨B.exec, B.bytes, hml, findClass_of_methodNamed B.named, fun w h => hts0 w (List.mem_cons_of_mem _ h)⟩
  have I : xI g s S s.heap [] := ⟨hK, hP, hD, va_S.rf⟩
  have hl := lv_entry ([.ref (g.2.2 17), .ref (g.2.2 1)]) (n := 3) (Nat.le_of_ble_eq_true rfl)
  rw [lg_entry_eq]
  generalize (lg_sl ([.ref (g.2.2 17), .ref (g.2.2 1)]) ++ List.replicate (3 - (lg_sl ([.ref (g.2.2 17), .ref (g.2.2 1)])).length) Slot.unset).toArray = ls at hl ⊢
  have hl : lv_has ls 3 [(0, .ref (g.2.2 17)), (1, .ref (g.2.2 1))] := hl
  exact tX5_follow_0 C0 B.returns B.notSynchronized hf I (lv_sub hl [0, 1] rfl)
set_option maxHeartbeats 4000000 in
set_option maxRecDepth 100000 in
theorem BX5_meetings_5 (C0 : CallFix p m c cX5_meetings 5 s args big RX5) (hr : meth.sig.returnType = (some .int)) (hk : meth.locks = false) {x1 : Int32} {x2 : Int32} {x3 : Int32} {x4 : Int32} {b : Bool} {y3 : Int32} {y4 : Int32} (Kt : b = true → ∀ (H : Heap) (locs : List Loc) (ls : Array Slot), xI g s S H locs → lv_has ls 5 [(0, .ref (g.2.2 17)), (1, .int x1), (2, .int x2), (3, .int y3), (4, .int y4)] → W p l e ({ frames := 0, cells := 0, slots := 0, locals := 0 } : Room) s m args below meth c H locs 0 0 Q (F0 m 5 ls [])) (Kf : b = false → ∀ (H : Heap) (locs : List Loc) (ls : Array Slot), xI g s S H locs → lv_has ls 5 [(0, .ref (g.2.2 17)), (1, .int x1), (2, .int x2), (3, .int y3), (4, .int y4)] → W p l e ({ frames := 0, cells := 0, slots := 0, locals := 0 } : Room) s m args below meth c H locs 0 0 Q (F0 m 45 ls [])) (hf : bX5_meetings_5 S x1 x2 x3 x4 = some (b, y3, y4)) (I : xI g s S H locs) (hl : lv_has ls 5 [(0, .ref (g.2.2 17)), (1, .int x1), (2, .int x2), (3, .int x3), (4, .int x4)]) : W p l e ({ frames := 0, cells := 0, slots := 0, locals := 0 } : Room) s m args below meth c H locs 0 0 Q (F0 m 5 ls []) := by
  obtain ⟨hx, hb, hml, -, -⟩ := id C0
  unfold bX5_meetings_5 at hf
  refine lv_iload hx hb dX5_meetings_5 (lv_at hl 4 rfl) ?_
  refine lv_iload_n hx hb dX5_meetings_7 rfl (lv_at hl 2 rfl) ?_
  refine lv_icmp_ge (tgt := 45) hx hb dX5_meetings_8 (by decide) (fun c1 => ?_) (fun c1 => ?_)
  · have hf := ip c1 hf
    obtain ⟨rfl, rfl, rfl⟩ := se3 hf
    exact Kf rfl _ _ _ I (lv_sub hl [0, 1, 2, 3, 4] rfl)
  · have hf := inn c1 hf
    refine lv_iload hx hb dX5_meetings_11 (lv_at hl 4 rfl) ?_
    refine lv_iload_n hx hb dX5_meetings_13 rfl (lv_at hl 1 rfl) ?_
    refine lv_icmp_eq (tgt := 39) hx hb dX5_meetings_14 (by decide) (fun c2 => ?_) (fun c2 => ?_)
    · have hf := ip c2 hf
      refine lv_iinc (v := (x4 + (1 : Int32))) (lv' := [(4, .int (x4 + (1 : Int32))), (0, .ref (g.2.2 17)), (1, .int x1), (2, .int x2), (3, .int x3)]) hx hb dX5_meetings_39 hl (k := 4) rfl rfl (by decide) rfl (fun ls hl => ?_)
      refine lv_goto (tgt := 5) hx hb dX5_meetings_42 (by decide) ?_
      obtain ⟨rfl, rfl, rfl⟩ := se3 hf
      exact Kt rfl _ _ _ I (lv_sub hl [1, 2, 3, 4, 0] rfl)
    · have hf := inn c2 hf
      refine lv_aload_n hx hb dX5_meetings_17 rfl (lv_at hl 0 rfl) ?_
      refine xg_X5_21_17 C0 I dX5_meetings_18 ?_
      refine lv_iload hx hb dX5_meetings_21 (lv_at hl 4 rfl) ?_
      obtain ⟨b3, hf⟩ := chk_some hf
      refine xl_21 hx hb I b3 dX5_meetings_23 ?_
      refine lv_aload_n hx hb dX5_meetings_24 rfl (lv_at hl 0 rfl) ?_
      refine xg_X5_21_17 C0 I dX5_meetings_25 ?_
      refine lv_iload_n hx hb dX5_meetings_28 rfl (lv_at hl 1 rfl) ?_
      obtain ⟨b4, hf⟩ := chk_some hf
      refine xl_21 hx hb I b4 dX5_meetings_29 ?_
      refine lv_land hx hb dX5_meetings_30 ?_
      refine lv_lconst (v := 0) hx hb dX5_meetings_31 (by decide) ?_
      refine W.lcmp hx hb dX5_meetings_32 ?_
      refine lv_if_eq (tgt := 39) hx hb dX5_meetings_33 (by decide) (fun c5 => ?_) (fun c5 => ?_)
      · have hf := ip c5 hf
        refine lv_iinc (v := (x4 + (1 : Int32))) (lv' := [(4, .int (x4 + (1 : Int32))), (0, .ref (g.2.2 17)), (1, .int x1), (2, .int x2), (3, .int x3)]) hx hb dX5_meetings_39 hl (k := 4) rfl rfl (by decide) rfl (fun ls hl => ?_)
        refine lv_goto (tgt := 5) hx hb dX5_meetings_42 (by decide) ?_
        obtain ⟨rfl, rfl, rfl⟩ := se3 hf
        exact Kt rfl _ _ _ I (lv_sub hl [1, 2, 3, 4, 0] rfl)
      · have hf := inn c5 hf
        refine lv_iinc (v := (x3 + (1 : Int32))) (lv' := [(3, .int (x3 + (1 : Int32))), (0, .ref (g.2.2 17)), (1, .int x1), (2, .int x2), (4, .int x4)]) hx hb dX5_meetings_36 hl (k := 3) rfl rfl (by decide) rfl (fun ls hl => ?_)
        refine lv_iinc (v := (x4 + (1 : Int32))) (lv' := [(4, .int (x4 + (1 : Int32))), (3, .int (x3 + (1 : Int32))), (0, .ref (g.2.2 17)), (1, .int x1), (2, .int x2)]) hx hb dX5_meetings_39 hl (k := 4) rfl rfl (by decide) rfl (fun ls hl => ?_)
        refine lv_goto (tgt := 5) hx hb dX5_meetings_42 (by decide) ?_
        obtain ⟨rfl, rfl, rfl⟩ := se3 hf
        exact Kt rfl _ _ _ I (lv_sub hl [2, 3, 4, 1, 0] rfl)
set_option maxHeartbeats 4000000 in
theorem lX5_meetings_5 (C0 : CallFix p m c cX5_meetings 5 s args big RX5) (hr : meth.sig.returnType = (some .int)) (hk : meth.locks = false) {S : St} {x1 : Int32} {x2 : Int32} {y3 : Int32} {y4 : Int32} : ∀ (n : Nat) {x3 : Int32} {x4 : Int32}, lp (fun q => bX5_meetings_5 S x1 x2 q.1 q.2) n (x3, x4) = some (y3, y4) → ∀ {H : Heap} {locs : List Loc}, xI g s S H locs → ∀ {ls : Array Slot}, lv_has ls 5 [(0, .ref (g.2.2 17)), (1, .int x1), (2, .int x2), (3, .int x3), (4, .int x4)] → (∀ (H : Heap) (locs : List Loc) (ls : Array Slot), xI g s S H locs → lv_has ls 5 [(0, .ref (g.2.2 17)), (1, .int x1), (2, .int x2), (3, .int y3), (4, .int y4)] → W p l e ({ frames := 0, cells := 0, slots := 0, locals := 0 } : Room) s m args below meth c H locs 0 0 Q (F0 m 45 ls [])) → W p l e ({ frames := 0, cells := 0, slots := 0, locals := 0 } : Room) s m args below meth c H locs 0 0 Q (F0 m 5 ls []) := by
  intro n
  induction n with
  | zero => intro x3 x4 hf; cases hf
  | succ n ih =>
    intro x3 x4 hf H locs I ls hl K
    obtain ⟨b, ⟨z0, z1⟩, h1, h2, h3⟩ := lp_some hf
    refine BX5_meetings_5 C0 hr hk (fun hb1 H locs ls I hl => ?_) (fun hb1 H locs ls I hl => ?_) h1 I hl
    · exact ih (h2 hb1) I hl K
    · have e := h3 hb1
      cases e
      exact K H locs ls I hl
set_option maxHeartbeats 4000000 in
set_option maxRecDepth 100000 in
theorem tX5_meetings_0 (C0 : CallFix p m c cX5_meetings 5 s args big RX5) (hr : meth.sig.returnType = (some .int)) (hk : meth.locks = false) {x1 : Int32} {x2 : Int32} {rr : Int32}  (hf : fX5_meetings S x1 x2 = some rr) (I : xI g s S H locs) (hl : lv_has ls 5 [(0, .ref (g.2.2 17)), (1, .int x1), (2, .int x2)]) : W p l e ({ frames := 0, cells := 0, slots := 0, locals := 0 } : Room) s m args below meth c H locs 0 0 (MQ below (va_Qi (fun r' S2 => r' = rr ∧ S2 = S) (xB g) (xA g)) args s 0 0 (xA g)) (F0 m 0 ls []) := by
  obtain ⟨hx, hb, hml, -, -⟩ := id C0
  unfold fX5_meetings at hf
  refine lv_iconst (v := 0) hx hb dX5_meetings_0 (by decide) ?_
  refine lv_istore_n (lv' := [(3, .int (0 : Int32)), (0, .ref (g.2.2 17)), (1, .int x1), (2, .int x2)]) hx hb dX5_meetings_1 rfl hl (by decide) rfl (fun ls hl => ?_)
  refine lv_iconst (v := 0) hx hb dX5_meetings_2 (by decide) ?_
  refine lv_istore (lv' := [(4, .int (0 : Int32)), (3, .int (0 : Int32)), (0, .ref (g.2.2 17)), (1, .int x1), (2, .int x2)]) hx hb dX5_meetings_3 hl (by decide) rfl (fun ls hl => ?_)
  obtain ⟨y3_6, y4_6, h6, hf⟩ := bq2_some hf
  refine lX5_meetings_5 C0 hr hk fu h6 I (lv_sub hl [2, 3, 4, 1, 0] rfl) (fun H locs ls I hl => ?_)
  refine lv_iload_n hx hb dX5_meetings_45 rfl (lv_at hl 3 rfl) ?_
  obtain rfl := se1 hf
  exact xri C0 hr hk I dX5_meetings_46
set_option maxRecDepth 100000 in
theorem kX5_meetings {x1 : Int32} {x2 : Int32} {rr : Int32} (hf : fX5_meetings S x1 x2 = some rr) : Met l yX5_meetings (Cond.code yX5_meetings cX5_meetings 5 (some .int) :: big) ({ frames := 0, cells := 0, slots := 0, locals := 0 } : Room) (va_Pc [.ref (g.2.2 17), .int x1, .int x2] (xB g S)) (va_Qi (fun r' S2 => r' = rr ∧ S2 = S) (xB g) (xA g)) 0 0 (xA g) := by
  refine Met.ofW (cc := cX5_meetings) (maxL := 5) (ret := (some .int)) (by decide) rfl ?_
  intro p e s m args below meth c s₁ B hml hv
  obtain ⟨rfl, hP, hK, hD⟩ := hv
  have hts0 := atoms_spec (ws := (Cond.code yX5_meetings cX5_meetings 5 (some .int) :: big)) B.pre
  have C0 : CallFix p m c cX5_meetings 5 s _ big RX5 := ⟨B.exec, B.bytes, hml, findClass_of_methodNamed B.named, fun w h => hts0 w (List.mem_cons_of_mem _ h)⟩
  have I : xI g s S s.heap [] := ⟨hK, hP, hD, va_S.rf⟩
  have hl := lv_entry ([.ref (g.2.2 17), .int x1, .int x2]) (n := 5) (Nat.le_of_ble_eq_true rfl)
  rw [lg_entry_eq]
  generalize (lg_sl ([.ref (g.2.2 17), .int x1, .int x2]) ++ List.replicate (5 - (lg_sl ([.ref (g.2.2 17), .int x1, .int x2])).length) Slot.unset).toArray = ls at hl ⊢
  have hl : lv_has ls 5 [(0, .ref (g.2.2 17)), (1, .int x1), (2, .int x2)] := hl
  exact tX5_meetings_0 C0 B.returns B.notSynchronized hf I (lv_sub hl [0, 1, 2] rfl)
end
