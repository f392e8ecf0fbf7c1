section
variable {p : Program} {l : Launch} {e : Env} {s : State} {m : MethodId} {args : Array Value} {below : List Frame} {meth : Method} {c : Code} {Q : State → Prop} {g : xG} {H : Heap} {locs : List Loc} {ls : Array Slot} {S S' : St}
set_option maxHeartbeats 4000000 in
set_option maxRecDepth 100000 in
theorem tX7_rules_26 (C0 : CallFix p m c cX7_rules 4 s args big RX7) (hr : meth.sig.returnType = (some .int)) (hk : meth.locks = false)  {rr : Int32}  (hf : fX7_rules_26 S = some (rr, S')) (I : mI g s S H locs) (hl : lv_has ls 4 [(0, .ref (g.2.2 0))]) : W p l e ({ frames := 1, cells := 0, slots := 0, locals := 22 } : Room) s m args below meth c H locs 0 0 (MQ below (va_Qi (fun r' S2 => r' = rr ∧ S2 = S') (mB g) (mA g)) args s 0 0 (mA g)) (F0 m 26 ls []) := by
  obtain ⟨hx, hb, hml, -, -⟩ := id C0
  unfold fX7_rules_26 at hf
  refine lv_aload_n hx hb dX7_rules_26 rfl (lv_at hl 0 rfl) ?_
  obtain ⟨r3, S3, h3, hf⟩ := bq2_some hf
  refine mcv_i (As := []) C0 I (kX7_bad h3) (cwV 0 C0.2.2.2.2 (gwV wd_705 wd_707 wd_23 wd_73 wd_708) rfl rfl rfl dsc_X7_bad ⟨Nat.le_of_ble_eq_true rfl, Nat.le_of_ble_eq_true rfl⟩) (mo_0 I) rfl hl.1 rfl (Nat.le_of_ble_eq_true rfl) dX7_rules_27 (fun H locs I => ?_)
  obtain ⟨rfl, rfl⟩ := se2 hf
  exact mri C0 hr hk I dX7_rules_30
set_option maxHeartbeats 4000000 in
set_option maxRecDepth 100000 in
theorem tX7_rules_20 (C0 : CallFix p m c cX7_rules 4 s args big RX7) (hr : meth.sig.returnType = (some .int)) (hk : meth.locks = false) {x1 : Int32} {x2 : Int32} {s0 : Int32} {s1 : Int32} {s2 : Int32} {rr : Int32}  (hf : fX7_rules_20 S x1 x2 s0 s1 s2 = some (rr, S')) (I : mI g s S H locs) (hl : lv_has ls 4 [(0, .ref (g.2.2 0)), (1, .int x1), (2, .int x2)]) : W p l e ({ frames := 1, cells := 0, slots := 0, locals := 22 } : Room) s m args below meth c H locs 0 0 (MQ below (va_Qi (fun r' S2 => r' = rr ∧ S2 = S') (mB g) (mA g)) args s 0 0 (mA g)) (F0 m 20 ls [.int s0, .int s1, .int s2]) := by
  obtain ⟨hx, hb, hml, -, -⟩ := id C0
  unfold fX7_rules_20 at hf
  obtain ⟨r5, h5, hf⟩ := bq1_some hf
  refine mcs_i (As := [.int s2, .int s1, .int s0]) C0 I (kX7_in h5) (va_cwS 3 C0.2.2.2.2 (gwS wd_702 wd_703 wd_73 wd_704) rfl rfl rfl dsc_X7_in.2 ⟨Nat.le_of_ble_eq_true rfl, Nat.le_of_ble_eq_true rfl⟩) rfl hl.1 rfl (Nat.le_of_ble_eq_true rfl) dX7_rules_20 (fun H locs I => ?_)
  refine lv_if_ne (tgt := 31) hx hb dX7_rules_23 (by decide) (fun c6 => ?_) (fun c6 => ?_)
  · have hf := inn c6 hf
    refine lv_aload_n hx hb dX7_rules_31 rfl (lv_at hl 0 rfl) ?_
    obtain ⟨S7, h7, hf⟩ := bq1_some hf
    refine mcv_v (As := []) C0 I (kX7_leavesState h7) (cwV 0 C0.2.2.2.2 (gwV wd_709 wd_711 wd_24 wd_73 wd_712) rfl rfl rfl dsc_X7_leavesState ⟨Nat.le_of_ble_eq_true rfl, Nat.le_of_ble_eq_true rfl⟩) (mo_0 I) rfl hl.1 rfl (Nat.le_of_ble_eq_true rfl) dX7_rules_32 (fun H locs I => ?_)
    refine lv_aload_n hx hb dX7_rules_35 rfl (lv_at hl 0 rfl) ?_
    refine mg_X7_17_0 C0 I dX7_rules_36 ?_
    refine lv_iload_n hx hb dX7_rules_39 rfl (lv_at hl 1 rfl) ?_
    obtain ⟨b8, hf⟩ := chk_some hf
    refine ml_2 hx hb I b8 dX7_rules_40 ?_
    refine lv_istore_n (lv' := [(3, .int (gR S7 1 x1)), (0, .ref (g.2.2 0)), (1, .int x1), (2, .int x2)]) hx hb dX7_rules_41 rfl hl (by decide) rfl (fun ls hl => ?_)
    refine lv_aload_n hx hb dX7_rules_42 rfl (lv_at hl 1 rfl) ?_
    refine mg_X7_17_0 C0 I dX7_rules_43 ?_
    refine lv_iload_n hx hb dX7_rules_46 rfl (lv_at hl 2 rfl) ?_
    refine lv_iload_n hx hb dX7_rules_47 rfl (lv_at hl 3 rfl) ?_
    obtain ⟨b9, hf⟩ := chk_some hf
    refine ms_2 hx hb I b9 dX7_rules_48 (fun H locs I => ?_)
    refine lv_iload_n hx hb dX7_rules_49 rfl (lv_at hl 0 rfl) ?_
    obtain ⟨rfl, rfl⟩ := se2 hf
    exact mri C0 hr hk I dX7_rules_50
  · have hf := ip c6 hf
    exact tX7_rules_26 C0 hr hk hf I (lv_sub hl [0] rfl)
set_option maxHeartbeats 4000000 in
set_option maxRecDepth 100000 in
theorem tX7_rules_0 (C0 : CallFix p m c cX7_rules 4 s args big RX7) (hr : meth.sig.returnType = (some .int)) (hk : meth.locks = false) {x1 : Int32} {x2 : Int32} {rr : Int32}  (hf : fX7_rules S x1 x2 = some (rr, S')) (I : mI g s S H locs) (hl : lv_has ls 4 [(0, .ref (g.2.2 0)), (1, .int x1), (2, .int x2)]) : W p l e ({ frames := 1, cells := 0, slots := 0, locals := 22 } : Room) s m args below meth c H locs 0 0 (MQ below (va_Qi (fun r' S2 => r' = rr ∧ S2 = S') (mB g) (mA g)) args s 0 0 (mA g)) (F0 m 0 ls []) := by
  obtain ⟨hx, hb, hml, -, -⟩ := id C0
  unfold fX7_rules at hf
  refine lv_iload_n hx hb dX7_rules_0 rfl (lv_at hl 1 rfl) ?_
  refine lv_iconst (v := 0) hx hb dX7_rules_1 (by decide) ?_
  refine lv_iconst (v := 1) hx hb dX7_rules_2 (by decide) ?_
  obtain ⟨r1, h1, hf⟩ := bq1_some hf
  refine mcs_i (As := [.int x1, .int (0 : Int32), .int (1 : Int32)]) C0 I (kX7_in h1) (va_cwS 3 C0.2.2.2.2 (gwS wd_702 wd_703 wd_73 wd_704) rfl rfl rfl dsc_X7_in.2 ⟨Nat.le_of_ble_eq_true rfl, Nat.le_of_ble_eq_true rfl⟩) rfl hl.1 rfl (Nat.le_of_ble_eq_true rfl) dX7_rules_3 (fun H locs I => ?_)
  refine lv_if_eq (tgt := 26) hx hb dX7_rules_6 (by decide) (fun c2 => ?_) (fun c2 => ?_)
  · have hf := ip c2 hf
    exact tX7_rules_26 C0 hr hk hf I (lv_sub hl [0] rfl)
  · have hf := inn c2 hf
    refine lv_iload_n hx hb dX7_rules_9 rfl (lv_at hl 2 rfl) ?_
    refine lv_iconst (v := 0) hx hb dX7_rules_10 (by decide) ?_
    refine lv_iload_n hx hb dX7_rules_11 rfl (lv_at hl 1 rfl) ?_
    refine lv_if_ne (tgt := 19) hx hb dX7_rules_12 (by decide) (fun c4 => ?_) (fun c4 => ?_)
    · have hf := inn c4 hf
      refine lv_iconst (v := 3) hx hb dX7_rules_19 (by decide) ?_
      exact tX7_rules_20 C0 hr hk hf I (lv_sub hl [0, 1, 2] rfl)
    · have hf := ip c4 hf
      refine lv_iconst (v := 1) hx hb dX7_rules_15 (by decide) ?_
      refine lv_goto (tgt := 20) hx hb dX7_rules_16 (by decide) ?_
      exact tX7_rules_20 C0 hr hk hf I (lv_sub hl [0, 1, 2] rfl)
set_option maxRecDepth 100000 in
theorem kX7_rules {x1 : Int32} {x2 : Int32} {rr : Int32} (hf : fX7_rules S x1 x2 = some (rr, S')) : Met l yX7_rules (Cond.code yX7_rules cX7_rules 4 (some .int) :: big) ({ frames := 1, cells := 0, slots := 0, locals := 22 } : Room) (va_Pc [.ref (g.2.2 0), .int x1, .int x2] (mB g S)) (va_Qi (fun r' S2 => r' = rr ∧ S2 = S') (mB g) (mA g)) 0 0 (mA g) := by
  refine Met.ofW (cc := cX7_rules) (maxL := 4) (ret := (some .int)) (by decide) rfl ?_
  intro p e s m args below meth c s₁ B hml hv
  obtain ⟨rfl, hP, hK, hD⟩ := hv
  have hts0 := atoms_spec (ws := (Cond.code yX7_rules cX7_rules 4 (some .int) :: big)) B.pre
  have C0 : CallFix p m c cX7_rules 4 s _ big RX7 := ⟨B.exec, B.bytes, hml, findClass_of_methodNamed B.named, fun w h => hts0 w (List.mem_cons_of_mem _ h)⟩
  have I : mI g s S s.heap [] := ⟨hK, hP, hD, va_S.rf⟩
  have hl := lv_entry ([.ref (g.2.2 0), .int x1, .int x2]) (n := 4) (Nat.le_of_ble_eq_true rfl)
  rw [lg_entry_eq]
  generalize (lg_sl ([.ref (g.2.2 0), .int x1, .int x2]) ++ List.replicate (4 - (lg_sl ([.ref (g.2.2 0), .int x1, .int x2])).length) Slot.unset).toArray = ls at hl ⊢
  have hl : lv_has ls 4 [(0, .ref (g.2.2 0)), (1, .int x1), (2, .int x2)] := hl
  exact tX7_rules_0 C0 B.returns B.notSynchronized hf I (lv_sub hl [0, 1, 2] rfl)
set_option maxHeartbeats 4000000 in
set_option maxRecDepth 100000 in
theorem tX7_empties_0 (C0 : CallFix p m c cX7_empties 2 s args big RX7) (hr : meth.sig.returnType = (some .int)) (hk : meth.locks = false)  {rr : Int32}  (hf : fX7_empties S = some (rr, S')) (I : mI g s S H locs) (hl : lv_has ls 2 [(0, .ref (g.2.2 0))]) : W p l e ({ frames := 1, cells := 0, slots := 0, locals := 22 } : Room) s m args below meth c H locs 0 0 (MQ below (va_Qi (fun r' S2 => r' = rr ∧ S2 = S') (mB g) (mA g)) args s 0 0 (mA g)) (F0 m 0 ls []) := by
  obtain ⟨hx, hb, hml, -, -⟩ := id C0
  unfold fX7_empties at hf
  refine lv_aload_n hx hb dX7_empties_0 rfl (lv_at hl 0 rfl) ?_
  obtain ⟨S1, h1, hf⟩ := bq1_some hf
  refine mcv_v (As := []) C0 I (kX7_leavesState h1) (cwV 0 C0.2.2.2.2 (gwV wd_709 wd_711 wd_24 wd_73 wd_712) rfl rfl rfl dsc_X7_leavesState ⟨Nat.le_of_ble_eq_true rfl, Nat.le_of_ble_eq_true rfl⟩) (mo_0 I) rfl hl.1 rfl (Nat.le_of_ble_eq_true rfl) dX7_empties_1 (fun H locs I => ?_)
  refine lv_aload_n hx hb dX7_empties_4 rfl (lv_at hl 0 rfl) ?_
  refine mg_X7_76_0 C0 I dX7_empties_5 ?_
  refine lv_istore_n (lv' := [(1, .int (gF S1 2)), (0, .ref (g.2.2 0))]) hx hb dX7_empties_8 rfl hl (by decide) rfl (fun ls hl => ?_)
  refine lv_aload_n hx hb dX7_empties_9 rfl (lv_at hl 1 rfl) ?_
  refine lv_iconst (v := 0) hx hb dX7_empties_10 (by decide) ?_
  refine mp_X7_76_0 C0 I dX7_empties_11 (fun H locs I => ?_)
  refine lv_iload_n hx hb dX7_empties_14 rfl (lv_at hl 0 rfl) ?_
  obtain ⟨rfl, rfl⟩ := se2 hf
  exact mri C0 hr hk I dX7_empties_15
set_option maxRecDepth 100000 in
theorem kX7_empties  {rr : Int32} (hf : fX7_empties S  = some (rr, S')) : Met l yX7_empties (Cond.code yX7_empties cX7_empties 2 (some .int) :: big) ({ frames := 1, cells := 0, slots := 0, locals := 22 } : Room) (va_Pc [.ref (g.2.2 0)] (mB g S)) (va_Qi (fun r' S2 => r' = rr ∧ S2 = S') (mB g) (mA g)) 0 0 (mA g) := by
  refine Met.ofW (cc := cX7_empties) (maxL := 2) (ret := (some .int)) (by decide) rfl ?_
  intro p e s m args below meth c s₁ B hml hv
  obtain ⟨rfl, hP, hK, hD⟩ := hv
  have hts0 := atoms_spec (ws := (Cond.code yX7_empties cX7_empties 2 (some .int) :: big)) B.pre
  have C0 : CallFix p m c cX7_empties 2 s _ big RX7 := ⟨B.exec, B.bytes, hml, findClass_of_methodNamed B.named, fun w h => hts0 w (List.mem_cons_of_mem _ h)⟩
  have I : mI g s S s.heap [] := ⟨hK, hP, hD, va_S.rf⟩
  have hl := lv_entry ([.ref (g.2.2 0)]) (n := 2) (Nat.le_of_ble_eq_true rfl)
  rw [lg_entry_eq]
  generalize (lg_sl ([.ref (g.2.2 0)]) ++ List.replicate (2 - (lg_sl ([.ref (g.2.2 0)])).length) Slot.unset).toArray = ls at hl ⊢
  have hl : lv_has ls 2 [(0, .ref (g.2.2 0))] := hl
  exact tX7_empties_0 C0 B.returns B.notSynchronized hf I (lv_sub hl [0] rfl)
set_option maxHeartbeats 4000000 in
set_option maxRecDepth 100000 in
theorem BX7_turned_4 (C0 : CallFix p m c cX7_turned 4 s args big RX7) (hr : meth.sig.returnType = (some .int)) (hk : meth.locks = false) {x1 : Int32} {x2 : Int32} {x3 : Int32} {b : Bool} {y2 : Int32} {y3 : Int32} (Kt : b = true → ∀ (H : Heap) (locs : List Loc) (ls : Array Slot), mI g s S H locs → lv_has ls 4 [(0, .ref (g.2.2 0)), (1, .int x1), (2, .int y2), (3, .int y3)] → W p l e ({ frames := 0, cells := 0, slots := 0, locals := 0 } : Room) s m args below meth c H locs 0 0 Q (F0 m 4 ls [])) (Kf : b = false → ∀ (H : Heap) (locs : List Loc) (ls : Array Slot), mI g s S H locs → lv_has ls 4 [(0, .ref (g.2.2 0)), (1, .int x1), (2, .int y2), (3, .int y3)] → W p l e ({ frames := 0, cells := 0, slots := 0, locals := 0 } : Room) s m args below meth c H locs 0 0 Q (F0 m 35 ls [])) (hf : bX7_turned_4 S x1 x2 x3 = some (b, y2, y3)) (I : mI g s S H locs) (hl : lv_has ls 4 [(0, .ref (g.2.2 0)), (1, .int x1), (2, .int x2), (3, .int x3)]) : W p l e ({ frames := 0, cells := 0, slots := 0, locals := 0 } : Room) s m args below meth c H locs 0 0 Q (F0 m 4 ls []) := by
  obtain ⟨hx, hb, hml, -, -⟩ := id C0
  unfold bX7_turned_4 at hf
  refine lv_iload_n hx hb dX7_turned_4 rfl (lv_at hl 3 rfl) ?_
  refine lv_aload_n hx hb dX7_turned_5 rfl (lv_at hl 0 rfl) ?_
  refine mg_X7_13_0 C0 I dX7_turned_6 ?_
  refine lv_icmp_ge (tgt := 35) hx hb dX7_turned_9 (by decide) (fun c1 => ?_) (fun c1 => ?_)
  · have hf := ip c1 hf
    obtain ⟨rfl, rfl, rfl⟩ := se3 hf
    exact Kf rfl _ _ _ I (lv_sub hl [0, 1, 2, 3] rfl)
  · have hf := inn c1 hf
    refine lv_iload_n hx hb dX7_turned_12 rfl (lv_at hl 2 rfl) ?_
    refine lv_iload_n hx hb dX7_turned_13 rfl (lv_at hl 1 rfl) ?_
    refine lv_iload_n hx hb dX7_turned_14 rfl (lv_at hl 3 rfl) ?_
    refine lv_ishr hx hb dX7_turned_15 ?_
    refine lv_iconst (v := 1) hx hb dX7_turned_16 (by decide) ?_
    refine lv_iand hx hb dX7_turned_17 ?_
    refine lv_aload_n hx hb dX7_turned_18 rfl (lv_at hl 0 rfl) ?_
    refine mg_X7_13_0 C0 I dX7_turned_19 ?_
    refine lv_iconst (v := 1) hx hb dX7_turned_22 (by decide) ?_
    refine lv_isub hx hb dX7_turned_23 ?_
    refine lv_iload_n hx hb dX7_turned_24 rfl (lv_at hl 3 rfl) ?_
    refine lv_isub hx hb dX7_turned_25 ?_
    refine lv_ishl hx hb dX7_turned_26 ?_
    refine lv_ior hx hb dX7_turned_27 ?_
    refine lv_istore_n (lv' := [(2, .int (x2 ||| (((x1 >>> (x3 &&& (31 : Int32))) &&& (1 : Int32)) <<< ((((gF S 1) - (1 : Int32)) - x3) &&& (31 : Int32))))), (0, .ref (g.2.2 0)), (1, .int x1), (3, .int x3)]) hx hb dX7_turned_28 rfl hl (by decide) rfl (fun ls hl => ?_)
    refine lv_iinc (v := (x3 + (1 : Int32))) (lv' := [(3, .int (x3 + (1 : Int32))), (2, .int (x2 ||| (((x1 >>> (x3 &&& (31 : Int32))) &&& (1 : Int32)) <<< ((((gF S 1) - (1 : Int32)) - x3) &&& (31 : Int32))))), (0, .ref (g.2.2 0)), (1, .int x1)]) hx hb dX7_turned_29 hl (k := 3) rfl rfl (by decide) rfl (fun ls hl => ?_)
    refine lv_goto (tgt := 4) hx hb dX7_turned_32 (by decide) ?_
    obtain ⟨rfl, rfl, rfl⟩ := se3 hf
    exact Kt rfl _ _ _ I (lv_sub hl [2, 3, 1, 0] rfl)
set_option maxHeartbeats 4000000 in
theorem lX7_turned_4 (C0 : CallFix p m c cX7_turned 4 s args big RX7) (hr : meth.sig.returnType = (some .int)) (hk : meth.locks = false) {S : St} {x1 : Int32} {y2 : Int32} {y3 : Int32} : ∀ (n : Nat) {x2 : Int32} {x3 : Int32}, lp (fun q => bX7_turned_4 S x1 q.1 q.2) n (x2, x3) = some (y2, y3) → ∀ {H : Heap} {locs : List Loc}, mI g s S H locs → ∀ {ls : Array Slot}, lv_has ls 4 [(0, .ref (g.2.2 0)), (1, .int x1), (2, .int x2), (3, .int x3)] → (∀ (H : Heap) (locs : List Loc) (ls : Array Slot), mI g s S H locs → lv_has ls 4 [(0, .ref (g.2.2 0)), (1, .int x1), (2, .int y2), (3, .int y3)] → W p l e ({ frames := 0, cells := 0, slots := 0, locals := 0 } : Room) s m args below meth c H locs 0 0 Q (F0 m 35 ls [])) → W p l e ({ frames := 0, cells := 0, slots := 0, locals := 0 } : Room) s m args below meth c H locs 0 0 Q (F0 m 4 ls []) := by
  intro n
  induction n with
  | zero => intro x2 x3 hf; cases hf
  | succ n ih =>
    intro x2 x3 hf H locs I ls hl K
    obtain ⟨b, ⟨z0, z1⟩, h1, h2, h3⟩ := lp_some hf
    refine BX7_turned_4 C0 hr hk (fun hb1 H locs ls I hl => ?_) (fun hb1 H locs ls I hl => ?_) h1 I hl
    · exact ih (h2 hb1) I hl K
    · have e := h3 hb1
      cases e
      exact K H locs ls I hl
set_option maxHeartbeats 4000000 in
set_option maxRecDepth 100000 in
theorem tX7_turned_0 (C0 : CallFix p m c cX7_turned 4 s args big RX7) (hr : meth.sig.returnType = (some .int)) (hk : meth.locks = false) {x1 : Int32} {rr : Int32}  (hf : fX7_turned S x1 = some rr) (I : mI g s S H locs) (hl : lv_has ls 4 [(0, .ref (g.2.2 0)), (1, .int x1)]) : W p l e ({ frames := 0, cells := 0, slots := 0, locals := 0 } : Room) s m args below meth c H locs 0 0 (MQ below (va_Qi (fun r' S2 => r' = rr ∧ S2 = S) (mB g) (mA g)) args s 0 0 (mA g)) (F0 m 0 ls []) := by
  obtain ⟨hx, hb, hml, -, -⟩ := id C0
  unfold fX7_turned at hf
  refine lv_iconst (v := 0) hx hb dX7_turned_0 (by decide) ?_
  refine lv_istore_n (lv' := [(2, .int (0 : Int32)), (0, .ref (g.2.2 0)), (1, .int x1)]) hx hb dX7_turned_1 rfl hl (by decide) rfl (fun ls hl => ?_)
  refine lv_iconst (v := 0) hx hb dX7_turned_2 (by decide) ?_
  refine lv_istore_n (lv' := [(3, .int (0 : Int32)), (2, .int (0 : Int32)), (0, .ref (g.2.2 0)), (1, .int x1)]) hx hb dX7_turned_3 rfl hl (by decide) rfl (fun ls hl => ?_)
  obtain ⟨y2_2, y3_2, h2, hf⟩ := bq2_some hf
  refine lX7_turned_4 C0 hr hk fu h2 I (lv_sub hl [2, 3, 1, 0] rfl) (fun H locs ls I hl => ?_)
  refine lv_iload_n hx hb dX7_turned_35 rfl (lv_at hl 2 rfl) ?_
  obtain rfl := se1 hf
  exact mri C0 hr hk I dX7_turned_36
set_option maxRecDepth 100000 in
theorem kX7_turned {x1 : Int32} {rr : Int32} (hf : fX7_turned S x1 = some rr) : Met l yX7_turned (Cond.code yX7_turned cX7_turned 4 (some .int) :: big) ({ frames := 0, cells := 0, slots := 0, locals := 0 } : Room) (va_Pc [.ref (g.2.2 0), .int x1] (mB g S)) (va_Qi (fun r' S2 => r' = rr ∧ S2 = S) (mB g) (mA g)) 0 0 (mA g) := by
  refine Met.ofW (cc := cX7_turned) (maxL := 4) (ret := (some .int)) (by decide) rfl ?_
  intro p e s m args below meth c s₁ B hml hv
  obtain ⟨rfl, hP, hK, hD⟩ := hv
  have hts0 := atoms_spec (ws := (Cond.code yX7_turned cX7_turned 4 (some .int) :: big)) B.pre
  have C0 : CallFix p m c cX7_turned 4 s _ big RX7 := ⟨B.exec, B.bytes, hml, findClass_of_methodNamed B.named, fun w h => hts0 w (List.mem_cons_of_mem _ h)⟩
  have I : mI g s S s.heap [] := ⟨hK, hP, hD, va_S.rf⟩
  have hl := lv_entry ([.ref (g.2.2 0), .int x1]) (n := 4) (Nat.le_of_ble_eq_true rfl)
  rw [lg_entry_eq]
  generalize (lg_sl ([.ref (g.2.2 0), .int x1]) ++ List.replicate (4 - (lg_sl ([.ref (g.2.2 0), .int x1])).length) Slot.unset).toArray = ls at hl ⊢
  have hl : lv_has ls 4 [(0, .ref (g.2.2 0)), (1, .int x1)] := hl
  exact tX7_turned_0 C0 B.returns B.notSynchronized hf I (lv_sub hl [0, 1] rfl)
set_option maxHeartbeats 4000000 in
set_option maxRecDepth 100000 in
theorem tX7_fills_19 (C0 : CallFix p m c cX7_fills 8 s args big RX7) (hr : meth.sig.returnType = (some .int)) (hk : meth.locks = false)  {rr : Int32}  (hf : fX7_fills_19 S = some (rr, S')) (I : mI g s S H locs) (hl : lv_has ls 8 [(0, .ref (g.2.2 0))]) : W p l e ({ frames := 1, cells := 0, slots := 0, locals := 24 } : Room) s m args below meth c H locs 0 0 (MQ below (va_Qi (fun r' S2 => r' = rr ∧ S2 = S') (mB g) (mA g)) args s 0 0 (mA g)) (F0 m 19 ls []) := by
  obtain ⟨hx, hb, hml, -, -⟩ := id C0
  unfold fX7_fills_19 at hf
  refine lv_aload_n hx hb dX7_fills_19 rfl (lv_at hl 0 rfl) ?_
  obtain ⟨r3, S3, h3, hf⟩ := bq2_some hf
  refine mcv_i (As := []) C0 I (kX7_bad h3) (cwV 0 C0.2.2.2.2 (gwV wd_705 wd_707 wd_23 wd_73 wd_708) rfl rfl rfl dsc_X7_bad ⟨Nat.le_of_ble_eq_true rfl, Nat.le_of_ble_eq_true rfl⟩) (mo_0 I) rfl hl.1 rfl (Nat.le_of_ble_eq_true rfl) dX7_fills_20 (fun H locs I => ?_)
  obtain ⟨rfl, rfl⟩ := se2 hf
  exact mri C0 hr hk I dX7_fills_23
set_option maxHeartbeats 4000000 in
set_option maxRecDepth 100000 in
theorem tX7_fills_118 (C0 : CallFix p m c cX7_fills 8 s args big RX7) (hr : meth.sig.returnType = (some .int)) (hk : meth.locks = false) {x1 : Int32} {x3 : Int32} {x4 : Int64} {x6 : Int32} {s0 : Int32} {b : Bool} {y4 : Int64} {y6 : Int32} (Kt : b = true → ∀ (H : Heap) (locs : List Loc) (ls : Array Slot), mI g s S' H locs → lv_has ls 8 [(0, .ref (g.2.2 0)), (1, .int x1), (3, .int x3), (4, .long y4), (6, .int y6)] → W p l e ({ frames := 1, cells := 0, slots := 0, locals := 24 } : Room) s m args below meth c H locs 0 0 Q (F0 m 45 ls [])) (Kf : b = false → ∀ (H : Heap) (locs : List Loc) (ls : Array Slot), mI g s S' H locs → lv_has ls 8 [(0, .ref (g.2.2 0)), (1, .int x1), (3, .int x3), (4, .long y4), (6, .int y6)] → W p l e ({ frames := 1, cells := 0, slots := 0, locals := 24 } : Room) s m args below meth c H locs 0 0 Q (F0 m 155 ls [])) (hf : fX7_fills_118 S x3 x4 x6 s0 = some (b, S', y4, y6)) (I : mI g s S H locs) (hl : lv_has ls 8 [(0, .ref (g.2.2 0)), (1, .int x1), (3, .int x3), (4, .long x4), (6, .int x6)]) : W p l e ({ frames := 1, cells := 0, slots := 0, locals := 24 } : Room) s m args below meth c H locs 0 0 Q (F0 m 118 ls [.int s0]) := by
  obtain ⟨hx, hb, hml, -, -⟩ := id C0
  unfold fX7_fills_118 at hf
  refine lv_istore (lv' := [(7, .int s0), (0, .ref (g.2.2 0)), (1, .int x1), (3, .int x3), (4, .long x4), (6, .int x6)]) hx hb dX7_fills_118 hl (by decide) rfl (fun ls hl => ?_)
  refine lv_aload_n hx hb dX7_fills_120 rfl (lv_at hl 1 rfl) ?_
  refine lv_iload hx hb dX7_fills_121 (lv_at hl 5 rfl) ?_
  refine lv_iload hx hb dX7_fills_123 (lv_at hl 0 rfl) ?_
  refine lv_lload hx hb dX7_fills_125 (lv_at hl 4 rfl) ?_
  refine lv_ldc2 (v := 65536) hx hb C0.2.2.2.1 (C0.2.2.2.2 _ wd_769) dX7_fills_127 ?_
  refine lv_ldiv hx hb dX7_fills_130 (by decide) ?_
  refine lv_iload_n hx hb dX7_fills_131 rfl (lv_at hl 3 rfl) ?_
  refine lv_i2l hx hb dX7_fills_132 rfl ?_
  obtain ⟨n13, hf⟩ := nzl_some hf
  refine lv_lrem hx hb dX7_fills_133 n13 ?_
  refine lv_l2i hx hb dX7_fills_134 rfl ?_
  refine lv_lload hx hb dX7_fills_135 (lv_at hl 4 rfl) ?_
  refine lv_ldc2 (v := 1024) hx hb C0.2.2.2.1 (C0.2.2.2.2 _ wd_770) dX7_fills_137 ?_
  refine lv_ldiv hx hb dX7_fills_140 (by decide) ?_
  refine lv_ldc2 (v := 100) hx hb C0.2.2.2.1 (C0.2.2.2.2 _ wd_771) dX7_fills_141 ?_
  refine lv_lrem hx hb dX7_fills_144 (by decide) ?_
  refine lv_l2i hx hb dX7_fills_145 rfl ?_
  obtain ⟨S14, h14, hf⟩ := bq1_some hf
  refine mcv_v (As := [.int x6, .int s0, .int (Int64.toInt32 ((x4 / (65536 : Int64)) - (x4 / (65536 : Int64)) / (Int32.toInt64 x3) * (Int32.toInt64 x3))), .int (Int64.toInt32 ((x4 / (1024 : Int64)) - (x4 / (1024 : Int64)) / (100 : Int64) * (100 : Int64)))]) C0 I (kX7_comes h14) (cwV 4 C0.2.2.2.2 (gwV wd_732 wd_734 wd_28 wd_73 wd_735) rfl rfl rfl dsc_X7_comes ⟨Nat.le_of_ble_eq_true rfl, Nat.le_of_ble_eq_true rfl⟩) (mo_0 I) rfl hl.1 rfl (Nat.le_of_ble_eq_true rfl) dX7_fills_146 (fun H locs I => ?_)
  refine lv_iinc (v := (x6 + (1 : Int32))) (lv' := [(6, .int (x6 + (1 : Int32))), (7, .int s0), (0, .ref (g.2.2 0)), (1, .int x1), (3, .int x3), (4, .long x4)]) hx hb dX7_fills_149 hl (k := 5) rfl rfl (by decide) rfl (fun ls hl => ?_)
  refine lv_goto (tgt := 45) hx hb dX7_fills_152 (by decide) ?_
  obtain ⟨rfl, rfl, rfl, rfl⟩ := se4 hf
  exact Kt rfl _ _ _ I (lv_sub hl [2, 3, 4, 5, 0] rfl)
set_option maxHeartbeats 4000000 in
set_option maxRecDepth 100000 in
theorem BX7_fills_45 (C0 : CallFix p m c cX7_fills 8 s args big RX7) (hr : meth.sig.returnType = (some .int)) (hk : meth.locks = false) {x1 : Int32} {x3 : Int32} {x4 : Int64} {x6 : Int32} {b : Bool} {y4 : Int64} {y6 : Int32} (Kt : b = true → ∀ (H : Heap) (locs : List Loc) (ls : Array Slot), mI g s S' H locs → lv_has ls 8 [(0, .ref (g.2.2 0)), (1, .int x1), (3, .int x3), (4, .long y4), (6, .int y6)] → W p l e ({ frames := 1, cells := 0, slots := 0, locals := 24 } : Room) s m args below meth c H locs 0 0 Q (F0 m 45 ls [])) (Kf : b = false → ∀ (H : Heap) (locs : List Loc) (ls : Array Slot), mI g s S' H locs → lv_has ls 8 [(0, .ref (g.2.2 0)), (1, .int x1), (3, .int x3), (4, .long y4), (6, .int y6)] → W p l e ({ frames := 1, cells := 0, slots := 0, locals := 24 } : Room) s m args below meth c H locs 0 0 Q (F0 m 155 ls [])) (hf : bX7_fills_45 x1 x3 S x4 x6 = some (b, S', y4, y6)) (I : mI g s S H locs) (hl : lv_has ls 8 [(0, .ref (g.2.2 0)), (1, .int x1), (3, .int x3), (4, .long x4), (6, .int x6)]) : W p l e ({ frames := 1, cells := 0, slots := 0, locals := 24 } : Room) s m args below meth c H locs 0 0 Q (F0 m 45 ls []) := by
  obtain ⟨hx, hb, hml, -, -⟩ := id C0
  unfold bX7_fills_45 at hf
  refine lv_iload hx hb dX7_fills_45 (lv_at hl 4 rfl) ?_
  refine lv_iload_n hx hb dX7_fills_47 rfl (lv_at hl 2 rfl) ?_
  refine lv_icmp_ge (tgt := 155) hx hb dX7_fills_48 (by decide) (fun c8 => ?_) (fun c8 => ?_)
  · have hf := ip c8 hf
    obtain ⟨rfl, rfl, rfl, rfl⟩ := se4 hf
    exact Kf rfl _ _ _ I (lv_sub hl [0, 1, 2, 3, 4] rfl)
  · have hf := inn c8 hf
    refine lv_lload hx hb dX7_fills_51 (lv_at hl 3 rfl) ?_
    refine lv_ldc2 (v := 1103515245) hx hb C0.2.2.2.1 (C0.2.2.2.2 _ wd_761) dX7_fills_53 ?_
    refine lv_lmul hx hb dX7_fills_56 ?_
    refine lv_ldc2 (v := 12345) hx hb C0.2.2.2.1 (C0.2.2.2.2 _ wd_762) dX7_fills_57 ?_
    refine lv_ladd hx hb dX7_fills_60 ?_
    refine lv_ldc2 (v := 2147483648) hx hb C0.2.2.2.1 (C0.2.2.2.2 _ wd_763) dX7_fills_61 ?_
    refine lv_lrem hx hb dX7_fills_64 (by decide) ?_
    refine lv_lstore (lv' := [(4, .long (((x4 * (1103515245 : Int64)) + (12345 : Int64)) - ((x4 * (1103515245 : Int64)) + (12345 : Int64)) / (2147483648 : Int64) * (2147483648 : Int64))), (0, .ref (g.2.2 0)), (1, .int x1), (3, .int x3), (6, .int x6)]) hx hb dX7_fills_65 hl (by decide) rfl (fun ls hl => ?_)
    refine lv_iload_n hx hb dX7_fills_67 rfl (lv_at hl 2 rfl) ?_
    refine lv_if_ne (tgt := 80) hx hb dX7_fills_68 (by decide) (fun c9 => ?_) (fun c9 => ?_)
    · have hf := inn c9 hf
      refine lv_iload_n hx hb dX7_fills_80 rfl (lv_at hl 2 rfl) ?_
      refine lv_iconst (v := 1) hx hb dX7_fills_81 (by decide) ?_
      refine lv_icmp_ne (tgt := 94) hx hb dX7_fills_82 (by decide) (fun c10 => ?_) (fun c10 => ?_)
      · have hf := inn c10 hf
        refine lv_iload_n hx hb dX7_fills_94 rfl (lv_at hl 2 rfl) ?_
        refine lv_iconst (v := 2) hx hb dX7_fills_95 (by decide) ?_
        refine lv_icmp_ne (tgt := 108) hx hb dX7_fills_96 (by decide) (fun c11 => ?_) (fun c11 => ?_)
        · have hf := inn c11 hf
          refine lv_lload hx hb dX7_fills_108 (lv_at hl 0 rfl) ?_
          refine lv_ldc2 (v := 32768) hx hb C0.2.2.2.1 (C0.2.2.2.2 _ wd_768) dX7_fills_110 ?_
          refine lv_ldiv hx hb dX7_fills_113 (by decide) ?_
          refine lv_iload_n hx hb dX7_fills_114 rfl (lv_at hl 3 rfl) ?_
          refine lv_i2l hx hb dX7_fills_115 rfl ?_
          obtain ⟨n12, hf⟩ := nzl_some hf
          refine lv_lrem hx hb dX7_fills_116 n12 ?_
          refine lv_l2i hx hb dX7_fills_117 rfl ?_
          exact tX7_fills_118 C0 hr hk Kt Kf hf I (lv_sub hl [1, 2, 3, 0, 4] rfl)
        · have hf := ip c11 hf
          refine lv_iload hx hb dX7_fills_99 (lv_at hl 4 rfl) ?_
          refine lv_iconst (v := 1) hx hb dX7_fills_101 (by decide) ?_
          refine lv_iadd hx hb dX7_fills_102 ?_
          refine lv_iload_n hx hb dX7_fills_103 rfl (lv_at hl 3 rfl) ?_
          obtain ⟨n15, hf⟩ := nz_some hf
          refine lv_irem hx hb dX7_fills_104 n15 ?_
          refine lv_goto (tgt := 118) hx hb dX7_fills_105 (by decide) ?_
          exact tX7_fills_118 C0 hr hk Kt Kf hf I (lv_sub hl [1, 2, 3, 0, 4] rfl)
      · have hf := ip c10 hf
        refine lv_aload_n hx hb dX7_fills_85 rfl (lv_at hl 1 rfl) ?_
        refine lv_iload hx hb dX7_fills_86 (lv_at hl 4 rfl) ?_
        obtain ⟨r16, h16, hf⟩ := bq1_some hf
        refine mcv_i (As := [.int x6]) C0 I (kX7_turned h16) (cwV 1 C0.2.2.2.2 (gwV wd_764 wd_766 wd_31 wd_73 wd_767) rfl rfl rfl dsc_X7_turned ⟨Nat.le_of_ble_eq_true rfl, Nat.le_of_ble_eq_true rfl⟩) (mo_0 I) rfl hl.1 rfl (Nat.le_of_ble_eq_true rfl) dX7_fills_88 (fun H locs I => ?_)
        refine lv_goto (tgt := 118) hx hb dX7_fills_91 (by decide) ?_
        exact tX7_fills_118 C0 hr hk Kt Kf hf I (lv_sub hl [1, 2, 3, 0, 4] rfl)
    · have hf := ip c9 hf
      refine lv_iload_n hx hb dX7_fills_71 rfl (lv_at hl 3 rfl) ?_
      refine lv_iconst (v := 1) hx hb dX7_fills_72 (by decide) ?_
      refine lv_isub hx hb dX7_fills_73 ?_
      refine lv_iload hx hb dX7_fills_74 (lv_at hl 4 rfl) ?_
      refine lv_isub hx hb dX7_fills_76 ?_
      refine lv_goto (tgt := 118) hx hb dX7_fills_77 (by decide) ?_
      exact tX7_fills_118 C0 hr hk Kt Kf hf I (lv_sub hl [1, 2, 3, 0, 4] rfl)
set_option maxHeartbeats 4000000 in
theorem lX7_fills_45 (C0 : CallFix p m c cX7_fills 8 s args big RX7) (hr : meth.sig.returnType = (some .int)) (hk : meth.locks = false) {x1 : Int32} {x3 : Int32} {S' : St} {y4 : Int64} {y6 : Int32} : ∀ (n : Nat) {S : St} {x4 : Int64} {x6 : Int32}, lp (fun q => bX7_fills_45 x1 x3 q.1 q.2.1 q.2.2) n (S, x4, x6) = some (S', y4, y6) → ∀ {H : Heap} {locs : List Loc}, mI g s S H locs → ∀ {ls : Array Slot}, lv_has ls 8 [(0, .ref (g.2.2 0)), (1, .int x1), (3, .int x3), (4, .long x4), (6, .int x6)] → (∀ (H : Heap) (locs : List Loc) (ls : Array Slot), mI g s S' H locs → lv_has ls 8 [(0, .ref (g.2.2 0)), (1, .int x1), (3, .int x3), (4, .long y4), (6, .int y6)] → W p l e ({ frames := 1, cells := 0, slots := 0, locals := 24 } : Room) s m args below meth c H locs 0 0 Q (F0 m 155 ls [])) → W p l e ({ frames := 1, cells := 0, slots := 0, locals := 24 } : Room) s m args below meth c H locs 0 0 Q (F0 m 45 ls []) := by
  intro n
  induction n with
  | zero => intro S x4 x6 hf; cases hf
  | succ n ih =>
    intro S x4 x6 hf H locs I ls hl K
    obtain ⟨b, ⟨z0, z1, z2⟩, h1, h2, h3⟩ := lp_some hf
    refine BX7_fills_45 C0 hr hk (fun hb1 H locs ls I hl => ?_) (fun hb1 H locs ls I hl => ?_) h1 I hl
    · exact ih (h2 hb1) I hl K
    · have e := h3 hb1
      cases e
      exact K H locs ls I hl
set_option maxHeartbeats 4000000 in
set_option maxRecDepth 100000 in
theorem tX7_fills_0 (C0 : CallFix p m c cX7_fills 8 s args big RX7) (hr : meth.sig.returnType = (some .int)) (hk : meth.locks = false) {x1 : Int32} {x2 : Int32} {rr : Int32}  (hf : fX7_fills S x1 x2 = some (rr, S')) (I : mI g s S H locs) (hl : lv_has ls 8 [(0, .ref (g.2.2 0)), (1, .int x1), (2, .int x2)]) : W p l e ({ frames := 1, cells := 0, slots := 0, locals := 24 } : Room) s m args below meth c H locs 0 0 (MQ below (va_Qi (fun r' S2 => r' = rr ∧ S2 = S') (mB g) (mA g)) args s 0 0 (mA g)) (F0 m 0 ls []) := by
  obtain ⟨hx, hb, hml, -, -⟩ := id C0
  unfold fX7_fills at hf
  refine lv_iload_n hx hb dX7_fills_0 rfl (lv_at hl 1 rfl) ?_
  refine lv_iconst (v := 0) hx hb dX7_fills_1 (by decide) ?_
  refine lv_iconst (v := 3) hx hb dX7_fills_2 (by decide) ?_
  obtain ⟨r1, h1, hf⟩ := bq1_some hf
  refine mcs_i (As := [.int x1, .int (0 : Int32), .int (3 : Int32)]) C0 I (kX7_in h1) (va_cwS 3 C0.2.2.2.2 (gwS wd_702 wd_703 wd_73 wd_704) rfl rfl rfl dsc_X7_in.2 ⟨Nat.le_of_ble_eq_true rfl, Nat.le_of_ble_eq_true rfl⟩) rfl hl.1 rfl (Nat.le_of_ble_eq_true rfl) dX7_fills_3 (fun H locs I => ?_)
  refine lv_if_eq (tgt := 19) hx hb dX7_fills_6 (by decide) (fun c2 => ?_) (fun c2 => ?_)
  · have hf := ip c2 hf
    exact tX7_fills_19 C0 hr hk hf I (lv_sub hl [0] rfl)
  · have hf := inn c2 hf
    refine lv_iload_n hx hb dX7_fills_9 rfl (lv_at hl 2 rfl) ?_
    refine lv_iconst (v := 0) hx hb dX7_fills_10 (by decide) ?_
    refine lv_ldc (v := 999999) hx hb C0.2.2.2.1 (C0.2.2.2.2 _ wd_760) dX7_fills_11 ?_
    obtain ⟨r4, h4, hf⟩ := bq1_some hf
    refine mcs_i (As := [.int x2, .int (0 : Int32), .int (999999 : Int32)]) C0 I (kX7_in h4) (va_cwS 3 C0.2.2.2.2 (gwS wd_702 wd_703 wd_73 wd_704) rfl rfl rfl dsc_X7_in.2 ⟨Nat.le_of_ble_eq_true rfl, Nat.le_of_ble_eq_true rfl⟩) rfl hl.1 rfl (Nat.le_of_ble_eq_true rfl) dX7_fills_13 (fun H locs I => ?_)
    refine lv_if_ne (tgt := 24) hx hb dX7_fills_16 (by decide) (fun c5 => ?_) (fun c5 => ?_)
    · have hf := inn c5 hf
      refine lv_aload_n hx hb dX7_fills_24 rfl (lv_at hl 0 rfl) ?_
      obtain ⟨S6, h6, hf⟩ := bq1_some hf
      refine mcv_v (As := []) C0 I (kX7_leavesState h6) (cwV 0 C0.2.2.2.2 (gwV wd_709 wd_711 wd_24 wd_73 wd_712) rfl rfl rfl dsc_X7_leavesState ⟨Nat.le_of_ble_eq_true rfl, Nat.le_of_ble_eq_true rfl⟩) (mo_0 I) rfl hl.1 rfl (Nat.le_of_ble_eq_true rfl) dX7_fills_25 (fun H locs I => ?_)
      refine lv_aload_n hx hb dX7_fills_28 rfl (lv_at hl 0 rfl) ?_
      obtain ⟨r7, h7, hf⟩ := bq1_some hf
      refine mcv_i (As := []) C0 I (kX7_corners h7) (cwV 0 C0.2.2.2.2 (gwV wd_721 wd_723 wd_26 wd_73 wd_724) rfl rfl rfl dsc_X7_corners ⟨Nat.le_of_ble_eq_true rfl, Nat.le_of_ble_eq_true rfl⟩) (mo_0 I) rfl hl.1 rfl (Nat.le_of_ble_eq_true rfl) dX7_fills_29 (fun H locs I => ?_)
      refine lv_istore_n (lv' := [(3, .int r7), (0, .ref (g.2.2 0)), (1, .int x1), (2, .int x2)]) hx hb dX7_fills_32 rfl hl (by decide) rfl (fun ls hl => ?_)
      refine lv_aload_n hx hb dX7_fills_33 rfl (lv_at hl 1 rfl) ?_
      refine lv_iconst (v := 0) hx hb dX7_fills_34 (by decide) ?_
      refine mp_X7_76_0 C0 I dX7_fills_35 (fun H locs I => ?_)
      refine lv_iload_n hx hb dX7_fills_38 rfl (lv_at hl 3 rfl) ?_
      refine lv_i2l hx hb dX7_fills_39 rfl ?_
      refine lv_lstore (lv' := [(4, .long (Int32.toInt64 x2)), (3, .int r7), (0, .ref (g.2.2 0)), (1, .int x1), (2, .int x2)]) hx hb dX7_fills_40 hl (by decide) rfl (fun ls hl => ?_)
      refine lv_iconst (v := 0) hx hb dX7_fills_42 (by decide) ?_
      refine lv_istore (lv' := [(6, .int (0 : Int32)), (4, .long (Int32.toInt64 x2)), (3, .int r7), (0, .ref (g.2.2 0)), (1, .int x1), (2, .int x2)]) hx hb dX7_fills_43 hl (by decide) rfl (fun ls hl => ?_)
      obtain ⟨S17, y4_17, y6_17, h17, hf⟩ := bq3_some hf
      refine lX7_fills_45 C0 hr hk fu h17 I (lv_sub hl [3, 4, 2, 1, 0] rfl) (fun H locs ls I hl => ?_)
      refine lv_aload_n hx hb dX7_fills_155 rfl (lv_at hl 0 rfl) ?_
      refine mg_X7_76_0 C0 I dX7_fills_156 ?_
      obtain ⟨rfl, rfl⟩ := se2 hf
      exact mri C0 hr hk I dX7_fills_159
    · have hf := ip c5 hf
      exact tX7_fills_19 C0 hr hk hf I (lv_sub hl [0] rfl)
set_option maxRecDepth 100000 in
theorem kX7_fills {x1 : Int32} {x2 : Int32} {rr : Int32} (hf : fX7_fills S x1 x2 = some (rr, S')) : Met l yX7_fills (Cond.code yX7_fills cX7_fills 8 (some .int) :: big) ({ frames := 1, cells := 0, slots := 0, locals := 24 } : Room) (va_Pc [.ref (g.2.2 0), .int x1, .int x2] (mB g S)) (va_Qi (fun r' S2 => r' = rr ∧ S2 = S') (mB g) (mA g)) 0 0 (mA g) := by
  refine Met.ofW (cc := cX7_fills) (maxL := 8) (ret := (some .int)) (by decide) rfl ?_
  intro p e s m args below meth c s₁ B hml hv
  obtain ⟨rfl, hP, hK, hD⟩ := hv
  have hts0 := atoms_spec (ws := (Cond.code yX7_fills cX7_fills 8 (some .int) :: big)) B.pre
  have C0 : CallFix p m c cX7_fills 8 s _ big RX7 := ⟨B.exec, B.bytes, hml, findClass_of_methodNamed B.named, fun w h => hts0 w (List.mem_cons_of_mem _ h)⟩
  have I : mI g s S s.heap [] := ⟨hK, hP, hD, va_S.rf⟩
  have hl := lv_entry ([.ref (g.2.2 0), .int x1, .int x2]) (n := 8) (Nat.le_of_ble_eq_true rfl)
  rw [lg_entry_eq]
  generalize (lg_sl ([.ref (g.2.2 0), .int x1, .int x2]) ++ List.replicate (8 - (lg_sl ([.ref (g.2.2 0), .int x1, .int x2])).length) Slot.unset).toArray = ls at hl ⊢
  have hl : lv_has ls 8 [(0, .ref (g.2.2 0)), (1, .int x1), (2, .int x2)] := hl
  exact tX7_fills_0 C0 B.returns B.notSynchronized hf I (lv_sub hl [0, 1, 2] rfl)
set_option maxHeartbeats 4000000 in
set_option maxRecDepth 100000 in
theorem tX7_comesLeg_38 (C0 : CallFix p m c cX7_comesLeg 7 s args big RX7) (hr : meth.sig.returnType = none) (hk : meth.locks = false) {x1 : Int32} {x3 : Int32} {x4 : Int32} {x5 : Int32} {s0 : Int32} {b : Bool} {y4 : Int32} {y5 : Int32} (Kt : b = true → ∀ (H : Heap) (locs : List Loc) (ls : Array Slot), mI g s S' H locs → lv_has ls 7 [(0, .ref (g.2.2 0)), (1, .int x1), (3, .int x3), (4, .int y4), (5, .int y5)] → W p l e ({ frames := 0, cells := 0, slots := 0, locals := 0 } : Room) s m args below meth c H locs 0 0 Q (F0 m 6 ls [])) (Kf : b = false → ∀ (H : Heap) (locs : List Loc) (ls : Array Slot), mI g s S' H locs → lv_has ls 7 [(0, .ref (g.2.2 0)), (1, .int x1), (3, .int x3), (4, .int y4), (5, .int y5)] → W p l e ({ frames := 0, cells := 0, slots := 0, locals := 0 } : Room) s m args below meth c H locs 0 0 Q (F0 m 96 ls [])) (hf : fX7_comesLeg_38 S x1 x3 x4 x5 s0 = some (b, S', y4, y5)) (I : mI g s S H locs) (hl : lv_has ls 7 [(0, .ref (g.2.2 0)), (1, .int x1), (3, .int x3), (4, .int x4), (5, .int x5)]) : W p l e ({ frames := 0, cells := 0, slots := 0, locals := 0 } : Room) s m args below meth c H locs 0 0 Q (F0 m 38 ls [.int s0]) := by
  obtain ⟨hx, hb, hml, -, -⟩ := id C0
  unfold fX7_comesLeg_38 at hf
  refine lv_istore (lv' := [(6, .int s0), (0, .ref (g.2.2 0)), (1, .int x1), (3, .int x3), (4, .int x4), (5, .int x5)]) hx hb dX7_comesLeg_38 hl (by decide) rfl (fun ls hl => ?_)
  refine lv_iload hx hb dX7_comesLeg_40 (lv_at hl 4 rfl) ?_
  refine lv_iload_n hx hb dX7_comesLeg_42 rfl (lv_at hl 3 rfl) ?_
  refine lv_ixor hx hb dX7_comesLeg_43 ?_
  refine lv_iload hx hb dX7_comesLeg_44 (lv_at hl 0 rfl) ?_
  refine lv_ishr hx hb dX7_comesLeg_46 ?_
  refine lv_iconst (v := 1) hx hb dX7_comesLeg_47 (by decide) ?_
  refine lv_iand hx hb dX7_comesLeg_48 ?_
  refine lv_iconst (v := 1) hx hb dX7_comesLeg_49 (by decide) ?_
  refine lv_icmp_ne (tgt := 90) hx hb dX7_comesLeg_50 (by decide) (fun c3 => ?_) (fun c3 => ?_)
  · have hf := inn c3 hf
    refine lv_iinc (v := (x5 + (1 : Int32))) (lv' := [(5, .int (x5 + (1 : Int32))), (6, .int s0), (0, .ref (g.2.2 0)), (1, .int x1), (3, .int x3), (4, .int x4)]) hx hb dX7_comesLeg_90 hl (k := 5) rfl rfl (by decide) rfl (fun ls hl => ?_)
    refine lv_goto (tgt := 6) hx hb dX7_comesLeg_93 (by decide) ?_
    obtain ⟨rfl, rfl, rfl, rfl⟩ := se4 hf
    exact Kt rfl _ _ _ I (lv_sub hl [2, 3, 4, 5, 0] rfl)
  · have hf := ip c3 hf
    refine lv_iload hx hb dX7_comesLeg_53 (lv_at hl 4 rfl) ?_
    refine lv_iconst (v := 1) hx hb dX7_comesLeg_55 (by decide) ?_
    refine lv_iload hx hb dX7_comesLeg_56 (lv_at hl 0 rfl) ?_
    refine lv_ishl hx hb dX7_comesLeg_58 ?_
    refine lv_ixor hx hb dX7_comesLeg_59 ?_
    refine lv_istore (lv' := [(4, .int (x4 ^^^ ((1 : Int32) <<< (s0 &&& (31 : Int32))))), (6, .int s0), (0, .ref (g.2.2 0)), (1, .int x1), (3, .int x3), (5, .int x5)]) hx hb dX7_comesLeg_60 hl (by decide) rfl (fun ls hl => ?_)
    refine lv_aload_n hx hb dX7_comesLeg_62 rfl (lv_at hl 2 rfl) ?_
    refine mg_X7_35_0 C0 I dX7_comesLeg_63 ?_
    refine lv_iload_n hx hb dX7_comesLeg_66 rfl (lv_at hl 3 rfl) ?_
    refine lv_dup2_11 hx hb dX7_comesLeg_67 rfl rfl ?_
    obtain ⟨b4, hf⟩ := chk_some hf
    refine ml_8 hx hb I b4 dX7_comesLeg_68 ?_
    refine lv_iconst (v := 1) hx hb dX7_comesLeg_69 (by decide) ?_
    refine lv_iadd hx hb dX7_comesLeg_70 ?_
    obtain ⟨b5, hf⟩ := chk_some hf
    refine ms_8 hx hb I b5 dX7_comesLeg_71 (fun H locs I => ?_)
    refine lv_aload_n hx hb dX7_comesLeg_72 rfl (lv_at hl 2 rfl) ?_
    refine mg_X7_41_0 C0 I dX7_comesLeg_73 ?_
    refine lv_bipush (v := 9) hx hb dX7_comesLeg_76 (by decide) ?_
    refine lv_iload_n hx hb dX7_comesLeg_78 rfl (lv_at hl 3 rfl) ?_
    refine lv_imul hx hb dX7_comesLeg_79 ?_
    refine lv_aload_n hx hb dX7_comesLeg_80 rfl (lv_at hl 2 rfl) ?_
    refine mg_X7_35_0 C0 I dX7_comesLeg_81 ?_
    refine lv_iload_n hx hb dX7_comesLeg_84 rfl (lv_at hl 3 rfl) ?_
    obtain ⟨b6, hf⟩ := chk_some hf
    refine ml_8 hx hb I b6 dX7_comesLeg_85 ?_
    refine lv_iadd hx hb dX7_comesLeg_86 ?_
    refine lv_iload hx hb dX7_comesLeg_87 (lv_at hl 0 rfl) ?_
    obtain ⟨b7, hf⟩ := chk_some hf
    refine ms_10 hx hb I b7 dX7_comesLeg_89 (fun H locs I => ?_)
    refine lv_iinc (v := (x5 + (1 : Int32))) (lv' := [(5, .int (x5 + (1 : Int32))), (4, .int (x4 ^^^ ((1 : Int32) <<< (s0 &&& (31 : Int32))))), (6, .int s0), (0, .ref (g.2.2 0)), (1, .int x1), (3, .int x3)]) hx hb dX7_comesLeg_90 hl (k := 5) rfl rfl (by decide) rfl (fun ls hl => ?_)
    refine lv_goto (tgt := 6) hx hb dX7_comesLeg_93 (by decide) ?_
    obtain ⟨rfl, rfl, rfl, rfl⟩ := se4 hf
    exact Kt rfl _ _ _ I (lv_sub hl [3, 4, 5, 1, 0] rfl)
set_option maxHeartbeats 4000000 in
set_option maxRecDepth 100000 in
theorem BX7_comesLeg_6 (C0 : CallFix p m c cX7_comesLeg 7 s args big RX7) (hr : meth.sig.returnType = none) (hk : meth.locks = false) {x1 : Int32} {x3 : Int32} {x4 : Int32} {x5 : Int32} {b : Bool} {y4 : Int32} {y5 : Int32} (Kt : b = true → ∀ (H : Heap) (locs : List Loc) (ls : Array Slot), mI g s S' H locs → lv_has ls 7 [(0, .ref (g.2.2 0)), (1, .int x1), (3, .int x3), (4, .int y4), (5, .int y5)] → W p l e ({ frames := 0, cells := 0, slots := 0, locals := 0 } : Room) s m args below meth c H locs 0 0 Q (F0 m 6 ls [])) (Kf : b = false → ∀ (H : Heap) (locs : List Loc) (ls : Array Slot), mI g s S' H locs → lv_has ls 7 [(0, .ref (g.2.2 0)), (1, .int x1), (3, .int x3), (4, .int y4), (5, .int y5)] → W p l e ({ frames := 0, cells := 0, slots := 0, locals := 0 } : Room) s m args below meth c H locs 0 0 Q (F0 m 96 ls [])) (hf : bX7_comesLeg_6 x1 x3 S x4 x5 = some (b, S', y4, y5)) (I : mI g s S H locs) (hl : lv_has ls 7 [(0, .ref (g.2.2 0)), (1, .int x1), (3, .int x3), (4, .int x4), (5, .int x5)]) : W p l e ({ frames := 0, cells := 0, slots := 0, locals := 0 } : Room) s m args below meth c H locs 0 0 Q (F0 m 6 ls []) := by
  obtain ⟨hx, hb, hml, -, -⟩ := id C0
  unfold bX7_comesLeg_6 at hf
  refine lv_iload hx hb dX7_comesLeg_6 (lv_at hl 4 rfl) ?_
  refine lv_aload_n hx hb dX7_comesLeg_8 rfl (lv_at hl 0 rfl) ?_
  refine mg_X7_13_0 C0 I dX7_comesLeg_9 ?_
  refine lv_icmp_ge (tgt := 96) hx hb dX7_comesLeg_12 (by decide) (fun c1 => ?_) (fun c1 => ?_)
  · have hf := ip c1 hf
    obtain ⟨rfl, rfl, rfl, rfl⟩ := se4 hf
    exact Kf rfl _ _ _ I (lv_sub hl [0, 1, 2, 3, 4] rfl)
  · have hf := inn c1 hf
    refine lv_aload_n hx hb dX7_comesLeg_15 rfl (lv_at hl 0 rfl) ?_
    refine mg_X7_17_0 C0 I dX7_comesLeg_16 ?_
    refine lv_iconst (v := 0) hx hb dX7_comesLeg_19 (by decide) ?_
    refine ml_2 hx hb I (in_lit rfl) dX7_comesLeg_20 ?_
    refine lv_if_ne (tgt := 29) hx hb dX7_comesLeg_21 (by decide) (fun c2 => ?_) (fun c2 => ?_)
    · have hf := inn c2 hf
      refine lv_aload_n hx hb dX7_comesLeg_29 rfl (lv_at hl 0 rfl) ?_
      refine mg_X7_13_0 C0 I dX7_comesLeg_30 ?_
      refine lv_iconst (v := 1) hx hb dX7_comesLeg_33 (by decide) ?_
      refine lv_isub hx hb dX7_comesLeg_34 ?_
      refine lv_iload hx hb dX7_comesLeg_35 (lv_at hl 4 rfl) ?_
      refine lv_isub hx hb dX7_comesLeg_37 ?_
      exact tX7_comesLeg_38 C0 hr hk Kt Kf hf I (lv_sub hl [0, 1, 2, 3, 4] rfl)
    · have hf := ip c2 hf
      refine lv_iload hx hb dX7_comesLeg_24 (lv_at hl 4 rfl) ?_
      refine lv_goto (tgt := 38) hx hb dX7_comesLeg_26 (by decide) ?_
      exact tX7_comesLeg_38 C0 hr hk Kt Kf hf I (lv_sub hl [0, 1, 2, 3, 4] rfl)
set_option maxHeartbeats 4000000 in
theorem lX7_comesLeg_6 (C0 : CallFix p m c cX7_comesLeg 7 s args big RX7) (hr : meth.sig.returnType = none) (hk : meth.locks = false) {x1 : Int32} {x3 : Int32} {S' : St} {y4 : Int32} {y5 : Int32} : ∀ (n : Nat) {S : St} {x4 : Int32} {x5 : Int32}, lp (fun q => bX7_comesLeg_6 x1 x3 q.1 q.2.1 q.2.2) n (S, x4, x5) = some (S', y4, y5) → ∀ {H : Heap} {locs : List Loc}, mI g s S H locs → ∀ {ls : Array Slot}, lv_has ls 7 [(0, .ref (g.2.2 0)), (1, .int x1), (3, .int x3), (4, .int x4), (5, .int x5)] → (∀ (H : Heap) (locs : List Loc) (ls : Array Slot), mI g s S' H locs → lv_has ls 7 [(0, .ref (g.2.2 0)), (1, .int x1), (3, .int x3), (4, .int y4), (5, .int y5)] → W p l e ({ frames := 0, cells := 0, slots := 0, locals := 0 } : Room) s m args below meth c H locs 0 0 Q (F0 m 96 ls [])) → W p l e ({ frames := 0, cells := 0, slots := 0, locals := 0 } : Room) s m args below meth c H locs 0 0 Q (F0 m 6 ls []) := by
  intro n
  induction n with
  | zero => intro S x4 x5 hf; cases hf
  | succ n ih =>
    intro S x4 x5 hf H locs I ls hl K
    obtain ⟨b, ⟨z0, z1, z2⟩, h1, h2, h3⟩ := lp_some hf
    refine BX7_comesLeg_6 C0 hr hk (fun hb1 H locs ls I hl => ?_) (fun hb1 H locs ls I hl => ?_) h1 I hl
    · exact ih (h2 hb1) I hl K
    · have e := h3 hb1
      cases e
      exact K H locs ls I hl
set_option maxHeartbeats 4000000 in
set_option maxRecDepth 100000 in
theorem tX7_comesLeg_0 (C0 : CallFix p m c cX7_comesLeg 7 s args big RX7) (hr : meth.sig.returnType = none) (hk : meth.locks = false) {x1 : Int32} {x2 : Int32} {x3 : Int32}  (hf : fX7_comesLeg S x1 x2 x3 = some S') (I : mI g s S H locs) (hl : lv_has ls 7 [(0, .ref (g.2.2 0)), (1, .int x1), (2, .int x2), (3, .int x3)]) : W p l e ({ frames := 0, cells := 0, slots := 0, locals := 0 } : Room) s m args below meth c H locs 0 0 (MQ below (va_Qv (fun S2 => S2 = S') (mB g) (mA g)) args s 0 0 (mA g)) (F0 m 0 ls []) := by
  obtain ⟨hx, hb, hml, -, -⟩ := id C0
  unfold fX7_comesLeg at hf
  refine lv_iload_n hx hb dX7_comesLeg_0 rfl (lv_at hl 2 rfl) ?_
  refine lv_istore (lv' := [(4, .int x2), (0, .ref (g.2.2 0)), (1, .int x1), (2, .int x2), (3, .int x3)]) hx hb dX7_comesLeg_1 hl (by decide) rfl (fun ls hl => ?_)
  refine lv_iconst (v := 0) hx hb dX7_comesLeg_3 (by decide) ?_
  refine lv_istore (lv' := [(5, .int (0 : Int32)), (4, .int x2), (0, .ref (g.2.2 0)), (1, .int x1), (2, .int x2), (3, .int x3)]) hx hb dX7_comesLeg_4 hl (by decide) rfl (fun ls hl => ?_)
  obtain ⟨S8, y4_8, y5_8, h8, hf⟩ := bq3_some hf
  refine lX7_comesLeg_6 C0 hr hk fu h8 I (lv_sub hl [2, 3, 5, 1, 0] rfl) (fun H locs ls I hl => ?_)
  obtain rfl := se1 hf
  exact mrv C0 hr hk I dX7_comesLeg_96
set_option maxRecDepth 100000 in
theorem kX7_comesLeg {x1 : Int32} {x2 : Int32} {x3 : Int32}  (hf : fX7_comesLeg S x1 x2 x3 = some S') : Met l yX7_comesLeg (Cond.code yX7_comesLeg cX7_comesLeg 7 none :: big) ({ frames := 0, cells := 0, slots := 0, locals := 0 } : Room) (va_Pc [.ref (g.2.2 0), .int x1, .int x2, .int x3] (mB g S)) (va_Qv (fun S2 => S2 = S') (mB g) (mA g)) 0 0 (mA g) := by
  refine Met.ofW (cc := cX7_comesLeg) (maxL := 7) (ret := none) (by decide) rfl ?_
  intro p e s m args below meth c s₁ B hml hv
  obtain ⟨rfl, hP, hK, hD⟩ := hv
  have hts0 := atoms_spec (ws := (Cond.code yX7_comesLeg cX7_comesLeg 7 none :: big)) B.pre
  have C0 : CallFix p m c cX7_comesLeg 7 s _ big RX7 := ⟨B.exec, B.bytes, hml, findClass_of_methodNamed B.named, fun w h => hts0 w (List.mem_cons_of_mem _ h)⟩
  have I : mI g s S s.heap [] := ⟨hK, hP, hD, va_S.rf⟩
  have hl := lv_entry ([.ref (g.2.2 0), .int x1, .int x2, .int x3]) (n := 7) (Nat.le_of_ble_eq_true rfl)
  rw [lg_entry_eq]
  generalize (lg_sl ([.ref (g.2.2 0), .int x1, .int x2, .int x3]) ++ List.replicate (7 - (lg_sl ([.ref (g.2.2 0), .int x1, .int x2, .int x3])).length) Slot.unset).toArray = ls at hl ⊢
  have hl : lv_has ls 7 [(0, .ref (g.2.2 0)), (1, .int x1), (2, .int x2), (3, .int x3)] := hl
  exact tX7_comesLeg_0 C0 B.returns B.notSynchronized hf I (lv_sub hl [0, 1, 2, 3] rfl)
set_option maxHeartbeats 4000000 in
set_option maxRecDepth 100000 in
theorem tX7_setWay_0 (C0 : CallFix p m c cX7_setWay 3 s args big RX7) (hr : meth.sig.returnType = none) (hk : meth.locks = false) {x1 : Int32} {x2 : Int32}  (hf : fX7_setWay S x1 x2 = some S') (I : mI g s S H locs) (hl : lv_has ls 3 [(0, .ref (g.2.2 0)), (1, .int x1), (2, .int x2)]) : W p l e ({ frames := 1, cells := 0, slots := 0, locals := 26 } : Room) s m args below meth c H locs 0 0 (MQ below (va_Qv (fun S2 => S2 = S') (mB g) (mA g)) args s 0 0 (mA g)) (F0 m 0 ls []) := by
  obtain ⟨hx, hb, hml, -, -⟩ := id C0
  unfold fX7_setWay at hf
  refine lv_aload_n hx hb dX7_setWay_0 rfl (lv_at hl 0 rfl) ?_
  refine mg_X7_35_0 C0 I dX7_setWay_1 ?_
  refine lv_iload_n hx hb dX7_setWay_4 rfl (lv_at hl 1 rfl) ?_
  refine lv_iconst (v := 0) hx hb dX7_setWay_5 (by decide) ?_
  obtain ⟨b1, hf⟩ := chk_some hf
  refine ms_8 hx hb I b1 dX7_setWay_6 (fun H locs I => ?_)
  refine lv_aload_n hx hb dX7_setWay_7 rfl (lv_at hl 0 rfl) ?_
  refine mg_X7_41_0 C0 I dX7_setWay_8 ?_
  refine lv_bipush (v := 9) hx hb dX7_setWay_11 (by decide) ?_
  refine lv_iload_n hx hb dX7_setWay_13 rfl (lv_at hl 1 rfl) ?_
  refine lv_imul hx hb dX7_setWay_14 ?_
  refine lv_aload_n hx hb dX7_setWay_15 rfl (lv_at hl 0 rfl) ?_
  refine mg_X7_20_0 C0 I dX7_setWay_16 ?_
  refine lv_iload_n hx hb dX7_setWay_19 rfl (lv_at hl 1 rfl) ?_
  obtain ⟨b2, hf⟩ := chk_some hf
  refine ml_3 hx hb I b2 dX7_setWay_20 ?_
  obtain ⟨b3, hf⟩ := chk_some hf
  refine ms_10 hx hb I b3 dX7_setWay_21 (fun H locs I => ?_)
  refine lv_aload_n hx hb dX7_setWay_22 rfl (lv_at hl 0 rfl) ?_
  refine lv_iload_n hx hb dX7_setWay_23 rfl (lv_at hl 1 rfl) ?_
  refine lv_aload_n hx hb dX7_setWay_24 rfl (lv_at hl 0 rfl) ?_
  refine mg_X7_20_0 C0 I dX7_setWay_25 ?_
  refine lv_iload_n hx hb dX7_setWay_28 rfl (lv_at hl 1 rfl) ?_
  obtain ⟨b4, hf⟩ := chk_some hf
  refine ml_3 hx hb I b4 dX7_setWay_29 ?_
  refine lv_iload_n hx hb dX7_setWay_30 rfl (lv_at hl 2 rfl) ?_
  obtain ⟨S5, h5, hf⟩ := bq1_some hf
  refine mcv_v (As := [.int x1, .int (gR S 2 x1), .int x2]) C0 I (kX7_comesLeg h5) (cwV 3 C0.2.2.2.2 (gwV wd_788 wd_790 wd_35 wd_73 wd_791) rfl rfl rfl dsc_X7_comesLeg ⟨Nat.le_of_ble_eq_true rfl, Nat.le_of_ble_eq_true rfl⟩) (mo_0 I) rfl hl.1 rfl (Nat.le_of_ble_eq_true rfl) dX7_setWay_31 (fun H locs I => ?_)
  refine lv_aload_n hx hb dX7_setWay_34 rfl (lv_at hl 0 rfl) ?_
  refine mg_X7_38_0 C0 I dX7_setWay_35 ?_
  refine lv_iload_n hx hb dX7_setWay_38 rfl (lv_at hl 1 rfl) ?_
  refine lv_aload_n hx hb dX7_setWay_39 rfl (lv_at hl 0 rfl) ?_
  refine mg_X7_35_0 C0 I dX7_setWay_40 ?_
  refine lv_iload_n hx hb dX7_setWay_43 rfl (lv_at hl 1 rfl) ?_
  obtain ⟨b6, hf⟩ := chk_some hf
  refine ml_8 hx hb I b6 dX7_setWay_44 ?_
  obtain ⟨b7, hf⟩ := chk_some hf
  refine ms_9 hx hb I b7 dX7_setWay_45 (fun H locs I => ?_)
  refine lv_aload_n hx hb dX7_setWay_46 rfl (lv_at hl 0 rfl) ?_
  refine lv_iload_n hx hb dX7_setWay_47 rfl (lv_at hl 1 rfl) ?_
  refine lv_iload_n hx hb dX7_setWay_48 rfl (lv_at hl 2 rfl) ?_
  refine lv_aload_n hx hb dX7_setWay_49 rfl (lv_at hl 0 rfl) ?_
  refine mg_X7_23_0 C0 I dX7_setWay_50 ?_
  refine lv_iload_n hx hb dX7_setWay_53 rfl (lv_at hl 1 rfl) ?_
  obtain ⟨b8, hf⟩ := chk_some hf
  refine ml_4 hx hb I b8 dX7_setWay_54 ?_
  obtain ⟨S9, h9, hf⟩ := bq1_some hf
  refine mcv_v (As := [.int x1, .int x2, .int (gR S5 3 x1)]) C0 I (kX7_comesLeg h9) (cwV 3 C0.2.2.2.2 (gwV wd_788 wd_790 wd_35 wd_73 wd_791) rfl rfl rfl dsc_X7_comesLeg ⟨Nat.le_of_ble_eq_true rfl, Nat.le_of_ble_eq_true rfl⟩) (mo_0 I) rfl hl.1 rfl (Nat.le_of_ble_eq_true rfl) dX7_setWay_55 (fun H locs I => ?_)
  obtain rfl := se1 hf
  exact mrv C0 hr hk I dX7_setWay_58
set_option maxRecDepth 100000 in
theorem kX7_setWay {x1 : Int32} {x2 : Int32}  (hf : fX7_setWay S x1 x2 = some S') : Met l yX7_setWay (Cond.code yX7_setWay cX7_setWay 3 none :: big) ({ frames := 1, cells := 0, slots := 0, locals := 26 } : Room) (va_Pc [.ref (g.2.2 0), .int x1, .int x2] (mB g S)) (va_Qv (fun S2 => S2 = S') (mB g) (mA g)) 0 0 (mA g) := by
  refine Met.ofW (cc := cX7_setWay) (maxL := 3) (ret := none) (by decide) rfl ?_
  intro p e s m args below meth c s₁ B hml hv
  obtain ⟨rfl, hP, hK, hD⟩ := hv
  have hts0 := atoms_spec (ws := (Cond.code yX7_setWay cX7_setWay 3 none :: big)) B.pre
  have C0 : CallFix p m c cX7_setWay 3 s _ big RX7 := ⟨B.exec, B.bytes, hml, findClass_of_methodNamed B.named, fun w h => hts0 w (List.mem_cons_of_mem _ h)⟩
  have I : mI g s S s.heap [] := ⟨hK, hP, hD, va_S.rf⟩
  have hl := lv_entry ([.ref (g.2.2 0), .int x1, .int x2]) (n := 3) (Nat.le_of_ble_eq_true rfl)
  rw [lg_entry_eq]
  generalize (lg_sl ([.ref (g.2.2 0), .int x1, .int x2]) ++ List.replicate (3 - (lg_sl ([.ref (g.2.2 0), .int x1, .int x2])).length) Slot.unset).toArray = ls at hl ⊢
  have hl : lv_has ls 3 [(0, .ref (g.2.2 0)), (1, .int x1), (2, .int x2)] := hl
  exact tX7_setWay_0 C0 B.returns B.notSynchronized hf I (lv_sub hl [0, 1, 2] rfl)
set_option maxHeartbeats 4000000 in
set_option maxRecDepth 100000 in
theorem BX7_setWays_2 (C0 : CallFix p m c cX7_setWays 2 s args big RX7) (hr : meth.sig.returnType = none) (hk : meth.locks = false) {x1 : Int32} {b : Bool} {y1 : Int32} (Kt : b = true → ∀ (H : Heap) (locs : List Loc) (ls : Array Slot), mI g s S' H locs → lv_has ls 2 [(0, .ref (g.2.2 0)), (1, .int y1)] → W p l e ({ frames := 2, cells := 0, slots := 0, locals := 48 } : Room) s m args below meth c H locs 0 0 Q (F0 m 2 ls [])) (Kf : b = false → ∀ (H : Heap) (locs : List Loc) (ls : Array Slot), mI g s S' H locs → lv_has ls 2 [(0, .ref (g.2.2 0)), (1, .int y1)] → W p l e ({ frames := 2, cells := 0, slots := 0, locals := 48 } : Room) s m args below meth c H locs 0 0 Q (F0 m 27 ls [])) (hf : bX7_setWays_2 S x1 = some (b, S', y1)) (I : mI g s S H locs) (hl : lv_has ls 2 [(0, .ref (g.2.2 0)), (1, .int x1)]) : W p l e ({ frames := 2, cells := 0, slots := 0, locals := 48 } : Room) s m args below meth c H locs 0 0 Q (F0 m 2 ls []) := by
  obtain ⟨hx, hb, hml, -, -⟩ := id C0
  unfold bX7_setWays_2 at hf
  refine lv_iload_n hx hb dX7_setWays_2 rfl (lv_at hl 1 rfl) ?_
  refine lv_aload_n hx hb dX7_setWays_3 rfl (lv_at hl 0 rfl) ?_
  refine mg_X7_76_0 C0 I dX7_setWays_4 ?_
  refine lv_icmp_ge (tgt := 27) hx hb dX7_setWays_7 (by decide) (fun c1 => ?_) (fun c1 => ?_)
  · have hf := ip c1 hf
    obtain ⟨rfl, rfl, rfl⟩ := se3 hf
    exact Kf rfl _ _ _ I (lv_sub hl [0, 1] rfl)
  · have hf := inn c1 hf
    refine lv_aload_n hx hb dX7_setWays_10 rfl (lv_at hl 0 rfl) ?_
    refine lv_iload_n hx hb dX7_setWays_11 rfl (lv_at hl 1 rfl) ?_
    refine lv_aload_n hx hb dX7_setWays_12 rfl (lv_at hl 0 rfl) ?_
    refine mg_X7_26_0 C0 I dX7_setWays_13 ?_
    refine lv_iload_n hx hb dX7_setWays_16 rfl (lv_at hl 1 rfl) ?_
    obtain ⟨b2, hf⟩ := chk_some hf
    refine ml_5 hx hb I b2 dX7_setWays_17 ?_
    obtain ⟨S3, h3, hf⟩ := bq1_some hf
    refine mcv_v (As := [.int x1, .int (gR S 4 x1)]) C0 I (kX7_setWay h3) (cwV 2 C0.2.2.2.2 (gwV wd_784 wd_786 wd_34 wd_73 wd_787) rfl rfl rfl dsc_X7_setWay ⟨Nat.le_of_ble_eq_true rfl, Nat.le_of_ble_eq_true rfl⟩) (mo_0 I) rfl hl.1 rfl (Nat.le_of_ble_eq_true rfl) dX7_setWays_18 (fun H locs I => ?_)
    refine lv_iinc (v := (x1 + (1 : Int32))) (lv' := [(1, .int (x1 + (1 : Int32))), (0, .ref (g.2.2 0))]) hx hb dX7_setWays_21 hl (k := 1) rfl rfl (by decide) rfl (fun ls hl => ?_)
    refine lv_goto (tgt := 2) hx hb dX7_setWays_24 (by decide) ?_
    obtain ⟨rfl, rfl, rfl⟩ := se3 hf
    exact Kt rfl _ _ _ I (lv_sub hl [1, 0] rfl)
set_option maxHeartbeats 4000000 in
theorem lX7_setWays_2 (C0 : CallFix p m c cX7_setWays 2 s args big RX7) (hr : meth.sig.returnType = none) (hk : meth.locks = false)  {S' : St} {y1 : Int32} : ∀ (n : Nat) {S : St} {x1 : Int32}, lp (fun q => bX7_setWays_2 q.1 q.2) n (S, x1) = some (S', y1) → ∀ {H : Heap} {locs : List Loc}, mI g s S H locs → ∀ {ls : Array Slot}, lv_has ls 2 [(0, .ref (g.2.2 0)), (1, .int x1)] → (∀ (H : Heap) (locs : List Loc) (ls : Array Slot), mI g s S' H locs → lv_has ls 2 [(0, .ref (g.2.2 0)), (1, .int y1)] → W p l e ({ frames := 2, cells := 0, slots := 0, locals := 48 } : Room) s m args below meth c H locs 0 0 Q (F0 m 27 ls [])) → W p l e ({ frames := 2, cells := 0, slots := 0, locals := 48 } : Room) s m args below meth c H locs 0 0 Q (F0 m 2 ls []) := by
  intro n
  induction n with
  | zero => intro S x1 hf; cases hf
  | succ n ih =>
    intro S x1 hf H locs I ls hl K
    obtain ⟨b, ⟨z0, z1⟩, h1, h2, h3⟩ := lp_some hf
    refine BX7_setWays_2 C0 hr hk (fun hb1 H locs ls I hl => ?_) (fun hb1 H locs ls I hl => ?_) h1 I hl
    · exact ih (h2 hb1) I hl K
    · have e := h3 hb1
      cases e
      exact K H locs ls I hl
set_option maxHeartbeats 4000000 in
set_option maxRecDepth 100000 in
theorem tX7_setWays_0 (C0 : CallFix p m c cX7_setWays 2 s args big RX7) (hr : meth.sig.returnType = none) (hk : meth.locks = false)   (hf : fX7_setWays S = some S') (I : mI g s S H locs) (hl : lv_has ls 2 [(0, .ref (g.2.2 0))]) : W p l e ({ frames := 2, cells := 0, slots := 0, locals := 48 } : Room) s m args below meth c H locs 0 0 (MQ below (va_Qv (fun S2 => S2 = S') (mB g) (mA g)) args s 0 0 (mA g)) (F0 m 0 ls []) := by
  obtain ⟨hx, hb, hml, -, -⟩ := id C0
  unfold fX7_setWays at hf
  refine lv_iconst (v := 0) hx hb dX7_setWays_0 (by decide) ?_
  refine lv_istore_n (lv' := [(1, .int (0 : Int32)), (0, .ref (g.2.2 0))]) hx hb dX7_setWays_1 rfl hl (by decide) rfl (fun ls hl => ?_)
  obtain ⟨S4, y1_4, h4, hf⟩ := bq2_some hf
  refine lX7_setWays_2 C0 hr hk fu h4 I (lv_sub hl [1, 0] rfl) (fun H locs ls I hl => ?_)
  obtain rfl := se1 hf
  exact mrv C0 hr hk I dX7_setWays_27
set_option maxRecDepth 100000 in
theorem kX7_setWays   (hf : fX7_setWays S  = some S') : Met l yX7_setWays (Cond.code yX7_setWays cX7_setWays 2 none :: big) ({ frames := 2, cells := 0, slots := 0, locals := 48 } : Room) (va_Pc [.ref (g.2.2 0)] (mB g S)) (va_Qv (fun S2 => S2 = S') (mB g) (mA g)) 0 0 (mA g) := by
  refine Met.ofW (cc := cX7_setWays) (maxL := 2) (ret := none) (by decide) rfl ?_
  intro p e s m args below meth c s₁ B hml hv
  obtain ⟨rfl, hP, hK, hD⟩ := hv
  have hts0 := atoms_spec (ws := (Cond.code yX7_setWays cX7_setWays 2 none :: big)) B.pre
  have C0 : CallFix p m c cX7_setWays 2 s _ big RX7 := ⟨B.exec, B.bytes, hml, findClass_of_methodNamed B.named, fun w h => hts0 w (List.mem_cons_of_mem _ h)⟩
  have I : mI g s S s.heap [] := ⟨hK, hP, hD, va_S.rf⟩
  have hl := lv_entry ([.ref (g.2.2 0)]) (n := 2) (Nat.le_of_ble_eq_true rfl)
  rw [lg_entry_eq]
  generalize (lg_sl ([.ref (g.2.2 0)]) ++ List.replicate (2 - (lg_sl ([.ref (g.2.2 0)])).length) Slot.unset).toArray = ls at hl ⊢
  have hl : lv_has ls 2 [(0, .ref (g.2.2 0))] := hl
  exact tX7_setWays_0 C0 B.returns B.notSynchronized hf I (lv_sub hl [0] rfl)
set_option maxHeartbeats 4000000 in
set_option maxRecDepth 100000 in
theorem tX7_edgeOf_0 (C0 : CallFix p m c cX7_edgeOf 5 s args big RX7) (hr : meth.sig.returnType = (some .int)) (hk : meth.locks = false) {x1 : Int32} {x2 : Int32} {rr : Int32}  (hf : fX7_edgeOf S x1 x2 = some rr) (I : mI g s S H locs) (hl : lv_has ls 5 [(0, .ref (g.2.2 0)), (1, .int x1), (2, .int x2)]) : W p l e ({ frames := 0, cells := 0, slots := 0, locals := 0 } : Room) s m args below meth c H locs 0 0 (MQ below (va_Qi (fun r' S2 => r' = rr ∧ S2 = S) (mB g) (mA g)) args s 0 0 (mA g)) (F0 m 0 ls []) := by
  obtain ⟨hx, hb, hml, -, -⟩ := id C0
  unfold fX7_edgeOf at hf
  refine lv_aload_n hx hb dX7_edgeOf_0 rfl (lv_at hl 0 rfl) ?_
  refine mg_X7_41_0 C0 I dX7_edgeOf_1 ?_
  refine lv_bipush (v := 9) hx hb dX7_edgeOf_4 (by decide) ?_
  refine lv_iload_n hx hb dX7_edgeOf_6 rfl (lv_at hl 1 rfl) ?_
  refine lv_imul hx hb dX7_edgeOf_7 ?_
  refine lv_iload_n hx hb dX7_edgeOf_8 rfl (lv_at hl 2 rfl) ?_
  refine lv_iadd hx hb dX7_edgeOf_9 ?_
  obtain ⟨b1, hf⟩ := chk_some hf
  refine ml_10 hx hb I b1 dX7_edgeOf_10 ?_
  refine lv_istore_n (lv' := [(3, .int (gR S 9 (((9 : Int32) * x1) + x2))), (0, .ref (g.2.2 0)), (1, .int x1), (2, .int x2)]) hx hb dX7_edgeOf_11 rfl hl (by decide) rfl (fun ls hl => ?_)
  refine lv_iload_n hx hb dX7_edgeOf_12 rfl (lv_at hl 0 rfl) ?_
  refine lv_aload_n hx hb dX7_edgeOf_13 rfl (lv_at hl 1 rfl) ?_
  refine mg_X7_41_0 C0 I dX7_edgeOf_14 ?_
  refine lv_bipush (v := 9) hx hb dX7_edgeOf_17 (by decide) ?_
  refine lv_iload_n hx hb dX7_edgeOf_19 rfl (lv_at hl 2 rfl) ?_
  refine lv_imul hx hb dX7_edgeOf_20 ?_
  refine lv_iload_n hx hb dX7_edgeOf_21 rfl (lv_at hl 3 rfl) ?_
  refine lv_iadd hx hb dX7_edgeOf_22 ?_
  refine lv_iconst (v := 1) hx hb dX7_edgeOf_23 (by decide) ?_
  refine lv_iadd hx hb dX7_edgeOf_24 ?_
  obtain ⟨b2, hf⟩ := chk_some hf
  refine ml_10 hx hb I b2 dX7_edgeOf_25 ?_
  refine lv_ixor hx hb dX7_edgeOf_26 ?_
  refine lv_istore (lv' := [(4, .int ((gR S 9 (((9 : Int32) * x1) + x2)) ^^^ (gR S 9 ((((9 : Int32) * x1) + x2) + (1 : Int32))))), (3, .int (gR S 9 (((9 : Int32) * x1) + x2))), (0, .ref (g.2.2 0)), (1, .int x1), (2, .int x2)]) hx hb dX7_edgeOf_27 hl (by decide) rfl (fun ls hl => ?_)
  refine lv_iconst (v := 4) hx hb dX7_edgeOf_29 (by decide) ?_
  refine lv_iload_n hx hb dX7_edgeOf_30 rfl (lv_at hl 1 rfl) ?_
  refine lv_imul hx hb dX7_edgeOf_31 ?_
  refine lv_iload hx hb dX7_edgeOf_32 (lv_at hl 0 rfl) ?_
  refine lv_iconst (v := 1) hx hb dX7_edgeOf_34 (by decide) ?_
  refine lv_icmp_ne (tgt := 42) hx hb dX7_edgeOf_35 (by decide) (fun c3 => ?_) (fun c3 => ?_)
  · have hf := inn c3 hf
    refine lv_iload hx hb dX7_edgeOf_42 (lv_at hl 0 rfl) ?_
    refine lv_iconst (v := 2) hx hb dX7_edgeOf_44 (by decide) ?_
    refine lv_icmp_ne (tgt := 52) hx hb dX7_edgeOf_45 (by decide) (fun c4 => ?_) (fun c4 => ?_)
    · have hf := inn c4 hf
      refine lv_iload hx hb dX7_edgeOf_52 (lv_at hl 0 rfl) ?_
      refine lv_iconst (v := 4) hx hb dX7_edgeOf_54 (by decide) ?_
      refine lv_icmp_ne (tgt := 62) hx hb dX7_edgeOf_55 (by decide) (fun c5 => ?_) (fun c5 => ?_)
      · have hf := inn c5 hf
        refine lv_iconst (v := 3) hx hb dX7_edgeOf_62 (by decide) ?_
        refine lv_iadd hx hb dX7_edgeOf_63 ?_
        obtain rfl := se1 hf
        exact mri C0 hr hk I dX7_edgeOf_64
      · have hf := ip c5 hf
        refine lv_iconst (v := 2) hx hb dX7_edgeOf_58 (by decide) ?_
        refine lv_goto (tgt := 63) hx hb dX7_edgeOf_59 (by decide) ?_
        refine lv_iadd hx hb dX7_edgeOf_63 ?_
        obtain rfl := se1 hf
        exact mri C0 hr hk I dX7_edgeOf_64
    · have hf := ip c4 hf
      refine lv_iconst (v := 1) hx hb dX7_edgeOf_48 (by decide) ?_
      refine lv_goto (tgt := 63) hx hb dX7_edgeOf_49 (by decide) ?_
      refine lv_iadd hx hb dX7_edgeOf_63 ?_
      obtain rfl := se1 hf
      exact mri C0 hr hk I dX7_edgeOf_64
  · have hf := ip c3 hf
    refine lv_iconst (v := 0) hx hb dX7_edgeOf_38 (by decide) ?_
    refine lv_goto (tgt := 63) hx hb dX7_edgeOf_39 (by decide) ?_
    refine lv_iadd hx hb dX7_edgeOf_63 ?_
    obtain rfl := se1 hf
    exact mri C0 hr hk I dX7_edgeOf_64
set_option maxRecDepth 100000 in
theorem kX7_edgeOf {x1 : Int32} {x2 : Int32} {rr : Int32} (hf : fX7_edgeOf S x1 x2 = some rr) : Met l yX7_edgeOf (Cond.code yX7_edgeOf cX7_edgeOf 5 (some .int) :: big) ({ frames := 0, cells := 0, slots := 0, locals := 0 } : Room) (va_Pc [.ref (g.2.2 0), .int x1, .int x2] (mB g S)) (va_Qi (fun r' S2 => r' = rr ∧ S2 = S) (mB g) (mA g)) 0 0 (mA g) := by
  refine Met.ofW (cc := cX7_edgeOf) (maxL := 5) (ret := (some .int)) (by decide) rfl ?_
  intro p e s m args below meth c s₁ B hml hv
  obtain ⟨rfl, hP, hK, hD⟩ := hv
  have hts0 := atoms_spec (ws := (Cond.code yX7_edgeOf cX7_edgeOf 5 (some .int) :: big)) B.pre
  have C0 : CallFix p m c cX7_edgeOf 5 s _ big RX7 := ⟨B.exec, B.bytes, hml, findClass_of_methodNamed B.named, fun w h => hts0 w (List.mem_cons_of_mem _ h)⟩
  have I : mI g s S s.heap [] := ⟨hK, hP, hD, va_S.rf⟩
  have hl := lv_entry ([.ref (g.2.2 0), .int x1, .int x2]) (n := 5) (Nat.le_of_ble_eq_true rfl)
  rw [lg_entry_eq]
  generalize (lg_sl ([.ref (g.2.2 0), .int x1, .int x2]) ++ List.replicate (5 - (lg_sl ([.ref (g.2.2 0), .int x1, .int x2])).length) Slot.unset).toArray = ls at hl ⊢
  have hl : lv_has ls 5 [(0, .ref (g.2.2 0)), (1, .int x1), (2, .int x2)] := hl
  exact tX7_edgeOf_0 C0 B.returns B.notSynchronized hf I (lv_sub hl [0, 1, 2] rfl)
set_option maxHeartbeats 4000000 in
set_option maxRecDepth 100000 in
theorem BX7_uses_5 (C0 : CallFix p m c cX7_uses 5 s args big RX7) (hr : meth.sig.returnType = (some .boolean)) (hk : meth.locks = false) {x1 : Int32} {x2 : Int32} {x3 : Int32} {x4 : Int32} {b : Bool} {y3 : Int32} {y4 : Int32} (Kt : b = true → ∀ (H : Heap) (locs : List Loc) (ls : Array Slot), mI g s S H locs → lv_has ls 5 [(0, .ref (g.2.2 0)), (1, .int x1), (2, .int x2), (3, .int y3), (4, .int y4)] → W p l e ({ frames := 1, cells := 0, slots := 0, locals := 24 } : Room) s m args below meth c H locs 0 0 Q (F0 m 5 ls [])) (Kf : b = false → ∀ (H : Heap) (locs : List Loc) (ls : Array Slot), mI g s S H locs → lv_has ls 5 [(0, .ref (g.2.2 0)), (1, .int x1), (2, .int x2), (3, .int y3), (4, .int y4)] → W p l e ({ frames := 1, cells := 0, slots := 0, locals := 24 } : Room) s m args below meth c H locs 0 0 Q (F0 m 43 ls [])) (hf : bX7_uses_5 S x1 x2 x3 x4 = some (b, y3, y4)) (I : mI g s S H locs) (hl : lv_has ls 5 [(0, .ref (g.2.2 0)), (1, .int x1), (2, .int x2), (3, .int x3), (4, .int x4)]) : W p l e ({ frames := 1, cells := 0, slots := 0, locals := 24 } : Room) s m args below meth c H locs 0 0 Q (F0 m 5 ls []) := by
  obtain ⟨hx, hb, hml, -, -⟩ := id C0
  unfold bX7_uses_5 at hf
  refine lv_iload hx hb dX7_uses_5 (lv_at hl 4 rfl) ?_
  refine lv_aload_n hx hb dX7_uses_7 rfl (lv_at hl 0 rfl) ?_
  refine mg_X7_35_0 C0 I dX7_uses_8 ?_
  refine lv_iload_n hx hb dX7_uses_11 rfl (lv_at hl 1 rfl) ?_
  obtain ⟨b1, hf⟩ := chk_some hf
  refine ml_8 hx hb I b1 dX7_uses_12 ?_
  refine lv_icmp_ge (tgt := 43) hx hb dX7_uses_13 (by decide) (fun c2 => ?_) (fun c2 => ?_)
  · have hf := ip c2 hf
    obtain ⟨rfl, rfl, rfl⟩ := se3 hf
    exact Kf rfl _ _ _ I (lv_sub hl [0, 1, 2, 3, 4] rfl)
  · have hf := inn c2 hf
    refine lv_iload_n hx hb dX7_uses_16 rfl (lv_at hl 3 rfl) ?_
    refine lv_if_ne (tgt := 31) hx hb dX7_uses_17 (by decide) (fun c3 => ?_) (fun c3 => ?_)
    · have hf := inn c3 hf
      refine lv_iconst (v := 1) hx hb dX7_uses_31 (by decide) ?_
      refine lv_goto (tgt := 36) hx hb dX7_uses_32 (by decide) ?_
      refine lv_istore_n (lv' := [(3, .int (1 : Int32)), (0, .ref (g.2.2 0)), (1, .int x1), (2, .int x2), (4, .int x4)]) hx hb dX7_uses_36 rfl hl (by decide) rfl (fun ls hl => ?_)
      refine lv_iinc (v := (x4 + (1 : Int32))) (lv' := [(4, .int (x4 + (1 : Int32))), (3, .int (1 : Int32)), (0, .ref (g.2.2 0)), (1, .int x1), (2, .int x2)]) hx hb dX7_uses_37 hl (k := 4) rfl rfl (by decide) rfl (fun ls hl => ?_)
      refine lv_goto (tgt := 5) hx hb dX7_uses_40 (by decide) ?_
      obtain ⟨rfl, rfl, rfl⟩ := se3 hf
      exact Kt rfl _ _ _ I (lv_sub hl [2, 3, 4, 1, 0] rfl)
    · have hf := ip c3 hf
      refine lv_aload_n hx hb dX7_uses_20 rfl (lv_at hl 0 rfl) ?_
      refine lv_iload_n hx hb dX7_uses_21 rfl (lv_at hl 1 rfl) ?_
      refine lv_iload hx hb dX7_uses_22 (lv_at hl 4 rfl) ?_
      obtain ⟨r4, h4, hf⟩ := bq1_some hf
      refine mcv_i (As := [.int x1, .int x4]) C0 I (kX7_edgeOf h4) (cwV 2 C0.2.2.2.2 (gwV wd_796 wd_798 wd_37 wd_73 wd_799) rfl rfl rfl dsc_X7_edgeOf ⟨Nat.le_of_ble_eq_true rfl, Nat.le_of_ble_eq_true rfl⟩) (mo_0 I) rfl hl.1 rfl (Nat.le_of_ble_eq_true rfl) dX7_uses_24 (fun H locs I => ?_)
      refine lv_iload_n hx hb dX7_uses_27 rfl (lv_at hl 2 rfl) ?_
      refine lv_icmp_ne (tgt := 35) hx hb dX7_uses_28 (by decide) (fun c5 => ?_) (fun c5 => ?_)
      · have hf := inn c5 hf
        refine lv_iconst (v := 0) hx hb dX7_uses_35 (by decide) ?_
        refine lv_istore_n (lv' := [(3, .int (0 : Int32)), (0, .ref (g.2.2 0)), (1, .int x1), (2, .int x2), (4, .int x4)]) hx hb dX7_uses_36 rfl hl (by decide) rfl (fun ls hl => ?_)
        refine lv_iinc (v := (x4 + (1 : Int32))) (lv' := [(4, .int (x4 + (1 : Int32))), (3, .int (0 : Int32)), (0, .ref (g.2.2 0)), (1, .int x1), (2, .int x2)]) hx hb dX7_uses_37 hl (k := 4) rfl rfl (by decide) rfl (fun ls hl => ?_)
        refine lv_goto (tgt := 5) hx hb dX7_uses_40 (by decide) ?_
        obtain ⟨rfl, rfl, rfl⟩ := se3 hf
        exact Kt rfl _ _ _ I (lv_sub hl [2, 3, 4, 1, 0] rfl)
      · have hf := ip c5 hf
        refine lv_iconst (v := 1) hx hb dX7_uses_31 (by decide) ?_
        refine lv_goto (tgt := 36) hx hb dX7_uses_32 (by decide) ?_
        refine lv_istore_n (lv' := [(3, .int (1 : Int32)), (0, .ref (g.2.2 0)), (1, .int x1), (2, .int x2), (4, .int x4)]) hx hb dX7_uses_36 rfl hl (by decide) rfl (fun ls hl => ?_)
        refine lv_iinc (v := (x4 + (1 : Int32))) (lv' := [(4, .int (x4 + (1 : Int32))), (3, .int (1 : Int32)), (0, .ref (g.2.2 0)), (1, .int x1), (2, .int x2)]) hx hb dX7_uses_37 hl (k := 4) rfl rfl (by decide) rfl (fun ls hl => ?_)
        refine lv_goto (tgt := 5) hx hb dX7_uses_40 (by decide) ?_
        obtain ⟨rfl, rfl, rfl⟩ := se3 hf
        exact Kt rfl _ _ _ I (lv_sub hl [2, 3, 4, 1, 0] rfl)
set_option maxHeartbeats 4000000 in
theorem lX7_uses_5 (C0 : CallFix p m c cX7_uses 5 s args big RX7) (hr : meth.sig.returnType = (some .boolean)) (hk : meth.locks = false) {S : St} {x1 : Int32} {x2 : Int32} {y3 : Int32} {y4 : Int32} : ∀ (n : Nat) {x3 : Int32} {x4 : Int32}, lp (fun q => bX7_uses_5 S x1 x2 q.1 q.2) n (x3, x4) = some (y3, y4) → ∀ {H : Heap} {locs : List Loc}, mI g s S H locs → ∀ {ls : Array Slot}, lv_has ls 5 [(0, .ref (g.2.2 0)), (1, .int x1), (2, .int x2), (3, .int x3), (4, .int x4)] → (∀ (H : Heap) (locs : List Loc) (ls : Array Slot), mI g s S H locs → lv_has ls 5 [(0, .ref (g.2.2 0)), (1, .int x1), (2, .int x2), (3, .int y3), (4, .int y4)] → W p l e ({ frames := 1, cells := 0, slots := 0, locals := 24 } : Room) s m args below meth c H locs 0 0 Q (F0 m 43 ls [])) → W p l e ({ frames := 1, cells := 0, slots := 0, locals := 24 } : Room) s m args below meth c H locs 0 0 Q (F0 m 5 ls []) := by
  intro n
  induction n with
  | zero => intro x3 x4 hf; cases hf
  | succ n ih =>
    intro x3 x4 hf H locs I ls hl K
    obtain ⟨b, ⟨z0, z1⟩, h1, h2, h3⟩ := lp_some hf
    refine BX7_uses_5 C0 hr hk (fun hb1 H locs ls I hl => ?_) (fun hb1 H locs ls I hl => ?_) h1 I hl
    · exact ih (h2 hb1) I hl K
    · have e := h3 hb1
      cases e
      exact K H locs ls I hl
set_option maxHeartbeats 4000000 in
set_option maxRecDepth 100000 in
theorem tX7_uses_0 (C0 : CallFix p m c cX7_uses 5 s args big RX7) (hr : meth.sig.returnType = (some .boolean)) (hk : meth.locks = false) {x1 : Int32} {x2 : Int32} {rr : Int32}  (hf : fX7_uses S x1 x2 = some rr) (I : mI g s S H locs) (hl : lv_has ls 5 [(0, .ref (g.2.2 0)), (1, .int x1), (2, .int x2)]) : W p l e ({ frames := 1, cells := 0, slots := 0, locals := 24 } : Room) s m args below meth c H locs 0 0 (MQ below (va_Qi (fun r' S2 => r' = rr ∧ S2 = S) (mB g) (mA g)) args s 0 0 (mA g)) (F0 m 0 ls []) := by
  obtain ⟨hx, hb, hml, -, -⟩ := id C0
  unfold fX7_uses at hf
  refine lv_iconst (v := 0) hx hb dX7_uses_0 (by decide) ?_
  refine lv_istore_n (lv' := [(3, .int (0 : Int32)), (0, .ref (g.2.2 0)), (1, .int x1), (2, .int x2)]) hx hb dX7_uses_1 rfl hl (by decide) rfl (fun ls hl => ?_)
  refine lv_iconst (v := 0) hx hb dX7_uses_2 (by decide) ?_
  refine lv_istore (lv' := [(4, .int (0 : Int32)), (3, .int (0 : Int32)), (0, .ref (g.2.2 0)), (1, .int x1), (2, .int x2)]) hx hb dX7_uses_3 hl (by decide) rfl (fun ls hl => ?_)
  obtain ⟨y3_6, y4_6, h6, hf⟩ := bq2_some hf
  refine lX7_uses_5 C0 hr hk fu h6 I (lv_sub hl [2, 3, 4, 1, 0] rfl) (fun H locs ls I hl => ?_)
  refine lv_iload_n hx hb dX7_uses_43 rfl (lv_at hl 3 rfl) ?_
  obtain ⟨z7, hf⟩ := zb_some hf
  obtain rfl := se1 hf
  exact mrz C0 hr hk z7 I dX7_uses_44
set_option maxRecDepth 100000 in
theorem kX7_uses {x1 : Int32} {x2 : Int32} {rr : Int32} (hf : fX7_uses S x1 x2 = some rr) : Met l yX7_uses (Cond.code yX7_uses cX7_uses 5 (some .boolean) :: big) ({ frames := 1, cells := 0, slots := 0, locals := 24 } : Room) (va_Pc [.ref (g.2.2 0), .int x1, .int x2] (mB g S)) (va_Qi (fun r' S2 => r' = rr ∧ S2 = S) (mB g) (mA g)) 0 0 (mA g) := by
  refine Met.ofW (cc := cX7_uses) (maxL := 5) (ret := (some .boolean)) (by decide) rfl ?_
  intro p e s m args below meth c s₁ B hml hv
  obtain ⟨rfl, hP, hK, hD⟩ := hv
  have hts0 := atoms_spec (ws := (Cond.code yX7_uses cX7_uses 5 (some .boolean) :: big)) B.pre
  have C0 : CallFix p m c cX7_uses 5 s _ big RX7 := ⟨B.exec, B.bytes, hml, findClass_of_methodNamed B.named, fun w h => hts0 w (List.mem_cons_of_mem _ h)⟩
  have I : mI g s S s.heap [] := ⟨hK, hP, hD, va_S.rf⟩
  have hl := lv_entry ([.ref (g.2.2 0), .int x1, .int x2]) (n := 5) (Nat.le_of_ble_eq_true rfl)
  rw [lg_entry_eq]
  generalize (lg_sl ([.ref (g.2.2 0), .int x1, .int x2]) ++ List.replicate (5 - (lg_sl ([.ref (g.2.2 0), .int x1, .int x2])).length) Slot.unset).toArray = ls at hl ⊢
  have hl : lv_has ls 5 [(0, .ref (g.2.2 0)), (1, .int x1), (2, .int x2)] := hl
  exact tX7_uses_0 C0 B.returns B.notSynchronized hf I (lv_sub hl [0, 1, 2] rfl)
end
