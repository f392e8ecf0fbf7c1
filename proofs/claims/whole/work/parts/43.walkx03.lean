section
variable {p : Program} {l : Launch} {e : Env} {s : State} {m : MethodId} {args : Array Value} {below : List Frame} {meth : Method} {c : Code} {Q : State → Prop} {g : xG} {H : Heap} {locs : List Loc} {ls : Array Slot} {S S' : St}
set_option maxHeartbeats 4000000 in
set_option maxRecDepth 100000 in
theorem tX6_loads_9 (C0 : CallFix p m c cX6_loads 2 s args big RX6) (hr : meth.sig.returnType = (some .int)) (hk : meth.locks = false)  {rr : Int32}  (hf : fX6_loads_9 S = some (rr, S')) (I : xI g s S H locs) (hl : lv_has ls 2 [(0, .ref (g.2.2 0))]) : W p l e ({ frames := 4, cells := 0, slots := 0, locals := 95 } : Room) s m args below meth c H locs 0 0 (MQ below (va_Qi (fun r' S2 => r' = rr ∧ S2 = S') (xB g) (xA g)) args s 0 0 (xA g)) (F0 m 9 ls []) := by
  obtain ⟨hx, hb, hml, -, -⟩ := id C0
  unfold fX6_loads_9 at hf
  refine lv_aload_n hx hb dX6_loads_9 rfl (lv_at hl 0 rfl) ?_
  refine lv_bipush (v := -2) hx hb dX6_loads_10 (by decide) ?_
  obtain ⟨r2, S2, h2, hf⟩ := bq2_some hf
  refine xcv_i (As := [.int (-2 : Int32)]) C0 I (kX6_refuse h2) (cwV 1 C0.2.2.2.2 (gwV wd_272 wd_274 wd_0 wd_66 wd_275) rfl rfl rfl dsc_X6_refuse ⟨Nat.le_of_ble_eq_true rfl, Nat.le_of_ble_eq_true rfl⟩) (xo_0 I) rfl hl.1 rfl (Nat.le_of_ble_eq_true rfl) dX6_loads_12 (fun H locs I => ?_)
  obtain ⟨rfl, rfl⟩ := se2 hf
  exact xri C0 hr hk I dX6_loads_15
set_option maxHeartbeats 4000000 in
set_option maxRecDepth 100000 in
theorem tX6_loads_0 (C0 : CallFix p m c cX6_loads 2 s args big RX6) (hr : meth.sig.returnType = (some .int)) (hk : meth.locks = false) {x1 : Int32} {rr : Int32}  (hf : fX6_loads S x1 = some (rr, S')) (I : xI g s S H locs) (hl : lv_has ls 2 [(0, .ref (g.2.2 0)), (1, .int x1)]) : W p l e ({ frames := 4, cells := 0, slots := 0, locals := 95 } : Room) s m args below meth c H locs 0 0 (MQ below (va_Qi (fun r' S2 => r' = rr ∧ S2 = S') (xB g) (xA g)) args s 0 0 (xA g)) (F0 m 0 ls []) := by
  obtain ⟨hx, hb, hml, -, -⟩ := id C0
  unfold fX6_loads at hf
  refine lv_iload_n hx hb dX6_loads_0 rfl (lv_at hl 1 rfl) ?_
  refine lv_if_lt (tgt := 9) hx hb dX6_loads_1 (by decide) (fun c1 => ?_) (fun c1 => ?_)
  · have hf := ip c1 hf
    exact tX6_loads_9 C0 hr hk hf I (lv_sub hl [0] rfl)
  · have hf := inn c1 hf
    refine lv_iload_n hx hb dX6_loads_4 rfl (lv_at hl 1 rfl) ?_
    refine lv_iconst (v := 3) hx hb dX6_loads_5 (by decide) ?_
    refine lv_icmp_le (tgt := 16) hx hb dX6_loads_6 (by decide) (fun c3 => ?_) (fun c3 => ?_)
    · have hf := ip c3 hf
      refine lv_aload_n hx hb dX6_loads_16 rfl (lv_at hl 0 rfl) ?_
      obtain ⟨S4, h4, hf⟩ := bq1_some hf
      refine xcv_v (As := []) C0 I (kX6_tallyWays h4) (cwV 0 C0.2.2.2.2 (gwV wd_393 wd_395 wd_3 wd_66 wd_396) rfl rfl rfl dsc_X6_tallyWays ⟨Nat.le_of_ble_eq_true rfl, Nat.le_of_ble_eq_true rfl⟩) (xo_0 I) rfl hl.1 rfl (Nat.le_of_ble_eq_true rfl) dX6_loads_17 (fun H locs I => ?_)
      refine lv_aload_n hx hb dX6_loads_20 rfl (lv_at hl 0 rfl) ?_
      refine lv_iload_n hx hb dX6_loads_21 rfl (lv_at hl 1 rfl) ?_
      obtain ⟨r5, h5, hf⟩ := bq1_some hf
      refine xcv_i (As := [.int x1]) C0 I (kX6_loadsFact h5) (cwV 1 C0.2.2.2.2 (gwV wd_413 wd_415 wd_4 wd_66 wd_416) rfl rfl rfl dsc_X6_loadsFact ⟨Nat.le_of_ble_eq_true rfl, Nat.le_of_ble_eq_true rfl⟩) (xo_0 I) rfl hl.1 rfl (Nat.le_of_ble_eq_true rfl) dX6_loads_22 (fun H locs I => ?_)
      obtain ⟨rfl, rfl⟩ := se2 hf
      exact xri C0 hr hk I dX6_loads_25
    · have hf := inn c3 hf
      exact tX6_loads_9 C0 hr hk hf I (lv_sub hl [0] rfl)
set_option maxRecDepth 100000 in
theorem kX6_loads {x1 : Int32} {rr : Int32} (hf : fX6_loads S x1 = some (rr, S')) : Met l yX6_loads (Cond.code yX6_loads cX6_loads 2 (some .int) :: big) ({ frames := 4, cells := 0, slots := 0, locals := 95 } : Room) (va_Pc [.ref (g.2.2 0), .int x1] (xB g S)) (va_Qi (fun r' S2 => r' = rr ∧ S2 = S') (xB g) (xA g)) 0 0 (xA g) := by
  refine Met.ofW (cc := cX6_loads) (maxL := 2) (ret := (some .int)) (by decide) rfl ?_
  intro p e s m args below meth c s₁ B hml hv
  obtain ⟨rfl, hP, hK, hD⟩ := hv
  have hts0 := atoms_spec (ws := (Cond.code yX6_loads cX6_loads 2 (some .int) :: big)) B.pre
  have C0 : CallFix p m c cX6_loads 2 s _ big RX6 := ⟨B.exec, B.bytes, hml, findClass_of_methodNamed B.named, fun w h => hts0 w (List.mem_cons_of_mem _ h)⟩
  have I : xI g s S s.heap [] := ⟨hK, hP, hD, va_S.rf⟩
  have hl := lv_entry ([.ref (g.2.2 0), .int x1]) (n := 2) (Nat.le_of_ble_eq_true rfl)
  rw [lg_entry_eq]
  generalize (lg_sl ([.ref (g.2.2 0), .int x1]) ++ List.replicate (2 - (lg_sl ([.ref (g.2.2 0), .int x1])).length) Slot.unset).toArray = ls at hl ⊢
  have hl : lv_has ls 2 [(0, .ref (g.2.2 0)), (1, .int x1)] := hl
  exact tX6_loads_0 C0 B.returns B.notSynchronized hf I (lv_sub hl [0, 1] rfl)
set_option maxHeartbeats 4000000 in
set_option maxRecDepth 100000 in
theorem BX6_addDrawn_11 (C0 : CallFix p m c cX6_addDrawn 5 s args big RX6) (hr : meth.sig.returnType = none) (hk : meth.locks = false) {x1 : Int32} {x2 : Int32} {x3 : Int32} {x4 : Int32} {b : Bool} {y4 : Int32} (Kt : b = true → ∀ (H : Heap) (locs : List Loc) (ls : Array Slot), xI g s S' H locs → lv_has ls 5 [(0, .ref (g.2.2 0)), (1, .int x1), (2, .int x2), (3, .int x3), (4, .int y4)] → W p l e ({ frames := 2, cells := 0, slots := 0, locals := 52 } : Room) s m args below meth c H locs 0 0 Q (F0 m 11 ls [])) (Kf : b = false → ∀ (H : Heap) (locs : List Loc) (ls : Array Slot), xI g s S' H locs → lv_has ls 5 [(0, .ref (g.2.2 0)), (1, .int x1), (2, .int x2), (3, .int x3), (4, .int y4)] → W p l e ({ frames := 2, cells := 0, slots := 0, locals := 52 } : Room) s m args below meth c H locs 0 0 Q (F0 m 50 ls [])) (hf : bX6_addDrawn_11 x1 x2 x3 S x4 = some (b, S', y4)) (I : xI g s S H locs) (hl : lv_has ls 5 [(0, .ref (g.2.2 0)), (1, .int x1), (2, .int x2), (3, .int x3), (4, .int x4)]) : W p l e ({ frames := 2, cells := 0, slots := 0, locals := 52 } : Room) s m args below meth c H locs 0 0 Q (F0 m 11 ls []) := by
  obtain ⟨hx, hb, hml, -, -⟩ := id C0
  unfold bX6_addDrawn_11 at hf
  refine lv_iload hx hb dX6_addDrawn_11 (lv_at hl 4 rfl) ?_
  refine lv_iload_n hx hb dX6_addDrawn_13 rfl (lv_at hl 3 rfl) ?_
  refine lv_icmp_ge (tgt := 50) hx hb dX6_addDrawn_14 (by decide) (fun c2 => ?_) (fun c2 => ?_)
  · have hf := ip c2 hf
    obtain ⟨rfl, rfl, rfl⟩ := se3 hf
    exact Kf rfl _ _ _ I (lv_sub hl [0, 1, 2, 3, 4] rfl)
  · have hf := inn c2 hf
    refine lv_aload_n hx hb dX6_addDrawn_17 rfl (lv_at hl 0 rfl) ?_
    refine xg_X6_26_0 C0 I dX6_addDrawn_18 ?_
    refine lv_aload_n hx hb dX6_addDrawn_21 rfl (lv_at hl 0 rfl) ?_
    refine xg_X6_10_0 C0 I dX6_addDrawn_22 ?_
    refine lv_iload_n hx hb dX6_addDrawn_25 rfl (lv_at hl 1 rfl) ?_
    refine lv_iload hx hb dX6_addDrawn_26 (lv_at hl 4 rfl) ?_
    obtain ⟨S3, h3, hf⟩ := bq1_some hf
    refine xcv_v (As := [.ref (g.2.2 1), .int x1, .int x4]) C0 I (kX5_trace h3) (cwV 3 C0.2.2.2.2 (gwV wd_437 wd_358 wd_359 wd_69 wd_360) rfl rfl rfl dsc_X5_trace ⟨Nat.le_of_ble_eq_true rfl, Nat.le_of_ble_eq_true rfl⟩) (xo_17 I) rfl hl.1 rfl (Nat.le_of_ble_eq_true rfl) dX6_addDrawn_28 (fun H locs I => ?_)
    refine lv_aload_n hx hb dX6_addDrawn_31 rfl (lv_at hl 0 rfl) ?_
    refine xg_X6_33_0 C0 I dX6_addDrawn_32 ?_
    refine lv_aload_n hx hb dX6_addDrawn_35 rfl (lv_at hl 0 rfl) ?_
    refine xg_X6_26_0 C0 I dX6_addDrawn_36 ?_
    refine lv_iload_n hx hb dX6_addDrawn_39 rfl (lv_at hl 1 rfl) ?_
    refine lv_iload_n hx hb dX6_addDrawn_40 rfl (lv_at hl 2 rfl) ?_
    obtain ⟨S4, h4, hf⟩ := bq1_some hf
    refine xcv_v (As := [.ref (g.2.2 17), .int x1, .int x2]) C0 I (kX1_add h4) (cwV 3 C0.2.2.2.2 (gwV wd_404 wd_405 wd_406 wd_70 wd_407) rfl rfl rfl dsc_X1_add ⟨Nat.le_of_ble_eq_true rfl, Nat.le_of_ble_eq_true rfl⟩) (xo_22 I) rfl hl.1 rfl (Nat.le_of_ble_eq_true rfl) dX6_addDrawn_41 (fun H locs I => ?_)
    refine lv_iinc (v := (x4 + (1 : Int32))) (lv' := [(4, .int (x4 + (1 : Int32))), (0, .ref (g.2.2 0)), (1, .int x1), (2, .int x2), (3, .int x3)]) hx hb dX6_addDrawn_44 hl (k := 4) rfl rfl (by decide) rfl (fun ls hl => ?_)
    refine lv_goto (tgt := 11) hx hb dX6_addDrawn_47 (by decide) ?_
    obtain ⟨rfl, rfl, rfl⟩ := se3 hf
    exact Kt rfl _ _ _ I (lv_sub hl [1, 2, 3, 4, 0] rfl)
set_option maxHeartbeats 4000000 in
theorem lX6_addDrawn_11 (C0 : CallFix p m c cX6_addDrawn 5 s args big RX6) (hr : meth.sig.returnType = none) (hk : meth.locks = false) {x1 : Int32} {x2 : Int32} {x3 : Int32} {S' : St} {y4 : Int32} : ∀ (n : Nat) {S : St} {x4 : Int32}, lp (fun q => bX6_addDrawn_11 x1 x2 x3 q.1 q.2) n (S, x4) = some (S', y4) → ∀ {H : Heap} {locs : List Loc}, xI g s S H locs → ∀ {ls : Array Slot}, lv_has ls 5 [(0, .ref (g.2.2 0)), (1, .int x1), (2, .int x2), (3, .int x3), (4, .int x4)] → (∀ (H : Heap) (locs : List Loc) (ls : Array Slot), xI g s S' H locs → lv_has ls 5 [(0, .ref (g.2.2 0)), (1, .int x1), (2, .int x2), (3, .int x3), (4, .int y4)] → W p l e ({ frames := 2, cells := 0, slots := 0, locals := 52 } : Room) s m args below meth c H locs 0 0 Q (F0 m 50 ls [])) → W p l e ({ frames := 2, cells := 0, slots := 0, locals := 52 } : Room) s m args below meth c H locs 0 0 Q (F0 m 11 ls []) := by
  intro n
  induction n with
  | zero => intro S x4 hf; cases hf
  | succ n ih =>
    intro S x4 hf H locs I ls hl K
    obtain ⟨b, ⟨z0, z1⟩, h1, h2, h3⟩ := lp_some hf
    refine BX6_addDrawn_11 C0 hr hk (fun hb1 H locs ls I hl => ?_) (fun hb1 H locs ls I hl => ?_) h1 I hl
    · exact ih (h2 hb1) I hl K
    · have e := h3 hb1
      cases e
      exact K H locs ls I hl
set_option maxHeartbeats 4000000 in
set_option maxRecDepth 100000 in
theorem tX6_addDrawn_0 (C0 : CallFix p m c cX6_addDrawn 5 s args big RX6) (hr : meth.sig.returnType = none) (hk : meth.locks = false) {x1 : Int32} {x2 : Int32}  (hf : fX6_addDrawn S x1 x2 = some S') (I : xI g s S H locs) (hl : lv_has ls 5 [(0, .ref (g.2.2 0)), (1, .int x1), (2, .int x2)]) : W p l e ({ frames := 2, cells := 0, slots := 0, locals := 52 } : Room) s m args below meth c H locs 0 0 (MQ below (va_Qv (fun S2 => S2 = S') (xB g) (xA g)) args s 0 0 (xA g)) (F0 m 0 ls []) := by
  obtain ⟨hx, hb, hml, -, -⟩ := id C0
  unfold fX6_addDrawn at hf
  refine lv_aload_n hx hb dX6_addDrawn_0 rfl (lv_at hl 0 rfl) ?_
  refine xg_X6_10_0 C0 I dX6_addDrawn_1 ?_
  obtain ⟨r1, h1, hf⟩ := bq1_some hf
  refine xcv_i (As := []) C0 I (kX3_corners h1) (cwV 0 C0.2.2.2.2 (gwV wd_336 wd_299 wd_300 wd_67 wd_301) rfl rfl rfl dsc_X3_corners ⟨Nat.le_of_ble_eq_true rfl, Nat.le_of_ble_eq_true rfl⟩) (xo_1 I) rfl hl.1 rfl (Nat.le_of_ble_eq_true rfl) dX6_addDrawn_4 (fun H locs I => ?_)
  refine lv_istore_n (lv' := [(3, .int r1), (0, .ref (g.2.2 0)), (1, .int x1), (2, .int x2)]) hx hb dX6_addDrawn_7 rfl hl (by decide) rfl (fun ls hl => ?_)
  refine lv_iconst (v := 0) hx hb dX6_addDrawn_8 (by decide) ?_
  refine lv_istore (lv' := [(4, .int (0 : Int32)), (3, .int r1), (0, .ref (g.2.2 0)), (1, .int x1), (2, .int x2)]) hx hb dX6_addDrawn_9 hl (by decide) rfl (fun ls hl => ?_)
  obtain ⟨S5, y4_5, h5, hf⟩ := bq2_some hf
  refine lX6_addDrawn_11 C0 hr hk fu h5 I (lv_sub hl [2, 3, 4, 1, 0] rfl) (fun H locs ls I hl => ?_)
  obtain rfl := se1 hf
  exact xrv C0 hr hk I dX6_addDrawn_50
set_option maxRecDepth 100000 in
theorem kX6_addDrawn {x1 : Int32} {x2 : Int32}  (hf : fX6_addDrawn S x1 x2 = some S') : Met l yX6_addDrawn (Cond.code yX6_addDrawn cX6_addDrawn 5 none :: big) ({ frames := 2, cells := 0, slots := 0, locals := 52 } : Room) (va_Pc [.ref (g.2.2 0), .int x1, .int x2] (xB g S)) (va_Qv (fun S2 => S2 = S') (xB g) (xA g)) 0 0 (xA g) := by
  refine Met.ofW (cc := cX6_addDrawn) (maxL := 5) (ret := none) (by decide) rfl ?_
  intro p e s m args below meth c s₁ B hml hv
  obtain ⟨rfl, hP, hK, hD⟩ := hv
  have hts0 := atoms_spec (ws := (Cond.code yX6_addDrawn cX6_addDrawn 5 none :: big)) B.pre
  have C0 : CallFix p m c cX6_addDrawn 5 s _ big RX6 := ⟨B.exec, B.bytes, hml, findClass_of_methodNamed B.named, fun w h => hts0 w (List.mem_cons_of_mem _ h)⟩
  have I : xI g s S s.heap [] := ⟨hK, hP, hD, va_S.rf⟩
  have hl := lv_entry ([.ref (g.2.2 0), .int x1, .int x2]) (n := 5) (Nat.le_of_ble_eq_true rfl)
  rw [lg_entry_eq]
  generalize (lg_sl ([.ref (g.2.2 0), .int x1, .int x2]) ++ List.replicate (5 - (lg_sl ([.ref (g.2.2 0), .int x1, .int x2])).length) Slot.unset).toArray = ls at hl ⊢
  have hl : lv_has ls 5 [(0, .ref (g.2.2 0)), (1, .int x1), (2, .int x2)] := hl
  exact tX6_addDrawn_0 C0 B.returns B.notSynchronized hf I (lv_sub hl [0, 1, 2] rfl)
set_option maxHeartbeats 4000000 in
set_option maxRecDepth 100000 in
theorem BX6_tallyMean_9 (C0 : CallFix p m c cX6_tallyMean 3 s args big RX6) (hr : meth.sig.returnType = none) (hk : meth.locks = false) {x1 : Int32} {x2 : Int32} {b : Bool} {y2 : Int32} (Kt : b = true → ∀ (H : Heap) (locs : List Loc) (ls : Array Slot), xI g s S' H locs → lv_has ls 3 [(0, .ref (g.2.2 0)), (1, .int x1), (2, .int y2)] → W p l e ({ frames := 3, cells := 0, slots := 0, locals := 76 } : Room) s m args below meth c H locs 0 0 Q (F0 m 9 ls [])) (Kf : b = false → ∀ (H : Heap) (locs : List Loc) (ls : Array Slot), xI g s S' H locs → lv_has ls 3 [(0, .ref (g.2.2 0)), (1, .int x1), (2, .int y2)] → W p l e ({ frames := 3, cells := 0, slots := 0, locals := 76 } : Room) s m args below meth c H locs 0 0 Q (F0 m 80 ls [])) (hf : bX6_tallyMean_9 x1 S x2 = some (b, S', y2)) (I : xI g s S H locs) (hl : lv_has ls 3 [(0, .ref (g.2.2 0)), (1, .int x1), (2, .int x2)]) : W p l e ({ frames := 3, cells := 0, slots := 0, locals := 76 } : Room) s m args below meth c H locs 0 0 Q (F0 m 9 ls []) := by
  obtain ⟨hx, hb, hml, -, -⟩ := id C0
  unfold bX6_tallyMean_9 at hf
  refine lv_iload_n hx hb dX6_tallyMean_9 rfl (lv_at hl 2 rfl) ?_
  refine lv_aload_n hx hb dX6_tallyMean_10 rfl (lv_at hl 0 rfl) ?_
  refine xg_X6_10_0 C0 I dX6_tallyMean_11 ?_
  refine xg_X6_73_1 C0 I dX6_tallyMean_14 ?_
  refine lv_icmp_ge (tgt := 80) hx hb dX6_tallyMean_17 (by decide) (fun c2 => ?_) (fun c2 => ?_)
  · have hf := ip c2 hf
    obtain ⟨rfl, rfl, rfl⟩ := se3 hf
    exact Kf rfl _ _ _ I (lv_sub hl [0, 1, 2] rfl)
  · have hf := inn c2 hf
    refine lv_iload_n hx hb dX6_tallyMean_20 rfl (lv_at hl 2 rfl) ?_
    refine lv_iload_n hx hb dX6_tallyMean_21 rfl (lv_at hl 1 rfl) ?_
    refine lv_icmp_ge (tgt := 68) hx hb dX6_tallyMean_22 (by decide) (fun c3 => ?_) (fun c3 => ?_)
    · have hf := ip c3 hf
      refine lv_aload_n hx hb dX6_tallyMean_68 rfl (lv_at hl 0 rfl) ?_
      refine lv_iload_n hx hb dX6_tallyMean_69 rfl (lv_at hl 2 rfl) ?_
      refine lv_iconst (v := 1) hx hb dX6_tallyMean_70 (by decide) ?_
      obtain ⟨S4, h4, hf⟩ := bq1_some hf
      refine xcv_v (As := [.int x2, .int (1 : Int32)]) C0 I (kX6_addDrawn h4) (cwV 2 C0.2.2.2.2 (gwV wd_438 wd_440 wd_6 wd_66 wd_441) rfl rfl rfl dsc_X6_addDrawn ⟨Nat.le_of_ble_eq_true rfl, Nat.le_of_ble_eq_true rfl⟩) (xo_0 I) rfl hl.1 rfl (Nat.le_of_ble_eq_true rfl) dX6_tallyMean_71 (fun H locs I => ?_)
      refine lv_iinc (v := (x2 + (1 : Int32))) (lv' := [(2, .int (x2 + (1 : Int32))), (0, .ref (g.2.2 0)), (1, .int x1)]) hx hb dX6_tallyMean_74 hl (k := 2) rfl rfl (by decide) rfl (fun ls hl => ?_)
      refine lv_goto (tgt := 9) hx hb dX6_tallyMean_77 (by decide) ?_
      obtain ⟨rfl, rfl, rfl⟩ := se3 hf
      exact Kt rfl _ _ _ I (lv_sub hl [1, 2, 0] rfl)
    · have hf := inn c3 hf
      refine lv_aload_n hx hb dX6_tallyMean_25 rfl (lv_at hl 0 rfl) ?_
      refine xg_X6_26_0 C0 I dX6_tallyMean_26 ?_
      refine lv_aload_n hx hb dX6_tallyMean_29 rfl (lv_at hl 0 rfl) ?_
      refine xg_X6_10_0 C0 I dX6_tallyMean_30 ?_
      refine lv_iload_n hx hb dX6_tallyMean_33 rfl (lv_at hl 2 rfl) ?_
      refine lv_aload_n hx hb dX6_tallyMean_34 rfl (lv_at hl 0 rfl) ?_
      refine xg_X6_10_0 C0 I dX6_tallyMean_35 ?_
      refine lv_iload_n hx hb dX6_tallyMean_38 rfl (lv_at hl 2 rfl) ?_
      refine lv_iconst (v := 2) hx hb dX6_tallyMean_39 (by decide) ?_
      obtain ⟨r5, h5, hf⟩ := bq1_some hf
      refine xcv_i (As := [.int x2, .int (2 : Int32)]) C0 I (kX3_trait h5) (cwV 2 C0.2.2.2.2 (gwV wd_318 wd_319 wd_320 wd_67 wd_321) rfl rfl rfl dsc_X3_trait ⟨Nat.le_of_ble_eq_true rfl, Nat.le_of_ble_eq_true rfl⟩) (xo_1 I) rfl hl.1 rfl (Nat.le_of_ble_eq_true rfl) dX6_tallyMean_40 (fun H locs I => ?_)
      obtain ⟨S6, h6, hf⟩ := bq1_some hf
      refine xcv_v (As := [.ref (g.2.2 1), .int x2, .int r5]) C0 I (kX5_trace h6) (cwV 3 C0.2.2.2.2 (gwV wd_437 wd_358 wd_359 wd_69 wd_360) rfl rfl rfl dsc_X5_trace ⟨Nat.le_of_ble_eq_true rfl, Nat.le_of_ble_eq_true rfl⟩) (xo_17 I) rfl hl.1 rfl (Nat.le_of_ble_eq_true rfl) dX6_tallyMean_43 (fun H locs I => ?_)
      refine lv_aload_n hx hb dX6_tallyMean_46 rfl (lv_at hl 0 rfl) ?_
      refine xg_X6_33_0 C0 I dX6_tallyMean_47 ?_
      refine lv_aload_n hx hb dX6_tallyMean_50 rfl (lv_at hl 0 rfl) ?_
      refine xg_X6_26_0 C0 I dX6_tallyMean_51 ?_
      refine lv_iload_n hx hb dX6_tallyMean_54 rfl (lv_at hl 2 rfl) ?_
      refine lv_aload_n hx hb dX6_tallyMean_55 rfl (lv_at hl 0 rfl) ?_
      refine xg_X6_10_0 C0 I dX6_tallyMean_56 ?_
      obtain ⟨r7, h7, hf⟩ := bq1_some hf
      refine xcv_i (As := []) C0 I (kX3_corners h7) (cwV 0 C0.2.2.2.2 (gwV wd_336 wd_299 wd_300 wd_67 wd_301) rfl rfl rfl dsc_X3_corners ⟨Nat.le_of_ble_eq_true rfl, Nat.le_of_ble_eq_true rfl⟩) (xo_1 I) rfl hl.1 rfl (Nat.le_of_ble_eq_true rfl) dX6_tallyMean_59 (fun H locs I => ?_)
      obtain ⟨S8, h8, hf⟩ := bq1_some hf
      refine xcv_v (As := [.ref (g.2.2 17), .int x2, .int r7]) C0 I (kX1_add h8) (cwV 3 C0.2.2.2.2 (gwV wd_404 wd_405 wd_406 wd_70 wd_407) rfl rfl rfl dsc_X1_add ⟨Nat.le_of_ble_eq_true rfl, Nat.le_of_ble_eq_true rfl⟩) (xo_22 I) rfl hl.1 rfl (Nat.le_of_ble_eq_true rfl) dX6_tallyMean_62 (fun H locs I => ?_)
      refine lv_goto (tgt := 74) hx hb dX6_tallyMean_65 (by decide) ?_
      refine lv_iinc (v := (x2 + (1 : Int32))) (lv' := [(2, .int (x2 + (1 : Int32))), (0, .ref (g.2.2 0)), (1, .int x1)]) hx hb dX6_tallyMean_74 hl (k := 2) rfl rfl (by decide) rfl (fun ls hl => ?_)
      refine lv_goto (tgt := 9) hx hb dX6_tallyMean_77 (by decide) ?_
      obtain ⟨rfl, rfl, rfl⟩ := se3 hf
      exact Kt rfl _ _ _ I (lv_sub hl [1, 2, 0] rfl)
set_option maxHeartbeats 4000000 in
theorem lX6_tallyMean_9 (C0 : CallFix p m c cX6_tallyMean 3 s args big RX6) (hr : meth.sig.returnType = none) (hk : meth.locks = false) {x1 : Int32} {S' : St} {y2 : Int32} : ∀ (n : Nat) {S : St} {x2 : Int32}, lp (fun q => bX6_tallyMean_9 x1 q.1 q.2) n (S, x2) = some (S', y2) → ∀ {H : Heap} {locs : List Loc}, xI g s S H locs → ∀ {ls : Array Slot}, lv_has ls 3 [(0, .ref (g.2.2 0)), (1, .int x1), (2, .int x2)] → (∀ (H : Heap) (locs : List Loc) (ls : Array Slot), xI g s S' H locs → lv_has ls 3 [(0, .ref (g.2.2 0)), (1, .int x1), (2, .int y2)] → W p l e ({ frames := 3, cells := 0, slots := 0, locals := 76 } : Room) s m args below meth c H locs 0 0 Q (F0 m 80 ls [])) → W p l e ({ frames := 3, cells := 0, slots := 0, locals := 76 } : Room) s m args below meth c H locs 0 0 Q (F0 m 9 ls []) := by
  intro n
  induction n with
  | zero => intro S x2 hf; cases hf
  | succ n ih =>
    intro S x2 hf H locs I ls hl K
    obtain ⟨b, ⟨z0, z1⟩, h1, h2, h3⟩ := lp_some hf
    refine BX6_tallyMean_9 C0 hr hk (fun hb1 H locs ls I hl => ?_) (fun hb1 H locs ls I hl => ?_) h1 I hl
    · exact ih (h2 hb1) I hl K
    · have e := h3 hb1
      cases e
      exact K H locs ls I hl
set_option maxHeartbeats 4000000 in
set_option maxRecDepth 100000 in
theorem tX6_tallyMean_0 (C0 : CallFix p m c cX6_tallyMean 3 s args big RX6) (hr : meth.sig.returnType = none) (hk : meth.locks = false) {x1 : Int32}  (hf : fX6_tallyMean S x1 = some S') (I : xI g s S H locs) (hl : lv_has ls 3 [(0, .ref (g.2.2 0)), (1, .int x1)]) : W p l e ({ frames := 3, cells := 0, slots := 0, locals := 76 } : Room) s m args below meth c H locs 0 0 (MQ below (va_Qv (fun S2 => S2 = S') (xB g) (xA g)) args s 0 0 (xA g)) (F0 m 0 ls []) := by
  obtain ⟨hx, hb, hml, -, -⟩ := id C0
  unfold fX6_tallyMean at hf
  refine lv_aload_n hx hb dX6_tallyMean_0 rfl (lv_at hl 0 rfl) ?_
  refine xg_X6_33_0 C0 I dX6_tallyMean_1 ?_
  obtain ⟨S1, h1, hf⟩ := bq1_some hf
  refine xcv_v (As := []) C0 I (kX1_empty h1) (cwV 0 C0.2.2.2.2 (gwV wd_397 wd_398 wd_399 wd_70 wd_400) rfl rfl rfl dsc_X1_empty ⟨Nat.le_of_ble_eq_true rfl, Nat.le_of_ble_eq_true rfl⟩) (xo_22 I) rfl hl.1 rfl (Nat.le_of_ble_eq_true rfl) dX6_tallyMean_4 (fun H locs I => ?_)
  refine lv_iconst (v := 0) hx hb dX6_tallyMean_7 (by decide) ?_
  refine lv_istore_n (lv' := [(2, .int (0 : Int32)), (0, .ref (g.2.2 0)), (1, .int x1)]) hx hb dX6_tallyMean_8 rfl hl (by decide) rfl (fun ls hl => ?_)
  obtain ⟨S9, y2_9, h9, hf⟩ := bq2_some hf
  refine lX6_tallyMean_9 C0 hr hk fu h9 I (lv_sub hl [1, 2, 0] rfl) (fun H locs ls I hl => ?_)
  obtain rfl := se1 hf
  exact xrv C0 hr hk I dX6_tallyMean_80
set_option maxRecDepth 100000 in
theorem kX6_tallyMean {x1 : Int32}  (hf : fX6_tallyMean S x1 = some S') : Met l yX6_tallyMean (Cond.code yX6_tallyMean cX6_tallyMean 3 none :: big) ({ frames := 3, cells := 0, slots := 0, locals := 76 } : Room) (va_Pc [.ref (g.2.2 0), .int x1] (xB g S)) (va_Qv (fun S2 => S2 = S') (xB g) (xA g)) 0 0 (xA g) := by
  refine Met.ofW (cc := cX6_tallyMean) (maxL := 3) (ret := none) (by decide) rfl ?_
  intro p e s m args below meth c s₁ B hml hv
  obtain ⟨rfl, hP, hK, hD⟩ := hv
  have hts0 := atoms_spec (ws := (Cond.code yX6_tallyMean cX6_tallyMean 3 none :: big)) B.pre
  have C0 : CallFix p m c cX6_tallyMean 3 s _ big RX6 := ⟨B.exec, B.bytes, hml, findClass_of_methodNamed B.named, fun w h => hts0 w (List.mem_cons_of_mem _ h)⟩
  have I : xI g s S s.heap [] := ⟨hK, hP, hD, va_S.rf⟩
  have hl := lv_entry ([.ref (g.2.2 0), .int x1]) (n := 3) (Nat.le_of_ble_eq_true rfl)
  rw [lg_entry_eq]
  generalize (lg_sl ([.ref (g.2.2 0), .int x1]) ++ List.replicate (3 - (lg_sl ([.ref (g.2.2 0), .int x1])).length) Slot.unset).toArray = ls at hl ⊢
  have hl : lv_has ls 3 [(0, .ref (g.2.2 0)), (1, .int x1)] := hl
  exact tX6_tallyMean_0 C0 B.returns B.notSynchronized hf I (lv_sub hl [0, 1] rfl)
set_option maxHeartbeats 4000000 in
set_option maxRecDepth 100000 in
theorem BX6_setFraction_18 (C0 : CallFix p m c cX6_setFraction 3 s args big RX6) (hr : meth.sig.returnType = none) (hk : meth.locks = false) {x2 : Int32} {b : Bool} {y2 : Int32} (Kt : b = true → ∀ (H : Heap) (locs : List Loc) (ls : Array Slot), xI g s S' H locs → lv_has ls 3 [(0, .ref (g.2.2 0)), (2, .int y2)] → W p l e ({ frames := 1, cells := 0, slots := 0, locals := 20 } : Room) s m args below meth c H locs 0 0 Q (F0 m 18 ls [])) (Kf : b = false → ∀ (H : Heap) (locs : List Loc) (ls : Array Slot), xI g s S' H locs → lv_has ls 3 [(0, .ref (g.2.2 0)), (2, .int y2)] → W p l e ({ frames := 1, cells := 0, slots := 0, locals := 20 } : Room) s m args below meth c H locs 0 0 Q (F0 m 66 ls [])) (hf : bX6_setFraction_18 S x2 = some (b, S', y2)) (I : xI g s S H locs) (hl : lv_has ls 3 [(0, .ref (g.2.2 0)), (2, .int x2)]) : W p l e ({ frames := 1, cells := 0, slots := 0, locals := 20 } : Room) s m args below meth c H locs 0 0 Q (F0 m 18 ls []) := by
  obtain ⟨hx, hb, hml, -, -⟩ := id C0
  unfold bX6_setFraction_18 at hf
  refine lv_iload_n hx hb dX6_setFraction_18 rfl (lv_at hl 1 rfl) ?_
  refine lv_iconst (v := 4) hx hb dX6_setFraction_19 (by decide) ?_
  refine lv_icmp_ge (tgt := 66) hx hb dX6_setFraction_20 (by decide) (fun c2 => ?_) (fun c2 => ?_)
  · have hf := ip c2 hf
    obtain ⟨rfl, rfl, rfl⟩ := se3 hf
    exact Kf rfl _ _ _ I (lv_sub hl [0, 1] rfl)
  · have hf := inn c2 hf
    refine lv_aload_n hx hb dX6_setFraction_23 rfl (lv_at hl 0 rfl) ?_
    refine xg_X6_59_0 C0 I dX6_setFraction_24 ?_
    refine lv_iconst (v := 1) hx hb dX6_setFraction_27 (by decide) ?_
    refine lv_icmp_le (tgt := 66) hx hb dX6_setFraction_28 (by decide) (fun c3 => ?_) (fun c3 => ?_)
    · have hf := ip c3 hf
      obtain ⟨rfl, rfl, rfl⟩ := se3 hf
      exact Kf rfl _ _ _ I (lv_sub hl [0, 1] rfl)
    · have hf := inn c3 hf
      refine lv_aload_n hx hb dX6_setFraction_31 rfl (lv_at hl 0 rfl) ?_
      refine xg_X6_55_0 C0 I dX6_setFraction_32 ?_
      refine lv_iconst (v := 2) hx hb dX6_setFraction_35 (by decide) ?_
      refine lv_irem hx hb dX6_setFraction_36 (by decide) ?_
      refine lv_if_ne (tgt := 66) hx hb dX6_setFraction_37 (by decide) (fun c4 => ?_) (fun c4 => ?_)
      · have hf := inn c4 hf
        obtain ⟨rfl, rfl, rfl⟩ := se3 hf
        exact Kf rfl _ _ _ I (lv_sub hl [0, 1] rfl)
      · have hf := ip c4 hf
        refine lv_aload_n hx hb dX6_setFraction_40 rfl (lv_at hl 0 rfl) ?_
        refine lv_dup hx hb dX6_setFraction_41 rfl ?_
        refine xg_X6_55_0 C0 I dX6_setFraction_42 ?_
        refine lv_iconst (v := 2) hx hb dX6_setFraction_45 (by decide) ?_
        refine lv_idiv hx hb dX6_setFraction_46 (by decide) ?_
        refine xp_X6_55_0 C0 I dX6_setFraction_47 (fun H locs I => ?_)
        refine lv_aload_n hx hb dX6_setFraction_50 rfl (lv_at hl 0 rfl) ?_
        refine lv_dup hx hb dX6_setFraction_51 rfl ?_
        refine xg_X6_59_0 C0 I dX6_setFraction_52 ?_
        refine lv_iconst (v := 2) hx hb dX6_setFraction_55 (by decide) ?_
        refine lv_idiv hx hb dX6_setFraction_56 (by decide) ?_
        refine xp_X6_59_0 C0 I dX6_setFraction_57 (fun H locs I => ?_)
        refine lv_iinc (v := (x2 + (1 : Int32))) (lv' := [(2, .int (x2 + (1 : Int32))), (0, .ref (g.2.2 0))]) hx hb dX6_setFraction_60 hl (k := 1) rfl rfl (by decide) rfl (fun ls hl => ?_)
        refine lv_goto (tgt := 18) hx hb dX6_setFraction_63 (by decide) ?_
        obtain ⟨rfl, rfl, rfl⟩ := se3 hf
        exact Kt rfl _ _ _ I (lv_sub hl [1, 0] rfl)
set_option maxHeartbeats 4000000 in
theorem lX6_setFraction_18 (C0 : CallFix p m c cX6_setFraction 3 s args big RX6) (hr : meth.sig.returnType = none) (hk : meth.locks = false)  {S' : St} {y2 : Int32} : ∀ (n : Nat) {S : St} {x2 : Int32}, lp (fun q => bX6_setFraction_18 q.1 q.2) n (S, x2) = some (S', y2) → ∀ {H : Heap} {locs : List Loc}, xI g s S H locs → ∀ {ls : Array Slot}, lv_has ls 3 [(0, .ref (g.2.2 0)), (2, .int x2)] → (∀ (H : Heap) (locs : List Loc) (ls : Array Slot), xI g s S' H locs → lv_has ls 3 [(0, .ref (g.2.2 0)), (2, .int y2)] → W p l e ({ frames := 1, cells := 0, slots := 0, locals := 20 } : Room) s m args below meth c H locs 0 0 Q (F0 m 66 ls [])) → W p l e ({ frames := 1, cells := 0, slots := 0, locals := 20 } : Room) s m args below meth c H locs 0 0 Q (F0 m 18 ls []) := by
  intro n
  induction n with
  | zero => intro S x2 hf; cases hf
  | succ n ih =>
    intro S x2 hf H locs I ls hl K
    obtain ⟨b, ⟨z0, z1⟩, h1, h2, h3⟩ := lp_some hf
    refine BX6_setFraction_18 C0 hr hk (fun hb1 H locs ls I hl => ?_) (fun hb1 H locs ls I hl => ?_) h1 I hl
    · exact ih (h2 hb1) I hl K
    · have e := h3 hb1
      cases e
      exact K H locs ls I hl
set_option maxHeartbeats 4000000 in
set_option maxRecDepth 100000 in
theorem tX6_setFraction_0 (C0 : CallFix p m c cX6_setFraction 3 s args big RX6) (hr : meth.sig.returnType = none) (hk : meth.locks = false) {x1 : Int32}  (hf : fX6_setFraction S x1 = some S') (I : xI g s S H locs) (hl : lv_has ls 3 [(0, .ref (g.2.2 0)), (1, .int x1)]) : W p l e ({ frames := 1, cells := 0, slots := 0, locals := 20 } : Room) s m args below meth c H locs 0 0 (MQ below (va_Qv (fun S2 => S2 = S') (xB g) (xA g)) args s 0 0 (xA g)) (F0 m 0 ls []) := by
  obtain ⟨hx, hb, hml, -, -⟩ := id C0
  unfold fX6_setFraction at hf
  refine lv_aload_n hx hb dX6_setFraction_0 rfl (lv_at hl 0 rfl) ?_
  refine lv_iload_n hx hb dX6_setFraction_1 rfl (lv_at hl 1 rfl) ?_
  refine xp_X6_55_0 C0 I dX6_setFraction_2 (fun H locs I => ?_)
  refine lv_aload_n hx hb dX6_setFraction_5 rfl (lv_at hl 0 rfl) ?_
  refine lv_aload_n hx hb dX6_setFraction_6 rfl (lv_at hl 0 rfl) ?_
  refine xg_X6_10_0 C0 I dX6_setFraction_7 ?_
  obtain ⟨r1, h1, hf⟩ := bq1_some hf
  refine xcv_i (As := []) C0 I (kX3_corners h1) (cwV 0 C0.2.2.2.2 (gwV wd_336 wd_299 wd_300 wd_67 wd_301) rfl rfl rfl dsc_X3_corners ⟨Nat.le_of_ble_eq_true rfl, Nat.le_of_ble_eq_true rfl⟩) (xo_1 I) rfl hl.1 rfl (Nat.le_of_ble_eq_true rfl) dX6_setFraction_10 (fun H locs I => ?_)
  refine xp_X6_59_0 C0 I dX6_setFraction_13 (fun H locs I => ?_)
  refine lv_iconst (v := 0) hx hb dX6_setFraction_16 (by decide) ?_
  refine lv_istore_n (lv' := [(2, .int (0 : Int32)), (0, .ref (g.2.2 0)), (1, .int x1)]) hx hb dX6_setFraction_17 rfl hl (by decide) rfl (fun ls hl => ?_)
  obtain ⟨S5, y2_5, h5, hf⟩ := bq2_some hf
  refine lX6_setFraction_18 C0 hr hk fu h5 I (lv_sub hl [1, 0] rfl) (fun H locs ls I hl => ?_)
  obtain rfl := se1 hf
  exact xrv C0 hr hk I dX6_setFraction_66
set_option maxRecDepth 100000 in
theorem kX6_setFraction {x1 : Int32}  (hf : fX6_setFraction S x1 = some S') : Met l yX6_setFraction (Cond.code yX6_setFraction cX6_setFraction 3 none :: big) ({ frames := 1, cells := 0, slots := 0, locals := 20 } : Room) (va_Pc [.ref (g.2.2 0), .int x1] (xB g S)) (va_Qv (fun S2 => S2 = S') (xB g) (xA g)) 0 0 (xA g) := by
  refine Met.ofW (cc := cX6_setFraction) (maxL := 3) (ret := none) (by decide) rfl ?_
  intro p e s m args below meth c s₁ B hml hv
  obtain ⟨rfl, hP, hK, hD⟩ := hv
  have hts0 := atoms_spec (ws := (Cond.code yX6_setFraction cX6_setFraction 3 none :: big)) B.pre
  have C0 : CallFix p m c cX6_setFraction 3 s _ big RX6 := ⟨B.exec, B.bytes, hml, findClass_of_methodNamed B.named, fun w h => hts0 w (List.mem_cons_of_mem _ h)⟩
  have I : xI g s S s.heap [] := ⟨hK, hP, hD, va_S.rf⟩
  have hl := lv_entry ([.ref (g.2.2 0), .int x1]) (n := 3) (Nat.le_of_ble_eq_true rfl)
  rw [lg_entry_eq]
  generalize (lg_sl ([.ref (g.2.2 0), .int x1]) ++ List.replicate (3 - (lg_sl ([.ref (g.2.2 0), .int x1])).length) Slot.unset).toArray = ls at hl ⊢
  have hl : lv_has ls 3 [(0, .ref (g.2.2 0)), (1, .int x1)] := hl
  exact tX6_setFraction_0 C0 B.returns B.notSynchronized hf I (lv_sub hl [0, 1] rfl)
set_option maxHeartbeats 4000000 in
set_option maxRecDepth 100000 in
theorem tX6_expected_22 (C0 : CallFix p m c cX6_expected 4 s args big RX6) (hr : meth.sig.returnType = (some .int)) (hk : meth.locks = false)  {rr : Int32}  (hf : fX6_expected_22 S = some (rr, S')) (I : xI g s S H locs) (hl : lv_has ls 4 [(0, .ref (g.2.2 0))]) : W p l e ({ frames := 4, cells := 0, slots := 0, locals := 98 } : Room) s m args below meth c H locs 0 0 (MQ below (va_Qi (fun r' S2 => r' = rr ∧ S2 = S') (xB g) (xA g)) args s 0 0 (xA g)) (F0 m 22 ls []) := by
  obtain ⟨hx, hb, hml, -, -⟩ := id C0
  unfold fX6_expected_22 at hf
  refine lv_aload_n hx hb dX6_expected_22 rfl (lv_at hl 0 rfl) ?_
  refine lv_bipush (v := -2) hx hb dX6_expected_23 (by decide) ?_
  obtain ⟨r3, S3, h3, hf⟩ := bq2_some hf
  refine xcv_i (As := [.int (-2 : Int32)]) C0 I (kX6_refuse h3) (cwV 1 C0.2.2.2.2 (gwV wd_272 wd_274 wd_0 wd_66 wd_275) rfl rfl rfl dsc_X6_refuse ⟨Nat.le_of_ble_eq_true rfl, Nat.le_of_ble_eq_true rfl⟩) (xo_0 I) rfl hl.1 rfl (Nat.le_of_ble_eq_true rfl) dX6_expected_25 (fun H locs I => ?_)
  obtain ⟨rfl, rfl⟩ := se2 hf
  exact xri C0 hr hk I dX6_expected_28
set_option maxHeartbeats 4000000 in
set_option maxRecDepth 100000 in
theorem tX6_expected_0 (C0 : CallFix p m c cX6_expected 4 s args big RX6) (hr : meth.sig.returnType = (some .int)) (hk : meth.locks = false) {x1 : Int32} {x2 : Int32} {x3 : Int32} {rr : Int32}  (hf : fX6_expected S x1 x2 x3 = some (rr, S')) (I : xI g s S H locs) (hl : lv_has ls 4 [(0, .ref (g.2.2 0)), (1, .int x1), (2, .int x2), (3, .int x3)]) : W p l e ({ frames := 4, cells := 0, slots := 0, locals := 98 } : Room) s m args below meth c H locs 0 0 (MQ below (va_Qi (fun r' S2 => r' = rr ∧ S2 = S') (xB g) (xA g)) args s 0 0 (xA g)) (F0 m 0 ls []) := by
  obtain ⟨hx, hb, hml, -, -⟩ := id C0
  unfold fX6_expected at hf
  refine lv_aload_n hx hb dX6_expected_0 rfl (lv_at hl 0 rfl) ?_
  refine xg_X6_10_0 C0 I dX6_expected_1 ?_
  refine lv_iload_n hx hb dX6_expected_4 rfl (lv_at hl 1 rfl) ?_
  refine lv_iload_n hx hb dX6_expected_5 rfl (lv_at hl 2 rfl) ?_
  obtain ⟨r1, h1, hf⟩ := bq1_some hf
  refine xcv_i (As := [.int x1, .int x2]) C0 I (kX3_hasEdge h1) (cwV 2 C0.2.2.2.2 (gwV wd_389 wd_390 wd_391 wd_67 wd_392) rfl rfl rfl dsc_X3_hasEdge ⟨Nat.le_of_ble_eq_true rfl, Nat.le_of_ble_eq_true rfl⟩) (xo_1 I) rfl hl.1 rfl (Nat.le_of_ble_eq_true rfl) dX6_expected_6 (fun H locs I => ?_)
  refine lv_if_eq (tgt := 22) hx hb dX6_expected_9 (by decide) (fun c2 => ?_) (fun c2 => ?_)
  · have hf := ip c2 hf
    exact tX6_expected_22 C0 hr hk hf I (lv_sub hl [0] rfl)
  · have hf := inn c2 hf
    refine lv_iload_n hx hb dX6_expected_12 rfl (lv_at hl 3 rfl) ?_
    refine lv_if_lt (tgt := 22) hx hb dX6_expected_13 (by decide) (fun c4 => ?_) (fun c4 => ?_)
    · have hf := ip c4 hf
      exact tX6_expected_22 C0 hr hk hf I (lv_sub hl [0] rfl)
    · have hf := inn c4 hf
      refine lv_iload_n hx hb dX6_expected_16 rfl (lv_at hl 3 rfl) ?_
      refine lv_bipush (v := 16) hx hb dX6_expected_17 (by decide) ?_
      refine lv_icmp_le (tgt := 29) hx hb dX6_expected_19 (by decide) (fun c5 => ?_) (fun c5 => ?_)
      · have hf := ip c5 hf
        refine lv_aload_n hx hb dX6_expected_29 rfl (lv_at hl 0 rfl) ?_
        refine lv_iload_n hx hb dX6_expected_30 rfl (lv_at hl 3 rfl) ?_
        obtain ⟨S6, h6, hf⟩ := bq1_some hf
        refine xcv_v (As := [.int x3]) C0 I (kX6_tallyMean h6) (cwV 1 C0.2.2.2.2 (gwV wd_433 wd_435 wd_5 wd_66 wd_436) rfl rfl rfl dsc_X6_tallyMean ⟨Nat.le_of_ble_eq_true rfl, Nat.le_of_ble_eq_true rfl⟩) (xo_0 I) rfl hl.1 rfl (Nat.le_of_ble_eq_true rfl) dX6_expected_31 (fun H locs I => ?_)
        refine lv_aload_n hx hb dX6_expected_34 rfl (lv_at hl 0 rfl) ?_
        refine lv_aload_n hx hb dX6_expected_35 rfl (lv_at hl 0 rfl) ?_
        refine xg_X6_33_0 C0 I dX6_expected_36 ?_
        refine xg_X6_143_22 C0 I dX6_expected_39 ?_
        refine lv_iload_n hx hb dX6_expected_42 rfl (lv_at hl 1 rfl) ?_
        refine lv_iconst (v := 4) hx hb dX6_expected_43 (by decide) ?_
        refine lv_imul hx hb dX6_expected_44 ?_
        refine lv_iload_n hx hb dX6_expected_45 rfl (lv_at hl 2 rfl) ?_
        refine lv_iadd hx hb dX6_expected_46 ?_
        obtain ⟨b7, hf⟩ := chk_some hf
        refine xl_23 hx hb I b7 dX6_expected_47 ?_
        obtain ⟨S8, h8, hf⟩ := bq1_some hf
        refine xcv_v (As := [.int (gR S6 11 ((x1 * (4 : Int32)) + x2))]) C0 I (kX6_setFraction h8) (cwV 1 C0.2.2.2.2 (gwV wd_442 wd_444 wd_7 wd_66 wd_445) rfl rfl rfl dsc_X6_setFraction ⟨Nat.le_of_ble_eq_true rfl, Nat.le_of_ble_eq_true rfl⟩) (xo_0 I) rfl hl.1 rfl (Nat.le_of_ble_eq_true rfl) dX6_expected_48 (fun H locs I => ?_)
        refine lv_iconst (v := 1) hx hb dX6_expected_51 (by decide) ?_
        obtain ⟨rfl, rfl⟩ := se2 hf
        exact xri C0 hr hk I dX6_expected_52
      · have hf := inn c5 hf
        exact tX6_expected_22 C0 hr hk hf I (lv_sub hl [0] rfl)
set_option maxRecDepth 100000 in
theorem kX6_expected {x1 : Int32} {x2 : Int32} {x3 : Int32} {rr : Int32} (hf : fX6_expected S x1 x2 x3 = some (rr, S')) : Met l yX6_expected (Cond.code yX6_expected cX6_expected 4 (some .int) :: big) ({ frames := 4, cells := 0, slots := 0, locals := 98 } : Room) (va_Pc [.ref (g.2.2 0), .int x1, .int x2, .int x3] (xB g S)) (va_Qi (fun r' S2 => r' = rr ∧ S2 = S') (xB g) (xA g)) 0 0 (xA g) := by
  refine Met.ofW (cc := cX6_expected) (maxL := 4) (ret := (some .int)) (by decide) rfl ?_
  intro p e s m args below meth c s₁ B hml hv
  obtain ⟨rfl, hP, hK, hD⟩ := hv
  have hts0 := atoms_spec (ws := (Cond.code yX6_expected cX6_expected 4 (some .int) :: big)) B.pre
  have C0 : CallFix p m c cX6_expected 4 s _ big RX6 := ⟨B.exec, B.bytes, hml, findClass_of_methodNamed B.named, fun w h => hts0 w (List.mem_cons_of_mem _ h)⟩
  have I : xI g s S s.heap [] := ⟨hK, hP, hD, va_S.rf⟩
  have hl := lv_entry ([.ref (g.2.2 0), .int x1, .int x2, .int x3]) (n := 4) (Nat.le_of_ble_eq_true rfl)
  rw [lg_entry_eq]
  generalize (lg_sl ([.ref (g.2.2 0), .int x1, .int x2, .int x3]) ++ List.replicate (4 - (lg_sl ([.ref (g.2.2 0), .int x1, .int x2, .int x3])).length) Slot.unset).toArray = ls at hl ⊢
  have hl : lv_has ls 4 [(0, .ref (g.2.2 0)), (1, .int x1), (2, .int x2), (3, .int x3)] := hl
  exact tX6_expected_0 C0 B.returns B.notSynchronized hf I (lv_sub hl [0, 1, 2, 3] rfl)
set_option maxHeartbeats 4000000 in
set_option maxRecDepth 100000 in
theorem tX6_part_9 (C0 : CallFix p m c cX6_part 2 s args big RX6) (hr : meth.sig.returnType = (some .int)) (hk : meth.locks = false)  {rr : Int32}  (hf : fX6_part_9 S = some (rr, S')) (I : xI g s S H locs) (hl : lv_has ls 2 [(0, .ref (g.2.2 0))]) : W p l e ({ frames := 1, cells := 0, slots := 0, locals := 22 } : Room) s m args below meth c H locs 0 0 (MQ below (va_Qi (fun r' S2 => r' = rr ∧ S2 = S') (xB g) (xA g)) args s 0 0 (xA g)) (F0 m 9 ls []) := by
  obtain ⟨hx, hb, hml, -, -⟩ := id C0
  unfold fX6_part_9 at hf
  refine lv_aload_n hx hb dX6_part_9 rfl (lv_at hl 0 rfl) ?_
  refine lv_bipush (v := -2) hx hb dX6_part_10 (by decide) ?_
  obtain ⟨r2, S2, h2, hf⟩ := bq2_some hf
  refine xcv_i (As := [.int (-2 : Int32)]) C0 I (kX6_refuse h2) (cwV 1 C0.2.2.2.2 (gwV wd_272 wd_274 wd_0 wd_66 wd_275) rfl rfl rfl dsc_X6_refuse ⟨Nat.le_of_ble_eq_true rfl, Nat.le_of_ble_eq_true rfl⟩) (xo_0 I) rfl hl.1 rfl (Nat.le_of_ble_eq_true rfl) dX6_part_12 (fun H locs I => ?_)
  obtain ⟨rfl, rfl⟩ := se2 hf
  exact xri C0 hr hk I dX6_part_15
set_option maxHeartbeats 4000000 in
set_option maxRecDepth 100000 in
theorem tX6_part_0 (C0 : CallFix p m c cX6_part 2 s args big RX6) (hr : meth.sig.returnType = (some .int)) (hk : meth.locks = false) {x1 : Int32} {rr : Int32}  (hf : fX6_part S x1 = some (rr, S')) (I : xI g s S H locs) (hl : lv_has ls 2 [(0, .ref (g.2.2 0)), (1, .int x1)]) : W p l e ({ frames := 1, cells := 0, slots := 0, locals := 22 } : Room) s m args below meth c H locs 0 0 (MQ below (va_Qi (fun r' S2 => r' = rr ∧ S2 = S') (xB g) (xA g)) args s 0 0 (xA g)) (F0 m 0 ls []) := by
  obtain ⟨hx, hb, hml, -, -⟩ := id C0
  unfold fX6_part at hf
  refine lv_iload_n hx hb dX6_part_0 rfl (lv_at hl 1 rfl) ?_
  refine lv_if_lt (tgt := 9) hx hb dX6_part_1 (by decide) (fun c1 => ?_) (fun c1 => ?_)
  · have hf := ip c1 hf
    exact tX6_part_9 C0 hr hk hf I (lv_sub hl [0] rfl)
  · have hf := inn c1 hf
    refine lv_iload_n hx hb dX6_part_4 rfl (lv_at hl 1 rfl) ?_
    refine lv_iconst (v := 1) hx hb dX6_part_5 (by decide) ?_
    refine lv_icmp_le (tgt := 16) hx hb dX6_part_6 (by decide) (fun c3 => ?_) (fun c3 => ?_)
    · have hf := ip c3 hf
      refine lv_iload_n hx hb dX6_part_16 rfl (lv_at hl 1 rfl) ?_
      refine lv_if_ne (tgt := 27) hx hb dX6_part_17 (by decide) (fun c4 => ?_) (fun c4 => ?_)
      · have hf := inn c4 hf
        refine lv_aload_n hx hb dX6_part_27 rfl (lv_at hl 0 rfl) ?_
        refine xg_X6_59_0 C0 I dX6_part_28 ?_
        obtain ⟨rfl, rfl⟩ := se2 hf
        exact xri C0 hr hk I dX6_part_31
      · have hf := ip c4 hf
        refine lv_aload_n hx hb dX6_part_20 rfl (lv_at hl 0 rfl) ?_
        refine xg_X6_55_0 C0 I dX6_part_21 ?_
        refine lv_goto (tgt := 31) hx hb dX6_part_24 (by decide) ?_
        obtain ⟨rfl, rfl⟩ := se2 hf
        exact xri C0 hr hk I dX6_part_31
    · have hf := inn c3 hf
      exact tX6_part_9 C0 hr hk hf I (lv_sub hl [0] rfl)
set_option maxRecDepth 100000 in
theorem kX6_part {x1 : Int32} {rr : Int32} (hf : fX6_part S x1 = some (rr, S')) : Met l yX6_part (Cond.code yX6_part cX6_part 2 (some .int) :: big) ({ frames := 1, cells := 0, slots := 0, locals := 22 } : Room) (va_Pc [.ref (g.2.2 0), .int x1] (xB g S)) (va_Qi (fun r' S2 => r' = rr ∧ S2 = S') (xB g) (xA g)) 0 0 (xA g) := by
  refine Met.ofW (cc := cX6_part) (maxL := 2) (ret := (some .int)) (by decide) rfl ?_
  intro p e s m args below meth c s₁ B hml hv
  obtain ⟨rfl, hP, hK, hD⟩ := hv
  have hts0 := atoms_spec (ws := (Cond.code yX6_part cX6_part 2 (some .int) :: big)) B.pre
  have C0 : CallFix p m c cX6_part 2 s _ big RX6 := ⟨B.exec, B.bytes, hml, findClass_of_methodNamed B.named, fun w h => hts0 w (List.mem_cons_of_mem _ h)⟩
  have I : xI g s S s.heap [] := ⟨hK, hP, hD, va_S.rf⟩
  have hl := lv_entry ([.ref (g.2.2 0), .int x1]) (n := 2) (Nat.le_of_ble_eq_true rfl)
  rw [lg_entry_eq]
  generalize (lg_sl ([.ref (g.2.2 0), .int x1]) ++ List.replicate (2 - (lg_sl ([.ref (g.2.2 0), .int x1])).length) Slot.unset).toArray = ls at hl ⊢
  have hl : lv_has ls 2 [(0, .ref (g.2.2 0)), (1, .int x1)] := hl
  exact tX6_part_0 C0 B.returns B.notSynchronized hf I (lv_sub hl [0, 1] rfl)
set_option maxHeartbeats 4000000 in
set_option maxRecDepth 100000 in
theorem tX6_greatest_0 (C0 : CallFix p m c cX6_greatest 2 s args big RX6) (hr : meth.sig.returnType = (some .int)) (hk : meth.locks = false)  {rr : Int32}  (hf : fX6_greatest S = some (rr, S')) (I : xI g s S H locs) (hl : lv_has ls 2 [(0, .ref (g.2.2 0))]) : W p l e ({ frames := 4, cells := 0, slots := 0, locals := 98 } : Room) s m args below meth c H locs 0 0 (MQ below (va_Qi (fun r' S2 => r' = rr ∧ S2 = S') (xB g) (xA g)) args s 0 0 (xA g)) (F0 m 0 ls []) := by
  obtain ⟨hx, hb, hml, -, -⟩ := id C0
  unfold fX6_greatest at hf
  refine lv_aload_n hx hb dX6_greatest_0 rfl (lv_at hl 0 rfl) ?_
  refine xg_X6_10_0 C0 I dX6_greatest_1 ?_
  refine xg_X6_73_1 C0 I dX6_greatest_4 ?_
  refine lv_if_ne (tgt := 17) hx hb dX6_greatest_7 (by decide) (fun c1 => ?_) (fun c1 => ?_)
  · have hf := inn c1 hf
    refine lv_aload_n hx hb dX6_greatest_17 rfl (lv_at hl 0 rfl) ?_
    refine lv_iconst (v := 0) hx hb dX6_greatest_18 (by decide) ?_
    obtain ⟨S2, h2, hf⟩ := bq1_some hf
    refine xcv_v (As := [.int (0 : Int32)]) C0 I (kX6_tallyMean h2) (cwV 1 C0.2.2.2.2 (gwV wd_433 wd_435 wd_5 wd_66 wd_436) rfl rfl rfl dsc_X6_tallyMean ⟨Nat.le_of_ble_eq_true rfl, Nat.le_of_ble_eq_true rfl⟩) (xo_0 I) rfl hl.1 rfl (Nat.le_of_ble_eq_true rfl) dX6_greatest_19 (fun H locs I => ?_)
    refine lv_aload_n hx hb dX6_greatest_22 rfl (lv_at hl 0 rfl) ?_
    refine xg_X6_33_0 C0 I dX6_greatest_23 ?_
    obtain ⟨r3, h3, hf⟩ := bq1_some hf
    refine xcv_i (As := []) C0 I (kX1_firstGreatest h3) (cwV 0 C0.2.2.2.2 (gwV wd_417 wd_418 wd_419 wd_70 wd_420) rfl rfl rfl dsc_X1_firstGreatest ⟨Nat.le_of_ble_eq_true rfl, Nat.le_of_ble_eq_true rfl⟩) (xo_22 I) rfl hl.1 rfl (Nat.le_of_ble_eq_true rfl) dX6_greatest_26 (fun H locs I => ?_)
    refine lv_istore_n (lv' := [(1, .int r3), (0, .ref (g.2.2 0))]) hx hb dX6_greatest_29 rfl hl (by decide) rfl (fun ls hl => ?_)
    refine lv_aload_n hx hb dX6_greatest_30 rfl (lv_at hl 1 rfl) ?_
    refine lv_aload_n hx hb dX6_greatest_31 rfl (lv_at hl 1 rfl) ?_
    refine xg_X6_33_0 C0 I dX6_greatest_32 ?_
    refine xg_X6_143_22 C0 I dX6_greatest_35 ?_
    refine lv_iload_n hx hb dX6_greatest_38 rfl (lv_at hl 0 rfl) ?_
    obtain ⟨b4, hf⟩ := chk_some hf
    refine xl_23 hx hb I b4 dX6_greatest_39 ?_
    obtain ⟨S5, h5, hf⟩ := bq1_some hf
    refine xcv_v (As := [.int (gR S2 11 r3)]) C0 I (kX6_setFraction h5) (cwV 1 C0.2.2.2.2 (gwV wd_442 wd_444 wd_7 wd_66 wd_445) rfl rfl rfl dsc_X6_setFraction ⟨Nat.le_of_ble_eq_true rfl, Nat.le_of_ble_eq_true rfl⟩) (xo_0 I) rfl hl.1 rfl (Nat.le_of_ble_eq_true rfl) dX6_greatest_40 (fun H locs I => ?_)
    refine lv_iload_n hx hb dX6_greatest_43 rfl (lv_at hl 0 rfl) ?_
    obtain ⟨r6, h6, hf⟩ := bq1_some hf
    refine xcs_i (As := [.int r3]) C0 I (kX6_nameOf h6) (va_cwS 1 C0.2.2.2.2 (gwS wd_426 wd_427 wd_66 wd_428) rfl rfl rfl dsc_X6_nameOf.2 ⟨Nat.le_of_ble_eq_true rfl, Nat.le_of_ble_eq_true rfl⟩) rfl hl.1 rfl (Nat.le_of_ble_eq_true rfl) dX6_greatest_44 (fun H locs I => ?_)
    obtain ⟨rfl, rfl⟩ := se2 hf
    exact xri C0 hr hk I dX6_greatest_47
  · have hf := ip c1 hf
    refine lv_aload_n hx hb dX6_greatest_10 rfl (lv_at hl 0 rfl) ?_
    refine lv_bipush (v := -3) hx hb dX6_greatest_11 (by decide) ?_
    obtain ⟨r7, S7, h7, hf⟩ := bq2_some hf
    refine xcv_i (As := [.int (-3 : Int32)]) C0 I (kX6_refuse h7) (cwV 1 C0.2.2.2.2 (gwV wd_272 wd_274 wd_0 wd_66 wd_275) rfl rfl rfl dsc_X6_refuse ⟨Nat.le_of_ble_eq_true rfl, Nat.le_of_ble_eq_true rfl⟩) (xo_0 I) rfl hl.1 rfl (Nat.le_of_ble_eq_true rfl) dX6_greatest_13 (fun H locs I => ?_)
    obtain ⟨rfl, rfl⟩ := se2 hf
    exact xri C0 hr hk I dX6_greatest_16
set_option maxRecDepth 100000 in
theorem kX6_greatest  {rr : Int32} (hf : fX6_greatest S  = some (rr, S')) : Met l yX6_greatest (Cond.code yX6_greatest cX6_greatest 2 (some .int) :: big) ({ frames := 4, cells := 0, slots := 0, locals := 98 } : Room) (va_Pc [.ref (g.2.2 0)] (xB g S)) (va_Qi (fun r' S2 => r' = rr ∧ S2 = S') (xB g) (xA g)) 0 0 (xA g) := by
  refine Met.ofW (cc := cX6_greatest) (maxL := 2) (ret := (some .int)) (by decide) rfl ?_
  intro p e s m args below meth c s₁ B hml hv
  obtain ⟨rfl, hP, hK, hD⟩ := hv
  have hts0 := atoms_spec (ws := (Cond.code yX6_greatest cX6_greatest 2 (some .int) :: big)) B.pre
  have C0 : CallFix p m c cX6_greatest 2 s _ big RX6 := ⟨B.exec, B.bytes, hml, findClass_of_methodNamed B.named, fun w h => hts0 w (List.mem_cons_of_mem _ h)⟩
  have I : xI g s S s.heap [] := ⟨hK, hP, hD, va_S.rf⟩
  have hl := lv_entry ([.ref (g.2.2 0)]) (n := 2) (Nat.le_of_ble_eq_true rfl)
  rw [lg_entry_eq]
  generalize (lg_sl ([.ref (g.2.2 0)]) ++ List.replicate (2 - (lg_sl ([.ref (g.2.2 0)])).length) Slot.unset).toArray = ls at hl ⊢
  have hl : lv_has ls 2 [(0, .ref (g.2.2 0))] := hl
  exact tX6_greatest_0 C0 B.returns B.notSynchronized hf I (lv_sub hl [0] rfl)
set_option maxHeartbeats 4000000 in
set_option maxRecDepth 100000 in
theorem BX1_squares_4 (C0 : CallFix p m c cX1_squares 3 s args big RX1) (hr : meth.sig.returnType = (some .int)) (hk : meth.locks = false) {x1 : Int32} {x2 : Int32} {b : Bool} {y1 : Int32} {y2 : Int32} (Kt : b = true → ∀ (H : Heap) (locs : List Loc) (ls : Array Slot), xI g s S H locs → lv_has ls 3 [(0, .ref (g.2.2 22)), (1, .int y1), (2, .int y2)] → W p l e ({ frames := 0, cells := 0, slots := 0, locals := 0 } : Room) s m args below meth c H locs 0 0 Q (F0 m 4 ls [])) (Kf : b = false → ∀ (H : Heap) (locs : List Loc) (ls : Array Slot), xI g s S H locs → lv_has ls 3 [(0, .ref (g.2.2 22)), (1, .int y1), (2, .int y2)] → W p l e ({ frames := 0, cells := 0, slots := 0, locals := 0 } : Room) s m args below meth c H locs 0 0 Q (F0 m 32 ls [])) (hf : bX1_squares_4 S x1 x2 = some (b, y1, y2)) (I : xI g s S H locs) (hl : lv_has ls 3 [(0, .ref (g.2.2 22)), (1, .int x1), (2, .int x2)]) : W p l e ({ frames := 0, cells := 0, slots := 0, locals := 0 } : Room) s m args below meth c H locs 0 0 Q (F0 m 4 ls []) := by
  obtain ⟨hx, hb, hml, -, -⟩ := id C0
  unfold bX1_squares_4 at hf
  refine lv_iload_n hx hb dX1_squares_4 rfl (lv_at hl 2 rfl) ?_
  refine lv_bipush (v := 64) hx hb dX1_squares_5 (by decide) ?_
  refine lv_icmp_ge (tgt := 32) hx hb dX1_squares_7 (by decide) (fun c1 => ?_) (fun c1 => ?_)
  · have hf := ip c1 hf
    obtain ⟨rfl, rfl, rfl⟩ := se3 hf
    exact Kf rfl _ _ _ I (lv_sub hl [0, 1, 2] rfl)
  · have hf := inn c1 hf
    refine lv_iload_n hx hb dX1_squares_10 rfl (lv_at hl 1 rfl) ?_
    refine lv_aload_n hx hb dX1_squares_11 rfl (lv_at hl 0 rfl) ?_
    refine xg_X1_9_22 C0 I dX1_squares_12 ?_
    refine lv_iload_n hx hb dX1_squares_15 rfl (lv_at hl 2 rfl) ?_
    obtain ⟨b2, hf⟩ := chk_some hf
    refine xl_23 hx hb I b2 dX1_squares_16 ?_
    refine lv_aload_n hx hb dX1_squares_17 rfl (lv_at hl 0 rfl) ?_
    refine xg_X1_9_22 C0 I dX1_squares_18 ?_
    refine lv_iload_n hx hb dX1_squares_21 rfl (lv_at hl 2 rfl) ?_
    obtain ⟨b3, hf⟩ := chk_some hf
    refine xl_23 hx hb I b3 dX1_squares_22 ?_
    refine lv_imul hx hb dX1_squares_23 ?_
    refine lv_iadd hx hb dX1_squares_24 ?_
    refine lv_istore_n (lv' := [(1, .int (x1 + ((gR S 11 x2) * (gR S 11 x2)))), (0, .ref (g.2.2 22)), (2, .int x2)]) hx hb dX1_squares_25 rfl hl (by decide) rfl (fun ls hl => ?_)
    refine lv_iinc (v := (x2 + (1 : Int32))) (lv' := [(2, .int (x2 + (1 : Int32))), (1, .int (x1 + ((gR S 11 x2) * (gR S 11 x2)))), (0, .ref (g.2.2 22))]) hx hb dX1_squares_26 hl (k := 2) rfl rfl (by decide) rfl (fun ls hl => ?_)
    refine lv_goto (tgt := 4) hx hb dX1_squares_29 (by decide) ?_
    obtain ⟨rfl, rfl, rfl⟩ := se3 hf
    exact Kt rfl _ _ _ I (lv_sub hl [2, 1, 0] rfl)
set_option maxHeartbeats 4000000 in
theorem lX1_squares_4 (C0 : CallFix p m c cX1_squares 3 s args big RX1) (hr : meth.sig.returnType = (some .int)) (hk : meth.locks = false) {S : St}  {y1 : Int32} {y2 : Int32} : ∀ (n : Nat) {x1 : Int32} {x2 : Int32}, lp (fun q => bX1_squares_4 S q.1 q.2) n (x1, x2) = some (y1, y2) → ∀ {H : Heap} {locs : List Loc}, xI g s S H locs → ∀ {ls : Array Slot}, lv_has ls 3 [(0, .ref (g.2.2 22)), (1, .int x1), (2, .int x2)] → (∀ (H : Heap) (locs : List Loc) (ls : Array Slot), xI g s S H locs → lv_has ls 3 [(0, .ref (g.2.2 22)), (1, .int y1), (2, .int y2)] → W p l e ({ frames := 0, cells := 0, slots := 0, locals := 0 } : Room) s m args below meth c H locs 0 0 Q (F0 m 32 ls [])) → W p l e ({ frames := 0, cells := 0, slots := 0, locals := 0 } : Room) s m args below meth c H locs 0 0 Q (F0 m 4 ls []) := by
  intro n
  induction n with
  | zero => intro x1 x2 hf; cases hf
  | succ n ih =>
    intro x1 x2 hf H locs I ls hl K
    obtain ⟨b, ⟨z0, z1⟩, h1, h2, h3⟩ := lp_some hf
    refine BX1_squares_4 C0 hr hk (fun hb1 H locs ls I hl => ?_) (fun hb1 H locs ls I hl => ?_) h1 I hl
    · exact ih (h2 hb1) I hl K
    · have e := h3 hb1
      cases e
      exact K H locs ls I hl
set_option maxHeartbeats 4000000 in
set_option maxRecDepth 100000 in
theorem tX1_squares_0 (C0 : CallFix p m c cX1_squares 3 s args big RX1) (hr : meth.sig.returnType = (some .int)) (hk : meth.locks = false)  {rr : Int32}  (hf : fX1_squares S = some rr) (I : xI g s S H locs) (hl : lv_has ls 3 [(0, .ref (g.2.2 22))]) : W p l e ({ frames := 0, cells := 0, slots := 0, locals := 0 } : Room) s m args below meth c H locs 0 0 (MQ below (va_Qi (fun r' S2 => r' = rr ∧ S2 = S) (xB g) (xA g)) args s 0 0 (xA g)) (F0 m 0 ls []) := by
  obtain ⟨hx, hb, hml, -, -⟩ := id C0
  unfold fX1_squares at hf
  refine lv_iconst (v := 0) hx hb dX1_squares_0 (by decide) ?_
  refine lv_istore_n (lv' := [(1, .int (0 : Int32)), (0, .ref (g.2.2 22))]) hx hb dX1_squares_1 rfl hl (by decide) rfl (fun ls hl => ?_)
  refine lv_iconst (v := 0) hx hb dX1_squares_2 (by decide) ?_
  refine lv_istore_n (lv' := [(2, .int (0 : Int32)), (1, .int (0 : Int32)), (0, .ref (g.2.2 22))]) hx hb dX1_squares_3 rfl hl (by decide) rfl (fun ls hl => ?_)
  obtain ⟨y1_4, y2_4, h4, hf⟩ := bq2_some hf
  refine lX1_squares_4 C0 hr hk fu h4 I (lv_sub hl [2, 1, 0] rfl) (fun H locs ls I hl => ?_)
  refine lv_iload_n hx hb dX1_squares_32 rfl (lv_at hl 1 rfl) ?_
  obtain rfl := se1 hf
  exact xri C0 hr hk I dX1_squares_33
set_option maxRecDepth 100000 in
theorem kX1_squares  {rr : Int32} (hf : fX1_squares S  = some rr) : Met l yX1_squares (Cond.code yX1_squares cX1_squares 3 (some .int) :: big) ({ frames := 0, cells := 0, slots := 0, locals := 0 } : Room) (va_Pc [.ref (g.2.2 22)] (xB g S)) (va_Qi (fun r' S2 => r' = rr ∧ S2 = S) (xB g) (xA g)) 0 0 (xA g) := by
  refine Met.ofW (cc := cX1_squares) (maxL := 3) (ret := (some .int)) (by decide) rfl ?_
  intro p e s m args below meth c s₁ B hml hv
  obtain ⟨rfl, hP, hK, hD⟩ := hv
  have hts0 := atoms_spec (ws := (Cond.code yX1_squares cX1_squares 3 (some .int) :: big)) B.pre
  have C0 : CallFix p m c cX1_squares 3 s _ big RX1 := ⟨B.exec, B.bytes, hml, findClass_of_methodNamed B.named, fun w h => hts0 w (List.mem_cons_of_mem _ h)⟩
  have I : xI g s S s.heap [] := ⟨hK, hP, hD, va_S.rf⟩
  have hl := lv_entry ([.ref (g.2.2 22)]) (n := 3) (Nat.le_of_ble_eq_true rfl)
  rw [lg_entry_eq]
  generalize (lg_sl ([.ref (g.2.2 22)]) ++ List.replicate (3 - (lg_sl ([.ref (g.2.2 22)])).length) Slot.unset).toArray = ls at hl ⊢
  have hl : lv_has ls 3 [(0, .ref (g.2.2 22))] := hl
  exact tX1_squares_0 C0 B.returns B.notSynchronized hf I (lv_sub hl [0] rfl)
set_option maxHeartbeats 4000000 in
set_option maxRecDepth 100000 in
theorem tX6_chooseBetween_121 (C0 : CallFix p m c cX6_chooseBetween 9 s args big RX6) (hr : meth.sig.returnType = none) (hk : meth.locks = false) {x1 : Int32} {x2 : Int32} {x3 : Int32} {x4 : Int32} {x5 : Int32} {x6 : Int32} {b : Bool} {y3 : Int32} {y4 : Int32} {y5 : Int32} {y6 : Int32} (Kt : b = true → ∀ (H : Heap) (locs : List Loc) (ls : Array Slot), xI g s S' H locs → lv_has ls 9 [(0, .ref (g.2.2 0)), (1, .int x1), (2, .int x2), (3, .int y3), (4, .int y4), (5, .int y5), (6, .int y6)] → W p l e ({ frames := 3, cells := 0, slots := 0, locals := 76 } : Room) s m args below meth c H locs 0 0 Q (F0 m 25 ls [])) (Kf : b = false → ∀ (H : Heap) (locs : List Loc) (ls : Array Slot), xI g s S' H locs → lv_has ls 9 [(0, .ref (g.2.2 0)), (1, .int x1), (2, .int x2), (3, .int y3), (4, .int y4), (5, .int y5), (6, .int y6)] → W p l e ({ frames := 3, cells := 0, slots := 0, locals := 76 } : Room) s m args below meth c H locs 0 0 Q (F0 m 141 ls [])) (hf : fX6_chooseBetween_121 S x1 x2 x3 x4 x5 x6 = some (b, S', y3, y4, y5, y6)) (I : xI g s S H locs) (hl : lv_has ls 9 [(0, .ref (g.2.2 0)), (1, .int x1), (2, .int x2), (3, .int x3), (4, .int x4), (5, .int x5), (6, .int x6)]) : W p l e ({ frames := 3, cells := 0, slots := 0, locals := 76 } : Room) s m args below meth c H locs 0 0 Q (F0 m 121 ls []) := by
  obtain ⟨hx, hb, hml, -, -⟩ := id C0
  unfold fX6_chooseBetween_121 at hf
  refine lv_aload_n hx hb dX6_chooseBetween_121 rfl (lv_at hl 0 rfl) ?_
  refine xg_X6_33_0 C0 I dX6_chooseBetween_122 ?_
  refine lv_aload_n hx hb dX6_chooseBetween_125 rfl (lv_at hl 0 rfl) ?_
  refine xg_X6_26_0 C0 I dX6_chooseBetween_126 ?_
  refine lv_iload_n hx hb dX6_chooseBetween_129 rfl (lv_at hl 1 rfl) ?_
  refine lv_iload_n hx hb dX6_chooseBetween_130 rfl (lv_at hl 2 rfl) ?_
  refine lv_ineg hx hb dX6_chooseBetween_131 ?_
  obtain ⟨S10, h10, hf⟩ := bq1_some hf
  refine xcv_v (As := [.ref (g.2.2 17), .int x1, .int (-x2)]) C0 I (kX1_add h10) (cwV 3 C0.2.2.2.2 (gwV wd_404 wd_405 wd_406 wd_70 wd_407) rfl rfl rfl dsc_X1_add ⟨Nat.le_of_ble_eq_true rfl, Nat.le_of_ble_eq_true rfl⟩) (xo_22 I) rfl hl.1 rfl (Nat.le_of_ble_eq_true rfl) dX6_chooseBetween_132 (fun H locs I => ?_)
  refine lv_iinc (v := (x6 + (1 : Int32))) (lv' := [(6, .int (x6 + (1 : Int32))), (0, .ref (g.2.2 0)), (1, .int x1), (2, .int x2), (3, .int x3), (4, .int x4), (5, .int x5)]) hx hb dX6_chooseBetween_135 hl (k := 6) rfl rfl (by decide) rfl (fun ls hl => ?_)
  refine lv_goto (tgt := 25) hx hb dX6_chooseBetween_138 (by decide) ?_
  obtain ⟨rfl, rfl, rfl, rfl, rfl, rfl⟩ := se6 hf
  exact Kt rfl _ _ _ I (lv_sub hl [1, 2, 3, 4, 5, 6, 0] rfl)
set_option maxHeartbeats 4000000 in
set_option maxRecDepth 100000 in
theorem tX6_chooseBetween_110 (C0 : CallFix p m c cX6_chooseBetween 9 s args big RX6) (hr : meth.sig.returnType = none) (hk : meth.locks = false) {x1 : Int32} {x2 : Int32} {x3 : Int32} {x4 : Int32} {x5 : Int32} {x6 : Int32} {x7 : Int32} {x8 : Int32} {b : Bool} {y3 : Int32} {y4 : Int32} {y5 : Int32} {y6 : Int32} (Kt : b = true → ∀ (H : Heap) (locs : List Loc) (ls : Array Slot), xI g s S' H locs → lv_has ls 9 [(0, .ref (g.2.2 0)), (1, .int x1), (2, .int x2), (3, .int y3), (4, .int y4), (5, .int y5), (6, .int y6)] → W p l e ({ frames := 3, cells := 0, slots := 0, locals := 76 } : Room) s m args below meth c H locs 0 0 Q (F0 m 25 ls [])) (Kf : b = false → ∀ (H : Heap) (locs : List Loc) (ls : Array Slot), xI g s S' H locs → lv_has ls 9 [(0, .ref (g.2.2 0)), (1, .int x1), (2, .int x2), (3, .int y3), (4, .int y4), (5, .int y5), (6, .int y6)] → W p l e ({ frames := 3, cells := 0, slots := 0, locals := 76 } : Room) s m args below meth c H locs 0 0 Q (F0 m 141 ls [])) (hf : fX6_chooseBetween_110 S x1 x2 x6 x7 x8 = some (b, S', y3, y4, y5, y6)) (I : xI g s S H locs) (hl : lv_has ls 9 [(0, .ref (g.2.2 0)), (1, .int x1), (2, .int x2), (3, .int x3), (4, .int x4), (5, .int x5), (6, .int x6), (7, .int x7), (8, .int x8)]) : W p l e ({ frames := 3, cells := 0, slots := 0, locals := 76 } : Room) s m args below meth c H locs 0 0 Q (F0 m 110 ls []) := by
  obtain ⟨hx, hb, hml, -, -⟩ := id C0
  unfold fX6_chooseBetween_110 at hf
  refine lv_iload hx hb dX6_chooseBetween_110 (lv_at hl 6 rfl) ?_
  refine lv_istore_n (lv' := [(3, .int x6), (0, .ref (g.2.2 0)), (1, .int x1), (2, .int x2), (4, .int x4), (5, .int x5), (6, .int x6), (7, .int x7), (8, .int x8)]) hx hb dX6_chooseBetween_112 rfl hl (by decide) rfl (fun ls hl => ?_)
  refine lv_iload hx hb dX6_chooseBetween_113 (lv_at hl 7 rfl) ?_
  refine lv_istore (lv' := [(4, .int x7), (3, .int x6), (0, .ref (g.2.2 0)), (1, .int x1), (2, .int x2), (5, .int x5), (6, .int x6), (7, .int x7), (8, .int x8)]) hx hb dX6_chooseBetween_115 hl (by decide) rfl (fun ls hl => ?_)
  refine lv_iload hx hb dX6_chooseBetween_117 (lv_at hl 8 rfl) ?_
  refine lv_istore (lv' := [(5, .int x8), (4, .int x7), (3, .int x6), (0, .ref (g.2.2 0)), (1, .int x1), (2, .int x2), (6, .int x6), (7, .int x7), (8, .int x8)]) hx hb dX6_chooseBetween_119 hl (by decide) rfl (fun ls hl => ?_)
  exact tX6_chooseBetween_121 C0 hr hk Kt Kf hf I (lv_sub hl [3, 4, 5, 2, 1, 0, 6] rfl)
set_option maxHeartbeats 4000000 in
set_option maxRecDepth 100000 in
theorem BX6_chooseBetween_25 (C0 : CallFix p m c cX6_chooseBetween 9 s args big RX6) (hr : meth.sig.returnType = none) (hk : meth.locks = false) {x1 : Int32} {x2 : Int32} {x3 : Int32} {x4 : Int32} {x5 : Int32} {x6 : Int32} {b : Bool} {y3 : Int32} {y4 : Int32} {y5 : Int32} {y6 : Int32} (Kt : b = true → ∀ (H : Heap) (locs : List Loc) (ls : Array Slot), xI g s S' H locs → lv_has ls 9 [(0, .ref (g.2.2 0)), (1, .int x1), (2, .int x2), (3, .int y3), (4, .int y4), (5, .int y5), (6, .int y6)] → W p l e ({ frames := 3, cells := 0, slots := 0, locals := 76 } : Room) s m args below meth c H locs 0 0 Q (F0 m 25 ls [])) (Kf : b = false → ∀ (H : Heap) (locs : List Loc) (ls : Array Slot), xI g s S' H locs → lv_has ls 9 [(0, .ref (g.2.2 0)), (1, .int x1), (2, .int x2), (3, .int y3), (4, .int y4), (5, .int y5), (6, .int y6)] → W p l e ({ frames := 3, cells := 0, slots := 0, locals := 76 } : Room) s m args below meth c H locs 0 0 Q (F0 m 141 ls [])) (hf : bX6_chooseBetween_25 x1 x2 S x3 x4 x5 x6 = some (b, S', y3, y4, y5, y6)) (I : xI g s S H locs) (hl : lv_has ls 9 [(0, .ref (g.2.2 0)), (1, .int x1), (2, .int x2), (3, .int x3), (4, .int x4), (5, .int x5), (6, .int x6)]) : W p l e ({ frames := 3, cells := 0, slots := 0, locals := 76 } : Room) s m args below meth c H locs 0 0 Q (F0 m 25 ls []) := by
  obtain ⟨hx, hb, hml, -, -⟩ := id C0
  unfold bX6_chooseBetween_25 at hf
  refine lv_iload hx hb dX6_chooseBetween_25 (lv_at hl 6 rfl) ?_
  refine lv_iload_n hx hb dX6_chooseBetween_27 rfl (lv_at hl 2 rfl) ?_
  refine lv_icmp_ge (tgt := 141) hx hb dX6_chooseBetween_28 (by decide) (fun c3 => ?_) (fun c3 => ?_)
  · have hf := ip c3 hf
    obtain ⟨rfl, rfl, rfl, rfl, rfl, rfl⟩ := se6 hf
    exact Kf rfl _ _ _ I (lv_sub hl [0, 1, 2, 3, 4, 5, 6] rfl)
  · have hf := inn c3 hf
    refine lv_aload_n hx hb dX6_chooseBetween_31 rfl (lv_at hl 0 rfl) ?_
    refine xg_X6_26_0 C0 I dX6_chooseBetween_32 ?_
    refine lv_aload_n hx hb dX6_chooseBetween_35 rfl (lv_at hl 0 rfl) ?_
    refine xg_X6_10_0 C0 I dX6_chooseBetween_36 ?_
    refine lv_iload_n hx hb dX6_chooseBetween_39 rfl (lv_at hl 1 rfl) ?_
    refine lv_iload hx hb dX6_chooseBetween_40 (lv_at hl 6 rfl) ?_
    obtain ⟨S4, h4, hf⟩ := bq1_some hf
    refine xcv_v (As := [.ref (g.2.2 1), .int x1, .int x6]) C0 I (kX5_trace h4) (cwV 3 C0.2.2.2.2 (gwV wd_437 wd_358 wd_359 wd_69 wd_360) rfl rfl rfl dsc_X5_trace ⟨Nat.le_of_ble_eq_true rfl, Nat.le_of_ble_eq_true rfl⟩) (xo_17 I) rfl hl.1 rfl (Nat.le_of_ble_eq_true rfl) dX6_chooseBetween_42 (fun H locs I => ?_)
    refine lv_aload_n hx hb dX6_chooseBetween_45 rfl (lv_at hl 0 rfl) ?_
    refine xg_X6_33_0 C0 I dX6_chooseBetween_46 ?_
    refine lv_aload_n hx hb dX6_chooseBetween_49 rfl (lv_at hl 0 rfl) ?_
    refine xg_X6_26_0 C0 I dX6_chooseBetween_50 ?_
    refine lv_iload_n hx hb dX6_chooseBetween_53 rfl (lv_at hl 1 rfl) ?_
    refine lv_iload_n hx hb dX6_chooseBetween_54 rfl (lv_at hl 2 rfl) ?_
    obtain ⟨S5, h5, hf⟩ := bq1_some hf
    refine xcv_v (As := [.ref (g.2.2 17), .int x1, .int x2]) C0 I (kX1_add h5) (cwV 3 C0.2.2.2.2 (gwV wd_404 wd_405 wd_406 wd_70 wd_407) rfl rfl rfl dsc_X1_add ⟨Nat.le_of_ble_eq_true rfl, Nat.le_of_ble_eq_true rfl⟩) (xo_22 I) rfl hl.1 rfl (Nat.le_of_ble_eq_true rfl) dX6_chooseBetween_55 (fun H locs I => ?_)
    refine lv_aload_n hx hb dX6_chooseBetween_58 rfl (lv_at hl 0 rfl) ?_
    refine xg_X6_33_0 C0 I dX6_chooseBetween_59 ?_
    refine xg_X6_143_22 C0 I dX6_chooseBetween_62 ?_
    refine lv_aload_n hx hb dX6_chooseBetween_65 rfl (lv_at hl 0 rfl) ?_
    refine xg_X6_33_0 C0 I dX6_chooseBetween_66 ?_
    obtain ⟨r6, h6, hf⟩ := bq1_some hf
    refine xcv_i (As := []) C0 I (kX1_firstGreatest h6) (cwV 0 C0.2.2.2.2 (gwV wd_417 wd_418 wd_419 wd_70 wd_420) rfl rfl rfl dsc_X1_firstGreatest ⟨Nat.le_of_ble_eq_true rfl, Nat.le_of_ble_eq_true rfl⟩) (xo_22 I) rfl hl.1 rfl (Nat.le_of_ble_eq_true rfl) dX6_chooseBetween_69 (fun H locs I => ?_)
    obtain ⟨b7, hf⟩ := chk_some hf
    refine xl_23 hx hb I b7 dX6_chooseBetween_72 ?_
    refine lv_istore (lv' := [(7, .int (gR S5 11 r6)), (0, .ref (g.2.2 0)), (1, .int x1), (2, .int x2), (3, .int x3), (4, .int x4), (5, .int x5), (6, .int x6)]) hx hb dX6_chooseBetween_73 hl (by decide) rfl (fun ls hl => ?_)
    refine lv_aload_n hx hb dX6_chooseBetween_75 rfl (lv_at hl 1 rfl) ?_
    refine xg_X6_33_0 C0 I dX6_chooseBetween_76 ?_
    obtain ⟨r8, h8, hf⟩ := bq1_some hf
    refine xcv_i (As := []) C0 I (kX1_squares h8) (cwV 0 C0.2.2.2.2 (gwV wd_462 wd_463 wd_464 wd_70 wd_465) rfl rfl rfl dsc_X1_squares ⟨Nat.le_of_ble_eq_true rfl, Nat.le_of_ble_eq_true rfl⟩) (xo_22 I) rfl hl.1 rfl (Nat.le_of_ble_eq_true rfl) dX6_chooseBetween_79 (fun H locs I => ?_)
    refine lv_istore (lv' := [(8, .int r8), (7, .int (gR S5 11 r6)), (0, .ref (g.2.2 0)), (1, .int x1), (2, .int x2), (3, .int x3), (4, .int x4), (5, .int x5), (6, .int x6)]) hx hb dX6_chooseBetween_82 hl (by decide) rfl (fun ls hl => ?_)
    refine lv_iload hx hb dX6_chooseBetween_84 (lv_at hl 8 rfl) ?_
    refine lv_if_eq (tgt := 110) hx hb dX6_chooseBetween_86 (by decide) (fun c9 => ?_) (fun c9 => ?_)
    · have hf := ip c9 hf
      exact tX6_chooseBetween_110 C0 hr hk Kt Kf hf I (lv_sub hl [2, 3, 4, 5, 6, 7, 8, 1, 0] rfl)
    · have hf := inn c9 hf
      refine lv_iload hx hb dX6_chooseBetween_89 (lv_at hl 1 rfl) ?_
      refine lv_iload hx hb dX6_chooseBetween_91 (lv_at hl 6 rfl) ?_
      refine lv_icmp_lt (tgt := 110) hx hb dX6_chooseBetween_93 (by decide) (fun c11 => ?_) (fun c11 => ?_)
      · have hf := ip c11 hf
        exact tX6_chooseBetween_110 C0 hr hk Kt Kf hf I (lv_sub hl [2, 3, 4, 5, 6, 7, 8, 1, 0] rfl)
      · have hf := inn c11 hf
        refine lv_iload hx hb dX6_chooseBetween_96 (lv_at hl 1 rfl) ?_
        refine lv_iload hx hb dX6_chooseBetween_98 (lv_at hl 6 rfl) ?_
        refine lv_icmp_ne (tgt := 121) hx hb dX6_chooseBetween_100 (by decide) (fun c12 => ?_) (fun c12 => ?_)
        · have hf := inn c12 hf
          exact tX6_chooseBetween_121 C0 hr hk Kt Kf hf I (lv_sub hl [2, 3, 4, 5, 6, 7, 8] rfl)
        · have hf := ip c12 hf
          refine lv_iload hx hb dX6_chooseBetween_103 (lv_at hl 0 rfl) ?_
          refine lv_iload hx hb dX6_chooseBetween_105 (lv_at hl 7 rfl) ?_
          refine lv_icmp_ge (tgt := 121) hx hb dX6_chooseBetween_107 (by decide) (fun c13 => ?_) (fun c13 => ?_)
          · have hf := ip c13 hf
            exact tX6_chooseBetween_121 C0 hr hk Kt Kf hf I (lv_sub hl [2, 3, 4, 5, 6, 7, 8] rfl)
          · have hf := inn c13 hf
            exact tX6_chooseBetween_110 C0 hr hk Kt Kf hf I (lv_sub hl [2, 3, 4, 5, 6, 7, 8, 1, 0] rfl)
set_option maxHeartbeats 4000000 in
theorem lX6_chooseBetween_25 (C0 : CallFix p m c cX6_chooseBetween 9 s args big RX6) (hr : meth.sig.returnType = none) (hk : meth.locks = false) {x1 : Int32} {x2 : Int32} {S' : St} {y3 : Int32} {y4 : Int32} {y5 : Int32} {y6 : Int32} : ∀ (n : Nat) {S : St} {x3 : Int32} {x4 : Int32} {x5 : Int32} {x6 : Int32}, lp (fun q => bX6_chooseBetween_25 x1 x2 q.1 q.2.1 q.2.2.1 q.2.2.2.1 q.2.2.2.2) n (S, x3, x4, x5, x6) = some (S', y3, y4, y5, y6) → ∀ {H : Heap} {locs : List Loc}, xI g s S H locs → ∀ {ls : Array Slot}, lv_has ls 9 [(0, .ref (g.2.2 0)), (1, .int x1), (2, .int x2), (3, .int x3), (4, .int x4), (5, .int x5), (6, .int x6)] → (∀ (H : Heap) (locs : List Loc) (ls : Array Slot), xI g s S' H locs → lv_has ls 9 [(0, .ref (g.2.2 0)), (1, .int x1), (2, .int x2), (3, .int y3), (4, .int y4), (5, .int y5), (6, .int y6)] → W p l e ({ frames := 3, cells := 0, slots := 0, locals := 76 } : Room) s m args below meth c H locs 0 0 Q (F0 m 141 ls [])) → W p l e ({ frames := 3, cells := 0, slots := 0, locals := 76 } : Room) s m args below meth c H locs 0 0 Q (F0 m 25 ls []) := by
  intro n
  induction n with
  | zero => intro S x3 x4 x5 x6 hf; cases hf
  | succ n ih =>
    intro S x3 x4 x5 x6 hf H locs I ls hl K
    obtain ⟨b, ⟨z0, z1, z2, z3, z4⟩, h1, h2, h3⟩ := lp_some hf
    refine BX6_chooseBetween_25 C0 hr hk (fun hb1 H locs ls I hl => ?_) (fun hb1 H locs ls I hl => ?_) h1 I hl
    · exact ih (h2 hb1) I hl K
    · have e := h3 hb1
      cases e
      exact K H locs ls I hl
set_option maxHeartbeats 4000000 in
set_option maxRecDepth 100000 in
theorem tX6_chooseBetween_0 (C0 : CallFix p m c cX6_chooseBetween 9 s args big RX6) (hr : meth.sig.returnType = none) (hk : meth.locks = false) {x1 : Int32}  (hf : fX6_chooseBetween S x1 = some S') (I : xI g s S H locs) (hl : lv_has ls 9 [(0, .ref (g.2.2 0)), (1, .int x1)]) : W p l e ({ frames := 3, cells := 0, slots := 0, locals := 76 } : Room) s m args below meth c H locs 0 0 (MQ below (va_Qv (fun S2 => S2 = S') (xB g) (xA g)) args s 0 0 (xA g)) (F0 m 0 ls []) := by
  obtain ⟨hx, hb, hml, -, -⟩ := id C0
  unfold fX6_chooseBetween at hf
  refine lv_aload_n hx hb dX6_chooseBetween_0 rfl (lv_at hl 0 rfl) ?_
  refine lv_iload_n hx hb dX6_chooseBetween_1 rfl (lv_at hl 1 rfl) ?_
  refine lv_iconst (v := -1) hx hb dX6_chooseBetween_2 (by decide) ?_
  obtain ⟨S1, h1, hf⟩ := bq1_some hf
  refine xcv_v (As := [.int x1, .int (-1 : Int32)]) C0 I (kX6_addDrawn h1) (cwV 2 C0.2.2.2.2 (gwV wd_438 wd_440 wd_6 wd_66 wd_441) rfl rfl rfl dsc_X6_addDrawn ⟨Nat.le_of_ble_eq_true rfl, Nat.le_of_ble_eq_true rfl⟩) (xo_0 I) rfl hl.1 rfl (Nat.le_of_ble_eq_true rfl) dX6_chooseBetween_3 (fun H locs I => ?_)
  refine lv_aload_n hx hb dX6_chooseBetween_6 rfl (lv_at hl 0 rfl) ?_
  refine xg_X6_10_0 C0 I dX6_chooseBetween_7 ?_
  obtain ⟨r2, h2, hf⟩ := bq1_some hf
  refine xcv_i (As := []) C0 I (kX3_corners h2) (cwV 0 C0.2.2.2.2 (gwV wd_336 wd_299 wd_300 wd_67 wd_301) rfl rfl rfl dsc_X3_corners ⟨Nat.le_of_ble_eq_true rfl, Nat.le_of_ble_eq_true rfl⟩) (xo_1 I) rfl hl.1 rfl (Nat.le_of_ble_eq_true rfl) dX6_chooseBetween_10 (fun H locs I => ?_)
  refine lv_istore_n (lv' := [(2, .int r2), (0, .ref (g.2.2 0)), (1, .int x1)]) hx hb dX6_chooseBetween_13 rfl hl (by decide) rfl (fun ls hl => ?_)
  refine lv_iconst (v := 0) hx hb dX6_chooseBetween_14 (by decide) ?_
  refine lv_istore_n (lv' := [(3, .int (0 : Int32)), (2, .int r2), (0, .ref (g.2.2 0)), (1, .int x1)]) hx hb dX6_chooseBetween_15 rfl hl (by decide) rfl (fun ls hl => ?_)
  refine lv_iconst (v := 0) hx hb dX6_chooseBetween_16 (by decide) ?_
  refine lv_istore (lv' := [(4, .int (0 : Int32)), (3, .int (0 : Int32)), (2, .int r2), (0, .ref (g.2.2 0)), (1, .int x1)]) hx hb dX6_chooseBetween_17 hl (by decide) rfl (fun ls hl => ?_)
  refine lv_iconst (v := 0) hx hb dX6_chooseBetween_19 (by decide) ?_
  refine lv_istore (lv' := [(5, .int (0 : Int32)), (4, .int (0 : Int32)), (3, .int (0 : Int32)), (2, .int r2), (0, .ref (g.2.2 0)), (1, .int x1)]) hx hb dX6_chooseBetween_20 hl (by decide) rfl (fun ls hl => ?_)
  refine lv_iconst (v := 0) hx hb dX6_chooseBetween_22 (by decide) ?_
  refine lv_istore (lv' := [(6, .int (0 : Int32)), (5, .int (0 : Int32)), (4, .int (0 : Int32)), (3, .int (0 : Int32)), (2, .int r2), (0, .ref (g.2.2 0)), (1, .int x1)]) hx hb dX6_chooseBetween_23 hl (by decide) rfl (fun ls hl => ?_)
  obtain ⟨S14, y3_14, y4_14, y5_14, y6_14, h14, hf⟩ := bq5_some hf
  refine lX6_chooseBetween_25 C0 hr hk fu h14 I (lv_sub hl [5, 6, 4, 3, 2, 1, 0] rfl) (fun H locs ls I hl => ?_)
  refine lv_aload_n hx hb dX6_chooseBetween_141 rfl (lv_at hl 0 rfl) ?_
  refine xg_X6_10_0 C0 I dX6_chooseBetween_142 ?_
  refine lv_iload_n hx hb dX6_chooseBetween_145 rfl (lv_at hl 1 rfl) ?_
  refine lv_iconst (v := 2) hx hb dX6_chooseBetween_146 (by decide) ?_
  refine lv_iload_n hx hb dX6_chooseBetween_147 rfl (lv_at hl 3 rfl) ?_
  obtain ⟨S15, h15, hf⟩ := bq1_some hf
  refine xcv_v (As := [.int x1, .int (2 : Int32), .int y3_14]) C0 I (kX3_change h15) (cwV 3 C0.2.2.2.2 (gwV wd_322 wd_307 wd_308 wd_67 wd_309) rfl rfl rfl dsc_X3_change ⟨Nat.le_of_ble_eq_true rfl, Nat.le_of_ble_eq_true rfl⟩) (xo_1 I) rfl hl.1 rfl (Nat.le_of_ble_eq_true rfl) dX6_chooseBetween_148 (fun H locs I => ?_)
  refine lv_aload_n hx hb dX6_chooseBetween_151 rfl (lv_at hl 0 rfl) ?_
  refine xg_X6_26_0 C0 I dX6_chooseBetween_152 ?_
  refine lv_aload_n hx hb dX6_chooseBetween_155 rfl (lv_at hl 0 rfl) ?_
  refine xg_X6_10_0 C0 I dX6_chooseBetween_156 ?_
  refine lv_iload_n hx hb dX6_chooseBetween_159 rfl (lv_at hl 1 rfl) ?_
  refine lv_iload_n hx hb dX6_chooseBetween_160 rfl (lv_at hl 3 rfl) ?_
  obtain ⟨S16, h16, hf⟩ := bq1_some hf
  refine xcv_v (As := [.ref (g.2.2 1), .int x1, .int y3_14]) C0 I (kX5_trace h16) (cwV 3 C0.2.2.2.2 (gwV wd_437 wd_358 wd_359 wd_69 wd_360) rfl rfl rfl dsc_X5_trace ⟨Nat.le_of_ble_eq_true rfl, Nat.le_of_ble_eq_true rfl⟩) (xo_17 I) rfl hl.1 rfl (Nat.le_of_ble_eq_true rfl) dX6_chooseBetween_161 (fun H locs I => ?_)
  refine lv_aload_n hx hb dX6_chooseBetween_164 rfl (lv_at hl 0 rfl) ?_
  refine xg_X6_33_0 C0 I dX6_chooseBetween_165 ?_
  refine lv_aload_n hx hb dX6_chooseBetween_168 rfl (lv_at hl 0 rfl) ?_
  refine xg_X6_26_0 C0 I dX6_chooseBetween_169 ?_
  refine lv_iload_n hx hb dX6_chooseBetween_172 rfl (lv_at hl 1 rfl) ?_
  refine lv_iload_n hx hb dX6_chooseBetween_173 rfl (lv_at hl 2 rfl) ?_
  obtain ⟨S17, h17, hf⟩ := bq1_some hf
  refine xcv_v (As := [.ref (g.2.2 17), .int x1, .int r2]) C0 I (kX1_add h17) (cwV 3 C0.2.2.2.2 (gwV wd_404 wd_405 wd_406 wd_70 wd_407) rfl rfl rfl dsc_X1_add ⟨Nat.le_of_ble_eq_true rfl, Nat.le_of_ble_eq_true rfl⟩) (xo_22 I) rfl hl.1 rfl (Nat.le_of_ble_eq_true rfl) dX6_chooseBetween_174 (fun H locs I => ?_)
  obtain rfl := se1 hf
  exact xrv C0 hr hk I dX6_chooseBetween_177
set_option maxRecDepth 100000 in
theorem kX6_chooseBetween {x1 : Int32}  (hf : fX6_chooseBetween S x1 = some S') : Met l yX6_chooseBetween (Cond.code yX6_chooseBetween cX6_chooseBetween 9 none :: big) ({ frames := 3, cells := 0, slots := 0, locals := 76 } : Room) (va_Pc [.ref (g.2.2 0), .int x1] (xB g S)) (va_Qv (fun S2 => S2 = S') (xB g) (xA g)) 0 0 (xA g) := by
  refine Met.ofW (cc := cX6_chooseBetween) (maxL := 9) (ret := none) (by decide) rfl ?_
  intro p e s m args below meth c s₁ B hml hv
  obtain ⟨rfl, hP, hK, hD⟩ := hv
  have hts0 := atoms_spec (ws := (Cond.code yX6_chooseBetween cX6_chooseBetween 9 none :: big)) B.pre
  have C0 : CallFix p m c cX6_chooseBetween 9 s _ big RX6 := ⟨B.exec, B.bytes, hml, findClass_of_methodNamed B.named, fun w h => hts0 w (List.mem_cons_of_mem _ h)⟩
  have I : xI g s S s.heap [] := ⟨hK, hP, hD, va_S.rf⟩
  have hl := lv_entry ([.ref (g.2.2 0), .int x1]) (n := 9) (Nat.le_of_ble_eq_true rfl)
  rw [lg_entry_eq]
  generalize (lg_sl ([.ref (g.2.2 0), .int x1]) ++ List.replicate (9 - (lg_sl ([.ref (g.2.2 0), .int x1])).length) Slot.unset).toArray = ls at hl ⊢
  have hl : lv_has ls 9 [(0, .ref (g.2.2 0)), (1, .int x1)] := hl
  exact tX6_chooseBetween_0 C0 B.returns B.notSynchronized hf I (lv_sub hl [0, 1] rfl)
set_option maxHeartbeats 4000000 in
set_option maxRecDepth 100000 in
theorem BX6_chooses_35 (C0 : CallFix p m c cX6_chooses 2 s args big RX6) (hr : meth.sig.returnType = (some .int)) (hk : meth.locks = false) {x1 : Int32} {b : Bool} {y1 : Int32} (Kt : b = true → ∀ (H : Heap) (locs : List Loc) (ls : Array Slot), xI g s S' H locs → lv_has ls 2 [(0, .ref (g.2.2 0)), (1, .int y1)] → W p l e ({ frames := 4, cells := 0, slots := 0, locals := 104 } : Room) s m args below meth c H locs 0 0 Q (F0 m 35 ls [])) (Kf : b = false → ∀ (H : Heap) (locs : List Loc) (ls : Array Slot), xI g s S' H locs → lv_has ls 2 [(0, .ref (g.2.2 0)), (1, .int y1)] → W p l e ({ frames := 4, cells := 0, slots := 0, locals := 104 } : Room) s m args below meth c H locs 0 0 Q (F0 m 57 ls [])) (hf : bX6_chooses_35 S x1 = some (b, S', y1)) (I : xI g s S H locs) (hl : lv_has ls 2 [(0, .ref (g.2.2 0)), (1, .int x1)]) : W p l e ({ frames := 4, cells := 0, slots := 0, locals := 104 } : Room) s m args below meth c H locs 0 0 Q (F0 m 35 ls []) := by
  obtain ⟨hx, hb, hml, -, -⟩ := id C0
  unfold bX6_chooses_35 at hf
  refine lv_iload_n hx hb dX6_chooses_35 rfl (lv_at hl 1 rfl) ?_
  refine lv_aload_n hx hb dX6_chooses_36 rfl (lv_at hl 0 rfl) ?_
  refine xg_X6_10_0 C0 I dX6_chooses_37 ?_
  refine xg_X6_73_1 C0 I dX6_chooses_40 ?_
  refine lv_icmp_ge (tgt := 57) hx hb dX6_chooses_43 (by decide) (fun c4 => ?_) (fun c4 => ?_)
  · have hf := ip c4 hf
    obtain ⟨rfl, rfl, rfl⟩ := se3 hf
    exact Kf rfl _ _ _ I (lv_sub hl [0, 1] rfl)
  · have hf := inn c4 hf
    refine lv_aload_n hx hb dX6_chooses_46 rfl (lv_at hl 0 rfl) ?_
    refine lv_iload_n hx hb dX6_chooses_47 rfl (lv_at hl 1 rfl) ?_
    obtain ⟨S5, h5, hf⟩ := bq1_some hf
    refine xcv_v (As := [.int x1]) C0 I (kX6_chooseBetween h5) (cwV 1 C0.2.2.2.2 (gwV wd_458 wd_460 wd_8 wd_66 wd_461) rfl rfl rfl dsc_X6_chooseBetween ⟨Nat.le_of_ble_eq_true rfl, Nat.le_of_ble_eq_true rfl⟩) (xo_0 I) rfl hl.1 rfl (Nat.le_of_ble_eq_true rfl) dX6_chooses_48 (fun H locs I => ?_)
    refine lv_iinc (v := (x1 + (1 : Int32))) (lv' := [(1, .int (x1 + (1 : Int32))), (0, .ref (g.2.2 0))]) hx hb dX6_chooses_51 hl (k := 1) rfl rfl (by decide) rfl (fun ls hl => ?_)
    refine lv_goto (tgt := 35) hx hb dX6_chooses_54 (by decide) ?_
    obtain ⟨rfl, rfl, rfl⟩ := se3 hf
    exact Kt rfl _ _ _ I (lv_sub hl [1, 0] rfl)
set_option maxHeartbeats 4000000 in
theorem lX6_chooses_35 (C0 : CallFix p m c cX6_chooses 2 s args big RX6) (hr : meth.sig.returnType = (some .int)) (hk : meth.locks = false)  {S' : St} {y1 : Int32} : ∀ (n : Nat) {S : St} {x1 : Int32}, lp (fun q => bX6_chooses_35 q.1 q.2) n (S, x1) = some (S', y1) → ∀ {H : Heap} {locs : List Loc}, xI g s S H locs → ∀ {ls : Array Slot}, lv_has ls 2 [(0, .ref (g.2.2 0)), (1, .int x1)] → (∀ (H : Heap) (locs : List Loc) (ls : Array Slot), xI g s S' H locs → lv_has ls 2 [(0, .ref (g.2.2 0)), (1, .int y1)] → W p l e ({ frames := 4, cells := 0, slots := 0, locals := 104 } : Room) s m args below meth c H locs 0 0 Q (F0 m 57 ls [])) → W p l e ({ frames := 4, cells := 0, slots := 0, locals := 104 } : Room) s m args below meth c H locs 0 0 Q (F0 m 35 ls []) := by
  intro n
  induction n with
  | zero => intro S x1 hf; cases hf
  | succ n ih =>
    intro S x1 hf H locs I ls hl K
    obtain ⟨b, ⟨z0, z1⟩, h1, h2, h3⟩ := lp_some hf
    refine BX6_chooses_35 C0 hr hk (fun hb1 H locs ls I hl => ?_) (fun hb1 H locs ls I hl => ?_) h1 I hl
    · exact ih (h2 hb1) I hl K
    · have e := h3 hb1
      cases e
      exact K H locs ls I hl
set_option maxHeartbeats 4000000 in
set_option maxRecDepth 100000 in
theorem tX6_chooses_0 (C0 : CallFix p m c cX6_chooses 2 s args big RX6) (hr : meth.sig.returnType = (some .int)) (hk : meth.locks = false)  {rr : Int32}  (hf : fX6_chooses S = some (rr, S')) (I : xI g s S H locs) (hl : lv_has ls 2 [(0, .ref (g.2.2 0))]) : W p l e ({ frames := 4, cells := 0, slots := 0, locals := 104 } : Room) s m args below meth c H locs 0 0 (MQ below (va_Qi (fun r' S2 => r' = rr ∧ S2 = S') (xB g) (xA g)) args s 0 0 (xA g)) (F0 m 0 ls []) := by
  obtain ⟨hx, hb, hml, -, -⟩ := id C0
  unfold fX6_chooses at hf
  refine lv_aload_n hx hb dX6_chooses_0 rfl (lv_at hl 0 rfl) ?_
  refine xg_X6_10_0 C0 I dX6_chooses_1 ?_
  refine xg_X6_73_1 C0 I dX6_chooses_4 ?_
  refine lv_if_ne (tgt := 17) hx hb dX6_chooses_7 (by decide) (fun c1 => ?_) (fun c1 => ?_)
  · have hf := inn c1 hf
    refine lv_aload_n hx hb dX6_chooses_17 rfl (lv_at hl 0 rfl) ?_
    refine xg_X6_19_0 C0 I dX6_chooses_18 ?_
    refine lv_aload_n hx hb dX6_chooses_21 rfl (lv_at hl 0 rfl) ?_
    refine xg_X6_10_0 C0 I dX6_chooses_22 ?_
    obtain ⟨S2, h2, hf⟩ := bq1_some hf
    refine xcv_v (As := [.ref (g.2.2 1)]) C0 I (kX0_keep h2) (cwV 1 C0.2.2.2.2 (gwV wd_276 wd_277 wd_278 wd_68 wd_279) rfl rfl rfl dsc_X0_keep ⟨Nat.le_of_ble_eq_true rfl, Nat.le_of_ble_eq_true rfl⟩) (xo_3 I) rfl hl.1 rfl (Nat.le_of_ble_eq_true rfl) dX6_chooses_25 (fun H locs I => ?_)
    refine lv_aload_n hx hb dX6_chooses_28 rfl (lv_at hl 0 rfl) ?_
    refine lv_iconst (v := 0) hx hb dX6_chooses_29 (by decide) ?_
    obtain ⟨S3, h3, hf⟩ := bq1_some hf
    refine xcv_v (As := [.int (0 : Int32)]) C0 I (kX6_tallyMean h3) (cwV 1 C0.2.2.2.2 (gwV wd_433 wd_435 wd_5 wd_66 wd_436) rfl rfl rfl dsc_X6_tallyMean ⟨Nat.le_of_ble_eq_true rfl, Nat.le_of_ble_eq_true rfl⟩) (xo_0 I) rfl hl.1 rfl (Nat.le_of_ble_eq_true rfl) dX6_chooses_30 (fun H locs I => ?_)
    refine lv_iconst (v := 0) hx hb dX6_chooses_33 (by decide) ?_
    refine lv_istore_n (lv' := [(1, .int (0 : Int32)), (0, .ref (g.2.2 0))]) hx hb dX6_chooses_34 rfl hl (by decide) rfl (fun ls hl => ?_)
    obtain ⟨S6, y1_6, h6, hf⟩ := bq2_some hf
    refine lX6_chooses_35 C0 hr hk fu h6 I (lv_sub hl [1, 0] rfl) (fun H locs ls I hl => ?_)
    refine lv_aload_n hx hb dX6_chooses_57 rfl (lv_at hl 0 rfl) ?_
    obtain ⟨S7, h7, hf⟩ := bq1_some hf
    refine xcv_v (As := []) C0 I (kX6_tallyWays h7) (cwV 0 C0.2.2.2.2 (gwV wd_393 wd_395 wd_3 wd_66 wd_396) rfl rfl rfl dsc_X6_tallyWays ⟨Nat.le_of_ble_eq_true rfl, Nat.le_of_ble_eq_true rfl⟩) (xo_0 I) rfl hl.1 rfl (Nat.le_of_ble_eq_true rfl) dX6_chooses_58 (fun H locs I => ?_)
    refine lv_aload_n hx hb dX6_chooses_61 rfl (lv_at hl 0 rfl) ?_
    refine lv_iconst (v := 0) hx hb dX6_chooses_62 (by decide) ?_
    obtain ⟨r8, h8, hf⟩ := bq1_some hf
    refine xcv_i (As := [.int (0 : Int32)]) C0 I (kX6_loadsFact h8) (cwV 1 C0.2.2.2.2 (gwV wd_413 wd_415 wd_4 wd_66 wd_416) rfl rfl rfl dsc_X6_loadsFact ⟨Nat.le_of_ble_eq_true rfl, Nat.le_of_ble_eq_true rfl⟩) (xo_0 I) rfl hl.1 rfl (Nat.le_of_ble_eq_true rfl) dX6_chooses_63 (fun H locs I => ?_)
    obtain ⟨rfl, rfl⟩ := se2 hf
    exact xri C0 hr hk I dX6_chooses_66
  · have hf := ip c1 hf
    refine lv_aload_n hx hb dX6_chooses_10 rfl (lv_at hl 0 rfl) ?_
    refine lv_bipush (v := -3) hx hb dX6_chooses_11 (by decide) ?_
    obtain ⟨r9, S9, h9, hf⟩ := bq2_some hf
    refine xcv_i (As := [.int (-3 : Int32)]) C0 I (kX6_refuse h9) (cwV 1 C0.2.2.2.2 (gwV wd_272 wd_274 wd_0 wd_66 wd_275) rfl rfl rfl dsc_X6_refuse ⟨Nat.le_of_ble_eq_true rfl, Nat.le_of_ble_eq_true rfl⟩) (xo_0 I) rfl hl.1 rfl (Nat.le_of_ble_eq_true rfl) dX6_chooses_13 (fun H locs I => ?_)
    obtain ⟨rfl, rfl⟩ := se2 hf
    exact xri C0 hr hk I dX6_chooses_16
set_option maxRecDepth 100000 in
theorem kX6_chooses  {rr : Int32} (hf : fX6_chooses S  = some (rr, S')) : Met l yX6_chooses (Cond.code yX6_chooses cX6_chooses 2 (some .int) :: big) ({ frames := 4, cells := 0, slots := 0, locals := 104 } : Room) (va_Pc [.ref (g.2.2 0)] (xB g S)) (va_Qi (fun r' S2 => r' = rr ∧ S2 = S') (xB g) (xA g)) 0 0 (xA g) := by
  refine Met.ofW (cc := cX6_chooses) (maxL := 2) (ret := (some .int)) (by decide) rfl ?_
  intro p e s m args below meth c s₁ B hml hv
  obtain ⟨rfl, hP, hK, hD⟩ := hv
  have hts0 := atoms_spec (ws := (Cond.code yX6_chooses cX6_chooses 2 (some .int) :: big)) B.pre
  have C0 : CallFix p m c cX6_chooses 2 s _ big RX6 := ⟨B.exec, B.bytes, hml, findClass_of_methodNamed B.named, fun w h => hts0 w (List.mem_cons_of_mem _ h)⟩
  have I : xI g s S s.heap [] := ⟨hK, hP, hD, va_S.rf⟩
  have hl := lv_entry ([.ref (g.2.2 0)]) (n := 2) (Nat.le_of_ble_eq_true rfl)
  rw [lg_entry_eq]
  generalize (lg_sl ([.ref (g.2.2 0)]) ++ List.replicate (2 - (lg_sl ([.ref (g.2.2 0)])).length) Slot.unset).toArray = ls at hl ⊢
  have hl : lv_has ls 2 [(0, .ref (g.2.2 0))] := hl
  exact tX6_chooses_0 C0 B.returns B.notSynchronized hf I (lv_sub hl [0] rfl)
set_option maxHeartbeats 4000000 in
set_option maxRecDepth 100000 in
theorem Bfill_25_5 (C0 : CallFix p m c cJ7_fill_53178 4 s args big RJ7) (hr : meth.sig.returnType = none) (hk : meth.locks = false) {x1 : Int32} {x2 : Int32} {x3 : Int32} {b : Bool} {y2 : Int32} (Kt : b = true → ∀ (H : Heap) (locs : List Loc) (ls : Array Slot), xI g s S' H locs → lv_has ls 4 [(0, .ref (g.2.2 25)), (1, .int x1), (2, .int y2), (3, .int x3)] → W p l e ({ frames := 0, cells := 0, slots := 0, locals := 0 } : Room) s m args below meth c H locs 0 0 Q (F0 m 5 ls [])) (Kf : b = false → ∀ (H : Heap) (locs : List Loc) (ls : Array Slot), xI g s S' H locs → lv_has ls 4 [(0, .ref (g.2.2 25)), (1, .int x1), (2, .int y2), (3, .int x3)] → W p l e ({ frames := 0, cells := 0, slots := 0, locals := 0 } : Room) s m args below meth c H locs 0 0 Q (F0 m 20 ls [])) (hf : bfill_25_5 x1 x3 S x2 = some (b, S', y2)) (I : xI g s S H locs) (hl : lv_has ls 4 [(0, .ref (g.2.2 25)), (1, .int x1), (2, .int x2), (3, .int x3)]) : W p l e ({ frames := 0, cells := 0, slots := 0, locals := 0 } : Room) s m args below meth c H locs 0 0 Q (F0 m 5 ls []) := by
  obtain ⟨hx, hb, hml, -, -⟩ := id C0
  unfold bfill_25_5 at hf
  refine lv_iload_n hx hb dJ7_fill_53178_5 rfl (lv_at hl 2 rfl) ?_
  refine lv_iload_n hx hb dJ7_fill_53178_6 rfl (lv_at hl 3 rfl) ?_
  refine lv_icmp_ge (tgt := 20) hx hb dJ7_fill_53178_7 (by decide) (fun c1 => ?_) (fun c1 => ?_)
  · have hf := ip c1 hf
    obtain ⟨rfl, rfl, rfl⟩ := se3 hf
    exact Kf rfl _ _ _ I (lv_sub hl [0, 1, 2, 3] rfl)
  · have hf := inn c1 hf
    refine lv_aload_n hx hb dJ7_fill_53178_10 rfl (lv_at hl 0 rfl) ?_
    refine lv_iload_n hx hb dJ7_fill_53178_11 rfl (lv_at hl 2 rfl) ?_
    refine lv_iload_n hx hb dJ7_fill_53178_12 rfl (lv_at hl 1 rfl) ?_
    obtain ⟨b2, hf⟩ := chk_some hf
    refine xs_25 hx hb I b2 dJ7_fill_53178_13 (fun H locs I => ?_)
    refine lv_iinc (v := (x2 + (1 : Int32))) (lv' := [(2, .int (x2 + (1 : Int32))), (0, .ref (g.2.2 25)), (1, .int x1), (3, .int x3)]) hx hb dJ7_fill_53178_14 hl (k := 2) rfl rfl (by decide) rfl (fun ls hl => ?_)
    refine lv_goto (tgt := 5) hx hb dJ7_fill_53178_17 (by decide) ?_
    obtain ⟨rfl, rfl, rfl⟩ := se3 hf
    exact Kt rfl _ _ _ I (lv_sub hl [1, 2, 0, 3] rfl)
set_option maxHeartbeats 4000000 in
theorem lfill_25_5 (C0 : CallFix p m c cJ7_fill_53178 4 s args big RJ7) (hr : meth.sig.returnType = none) (hk : meth.locks = false) {x1 : Int32} {x3 : Int32} {S' : St} {y2 : Int32} : ∀ (n : Nat) {S : St} {x2 : Int32}, lp (fun q => bfill_25_5 x1 x3 q.1 q.2) n (S, x2) = some (S', y2) → ∀ {H : Heap} {locs : List Loc}, xI g s S H locs → ∀ {ls : Array Slot}, lv_has ls 4 [(0, .ref (g.2.2 25)), (1, .int x1), (2, .int x2), (3, .int x3)] → (∀ (H : Heap) (locs : List Loc) (ls : Array Slot), xI g s S' H locs → lv_has ls 4 [(0, .ref (g.2.2 25)), (1, .int x1), (2, .int y2), (3, .int x3)] → W p l e ({ frames := 0, cells := 0, slots := 0, locals := 0 } : Room) s m args below meth c H locs 0 0 Q (F0 m 20 ls [])) → W p l e ({ frames := 0, cells := 0, slots := 0, locals := 0 } : Room) s m args below meth c H locs 0 0 Q (F0 m 5 ls []) := by
  intro n
  induction n with
  | zero => intro S x2 hf; cases hf
  | succ n ih =>
    intro S x2 hf H locs I ls hl K
    obtain ⟨b, ⟨z0, z1⟩, h1, h2, h3⟩ := lp_some hf
    refine Bfill_25_5 C0 hr hk (fun hb1 H locs ls I hl => ?_) (fun hb1 H locs ls I hl => ?_) h1 I hl
    · exact ih (h2 hb1) I hl K
    · have e := h3 hb1
      cases e
      exact K H locs ls I hl
set_option maxHeartbeats 4000000 in
set_option maxRecDepth 100000 in
theorem tfill_25_0 (C0 : CallFix p m c cJ7_fill_53178 4 s args big RJ7) (hr : meth.sig.returnType = none) (hk : meth.locks = false) {x1 : Int32}  (hf : ffill_25 S x1 = some S') (I : xI g s S H locs) (hl : lv_has ls 4 [(0, .ref (g.2.2 25)), (1, .int x1)]) : W p l e ({ frames := 0, cells := 0, slots := 0, locals := 0 } : Room) s m args below meth c H locs 0 0 (MQ below (va_Qv (fun S2 => S2 = S') (xB g) (xA g)) args s 0 0 (xA g)) (F0 m 0 ls []) := by
  obtain ⟨hx, hb, hml, -, -⟩ := id C0
  unfold ffill_25 at hf
  refine lv_iconst (v := 0) hx hb dJ7_fill_53178_0 (by decide) ?_
  refine lv_istore_n (lv' := [(2, .int (0 : Int32)), (0, .ref (g.2.2 25)), (1, .int x1)]) hx hb dJ7_fill_53178_1 rfl hl (by decide) rfl (fun ls hl => ?_)
  refine lv_aload_n hx hb dJ7_fill_53178_2 rfl (lv_at hl 1 rfl) ?_
  refine xn_25 hx hb I dJ7_fill_53178_3 ?_
  refine lv_istore_n (lv' := [(3, .int (16 : Int32)), (2, .int (0 : Int32)), (0, .ref (g.2.2 25)), (1, .int x1)]) hx hb dJ7_fill_53178_4 rfl hl (by decide) rfl (fun ls hl => ?_)
  obtain ⟨S3, y2_3, h3, hf⟩ := bq2_some hf
  refine lfill_25_5 C0 hr hk fu h3 I (lv_sub hl [2, 3, 1, 0] rfl) (fun H locs ls I hl => ?_)
  obtain rfl := se1 hf
  exact xrv C0 hr hk I dJ7_fill_53178_20
set_option maxRecDepth 100000 in
theorem kfill_25 {x1 : Int32}  (hf : ffill_25 S x1 = some S') : Met l yJ7_fill_53178 (Cond.code yJ7_fill_53178 cJ7_fill_53178 4 none :: big) ({ frames := 0, cells := 0, slots := 0, locals := 0 } : Room) (va_Pc [.ref (g.2.2 25), .int x1] (xB g S)) (va_Qv (fun S2 => S2 = S') (xB g) (xA g)) 0 0 (xA g) := by
  refine Met.ofW (cc := cJ7_fill_53178) (maxL := 4) (ret := none) (by decide) rfl ?_
  intro p e s m args below meth c s₁ B hml hv
  obtain ⟨rfl, hP, hK, hD⟩ := hv
  have hts0 := atoms_spec (ws := (Cond.code yJ7_fill_53178 cJ7_fill_53178 4 none :: big)) B.pre
  have C0 : CallFix p m c cJ7_fill_53178 4 s _ big RJ7 := ⟨B.exec, B.bytes, hml, findClass_of_methodNamed B.named, fun w h => hts0 w (List.mem_cons_of_mem _ h)⟩
  have I : xI g s S s.heap [] := ⟨hK, hP, hD, va_S.rf⟩
  have hl := lv_entry ([.ref (g.2.2 25), .int x1]) (n := 4) (Nat.le_of_ble_eq_true rfl)
  rw [lg_entry_eq]
  generalize (lg_sl ([.ref (g.2.2 25), .int x1]) ++ List.replicate (4 - (lg_sl ([.ref (g.2.2 25), .int x1])).length) Slot.unset).toArray = ls at hl ⊢
  have hl : lv_has ls 4 [(0, .ref (g.2.2 25)), (1, .int x1)] := hl
  exact tfill_25_0 C0 B.returns B.notSynchronized hf I (lv_sub hl [0, 1] rfl)
end
