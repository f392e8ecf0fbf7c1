section
variable {p : Program} {l : Launch} {e : Env} {s : State} {m : MethodId} {args : Array Value} {below : List Frame} {meth : Method} {c : Code} {Q : State → Prop} {g : xG} {H : Heap} {locs : List Loc} {ls : Array Slot} {S S' : St}
set_option maxHeartbeats 4000000 in
set_option maxRecDepth 100000 in
theorem Bfill_26_5 (C0 : CallFix p m c cJ7_fill_53178 4 s args big RJ7) (hr : meth.sig.returnType = none) (hk : meth.locks = false) {x1 : Int32} {x2 : Int32} {x3 : Int32} {b : Bool} {y2 : Int32} (Kt : b = true → ∀ (H : Heap) (locs : List Loc) (ls : Array Slot), xI g s S' H locs → lv_has ls 4 [(0, .ref (g.2.2 26)), (1, .int x1), (2, .int y2), (3, .int x3)] → W p l e ({ frames := 0, cells := 0, slots := 0, locals := 0 } : Room) s m args below meth c H locs 0 0 Q (F0 m 5 ls [])) (Kf : b = false → ∀ (H : Heap) (locs : List Loc) (ls : Array Slot), xI g s S' H locs → lv_has ls 4 [(0, .ref (g.2.2 26)), (1, .int x1), (2, .int y2), (3, .int x3)] → W p l e ({ frames := 0, cells := 0, slots := 0, locals := 0 } : Room) s m args below meth c H locs 0 0 Q (F0 m 20 ls [])) (hf : bfill_26_5 x1 x3 S x2 = some (b, S', y2)) (I : xI g s S H locs) (hl : lv_has ls 4 [(0, .ref (g.2.2 26)), (1, .int x1), (2, .int x2), (3, .int x3)]) : W p l e ({ frames := 0, cells := 0, slots := 0, locals := 0 } : Room) s m args below meth c H locs 0 0 Q (F0 m 5 ls []) := by
  obtain ⟨hx, hb, hml, -, -⟩ := id C0
  unfold bfill_26_5 at hf
  refine lv_iload_n hx hb dJ7_fill_53178_5 rfl (lv_at hl 2 rfl) ?_
  refine lv_iload_n hx hb dJ7_fill_53178_6 rfl (lv_at hl 3 rfl) ?_
  refine lv_icmp_ge (tgt := 20) hx hb dJ7_fill_53178_7 (by decide) (fun c1 => ?_) (fun c1 => ?_)
  · have hf := ip c1 hf
    obtain ⟨rfl, rfl, rfl⟩ := se3 hf
    exact Kf rfl _ _ _ I (lv_sub hl [0, 1, 2, 3] rfl)
  · have hf := inn c1 hf
    refine lv_aload_n hx hb dJ7_fill_53178_10 rfl (lv_at hl 0 rfl) ?_
    refine lv_iload_n hx hb dJ7_fill_53178_11 rfl (lv_at hl 2 rfl) ?_
    refine lv_iload_n hx hb dJ7_fill_53178_12 rfl (lv_at hl 1 rfl) ?_
    obtain ⟨b2, hf⟩ := chk_some hf
    refine xs_26 hx hb I b2 dJ7_fill_53178_13 (fun H locs I => ?_)
    refine lv_iinc (v := (x2 + (1 : Int32))) (lv' := [(2, .int (x2 + (1 : Int32))), (0, .ref (g.2.2 26)), (1, .int x1), (3, .int x3)]) hx hb dJ7_fill_53178_14 hl (k := 2) rfl rfl (by decide) rfl (fun ls hl => ?_)
    refine lv_goto (tgt := 5) hx hb dJ7_fill_53178_17 (by decide) ?_
    obtain ⟨rfl, rfl, rfl⟩ := se3 hf
    exact Kt rfl _ _ _ I (lv_sub hl [1, 2, 0, 3] rfl)
set_option maxHeartbeats 4000000 in
theorem lfill_26_5 (C0 : CallFix p m c cJ7_fill_53178 4 s args big RJ7) (hr : meth.sig.returnType = none) (hk : meth.locks = false) {x1 : Int32} {x3 : Int32} {S' : St} {y2 : Int32} : ∀ (n : Nat) {S : St} {x2 : Int32}, lp (fun q => bfill_26_5 x1 x3 q.1 q.2) n (S, x2) = some (S', y2) → ∀ {H : Heap} {locs : List Loc}, xI g s S H locs → ∀ {ls : Array Slot}, lv_has ls 4 [(0, .ref (g.2.2 26)), (1, .int x1), (2, .int x2), (3, .int x3)] → (∀ (H : Heap) (locs : List Loc) (ls : Array Slot), xI g s S' H locs → lv_has ls 4 [(0, .ref (g.2.2 26)), (1, .int x1), (2, .int y2), (3, .int x3)] → W p l e ({ frames := 0, cells := 0, slots := 0, locals := 0 } : Room) s m args below meth c H locs 0 0 Q (F0 m 20 ls [])) → W p l e ({ frames := 0, cells := 0, slots := 0, locals := 0 } : Room) s m args below meth c H locs 0 0 Q (F0 m 5 ls []) := by
  intro n
  induction n with
  | zero => intro S x2 hf; cases hf
  | succ n ih =>
    intro S x2 hf H locs I ls hl K
    obtain ⟨b, ⟨z0, z1⟩, h1, h2, h3⟩ := lp_some hf
    refine Bfill_26_5 C0 hr hk (fun hb1 H locs ls I hl => ?_) (fun hb1 H locs ls I hl => ?_) h1 I hl
    · exact ih (h2 hb1) I hl K
    · have e := h3 hb1
      cases e
      exact K H locs ls I hl
set_option maxHeartbeats 4000000 in
set_option maxRecDepth 100000 in
theorem tfill_26_0 (C0 : CallFix p m c cJ7_fill_53178 4 s args big RJ7) (hr : meth.sig.returnType = none) (hk : meth.locks = false) {x1 : Int32}  (hf : ffill_26 S x1 = some S') (I : xI g s S H locs) (hl : lv_has ls 4 [(0, .ref (g.2.2 26)), (1, .int x1)]) : W p l e ({ frames := 0, cells := 0, slots := 0, locals := 0 } : Room) s m args below meth c H locs 0 0 (MQ below (va_Qv (fun S2 => S2 = S') (xB g) (xA g)) args s 0 0 (xA g)) (F0 m 0 ls []) := by
  obtain ⟨hx, hb, hml, -, -⟩ := id C0
  unfold ffill_26 at hf
  refine lv_iconst (v := 0) hx hb dJ7_fill_53178_0 (by decide) ?_
  refine lv_istore_n (lv' := [(2, .int (0 : Int32)), (0, .ref (g.2.2 26)), (1, .int x1)]) hx hb dJ7_fill_53178_1 rfl hl (by decide) rfl (fun ls hl => ?_)
  refine lv_aload_n hx hb dJ7_fill_53178_2 rfl (lv_at hl 1 rfl) ?_
  refine xn_26 hx hb I dJ7_fill_53178_3 ?_
  refine lv_istore_n (lv' := [(3, .int (16 : Int32)), (2, .int (0 : Int32)), (0, .ref (g.2.2 26)), (1, .int x1)]) hx hb dJ7_fill_53178_4 rfl hl (by decide) rfl (fun ls hl => ?_)
  obtain ⟨S3, y2_3, h3, hf⟩ := bq2_some hf
  refine lfill_26_5 C0 hr hk fu h3 I (lv_sub hl [2, 3, 1, 0] rfl) (fun H locs ls I hl => ?_)
  obtain rfl := se1 hf
  exact xrv C0 hr hk I dJ7_fill_53178_20
set_option maxRecDepth 100000 in
theorem kfill_26 {x1 : Int32}  (hf : ffill_26 S x1 = some S') : Met l yJ7_fill_53178 (Cond.code yJ7_fill_53178 cJ7_fill_53178 4 none :: big) ({ frames := 0, cells := 0, slots := 0, locals := 0 } : Room) (va_Pc [.ref (g.2.2 26), .int x1] (xB g S)) (va_Qv (fun S2 => S2 = S') (xB g) (xA g)) 0 0 (xA g) := by
  refine Met.ofW (cc := cJ7_fill_53178) (maxL := 4) (ret := none) (by decide) rfl ?_
  intro p e s m args below meth c s₁ B hml hv
  obtain ⟨rfl, hP, hK, hD⟩ := hv
  have hts0 := atoms_spec (ws := (Cond.code yJ7_fill_53178 cJ7_fill_53178 4 none :: big)) B.pre
  have C0 : CallFix p m c cJ7_fill_53178 4 s _ big RJ7 := ⟨B.exec, B.bytes, hml, findClass_of_methodNamed B.named, fun w h => hts0 w (List.mem_cons_of_mem _ h)⟩
  have I : xI g s S s.heap [] := ⟨hK, hP, hD, va_S.rf⟩
  have hl := lv_entry ([.ref (g.2.2 26), .int x1]) (n := 4) (Nat.le_of_ble_eq_true rfl)
  rw [lg_entry_eq]
  generalize (lg_sl ([.ref (g.2.2 26), .int x1]) ++ List.replicate (4 - (lg_sl ([.ref (g.2.2 26), .int x1])).length) Slot.unset).toArray = ls at hl ⊢
  have hl : lv_has ls 4 [(0, .ref (g.2.2 26)), (1, .int x1)] := hl
  exact tfill_26_0 C0 B.returns B.notSynchronized hf I (lv_sub hl [0, 1] rfl)
set_option maxHeartbeats 4000000 in
set_option maxRecDepth 100000 in
theorem Bfill_27_5 (C0 : CallFix p m c cJ7_fill_53178 4 s args big RJ7) (hr : meth.sig.returnType = none) (hk : meth.locks = false) {x1 : Int32} {x2 : Int32} {x3 : Int32} {b : Bool} {y2 : Int32} (Kt : b = true → ∀ (H : Heap) (locs : List Loc) (ls : Array Slot), xI g s S' H locs → lv_has ls 4 [(0, .ref (g.2.2 27)), (1, .int x1), (2, .int y2), (3, .int x3)] → W p l e ({ frames := 0, cells := 0, slots := 0, locals := 0 } : Room) s m args below meth c H locs 0 0 Q (F0 m 5 ls [])) (Kf : b = false → ∀ (H : Heap) (locs : List Loc) (ls : Array Slot), xI g s S' H locs → lv_has ls 4 [(0, .ref (g.2.2 27)), (1, .int x1), (2, .int y2), (3, .int x3)] → W p l e ({ frames := 0, cells := 0, slots := 0, locals := 0 } : Room) s m args below meth c H locs 0 0 Q (F0 m 20 ls [])) (hf : bfill_27_5 x1 x3 S x2 = some (b, S', y2)) (I : xI g s S H locs) (hl : lv_has ls 4 [(0, .ref (g.2.2 27)), (1, .int x1), (2, .int x2), (3, .int x3)]) : W p l e ({ frames := 0, cells := 0, slots := 0, locals := 0 } : Room) s m args below meth c H locs 0 0 Q (F0 m 5 ls []) := by
  obtain ⟨hx, hb, hml, -, -⟩ := id C0
  unfold bfill_27_5 at hf
  refine lv_iload_n hx hb dJ7_fill_53178_5 rfl (lv_at hl 2 rfl) ?_
  refine lv_iload_n hx hb dJ7_fill_53178_6 rfl (lv_at hl 3 rfl) ?_
  refine lv_icmp_ge (tgt := 20) hx hb dJ7_fill_53178_7 (by decide) (fun c1 => ?_) (fun c1 => ?_)
  · have hf := ip c1 hf
    obtain ⟨rfl, rfl, rfl⟩ := se3 hf
    exact Kf rfl _ _ _ I (lv_sub hl [0, 1, 2, 3] rfl)
  · have hf := inn c1 hf
    refine lv_aload_n hx hb dJ7_fill_53178_10 rfl (lv_at hl 0 rfl) ?_
    refine lv_iload_n hx hb dJ7_fill_53178_11 rfl (lv_at hl 2 rfl) ?_
    refine lv_iload_n hx hb dJ7_fill_53178_12 rfl (lv_at hl 1 rfl) ?_
    obtain ⟨b2, hf⟩ := chk_some hf
    refine xs_27 hx hb I b2 dJ7_fill_53178_13 (fun H locs I => ?_)
    refine lv_iinc (v := (x2 + (1 : Int32))) (lv' := [(2, .int (x2 + (1 : Int32))), (0, .ref (g.2.2 27)), (1, .int x1), (3, .int x3)]) hx hb dJ7_fill_53178_14 hl (k := 2) rfl rfl (by decide) rfl (fun ls hl => ?_)
    refine lv_goto (tgt := 5) hx hb dJ7_fill_53178_17 (by decide) ?_
    obtain ⟨rfl, rfl, rfl⟩ := se3 hf
    exact Kt rfl _ _ _ I (lv_sub hl [1, 2, 0, 3] rfl)
set_option maxHeartbeats 4000000 in
theorem lfill_27_5 (C0 : CallFix p m c cJ7_fill_53178 4 s args big RJ7) (hr : meth.sig.returnType = none) (hk : meth.locks = false) {x1 : Int32} {x3 : Int32} {S' : St} {y2 : Int32} : ∀ (n : Nat) {S : St} {x2 : Int32}, lp (fun q => bfill_27_5 x1 x3 q.1 q.2) n (S, x2) = some (S', y2) → ∀ {H : Heap} {locs : List Loc}, xI g s S H locs → ∀ {ls : Array Slot}, lv_has ls 4 [(0, .ref (g.2.2 27)), (1, .int x1), (2, .int x2), (3, .int x3)] → (∀ (H : Heap) (locs : List Loc) (ls : Array Slot), xI g s S' H locs → lv_has ls 4 [(0, .ref (g.2.2 27)), (1, .int x1), (2, .int y2), (3, .int x3)] → W p l e ({ frames := 0, cells := 0, slots := 0, locals := 0 } : Room) s m args below meth c H locs 0 0 Q (F0 m 20 ls [])) → W p l e ({ frames := 0, cells := 0, slots := 0, locals := 0 } : Room) s m args below meth c H locs 0 0 Q (F0 m 5 ls []) := by
  intro n
  induction n with
  | zero => intro S x2 hf; cases hf
  | succ n ih =>
    intro S x2 hf H locs I ls hl K
    obtain ⟨b, ⟨z0, z1⟩, h1, h2, h3⟩ := lp_some hf
    refine Bfill_27_5 C0 hr hk (fun hb1 H locs ls I hl => ?_) (fun hb1 H locs ls I hl => ?_) h1 I hl
    · exact ih (h2 hb1) I hl K
    · have e := h3 hb1
      cases e
      exact K H locs ls I hl
set_option maxHeartbeats 4000000 in
set_option maxRecDepth 100000 in
theorem tfill_27_0 (C0 : CallFix p m c cJ7_fill_53178 4 s args big RJ7) (hr : meth.sig.returnType = none) (hk : meth.locks = false) {x1 : Int32}  (hf : ffill_27 S x1 = some S') (I : xI g s S H locs) (hl : lv_has ls 4 [(0, .ref (g.2.2 27)), (1, .int x1)]) : W p l e ({ frames := 0, cells := 0, slots := 0, locals := 0 } : Room) s m args below meth c H locs 0 0 (MQ below (va_Qv (fun S2 => S2 = S') (xB g) (xA g)) args s 0 0 (xA g)) (F0 m 0 ls []) := by
  obtain ⟨hx, hb, hml, -, -⟩ := id C0
  unfold ffill_27 at hf
  refine lv_iconst (v := 0) hx hb dJ7_fill_53178_0 (by decide) ?_
  refine lv_istore_n (lv' := [(2, .int (0 : Int32)), (0, .ref (g.2.2 27)), (1, .int x1)]) hx hb dJ7_fill_53178_1 rfl hl (by decide) rfl (fun ls hl => ?_)
  refine lv_aload_n hx hb dJ7_fill_53178_2 rfl (lv_at hl 1 rfl) ?_
  refine xn_27 hx hb I dJ7_fill_53178_3 ?_
  refine lv_istore_n (lv' := [(3, .int (16 : Int32)), (2, .int (0 : Int32)), (0, .ref (g.2.2 27)), (1, .int x1)]) hx hb dJ7_fill_53178_4 rfl hl (by decide) rfl (fun ls hl => ?_)
  obtain ⟨S3, y2_3, h3, hf⟩ := bq2_some hf
  refine lfill_27_5 C0 hr hk fu h3 I (lv_sub hl [2, 3, 1, 0] rfl) (fun H locs ls I hl => ?_)
  obtain rfl := se1 hf
  exact xrv C0 hr hk I dJ7_fill_53178_20
set_option maxRecDepth 100000 in
theorem kfill_27 {x1 : Int32}  (hf : ffill_27 S x1 = some S') : Met l yJ7_fill_53178 (Cond.code yJ7_fill_53178 cJ7_fill_53178 4 none :: big) ({ frames := 0, cells := 0, slots := 0, locals := 0 } : Room) (va_Pc [.ref (g.2.2 27), .int x1] (xB g S)) (va_Qv (fun S2 => S2 = S') (xB g) (xA g)) 0 0 (xA g) := by
  refine Met.ofW (cc := cJ7_fill_53178) (maxL := 4) (ret := none) (by decide) rfl ?_
  intro p e s m args below meth c s₁ B hml hv
  obtain ⟨rfl, hP, hK, hD⟩ := hv
  have hts0 := atoms_spec (ws := (Cond.code yJ7_fill_53178 cJ7_fill_53178 4 none :: big)) B.pre
  have C0 : CallFix p m c cJ7_fill_53178 4 s _ big RJ7 := ⟨B.exec, B.bytes, hml, findClass_of_methodNamed B.named, fun w h => hts0 w (List.mem_cons_of_mem _ h)⟩
  have I : xI g s S s.heap [] := ⟨hK, hP, hD, va_S.rf⟩
  have hl := lv_entry ([.ref (g.2.2 27), .int x1]) (n := 4) (Nat.le_of_ble_eq_true rfl)
  rw [lg_entry_eq]
  generalize (lg_sl ([.ref (g.2.2 27), .int x1]) ++ List.replicate (4 - (lg_sl ([.ref (g.2.2 27), .int x1])).length) Slot.unset).toArray = ls at hl ⊢
  have hl : lv_has ls 4 [(0, .ref (g.2.2 27)), (1, .int x1)] := hl
  exact tfill_27_0 C0 B.returns B.notSynchronized hf I (lv_sub hl [0, 1] rfl)
set_option maxHeartbeats 4000000 in
set_option maxRecDepth 100000 in
theorem Bfill_28_5 (C0 : CallFix p m c cJ7_fill_53178 4 s args big RJ7) (hr : meth.sig.returnType = none) (hk : meth.locks = false) {x1 : Int32} {x2 : Int32} {x3 : Int32} {b : Bool} {y2 : Int32} (Kt : b = true → ∀ (H : Heap) (locs : List Loc) (ls : Array Slot), xI g s S' H locs → lv_has ls 4 [(0, .ref (g.2.2 28)), (1, .int x1), (2, .int y2), (3, .int x3)] → W p l e ({ frames := 0, cells := 0, slots := 0, locals := 0 } : Room) s m args below meth c H locs 0 0 Q (F0 m 5 ls [])) (Kf : b = false → ∀ (H : Heap) (locs : List Loc) (ls : Array Slot), xI g s S' H locs → lv_has ls 4 [(0, .ref (g.2.2 28)), (1, .int x1), (2, .int y2), (3, .int x3)] → W p l e ({ frames := 0, cells := 0, slots := 0, locals := 0 } : Room) s m args below meth c H locs 0 0 Q (F0 m 20 ls [])) (hf : bfill_28_5 x1 x3 S x2 = some (b, S', y2)) (I : xI g s S H locs) (hl : lv_has ls 4 [(0, .ref (g.2.2 28)), (1, .int x1), (2, .int x2), (3, .int x3)]) : W p l e ({ frames := 0, cells := 0, slots := 0, locals := 0 } : Room) s m args below meth c H locs 0 0 Q (F0 m 5 ls []) := by
  obtain ⟨hx, hb, hml, -, -⟩ := id C0
  unfold bfill_28_5 at hf
  refine lv_iload_n hx hb dJ7_fill_53178_5 rfl (lv_at hl 2 rfl) ?_
  refine lv_iload_n hx hb dJ7_fill_53178_6 rfl (lv_at hl 3 rfl) ?_
  refine lv_icmp_ge (tgt := 20) hx hb dJ7_fill_53178_7 (by decide) (fun c1 => ?_) (fun c1 => ?_)
  · have hf := ip c1 hf
    obtain ⟨rfl, rfl, rfl⟩ := se3 hf
    exact Kf rfl _ _ _ I (lv_sub hl [0, 1, 2, 3] rfl)
  · have hf := inn c1 hf
    refine lv_aload_n hx hb dJ7_fill_53178_10 rfl (lv_at hl 0 rfl) ?_
    refine lv_iload_n hx hb dJ7_fill_53178_11 rfl (lv_at hl 2 rfl) ?_
    refine lv_iload_n hx hb dJ7_fill_53178_12 rfl (lv_at hl 1 rfl) ?_
    obtain ⟨b2, hf⟩ := chk_some hf
    refine xs_28 hx hb I b2 dJ7_fill_53178_13 (fun H locs I => ?_)
    refine lv_iinc (v := (x2 + (1 : Int32))) (lv' := [(2, .int (x2 + (1 : Int32))), (0, .ref (g.2.2 28)), (1, .int x1), (3, .int x3)]) hx hb dJ7_fill_53178_14 hl (k := 2) rfl rfl (by decide) rfl (fun ls hl => ?_)
    refine lv_goto (tgt := 5) hx hb dJ7_fill_53178_17 (by decide) ?_
    obtain ⟨rfl, rfl, rfl⟩ := se3 hf
    exact Kt rfl _ _ _ I (lv_sub hl [1, 2, 0, 3] rfl)
set_option maxHeartbeats 4000000 in
theorem lfill_28_5 (C0 : CallFix p m c cJ7_fill_53178 4 s args big RJ7) (hr : meth.sig.returnType = none) (hk : meth.locks = false) {x1 : Int32} {x3 : Int32} {S' : St} {y2 : Int32} : ∀ (n : Nat) {S : St} {x2 : Int32}, lp (fun q => bfill_28_5 x1 x3 q.1 q.2) n (S, x2) = some (S', y2) → ∀ {H : Heap} {locs : List Loc}, xI g s S H locs → ∀ {ls : Array Slot}, lv_has ls 4 [(0, .ref (g.2.2 28)), (1, .int x1), (2, .int x2), (3, .int x3)] → (∀ (H : Heap) (locs : List Loc) (ls : Array Slot), xI g s S' H locs → lv_has ls 4 [(0, .ref (g.2.2 28)), (1, .int x1), (2, .int y2), (3, .int x3)] → W p l e ({ frames := 0, cells := 0, slots := 0, locals := 0 } : Room) s m args below meth c H locs 0 0 Q (F0 m 20 ls [])) → W p l e ({ frames := 0, cells := 0, slots := 0, locals := 0 } : Room) s m args below meth c H locs 0 0 Q (F0 m 5 ls []) := by
  intro n
  induction n with
  | zero => intro S x2 hf; cases hf
  | succ n ih =>
    intro S x2 hf H locs I ls hl K
    obtain ⟨b, ⟨z0, z1⟩, h1, h2, h3⟩ := lp_some hf
    refine Bfill_28_5 C0 hr hk (fun hb1 H locs ls I hl => ?_) (fun hb1 H locs ls I hl => ?_) h1 I hl
    · exact ih (h2 hb1) I hl K
    · have e := h3 hb1
      cases e
      exact K H locs ls I hl
set_option maxHeartbeats 4000000 in
set_option maxRecDepth 100000 in
theorem tfill_28_0 (C0 : CallFix p m c cJ7_fill_53178 4 s args big RJ7) (hr : meth.sig.returnType = none) (hk : meth.locks = false) {x1 : Int32}  (hf : ffill_28 S x1 = some S') (I : xI g s S H locs) (hl : lv_has ls 4 [(0, .ref (g.2.2 28)), (1, .int x1)]) : W p l e ({ frames := 0, cells := 0, slots := 0, locals := 0 } : Room) s m args below meth c H locs 0 0 (MQ below (va_Qv (fun S2 => S2 = S') (xB g) (xA g)) args s 0 0 (xA g)) (F0 m 0 ls []) := by
  obtain ⟨hx, hb, hml, -, -⟩ := id C0
  unfold ffill_28 at hf
  refine lv_iconst (v := 0) hx hb dJ7_fill_53178_0 (by decide) ?_
  refine lv_istore_n (lv' := [(2, .int (0 : Int32)), (0, .ref (g.2.2 28)), (1, .int x1)]) hx hb dJ7_fill_53178_1 rfl hl (by decide) rfl (fun ls hl => ?_)
  refine lv_aload_n hx hb dJ7_fill_53178_2 rfl (lv_at hl 1 rfl) ?_
  refine xn_28 hx hb I dJ7_fill_53178_3 ?_
  refine lv_istore_n (lv' := [(3, .int (16 : Int32)), (2, .int (0 : Int32)), (0, .ref (g.2.2 28)), (1, .int x1)]) hx hb dJ7_fill_53178_4 rfl hl (by decide) rfl (fun ls hl => ?_)
  obtain ⟨S3, y2_3, h3, hf⟩ := bq2_some hf
  refine lfill_28_5 C0 hr hk fu h3 I (lv_sub hl [2, 3, 1, 0] rfl) (fun H locs ls I hl => ?_)
  obtain rfl := se1 hf
  exact xrv C0 hr hk I dJ7_fill_53178_20
set_option maxRecDepth 100000 in
theorem kfill_28 {x1 : Int32}  (hf : ffill_28 S x1 = some S') : Met l yJ7_fill_53178 (Cond.code yJ7_fill_53178 cJ7_fill_53178 4 none :: big) ({ frames := 0, cells := 0, slots := 0, locals := 0 } : Room) (va_Pc [.ref (g.2.2 28), .int x1] (xB g S)) (va_Qv (fun S2 => S2 = S') (xB g) (xA g)) 0 0 (xA g) := by
  refine Met.ofW (cc := cJ7_fill_53178) (maxL := 4) (ret := none) (by decide) rfl ?_
  intro p e s m args below meth c s₁ B hml hv
  obtain ⟨rfl, hP, hK, hD⟩ := hv
  have hts0 := atoms_spec (ws := (Cond.code yJ7_fill_53178 cJ7_fill_53178 4 none :: big)) B.pre
  have C0 : CallFix p m c cJ7_fill_53178 4 s _ big RJ7 := ⟨B.exec, B.bytes, hml, findClass_of_methodNamed B.named, fun w h => hts0 w (List.mem_cons_of_mem _ h)⟩
  have I : xI g s S s.heap [] := ⟨hK, hP, hD, va_S.rf⟩
  have hl := lv_entry ([.ref (g.2.2 28), .int x1]) (n := 4) (Nat.le_of_ble_eq_true rfl)
  rw [lg_entry_eq]
  generalize (lg_sl ([.ref (g.2.2 28), .int x1]) ++ List.replicate (4 - (lg_sl ([.ref (g.2.2 28), .int x1])).length) Slot.unset).toArray = ls at hl ⊢
  have hl : lv_has ls 4 [(0, .ref (g.2.2 28)), (1, .int x1)] := hl
  exact tfill_28_0 C0 B.returns B.notSynchronized hf I (lv_sub hl [0, 1] rfl)
set_option maxHeartbeats 4000000 in
set_option maxRecDepth 100000 in
theorem BX4_look_5 (C0 : CallFix p m c cX4_look 6 s args big RX4) (hr : meth.sig.returnType = (some .boolean)) (hk : meth.locks = false) {x3 : Int32} {x4 : Int32} {b : Bool} {y3 : Int32} {y4 : Int32} (Kt : b = true → ∀ (H : Heap) (locs : List Loc) (ls : Array Slot), xI g s S' H locs → lv_has ls 6 [(0, .ref (g.2.2 24)), (1, .ref (g.2.2 1)), (2, .ref (g.2.2 17)), (3, .int y3), (4, .int y4)] → W p l e ({ frames := 1, cells := 0, slots := 0, locals := 22 } : Room) s m args below meth c H locs 0 0 Q (F0 m 5 ls [])) (Kf : b = false → ∀ (H : Heap) (locs : List Loc) (ls : Array Slot), xI g s S' H locs → lv_has ls 6 [(0, .ref (g.2.2 24)), (1, .ref (g.2.2 1)), (2, .ref (g.2.2 17)), (3, .int y3), (4, .int y4)] → W p l e ({ frames := 1, cells := 0, slots := 0, locals := 22 } : Room) s m args below meth c H locs 0 0 Q (F0 m 87 ls [])) (hf : bX4_look_5 S x3 x4 = some (b, S', y3, y4)) (I : xI g s S H locs) (hl : lv_has ls 6 [(0, .ref (g.2.2 24)), (1, .ref (g.2.2 1)), (2, .ref (g.2.2 17)), (3, .int x3), (4, .int x4)]) : W p l e ({ frames := 1, cells := 0, slots := 0, locals := 22 } : Room) s m args below meth c H locs 0 0 Q (F0 m 5 ls []) := by
  obtain ⟨hx, hb, hml, -, -⟩ := id C0
  unfold bX4_look_5 at hf
  refine lv_iload hx hb dX4_look_5 (lv_at hl 4 rfl) ?_
  refine lv_aload_n hx hb dX4_look_7 rfl (lv_at hl 1 rfl) ?_
  refine xg_X4_58_1 C0 I dX4_look_8 ?_
  refine lv_icmp_ge (tgt := 87) hx hb dX4_look_11 (by decide) (fun c1 => ?_) (fun c1 => ?_)
  · have hf := ip c1 hf
    obtain ⟨rfl, rfl, rfl, rfl⟩ := se4 hf
    exact Kf rfl _ _ _ I (lv_sub hl [0, 1, 2, 3, 4] rfl)
  · have hf := inn c1 hf
    refine lv_aload_n hx hb dX4_look_14 rfl (lv_at hl 0 rfl) ?_
    refine xg_X4_24_24 C0 I dX4_look_15 ?_
    refine lv_iload hx hb dX4_look_18 (lv_at hl 4 rfl) ?_
    refine lv_iconst (v := -1) hx hb dX4_look_20 (by decide) ?_
    obtain ⟨b2, hf⟩ := chk_some hf
    refine xs_29 hx hb I b2 dX4_look_21 (fun H locs I => ?_)
    refine lv_aload_n hx hb dX4_look_22 rfl (lv_at hl 0 rfl) ?_
    refine xg_X4_18_24 C0 I dX4_look_23 ?_
    refine lv_iload hx hb dX4_look_26 (lv_at hl 4 rfl) ?_
    obtain ⟨b3, hf⟩ := chk_some hf
    refine xl_27 hx hb I b3 dX4_look_28 ?_
    refine lv_aload_n hx hb dX4_look_29 rfl (lv_at hl 2 rfl) ?_
    refine xg_X4_63_17 C0 I dX4_look_30 ?_
    refine lv_iload hx hb dX4_look_33 (lv_at hl 4 rfl) ?_
    obtain ⟨b4, hf⟩ := chk_some hf
    refine xl_18 hx hb I b4 dX4_look_35 ?_
    refine lv_icmp_ge (tgt := 81) hx hb dX4_look_36 (by decide) (fun c5 => ?_) (fun c5 => ?_)
    · have hf := ip c5 hf
      refine lv_iinc (v := (x4 + (1 : Int32))) (lv' := [(4, .int (x4 + (1 : Int32))), (0, .ref (g.2.2 24)), (1, .ref (g.2.2 1)), (2, .ref (g.2.2 17)), (3, .int x3)]) hx hb dX4_look_81 hl (k := 4) rfl rfl (by decide) rfl (fun ls hl => ?_)
      refine lv_goto (tgt := 5) hx hb dX4_look_84 (by decide) ?_
      obtain ⟨rfl, rfl, rfl, rfl⟩ := se4 hf
      exact Kt rfl _ _ _ I (lv_sub hl [1, 2, 3, 4, 0] rfl)
    · have hf := inn c5 hf
      refine lv_aload_n hx hb dX4_look_39 rfl (lv_at hl 2 rfl) ?_
      refine lv_iload hx hb dX4_look_40 (lv_at hl 4 rfl) ?_
      refine lv_aload_n hx hb dX4_look_42 rfl (lv_at hl 0 rfl) ?_
      refine xg_X4_18_24 C0 I dX4_look_43 ?_
      refine lv_iload hx hb dX4_look_46 (lv_at hl 4 rfl) ?_
      obtain ⟨b6, hf⟩ := chk_some hf
      refine xl_27 hx hb I b6 dX4_look_48 ?_
      obtain ⟨r7, h7, hf⟩ := bq1_some hf
      refine xcv_i (As := [.int x4, .int (gR S 14 x4)]) C0 I (kX5_edge h7) (cwV 2 C0.2.2.2.2 (gwV wd_479 wd_382 wd_383 wd_69 wd_384) rfl rfl rfl dsc_X5_edge ⟨Nat.le_of_ble_eq_true rfl, Nat.le_of_ble_eq_true rfl⟩) (xo_17 I) rfl hl.1 rfl (Nat.le_of_ble_eq_true rfl) dX4_look_49 (fun H locs I => ?_)
      refine lv_istore (lv' := [(5, .int r7), (0, .ref (g.2.2 24)), (1, .ref (g.2.2 1)), (2, .ref (g.2.2 17)), (3, .int x3), (4, .int x4)]) hx hb dX4_look_52 hl (by decide) rfl (fun ls hl => ?_)
      refine lv_aload_n hx hb dX4_look_54 rfl (lv_at hl 1 rfl) ?_
      refine xg_X4_24_24 C0 I dX4_look_55 ?_
      refine lv_iload hx hb dX4_look_58 (lv_at hl 5 rfl) ?_
      refine lv_iload hx hb dX4_look_60 (lv_at hl 0 rfl) ?_
      obtain ⟨b8, hf⟩ := chk_some hf
      refine xs_29 hx hb I b8 dX4_look_62 (fun H locs I => ?_)
      refine lv_aload_n hx hb dX4_look_63 rfl (lv_at hl 1 rfl) ?_
      refine xg_X4_27_24 C0 I dX4_look_64 ?_
      refine lv_iload hx hb dX4_look_67 (lv_at hl 0 rfl) ?_
      refine lv_iconst (v := 0) hx hb dX4_look_69 (by decide) ?_
      obtain ⟨b9, hf⟩ := chk_some hf
      refine xs_30 hx hb I b9 dX4_look_70 (fun H locs I => ?_)
      refine lv_aload_n hx hb dX4_look_71 rfl (lv_at hl 1 rfl) ?_
      refine xg_X4_30_24 C0 I dX4_look_72 ?_
      refine lv_iload hx hb dX4_look_75 (lv_at hl 0 rfl) ?_
      refine lv_iconst (v := -1) hx hb dX4_look_77 (by decide) ?_
      obtain ⟨b10, hf⟩ := chk_some hf
      refine xs_31 hx hb I b10 dX4_look_78 (fun H locs I => ?_)
      refine lv_iconst (v := 1) hx hb dX4_look_79 (by decide) ?_
      refine lv_istore_n (lv' := [(3, .int (1 : Int32)), (5, .int r7), (0, .ref (g.2.2 24)), (1, .ref (g.2.2 1)), (2, .ref (g.2.2 17)), (4, .int x4)]) hx hb dX4_look_80 rfl hl (by decide) rfl (fun ls hl => ?_)
      refine lv_iinc (v := (x4 + (1 : Int32))) (lv' := [(4, .int (x4 + (1 : Int32))), (3, .int (1 : Int32)), (5, .int r7), (0, .ref (g.2.2 24)), (1, .ref (g.2.2 1)), (2, .ref (g.2.2 17))]) hx hb dX4_look_81 hl (k := 5) rfl rfl (by decide) rfl (fun ls hl => ?_)
      refine lv_goto (tgt := 5) hx hb dX4_look_84 (by decide) ?_
      obtain ⟨rfl, rfl, rfl, rfl⟩ := se4 hf
      exact Kt rfl _ _ _ I (lv_sub hl [3, 4, 5, 1, 0] rfl)
set_option maxHeartbeats 4000000 in
theorem lX4_look_5 (C0 : CallFix p m c cX4_look 6 s args big RX4) (hr : meth.sig.returnType = (some .boolean)) (hk : meth.locks = false)  {S' : St} {y3 : Int32} {y4 : Int32} : ∀ (n : Nat) {S : St} {x3 : Int32} {x4 : Int32}, lp (fun q => bX4_look_5 q.1 q.2.1 q.2.2) n (S, x3, x4) = some (S', y3, y4) → ∀ {H : Heap} {locs : List Loc}, xI g s S H locs → ∀ {ls : Array Slot}, lv_has ls 6 [(0, .ref (g.2.2 24)), (1, .ref (g.2.2 1)), (2, .ref (g.2.2 17)), (3, .int x3), (4, .int x4)] → (∀ (H : Heap) (locs : List Loc) (ls : Array Slot), xI g s S' H locs → lv_has ls 6 [(0, .ref (g.2.2 24)), (1, .ref (g.2.2 1)), (2, .ref (g.2.2 17)), (3, .int y3), (4, .int y4)] → W p l e ({ frames := 1, cells := 0, slots := 0, locals := 22 } : Room) s m args below meth c H locs 0 0 Q (F0 m 87 ls [])) → W p l e ({ frames := 1, cells := 0, slots := 0, locals := 22 } : Room) s m args below meth c H locs 0 0 Q (F0 m 5 ls []) := by
  intro n
  induction n with
  | zero => intro S x3 x4 hf; cases hf
  | succ n ih =>
    intro S x3 x4 hf H locs I ls hl K
    obtain ⟨b, ⟨z0, z1, z2⟩, h1, h2, h3⟩ := lp_some hf
    refine BX4_look_5 C0 hr hk (fun hb1 H locs ls I hl => ?_) (fun hb1 H locs ls I hl => ?_) h1 I hl
    · exact ih (h2 hb1) I hl K
    · have e := h3 hb1
      cases e
      exact K H locs ls I hl
set_option maxHeartbeats 4000000 in
set_option maxRecDepth 100000 in
theorem tX4_look_0 (C0 : CallFix p m c cX4_look 6 s args big RX4) (hr : meth.sig.returnType = (some .boolean)) (hk : meth.locks = false)  {rr : Int32}  (hf : fX4_look S = some (rr, S')) (I : xI g s S H locs) (hl : lv_has ls 6 [(0, .ref (g.2.2 24)), (1, .ref (g.2.2 1)), (2, .ref (g.2.2 17))]) : W p l e ({ frames := 1, cells := 0, slots := 0, locals := 22 } : Room) s m args below meth c H locs 0 0 (MQ below (va_Qi (fun r' S2 => r' = rr ∧ S2 = S') (xB g) (xA g)) args s 0 0 (xA g)) (F0 m 0 ls []) := by
  obtain ⟨hx, hb, hml, -, -⟩ := id C0
  unfold fX4_look at hf
  refine lv_iconst (v := 0) hx hb dX4_look_0 (by decide) ?_
  refine lv_istore_n (lv' := [(3, .int (0 : Int32)), (0, .ref (g.2.2 24)), (1, .ref (g.2.2 1)), (2, .ref (g.2.2 17))]) hx hb dX4_look_1 rfl hl (by decide) rfl (fun ls hl => ?_)
  refine lv_iconst (v := 0) hx hb dX4_look_2 (by decide) ?_
  refine lv_istore (lv' := [(4, .int (0 : Int32)), (3, .int (0 : Int32)), (0, .ref (g.2.2 24)), (1, .ref (g.2.2 1)), (2, .ref (g.2.2 17))]) hx hb dX4_look_3 hl (by decide) rfl (fun ls hl => ?_)
  obtain ⟨S11, y3_11, y4_11, h11, hf⟩ := bq3_some hf
  refine lX4_look_5 C0 hr hk fu h11 I (lv_sub hl [2, 3, 4, 1, 0] rfl) (fun H locs ls I hl => ?_)
  refine lv_iload_n hx hb dX4_look_87 rfl (lv_at hl 3 rfl) ?_
  obtain ⟨z12, hf⟩ := zb_some hf
  obtain ⟨rfl, rfl⟩ := se2 hf
  exact xrz C0 hr hk z12 I dX4_look_88
set_option maxRecDepth 100000 in
theorem kX4_look  {rr : Int32} (hf : fX4_look S  = some (rr, S')) : Met l yX4_look (Cond.code yX4_look cX4_look 6 (some .boolean) :: big) ({ frames := 1, cells := 0, slots := 0, locals := 22 } : Room) (va_Pc [.ref (g.2.2 24), .ref (g.2.2 1), .ref (g.2.2 17)] (xB g S)) (va_Qi (fun r' S2 => r' = rr ∧ S2 = S') (xB g) (xA g)) 0 0 (xA g) := by
  refine Met.ofW (cc := cX4_look) (maxL := 6) (ret := (some .boolean)) (by decide) rfl ?_
  intro p e s m args below meth c s₁ B hml hv
  obtain ⟨rfl, hP, hK, hD⟩ := hv
  have hts0 := atoms_spec (ws := (Cond.code yX4_look cX4_look 6 (some .boolean) :: big)) B.pre
  have C0 : CallFix p m c cX4_look 6 s _ big RX4 := ⟨B.exec, B.bytes, hml, findClass_of_methodNamed B.named, fun w h => hts0 w (List.mem_cons_of_mem _ h)⟩
  have I : xI g s S s.heap [] := ⟨hK, hP, hD, va_S.rf⟩
  have hl := lv_entry ([.ref (g.2.2 24), .ref (g.2.2 1), .ref (g.2.2 17)]) (n := 6) (Nat.le_of_ble_eq_true rfl)
  rw [lg_entry_eq]
  generalize (lg_sl ([.ref (g.2.2 24), .ref (g.2.2 1), .ref (g.2.2 17)]) ++ List.replicate (6 - (lg_sl ([.ref (g.2.2 24), .ref (g.2.2 1), .ref (g.2.2 17)])).length) Slot.unset).toArray = ls at hl ⊢
  have hl : lv_has ls 6 [(0, .ref (g.2.2 24)), (1, .ref (g.2.2 1)), (2, .ref (g.2.2 17))] := hl
  exact tX4_look_0 C0 B.returns B.notSynchronized hf I (lv_sub hl [0, 1, 2] rfl)
set_option maxHeartbeats 4000000 in
set_option maxRecDepth 100000 in
theorem tX4_legOf_0 (C0 : CallFix p m c cX4_legOf 3 s args big RX4) (hr : meth.sig.returnType = (some .int)) (hk : meth.locks = false) {x2 : Int32} {rr : Int32}  (hf : fX4_legOf S x2 = some rr) (I : xI g s S H locs) (hl : lv_has ls 3 [(0, .ref (g.2.2 24)), (1, .ref (g.2.2 17)), (2, .int x2)]) : W p l e ({ frames := 0, cells := 0, slots := 0, locals := 0 } : Room) s m args below meth c H locs 0 0 (MQ below (va_Qi (fun r' S2 => r' = rr ∧ S2 = S) (xB g) (xA g)) args s 0 0 (xA g)) (F0 m 0 ls []) := by
  obtain ⟨hx, hb, hml, -, -⟩ := id C0
  unfold fX4_legOf at hf
  refine lv_aload_n hx hb dX4_legOf_0 rfl (lv_at hl 0 rfl) ?_
  refine xg_X4_18_24 C0 I dX4_legOf_1 ?_
  refine lv_iload_n hx hb dX4_legOf_4 rfl (lv_at hl 2 rfl) ?_
  obtain ⟨b1, hf⟩ := chk_some hf
  refine xl_27 hx hb I b1 dX4_legOf_5 ?_
  refine lv_aload_n hx hb dX4_legOf_6 rfl (lv_at hl 1 rfl) ?_
  refine xg_X4_92_17 C0 I dX4_legOf_7 ?_
  refine lv_iload_n hx hb dX4_legOf_10 rfl (lv_at hl 2 rfl) ?_
  obtain ⟨b2, hf⟩ := chk_some hf
  refine xl_19 hx hb I b2 dX4_legOf_11 ?_
  refine lv_icmp_ge (tgt := 19) hx hb dX4_legOf_12 (by decide) (fun c3 => ?_) (fun c3 => ?_)
  · have hf := ip c3 hf
    refine lv_iconst (v := 2) hx hb dX4_legOf_19 (by decide) ?_
    obtain rfl := se1 hf
    exact xri C0 hr hk I dX4_legOf_20
  · have hf := inn c3 hf
    refine lv_iconst (v := 1) hx hb dX4_legOf_15 (by decide) ?_
    refine lv_goto (tgt := 20) hx hb dX4_legOf_16 (by decide) ?_
    obtain rfl := se1 hf
    exact xri C0 hr hk I dX4_legOf_20
set_option maxRecDepth 100000 in
theorem kX4_legOf {x2 : Int32} {rr : Int32} (hf : fX4_legOf S x2 = some rr) : Met l yX4_legOf (Cond.code yX4_legOf cX4_legOf 3 (some .int) :: big) ({ frames := 0, cells := 0, slots := 0, locals := 0 } : Room) (va_Pc [.ref (g.2.2 24), .ref (g.2.2 17), .int x2] (xB g S)) (va_Qi (fun r' S2 => r' = rr ∧ S2 = S) (xB g) (xA g)) 0 0 (xA g) := by
  refine Met.ofW (cc := cX4_legOf) (maxL := 3) (ret := (some .int)) (by decide) rfl ?_
  intro p e s m args below meth c s₁ B hml hv
  obtain ⟨rfl, hP, hK, hD⟩ := hv
  have hts0 := atoms_spec (ws := (Cond.code yX4_legOf cX4_legOf 3 (some .int) :: big)) B.pre
  have C0 : CallFix p m c cX4_legOf 3 s _ big RX4 := ⟨B.exec, B.bytes, hml, findClass_of_methodNamed B.named, fun w h => hts0 w (List.mem_cons_of_mem _ h)⟩
  have I : xI g s S s.heap [] := ⟨hK, hP, hD, va_S.rf⟩
  have hl := lv_entry ([.ref (g.2.2 24), .ref (g.2.2 17), .int x2]) (n := 3) (Nat.le_of_ble_eq_true rfl)
  rw [lg_entry_eq]
  generalize (lg_sl ([.ref (g.2.2 24), .ref (g.2.2 17), .int x2]) ++ List.replicate (3 - (lg_sl ([.ref (g.2.2 24), .ref (g.2.2 17), .int x2])).length) Slot.unset).toArray = ls at hl ⊢
  have hl : lv_has ls 3 [(0, .ref (g.2.2 24)), (1, .ref (g.2.2 17)), (2, .int x2)] := hl
  exact tX4_legOf_0 C0 B.returns B.notSynchronized hf I (lv_sub hl [0, 1, 2] rfl)
set_option maxHeartbeats 4000000 in
set_option maxRecDepth 100000 in
theorem tX4_lead_0 (C0 : CallFix p m c cX4_lead 5 s args big RX4) (hr : meth.sig.returnType = (some .int)) (hk : meth.locks = false) {x2 : Int32} {x3 : Int32} {x4 : Int32} {rr : Int32}  (hf : fX4_lead S x2 x3 x4 = some rr) (I : xI g s S H locs) (hl : lv_has ls 5 [(0, .ref (g.2.2 24)), (1, .ref (g.2.2 17)), (2, .int x2), (3, .int x3), (4, .int x4)]) : W p l e ({ frames := 1, cells := 0, slots := 0, locals := 22 } : Room) s m args below meth c H locs 0 0 (MQ below (va_Qi (fun r' S2 => r' = rr ∧ S2 = S) (xB g) (xA g)) args s 0 0 (xA g)) (F0 m 0 ls []) := by
  obtain ⟨hx, hb, hml, -, -⟩ := id C0
  unfold fX4_lead at hf
  refine lv_iload_n hx hb dX4_lead_0 rfl (lv_at hl 2 rfl) ?_
  by_cases e1 : x2 = (0 : Int32)
  · have hf := ip e1 hf
    refine lv_tableIn (off := 31) (tgt := 32) hx hb dX4_lead_1 (by rw [e1]; decide) (by rw [e1]; decide) (by rw [e1]; rfl) (by decide) ?_
    refine lv_aload_n hx hb dX4_lead_32 rfl (lv_at hl 0 rfl) ?_
    refine xg_X4_21_24 C0 I dX4_lead_33 ?_
    refine lv_iload hx hb dX4_lead_36 (lv_at hl 4 rfl) ?_
    obtain ⟨b2, hf⟩ := chk_some hf
    refine xl_28 hx hb I b2 dX4_lead_38 ?_
    refine lv_aload_n hx hb dX4_lead_39 rfl (lv_at hl 0 rfl) ?_
    refine xg_X4_21_24 C0 I dX4_lead_40 ?_
    refine lv_iload_n hx hb dX4_lead_43 rfl (lv_at hl 3 rfl) ?_
    obtain ⟨b3, hf⟩ := chk_some hf
    refine xl_28 hx hb I b3 dX4_lead_44 ?_
    refine lv_isub hx hb dX4_lead_45 ?_
    obtain rfl := se1 hf
    exact xri C0 hr hk I dX4_lead_46
  · have hf := inn e1 hf
    by_cases e4 : x2 = (1 : Int32)
    · have hf := ip e4 hf
      refine lv_tableIn (off := 91) (tgt := 92) hx hb dX4_lead_1 (by rw [e4]; decide) (by rw [e4]; decide) (by rw [e4]; rfl) (by decide) ?_
      refine lv_iconst (v := 0) hx hb dX4_lead_92 (by decide) ?_
      obtain rfl := se1 hf
      exact xri C0 hr hk I dX4_lead_93
    · have hf := inn e4 hf
      by_cases e5 : x2 = (2 : Int32)
      · have hf := ip e5 hf
        refine lv_tableIn (off := 46) (tgt := 47) hx hb dX4_lead_1 (by rw [e5]; decide) (by rw [e5]; decide) (by rw [e5]; rfl) (by decide) ?_
        refine lv_aload_n hx hb dX4_lead_47 rfl (lv_at hl 1 rfl) ?_
        refine xg_X4_63_17 C0 I dX4_lead_48 ?_
        refine lv_iload_n hx hb dX4_lead_51 rfl (lv_at hl 3 rfl) ?_
        obtain ⟨b6, hf⟩ := chk_some hf
        refine xl_18 hx hb I b6 dX4_lead_52 ?_
        refine lv_aload_n hx hb dX4_lead_53 rfl (lv_at hl 0 rfl) ?_
        refine xg_X4_18_24 C0 I dX4_lead_54 ?_
        refine lv_iload_n hx hb dX4_lead_57 rfl (lv_at hl 3 rfl) ?_
        obtain ⟨b7, hf⟩ := chk_some hf
        refine xl_27 hx hb I b7 dX4_lead_58 ?_
        refine lv_isub hx hb dX4_lead_59 ?_
        refine lv_aload_n hx hb dX4_lead_60 rfl (lv_at hl 1 rfl) ?_
        refine xg_X4_63_17 C0 I dX4_lead_61 ?_
        refine lv_iload hx hb dX4_lead_64 (lv_at hl 4 rfl) ?_
        obtain ⟨b8, hf⟩ := chk_some hf
        refine xl_18 hx hb I b8 dX4_lead_66 ?_
        refine lv_aload_n hx hb dX4_lead_67 rfl (lv_at hl 0 rfl) ?_
        refine xg_X4_18_24 C0 I dX4_lead_68 ?_
        refine lv_iload hx hb dX4_lead_71 (lv_at hl 4 rfl) ?_
        obtain ⟨b9, hf⟩ := chk_some hf
        refine xl_27 hx hb I b9 dX4_lead_73 ?_
        refine lv_isub hx hb dX4_lead_74 ?_
        refine lv_isub hx hb dX4_lead_75 ?_
        obtain rfl := se1 hf
        exact xri C0 hr hk I dX4_lead_76
      · have hf := inn e5 hf
        by_cases e10 : x2 = (3 : Int32)
        · have hf := ip e10 hf
          refine lv_tableIn (off := 76) (tgt := 77) hx hb dX4_lead_1 (by rw [e10]; decide) (by rw [e10]; decide) (by rw [e10]; rfl) (by decide) ?_
          refine lv_aload_n hx hb dX4_lead_77 rfl (lv_at hl 0 rfl) ?_
          refine lv_aload_n hx hb dX4_lead_78 rfl (lv_at hl 1 rfl) ?_
          refine lv_iload_n hx hb dX4_lead_79 rfl (lv_at hl 3 rfl) ?_
          obtain ⟨r11, h11, hf⟩ := bq1_some hf
          refine xcv_i (As := [.ref (g.2.2 17), .int x3]) C0 I (kX4_legOf h11) (cwV 2 C0.2.2.2.2 (gwV wd_495 wd_497 wd_13 wd_71 wd_498) rfl rfl rfl dsc_X4_legOf ⟨Nat.le_of_ble_eq_true rfl, Nat.le_of_ble_eq_true rfl⟩) (xo_24 I) rfl hl.1 rfl (Nat.le_of_ble_eq_true rfl) dX4_lead_80 (fun H locs I => ?_)
          refine lv_aload_n hx hb dX4_lead_83 rfl (lv_at hl 0 rfl) ?_
          refine lv_aload_n hx hb dX4_lead_84 rfl (lv_at hl 1 rfl) ?_
          refine lv_iload hx hb dX4_lead_85 (lv_at hl 4 rfl) ?_
          obtain ⟨r12, h12, hf⟩ := bq1_some hf
          refine xcv_i (As := [.ref (g.2.2 17), .int x4]) C0 I (kX4_legOf h12) (cwV 2 C0.2.2.2.2 (gwV wd_495 wd_497 wd_13 wd_71 wd_498) rfl rfl rfl dsc_X4_legOf ⟨Nat.le_of_ble_eq_true rfl, Nat.le_of_ble_eq_true rfl⟩) (xo_24 I) rfl hl.1 rfl (Nat.le_of_ble_eq_true rfl) dX4_lead_87 (fun H locs I => ?_)
          refine lv_isub hx hb dX4_lead_90 ?_
          obtain rfl := se1 hf
          exact xri C0 hr hk I dX4_lead_91
        · have hf := inn e10 hf
          refine lv_tableOut (tgt := 92) hx hb dX4_lead_1 (by have q1 := lv_neT (a := 0) e1 (by decide); have q4 := lv_neT (a := 1) e4 (by decide); have q5 := lv_neT (a := 2) e5 (by decide); have q10 := lv_neT (a := 3) e10 (by decide); omega) (by decide) ?_
          refine lv_iconst (v := 0) hx hb dX4_lead_92 (by decide) ?_
          obtain rfl := se1 hf
          exact xri C0 hr hk I dX4_lead_93
set_option maxRecDepth 100000 in
theorem kX4_lead {x2 : Int32} {x3 : Int32} {x4 : Int32} {rr : Int32} (hf : fX4_lead S x2 x3 x4 = some rr) : Met l yX4_lead (Cond.code yX4_lead cX4_lead 5 (some .int) :: big) ({ frames := 1, cells := 0, slots := 0, locals := 22 } : Room) (va_Pc [.ref (g.2.2 24), .ref (g.2.2 17), .int x2, .int x3, .int x4] (xB g S)) (va_Qi (fun r' S2 => r' = rr ∧ S2 = S) (xB g) (xA g)) 0 0 (xA g) := by
  refine Met.ofW (cc := cX4_lead) (maxL := 5) (ret := (some .int)) (by decide) rfl ?_
  intro p e s m args below meth c s₁ B hml hv
  obtain ⟨rfl, hP, hK, hD⟩ := hv
  have hts0 := atoms_spec (ws := (Cond.code yX4_lead cX4_lead 5 (some .int) :: big)) B.pre
  have C0 : CallFix p m c cX4_lead 5 s _ big RX4 := ⟨B.exec, B.bytes, hml, findClass_of_methodNamed B.named, fun w h => hts0 w (List.mem_cons_of_mem _ h)⟩
  have I : xI g s S s.heap [] := ⟨hK, hP, hD, va_S.rf⟩
  have hl := lv_entry ([.ref (g.2.2 24), .ref (g.2.2 17), .int x2, .int x3, .int x4]) (n := 5) (Nat.le_of_ble_eq_true rfl)
  rw [lg_entry_eq]
  generalize (lg_sl ([.ref (g.2.2 24), .ref (g.2.2 17), .int x2, .int x3, .int x4]) ++ List.replicate (5 - (lg_sl ([.ref (g.2.2 24), .ref (g.2.2 17), .int x2, .int x3, .int x4])).length) Slot.unset).toArray = ls at hl ⊢
  have hl : lv_has ls 5 [(0, .ref (g.2.2 24)), (1, .ref (g.2.2 17)), (2, .int x2), (3, .int x3), (4, .int x4)] := hl
  exact tX4_lead_0 C0 B.returns B.notSynchronized hf I (lv_sub hl [0, 1, 2, 3, 4] rfl)
set_option maxHeartbeats 4000000 in
set_option maxRecDepth 100000 in
theorem tX4_isAhead_0 (C0 : CallFix p m c cX4_isAhead 9 s args big RX4) (hr : meth.sig.returnType = (some .boolean)) (hk : meth.locks = false) {x3 : Int32} {x4 : Int32} {x5 : Int32} {rr : Int32}  (hf : fX4_isAhead S x3 x4 x5 = some rr) (I : xI g s S H locs) (hl : lv_has ls 9 [(0, .ref (g.2.2 24)), (1, .ref (g.2.2 1)), (2, .ref (g.2.2 17)), (3, .int x3), (4, .int x4), (5, .int x5)]) : W p l e ({ frames := 2, cells := 0, slots := 0, locals := 46 } : Room) s m args below meth c H locs 0 0 (MQ below (va_Qi (fun r' S2 => r' = rr ∧ S2 = S) (xB g) (xA g)) args s 0 0 (xA g)) (F0 m 0 ls []) := by
  obtain ⟨hx, hb, hml, -, -⟩ := id C0
  unfold fX4_isAhead at hf
  refine lv_aload_n hx hb dX4_isAhead_0 rfl (lv_at hl 0 rfl) ?_
  refine lv_aload_n hx hb dX4_isAhead_1 rfl (lv_at hl 2 rfl) ?_
  refine lv_iload_n hx hb dX4_isAhead_2 rfl (lv_at hl 3 rfl) ?_
  refine lv_iload hx hb dX4_isAhead_3 (lv_at hl 4 rfl) ?_
  refine lv_iload hx hb dX4_isAhead_5 (lv_at hl 5 rfl) ?_
  obtain ⟨r1, h1, hf⟩ := bq1_some hf
  refine xcv_i (As := [.ref (g.2.2 17), .int x3, .int x4, .int x5]) C0 I (kX4_lead h1) (cwV 4 C0.2.2.2.2 (gwV wd_491 wd_493 wd_12 wd_71 wd_494) rfl rfl rfl dsc_X4_lead ⟨Nat.le_of_ble_eq_true rfl, Nat.le_of_ble_eq_true rfl⟩) (xo_24 I) rfl hl.1 rfl (Nat.le_of_ble_eq_true rfl) dX4_isAhead_7 (fun H locs I => ?_)
  refine lv_istore (lv' := [(6, .int r1), (0, .ref (g.2.2 24)), (1, .ref (g.2.2 1)), (2, .ref (g.2.2 17)), (3, .int x3), (4, .int x4), (5, .int x5)]) hx hb dX4_isAhead_10 hl (by decide) rfl (fun ls hl => ?_)
  refine lv_iload hx hb dX4_isAhead_12 (lv_at hl 0 rfl) ?_
  refine lv_if_eq (tgt := 28) hx hb dX4_isAhead_14 (by decide) (fun c2 => ?_) (fun c2 => ?_)
  · have hf := ip c2 hf
    refine lv_aload_n hx hb dX4_isAhead_28 rfl (lv_at hl 2 rfl) ?_
    refine lv_iload hx hb dX4_isAhead_29 (lv_at hl 5 rfl) ?_
    refine lv_iconst (v := 3) hx hb dX4_isAhead_31 (by decide) ?_
    obtain ⟨r3, h3, hf⟩ := bq1_some hf
    refine xcv_i (As := [.int x4, .int (3 : Int32)]) C0 I (kX3_trait h3) (cwV 2 C0.2.2.2.2 (gwV wd_499 wd_319 wd_320 wd_67 wd_321) rfl rfl rfl dsc_X3_trait ⟨Nat.le_of_ble_eq_true rfl, Nat.le_of_ble_eq_true rfl⟩) (xo_1 I) rfl hl.1 rfl (Nat.le_of_ble_eq_true rfl) dX4_isAhead_32 (fun H locs I => ?_)
    refine lv_istore (lv' := [(7, .int r3), (6, .int r1), (0, .ref (g.2.2 24)), (1, .ref (g.2.2 1)), (2, .ref (g.2.2 17)), (3, .int x3), (4, .int x4), (5, .int x5)]) hx hb dX4_isAhead_35 hl (by decide) rfl (fun ls hl => ?_)
    refine lv_aload_n hx hb dX4_isAhead_37 rfl (lv_at hl 3 rfl) ?_
    refine lv_iload hx hb dX4_isAhead_38 (lv_at hl 7 rfl) ?_
    refine lv_iconst (v := 3) hx hb dX4_isAhead_40 (by decide) ?_
    obtain ⟨r4, h4, hf⟩ := bq1_some hf
    refine xcv_i (As := [.int x5, .int (3 : Int32)]) C0 I (kX3_trait h4) (cwV 2 C0.2.2.2.2 (gwV wd_499 wd_319 wd_320 wd_67 wd_321) rfl rfl rfl dsc_X3_trait ⟨Nat.le_of_ble_eq_true rfl, Nat.le_of_ble_eq_true rfl⟩) (xo_1 I) rfl hl.1 rfl (Nat.le_of_ble_eq_true rfl) dX4_isAhead_41 (fun H locs I => ?_)
    refine lv_istore (lv' := [(8, .int r4), (7, .int r3), (6, .int r1), (0, .ref (g.2.2 24)), (1, .ref (g.2.2 1)), (2, .ref (g.2.2 17)), (3, .int x3), (4, .int x4), (5, .int x5)]) hx hb dX4_isAhead_44 hl (by decide) rfl (fun ls hl => ?_)
    refine lv_iload hx hb dX4_isAhead_46 (lv_at hl 1 rfl) ?_
    refine lv_iload hx hb dX4_isAhead_48 (lv_at hl 0 rfl) ?_
    refine lv_icmp_eq (tgt := 68) hx hb dX4_isAhead_50 (by decide) (fun c5 => ?_) (fun c5 => ?_)
    · have hf := ip c5 hf
      refine lv_iload hx hb dX4_isAhead_68 (lv_at hl 7 rfl) ?_
      refine lv_iload hx hb dX4_isAhead_70 (lv_at hl 8 rfl) ?_
      refine lv_icmp_ge (tgt := 79) hx hb dX4_isAhead_72 (by decide) (fun c6 => ?_) (fun c6 => ?_)
      · have hf := ip c6 hf
        refine lv_iconst (v := 0) hx hb dX4_isAhead_79 (by decide) ?_
        obtain rfl := se1 hf
        exact xrz C0 hr hk rfl I dX4_isAhead_80
      · have hf := inn c6 hf
        refine lv_iconst (v := 1) hx hb dX4_isAhead_75 (by decide) ?_
        refine lv_goto (tgt := 80) hx hb dX4_isAhead_76 (by decide) ?_
        obtain rfl := se1 hf
        exact xrz C0 hr hk rfl I dX4_isAhead_80
    · have hf := inn c5 hf
      refine lv_iload hx hb dX4_isAhead_53 (lv_at hl 1 rfl) ?_
      refine lv_iload hx hb dX4_isAhead_55 (lv_at hl 0 rfl) ?_
      refine lv_icmp_le (tgt := 64) hx hb dX4_isAhead_57 (by decide) (fun c7 => ?_) (fun c7 => ?_)
      · have hf := ip c7 hf
        refine lv_iconst (v := 0) hx hb dX4_isAhead_64 (by decide) ?_
        refine lv_goto (tgt := 80) hx hb dX4_isAhead_65 (by decide) ?_
        obtain rfl := se1 hf
        exact xrz C0 hr hk rfl I dX4_isAhead_80
      · have hf := inn c7 hf
        refine lv_iconst (v := 1) hx hb dX4_isAhead_60 (by decide) ?_
        refine lv_goto (tgt := 80) hx hb dX4_isAhead_61 (by decide) ?_
        obtain rfl := se1 hf
        exact xrz C0 hr hk rfl I dX4_isAhead_80
  · have hf := inn c2 hf
    refine lv_iload hx hb dX4_isAhead_17 (lv_at hl 0 rfl) ?_
    refine lv_if_le (tgt := 26) hx hb dX4_isAhead_19 (by decide) (fun c8 => ?_) (fun c8 => ?_)
    · have hf := ip c8 hf
      refine lv_iconst (v := 0) hx hb dX4_isAhead_26 (by decide) ?_
      obtain rfl := se1 hf
      exact xrz C0 hr hk rfl I dX4_isAhead_27
    · have hf := inn c8 hf
      refine lv_iconst (v := 1) hx hb dX4_isAhead_22 (by decide) ?_
      refine lv_goto (tgt := 27) hx hb dX4_isAhead_23 (by decide) ?_
      obtain rfl := se1 hf
      exact xrz C0 hr hk rfl I dX4_isAhead_27
set_option maxRecDepth 100000 in
theorem kX4_isAhead {x3 : Int32} {x4 : Int32} {x5 : Int32} {rr : Int32} (hf : fX4_isAhead S x3 x4 x5 = some rr) : Met l yX4_isAhead (Cond.code yX4_isAhead cX4_isAhead 9 (some .boolean) :: big) ({ frames := 2, cells := 0, slots := 0, locals := 46 } : Room) (va_Pc [.ref (g.2.2 24), .ref (g.2.2 1), .ref (g.2.2 17), .int x3, .int x4, .int x5] (xB g S)) (va_Qi (fun r' S2 => r' = rr ∧ S2 = S) (xB g) (xA g)) 0 0 (xA g) := by
  refine Met.ofW (cc := cX4_isAhead) (maxL := 9) (ret := (some .boolean)) (by decide) rfl ?_
  intro p e s m args below meth c s₁ B hml hv
  obtain ⟨rfl, hP, hK, hD⟩ := hv
  have hts0 := atoms_spec (ws := (Cond.code yX4_isAhead cX4_isAhead 9 (some .boolean) :: big)) B.pre
  have C0 : CallFix p m c cX4_isAhead 9 s _ big RX4 := ⟨B.exec, B.bytes, hml, findClass_of_methodNamed B.named, fun w h => hts0 w (List.mem_cons_of_mem _ h)⟩
  have I : xI g s S s.heap [] := ⟨hK, hP, hD, va_S.rf⟩
  have hl := lv_entry ([.ref (g.2.2 24), .ref (g.2.2 1), .ref (g.2.2 17), .int x3, .int x4, .int x5]) (n := 9) (Nat.le_of_ble_eq_true rfl)
  rw [lg_entry_eq]
  generalize (lg_sl ([.ref (g.2.2 24), .ref (g.2.2 1), .ref (g.2.2 17), .int x3, .int x4, .int x5]) ++ List.replicate (9 - (lg_sl ([.ref (g.2.2 24), .ref (g.2.2 1), .ref (g.2.2 17), .int x3, .int x4, .int x5])).length) Slot.unset).toArray = ls at hl ⊢
  have hl : lv_has ls 9 [(0, .ref (g.2.2 24)), (1, .ref (g.2.2 1)), (2, .ref (g.2.2 17)), (3, .int x3), (4, .int x4), (5, .int x5)] := hl
  exact tX4_isAhead_0 C0 B.returns B.notSynchronized hf I (lv_sub hl [0, 1, 2, 3, 4, 5] rfl)
set_option maxHeartbeats 4000000 in
set_option maxRecDepth 100000 in
theorem tX4_contest_86 (C0 : CallFix p m c cX4_contest 6 s args big RX4) (hr : meth.sig.returnType = none) (hk : meth.locks = false) {x3 : Int32} {x4 : Int32} {x5 : Int32} {b : Bool} {y4 : Int32} (Kt : b = true → ∀ (H : Heap) (locs : List Loc) (ls : Array Slot), xI g s S' H locs → lv_has ls 6 [(0, .ref (g.2.2 24)), (1, .ref (g.2.2 1)), (2, .ref (g.2.2 17)), (3, .int x3), (4, .int y4)] → W p l e ({ frames := 3, cells := 0, slots := 0, locals := 74 } : Room) s m args below meth c H locs 0 0 Q (F0 m 3 ls [])) (Kf : b = false → ∀ (H : Heap) (locs : List Loc) (ls : Array Slot), xI g s S' H locs → lv_has ls 6 [(0, .ref (g.2.2 24)), (1, .ref (g.2.2 1)), (2, .ref (g.2.2 17)), (3, .int x3), (4, .int y4)] → W p l e ({ frames := 3, cells := 0, slots := 0, locals := 74 } : Room) s m args below meth c H locs 0 0 Q (F0 m 101 ls [])) (hf : fX4_contest_86 S x4 x5 = some (b, S', y4)) (I : xI g s S H locs) (hl : lv_has ls 6 [(0, .ref (g.2.2 24)), (1, .ref (g.2.2 1)), (2, .ref (g.2.2 17)), (3, .int x3), (4, .int x4), (5, .int x5)]) : W p l e ({ frames := 3, cells := 0, slots := 0, locals := 74 } : Room) s m args below meth c H locs 0 0 Q (F0 m 86 ls []) := by
  obtain ⟨hx, hb, hml, -, -⟩ := id C0
  unfold fX4_contest_86 at hf
  refine lv_aload_n hx hb dX4_contest_86 rfl (lv_at hl 0 rfl) ?_
  refine xg_X4_30_24 C0 I dX4_contest_87 ?_
  refine lv_iload hx hb dX4_contest_90 (lv_at hl 5 rfl) ?_
  refine lv_iload hx hb dX4_contest_92 (lv_at hl 4 rfl) ?_
  obtain ⟨b9, hf⟩ := chk_some hf
  refine xs_31 hx hb I b9 dX4_contest_94 (fun H locs I => ?_)
  refine lv_iinc (v := (x4 + (1 : Int32))) (lv' := [(4, .int (x4 + (1 : Int32))), (0, .ref (g.2.2 24)), (1, .ref (g.2.2 1)), (2, .ref (g.2.2 17)), (3, .int x3), (5, .int x5)]) hx hb dX4_contest_95 hl (k := 4) rfl rfl (by decide) rfl (fun ls hl => ?_)
  refine lv_goto (tgt := 3) hx hb dX4_contest_98 (by decide) ?_
  obtain ⟨rfl, rfl, rfl⟩ := se3 hf
  exact Kt rfl _ _ _ I (lv_sub hl [1, 2, 3, 4, 0] rfl)
set_option maxHeartbeats 4000000 in
set_option maxRecDepth 100000 in
theorem BX4_contest_3 (C0 : CallFix p m c cX4_contest 6 s args big RX4) (hr : meth.sig.returnType = none) (hk : meth.locks = false) {x3 : Int32} {x4 : Int32} {b : Bool} {y4 : Int32} (Kt : b = true → ∀ (H : Heap) (locs : List Loc) (ls : Array Slot), xI g s S' H locs → lv_has ls 6 [(0, .ref (g.2.2 24)), (1, .ref (g.2.2 1)), (2, .ref (g.2.2 17)), (3, .int x3), (4, .int y4)] → W p l e ({ frames := 3, cells := 0, slots := 0, locals := 74 } : Room) s m args below meth c H locs 0 0 Q (F0 m 3 ls [])) (Kf : b = false → ∀ (H : Heap) (locs : List Loc) (ls : Array Slot), xI g s S' H locs → lv_has ls 6 [(0, .ref (g.2.2 24)), (1, .ref (g.2.2 1)), (2, .ref (g.2.2 17)), (3, .int x3), (4, .int y4)] → W p l e ({ frames := 3, cells := 0, slots := 0, locals := 74 } : Room) s m args below meth c H locs 0 0 Q (F0 m 101 ls [])) (hf : bX4_contest_3 x3 S x4 = some (b, S', y4)) (I : xI g s S H locs) (hl : lv_has ls 6 [(0, .ref (g.2.2 24)), (1, .ref (g.2.2 1)), (2, .ref (g.2.2 17)), (3, .int x3), (4, .int x4)]) : W p l e ({ frames := 3, cells := 0, slots := 0, locals := 74 } : Room) s m args below meth c H locs 0 0 Q (F0 m 3 ls []) := by
  obtain ⟨hx, hb, hml, -, -⟩ := id C0
  unfold bX4_contest_3 at hf
  refine lv_iload hx hb dX4_contest_3 (lv_at hl 4 rfl) ?_
  refine lv_aload_n hx hb dX4_contest_5 rfl (lv_at hl 1 rfl) ?_
  refine xg_X4_58_1 C0 I dX4_contest_6 ?_
  refine lv_icmp_ge (tgt := 101) hx hb dX4_contest_9 (by decide) (fun c1 => ?_) (fun c1 => ?_)
  · have hf := ip c1 hf
    obtain ⟨rfl, rfl, rfl⟩ := se3 hf
    exact Kf rfl _ _ _ I (lv_sub hl [0, 1, 2, 3, 4] rfl)
  · have hf := inn c1 hf
    refine lv_aload_n hx hb dX4_contest_12 rfl (lv_at hl 0 rfl) ?_
    refine xg_X4_24_24 C0 I dX4_contest_13 ?_
    refine lv_iload hx hb dX4_contest_16 (lv_at hl 4 rfl) ?_
    obtain ⟨b2, hf⟩ := chk_some hf
    refine xl_29 hx hb I b2 dX4_contest_18 ?_
    refine lv_istore (lv' := [(5, .int (gR S 16 x4)), (0, .ref (g.2.2 24)), (1, .ref (g.2.2 1)), (2, .ref (g.2.2 17)), (3, .int x3), (4, .int x4)]) hx hb dX4_contest_19 hl (by decide) rfl (fun ls hl => ?_)
    refine lv_iload hx hb dX4_contest_21 (lv_at hl 0 rfl) ?_
    refine lv_iconst (v := -1) hx hb dX4_contest_23 (by decide) ?_
    refine lv_icmp_eq (tgt := 95) hx hb dX4_contest_24 (by decide) (fun c3 => ?_) (fun c3 => ?_)
    · have hf := ip c3 hf
      refine lv_iinc (v := (x4 + (1 : Int32))) (lv' := [(4, .int (x4 + (1 : Int32))), (5, .int (gR S 16 x4)), (0, .ref (g.2.2 24)), (1, .ref (g.2.2 1)), (2, .ref (g.2.2 17)), (3, .int x3)]) hx hb dX4_contest_95 hl (k := 5) rfl rfl (by decide) rfl (fun ls hl => ?_)
      refine lv_goto (tgt := 3) hx hb dX4_contest_98 (by decide) ?_
      obtain ⟨rfl, rfl, rfl⟩ := se3 hf
      exact Kt rfl _ _ _ I (lv_sub hl [2, 3, 4, 5, 0] rfl)
    · have hf := inn c3 hf
      refine lv_aload_n hx hb dX4_contest_27 rfl (lv_at hl 1 rfl) ?_
      refine xg_X4_27_24 C0 I dX4_contest_28 ?_
      refine lv_iload hx hb dX4_contest_31 (lv_at hl 0 rfl) ?_
      refine lv_dup2_11 hx hb dX4_contest_33 rfl rfl ?_
      obtain ⟨b4, hf⟩ := chk_some hf
      refine xl_30 hx hb I b4 dX4_contest_34 ?_
      refine lv_iconst (v := 1) hx hb dX4_contest_35 (by decide) ?_
      refine lv_iadd hx hb dX4_contest_36 ?_
      obtain ⟨b5, hf⟩ := chk_some hf
      refine xs_30 hx hb I b5 dX4_contest_37 (fun H locs I => ?_)
      refine lv_aload_n hx hb dX4_contest_38 rfl (lv_at hl 1 rfl) ?_
      refine lv_aload_n hx hb dX4_contest_39 rfl (lv_at hl 1 rfl) ?_
      refine xg_X4_37_24 C0 I dX4_contest_40 ?_
      refine lv_aload_n hx hb dX4_contest_43 rfl (lv_at hl 1 rfl) ?_
      refine xg_X4_27_24 C0 I dX4_contest_44 ?_
      refine lv_iload hx hb dX4_contest_47 (lv_at hl 0 rfl) ?_
      obtain ⟨b6, hf⟩ := chk_some hf
      refine xl_30 hx hb I b6 dX4_contest_49 ?_
      refine va_mmax hx hb (C0.2.2.1.trans hl.1.symm) C0.2.2.2.1 (C0.2.2.2.2 _ wd_484) (C0.2.2.2.2 _ wd_485) (C0.2.2.2.2 _ wd_75) (C0.2.2.2.2 _ wd_486) (Nat.le_of_ble_eq_true rfl) (Nat.le_of_ble_eq_true rfl) (Nat.zero_le _) (Nat.zero_le _) dX4_contest_50 ?_
      refine xp_X4_37_24 C0 I dX4_contest_53 (fun H locs I => ?_)
      refine lv_aload_n hx hb dX4_contest_56 rfl (lv_at hl 1 rfl) ?_
      refine xg_X4_30_24 C0 I dX4_contest_57 ?_
      refine lv_iload hx hb dX4_contest_60 (lv_at hl 0 rfl) ?_
      obtain ⟨b7, hf⟩ := chk_some hf
      refine xl_31 hx hb I b7 dX4_contest_62 ?_
      refine lv_iconst (v := -1) hx hb dX4_contest_63 (by decide) ?_
      refine lv_icmp_eq (tgt := 86) hx hb dX4_contest_64 (by decide) (fun c8 => ?_) (fun c8 => ?_)
      · have hf := ip c8 hf
        exact tX4_contest_86 C0 hr hk Kt Kf hf I (lv_sub hl [1, 2, 3, 4, 5, 0] rfl)
      · have hf := inn c8 hf
        refine lv_aload_n hx hb dX4_contest_67 rfl (lv_at hl 1 rfl) ?_
        refine lv_aload_n hx hb dX4_contest_68 rfl (lv_at hl 2 rfl) ?_
        refine lv_aload_n hx hb dX4_contest_69 rfl (lv_at hl 3 rfl) ?_
        refine lv_iload_n hx hb dX4_contest_70 rfl (lv_at hl 4 rfl) ?_
        refine lv_iload hx hb dX4_contest_71 (lv_at hl 5 rfl) ?_
        refine lv_aload_n hx hb dX4_contest_73 rfl (lv_at hl 1 rfl) ?_
        refine xg_X4_30_24 C0 I dX4_contest_74 ?_
        refine lv_iload hx hb dX4_contest_77 (lv_at hl 0 rfl) ?_
        obtain ⟨b10, hf⟩ := chk_some hf
        refine xl_31 hx hb I b10 dX4_contest_79 ?_
        obtain ⟨r11, h11, hf⟩ := bq1_some hf
        refine xcv_i (As := [.ref (g.2.2 1), .ref (g.2.2 17), .int x3, .int x4, .int (gR S 18 (gR S 16 x4))]) C0 I (kX4_isAhead h11) (cwV 5 C0.2.2.2.2 (gwV wd_487 wd_489 wd_11 wd_71 wd_490) rfl rfl rfl dsc_X4_isAhead ⟨Nat.le_of_ble_eq_true rfl, Nat.le_of_ble_eq_true rfl⟩) (xo_24 I) rfl hl.1 rfl (Nat.le_of_ble_eq_true rfl) dX4_contest_80 (fun H locs I => ?_)
        refine lv_if_eq (tgt := 95) hx hb dX4_contest_83 (by decide) (fun c12 => ?_) (fun c12 => ?_)
        · have hf := ip c12 hf
          refine lv_iinc (v := (x4 + (1 : Int32))) (lv' := [(4, .int (x4 + (1 : Int32))), (5, .int (gR S 16 x4)), (0, .ref (g.2.2 24)), (1, .ref (g.2.2 1)), (2, .ref (g.2.2 17)), (3, .int x3)]) hx hb dX4_contest_95 hl (k := 5) rfl rfl (by decide) rfl (fun ls hl => ?_)
          refine lv_goto (tgt := 3) hx hb dX4_contest_98 (by decide) ?_
          obtain ⟨rfl, rfl, rfl⟩ := se3 hf
          exact Kt rfl _ _ _ I (lv_sub hl [2, 3, 4, 5, 0] rfl)
        · have hf := inn c12 hf
          exact tX4_contest_86 C0 hr hk Kt Kf hf I (lv_sub hl [1, 2, 3, 4, 5, 0] rfl)
set_option maxHeartbeats 4000000 in
theorem lX4_contest_3 (C0 : CallFix p m c cX4_contest 6 s args big RX4) (hr : meth.sig.returnType = none) (hk : meth.locks = false) {x3 : Int32} {S' : St} {y4 : Int32} : ∀ (n : Nat) {S : St} {x4 : Int32}, lp (fun q => bX4_contest_3 x3 q.1 q.2) n (S, x4) = some (S', y4) → ∀ {H : Heap} {locs : List Loc}, xI g s S H locs → ∀ {ls : Array Slot}, lv_has ls 6 [(0, .ref (g.2.2 24)), (1, .ref (g.2.2 1)), (2, .ref (g.2.2 17)), (3, .int x3), (4, .int x4)] → (∀ (H : Heap) (locs : List Loc) (ls : Array Slot), xI g s S' H locs → lv_has ls 6 [(0, .ref (g.2.2 24)), (1, .ref (g.2.2 1)), (2, .ref (g.2.2 17)), (3, .int x3), (4, .int y4)] → W p l e ({ frames := 3, cells := 0, slots := 0, locals := 74 } : Room) s m args below meth c H locs 0 0 Q (F0 m 101 ls [])) → W p l e ({ frames := 3, cells := 0, slots := 0, locals := 74 } : Room) s m args below meth c H locs 0 0 Q (F0 m 3 ls []) := by
  intro n
  induction n with
  | zero => intro S x4 hf; cases hf
  | succ n ih =>
    intro S x4 hf H locs I ls hl K
    obtain ⟨b, ⟨z0, z1⟩, h1, h2, h3⟩ := lp_some hf
    refine BX4_contest_3 C0 hr hk (fun hb1 H locs ls I hl => ?_) (fun hb1 H locs ls I hl => ?_) h1 I hl
    · exact ih (h2 hb1) I hl K
    · have e := h3 hb1
      cases e
      exact K H locs ls I hl
set_option maxHeartbeats 4000000 in
set_option maxRecDepth 100000 in
theorem tX4_contest_0 (C0 : CallFix p m c cX4_contest 6 s args big RX4) (hr : meth.sig.returnType = none) (hk : meth.locks = false) {x3 : Int32}  (hf : fX4_contest S x3 = some S') (I : xI g s S H locs) (hl : lv_has ls 6 [(0, .ref (g.2.2 24)), (1, .ref (g.2.2 1)), (2, .ref (g.2.2 17)), (3, .int x3)]) : W p l e ({ frames := 3, cells := 0, slots := 0, locals := 74 } : Room) s m args below meth c H locs 0 0 (MQ below (va_Qv (fun S2 => S2 = S') (xB g) (xA g)) args s 0 0 (xA g)) (F0 m 0 ls []) := by
  obtain ⟨hx, hb, hml, -, -⟩ := id C0
  unfold fX4_contest at hf
  refine lv_iconst (v := 0) hx hb dX4_contest_0 (by decide) ?_
  refine lv_istore (lv' := [(4, .int (0 : Int32)), (0, .ref (g.2.2 24)), (1, .ref (g.2.2 1)), (2, .ref (g.2.2 17)), (3, .int x3)]) hx hb dX4_contest_1 hl (by decide) rfl (fun ls hl => ?_)
  obtain ⟨S13, y4_13, h13, hf⟩ := bq2_some hf
  refine lX4_contest_3 C0 hr hk fu h13 I (lv_sub hl [1, 2, 3, 4, 0] rfl) (fun H locs ls I hl => ?_)
  obtain rfl := se1 hf
  exact xrv C0 hr hk I dX4_contest_101
set_option maxRecDepth 100000 in
theorem kX4_contest {x3 : Int32}  (hf : fX4_contest S x3 = some S') : Met l yX4_contest (Cond.code yX4_contest cX4_contest 6 none :: big) ({ frames := 3, cells := 0, slots := 0, locals := 74 } : Room) (va_Pc [.ref (g.2.2 24), .ref (g.2.2 1), .ref (g.2.2 17), .int x3] (xB g S)) (va_Qv (fun S2 => S2 = S') (xB g) (xA g)) 0 0 (xA g) := by
  refine Met.ofW (cc := cX4_contest) (maxL := 6) (ret := none) (by decide) rfl ?_
  intro p e s m args below meth c s₁ B hml hv
  obtain ⟨rfl, hP, hK, hD⟩ := hv
  have hts0 := atoms_spec (ws := (Cond.code yX4_contest cX4_contest 6 none :: big)) B.pre
  have C0 : CallFix p m c cX4_contest 6 s _ big RX4 := ⟨B.exec, B.bytes, hml, findClass_of_methodNamed B.named, fun w h => hts0 w (List.mem_cons_of_mem _ h)⟩
  have I : xI g s S s.heap [] := ⟨hK, hP, hD, va_S.rf⟩
  have hl := lv_entry ([.ref (g.2.2 24), .ref (g.2.2 1), .ref (g.2.2 17), .int x3]) (n := 6) (Nat.le_of_ble_eq_true rfl)
  rw [lg_entry_eq]
  generalize (lg_sl ([.ref (g.2.2 24), .ref (g.2.2 1), .ref (g.2.2 17), .int x3]) ++ List.replicate (6 - (lg_sl ([.ref (g.2.2 24), .ref (g.2.2 1), .ref (g.2.2 17), .int x3])).length) Slot.unset).toArray = ls at hl ⊢
  have hl : lv_has ls 6 [(0, .ref (g.2.2 24)), (1, .ref (g.2.2 1)), (2, .ref (g.2.2 17)), (3, .int x3)] := hl
  exact tX4_contest_0 C0 B.returns B.notSynchronized hf I (lv_sub hl [0, 1, 2, 3] rfl)
set_option maxHeartbeats 4000000 in
set_option maxRecDepth 100000 in
theorem BX4_move_2 (C0 : CallFix p m c cX4_move 5 s args big RX4) (hr : meth.sig.returnType = none) (hk : meth.locks = false) {x2 : Int32} {x3 : Int32} {b : Bool} {y3 : Int32} (Kt : b = true → ∀ (H : Heap) (locs : List Loc) (ls : Array Slot), xI g s S' H locs → lv_has ls 5 [(0, .ref (g.2.2 24)), (1, .ref (g.2.2 1)), (2, .int x2), (3, .int y3)] → W p l e ({ frames := 0, cells := 0, slots := 0, locals := 0 } : Room) s m args below meth c H locs 0 0 Q (F0 m 2 ls [])) (Kf : b = false → ∀ (H : Heap) (locs : List Loc) (ls : Array Slot), xI g s S' H locs → lv_has ls 5 [(0, .ref (g.2.2 24)), (1, .ref (g.2.2 1)), (2, .int x2), (3, .int y3)] → W p l e ({ frames := 0, cells := 0, slots := 0, locals := 0 } : Room) s m args below meth c H locs 0 0 Q (F0 m 81 ls [])) (hf : bX4_move_2 x2 S x3 = some (b, S', y3)) (I : xI g s S H locs) (hl : lv_has ls 5 [(0, .ref (g.2.2 24)), (1, .ref (g.2.2 1)), (2, .int x2), (3, .int x3)]) : W p l e ({ frames := 0, cells := 0, slots := 0, locals := 0 } : Room) s m args below meth c H locs 0 0 Q (F0 m 2 ls []) := by
  obtain ⟨hx, hb, hml, -, -⟩ := id C0
  unfold bX4_move_2 at hf
  refine lv_iload_n hx hb dX4_move_2 rfl (lv_at hl 3 rfl) ?_
  refine lv_aload_n hx hb dX4_move_3 rfl (lv_at hl 1 rfl) ?_
  refine xg_X4_58_1 C0 I dX4_move_4 ?_
  refine lv_icmp_ge (tgt := 81) hx hb dX4_move_7 (by decide) (fun c1 => ?_) (fun c1 => ?_)
  · have hf := ip c1 hf
    obtain ⟨rfl, rfl, rfl⟩ := se3 hf
    exact Kf rfl _ _ _ I (lv_sub hl [0, 1, 2, 3] rfl)
  · have hf := inn c1 hf
    refine lv_aload_n hx hb dX4_move_10 rfl (lv_at hl 0 rfl) ?_
    refine xg_X4_24_24 C0 I dX4_move_11 ?_
    refine lv_iload_n hx hb dX4_move_14 rfl (lv_at hl 3 rfl) ?_
    obtain ⟨b2, hf⟩ := chk_some hf
    refine xl_29 hx hb I b2 dX4_move_15 ?_
    refine lv_istore (lv' := [(4, .int (gR S 16 x3)), (0, .ref (g.2.2 24)), (1, .ref (g.2.2 1)), (2, .int x2), (3, .int x3)]) hx hb dX4_move_16 hl (by decide) rfl (fun ls hl => ?_)
    refine lv_iload hx hb dX4_move_18 (lv_at hl 0 rfl) ?_
    refine lv_iconst (v := -1) hx hb dX4_move_20 (by decide) ?_
    refine lv_icmp_ne (tgt := 27) hx hb dX4_move_21 (by decide) (fun c3 => ?_) (fun c3 => ?_)
    · have hf := inn c3 hf
      refine lv_aload_n hx hb dX4_move_27 rfl (lv_at hl 1 rfl) ?_
      refine xg_X4_30_24 C0 I dX4_move_28 ?_
      refine lv_iload hx hb dX4_move_31 (lv_at hl 0 rfl) ?_
      obtain ⟨b4, hf⟩ := chk_some hf
      refine xl_31 hx hb I b4 dX4_move_33 ?_
      refine lv_iload_n hx hb dX4_move_34 rfl (lv_at hl 4 rfl) ?_
      refine lv_icmp_ne (tgt := 65) hx hb dX4_move_35 (by decide) (fun c5 => ?_) (fun c5 => ?_)
      · have hf := inn c5 hf
        refine lv_aload_n hx hb dX4_move_65 rfl (lv_at hl 1 rfl) ?_
        refine xg_X4_15_24 C0 I dX4_move_66 ?_
        refine lv_iload_n hx hb dX4_move_69 rfl (lv_at hl 4 rfl) ?_
        refine lv_dup2_11 hx hb dX4_move_70 rfl rfl ?_
        obtain ⟨b6, hf⟩ := chk_some hf
        refine xl_26 hx hb I b6 dX4_move_71 ?_
        refine lv_iconst (v := 1) hx hb dX4_move_72 (by decide) ?_
        refine lv_iadd hx hb dX4_move_73 ?_
        obtain ⟨b7, hf⟩ := chk_some hf
        refine xs_26 hx hb I b7 dX4_move_74 (fun H locs I => ?_)
        refine lv_iinc (v := (x3 + (1 : Int32))) (lv' := [(3, .int (x3 + (1 : Int32))), (4, .int (gR S 16 x3)), (0, .ref (g.2.2 24)), (1, .ref (g.2.2 1)), (2, .int x2)]) hx hb dX4_move_75 hl (k := 4) rfl rfl (by decide) rfl (fun ls hl => ?_)
        refine lv_goto (tgt := 2) hx hb dX4_move_78 (by decide) ?_
        obtain ⟨rfl, rfl, rfl⟩ := se3 hf
        exact Kt rfl _ _ _ I (lv_sub hl [2, 3, 4, 0] rfl)
      · have hf := ip c5 hf
        refine lv_aload_n hx hb dX4_move_38 rfl (lv_at hl 1 rfl) ?_
        refine xg_X4_18_24 C0 I dX4_move_39 ?_
        refine lv_iload_n hx hb dX4_move_42 rfl (lv_at hl 4 rfl) ?_
        refine lv_dup2_11 hx hb dX4_move_43 rfl rfl ?_
        obtain ⟨b8, hf⟩ := chk_some hf
        refine xl_27 hx hb I b8 dX4_move_44 ?_
        refine lv_iconst (v := 1) hx hb dX4_move_45 (by decide) ?_
        refine lv_iadd hx hb dX4_move_46 ?_
        obtain ⟨b9, hf⟩ := chk_some hf
        refine xs_27 hx hb I b9 dX4_move_47 (fun H locs I => ?_)
        refine lv_aload_n hx hb dX4_move_48 rfl (lv_at hl 1 rfl) ?_
        refine xg_X4_21_24 C0 I dX4_move_49 ?_
        refine lv_iload_n hx hb dX4_move_52 rfl (lv_at hl 4 rfl) ?_
        refine lv_iload_n hx hb dX4_move_53 rfl (lv_at hl 3 rfl) ?_
        obtain ⟨b10, hf⟩ := chk_some hf
        refine xs_28 hx hb I b10 dX4_move_54 (fun H locs I => ?_)
        refine lv_aload_n hx hb dX4_move_55 rfl (lv_at hl 1 rfl) ?_
        refine xg_X4_9_24 C0 I dX4_move_56 ?_
        refine lv_iload_n hx hb dX4_move_59 rfl (lv_at hl 4 rfl) ?_
        refine lv_iload_n hx hb dX4_move_60 rfl (lv_at hl 3 rfl) ?_
        obtain ⟨b11, hf⟩ := chk_some hf
        refine xs_25 hx hb I b11 dX4_move_61 (fun H locs I => ?_)
        refine lv_goto (tgt := 75) hx hb dX4_move_62 (by decide) ?_
        refine lv_iinc (v := (x3 + (1 : Int32))) (lv' := [(3, .int (x3 + (1 : Int32))), (4, .int (gR S 16 x3)), (0, .ref (g.2.2 24)), (1, .ref (g.2.2 1)), (2, .int x2)]) hx hb dX4_move_75 hl (k := 4) rfl rfl (by decide) rfl (fun ls hl => ?_)
        refine lv_goto (tgt := 2) hx hb dX4_move_78 (by decide) ?_
        obtain ⟨rfl, rfl, rfl⟩ := se3 hf
        exact Kt rfl _ _ _ I (lv_sub hl [2, 3, 4, 0] rfl)
    · have hf := ip c3 hf
      refine lv_goto (tgt := 75) hx hb dX4_move_24 (by decide) ?_
      refine lv_iinc (v := (x3 + (1 : Int32))) (lv' := [(3, .int (x3 + (1 : Int32))), (4, .int (gR S 16 x3)), (0, .ref (g.2.2 24)), (1, .ref (g.2.2 1)), (2, .int x2)]) hx hb dX4_move_75 hl (k := 4) rfl rfl (by decide) rfl (fun ls hl => ?_)
      refine lv_goto (tgt := 2) hx hb dX4_move_78 (by decide) ?_
      obtain ⟨rfl, rfl, rfl⟩ := se3 hf
      exact Kt rfl _ _ _ I (lv_sub hl [2, 3, 4, 0] rfl)
set_option maxHeartbeats 4000000 in
theorem lX4_move_2 (C0 : CallFix p m c cX4_move 5 s args big RX4) (hr : meth.sig.returnType = none) (hk : meth.locks = false) {x2 : Int32} {S' : St} {y3 : Int32} : ∀ (n : Nat) {S : St} {x3 : Int32}, lp (fun q => bX4_move_2 x2 q.1 q.2) n (S, x3) = some (S', y3) → ∀ {H : Heap} {locs : List Loc}, xI g s S H locs → ∀ {ls : Array Slot}, lv_has ls 5 [(0, .ref (g.2.2 24)), (1, .ref (g.2.2 1)), (2, .int x2), (3, .int x3)] → (∀ (H : Heap) (locs : List Loc) (ls : Array Slot), xI g s S' H locs → lv_has ls 5 [(0, .ref (g.2.2 24)), (1, .ref (g.2.2 1)), (2, .int x2), (3, .int y3)] → W p l e ({ frames := 0, cells := 0, slots := 0, locals := 0 } : Room) s m args below meth c H locs 0 0 Q (F0 m 81 ls [])) → W p l e ({ frames := 0, cells := 0, slots := 0, locals := 0 } : Room) s m args below meth c H locs 0 0 Q (F0 m 2 ls []) := by
  intro n
  induction n with
  | zero => intro S x3 hf; cases hf
  | succ n ih =>
    intro S x3 hf H locs I ls hl K
    obtain ⟨b, ⟨z0, z1⟩, h1, h2, h3⟩ := lp_some hf
    refine BX4_move_2 C0 hr hk (fun hb1 H locs ls I hl => ?_) (fun hb1 H locs ls I hl => ?_) h1 I hl
    · exact ih (h2 hb1) I hl K
    · have e := h3 hb1
      cases e
      exact K H locs ls I hl
set_option maxHeartbeats 4000000 in
set_option maxRecDepth 100000 in
theorem tX4_move_0 (C0 : CallFix p m c cX4_move 5 s args big RX4) (hr : meth.sig.returnType = none) (hk : meth.locks = false) {x2 : Int32}  (hf : fX4_move S x2 = some S') (I : xI g s S H locs) (hl : lv_has ls 5 [(0, .ref (g.2.2 24)), (1, .ref (g.2.2 1)), (2, .int x2)]) : W p l e ({ frames := 0, cells := 0, slots := 0, locals := 0 } : Room) s m args below meth c H locs 0 0 (MQ below (va_Qv (fun S2 => S2 = S') (xB g) (xA g)) args s 0 0 (xA g)) (F0 m 0 ls []) := by
  obtain ⟨hx, hb, hml, -, -⟩ := id C0
  unfold fX4_move at hf
  refine lv_iconst (v := 0) hx hb dX4_move_0 (by decide) ?_
  refine lv_istore_n (lv' := [(3, .int (0 : Int32)), (0, .ref (g.2.2 24)), (1, .ref (g.2.2 1)), (2, .int x2)]) hx hb dX4_move_1 rfl hl (by decide) rfl (fun ls hl => ?_)
  obtain ⟨S12, y3_12, h12, hf⟩ := bq2_some hf
  refine lX4_move_2 C0 hr hk fu h12 I (lv_sub hl [1, 2, 3, 0] rfl) (fun H locs ls I hl => ?_)
  obtain rfl := se1 hf
  exact xrv C0 hr hk I dX4_move_81
set_option maxRecDepth 100000 in
theorem kX4_move {x2 : Int32}  (hf : fX4_move S x2 = some S') : Met l yX4_move (Cond.code yX4_move cX4_move 5 none :: big) ({ frames := 0, cells := 0, slots := 0, locals := 0 } : Room) (va_Pc [.ref (g.2.2 24), .ref (g.2.2 1), .int x2] (xB g S)) (va_Qv (fun S2 => S2 = S') (xB g) (xA g)) 0 0 (xA g) := by
  refine Met.ofW (cc := cX4_move) (maxL := 5) (ret := none) (by decide) rfl ?_
  intro p e s m args below meth c s₁ B hml hv
  obtain ⟨rfl, hP, hK, hD⟩ := hv
  have hts0 := atoms_spec (ws := (Cond.code yX4_move cX4_move 5 none :: big)) B.pre
  have C0 : CallFix p m c cX4_move 5 s _ big RX4 := ⟨B.exec, B.bytes, hml, findClass_of_methodNamed B.named, fun w h => hts0 w (List.mem_cons_of_mem _ h)⟩
  have I : xI g s S s.heap [] := ⟨hK, hP, hD, va_S.rf⟩
  have hl := lv_entry ([.ref (g.2.2 24), .ref (g.2.2 1), .int x2]) (n := 5) (Nat.le_of_ble_eq_true rfl)
  rw [lg_entry_eq]
  generalize (lg_sl ([.ref (g.2.2 24), .ref (g.2.2 1), .int x2]) ++ List.replicate (5 - (lg_sl ([.ref (g.2.2 24), .ref (g.2.2 1), .int x2])).length) Slot.unset).toArray = ls at hl ⊢
  have hl : lv_has ls 5 [(0, .ref (g.2.2 24)), (1, .ref (g.2.2 1)), (2, .int x2)] := hl
  exact tX4_move_0 C0 B.returns B.notSynchronized hf I (lv_sub hl [0, 1, 2] rfl)
set_option maxHeartbeats 4000000 in
set_option maxRecDepth 100000 in
theorem BX4_flow_45 (C0 : CallFix p m c cX4_flow 6 s args big RX4) (hr : meth.sig.returnType = none) (hk : meth.locks = false) {x3 : Int32} {x4 : Int32} {x5 : Int32} {b : Bool} {y5 : Int32} (Kt : b = true → ∀ (H : Heap) (locs : List Loc) (ls : Array Slot), xI g s S' H locs → lv_has ls 6 [(0, .ref (g.2.2 24)), (1, .ref (g.2.2 1)), (2, .ref (g.2.2 17)), (3, .int x3), (4, .int x4), (5, .int y5)] → W p l e ({ frames := 4, cells := 0, slots := 0, locals := 99 } : Room) s m args below meth c H locs 0 0 Q (F0 m 45 ls [])) (Kf : b = false → ∀ (H : Heap) (locs : List Loc) (ls : Array Slot), xI g s S' H locs → lv_has ls 6 [(0, .ref (g.2.2 24)), (1, .ref (g.2.2 1)), (2, .ref (g.2.2 17)), (3, .int x3), (4, .int x4), (5, .int y5)] → W p l e ({ frames := 4, cells := 0, slots := 0, locals := 99 } : Room) s m args below meth c H locs 0 0 Q (F0 m 87 ls [])) (hf : bX4_flow_45 x3 x4 S x5 = some (b, S', y5)) (I : xI g s S H locs) (hl : lv_has ls 6 [(0, .ref (g.2.2 24)), (1, .ref (g.2.2 1)), (2, .ref (g.2.2 17)), (3, .int x3), (4, .int x4), (5, .int x5)]) : W p l e ({ frames := 4, cells := 0, slots := 0, locals := 99 } : Room) s m args below meth c H locs 0 0 Q (F0 m 45 ls []) := by
  obtain ⟨hx, hb, hml, -, -⟩ := id C0
  unfold bX4_flow_45 at hf
  refine lv_iload hx hb dX4_flow_45 (lv_at hl 5 rfl) ?_
  refine lv_iload hx hb dX4_flow_47 (lv_at hl 4 rfl) ?_
  refine lv_icmp_gt (tgt := 87) hx hb dX4_flow_49 (by decide) (fun c5 => ?_) (fun c5 => ?_)
  · have hf := ip c5 hf
    obtain ⟨rfl, rfl, rfl⟩ := se3 hf
    exact Kf rfl _ _ _ I (lv_sub hl [0, 1, 2, 3, 4, 5] rfl)
  · have hf := inn c5 hf
    refine lv_aload_n hx hb dX4_flow_52 rfl (lv_at hl 0 rfl) ?_
    refine lv_aload_n hx hb dX4_flow_53 rfl (lv_at hl 1 rfl) ?_
    refine lv_aload_n hx hb dX4_flow_54 rfl (lv_at hl 2 rfl) ?_
    obtain ⟨r6, S6, h6, hf⟩ := bq2_some hf
    refine xcv_i (As := [.ref (g.2.2 1), .ref (g.2.2 17)]) C0 I (kX4_look h6) (cwV 2 C0.2.2.2.2 (gwV wd_475 wd_477 wd_9 wd_71 wd_478) rfl rfl rfl dsc_X4_look ⟨Nat.le_of_ble_eq_true rfl, Nat.le_of_ble_eq_true rfl⟩) (xo_24 I) rfl hl.1 rfl (Nat.le_of_ble_eq_true rfl) dX4_flow_55 (fun H locs I => ?_)
    refine lv_if_eq (tgt := 87) hx hb dX4_flow_58 (by decide) (fun c7 => ?_) (fun c7 => ?_)
    · have hf := ip c7 hf
      obtain ⟨rfl, rfl, rfl⟩ := se3 hf
      exact Kf rfl _ _ _ I (lv_sub hl [0, 1, 2, 3, 4, 5] rfl)
    · have hf := inn c7 hf
      refine lv_aload_n hx hb dX4_flow_61 rfl (lv_at hl 0 rfl) ?_
      refine lv_aload_n hx hb dX4_flow_62 rfl (lv_at hl 1 rfl) ?_
      refine lv_aload_n hx hb dX4_flow_63 rfl (lv_at hl 2 rfl) ?_
      refine lv_iload_n hx hb dX4_flow_64 rfl (lv_at hl 3 rfl) ?_
      obtain ⟨S8, h8, hf⟩ := bq1_some hf
      refine xcv_v (As := [.ref (g.2.2 1), .ref (g.2.2 17), .int x3]) C0 I (kX4_contest h8) (cwV 3 C0.2.2.2.2 (gwV wd_480 wd_482 wd_10 wd_71 wd_483) rfl rfl rfl dsc_X4_contest ⟨Nat.le_of_ble_eq_true rfl, Nat.le_of_ble_eq_true rfl⟩) (xo_24 I) rfl hl.1 rfl (Nat.le_of_ble_eq_true rfl) dX4_flow_65 (fun H locs I => ?_)
      refine lv_aload_n hx hb dX4_flow_68 rfl (lv_at hl 0 rfl) ?_
      refine lv_aload_n hx hb dX4_flow_69 rfl (lv_at hl 1 rfl) ?_
      refine lv_iload hx hb dX4_flow_70 (lv_at hl 5 rfl) ?_
      obtain ⟨S9, h9, hf⟩ := bq1_some hf
      refine xcv_v (As := [.ref (g.2.2 1), .int x5]) C0 I (kX4_move h9) (cwV 2 C0.2.2.2.2 (gwV wd_500 wd_502 wd_14 wd_71 wd_503) rfl rfl rfl dsc_X4_move ⟨Nat.le_of_ble_eq_true rfl, Nat.le_of_ble_eq_true rfl⟩) (xo_24 I) rfl hl.1 rfl (Nat.le_of_ble_eq_true rfl) dX4_flow_72 (fun H locs I => ?_)
      refine lv_aload_n hx hb dX4_flow_75 rfl (lv_at hl 0 rfl) ?_
      refine lv_iload hx hb dX4_flow_76 (lv_at hl 5 rfl) ?_
      refine xp_X4_33_24 C0 I dX4_flow_78 (fun H locs I => ?_)
      refine lv_iinc (v := (x5 + (1 : Int32))) (lv' := [(5, .int (x5 + (1 : Int32))), (0, .ref (g.2.2 24)), (1, .ref (g.2.2 1)), (2, .ref (g.2.2 17)), (3, .int x3), (4, .int x4)]) hx hb dX4_flow_81 hl (k := 5) rfl rfl (by decide) rfl (fun ls hl => ?_)
      refine lv_goto (tgt := 45) hx hb dX4_flow_84 (by decide) ?_
      obtain ⟨rfl, rfl, rfl⟩ := se3 hf
      exact Kt rfl _ _ _ I (lv_sub hl [1, 2, 3, 4, 5, 0] rfl)
set_option maxHeartbeats 4000000 in
theorem lX4_flow_45 (C0 : CallFix p m c cX4_flow 6 s args big RX4) (hr : meth.sig.returnType = none) (hk : meth.locks = false) {x3 : Int32} {x4 : Int32} {S' : St} {y5 : Int32} : ∀ (n : Nat) {S : St} {x5 : Int32}, lp (fun q => bX4_flow_45 x3 x4 q.1 q.2) n (S, x5) = some (S', y5) → ∀ {H : Heap} {locs : List Loc}, xI g s S H locs → ∀ {ls : Array Slot}, lv_has ls 6 [(0, .ref (g.2.2 24)), (1, .ref (g.2.2 1)), (2, .ref (g.2.2 17)), (3, .int x3), (4, .int x4), (5, .int x5)] → (∀ (H : Heap) (locs : List Loc) (ls : Array Slot), xI g s S' H locs → lv_has ls 6 [(0, .ref (g.2.2 24)), (1, .ref (g.2.2 1)), (2, .ref (g.2.2 17)), (3, .int x3), (4, .int x4), (5, .int y5)] → W p l e ({ frames := 4, cells := 0, slots := 0, locals := 99 } : Room) s m args below meth c H locs 0 0 Q (F0 m 87 ls [])) → W p l e ({ frames := 4, cells := 0, slots := 0, locals := 99 } : Room) s m args below meth c H locs 0 0 Q (F0 m 45 ls []) := by
  intro n
  induction n with
  | zero => intro S x5 hf; cases hf
  | succ n ih =>
    intro S x5 hf H locs I ls hl K
    obtain ⟨b, ⟨z0, z1⟩, h1, h2, h3⟩ := lp_some hf
    refine BX4_flow_45 C0 hr hk (fun hb1 H locs ls I hl => ?_) (fun hb1 H locs ls I hl => ?_) h1 I hl
    · exact ih (h2 hb1) I hl K
    · have e := h3 hb1
      cases e
      exact K H locs ls I hl
set_option maxHeartbeats 4000000 in
set_option maxRecDepth 100000 in
theorem tX4_flow_0 (C0 : CallFix p m c cX4_flow 6 s args big RX4) (hr : meth.sig.returnType = none) (hk : meth.locks = false) {x3 : Int32} {x4 : Int32}  (hf : fX4_flow S x3 x4 = some S') (I : xI g s S H locs) (hl : lv_has ls 6 [(0, .ref (g.2.2 24)), (1, .ref (g.2.2 1)), (2, .ref (g.2.2 17)), (3, .int x3), (4, .int x4)]) : W p l e ({ frames := 4, cells := 0, slots := 0, locals := 99 } : Room) s m args below meth c H locs 0 0 (MQ below (va_Qv (fun S2 => S2 = S') (xB g) (xA g)) args s 0 0 (xA g)) (F0 m 0 ls []) := by
  obtain ⟨hx, hb, hml, -, -⟩ := id C0
  unfold fX4_flow at hf
  refine lv_aload_n hx hb dX4_flow_0 rfl (lv_at hl 0 rfl) ?_
  refine lv_iconst (v := 0) hx hb dX4_flow_1 (by decide) ?_
  refine xp_X4_33_24 C0 I dX4_flow_2 (fun H locs I => ?_)
  refine lv_aload_n hx hb dX4_flow_5 rfl (lv_at hl 0 rfl) ?_
  refine lv_iconst (v := 0) hx hb dX4_flow_6 (by decide) ?_
  refine xp_X4_37_24 C0 I dX4_flow_7 (fun H locs I => ?_)
  refine lv_aload_n hx hb dX4_flow_10 rfl (lv_at hl 0 rfl) ?_
  refine xg_X4_9_24 C0 I dX4_flow_11 ?_
  refine lv_iconst (v := 0) hx hb dX4_flow_14 (by decide) ?_
  obtain ⟨S1, h1, hf⟩ := bq1_some hf
  refine xcs_v (As := [.ref (g.2.2 25), .int (0 : Int32)]) C0 I (kfill_25 h1) (va_cwS 2 C0.2.2.2.2 (gwS wd_474 wd_402 wd_76 wd_403) rfl rfl rfl dsc_J7_fill_53178.2 ⟨Nat.le_of_ble_eq_true rfl, Nat.le_of_ble_eq_true rfl⟩) rfl hl.1 rfl (Nat.le_of_ble_eq_true rfl) dX4_flow_15 (fun H locs I => ?_)
  refine lv_aload_n hx hb dX4_flow_18 rfl (lv_at hl 0 rfl) ?_
  refine xg_X4_15_24 C0 I dX4_flow_19 ?_
  refine lv_iconst (v := 0) hx hb dX4_flow_22 (by decide) ?_
  obtain ⟨S2, h2, hf⟩ := bq1_some hf
  refine xcs_v (As := [.ref (g.2.2 26), .int (0 : Int32)]) C0 I (kfill_26 h2) (va_cwS 2 C0.2.2.2.2 (gwS wd_474 wd_402 wd_76 wd_403) rfl rfl rfl dsc_J7_fill_53178.2 ⟨Nat.le_of_ble_eq_true rfl, Nat.le_of_ble_eq_true rfl⟩) rfl hl.1 rfl (Nat.le_of_ble_eq_true rfl) dX4_flow_23 (fun H locs I => ?_)
  refine lv_aload_n hx hb dX4_flow_26 rfl (lv_at hl 0 rfl) ?_
  refine xg_X4_18_24 C0 I dX4_flow_27 ?_
  refine lv_iconst (v := 0) hx hb dX4_flow_30 (by decide) ?_
  obtain ⟨S3, h3, hf⟩ := bq1_some hf
  refine xcs_v (As := [.ref (g.2.2 27), .int (0 : Int32)]) C0 I (kfill_27 h3) (va_cwS 2 C0.2.2.2.2 (gwS wd_474 wd_402 wd_76 wd_403) rfl rfl rfl dsc_J7_fill_53178.2 ⟨Nat.le_of_ble_eq_true rfl, Nat.le_of_ble_eq_true rfl⟩) rfl hl.1 rfl (Nat.le_of_ble_eq_true rfl) dX4_flow_31 (fun H locs I => ?_)
  refine lv_aload_n hx hb dX4_flow_34 rfl (lv_at hl 0 rfl) ?_
  refine xg_X4_21_24 C0 I dX4_flow_35 ?_
  refine lv_iconst (v := 0) hx hb dX4_flow_38 (by decide) ?_
  obtain ⟨S4, h4, hf⟩ := bq1_some hf
  refine xcs_v (As := [.ref (g.2.2 28), .int (0 : Int32)]) C0 I (kfill_28 h4) (va_cwS 2 C0.2.2.2.2 (gwS wd_474 wd_402 wd_76 wd_403) rfl rfl rfl dsc_J7_fill_53178.2 ⟨Nat.le_of_ble_eq_true rfl, Nat.le_of_ble_eq_true rfl⟩) rfl hl.1 rfl (Nat.le_of_ble_eq_true rfl) dX4_flow_39 (fun H locs I => ?_)
  refine lv_iconst (v := 1) hx hb dX4_flow_42 (by decide) ?_
  refine lv_istore (lv' := [(5, .int (1 : Int32)), (0, .ref (g.2.2 24)), (1, .ref (g.2.2 1)), (2, .ref (g.2.2 17)), (3, .int x3), (4, .int x4)]) hx hb dX4_flow_43 hl (by decide) rfl (fun ls hl => ?_)
  obtain ⟨S10, y5_10, h10, hf⟩ := bq2_some hf
  refine lX4_flow_45 C0 hr hk fu h10 I (lv_sub hl [1, 2, 3, 4, 5, 0] rfl) (fun H locs ls I hl => ?_)
  obtain rfl := se1 hf
  exact xrv C0 hr hk I dX4_flow_87
set_option maxRecDepth 100000 in
theorem kX4_flow {x3 : Int32} {x4 : Int32}  (hf : fX4_flow S x3 x4 = some S') : Met l yX4_flow (Cond.code yX4_flow cX4_flow 6 none :: big) ({ frames := 4, cells := 0, slots := 0, locals := 99 } : Room) (va_Pc [.ref (g.2.2 24), .ref (g.2.2 1), .ref (g.2.2 17), .int x3, .int x4] (xB g S)) (va_Qv (fun S2 => S2 = S') (xB g) (xA g)) 0 0 (xA g) := by
  refine Met.ofW (cc := cX4_flow) (maxL := 6) (ret := none) (by decide) rfl ?_
  intro p e s m args below meth c s₁ B hml hv
  obtain ⟨rfl, hP, hK, hD⟩ := hv
  have hts0 := atoms_spec (ws := (Cond.code yX4_flow cX4_flow 6 none :: big)) B.pre
  have C0 : CallFix p m c cX4_flow 6 s _ big RX4 := ⟨B.exec, B.bytes, hml, findClass_of_methodNamed B.named, fun w h => hts0 w (List.mem_cons_of_mem _ h)⟩
  have I : xI g s S s.heap [] := ⟨hK, hP, hD, va_S.rf⟩
  have hl := lv_entry ([.ref (g.2.2 24), .ref (g.2.2 1), .ref (g.2.2 17), .int x3, .int x4]) (n := 6) (Nat.le_of_ble_eq_true rfl)
  rw [lg_entry_eq]
  generalize (lg_sl ([.ref (g.2.2 24), .ref (g.2.2 1), .ref (g.2.2 17), .int x3, .int x4]) ++ List.replicate (6 - (lg_sl ([.ref (g.2.2 24), .ref (g.2.2 1), .ref (g.2.2 17), .int x3, .int x4])).length) Slot.unset).toArray = ls at hl ⊢
  have hl : lv_has ls 6 [(0, .ref (g.2.2 24)), (1, .ref (g.2.2 1)), (2, .ref (g.2.2 17)), (3, .int x3), (4, .int x4)] := hl
  exact tX4_flow_0 C0 B.returns B.notSynchronized hf I (lv_sub hl [0, 1, 2, 3, 4] rfl)
end
