section
variable {p : Program} {l : Launch} {e : Env} {s : State} {m : MethodId} {args : Array Value} {below : List Frame} {meth : Method} {c : Code} {Q : State → Prop} {g : xG} {H : Heap} {locs : List Loc} {ls : Array Slot} {S S' : St}
set_option maxHeartbeats 4000000 in
set_option maxRecDepth 100000 in
theorem BX4_mostDelayed_4 (C0 : CallFix p m c cX4_mostDelayed 4 s args big RX4) (hr : meth.sig.returnType = (some .int)) (hk : meth.locks = false) {x1 : Int32} {x2 : Int32} {x3 : Int32} {b : Bool} {y2 : Int32} {y3 : Int32} (Kt : b = true → ∀ (H : Heap) (locs : List Loc) (ls : Array Slot), xI g s S H locs → lv_has ls 4 [(0, .ref (g.2.2 24)), (1, .int x1), (2, .int y2), (3, .int y3)] → W p l e ({ frames := 0, cells := 0, slots := 0, locals := 0 } : Room) s m args below meth c H locs 0 0 Q (F0 m 4 ls [])) (Kf : b = false → ∀ (H : Heap) (locs : List Loc) (ls : Array Slot), xI g s S H locs → lv_has ls 4 [(0, .ref (g.2.2 24)), (1, .int x1), (2, .int y2), (3, .int y3)] → W p l e ({ frames := 0, cells := 0, slots := 0, locals := 0 } : Room) s m args below meth c H locs 0 0 Q (F0 m 37 ls [])) (hf : bX4_mostDelayed_4 S x1 x2 x3 = some (b, y2, y3)) (I : xI g s S H locs) (hl : lv_has ls 4 [(0, .ref (g.2.2 24)), (1, .int x1), (2, .int x2), (3, .int x3)]) : W p l e ({ frames := 0, cells := 0, slots := 0, locals := 0 } : Room) s m args below meth c H locs 0 0 Q (F0 m 4 ls []) := by
  obtain ⟨hx, hb, hml, -, -⟩ := id C0
  unfold bX4_mostDelayed_4 at hf
  refine lv_iload_n hx hb dX4_mostDelayed_4 rfl (lv_at hl 3 rfl) ?_
  refine lv_iload_n hx hb dX4_mostDelayed_5 rfl (lv_at hl 1 rfl) ?_
  refine lv_icmp_ge (tgt := 37) hx hb dX4_mostDelayed_6 (by decide) (fun c1 => ?_) (fun c1 => ?_)
  · have hf := ip c1 hf
    obtain ⟨rfl, rfl, rfl⟩ := se3 hf
    exact Kf rfl _ _ _ I (lv_sub hl [0, 1, 2, 3] rfl)
  · have hf := inn c1 hf
    refine lv_iload_n hx hb dX4_mostDelayed_9 rfl (lv_at hl 2 rfl) ?_
    refine lv_iconst (v := -1) hx hb dX4_mostDelayed_10 (by decide) ?_
    refine lv_icmp_eq (tgt := 29) hx hb dX4_mostDelayed_11 (by decide) (fun c2 => ?_) (fun c2 => ?_)
    · have hf := ip c2 hf
      refine lv_iload_n hx hb dX4_mostDelayed_29 rfl (lv_at hl 3 rfl) ?_
      refine lv_istore_n (lv' := [(2, .int x3), (0, .ref (g.2.2 24)), (1, .int x1), (3, .int x3)]) hx hb dX4_mostDelayed_30 rfl hl (by decide) rfl (fun ls hl => ?_)
      refine lv_iinc (v := (x3 + (1 : Int32))) (lv' := [(3, .int (x3 + (1 : Int32))), (2, .int x3), (0, .ref (g.2.2 24)), (1, .int x1)]) hx hb dX4_mostDelayed_31 hl (k := 3) rfl rfl (by decide) rfl (fun ls hl => ?_)
      refine lv_goto (tgt := 4) hx hb dX4_mostDelayed_34 (by decide) ?_
      obtain ⟨rfl, rfl, rfl⟩ := se3 hf
      exact Kt rfl _ _ _ I (lv_sub hl [2, 3, 1, 0] rfl)
    · have hf := inn c2 hf
      refine lv_aload_n hx hb dX4_mostDelayed_14 rfl (lv_at hl 0 rfl) ?_
      refine xg_X4_15_24 C0 I dX4_mostDelayed_15 ?_
      refine lv_iload_n hx hb dX4_mostDelayed_18 rfl (lv_at hl 3 rfl) ?_
      obtain ⟨b3, hf⟩ := chk_some hf
      refine xl_26 hx hb I b3 dX4_mostDelayed_19 ?_
      refine lv_aload_n hx hb dX4_mostDelayed_20 rfl (lv_at hl 0 rfl) ?_
      refine xg_X4_15_24 C0 I dX4_mostDelayed_21 ?_
      refine lv_iload_n hx hb dX4_mostDelayed_24 rfl (lv_at hl 2 rfl) ?_
      obtain ⟨b4, hf⟩ := chk_some hf
      refine xl_26 hx hb I b4 dX4_mostDelayed_25 ?_
      refine lv_icmp_le (tgt := 31) hx hb dX4_mostDelayed_26 (by decide) (fun c5 => ?_) (fun c5 => ?_)
      · have hf := ip c5 hf
        refine lv_iinc (v := (x3 + (1 : Int32))) (lv' := [(3, .int (x3 + (1 : Int32))), (0, .ref (g.2.2 24)), (1, .int x1), (2, .int x2)]) hx hb dX4_mostDelayed_31 hl (k := 3) rfl rfl (by decide) rfl (fun ls hl => ?_)
        refine lv_goto (tgt := 4) hx hb dX4_mostDelayed_34 (by decide) ?_
        obtain ⟨rfl, rfl, rfl⟩ := se3 hf
        exact Kt rfl _ _ _ I (lv_sub hl [1, 2, 3, 0] rfl)
      · have hf := inn c5 hf
        refine lv_iload_n hx hb dX4_mostDelayed_29 rfl (lv_at hl 3 rfl) ?_
        refine lv_istore_n (lv' := [(2, .int x3), (0, .ref (g.2.2 24)), (1, .int x1), (3, .int x3)]) hx hb dX4_mostDelayed_30 rfl hl (by decide) rfl (fun ls hl => ?_)
        refine lv_iinc (v := (x3 + (1 : Int32))) (lv' := [(3, .int (x3 + (1 : Int32))), (2, .int x3), (0, .ref (g.2.2 24)), (1, .int x1)]) hx hb dX4_mostDelayed_31 hl (k := 3) rfl rfl (by decide) rfl (fun ls hl => ?_)
        refine lv_goto (tgt := 4) hx hb dX4_mostDelayed_34 (by decide) ?_
        obtain ⟨rfl, rfl, rfl⟩ := se3 hf
        exact Kt rfl _ _ _ I (lv_sub hl [2, 3, 1, 0] rfl)
set_option maxHeartbeats 4000000 in
theorem lX4_mostDelayed_4 (C0 : CallFix p m c cX4_mostDelayed 4 s args big RX4) (hr : meth.sig.returnType = (some .int)) (hk : meth.locks = false) {S : St} {x1 : Int32} {y2 : Int32} {y3 : Int32} : ∀ (n : Nat) {x2 : Int32} {x3 : Int32}, lp (fun q => bX4_mostDelayed_4 S x1 q.1 q.2) n (x2, x3) = some (y2, y3) → ∀ {H : Heap} {locs : List Loc}, xI g s S H locs → ∀ {ls : Array Slot}, lv_has ls 4 [(0, .ref (g.2.2 24)), (1, .int x1), (2, .int x2), (3, .int x3)] → (∀ (H : Heap) (locs : List Loc) (ls : Array Slot), xI g s S H locs → lv_has ls 4 [(0, .ref (g.2.2 24)), (1, .int x1), (2, .int y2), (3, .int y3)] → W p l e ({ frames := 0, cells := 0, slots := 0, locals := 0 } : Room) s m args below meth c H locs 0 0 Q (F0 m 37 ls [])) → W p l e ({ frames := 0, cells := 0, slots := 0, locals := 0 } : Room) s m args below meth c H locs 0 0 Q (F0 m 4 ls []) := by
  intro n
  induction n with
  | zero => intro x2 x3 hf; cases hf
  | succ n ih =>
    intro x2 x3 hf H locs I ls hl K
    obtain ⟨b, ⟨z0, z1⟩, h1, h2, h3⟩ := lp_some hf
    refine BX4_mostDelayed_4 C0 hr hk (fun hb1 H locs ls I hl => ?_) (fun hb1 H locs ls I hl => ?_) h1 I hl
    · exact ih (h2 hb1) I hl K
    · have e := h3 hb1
      cases e
      exact K H locs ls I hl
set_option maxHeartbeats 4000000 in
set_option maxRecDepth 100000 in
theorem tX4_mostDelayed_0 (C0 : CallFix p m c cX4_mostDelayed 4 s args big RX4) (hr : meth.sig.returnType = (some .int)) (hk : meth.locks = false) {x1 : Int32} {rr : Int32}  (hf : fX4_mostDelayed S x1 = some rr) (I : xI g s S H locs) (hl : lv_has ls 4 [(0, .ref (g.2.2 24)), (1, .int x1)]) : W p l e ({ frames := 0, cells := 0, slots := 0, locals := 0 } : Room) s m args below meth c H locs 0 0 (MQ below (va_Qi (fun r' S2 => r' = rr ∧ S2 = S) (xB g) (xA g)) args s 0 0 (xA g)) (F0 m 0 ls []) := by
  obtain ⟨hx, hb, hml, -, -⟩ := id C0
  unfold fX4_mostDelayed at hf
  refine lv_iconst (v := -1) hx hb dX4_mostDelayed_0 (by decide) ?_
  refine lv_istore_n (lv' := [(2, .int (-1 : Int32)), (0, .ref (g.2.2 24)), (1, .int x1)]) hx hb dX4_mostDelayed_1 rfl hl (by decide) rfl (fun ls hl => ?_)
  refine lv_iconst (v := 0) hx hb dX4_mostDelayed_2 (by decide) ?_
  refine lv_istore_n (lv' := [(3, .int (0 : Int32)), (2, .int (-1 : Int32)), (0, .ref (g.2.2 24)), (1, .int x1)]) hx hb dX4_mostDelayed_3 rfl hl (by decide) rfl (fun ls hl => ?_)
  obtain ⟨y2_6, y3_6, h6, hf⟩ := bq2_some hf
  refine lX4_mostDelayed_4 C0 hr hk fu h6 I (lv_sub hl [2, 3, 1, 0] rfl) (fun H locs ls I hl => ?_)
  refine lv_iload_n hx hb dX4_mostDelayed_37 rfl (lv_at hl 2 rfl) ?_
  obtain rfl := se1 hf
  exact xri C0 hr hk I dX4_mostDelayed_38
set_option maxRecDepth 100000 in
theorem kX4_mostDelayed {x1 : Int32} {rr : Int32} (hf : fX4_mostDelayed S x1 = some rr) : Met l yX4_mostDelayed (Cond.code yX4_mostDelayed cX4_mostDelayed 4 (some .int) :: big) ({ frames := 0, cells := 0, slots := 0, locals := 0 } : Room) (va_Pc [.ref (g.2.2 24), .int x1] (xB g S)) (va_Qi (fun r' S2 => r' = rr ∧ S2 = S) (xB g) (xA g)) 0 0 (xA g) := by
  refine Met.ofW (cc := cX4_mostDelayed) (maxL := 4) (ret := (some .int)) (by decide) rfl ?_
  intro p e s m args below meth c s₁ B hml hv
  obtain ⟨rfl, hP, hK, hD⟩ := hv
  have hts0 := atoms_spec (ws := (Cond.code yX4_mostDelayed cX4_mostDelayed 4 (some .int) :: big)) B.pre
  have C0 : CallFix p m c cX4_mostDelayed 4 s _ big RX4 := ⟨B.exec, B.bytes, hml, findClass_of_methodNamed B.named, fun w h => hts0 w (List.mem_cons_of_mem _ h)⟩
  have I : xI g s S s.heap [] := ⟨hK, hP, hD, va_S.rf⟩
  have hl := lv_entry ([.ref (g.2.2 24), .int x1]) (n := 4) (Nat.le_of_ble_eq_true rfl)
  rw [lg_entry_eq]
  generalize (lg_sl ([.ref (g.2.2 24), .int x1]) ++ List.replicate (4 - (lg_sl ([.ref (g.2.2 24), .int x1])).length) Slot.unset).toArray = ls at hl ⊢
  have hl : lv_has ls 4 [(0, .ref (g.2.2 24)), (1, .int x1)] := hl
  exact tX4_mostDelayed_0 C0 B.returns B.notSynchronized hf I (lv_sub hl [0, 1] rfl)
set_option maxHeartbeats 4000000 in
set_option maxRecDepth 100000 in
theorem BX4_delayOfAll_4 (C0 : CallFix p m c cX4_delayOfAll 4 s args big RX4) (hr : meth.sig.returnType = (some .int)) (hk : meth.locks = false) {x1 : Int32} {x2 : Int32} {x3 : Int32} {b : Bool} {y2 : Int32} {y3 : Int32} (Kt : b = true → ∀ (H : Heap) (locs : List Loc) (ls : Array Slot), xI g s S H locs → lv_has ls 4 [(0, .ref (g.2.2 24)), (1, .int x1), (2, .int y2), (3, .int y3)] → W p l e ({ frames := 0, cells := 0, slots := 0, locals := 0 } : Room) s m args below meth c H locs 0 0 Q (F0 m 4 ls [])) (Kf : b = false → ∀ (H : Heap) (locs : List Loc) (ls : Array Slot), xI g s S H locs → lv_has ls 4 [(0, .ref (g.2.2 24)), (1, .int x1), (2, .int y2), (3, .int y3)] → W p l e ({ frames := 0, cells := 0, slots := 0, locals := 0 } : Room) s m args below meth c H locs 0 0 Q (F0 m 24 ls [])) (hf : bX4_delayOfAll_4 S x1 x2 x3 = some (b, y2, y3)) (I : xI g s S H locs) (hl : lv_has ls 4 [(0, .ref (g.2.2 24)), (1, .int x1), (2, .int x2), (3, .int x3)]) : W p l e ({ frames := 0, cells := 0, slots := 0, locals := 0 } : Room) s m args below meth c H locs 0 0 Q (F0 m 4 ls []) := by
  obtain ⟨hx, hb, hml, -, -⟩ := id C0
  unfold bX4_delayOfAll_4 at hf
  refine lv_iload_n hx hb dX4_delayOfAll_4 rfl (lv_at hl 3 rfl) ?_
  refine lv_iload_n hx hb dX4_delayOfAll_5 rfl (lv_at hl 1 rfl) ?_
  refine lv_icmp_ge (tgt := 24) hx hb dX4_delayOfAll_6 (by decide) (fun c1 => ?_) (fun c1 => ?_)
  · have hf := ip c1 hf
    obtain ⟨rfl, rfl, rfl⟩ := se3 hf
    exact Kf rfl _ _ _ I (lv_sub hl [0, 1, 2, 3] rfl)
  · have hf := inn c1 hf
    refine lv_iload_n hx hb dX4_delayOfAll_9 rfl (lv_at hl 2 rfl) ?_
    refine lv_aload_n hx hb dX4_delayOfAll_10 rfl (lv_at hl 0 rfl) ?_
    refine xg_X4_15_24 C0 I dX4_delayOfAll_11 ?_
    refine lv_iload_n hx hb dX4_delayOfAll_14 rfl (lv_at hl 3 rfl) ?_
    obtain ⟨b2, hf⟩ := chk_some hf
    refine xl_26 hx hb I b2 dX4_delayOfAll_15 ?_
    refine lv_iadd hx hb dX4_delayOfAll_16 ?_
    refine lv_istore_n (lv' := [(2, .int (x2 + (gR S 13 x3))), (0, .ref (g.2.2 24)), (1, .int x1), (3, .int x3)]) hx hb dX4_delayOfAll_17 rfl hl (by decide) rfl (fun ls hl => ?_)
    refine lv_iinc (v := (x3 + (1 : Int32))) (lv' := [(3, .int (x3 + (1 : Int32))), (2, .int (x2 + (gR S 13 x3))), (0, .ref (g.2.2 24)), (1, .int x1)]) hx hb dX4_delayOfAll_18 hl (k := 3) rfl rfl (by decide) rfl (fun ls hl => ?_)
    refine lv_goto (tgt := 4) hx hb dX4_delayOfAll_21 (by decide) ?_
    obtain ⟨rfl, rfl, rfl⟩ := se3 hf
    exact Kt rfl _ _ _ I (lv_sub hl [2, 3, 1, 0] rfl)
set_option maxHeartbeats 4000000 in
theorem lX4_delayOfAll_4 (C0 : CallFix p m c cX4_delayOfAll 4 s args big RX4) (hr : meth.sig.returnType = (some .int)) (hk : meth.locks = false) {S : St} {x1 : Int32} {y2 : Int32} {y3 : Int32} : ∀ (n : Nat) {x2 : Int32} {x3 : Int32}, lp (fun q => bX4_delayOfAll_4 S x1 q.1 q.2) n (x2, x3) = some (y2, y3) → ∀ {H : Heap} {locs : List Loc}, xI g s S H locs → ∀ {ls : Array Slot}, lv_has ls 4 [(0, .ref (g.2.2 24)), (1, .int x1), (2, .int x2), (3, .int x3)] → (∀ (H : Heap) (locs : List Loc) (ls : Array Slot), xI g s S H locs → lv_has ls 4 [(0, .ref (g.2.2 24)), (1, .int x1), (2, .int y2), (3, .int y3)] → W p l e ({ frames := 0, cells := 0, slots := 0, locals := 0 } : Room) s m args below meth c H locs 0 0 Q (F0 m 24 ls [])) → W p l e ({ frames := 0, cells := 0, slots := 0, locals := 0 } : Room) s m args below meth c H locs 0 0 Q (F0 m 4 ls []) := by
  intro n
  induction n with
  | zero => intro x2 x3 hf; cases hf
  | succ n ih =>
    intro x2 x3 hf H locs I ls hl K
    obtain ⟨b, ⟨z0, z1⟩, h1, h2, h3⟩ := lp_some hf
    refine BX4_delayOfAll_4 C0 hr hk (fun hb1 H locs ls I hl => ?_) (fun hb1 H locs ls I hl => ?_) h1 I hl
    · exact ih (h2 hb1) I hl K
    · have e := h3 hb1
      cases e
      exact K H locs ls I hl
set_option maxHeartbeats 4000000 in
set_option maxRecDepth 100000 in
theorem tX4_delayOfAll_0 (C0 : CallFix p m c cX4_delayOfAll 4 s args big RX4) (hr : meth.sig.returnType = (some .int)) (hk : meth.locks = false) {x1 : Int32} {rr : Int32}  (hf : fX4_delayOfAll S x1 = some rr) (I : xI g s S H locs) (hl : lv_has ls 4 [(0, .ref (g.2.2 24)), (1, .int x1)]) : W p l e ({ frames := 0, cells := 0, slots := 0, locals := 0 } : Room) s m args below meth c H locs 0 0 (MQ below (va_Qi (fun r' S2 => r' = rr ∧ S2 = S) (xB g) (xA g)) args s 0 0 (xA g)) (F0 m 0 ls []) := by
  obtain ⟨hx, hb, hml, -, -⟩ := id C0
  unfold fX4_delayOfAll at hf
  refine lv_iconst (v := 0) hx hb dX4_delayOfAll_0 (by decide) ?_
  refine lv_istore_n (lv' := [(2, .int (0 : Int32)), (0, .ref (g.2.2 24)), (1, .int x1)]) hx hb dX4_delayOfAll_1 rfl hl (by decide) rfl (fun ls hl => ?_)
  refine lv_iconst (v := 0) hx hb dX4_delayOfAll_2 (by decide) ?_
  refine lv_istore_n (lv' := [(3, .int (0 : Int32)), (2, .int (0 : Int32)), (0, .ref (g.2.2 24)), (1, .int x1)]) hx hb dX4_delayOfAll_3 rfl hl (by decide) rfl (fun ls hl => ?_)
  obtain ⟨y2_3, y3_3, h3, hf⟩ := bq2_some hf
  refine lX4_delayOfAll_4 C0 hr hk fu h3 I (lv_sub hl [2, 3, 1, 0] rfl) (fun H locs ls I hl => ?_)
  refine lv_iload_n hx hb dX4_delayOfAll_24 rfl (lv_at hl 2 rfl) ?_
  obtain rfl := se1 hf
  exact xri C0 hr hk I dX4_delayOfAll_25
set_option maxRecDepth 100000 in
theorem kX4_delayOfAll {x1 : Int32} {rr : Int32} (hf : fX4_delayOfAll S x1 = some rr) : Met l yX4_delayOfAll (Cond.code yX4_delayOfAll cX4_delayOfAll 4 (some .int) :: big) ({ frames := 0, cells := 0, slots := 0, locals := 0 } : Room) (va_Pc [.ref (g.2.2 24), .int x1] (xB g S)) (va_Qi (fun r' S2 => r' = rr ∧ S2 = S) (xB g) (xA g)) 0 0 (xA g) := by
  refine Met.ofW (cc := cX4_delayOfAll) (maxL := 4) (ret := (some .int)) (by decide) rfl ?_
  intro p e s m args below meth c s₁ B hml hv
  obtain ⟨rfl, hP, hK, hD⟩ := hv
  have hts0 := atoms_spec (ws := (Cond.code yX4_delayOfAll cX4_delayOfAll 4 (some .int) :: big)) B.pre
  have C0 : CallFix p m c cX4_delayOfAll 4 s _ big RX4 := ⟨B.exec, B.bytes, hml, findClass_of_methodNamed B.named, fun w h => hts0 w (List.mem_cons_of_mem _ h)⟩
  have I : xI g s S s.heap [] := ⟨hK, hP, hD, va_S.rf⟩
  have hl := lv_entry ([.ref (g.2.2 24), .int x1]) (n := 4) (Nat.le_of_ble_eq_true rfl)
  rw [lg_entry_eq]
  generalize (lg_sl ([.ref (g.2.2 24), .int x1]) ++ List.replicate (4 - (lg_sl ([.ref (g.2.2 24), .int x1])).length) Slot.unset).toArray = ls at hl ⊢
  have hl : lv_has ls 4 [(0, .ref (g.2.2 24)), (1, .int x1)] := hl
  exact tX4_delayOfAll_0 C0 B.returns B.notSynchronized hf I (lv_sub hl [0, 1] rfl)
set_option maxHeartbeats 4000000 in
set_option maxRecDepth 100000 in
theorem tX6_runFact_0 (C0 : CallFix p m c cX6_runFact 3 s args big RX6) (hr : meth.sig.returnType = (some .int)) (hk : meth.locks = false) {x1 : Int32} {rr : Int32}  (hf : fX6_runFact S x1 = some rr) (I : xI g s S H locs) (hl : lv_has ls 3 [(0, .ref (g.2.2 0)), (1, .int x1)]) : W p l e ({ frames := 1, cells := 0, slots := 0, locals := 23 } : Room) s m args below meth c H locs 0 0 (MQ below (va_Qi (fun r' S2 => r' = rr ∧ S2 = S) (xB g) (xA g)) args s 0 0 (xA g)) (F0 m 0 ls []) := by
  obtain ⟨hx, hb, hml, -, -⟩ := id C0
  unfold fX6_runFact at hf
  refine lv_aload_n hx hb dX6_runFact_0 rfl (lv_at hl 0 rfl) ?_
  refine xg_X6_40_0 C0 I dX6_runFact_1 ?_
  refine lv_aload_n hx hb dX6_runFact_4 rfl (lv_at hl 0 rfl) ?_
  refine xg_X6_10_0 C0 I dX6_runFact_5 ?_
  refine xg_X6_73_1 C0 I dX6_runFact_8 ?_
  obtain ⟨r1, h1, hf⟩ := bq1_some hf
  refine xcv_i (As := [.int (gF S 3)]) C0 I (kX4_mostDelayed h1) (cwV 1 C0.2.2.2.2 (gwV wd_508 wd_509 wd_510 wd_71 wd_511) rfl rfl rfl dsc_X4_mostDelayed ⟨Nat.le_of_ble_eq_true rfl, Nat.le_of_ble_eq_true rfl⟩) (xo_24 I) rfl hl.1 rfl (Nat.le_of_ble_eq_true rfl) dX6_runFact_11 (fun H locs I => ?_)
  refine lv_istore_n (lv' := [(2, .int r1), (0, .ref (g.2.2 0)), (1, .int x1)]) hx hb dX6_runFact_14 rfl hl (by decide) rfl (fun ls hl => ?_)
  refine lv_iload_n hx hb dX6_runFact_15 rfl (lv_at hl 2 rfl) ?_
  by_cases e2 : x1 = (0 : Int32)
  · have hf := ip e2 hf
    refine lv_tableIn (off := 32) (tgt := 48) hx hb dX6_runFact_16 (by rw [e2]; decide) (by rw [e2]; decide) (by rw [e2]; rfl) (by decide) ?_
    refine lv_aload_n hx hb dX6_runFact_48 rfl (lv_at hl 1 rfl) ?_
    refine xg_X6_40_0 C0 I dX6_runFact_49 ?_
    refine xg_X6_181_24 C0 I dX6_runFact_52 ?_
    obtain rfl := se1 hf
    exact xri C0 hr hk I dX6_runFact_55
  · have hf := inn e2 hf
    by_cases e3 : x1 = (1 : Int32)
    · have hf := ip e3 hf
      refine lv_tableIn (off := 40) (tgt := 56) hx hb dX6_runFact_16 (by rw [e3]; decide) (by rw [e3]; decide) (by rw [e3]; rfl) (by decide) ?_
      refine lv_aload_n hx hb dX6_runFact_56 rfl (lv_at hl 1 rfl) ?_
      refine xg_X6_40_0 C0 I dX6_runFact_57 ?_
      refine lv_aload_n hx hb dX6_runFact_60 rfl (lv_at hl 1 rfl) ?_
      refine xg_X6_10_0 C0 I dX6_runFact_61 ?_
      refine xg_X6_73_1 C0 I dX6_runFact_64 ?_
      obtain ⟨r4, h4, hf⟩ := bq1_some hf
      refine xcv_i (As := [.int (gF S 3)]) C0 I (kX4_delayOfAll h4) (cwV 1 C0.2.2.2.2 (gwV wd_512 wd_513 wd_514 wd_71 wd_515) rfl rfl rfl dsc_X4_delayOfAll ⟨Nat.le_of_ble_eq_true rfl, Nat.le_of_ble_eq_true rfl⟩) (xo_24 I) rfl hl.1 rfl (Nat.le_of_ble_eq_true rfl) dX6_runFact_67 (fun H locs I => ?_)
      obtain rfl := se1 hf
      exact xri C0 hr hk I dX6_runFact_70
    · have hf := inn e3 hf
      by_cases e5 : x1 = (2 : Int32)
      · have hf := ip e5 hf
        refine lv_tableIn (off := 55) (tgt := 71) hx hb dX6_runFact_16 (by rw [e5]; decide) (by rw [e5]; decide) (by rw [e5]; rfl) (by decide) ?_
        refine lv_iload_n hx hb dX6_runFact_71 rfl (lv_at hl 0 rfl) ?_
        refine lv_iconst (v := -1) hx hb dX6_runFact_72 (by decide) ?_
        refine lv_icmp_ne (tgt := 80) hx hb dX6_runFact_73 (by decide) (fun c6 => ?_) (fun c6 => ?_)
        · have hf := inn c6 hf
          refine lv_aload_n hx hb dX6_runFact_80 rfl (lv_at hl 1 rfl) ?_
          refine xg_X6_40_0 C0 I dX6_runFact_81 ?_
          refine xg_X6_175_24 C0 I dX6_runFact_84 ?_
          refine lv_iload_n hx hb dX6_runFact_87 rfl (lv_at hl 0 rfl) ?_
          obtain ⟨b7, hf⟩ := chk_some hf
          refine xl_26 hx hb I b7 dX6_runFact_88 ?_
          obtain rfl := se1 hf
          exact xri C0 hr hk I dX6_runFact_89
        · have hf := ip c6 hf
          refine lv_iconst (v := 0) hx hb dX6_runFact_76 (by decide) ?_
          refine lv_goto (tgt := 89) hx hb dX6_runFact_77 (by decide) ?_
          obtain rfl := se1 hf
          exact xri C0 hr hk I dX6_runFact_89
      · have hf := inn e5 hf
        by_cases e8 : x1 = (3 : Int32)
        · have hf := ip e8 hf
          refine lv_tableIn (off := 74) (tgt := 90) hx hb dX6_runFact_16 (by rw [e8]; decide) (by rw [e8]; decide) (by rw [e8]; rfl) (by decide) ?_
          refine lv_iload_n hx hb dX6_runFact_90 rfl (lv_at hl 0 rfl) ?_
          obtain rfl := se1 hf
          exact xri C0 hr hk I dX6_runFact_91
        · have hf := inn e8 hf
          refine lv_tableOut (tgt := 92) hx hb dX6_runFact_16 (by have q2 := lv_neT (a := 0) e2 (by decide); have q3 := lv_neT (a := 1) e3 (by decide); have q5 := lv_neT (a := 2) e5 (by decide); have q8 := lv_neT (a := 3) e8 (by decide); omega) (by decide) ?_
          refine lv_aload_n hx hb dX6_runFact_92 rfl (lv_at hl 1 rfl) ?_
          refine xg_X6_40_0 C0 I dX6_runFact_93 ?_
          refine xg_X6_241_24 C0 I dX6_runFact_96 ?_
          obtain rfl := se1 hf
          exact xri C0 hr hk I dX6_runFact_99
set_option maxRecDepth 100000 in
theorem kX6_runFact {x1 : Int32} {rr : Int32} (hf : fX6_runFact S x1 = some rr) : Met l yX6_runFact (Cond.code yX6_runFact cX6_runFact 3 (some .int) :: big) ({ frames := 1, cells := 0, slots := 0, locals := 23 } : Room) (va_Pc [.ref (g.2.2 0), .int x1] (xB g S)) (va_Qi (fun r' S2 => r' = rr ∧ S2 = S) (xB g) (xA g)) 0 0 (xA g) := by
  refine Met.ofW (cc := cX6_runFact) (maxL := 3) (ret := (some .int)) (by decide) rfl ?_
  intro p e s m args below meth c s₁ B hml hv
  obtain ⟨rfl, hP, hK, hD⟩ := hv
  have hts0 := atoms_spec (ws := (Cond.code yX6_runFact cX6_runFact 3 (some .int) :: big)) B.pre
  have C0 : CallFix p m c cX6_runFact 3 s _ big RX6 := ⟨B.exec, B.bytes, hml, findClass_of_methodNamed B.named, fun w h => hts0 w (List.mem_cons_of_mem _ h)⟩
  have I : xI g s S s.heap [] := ⟨hK, hP, hD, va_S.rf⟩
  have hl := lv_entry ([.ref (g.2.2 0), .int x1]) (n := 3) (Nat.le_of_ble_eq_true rfl)
  rw [lg_entry_eq]
  generalize (lg_sl ([.ref (g.2.2 0), .int x1]) ++ List.replicate (3 - (lg_sl ([.ref (g.2.2 0), .int x1])).length) Slot.unset).toArray = ls at hl ⊢
  have hl : lv_has ls 3 [(0, .ref (g.2.2 0)), (1, .int x1)] := hl
  exact tX6_runFact_0 C0 B.returns B.notSynchronized hf I (lv_sub hl [0, 1] rfl)
set_option maxHeartbeats 4000000 in
set_option maxRecDepth 100000 in
theorem tX6_run_9 (C0 : CallFix p m c cX6_run 2 s args big RX6) (hr : meth.sig.returnType = (some .int)) (hk : meth.locks = false)  {rr : Int32}  (hf : fX6_run_9 S = some (rr, S')) (I : xI g s S H locs) (hl : lv_has ls 2 [(0, .ref (g.2.2 0))]) : W p l e ({ frames := 5, cells := 0, slots := 0, locals := 124 } : Room) s m args below meth c H locs 0 0 (MQ below (va_Qi (fun r' S2 => r' = rr ∧ S2 = S') (xB g) (xA g)) args s 0 0 (xA g)) (F0 m 9 ls []) := by
  obtain ⟨hx, hb, hml, -, -⟩ := id C0
  unfold fX6_run_9 at hf
  refine lv_aload_n hx hb dX6_run_9 rfl (lv_at hl 0 rfl) ?_
  refine lv_bipush (v := -2) hx hb dX6_run_10 (by decide) ?_
  obtain ⟨r2, S2, h2, hf⟩ := bq2_some hf
  refine xcv_i (As := [.int (-2 : Int32)]) C0 I (kX6_refuse h2) (cwV 1 C0.2.2.2.2 (gwV wd_272 wd_274 wd_0 wd_66 wd_275) rfl rfl rfl dsc_X6_refuse ⟨Nat.le_of_ble_eq_true rfl, Nat.le_of_ble_eq_true rfl⟩) (xo_0 I) rfl hl.1 rfl (Nat.le_of_ble_eq_true rfl) dX6_run_12 (fun H locs I => ?_)
  obtain ⟨rfl, rfl⟩ := se2 hf
  exact xri C0 hr hk I dX6_run_15
set_option maxHeartbeats 4000000 in
set_option maxRecDepth 100000 in
theorem tX6_run_0 (C0 : CallFix p m c cX6_run 2 s args big RX6) (hr : meth.sig.returnType = (some .int)) (hk : meth.locks = false) {x1 : Int32} {rr : Int32}  (hf : fX6_run S x1 = some (rr, S')) (I : xI g s S H locs) (hl : lv_has ls 2 [(0, .ref (g.2.2 0)), (1, .int x1)]) : W p l e ({ frames := 5, cells := 0, slots := 0, locals := 124 } : Room) s m args below meth c H locs 0 0 (MQ below (va_Qi (fun r' S2 => r' = rr ∧ S2 = S') (xB g) (xA g)) args s 0 0 (xA g)) (F0 m 0 ls []) := by
  obtain ⟨hx, hb, hml, -, -⟩ := id C0
  unfold fX6_run at hf
  refine lv_iload_n hx hb dX6_run_0 rfl (lv_at hl 1 rfl) ?_
  refine lv_if_lt (tgt := 9) hx hb dX6_run_1 (by decide) (fun c1 => ?_) (fun c1 => ?_)
  · have hf := ip c1 hf
    exact tX6_run_9 C0 hr hk hf I (lv_sub hl [0] rfl)
  · have hf := inn c1 hf
    refine lv_iload_n hx hb dX6_run_4 rfl (lv_at hl 1 rfl) ?_
    refine lv_iconst (v := 4) hx hb dX6_run_5 (by decide) ?_
    refine lv_icmp_le (tgt := 16) hx hb dX6_run_6 (by decide) (fun c3 => ?_) (fun c3 => ?_)
    · have hf := ip c3 hf
      refine lv_aload_n hx hb dX6_run_16 rfl (lv_at hl 0 rfl) ?_
      refine xg_X6_26_0 C0 I dX6_run_17 ?_
      refine lv_aload_n hx hb dX6_run_20 rfl (lv_at hl 0 rfl) ?_
      refine xg_X6_10_0 C0 I dX6_run_21 ?_
      obtain ⟨S4, h4, hf⟩ := bq1_some hf
      refine xcv_v (As := [.ref (g.2.2 1)]) C0 I (kX5_follow h4) (cwV 1 C0.2.2.2.2 (gwV wd_352 wd_353 wd_354 wd_69 wd_355) rfl rfl rfl dsc_X5_follow ⟨Nat.le_of_ble_eq_true rfl, Nat.le_of_ble_eq_true rfl⟩) (xo_17 I) rfl hl.1 rfl (Nat.le_of_ble_eq_true rfl) dX6_run_24 (fun H locs I => ?_)
      refine lv_aload_n hx hb dX6_run_27 rfl (lv_at hl 0 rfl) ?_
      refine xg_X6_40_0 C0 I dX6_run_28 ?_
      refine lv_aload_n hx hb dX6_run_31 rfl (lv_at hl 0 rfl) ?_
      refine xg_X6_10_0 C0 I dX6_run_32 ?_
      refine lv_aload_n hx hb dX6_run_35 rfl (lv_at hl 0 rfl) ?_
      refine xg_X6_26_0 C0 I dX6_run_36 ?_
      refine lv_aload_n hx hb dX6_run_39 rfl (lv_at hl 0 rfl) ?_
      refine xg_X6_10_0 C0 I dX6_run_40 ?_
      refine xg_X6_99_1 C0 I dX6_run_43 ?_
      refine lv_sipush (v := 400) hx hb dX6_run_46 (by decide) ?_
      obtain ⟨S5, h5, hf⟩ := bq1_some hf
      refine xcv_v (As := [.ref (g.2.2 1), .ref (g.2.2 17), .int (gF S4 2), .int (400 : Int32)]) C0 I (kX4_flow h5) (cwV 4 C0.2.2.2.2 (gwV wd_470 wd_471 wd_472 wd_71 wd_473) rfl rfl rfl dsc_X4_flow ⟨Nat.le_of_ble_eq_true rfl, Nat.le_of_ble_eq_true rfl⟩) (xo_24 I) rfl hl.1 rfl (Nat.le_of_ble_eq_true rfl) dX6_run_49 (fun H locs I => ?_)
      refine lv_aload_n hx hb dX6_run_52 rfl (lv_at hl 0 rfl) ?_
      refine lv_iload_n hx hb dX6_run_53 rfl (lv_at hl 1 rfl) ?_
      obtain ⟨r6, h6, hf⟩ := bq1_some hf
      refine xcv_i (As := [.int x1]) C0 I (kX6_runFact h6) (cwV 1 C0.2.2.2.2 (gwV wd_504 wd_506 wd_15 wd_66 wd_507) rfl rfl rfl dsc_X6_runFact ⟨Nat.le_of_ble_eq_true rfl, Nat.le_of_ble_eq_true rfl⟩) (xo_0 I) rfl hl.1 rfl (Nat.le_of_ble_eq_true rfl) dX6_run_54 (fun H locs I => ?_)
      obtain ⟨rfl, rfl⟩ := se2 hf
      exact xri C0 hr hk I dX6_run_57
    · have hf := inn c3 hf
      exact tX6_run_9 C0 hr hk hf I (lv_sub hl [0] rfl)
set_option maxRecDepth 100000 in
theorem kX6_run {x1 : Int32} {rr : Int32} (hf : fX6_run S x1 = some (rr, S')) : Met l yX6_run (Cond.code yX6_run cX6_run 2 (some .int) :: big) ({ frames := 5, cells := 0, slots := 0, locals := 124 } : Room) (va_Pc [.ref (g.2.2 0), .int x1] (xB g S)) (va_Qi (fun r' S2 => r' = rr ∧ S2 = S') (xB g) (xA g)) 0 0 (xA g) := by
  refine Met.ofW (cc := cX6_run) (maxL := 2) (ret := (some .int)) (by decide) rfl ?_
  intro p e s m args below meth c s₁ B hml hv
  obtain ⟨rfl, hP, hK, hD⟩ := hv
  have hts0 := atoms_spec (ws := (Cond.code yX6_run cX6_run 2 (some .int) :: big)) B.pre
  have C0 : CallFix p m c cX6_run 2 s _ big RX6 := ⟨B.exec, B.bytes, hml, findClass_of_methodNamed B.named, fun w h => hts0 w (List.mem_cons_of_mem _ h)⟩
  have I : xI g s S s.heap [] := ⟨hK, hP, hD, va_S.rf⟩
  have hl := lv_entry ([.ref (g.2.2 0), .int x1]) (n := 2) (Nat.le_of_ble_eq_true rfl)
  rw [lg_entry_eq]
  generalize (lg_sl ([.ref (g.2.2 0), .int x1]) ++ List.replicate (2 - (lg_sl ([.ref (g.2.2 0), .int x1])).length) Slot.unset).toArray = ls at hl ⊢
  have hl : lv_has ls 2 [(0, .ref (g.2.2 0)), (1, .int x1)] := hl
  exact tX6_run_0 C0 B.returns B.notSynchronized hf I (lv_sub hl [0, 1] rfl)
set_option maxHeartbeats 4000000 in
set_option maxRecDepth 100000 in
theorem tX6_ran_20 (C0 : CallFix p m c cX6_ran 4 s args big RX6) (hr : meth.sig.returnType = (some .int)) (hk : meth.locks = false)  {rr : Int32}  (hf : fX6_ran_20 S = some (rr, S')) (I : xI g s S H locs) (hl : lv_has ls 4 [(0, .ref (g.2.2 0))]) : W p l e ({ frames := 5, cells := 0, slots := 0, locals := 124 } : Room) s m args below meth c H locs 0 0 (MQ below (va_Qi (fun r' S2 => r' = rr ∧ S2 = S') (xB g) (xA g)) args s 0 0 (xA g)) (F0 m 20 ls []) := by
  obtain ⟨hx, hb, hml, -, -⟩ := id C0
  unfold fX6_ran_20 at hf
  refine lv_aload_n hx hb dX6_ran_20 rfl (lv_at hl 0 rfl) ?_
  refine lv_bipush (v := -2) hx hb dX6_ran_21 (by decide) ?_
  obtain ⟨r3, S3, h3, hf⟩ := bq2_some hf
  refine xcv_i (As := [.int (-2 : Int32)]) C0 I (kX6_refuse h3) (cwV 1 C0.2.2.2.2 (gwV wd_272 wd_274 wd_0 wd_66 wd_275) rfl rfl rfl dsc_X6_refuse ⟨Nat.le_of_ble_eq_true rfl, Nat.le_of_ble_eq_true rfl⟩) (xo_0 I) rfl hl.1 rfl (Nat.le_of_ble_eq_true rfl) dX6_ran_23 (fun H locs I => ?_)
  obtain ⟨rfl, rfl⟩ := se2 hf
  exact xri C0 hr hk I dX6_ran_26
set_option maxHeartbeats 4000000 in
set_option maxRecDepth 100000 in
theorem tX6_ran_92 (C0 : CallFix p m c cX6_ran 4 s args big RX6) (hr : meth.sig.returnType = (some .int)) (hk : meth.locks = false) {x1 : Int32} {x2 : Int32} {s0 : Int32} {s1 : Int32} {rr : Int32}  (hf : fX6_ran_92 S x1 x2 s0 s1 = some (rr, S')) (I : xI g s S H locs) (hl : lv_has ls 4 [(0, .ref (g.2.2 0)), (1, .int x1), (2, .int x2)]) : W p l e ({ frames := 5, cells := 0, slots := 0, locals := 124 } : Room) s m args below meth c H locs 0 0 (MQ below (va_Qi (fun r' S2 => r' = rr ∧ S2 = S') (xB g) (xA g)) args s 0 0 (xA g)) (F0 m 92 ls [.int s0, .int s1, .ref (g.2.2 17), .ref (g.2.2 1), .ref (g.2.2 24)]) := by
  obtain ⟨hx, hb, hml, -, -⟩ := id C0
  unfold fX6_ran_92 at hf
  obtain ⟨S9, h9, hf⟩ := bq1_some hf
  refine xcv_v (As := [.ref (g.2.2 1), .ref (g.2.2 17), .int s1, .int s0]) C0 I (kX4_flow h9) (cwV 4 C0.2.2.2.2 (gwV wd_470 wd_471 wd_472 wd_71 wd_473) rfl rfl rfl dsc_X4_flow ⟨Nat.le_of_ble_eq_true rfl, Nat.le_of_ble_eq_true rfl⟩) (xo_24 I) rfl hl.1 rfl (Nat.le_of_ble_eq_true rfl) dX6_ran_92 (fun H locs I => ?_)
  refine lv_iload_n hx hb dX6_ran_95 rfl (lv_at hl 2 rfl) ?_
  by_cases e10 : x2 = (0 : Int32)
  · have hf := ip e10 hf
    refine lv_lookup (off := 28) (tgt := 124) hx hb dX6_ran_96 (by decide) (by rw [e10]; rfl) (by decide) ?_
    refine lv_aload_n hx hb dX6_ran_124 rfl (lv_at hl 0 rfl) ?_
    refine xg_X6_40_0 C0 I dX6_ran_125 ?_
    refine xg_X6_172_24 C0 I dX6_ran_128 ?_
    refine lv_iload_n hx hb dX6_ran_131 rfl (lv_at hl 1 rfl) ?_
    obtain ⟨b11, hf⟩ := chk_some hf
    refine xl_25 hx hb I b11 dX6_ran_132 ?_
    obtain ⟨rfl, rfl⟩ := se2 hf
    exact xri C0 hr hk I dX6_ran_133
  · have hf := inn e10 hf
    by_cases e12 : x2 = (1 : Int32)
    · have hf := ip e12 hf
      refine lv_lookup (off := 38) (tgt := 134) hx hb dX6_ran_96 (by decide) (by rw [e12]; rfl) (by decide) ?_
      refine lv_aload_n hx hb dX6_ran_134 rfl (lv_at hl 0 rfl) ?_
      refine xg_X6_40_0 C0 I dX6_ran_135 ?_
      refine xg_X6_175_24 C0 I dX6_ran_138 ?_
      refine lv_iload_n hx hb dX6_ran_141 rfl (lv_at hl 1 rfl) ?_
      obtain ⟨b13, hf⟩ := chk_some hf
      refine xl_26 hx hb I b13 dX6_ran_142 ?_
      obtain ⟨rfl, rfl⟩ := se2 hf
      exact xri C0 hr hk I dX6_ran_143
    · have hf := inn e12 hf
      refine lv_lookup (off := 48) (tgt := 144) hx hb dX6_ran_96 (by decide) ((lv_osw e10 (by decide)).trans ((lv_osw e12 (by decide)).trans rfl)) (by decide) ?_
      refine lv_aload_n hx hb dX6_ran_144 rfl (lv_at hl 0 rfl) ?_
      refine xg_X6_26_0 C0 I dX6_ran_145 ?_
      refine lv_aload_n hx hb dX6_ran_148 rfl (lv_at hl 0 rfl) ?_
      refine xg_X6_10_0 C0 I dX6_ran_149 ?_
      refine lv_iload_n hx hb dX6_ran_152 rfl (lv_at hl 1 rfl) ?_
      refine lv_aload_n hx hb dX6_ran_153 rfl (lv_at hl 0 rfl) ?_
      refine xg_X6_40_0 C0 I dX6_ran_154 ?_
      refine xg_X6_178_24 C0 I dX6_ran_157 ?_
      refine lv_iload_n hx hb dX6_ran_160 rfl (lv_at hl 1 rfl) ?_
      obtain ⟨b14, hf⟩ := chk_some hf
      refine xl_27 hx hb I b14 dX6_ran_161 ?_
      obtain ⟨r15, h15, hf⟩ := bq1_some hf
      refine xcv_i (As := [.ref (g.2.2 1), .int x1, .int (gR S9 14 x1)]) C0 I (kX5_cornerBehind h15) (cwV 3 C0.2.2.2.2 (gwV wd_377 wd_378 wd_379 wd_69 wd_380) rfl rfl rfl dsc_X5_cornerBehind ⟨Nat.le_of_ble_eq_true rfl, Nat.le_of_ble_eq_true rfl⟩) (xo_17 I) rfl hl.1 rfl (Nat.le_of_ble_eq_true rfl) dX6_ran_162 (fun H locs I => ?_)
      obtain ⟨rfl, rfl⟩ := se2 hf
      exact xri C0 hr hk I dX6_ran_165
set_option maxHeartbeats 4000000 in
set_option maxRecDepth 100000 in
theorem tX6_ran_50 (C0 : CallFix p m c cX6_ran 4 s args big RX6) (hr : meth.sig.returnType = (some .int)) (hk : meth.locks = false) {x1 : Int32} {x2 : Int32} {x3 : Int32} {rr : Int32}  (hf : fX6_ran_50 S x1 x2 x3 = some (rr, S')) (I : xI g s S H locs) (hl : lv_has ls 4 [(0, .ref (g.2.2 0)), (1, .int x1), (2, .int x2), (3, .int x3)]) : W p l e ({ frames := 5, cells := 0, slots := 0, locals := 124 } : Room) s m args below meth c H locs 0 0 (MQ below (va_Qi (fun r' S2 => r' = rr ∧ S2 = S') (xB g) (xA g)) args s 0 0 (xA g)) (F0 m 50 ls []) := by
  obtain ⟨hx, hb, hml, -, -⟩ := id C0
  unfold fX6_ran_50 at hf
  refine lv_aload_n hx hb dX6_ran_50 rfl (lv_at hl 0 rfl) ?_
  refine xg_X6_26_0 C0 I dX6_ran_51 ?_
  refine lv_aload_n hx hb dX6_ran_54 rfl (lv_at hl 0 rfl) ?_
  refine xg_X6_10_0 C0 I dX6_ran_55 ?_
  obtain ⟨S7, h7, hf⟩ := bq1_some hf
  refine xcv_v (As := [.ref (g.2.2 1)]) C0 I (kX5_follow h7) (cwV 1 C0.2.2.2.2 (gwV wd_352 wd_353 wd_354 wd_69 wd_355) rfl rfl rfl dsc_X5_follow ⟨Nat.le_of_ble_eq_true rfl, Nat.le_of_ble_eq_true rfl⟩) (xo_17 I) rfl hl.1 rfl (Nat.le_of_ble_eq_true rfl) dX6_ran_58 (fun H locs I => ?_)
  refine lv_aload_n hx hb dX6_ran_61 rfl (lv_at hl 0 rfl) ?_
  refine xg_X6_40_0 C0 I dX6_ran_62 ?_
  refine lv_aload_n hx hb dX6_ran_65 rfl (lv_at hl 0 rfl) ?_
  refine xg_X6_10_0 C0 I dX6_ran_66 ?_
  refine lv_aload_n hx hb dX6_ran_69 rfl (lv_at hl 0 rfl) ?_
  refine xg_X6_26_0 C0 I dX6_ran_70 ?_
  refine lv_aload_n hx hb dX6_ran_73 rfl (lv_at hl 0 rfl) ?_
  refine xg_X6_10_0 C0 I dX6_ran_74 ?_
  refine xg_X6_99_1 C0 I dX6_ran_77 ?_
  refine lv_iload_n hx hb dX6_ran_80 rfl (lv_at hl 2 rfl) ?_
  refine lv_iconst (v := 2) hx hb dX6_ran_81 (by decide) ?_
  refine lv_icmp_ne (tgt := 89) hx hb dX6_ran_82 (by decide) (fun c8 => ?_) (fun c8 => ?_)
  · have hf := inn c8 hf
    refine lv_sipush (v := 400) hx hb dX6_ran_89 (by decide) ?_
    exact tX6_ran_92 C0 hr hk hf I (lv_sub hl [0, 1, 2] rfl)
  · have hf := ip c8 hf
    refine lv_iload_n hx hb dX6_ran_85 rfl (lv_at hl 3 rfl) ?_
    refine lv_goto (tgt := 92) hx hb dX6_ran_86 (by decide) ?_
    exact tX6_ran_92 C0 hr hk hf I (lv_sub hl [0, 1, 2] rfl)
set_option maxHeartbeats 4000000 in
set_option maxRecDepth 100000 in
theorem tX6_ran_43 (C0 : CallFix p m c cX6_ran 4 s args big RX6) (hr : meth.sig.returnType = (some .int)) (hk : meth.locks = false)  {rr : Int32}  (hf : fX6_ran_43 S = some (rr, S')) (I : xI g s S H locs) (hl : lv_has ls 4 [(0, .ref (g.2.2 0))]) : W p l e ({ frames := 5, cells := 0, slots := 0, locals := 124 } : Room) s m args below meth c H locs 0 0 (MQ below (va_Qi (fun r' S2 => r' = rr ∧ S2 = S') (xB g) (xA g)) args s 0 0 (xA g)) (F0 m 43 ls []) := by
  obtain ⟨hx, hb, hml, -, -⟩ := id C0
  unfold fX6_ran_43 at hf
  refine lv_aload_n hx hb dX6_ran_43 rfl (lv_at hl 0 rfl) ?_
  refine lv_bipush (v := -2) hx hb dX6_ran_44 (by decide) ?_
  obtain ⟨r17, S17, h17, hf⟩ := bq2_some hf
  refine xcv_i (As := [.int (-2 : Int32)]) C0 I (kX6_refuse h17) (cwV 1 C0.2.2.2.2 (gwV wd_272 wd_274 wd_0 wd_66 wd_275) rfl rfl rfl dsc_X6_refuse ⟨Nat.le_of_ble_eq_true rfl, Nat.le_of_ble_eq_true rfl⟩) (xo_0 I) rfl hl.1 rfl (Nat.le_of_ble_eq_true rfl) dX6_ran_46 (fun H locs I => ?_)
  obtain ⟨rfl, rfl⟩ := se2 hf
  exact xri C0 hr hk I dX6_ran_49
set_option maxHeartbeats 4000000 in
set_option maxRecDepth 100000 in
theorem tX6_ran_0 (C0 : CallFix p m c cX6_ran 4 s args big RX6) (hr : meth.sig.returnType = (some .int)) (hk : meth.locks = false) {x1 : Int32} {x2 : Int32} {x3 : Int32} {rr : Int32}  (hf : fX6_ran S x1 x2 x3 = some (rr, S')) (I : xI g s S H locs) (hl : lv_has ls 4 [(0, .ref (g.2.2 0)), (1, .int x1), (2, .int x2), (3, .int x3)]) : W p l e ({ frames := 5, cells := 0, slots := 0, locals := 124 } : Room) s m args below meth c H locs 0 0 (MQ below (va_Qi (fun r' S2 => r' = rr ∧ S2 = S') (xB g) (xA g)) args s 0 0 (xA g)) (F0 m 0 ls []) := by
  obtain ⟨hx, hb, hml, -, -⟩ := id C0
  unfold fX6_ran at hf
  refine lv_aload_n hx hb dX6_ran_0 rfl (lv_at hl 0 rfl) ?_
  refine xg_X6_10_0 C0 I dX6_ran_1 ?_
  refine lv_iload_n hx hb dX6_ran_4 rfl (lv_at hl 1 rfl) ?_
  obtain ⟨r1, h1, hf⟩ := bq1_some hf
  refine xcv_i (As := [.int x1]) C0 I (kX3_has h1) (cwV 1 C0.2.2.2.2 (gwV wd_314 wd_315 wd_316 wd_67 wd_317) rfl rfl rfl dsc_X3_has ⟨Nat.le_of_ble_eq_true rfl, Nat.le_of_ble_eq_true rfl⟩) (xo_1 I) rfl hl.1 rfl (Nat.le_of_ble_eq_true rfl) dX6_ran_5 (fun H locs I => ?_)
  refine lv_if_eq (tgt := 20) hx hb dX6_ran_8 (by decide) (fun c2 => ?_) (fun c2 => ?_)
  · have hf := ip c2 hf
    exact tX6_ran_20 C0 hr hk hf I (lv_sub hl [0] rfl)
  · have hf := inn c2 hf
    refine lv_iload_n hx hb dX6_ran_11 rfl (lv_at hl 2 rfl) ?_
    refine lv_if_lt (tgt := 20) hx hb dX6_ran_12 (by decide) (fun c4 => ?_) (fun c4 => ?_)
    · have hf := ip c4 hf
      exact tX6_ran_20 C0 hr hk hf I (lv_sub hl [0] rfl)
    · have hf := inn c4 hf
      refine lv_iload_n hx hb dX6_ran_15 rfl (lv_at hl 2 rfl) ?_
      refine lv_iconst (v := 2) hx hb dX6_ran_16 (by decide) ?_
      refine lv_icmp_le (tgt := 27) hx hb dX6_ran_17 (by decide) (fun c5 => ?_) (fun c5 => ?_)
      · have hf := ip c5 hf
        refine lv_iload_n hx hb dX6_ran_27 rfl (lv_at hl 2 rfl) ?_
        refine lv_iconst (v := 2) hx hb dX6_ran_28 (by decide) ?_
        refine lv_icmp_ne (tgt := 50) hx hb dX6_ran_29 (by decide) (fun c6 => ?_) (fun c6 => ?_)
        · have hf := inn c6 hf
          exact tX6_ran_50 C0 hr hk hf I (lv_sub hl [0, 1, 2, 3] rfl)
        · have hf := ip c6 hf
          refine lv_iload_n hx hb dX6_ran_32 rfl (lv_at hl 3 rfl) ?_
          refine lv_if_lt (tgt := 43) hx hb dX6_ran_33 (by decide) (fun c16 => ?_) (fun c16 => ?_)
          · have hf := ip c16 hf
            exact tX6_ran_43 C0 hr hk hf I (lv_sub hl [0] rfl)
          · have hf := inn c16 hf
            refine lv_iload_n hx hb dX6_ran_36 rfl (lv_at hl 3 rfl) ?_
            refine lv_sipush (v := 400) hx hb dX6_ran_37 (by decide) ?_
            refine lv_icmp_le (tgt := 50) hx hb dX6_ran_40 (by decide) (fun c18 => ?_) (fun c18 => ?_)
            · have hf := ip c18 hf
              exact tX6_ran_50 C0 hr hk hf I (lv_sub hl [0, 1, 2, 3] rfl)
            · have hf := inn c18 hf
              exact tX6_ran_43 C0 hr hk hf I (lv_sub hl [0] rfl)
      · have hf := inn c5 hf
        exact tX6_ran_20 C0 hr hk hf I (lv_sub hl [0] rfl)
set_option maxRecDepth 100000 in
theorem kX6_ran {x1 : Int32} {x2 : Int32} {x3 : Int32} {rr : Int32} (hf : fX6_ran S x1 x2 x3 = some (rr, S')) : Met l yX6_ran (Cond.code yX6_ran cX6_ran 4 (some .int) :: big) ({ frames := 5, cells := 0, slots := 0, locals := 124 } : Room) (va_Pc [.ref (g.2.2 0), .int x1, .int x2, .int x3] (xB g S)) (va_Qi (fun r' S2 => r' = rr ∧ S2 = S') (xB g) (xA g)) 0 0 (xA g) := by
  refine Met.ofW (cc := cX6_ran) (maxL := 4) (ret := (some .int)) (by decide) rfl ?_
  intro p e s m args below meth c s₁ B hml hv
  obtain ⟨rfl, hP, hK, hD⟩ := hv
  have hts0 := atoms_spec (ws := (Cond.code yX6_ran cX6_ran 4 (some .int) :: big)) B.pre
  have C0 : CallFix p m c cX6_ran 4 s _ big RX6 := ⟨B.exec, B.bytes, hml, findClass_of_methodNamed B.named, fun w h => hts0 w (List.mem_cons_of_mem _ h)⟩
  have I : xI g s S s.heap [] := ⟨hK, hP, hD, va_S.rf⟩
  have hl := lv_entry ([.ref (g.2.2 0), .int x1, .int x2, .int x3]) (n := 4) (Nat.le_of_ble_eq_true rfl)
  rw [lg_entry_eq]
  generalize (lg_sl ([.ref (g.2.2 0), .int x1, .int x2, .int x3]) ++ List.replicate (4 - (lg_sl ([.ref (g.2.2 0), .int x1, .int x2, .int x3])).length) Slot.unset).toArray = ls at hl ⊢
  have hl : lv_has ls 4 [(0, .ref (g.2.2 0)), (1, .int x1), (2, .int x2), (3, .int x3)] := hl
  exact tX6_ran_0 C0 B.returns B.notSynchronized hf I (lv_sub hl [0, 1, 2, 3] rfl)
set_option maxHeartbeats 4000000 in
set_option maxRecDepth 100000 in
theorem tX6_best_9 (C0 : CallFix p m c cX6_best 5 s args big RX6) (hr : meth.sig.returnType = (some .int)) (hk : meth.locks = false)  {rr : Int32}  (hf : fX6_best_9 S = some (rr, S')) (I : xI g s S H locs) (hl : lv_has ls 5 [(0, .ref (g.2.2 0))]) : W p l e ({ frames := 5, cells := 0, slots := 0, locals := 124 } : Room) s m args below meth c H locs 0 0 (MQ below (va_Qi (fun r' S2 => r' = rr ∧ S2 = S') (xB g) (xA g)) args s 0 0 (xA g)) (F0 m 9 ls []) := by
  obtain ⟨hx, hb, hml, -, -⟩ := id C0
  unfold fX6_best_9 at hf
  refine lv_aload_n hx hb dX6_best_9 rfl (lv_at hl 0 rfl) ?_
  refine lv_bipush (v := -2) hx hb dX6_best_10 (by decide) ?_
  obtain ⟨r2, S2, h2, hf⟩ := bq2_some hf
  refine xcv_i (As := [.int (-2 : Int32)]) C0 I (kX6_refuse h2) (cwV 1 C0.2.2.2.2 (gwV wd_272 wd_274 wd_0 wd_66 wd_275) rfl rfl rfl dsc_X6_refuse ⟨Nat.le_of_ble_eq_true rfl, Nat.le_of_ble_eq_true rfl⟩) (xo_0 I) rfl hl.1 rfl (Nat.le_of_ble_eq_true rfl) dX6_best_12 (fun H locs I => ?_)
  obtain ⟨rfl, rfl⟩ := se2 hf
  exact xri C0 hr hk I dX6_best_15
set_option maxHeartbeats 4000000 in
set_option maxRecDepth 100000 in
theorem BX6_best_36 (C0 : CallFix p m c cX6_best 5 s args big RX6) (hr : meth.sig.returnType = (some .int)) (hk : meth.locks = false) {x1 : Int32} {x2 : Int32} {x3 : Int32} {x4 : Int32} {b : Bool} {y2 : Int32} {y3 : Int32} {y4 : Int32} (Kt : b = true → ∀ (H : Heap) (locs : List Loc) (ls : Array Slot), xI g s S' H locs → lv_has ls 5 [(0, .ref (g.2.2 0)), (1, .int x1), (2, .int y2), (3, .int y3), (4, .int y4)] → W p l e ({ frames := 5, cells := 0, slots := 0, locals := 124 } : Room) s m args below meth c H locs 0 0 Q (F0 m 36 ls [])) (Kf : b = false → ∀ (H : Heap) (locs : List Loc) (ls : Array Slot), xI g s S' H locs → lv_has ls 5 [(0, .ref (g.2.2 0)), (1, .int x1), (2, .int y2), (3, .int y3), (4, .int y4)] → W p l e ({ frames := 5, cells := 0, slots := 0, locals := 124 } : Room) s m args below meth c H locs 0 0 Q (F0 m 90 ls [])) (hf : bX6_best_36 S x2 x3 x4 = some (b, S', y2, y3, y4)) (I : xI g s S H locs) (hl : lv_has ls 5 [(0, .ref (g.2.2 0)), (1, .int x1), (2, .int x2), (3, .int x3), (4, .int x4)]) : W p l e ({ frames := 5, cells := 0, slots := 0, locals := 124 } : Room) s m args below meth c H locs 0 0 Q (F0 m 36 ls []) := by
  obtain ⟨hx, hb, hml, -, -⟩ := id C0
  unfold bX6_best_36 at hf
  refine lv_iload hx hb dX6_best_36 (lv_at hl 4 rfl) ?_
  refine lv_iconst (v := 4) hx hb dX6_best_38 (by decide) ?_
  refine lv_icmp_ge (tgt := 90) hx hb dX6_best_39 (by decide) (fun c5 => ?_) (fun c5 => ?_)
  · have hf := ip c5 hf
    obtain ⟨rfl, rfl, rfl, rfl, rfl⟩ := se5 hf
    exact Kf rfl _ _ _ I (lv_sub hl [0, 1, 2, 3, 4] rfl)
  · have hf := inn c5 hf
    refine lv_aload_n hx hb dX6_best_42 rfl (lv_at hl 0 rfl) ?_
    refine xg_X6_40_0 C0 I dX6_best_43 ?_
    refine lv_aload_n hx hb dX6_best_46 rfl (lv_at hl 0 rfl) ?_
    refine xg_X6_10_0 C0 I dX6_best_47 ?_
    refine lv_aload_n hx hb dX6_best_50 rfl (lv_at hl 0 rfl) ?_
    refine xg_X6_26_0 C0 I dX6_best_51 ?_
    refine lv_iload hx hb dX6_best_54 (lv_at hl 4 rfl) ?_
    refine lv_sipush (v := 400) hx hb dX6_best_56 (by decide) ?_
    obtain ⟨S6, h6, hf⟩ := bq1_some hf
    refine xcv_v (As := [.ref (g.2.2 1), .ref (g.2.2 17), .int x4, .int (400 : Int32)]) C0 I (kX4_flow h6) (cwV 4 C0.2.2.2.2 (gwV wd_470 wd_471 wd_472 wd_71 wd_473) rfl rfl rfl dsc_X4_flow ⟨Nat.le_of_ble_eq_true rfl, Nat.le_of_ble_eq_true rfl⟩) (xo_24 I) rfl hl.1 rfl (Nat.le_of_ble_eq_true rfl) dX6_best_59 (fun H locs I => ?_)
    refine lv_aload_n hx hb dX6_best_62 rfl (lv_at hl 0 rfl) ?_
    refine xg_X6_40_0 C0 I dX6_best_63 ?_
    refine xg_X6_181_24 C0 I dX6_best_66 ?_
    refine lv_iload_n hx hb dX6_best_69 rfl (lv_at hl 3 rfl) ?_
    refine lv_icmp_ge (tgt := 84) hx hb dX6_best_70 (by decide) (fun c7 => ?_) (fun c7 => ?_)
    · have hf := ip c7 hf
      refine lv_iinc (v := (x4 + (1 : Int32))) (lv' := [(4, .int (x4 + (1 : Int32))), (0, .ref (g.2.2 0)), (1, .int x1), (2, .int x2), (3, .int x3)]) hx hb dX6_best_84 hl (k := 4) rfl rfl (by decide) rfl (fun ls hl => ?_)
      refine lv_goto (tgt := 36) hx hb dX6_best_87 (by decide) ?_
      obtain ⟨rfl, rfl, rfl, rfl, rfl⟩ := se5 hf
      exact Kt rfl _ _ _ I (lv_sub hl [1, 2, 3, 4, 0] rfl)
    · have hf := inn c7 hf
      refine lv_aload_n hx hb dX6_best_73 rfl (lv_at hl 0 rfl) ?_
      refine xg_X6_40_0 C0 I dX6_best_74 ?_
      refine xg_X6_181_24 C0 I dX6_best_77 ?_
      refine lv_istore_n (lv' := [(3, .int (gF S6 32)), (0, .ref (g.2.2 0)), (1, .int x1), (2, .int x2), (4, .int x4)]) hx hb dX6_best_80 rfl hl (by decide) rfl (fun ls hl => ?_)
      refine lv_iload hx hb dX6_best_81 (lv_at hl 4 rfl) ?_
      refine lv_istore_n (lv' := [(2, .int x4), (3, .int (gF S6 32)), (0, .ref (g.2.2 0)), (1, .int x1), (4, .int x4)]) hx hb dX6_best_83 rfl hl (by decide) rfl (fun ls hl => ?_)
      refine lv_iinc (v := (x4 + (1 : Int32))) (lv' := [(4, .int (x4 + (1 : Int32))), (2, .int x4), (3, .int (gF S6 32)), (0, .ref (g.2.2 0)), (1, .int x1)]) hx hb dX6_best_84 hl (k := 4) rfl rfl (by decide) rfl (fun ls hl => ?_)
      refine lv_goto (tgt := 36) hx hb dX6_best_87 (by decide) ?_
      obtain ⟨rfl, rfl, rfl, rfl, rfl⟩ := se5 hf
      exact Kt rfl _ _ _ I (lv_sub hl [3, 4, 1, 2, 0] rfl)
set_option maxHeartbeats 4000000 in
theorem lX6_best_36 (C0 : CallFix p m c cX6_best 5 s args big RX6) (hr : meth.sig.returnType = (some .int)) (hk : meth.locks = false) {x1 : Int32} {S' : St} {y2 : Int32} {y3 : Int32} {y4 : Int32} : ∀ (n : Nat) {S : St} {x2 : Int32} {x3 : Int32} {x4 : Int32}, lp (fun q => bX6_best_36 q.1 q.2.1 q.2.2.1 q.2.2.2) n (S, x2, x3, x4) = some (S', y2, y3, y4) → ∀ {H : Heap} {locs : List Loc}, xI g s S H locs → ∀ {ls : Array Slot}, lv_has ls 5 [(0, .ref (g.2.2 0)), (1, .int x1), (2, .int x2), (3, .int x3), (4, .int x4)] → (∀ (H : Heap) (locs : List Loc) (ls : Array Slot), xI g s S' H locs → lv_has ls 5 [(0, .ref (g.2.2 0)), (1, .int x1), (2, .int y2), (3, .int y3), (4, .int y4)] → W p l e ({ frames := 5, cells := 0, slots := 0, locals := 124 } : Room) s m args below meth c H locs 0 0 Q (F0 m 90 ls [])) → W p l e ({ frames := 5, cells := 0, slots := 0, locals := 124 } : Room) s m args below meth c H locs 0 0 Q (F0 m 36 ls []) := by
  intro n
  induction n with
  | zero => intro S x2 x3 x4 hf; cases hf
  | succ n ih =>
    intro S x2 x3 x4 hf H locs I ls hl K
    obtain ⟨b, ⟨z0, z1, z2, z3⟩, h1, h2, h3⟩ := lp_some hf
    refine BX6_best_36 C0 hr hk (fun hb1 H locs ls I hl => ?_) (fun hb1 H locs ls I hl => ?_) h1 I hl
    · exact ih (h2 hb1) I hl K
    · have e := h3 hb1
      cases e
      exact K H locs ls I hl
set_option maxHeartbeats 4000000 in
set_option maxRecDepth 100000 in
theorem tX6_best_0 (C0 : CallFix p m c cX6_best 5 s args big RX6) (hr : meth.sig.returnType = (some .int)) (hk : meth.locks = false) {x1 : Int32} {rr : Int32}  (hf : fX6_best S x1 = some (rr, S')) (I : xI g s S H locs) (hl : lv_has ls 5 [(0, .ref (g.2.2 0)), (1, .int x1)]) : W p l e ({ frames := 5, cells := 0, slots := 0, locals := 124 } : Room) s m args below meth c H locs 0 0 (MQ below (va_Qi (fun r' S2 => r' = rr ∧ S2 = S') (xB g) (xA g)) args s 0 0 (xA g)) (F0 m 0 ls []) := by
  obtain ⟨hx, hb, hml, -, -⟩ := id C0
  unfold fX6_best at hf
  refine lv_iload_n hx hb dX6_best_0 rfl (lv_at hl 1 rfl) ?_
  refine lv_if_lt (tgt := 9) hx hb dX6_best_1 (by decide) (fun c1 => ?_) (fun c1 => ?_)
  · have hf := ip c1 hf
    exact tX6_best_9 C0 hr hk hf I (lv_sub hl [0] rfl)
  · have hf := inn c1 hf
    refine lv_iload_n hx hb dX6_best_4 rfl (lv_at hl 1 rfl) ?_
    refine lv_iconst (v := 1) hx hb dX6_best_5 (by decide) ?_
    refine lv_icmp_le (tgt := 16) hx hb dX6_best_6 (by decide) (fun c3 => ?_) (fun c3 => ?_)
    · have hf := ip c3 hf
      refine lv_aload_n hx hb dX6_best_16 rfl (lv_at hl 0 rfl) ?_
      refine xg_X6_26_0 C0 I dX6_best_17 ?_
      refine lv_aload_n hx hb dX6_best_20 rfl (lv_at hl 0 rfl) ?_
      refine xg_X6_10_0 C0 I dX6_best_21 ?_
      obtain ⟨S4, h4, hf⟩ := bq1_some hf
      refine xcv_v (As := [.ref (g.2.2 1)]) C0 I (kX5_follow h4) (cwV 1 C0.2.2.2.2 (gwV wd_352 wd_353 wd_354 wd_69 wd_355) rfl rfl rfl dsc_X5_follow ⟨Nat.le_of_ble_eq_true rfl, Nat.le_of_ble_eq_true rfl⟩) (xo_17 I) rfl hl.1 rfl (Nat.le_of_ble_eq_true rfl) dX6_best_24 (fun H locs I => ?_)
      refine lv_iconst (v := 0) hx hb dX6_best_27 (by decide) ?_
      refine lv_istore_n (lv' := [(2, .int (0 : Int32)), (0, .ref (g.2.2 0)), (1, .int x1)]) hx hb dX6_best_28 rfl hl (by decide) rfl (fun ls hl => ?_)
      refine lv_sipush (v := 400) hx hb dX6_best_29 (by decide) ?_
      refine lv_istore_n (lv' := [(3, .int (400 : Int32)), (2, .int (0 : Int32)), (0, .ref (g.2.2 0)), (1, .int x1)]) hx hb dX6_best_32 rfl hl (by decide) rfl (fun ls hl => ?_)
      refine lv_iconst (v := 0) hx hb dX6_best_33 (by decide) ?_
      refine lv_istore (lv' := [(4, .int (0 : Int32)), (3, .int (400 : Int32)), (2, .int (0 : Int32)), (0, .ref (g.2.2 0)), (1, .int x1)]) hx hb dX6_best_34 hl (by decide) rfl (fun ls hl => ?_)
      obtain ⟨S8, y2_8, y3_8, y4_8, h8, hf⟩ := bq4_some hf
      refine lX6_best_36 C0 hr hk fu h8 I (lv_sub hl [3, 4, 2, 1, 0] rfl) (fun H locs ls I hl => ?_)
      refine lv_iload_n hx hb dX6_best_90 rfl (lv_at hl 1 rfl) ?_
      refine lv_if_ne (tgt := 98) hx hb dX6_best_91 (by decide) (fun c9 => ?_) (fun c9 => ?_)
      · have hf := inn c9 hf
        refine lv_iload_n hx hb dX6_best_98 rfl (lv_at hl 3 rfl) ?_
        obtain ⟨rfl, rfl⟩ := se2 hf
        exact xri C0 hr hk I dX6_best_99
      · have hf := ip c9 hf
        refine lv_iload_n hx hb dX6_best_94 rfl (lv_at hl 2 rfl) ?_
        refine lv_goto (tgt := 99) hx hb dX6_best_95 (by decide) ?_
        obtain ⟨rfl, rfl⟩ := se2 hf
        exact xri C0 hr hk I dX6_best_99
    · have hf := inn c3 hf
      exact tX6_best_9 C0 hr hk hf I (lv_sub hl [0] rfl)
set_option maxRecDepth 100000 in
theorem kX6_best {x1 : Int32} {rr : Int32} (hf : fX6_best S x1 = some (rr, S')) : Met l yX6_best (Cond.code yX6_best cX6_best 5 (some .int) :: big) ({ frames := 5, cells := 0, slots := 0, locals := 124 } : Room) (va_Pc [.ref (g.2.2 0), .int x1] (xB g S)) (va_Qi (fun r' S2 => r' = rr ∧ S2 = S') (xB g) (xA g)) 0 0 (xA g) := by
  refine Met.ofW (cc := cX6_best) (maxL := 5) (ret := (some .int)) (by decide) rfl ?_
  intro p e s m args below meth c s₁ B hml hv
  obtain ⟨rfl, hP, hK, hD⟩ := hv
  have hts0 := atoms_spec (ws := (Cond.code yX6_best cX6_best 5 (some .int) :: big)) B.pre
  have C0 : CallFix p m c cX6_best 5 s _ big RX6 := ⟨B.exec, B.bytes, hml, findClass_of_methodNamed B.named, fun w h => hts0 w (List.mem_cons_of_mem _ h)⟩
  have I : xI g s S s.heap [] := ⟨hK, hP, hD, va_S.rf⟩
  have hl := lv_entry ([.ref (g.2.2 0), .int x1]) (n := 5) (Nat.le_of_ble_eq_true rfl)
  rw [lg_entry_eq]
  generalize (lg_sl ([.ref (g.2.2 0), .int x1]) ++ List.replicate (5 - (lg_sl ([.ref (g.2.2 0), .int x1])).length) Slot.unset).toArray = ls at hl ⊢
  have hl : lv_has ls 5 [(0, .ref (g.2.2 0)), (1, .int x1)] := hl
  exact tX6_best_0 C0 B.returns B.notSynchronized hf I (lv_sub hl [0, 1] rfl)
set_option maxHeartbeats 4000000 in
set_option maxRecDepth 100000 in
theorem BX6_straight_9 (C0 : CallFix p m c cX6_straight 2 s args big RX6) (hr : meth.sig.returnType = (some .int)) (hk : meth.locks = false) {x1 : Int32} {b : Bool} {y1 : Int32} (Kt : b = true → ∀ (H : Heap) (locs : List Loc) (ls : Array Slot), xI g s S' H locs → lv_has ls 2 [(0, .ref (g.2.2 0)), (1, .int y1)] → W p l e ({ frames := 3, cells := 0, slots := 0, locals := 68 } : Room) s m args below meth c H locs 0 0 Q (F0 m 9 ls [])) (Kf : b = false → ∀ (H : Heap) (locs : List Loc) (ls : Array Slot), xI g s S' H locs → lv_has ls 2 [(0, .ref (g.2.2 0)), (1, .int y1)] → W p l e ({ frames := 3, cells := 0, slots := 0, locals := 68 } : Room) s m args below meth c H locs 0 0 Q (F0 m 60 ls [])) (hf : bX6_straight_9 S x1 = some (b, S', y1)) (I : xI g s S H locs) (hl : lv_has ls 2 [(0, .ref (g.2.2 0)), (1, .int x1)]) : W p l e ({ frames := 3, cells := 0, slots := 0, locals := 68 } : Room) s m args below meth c H locs 0 0 Q (F0 m 9 ls []) := by
  obtain ⟨hx, hb, hml, -, -⟩ := id C0
  unfold bX6_straight_9 at hf
  refine lv_iload_n hx hb dX6_straight_9 rfl (lv_at hl 1 rfl) ?_
  refine lv_aload_n hx hb dX6_straight_10 rfl (lv_at hl 0 rfl) ?_
  refine xg_X6_10_0 C0 I dX6_straight_11 ?_
  refine xg_X6_73_1 C0 I dX6_straight_14 ?_
  refine lv_icmp_ge (tgt := 60) hx hb dX6_straight_17 (by decide) (fun c2 => ?_) (fun c2 => ?_)
  · have hf := ip c2 hf
    obtain ⟨rfl, rfl, rfl⟩ := se3 hf
    exact Kf rfl _ _ _ I (lv_sub hl [0, 1] rfl)
  · have hf := inn c2 hf
    refine lv_aload_n hx hb dX6_straight_20 rfl (lv_at hl 0 rfl) ?_
    refine xg_X6_26_0 C0 I dX6_straight_21 ?_
    refine lv_aload_n hx hb dX6_straight_24 rfl (lv_at hl 0 rfl) ?_
    refine xg_X6_10_0 C0 I dX6_straight_25 ?_
    refine lv_iload_n hx hb dX6_straight_28 rfl (lv_at hl 1 rfl) ?_
    refine lv_aload_n hx hb dX6_straight_29 rfl (lv_at hl 0 rfl) ?_
    refine xg_X6_10_0 C0 I dX6_straight_30 ?_
    refine lv_iload_n hx hb dX6_straight_33 rfl (lv_at hl 1 rfl) ?_
    refine lv_iconst (v := 0) hx hb dX6_straight_34 (by decide) ?_
    obtain ⟨r3, h3, hf⟩ := bq1_some hf
    refine xcv_i (As := [.int x1, .int (0 : Int32)]) C0 I (kX3_trait h3) (cwV 2 C0.2.2.2.2 (gwV wd_318 wd_319 wd_320 wd_67 wd_321) rfl rfl rfl dsc_X3_trait ⟨Nat.le_of_ble_eq_true rfl, Nat.le_of_ble_eq_true rfl⟩) (xo_1 I) rfl hl.1 rfl (Nat.le_of_ble_eq_true rfl) dX6_straight_35 (fun H locs I => ?_)
    obtain ⟨S4, h4, hf⟩ := bq1_some hf
    refine xcv_v (As := [.ref (g.2.2 1), .int x1, .int r3]) C0 I (kX5_trace h4) (cwV 3 C0.2.2.2.2 (gwV wd_437 wd_358 wd_359 wd_69 wd_360) rfl rfl rfl dsc_X5_trace ⟨Nat.le_of_ble_eq_true rfl, Nat.le_of_ble_eq_true rfl⟩) (xo_17 I) rfl hl.1 rfl (Nat.le_of_ble_eq_true rfl) dX6_straight_38 (fun H locs I => ?_)
    refine lv_aload_n hx hb dX6_straight_41 rfl (lv_at hl 0 rfl) ?_
    refine xg_X6_33_0 C0 I dX6_straight_42 ?_
    refine lv_aload_n hx hb dX6_straight_45 rfl (lv_at hl 0 rfl) ?_
    refine xg_X6_26_0 C0 I dX6_straight_46 ?_
    refine lv_iload_n hx hb dX6_straight_49 rfl (lv_at hl 1 rfl) ?_
    refine lv_iconst (v := 1) hx hb dX6_straight_50 (by decide) ?_
    obtain ⟨S5, h5, hf⟩ := bq1_some hf
    refine xcv_v (As := [.ref (g.2.2 17), .int x1, .int (1 : Int32)]) C0 I (kX1_add h5) (cwV 3 C0.2.2.2.2 (gwV wd_404 wd_405 wd_406 wd_70 wd_407) rfl rfl rfl dsc_X1_add ⟨Nat.le_of_ble_eq_true rfl, Nat.le_of_ble_eq_true rfl⟩) (xo_22 I) rfl hl.1 rfl (Nat.le_of_ble_eq_true rfl) dX6_straight_51 (fun H locs I => ?_)
    refine lv_iinc (v := (x1 + (1 : Int32))) (lv' := [(1, .int (x1 + (1 : Int32))), (0, .ref (g.2.2 0))]) hx hb dX6_straight_54 hl (k := 1) rfl rfl (by decide) rfl (fun ls hl => ?_)
    refine lv_goto (tgt := 9) hx hb dX6_straight_57 (by decide) ?_
    obtain ⟨rfl, rfl, rfl⟩ := se3 hf
    exact Kt rfl _ _ _ I (lv_sub hl [1, 0] rfl)
set_option maxHeartbeats 4000000 in
theorem lX6_straight_9 (C0 : CallFix p m c cX6_straight 2 s args big RX6) (hr : meth.sig.returnType = (some .int)) (hk : meth.locks = false)  {S' : St} {y1 : Int32} : ∀ (n : Nat) {S : St} {x1 : Int32}, lp (fun q => bX6_straight_9 q.1 q.2) n (S, x1) = some (S', y1) → ∀ {H : Heap} {locs : List Loc}, xI g s S H locs → ∀ {ls : Array Slot}, lv_has ls 2 [(0, .ref (g.2.2 0)), (1, .int x1)] → (∀ (H : Heap) (locs : List Loc) (ls : Array Slot), xI g s S' H locs → lv_has ls 2 [(0, .ref (g.2.2 0)), (1, .int y1)] → W p l e ({ frames := 3, cells := 0, slots := 0, locals := 68 } : Room) s m args below meth c H locs 0 0 Q (F0 m 60 ls [])) → W p l e ({ frames := 3, cells := 0, slots := 0, locals := 68 } : Room) s m args below meth c H locs 0 0 Q (F0 m 9 ls []) := by
  intro n
  induction n with
  | zero => intro S x1 hf; cases hf
  | succ n ih =>
    intro S x1 hf H locs I ls hl K
    obtain ⟨b, ⟨z0, z1⟩, h1, h2, h3⟩ := lp_some hf
    refine BX6_straight_9 C0 hr hk (fun hb1 H locs ls I hl => ?_) (fun hb1 H locs ls I hl => ?_) h1 I hl
    · exact ih (h2 hb1) I hl K
    · have e := h3 hb1
      cases e
      exact K H locs ls I hl
set_option maxHeartbeats 4000000 in
set_option maxRecDepth 100000 in
theorem tX6_straight_0 (C0 : CallFix p m c cX6_straight 2 s args big RX6) (hr : meth.sig.returnType = (some .int)) (hk : meth.locks = false)  {rr : Int32}  (hf : fX6_straight S = some (rr, S')) (I : xI g s S H locs) (hl : lv_has ls 2 [(0, .ref (g.2.2 0))]) : W p l e ({ frames := 3, cells := 0, slots := 0, locals := 68 } : Room) s m args below meth c H locs 0 0 (MQ below (va_Qi (fun r' S2 => r' = rr ∧ S2 = S') (xB g) (xA g)) args s 0 0 (xA g)) (F0 m 0 ls []) := by
  obtain ⟨hx, hb, hml, -, -⟩ := id C0
  unfold fX6_straight at hf
  refine lv_aload_n hx hb dX6_straight_0 rfl (lv_at hl 0 rfl) ?_
  refine xg_X6_33_0 C0 I dX6_straight_1 ?_
  obtain ⟨S1, h1, hf⟩ := bq1_some hf
  refine xcv_v (As := []) C0 I (kX1_empty h1) (cwV 0 C0.2.2.2.2 (gwV wd_397 wd_398 wd_399 wd_70 wd_400) rfl rfl rfl dsc_X1_empty ⟨Nat.le_of_ble_eq_true rfl, Nat.le_of_ble_eq_true rfl⟩) (xo_22 I) rfl hl.1 rfl (Nat.le_of_ble_eq_true rfl) dX6_straight_4 (fun H locs I => ?_)
  refine lv_iconst (v := 0) hx hb dX6_straight_7 (by decide) ?_
  refine lv_istore_n (lv' := [(1, .int (0 : Int32)), (0, .ref (g.2.2 0))]) hx hb dX6_straight_8 rfl hl (by decide) rfl (fun ls hl => ?_)
  obtain ⟨S6, y1_6, h6, hf⟩ := bq2_some hf
  refine lX6_straight_9 C0 hr hk fu h6 I (lv_sub hl [1, 0] rfl) (fun H locs ls I hl => ?_)
  refine lv_aload_n hx hb dX6_straight_60 rfl (lv_at hl 0 rfl) ?_
  refine lv_iconst (v := 0) hx hb dX6_straight_61 (by decide) ?_
  obtain ⟨r7, h7, hf⟩ := bq1_some hf
  refine xcv_i (As := [.int (0 : Int32)]) C0 I (kX6_loadsFact h7) (cwV 1 C0.2.2.2.2 (gwV wd_413 wd_415 wd_4 wd_66 wd_416) rfl rfl rfl dsc_X6_loadsFact ⟨Nat.le_of_ble_eq_true rfl, Nat.le_of_ble_eq_true rfl⟩) (xo_0 I) rfl hl.1 rfl (Nat.le_of_ble_eq_true rfl) dX6_straight_62 (fun H locs I => ?_)
  obtain ⟨rfl, rfl⟩ := se2 hf
  exact xri C0 hr hk I dX6_straight_65
set_option maxRecDepth 100000 in
theorem kX6_straight  {rr : Int32} (hf : fX6_straight S  = some (rr, S')) : Met l yX6_straight (Cond.code yX6_straight cX6_straight 2 (some .int) :: big) ({ frames := 3, cells := 0, slots := 0, locals := 68 } : Room) (va_Pc [.ref (g.2.2 0)] (xB g S)) (va_Qi (fun r' S2 => r' = rr ∧ S2 = S') (xB g) (xA g)) 0 0 (xA g) := by
  refine Met.ofW (cc := cX6_straight) (maxL := 2) (ret := (some .int)) (by decide) rfl ?_
  intro p e s m args below meth c s₁ B hml hv
  obtain ⟨rfl, hP, hK, hD⟩ := hv
  have hts0 := atoms_spec (ws := (Cond.code yX6_straight cX6_straight 2 (some .int) :: big)) B.pre
  have C0 : CallFix p m c cX6_straight 2 s _ big RX6 := ⟨B.exec, B.bytes, hml, findClass_of_methodNamed B.named, fun w h => hts0 w (List.mem_cons_of_mem _ h)⟩
  have I : xI g s S s.heap [] := ⟨hK, hP, hD, va_S.rf⟩
  have hl := lv_entry ([.ref (g.2.2 0)]) (n := 2) (Nat.le_of_ble_eq_true rfl)
  rw [lg_entry_eq]
  generalize (lg_sl ([.ref (g.2.2 0)]) ++ List.replicate (2 - (lg_sl ([.ref (g.2.2 0)])).length) Slot.unset).toArray = ls at hl ⊢
  have hl : lv_has ls 2 [(0, .ref (g.2.2 0))] := hl
  exact tX6_straight_0 C0 B.returns B.notSynchronized hf I (lv_sub hl [0] rfl)
set_option maxHeartbeats 4000000 in
set_option maxRecDepth 100000 in
theorem tX2_append_0 (C0 : CallFix p m c cX2_append 2 s args big RX2) (hr : meth.sig.returnType = none) (hk : meth.locks = false) {x1 : Int32}  (hf : fX2_append S x1 = some S') (I : xI g s S H locs) (hl : lv_has ls 2 [(0, .ref (g.2.2 32)), (1, .int x1)]) : W p l e ({ frames := 0, cells := 0, slots := 0, locals := 0 } : Room) s m args below meth c H locs 0 0 (MQ below (va_Qv (fun S2 => S2 = S') (xB g) (xA g)) args s 0 0 (xA g)) (F0 m 0 ls []) := by
  obtain ⟨hx, hb, hml, -, -⟩ := id C0
  unfold fX2_append at hf
  refine lv_aload_n hx hb dX2_append_0 rfl (lv_at hl 0 rfl) ?_
  refine xg_X2_9_32 C0 I dX2_append_1 ?_
  refine lv_bipush (v := 120) hx hb dX2_append_4 (by decide) ?_
  refine lv_icmp_ge (tgt := 30) hx hb dX2_append_6 (by decide) (fun c1 => ?_) (fun c1 => ?_)
  · have hf := ip c1 hf
    obtain rfl := se1 hf
    exact xrv C0 hr hk I dX2_append_30
  · have hf := inn c1 hf
    refine lv_aload_n hx hb dX2_append_9 rfl (lv_at hl 0 rfl) ?_
    refine xg_X2_24_32 C0 I dX2_append_10 ?_
    refine lv_aload_n hx hb dX2_append_13 rfl (lv_at hl 0 rfl) ?_
    refine xg_X2_9_32 C0 I dX2_append_14 ?_
    refine lv_iload_n hx hb dX2_append_17 rfl (lv_at hl 1 rfl) ?_
    refine lv_i2b hx hb dX2_append_18 rfl ?_
    obtain ⟨b2, hf⟩ := chk_some hf
    refine xs_33 hx hb I b2 dX2_append_19 (fun H locs I => ?_)
    refine lv_aload_n hx hb dX2_append_20 rfl (lv_at hl 0 rfl) ?_
    refine lv_dup hx hb dX2_append_21 rfl ?_
    refine xg_X2_9_32 C0 I dX2_append_22 ?_
    refine lv_iconst (v := 1) hx hb dX2_append_25 (by decide) ?_
    refine lv_iadd hx hb dX2_append_26 ?_
    refine xp_X2_9_32 C0 I dX2_append_27 (fun H locs I => ?_)
    obtain rfl := se1 hf
    exact xrv C0 hr hk I dX2_append_30
set_option maxRecDepth 100000 in
theorem kX2_append {x1 : Int32}  (hf : fX2_append S x1 = some S') : Met l yX2_append (Cond.code yX2_append cX2_append 2 none :: big) ({ frames := 0, cells := 0, slots := 0, locals := 0 } : Room) (va_Pc [.ref (g.2.2 32), .int x1] (xB g S)) (va_Qv (fun S2 => S2 = S') (xB g) (xA g)) 0 0 (xA g) := by
  refine Met.ofW (cc := cX2_append) (maxL := 2) (ret := none) (by decide) rfl ?_
  intro p e s m args below meth c s₁ B hml hv
  obtain ⟨rfl, hP, hK, hD⟩ := hv
  have hts0 := atoms_spec (ws := (Cond.code yX2_append cX2_append 2 none :: big)) B.pre
  have C0 : CallFix p m c cX2_append 2 s _ big RX2 := ⟨B.exec, B.bytes, hml, findClass_of_methodNamed B.named, fun w h => hts0 w (List.mem_cons_of_mem _ h)⟩
  have I : xI g s S s.heap [] := ⟨hK, hP, hD, va_S.rf⟩
  have hl := lv_entry ([.ref (g.2.2 32), .int x1]) (n := 2) (Nat.le_of_ble_eq_true rfl)
  rw [lg_entry_eq]
  generalize (lg_sl ([.ref (g.2.2 32), .int x1]) ++ List.replicate (2 - (lg_sl ([.ref (g.2.2 32), .int x1])).length) Slot.unset).toArray = ls at hl ⊢
  have hl : lv_has ls 2 [(0, .ref (g.2.2 32)), (1, .int x1)] := hl
  exact tX2_append_0 C0 B.returns B.notSynchronized hf I (lv_sub hl [0, 1] rfl)
set_option maxHeartbeats 4000000 in
set_option maxRecDepth 100000 in
theorem tX6_type_11 (C0 : CallFix p m c cX6_type 2 s args big RX6) (hr : meth.sig.returnType = (some .int)) (hk : meth.locks = false)  {rr : Int32}  (hf : fX6_type_11 S = some (rr, S')) (I : xI g s S H locs) (hl : lv_has ls 2 [(0, .ref (g.2.2 0))]) : W p l e ({ frames := 1, cells := 0, slots := 0, locals := 22 } : Room) s m args below meth c H locs 0 0 (MQ below (va_Qi (fun r' S2 => r' = rr ∧ S2 = S') (xB g) (xA g)) args s 0 0 (xA g)) (F0 m 11 ls []) := by
  obtain ⟨hx, hb, hml, -, -⟩ := id C0
  unfold fX6_type_11 at hf
  refine lv_aload_n hx hb dX6_type_11 rfl (lv_at hl 0 rfl) ?_
  refine lv_bipush (v := -2) hx hb dX6_type_12 (by decide) ?_
  obtain ⟨r2, S2, h2, hf⟩ := bq2_some hf
  refine xcv_i (As := [.int (-2 : Int32)]) C0 I (kX6_refuse h2) (cwV 1 C0.2.2.2.2 (gwV wd_272 wd_274 wd_0 wd_66 wd_275) rfl rfl rfl dsc_X6_refuse ⟨Nat.le_of_ble_eq_true rfl, Nat.le_of_ble_eq_true rfl⟩) (xo_0 I) rfl hl.1 rfl (Nat.le_of_ble_eq_true rfl) dX6_type_14 (fun H locs I => ?_)
  obtain ⟨rfl, rfl⟩ := se2 hf
  exact xri C0 hr hk I dX6_type_17
set_option maxHeartbeats 4000000 in
set_option maxRecDepth 100000 in
theorem tX6_type_0 (C0 : CallFix p m c cX6_type 2 s args big RX6) (hr : meth.sig.returnType = (some .int)) (hk : meth.locks = false) {x1 : Int32} {rr : Int32}  (hf : fX6_type S x1 = some (rr, S')) (I : xI g s S H locs) (hl : lv_has ls 2 [(0, .ref (g.2.2 0)), (1, .int x1)]) : W p l e ({ frames := 1, cells := 0, slots := 0, locals := 22 } : Room) s m args below meth c H locs 0 0 (MQ below (va_Qi (fun r' S2 => r' = rr ∧ S2 = S') (xB g) (xA g)) args s 0 0 (xA g)) (F0 m 0 ls []) := by
  obtain ⟨hx, hb, hml, -, -⟩ := id C0
  unfold fX6_type at hf
  refine lv_iload_n hx hb dX6_type_0 rfl (lv_at hl 1 rfl) ?_
  refine lv_if_lt (tgt := 11) hx hb dX6_type_1 (by decide) (fun c1 => ?_) (fun c1 => ?_)
  · have hf := ip c1 hf
    exact tX6_type_11 C0 hr hk hf I (lv_sub hl [0] rfl)
  · have hf := inn c1 hf
    refine lv_iload_n hx hb dX6_type_4 rfl (lv_at hl 1 rfl) ?_
    refine lv_sipush (v := 128) hx hb dX6_type_5 (by decide) ?_
    refine lv_icmp_lt (tgt := 18) hx hb dX6_type_8 (by decide) (fun c3 => ?_) (fun c3 => ?_)
    · have hf := ip c3 hf
      refine lv_aload_n hx hb dX6_type_18 rfl (lv_at hl 0 rfl) ?_
      refine xg_X6_47_0 C0 I dX6_type_19 ?_
      refine xg_X6_194_32 C0 I dX6_type_22 ?_
      refine lv_bipush (v := 120) hx hb dX6_type_25 (by decide) ?_
      refine lv_icmp_lt (tgt := 37) hx hb dX6_type_27 (by decide) (fun c4 => ?_) (fun c4 => ?_)
      · have hf := ip c4 hf
        refine lv_aload_n hx hb dX6_type_37 rfl (lv_at hl 0 rfl) ?_
        refine xg_X6_47_0 C0 I dX6_type_38 ?_
        refine lv_iload_n hx hb dX6_type_41 rfl (lv_at hl 1 rfl) ?_
        obtain ⟨S5, h5, hf⟩ := bq1_some hf
        refine xcv_v (As := [.int x1]) C0 I (kX2_append h5) (cwV 1 C0.2.2.2.2 (gwV wd_532 wd_533 wd_534 wd_72 wd_535) rfl rfl rfl dsc_X2_append ⟨Nat.le_of_ble_eq_true rfl, Nat.le_of_ble_eq_true rfl⟩) (xo_32 I) rfl hl.1 rfl (Nat.le_of_ble_eq_true rfl) dX6_type_42 (fun H locs I => ?_)
        refine lv_aload_n hx hb dX6_type_45 rfl (lv_at hl 0 rfl) ?_
        refine xg_X6_47_0 C0 I dX6_type_46 ?_
        refine xg_X6_194_32 C0 I dX6_type_49 ?_
        obtain ⟨rfl, rfl⟩ := se2 hf
        exact xri C0 hr hk I dX6_type_52
      · have hf := inn c4 hf
        refine lv_aload_n hx hb dX6_type_30 rfl (lv_at hl 0 rfl) ?_
        refine lv_bipush (v := -4) hx hb dX6_type_31 (by decide) ?_
        obtain ⟨r6, S6, h6, hf⟩ := bq2_some hf
        refine xcv_i (As := [.int (-4 : Int32)]) C0 I (kX6_refuse h6) (cwV 1 C0.2.2.2.2 (gwV wd_272 wd_274 wd_0 wd_66 wd_275) rfl rfl rfl dsc_X6_refuse ⟨Nat.le_of_ble_eq_true rfl, Nat.le_of_ble_eq_true rfl⟩) (xo_0 I) rfl hl.1 rfl (Nat.le_of_ble_eq_true rfl) dX6_type_33 (fun H locs I => ?_)
        obtain ⟨rfl, rfl⟩ := se2 hf
        exact xri C0 hr hk I dX6_type_36
    · have hf := inn c3 hf
      exact tX6_type_11 C0 hr hk hf I (lv_sub hl [0] rfl)
set_option maxRecDepth 100000 in
theorem kX6_type {x1 : Int32} {rr : Int32} (hf : fX6_type S x1 = some (rr, S')) : Met l yX6_type (Cond.code yX6_type cX6_type 2 (some .int) :: big) ({ frames := 1, cells := 0, slots := 0, locals := 22 } : Room) (va_Pc [.ref (g.2.2 0), .int x1] (xB g S)) (va_Qi (fun r' S2 => r' = rr ∧ S2 = S') (xB g) (xA g)) 0 0 (xA g) := by
  refine Met.ofW (cc := cX6_type) (maxL := 2) (ret := (some .int)) (by decide) rfl ?_
  intro p e s m args below meth c s₁ B hml hv
  obtain ⟨rfl, hP, hK, hD⟩ := hv
  have hts0 := atoms_spec (ws := (Cond.code yX6_type cX6_type 2 (some .int) :: big)) B.pre
  have C0 : CallFix p m c cX6_type 2 s _ big RX6 := ⟨B.exec, B.bytes, hml, findClass_of_methodNamed B.named, fun w h => hts0 w (List.mem_cons_of_mem _ h)⟩
  have I : xI g s S s.heap [] := ⟨hK, hP, hD, va_S.rf⟩
  have hl := lv_entry ([.ref (g.2.2 0), .int x1]) (n := 2) (Nat.le_of_ble_eq_true rfl)
  rw [lg_entry_eq]
  generalize (lg_sl ([.ref (g.2.2 0), .int x1]) ++ List.replicate (2 - (lg_sl ([.ref (g.2.2 0), .int x1])).length) Slot.unset).toArray = ls at hl ⊢
  have hl : lv_has ls 2 [(0, .ref (g.2.2 0)), (1, .int x1)] := hl
  exact tX6_type_0 C0 B.returns B.notSynchronized hf I (lv_sub hl [0, 1] rfl)
set_option maxHeartbeats 4000000 in
set_option maxRecDepth 100000 in
theorem tX6_clear_0 (C0 : CallFix p m c cX6_clear 2 s args big RX6) (hr : meth.sig.returnType = (some .int)) (hk : meth.locks = false)  {rr : Int32}  (hf : fX6_clear S = some (rr, S')) (I : xI g s S H locs) (hl : lv_has ls 2 [(0, .ref (g.2.2 0))]) : W p l e ({ frames := 0, cells := 0, slots := 0, locals := 0 } : Room) s m args below meth c H locs 0 0 (MQ below (va_Qi (fun r' S2 => r' = rr ∧ S2 = S') (xB g) (xA g)) args s 0 0 (xA g)) (F0 m 0 ls []) := by
  obtain ⟨hx, hb, hml, -, -⟩ := id C0
  unfold fX6_clear at hf
  refine lv_aload_n hx hb dX6_clear_0 rfl (lv_at hl 0 rfl) ?_
  refine xg_X6_47_0 C0 I dX6_clear_1 ?_
  refine xg_X6_194_32 C0 I dX6_clear_4 ?_
  refine lv_istore_n (lv' := [(1, .int (gF S 34)), (0, .ref (g.2.2 0))]) hx hb dX6_clear_7 rfl hl (by decide) rfl (fun ls hl => ?_)
  refine lv_aload_n hx hb dX6_clear_8 rfl (lv_at hl 1 rfl) ?_
  refine xg_X6_47_0 C0 I dX6_clear_9 ?_
  refine lv_iconst (v := 0) hx hb dX6_clear_12 (by decide) ?_
  refine xp_X6_194_32 C0 I dX6_clear_13 (fun H locs I => ?_)
  refine lv_iload_n hx hb dX6_clear_16 rfl (lv_at hl 0 rfl) ?_
  obtain ⟨rfl, rfl⟩ := se2 hf
  exact xri C0 hr hk I dX6_clear_17
set_option maxRecDepth 100000 in
theorem kX6_clear  {rr : Int32} (hf : fX6_clear S  = some (rr, S')) : Met l yX6_clear (Cond.code yX6_clear cX6_clear 2 (some .int) :: big) ({ frames := 0, cells := 0, slots := 0, locals := 0 } : Room) (va_Pc [.ref (g.2.2 0)] (xB g S)) (va_Qi (fun r' S2 => r' = rr ∧ S2 = S') (xB g) (xA g)) 0 0 (xA g) := by
  refine Met.ofW (cc := cX6_clear) (maxL := 2) (ret := (some .int)) (by decide) rfl ?_
  intro p e s m args below meth c s₁ B hml hv
  obtain ⟨rfl, hP, hK, hD⟩ := hv
  have hts0 := atoms_spec (ws := (Cond.code yX6_clear cX6_clear 2 (some .int) :: big)) B.pre
  have C0 : CallFix p m c cX6_clear 2 s _ big RX6 := ⟨B.exec, B.bytes, hml, findClass_of_methodNamed B.named, fun w h => hts0 w (List.mem_cons_of_mem _ h)⟩
  have I : xI g s S s.heap [] := ⟨hK, hP, hD, va_S.rf⟩
  have hl := lv_entry ([.ref (g.2.2 0)]) (n := 2) (Nat.le_of_ble_eq_true rfl)
  rw [lg_entry_eq]
  generalize (lg_sl ([.ref (g.2.2 0)]) ++ List.replicate (2 - (lg_sl ([.ref (g.2.2 0)])).length) Slot.unset).toArray = ls at hl ⊢
  have hl : lv_has ls 2 [(0, .ref (g.2.2 0))] := hl
  exact tX6_clear_0 C0 B.returns B.notSynchronized hf I (lv_sub hl [0] rfl)
set_option maxHeartbeats 4000000 in
set_option maxRecDepth 100000 in
theorem BX2_skipBlanks_0 (C0 : CallFix p m c cX2_skipBlanks 1 s args big RX2) (hr : meth.sig.returnType = none) (hk : meth.locks = false)  {b : Bool}  (Kt : b = true → ∀ (H : Heap) (locs : List Loc) (ls : Array Slot), xI g s S' H locs → lv_has ls 1 [(0, .ref (g.2.2 32))] → W p l e ({ frames := 0, cells := 0, slots := 0, locals := 0 } : Room) s m args below meth c H locs 0 0 Q (F0 m 0 ls [])) (Kf : b = false → ∀ (H : Heap) (locs : List Loc) (ls : Array Slot), xI g s S' H locs → lv_has ls 1 [(0, .ref (g.2.2 32))] → W p l e ({ frames := 0, cells := 0, slots := 0, locals := 0 } : Room) s m args below meth c H locs 0 0 Q (F0 m 38 ls [])) (hf : bX2_skipBlanks_0 S = some (b, S')) (I : xI g s S H locs) (hl : lv_has ls 1 [(0, .ref (g.2.2 32))]) : W p l e ({ frames := 0, cells := 0, slots := 0, locals := 0 } : Room) s m args below meth c H locs 0 0 Q (F0 m 0 ls []) := by
  obtain ⟨hx, hb, hml, -, -⟩ := id C0
  unfold bX2_skipBlanks_0 at hf
  refine lv_aload_n hx hb dX2_skipBlanks_0 rfl (lv_at hl 0 rfl) ?_
  refine xg_X2_21_32 C0 I dX2_skipBlanks_1 ?_
  refine lv_aload_n hx hb dX2_skipBlanks_4 rfl (lv_at hl 0 rfl) ?_
  refine xg_X2_9_32 C0 I dX2_skipBlanks_5 ?_
  refine lv_icmp_ge (tgt := 38) hx hb dX2_skipBlanks_8 (by decide) (fun c1 => ?_) (fun c1 => ?_)
  · have hf := ip c1 hf
    obtain ⟨rfl, rfl⟩ := se2 hf
    exact Kf rfl _ _ _ I (lv_sub hl [0] rfl)
  · have hf := inn c1 hf
    refine lv_aload_n hx hb dX2_skipBlanks_11 rfl (lv_at hl 0 rfl) ?_
    refine xg_X2_24_32 C0 I dX2_skipBlanks_12 ?_
    refine lv_aload_n hx hb dX2_skipBlanks_15 rfl (lv_at hl 0 rfl) ?_
    refine xg_X2_21_32 C0 I dX2_skipBlanks_16 ?_
    obtain ⟨b2, hf⟩ := chk_some hf
    refine xl_33 hx hb I b2 dX2_skipBlanks_19 ?_
    refine lv_bipush (v := 32) hx hb dX2_skipBlanks_20 (by decide) ?_
    refine lv_icmp_ne (tgt := 38) hx hb dX2_skipBlanks_22 (by decide) (fun c3 => ?_) (fun c3 => ?_)
    · have hf := inn c3 hf
      obtain ⟨rfl, rfl⟩ := se2 hf
      exact Kf rfl _ _ _ I (lv_sub hl [0] rfl)
    · have hf := ip c3 hf
      refine lv_aload_n hx hb dX2_skipBlanks_25 rfl (lv_at hl 0 rfl) ?_
      refine lv_dup hx hb dX2_skipBlanks_26 rfl ?_
      refine xg_X2_21_32 C0 I dX2_skipBlanks_27 ?_
      refine lv_iconst (v := 1) hx hb dX2_skipBlanks_30 (by decide) ?_
      refine lv_iadd hx hb dX2_skipBlanks_31 ?_
      refine xp_X2_21_32 C0 I dX2_skipBlanks_32 (fun H locs I => ?_)
      refine lv_goto (tgt := 0) hx hb dX2_skipBlanks_35 (by decide) ?_
      obtain ⟨rfl, rfl⟩ := se2 hf
      exact Kt rfl _ _ _ I (lv_sub hl [0] rfl)
set_option maxHeartbeats 4000000 in
theorem lX2_skipBlanks_0 (C0 : CallFix p m c cX2_skipBlanks 1 s args big RX2) (hr : meth.sig.returnType = none) (hk : meth.locks = false)  {S' : St}  : ∀ (n : Nat) {S : St}, lp (fun q => bX2_skipBlanks_0 q) n S = some S' → ∀ {H : Heap} {locs : List Loc}, xI g s S H locs → ∀ {ls : Array Slot}, lv_has ls 1 [(0, .ref (g.2.2 32))] → (∀ (H : Heap) (locs : List Loc) (ls : Array Slot), xI g s S' H locs → lv_has ls 1 [(0, .ref (g.2.2 32))] → W p l e ({ frames := 0, cells := 0, slots := 0, locals := 0 } : Room) s m args below meth c H locs 0 0 Q (F0 m 38 ls [])) → W p l e ({ frames := 0, cells := 0, slots := 0, locals := 0 } : Room) s m args below meth c H locs 0 0 Q (F0 m 0 ls []) := by
  intro n
  induction n with
  | zero => intro S hf; cases hf
  | succ n ih =>
    intro S hf H locs I ls hl K
    obtain ⟨b, z0, h1, h2, h3⟩ := lp_some hf
    refine BX2_skipBlanks_0 C0 hr hk (fun hb1 H locs ls I hl => ?_) (fun hb1 H locs ls I hl => ?_) h1 I hl
    · exact ih (h2 hb1) I hl K
    · have e := h3 hb1
      cases e
      exact K H locs ls I hl
set_option maxHeartbeats 4000000 in
set_option maxRecDepth 100000 in
theorem tX2_skipBlanks_0 (C0 : CallFix p m c cX2_skipBlanks 1 s args big RX2) (hr : meth.sig.returnType = none) (hk : meth.locks = false)   (hf : fX2_skipBlanks S = some S') (I : xI g s S H locs) (hl : lv_has ls 1 [(0, .ref (g.2.2 32))]) : W p l e ({ frames := 0, cells := 0, slots := 0, locals := 0 } : Room) s m args below meth c H locs 0 0 (MQ below (va_Qv (fun S2 => S2 = S') (xB g) (xA g)) args s 0 0 (xA g)) (F0 m 0 ls []) := by
  obtain ⟨hx, hb, hml, -, -⟩ := id C0
  unfold fX2_skipBlanks at hf
  obtain ⟨S4, h4, hf⟩ := bq1_some hf
  refine lX2_skipBlanks_0 C0 hr hk fu h4 I (lv_sub hl [0] rfl) (fun H locs ls I hl => ?_)
  obtain rfl := se1 hf
  exact xrv C0 hr hk I dX2_skipBlanks_38
set_option maxRecDepth 100000 in
theorem kX2_skipBlanks   (hf : fX2_skipBlanks S  = some S') : Met l yX2_skipBlanks (Cond.code yX2_skipBlanks cX2_skipBlanks 1 none :: big) ({ frames := 0, cells := 0, slots := 0, locals := 0 } : Room) (va_Pc [.ref (g.2.2 32)] (xB g S)) (va_Qv (fun S2 => S2 = S') (xB g) (xA g)) 0 0 (xA g) := by
  refine Met.ofW (cc := cX2_skipBlanks) (maxL := 1) (ret := none) (by decide) rfl ?_
  intro p e s m args below meth c s₁ B hml hv
  obtain ⟨rfl, hP, hK, hD⟩ := hv
  have hts0 := atoms_spec (ws := (Cond.code yX2_skipBlanks cX2_skipBlanks 1 none :: big)) B.pre
  have C0 : CallFix p m c cX2_skipBlanks 1 s _ big RX2 := ⟨B.exec, B.bytes, hml, findClass_of_methodNamed B.named, fun w h => hts0 w (List.mem_cons_of_mem _ h)⟩
  have I : xI g s S s.heap [] := ⟨hK, hP, hD, va_S.rf⟩
  have hl := lv_entry ([.ref (g.2.2 32)]) (n := 1) (Nat.le_of_ble_eq_true rfl)
  rw [lg_entry_eq]
  generalize (lg_sl ([.ref (g.2.2 32)]) ++ List.replicate (1 - (lg_sl ([.ref (g.2.2 32)])).length) Slot.unset).toArray = ls at hl ⊢
  have hl : lv_has ls 1 [(0, .ref (g.2.2 32))] := hl
  exact tX2_skipBlanks_0 C0 B.returns B.notSynchronized hf I (lv_sub hl [0] rfl)
set_option maxHeartbeats 4000000 in
set_option maxRecDepth 100000 in
theorem tX2_failAt_0 (C0 : CallFix p m c cX2_failAt 2 s args big RX2) (hr : meth.sig.returnType = none) (hk : meth.locks = false) {x1 : Int32}  (hf : fX2_failAt S x1 = some S') (I : xI g s S H locs) (hl : lv_has ls 2 [(0, .ref (g.2.2 32)), (1, .int x1)]) : W p l e ({ frames := 0, cells := 0, slots := 0, locals := 0 } : Room) s m args below meth c H locs 0 0 (MQ below (va_Qv (fun S2 => S2 = S') (xB g) (xA g)) args s 0 0 (xA g)) (F0 m 0 ls []) := by
  obtain ⟨hx, hb, hml, -, -⟩ := id C0
  unfold fX2_failAt at hf
  refine lv_aload_n hx hb dX2_failAt_0 rfl (lv_at hl 0 rfl) ?_
  refine xg_X2_15_32 C0 I dX2_failAt_1 ?_
  refine lv_iconst (v := -1) hx hb dX2_failAt_4 (by decide) ?_
  refine lv_icmp_ne (tgt := 13) hx hb dX2_failAt_5 (by decide) (fun c1 => ?_) (fun c1 => ?_)
  · have hf := inn c1 hf
    obtain rfl := se1 hf
    exact xrv C0 hr hk I dX2_failAt_13
  · have hf := ip c1 hf
    refine lv_aload_n hx hb dX2_failAt_8 rfl (lv_at hl 0 rfl) ?_
    refine lv_iload_n hx hb dX2_failAt_9 rfl (lv_at hl 1 rfl) ?_
    refine xp_X2_15_32 C0 I dX2_failAt_10 (fun H locs I => ?_)
    obtain rfl := se1 hf
    exact xrv C0 hr hk I dX2_failAt_13
set_option maxRecDepth 100000 in
theorem kX2_failAt {x1 : Int32}  (hf : fX2_failAt S x1 = some S') : Met l yX2_failAt (Cond.code yX2_failAt cX2_failAt 2 none :: big) ({ frames := 0, cells := 0, slots := 0, locals := 0 } : Room) (va_Pc [.ref (g.2.2 32), .int x1] (xB g S)) (va_Qv (fun S2 => S2 = S') (xB g) (xA g)) 0 0 (xA g) := by
  refine Met.ofW (cc := cX2_failAt) (maxL := 2) (ret := none) (by decide) rfl ?_
  intro p e s m args below meth c s₁ B hml hv
  obtain ⟨rfl, hP, hK, hD⟩ := hv
  have hts0 := atoms_spec (ws := (Cond.code yX2_failAt cX2_failAt 2 none :: big)) B.pre
  have C0 : CallFix p m c cX2_failAt 2 s _ big RX2 := ⟨B.exec, B.bytes, hml, findClass_of_methodNamed B.named, fun w h => hts0 w (List.mem_cons_of_mem _ h)⟩
  have I : xI g s S s.heap [] := ⟨hK, hP, hD, va_S.rf⟩
  have hl := lv_entry ([.ref (g.2.2 32), .int x1]) (n := 2) (Nat.le_of_ble_eq_true rfl)
  rw [lg_entry_eq]
  generalize (lg_sl ([.ref (g.2.2 32), .int x1]) ++ List.replicate (2 - (lg_sl ([.ref (g.2.2 32), .int x1])).length) Slot.unset).toArray = ls at hl ⊢
  have hl : lv_has ls 2 [(0, .ref (g.2.2 32)), (1, .int x1)] := hl
  exact tX2_failAt_0 C0 B.returns B.notSynchronized hf I (lv_sub hl [0, 1] rfl)
end
