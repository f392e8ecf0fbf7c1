section
variable {p : Program} {l : Launch} {e : Env} {s : State} {m : MethodId} {args : Array Value} {below : List Frame} {meth : Method} {c : Code} {Q : State → Prop} {g : xG} {H : Heap} {locs : List Loc} {ls : Array Slot} {S S' : St}
set_option maxHeartbeats 4000000 in
set_option maxRecDepth 100000 in
theorem tX7_isHome_0 (C0 : CallFix p m c cX7_isHome 2 s args big RX7) (hr : meth.sig.returnType = (some .boolean)) (hk : meth.locks = false) {x1 : Int32} {rr : Int32}  (hf : fX7_isHome S x1 = some rr) (I : mI g s S H locs) (hl : lv_has ls 2 [(0, .ref (g.2.2 0)), (1, .int x1)]) : W p l e ({ frames := 0, cells := 0, slots := 0, locals := 0 } : Room) s m args below meth c H locs 0 0 (MQ below (va_Qi (fun r' S2 => r' = rr ∧ S2 = S) (mB g) (mA g)) args s 0 0 (mA g)) (F0 m 0 ls []) := by
  obtain ⟨hx, hb, hml, -, -⟩ := id C0
  unfold fX7_isHome at hf
  refine lv_aload_n hx hb dX7_isHome_0 rfl (lv_at hl 0 rfl) ?_
  refine mg_X7_50_0 C0 I dX7_isHome_1 ?_
  refine lv_iload_n hx hb dX7_isHome_4 rfl (lv_at hl 1 rfl) ?_
  obtain ⟨b1, hf⟩ := chk_some hf
  refine ml_12 hx hb I b1 dX7_isHome_5 ?_
  refine lv_aload_n hx hb dX7_isHome_6 rfl (lv_at hl 0 rfl) ?_
  refine mg_X7_35_0 C0 I dX7_isHome_7 ?_
  refine lv_iload_n hx hb dX7_isHome_10 rfl (lv_at hl 1 rfl) ?_
  obtain ⟨b2, hf⟩ := chk_some hf
  refine ml_8 hx hb I b2 dX7_isHome_11 ?_
  refine lv_icmp_ne (tgt := 19) hx hb dX7_isHome_12 (by decide) (fun c3 => ?_) (fun c3 => ?_)
  · have hf := inn c3 hf
    refine lv_iconst (v := 0) hx hb dX7_isHome_19 (by decide) ?_
    obtain rfl := se1 hf
    exact mrz C0 hr hk rfl I dX7_isHome_20
  · have hf := ip c3 hf
    refine lv_iconst (v := 1) hx hb dX7_isHome_15 (by decide) ?_
    refine lv_goto (tgt := 20) hx hb dX7_isHome_16 (by decide) ?_
    obtain rfl := se1 hf
    exact mrz C0 hr hk rfl I dX7_isHome_20
set_option maxRecDepth 100000 in
theorem kX7_isHome {x1 : Int32} {rr : Int32} (hf : fX7_isHome S x1 = some rr) : Met l yX7_isHome (Cond.code yX7_isHome cX7_isHome 2 (some .boolean) :: big) ({ frames := 0, cells := 0, slots := 0, locals := 0 } : Room) (va_Pc [.ref (g.2.2 0), .int x1] (mB g S)) (va_Qi (fun r' S2 => r' = rr ∧ S2 = S) (mB g) (mA g)) 0 0 (mA g) := by
  refine Met.ofW (cc := cX7_isHome) (maxL := 2) (ret := (some .boolean)) (by decide) rfl ?_
  intro p e s m args below meth c s₁ B hml hv
  obtain ⟨rfl, hP, hK, hD⟩ := hv
  have hts0 := atoms_spec (ws := (Cond.code yX7_isHome cX7_isHome 2 (some .boolean) :: big)) B.pre
  have C0 : CallFix p m c cX7_isHome 2 s _ big RX7 := ⟨B.exec, B.bytes, hml, findClass_of_methodNamed B.named, fun w h => hts0 w (List.mem_cons_of_mem _ h)⟩
  have I : mI g s S s.heap [] := ⟨hK, hP, hD, va_S.rf⟩
  have hl := lv_entry ([.ref (g.2.2 0), .int x1]) (n := 2) (Nat.le_of_ble_eq_true rfl)
  rw [lg_entry_eq]
  generalize (lg_sl ([.ref (g.2.2 0), .int x1]) ++ List.replicate (2 - (lg_sl ([.ref (g.2.2 0), .int x1])).length) Slot.unset).toArray = ls at hl ⊢
  have hl : lv_has ls 2 [(0, .ref (g.2.2 0)), (1, .int x1)] := hl
  exact tX7_isHome_0 C0 B.returns B.notSynchronized hf I (lv_sub hl [0, 1] rfl)
set_option maxHeartbeats 4000000 in
set_option maxRecDepth 100000 in
theorem BX7_allHome_4 (C0 : CallFix p m c cX7_allHome 3 s args big RX7) (hr : meth.sig.returnType = (some .boolean)) (hk : meth.locks = false) {x1 : Int32} {x2 : Int32} {b : Bool} {y1 : Int32} {y2 : Int32} (Kt : b = true → ∀ (H : Heap) (locs : List Loc) (ls : Array Slot), mI g s S H locs → lv_has ls 3 [(0, .ref (g.2.2 0)), (1, .int y1), (2, .int y2)] → W p l e ({ frames := 1, cells := 0, slots := 0, locals := 21 } : Room) s m args below meth c H locs 0 0 Q (F0 m 4 ls [])) (Kf : b = false → ∀ (H : Heap) (locs : List Loc) (ls : Array Slot), mI g s S H locs → lv_has ls 3 [(0, .ref (g.2.2 0)), (1, .int y1), (2, .int y2)] → W p l e ({ frames := 1, cells := 0, slots := 0, locals := 21 } : Room) s m args below meth c H locs 0 0 Q (F0 m 36 ls [])) (hf : bX7_allHome_4 S x1 x2 = some (b, y1, y2)) (I : mI g s S H locs) (hl : lv_has ls 3 [(0, .ref (g.2.2 0)), (1, .int x1), (2, .int x2)]) : W p l e ({ frames := 1, cells := 0, slots := 0, locals := 21 } : Room) s m args below meth c H locs 0 0 Q (F0 m 4 ls []) := by
  obtain ⟨hx, hb, hml, -, -⟩ := id C0
  unfold bX7_allHome_4 at hf
  refine lv_iload_n hx hb dX7_allHome_4 rfl (lv_at hl 2 rfl) ?_
  refine lv_aload_n hx hb dX7_allHome_5 rfl (lv_at hl 0 rfl) ?_
  refine mg_X7_76_0 C0 I dX7_allHome_6 ?_
  refine lv_icmp_ge (tgt := 36) hx hb dX7_allHome_9 (by decide) (fun c1 => ?_) (fun c1 => ?_)
  · have hf := ip c1 hf
    obtain ⟨rfl, rfl, rfl⟩ := se3 hf
    exact Kf rfl _ _ _ I (lv_sub hl [0, 1, 2] rfl)
  · have hf := inn c1 hf
    refine lv_iload_n hx hb dX7_allHome_12 rfl (lv_at hl 1 rfl) ?_
    refine lv_if_eq (tgt := 28) hx hb dX7_allHome_13 (by decide) (fun c2 => ?_) (fun c2 => ?_)
    · have hf := ip c2 hf
      refine lv_iconst (v := 0) hx hb dX7_allHome_28 (by decide) ?_
      refine lv_istore_n (lv' := [(1, .int (0 : Int32)), (0, .ref (g.2.2 0)), (2, .int x2)]) hx hb dX7_allHome_29 rfl hl (by decide) rfl (fun ls hl => ?_)
      refine lv_iinc (v := (x2 + (1 : Int32))) (lv' := [(2, .int (x2 + (1 : Int32))), (1, .int (0 : Int32)), (0, .ref (g.2.2 0))]) hx hb dX7_allHome_30 hl (k := 2) rfl rfl (by decide) rfl (fun ls hl => ?_)
      refine lv_goto (tgt := 4) hx hb dX7_allHome_33 (by decide) ?_
      obtain ⟨rfl, rfl, rfl⟩ := se3 hf
      exact Kt rfl _ _ _ I (lv_sub hl [2, 1, 0] rfl)
    · have hf := inn c2 hf
      refine lv_aload_n hx hb dX7_allHome_16 rfl (lv_at hl 0 rfl) ?_
      refine lv_iload_n hx hb dX7_allHome_17 rfl (lv_at hl 2 rfl) ?_
      obtain ⟨r3, h3, hf⟩ := bq1_some hf
      refine mcv_i (As := [.int x2]) C0 I (kX7_isHome h3) (cwV 1 C0.2.2.2.2 (gwV wd_899 wd_901 wd_54 wd_73 wd_902) rfl rfl rfl dsc_X7_isHome ⟨Nat.le_of_ble_eq_true rfl, Nat.le_of_ble_eq_true rfl⟩) (mo_0 I) rfl hl.1 rfl (Nat.le_of_ble_eq_true rfl) dX7_allHome_18 (fun H locs I => ?_)
      refine lv_if_eq (tgt := 28) hx hb dX7_allHome_21 (by decide) (fun c4 => ?_) (fun c4 => ?_)
      · have hf := ip c4 hf
        refine lv_iconst (v := 0) hx hb dX7_allHome_28 (by decide) ?_
        refine lv_istore_n (lv' := [(1, .int (0 : Int32)), (0, .ref (g.2.2 0)), (2, .int x2)]) hx hb dX7_allHome_29 rfl hl (by decide) rfl (fun ls hl => ?_)
        refine lv_iinc (v := (x2 + (1 : Int32))) (lv' := [(2, .int (x2 + (1 : Int32))), (1, .int (0 : Int32)), (0, .ref (g.2.2 0))]) hx hb dX7_allHome_30 hl (k := 2) rfl rfl (by decide) rfl (fun ls hl => ?_)
        refine lv_goto (tgt := 4) hx hb dX7_allHome_33 (by decide) ?_
        obtain ⟨rfl, rfl, rfl⟩ := se3 hf
        exact Kt rfl _ _ _ I (lv_sub hl [2, 1, 0] rfl)
      · have hf := inn c4 hf
        refine lv_iconst (v := 1) hx hb dX7_allHome_24 (by decide) ?_
        refine lv_goto (tgt := 29) hx hb dX7_allHome_25 (by decide) ?_
        refine lv_istore_n (lv' := [(1, .int (1 : Int32)), (0, .ref (g.2.2 0)), (2, .int x2)]) hx hb dX7_allHome_29 rfl hl (by decide) rfl (fun ls hl => ?_)
        refine lv_iinc (v := (x2 + (1 : Int32))) (lv' := [(2, .int (x2 + (1 : Int32))), (1, .int (1 : Int32)), (0, .ref (g.2.2 0))]) hx hb dX7_allHome_30 hl (k := 2) rfl rfl (by decide) rfl (fun ls hl => ?_)
        refine lv_goto (tgt := 4) hx hb dX7_allHome_33 (by decide) ?_
        obtain ⟨rfl, rfl, rfl⟩ := se3 hf
        exact Kt rfl _ _ _ I (lv_sub hl [2, 1, 0] rfl)
set_option maxHeartbeats 4000000 in
theorem lX7_allHome_4 (C0 : CallFix p m c cX7_allHome 3 s args big RX7) (hr : meth.sig.returnType = (some .boolean)) (hk : meth.locks = false) {S : St}  {y1 : Int32} {y2 : Int32} : ∀ (n : Nat) {x1 : Int32} {x2 : Int32}, lp (fun q => bX7_allHome_4 S q.1 q.2) n (x1, x2) = some (y1, y2) → ∀ {H : Heap} {locs : List Loc}, mI g s S H locs → ∀ {ls : Array Slot}, lv_has ls 3 [(0, .ref (g.2.2 0)), (1, .int x1), (2, .int x2)] → (∀ (H : Heap) (locs : List Loc) (ls : Array Slot), mI g s S H locs → lv_has ls 3 [(0, .ref (g.2.2 0)), (1, .int y1), (2, .int y2)] → W p l e ({ frames := 1, cells := 0, slots := 0, locals := 21 } : Room) s m args below meth c H locs 0 0 Q (F0 m 36 ls [])) → W p l e ({ frames := 1, cells := 0, slots := 0, locals := 21 } : Room) s m args below meth c H locs 0 0 Q (F0 m 4 ls []) := by
  intro n
  induction n with
  | zero => intro x1 x2 hf; cases hf
  | succ n ih =>
    intro x1 x2 hf H locs I ls hl K
    obtain ⟨b, ⟨z0, z1⟩, h1, h2, h3⟩ := lp_some hf
    refine BX7_allHome_4 C0 hr hk (fun hb1 H locs ls I hl => ?_) (fun hb1 H locs ls I hl => ?_) h1 I hl
    · exact ih (h2 hb1) I hl K
    · have e := h3 hb1
      cases e
      exact K H locs ls I hl
set_option maxHeartbeats 4000000 in
set_option maxRecDepth 100000 in
theorem tX7_allHome_0 (C0 : CallFix p m c cX7_allHome 3 s args big RX7) (hr : meth.sig.returnType = (some .boolean)) (hk : meth.locks = false)  {rr : Int32}  (hf : fX7_allHome S = some rr) (I : mI g s S H locs) (hl : lv_has ls 3 [(0, .ref (g.2.2 0))]) : W p l e ({ frames := 1, cells := 0, slots := 0, locals := 21 } : Room) s m args below meth c H locs 0 0 (MQ below (va_Qi (fun r' S2 => r' = rr ∧ S2 = S) (mB g) (mA g)) args s 0 0 (mA g)) (F0 m 0 ls []) := by
  obtain ⟨hx, hb, hml, -, -⟩ := id C0
  unfold fX7_allHome at hf
  refine lv_iconst (v := 1) hx hb dX7_allHome_0 (by decide) ?_
  refine lv_istore_n (lv' := [(1, .int (1 : Int32)), (0, .ref (g.2.2 0))]) hx hb dX7_allHome_1 rfl hl (by decide) rfl (fun ls hl => ?_)
  refine lv_iconst (v := 0) hx hb dX7_allHome_2 (by decide) ?_
  refine lv_istore_n (lv' := [(2, .int (0 : Int32)), (1, .int (1 : Int32)), (0, .ref (g.2.2 0))]) hx hb dX7_allHome_3 rfl hl (by decide) rfl (fun ls hl => ?_)
  obtain ⟨y1_5, y2_5, h5, hf⟩ := bq2_some hf
  refine lX7_allHome_4 C0 hr hk fu h5 I (lv_sub hl [2, 1, 0] rfl) (fun H locs ls I hl => ?_)
  refine lv_iload_n hx hb dX7_allHome_36 rfl (lv_at hl 1 rfl) ?_
  obtain ⟨z6, hf⟩ := zb_some hf
  obtain rfl := se1 hf
  exact mrz C0 hr hk z6 I dX7_allHome_37
set_option maxRecDepth 100000 in
theorem kX7_allHome  {rr : Int32} (hf : fX7_allHome S  = some rr) : Met l yX7_allHome (Cond.code yX7_allHome cX7_allHome 3 (some .boolean) :: big) ({ frames := 1, cells := 0, slots := 0, locals := 21 } : Room) (va_Pc [.ref (g.2.2 0)] (mB g S)) (va_Qi (fun r' S2 => r' = rr ∧ S2 = S) (mB g) (mA g)) 0 0 (mA g) := by
  refine Met.ofW (cc := cX7_allHome) (maxL := 3) (ret := (some .boolean)) (by decide) rfl ?_
  intro p e s m args below meth c s₁ B hml hv
  obtain ⟨rfl, hP, hK, hD⟩ := hv
  have hts0 := atoms_spec (ws := (Cond.code yX7_allHome cX7_allHome 3 (some .boolean) :: big)) B.pre
  have C0 : CallFix p m c cX7_allHome 3 s _ big RX7 := ⟨B.exec, B.bytes, hml, findClass_of_methodNamed B.named, fun w h => hts0 w (List.mem_cons_of_mem _ h)⟩
  have I : mI g s S s.heap [] := ⟨hK, hP, hD, va_S.rf⟩
  have hl := lv_entry ([.ref (g.2.2 0)]) (n := 3) (Nat.le_of_ble_eq_true rfl)
  rw [lg_entry_eq]
  generalize (lg_sl ([.ref (g.2.2 0)]) ++ List.replicate (3 - (lg_sl ([.ref (g.2.2 0)])).length) Slot.unset).toArray = ls at hl ⊢
  have hl : lv_has ls 3 [(0, .ref (g.2.2 0))] := hl
  exact tX7_allHome_0 C0 B.returns B.notSynchronized hf I (lv_sub hl [0] rfl)
set_option maxHeartbeats 4000000 in
set_option maxRecDepth 100000 in
theorem tX7_isAhead_133 (C0 : CallFix p m c cX7_isAhead 5 s args big RX7) (hr : meth.sig.returnType = (some .boolean)) (hk : meth.locks = false) {x1 : Int32} {x2 : Int32} {s0 : Int32} {rr : Int32}  (hf : fX7_isAhead_133 x1 x2 s0 = some rr) (I : mI g s S H locs) (hl : lv_has ls 5 [(1, .int x1), (2, .int x2)]) : W p l e ({ frames := 0, cells := 0, slots := 0, locals := 0 } : Room) s m args below meth c H locs 0 0 (MQ below (va_Qi (fun r' S2 => r' = rr ∧ S2 = S) (mB g) (mA g)) args s 0 0 (mA g)) (F0 m 133 ls [.int s0]) := by
  obtain ⟨hx, hb, hml, -, -⟩ := id C0
  unfold fX7_isAhead_133 at hf
  refine lv_istore (lv' := [(4, .int s0), (1, .int x1), (2, .int x2)]) hx hb dX7_isAhead_133 hl (by decide) rfl (fun ls hl => ?_)
  refine lv_iload hx hb dX7_isAhead_135 (lv_at hl 0 rfl) ?_
  refine lv_if_ne (tgt := 153) hx hb dX7_isAhead_137 (by decide) (fun c5 => ?_) (fun c5 => ?_)
  · have hf := inn c5 hf
    refine lv_iload hx hb dX7_isAhead_153 (lv_at hl 0 rfl) ?_
    refine lv_if_le (tgt := 162) hx hb dX7_isAhead_155 (by decide) (fun c6 => ?_) (fun c6 => ?_)
    · have hf := ip c6 hf
      refine lv_iconst (v := 0) hx hb dX7_isAhead_162 (by decide) ?_
      obtain rfl := se1 hf
      exact mrz C0 hr hk rfl I dX7_isAhead_163
    · have hf := inn c6 hf
      refine lv_iconst (v := 1) hx hb dX7_isAhead_158 (by decide) ?_
      refine lv_goto (tgt := 163) hx hb dX7_isAhead_159 (by decide) ?_
      obtain rfl := se1 hf
      exact mrz C0 hr hk rfl I dX7_isAhead_163
  · have hf := ip c5 hf
    refine lv_iload_n hx hb dX7_isAhead_140 rfl (lv_at hl 1 rfl) ?_
    refine lv_iload_n hx hb dX7_isAhead_141 rfl (lv_at hl 2 rfl) ?_
    refine lv_icmp_ge (tgt := 149) hx hb dX7_isAhead_142 (by decide) (fun c7 => ?_) (fun c7 => ?_)
    · have hf := ip c7 hf
      refine lv_iconst (v := 0) hx hb dX7_isAhead_149 (by decide) ?_
      refine lv_goto (tgt := 163) hx hb dX7_isAhead_150 (by decide) ?_
      obtain rfl := se1 hf
      exact mrz C0 hr hk rfl I dX7_isAhead_163
    · have hf := inn c7 hf
      refine lv_iconst (v := 1) hx hb dX7_isAhead_145 (by decide) ?_
      refine lv_goto (tgt := 163) hx hb dX7_isAhead_146 (by decide) ?_
      obtain rfl := se1 hf
      exact mrz C0 hr hk rfl I dX7_isAhead_163
set_option maxHeartbeats 4000000 in
set_option maxRecDepth 100000 in
theorem tX7_isAhead_110 (C0 : CallFix p m c cX7_isAhead 5 s args big RX7) (hr : meth.sig.returnType = (some .boolean)) (hk : meth.locks = false) {x1 : Int32} {x2 : Int32} {x4 : Int32} {rr : Int32}  (hf : fX7_isAhead_110 S x1 x2 x4 = some rr) (I : mI g s S H locs) (hl : lv_has ls 5 [(0, .ref (g.2.2 0)), (1, .int x1), (2, .int x2), (4, .int x4)]) : W p l e ({ frames := 0, cells := 0, slots := 0, locals := 0 } : Room) s m args below meth c H locs 0 0 (MQ below (va_Qi (fun r' S2 => r' = rr ∧ S2 = S) (mB g) (mA g)) args s 0 0 (mA g)) (F0 m 110 ls []) := by
  obtain ⟨hx, hb, hml, -, -⟩ := id C0
  unfold fX7_isAhead_110 at hf
  refine lv_iload hx hb dX7_isAhead_110 (lv_at hl 3 rfl) ?_
  refine lv_if_ne (tgt := 131) hx hb dX7_isAhead_112 (by decide) (fun c4 => ?_) (fun c4 => ?_)
  · have hf := inn c4 hf
    refine lv_iload hx hb dX7_isAhead_131 (lv_at hl 3 rfl) ?_
    exact tX7_isAhead_133 C0 hr hk hf I (lv_sub hl [1, 2] rfl)
  · have hf := ip c4 hf
    refine lv_aload_n hx hb dX7_isAhead_115 rfl (lv_at hl 0 rfl) ?_
    refine mg_X7_29_0 C0 I dX7_isAhead_116 ?_
    refine lv_iload_n hx hb dX7_isAhead_119 rfl (lv_at hl 1 rfl) ?_
    obtain ⟨b8, hf⟩ := chk_some hf
    refine ml_6 hx hb I b8 dX7_isAhead_120 ?_
    refine lv_aload_n hx hb dX7_isAhead_121 rfl (lv_at hl 0 rfl) ?_
    refine mg_X7_29_0 C0 I dX7_isAhead_122 ?_
    refine lv_iload_n hx hb dX7_isAhead_125 rfl (lv_at hl 2 rfl) ?_
    obtain ⟨b9, hf⟩ := chk_some hf
    refine ml_6 hx hb I b9 dX7_isAhead_126 ?_
    refine lv_isub hx hb dX7_isAhead_127 ?_
    refine lv_goto (tgt := 133) hx hb dX7_isAhead_128 (by decide) ?_
    exact tX7_isAhead_133 C0 hr hk hf I (lv_sub hl [1, 2] rfl)
set_option maxHeartbeats 4000000 in
set_option maxRecDepth 100000 in
theorem tX7_isAhead_107 (C0 : CallFix p m c cX7_isAhead 5 s args big RX7) (hr : meth.sig.returnType = (some .boolean)) (hk : meth.locks = false) {x1 : Int32} {x2 : Int32} {s0 : Int32} {s1 : Int32} {rr : Int32}  (hf : fX7_isAhead_107 S x1 x2 s0 s1 = some rr) (I : mI g s S H locs) (hl : lv_has ls 5 [(0, .ref (g.2.2 0)), (1, .int x1), (2, .int x2)]) : W p l e ({ frames := 0, cells := 0, slots := 0, locals := 0 } : Room) s m args below meth c H locs 0 0 (MQ below (va_Qi (fun r' S2 => r' = rr ∧ S2 = S) (mB g) (mA g)) args s 0 0 (mA g)) (F0 m 107 ls [.int s0, .int s1]) := by
  obtain ⟨hx, hb, hml, -, -⟩ := id C0
  unfold fX7_isAhead_107 at hf
  refine lv_isub hx hb dX7_isAhead_107 ?_
  refine lv_istore (lv' := [(4, .int (s1 - s0)), (0, .ref (g.2.2 0)), (1, .int x1), (2, .int x2)]) hx hb dX7_isAhead_108 hl (by decide) rfl (fun ls hl => ?_)
  exact tX7_isAhead_110 C0 hr hk hf I (lv_sub hl [1, 2, 3, 0] rfl)
set_option maxHeartbeats 4000000 in
set_option maxRecDepth 100000 in
theorem tX7_isAhead_87 (C0 : CallFix p m c cX7_isAhead 5 s args big RX7) (hr : meth.sig.returnType = (some .boolean)) (hk : meth.locks = false) {x1 : Int32} {x2 : Int32} {s0 : Int32} {rr : Int32}  (hf : fX7_isAhead_87 S x1 x2 s0 = some rr) (I : mI g s S H locs) (hl : lv_has ls 5 [(0, .ref (g.2.2 0)), (1, .int x1), (2, .int x2)]) : W p l e ({ frames := 0, cells := 0, slots := 0, locals := 0 } : Room) s m args below meth c H locs 0 0 (MQ below (va_Qi (fun r' S2 => r' = rr ∧ S2 = S) (mB g) (mA g)) args s 0 0 (mA g)) (F0 m 87 ls [.int s0]) := by
  obtain ⟨hx, hb, hml, -, -⟩ := id C0
  unfold fX7_isAhead_87 at hf
  refine lv_aload_n hx hb dX7_isAhead_87 rfl (lv_at hl 0 rfl) ?_
  refine mg_X7_50_0 C0 I dX7_isAhead_88 ?_
  refine lv_iload_n hx hb dX7_isAhead_91 rfl (lv_at hl 2 rfl) ?_
  obtain ⟨b13, hf⟩ := chk_some hf
  refine ml_12 hx hb I b13 dX7_isAhead_92 ?_
  refine lv_aload_n hx hb dX7_isAhead_93 rfl (lv_at hl 0 rfl) ?_
  refine mg_X7_38_0 C0 I dX7_isAhead_94 ?_
  refine lv_iload_n hx hb dX7_isAhead_97 rfl (lv_at hl 2 rfl) ?_
  obtain ⟨b14, hf⟩ := chk_some hf
  refine ml_9 hx hb I b14 dX7_isAhead_98 ?_
  refine lv_icmp_lt (tgt := 106) hx hb dX7_isAhead_99 (by decide) (fun c15 => ?_) (fun c15 => ?_)
  · have hf := ip c15 hf
    refine lv_iconst (v := 0) hx hb dX7_isAhead_106 (by decide) ?_
    exact tX7_isAhead_107 C0 hr hk hf I (lv_sub hl [0, 1, 2] rfl)
  · have hf := inn c15 hf
    refine lv_iconst (v := 1) hx hb dX7_isAhead_102 (by decide) ?_
    refine lv_goto (tgt := 107) hx hb dX7_isAhead_103 (by decide) ?_
    exact tX7_isAhead_107 C0 hr hk hf I (lv_sub hl [0, 1, 2] rfl)
set_option maxHeartbeats 4000000 in
set_option maxRecDepth 100000 in
theorem tX7_isAhead_0 (C0 : CallFix p m c cX7_isAhead 5 s args big RX7) (hr : meth.sig.returnType = (some .boolean)) (hk : meth.locks = false) {x1 : Int32} {x2 : Int32} {x3 : Int32} {rr : Int32}  (hf : fX7_isAhead S x1 x2 x3 = some rr) (I : mI g s S H locs) (hl : lv_has ls 5 [(0, .ref (g.2.2 0)), (1, .int x1), (2, .int x2), (3, .int x3)]) : W p l e ({ frames := 0, cells := 0, slots := 0, locals := 0 } : Room) s m args below meth c H locs 0 0 (MQ below (va_Qi (fun r' S2 => r' = rr ∧ S2 = S) (mB g) (mA g)) args s 0 0 (mA g)) (F0 m 0 ls []) := by
  obtain ⟨hx, hb, hml, -, -⟩ := id C0
  unfold fX7_isAhead at hf
  refine lv_iconst (v := 0) hx hb dX7_isAhead_0 (by decide) ?_
  refine lv_istore (lv' := [(4, .int (0 : Int32)), (0, .ref (g.2.2 0)), (1, .int x1), (2, .int x2), (3, .int x3)]) hx hb dX7_isAhead_1 hl (by decide) rfl (fun ls hl => ?_)
  refine lv_iload_n hx hb dX7_isAhead_3 rfl (lv_at hl 4 rfl) ?_
  refine lv_if_ne (tgt := 25) hx hb dX7_isAhead_4 (by decide) (fun c1 => ?_) (fun c1 => ?_)
  · have hf := inn c1 hf
    refine lv_iload_n hx hb dX7_isAhead_25 rfl (lv_at hl 4 rfl) ?_
    refine lv_iconst (v := 2) hx hb dX7_isAhead_26 (by decide) ?_
    refine lv_icmp_ne (tgt := 62) hx hb dX7_isAhead_27 (by decide) (fun c2 => ?_) (fun c2 => ?_)
    · have hf := inn c2 hf
      refine lv_iload_n hx hb dX7_isAhead_62 rfl (lv_at hl 4 rfl) ?_
      refine lv_iconst (v := 3) hx hb dX7_isAhead_63 (by decide) ?_
      refine lv_icmp_ne (tgt := 110) hx hb dX7_isAhead_64 (by decide) (fun c3 => ?_) (fun c3 => ?_)
      · have hf := inn c3 hf
        exact tX7_isAhead_110 C0 hr hk hf I (lv_sub hl [1, 2, 3, 0] rfl)
      · have hf := ip c3 hf
        refine lv_aload_n hx hb dX7_isAhead_67 rfl (lv_at hl 1 rfl) ?_
        refine mg_X7_50_0 C0 I dX7_isAhead_68 ?_
        refine lv_iload_n hx hb dX7_isAhead_71 rfl (lv_at hl 2 rfl) ?_
        obtain ⟨b10, hf⟩ := chk_some hf
        refine ml_12 hx hb I b10 dX7_isAhead_72 ?_
        refine lv_aload_n hx hb dX7_isAhead_73 rfl (lv_at hl 1 rfl) ?_
        refine mg_X7_38_0 C0 I dX7_isAhead_74 ?_
        refine lv_iload_n hx hb dX7_isAhead_77 rfl (lv_at hl 2 rfl) ?_
        obtain ⟨b11, hf⟩ := chk_some hf
        refine ml_9 hx hb I b11 dX7_isAhead_78 ?_
        refine lv_icmp_lt (tgt := 86) hx hb dX7_isAhead_79 (by decide) (fun c12 => ?_) (fun c12 => ?_)
        · have hf := ip c12 hf
          refine lv_iconst (v := 0) hx hb dX7_isAhead_86 (by decide) ?_
          exact tX7_isAhead_87 C0 hr hk hf I (lv_sub hl [1, 2, 3] rfl)
        · have hf := inn c12 hf
          refine lv_iconst (v := 1) hx hb dX7_isAhead_82 (by decide) ?_
          refine lv_goto (tgt := 87) hx hb dX7_isAhead_83 (by decide) ?_
          exact tX7_isAhead_87 C0 hr hk hf I (lv_sub hl [1, 2, 3] rfl)
    · have hf := ip c2 hf
      refine lv_aload_n hx hb dX7_isAhead_30 rfl (lv_at hl 1 rfl) ?_
      refine mg_X7_35_0 C0 I dX7_isAhead_31 ?_
      refine lv_iload_n hx hb dX7_isAhead_34 rfl (lv_at hl 2 rfl) ?_
      obtain ⟨b16, hf⟩ := chk_some hf
      refine ml_8 hx hb I b16 dX7_isAhead_35 ?_
      refine lv_aload_n hx hb dX7_isAhead_36 rfl (lv_at hl 1 rfl) ?_
      refine mg_X7_50_0 C0 I dX7_isAhead_37 ?_
      refine lv_iload_n hx hb dX7_isAhead_40 rfl (lv_at hl 2 rfl) ?_
      obtain ⟨b17, hf⟩ := chk_some hf
      refine ml_12 hx hb I b17 dX7_isAhead_41 ?_
      refine lv_isub hx hb dX7_isAhead_42 ?_
      refine lv_aload_n hx hb dX7_isAhead_43 rfl (lv_at hl 1 rfl) ?_
      refine mg_X7_35_0 C0 I dX7_isAhead_44 ?_
      refine lv_iload_n hx hb dX7_isAhead_47 rfl (lv_at hl 3 rfl) ?_
      obtain ⟨b18, hf⟩ := chk_some hf
      refine ml_8 hx hb I b18 dX7_isAhead_48 ?_
      refine lv_isub hx hb dX7_isAhead_49 ?_
      refine lv_aload_n hx hb dX7_isAhead_50 rfl (lv_at hl 1 rfl) ?_
      refine mg_X7_50_0 C0 I dX7_isAhead_51 ?_
      refine lv_iload_n hx hb dX7_isAhead_54 rfl (lv_at hl 3 rfl) ?_
      obtain ⟨b19, hf⟩ := chk_some hf
      refine ml_12 hx hb I b19 dX7_isAhead_55 ?_
      refine lv_iadd hx hb dX7_isAhead_56 ?_
      refine lv_istore (lv' := [(4, .int ((((gR S 7 x1) - (gR S 11 x1)) - (gR S 7 x2)) + (gR S 11 x2))), (0, .ref (g.2.2 0)), (1, .int x1), (2, .int x2), (3, .int x3)]) hx hb dX7_isAhead_57 hl (by decide) rfl (fun ls hl => ?_)
      refine lv_goto (tgt := 110) hx hb dX7_isAhead_59 (by decide) ?_
      exact tX7_isAhead_110 C0 hr hk hf I (lv_sub hl [1, 2, 3, 0] rfl)
  · have hf := ip c1 hf
    refine lv_aload_n hx hb dX7_isAhead_7 rfl (lv_at hl 1 rfl) ?_
    refine mg_X7_53_0 C0 I dX7_isAhead_8 ?_
    refine lv_iload_n hx hb dX7_isAhead_11 rfl (lv_at hl 3 rfl) ?_
    obtain ⟨b20, hf⟩ := chk_some hf
    refine ml_13 hx hb I b20 dX7_isAhead_12 ?_
    refine lv_aload_n hx hb dX7_isAhead_13 rfl (lv_at hl 1 rfl) ?_
    refine mg_X7_53_0 C0 I dX7_isAhead_14 ?_
    refine lv_iload_n hx hb dX7_isAhead_17 rfl (lv_at hl 2 rfl) ?_
    obtain ⟨b21, hf⟩ := chk_some hf
    refine ml_13 hx hb I b21 dX7_isAhead_18 ?_
    refine lv_isub hx hb dX7_isAhead_19 ?_
    refine lv_istore (lv' := [(4, .int ((gR S 12 x2) - (gR S 12 x1))), (0, .ref (g.2.2 0)), (1, .int x1), (2, .int x2), (3, .int x3)]) hx hb dX7_isAhead_20 hl (by decide) rfl (fun ls hl => ?_)
    refine lv_goto (tgt := 110) hx hb dX7_isAhead_22 (by decide) ?_
    exact tX7_isAhead_110 C0 hr hk hf I (lv_sub hl [1, 2, 3, 0] rfl)
set_option maxRecDepth 100000 in
theorem kX7_isAhead {x1 : Int32} {x2 : Int32} {x3 : Int32} {rr : Int32} (hf : fX7_isAhead S x1 x2 x3 = some rr) : Met l yX7_isAhead (Cond.code yX7_isAhead cX7_isAhead 5 (some .boolean) :: big) ({ frames := 0, cells := 0, slots := 0, locals := 0 } : Room) (va_Pc [.ref (g.2.2 0), .int x1, .int x2, .int x3] (mB g S)) (va_Qi (fun r' S2 => r' = rr ∧ S2 = S) (mB g) (mA g)) 0 0 (mA g) := by
  refine Met.ofW (cc := cX7_isAhead) (maxL := 5) (ret := (some .boolean)) (by decide) rfl ?_
  intro p e s m args below meth c s₁ B hml hv
  obtain ⟨rfl, hP, hK, hD⟩ := hv
  have hts0 := atoms_spec (ws := (Cond.code yX7_isAhead cX7_isAhead 5 (some .boolean) :: big)) B.pre
  have C0 : CallFix p m c cX7_isAhead 5 s _ big RX7 := ⟨B.exec, B.bytes, hml, findClass_of_methodNamed B.named, fun w h => hts0 w (List.mem_cons_of_mem _ h)⟩
  have I : mI g s S s.heap [] := ⟨hK, hP, hD, va_S.rf⟩
  have hl := lv_entry ([.ref (g.2.2 0), .int x1, .int x2, .int x3]) (n := 5) (Nat.le_of_ble_eq_true rfl)
  rw [lg_entry_eq]
  generalize (lg_sl ([.ref (g.2.2 0), .int x1, .int x2, .int x3]) ++ List.replicate (5 - (lg_sl ([.ref (g.2.2 0), .int x1, .int x2, .int x3])).length) Slot.unset).toArray = ls at hl ⊢
  have hl : lv_has ls 5 [(0, .ref (g.2.2 0)), (1, .int x1), (2, .int x2), (3, .int x3)] := hl
  exact tX7_isAhead_0 C0 B.returns B.notSynchronized hf I (lv_sub hl [0, 1, 2, 3] rfl)
set_option maxHeartbeats 4000000 in
set_option maxRecDepth 100000 in
theorem BX7_setGoing_46 (C0 : CallFix p m c cX7_setGoing 7 s args big RX7) (hr : meth.sig.returnType = none) (hk : meth.locks = false) {x1 : Int32} {x2 : Int32} {x3 : Int32} {x4 : Int32} {x5 : Int32} {x6 : Int32} {b : Bool} {y4 : Int32} {y5 : Int32} {y6 : Int32} (Kt : b = true → ∀ (H : Heap) (locs : List Loc) (ls : Array Slot), mI g s S H locs → lv_has ls 7 [(0, .ref (g.2.2 0)), (1, .int x1), (2, .int x2), (3, .int x3), (4, .int y4), (5, .int y5), (6, .int y6)] → W p l e ({ frames := 1, cells := 0, slots := 0, locals := 24 } : Room) s m args below meth c H locs 0 0 Q (F0 m 46 ls [])) (Kf : b = false → ∀ (H : Heap) (locs : List Loc) (ls : Array Slot), mI g s S H locs → lv_has ls 7 [(0, .ref (g.2.2 0)), (1, .int x1), (2, .int x2), (3, .int x3), (4, .int y4), (5, .int y5), (6, .int y6)] → W p l e ({ frames := 1, cells := 0, slots := 0, locals := 24 } : Room) s m args below meth c H locs 0 0 Q (F0 m 119 ls [])) (hf : bX7_setGoing_46 S x1 x2 x3 x4 x5 x6 = some (b, y4, y5, y6)) (I : mI g s S H locs) (hl : lv_has ls 7 [(0, .ref (g.2.2 0)), (1, .int x1), (2, .int x2), (3, .int x3), (4, .int x4), (5, .int x5), (6, .int x6)]) : W p l e ({ frames := 1, cells := 0, slots := 0, locals := 24 } : Room) s m args below meth c H locs 0 0 Q (F0 m 46 ls []) := by
  obtain ⟨hx, hb, hml, -, -⟩ := id C0
  unfold bX7_setGoing_46 at hf
  refine lv_iload hx hb dX7_setGoing_46 (lv_at hl 6 rfl) ?_
  refine lv_aload_n hx hb dX7_setGoing_48 rfl (lv_at hl 0 rfl) ?_
  refine mg_X7_76_0 C0 I dX7_setGoing_49 ?_
  refine lv_icmp_ge (tgt := 119) hx hb dX7_setGoing_52 (by decide) (fun c7 => ?_) (fun c7 => ?_)
  · have hf := ip c7 hf
    obtain ⟨rfl, rfl, rfl, rfl⟩ := se4 hf
    exact Kf rfl _ _ _ I (lv_sub hl [0, 1, 2, 3, 4, 5, 6] rfl)
  · have hf := inn c7 hf
    refine lv_aload_n hx hb dX7_setGoing_55 rfl (lv_at hl 0 rfl) ?_
    refine lv_iload hx hb dX7_setGoing_56 (lv_at hl 6 rfl) ?_
    obtain ⟨r8, h8, hf⟩ := bq1_some hf
    refine mcv_i (As := [.int x6]) C0 I (kX7_isHome h8) (cwV 1 C0.2.2.2.2 (gwV wd_899 wd_901 wd_54 wd_73 wd_902) rfl rfl rfl dsc_X7_isHome ⟨Nat.le_of_ble_eq_true rfl, Nat.le_of_ble_eq_true rfl⟩) (mo_0 I) rfl hl.1 rfl (Nat.le_of_ble_eq_true rfl) dX7_setGoing_58 (fun H locs I => ?_)
    refine lv_if_ne (tgt := 113) hx hb dX7_setGoing_61 (by decide) (fun c9 => ?_) (fun c9 => ?_)
    · have hf := inn c9 hf
      refine lv_iinc (v := (x6 + (1 : Int32))) (lv' := [(6, .int (x6 + (1 : Int32))), (0, .ref (g.2.2 0)), (1, .int x1), (2, .int x2), (3, .int x3), (4, .int x4), (5, .int x5)]) hx hb dX7_setGoing_113 hl (k := 6) rfl rfl (by decide) rfl (fun ls hl => ?_)
      refine lv_goto (tgt := 46) hx hb dX7_setGoing_116 (by decide) ?_
      obtain ⟨rfl, rfl, rfl, rfl⟩ := se4 hf
      exact Kt rfl _ _ _ I (lv_sub hl [1, 2, 3, 4, 5, 6, 0] rfl)
    · have hf := ip c9 hf
      refine lv_aload_n hx hb dX7_setGoing_64 rfl (lv_at hl 0 rfl) ?_
      refine lv_iload hx hb dX7_setGoing_65 (lv_at hl 6 rfl) ?_
      refine lv_aload_n hx hb dX7_setGoing_67 rfl (lv_at hl 0 rfl) ?_
      refine mg_X7_50_0 C0 I dX7_setGoing_68 ?_
      refine lv_iload hx hb dX7_setGoing_71 (lv_at hl 6 rfl) ?_
      obtain ⟨b10, hf⟩ := chk_some hf
      refine ml_12 hx hb I b10 dX7_setGoing_73 ?_
      obtain ⟨r11, h11, hf⟩ := bq1_some hf
      refine mcv_i (As := [.int x6, .int (gR S 11 x6)]) C0 I (kX7_edgeOf h11) (cwV 2 C0.2.2.2.2 (gwV wd_796 wd_798 wd_37 wd_73 wd_799) rfl rfl rfl dsc_X7_edgeOf ⟨Nat.le_of_ble_eq_true rfl, Nat.le_of_ble_eq_true rfl⟩) (mo_0 I) rfl hl.1 rfl (Nat.le_of_ble_eq_true rfl) dX7_setGoing_74 (fun H locs I => ?_)
      refine lv_iload_n hx hb dX7_setGoing_77 rfl (lv_at hl 3 rfl) ?_
      refine lv_icmp_ne (tgt := 113) hx hb dX7_setGoing_78 (by decide) (fun c12 => ?_) (fun c12 => ?_)
      · have hf := inn c12 hf
        refine lv_iinc (v := (x6 + (1 : Int32))) (lv' := [(6, .int (x6 + (1 : Int32))), (0, .ref (g.2.2 0)), (1, .int x1), (2, .int x2), (3, .int x3), (4, .int x4), (5, .int x5)]) hx hb dX7_setGoing_113 hl (k := 6) rfl rfl (by decide) rfl (fun ls hl => ?_)
        refine lv_goto (tgt := 46) hx hb dX7_setGoing_116 (by decide) ?_
        obtain ⟨rfl, rfl, rfl, rfl⟩ := se4 hf
        exact Kt rfl _ _ _ I (lv_sub hl [1, 2, 3, 4, 5, 6, 0] rfl)
      · have hf := ip c12 hf
        refine lv_iinc (v := (x5 + (1 : Int32))) (lv' := [(5, .int (x5 + (1 : Int32))), (0, .ref (g.2.2 0)), (1, .int x1), (2, .int x2), (3, .int x3), (4, .int x4), (6, .int x6)]) hx hb dX7_setGoing_81 hl (k := 5) rfl rfl (by decide) rfl (fun ls hl => ?_)
        refine lv_iload hx hb dX7_setGoing_84 (lv_at hl 5 rfl) ?_
        refine lv_if_eq (tgt := 110) hx hb dX7_setGoing_86 (by decide) (fun c13 => ?_) (fun c13 => ?_)
        · have hf := ip c13 hf
          refine lv_iconst (v := 0) hx hb dX7_setGoing_110 (by decide) ?_
          refine lv_istore (lv' := [(4, .int (0 : Int32)), (5, .int (x5 + (1 : Int32))), (0, .ref (g.2.2 0)), (1, .int x1), (2, .int x2), (3, .int x3), (6, .int x6)]) hx hb dX7_setGoing_111 hl (by decide) rfl (fun ls hl => ?_)
          refine lv_iinc (v := (x6 + (1 : Int32))) (lv' := [(6, .int (x6 + (1 : Int32))), (4, .int (0 : Int32)), (5, .int (x5 + (1 : Int32))), (0, .ref (g.2.2 0)), (1, .int x1), (2, .int x2), (3, .int x3)]) hx hb dX7_setGoing_113 hl (k := 6) rfl rfl (by decide) rfl (fun ls hl => ?_)
          refine lv_goto (tgt := 46) hx hb dX7_setGoing_116 (by decide) ?_
          obtain ⟨rfl, rfl, rfl, rfl⟩ := se4 hf
          exact Kt rfl _ _ _ I (lv_sub hl [3, 4, 5, 6, 1, 2, 0] rfl)
        · have hf := inn c13 hf
          refine lv_iload hx hb dX7_setGoing_89 (lv_at hl 6 rfl) ?_
          refine lv_iload_n hx hb dX7_setGoing_91 rfl (lv_at hl 3 rfl) ?_
          refine lv_icmp_eq (tgt := 106) hx hb dX7_setGoing_92 (by decide) (fun c14 => ?_) (fun c14 => ?_)
          · have hf := ip c14 hf
            refine lv_iconst (v := 1) hx hb dX7_setGoing_106 (by decide) ?_
            refine lv_goto (tgt := 111) hx hb dX7_setGoing_107 (by decide) ?_
            refine lv_istore (lv' := [(4, .int (1 : Int32)), (5, .int (x5 + (1 : Int32))), (0, .ref (g.2.2 0)), (1, .int x1), (2, .int x2), (3, .int x3), (6, .int x6)]) hx hb dX7_setGoing_111 hl (by decide) rfl (fun ls hl => ?_)
            refine lv_iinc (v := (x6 + (1 : Int32))) (lv' := [(6, .int (x6 + (1 : Int32))), (4, .int (1 : Int32)), (5, .int (x5 + (1 : Int32))), (0, .ref (g.2.2 0)), (1, .int x1), (2, .int x2), (3, .int x3)]) hx hb dX7_setGoing_113 hl (k := 6) rfl rfl (by decide) rfl (fun ls hl => ?_)
            refine lv_goto (tgt := 46) hx hb dX7_setGoing_116 (by decide) ?_
            obtain ⟨rfl, rfl, rfl, rfl⟩ := se4 hf
            exact Kt rfl _ _ _ I (lv_sub hl [3, 4, 5, 6, 1, 2, 0] rfl)
          · have hf := inn c14 hf
            refine lv_aload_n hx hb dX7_setGoing_95 rfl (lv_at hl 1 rfl) ?_
            refine lv_iload_n hx hb dX7_setGoing_96 rfl (lv_at hl 3 rfl) ?_
            refine lv_iload hx hb dX7_setGoing_97 (lv_at hl 6 rfl) ?_
            refine lv_iload_n hx hb dX7_setGoing_99 rfl (lv_at hl 2 rfl) ?_
            obtain ⟨r15, h15, hf⟩ := bq1_some hf
            refine mcv_i (As := [.int x2, .int x6, .int x1]) C0 I (kX7_isAhead h15) (cwV 3 C0.2.2.2.2 (gwV wd_911 wd_913 wd_57 wd_73 wd_914) rfl rfl rfl dsc_X7_isAhead ⟨Nat.le_of_ble_eq_true rfl, Nat.le_of_ble_eq_true rfl⟩) (mo_0 I) rfl hl.1 rfl (Nat.le_of_ble_eq_true rfl) dX7_setGoing_100 (fun H locs I => ?_)
            refine lv_if_eq (tgt := 110) hx hb dX7_setGoing_103 (by decide) (fun c16 => ?_) (fun c16 => ?_)
            · have hf := ip c16 hf
              refine lv_iconst (v := 0) hx hb dX7_setGoing_110 (by decide) ?_
              refine lv_istore (lv' := [(4, .int (0 : Int32)), (5, .int (x5 + (1 : Int32))), (0, .ref (g.2.2 0)), (1, .int x1), (2, .int x2), (3, .int x3), (6, .int x6)]) hx hb dX7_setGoing_111 hl (by decide) rfl (fun ls hl => ?_)
              refine lv_iinc (v := (x6 + (1 : Int32))) (lv' := [(6, .int (x6 + (1 : Int32))), (4, .int (0 : Int32)), (5, .int (x5 + (1 : Int32))), (0, .ref (g.2.2 0)), (1, .int x1), (2, .int x2), (3, .int x3)]) hx hb dX7_setGoing_113 hl (k := 6) rfl rfl (by decide) rfl (fun ls hl => ?_)
              refine lv_goto (tgt := 46) hx hb dX7_setGoing_116 (by decide) ?_
              obtain ⟨rfl, rfl, rfl, rfl⟩ := se4 hf
              exact Kt rfl _ _ _ I (lv_sub hl [3, 4, 5, 6, 1, 2, 0] rfl)
            · have hf := inn c16 hf
              refine lv_iconst (v := 1) hx hb dX7_setGoing_106 (by decide) ?_
              refine lv_goto (tgt := 111) hx hb dX7_setGoing_107 (by decide) ?_
              refine lv_istore (lv' := [(4, .int (1 : Int32)), (5, .int (x5 + (1 : Int32))), (0, .ref (g.2.2 0)), (1, .int x1), (2, .int x2), (3, .int x3), (6, .int x6)]) hx hb dX7_setGoing_111 hl (by decide) rfl (fun ls hl => ?_)
              refine lv_iinc (v := (x6 + (1 : Int32))) (lv' := [(6, .int (x6 + (1 : Int32))), (4, .int (1 : Int32)), (5, .int (x5 + (1 : Int32))), (0, .ref (g.2.2 0)), (1, .int x1), (2, .int x2), (3, .int x3)]) hx hb dX7_setGoing_113 hl (k := 6) rfl rfl (by decide) rfl (fun ls hl => ?_)
              refine lv_goto (tgt := 46) hx hb dX7_setGoing_116 (by decide) ?_
              obtain ⟨rfl, rfl, rfl, rfl⟩ := se4 hf
              exact Kt rfl _ _ _ I (lv_sub hl [3, 4, 5, 6, 1, 2, 0] rfl)
set_option maxHeartbeats 4000000 in
theorem lX7_setGoing_46 (C0 : CallFix p m c cX7_setGoing 7 s args big RX7) (hr : meth.sig.returnType = none) (hk : meth.locks = false) {S : St} {x1 : Int32} {x2 : Int32} {x3 : Int32} {y4 : Int32} {y5 : Int32} {y6 : Int32} : ∀ (n : Nat) {x4 : Int32} {x5 : Int32} {x6 : Int32}, lp (fun q => bX7_setGoing_46 S x1 x2 x3 q.1 q.2.1 q.2.2) n (x4, x5, x6) = some (y4, y5, y6) → ∀ {H : Heap} {locs : List Loc}, mI g s S H locs → ∀ {ls : Array Slot}, lv_has ls 7 [(0, .ref (g.2.2 0)), (1, .int x1), (2, .int x2), (3, .int x3), (4, .int x4), (5, .int x5), (6, .int x6)] → (∀ (H : Heap) (locs : List Loc) (ls : Array Slot), mI g s S H locs → lv_has ls 7 [(0, .ref (g.2.2 0)), (1, .int x1), (2, .int x2), (3, .int x3), (4, .int y4), (5, .int y5), (6, .int y6)] → W p l e ({ frames := 1, cells := 0, slots := 0, locals := 24 } : Room) s m args below meth c H locs 0 0 Q (F0 m 119 ls [])) → W p l e ({ frames := 1, cells := 0, slots := 0, locals := 24 } : Room) s m args below meth c H locs 0 0 Q (F0 m 46 ls []) := by
  intro n
  induction n with
  | zero => intro x4 x5 x6 hf; cases hf
  | succ n ih =>
    intro x4 x5 x6 hf H locs I ls hl K
    obtain ⟨b, ⟨z0, z1, z2⟩, h1, h2, h3⟩ := lp_some hf
    refine BX7_setGoing_46 C0 hr hk (fun hb1 H locs ls I hl => ?_) (fun hb1 H locs ls I hl => ?_) h1 I hl
    · exact ih (h2 hb1) I hl K
    · have e := h3 hb1
      cases e
      exact K H locs ls I hl
set_option maxHeartbeats 4000000 in
set_option maxRecDepth 100000 in
theorem tX7_setGoing_134 (C0 : CallFix p m c cX7_setGoing 7 s args big RX7) (hr : meth.sig.returnType = none) (hk : meth.locks = false) {x1 : Int32} {x2 : Int32} {x5 : Int32} {s0 : Int32} {s1 : Int32} {b : Bool} {y2 : Int32} (Kt : b = true → ∀ (H : Heap) (locs : List Loc) (ls : Array Slot), mI g s S' H locs → lv_has ls 7 [(0, .ref (g.2.2 0)), (1, .int x1), (2, .int y2)] → W p l e ({ frames := 1, cells := 0, slots := 0, locals := 24 } : Room) s m args below meth c H locs 0 0 Q (F0 m 2 ls [])) (Kf : b = false → ∀ (H : Heap) (locs : List Loc) (ls : Array Slot), mI g s S' H locs → lv_has ls 7 [(0, .ref (g.2.2 0)), (1, .int x1), (2, .int y2)] → W p l e ({ frames := 1, cells := 0, slots := 0, locals := 24 } : Room) s m args below meth c H locs 0 0 Q (F0 m 163 ls [])) (hf : fX7_setGoing_134 S x2 x5 s0 s1 = some (b, S', y2)) (I : mI g s S H locs) (hl : lv_has ls 7 [(0, .ref (g.2.2 0)), (1, .int x1), (2, .int x2), (5, .int x5)]) : W p l e ({ frames := 1, cells := 0, slots := 0, locals := 24 } : Room) s m args below meth c H locs 0 0 Q (F0 m 134 ls [.int s0, .int s1, .ref (g.2.2 16)]) := by
  obtain ⟨hx, hb, hml, -, -⟩ := id C0
  unfold fX7_setGoing_134 at hf
  obtain ⟨b19, hf⟩ := chk_some hf
  refine ms_16 hx hb I b19 dX7_setGoing_134 (fun H locs I => ?_)
  refine lv_aload_n hx hb dX7_setGoing_135 rfl (lv_at hl 0 rfl) ?_
  refine lv_iload hx hb dX7_setGoing_136 (lv_at hl 3 rfl) ?_
  refine lv_aload_n hx hb dX7_setGoing_138 rfl (lv_at hl 0 rfl) ?_
  refine mg_X7_205_0 C0 I dX7_setGoing_139 ?_
  refine lv_icmp_le (tgt := 150) hx hb dX7_setGoing_142 (by decide) (fun c20 => ?_) (fun c20 => ?_)
  · have hf := ip c20 hf
    refine lv_aload_n hx hb dX7_setGoing_150 rfl (lv_at hl 0 rfl) ?_
    refine mg_X7_205_0 C0 I dX7_setGoing_151 ?_
    refine mp_X7_205_0 C0 I dX7_setGoing_154 (fun H locs I => ?_)
    refine lv_iinc (v := (x2 + (1 : Int32))) (lv' := [(2, .int (x2 + (1 : Int32))), (0, .ref (g.2.2 0)), (1, .int x1), (5, .int x5)]) hx hb dX7_setGoing_157 hl (k := 2) rfl rfl (by decide) rfl (fun ls hl => ?_)
    refine lv_goto (tgt := 2) hx hb dX7_setGoing_160 (by decide) ?_
    obtain ⟨rfl, rfl, rfl⟩ := se3 hf
    exact Kt rfl _ _ _ I (lv_sub hl [1, 2, 0] rfl)
  · have hf := inn c20 hf
    refine lv_iload hx hb dX7_setGoing_145 (lv_at hl 3 rfl) ?_
    refine lv_goto (tgt := 154) hx hb dX7_setGoing_147 (by decide) ?_
    refine mp_X7_205_0 C0 I dX7_setGoing_154 (fun H locs I => ?_)
    refine lv_iinc (v := (x2 + (1 : Int32))) (lv' := [(2, .int (x2 + (1 : Int32))), (0, .ref (g.2.2 0)), (1, .int x1), (5, .int x5)]) hx hb dX7_setGoing_157 hl (k := 2) rfl rfl (by decide) rfl (fun ls hl => ?_)
    refine lv_goto (tgt := 2) hx hb dX7_setGoing_160 (by decide) ?_
    obtain ⟨rfl, rfl, rfl⟩ := se3 hf
    exact Kt rfl _ _ _ I (lv_sub hl [1, 2, 0] rfl)
set_option maxHeartbeats 4000000 in
set_option maxRecDepth 100000 in
theorem BX7_setGoing_2 (C0 : CallFix p m c cX7_setGoing 7 s args big RX7) (hr : meth.sig.returnType = none) (hk : meth.locks = false) {x1 : Int32} {x2 : Int32} {b : Bool} {y2 : Int32} (Kt : b = true → ∀ (H : Heap) (locs : List Loc) (ls : Array Slot), mI g s S' H locs → lv_has ls 7 [(0, .ref (g.2.2 0)), (1, .int x1), (2, .int y2)] → W p l e ({ frames := 1, cells := 0, slots := 0, locals := 24 } : Room) s m args below meth c H locs 0 0 Q (F0 m 2 ls [])) (Kf : b = false → ∀ (H : Heap) (locs : List Loc) (ls : Array Slot), mI g s S' H locs → lv_has ls 7 [(0, .ref (g.2.2 0)), (1, .int x1), (2, .int y2)] → W p l e ({ frames := 1, cells := 0, slots := 0, locals := 24 } : Room) s m args below meth c H locs 0 0 Q (F0 m 163 ls [])) (hf : bX7_setGoing_2 x1 S x2 = some (b, S', y2)) (I : mI g s S H locs) (hl : lv_has ls 7 [(0, .ref (g.2.2 0)), (1, .int x1), (2, .int x2)]) : W p l e ({ frames := 1, cells := 0, slots := 0, locals := 24 } : Room) s m args below meth c H locs 0 0 Q (F0 m 2 ls []) := by
  obtain ⟨hx, hb, hml, -, -⟩ := id C0
  unfold bX7_setGoing_2 at hf
  refine lv_iload_n hx hb dX7_setGoing_2 rfl (lv_at hl 2 rfl) ?_
  refine lv_aload_n hx hb dX7_setGoing_3 rfl (lv_at hl 0 rfl) ?_
  refine mg_X7_76_0 C0 I dX7_setGoing_4 ?_
  refine lv_icmp_ge (tgt := 163) hx hb dX7_setGoing_7 (by decide) (fun c1 => ?_) (fun c1 => ?_)
  · have hf := ip c1 hf
    obtain ⟨rfl, rfl, rfl⟩ := se3 hf
    exact Kf rfl _ _ _ I (lv_sub hl [0, 1, 2] rfl)
  · have hf := inn c1 hf
    refine lv_aload_n hx hb dX7_setGoing_10 rfl (lv_at hl 0 rfl) ?_
    refine mg_X7_62_0 C0 I dX7_setGoing_11 ?_
    refine lv_iload_n hx hb dX7_setGoing_14 rfl (lv_at hl 2 rfl) ?_
    refine lv_iconst (v := 0) hx hb dX7_setGoing_15 (by decide) ?_
    obtain ⟨b2, hf⟩ := chk_some hf
    refine ms_16 hx hb I b2 dX7_setGoing_16 (fun H locs I => ?_)
    refine lv_aload_n hx hb dX7_setGoing_17 rfl (lv_at hl 0 rfl) ?_
    refine lv_iload_n hx hb dX7_setGoing_18 rfl (lv_at hl 2 rfl) ?_
    obtain ⟨r3, h3, hf⟩ := bq1_some hf
    refine mcv_i (As := [.int x2]) C0 I (kX7_isHome h3) (cwV 1 C0.2.2.2.2 (gwV wd_899 wd_901 wd_54 wd_73 wd_902) rfl rfl rfl dsc_X7_isHome ⟨Nat.le_of_ble_eq_true rfl, Nat.le_of_ble_eq_true rfl⟩) (mo_0 I) rfl hl.1 rfl (Nat.le_of_ble_eq_true rfl) dX7_setGoing_19 (fun H locs I => ?_)
    refine lv_if_ne (tgt := 157) hx hb dX7_setGoing_22 (by decide) (fun c4 => ?_) (fun c4 => ?_)
    · have hf := inn c4 hf
      refine lv_iinc (v := (x2 + (1 : Int32))) (lv' := [(2, .int (x2 + (1 : Int32))), (0, .ref (g.2.2 0)), (1, .int x1)]) hx hb dX7_setGoing_157 hl (k := 2) rfl rfl (by decide) rfl (fun ls hl => ?_)
      refine lv_goto (tgt := 2) hx hb dX7_setGoing_160 (by decide) ?_
      obtain ⟨rfl, rfl, rfl⟩ := se3 hf
      exact Kt rfl _ _ _ I (lv_sub hl [1, 2, 0] rfl)
    · have hf := ip c4 hf
      refine lv_aload_n hx hb dX7_setGoing_25 rfl (lv_at hl 0 rfl) ?_
      refine lv_iload_n hx hb dX7_setGoing_26 rfl (lv_at hl 2 rfl) ?_
      refine lv_aload_n hx hb dX7_setGoing_27 rfl (lv_at hl 0 rfl) ?_
      refine mg_X7_50_0 C0 I dX7_setGoing_28 ?_
      refine lv_iload_n hx hb dX7_setGoing_31 rfl (lv_at hl 2 rfl) ?_
      obtain ⟨b5, hf⟩ := chk_some hf
      refine ml_12 hx hb I b5 dX7_setGoing_32 ?_
      obtain ⟨r6, h6, hf⟩ := bq1_some hf
      refine mcv_i (As := [.int x2, .int (gR S 11 x2)]) C0 I (kX7_edgeOf h6) (cwV 2 C0.2.2.2.2 (gwV wd_796 wd_798 wd_37 wd_73 wd_799) rfl rfl rfl dsc_X7_edgeOf ⟨Nat.le_of_ble_eq_true rfl, Nat.le_of_ble_eq_true rfl⟩) (mo_0 I) rfl hl.1 rfl (Nat.le_of_ble_eq_true rfl) dX7_setGoing_33 (fun H locs I => ?_)
      refine lv_istore_n (lv' := [(3, .int r6), (0, .ref (g.2.2 0)), (1, .int x1), (2, .int x2)]) hx hb dX7_setGoing_36 rfl hl (by decide) rfl (fun ls hl => ?_)
      refine lv_iconst (v := 1) hx hb dX7_setGoing_37 (by decide) ?_
      refine lv_istore (lv' := [(4, .int (1 : Int32)), (3, .int r6), (0, .ref (g.2.2 0)), (1, .int x1), (2, .int x2)]) hx hb dX7_setGoing_38 hl (by decide) rfl (fun ls hl => ?_)
      refine lv_iconst (v := 0) hx hb dX7_setGoing_40 (by decide) ?_
      refine lv_istore (lv' := [(5, .int (0 : Int32)), (4, .int (1 : Int32)), (3, .int r6), (0, .ref (g.2.2 0)), (1, .int x1), (2, .int x2)]) hx hb dX7_setGoing_41 hl (by decide) rfl (fun ls hl => ?_)
      refine lv_iconst (v := 0) hx hb dX7_setGoing_43 (by decide) ?_
      refine lv_istore (lv' := [(6, .int (0 : Int32)), (5, .int (0 : Int32)), (4, .int (1 : Int32)), (3, .int r6), (0, .ref (g.2.2 0)), (1, .int x1), (2, .int x2)]) hx hb dX7_setGoing_44 hl (by decide) rfl (fun ls hl => ?_)
      obtain ⟨y4_17, y5_17, y6_17, h17, hf⟩ := bq3_some hf
      refine lX7_setGoing_46 C0 hr hk fu h17 I (lv_sub hl [4, 5, 6, 3, 2, 1, 0] rfl) (fun H locs ls I hl => ?_)
      refine lv_aload_n hx hb dX7_setGoing_119 rfl (lv_at hl 0 rfl) ?_
      refine mg_X7_62_0 C0 I dX7_setGoing_120 ?_
      refine lv_iload_n hx hb dX7_setGoing_123 rfl (lv_at hl 2 rfl) ?_
      refine lv_iload hx hb dX7_setGoing_124 (lv_at hl 4 rfl) ?_
      refine lv_if_eq (tgt := 133) hx hb dX7_setGoing_126 (by decide) (fun c18 => ?_) (fun c18 => ?_)
      · have hf := ip c18 hf
        refine lv_iconst (v := 0) hx hb dX7_setGoing_133 (by decide) ?_
        exact tX7_setGoing_134 C0 hr hk Kt Kf hf I (lv_sub hl [0, 1, 2, 5] rfl)
      · have hf := inn c18 hf
        refine lv_iconst (v := 1) hx hb dX7_setGoing_129 (by decide) ?_
        refine lv_goto (tgt := 134) hx hb dX7_setGoing_130 (by decide) ?_
        exact tX7_setGoing_134 C0 hr hk Kt Kf hf I (lv_sub hl [0, 1, 2, 5] rfl)
set_option maxHeartbeats 4000000 in
theorem lX7_setGoing_2 (C0 : CallFix p m c cX7_setGoing 7 s args big RX7) (hr : meth.sig.returnType = none) (hk : meth.locks = false) {x1 : Int32} {S' : St} {y2 : Int32} : ∀ (n : Nat) {S : St} {x2 : Int32}, lp (fun q => bX7_setGoing_2 x1 q.1 q.2) n (S, x2) = some (S', y2) → ∀ {H : Heap} {locs : List Loc}, mI g s S H locs → ∀ {ls : Array Slot}, lv_has ls 7 [(0, .ref (g.2.2 0)), (1, .int x1), (2, .int x2)] → (∀ (H : Heap) (locs : List Loc) (ls : Array Slot), mI g s S' H locs → lv_has ls 7 [(0, .ref (g.2.2 0)), (1, .int x1), (2, .int y2)] → W p l e ({ frames := 1, cells := 0, slots := 0, locals := 24 } : Room) s m args below meth c H locs 0 0 Q (F0 m 163 ls [])) → W p l e ({ frames := 1, cells := 0, slots := 0, locals := 24 } : Room) s m args below meth c H locs 0 0 Q (F0 m 2 ls []) := by
  intro n
  induction n with
  | zero => intro S x2 hf; cases hf
  | succ n ih =>
    intro S x2 hf H locs I ls hl K
    obtain ⟨b, ⟨z0, z1⟩, h1, h2, h3⟩ := lp_some hf
    refine BX7_setGoing_2 C0 hr hk (fun hb1 H locs ls I hl => ?_) (fun hb1 H locs ls I hl => ?_) h1 I hl
    · exact ih (h2 hb1) I hl K
    · have e := h3 hb1
      cases e
      exact K H locs ls I hl
set_option maxHeartbeats 4000000 in
set_option maxRecDepth 100000 in
theorem tX7_setGoing_0 (C0 : CallFix p m c cX7_setGoing 7 s args big RX7) (hr : meth.sig.returnType = none) (hk : meth.locks = false) {x1 : Int32}  (hf : fX7_setGoing S x1 = some S') (I : mI g s S H locs) (hl : lv_has ls 7 [(0, .ref (g.2.2 0)), (1, .int x1)]) : W p l e ({ frames := 1, cells := 0, slots := 0, locals := 24 } : Room) s m args below meth c H locs 0 0 (MQ below (va_Qv (fun S2 => S2 = S') (mB g) (mA g)) args s 0 0 (mA g)) (F0 m 0 ls []) := by
  obtain ⟨hx, hb, hml, -, -⟩ := id C0
  unfold fX7_setGoing at hf
  refine lv_iconst (v := 0) hx hb dX7_setGoing_0 (by decide) ?_
  refine lv_istore_n (lv' := [(2, .int (0 : Int32)), (0, .ref (g.2.2 0)), (1, .int x1)]) hx hb dX7_setGoing_1 rfl hl (by decide) rfl (fun ls hl => ?_)
  obtain ⟨S21, y2_21, h21, hf⟩ := bq2_some hf
  refine lX7_setGoing_2 C0 hr hk fu h21 I (lv_sub hl [1, 2, 0] rfl) (fun H locs ls I hl => ?_)
  obtain rfl := se1 hf
  exact mrv C0 hr hk I dX7_setGoing_163
set_option maxRecDepth 100000 in
theorem kX7_setGoing {x1 : Int32}  (hf : fX7_setGoing S x1 = some S') : Met l yX7_setGoing (Cond.code yX7_setGoing cX7_setGoing 7 none :: big) ({ frames := 1, cells := 0, slots := 0, locals := 24 } : Room) (va_Pc [.ref (g.2.2 0), .int x1] (mB g S)) (va_Qv (fun S2 => S2 = S') (mB g) (mA g)) 0 0 (mA g) := by
  refine Met.ofW (cc := cX7_setGoing) (maxL := 7) (ret := none) (by decide) rfl ?_
  intro p e s m args below meth c s₁ B hml hv
  obtain ⟨rfl, hP, hK, hD⟩ := hv
  have hts0 := atoms_spec (ws := (Cond.code yX7_setGoing cX7_setGoing 7 none :: big)) B.pre
  have C0 : CallFix p m c cX7_setGoing 7 s _ big RX7 := ⟨B.exec, B.bytes, hml, findClass_of_methodNamed B.named, fun w h => hts0 w (List.mem_cons_of_mem _ h)⟩
  have I : mI g s S s.heap [] := ⟨hK, hP, hD, va_S.rf⟩
  have hl := lv_entry ([.ref (g.2.2 0), .int x1]) (n := 7) (Nat.le_of_ble_eq_true rfl)
  rw [lg_entry_eq]
  generalize (lg_sl ([.ref (g.2.2 0), .int x1]) ++ List.replicate (7 - (lg_sl ([.ref (g.2.2 0), .int x1])).length) Slot.unset).toArray = ls at hl ⊢
  have hl : lv_has ls 7 [(0, .ref (g.2.2 0)), (1, .int x1)] := hl
  exact tX7_setGoing_0 C0 B.returns B.notSynchronized hf I (lv_sub hl [0, 1] rfl)
set_option maxHeartbeats 4000000 in
set_option maxRecDepth 100000 in
theorem BX7_goesTick_17 (C0 : CallFix p m c cX7_goesTick 3 s args big RX7) (hr : meth.sig.returnType = none) (hk : meth.locks = false) {x2 : Int32} {b : Bool} {y2 : Int32} (Kt : b = true → ∀ (H : Heap) (locs : List Loc) (ls : Array Slot), mI g s S' H locs → lv_has ls 3 [(0, .ref (g.2.2 0)), (2, .int y2)] → W p l e ({ frames := 2, cells := 0, slots := 0, locals := 50 } : Room) s m args below meth c H locs 0 0 Q (F0 m 17 ls [])) (Kf : b = false → ∀ (H : Heap) (locs : List Loc) (ls : Array Slot), mI g s S' H locs → lv_has ls 3 [(0, .ref (g.2.2 0)), (2, .int y2)] → W p l e ({ frames := 2, cells := 0, slots := 0, locals := 50 } : Room) s m args below meth c H locs 0 0 Q (F0 m 92 ls [])) (hf : bX7_goesTick_17 S x2 = some (b, S', y2)) (I : mI g s S H locs) (hl : lv_has ls 3 [(0, .ref (g.2.2 0)), (2, .int x2)]) : W p l e ({ frames := 2, cells := 0, slots := 0, locals := 50 } : Room) s m args below meth c H locs 0 0 Q (F0 m 17 ls []) := by
  obtain ⟨hx, hb, hml, -, -⟩ := id C0
  unfold bX7_goesTick_17 at hf
  refine lv_iload_n hx hb dX7_goesTick_17 rfl (lv_at hl 1 rfl) ?_
  refine lv_aload_n hx hb dX7_goesTick_18 rfl (lv_at hl 0 rfl) ?_
  refine mg_X7_76_0 C0 I dX7_goesTick_19 ?_
  refine lv_icmp_ge (tgt := 92) hx hb dX7_goesTick_22 (by decide) (fun c2 => ?_) (fun c2 => ?_)
  · have hf := ip c2 hf
    obtain ⟨rfl, rfl, rfl⟩ := se3 hf
    exact Kf rfl _ _ _ I (lv_sub hl [0, 1] rfl)
  · have hf := inn c2 hf
    refine lv_aload_n hx hb dX7_goesTick_25 rfl (lv_at hl 0 rfl) ?_
    refine lv_iload_n hx hb dX7_goesTick_26 rfl (lv_at hl 1 rfl) ?_
    obtain ⟨r3, h3, hf⟩ := bq1_some hf
    refine mcv_i (As := [.int x2]) C0 I (kX7_isHome h3) (cwV 1 C0.2.2.2.2 (gwV wd_899 wd_901 wd_54 wd_73 wd_902) rfl rfl rfl dsc_X7_isHome ⟨Nat.le_of_ble_eq_true rfl, Nat.le_of_ble_eq_true rfl⟩) (mo_0 I) rfl hl.1 rfl (Nat.le_of_ble_eq_true rfl) dX7_goesTick_27 (fun H locs I => ?_)
    refine lv_if_ne (tgt := 86) hx hb dX7_goesTick_30 (by decide) (fun c4 => ?_) (fun c4 => ?_)
    · have hf := inn c4 hf
      refine lv_iinc (v := (x2 + (1 : Int32))) (lv' := [(2, .int (x2 + (1 : Int32))), (0, .ref (g.2.2 0))]) hx hb dX7_goesTick_86 hl (k := 1) rfl rfl (by decide) rfl (fun ls hl => ?_)
      refine lv_goto (tgt := 17) hx hb dX7_goesTick_89 (by decide) ?_
      obtain ⟨rfl, rfl, rfl⟩ := se3 hf
      exact Kt rfl _ _ _ I (lv_sub hl [1, 0] rfl)
    · have hf := ip c4 hf
      refine lv_aload_n hx hb dX7_goesTick_33 rfl (lv_at hl 0 rfl) ?_
      refine mg_X7_62_0 C0 I dX7_goesTick_34 ?_
      refine lv_iload_n hx hb dX7_goesTick_37 rfl (lv_at hl 1 rfl) ?_
      obtain ⟨b5, hf⟩ := chk_some hf
      refine ml_16 hx hb I b5 dX7_goesTick_38 ?_
      refine lv_iconst (v := 1) hx hb dX7_goesTick_39 (by decide) ?_
      refine lv_icmp_ne (tgt := 76) hx hb dX7_goesTick_40 (by decide) (fun c6 => ?_) (fun c6 => ?_)
      · have hf := inn c6 hf
        refine lv_aload_n hx hb dX7_goesTick_76 rfl (lv_at hl 0 rfl) ?_
        refine mg_X7_59_0 C0 I dX7_goesTick_77 ?_
        refine lv_iload_n hx hb dX7_goesTick_80 rfl (lv_at hl 1 rfl) ?_
        refine lv_dup2_11 hx hb dX7_goesTick_81 rfl rfl ?_
        obtain ⟨b7, hf⟩ := chk_some hf
        refine ml_15 hx hb I b7 dX7_goesTick_82 ?_
        refine lv_iconst (v := 1) hx hb dX7_goesTick_83 (by decide) ?_
        refine lv_iadd hx hb dX7_goesTick_84 ?_
        obtain ⟨b8, hf⟩ := chk_some hf
        refine ms_15 hx hb I b8 dX7_goesTick_85 (fun H locs I => ?_)
        refine lv_iinc (v := (x2 + (1 : Int32))) (lv' := [(2, .int (x2 + (1 : Int32))), (0, .ref (g.2.2 0))]) hx hb dX7_goesTick_86 hl (k := 1) rfl rfl (by decide) rfl (fun ls hl => ?_)
        refine lv_goto (tgt := 17) hx hb dX7_goesTick_89 (by decide) ?_
        obtain ⟨rfl, rfl, rfl⟩ := se3 hf
        exact Kt rfl _ _ _ I (lv_sub hl [1, 0] rfl)
      · have hf := ip c6 hf
        refine lv_aload_n hx hb dX7_goesTick_43 rfl (lv_at hl 0 rfl) ?_
        refine mg_X7_50_0 C0 I dX7_goesTick_44 ?_
        refine lv_iload_n hx hb dX7_goesTick_47 rfl (lv_at hl 1 rfl) ?_
        refine lv_dup2_11 hx hb dX7_goesTick_48 rfl rfl ?_
        obtain ⟨b9, hf⟩ := chk_some hf
        refine ml_12 hx hb I b9 dX7_goesTick_49 ?_
        refine lv_iconst (v := 1) hx hb dX7_goesTick_50 (by decide) ?_
        refine lv_iadd hx hb dX7_goesTick_51 ?_
        obtain ⟨b10, hf⟩ := chk_some hf
        refine ms_12 hx hb I b10 dX7_goesTick_52 (fun H locs I => ?_)
        refine lv_aload_n hx hb dX7_goesTick_53 rfl (lv_at hl 0 rfl) ?_
        refine mg_X7_53_0 C0 I dX7_goesTick_54 ?_
        refine lv_iload_n hx hb dX7_goesTick_57 rfl (lv_at hl 1 rfl) ?_
        refine lv_aload_n hx hb dX7_goesTick_58 rfl (lv_at hl 0 rfl) ?_
        refine mg_X7_208_0 C0 I dX7_goesTick_59 ?_
        obtain ⟨b11, hf⟩ := chk_some hf
        refine ms_13 hx hb I b11 dX7_goesTick_62 (fun H locs I => ?_)
        refine lv_aload_n hx hb dX7_goesTick_63 rfl (lv_at hl 0 rfl) ?_
        refine mg_X7_56_0 C0 I dX7_goesTick_64 ?_
        refine lv_iload_n hx hb dX7_goesTick_67 rfl (lv_at hl 1 rfl) ?_
        refine lv_aload_n hx hb dX7_goesTick_68 rfl (lv_at hl 0 rfl) ?_
        refine mg_X7_208_0 C0 I dX7_goesTick_69 ?_
        obtain ⟨b12, hf⟩ := chk_some hf
        refine ms_14 hx hb I b12 dX7_goesTick_72 (fun H locs I => ?_)
        refine lv_goto (tgt := 86) hx hb dX7_goesTick_73 (by decide) ?_
        refine lv_iinc (v := (x2 + (1 : Int32))) (lv' := [(2, .int (x2 + (1 : Int32))), (0, .ref (g.2.2 0))]) hx hb dX7_goesTick_86 hl (k := 1) rfl rfl (by decide) rfl (fun ls hl => ?_)
        refine lv_goto (tgt := 17) hx hb dX7_goesTick_89 (by decide) ?_
        obtain ⟨rfl, rfl, rfl⟩ := se3 hf
        exact Kt rfl _ _ _ I (lv_sub hl [1, 0] rfl)
set_option maxHeartbeats 4000000 in
theorem lX7_goesTick_17 (C0 : CallFix p m c cX7_goesTick 3 s args big RX7) (hr : meth.sig.returnType = none) (hk : meth.locks = false)  {S' : St} {y2 : Int32} : ∀ (n : Nat) {S : St} {x2 : Int32}, lp (fun q => bX7_goesTick_17 q.1 q.2) n (S, x2) = some (S', y2) → ∀ {H : Heap} {locs : List Loc}, mI g s S H locs → ∀ {ls : Array Slot}, lv_has ls 3 [(0, .ref (g.2.2 0)), (2, .int x2)] → (∀ (H : Heap) (locs : List Loc) (ls : Array Slot), mI g s S' H locs → lv_has ls 3 [(0, .ref (g.2.2 0)), (2, .int y2)] → W p l e ({ frames := 2, cells := 0, slots := 0, locals := 50 } : Room) s m args below meth c H locs 0 0 Q (F0 m 92 ls [])) → W p l e ({ frames := 2, cells := 0, slots := 0, locals := 50 } : Room) s m args below meth c H locs 0 0 Q (F0 m 17 ls []) := by
  intro n
  induction n with
  | zero => intro S x2 hf; cases hf
  | succ n ih =>
    intro S x2 hf H locs I ls hl K
    obtain ⟨b, ⟨z0, z1⟩, h1, h2, h3⟩ := lp_some hf
    refine BX7_goesTick_17 C0 hr hk (fun hb1 H locs ls I hl => ?_) (fun hb1 H locs ls I hl => ?_) h1 I hl
    · exact ih (h2 hb1) I hl K
    · have e := h3 hb1
      cases e
      exact K H locs ls I hl
set_option maxHeartbeats 4000000 in
set_option maxRecDepth 100000 in
theorem tX7_goesTick_0 (C0 : CallFix p m c cX7_goesTick 3 s args big RX7) (hr : meth.sig.returnType = none) (hk : meth.locks = false) {x1 : Int32}  (hf : fX7_goesTick S x1 = some S') (I : mI g s S H locs) (hl : lv_has ls 3 [(0, .ref (g.2.2 0)), (1, .int x1)]) : W p l e ({ frames := 2, cells := 0, slots := 0, locals := 50 } : Room) s m args below meth c H locs 0 0 (MQ below (va_Qv (fun S2 => S2 = S') (mB g) (mA g)) args s 0 0 (mA g)) (F0 m 0 ls []) := by
  obtain ⟨hx, hb, hml, -, -⟩ := id C0
  unfold fX7_goesTick at hf
  refine lv_aload_n hx hb dX7_goesTick_0 rfl (lv_at hl 0 rfl) ?_
  refine lv_dup hx hb dX7_goesTick_1 rfl ?_
  refine mg_X7_208_0 C0 I dX7_goesTick_2 ?_
  refine lv_iconst (v := 1) hx hb dX7_goesTick_5 (by decide) ?_
  refine lv_iadd hx hb dX7_goesTick_6 ?_
  refine mp_X7_208_0 C0 I dX7_goesTick_7 (fun H locs I => ?_)
  refine lv_aload_n hx hb dX7_goesTick_10 rfl (lv_at hl 0 rfl) ?_
  refine lv_iload_n hx hb dX7_goesTick_11 rfl (lv_at hl 1 rfl) ?_
  obtain ⟨S1, h1, hf⟩ := bq1_some hf
  refine mcv_v (As := [.int x1]) C0 I (kX7_setGoing h1) (cwV 1 C0.2.2.2.2 (gwV wd_907 wd_909 wd_56 wd_73 wd_910) rfl rfl rfl dsc_X7_setGoing ⟨Nat.le_of_ble_eq_true rfl, Nat.le_of_ble_eq_true rfl⟩) (mo_0 I) rfl hl.1 rfl (Nat.le_of_ble_eq_true rfl) dX7_goesTick_12 (fun H locs I => ?_)
  refine lv_iconst (v := 0) hx hb dX7_goesTick_15 (by decide) ?_
  refine lv_istore_n (lv' := [(2, .int (0 : Int32)), (0, .ref (g.2.2 0)), (1, .int x1)]) hx hb dX7_goesTick_16 rfl hl (by decide) rfl (fun ls hl => ?_)
  obtain ⟨S13, y2_13, h13, hf⟩ := bq2_some hf
  refine lX7_goesTick_17 C0 hr hk fu h13 I (lv_sub hl [1, 0] rfl) (fun H locs ls I hl => ?_)
  obtain rfl := se1 hf
  exact mrv C0 hr hk I dX7_goesTick_92
set_option maxRecDepth 100000 in
theorem kX7_goesTick {x1 : Int32}  (hf : fX7_goesTick S x1 = some S') : Met l yX7_goesTick (Cond.code yX7_goesTick cX7_goesTick 3 none :: big) ({ frames := 2, cells := 0, slots := 0, locals := 50 } : Room) (va_Pc [.ref (g.2.2 0), .int x1] (mB g S)) (va_Qv (fun S2 => S2 = S') (mB g) (mA g)) 0 0 (mA g) := by
  refine Met.ofW (cc := cX7_goesTick) (maxL := 3) (ret := none) (by decide) rfl ?_
  intro p e s m args below meth c s₁ B hml hv
  obtain ⟨rfl, hP, hK, hD⟩ := hv
  have hts0 := atoms_spec (ws := (Cond.code yX7_goesTick cX7_goesTick 3 none :: big)) B.pre
  have C0 : CallFix p m c cX7_goesTick 3 s _ big RX7 := ⟨B.exec, B.bytes, hml, findClass_of_methodNamed B.named, fun w h => hts0 w (List.mem_cons_of_mem _ h)⟩
  have I : mI g s S s.heap [] := ⟨hK, hP, hD, va_S.rf⟩
  have hl := lv_entry ([.ref (g.2.2 0), .int x1]) (n := 3) (Nat.le_of_ble_eq_true rfl)
  rw [lg_entry_eq]
  generalize (lg_sl ([.ref (g.2.2 0), .int x1]) ++ List.replicate (3 - (lg_sl ([.ref (g.2.2 0), .int x1])).length) Slot.unset).toArray = ls at hl ⊢
  have hl : lv_has ls 3 [(0, .ref (g.2.2 0)), (1, .int x1)] := hl
  exact tX7_goesTick_0 C0 B.returns B.notSynchronized hf I (lv_sub hl [0, 1] rfl)
set_option maxHeartbeats 4000000 in
set_option maxRecDepth 100000 in
theorem BX7_runs_16 (C0 : CallFix p m c cX7_runs 4 s args big RX7) (hr : meth.sig.returnType = none) (hk : meth.locks = false) {x1 : Int32} {x2 : Int32} {x3 : Int32} {b : Bool} {y3 : Int32} (Kt : b = true → ∀ (H : Heap) (locs : List Loc) (ls : Array Slot), mI g s S' H locs → lv_has ls 4 [(0, .ref (g.2.2 0)), (1, .int x1), (2, .int x2), (3, .int y3)] → W p l e ({ frames := 3, cells := 0, slots := 0, locals := 72 } : Room) s m args below meth c H locs 0 0 Q (F0 m 16 ls [])) (Kf : b = false → ∀ (H : Heap) (locs : List Loc) (ls : Array Slot), mI g s S' H locs → lv_has ls 4 [(0, .ref (g.2.2 0)), (1, .int x1), (2, .int x2), (3, .int y3)] → W p l e ({ frames := 3, cells := 0, slots := 0, locals := 72 } : Room) s m args below meth c H locs 0 0 Q (F0 m 58 ls [])) (hf : bX7_runs_16 S x3 = some (b, S', y3)) (I : mI g s S H locs) (hl : lv_has ls 4 [(0, .ref (g.2.2 0)), (1, .int x1), (2, .int x2), (3, .int x3)]) : W p l e ({ frames := 3, cells := 0, slots := 0, locals := 72 } : Room) s m args below meth c H locs 0 0 Q (F0 m 16 ls []) := by
  obtain ⟨hx, hb, hml, -, -⟩ := id C0
  unfold bX7_runs_16 at hf
  refine lv_iload_n hx hb dX7_runs_16 rfl (lv_at hl 3 rfl) ?_
  refine lv_aload_n hx hb dX7_runs_17 rfl (lv_at hl 0 rfl) ?_
  refine mg_X7_76_0 C0 I dX7_runs_18 ?_
  refine lv_icmp_ge (tgt := 58) hx hb dX7_runs_21 (by decide) (fun c2 => ?_) (fun c2 => ?_)
  · have hf := ip c2 hf
    obtain ⟨rfl, rfl, rfl⟩ := se3 hf
    exact Kf rfl _ _ _ I (lv_sub hl [0, 1, 2, 3] rfl)
  · have hf := inn c2 hf
    refine lv_aload_n hx hb dX7_runs_24 rfl (lv_at hl 0 rfl) ?_
    refine mg_X7_50_0 C0 I dX7_runs_25 ?_
    refine lv_iload_n hx hb dX7_runs_28 rfl (lv_at hl 3 rfl) ?_
    refine lv_iconst (v := 0) hx hb dX7_runs_29 (by decide) ?_
    obtain ⟨b3, hf⟩ := chk_some hf
    refine ms_12 hx hb I b3 dX7_runs_30 (fun H locs I => ?_)
    refine lv_aload_n hx hb dX7_runs_31 rfl (lv_at hl 0 rfl) ?_
    refine mg_X7_53_0 C0 I dX7_runs_32 ?_
    refine lv_iload_n hx hb dX7_runs_35 rfl (lv_at hl 3 rfl) ?_
    refine lv_iconst (v := 0) hx hb dX7_runs_36 (by decide) ?_
    obtain ⟨b4, hf⟩ := chk_some hf
    refine ms_13 hx hb I b4 dX7_runs_37 (fun H locs I => ?_)
    refine lv_aload_n hx hb dX7_runs_38 rfl (lv_at hl 0 rfl) ?_
    refine mg_X7_56_0 C0 I dX7_runs_39 ?_
    refine lv_iload_n hx hb dX7_runs_42 rfl (lv_at hl 3 rfl) ?_
    refine lv_iconst (v := 0) hx hb dX7_runs_43 (by decide) ?_
    obtain ⟨b5, hf⟩ := chk_some hf
    refine ms_14 hx hb I b5 dX7_runs_44 (fun H locs I => ?_)
    refine lv_aload_n hx hb dX7_runs_45 rfl (lv_at hl 0 rfl) ?_
    refine mg_X7_59_0 C0 I dX7_runs_46 ?_
    refine lv_iload_n hx hb dX7_runs_49 rfl (lv_at hl 3 rfl) ?_
    refine lv_iconst (v := 0) hx hb dX7_runs_50 (by decide) ?_
    obtain ⟨b6, hf⟩ := chk_some hf
    refine ms_15 hx hb I b6 dX7_runs_51 (fun H locs I => ?_)
    refine lv_iinc (v := (x3 + (1 : Int32))) (lv' := [(3, .int (x3 + (1 : Int32))), (0, .ref (g.2.2 0)), (1, .int x1), (2, .int x2)]) hx hb dX7_runs_52 hl (k := 3) rfl rfl (by decide) rfl (fun ls hl => ?_)
    refine lv_goto (tgt := 16) hx hb dX7_runs_55 (by decide) ?_
    obtain ⟨rfl, rfl, rfl⟩ := se3 hf
    exact Kt rfl _ _ _ I (lv_sub hl [1, 2, 3, 0] rfl)
set_option maxHeartbeats 4000000 in
theorem lX7_runs_16 (C0 : CallFix p m c cX7_runs 4 s args big RX7) (hr : meth.sig.returnType = none) (hk : meth.locks = false) {x1 : Int32} {x2 : Int32} {S' : St} {y3 : Int32} : ∀ (n : Nat) {S : St} {x3 : Int32}, lp (fun q => bX7_runs_16 q.1 q.2) n (S, x3) = some (S', y3) → ∀ {H : Heap} {locs : List Loc}, mI g s S H locs → ∀ {ls : Array Slot}, lv_has ls 4 [(0, .ref (g.2.2 0)), (1, .int x1), (2, .int x2), (3, .int x3)] → (∀ (H : Heap) (locs : List Loc) (ls : Array Slot), mI g s S' H locs → lv_has ls 4 [(0, .ref (g.2.2 0)), (1, .int x1), (2, .int x2), (3, .int y3)] → W p l e ({ frames := 3, cells := 0, slots := 0, locals := 72 } : Room) s m args below meth c H locs 0 0 Q (F0 m 58 ls [])) → W p l e ({ frames := 3, cells := 0, slots := 0, locals := 72 } : Room) s m args below meth c H locs 0 0 Q (F0 m 16 ls []) := by
  intro n
  induction n with
  | zero => intro S x3 hf; cases hf
  | succ n ih =>
    intro S x3 hf H locs I ls hl K
    obtain ⟨b, ⟨z0, z1⟩, h1, h2, h3⟩ := lp_some hf
    refine BX7_runs_16 C0 hr hk (fun hb1 H locs ls I hl => ?_) (fun hb1 H locs ls I hl => ?_) h1 I hl
    · exact ih (h2 hb1) I hl K
    · have e := h3 hb1
      cases e
      exact K H locs ls I hl
set_option maxHeartbeats 4000000 in
set_option maxRecDepth 100000 in
theorem BX7_runs_58 (C0 : CallFix p m c cX7_runs 4 s args big RX7) (hr : meth.sig.returnType = none) (hk : meth.locks = false) {x1 : Int32} {x2 : Int32} {b : Bool}  (Kt : b = true → ∀ (H : Heap) (locs : List Loc) (ls : Array Slot), mI g s S' H locs → lv_has ls 4 [(0, .ref (g.2.2 0)), (1, .int x1), (2, .int x2)] → W p l e ({ frames := 3, cells := 0, slots := 0, locals := 72 } : Room) s m args below meth c H locs 0 0 Q (F0 m 58 ls [])) (Kf : b = false → ∀ (H : Heap) (locs : List Loc) (ls : Array Slot), mI g s S' H locs → lv_has ls 4 [(0, .ref (g.2.2 0)), (1, .int x1), (2, .int x2)] → W p l e ({ frames := 3, cells := 0, slots := 0, locals := 72 } : Room) s m args below meth c H locs 0 0 Q (F0 m 81 ls [])) (hf : bX7_runs_58 x1 x2 S = some (b, S')) (I : mI g s S H locs) (hl : lv_has ls 4 [(0, .ref (g.2.2 0)), (1, .int x1), (2, .int x2)]) : W p l e ({ frames := 3, cells := 0, slots := 0, locals := 72 } : Room) s m args below meth c H locs 0 0 Q (F0 m 58 ls []) := by
  obtain ⟨hx, hb, hml, -, -⟩ := id C0
  unfold bX7_runs_58 at hf
  refine lv_aload_n hx hb dX7_runs_58 rfl (lv_at hl 0 rfl) ?_
  refine mg_X7_208_0 C0 I dX7_runs_59 ?_
  refine lv_iload_n hx hb dX7_runs_62 rfl (lv_at hl 2 rfl) ?_
  refine lv_icmp_ge (tgt := 81) hx hb dX7_runs_63 (by decide) (fun c8 => ?_) (fun c8 => ?_)
  · have hf := ip c8 hf
    obtain ⟨rfl, rfl⟩ := se2 hf
    exact Kf rfl _ _ _ I (lv_sub hl [0, 1, 2] rfl)
  · have hf := inn c8 hf
    refine lv_aload_n hx hb dX7_runs_66 rfl (lv_at hl 0 rfl) ?_
    obtain ⟨r9, h9, hf⟩ := bq1_some hf
    refine mcv_i (As := []) C0 I (kX7_allHome h9) (cwV 0 C0.2.2.2.2 (gwV wd_895 wd_897 wd_53 wd_73 wd_898) rfl rfl rfl dsc_X7_allHome ⟨Nat.le_of_ble_eq_true rfl, Nat.le_of_ble_eq_true rfl⟩) (mo_0 I) rfl hl.1 rfl (Nat.le_of_ble_eq_true rfl) dX7_runs_67 (fun H locs I => ?_)
    refine lv_if_ne (tgt := 81) hx hb dX7_runs_70 (by decide) (fun c10 => ?_) (fun c10 => ?_)
    · have hf := inn c10 hf
      obtain ⟨rfl, rfl⟩ := se2 hf
      exact Kf rfl _ _ _ I (lv_sub hl [0, 1, 2] rfl)
    · have hf := ip c10 hf
      refine lv_aload_n hx hb dX7_runs_73 rfl (lv_at hl 0 rfl) ?_
      refine lv_iload_n hx hb dX7_runs_74 rfl (lv_at hl 1 rfl) ?_
      obtain ⟨S11, h11, hf⟩ := bq1_some hf
      refine mcv_v (As := [.int x1]) C0 I (kX7_goesTick h11) (cwV 1 C0.2.2.2.2 (gwV wd_903 wd_905 wd_55 wd_73 wd_906) rfl rfl rfl dsc_X7_goesTick ⟨Nat.le_of_ble_eq_true rfl, Nat.le_of_ble_eq_true rfl⟩) (mo_0 I) rfl hl.1 rfl (Nat.le_of_ble_eq_true rfl) dX7_runs_75 (fun H locs I => ?_)
      refine lv_goto (tgt := 58) hx hb dX7_runs_78 (by decide) ?_
      obtain ⟨rfl, rfl⟩ := se2 hf
      exact Kt rfl _ _ _ I (lv_sub hl [0, 1, 2] rfl)
set_option maxHeartbeats 4000000 in
theorem lX7_runs_58 (C0 : CallFix p m c cX7_runs 4 s args big RX7) (hr : meth.sig.returnType = none) (hk : meth.locks = false) {x1 : Int32} {x2 : Int32} {S' : St}  : ∀ (n : Nat) {S : St}, lp (fun q => bX7_runs_58 x1 x2 q) n S = some S' → ∀ {H : Heap} {locs : List Loc}, mI g s S H locs → ∀ {ls : Array Slot}, lv_has ls 4 [(0, .ref (g.2.2 0)), (1, .int x1), (2, .int x2)] → (∀ (H : Heap) (locs : List Loc) (ls : Array Slot), mI g s S' H locs → lv_has ls 4 [(0, .ref (g.2.2 0)), (1, .int x1), (2, .int x2)] → W p l e ({ frames := 3, cells := 0, slots := 0, locals := 72 } : Room) s m args below meth c H locs 0 0 Q (F0 m 81 ls [])) → W p l e ({ frames := 3, cells := 0, slots := 0, locals := 72 } : Room) s m args below meth c H locs 0 0 Q (F0 m 58 ls []) := by
  intro n
  induction n with
  | zero => intro S hf; cases hf
  | succ n ih =>
    intro S hf H locs I ls hl K
    obtain ⟨b, z0, h1, h2, h3⟩ := lp_some hf
    refine BX7_runs_58 C0 hr hk (fun hb1 H locs ls I hl => ?_) (fun hb1 H locs ls I hl => ?_) h1 I hl
    · exact ih (h2 hb1) I hl K
    · have e := h3 hb1
      cases e
      exact K H locs ls I hl
set_option maxHeartbeats 4000000 in
set_option maxRecDepth 100000 in
theorem tX7_runs_0 (C0 : CallFix p m c cX7_runs 4 s args big RX7) (hr : meth.sig.returnType = none) (hk : meth.locks = false) {x1 : Int32} {x2 : Int32}  (hf : fX7_runs S x1 x2 = some S') (I : mI g s S H locs) (hl : lv_has ls 4 [(0, .ref (g.2.2 0)), (1, .int x1), (2, .int x2)]) : W p l e ({ frames := 3, cells := 0, slots := 0, locals := 72 } : Room) s m args below meth c H locs 0 0 (MQ below (va_Qv (fun S2 => S2 = S') (mB g) (mA g)) args s 0 0 (mA g)) (F0 m 0 ls []) := by
  obtain ⟨hx, hb, hml, -, -⟩ := id C0
  unfold fX7_runs at hf
  refine lv_aload_n hx hb dX7_runs_0 rfl (lv_at hl 0 rfl) ?_
  obtain ⟨S1, h1, hf⟩ := bq1_some hf
  refine mcv_v (As := []) C0 I (kX7_setWays h1) (cwV 0 C0.2.2.2.2 (gwV wd_780 wd_782 wd_33 wd_73 wd_783) rfl rfl rfl dsc_X7_setWays ⟨Nat.le_of_ble_eq_true rfl, Nat.le_of_ble_eq_true rfl⟩) (mo_0 I) rfl hl.1 rfl (Nat.le_of_ble_eq_true rfl) dX7_runs_1 (fun H locs I => ?_)
  refine lv_aload_n hx hb dX7_runs_4 rfl (lv_at hl 0 rfl) ?_
  refine lv_iconst (v := 0) hx hb dX7_runs_5 (by decide) ?_
  refine mp_X7_208_0 C0 I dX7_runs_6 (fun H locs I => ?_)
  refine lv_aload_n hx hb dX7_runs_9 rfl (lv_at hl 0 rfl) ?_
  refine lv_iconst (v := 0) hx hb dX7_runs_10 (by decide) ?_
  refine mp_X7_205_0 C0 I dX7_runs_11 (fun H locs I => ?_)
  refine lv_iconst (v := 0) hx hb dX7_runs_14 (by decide) ?_
  refine lv_istore_n (lv' := [(3, .int (0 : Int32)), (0, .ref (g.2.2 0)), (1, .int x1), (2, .int x2)]) hx hb dX7_runs_15 rfl hl (by decide) rfl (fun ls hl => ?_)
  obtain ⟨S7, y3_7, h7, hf⟩ := bq2_some hf
  refine lX7_runs_16 C0 hr hk fu h7 I (lv_sub hl [1, 2, 3, 0] rfl) (fun H locs ls I hl => ?_)
  obtain ⟨S12, h12, hf⟩ := bq1_some hf
  refine lX7_runs_58 C0 hr hk fu h12 I (lv_sub hl [0, 1, 2] rfl) (fun H locs ls I hl => ?_)
  obtain rfl := se1 hf
  exact mrv C0 hr hk I dX7_runs_81
set_option maxRecDepth 100000 in
theorem kX7_runs {x1 : Int32} {x2 : Int32}  (hf : fX7_runs S x1 x2 = some S') : Met l yX7_runs (Cond.code yX7_runs cX7_runs 4 none :: big) ({ frames := 3, cells := 0, slots := 0, locals := 72 } : Room) (va_Pc [.ref (g.2.2 0), .int x1, .int x2] (mB g S)) (va_Qv (fun S2 => S2 = S') (mB g) (mA g)) 0 0 (mA g) := by
  refine Met.ofW (cc := cX7_runs) (maxL := 4) (ret := none) (by decide) rfl ?_
  intro p e s m args below meth c s₁ B hml hv
  obtain ⟨rfl, hP, hK, hD⟩ := hv
  have hts0 := atoms_spec (ws := (Cond.code yX7_runs cX7_runs 4 none :: big)) B.pre
  have C0 : CallFix p m c cX7_runs 4 s _ big RX7 := ⟨B.exec, B.bytes, hml, findClass_of_methodNamed B.named, fun w h => hts0 w (List.mem_cons_of_mem _ h)⟩
  have I : mI g s S s.heap [] := ⟨hK, hP, hD, va_S.rf⟩
  have hl := lv_entry ([.ref (g.2.2 0), .int x1, .int x2]) (n := 4) (Nat.le_of_ble_eq_true rfl)
  rw [lg_entry_eq]
  generalize (lg_sl ([.ref (g.2.2 0), .int x1, .int x2]) ++ List.replicate (4 - (lg_sl ([.ref (g.2.2 0), .int x1, .int x2])).length) Slot.unset).toArray = ls at hl ⊢
  have hl : lv_has ls 4 [(0, .ref (g.2.2 0)), (1, .int x1), (2, .int x2)] := hl
  exact tX7_runs_0 C0 B.returns B.notSynchronized hf I (lv_sub hl [0, 1, 2] rfl)
end
