section
variable {p : Program} {l : Launch} {e : Env} {s : State} {m : MethodId} {args : Array Value} {below : List Frame} {meth : Method} {c : Code} {Q : State → Prop} {g : xG} {H : Heap} {locs : List Loc} {ls : Array Slot} {S S' : St}
set_option maxHeartbeats 4000000 in
set_option maxRecDepth 100000 in
theorem tX7_in_0 (C0 : CallFix p m c cX7_in 3 s args big RX7) (hr : meth.sig.returnType = (some .boolean)) (hk : meth.locks = false) {x0 : Int32} {x1 : Int32} {x2 : Int32} {rr : Int32}  (hf : fX7_in S x0 x1 x2 = some rr) (I : mI g s S H locs) (hl : lv_has ls 3 [(0, .int x0), (1, .int x1), (2, .int x2)]) : W p l e ({ frames := 0, cells := 0, slots := 0, locals := 0 } : Room) s m args below meth c H locs 0 0 (MQ below (va_Qi (fun r' S2 => r' = rr ∧ S2 = S) (mB g) (mA g)) args s 0 0 (mA g)) (F0 m 0 ls []) := by
  obtain ⟨hx, hb, hml, -, -⟩ := id C0
  unfold fX7_in at hf
  refine lv_iload_n hx hb dX7_in_0 rfl (lv_at hl 0 rfl) ?_
  refine lv_iload_n hx hb dX7_in_1 rfl (lv_at hl 1 rfl) ?_
  refine lv_icmp_lt (tgt := 14) hx hb dX7_in_2 (by decide) (fun c1 => ?_) (fun c1 => ?_)
  · have hf := ip c1 hf
    refine lv_iconst (v := 0) hx hb dX7_in_14 (by decide) ?_
    obtain rfl := se1 hf
    exact mrz C0 hr hk rfl I dX7_in_15
  · have hf := inn c1 hf
    refine lv_iload_n hx hb dX7_in_5 rfl (lv_at hl 0 rfl) ?_
    refine lv_iload_n hx hb dX7_in_6 rfl (lv_at hl 2 rfl) ?_
    refine lv_icmp_gt (tgt := 14) hx hb dX7_in_7 (by decide) (fun c2 => ?_) (fun c2 => ?_)
    · have hf := ip c2 hf
      refine lv_iconst (v := 0) hx hb dX7_in_14 (by decide) ?_
      obtain rfl := se1 hf
      exact mrz C0 hr hk rfl I dX7_in_15
    · have hf := inn c2 hf
      refine lv_iconst (v := 1) hx hb dX7_in_10 (by decide) ?_
      refine lv_goto (tgt := 15) hx hb dX7_in_11 (by decide) ?_
      obtain rfl := se1 hf
      exact mrz C0 hr hk rfl I dX7_in_15
set_option maxRecDepth 100000 in
theorem kX7_in {x0 : Int32} {x1 : Int32} {x2 : Int32} {rr : Int32} (hf : fX7_in S x0 x1 x2 = some rr) : Met l yX7_in (Cond.code yX7_in cX7_in 3 (some .boolean) :: big) ({ frames := 0, cells := 0, slots := 0, locals := 0 } : Room) (va_Pc [.int x0, .int x1, .int x2] (mB g S)) (va_Qi (fun r' S2 => r' = rr ∧ S2 = S) (mB g) (mA g)) 0 0 (mA g) := by
  refine Met.ofW (cc := cX7_in) (maxL := 3) (ret := (some .boolean)) (by decide) rfl ?_
  intro p e s m args below meth c s₁ B hml hv
  obtain ⟨rfl, hP, hK, hD⟩ := hv
  have hts0 := atoms_spec (ws := (Cond.code yX7_in cX7_in 3 (some .boolean) :: big)) B.pre
  have C0 : CallFix p m c cX7_in 3 s _ big RX7 := ⟨B.exec, B.bytes, hml, findClass_of_methodNamed B.named, fun w h => hts0 w (List.mem_cons_of_mem _ h)⟩
  have I : mI g s S s.heap [] := ⟨hK, hP, hD, va_S.rf⟩
  have hl := lv_entry ([.int x0, .int x1, .int x2]) (n := 3) (Nat.le_of_ble_eq_true rfl)
  rw [lg_entry_eq]
  generalize (lg_sl ([.int x0, .int x1, .int x2]) ++ List.replicate (3 - (lg_sl ([.int x0, .int x1, .int x2])).length) Slot.unset).toArray = ls at hl ⊢
  have hl : lv_has ls 3 [(0, .int x0), (1, .int x1), (2, .int x2)] := hl
  exact tX7_in_0 C0 B.returns B.notSynchronized hf I (lv_sub hl [0, 1, 2] rfl)
set_option maxHeartbeats 4000000 in
set_option maxRecDepth 100000 in
theorem BX7_leavesState_109 (C0 : CallFix p m c cX7_leavesState 3 s args big RX7) (hr : meth.sig.returnType = none) (hk : meth.locks = false) {x1 : Int32} {x2 : Int32} {b : Bool} {y2 : Int32} (Kt : b = true → ∀ (H : Heap) (locs : List Loc) (ls : Array Slot), mI g s S' H locs → lv_has ls 3 [(0, .ref (g.2.2 0)), (1, .int x1), (2, .int y2)] → W p l e ({ frames := 0, cells := 0, slots := 0, locals := 0 } : Room) s m args below meth c H locs 0 0 Q (F0 m 109 ls [])) (Kf : b = false → ∀ (H : Heap) (locs : List Loc) (ls : Array Slot), mI g s S' H locs → lv_has ls 3 [(0, .ref (g.2.2 0)), (1, .int x1), (2, .int y2)] → W p l e ({ frames := 0, cells := 0, slots := 0, locals := 0 } : Room) s m args below meth c H locs 0 0 Q (F0 m 188 ls [])) (hf : bX7_leavesState_109 x1 S x2 = some (b, S', y2)) (I : mI g s S H locs) (hl : lv_has ls 3 [(0, .ref (g.2.2 0)), (1, .int x1), (2, .int x2)]) : W p l e ({ frames := 0, cells := 0, slots := 0, locals := 0 } : Room) s m args below meth c H locs 0 0 Q (F0 m 109 ls []) := by
  obtain ⟨hx, hb, hml, -, -⟩ := id C0
  unfold bX7_leavesState_109 at hf
  refine lv_iload_n hx hb dX7_leavesState_109 rfl (lv_at hl 2 rfl) ?_
  refine lv_bipush (v := 16) hx hb dX7_leavesState_110 (by decide) ?_
  refine lv_icmp_ge (tgt := 188) hx hb dX7_leavesState_112 (by decide) (fun c6 => ?_) (fun c6 => ?_)
  · have hf := ip c6 hf
    obtain ⟨rfl, rfl, rfl⟩ := se3 hf
    exact Kf rfl _ _ _ I (lv_sub hl [0, 1, 2] rfl)
  · have hf := inn c6 hf
    refine lv_aload_n hx hb dX7_leavesState_115 rfl (lv_at hl 0 rfl) ?_
    refine mg_X7_32_0 C0 I dX7_leavesState_116 ?_
    refine lv_iload_n hx hb dX7_leavesState_119 rfl (lv_at hl 1 rfl) ?_
    refine lv_iconst (v := 4) hx hb dX7_leavesState_120 (by decide) ?_
    refine lv_iadd hx hb dX7_leavesState_121 ?_
    refine lv_iload_n hx hb dX7_leavesState_122 rfl (lv_at hl 2 rfl) ?_
    refine lv_iadd hx hb dX7_leavesState_123 ?_
    refine lv_aload_n hx hb dX7_leavesState_124 rfl (lv_at hl 0 rfl) ?_
    refine mg_X7_20_0 C0 I dX7_leavesState_125 ?_
    refine lv_iload_n hx hb dX7_leavesState_128 rfl (lv_at hl 2 rfl) ?_
    obtain ⟨b7, hf⟩ := chk_some hf
    refine ml_3 hx hb I b7 dX7_leavesState_129 ?_
    obtain ⟨b8, hf⟩ := chk_some hf
    refine ms_7 hx hb I b8 dX7_leavesState_130 (fun H locs I => ?_)
    refine lv_aload_n hx hb dX7_leavesState_131 rfl (lv_at hl 0 rfl) ?_
    refine mg_X7_32_0 C0 I dX7_leavesState_132 ?_
    refine lv_iload_n hx hb dX7_leavesState_135 rfl (lv_at hl 1 rfl) ?_
    refine lv_bipush (v := 20) hx hb dX7_leavesState_136 (by decide) ?_
    refine lv_iadd hx hb dX7_leavesState_138 ?_
    refine lv_iload_n hx hb dX7_leavesState_139 rfl (lv_at hl 2 rfl) ?_
    refine lv_iadd hx hb dX7_leavesState_140 ?_
    refine lv_aload_n hx hb dX7_leavesState_141 rfl (lv_at hl 0 rfl) ?_
    refine mg_X7_23_0 C0 I dX7_leavesState_142 ?_
    refine lv_iload_n hx hb dX7_leavesState_145 rfl (lv_at hl 2 rfl) ?_
    obtain ⟨b9, hf⟩ := chk_some hf
    refine ml_4 hx hb I b9 dX7_leavesState_146 ?_
    obtain ⟨b10, hf⟩ := chk_some hf
    refine ms_7 hx hb I b10 dX7_leavesState_147 (fun H locs I => ?_)
    refine lv_aload_n hx hb dX7_leavesState_148 rfl (lv_at hl 0 rfl) ?_
    refine mg_X7_32_0 C0 I dX7_leavesState_149 ?_
    refine lv_iload_n hx hb dX7_leavesState_152 rfl (lv_at hl 1 rfl) ?_
    refine lv_bipush (v := 36) hx hb dX7_leavesState_153 (by decide) ?_
    refine lv_iadd hx hb dX7_leavesState_155 ?_
    refine lv_iload_n hx hb dX7_leavesState_156 rfl (lv_at hl 2 rfl) ?_
    refine lv_iadd hx hb dX7_leavesState_157 ?_
    refine lv_aload_n hx hb dX7_leavesState_158 rfl (lv_at hl 0 rfl) ?_
    refine mg_X7_26_0 C0 I dX7_leavesState_159 ?_
    refine lv_iload_n hx hb dX7_leavesState_162 rfl (lv_at hl 2 rfl) ?_
    obtain ⟨b11, hf⟩ := chk_some hf
    refine ml_5 hx hb I b11 dX7_leavesState_163 ?_
    obtain ⟨b12, hf⟩ := chk_some hf
    refine ms_7 hx hb I b12 dX7_leavesState_164 (fun H locs I => ?_)
    refine lv_aload_n hx hb dX7_leavesState_165 rfl (lv_at hl 0 rfl) ?_
    refine mg_X7_32_0 C0 I dX7_leavesState_166 ?_
    refine lv_iload_n hx hb dX7_leavesState_169 rfl (lv_at hl 1 rfl) ?_
    refine lv_bipush (v := 52) hx hb dX7_leavesState_170 (by decide) ?_
    refine lv_iadd hx hb dX7_leavesState_172 ?_
    refine lv_iload_n hx hb dX7_leavesState_173 rfl (lv_at hl 2 rfl) ?_
    refine lv_iadd hx hb dX7_leavesState_174 ?_
    refine lv_aload_n hx hb dX7_leavesState_175 rfl (lv_at hl 0 rfl) ?_
    refine mg_X7_29_0 C0 I dX7_leavesState_176 ?_
    refine lv_iload_n hx hb dX7_leavesState_179 rfl (lv_at hl 2 rfl) ?_
    obtain ⟨b13, hf⟩ := chk_some hf
    refine ml_6 hx hb I b13 dX7_leavesState_180 ?_
    obtain ⟨b14, hf⟩ := chk_some hf
    refine ms_7 hx hb I b14 dX7_leavesState_181 (fun H locs I => ?_)
    refine lv_iinc (v := (x2 + (1 : Int32))) (lv' := [(2, .int (x2 + (1 : Int32))), (0, .ref (g.2.2 0)), (1, .int x1)]) hx hb dX7_leavesState_182 hl (k := 2) rfl rfl (by decide) rfl (fun ls hl => ?_)
    refine lv_goto (tgt := 109) hx hb dX7_leavesState_185 (by decide) ?_
    obtain ⟨rfl, rfl, rfl⟩ := se3 hf
    exact Kt rfl _ _ _ I (lv_sub hl [1, 2, 0] rfl)
set_option maxHeartbeats 4000000 in
theorem lX7_leavesState_109 (C0 : CallFix p m c cX7_leavesState 3 s args big RX7) (hr : meth.sig.returnType = none) (hk : meth.locks = false) {x1 : Int32} {S' : St} {y2 : Int32} : ∀ (n : Nat) {S : St} {x2 : Int32}, lp (fun q => bX7_leavesState_109 x1 q.1 q.2) n (S, x2) = some (S', y2) → ∀ {H : Heap} {locs : List Loc}, mI g s S H locs → ∀ {ls : Array Slot}, lv_has ls 3 [(0, .ref (g.2.2 0)), (1, .int x1), (2, .int x2)] → (∀ (H : Heap) (locs : List Loc) (ls : Array Slot), mI g s S' H locs → lv_has ls 3 [(0, .ref (g.2.2 0)), (1, .int x1), (2, .int y2)] → W p l e ({ frames := 0, cells := 0, slots := 0, locals := 0 } : Room) s m args below meth c H locs 0 0 Q (F0 m 188 ls [])) → W p l e ({ frames := 0, cells := 0, slots := 0, locals := 0 } : Room) s m args below meth c H locs 0 0 Q (F0 m 109 ls []) := by
  intro n
  induction n with
  | zero => intro S x2 hf; cases hf
  | succ n ih =>
    intro S x2 hf H locs I ls hl K
    obtain ⟨b, ⟨z0, z1⟩, h1, h2, h3⟩ := lp_some hf
    refine BX7_leavesState_109 C0 hr hk (fun hb1 H locs ls I hl => ?_) (fun hb1 H locs ls I hl => ?_) h1 I hl
    · exact ih (h2 hb1) I hl K
    · have e := h3 hb1
      cases e
      exact K H locs ls I hl
set_option maxHeartbeats 4000000 in
set_option maxRecDepth 100000 in
theorem tX7_leavesState_49 (C0 : CallFix p m c cX7_leavesState 3 s args big RX7) (hr : meth.sig.returnType = none) (hk : meth.locks = false)   (hf : fX7_leavesState_49 S = some S') (I : mI g s S H locs) (hl : lv_has ls 3 [(0, .ref (g.2.2 0))]) : W p l e ({ frames := 0, cells := 0, slots := 0, locals := 0 } : Room) s m args below meth c H locs 0 0 (MQ below (va_Qv (fun S2 => S2 = S') (mB g) (mA g)) args s 0 0 (mA g)) (F0 m 49 ls []) := by
  obtain ⟨hx, hb, hml, -, -⟩ := id C0
  unfold fX7_leavesState_49 at hf
  refine lv_bipush (v := 68) hx hb dX7_leavesState_49 (by decide) ?_
  refine lv_aload_n hx hb dX7_leavesState_51 rfl (lv_at hl 0 rfl) ?_
  refine mg_X7_79_0 C0 I dX7_leavesState_52 ?_
  refine lv_imul hx hb dX7_leavesState_55 ?_
  refine lv_istore_n (lv' := [(1, .int ((68 : Int32) * (gF S 8))), (0, .ref (g.2.2 0))]) hx hb dX7_leavesState_56 rfl hl (by decide) rfl (fun ls hl => ?_)
  refine lv_aload_n hx hb dX7_leavesState_57 rfl (lv_at hl 1 rfl) ?_
  refine mg_X7_32_0 C0 I dX7_leavesState_58 ?_
  refine lv_iload_n hx hb dX7_leavesState_61 rfl (lv_at hl 0 rfl) ?_
  refine lv_aload_n hx hb dX7_leavesState_62 rfl (lv_at hl 1 rfl) ?_
  refine mg_X7_13_0 C0 I dX7_leavesState_63 ?_
  obtain ⟨b2, hf⟩ := chk_some hf
  refine ms_7 hx hb I b2 dX7_leavesState_66 (fun H locs I => ?_)
  refine lv_aload_n hx hb dX7_leavesState_67 rfl (lv_at hl 1 rfl) ?_
  refine mg_X7_32_0 C0 I dX7_leavesState_68 ?_
  refine lv_iload_n hx hb dX7_leavesState_71 rfl (lv_at hl 0 rfl) ?_
  refine lv_iconst (v := 1) hx hb dX7_leavesState_72 (by decide) ?_
  refine lv_iadd hx hb dX7_leavesState_73 ?_
  refine lv_aload_n hx hb dX7_leavesState_74 rfl (lv_at hl 1 rfl) ?_
  refine mg_X7_76_0 C0 I dX7_leavesState_75 ?_
  obtain ⟨b3, hf⟩ := chk_some hf
  refine ms_7 hx hb I b3 dX7_leavesState_78 (fun H locs I => ?_)
  refine lv_aload_n hx hb dX7_leavesState_79 rfl (lv_at hl 1 rfl) ?_
  refine mg_X7_32_0 C0 I dX7_leavesState_80 ?_
  refine lv_iload_n hx hb dX7_leavesState_83 rfl (lv_at hl 0 rfl) ?_
  refine lv_iconst (v := 2) hx hb dX7_leavesState_84 (by decide) ?_
  refine lv_iadd hx hb dX7_leavesState_85 ?_
  refine lv_aload_n hx hb dX7_leavesState_86 rfl (lv_at hl 1 rfl) ?_
  refine mg_X7_17_0 C0 I dX7_leavesState_87 ?_
  refine lv_iconst (v := 0) hx hb dX7_leavesState_90 (by decide) ?_
  refine ml_2 hx hb I (in_lit rfl) dX7_leavesState_91 ?_
  obtain ⟨b4, hf⟩ := chk_some hf
  refine ms_7 hx hb I b4 dX7_leavesState_92 (fun H locs I => ?_)
  refine lv_aload_n hx hb dX7_leavesState_93 rfl (lv_at hl 1 rfl) ?_
  refine mg_X7_32_0 C0 I dX7_leavesState_94 ?_
  refine lv_iload_n hx hb dX7_leavesState_97 rfl (lv_at hl 0 rfl) ?_
  refine lv_iconst (v := 3) hx hb dX7_leavesState_98 (by decide) ?_
  refine lv_iadd hx hb dX7_leavesState_99 ?_
  refine lv_aload_n hx hb dX7_leavesState_100 rfl (lv_at hl 1 rfl) ?_
  refine mg_X7_17_0 C0 I dX7_leavesState_101 ?_
  refine lv_iconst (v := 1) hx hb dX7_leavesState_104 (by decide) ?_
  refine ml_2 hx hb I (in_lit rfl) dX7_leavesState_105 ?_
  obtain ⟨b5, hf⟩ := chk_some hf
  refine ms_7 hx hb I b5 dX7_leavesState_106 (fun H locs I => ?_)
  refine lv_iconst (v := 0) hx hb dX7_leavesState_107 (by decide) ?_
  refine lv_istore_n (lv' := [(2, .int (0 : Int32)), (1, .int ((68 : Int32) * (gF S 8))), (0, .ref (g.2.2 0))]) hx hb dX7_leavesState_108 rfl hl (by decide) rfl (fun ls hl => ?_)
  obtain ⟨S15, y2_15, h15, hf⟩ := bq2_some hf
  refine lX7_leavesState_109 C0 hr hk fu h15 I (lv_sub hl [2, 1, 0] rfl) (fun H locs ls I hl => ?_)
  refine lv_aload_n hx hb dX7_leavesState_188 rfl (lv_at hl 0 rfl) ?_
  refine lv_dup hx hb dX7_leavesState_189 rfl ?_
  refine mg_X7_79_0 C0 I dX7_leavesState_190 ?_
  refine lv_iconst (v := 1) hx hb dX7_leavesState_193 (by decide) ?_
  refine lv_iadd hx hb dX7_leavesState_194 ?_
  refine mp_X7_79_0 C0 I dX7_leavesState_195 (fun H locs I => ?_)
  obtain rfl := se1 hf
  exact mrv C0 hr hk I dX7_leavesState_198
set_option maxHeartbeats 4000000 in
set_option maxRecDepth 100000 in
theorem BX7_leavesState_11 (C0 : CallFix p m c cX7_leavesState 3 s args big RX7) (hr : meth.sig.returnType = none) (hk : meth.locks = false) {x1 : Int32} {b : Bool} {y1 : Int32} (Kt : b = true → ∀ (H : Heap) (locs : List Loc) (ls : Array Slot), mI g s S' H locs → lv_has ls 3 [(0, .ref (g.2.2 0)), (1, .int y1)] → W p l e ({ frames := 0, cells := 0, slots := 0, locals := 0 } : Room) s m args below meth c H locs 0 0 Q (F0 m 11 ls [])) (Kf : b = false → ∀ (H : Heap) (locs : List Loc) (ls : Array Slot), mI g s S' H locs → lv_has ls 3 [(0, .ref (g.2.2 0)), (1, .int y1)] → W p l e ({ frames := 0, cells := 0, slots := 0, locals := 0 } : Room) s m args below meth c H locs 0 0 Q (F0 m 39 ls [])) (hf : bX7_leavesState_11 S x1 = some (b, S', y1)) (I : mI g s S H locs) (hl : lv_has ls 3 [(0, .ref (g.2.2 0)), (1, .int x1)]) : W p l e ({ frames := 0, cells := 0, slots := 0, locals := 0 } : Room) s m args below meth c H locs 0 0 Q (F0 m 11 ls []) := by
  obtain ⟨hx, hb, hml, -, -⟩ := id C0
  unfold bX7_leavesState_11 at hf
  refine lv_iload_n hx hb dX7_leavesState_11 rfl (lv_at hl 1 rfl) ?_
  refine lv_sipush (v := 340) hx hb dX7_leavesState_12 (by decide) ?_
  refine lv_icmp_ge (tgt := 39) hx hb dX7_leavesState_15 (by decide) (fun c16 => ?_) (fun c16 => ?_)
  · have hf := ip c16 hf
    obtain ⟨rfl, rfl, rfl⟩ := se3 hf
    exact Kf rfl _ _ _ I (lv_sub hl [0, 1] rfl)
  · have hf := inn c16 hf
    refine lv_aload_n hx hb dX7_leavesState_18 rfl (lv_at hl 0 rfl) ?_
    refine mg_X7_32_0 C0 I dX7_leavesState_19 ?_
    refine lv_iload_n hx hb dX7_leavesState_22 rfl (lv_at hl 1 rfl) ?_
    refine lv_aload_n hx hb dX7_leavesState_23 rfl (lv_at hl 0 rfl) ?_
    refine mg_X7_32_0 C0 I dX7_leavesState_24 ?_
    refine lv_iload_n hx hb dX7_leavesState_27 rfl (lv_at hl 1 rfl) ?_
    refine lv_bipush (v := 68) hx hb dX7_leavesState_28 (by decide) ?_
    refine lv_iadd hx hb dX7_leavesState_30 ?_
    obtain ⟨b17, hf⟩ := chk_some hf
    refine ml_7 hx hb I b17 dX7_leavesState_31 ?_
    obtain ⟨b18, hf⟩ := chk_some hf
    refine ms_7 hx hb I b18 dX7_leavesState_32 (fun H locs I => ?_)
    refine lv_iinc (v := (x1 + (1 : Int32))) (lv' := [(1, .int (x1 + (1 : Int32))), (0, .ref (g.2.2 0))]) hx hb dX7_leavesState_33 hl (k := 1) rfl rfl (by decide) rfl (fun ls hl => ?_)
    refine lv_goto (tgt := 11) hx hb dX7_leavesState_36 (by decide) ?_
    obtain ⟨rfl, rfl, rfl⟩ := se3 hf
    exact Kt rfl _ _ _ I (lv_sub hl [1, 0] rfl)
set_option maxHeartbeats 4000000 in
theorem lX7_leavesState_11 (C0 : CallFix p m c cX7_leavesState 3 s args big RX7) (hr : meth.sig.returnType = none) (hk : meth.locks = false)  {S' : St} {y1 : Int32} : ∀ (n : Nat) {S : St} {x1 : Int32}, lp (fun q => bX7_leavesState_11 q.1 q.2) n (S, x1) = some (S', y1) → ∀ {H : Heap} {locs : List Loc}, mI g s S H locs → ∀ {ls : Array Slot}, lv_has ls 3 [(0, .ref (g.2.2 0)), (1, .int x1)] → (∀ (H : Heap) (locs : List Loc) (ls : Array Slot), mI g s S' H locs → lv_has ls 3 [(0, .ref (g.2.2 0)), (1, .int y1)] → W p l e ({ frames := 0, cells := 0, slots := 0, locals := 0 } : Room) s m args below meth c H locs 0 0 Q (F0 m 39 ls [])) → W p l e ({ frames := 0, cells := 0, slots := 0, locals := 0 } : Room) s m args below meth c H locs 0 0 Q (F0 m 11 ls []) := by
  intro n
  induction n with
  | zero => intro S x1 hf; cases hf
  | succ n ih =>
    intro S x1 hf H locs I ls hl K
    obtain ⟨b, ⟨z0, z1⟩, h1, h2, h3⟩ := lp_some hf
    refine BX7_leavesState_11 C0 hr hk (fun hb1 H locs ls I hl => ?_) (fun hb1 H locs ls I hl => ?_) h1 I hl
    · exact ih (h2 hb1) I hl K
    · have e := h3 hb1
      cases e
      exact K H locs ls I hl
set_option maxHeartbeats 4000000 in
set_option maxRecDepth 100000 in
theorem tX7_leavesState_0 (C0 : CallFix p m c cX7_leavesState 3 s args big RX7) (hr : meth.sig.returnType = none) (hk : meth.locks = false)   (hf : fX7_leavesState S = some S') (I : mI g s S H locs) (hl : lv_has ls 3 [(0, .ref (g.2.2 0))]) : W p l e ({ frames := 0, cells := 0, slots := 0, locals := 0 } : Room) s m args below meth c H locs 0 0 (MQ below (va_Qv (fun S2 => S2 = S') (mB g) (mA g)) args s 0 0 (mA g)) (F0 m 0 ls []) := by
  obtain ⟨hx, hb, hml, -, -⟩ := id C0
  unfold fX7_leavesState at hf
  refine lv_aload_n hx hb dX7_leavesState_0 rfl (lv_at hl 0 rfl) ?_
  refine mg_X7_79_0 C0 I dX7_leavesState_1 ?_
  refine lv_bipush (v := 6) hx hb dX7_leavesState_4 (by decide) ?_
  refine lv_icmp_ne (tgt := 49) hx hb dX7_leavesState_6 (by decide) (fun c1 => ?_) (fun c1 => ?_)
  · have hf := inn c1 hf
    exact tX7_leavesState_49 C0 hr hk hf I (lv_sub hl [0] rfl)
  · have hf := ip c1 hf
    refine lv_iconst (v := 0) hx hb dX7_leavesState_9 (by decide) ?_
    refine lv_istore_n (lv' := [(1, .int (0 : Int32)), (0, .ref (g.2.2 0))]) hx hb dX7_leavesState_10 rfl hl (by decide) rfl (fun ls hl => ?_)
    obtain ⟨S19, y1_19, h19, hf⟩ := bq2_some hf
    refine lX7_leavesState_11 C0 hr hk fu h19 I (lv_sub hl [1, 0] rfl) (fun H locs ls I hl => ?_)
    refine lv_aload_n hx hb dX7_leavesState_39 rfl (lv_at hl 0 rfl) ?_
    refine lv_dup hx hb dX7_leavesState_40 rfl ?_
    refine mg_X7_79_0 C0 I dX7_leavesState_41 ?_
    refine lv_iconst (v := 1) hx hb dX7_leavesState_44 (by decide) ?_
    refine lv_isub hx hb dX7_leavesState_45 ?_
    refine mp_X7_79_0 C0 I dX7_leavesState_46 (fun H locs I => ?_)
    exact tX7_leavesState_49 C0 hr hk hf I (lv_sub hl [0] rfl)
set_option maxRecDepth 100000 in
theorem kX7_leavesState   (hf : fX7_leavesState S  = some S') : Met l yX7_leavesState (Cond.code yX7_leavesState cX7_leavesState 3 none :: big) ({ frames := 0, cells := 0, slots := 0, locals := 0 } : Room) (va_Pc [.ref (g.2.2 0)] (mB g S)) (va_Qv (fun S2 => S2 = S') (mB g) (mA g)) 0 0 (mA g) := by
  refine Met.ofW (cc := cX7_leavesState) (maxL := 3) (ret := none) (by decide) rfl ?_
  intro p e s m args below meth c s₁ B hml hv
  obtain ⟨rfl, hP, hK, hD⟩ := hv
  have hts0 := atoms_spec (ws := (Cond.code yX7_leavesState cX7_leavesState 3 none :: big)) B.pre
  have C0 : CallFix p m c cX7_leavesState 3 s _ big RX7 := ⟨B.exec, B.bytes, hml, findClass_of_methodNamed B.named, fun w h => hts0 w (List.mem_cons_of_mem _ h)⟩
  have I : mI g s S s.heap [] := ⟨hK, hP, hD, va_S.rf⟩
  have hl := lv_entry ([.ref (g.2.2 0)]) (n := 3) (Nat.le_of_ble_eq_true rfl)
  rw [lg_entry_eq]
  generalize (lg_sl ([.ref (g.2.2 0)]) ++ List.replicate (3 - (lg_sl ([.ref (g.2.2 0)])).length) Slot.unset).toArray = ls at hl ⊢
  have hl : lv_has ls 3 [(0, .ref (g.2.2 0))] := hl
  exact tX7_leavesState_0 C0 B.returns B.notSynchronized hf I (lv_sub hl [0] rfl)
set_option maxHeartbeats 4000000 in
set_option maxRecDepth 100000 in
theorem tX7_bad_0 (C0 : CallFix p m c cX7_bad 1 s args big RX7) (hr : meth.sig.returnType = (some .int)) (hk : meth.locks = false)  {rr : Int32}  (hf : fX7_bad S = some (rr, S')) (I : mI g s S H locs) (hl : lv_has ls 1 [(0, .ref (g.2.2 0))]) : W p l e ({ frames := 0, cells := 0, slots := 0, locals := 0 } : Room) s m args below meth c H locs 0 0 (MQ below (va_Qi (fun r' S2 => r' = rr ∧ S2 = S') (mB g) (mA g)) args s 0 0 (mA g)) (F0 m 0 ls []) := by
  obtain ⟨hx, hb, hml, -, -⟩ := id C0
  unfold fX7_bad at hf
  refine lv_aload_n hx hb dX7_bad_0 rfl (lv_at hl 0 rfl) ?_
  refine mg_X7_7_0 C0 I dX7_bad_1 ?_
  refine lv_iconst (v := 0) hx hb dX7_bad_4 (by decide) ?_
  refine lv_dup2_11 hx hb dX7_bad_5 rfl rfl ?_
  refine ml_1 hx hb I (in_lit rfl) dX7_bad_6 ?_
  refine lv_iconst (v := 1) hx hb dX7_bad_7 (by decide) ?_
  refine lv_iadd hx hb dX7_bad_8 ?_
  refine ms_1 hx hb I (in_lit rfl) dX7_bad_9 (fun H locs I => ?_)
  refine lv_bipush (v := -2) hx hb dX7_bad_10 (by decide) ?_
  obtain ⟨rfl, rfl⟩ := se2 hf
  exact mri C0 hr hk I dX7_bad_12
set_option maxRecDepth 100000 in
theorem kX7_bad  {rr : Int32} (hf : fX7_bad S  = some (rr, S')) : Met l yX7_bad (Cond.code yX7_bad cX7_bad 1 (some .int) :: big) ({ frames := 0, cells := 0, slots := 0, locals := 0 } : Room) (va_Pc [.ref (g.2.2 0)] (mB g S)) (va_Qi (fun r' S2 => r' = rr ∧ S2 = S') (mB g) (mA g)) 0 0 (mA g) := by
  refine Met.ofW (cc := cX7_bad) (maxL := 1) (ret := (some .int)) (by decide) rfl ?_
  intro p e s m args below meth c s₁ B hml hv
  obtain ⟨rfl, hP, hK, hD⟩ := hv
  have hts0 := atoms_spec (ws := (Cond.code yX7_bad cX7_bad 1 (some .int) :: big)) B.pre
  have C0 : CallFix p m c cX7_bad 1 s _ big RX7 := ⟨B.exec, B.bytes, hml, findClass_of_methodNamed B.named, fun w h => hts0 w (List.mem_cons_of_mem _ h)⟩
  have I : mI g s S s.heap [] := ⟨hK, hP, hD, va_S.rf⟩
  have hl := lv_entry ([.ref (g.2.2 0)]) (n := 1) (Nat.le_of_ble_eq_true rfl)
  rw [lg_entry_eq]
  generalize (lg_sl ([.ref (g.2.2 0)]) ++ List.replicate (1 - (lg_sl ([.ref (g.2.2 0)])).length) Slot.unset).toArray = ls at hl ⊢
  have hl : lv_has ls 1 [(0, .ref (g.2.2 0))] := hl
  exact tX7_bad_0 C0 B.returns B.notSynchronized hf I (lv_sub hl [0] rfl)
set_option maxHeartbeats 4000000 in
set_option maxRecDepth 100000 in
theorem tX7_sides_0 (C0 : CallFix p m c cX7_sides 3 s args big RX7) (hr : meth.sig.returnType = (some .int)) (hk : meth.locks = false) {x1 : Int32} {rr : Int32}  (hf : fX7_sides S x1 = some (rr, S')) (I : mI g s S H locs) (hl : lv_has ls 3 [(0, .ref (g.2.2 0)), (1, .int x1)]) : W p l e ({ frames := 1, cells := 0, slots := 0, locals := 22 } : Room) s m args below meth c H locs 0 0 (MQ below (va_Qi (fun r' S2 => r' = rr ∧ S2 = S') (mB g) (mA g)) args s 0 0 (mA g)) (F0 m 0 ls []) := by
  obtain ⟨hx, hb, hml, -, -⟩ := id C0
  unfold fX7_sides at hf
  refine lv_iload_n hx hb dX7_sides_0 rfl (lv_at hl 1 rfl) ?_
  refine lv_iconst (v := 1) hx hb dX7_sides_1 (by decide) ?_
  refine lv_iconst (v := 4) hx hb dX7_sides_2 (by decide) ?_
  obtain ⟨r1, h1, hf⟩ := bq1_some hf
  refine mcs_i (As := [.int x1, .int (1 : Int32), .int (4 : Int32)]) C0 I (kX7_in h1) (va_cwS 3 C0.2.2.2.2 (gwS wd_702 wd_703 wd_73 wd_704) rfl rfl rfl dsc_X7_in.2 ⟨Nat.le_of_ble_eq_true rfl, Nat.le_of_ble_eq_true rfl⟩) rfl hl.1 rfl (Nat.le_of_ble_eq_true rfl) dX7_sides_3 (fun H locs I => ?_)
  refine lv_if_ne (tgt := 14) hx hb dX7_sides_6 (by decide) (fun c2 => ?_) (fun c2 => ?_)
  · have hf := inn c2 hf
    refine lv_aload_n hx hb dX7_sides_14 rfl (lv_at hl 0 rfl) ?_
    obtain ⟨S3, h3, hf⟩ := bq1_some hf
    refine mcv_v (As := []) C0 I (kX7_leavesState h3) (cwV 0 C0.2.2.2.2 (gwV wd_709 wd_711 wd_24 wd_73 wd_712) rfl rfl rfl dsc_X7_leavesState ⟨Nat.le_of_ble_eq_true rfl, Nat.le_of_ble_eq_true rfl⟩) (mo_0 I) rfl hl.1 rfl (Nat.le_of_ble_eq_true rfl) dX7_sides_15 (fun H locs I => ?_)
    refine lv_aload_n hx hb dX7_sides_18 rfl (lv_at hl 0 rfl) ?_
    refine mg_X7_13_0 C0 I dX7_sides_19 ?_
    refine lv_istore_n (lv' := [(2, .int (gF S3 1)), (0, .ref (g.2.2 0)), (1, .int x1)]) hx hb dX7_sides_22 rfl hl (by decide) rfl (fun ls hl => ?_)
    refine lv_aload_n hx hb dX7_sides_23 rfl (lv_at hl 1 rfl) ?_
    refine lv_iload_n hx hb dX7_sides_24 rfl (lv_at hl 2 rfl) ?_
    refine mp_X7_13_0 C0 I dX7_sides_25 (fun H locs I => ?_)
    refine lv_aload_n hx hb dX7_sides_28 rfl (lv_at hl 1 rfl) ?_
    refine lv_iconst (v := 0) hx hb dX7_sides_29 (by decide) ?_
    refine mp_X7_76_0 C0 I dX7_sides_30 (fun H locs I => ?_)
    refine lv_iload_n hx hb dX7_sides_33 rfl (lv_at hl 0 rfl) ?_
    obtain ⟨rfl, rfl⟩ := se2 hf
    exact mri C0 hr hk I dX7_sides_34
  · have hf := ip c2 hf
    refine lv_aload_n hx hb dX7_sides_9 rfl (lv_at hl 0 rfl) ?_
    obtain ⟨r4, S4, h4, hf⟩ := bq2_some hf
    refine mcv_i (As := []) C0 I (kX7_bad h4) (cwV 0 C0.2.2.2.2 (gwV wd_705 wd_707 wd_23 wd_73 wd_708) rfl rfl rfl dsc_X7_bad ⟨Nat.le_of_ble_eq_true rfl, Nat.le_of_ble_eq_true rfl⟩) (mo_0 I) rfl hl.1 rfl (Nat.le_of_ble_eq_true rfl) dX7_sides_10 (fun H locs I => ?_)
    obtain ⟨rfl, rfl⟩ := se2 hf
    exact mri C0 hr hk I dX7_sides_13
set_option maxRecDepth 100000 in
theorem kX7_sides {x1 : Int32} {rr : Int32} (hf : fX7_sides S x1 = some (rr, S')) : Met l yX7_sides (Cond.code yX7_sides cX7_sides 3 (some .int) :: big) ({ frames := 1, cells := 0, slots := 0, locals := 22 } : Room) (va_Pc [.ref (g.2.2 0), .int x1] (mB g S)) (va_Qi (fun r' S2 => r' = rr ∧ S2 = S') (mB g) (mA g)) 0 0 (mA g) := by
  refine Met.ofW (cc := cX7_sides) (maxL := 3) (ret := (some .int)) (by decide) rfl ?_
  intro p e s m args below meth c s₁ B hml hv
  obtain ⟨rfl, hP, hK, hD⟩ := hv
  have hts0 := atoms_spec (ws := (Cond.code yX7_sides cX7_sides 3 (some .int) :: big)) B.pre
  have C0 : CallFix p m c cX7_sides 3 s _ big RX7 := ⟨B.exec, B.bytes, hml, findClass_of_methodNamed B.named, fun w h => hts0 w (List.mem_cons_of_mem _ h)⟩
  have I : mI g s S s.heap [] := ⟨hK, hP, hD, va_S.rf⟩
  have hl := lv_entry ([.ref (g.2.2 0), .int x1]) (n := 3) (Nat.le_of_ble_eq_true rfl)
  rw [lg_entry_eq]
  generalize (lg_sl ([.ref (g.2.2 0), .int x1]) ++ List.replicate (3 - (lg_sl ([.ref (g.2.2 0), .int x1])).length) Slot.unset).toArray = ls at hl ⊢
  have hl : lv_has ls 3 [(0, .ref (g.2.2 0)), (1, .int x1)] := hl
  exact tX7_sides_0 C0 B.returns B.notSynchronized hf I (lv_sub hl [0, 1] rfl)
set_option maxHeartbeats 4000000 in
set_option maxRecDepth 100000 in
theorem tX7_corners_0 (C0 : CallFix p m c cX7_corners 1 s args big RX7) (hr : meth.sig.returnType = (some .int)) (hk : meth.locks = false)  {rr : Int32}  (hf : fX7_corners S = some rr) (I : mI g s S H locs) (hl : lv_has ls 1 [(0, .ref (g.2.2 0))]) : W p l e ({ frames := 0, cells := 0, slots := 0, locals := 0 } : Room) s m args below meth c H locs 0 0 (MQ below (va_Qi (fun r' S2 => r' = rr ∧ S2 = S) (mB g) (mA g)) args s 0 0 (mA g)) (F0 m 0 ls []) := by
  obtain ⟨hx, hb, hml, -, -⟩ := id C0
  unfold fX7_corners at hf
  refine lv_iconst (v := 1) hx hb dX7_corners_0 (by decide) ?_
  refine lv_aload_n hx hb dX7_corners_1 rfl (lv_at hl 0 rfl) ?_
  refine mg_X7_13_0 C0 I dX7_corners_2 ?_
  refine lv_ishl hx hb dX7_corners_5 ?_
  obtain rfl := se1 hf
  exact mri C0 hr hk I dX7_corners_6
set_option maxRecDepth 100000 in
theorem kX7_corners  {rr : Int32} (hf : fX7_corners S  = some rr) : Met l yX7_corners (Cond.code yX7_corners cX7_corners 1 (some .int) :: big) ({ frames := 0, cells := 0, slots := 0, locals := 0 } : Room) (va_Pc [.ref (g.2.2 0)] (mB g S)) (va_Qi (fun r' S2 => r' = rr ∧ S2 = S) (mB g) (mA g)) 0 0 (mA g) := by
  refine Met.ofW (cc := cX7_corners) (maxL := 1) (ret := (some .int)) (by decide) rfl ?_
  intro p e s m args below meth c s₁ B hml hv
  obtain ⟨rfl, hP, hK, hD⟩ := hv
  have hts0 := atoms_spec (ws := (Cond.code yX7_corners cX7_corners 1 (some .int) :: big)) B.pre
  have C0 : CallFix p m c cX7_corners 1 s _ big RX7 := ⟨B.exec, B.bytes, hml, findClass_of_methodNamed B.named, fun w h => hts0 w (List.mem_cons_of_mem _ h)⟩
  have I : mI g s S s.heap [] := ⟨hK, hP, hD, va_S.rf⟩
  have hl := lv_entry ([.ref (g.2.2 0)]) (n := 1) (Nat.le_of_ble_eq_true rfl)
  rw [lg_entry_eq]
  generalize (lg_sl ([.ref (g.2.2 0)]) ++ List.replicate (1 - (lg_sl ([.ref (g.2.2 0)])).length) Slot.unset).toArray = ls at hl ⊢
  have hl : lv_has ls 1 [(0, .ref (g.2.2 0))] := hl
  exact tX7_corners_0 C0 B.returns B.notSynchronized hf I (lv_sub hl [0] rfl)
set_option maxHeartbeats 4000000 in
set_option maxRecDepth 100000 in
theorem tX7_isCorner_0 (C0 : CallFix p m c cX7_isCorner 2 s args big RX7) (hr : meth.sig.returnType = (some .boolean)) (hk : meth.locks = false) {x1 : Int32} {rr : Int32}  (hf : fX7_isCorner S x1 = some rr) (I : mI g s S H locs) (hl : lv_has ls 2 [(0, .ref (g.2.2 0)), (1, .int x1)]) : W p l e ({ frames := 1, cells := 0, slots := 0, locals := 22 } : Room) s m args below meth c H locs 0 0 (MQ below (va_Qi (fun r' S2 => r' = rr ∧ S2 = S) (mB g) (mA g)) args s 0 0 (mA g)) (F0 m 0 ls []) := by
  obtain ⟨hx, hb, hml, -, -⟩ := id C0
  unfold fX7_isCorner at hf
  refine lv_iload_n hx hb dX7_isCorner_0 rfl (lv_at hl 1 rfl) ?_
  refine lv_iconst (v := 0) hx hb dX7_isCorner_1 (by decide) ?_
  refine lv_aload_n hx hb dX7_isCorner_2 rfl (lv_at hl 0 rfl) ?_
  obtain ⟨r1, h1, hf⟩ := bq1_some hf
  refine mcv_i (As := []) C0 I (kX7_corners h1) (cwV 0 C0.2.2.2.2 (gwV wd_721 wd_723 wd_26 wd_73 wd_724) rfl rfl rfl dsc_X7_corners ⟨Nat.le_of_ble_eq_true rfl, Nat.le_of_ble_eq_true rfl⟩) (mo_0 I) rfl hl.1 rfl (Nat.le_of_ble_eq_true rfl) dX7_isCorner_3 (fun H locs I => ?_)
  refine lv_iconst (v := 1) hx hb dX7_isCorner_6 (by decide) ?_
  refine lv_isub hx hb dX7_isCorner_7 ?_
  obtain ⟨r2, h2, hf⟩ := bq1_some hf
  refine mcs_i (As := [.int x1, .int (0 : Int32), .int (r1 - (1 : Int32))]) C0 I (kX7_in h2) (va_cwS 3 C0.2.2.2.2 (gwS wd_702 wd_703 wd_73 wd_704) rfl rfl rfl dsc_X7_in.2 ⟨Nat.le_of_ble_eq_true rfl, Nat.le_of_ble_eq_true rfl⟩) rfl hl.1 rfl (Nat.le_of_ble_eq_true rfl) dX7_isCorner_8 (fun H locs I => ?_)
  obtain ⟨z3, hf⟩ := zb_some hf
  obtain rfl := se1 hf
  exact mrz C0 hr hk z3 I dX7_isCorner_11
set_option maxRecDepth 100000 in
theorem kX7_isCorner {x1 : Int32} {rr : Int32} (hf : fX7_isCorner S x1 = some rr) : Met l yX7_isCorner (Cond.code yX7_isCorner cX7_isCorner 2 (some .boolean) :: big) ({ frames := 1, cells := 0, slots := 0, locals := 22 } : Room) (va_Pc [.ref (g.2.2 0), .int x1] (mB g S)) (va_Qi (fun r' S2 => r' = rr ∧ S2 = S) (mB g) (mA g)) 0 0 (mA g) := by
  refine Met.ofW (cc := cX7_isCorner) (maxL := 2) (ret := (some .boolean)) (by decide) rfl ?_
  intro p e s m args below meth c s₁ B hml hv
  obtain ⟨rfl, hP, hK, hD⟩ := hv
  have hts0 := atoms_spec (ws := (Cond.code yX7_isCorner cX7_isCorner 2 (some .boolean) :: big)) B.pre
  have C0 : CallFix p m c cX7_isCorner 2 s _ big RX7 := ⟨B.exec, B.bytes, hml, findClass_of_methodNamed B.named, fun w h => hts0 w (List.mem_cons_of_mem _ h)⟩
  have I : mI g s S s.heap [] := ⟨hK, hP, hD, va_S.rf⟩
  have hl := lv_entry ([.ref (g.2.2 0), .int x1]) (n := 2) (Nat.le_of_ble_eq_true rfl)
  rw [lg_entry_eq]
  generalize (lg_sl ([.ref (g.2.2 0), .int x1]) ++ List.replicate (2 - (lg_sl ([.ref (g.2.2 0), .int x1])).length) Slot.unset).toArray = ls at hl ⊢
  have hl : lv_has ls 2 [(0, .ref (g.2.2 0)), (1, .int x1)] := hl
  exact tX7_isCorner_0 C0 B.returns B.notSynchronized hf I (lv_sub hl [0, 1] rfl)
set_option maxHeartbeats 4000000 in
set_option maxRecDepth 100000 in
theorem tX7_isRank_0 (C0 : CallFix p m c cX7_isRank 1 s args big RX7) (hr : meth.sig.returnType = (some .boolean)) (hk : meth.locks = false) {x0 : Int32} {rr : Int32}  (hf : fX7_isRank S x0 = some rr) (I : mI g s S H locs) (hl : lv_has ls 1 [(0, .int x0)]) : W p l e ({ frames := 1, cells := 0, slots := 0, locals := 22 } : Room) s m args below meth c H locs 0 0 (MQ below (va_Qi (fun r' S2 => r' = rr ∧ S2 = S) (mB g) (mA g)) args s 0 0 (mA g)) (F0 m 0 ls []) := by
  obtain ⟨hx, hb, hml, -, -⟩ := id C0
  unfold fX7_isRank at hf
  refine lv_iload_n hx hb dX7_isRank_0 rfl (lv_at hl 0 rfl) ?_
  refine lv_iconst (v := 0) hx hb dX7_isRank_1 (by decide) ?_
  refine lv_bipush (v := 99) hx hb dX7_isRank_2 (by decide) ?_
  obtain ⟨r1, h1, hf⟩ := bq1_some hf
  refine mcs_i (As := [.int x0, .int (0 : Int32), .int (99 : Int32)]) C0 I (kX7_in h1) (va_cwS 3 C0.2.2.2.2 (gwS wd_702 wd_703 wd_73 wd_704) rfl rfl rfl dsc_X7_in.2 ⟨Nat.le_of_ble_eq_true rfl, Nat.le_of_ble_eq_true rfl⟩) rfl hl.1 rfl (Nat.le_of_ble_eq_true rfl) dX7_isRank_4 (fun H locs I => ?_)
  obtain ⟨z2, hf⟩ := zb_some hf
  obtain rfl := se1 hf
  exact mrz C0 hr hk z2 I dX7_isRank_7
set_option maxRecDepth 100000 in
theorem kX7_isRank {x0 : Int32} {rr : Int32} (hf : fX7_isRank S x0 = some rr) : Met l yX7_isRank (Cond.code yX7_isRank cX7_isRank 1 (some .boolean) :: big) ({ frames := 1, cells := 0, slots := 0, locals := 22 } : Room) (va_Pc [.int x0] (mB g S)) (va_Qi (fun r' S2 => r' = rr ∧ S2 = S) (mB g) (mA g)) 0 0 (mA g) := by
  refine Met.ofW (cc := cX7_isRank) (maxL := 1) (ret := (some .boolean)) (by decide) rfl ?_
  intro p e s m args below meth c s₁ B hml hv
  obtain ⟨rfl, hP, hK, hD⟩ := hv
  have hts0 := atoms_spec (ws := (Cond.code yX7_isRank cX7_isRank 1 (some .boolean) :: big)) B.pre
  have C0 : CallFix p m c cX7_isRank 1 s _ big RX7 := ⟨B.exec, B.bytes, hml, findClass_of_methodNamed B.named, fun w h => hts0 w (List.mem_cons_of_mem _ h)⟩
  have I : mI g s S s.heap [] := ⟨hK, hP, hD, va_S.rf⟩
  have hl := lv_entry ([.int x0]) (n := 1) (Nat.le_of_ble_eq_true rfl)
  rw [lg_entry_eq]
  generalize (lg_sl ([.int x0]) ++ List.replicate (1 - (lg_sl ([.int x0])).length) Slot.unset).toArray = ls at hl ⊢
  have hl : lv_has ls 1 [(0, .int x0)] := hl
  exact tX7_isRank_0 C0 B.returns B.notSynchronized hf I (lv_sub hl [0] rfl)
set_option maxHeartbeats 4000000 in
set_option maxRecDepth 100000 in
theorem tX7_comes_0 (C0 : CallFix p m c cX7_comes 5 s args big RX7) (hr : meth.sig.returnType = none) (hk : meth.locks = false) {x1 : Int32} {x2 : Int32} {x3 : Int32} {x4 : Int32}  (hf : fX7_comes S x1 x2 x3 x4 = some S') (I : mI g s S H locs) (hl : lv_has ls 5 [(0, .ref (g.2.2 0)), (1, .int x1), (2, .int x2), (3, .int x3), (4, .int x4)]) : W p l e ({ frames := 0, cells := 0, slots := 0, locals := 0 } : Room) s m args below meth c H locs 0 0 (MQ below (va_Qv (fun S2 => S2 = S') (mB g) (mA g)) args s 0 0 (mA g)) (F0 m 0 ls []) := by
  obtain ⟨hx, hb, hml, -, -⟩ := id C0
  unfold fX7_comes at hf
  refine lv_aload_n hx hb dX7_comes_0 rfl (lv_at hl 0 rfl) ?_
  refine mg_X7_20_0 C0 I dX7_comes_1 ?_
  refine lv_aload_n hx hb dX7_comes_4 rfl (lv_at hl 0 rfl) ?_
  refine mg_X7_76_0 C0 I dX7_comes_5 ?_
  refine lv_iload_n hx hb dX7_comes_8 rfl (lv_at hl 1 rfl) ?_
  obtain ⟨b1, hf⟩ := chk_some hf
  refine ms_3 hx hb I b1 dX7_comes_9 (fun H locs I => ?_)
  refine lv_aload_n hx hb dX7_comes_10 rfl (lv_at hl 0 rfl) ?_
  refine mg_X7_23_0 C0 I dX7_comes_11 ?_
  refine lv_aload_n hx hb dX7_comes_14 rfl (lv_at hl 0 rfl) ?_
  refine mg_X7_76_0 C0 I dX7_comes_15 ?_
  refine lv_iload_n hx hb dX7_comes_18 rfl (lv_at hl 2 rfl) ?_
  obtain ⟨b2, hf⟩ := chk_some hf
  refine ms_4 hx hb I b2 dX7_comes_19 (fun H locs I => ?_)
  refine lv_aload_n hx hb dX7_comes_20 rfl (lv_at hl 0 rfl) ?_
  refine mg_X7_26_0 C0 I dX7_comes_21 ?_
  refine lv_aload_n hx hb dX7_comes_24 rfl (lv_at hl 0 rfl) ?_
  refine mg_X7_76_0 C0 I dX7_comes_25 ?_
  refine lv_iload_n hx hb dX7_comes_28 rfl (lv_at hl 3 rfl) ?_
  obtain ⟨b3, hf⟩ := chk_some hf
  refine ms_5 hx hb I b3 dX7_comes_29 (fun H locs I => ?_)
  refine lv_aload_n hx hb dX7_comes_30 rfl (lv_at hl 0 rfl) ?_
  refine mg_X7_29_0 C0 I dX7_comes_31 ?_
  refine lv_aload_n hx hb dX7_comes_34 rfl (lv_at hl 0 rfl) ?_
  refine mg_X7_76_0 C0 I dX7_comes_35 ?_
  refine lv_iload hx hb dX7_comes_38 (lv_at hl 4 rfl) ?_
  obtain ⟨b4, hf⟩ := chk_some hf
  refine ms_6 hx hb I b4 dX7_comes_40 (fun H locs I => ?_)
  refine lv_aload_n hx hb dX7_comes_41 rfl (lv_at hl 0 rfl) ?_
  refine lv_dup hx hb dX7_comes_42 rfl ?_
  refine mg_X7_76_0 C0 I dX7_comes_43 ?_
  refine lv_iconst (v := 1) hx hb dX7_comes_46 (by decide) ?_
  refine lv_iadd hx hb dX7_comes_47 ?_
  refine mp_X7_76_0 C0 I dX7_comes_48 (fun H locs I => ?_)
  obtain rfl := se1 hf
  exact mrv C0 hr hk I dX7_comes_51
set_option maxRecDepth 100000 in
theorem kX7_comes {x1 : Int32} {x2 : Int32} {x3 : Int32} {x4 : Int32}  (hf : fX7_comes S x1 x2 x3 x4 = some S') : Met l yX7_comes (Cond.code yX7_comes cX7_comes 5 none :: big) ({ frames := 0, cells := 0, slots := 0, locals := 0 } : Room) (va_Pc [.ref (g.2.2 0), .int x1, .int x2, .int x3, .int x4] (mB g S)) (va_Qv (fun S2 => S2 = S') (mB g) (mA g)) 0 0 (mA g) := by
  refine Met.ofW (cc := cX7_comes) (maxL := 5) (ret := none) (by decide) rfl ?_
  intro p e s m args below meth c s₁ B hml hv
  obtain ⟨rfl, hP, hK, hD⟩ := hv
  have hts0 := atoms_spec (ws := (Cond.code yX7_comes cX7_comes 5 none :: big)) B.pre
  have C0 : CallFix p m c cX7_comes 5 s _ big RX7 := ⟨B.exec, B.bytes, hml, findClass_of_methodNamed B.named, fun w h => hts0 w (List.mem_cons_of_mem _ h)⟩
  have I : mI g s S s.heap [] := ⟨hK, hP, hD, va_S.rf⟩
  have hl := lv_entry ([.ref (g.2.2 0), .int x1, .int x2, .int x3, .int x4]) (n := 5) (Nat.le_of_ble_eq_true rfl)
  rw [lg_entry_eq]
  generalize (lg_sl ([.ref (g.2.2 0), .int x1, .int x2, .int x3, .int x4]) ++ List.replicate (5 - (lg_sl ([.ref (g.2.2 0), .int x1, .int x2, .int x3, .int x4])).length) Slot.unset).toArray = ls at hl ⊢
  have hl : lv_has ls 5 [(0, .ref (g.2.2 0)), (1, .int x1), (2, .int x2), (3, .int x3), (4, .int x4)] := hl
  exact tX7_comes_0 C0 B.returns B.notSynchronized hf I (lv_sub hl [0, 1, 2, 3, 4] rfl)
set_option maxHeartbeats 4000000 in
set_option maxRecDepth 100000 in
theorem tX7_full_0 (C0 : CallFix p m c cX7_full 1 s args big RX7) (hr : meth.sig.returnType = (some .int)) (hk : meth.locks = false)  {rr : Int32}  (hf : fX7_full S = some (rr, S')) (I : mI g s S H locs) (hl : lv_has ls 1 [(0, .ref (g.2.2 0))]) : W p l e ({ frames := 0, cells := 0, slots := 0, locals := 0 } : Room) s m args below meth c H locs 0 0 (MQ below (va_Qi (fun r' S2 => r' = rr ∧ S2 = S') (mB g) (mA g)) args s 0 0 (mA g)) (F0 m 0 ls []) := by
  obtain ⟨hx, hb, hml, -, -⟩ := id C0
  unfold fX7_full at hf
  refine lv_aload_n hx hb dX7_full_0 rfl (lv_at hl 0 rfl) ?_
  refine mg_X7_7_0 C0 I dX7_full_1 ?_
  refine lv_iconst (v := 2) hx hb dX7_full_4 (by decide) ?_
  refine lv_dup2_11 hx hb dX7_full_5 rfl rfl ?_
  refine ml_1 hx hb I (in_lit rfl) dX7_full_6 ?_
  refine lv_iconst (v := 1) hx hb dX7_full_7 (by decide) ?_
  refine lv_iadd hx hb dX7_full_8 ?_
  refine ms_1 hx hb I (in_lit rfl) dX7_full_9 (fun H locs I => ?_)
  refine lv_bipush (v := -4) hx hb dX7_full_10 (by decide) ?_
  obtain ⟨rfl, rfl⟩ := se2 hf
  exact mri C0 hr hk I dX7_full_12
set_option maxRecDepth 100000 in
theorem kX7_full  {rr : Int32} (hf : fX7_full S  = some (rr, S')) : Met l yX7_full (Cond.code yX7_full cX7_full 1 (some .int) :: big) ({ frames := 0, cells := 0, slots := 0, locals := 0 } : Room) (va_Pc [.ref (g.2.2 0)] (mB g S)) (va_Qi (fun r' S2 => r' = rr ∧ S2 = S') (mB g) (mA g)) 0 0 (mA g) := by
  refine Met.ofW (cc := cX7_full) (maxL := 1) (ret := (some .int)) (by decide) rfl ?_
  intro p e s m args below meth c s₁ B hml hv
  obtain ⟨rfl, hP, hK, hD⟩ := hv
  have hts0 := atoms_spec (ws := (Cond.code yX7_full cX7_full 1 (some .int) :: big)) B.pre
  have C0 : CallFix p m c cX7_full 1 s _ big RX7 := ⟨B.exec, B.bytes, hml, findClass_of_methodNamed B.named, fun w h => hts0 w (List.mem_cons_of_mem _ h)⟩
  have I : mI g s S s.heap [] := ⟨hK, hP, hD, va_S.rf⟩
  have hl := lv_entry ([.ref (g.2.2 0)]) (n := 1) (Nat.le_of_ble_eq_true rfl)
  rw [lg_entry_eq]
  generalize (lg_sl ([.ref (g.2.2 0)]) ++ List.replicate (1 - (lg_sl ([.ref (g.2.2 0)])).length) Slot.unset).toArray = ls at hl ⊢
  have hl : lv_has ls 1 [(0, .ref (g.2.2 0))] := hl
  exact tX7_full_0 C0 B.returns B.notSynchronized hf I (lv_sub hl [0] rfl)
set_option maxHeartbeats 4000000 in
set_option maxRecDepth 100000 in
theorem tX7_parcel_32 (C0 : CallFix p m c cX7_parcel 5 s args big RX7) (hr : meth.sig.returnType = (some .int)) (hk : meth.locks = false)  {rr : Int32}  (hf : fX7_parcel_32 S = some (rr, S')) (I : mI g s S H locs) (hl : lv_has ls 5 [(0, .ref (g.2.2 0))]) : W p l e ({ frames := 2, cells := 0, slots := 0, locals := 43 } : Room) s m args below meth c H locs 0 0 (MQ below (va_Qi (fun r' S2 => r' = rr ∧ S2 = S') (mB g) (mA g)) args s 0 0 (mA g)) (F0 m 32 ls []) := by
  obtain ⟨hx, hb, hml, -, -⟩ := id C0
  unfold fX7_parcel_32 at hf
  refine lv_aload_n hx hb dX7_parcel_32 rfl (lv_at hl 0 rfl) ?_
  obtain ⟨r3, S3, h3, hf⟩ := bq2_some hf
  refine mcv_i (As := []) C0 I (kX7_bad h3) (cwV 0 C0.2.2.2.2 (gwV wd_705 wd_707 wd_23 wd_73 wd_708) rfl rfl rfl dsc_X7_bad ⟨Nat.le_of_ble_eq_true rfl, Nat.le_of_ble_eq_true rfl⟩) (mo_0 I) rfl hl.1 rfl (Nat.le_of_ble_eq_true rfl) dX7_parcel_33 (fun H locs I => ?_)
  obtain ⟨rfl, rfl⟩ := se2 hf
  exact mri C0 hr hk I dX7_parcel_36
set_option maxHeartbeats 4000000 in
set_option maxRecDepth 100000 in
theorem tX7_parcel_0 (C0 : CallFix p m c cX7_parcel 5 s args big RX7) (hr : meth.sig.returnType = (some .int)) (hk : meth.locks = false) {x1 : Int32} {x2 : Int32} {x3 : Int32} {x4 : Int32} {rr : Int32}  (hf : fX7_parcel S x1 x2 x3 x4 = some (rr, S')) (I : mI g s S H locs) (hl : lv_has ls 5 [(0, .ref (g.2.2 0)), (1, .int x1), (2, .int x2), (3, .int x3), (4, .int x4)]) : W p l e ({ frames := 2, cells := 0, slots := 0, locals := 43 } : Room) s m args below meth c H locs 0 0 (MQ below (va_Qi (fun r' S2 => r' = rr ∧ S2 = S') (mB g) (mA g)) args s 0 0 (mA g)) (F0 m 0 ls []) := by
  obtain ⟨hx, hb, hml, -, -⟩ := id C0
  unfold fX7_parcel at hf
  refine lv_aload_n hx hb dX7_parcel_0 rfl (lv_at hl 0 rfl) ?_
  refine lv_iload_n hx hb dX7_parcel_1 rfl (lv_at hl 1 rfl) ?_
  obtain ⟨r1, h1, hf⟩ := bq1_some hf
  refine mcv_i (As := [.int x1]) C0 I (kX7_isCorner h1) (cwV 1 C0.2.2.2.2 (gwV wd_717 wd_719 wd_25 wd_73 wd_720) rfl rfl rfl dsc_X7_isCorner ⟨Nat.le_of_ble_eq_true rfl, Nat.le_of_ble_eq_true rfl⟩) (mo_0 I) rfl hl.1 rfl (Nat.le_of_ble_eq_true rfl) dX7_parcel_2 (fun H locs I => ?_)
  refine lv_if_eq (tgt := 32) hx hb dX7_parcel_5 (by decide) (fun c2 => ?_) (fun c2 => ?_)
  · have hf := ip c2 hf
    exact tX7_parcel_32 C0 hr hk hf I (lv_sub hl [0] rfl)
  · have hf := inn c2 hf
    refine lv_aload_n hx hb dX7_parcel_8 rfl (lv_at hl 0 rfl) ?_
    refine lv_iload_n hx hb dX7_parcel_9 rfl (lv_at hl 2 rfl) ?_
    obtain ⟨r4, h4, hf⟩ := bq1_some hf
    refine mcv_i (As := [.int x2]) C0 I (kX7_isCorner h4) (cwV 1 C0.2.2.2.2 (gwV wd_717 wd_719 wd_25 wd_73 wd_720) rfl rfl rfl dsc_X7_isCorner ⟨Nat.le_of_ble_eq_true rfl, Nat.le_of_ble_eq_true rfl⟩) (mo_0 I) rfl hl.1 rfl (Nat.le_of_ble_eq_true rfl) dX7_parcel_10 (fun H locs I => ?_)
    refine lv_if_eq (tgt := 32) hx hb dX7_parcel_13 (by decide) (fun c5 => ?_) (fun c5 => ?_)
    · have hf := ip c5 hf
      exact tX7_parcel_32 C0 hr hk hf I (lv_sub hl [0] rfl)
    · have hf := inn c5 hf
      refine lv_aload_n hx hb dX7_parcel_16 rfl (lv_at hl 0 rfl) ?_
      refine lv_iload_n hx hb dX7_parcel_17 rfl (lv_at hl 3 rfl) ?_
      obtain ⟨r6, h6, hf⟩ := bq1_some hf
      refine mcv_i (As := [.int x3]) C0 I (kX7_isCorner h6) (cwV 1 C0.2.2.2.2 (gwV wd_717 wd_719 wd_25 wd_73 wd_720) rfl rfl rfl dsc_X7_isCorner ⟨Nat.le_of_ble_eq_true rfl, Nat.le_of_ble_eq_true rfl⟩) (mo_0 I) rfl hl.1 rfl (Nat.le_of_ble_eq_true rfl) dX7_parcel_18 (fun H locs I => ?_)
      refine lv_if_eq (tgt := 32) hx hb dX7_parcel_21 (by decide) (fun c7 => ?_) (fun c7 => ?_)
      · have hf := ip c7 hf
        exact tX7_parcel_32 C0 hr hk hf I (lv_sub hl [0] rfl)
      · have hf := inn c7 hf
        refine lv_iload hx hb dX7_parcel_24 (lv_at hl 4 rfl) ?_
        obtain ⟨r8, h8, hf⟩ := bq1_some hf
        refine mcs_i (As := [.int x4]) C0 I (kX7_isRank h8) (va_cwS 1 C0.2.2.2.2 (gwS wd_725 wd_726 wd_73 wd_727) rfl rfl rfl dsc_X7_isRank.2 ⟨Nat.le_of_ble_eq_true rfl, Nat.le_of_ble_eq_true rfl⟩) rfl hl.1 rfl (Nat.le_of_ble_eq_true rfl) dX7_parcel_26 (fun H locs I => ?_)
        refine lv_if_ne (tgt := 37) hx hb dX7_parcel_29 (by decide) (fun c9 => ?_) (fun c9 => ?_)
        · have hf := inn c9 hf
          refine lv_aload_n hx hb dX7_parcel_37 rfl (lv_at hl 0 rfl) ?_
          refine mg_X7_76_0 C0 I dX7_parcel_38 ?_
          refine lv_bipush (v := 16) hx hb dX7_parcel_41 (by decide) ?_
          refine lv_icmp_ne (tgt := 51) hx hb dX7_parcel_43 (by decide) (fun c10 => ?_) (fun c10 => ?_)
          · have hf := inn c10 hf
            refine lv_aload_n hx hb dX7_parcel_51 rfl (lv_at hl 0 rfl) ?_
            obtain ⟨S11, h11, hf⟩ := bq1_some hf
            refine mcv_v (As := []) C0 I (kX7_leavesState h11) (cwV 0 C0.2.2.2.2 (gwV wd_709 wd_711 wd_24 wd_73 wd_712) rfl rfl rfl dsc_X7_leavesState ⟨Nat.le_of_ble_eq_true rfl, Nat.le_of_ble_eq_true rfl⟩) (mo_0 I) rfl hl.1 rfl (Nat.le_of_ble_eq_true rfl) dX7_parcel_52 (fun H locs I => ?_)
            refine lv_aload_n hx hb dX7_parcel_55 rfl (lv_at hl 0 rfl) ?_
            refine lv_iload_n hx hb dX7_parcel_56 rfl (lv_at hl 1 rfl) ?_
            refine lv_iload_n hx hb dX7_parcel_57 rfl (lv_at hl 2 rfl) ?_
            refine lv_iload_n hx hb dX7_parcel_58 rfl (lv_at hl 3 rfl) ?_
            refine lv_iload hx hb dX7_parcel_59 (lv_at hl 4 rfl) ?_
            obtain ⟨S12, h12, hf⟩ := bq1_some hf
            refine mcv_v (As := [.int x1, .int x2, .int x3, .int x4]) C0 I (kX7_comes h12) (cwV 4 C0.2.2.2.2 (gwV wd_732 wd_734 wd_28 wd_73 wd_735) rfl rfl rfl dsc_X7_comes ⟨Nat.le_of_ble_eq_true rfl, Nat.le_of_ble_eq_true rfl⟩) (mo_0 I) rfl hl.1 rfl (Nat.le_of_ble_eq_true rfl) dX7_parcel_61 (fun H locs I => ?_)
            refine lv_aload_n hx hb dX7_parcel_64 rfl (lv_at hl 0 rfl) ?_
            refine mg_X7_76_0 C0 I dX7_parcel_65 ?_
            refine lv_iconst (v := 1) hx hb dX7_parcel_68 (by decide) ?_
            refine lv_isub hx hb dX7_parcel_69 ?_
            obtain ⟨rfl, rfl⟩ := se2 hf
            exact mri C0 hr hk I dX7_parcel_70
          · have hf := ip c10 hf
            refine lv_aload_n hx hb dX7_parcel_46 rfl (lv_at hl 0 rfl) ?_
            obtain ⟨r13, S13, h13, hf⟩ := bq2_some hf
            refine mcv_i (As := []) C0 I (kX7_full h13) (cwV 0 C0.2.2.2.2 (gwV wd_728 wd_730 wd_27 wd_73 wd_731) rfl rfl rfl dsc_X7_full ⟨Nat.le_of_ble_eq_true rfl, Nat.le_of_ble_eq_true rfl⟩) (mo_0 I) rfl hl.1 rfl (Nat.le_of_ble_eq_true rfl) dX7_parcel_47 (fun H locs I => ?_)
            obtain ⟨rfl, rfl⟩ := se2 hf
            exact mri C0 hr hk I dX7_parcel_50
        · have hf := ip c9 hf
          exact tX7_parcel_32 C0 hr hk hf I (lv_sub hl [0] rfl)
set_option maxRecDepth 100000 in
theorem kX7_parcel {x1 : Int32} {x2 : Int32} {x3 : Int32} {x4 : Int32} {rr : Int32} (hf : fX7_parcel S x1 x2 x3 x4 = some (rr, S')) : Met l yX7_parcel (Cond.code yX7_parcel cX7_parcel 5 (some .int) :: big) ({ frames := 2, cells := 0, slots := 0, locals := 43 } : Room) (va_Pc [.ref (g.2.2 0), .int x1, .int x2, .int x3, .int x4] (mB g S)) (va_Qi (fun r' S2 => r' = rr ∧ S2 = S') (mB g) (mA g)) 0 0 (mA g) := by
  refine Met.ofW (cc := cX7_parcel) (maxL := 5) (ret := (some .int)) (by decide) rfl ?_
  intro p e s m args below meth c s₁ B hml hv
  obtain ⟨rfl, hP, hK, hD⟩ := hv
  have hts0 := atoms_spec (ws := (Cond.code yX7_parcel cX7_parcel 5 (some .int) :: big)) B.pre
  have C0 : CallFix p m c cX7_parcel 5 s _ big RX7 := ⟨B.exec, B.bytes, hml, findClass_of_methodNamed B.named, fun w h => hts0 w (List.mem_cons_of_mem _ h)⟩
  have I : mI g s S s.heap [] := ⟨hK, hP, hD, va_S.rf⟩
  have hl := lv_entry ([.ref (g.2.2 0), .int x1, .int x2, .int x3, .int x4]) (n := 5) (Nat.le_of_ble_eq_true rfl)
  rw [lg_entry_eq]
  generalize (lg_sl ([.ref (g.2.2 0), .int x1, .int x2, .int x3, .int x4]) ++ List.replicate (5 - (lg_sl ([.ref (g.2.2 0), .int x1, .int x2, .int x3, .int x4])).length) Slot.unset).toArray = ls at hl ⊢
  have hl : lv_has ls 5 [(0, .ref (g.2.2 0)), (1, .int x1), (2, .int x2), (3, .int x3), (4, .int x4)] := hl
  exact tX7_parcel_0 C0 B.returns B.notSynchronized hf I (lv_sub hl [0, 1, 2, 3, 4] rfl)
set_option maxHeartbeats 4000000 in
set_option maxRecDepth 100000 in
theorem tX7_isParcel_0 (C0 : CallFix p m c cX7_isParcel 2 s args big RX7) (hr : meth.sig.returnType = (some .boolean)) (hk : meth.locks = false) {x1 : Int32} {rr : Int32}  (hf : fX7_isParcel S x1 = some rr) (I : mI g s S H locs) (hl : lv_has ls 2 [(0, .ref (g.2.2 0)), (1, .int x1)]) : W p l e ({ frames := 1, cells := 0, slots := 0, locals := 22 } : Room) s m args below meth c H locs 0 0 (MQ below (va_Qi (fun r' S2 => r' = rr ∧ S2 = S) (mB g) (mA g)) args s 0 0 (mA g)) (F0 m 0 ls []) := by
  obtain ⟨hx, hb, hml, -, -⟩ := id C0
  unfold fX7_isParcel at hf
  refine lv_iload_n hx hb dX7_isParcel_0 rfl (lv_at hl 1 rfl) ?_
  refine lv_iconst (v := 0) hx hb dX7_isParcel_1 (by decide) ?_
  refine lv_aload_n hx hb dX7_isParcel_2 rfl (lv_at hl 0 rfl) ?_
  refine mg_X7_76_0 C0 I dX7_isParcel_3 ?_
  refine lv_iconst (v := 1) hx hb dX7_isParcel_6 (by decide) ?_
  refine lv_isub hx hb dX7_isParcel_7 ?_
  obtain ⟨r1, h1, hf⟩ := bq1_some hf
  refine mcs_i (As := [.int x1, .int (0 : Int32), .int ((gF S 2) - (1 : Int32))]) C0 I (kX7_in h1) (va_cwS 3 C0.2.2.2.2 (gwS wd_702 wd_703 wd_73 wd_704) rfl rfl rfl dsc_X7_in.2 ⟨Nat.le_of_ble_eq_true rfl, Nat.le_of_ble_eq_true rfl⟩) rfl hl.1 rfl (Nat.le_of_ble_eq_true rfl) dX7_isParcel_8 (fun H locs I => ?_)
  obtain ⟨z2, hf⟩ := zb_some hf
  obtain rfl := se1 hf
  exact mrz C0 hr hk z2 I dX7_isParcel_11
set_option maxRecDepth 100000 in
theorem kX7_isParcel {x1 : Int32} {rr : Int32} (hf : fX7_isParcel S x1 = some rr) : Met l yX7_isParcel (Cond.code yX7_isParcel cX7_isParcel 2 (some .boolean) :: big) ({ frames := 1, cells := 0, slots := 0, locals := 22 } : Room) (va_Pc [.ref (g.2.2 0), .int x1] (mB g S)) (va_Qi (fun r' S2 => r' = rr ∧ S2 = S) (mB g) (mA g)) 0 0 (mA g) := by
  refine Met.ofW (cc := cX7_isParcel) (maxL := 2) (ret := (some .boolean)) (by decide) rfl ?_
  intro p e s m args below meth c s₁ B hml hv
  obtain ⟨rfl, hP, hK, hD⟩ := hv
  have hts0 := atoms_spec (ws := (Cond.code yX7_isParcel cX7_isParcel 2 (some .boolean) :: big)) B.pre
  have C0 : CallFix p m c cX7_isParcel 2 s _ big RX7 := ⟨B.exec, B.bytes, hml, findClass_of_methodNamed B.named, fun w h => hts0 w (List.mem_cons_of_mem _ h)⟩
  have I : mI g s S s.heap [] := ⟨hK, hP, hD, va_S.rf⟩
  have hl := lv_entry ([.ref (g.2.2 0), .int x1]) (n := 2) (Nat.le_of_ble_eq_true rfl)
  rw [lg_entry_eq]
  generalize (lg_sl ([.ref (g.2.2 0), .int x1]) ++ List.replicate (2 - (lg_sl ([.ref (g.2.2 0), .int x1])).length) Slot.unset).toArray = ls at hl ⊢
  have hl : lv_has ls 2 [(0, .ref (g.2.2 0)), (1, .int x1)] := hl
  exact tX7_isParcel_0 C0 B.returns B.notSynchronized hf I (lv_sub hl [0, 1] rfl)
set_option maxHeartbeats 4000000 in
set_option maxRecDepth 100000 in
theorem tX7_tells_0 (C0 : CallFix p m c cX7_tells 3 s args big RX7) (hr : meth.sig.returnType = (some .int)) (hk : meth.locks = false) {x1 : Int32} {x2 : Int32} {rr : Int32}  (hf : fX7_tells S x1 x2 = some rr) (I : mI g s S H locs) (hl : lv_has ls 3 [(0, .ref (g.2.2 0)), (1, .int x1), (2, .int x2)]) : W p l e ({ frames := 0, cells := 0, slots := 0, locals := 0 } : Room) s m args below meth c H locs 0 0 (MQ below (va_Qi (fun r' S2 => r' = rr ∧ S2 = S) (mB g) (mA g)) args s 0 0 (mA g)) (F0 m 0 ls []) := by
  obtain ⟨hx, hb, hml, -, -⟩ := id C0
  unfold fX7_tells at hf
  refine lv_iload_n hx hb dX7_tells_0 rfl (lv_at hl 2 rfl) ?_
  refine lv_if_ne (tgt := 13) hx hb dX7_tells_1 (by decide) (fun c1 => ?_) (fun c1 => ?_)
  · have hf := inn c1 hf
    refine lv_iload_n hx hb dX7_tells_13 rfl (lv_at hl 2 rfl) ?_
    refine lv_iconst (v := 1) hx hb dX7_tells_14 (by decide) ?_
    refine lv_icmp_ne (tgt := 27) hx hb dX7_tells_15 (by decide) (fun c2 => ?_) (fun c2 => ?_)
    · have hf := inn c2 hf
      refine lv_iload_n hx hb dX7_tells_27 rfl (lv_at hl 2 rfl) ?_
      refine lv_iconst (v := 2) hx hb dX7_tells_28 (by decide) ?_
      refine lv_icmp_ne (tgt := 41) hx hb dX7_tells_29 (by decide) (fun c3 => ?_) (fun c3 => ?_)
      · have hf := inn c3 hf
        refine lv_aload_n hx hb dX7_tells_41 rfl (lv_at hl 0 rfl) ?_
        refine mg_X7_29_0 C0 I dX7_tells_42 ?_
        refine lv_iload_n hx hb dX7_tells_45 rfl (lv_at hl 1 rfl) ?_
        obtain ⟨b4, hf⟩ := chk_some hf
        refine ml_6 hx hb I b4 dX7_tells_46 ?_
        obtain rfl := se1 hf
        exact mri C0 hr hk I dX7_tells_47
      · have hf := ip c3 hf
        refine lv_aload_n hx hb dX7_tells_32 rfl (lv_at hl 0 rfl) ?_
        refine mg_X7_26_0 C0 I dX7_tells_33 ?_
        refine lv_iload_n hx hb dX7_tells_36 rfl (lv_at hl 1 rfl) ?_
        obtain ⟨b5, hf⟩ := chk_some hf
        refine ml_5 hx hb I b5 dX7_tells_37 ?_
        refine lv_goto (tgt := 47) hx hb dX7_tells_38 (by decide) ?_
        obtain rfl := se1 hf
        exact mri C0 hr hk I dX7_tells_47
    · have hf := ip c2 hf
      refine lv_aload_n hx hb dX7_tells_18 rfl (lv_at hl 0 rfl) ?_
      refine mg_X7_23_0 C0 I dX7_tells_19 ?_
      refine lv_iload_n hx hb dX7_tells_22 rfl (lv_at hl 1 rfl) ?_
      obtain ⟨b6, hf⟩ := chk_some hf
      refine ml_4 hx hb I b6 dX7_tells_23 ?_
      refine lv_goto (tgt := 47) hx hb dX7_tells_24 (by decide) ?_
      obtain rfl := se1 hf
      exact mri C0 hr hk I dX7_tells_47
  · have hf := ip c1 hf
    refine lv_aload_n hx hb dX7_tells_4 rfl (lv_at hl 0 rfl) ?_
    refine mg_X7_20_0 C0 I dX7_tells_5 ?_
    refine lv_iload_n hx hb dX7_tells_8 rfl (lv_at hl 1 rfl) ?_
    obtain ⟨b7, hf⟩ := chk_some hf
    refine ml_3 hx hb I b7 dX7_tells_9 ?_
    refine lv_goto (tgt := 47) hx hb dX7_tells_10 (by decide) ?_
    obtain rfl := se1 hf
    exact mri C0 hr hk I dX7_tells_47
set_option maxRecDepth 100000 in
theorem kX7_tells {x1 : Int32} {x2 : Int32} {rr : Int32} (hf : fX7_tells S x1 x2 = some rr) : Met l yX7_tells (Cond.code yX7_tells cX7_tells 3 (some .int) :: big) ({ frames := 0, cells := 0, slots := 0, locals := 0 } : Room) (va_Pc [.ref (g.2.2 0), .int x1, .int x2] (mB g S)) (va_Qi (fun r' S2 => r' = rr ∧ S2 = S) (mB g) (mA g)) 0 0 (mA g) := by
  refine Met.ofW (cc := cX7_tells) (maxL := 3) (ret := (some .int)) (by decide) rfl ?_
  intro p e s m args below meth c s₁ B hml hv
  obtain ⟨rfl, hP, hK, hD⟩ := hv
  have hts0 := atoms_spec (ws := (Cond.code yX7_tells cX7_tells 3 (some .int) :: big)) B.pre
  have C0 : CallFix p m c cX7_tells 3 s _ big RX7 := ⟨B.exec, B.bytes, hml, findClass_of_methodNamed B.named, fun w h => hts0 w (List.mem_cons_of_mem _ h)⟩
  have I : mI g s S s.heap [] := ⟨hK, hP, hD, va_S.rf⟩
  have hl := lv_entry ([.ref (g.2.2 0), .int x1, .int x2]) (n := 3) (Nat.le_of_ble_eq_true rfl)
  rw [lg_entry_eq]
  generalize (lg_sl ([.ref (g.2.2 0), .int x1, .int x2]) ++ List.replicate (3 - (lg_sl ([.ref (g.2.2 0), .int x1, .int x2])).length) Slot.unset).toArray = ls at hl ⊢
  have hl : lv_has ls 3 [(0, .ref (g.2.2 0)), (1, .int x1), (2, .int x2)] := hl
  exact tX7_tells_0 C0 B.returns B.notSynchronized hf I (lv_sub hl [0, 1, 2] rfl)
set_option maxHeartbeats 4000000 in
set_option maxRecDepth 100000 in
theorem tX7_sets_40 (C0 : CallFix p m c cX7_sets 5 s args big RX7) (hr : meth.sig.returnType = (some .int)) (hk : meth.locks = false)  {rr : Int32}  (hf : fX7_sets_40 S = some (rr, S')) (I : mI g s S H locs) (hl : lv_has ls 5 [(0, .ref (g.2.2 0))]) : W p l e ({ frames := 2, cells := 0, slots := 0, locals := 43 } : Room) s m args below meth c H locs 0 0 (MQ below (va_Qi (fun r' S2 => r' = rr ∧ S2 = S') (mB g) (mA g)) args s 0 0 (mA g)) (F0 m 40 ls []) := by
  obtain ⟨hx, hb, hml, -, -⟩ := id C0
  unfold fX7_sets_40 at hf
  refine lv_aload_n hx hb dX7_sets_40 rfl (lv_at hl 0 rfl) ?_
  obtain ⟨r3, S3, h3, hf⟩ := bq2_some hf
  refine mcv_i (As := []) C0 I (kX7_bad h3) (cwV 0 C0.2.2.2.2 (gwV wd_705 wd_707 wd_23 wd_73 wd_708) rfl rfl rfl dsc_X7_bad ⟨Nat.le_of_ble_eq_true rfl, Nat.le_of_ble_eq_true rfl⟩) (mo_0 I) rfl hl.1 rfl (Nat.le_of_ble_eq_true rfl) dX7_sets_41 (fun H locs I => ?_)
  obtain ⟨rfl, rfl⟩ := se2 hf
  exact mri C0 hr hk I dX7_sets_44
set_option maxHeartbeats 4000000 in
set_option maxRecDepth 100000 in
theorem tX7_sets_118 (C0 : CallFix p m c cX7_sets 5 s args big RX7) (hr : meth.sig.returnType = (some .int)) (hk : meth.locks = false) {x1 : Int32} {x2 : Int32} {x3 : Int32} {x4 : Int32} {s0 : Int32} {s1 : Int32} {rr : Int32}  (hf : fX7_sets_118 S x1 x2 x3 x4 s0 s1 = some (rr, S')) (I : mI g s S H locs) (hl : lv_has ls 5 [(0, .ref (g.2.2 0)), (1, .int x1), (2, .int x2), (3, .int x3), (4, .int x4)]) : W p l e ({ frames := 2, cells := 0, slots := 0, locals := 43 } : Room) s m args below meth c H locs 0 0 (MQ below (va_Qi (fun r' S2 => r' = rr ∧ S2 = S') (mB g) (mA g)) args s 0 0 (mA g)) (F0 m 118 ls [.int s0, .int s1, .ref (g.2.2 5)]) := by
  obtain ⟨hx, hb, hml, -, -⟩ := id C0
  unfold fX7_sets_118 at hf
  obtain ⟨b19, hf⟩ := chk_some hf
  refine ms_5 hx hb I b19 dX7_sets_118 (fun H locs I => ?_)
  refine lv_aload_n hx hb dX7_sets_119 rfl (lv_at hl 0 rfl) ?_
  refine mg_X7_29_0 C0 I dX7_sets_120 ?_
  refine lv_iload_n hx hb dX7_sets_123 rfl (lv_at hl 1 rfl) ?_
  refine lv_iload_n hx hb dX7_sets_124 rfl (lv_at hl 2 rfl) ?_
  refine lv_iconst (v := 3) hx hb dX7_sets_125 (by decide) ?_
  refine lv_icmp_ne (tgt := 133) hx hb dX7_sets_126 (by decide) (fun c20 => ?_) (fun c20 => ?_)
  · have hf := inn c20 hf
    refine lv_aload_n hx hb dX7_sets_133 rfl (lv_at hl 0 rfl) ?_
    refine mg_X7_29_0 C0 I dX7_sets_134 ?_
    refine lv_iload_n hx hb dX7_sets_137 rfl (lv_at hl 1 rfl) ?_
    obtain ⟨b21, hf⟩ := chk_some hf
    refine ml_6 hx hb I b21 dX7_sets_138 ?_
    obtain ⟨b22, hf⟩ := chk_some hf
    refine ms_6 hx hb I b22 dX7_sets_139 (fun H locs I => ?_)
    refine lv_iload hx hb dX7_sets_140 (lv_at hl 4 rfl) ?_
    obtain ⟨rfl, rfl⟩ := se2 hf
    exact mri C0 hr hk I dX7_sets_142
  · have hf := ip c20 hf
    refine lv_iload_n hx hb dX7_sets_129 rfl (lv_at hl 3 rfl) ?_
    refine lv_goto (tgt := 139) hx hb dX7_sets_130 (by decide) ?_
    obtain ⟨b23, hf⟩ := chk_some hf
    refine ms_6 hx hb I b23 dX7_sets_139 (fun H locs I => ?_)
    refine lv_iload hx hb dX7_sets_140 (lv_at hl 4 rfl) ?_
    obtain ⟨rfl, rfl⟩ := se2 hf
    exact mri C0 hr hk I dX7_sets_142
set_option maxHeartbeats 4000000 in
set_option maxRecDepth 100000 in
theorem tX7_sets_97 (C0 : CallFix p m c cX7_sets 5 s args big RX7) (hr : meth.sig.returnType = (some .int)) (hk : meth.locks = false) {x1 : Int32} {x2 : Int32} {x3 : Int32} {x4 : Int32} {s0 : Int32} {s1 : Int32} {rr : Int32}  (hf : fX7_sets_97 S x1 x2 x3 x4 s0 s1 = some (rr, S')) (I : mI g s S H locs) (hl : lv_has ls 5 [(0, .ref (g.2.2 0)), (1, .int x1), (2, .int x2), (3, .int x3), (4, .int x4)]) : W p l e ({ frames := 2, cells := 0, slots := 0, locals := 43 } : Room) s m args below meth c H locs 0 0 (MQ below (va_Qi (fun r' S2 => r' = rr ∧ S2 = S') (mB g) (mA g)) args s 0 0 (mA g)) (F0 m 97 ls [.int s0, .int s1, .ref (g.2.2 4)]) := by
  obtain ⟨hx, hb, hml, -, -⟩ := id C0
  unfold fX7_sets_97 at hf
  obtain ⟨b16, hf⟩ := chk_some hf
  refine ms_4 hx hb I b16 dX7_sets_97 (fun H locs I => ?_)
  refine lv_aload_n hx hb dX7_sets_98 rfl (lv_at hl 0 rfl) ?_
  refine mg_X7_26_0 C0 I dX7_sets_99 ?_
  refine lv_iload_n hx hb dX7_sets_102 rfl (lv_at hl 1 rfl) ?_
  refine lv_iload_n hx hb dX7_sets_103 rfl (lv_at hl 2 rfl) ?_
  refine lv_iconst (v := 2) hx hb dX7_sets_104 (by decide) ?_
  refine lv_icmp_ne (tgt := 112) hx hb dX7_sets_105 (by decide) (fun c17 => ?_) (fun c17 => ?_)
  · have hf := inn c17 hf
    refine lv_aload_n hx hb dX7_sets_112 rfl (lv_at hl 0 rfl) ?_
    refine mg_X7_26_0 C0 I dX7_sets_113 ?_
    refine lv_iload_n hx hb dX7_sets_116 rfl (lv_at hl 1 rfl) ?_
    obtain ⟨b18, hf⟩ := chk_some hf
    refine ml_5 hx hb I b18 dX7_sets_117 ?_
    exact tX7_sets_118 C0 hr hk hf I (lv_sub hl [0, 1, 2, 3, 4] rfl)
  · have hf := ip c17 hf
    refine lv_iload_n hx hb dX7_sets_108 rfl (lv_at hl 3 rfl) ?_
    refine lv_goto (tgt := 118) hx hb dX7_sets_109 (by decide) ?_
    exact tX7_sets_118 C0 hr hk hf I (lv_sub hl [0, 1, 2, 3, 4] rfl)
set_option maxHeartbeats 4000000 in
set_option maxRecDepth 100000 in
theorem tX7_sets_76 (C0 : CallFix p m c cX7_sets 5 s args big RX7) (hr : meth.sig.returnType = (some .int)) (hk : meth.locks = false) {x1 : Int32} {x2 : Int32} {x3 : Int32} {x4 : Int32} {s0 : Int32} {s1 : Int32} {rr : Int32}  (hf : fX7_sets_76 S x1 x2 x3 x4 s0 s1 = some (rr, S')) (I : mI g s S H locs) (hl : lv_has ls 5 [(0, .ref (g.2.2 0)), (1, .int x1), (2, .int x2), (3, .int x3), (4, .int x4)]) : W p l e ({ frames := 2, cells := 0, slots := 0, locals := 43 } : Room) s m args below meth c H locs 0 0 (MQ below (va_Qi (fun r' S2 => r' = rr ∧ S2 = S') (mB g) (mA g)) args s 0 0 (mA g)) (F0 m 76 ls [.int s0, .int s1, .ref (g.2.2 3)]) := by
  obtain ⟨hx, hb, hml, -, -⟩ := id C0
  unfold fX7_sets_76 at hf
  obtain ⟨b13, hf⟩ := chk_some hf
  refine ms_3 hx hb I b13 dX7_sets_76 (fun H locs I => ?_)
  refine lv_aload_n hx hb dX7_sets_77 rfl (lv_at hl 0 rfl) ?_
  refine mg_X7_23_0 C0 I dX7_sets_78 ?_
  refine lv_iload_n hx hb dX7_sets_81 rfl (lv_at hl 1 rfl) ?_
  refine lv_iload_n hx hb dX7_sets_82 rfl (lv_at hl 2 rfl) ?_
  refine lv_iconst (v := 1) hx hb dX7_sets_83 (by decide) ?_
  refine lv_icmp_ne (tgt := 91) hx hb dX7_sets_84 (by decide) (fun c14 => ?_) (fun c14 => ?_)
  · have hf := inn c14 hf
    refine lv_aload_n hx hb dX7_sets_91 rfl (lv_at hl 0 rfl) ?_
    refine mg_X7_23_0 C0 I dX7_sets_92 ?_
    refine lv_iload_n hx hb dX7_sets_95 rfl (lv_at hl 1 rfl) ?_
    obtain ⟨b15, hf⟩ := chk_some hf
    refine ml_4 hx hb I b15 dX7_sets_96 ?_
    exact tX7_sets_97 C0 hr hk hf I (lv_sub hl [0, 1, 2, 3, 4] rfl)
  · have hf := ip c14 hf
    refine lv_iload_n hx hb dX7_sets_87 rfl (lv_at hl 3 rfl) ?_
    refine lv_goto (tgt := 97) hx hb dX7_sets_88 (by decide) ?_
    exact tX7_sets_97 C0 hr hk hf I (lv_sub hl [0, 1, 2, 3, 4] rfl)
set_option maxHeartbeats 4000000 in
set_option maxRecDepth 100000 in
theorem tX7_sets_45 (C0 : CallFix p m c cX7_sets 5 s args big RX7) (hr : meth.sig.returnType = (some .int)) (hk : meth.locks = false) {x1 : Int32} {x2 : Int32} {x3 : Int32} {rr : Int32}  (hf : fX7_sets_45 S x1 x2 x3 = some (rr, S')) (I : mI g s S H locs) (hl : lv_has ls 5 [(0, .ref (g.2.2 0)), (1, .int x1), (2, .int x2), (3, .int x3)]) : W p l e ({ frames := 2, cells := 0, slots := 0, locals := 43 } : Room) s m args below meth c H locs 0 0 (MQ below (va_Qi (fun r' S2 => r' = rr ∧ S2 = S') (mB g) (mA g)) args s 0 0 (mA g)) (F0 m 45 ls []) := by
  obtain ⟨hx, hb, hml, -, -⟩ := id C0
  unfold fX7_sets_45 at hf
  refine lv_aload_n hx hb dX7_sets_45 rfl (lv_at hl 0 rfl) ?_
  obtain ⟨S9, h9, hf⟩ := bq1_some hf
  refine mcv_v (As := []) C0 I (kX7_leavesState h9) (cwV 0 C0.2.2.2.2 (gwV wd_709 wd_711 wd_24 wd_73 wd_712) rfl rfl rfl dsc_X7_leavesState ⟨Nat.le_of_ble_eq_true rfl, Nat.le_of_ble_eq_true rfl⟩) (mo_0 I) rfl hl.1 rfl (Nat.le_of_ble_eq_true rfl) dX7_sets_46 (fun H locs I => ?_)
  refine lv_aload_n hx hb dX7_sets_49 rfl (lv_at hl 0 rfl) ?_
  refine lv_iload_n hx hb dX7_sets_50 rfl (lv_at hl 1 rfl) ?_
  refine lv_iload_n hx hb dX7_sets_51 rfl (lv_at hl 2 rfl) ?_
  obtain ⟨r10, h10, hf⟩ := bq1_some hf
  refine mcv_i (As := [.int x1, .int x2]) C0 I (kX7_tells h10) (cwV 2 C0.2.2.2.2 (gwV wd_744 wd_746 wd_30 wd_73 wd_747) rfl rfl rfl dsc_X7_tells ⟨Nat.le_of_ble_eq_true rfl, Nat.le_of_ble_eq_true rfl⟩) (mo_0 I) rfl hl.1 rfl (Nat.le_of_ble_eq_true rfl) dX7_sets_52 (fun H locs I => ?_)
  refine lv_istore (lv' := [(4, .int r10), (0, .ref (g.2.2 0)), (1, .int x1), (2, .int x2), (3, .int x3)]) hx hb dX7_sets_55 hl (by decide) rfl (fun ls hl => ?_)
  refine lv_aload_n hx hb dX7_sets_57 rfl (lv_at hl 1 rfl) ?_
  refine mg_X7_20_0 C0 I dX7_sets_58 ?_
  refine lv_iload_n hx hb dX7_sets_61 rfl (lv_at hl 2 rfl) ?_
  refine lv_iload_n hx hb dX7_sets_62 rfl (lv_at hl 3 rfl) ?_
  refine lv_if_ne (tgt := 70) hx hb dX7_sets_63 (by decide) (fun c11 => ?_) (fun c11 => ?_)
  · have hf := inn c11 hf
    refine lv_aload_n hx hb dX7_sets_70 rfl (lv_at hl 1 rfl) ?_
    refine mg_X7_20_0 C0 I dX7_sets_71 ?_
    refine lv_iload_n hx hb dX7_sets_74 rfl (lv_at hl 2 rfl) ?_
    obtain ⟨b12, hf⟩ := chk_some hf
    refine ml_3 hx hb I b12 dX7_sets_75 ?_
    exact tX7_sets_76 C0 hr hk hf I (lv_sub hl [1, 2, 3, 4, 0] rfl)
  · have hf := ip c11 hf
    refine lv_iload_n hx hb dX7_sets_66 rfl (lv_at hl 4 rfl) ?_
    refine lv_goto (tgt := 76) hx hb dX7_sets_67 (by decide) ?_
    exact tX7_sets_76 C0 hr hk hf I (lv_sub hl [1, 2, 3, 4, 0] rfl)
set_option maxHeartbeats 4000000 in
set_option maxRecDepth 100000 in
theorem tX7_sets_0 (C0 : CallFix p m c cX7_sets 5 s args big RX7) (hr : meth.sig.returnType = (some .int)) (hk : meth.locks = false) {x1 : Int32} {x2 : Int32} {x3 : Int32} {rr : Int32}  (hf : fX7_sets S x1 x2 x3 = some (rr, S')) (I : mI g s S H locs) (hl : lv_has ls 5 [(0, .ref (g.2.2 0)), (1, .int x1), (2, .int x2), (3, .int x3)]) : W p l e ({ frames := 2, cells := 0, slots := 0, locals := 43 } : Room) s m args below meth c H locs 0 0 (MQ below (va_Qi (fun r' S2 => r' = rr ∧ S2 = S') (mB g) (mA g)) args s 0 0 (mA g)) (F0 m 0 ls []) := by
  obtain ⟨hx, hb, hml, -, -⟩ := id C0
  unfold fX7_sets at hf
  refine lv_aload_n hx hb dX7_sets_0 rfl (lv_at hl 0 rfl) ?_
  refine lv_iload_n hx hb dX7_sets_1 rfl (lv_at hl 1 rfl) ?_
  obtain ⟨r1, h1, hf⟩ := bq1_some hf
  refine mcv_i (As := [.int x1]) C0 I (kX7_isParcel h1) (cwV 1 C0.2.2.2.2 (gwV wd_740 wd_742 wd_29 wd_73 wd_743) rfl rfl rfl dsc_X7_isParcel ⟨Nat.le_of_ble_eq_true rfl, Nat.le_of_ble_eq_true rfl⟩) (mo_0 I) rfl hl.1 rfl (Nat.le_of_ble_eq_true rfl) dX7_sets_2 (fun H locs I => ?_)
  refine lv_if_eq (tgt := 40) hx hb dX7_sets_5 (by decide) (fun c2 => ?_) (fun c2 => ?_)
  · have hf := ip c2 hf
    exact tX7_sets_40 C0 hr hk hf I (lv_sub hl [0] rfl)
  · have hf := inn c2 hf
    refine lv_iload_n hx hb dX7_sets_8 rfl (lv_at hl 2 rfl) ?_
    refine lv_iconst (v := 0) hx hb dX7_sets_9 (by decide) ?_
    refine lv_iconst (v := 3) hx hb dX7_sets_10 (by decide) ?_
    obtain ⟨r4, h4, hf⟩ := bq1_some hf
    refine mcs_i (As := [.int x2, .int (0 : Int32), .int (3 : Int32)]) C0 I (kX7_in h4) (va_cwS 3 C0.2.2.2.2 (gwS wd_702 wd_703 wd_73 wd_704) rfl rfl rfl dsc_X7_in.2 ⟨Nat.le_of_ble_eq_true rfl, Nat.le_of_ble_eq_true rfl⟩) rfl hl.1 rfl (Nat.le_of_ble_eq_true rfl) dX7_sets_11 (fun H locs I => ?_)
    refine lv_if_eq (tgt := 40) hx hb dX7_sets_14 (by decide) (fun c5 => ?_) (fun c5 => ?_)
    · have hf := ip c5 hf
      exact tX7_sets_40 C0 hr hk hf I (lv_sub hl [0] rfl)
    · have hf := inn c5 hf
      refine lv_iload_n hx hb dX7_sets_17 rfl (lv_at hl 2 rfl) ?_
      refine lv_iconst (v := 3) hx hb dX7_sets_18 (by decide) ?_
      refine lv_icmp_ne (tgt := 32) hx hb dX7_sets_19 (by decide) (fun c6 => ?_) (fun c6 => ?_)
      · have hf := inn c6 hf
        refine lv_aload_n hx hb dX7_sets_32 rfl (lv_at hl 0 rfl) ?_
        refine lv_iload_n hx hb dX7_sets_33 rfl (lv_at hl 3 rfl) ?_
        obtain ⟨r7, h7, hf⟩ := bq1_some hf
        refine mcv_i (As := [.int x3]) C0 I (kX7_isCorner h7) (cwV 1 C0.2.2.2.2 (gwV wd_717 wd_719 wd_25 wd_73 wd_720) rfl rfl rfl dsc_X7_isCorner ⟨Nat.le_of_ble_eq_true rfl, Nat.le_of_ble_eq_true rfl⟩) (mo_0 I) rfl hl.1 rfl (Nat.le_of_ble_eq_true rfl) dX7_sets_34 (fun H locs I => ?_)
        refine lv_if_ne (tgt := 45) hx hb dX7_sets_37 (by decide) (fun c8 => ?_) (fun c8 => ?_)
        · have hf := inn c8 hf
          exact tX7_sets_45 C0 hr hk hf I (lv_sub hl [0, 1, 2, 3] rfl)
        · have hf := ip c8 hf
          exact tX7_sets_40 C0 hr hk hf I (lv_sub hl [0] rfl)
      · have hf := ip c6 hf
        refine lv_iload_n hx hb dX7_sets_22 rfl (lv_at hl 3 rfl) ?_
        obtain ⟨r24, h24, hf⟩ := bq1_some hf
        refine mcs_i (As := [.int x3]) C0 I (kX7_isRank h24) (va_cwS 1 C0.2.2.2.2 (gwS wd_725 wd_726 wd_73 wd_727) rfl rfl rfl dsc_X7_isRank.2 ⟨Nat.le_of_ble_eq_true rfl, Nat.le_of_ble_eq_true rfl⟩) rfl hl.1 rfl (Nat.le_of_ble_eq_true rfl) dX7_sets_23 (fun H locs I => ?_)
        refine lv_if_eq (tgt := 40) hx hb dX7_sets_26 (by decide) (fun c25 => ?_) (fun c25 => ?_)
        · have hf := ip c25 hf
          exact tX7_sets_40 C0 hr hk hf I (lv_sub hl [0] rfl)
        · have hf := inn c25 hf
          refine lv_goto (tgt := 45) hx hb dX7_sets_29 (by decide) ?_
          exact tX7_sets_45 C0 hr hk hf I (lv_sub hl [0, 1, 2, 3] rfl)
set_option maxRecDepth 100000 in
theorem kX7_sets {x1 : Int32} {x2 : Int32} {x3 : Int32} {rr : Int32} (hf : fX7_sets S x1 x2 x3 = some (rr, S')) : Met l yX7_sets (Cond.code yX7_sets cX7_sets 5 (some .int) :: big) ({ frames := 2, cells := 0, slots := 0, locals := 43 } : Room) (va_Pc [.ref (g.2.2 0), .int x1, .int x2, .int x3] (mB g S)) (va_Qi (fun r' S2 => r' = rr ∧ S2 = S') (mB g) (mA g)) 0 0 (mA g) := by
  refine Met.ofW (cc := cX7_sets) (maxL := 5) (ret := (some .int)) (by decide) rfl ?_
  intro p e s m args below meth c s₁ B hml hv
  obtain ⟨rfl, hP, hK, hD⟩ := hv
  have hts0 := atoms_spec (ws := (Cond.code yX7_sets cX7_sets 5 (some .int) :: big)) B.pre
  have C0 : CallFix p m c cX7_sets 5 s _ big RX7 := ⟨B.exec, B.bytes, hml, findClass_of_methodNamed B.named, fun w h => hts0 w (List.mem_cons_of_mem _ h)⟩
  have I : mI g s S s.heap [] := ⟨hK, hP, hD, va_S.rf⟩
  have hl := lv_entry ([.ref (g.2.2 0), .int x1, .int x2, .int x3]) (n := 5) (Nat.le_of_ble_eq_true rfl)
  rw [lg_entry_eq]
  generalize (lg_sl ([.ref (g.2.2 0), .int x1, .int x2, .int x3]) ++ List.replicate (5 - (lg_sl ([.ref (g.2.2 0), .int x1, .int x2, .int x3])).length) Slot.unset).toArray = ls at hl ⊢
  have hl : lv_has ls 5 [(0, .ref (g.2.2 0)), (1, .int x1), (2, .int x2), (3, .int x3)] := hl
  exact tX7_sets_0 C0 B.returns B.notSynchronized hf I (lv_sub hl [0, 1, 2, 3] rfl)
end
