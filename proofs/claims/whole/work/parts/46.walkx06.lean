section
variable {p : Program} {l : Launch} {e : Env} {s : State} {m : MethodId} {args : Array Value} {below : List Frame} {meth : Method} {c : Code} {Q : State → Prop} {g : xG} {H : Heap} {locs : List Loc} {ls : Array Slot} {S S' : St}
set_option maxHeartbeats 4000000 in
set_option maxRecDepth 100000 in
theorem BX2_readNumber_21 (C0 : CallFix p m c cX2_readNumber 4 s args big RX2) (hr : meth.sig.returnType = (some .int)) (hk : meth.locks = false) {x1 : Int32} {x2 : Int32} {x3 : Int32} {b : Bool} {y3 : Int32} (Kt : b = true → ∀ (H : Heap) (locs : List Loc) (ls : Array Slot), xI g s S' H locs → lv_has ls 4 [(0, .ref (g.2.2 32)), (1, .int x1), (2, .int x2), (3, .int y3)] → W p l e ({ frames := 1, cells := 0, slots := 0, locals := 24 } : Room) s m args below meth c H locs 0 0 Q (F0 m 21 ls [])) (Kf : b = false → ∀ (H : Heap) (locs : List Loc) (ls : Array Slot), xI g s S' H locs → lv_has ls 4 [(0, .ref (g.2.2 32)), (1, .int x1), (2, .int x2), (3, .int y3)] → W p l e ({ frames := 1, cells := 0, slots := 0, locals := 24 } : Room) s m args below meth c H locs 0 0 Q (F0 m 95 ls [])) (hf : bX2_readNumber_21 x1 S x3 = some (b, S', y3)) (I : xI g s S H locs) (hl : lv_has ls 4 [(0, .ref (g.2.2 32)), (1, .int x1), (2, .int x2), (3, .int x3)]) : W p l e ({ frames := 1, cells := 0, slots := 0, locals := 24 } : Room) s m args below meth c H locs 0 0 Q (F0 m 21 ls []) := by
  obtain ⟨hx, hb, hml, -, -⟩ := id C0
  unfold bX2_readNumber_21 at hf
  refine lv_aload_n hx hb dX2_readNumber_21 rfl (lv_at hl 0 rfl) ?_
  refine xg_X2_21_32 C0 I dX2_readNumber_22 ?_
  refine lv_aload_n hx hb dX2_readNumber_25 rfl (lv_at hl 0 rfl) ?_
  refine xg_X2_9_32 C0 I dX2_readNumber_26 ?_
  refine lv_icmp_ge (tgt := 95) hx hb dX2_readNumber_29 (by decide) (fun c3 => ?_) (fun c3 => ?_)
  · have hf := ip c3 hf
    obtain ⟨rfl, rfl, rfl⟩ := se3 hf
    exact Kf rfl _ _ _ I (lv_sub hl [0, 1, 2, 3] rfl)
  · have hf := inn c3 hf
    refine lv_aload_n hx hb dX2_readNumber_32 rfl (lv_at hl 0 rfl) ?_
    refine xg_X2_24_32 C0 I dX2_readNumber_33 ?_
    refine lv_aload_n hx hb dX2_readNumber_36 rfl (lv_at hl 0 rfl) ?_
    refine xg_X2_21_32 C0 I dX2_readNumber_37 ?_
    obtain ⟨b4, hf⟩ := chk_some hf
    refine xl_33 hx hb I b4 dX2_readNumber_40 ?_
    refine lv_bipush (v := 48) hx hb dX2_readNumber_41 (by decide) ?_
    refine lv_icmp_lt (tgt := 95) hx hb dX2_readNumber_43 (by decide) (fun c5 => ?_) (fun c5 => ?_)
    · have hf := ip c5 hf
      obtain ⟨rfl, rfl, rfl⟩ := se3 hf
      exact Kf rfl _ _ _ I (lv_sub hl [0, 1, 2, 3] rfl)
    · have hf := inn c5 hf
      refine lv_aload_n hx hb dX2_readNumber_46 rfl (lv_at hl 0 rfl) ?_
      refine xg_X2_24_32 C0 I dX2_readNumber_47 ?_
      refine lv_aload_n hx hb dX2_readNumber_50 rfl (lv_at hl 0 rfl) ?_
      refine xg_X2_21_32 C0 I dX2_readNumber_51 ?_
      obtain ⟨b6, hf⟩ := chk_some hf
      refine xl_33 hx hb I b6 dX2_readNumber_54 ?_
      refine lv_bipush (v := 57) hx hb dX2_readNumber_55 (by decide) ?_
      refine lv_icmp_gt (tgt := 95) hx hb dX2_readNumber_57 (by decide) (fun c7 => ?_) (fun c7 => ?_)
      · have hf := ip c7 hf
        obtain ⟨rfl, rfl, rfl⟩ := se3 hf
        exact Kf rfl _ _ _ I (lv_sub hl [0, 1, 2, 3] rfl)
      · have hf := inn c7 hf
        refine lv_bipush (v := 10) hx hb dX2_readNumber_60 (by decide) ?_
        refine lv_iload_n hx hb dX2_readNumber_62 rfl (lv_at hl 3 rfl) ?_
        refine lv_imul hx hb dX2_readNumber_63 ?_
        refine lv_aload_n hx hb dX2_readNumber_64 rfl (lv_at hl 0 rfl) ?_
        refine xg_X2_24_32 C0 I dX2_readNumber_65 ?_
        refine lv_aload_n hx hb dX2_readNumber_68 rfl (lv_at hl 0 rfl) ?_
        refine xg_X2_21_32 C0 I dX2_readNumber_69 ?_
        obtain ⟨b8, hf⟩ := chk_some hf
        refine xl_33 hx hb I b8 dX2_readNumber_72 ?_
        refine lv_iadd hx hb dX2_readNumber_73 ?_
        refine lv_bipush (v := 48) hx hb dX2_readNumber_74 (by decide) ?_
        refine lv_isub hx hb dX2_readNumber_76 ?_
        refine lv_iload_n hx hb dX2_readNumber_77 rfl (lv_at hl 1 rfl) ?_
        refine va_mmin hx hb (C0.2.2.1.trans hl.1.symm) C0.2.2.2.1 (C0.2.2.2.2 _ wd_564) (C0.2.2.2.2 _ wd_288) (C0.2.2.2.2 _ wd_75) (C0.2.2.2.2 _ wd_289) (Nat.le_of_ble_eq_true rfl) (Nat.le_of_ble_eq_true rfl) (Nat.zero_le _) (Nat.zero_le _) dX2_readNumber_78 ?_
        refine lv_istore_n (lv' := [(3, .int (if x1 < ((((10 : Int32) * x3) + (gR S 19 (gF S 37))) - (48 : Int32)) then x1 else ((((10 : Int32) * x3) + (gR S 19 (gF S 37))) - (48 : Int32)))), (0, .ref (g.2.2 32)), (1, .int x1), (2, .int x2)]) hx hb dX2_readNumber_81 rfl hl (by decide) rfl (fun ls hl => ?_)
        refine lv_aload_n hx hb dX2_readNumber_82 rfl (lv_at hl 1 rfl) ?_
        refine lv_dup hx hb dX2_readNumber_83 rfl ?_
        refine xg_X2_21_32 C0 I dX2_readNumber_84 ?_
        refine lv_iconst (v := 1) hx hb dX2_readNumber_87 (by decide) ?_
        refine lv_iadd hx hb dX2_readNumber_88 ?_
        refine xp_X2_21_32 C0 I dX2_readNumber_89 (fun H locs I => ?_)
        refine lv_goto (tgt := 21) hx hb dX2_readNumber_92 (by decide) ?_
        obtain ⟨rfl, rfl, rfl⟩ := se3 hf
        exact Kt rfl _ _ _ I (lv_sub hl [1, 2, 3, 0] rfl)
set_option maxHeartbeats 4000000 in
theorem lX2_readNumber_21 (C0 : CallFix p m c cX2_readNumber 4 s args big RX2) (hr : meth.sig.returnType = (some .int)) (hk : meth.locks = false) {x1 : Int32} {x2 : Int32} {S' : St} {y3 : Int32} : ∀ (n : Nat) {S : St} {x3 : Int32}, lp (fun q => bX2_readNumber_21 x1 q.1 q.2) n (S, x3) = some (S', y3) → ∀ {H : Heap} {locs : List Loc}, xI g s S H locs → ∀ {ls : Array Slot}, lv_has ls 4 [(0, .ref (g.2.2 32)), (1, .int x1), (2, .int x2), (3, .int x3)] → (∀ (H : Heap) (locs : List Loc) (ls : Array Slot), xI g s S' H locs → lv_has ls 4 [(0, .ref (g.2.2 32)), (1, .int x1), (2, .int x2), (3, .int y3)] → W p l e ({ frames := 1, cells := 0, slots := 0, locals := 24 } : Room) s m args below meth c H locs 0 0 Q (F0 m 95 ls [])) → W p l e ({ frames := 1, cells := 0, slots := 0, locals := 24 } : Room) s m args below meth c H locs 0 0 Q (F0 m 21 ls []) := by
  intro n
  induction n with
  | zero => intro S x3 hf; cases hf
  | succ n ih =>
    intro S x3 hf H locs I ls hl K
    obtain ⟨b, ⟨z0, z1⟩, h1, h2, h3⟩ := lp_some hf
    refine BX2_readNumber_21 C0 hr hk (fun hb1 H locs ls I hl => ?_) (fun hb1 H locs ls I hl => ?_) h1 I hl
    · exact ih (h2 hb1) I hl K
    · have e := h3 hb1
      cases e
      exact K H locs ls I hl
set_option maxHeartbeats 4000000 in
set_option maxRecDepth 100000 in
theorem tX2_readNumber_118 (C0 : CallFix p m c cX2_readNumber 4 s args big RX2) (hr : meth.sig.returnType = (some .int)) (hk : meth.locks = false) {x2 : Int32} {x3 : Int32} {rr : Int32}  (hf : fX2_readNumber_118 S x2 x3 = some (rr, S')) (I : xI g s S H locs) (hl : lv_has ls 4 [(0, .ref (g.2.2 32)), (2, .int x2), (3, .int x3)]) : W p l e ({ frames := 1, cells := 0, slots := 0, locals := 24 } : Room) s m args below meth c H locs 0 0 (MQ below (va_Qi (fun r' S2 => r' = rr ∧ S2 = S') (xB g) (xA g)) args s 0 0 (xA g)) (F0 m 118 ls []) := by
  obtain ⟨hx, hb, hml, -, -⟩ := id C0
  unfold fX2_readNumber_118 at hf
  refine lv_aload_n hx hb dX2_readNumber_118 rfl (lv_at hl 0 rfl) ?_
  refine lv_iload_n hx hb dX2_readNumber_119 rfl (lv_at hl 1 rfl) ?_
  obtain ⟨S11, h11, hf⟩ := bq1_some hf
  refine xcv_v (As := [.int x2]) C0 I (kX2_failAt h11) (cwV 1 C0.2.2.2.2 (gwV wd_552 wd_554 wd_17 wd_72 wd_555) rfl rfl rfl dsc_X2_failAt ⟨Nat.le_of_ble_eq_true rfl, Nat.le_of_ble_eq_true rfl⟩) (xo_32 I) rfl hl.1 rfl (Nat.le_of_ble_eq_true rfl) dX2_readNumber_120 (fun H locs I => ?_)
  refine lv_iload_n hx hb dX2_readNumber_123 rfl (lv_at hl 2 rfl) ?_
  obtain ⟨rfl, rfl⟩ := se2 hf
  exact xri C0 hr hk I dX2_readNumber_124
set_option maxHeartbeats 4000000 in
set_option maxRecDepth 100000 in
theorem tX2_readNumber_0 (C0 : CallFix p m c cX2_readNumber 4 s args big RX2) (hr : meth.sig.returnType = (some .int)) (hk : meth.locks = false) {x1 : Int32} {rr : Int32}  (hf : fX2_readNumber S x1 = some (rr, S')) (I : xI g s S H locs) (hl : lv_has ls 4 [(0, .ref (g.2.2 32)), (1, .int x1)]) : W p l e ({ frames := 1, cells := 0, slots := 0, locals := 24 } : Room) s m args below meth c H locs 0 0 (MQ below (va_Qi (fun r' S2 => r' = rr ∧ S2 = S') (xB g) (xA g)) args s 0 0 (xA g)) (F0 m 0 ls []) := by
  obtain ⟨hx, hb, hml, -, -⟩ := id C0
  unfold fX2_readNumber at hf
  refine lv_aload_n hx hb dX2_readNumber_0 rfl (lv_at hl 0 rfl) ?_
  refine xg_X2_15_32 C0 I dX2_readNumber_1 ?_
  refine lv_iconst (v := -1) hx hb dX2_readNumber_4 (by decide) ?_
  refine lv_icmp_eq (tgt := 10) hx hb dX2_readNumber_5 (by decide) (fun c1 => ?_) (fun c1 => ?_)
  · have hf := ip c1 hf
    refine lv_aload_n hx hb dX2_readNumber_10 rfl (lv_at hl 0 rfl) ?_
    obtain ⟨S2, h2, hf⟩ := bq1_some hf
    refine xcv_v (As := []) C0 I (kX2_skipBlanks h2) (cwV 0 C0.2.2.2.2 (gwV wd_548 wd_550 wd_16 wd_72 wd_551) rfl rfl rfl dsc_X2_skipBlanks ⟨Nat.le_of_ble_eq_true rfl, Nat.le_of_ble_eq_true rfl⟩) (xo_32 I) rfl hl.1 rfl (Nat.le_of_ble_eq_true rfl) dX2_readNumber_11 (fun H locs I => ?_)
    refine lv_aload_n hx hb dX2_readNumber_14 rfl (lv_at hl 0 rfl) ?_
    refine xg_X2_21_32 C0 I dX2_readNumber_15 ?_
    refine lv_istore_n (lv' := [(2, .int (gF S2 37)), (0, .ref (g.2.2 32)), (1, .int x1)]) hx hb dX2_readNumber_18 rfl hl (by decide) rfl (fun ls hl => ?_)
    refine lv_iconst (v := 0) hx hb dX2_readNumber_19 (by decide) ?_
    refine lv_istore_n (lv' := [(3, .int (0 : Int32)), (2, .int (gF S2 37)), (0, .ref (g.2.2 32)), (1, .int x1)]) hx hb dX2_readNumber_20 rfl hl (by decide) rfl (fun ls hl => ?_)
    obtain ⟨S9, y3_9, h9, hf⟩ := bq2_some hf
    refine lX2_readNumber_21 C0 hr hk fu h9 I (lv_sub hl [2, 3, 1, 0] rfl) (fun H locs ls I hl => ?_)
    refine lv_aload_n hx hb dX2_readNumber_95 rfl (lv_at hl 0 rfl) ?_
    refine xg_X2_21_32 C0 I dX2_readNumber_96 ?_
    refine lv_iload_n hx hb dX2_readNumber_99 rfl (lv_at hl 2 rfl) ?_
    refine lv_icmp_eq (tgt := 118) hx hb dX2_readNumber_100 (by decide) (fun c10 => ?_) (fun c10 => ?_)
    · have hf := ip c10 hf
      exact tX2_readNumber_118 C0 hr hk hf I (lv_sub hl [0, 2, 3] rfl)
    · have hf := inn c10 hf
      refine lv_aload_n hx hb dX2_readNumber_103 rfl (lv_at hl 0 rfl) ?_
      refine xg_X2_21_32 C0 I dX2_readNumber_104 ?_
      refine lv_iload_n hx hb dX2_readNumber_107 rfl (lv_at hl 2 rfl) ?_
      refine lv_isub hx hb dX2_readNumber_108 ?_
      refine lv_iconst (v := 2) hx hb dX2_readNumber_109 (by decide) ?_
      refine lv_icmp_gt (tgt := 118) hx hb dX2_readNumber_110 (by decide) (fun c12 => ?_) (fun c12 => ?_)
      · have hf := ip c12 hf
        exact tX2_readNumber_118 C0 hr hk hf I (lv_sub hl [0, 2, 3] rfl)
      · have hf := inn c12 hf
        refine lv_iload_n hx hb dX2_readNumber_113 rfl (lv_at hl 3 rfl) ?_
        refine lv_iload_n hx hb dX2_readNumber_114 rfl (lv_at hl 1 rfl) ?_
        refine lv_icmp_lt (tgt := 123) hx hb dX2_readNumber_115 (by decide) (fun c13 => ?_) (fun c13 => ?_)
        · have hf := ip c13 hf
          refine lv_iload_n hx hb dX2_readNumber_123 rfl (lv_at hl 3 rfl) ?_
          obtain ⟨rfl, rfl⟩ := se2 hf
          exact xri C0 hr hk I dX2_readNumber_124
        · have hf := inn c13 hf
          exact tX2_readNumber_118 C0 hr hk hf I (lv_sub hl [0, 2, 3] rfl)
  · have hf := inn c1 hf
    refine lv_iconst (v := 0) hx hb dX2_readNumber_8 (by decide) ?_
    obtain ⟨rfl, rfl⟩ := se2 hf
    exact xri C0 hr hk I dX2_readNumber_9
set_option maxRecDepth 100000 in
theorem kX2_readNumber {x1 : Int32} {rr : Int32} (hf : fX2_readNumber S x1 = some (rr, S')) : Met l yX2_readNumber (Cond.code yX2_readNumber cX2_readNumber 4 (some .int) :: big) ({ frames := 1, cells := 0, slots := 0, locals := 24 } : Room) (va_Pc [.ref (g.2.2 32), .int x1] (xB g S)) (va_Qi (fun r' S2 => r' = rr ∧ S2 = S') (xB g) (xA g)) 0 0 (xA g) := by
  refine Met.ofW (cc := cX2_readNumber) (maxL := 4) (ret := (some .int)) (by decide) rfl ?_
  intro p e s m args below meth c s₁ B hml hv
  obtain ⟨rfl, hP, hK, hD⟩ := hv
  have hts0 := atoms_spec (ws := (Cond.code yX2_readNumber cX2_readNumber 4 (some .int) :: big)) B.pre
  have C0 : CallFix p m c cX2_readNumber 4 s _ big RX2 := ⟨B.exec, B.bytes, hml, findClass_of_methodNamed B.named, fun w h => hts0 w (List.mem_cons_of_mem _ h)⟩
  have I : xI g s S s.heap [] := ⟨hK, hP, hD, va_S.rf⟩
  have hl := lv_entry ([.ref (g.2.2 32), .int x1]) (n := 4) (Nat.le_of_ble_eq_true rfl)
  rw [lg_entry_eq]
  generalize (lg_sl ([.ref (g.2.2 32), .int x1]) ++ List.replicate (4 - (lg_sl ([.ref (g.2.2 32), .int x1])).length) Slot.unset).toArray = ls at hl ⊢
  have hl : lv_has ls 4 [(0, .ref (g.2.2 32)), (1, .int x1)] := hl
  exact tX2_readNumber_0 C0 B.returns B.notSynchronized hf I (lv_sub hl [0, 1] rfl)
set_option maxHeartbeats 4000000 in
set_option maxRecDepth 100000 in
theorem tX2_takes_0 (C0 : CallFix p m c cX2_takes 2 s args big RX2) (hr : meth.sig.returnType = (some .boolean)) (hk : meth.locks = false) {x1 : Int32} {rr : Int32}  (hf : fX2_takes S x1 = some (rr, S')) (I : xI g s S H locs) (hl : lv_has ls 2 [(0, .ref (g.2.2 32)), (1, .int x1)]) : W p l e ({ frames := 1, cells := 0, slots := 0, locals := 20 } : Room) s m args below meth c H locs 0 0 (MQ below (va_Qi (fun r' S2 => r' = rr ∧ S2 = S') (xB g) (xA g)) args s 0 0 (xA g)) (F0 m 0 ls []) := by
  obtain ⟨hx, hb, hml, -, -⟩ := id C0
  unfold fX2_takes at hf
  refine lv_aload_n hx hb dX2_takes_0 rfl (lv_at hl 0 rfl) ?_
  refine xg_X2_15_32 C0 I dX2_takes_1 ?_
  refine lv_iconst (v := -1) hx hb dX2_takes_4 (by decide) ?_
  refine lv_icmp_eq (tgt := 10) hx hb dX2_takes_5 (by decide) (fun c1 => ?_) (fun c1 => ?_)
  · have hf := ip c1 hf
    refine lv_aload_n hx hb dX2_takes_10 rfl (lv_at hl 0 rfl) ?_
    obtain ⟨S2, h2, hf⟩ := bq1_some hf
    refine xcv_v (As := []) C0 I (kX2_skipBlanks h2) (cwV 0 C0.2.2.2.2 (gwV wd_548 wd_550 wd_16 wd_72 wd_551) rfl rfl rfl dsc_X2_skipBlanks ⟨Nat.le_of_ble_eq_true rfl, Nat.le_of_ble_eq_true rfl⟩) (xo_32 I) rfl hl.1 rfl (Nat.le_of_ble_eq_true rfl) dX2_takes_11 (fun H locs I => ?_)
    refine lv_aload_n hx hb dX2_takes_14 rfl (lv_at hl 0 rfl) ?_
    refine xg_X2_21_32 C0 I dX2_takes_15 ?_
    refine lv_aload_n hx hb dX2_takes_18 rfl (lv_at hl 0 rfl) ?_
    refine xg_X2_9_32 C0 I dX2_takes_19 ?_
    refine lv_icmp_ge (tgt := 50) hx hb dX2_takes_22 (by decide) (fun c3 => ?_) (fun c3 => ?_)
    · have hf := ip c3 hf
      refine lv_iconst (v := 0) hx hb dX2_takes_50 (by decide) ?_
      obtain ⟨rfl, rfl⟩ := se2 hf
      exact xrz C0 hr hk rfl I dX2_takes_51
    · have hf := inn c3 hf
      refine lv_aload_n hx hb dX2_takes_25 rfl (lv_at hl 0 rfl) ?_
      refine xg_X2_24_32 C0 I dX2_takes_26 ?_
      refine lv_aload_n hx hb dX2_takes_29 rfl (lv_at hl 0 rfl) ?_
      refine xg_X2_21_32 C0 I dX2_takes_30 ?_
      obtain ⟨b4, hf⟩ := chk_some hf
      refine xl_33 hx hb I b4 dX2_takes_33 ?_
      refine lv_iload_n hx hb dX2_takes_34 rfl (lv_at hl 1 rfl) ?_
      refine lv_icmp_ne (tgt := 50) hx hb dX2_takes_35 (by decide) (fun c5 => ?_) (fun c5 => ?_)
      · have hf := inn c5 hf
        refine lv_iconst (v := 0) hx hb dX2_takes_50 (by decide) ?_
        obtain ⟨rfl, rfl⟩ := se2 hf
        exact xrz C0 hr hk rfl I dX2_takes_51
      · have hf := ip c5 hf
        refine lv_aload_n hx hb dX2_takes_38 rfl (lv_at hl 0 rfl) ?_
        refine lv_dup hx hb dX2_takes_39 rfl ?_
        refine xg_X2_21_32 C0 I dX2_takes_40 ?_
        refine lv_iconst (v := 1) hx hb dX2_takes_43 (by decide) ?_
        refine lv_iadd hx hb dX2_takes_44 ?_
        refine xp_X2_21_32 C0 I dX2_takes_45 (fun H locs I => ?_)
        refine lv_iconst (v := 1) hx hb dX2_takes_48 (by decide) ?_
        obtain ⟨rfl, rfl⟩ := se2 hf
        exact xrz C0 hr hk rfl I dX2_takes_49
  · have hf := inn c1 hf
    refine lv_iconst (v := 0) hx hb dX2_takes_8 (by decide) ?_
    obtain ⟨rfl, rfl⟩ := se2 hf
    exact xrz C0 hr hk rfl I dX2_takes_9
set_option maxRecDepth 100000 in
theorem kX2_takes {x1 : Int32} {rr : Int32} (hf : fX2_takes S x1 = some (rr, S')) : Met l yX2_takes (Cond.code yX2_takes cX2_takes 2 (some .boolean) :: big) ({ frames := 1, cells := 0, slots := 0, locals := 20 } : Room) (va_Pc [.ref (g.2.2 32), .int x1] (xB g S)) (va_Qi (fun r' S2 => r' = rr ∧ S2 = S') (xB g) (xA g)) 0 0 (xA g) := by
  refine Met.ofW (cc := cX2_takes) (maxL := 2) (ret := (some .boolean)) (by decide) rfl ?_
  intro p e s m args below meth c s₁ B hml hv
  obtain ⟨rfl, hP, hK, hD⟩ := hv
  have hts0 := atoms_spec (ws := (Cond.code yX2_takes cX2_takes 2 (some .boolean) :: big)) B.pre
  have C0 : CallFix p m c cX2_takes 2 s _ big RX2 := ⟨B.exec, B.bytes, hml, findClass_of_methodNamed B.named, fun w h => hts0 w (List.mem_cons_of_mem _ h)⟩
  have I : xI g s S s.heap [] := ⟨hK, hP, hD, va_S.rf⟩
  have hl := lv_entry ([.ref (g.2.2 32), .int x1]) (n := 2) (Nat.le_of_ble_eq_true rfl)
  rw [lg_entry_eq]
  generalize (lg_sl ([.ref (g.2.2 32), .int x1]) ++ List.replicate (2 - (lg_sl ([.ref (g.2.2 32), .int x1])).length) Slot.unset).toArray = ls at hl ⊢
  have hl : lv_has ls 2 [(0, .ref (g.2.2 32)), (1, .int x1)] := hl
  exact tX2_takes_0 C0 B.returns B.notSynchronized hf I (lv_sub hl [0, 1] rfl)
set_option maxHeartbeats 4000000 in
set_option maxRecDepth 100000 in
theorem tX2_need_0 (C0 : CallFix p m c cX2_need 2 s args big RX2) (hr : meth.sig.returnType = none) (hk : meth.locks = false) {x1 : Int32}  (hf : fX2_need S x1 = some S') (I : xI g s S H locs) (hl : lv_has ls 2 [(0, .ref (g.2.2 32)), (1, .int x1)]) : W p l e ({ frames := 2, cells := 0, slots := 0, locals := 41 } : Room) s m args below meth c H locs 0 0 (MQ below (va_Qv (fun S2 => S2 = S') (xB g) (xA g)) args s 0 0 (xA g)) (F0 m 0 ls []) := by
  obtain ⟨hx, hb, hml, -, -⟩ := id C0
  unfold fX2_need at hf
  refine lv_aload_n hx hb dX2_need_0 rfl (lv_at hl 0 rfl) ?_
  refine lv_iload_n hx hb dX2_need_1 rfl (lv_at hl 1 rfl) ?_
  obtain ⟨r1, S1, h1, hf⟩ := bq2_some hf
  refine xcv_i (As := [.int x1]) C0 I (kX2_takes h1) (cwV 1 C0.2.2.2.2 (gwV wd_569 wd_571 wd_21 wd_72 wd_572) rfl rfl rfl dsc_X2_takes ⟨Nat.le_of_ble_eq_true rfl, Nat.le_of_ble_eq_true rfl⟩) (xo_32 I) rfl hl.1 rfl (Nat.le_of_ble_eq_true rfl) dX2_need_2 (fun H locs I => ?_)
  refine lv_if_ne (tgt := 16) hx hb dX2_need_5 (by decide) (fun c2 => ?_) (fun c2 => ?_)
  · have hf := inn c2 hf
    obtain rfl := se1 hf
    exact xrv C0 hr hk I dX2_need_16
  · have hf := ip c2 hf
    refine lv_aload_n hx hb dX2_need_8 rfl (lv_at hl 0 rfl) ?_
    refine lv_aload_n hx hb dX2_need_9 rfl (lv_at hl 0 rfl) ?_
    refine xg_X2_21_32 C0 I dX2_need_10 ?_
    obtain ⟨S3, h3, hf⟩ := bq1_some hf
    refine xcv_v (As := [.int (gF S1 37)]) C0 I (kX2_failAt h3) (cwV 1 C0.2.2.2.2 (gwV wd_552 wd_554 wd_17 wd_72 wd_555) rfl rfl rfl dsc_X2_failAt ⟨Nat.le_of_ble_eq_true rfl, Nat.le_of_ble_eq_true rfl⟩) (xo_32 I) rfl hl.1 rfl (Nat.le_of_ble_eq_true rfl) dX2_need_13 (fun H locs I => ?_)
    obtain rfl := se1 hf
    exact xrv C0 hr hk I dX2_need_16
set_option maxRecDepth 100000 in
theorem kX2_need {x1 : Int32}  (hf : fX2_need S x1 = some S') : Met l yX2_need (Cond.code yX2_need cX2_need 2 none :: big) ({ frames := 2, cells := 0, slots := 0, locals := 41 } : Room) (va_Pc [.ref (g.2.2 32), .int x1] (xB g S)) (va_Qv (fun S2 => S2 = S') (xB g) (xA g)) 0 0 (xA g) := by
  refine Met.ofW (cc := cX2_need) (maxL := 2) (ret := none) (by decide) rfl ?_
  intro p e s m args below meth c s₁ B hml hv
  obtain ⟨rfl, hP, hK, hD⟩ := hv
  have hts0 := atoms_spec (ws := (Cond.code yX2_need cX2_need 2 none :: big)) B.pre
  have C0 : CallFix p m c cX2_need 2 s _ big RX2 := ⟨B.exec, B.bytes, hml, findClass_of_methodNamed B.named, fun w h => hts0 w (List.mem_cons_of_mem _ h)⟩
  have I : xI g s S s.heap [] := ⟨hK, hP, hD, va_S.rf⟩
  have hl := lv_entry ([.ref (g.2.2 32), .int x1]) (n := 2) (Nat.le_of_ble_eq_true rfl)
  rw [lg_entry_eq]
  generalize (lg_sl ([.ref (g.2.2 32), .int x1]) ++ List.replicate (2 - (lg_sl ([.ref (g.2.2 32), .int x1])).length) Slot.unset).toArray = ls at hl ⊢
  have hl : lv_has ls 2 [(0, .ref (g.2.2 32)), (1, .int x1)] := hl
  exact tX2_need_0 C0 B.returns B.notSynchronized hf I (lv_sub hl [0, 1] rfl)
set_option maxHeartbeats 4000000 in
set_option maxRecDepth 100000 in
theorem tX2_readParcel_78 (C0 : CallFix p m c cX2_readParcel 7 s args big RX2) (hr : meth.sig.returnType = none) (hk : meth.locks = false) {x3 : Int32} {x4 : Int32} {x5 : Int32} {s0 : Int32}  (hf : fX2_readParcel_78 S x3 x4 x5 s0 = some S') (I : xI g s S H locs) (hl : lv_has ls 7 [(0, .ref (g.2.2 32)), (3, .int x3), (4, .int x4), (5, .int x5)]) : W p l e ({ frames := 3, cells := 0, slots := 0, locals := 62 } : Room) s m args below meth c H locs 0 0 (MQ below (va_Qv (fun S2 => S2 = S') (xB g) (xA g)) args s 0 0 (xA g)) (F0 m 78 ls [.int s0]) := by
  obtain ⟨hx, hb, hml, -, -⟩ := id C0
  unfold fX2_readParcel_78 at hf
  refine lv_istore (lv' := [(6, .int s0), (0, .ref (g.2.2 32)), (3, .int x3), (4, .int x4), (5, .int x5)]) hx hb dX2_readParcel_78 hl (by decide) rfl (fun ls hl => ?_)
  refine lv_aload_n hx hb dX2_readParcel_80 rfl (lv_at hl 1 rfl) ?_
  refine lv_bipush (v := 59) hx hb dX2_readParcel_81 (by decide) ?_
  obtain ⟨S9, h9, hf⟩ := bq1_some hf
  refine xcv_v (As := [.int (59 : Int32)]) C0 I (kX2_need h9) (cwV 1 C0.2.2.2.2 (gwV wd_565 wd_567 wd_20 wd_72 wd_568) rfl rfl rfl dsc_X2_need ⟨Nat.le_of_ble_eq_true rfl, Nat.le_of_ble_eq_true rfl⟩) (xo_32 I) rfl hl.1 rfl (Nat.le_of_ble_eq_true rfl) dX2_readParcel_83 (fun H locs I => ?_)
  refine lv_aload_n hx hb dX2_readParcel_86 rfl (lv_at hl 1 rfl) ?_
  refine xg_X2_15_32 C0 I dX2_readParcel_87 ?_
  refine lv_iconst (v := -1) hx hb dX2_readParcel_90 (by decide) ?_
  refine lv_icmp_ne (tgt := 163) hx hb dX2_readParcel_91 (by decide) (fun c10 => ?_) (fun c10 => ?_)
  · have hf := inn c10 hf
    obtain rfl := se1 hf
    exact xrv C0 hr hk I dX2_readParcel_163
  · have hf := ip c10 hf
    refine lv_aload_n hx hb dX2_readParcel_94 rfl (lv_at hl 1 rfl) ?_
    refine xg_X2_28_32 C0 I dX2_readParcel_95 ?_
    refine lv_aload_n hx hb dX2_readParcel_98 rfl (lv_at hl 1 rfl) ?_
    refine xg_X2_18_32 C0 I dX2_readParcel_99 ?_
    refine lv_iconst (v := 4) hx hb dX2_readParcel_102 (by decide) ?_
    refine lv_imul hx hb dX2_readParcel_103 ?_
    refine lv_iconst (v := 0) hx hb dX2_readParcel_104 (by decide) ?_
    refine lv_iadd hx hb dX2_readParcel_105 ?_
    refine lv_iload_n hx hb dX2_readParcel_106 rfl (lv_at hl 2 rfl) ?_
    obtain ⟨b11, hf⟩ := chk_some hf
    refine xs_34 hx hb I b11 dX2_readParcel_107 (fun H locs I => ?_)
    refine lv_aload_n hx hb dX2_readParcel_108 rfl (lv_at hl 1 rfl) ?_
    refine xg_X2_28_32 C0 I dX2_readParcel_109 ?_
    refine lv_aload_n hx hb dX2_readParcel_112 rfl (lv_at hl 1 rfl) ?_
    refine xg_X2_18_32 C0 I dX2_readParcel_113 ?_
    refine lv_iconst (v := 4) hx hb dX2_readParcel_116 (by decide) ?_
    refine lv_imul hx hb dX2_readParcel_117 ?_
    refine lv_iconst (v := 1) hx hb dX2_readParcel_118 (by decide) ?_
    refine lv_iadd hx hb dX2_readParcel_119 ?_
    refine lv_iload hx hb dX2_readParcel_120 (lv_at hl 3 rfl) ?_
    obtain ⟨b12, hf⟩ := chk_some hf
    refine xs_34 hx hb I b12 dX2_readParcel_122 (fun H locs I => ?_)
    refine lv_aload_n hx hb dX2_readParcel_123 rfl (lv_at hl 1 rfl) ?_
    refine xg_X2_28_32 C0 I dX2_readParcel_124 ?_
    refine lv_aload_n hx hb dX2_readParcel_127 rfl (lv_at hl 1 rfl) ?_
    refine xg_X2_18_32 C0 I dX2_readParcel_128 ?_
    refine lv_iconst (v := 4) hx hb dX2_readParcel_131 (by decide) ?_
    refine lv_imul hx hb dX2_readParcel_132 ?_
    refine lv_iconst (v := 2) hx hb dX2_readParcel_133 (by decide) ?_
    refine lv_iadd hx hb dX2_readParcel_134 ?_
    refine lv_iload hx hb dX2_readParcel_135 (lv_at hl 4 rfl) ?_
    obtain ⟨b13, hf⟩ := chk_some hf
    refine xs_34 hx hb I b13 dX2_readParcel_137 (fun H locs I => ?_)
    refine lv_aload_n hx hb dX2_readParcel_138 rfl (lv_at hl 1 rfl) ?_
    refine xg_X2_28_32 C0 I dX2_readParcel_139 ?_
    refine lv_aload_n hx hb dX2_readParcel_142 rfl (lv_at hl 1 rfl) ?_
    refine xg_X2_18_32 C0 I dX2_readParcel_143 ?_
    refine lv_iconst (v := 4) hx hb dX2_readParcel_146 (by decide) ?_
    refine lv_imul hx hb dX2_readParcel_147 ?_
    refine lv_iconst (v := 3) hx hb dX2_readParcel_148 (by decide) ?_
    refine lv_iadd hx hb dX2_readParcel_149 ?_
    refine lv_iload hx hb dX2_readParcel_150 (lv_at hl 0 rfl) ?_
    obtain ⟨b14, hf⟩ := chk_some hf
    refine xs_34 hx hb I b14 dX2_readParcel_152 (fun H locs I => ?_)
    refine lv_aload_n hx hb dX2_readParcel_153 rfl (lv_at hl 1 rfl) ?_
    refine lv_dup hx hb dX2_readParcel_154 rfl ?_
    refine xg_X2_18_32 C0 I dX2_readParcel_155 ?_
    refine lv_iconst (v := 1) hx hb dX2_readParcel_158 (by decide) ?_
    refine lv_iadd hx hb dX2_readParcel_159 ?_
    refine xp_X2_18_32 C0 I dX2_readParcel_160 (fun H locs I => ?_)
    obtain rfl := se1 hf
    exact xrv C0 hr hk I dX2_readParcel_163
set_option maxHeartbeats 4000000 in
set_option maxRecDepth 100000 in
theorem tX2_readParcel_57 (C0 : CallFix p m c cX2_readParcel 7 s args big RX2) (hr : meth.sig.returnType = none) (hk : meth.locks = false) {x3 : Int32} {x4 : Int32} {s0 : Int32}  (hf : fX2_readParcel_57 S x3 x4 s0 = some S') (I : xI g s S H locs) (hl : lv_has ls 7 [(0, .ref (g.2.2 32)), (3, .int x3), (4, .int x4)]) : W p l e ({ frames := 3, cells := 0, slots := 0, locals := 62 } : Room) s m args below meth c H locs 0 0 (MQ below (va_Qv (fun S2 => S2 = S') (xB g) (xA g)) args s 0 0 (xA g)) (F0 m 57 ls [.int s0]) := by
  obtain ⟨hx, hb, hml, -, -⟩ := id C0
  unfold fX2_readParcel_57 at hf
  refine lv_istore (lv' := [(5, .int s0), (0, .ref (g.2.2 32)), (3, .int x3), (4, .int x4)]) hx hb dX2_readParcel_57 hl (by decide) rfl (fun ls hl => ?_)
  refine lv_aload_n hx hb dX2_readParcel_59 rfl (lv_at hl 1 rfl) ?_
  refine lv_bipush (v := 42) hx hb dX2_readParcel_60 (by decide) ?_
  obtain ⟨r7, S7, h7, hf⟩ := bq2_some hf
  refine xcv_i (As := [.int (42 : Int32)]) C0 I (kX2_takes h7) (cwV 1 C0.2.2.2.2 (gwV wd_569 wd_571 wd_21 wd_72 wd_572) rfl rfl rfl dsc_X2_takes ⟨Nat.le_of_ble_eq_true rfl, Nat.le_of_ble_eq_true rfl⟩) (xo_32 I) rfl hl.1 rfl (Nat.le_of_ble_eq_true rfl) dX2_readParcel_62 (fun H locs I => ?_)
  refine lv_if_eq (tgt := 77) hx hb dX2_readParcel_65 (by decide) (fun c8 => ?_) (fun c8 => ?_)
  · have hf := ip c8 hf
    refine lv_iconst (v := 0) hx hb dX2_readParcel_77 (by decide) ?_
    exact tX2_readParcel_78 C0 hr hk hf I (lv_sub hl [1, 2, 3, 0] rfl)
  · have hf := inn c8 hf
    refine lv_aload_n hx hb dX2_readParcel_68 rfl (lv_at hl 1 rfl) ?_
    refine lv_bipush (v := 100) hx hb dX2_readParcel_69 (by decide) ?_
    obtain ⟨r15, S15, h15, hf⟩ := bq2_some hf
    refine xcv_i (As := [.int (100 : Int32)]) C0 I (kX2_readNumber h15) (cwV 1 C0.2.2.2.2 (gwV wd_560 wd_562 wd_19 wd_72 wd_563) rfl rfl rfl dsc_X2_readNumber ⟨Nat.le_of_ble_eq_true rfl, Nat.le_of_ble_eq_true rfl⟩) (xo_32 I) rfl hl.1 rfl (Nat.le_of_ble_eq_true rfl) dX2_readParcel_71 (fun H locs I => ?_)
    refine lv_goto (tgt := 78) hx hb dX2_readParcel_74 (by decide) ?_
    exact tX2_readParcel_78 C0 hr hk hf I (lv_sub hl [1, 2, 3, 0] rfl)
set_option maxHeartbeats 4000000 in
set_option maxRecDepth 100000 in
theorem tX2_readParcel_0 (C0 : CallFix p m c cX2_readParcel 7 s args big RX2) (hr : meth.sig.returnType = none) (hk : meth.locks = false) {x1 : Int32} {x2 : Int32}  (hf : fX2_readParcel S x1 x2 = some S') (I : xI g s S H locs) (hl : lv_has ls 7 [(0, .ref (g.2.2 32)), (1, .int x1), (2, .int x2)]) : W p l e ({ frames := 3, cells := 0, slots := 0, locals := 62 } : Room) s m args below meth c H locs 0 0 (MQ below (va_Qv (fun S2 => S2 = S') (xB g) (xA g)) args s 0 0 (xA g)) (F0 m 0 ls []) := by
  obtain ⟨hx, hb, hml, -, -⟩ := id C0
  unfold fX2_readParcel at hf
  refine lv_iload_n hx hb dX2_readParcel_0 rfl (lv_at hl 1 rfl) ?_
  refine lv_aload_n hx hb dX2_readParcel_1 rfl (lv_at hl 0 rfl) ?_
  refine xg_X2_18_32 C0 I dX2_readParcel_2 ?_
  refine lv_iadd hx hb dX2_readParcel_5 ?_
  refine lv_bipush (v := 16) hx hb dX2_readParcel_6 (by decide) ?_
  refine lv_icmp_lt (tgt := 20) hx hb dX2_readParcel_8 (by decide) (fun c1 => ?_) (fun c1 => ?_)
  · have hf := ip c1 hf
    refine lv_aload_n hx hb dX2_readParcel_20 rfl (lv_at hl 0 rfl) ?_
    refine lv_iload_n hx hb dX2_readParcel_21 rfl (lv_at hl 2 rfl) ?_
    obtain ⟨r2, S2, h2, hf⟩ := bq2_some hf
    refine xcv_i (As := [.int x2]) C0 I (kX2_readNumber h2) (cwV 1 C0.2.2.2.2 (gwV wd_560 wd_562 wd_19 wd_72 wd_563) rfl rfl rfl dsc_X2_readNumber ⟨Nat.le_of_ble_eq_true rfl, Nat.le_of_ble_eq_true rfl⟩) (xo_32 I) rfl hl.1 rfl (Nat.le_of_ble_eq_true rfl) dX2_readParcel_22 (fun H locs I => ?_)
    refine lv_istore_n (lv' := [(3, .int r2), (0, .ref (g.2.2 32)), (1, .int x1), (2, .int x2)]) hx hb dX2_readParcel_25 rfl hl (by decide) rfl (fun ls hl => ?_)
    refine lv_aload_n hx hb dX2_readParcel_26 rfl (lv_at hl 1 rfl) ?_
    refine lv_bipush (v := 62) hx hb dX2_readParcel_27 (by decide) ?_
    obtain ⟨S3, h3, hf⟩ := bq1_some hf
    refine xcv_v (As := [.int (62 : Int32)]) C0 I (kX2_need h3) (cwV 1 C0.2.2.2.2 (gwV wd_565 wd_567 wd_20 wd_72 wd_568) rfl rfl rfl dsc_X2_need ⟨Nat.le_of_ble_eq_true rfl, Nat.le_of_ble_eq_true rfl⟩) (xo_32 I) rfl hl.1 rfl (Nat.le_of_ble_eq_true rfl) dX2_readParcel_29 (fun H locs I => ?_)
    refine lv_aload_n hx hb dX2_readParcel_32 rfl (lv_at hl 1 rfl) ?_
    refine lv_iload_n hx hb dX2_readParcel_33 rfl (lv_at hl 3 rfl) ?_
    obtain ⟨r4, S4, h4, hf⟩ := bq2_some hf
    refine xcv_i (As := [.int x2]) C0 I (kX2_readNumber h4) (cwV 1 C0.2.2.2.2 (gwV wd_560 wd_562 wd_19 wd_72 wd_563) rfl rfl rfl dsc_X2_readNumber ⟨Nat.le_of_ble_eq_true rfl, Nat.le_of_ble_eq_true rfl⟩) (xo_32 I) rfl hl.1 rfl (Nat.le_of_ble_eq_true rfl) dX2_readParcel_34 (fun H locs I => ?_)
    refine lv_istore (lv' := [(4, .int r4), (3, .int r2), (0, .ref (g.2.2 32)), (1, .int x1), (2, .int x2)]) hx hb dX2_readParcel_37 hl (by decide) rfl (fun ls hl => ?_)
    refine lv_aload_n hx hb dX2_readParcel_39 rfl (lv_at hl 2 rfl) ?_
    refine lv_bipush (v := 47) hx hb dX2_readParcel_40 (by decide) ?_
    obtain ⟨r5, S5, h5, hf⟩ := bq2_some hf
    refine xcv_i (As := [.int (47 : Int32)]) C0 I (kX2_takes h5) (cwV 1 C0.2.2.2.2 (gwV wd_569 wd_571 wd_21 wd_72 wd_572) rfl rfl rfl dsc_X2_takes ⟨Nat.le_of_ble_eq_true rfl, Nat.le_of_ble_eq_true rfl⟩) (xo_32 I) rfl hl.1 rfl (Nat.le_of_ble_eq_true rfl) dX2_readParcel_42 (fun H locs I => ?_)
    refine lv_if_eq (tgt := 56) hx hb dX2_readParcel_45 (by decide) (fun c6 => ?_) (fun c6 => ?_)
    · have hf := ip c6 hf
      refine lv_iload_n hx hb dX2_readParcel_56 rfl (lv_at hl 1 rfl) ?_
      exact tX2_readParcel_57 C0 hr hk hf I (lv_sub hl [2, 1, 0] rfl)
    · have hf := inn c6 hf
      refine lv_aload_n hx hb dX2_readParcel_48 rfl (lv_at hl 2 rfl) ?_
      refine lv_iload_n hx hb dX2_readParcel_49 rfl (lv_at hl 4 rfl) ?_
      obtain ⟨r16, S16, h16, hf⟩ := bq2_some hf
      refine xcv_i (As := [.int x2]) C0 I (kX2_readNumber h16) (cwV 1 C0.2.2.2.2 (gwV wd_560 wd_562 wd_19 wd_72 wd_563) rfl rfl rfl dsc_X2_readNumber ⟨Nat.le_of_ble_eq_true rfl, Nat.le_of_ble_eq_true rfl⟩) (xo_32 I) rfl hl.1 rfl (Nat.le_of_ble_eq_true rfl) dX2_readParcel_50 (fun H locs I => ?_)
      refine lv_goto (tgt := 57) hx hb dX2_readParcel_53 (by decide) ?_
      exact tX2_readParcel_57 C0 hr hk hf I (lv_sub hl [2, 1, 0] rfl)
  · have hf := inn c1 hf
    refine lv_aload_n hx hb dX2_readParcel_11 rfl (lv_at hl 0 rfl) ?_
    refine lv_aload_n hx hb dX2_readParcel_12 rfl (lv_at hl 0 rfl) ?_
    refine xg_X2_21_32 C0 I dX2_readParcel_13 ?_
    obtain ⟨S17, h17, hf⟩ := bq1_some hf
    refine xcv_v (As := [.int (gF S 37)]) C0 I (kX2_failAt h17) (cwV 1 C0.2.2.2.2 (gwV wd_552 wd_554 wd_17 wd_72 wd_555) rfl rfl rfl dsc_X2_failAt ⟨Nat.le_of_ble_eq_true rfl, Nat.le_of_ble_eq_true rfl⟩) (xo_32 I) rfl hl.1 rfl (Nat.le_of_ble_eq_true rfl) dX2_readParcel_16 (fun H locs I => ?_)
    obtain rfl := se1 hf
    exact xrv C0 hr hk I dX2_readParcel_19
set_option maxRecDepth 100000 in
theorem kX2_readParcel {x1 : Int32} {x2 : Int32}  (hf : fX2_readParcel S x1 x2 = some S') : Met l yX2_readParcel (Cond.code yX2_readParcel cX2_readParcel 7 none :: big) ({ frames := 3, cells := 0, slots := 0, locals := 62 } : Room) (va_Pc [.ref (g.2.2 32), .int x1, .int x2] (xB g S)) (va_Qv (fun S2 => S2 = S') (xB g) (xA g)) 0 0 (xA g) := by
  refine Met.ofW (cc := cX2_readParcel) (maxL := 7) (ret := none) (by decide) rfl ?_
  intro p e s m args below meth c s₁ B hml hv
  obtain ⟨rfl, hP, hK, hD⟩ := hv
  have hts0 := atoms_spec (ws := (Cond.code yX2_readParcel cX2_readParcel 7 none :: big)) B.pre
  have C0 : CallFix p m c cX2_readParcel 7 s _ big RX2 := ⟨B.exec, B.bytes, hml, findClass_of_methodNamed B.named, fun w h => hts0 w (List.mem_cons_of_mem _ h)⟩
  have I : xI g s S s.heap [] := ⟨hK, hP, hD, va_S.rf⟩
  have hl := lv_entry ([.ref (g.2.2 32), .int x1, .int x2]) (n := 7) (Nat.le_of_ble_eq_true rfl)
  rw [lg_entry_eq]
  generalize (lg_sl ([.ref (g.2.2 32), .int x1, .int x2]) ++ List.replicate (7 - (lg_sl ([.ref (g.2.2 32), .int x1, .int x2])).length) Slot.unset).toArray = ls at hl ⊢
  have hl : lv_has ls 7 [(0, .ref (g.2.2 32)), (1, .int x1), (2, .int x2)] := hl
  exact tX2_readParcel_0 C0 B.returns B.notSynchronized hf I (lv_sub hl [0, 1, 2] rfl)
set_option maxHeartbeats 4000000 in
set_option maxRecDepth 100000 in
theorem BX2_read_40 (C0 : CallFix p m c cX2_read 4 s args big RX2) (hr : meth.sig.returnType = none) (hk : meth.locks = false) {x1 : Int32} {x2 : Int32} {x3 : Int32} {b : Bool} {y3 : Int32} (Kt : b = true → ∀ (H : Heap) (locs : List Loc) (ls : Array Slot), xI g s S' H locs → lv_has ls 4 [(0, .ref (g.2.2 32)), (1, .int x1), (2, .int x2), (3, .int y3)] → W p l e ({ frames := 4, cells := 0, slots := 0, locals := 88 } : Room) s m args below meth c H locs 0 0 Q (F0 m 40 ls [])) (Kf : b = false → ∀ (H : Heap) (locs : List Loc) (ls : Array Slot), xI g s S' H locs → lv_has ls 4 [(0, .ref (g.2.2 32)), (1, .int x1), (2, .int x2), (3, .int y3)] → W p l e ({ frames := 4, cells := 0, slots := 0, locals := 88 } : Room) s m args below meth c H locs 0 0 Q (F0 m 81 ls [])) (hf : bX2_read_40 x1 x2 S x3 = some (b, S', y3)) (I : xI g s S H locs) (hl : lv_has ls 4 [(0, .ref (g.2.2 32)), (1, .int x1), (2, .int x2), (3, .int x3)]) : W p l e ({ frames := 4, cells := 0, slots := 0, locals := 88 } : Room) s m args below meth c H locs 0 0 Q (F0 m 40 ls []) := by
  obtain ⟨hx, hb, hml, -, -⟩ := id C0
  unfold bX2_read_40 at hf
  refine lv_iload_n hx hb dX2_read_40 rfl (lv_at hl 3 rfl) ?_
  refine lv_bipush (v := 120) hx hb dX2_read_41 (by decide) ?_
  refine lv_icmp_ge (tgt := 81) hx hb dX2_read_43 (by decide) (fun c3 => ?_) (fun c3 => ?_)
  · have hf := ip c3 hf
    obtain ⟨rfl, rfl, rfl⟩ := se3 hf
    exact Kf rfl _ _ _ I (lv_sub hl [0, 1, 2, 3] rfl)
  · have hf := inn c3 hf
    refine lv_aload_n hx hb dX2_read_46 rfl (lv_at hl 0 rfl) ?_
    refine xg_X2_21_32 C0 I dX2_read_47 ?_
    refine lv_aload_n hx hb dX2_read_50 rfl (lv_at hl 0 rfl) ?_
    refine xg_X2_9_32 C0 I dX2_read_51 ?_
    refine lv_icmp_ge (tgt := 81) hx hb dX2_read_54 (by decide) (fun c4 => ?_) (fun c4 => ?_)
    · have hf := ip c4 hf
      obtain ⟨rfl, rfl, rfl⟩ := se3 hf
      exact Kf rfl _ _ _ I (lv_sub hl [0, 1, 2, 3] rfl)
    · have hf := inn c4 hf
      refine lv_aload_n hx hb dX2_read_57 rfl (lv_at hl 0 rfl) ?_
      refine xg_X2_15_32 C0 I dX2_read_58 ?_
      refine lv_iconst (v := -1) hx hb dX2_read_61 (by decide) ?_
      refine lv_icmp_ne (tgt := 81) hx hb dX2_read_62 (by decide) (fun c5 => ?_) (fun c5 => ?_)
      · have hf := inn c5 hf
        obtain ⟨rfl, rfl, rfl⟩ := se3 hf
        exact Kf rfl _ _ _ I (lv_sub hl [0, 1, 2, 3] rfl)
      · have hf := ip c5 hf
        refine lv_aload_n hx hb dX2_read_65 rfl (lv_at hl 0 rfl) ?_
        refine lv_iload_n hx hb dX2_read_66 rfl (lv_at hl 1 rfl) ?_
        refine lv_iload_n hx hb dX2_read_67 rfl (lv_at hl 2 rfl) ?_
        obtain ⟨S6, h6, hf⟩ := bq1_some hf
        refine xcv_v (As := [.int x1, .int x2]) C0 I (kX2_readParcel h6) (cwV 2 C0.2.2.2.2 (gwV wd_556 wd_558 wd_18 wd_72 wd_559) rfl rfl rfl dsc_X2_readParcel ⟨Nat.le_of_ble_eq_true rfl, Nat.le_of_ble_eq_true rfl⟩) (xo_32 I) rfl hl.1 rfl (Nat.le_of_ble_eq_true rfl) dX2_read_68 (fun H locs I => ?_)
        refine lv_aload_n hx hb dX2_read_71 rfl (lv_at hl 0 rfl) ?_
        obtain ⟨S7, h7, hf⟩ := bq1_some hf
        refine xcv_v (As := []) C0 I (kX2_skipBlanks h7) (cwV 0 C0.2.2.2.2 (gwV wd_548 wd_550 wd_16 wd_72 wd_551) rfl rfl rfl dsc_X2_skipBlanks ⟨Nat.le_of_ble_eq_true rfl, Nat.le_of_ble_eq_true rfl⟩) (xo_32 I) rfl hl.1 rfl (Nat.le_of_ble_eq_true rfl) dX2_read_72 (fun H locs I => ?_)
        refine lv_iinc (v := (x3 + (1 : Int32))) (lv' := [(3, .int (x3 + (1 : Int32))), (0, .ref (g.2.2 32)), (1, .int x1), (2, .int x2)]) hx hb dX2_read_75 hl (k := 3) rfl rfl (by decide) rfl (fun ls hl => ?_)
        refine lv_goto (tgt := 40) hx hb dX2_read_78 (by decide) ?_
        obtain ⟨rfl, rfl, rfl⟩ := se3 hf
        exact Kt rfl _ _ _ I (lv_sub hl [1, 2, 3, 0] rfl)
set_option maxHeartbeats 4000000 in
theorem lX2_read_40 (C0 : CallFix p m c cX2_read 4 s args big RX2) (hr : meth.sig.returnType = none) (hk : meth.locks = false) {x1 : Int32} {x2 : Int32} {S' : St} {y3 : Int32} : ∀ (n : Nat) {S : St} {x3 : Int32}, lp (fun q => bX2_read_40 x1 x2 q.1 q.2) n (S, x3) = some (S', y3) → ∀ {H : Heap} {locs : List Loc}, xI g s S H locs → ∀ {ls : Array Slot}, lv_has ls 4 [(0, .ref (g.2.2 32)), (1, .int x1), (2, .int x2), (3, .int x3)] → (∀ (H : Heap) (locs : List Loc) (ls : Array Slot), xI g s S' H locs → lv_has ls 4 [(0, .ref (g.2.2 32)), (1, .int x1), (2, .int x2), (3, .int y3)] → W p l e ({ frames := 4, cells := 0, slots := 0, locals := 88 } : Room) s m args below meth c H locs 0 0 Q (F0 m 81 ls [])) → W p l e ({ frames := 4, cells := 0, slots := 0, locals := 88 } : Room) s m args below meth c H locs 0 0 Q (F0 m 40 ls []) := by
  intro n
  induction n with
  | zero => intro S x3 hf; cases hf
  | succ n ih =>
    intro S x3 hf H locs I ls hl K
    obtain ⟨b, ⟨z0, z1⟩, h1, h2, h3⟩ := lp_some hf
    refine BX2_read_40 C0 hr hk (fun hb1 H locs ls I hl => ?_) (fun hb1 H locs ls I hl => ?_) h1 I hl
    · exact ih (h2 hb1) I hl K
    · have e := h3 hb1
      cases e
      exact K H locs ls I hl
set_option maxHeartbeats 4000000 in
set_option maxRecDepth 100000 in
theorem tX2_read_38 (C0 : CallFix p m c cX2_read 4 s args big RX2) (hr : meth.sig.returnType = none) (hk : meth.locks = false) {x1 : Int32} {x2 : Int32}  (hf : fX2_read_38 S x1 x2 = some S') (I : xI g s S H locs) (hl : lv_has ls 4 [(0, .ref (g.2.2 32)), (1, .int x1), (2, .int x2)]) : W p l e ({ frames := 4, cells := 0, slots := 0, locals := 88 } : Room) s m args below meth c H locs 0 0 (MQ below (va_Qv (fun S2 => S2 = S') (xB g) (xA g)) args s 0 0 (xA g)) (F0 m 38 ls []) := by
  obtain ⟨hx, hb, hml, -, -⟩ := id C0
  unfold fX2_read_38 at hf
  refine lv_iconst (v := 0) hx hb dX2_read_38 (by decide) ?_
  refine lv_istore_n (lv' := [(3, .int (0 : Int32)), (0, .ref (g.2.2 32)), (1, .int x1), (2, .int x2)]) hx hb dX2_read_39 rfl hl (by decide) rfl (fun ls hl => ?_)
  obtain ⟨S8, y3_8, h8, hf⟩ := bq2_some hf
  refine lX2_read_40 C0 hr hk fu h8 I (lv_sub hl [1, 2, 3, 0] rfl) (fun H locs ls I hl => ?_)
  obtain rfl := se1 hf
  exact xrv C0 hr hk I dX2_read_81
set_option maxHeartbeats 4000000 in
set_option maxRecDepth 100000 in
theorem tX2_read_0 (C0 : CallFix p m c cX2_read 4 s args big RX2) (hr : meth.sig.returnType = none) (hk : meth.locks = false) {x1 : Int32} {x2 : Int32}  (hf : fX2_read S x1 x2 = some S') (I : xI g s S H locs) (hl : lv_has ls 4 [(0, .ref (g.2.2 32)), (1, .int x1), (2, .int x2)]) : W p l e ({ frames := 4, cells := 0, slots := 0, locals := 88 } : Room) s m args below meth c H locs 0 0 (MQ below (va_Qv (fun S2 => S2 = S') (xB g) (xA g)) args s 0 0 (xA g)) (F0 m 0 ls []) := by
  obtain ⟨hx, hb, hml, -, -⟩ := id C0
  unfold fX2_read at hf
  refine lv_aload_n hx hb dX2_read_0 rfl (lv_at hl 0 rfl) ?_
  refine lv_iconst (v := -1) hx hb dX2_read_1 (by decide) ?_
  refine xp_X2_15_32 C0 I dX2_read_2 (fun H locs I => ?_)
  refine lv_aload_n hx hb dX2_read_5 rfl (lv_at hl 0 rfl) ?_
  refine lv_iconst (v := 0) hx hb dX2_read_6 (by decide) ?_
  refine xp_X2_18_32 C0 I dX2_read_7 (fun H locs I => ?_)
  refine lv_aload_n hx hb dX2_read_10 rfl (lv_at hl 0 rfl) ?_
  refine lv_iconst (v := 0) hx hb dX2_read_11 (by decide) ?_
  refine xp_X2_21_32 C0 I dX2_read_12 (fun H locs I => ?_)
  refine lv_aload_n hx hb dX2_read_15 rfl (lv_at hl 0 rfl) ?_
  obtain ⟨S1, h1, hf⟩ := bq1_some hf
  refine xcv_v (As := []) C0 I (kX2_skipBlanks h1) (cwV 0 C0.2.2.2.2 (gwV wd_548 wd_550 wd_16 wd_72 wd_551) rfl rfl rfl dsc_X2_skipBlanks ⟨Nat.le_of_ble_eq_true rfl, Nat.le_of_ble_eq_true rfl⟩) (xo_32 I) rfl hl.1 rfl (Nat.le_of_ble_eq_true rfl) dX2_read_16 (fun H locs I => ?_)
  refine lv_aload_n hx hb dX2_read_19 rfl (lv_at hl 0 rfl) ?_
  refine xg_X2_21_32 C0 I dX2_read_20 ?_
  refine lv_aload_n hx hb dX2_read_23 rfl (lv_at hl 0 rfl) ?_
  refine xg_X2_9_32 C0 I dX2_read_24 ?_
  refine lv_icmp_lt (tgt := 38) hx hb dX2_read_27 (by decide) (fun c2 => ?_) (fun c2 => ?_)
  · have hf := ip c2 hf
    exact tX2_read_38 C0 hr hk hf I (lv_sub hl [0, 1, 2] rfl)
  · have hf := inn c2 hf
    refine lv_aload_n hx hb dX2_read_30 rfl (lv_at hl 0 rfl) ?_
    refine lv_aload_n hx hb dX2_read_31 rfl (lv_at hl 0 rfl) ?_
    refine xg_X2_9_32 C0 I dX2_read_32 ?_
    obtain ⟨S9, h9, hf⟩ := bq1_some hf
    refine xcv_v (As := [.int (gF S1 34)]) C0 I (kX2_failAt h9) (cwV 1 C0.2.2.2.2 (gwV wd_552 wd_554 wd_17 wd_72 wd_555) rfl rfl rfl dsc_X2_failAt ⟨Nat.le_of_ble_eq_true rfl, Nat.le_of_ble_eq_true rfl⟩) (xo_32 I) rfl hl.1 rfl (Nat.le_of_ble_eq_true rfl) dX2_read_35 (fun H locs I => ?_)
    exact tX2_read_38 C0 hr hk hf I (lv_sub hl [0, 1, 2] rfl)
set_option maxRecDepth 100000 in
theorem kX2_read {x1 : Int32} {x2 : Int32}  (hf : fX2_read S x1 x2 = some S') : Met l yX2_read (Cond.code yX2_read cX2_read 4 none :: big) ({ frames := 4, cells := 0, slots := 0, locals := 88 } : Room) (va_Pc [.ref (g.2.2 32), .int x1, .int x2] (xB g S)) (va_Qv (fun S2 => S2 = S') (xB g) (xA g)) 0 0 (xA g) := by
  refine Met.ofW (cc := cX2_read) (maxL := 4) (ret := none) (by decide) rfl ?_
  intro p e s m args below meth c s₁ B hml hv
  obtain ⟨rfl, hP, hK, hD⟩ := hv
  have hts0 := atoms_spec (ws := (Cond.code yX2_read cX2_read 4 none :: big)) B.pre
  have C0 : CallFix p m c cX2_read 4 s _ big RX2 := ⟨B.exec, B.bytes, hml, findClass_of_methodNamed B.named, fun w h => hts0 w (List.mem_cons_of_mem _ h)⟩
  have I : xI g s S s.heap [] := ⟨hK, hP, hD, va_S.rf⟩
  have hl := lv_entry ([.ref (g.2.2 32), .int x1, .int x2]) (n := 4) (Nat.le_of_ble_eq_true rfl)
  rw [lg_entry_eq]
  generalize (lg_sl ([.ref (g.2.2 32), .int x1, .int x2]) ++ List.replicate (4 - (lg_sl ([.ref (g.2.2 32), .int x1, .int x2])).length) Slot.unset).toArray = ls at hl ⊢
  have hl : lv_has ls 4 [(0, .ref (g.2.2 32)), (1, .int x1), (2, .int x2)] := hl
  exact tX2_read_0 C0 B.returns B.notSynchronized hf I (lv_sub hl [0, 1, 2] rfl)
set_option maxHeartbeats 4000000 in
set_option maxRecDepth 100000 in
theorem tX2_trait_0 (C0 : CallFix p m c cX2_trait 3 s args big RX2) (hr : meth.sig.returnType = (some .int)) (hk : meth.locks = false) {x1 : Int32} {x2 : Int32} {rr : Int32}  (hf : fX2_trait S x1 x2 = some rr) (I : xI g s S H locs) (hl : lv_has ls 3 [(0, .ref (g.2.2 32)), (1, .int x1), (2, .int x2)]) : W p l e ({ frames := 0, cells := 0, slots := 0, locals := 0 } : Room) s m args below meth c H locs 0 0 (MQ below (va_Qi (fun r' S2 => r' = rr ∧ S2 = S) (xB g) (xA g)) args s 0 0 (xA g)) (F0 m 0 ls []) := by
  obtain ⟨hx, hb, hml, -, -⟩ := id C0
  unfold fX2_trait at hf
  refine lv_aload_n hx hb dX2_trait_0 rfl (lv_at hl 0 rfl) ?_
  refine xg_X2_28_32 C0 I dX2_trait_1 ?_
  refine lv_iload_n hx hb dX2_trait_4 rfl (lv_at hl 1 rfl) ?_
  refine lv_iconst (v := 4) hx hb dX2_trait_5 (by decide) ?_
  refine lv_imul hx hb dX2_trait_6 ?_
  refine lv_iload_n hx hb dX2_trait_7 rfl (lv_at hl 2 rfl) ?_
  refine lv_iadd hx hb dX2_trait_8 ?_
  obtain ⟨b1, hf⟩ := chk_some hf
  refine xl_34 hx hb I b1 dX2_trait_9 ?_
  obtain rfl := se1 hf
  exact xri C0 hr hk I dX2_trait_10
set_option maxRecDepth 100000 in
theorem kX2_trait {x1 : Int32} {x2 : Int32} {rr : Int32} (hf : fX2_trait S x1 x2 = some rr) : Met l yX2_trait (Cond.code yX2_trait cX2_trait 3 (some .int) :: big) ({ frames := 0, cells := 0, slots := 0, locals := 0 } : Room) (va_Pc [.ref (g.2.2 32), .int x1, .int x2] (xB g S)) (va_Qi (fun r' S2 => r' = rr ∧ S2 = S) (xB g) (xA g)) 0 0 (xA g) := by
  refine Met.ofW (cc := cX2_trait) (maxL := 3) (ret := (some .int)) (by decide) rfl ?_
  intro p e s m args below meth c s₁ B hml hv
  obtain ⟨rfl, hP, hK, hD⟩ := hv
  have hts0 := atoms_spec (ws := (Cond.code yX2_trait cX2_trait 3 (some .int) :: big)) B.pre
  have C0 : CallFix p m c cX2_trait 3 s _ big RX2 := ⟨B.exec, B.bytes, hml, findClass_of_methodNamed B.named, fun w h => hts0 w (List.mem_cons_of_mem _ h)⟩
  have I : xI g s S s.heap [] := ⟨hK, hP, hD, va_S.rf⟩
  have hl := lv_entry ([.ref (g.2.2 32), .int x1, .int x2]) (n := 3) (Nat.le_of_ble_eq_true rfl)
  rw [lg_entry_eq]
  generalize (lg_sl ([.ref (g.2.2 32), .int x1, .int x2]) ++ List.replicate (3 - (lg_sl ([.ref (g.2.2 32), .int x1, .int x2])).length) Slot.unset).toArray = ls at hl ⊢
  have hl : lv_has ls 3 [(0, .ref (g.2.2 32)), (1, .int x1), (2, .int x2)] := hl
  exact tX2_trait_0 C0 B.returns B.notSynchronized hf I (lv_sub hl [0, 1, 2] rfl)
set_option maxHeartbeats 4000000 in
set_option maxRecDepth 100000 in
theorem BX6_reads_56 (C0 : CallFix p m c cX6_reads 2 s args big RX6) (hr : meth.sig.returnType = (some .int)) (hk : meth.locks = false) {x1 : Int32} {b : Bool} {y1 : Int32} (Kt : b = true → ∀ (H : Heap) (locs : List Loc) (ls : Array Slot), xI g s S' H locs → lv_has ls 2 [(0, .ref (g.2.2 0)), (1, .int y1)] → W p l e ({ frames := 5, cells := 0, slots := 0, locals := 111 } : Room) s m args below meth c H locs 0 0 Q (F0 m 56 ls [])) (Kf : b = false → ∀ (H : Heap) (locs : List Loc) (ls : Array Slot), xI g s S' H locs → lv_has ls 2 [(0, .ref (g.2.2 0)), (1, .int y1)] → W p l e ({ frames := 5, cells := 0, slots := 0, locals := 111 } : Room) s m args below meth c H locs 0 0 Q (F0 m 116 ls [])) (hf : bX6_reads_56 S x1 = some (b, S', y1)) (I : xI g s S H locs) (hl : lv_has ls 2 [(0, .ref (g.2.2 0)), (1, .int x1)]) : W p l e ({ frames := 5, cells := 0, slots := 0, locals := 111 } : Room) s m args below meth c H locs 0 0 Q (F0 m 56 ls []) := by
  obtain ⟨hx, hb, hml, -, -⟩ := id C0
  unfold bX6_reads_56 at hf
  refine lv_iload_n hx hb dX6_reads_56 rfl (lv_at hl 1 rfl) ?_
  refine lv_aload_n hx hb dX6_reads_57 rfl (lv_at hl 0 rfl) ?_
  refine xg_X6_47_0 C0 I dX6_reads_58 ?_
  refine xg_X6_207_32 C0 I dX6_reads_61 ?_
  refine lv_icmp_ge (tgt := 116) hx hb dX6_reads_64 (by decide) (fun c5 => ?_) (fun c5 => ?_)
  · have hf := ip c5 hf
    obtain ⟨rfl, rfl, rfl⟩ := se3 hf
    exact Kf rfl _ _ _ I (lv_sub hl [0, 1] rfl)
  · have hf := inn c5 hf
    refine lv_aload_n hx hb dX6_reads_67 rfl (lv_at hl 0 rfl) ?_
    refine xg_X6_10_0 C0 I dX6_reads_68 ?_
    refine lv_aload_n hx hb dX6_reads_71 rfl (lv_at hl 0 rfl) ?_
    refine xg_X6_47_0 C0 I dX6_reads_72 ?_
    refine lv_iload_n hx hb dX6_reads_75 rfl (lv_at hl 1 rfl) ?_
    refine lv_iconst (v := 0) hx hb dX6_reads_76 (by decide) ?_
    obtain ⟨r6, h6, hf⟩ := bq1_some hf
    refine xcv_i (As := [.int x1, .int (0 : Int32)]) C0 I (kX2_trait h6) (cwV 2 C0.2.2.2.2 (gwV wd_573 wd_574 wd_575 wd_72 wd_576) rfl rfl rfl dsc_X2_trait ⟨Nat.le_of_ble_eq_true rfl, Nat.le_of_ble_eq_true rfl⟩) (xo_32 I) rfl hl.1 rfl (Nat.le_of_ble_eq_true rfl) dX6_reads_77 (fun H locs I => ?_)
    refine lv_aload_n hx hb dX6_reads_80 rfl (lv_at hl 0 rfl) ?_
    refine xg_X6_47_0 C0 I dX6_reads_81 ?_
    refine lv_iload_n hx hb dX6_reads_84 rfl (lv_at hl 1 rfl) ?_
    refine lv_iconst (v := 1) hx hb dX6_reads_85 (by decide) ?_
    obtain ⟨r7, h7, hf⟩ := bq1_some hf
    refine xcv_i (As := [.int x1, .int (1 : Int32)]) C0 I (kX2_trait h7) (cwV 2 C0.2.2.2.2 (gwV wd_573 wd_574 wd_575 wd_72 wd_576) rfl rfl rfl dsc_X2_trait ⟨Nat.le_of_ble_eq_true rfl, Nat.le_of_ble_eq_true rfl⟩) (xo_32 I) rfl hl.1 rfl (Nat.le_of_ble_eq_true rfl) dX6_reads_86 (fun H locs I => ?_)
    refine lv_aload_n hx hb dX6_reads_89 rfl (lv_at hl 0 rfl) ?_
    refine xg_X6_47_0 C0 I dX6_reads_90 ?_
    refine lv_iload_n hx hb dX6_reads_93 rfl (lv_at hl 1 rfl) ?_
    refine lv_iconst (v := 2) hx hb dX6_reads_94 (by decide) ?_
    obtain ⟨r8, h8, hf⟩ := bq1_some hf
    refine xcv_i (As := [.int x1, .int (2 : Int32)]) C0 I (kX2_trait h8) (cwV 2 C0.2.2.2.2 (gwV wd_573 wd_574 wd_575 wd_72 wd_576) rfl rfl rfl dsc_X2_trait ⟨Nat.le_of_ble_eq_true rfl, Nat.le_of_ble_eq_true rfl⟩) (xo_32 I) rfl hl.1 rfl (Nat.le_of_ble_eq_true rfl) dX6_reads_95 (fun H locs I => ?_)
    refine lv_aload_n hx hb dX6_reads_98 rfl (lv_at hl 0 rfl) ?_
    refine xg_X6_47_0 C0 I dX6_reads_99 ?_
    refine lv_iload_n hx hb dX6_reads_102 rfl (lv_at hl 1 rfl) ?_
    refine lv_iconst (v := 3) hx hb dX6_reads_103 (by decide) ?_
    obtain ⟨r9, h9, hf⟩ := bq1_some hf
    refine xcv_i (As := [.int x1, .int (3 : Int32)]) C0 I (kX2_trait h9) (cwV 2 C0.2.2.2.2 (gwV wd_573 wd_574 wd_575 wd_72 wd_576) rfl rfl rfl dsc_X2_trait ⟨Nat.le_of_ble_eq_true rfl, Nat.le_of_ble_eq_true rfl⟩) (xo_32 I) rfl hl.1 rfl (Nat.le_of_ble_eq_true rfl) dX6_reads_104 (fun H locs I => ?_)
    obtain ⟨S10, h10, hf⟩ := bq1_some hf
    refine xcv_v (As := [.int r6, .int r7, .int r8, .int r9]) C0 I (kX3_add h10) (cwV 4 C0.2.2.2.2 (gwV wd_302 wd_303 wd_304 wd_67 wd_305) rfl rfl rfl dsc_X3_add ⟨Nat.le_of_ble_eq_true rfl, Nat.le_of_ble_eq_true rfl⟩) (xo_1 I) rfl hl.1 rfl (Nat.le_of_ble_eq_true rfl) dX6_reads_107 (fun H locs I => ?_)
    refine lv_iinc (v := (x1 + (1 : Int32))) (lv' := [(1, .int (x1 + (1 : Int32))), (0, .ref (g.2.2 0))]) hx hb dX6_reads_110 hl (k := 1) rfl rfl (by decide) rfl (fun ls hl => ?_)
    refine lv_goto (tgt := 56) hx hb dX6_reads_113 (by decide) ?_
    obtain ⟨rfl, rfl, rfl⟩ := se3 hf
    exact Kt rfl _ _ _ I (lv_sub hl [1, 0] rfl)
set_option maxHeartbeats 4000000 in
theorem lX6_reads_56 (C0 : CallFix p m c cX6_reads 2 s args big RX6) (hr : meth.sig.returnType = (some .int)) (hk : meth.locks = false)  {S' : St} {y1 : Int32} : ∀ (n : Nat) {S : St} {x1 : Int32}, lp (fun q => bX6_reads_56 q.1 q.2) n (S, x1) = some (S', y1) → ∀ {H : Heap} {locs : List Loc}, xI g s S H locs → ∀ {ls : Array Slot}, lv_has ls 2 [(0, .ref (g.2.2 0)), (1, .int x1)] → (∀ (H : Heap) (locs : List Loc) (ls : Array Slot), xI g s S' H locs → lv_has ls 2 [(0, .ref (g.2.2 0)), (1, .int y1)] → W p l e ({ frames := 5, cells := 0, slots := 0, locals := 111 } : Room) s m args below meth c H locs 0 0 Q (F0 m 116 ls [])) → W p l e ({ frames := 5, cells := 0, slots := 0, locals := 111 } : Room) s m args below meth c H locs 0 0 Q (F0 m 56 ls []) := by
  intro n
  induction n with
  | zero => intro S x1 hf; cases hf
  | succ n ih =>
    intro S x1 hf H locs I ls hl K
    obtain ⟨b, ⟨z0, z1⟩, h1, h2, h3⟩ := lp_some hf
    refine BX6_reads_56 C0 hr hk (fun hb1 H locs ls I hl => ?_) (fun hb1 H locs ls I hl => ?_) h1 I hl
    · exact ih (h2 hb1) I hl K
    · have e := h3 hb1
      cases e
      exact K H locs ls I hl
set_option maxHeartbeats 4000000 in
set_option maxRecDepth 100000 in
theorem tX6_reads_0 (C0 : CallFix p m c cX6_reads 2 s args big RX6) (hr : meth.sig.returnType = (some .int)) (hk : meth.locks = false)  {rr : Int32}  (hf : fX6_reads S = some (rr, S')) (I : xI g s S H locs) (hl : lv_has ls 2 [(0, .ref (g.2.2 0))]) : W p l e ({ frames := 5, cells := 0, slots := 0, locals := 111 } : Room) s m args below meth c H locs 0 0 (MQ below (va_Qi (fun r' S2 => r' = rr ∧ S2 = S') (xB g) (xA g)) args s 0 0 (xA g)) (F0 m 0 ls []) := by
  obtain ⟨hx, hb, hml, -, -⟩ := id C0
  unfold fX6_reads at hf
  refine lv_aload_n hx hb dX6_reads_0 rfl (lv_at hl 0 rfl) ?_
  refine xg_X6_47_0 C0 I dX6_reads_1 ?_
  refine lv_aload_n hx hb dX6_reads_4 rfl (lv_at hl 0 rfl) ?_
  refine xg_X6_10_0 C0 I dX6_reads_5 ?_
  refine xg_X6_73_1 C0 I dX6_reads_8 ?_
  refine lv_aload_n hx hb dX6_reads_11 rfl (lv_at hl 0 rfl) ?_
  refine xg_X6_10_0 C0 I dX6_reads_12 ?_
  obtain ⟨r1, h1, hf⟩ := bq1_some hf
  refine xcv_i (As := []) C0 I (kX3_corners h1) (cwV 0 C0.2.2.2.2 (gwV wd_336 wd_299 wd_300 wd_67 wd_301) rfl rfl rfl dsc_X3_corners ⟨Nat.le_of_ble_eq_true rfl, Nat.le_of_ble_eq_true rfl⟩) (xo_1 I) rfl hl.1 rfl (Nat.le_of_ble_eq_true rfl) dX6_reads_15 (fun H locs I => ?_)
  obtain ⟨S2, h2, hf⟩ := bq1_some hf
  refine xcv_v (As := [.int (gF S 3), .int r1]) C0 I (kX2_read h2) (cwV 2 C0.2.2.2.2 (gwV wd_544 wd_545 wd_546 wd_72 wd_547) rfl rfl rfl dsc_X2_read ⟨Nat.le_of_ble_eq_true rfl, Nat.le_of_ble_eq_true rfl⟩) (xo_32 I) rfl hl.1 rfl (Nat.le_of_ble_eq_true rfl) dX6_reads_18 (fun H locs I => ?_)
  refine lv_aload_n hx hb dX6_reads_21 rfl (lv_at hl 0 rfl) ?_
  refine xg_X6_47_0 C0 I dX6_reads_22 ?_
  refine xg_X6_204_32 C0 I dX6_reads_25 ?_
  refine lv_iconst (v := -1) hx hb dX6_reads_28 (by decide) ?_
  refine lv_icmp_eq (tgt := 43) hx hb dX6_reads_29 (by decide) (fun c3 => ?_) (fun c3 => ?_)
  · have hf := ip c3 hf
    refine lv_aload_n hx hb dX6_reads_43 rfl (lv_at hl 0 rfl) ?_
    refine xg_X6_19_0 C0 I dX6_reads_44 ?_
    refine lv_aload_n hx hb dX6_reads_47 rfl (lv_at hl 0 rfl) ?_
    refine xg_X6_10_0 C0 I dX6_reads_48 ?_
    obtain ⟨S4, h4, hf⟩ := bq1_some hf
    refine xcv_v (As := [.ref (g.2.2 1)]) C0 I (kX0_keep h4) (cwV 1 C0.2.2.2.2 (gwV wd_276 wd_277 wd_278 wd_68 wd_279) rfl rfl rfl dsc_X0_keep ⟨Nat.le_of_ble_eq_true rfl, Nat.le_of_ble_eq_true rfl⟩) (xo_3 I) rfl hl.1 rfl (Nat.le_of_ble_eq_true rfl) dX6_reads_51 (fun H locs I => ?_)
    refine lv_iconst (v := 0) hx hb dX6_reads_54 (by decide) ?_
    refine lv_istore_n (lv' := [(1, .int (0 : Int32)), (0, .ref (g.2.2 0))]) hx hb dX6_reads_55 rfl hl (by decide) rfl (fun ls hl => ?_)
    obtain ⟨S11, y1_11, h11, hf⟩ := bq2_some hf
    refine lX6_reads_56 C0 hr hk fu h11 I (lv_sub hl [1, 0] rfl) (fun H locs ls I hl => ?_)
    refine lv_aload_n hx hb dX6_reads_116 rfl (lv_at hl 0 rfl) ?_
    refine xg_X6_47_0 C0 I dX6_reads_117 ?_
    refine xg_X6_207_32 C0 I dX6_reads_120 ?_
    obtain ⟨rfl, rfl⟩ := se2 hf
    exact xri C0 hr hk I dX6_reads_123
  · have hf := inn c3 hf
    refine lv_bipush (v := -10) hx hb dX6_reads_32 (by decide) ?_
    refine lv_aload_n hx hb dX6_reads_34 rfl (lv_at hl 0 rfl) ?_
    refine xg_X6_47_0 C0 I dX6_reads_35 ?_
    refine xg_X6_204_32 C0 I dX6_reads_38 ?_
    refine lv_isub hx hb dX6_reads_41 ?_
    obtain ⟨rfl, rfl⟩ := se2 hf
    exact xri C0 hr hk I dX6_reads_42
set_option maxRecDepth 100000 in
theorem kX6_reads  {rr : Int32} (hf : fX6_reads S  = some (rr, S')) : Met l yX6_reads (Cond.code yX6_reads cX6_reads 2 (some .int) :: big) ({ frames := 5, cells := 0, slots := 0, locals := 111 } : Room) (va_Pc [.ref (g.2.2 0)] (xB g S)) (va_Qi (fun r' S2 => r' = rr ∧ S2 = S') (xB g) (xA g)) 0 0 (xA g) := by
  refine Met.ofW (cc := cX6_reads) (maxL := 2) (ret := (some .int)) (by decide) rfl ?_
  intro p e s m args below meth c s₁ B hml hv
  obtain ⟨rfl, hP, hK, hD⟩ := hv
  have hts0 := atoms_spec (ws := (Cond.code yX6_reads cX6_reads 2 (some .int) :: big)) B.pre
  have C0 : CallFix p m c cX6_reads 2 s _ big RX6 := ⟨B.exec, B.bytes, hml, findClass_of_methodNamed B.named, fun w h => hts0 w (List.mem_cons_of_mem _ h)⟩
  have I : xI g s S s.heap [] := ⟨hK, hP, hD, va_S.rf⟩
  have hl := lv_entry ([.ref (g.2.2 0)]) (n := 2) (Nat.le_of_ble_eq_true rfl)
  rw [lg_entry_eq]
  generalize (lg_sl ([.ref (g.2.2 0)]) ++ List.replicate (2 - (lg_sl ([.ref (g.2.2 0)])).length) Slot.unset).toArray = ls at hl ⊢
  have hl : lv_has ls 2 [(0, .ref (g.2.2 0))] := hl
  exact tX6_reads_0 C0 B.returns B.notSynchronized hf I (lv_sub hl [0] rfl)
set_option maxHeartbeats 4000000 in
set_option maxRecDepth 100000 in
theorem tX3_take_0_1_0 (C0 : CallFix p m c cX3_take 2 s args big RX3) (hr : meth.sig.returnType = none) (hk : meth.locks = false)   (hf : fX3_take 0 1 S = some S') (I : xI g s S H locs) (hl : lv_has ls 2 [(0, .ref (g.2.2 1)), (1, .ref (g.2.2 5))]) : W p l e ({ frames := 1, cells := 0, slots := 0, locals := 40 } : Room) s m args below meth c H locs 0 0 (MQ below (va_Qv (fun S2 => S2 = S') (xB g) (xA g)) args s 0 0 (xA g)) (F0 m 0 ls []) := by
  obtain ⟨hx, hb, hml, -, -⟩ := id C0
  unfold fX3_take at hf
  refine lv_aload_n hx hb dX3_take_0 rfl (lv_at hl 0 rfl) ?_
  refine lv_aload_n hx hb dX3_take_1 rfl (lv_at hl 1 rfl) ?_
  refine xg_X3_9_5 C0 I dX3_take_2 ?_
  refine xp_X3_9_1 C0 I dX3_take_5 (fun H locs I => ?_)
  refine lv_aload_n hx hb dX3_take_8 rfl (lv_at hl 0 rfl) ?_
  refine lv_aload_n hx hb dX3_take_9 rfl (lv_at hl 1 rfl) ?_
  refine xg_X3_15_5 C0 I dX3_take_10 ?_
  refine xp_X3_15_1 C0 I dX3_take_13 (fun H locs I => ?_)
  refine lv_aload_n hx hb dX3_take_16 rfl (lv_at hl 0 rfl) ?_
  refine lv_aload_n hx hb dX3_take_17 rfl (lv_at hl 1 rfl) ?_
  refine xg_X3_18_5 C0 I dX3_take_18 ?_
  refine xp_X3_18_1 C0 I dX3_take_21 (fun H locs I => ?_)
  refine lv_aload_n hx hb dX3_take_24 rfl (lv_at hl 0 rfl) ?_
  refine lv_aload_n hx hb dX3_take_25 rfl (lv_at hl 1 rfl) ?_
  refine xg_X3_21_5 C0 I dX3_take_26 ?_
  refine xp_X3_21_1 C0 I dX3_take_29 (fun H locs I => ?_)
  refine lv_aload_n hx hb dX3_take_32 rfl (lv_at hl 1 rfl) ?_
  refine xg_X3_24_5 C0 I dX3_take_33 ?_
  refine lv_iconst (v := 0) hx hb dX3_take_36 (by decide) ?_
  refine lv_aload_n hx hb dX3_take_37 rfl (lv_at hl 0 rfl) ?_
  refine xg_X3_24_1 C0 I dX3_take_38 ?_
  refine lv_iconst (v := 0) hx hb dX3_take_41 (by decide) ?_
  refine lv_aload_n hx hb dX3_take_42 rfl (lv_at hl 0 rfl) ?_
  refine xg_X3_24_1 C0 I dX3_take_43 ?_
  refine xn_2 hx hb I dX3_take_46 ?_
  refine xc_2_6 C0 hl.1 I (Nat.le_of_ble_eq_true rfl) (by decide) dX3_take_47 (fun H locs I => ?_)
  obtain rfl := se1 hf
  exact xrv C0 hr hk I dX3_take_50
set_option maxRecDepth 100000 in
theorem kX3_take_0_1   (hf : fX3_take 0 1 S  = some S') : Met l yX3_take (Cond.code yX3_take cX3_take 2 none :: big) ({ frames := 1, cells := 0, slots := 0, locals := 40 } : Room) (va_Pc [.ref (g.2.2 1), .ref (g.2.2 5)] (xB g S)) (va_Qv (fun S2 => S2 = S') (xB g) (xA g)) 0 0 (xA g) := by
  refine Met.ofW (cc := cX3_take) (maxL := 2) (ret := none) (by decide) rfl ?_
  intro p e s m args below meth c s₁ B hml hv
  obtain ⟨rfl, hP, hK, hD⟩ := hv
  have hts0 := atoms_spec (ws := (Cond.code yX3_take cX3_take 2 none :: big)) B.pre
  have C0 : CallFix p m c cX3_take 2 s _ big RX3 := ⟨B.exec, B.bytes, hml, findClass_of_methodNamed B.named, fun w h => hts0 w (List.mem_cons_of_mem _ h)⟩
  have I : xI g s S s.heap [] := ⟨hK, hP, hD, va_S.rf⟩
  have hl := lv_entry ([.ref (g.2.2 1), .ref (g.2.2 5)]) (n := 2) (Nat.le_of_ble_eq_true rfl)
  rw [lg_entry_eq]
  generalize (lg_sl ([.ref (g.2.2 1), .ref (g.2.2 5)]) ++ List.replicate (2 - (lg_sl ([.ref (g.2.2 1), .ref (g.2.2 5)])).length) Slot.unset).toArray = ls at hl ⊢
  have hl : lv_has ls 2 [(0, .ref (g.2.2 1)), (1, .ref (g.2.2 5))] := hl
  exact tX3_take_0_1_0 C0 B.returns B.notSynchronized hf I (lv_sub hl [0, 1] rfl)
set_option maxHeartbeats 4000000 in
set_option maxRecDepth 100000 in
theorem tX3_take_0_2_0 (C0 : CallFix p m c cX3_take 2 s args big RX3) (hr : meth.sig.returnType = none) (hk : meth.locks = false)   (hf : fX3_take 0 2 S = some S') (I : xI g s S H locs) (hl : lv_has ls 2 [(0, .ref (g.2.2 1)), (1, .ref (g.2.2 7))]) : W p l e ({ frames := 1, cells := 0, slots := 0, locals := 40 } : Room) s m args below meth c H locs 0 0 (MQ below (va_Qv (fun S2 => S2 = S') (xB g) (xA g)) args s 0 0 (xA g)) (F0 m 0 ls []) := by
  obtain ⟨hx, hb, hml, -, -⟩ := id C0
  unfold fX3_take at hf
  refine lv_aload_n hx hb dX3_take_0 rfl (lv_at hl 0 rfl) ?_
  refine lv_aload_n hx hb dX3_take_1 rfl (lv_at hl 1 rfl) ?_
  refine xg_X3_9_7 C0 I dX3_take_2 ?_
  refine xp_X3_9_1 C0 I dX3_take_5 (fun H locs I => ?_)
  refine lv_aload_n hx hb dX3_take_8 rfl (lv_at hl 0 rfl) ?_
  refine lv_aload_n hx hb dX3_take_9 rfl (lv_at hl 1 rfl) ?_
  refine xg_X3_15_7 C0 I dX3_take_10 ?_
  refine xp_X3_15_1 C0 I dX3_take_13 (fun H locs I => ?_)
  refine lv_aload_n hx hb dX3_take_16 rfl (lv_at hl 0 rfl) ?_
  refine lv_aload_n hx hb dX3_take_17 rfl (lv_at hl 1 rfl) ?_
  refine xg_X3_18_7 C0 I dX3_take_18 ?_
  refine xp_X3_18_1 C0 I dX3_take_21 (fun H locs I => ?_)
  refine lv_aload_n hx hb dX3_take_24 rfl (lv_at hl 0 rfl) ?_
  refine lv_aload_n hx hb dX3_take_25 rfl (lv_at hl 1 rfl) ?_
  refine xg_X3_21_7 C0 I dX3_take_26 ?_
  refine xp_X3_21_1 C0 I dX3_take_29 (fun H locs I => ?_)
  refine lv_aload_n hx hb dX3_take_32 rfl (lv_at hl 1 rfl) ?_
  refine xg_X3_24_7 C0 I dX3_take_33 ?_
  refine lv_iconst (v := 0) hx hb dX3_take_36 (by decide) ?_
  refine lv_aload_n hx hb dX3_take_37 rfl (lv_at hl 0 rfl) ?_
  refine xg_X3_24_1 C0 I dX3_take_38 ?_
  refine lv_iconst (v := 0) hx hb dX3_take_41 (by decide) ?_
  refine lv_aload_n hx hb dX3_take_42 rfl (lv_at hl 0 rfl) ?_
  refine xg_X3_24_1 C0 I dX3_take_43 ?_
  refine xn_2 hx hb I dX3_take_46 ?_
  refine xc_2_8 C0 hl.1 I (Nat.le_of_ble_eq_true rfl) (by decide) dX3_take_47 (fun H locs I => ?_)
  obtain rfl := se1 hf
  exact xrv C0 hr hk I dX3_take_50
set_option maxRecDepth 100000 in
theorem kX3_take_0_2   (hf : fX3_take 0 2 S  = some S') : Met l yX3_take (Cond.code yX3_take cX3_take 2 none :: big) ({ frames := 1, cells := 0, slots := 0, locals := 40 } : Room) (va_Pc [.ref (g.2.2 1), .ref (g.2.2 7)] (xB g S)) (va_Qv (fun S2 => S2 = S') (xB g) (xA g)) 0 0 (xA g) := by
  refine Met.ofW (cc := cX3_take) (maxL := 2) (ret := none) (by decide) rfl ?_
  intro p e s m args below meth c s₁ B hml hv
  obtain ⟨rfl, hP, hK, hD⟩ := hv
  have hts0 := atoms_spec (ws := (Cond.code yX3_take cX3_take 2 none :: big)) B.pre
  have C0 : CallFix p m c cX3_take 2 s _ big RX3 := ⟨B.exec, B.bytes, hml, findClass_of_methodNamed B.named, fun w h => hts0 w (List.mem_cons_of_mem _ h)⟩
  have I : xI g s S s.heap [] := ⟨hK, hP, hD, va_S.rf⟩
  have hl := lv_entry ([.ref (g.2.2 1), .ref (g.2.2 7)]) (n := 2) (Nat.le_of_ble_eq_true rfl)
  rw [lg_entry_eq]
  generalize (lg_sl ([.ref (g.2.2 1), .ref (g.2.2 7)]) ++ List.replicate (2 - (lg_sl ([.ref (g.2.2 1), .ref (g.2.2 7)])).length) Slot.unset).toArray = ls at hl ⊢
  have hl : lv_has ls 2 [(0, .ref (g.2.2 1)), (1, .ref (g.2.2 7))] := hl
  exact tX3_take_0_2_0 C0 B.returns B.notSynchronized hf I (lv_sub hl [0, 1] rfl)
set_option maxHeartbeats 4000000 in
set_option maxRecDepth 100000 in
theorem tX3_take_0_3_0 (C0 : CallFix p m c cX3_take 2 s args big RX3) (hr : meth.sig.returnType = none) (hk : meth.locks = false)   (hf : fX3_take 0 3 S = some S') (I : xI g s S H locs) (hl : lv_has ls 2 [(0, .ref (g.2.2 1)), (1, .ref (g.2.2 9))]) : W p l e ({ frames := 1, cells := 0, slots := 0, locals := 40 } : Room) s m args below meth c H locs 0 0 (MQ below (va_Qv (fun S2 => S2 = S') (xB g) (xA g)) args s 0 0 (xA g)) (F0 m 0 ls []) := by
  obtain ⟨hx, hb, hml, -, -⟩ := id C0
  unfold fX3_take at hf
  refine lv_aload_n hx hb dX3_take_0 rfl (lv_at hl 0 rfl) ?_
  refine lv_aload_n hx hb dX3_take_1 rfl (lv_at hl 1 rfl) ?_
  refine xg_X3_9_9 C0 I dX3_take_2 ?_
  refine xp_X3_9_1 C0 I dX3_take_5 (fun H locs I => ?_)
  refine lv_aload_n hx hb dX3_take_8 rfl (lv_at hl 0 rfl) ?_
  refine lv_aload_n hx hb dX3_take_9 rfl (lv_at hl 1 rfl) ?_
  refine xg_X3_15_9 C0 I dX3_take_10 ?_
  refine xp_X3_15_1 C0 I dX3_take_13 (fun H locs I => ?_)
  refine lv_aload_n hx hb dX3_take_16 rfl (lv_at hl 0 rfl) ?_
  refine lv_aload_n hx hb dX3_take_17 rfl (lv_at hl 1 rfl) ?_
  refine xg_X3_18_9 C0 I dX3_take_18 ?_
  refine xp_X3_18_1 C0 I dX3_take_21 (fun H locs I => ?_)
  refine lv_aload_n hx hb dX3_take_24 rfl (lv_at hl 0 rfl) ?_
  refine lv_aload_n hx hb dX3_take_25 rfl (lv_at hl 1 rfl) ?_
  refine xg_X3_21_9 C0 I dX3_take_26 ?_
  refine xp_X3_21_1 C0 I dX3_take_29 (fun H locs I => ?_)
  refine lv_aload_n hx hb dX3_take_32 rfl (lv_at hl 1 rfl) ?_
  refine xg_X3_24_9 C0 I dX3_take_33 ?_
  refine lv_iconst (v := 0) hx hb dX3_take_36 (by decide) ?_
  refine lv_aload_n hx hb dX3_take_37 rfl (lv_at hl 0 rfl) ?_
  refine xg_X3_24_1 C0 I dX3_take_38 ?_
  refine lv_iconst (v := 0) hx hb dX3_take_41 (by decide) ?_
  refine lv_aload_n hx hb dX3_take_42 rfl (lv_at hl 0 rfl) ?_
  refine xg_X3_24_1 C0 I dX3_take_43 ?_
  refine xn_2 hx hb I dX3_take_46 ?_
  refine xc_2_10 C0 hl.1 I (Nat.le_of_ble_eq_true rfl) (by decide) dX3_take_47 (fun H locs I => ?_)
  obtain rfl := se1 hf
  exact xrv C0 hr hk I dX3_take_50
set_option maxRecDepth 100000 in
theorem kX3_take_0_3   (hf : fX3_take 0 3 S  = some S') : Met l yX3_take (Cond.code yX3_take cX3_take 2 none :: big) ({ frames := 1, cells := 0, slots := 0, locals := 40 } : Room) (va_Pc [.ref (g.2.2 1), .ref (g.2.2 9)] (xB g S)) (va_Qv (fun S2 => S2 = S') (xB g) (xA g)) 0 0 (xA g) := by
  refine Met.ofW (cc := cX3_take) (maxL := 2) (ret := none) (by decide) rfl ?_
  intro p e s m args below meth c s₁ B hml hv
  obtain ⟨rfl, hP, hK, hD⟩ := hv
  have hts0 := atoms_spec (ws := (Cond.code yX3_take cX3_take 2 none :: big)) B.pre
  have C0 : CallFix p m c cX3_take 2 s _ big RX3 := ⟨B.exec, B.bytes, hml, findClass_of_methodNamed B.named, fun w h => hts0 w (List.mem_cons_of_mem _ h)⟩
  have I : xI g s S s.heap [] := ⟨hK, hP, hD, va_S.rf⟩
  have hl := lv_entry ([.ref (g.2.2 1), .ref (g.2.2 9)]) (n := 2) (Nat.le_of_ble_eq_true rfl)
  rw [lg_entry_eq]
  generalize (lg_sl ([.ref (g.2.2 1), .ref (g.2.2 9)]) ++ List.replicate (2 - (lg_sl ([.ref (g.2.2 1), .ref (g.2.2 9)])).length) Slot.unset).toArray = ls at hl ⊢
  have hl : lv_has ls 2 [(0, .ref (g.2.2 1)), (1, .ref (g.2.2 9))] := hl
  exact tX3_take_0_3_0 C0 B.returns B.notSynchronized hf I (lv_sub hl [0, 1] rfl)
set_option maxHeartbeats 4000000 in
set_option maxRecDepth 100000 in
theorem tX3_take_0_4_0 (C0 : CallFix p m c cX3_take 2 s args big RX3) (hr : meth.sig.returnType = none) (hk : meth.locks = false)   (hf : fX3_take 0 4 S = some S') (I : xI g s S H locs) (hl : lv_has ls 2 [(0, .ref (g.2.2 1)), (1, .ref (g.2.2 11))]) : W p l e ({ frames := 1, cells := 0, slots := 0, locals := 40 } : Room) s m args below meth c H locs 0 0 (MQ below (va_Qv (fun S2 => S2 = S') (xB g) (xA g)) args s 0 0 (xA g)) (F0 m 0 ls []) := by
  obtain ⟨hx, hb, hml, -, -⟩ := id C0
  unfold fX3_take at hf
  refine lv_aload_n hx hb dX3_take_0 rfl (lv_at hl 0 rfl) ?_
  refine lv_aload_n hx hb dX3_take_1 rfl (lv_at hl 1 rfl) ?_
  refine xg_X3_9_11 C0 I dX3_take_2 ?_
  refine xp_X3_9_1 C0 I dX3_take_5 (fun H locs I => ?_)
  refine lv_aload_n hx hb dX3_take_8 rfl (lv_at hl 0 rfl) ?_
  refine lv_aload_n hx hb dX3_take_9 rfl (lv_at hl 1 rfl) ?_
  refine xg_X3_15_11 C0 I dX3_take_10 ?_
  refine xp_X3_15_1 C0 I dX3_take_13 (fun H locs I => ?_)
  refine lv_aload_n hx hb dX3_take_16 rfl (lv_at hl 0 rfl) ?_
  refine lv_aload_n hx hb dX3_take_17 rfl (lv_at hl 1 rfl) ?_
  refine xg_X3_18_11 C0 I dX3_take_18 ?_
  refine xp_X3_18_1 C0 I dX3_take_21 (fun H locs I => ?_)
  refine lv_aload_n hx hb dX3_take_24 rfl (lv_at hl 0 rfl) ?_
  refine lv_aload_n hx hb dX3_take_25 rfl (lv_at hl 1 rfl) ?_
  refine xg_X3_21_11 C0 I dX3_take_26 ?_
  refine xp_X3_21_1 C0 I dX3_take_29 (fun H locs I => ?_)
  refine lv_aload_n hx hb dX3_take_32 rfl (lv_at hl 1 rfl) ?_
  refine xg_X3_24_11 C0 I dX3_take_33 ?_
  refine lv_iconst (v := 0) hx hb dX3_take_36 (by decide) ?_
  refine lv_aload_n hx hb dX3_take_37 rfl (lv_at hl 0 rfl) ?_
  refine xg_X3_24_1 C0 I dX3_take_38 ?_
  refine lv_iconst (v := 0) hx hb dX3_take_41 (by decide) ?_
  refine lv_aload_n hx hb dX3_take_42 rfl (lv_at hl 0 rfl) ?_
  refine xg_X3_24_1 C0 I dX3_take_43 ?_
  refine xn_2 hx hb I dX3_take_46 ?_
  refine xc_2_12 C0 hl.1 I (Nat.le_of_ble_eq_true rfl) (by decide) dX3_take_47 (fun H locs I => ?_)
  obtain rfl := se1 hf
  exact xrv C0 hr hk I dX3_take_50
set_option maxRecDepth 100000 in
theorem kX3_take_0_4   (hf : fX3_take 0 4 S  = some S') : Met l yX3_take (Cond.code yX3_take cX3_take 2 none :: big) ({ frames := 1, cells := 0, slots := 0, locals := 40 } : Room) (va_Pc [.ref (g.2.2 1), .ref (g.2.2 11)] (xB g S)) (va_Qv (fun S2 => S2 = S') (xB g) (xA g)) 0 0 (xA g) := by
  refine Met.ofW (cc := cX3_take) (maxL := 2) (ret := none) (by decide) rfl ?_
  intro p e s m args below meth c s₁ B hml hv
  obtain ⟨rfl, hP, hK, hD⟩ := hv
  have hts0 := atoms_spec (ws := (Cond.code yX3_take cX3_take 2 none :: big)) B.pre
  have C0 : CallFix p m c cX3_take 2 s _ big RX3 := ⟨B.exec, B.bytes, hml, findClass_of_methodNamed B.named, fun w h => hts0 w (List.mem_cons_of_mem _ h)⟩
  have I : xI g s S s.heap [] := ⟨hK, hP, hD, va_S.rf⟩
  have hl := lv_entry ([.ref (g.2.2 1), .ref (g.2.2 11)]) (n := 2) (Nat.le_of_ble_eq_true rfl)
  rw [lg_entry_eq]
  generalize (lg_sl ([.ref (g.2.2 1), .ref (g.2.2 11)]) ++ List.replicate (2 - (lg_sl ([.ref (g.2.2 1), .ref (g.2.2 11)])).length) Slot.unset).toArray = ls at hl ⊢
  have hl : lv_has ls 2 [(0, .ref (g.2.2 1)), (1, .ref (g.2.2 11))] := hl
  exact tX3_take_0_4_0 C0 B.returns B.notSynchronized hf I (lv_sub hl [0, 1] rfl)
set_option maxHeartbeats 4000000 in
set_option maxRecDepth 100000 in
theorem tX3_take_0_5_0 (C0 : CallFix p m c cX3_take 2 s args big RX3) (hr : meth.sig.returnType = none) (hk : meth.locks = false)   (hf : fX3_take 0 5 S = some S') (I : xI g s S H locs) (hl : lv_has ls 2 [(0, .ref (g.2.2 1)), (1, .ref (g.2.2 13))]) : W p l e ({ frames := 1, cells := 0, slots := 0, locals := 40 } : Room) s m args below meth c H locs 0 0 (MQ below (va_Qv (fun S2 => S2 = S') (xB g) (xA g)) args s 0 0 (xA g)) (F0 m 0 ls []) := by
  obtain ⟨hx, hb, hml, -, -⟩ := id C0
  unfold fX3_take at hf
  refine lv_aload_n hx hb dX3_take_0 rfl (lv_at hl 0 rfl) ?_
  refine lv_aload_n hx hb dX3_take_1 rfl (lv_at hl 1 rfl) ?_
  refine xg_X3_9_13 C0 I dX3_take_2 ?_
  refine xp_X3_9_1 C0 I dX3_take_5 (fun H locs I => ?_)
  refine lv_aload_n hx hb dX3_take_8 rfl (lv_at hl 0 rfl) ?_
  refine lv_aload_n hx hb dX3_take_9 rfl (lv_at hl 1 rfl) ?_
  refine xg_X3_15_13 C0 I dX3_take_10 ?_
  refine xp_X3_15_1 C0 I dX3_take_13 (fun H locs I => ?_)
  refine lv_aload_n hx hb dX3_take_16 rfl (lv_at hl 0 rfl) ?_
  refine lv_aload_n hx hb dX3_take_17 rfl (lv_at hl 1 rfl) ?_
  refine xg_X3_18_13 C0 I dX3_take_18 ?_
  refine xp_X3_18_1 C0 I dX3_take_21 (fun H locs I => ?_)
  refine lv_aload_n hx hb dX3_take_24 rfl (lv_at hl 0 rfl) ?_
  refine lv_aload_n hx hb dX3_take_25 rfl (lv_at hl 1 rfl) ?_
  refine xg_X3_21_13 C0 I dX3_take_26 ?_
  refine xp_X3_21_1 C0 I dX3_take_29 (fun H locs I => ?_)
  refine lv_aload_n hx hb dX3_take_32 rfl (lv_at hl 1 rfl) ?_
  refine xg_X3_24_13 C0 I dX3_take_33 ?_
  refine lv_iconst (v := 0) hx hb dX3_take_36 (by decide) ?_
  refine lv_aload_n hx hb dX3_take_37 rfl (lv_at hl 0 rfl) ?_
  refine xg_X3_24_1 C0 I dX3_take_38 ?_
  refine lv_iconst (v := 0) hx hb dX3_take_41 (by decide) ?_
  refine lv_aload_n hx hb dX3_take_42 rfl (lv_at hl 0 rfl) ?_
  refine xg_X3_24_1 C0 I dX3_take_43 ?_
  refine xn_2 hx hb I dX3_take_46 ?_
  refine xc_2_14 C0 hl.1 I (Nat.le_of_ble_eq_true rfl) (by decide) dX3_take_47 (fun H locs I => ?_)
  obtain rfl := se1 hf
  exact xrv C0 hr hk I dX3_take_50
set_option maxRecDepth 100000 in
theorem kX3_take_0_5   (hf : fX3_take 0 5 S  = some S') : Met l yX3_take (Cond.code yX3_take cX3_take 2 none :: big) ({ frames := 1, cells := 0, slots := 0, locals := 40 } : Room) (va_Pc [.ref (g.2.2 1), .ref (g.2.2 13)] (xB g S)) (va_Qv (fun S2 => S2 = S') (xB g) (xA g)) 0 0 (xA g) := by
  refine Met.ofW (cc := cX3_take) (maxL := 2) (ret := none) (by decide) rfl ?_
  intro p e s m args below meth c s₁ B hml hv
  obtain ⟨rfl, hP, hK, hD⟩ := hv
  have hts0 := atoms_spec (ws := (Cond.code yX3_take cX3_take 2 none :: big)) B.pre
  have C0 : CallFix p m c cX3_take 2 s _ big RX3 := ⟨B.exec, B.bytes, hml, findClass_of_methodNamed B.named, fun w h => hts0 w (List.mem_cons_of_mem _ h)⟩
  have I : xI g s S s.heap [] := ⟨hK, hP, hD, va_S.rf⟩
  have hl := lv_entry ([.ref (g.2.2 1), .ref (g.2.2 13)]) (n := 2) (Nat.le_of_ble_eq_true rfl)
  rw [lg_entry_eq]
  generalize (lg_sl ([.ref (g.2.2 1), .ref (g.2.2 13)]) ++ List.replicate (2 - (lg_sl ([.ref (g.2.2 1), .ref (g.2.2 13)])).length) Slot.unset).toArray = ls at hl ⊢
  have hl : lv_has ls 2 [(0, .ref (g.2.2 1)), (1, .ref (g.2.2 13))] := hl
  exact tX3_take_0_5_0 C0 B.returns B.notSynchronized hf I (lv_sub hl [0, 1] rfl)
end
