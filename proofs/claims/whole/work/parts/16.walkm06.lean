section
variable {p : Program} {l : Launch} {e : Env} {s : State} {m : MethodId} {args : Array Value} {below : List Frame} {meth : Method} {c : Code} {Q : State → Prop} {g : xG} {H : Heap} {locs : List Loc} {ls : Array Slot} {S S' : St}
set_option maxHeartbeats 4000000 in
set_option maxRecDepth 100000 in
theorem tX7_readsParcel_124 (C0 : CallFix p m c cX7_readsParcel 6 s args big RX7) (hr : meth.sig.returnType = (some .boolean)) (hk : meth.locks = false) {x1 : Int32} {x2 : Int32} {x3 : Int32} {x4 : Int32} {x5 : Int32} {rr : Int32}  (hf : fX7_readsParcel_124 S x1 x2 x3 x4 x5 = some (rr, S')) (I : mI g s S H locs) (hl : lv_has ls 6 [(0, .ref (g.2.2 0)), (1, .int x1), (2, .int x2), (3, .int x3), (4, .int x4), (5, .int x5)]) : W p l e ({ frames := 3, cells := 0, slots := 0, locals := 63 } : Room) s m args below meth c H locs 0 0 (MQ below (va_Qi (fun r' S2 => r' = rr ∧ S2 = S') (mB g) (mA g)) args s 0 0 (mA g)) (F0 m 124 ls []) := by
  obtain ⟨hx, hb, hml, -, -⟩ := id C0
  unfold fX7_readsParcel_124 at hf
  refine lv_aload_n hx hb dX7_readsParcel_124 rfl (lv_at hl 0 rfl) ?_
  refine lv_bipush (v := 59) hx hb dX7_readsParcel_125 (by decide) ?_
  obtain ⟨r15, S15, h15, hf⟩ := bq2_some hf
  refine mcv_i (As := [.int (59 : Int32)]) C0 I (kX7_sign h15) (cwV 1 C0.2.2.2.2 (gwV wd_959 wd_961 wd_63 wd_73 wd_962) rfl rfl rfl dsc_X7_sign ⟨Nat.le_of_ble_eq_true rfl, Nat.le_of_ble_eq_true rfl⟩) (mo_0 I) rfl hl.1 rfl (Nat.le_of_ble_eq_true rfl) dX7_readsParcel_127 (fun H locs I => ?_)
  refine lv_if_ne (tgt := 135) hx hb dX7_readsParcel_130 (by decide) (fun c16 => ?_) (fun c16 => ?_)
  · have hf := inn c16 hf
    refine lv_aload_n hx hb dX7_readsParcel_135 rfl (lv_at hl 0 rfl) ?_
    refine lv_dup hx hb dX7_readsParcel_136 rfl ?_
    refine mg_X7_245_0 C0 I dX7_readsParcel_137 ?_
    refine lv_iconst (v := 1) hx hb dX7_readsParcel_140 (by decide) ?_
    refine lv_iadd hx hb dX7_readsParcel_141 ?_
    refine mp_X7_245_0 C0 I dX7_readsParcel_142 (fun H locs I => ?_)
    refine lv_iload_n hx hb dX7_readsParcel_145 rfl (lv_at hl 1 rfl) ?_
    refine lv_if_eq (tgt := 159) hx hb dX7_readsParcel_146 (by decide) (fun c17 => ?_) (fun c17 => ?_)
    · have hf := ip c17 hf
      refine lv_iconst (v := 1) hx hb dX7_readsParcel_159 (by decide) ?_
      obtain ⟨rfl, rfl⟩ := se2 hf
      exact mrz C0 hr hk rfl I dX7_readsParcel_160
    · have hf := inn c17 hf
      refine lv_aload_n hx hb dX7_readsParcel_149 rfl (lv_at hl 0 rfl) ?_
      refine lv_iload_n hx hb dX7_readsParcel_150 rfl (lv_at hl 2 rfl) ?_
      refine lv_iload_n hx hb dX7_readsParcel_151 rfl (lv_at hl 3 rfl) ?_
      refine lv_iload hx hb dX7_readsParcel_152 (lv_at hl 4 rfl) ?_
      refine lv_iload hx hb dX7_readsParcel_154 (lv_at hl 5 rfl) ?_
      obtain ⟨S18, h18, hf⟩ := bq1_some hf
      refine mcv_v (As := [.int x2, .int x3, .int x4, .int x5]) C0 I (kX7_comes h18) (cwV 4 C0.2.2.2.2 (gwV wd_732 wd_734 wd_28 wd_73 wd_735) rfl rfl rfl dsc_X7_comes ⟨Nat.le_of_ble_eq_true rfl, Nat.le_of_ble_eq_true rfl⟩) (mo_0 I) rfl hl.1 rfl (Nat.le_of_ble_eq_true rfl) dX7_readsParcel_156 (fun H locs I => ?_)
      refine lv_iconst (v := 1) hx hb dX7_readsParcel_159 (by decide) ?_
      obtain ⟨rfl, rfl⟩ := se2 hf
      exact mrz C0 hr hk rfl I dX7_readsParcel_160
  · have hf := ip c16 hf
    refine lv_iconst (v := 0) hx hb dX7_readsParcel_133 (by decide) ?_
    obtain ⟨rfl, rfl⟩ := se2 hf
    exact mrz C0 hr hk rfl I dX7_readsParcel_134
set_option maxHeartbeats 4000000 in
set_option maxRecDepth 100000 in
theorem tX7_readsParcel_98 (C0 : CallFix p m c cX7_readsParcel 6 s args big RX7) (hr : meth.sig.returnType = (some .boolean)) (hk : meth.locks = false) {x1 : Int32} {x2 : Int32} {x3 : Int32} {x4 : Int32} {x5 : Int32} {rr : Int32}  (hf : fX7_readsParcel_98 S x1 x2 x3 x4 x5 = some (rr, S')) (I : mI g s S H locs) (hl : lv_has ls 6 [(0, .ref (g.2.2 0)), (1, .int x1), (2, .int x2), (3, .int x3), (4, .int x4), (5, .int x5)]) : W p l e ({ frames := 3, cells := 0, slots := 0, locals := 63 } : Room) s m args below meth c H locs 0 0 (MQ below (va_Qi (fun r' S2 => r' = rr ∧ S2 = S') (mB g) (mA g)) args s 0 0 (mA g)) (F0 m 98 ls []) := by
  obtain ⟨hx, hb, hml, -, -⟩ := id C0
  unfold fX7_readsParcel_98 at hf
  refine lv_aload_n hx hb dX7_readsParcel_98 rfl (lv_at hl 0 rfl) ?_
  refine lv_bipush (v := 42) hx hb dX7_readsParcel_99 (by decide) ?_
  obtain ⟨r13, S13, h13, hf⟩ := bq2_some hf
  refine mcv_i (As := [.int (42 : Int32)]) C0 I (kX7_sign h13) (cwV 1 C0.2.2.2.2 (gwV wd_959 wd_961 wd_63 wd_73 wd_962) rfl rfl rfl dsc_X7_sign ⟨Nat.le_of_ble_eq_true rfl, Nat.le_of_ble_eq_true rfl⟩) (mo_0 I) rfl hl.1 rfl (Nat.le_of_ble_eq_true rfl) dX7_readsParcel_101 (fun H locs I => ?_)
  refine lv_if_eq (tgt := 124) hx hb dX7_readsParcel_104 (by decide) (fun c14 => ?_) (fun c14 => ?_)
  · have hf := ip c14 hf
    exact tX7_readsParcel_124 C0 hr hk hf I (lv_sub hl [0, 1, 2, 3, 4, 5] rfl)
  · have hf := inn c14 hf
    refine lv_aload_n hx hb dX7_readsParcel_107 rfl (lv_at hl 0 rfl) ?_
    refine lv_bipush (v := 99) hx hb dX7_readsParcel_108 (by decide) ?_
    obtain ⟨r19, S19, h19, hf⟩ := bq2_some hf
    refine mcv_i (As := [.int (99 : Int32)]) C0 I (kX7_number h19) (cwV 1 C0.2.2.2.2 (gwV wd_955 wd_957 wd_62 wd_73 wd_958) rfl rfl rfl dsc_X7_number ⟨Nat.le_of_ble_eq_true rfl, Nat.le_of_ble_eq_true rfl⟩) (mo_0 I) rfl hl.1 rfl (Nat.le_of_ble_eq_true rfl) dX7_readsParcel_110 (fun H locs I => ?_)
    refine lv_if_ne (tgt := 118) hx hb dX7_readsParcel_113 (by decide) (fun c20 => ?_) (fun c20 => ?_)
    · have hf := inn c20 hf
      refine lv_aload_n hx hb dX7_readsParcel_118 rfl (lv_at hl 0 rfl) ?_
      refine mg_X7_242_0 C0 I dX7_readsParcel_119 ?_
      refine lv_istore (lv' := [(5, .int (gF S19 27)), (0, .ref (g.2.2 0)), (1, .int x1), (2, .int x2), (3, .int x3), (4, .int x4)]) hx hb dX7_readsParcel_122 hl (by decide) rfl (fun ls hl => ?_)
      exact tX7_readsParcel_124 C0 hr hk hf I (lv_sub hl [1, 2, 3, 4, 5, 0] rfl)
    · have hf := ip c20 hf
      refine lv_iconst (v := 0) hx hb dX7_readsParcel_116 (by decide) ?_
      obtain ⟨rfl, rfl⟩ := se2 hf
      exact mrz C0 hr hk rfl I dX7_readsParcel_117
set_option maxHeartbeats 4000000 in
set_option maxRecDepth 100000 in
theorem tX7_readsParcel_0 (C0 : CallFix p m c cX7_readsParcel 6 s args big RX7) (hr : meth.sig.returnType = (some .boolean)) (hk : meth.locks = false) {x1 : Int32} {rr : Int32}  (hf : fX7_readsParcel S x1 = some (rr, S')) (I : mI g s S H locs) (hl : lv_has ls 6 [(0, .ref (g.2.2 0)), (1, .int x1)]) : W p l e ({ frames := 3, cells := 0, slots := 0, locals := 63 } : Room) s m args below meth c H locs 0 0 (MQ below (va_Qi (fun r' S2 => r' = rr ∧ S2 = S') (mB g) (mA g)) args s 0 0 (mA g)) (F0 m 0 ls []) := by
  obtain ⟨hx, hb, hml, -, -⟩ := id C0
  unfold fX7_readsParcel at hf
  refine lv_aload_n hx hb dX7_readsParcel_0 rfl (lv_at hl 0 rfl) ?_
  obtain ⟨S1, h1, hf⟩ := bq1_some hf
  refine mcv_v (As := []) C0 I (kX7_skips h1) (cwV 0 C0.2.2.2.2 (gwV wd_943 wd_945 wd_59 wd_73 wd_946) rfl rfl rfl dsc_X7_skips ⟨Nat.le_of_ble_eq_true rfl, Nat.le_of_ble_eq_true rfl⟩) (mo_0 I) rfl hl.1 rfl (Nat.le_of_ble_eq_true rfl) dX7_readsParcel_1 (fun H locs I => ?_)
  refine lv_aload_n hx hb dX7_readsParcel_4 rfl (lv_at hl 0 rfl) ?_
  refine mg_X7_245_0 C0 I dX7_readsParcel_5 ?_
  refine lv_bipush (v := 16) hx hb dX7_readsParcel_8 (by decide) ?_
  refine lv_icmp_eq (tgt := 26) hx hb dX7_readsParcel_10 (by decide) (fun c2 => ?_) (fun c2 => ?_)
  · have hf := ip c2 hf
    refine lv_iconst (v := 0) hx hb dX7_readsParcel_26 (by decide) ?_
    obtain ⟨rfl, rfl⟩ := se2 hf
    exact mrz C0 hr hk rfl I dX7_readsParcel_27
  · have hf := inn c2 hf
    refine lv_aload_n hx hb dX7_readsParcel_13 rfl (lv_at hl 0 rfl) ?_
    refine lv_aload_n hx hb dX7_readsParcel_14 rfl (lv_at hl 0 rfl) ?_
    obtain ⟨r3, h3, hf⟩ := bq1_some hf
    refine mcv_i (As := []) C0 I (kX7_corners h3) (cwV 0 C0.2.2.2.2 (gwV wd_721 wd_723 wd_26 wd_73 wd_724) rfl rfl rfl dsc_X7_corners ⟨Nat.le_of_ble_eq_true rfl, Nat.le_of_ble_eq_true rfl⟩) (mo_0 I) rfl hl.1 rfl (Nat.le_of_ble_eq_true rfl) dX7_readsParcel_15 (fun H locs I => ?_)
    refine lv_iconst (v := 1) hx hb dX7_readsParcel_18 (by decide) ?_
    refine lv_isub hx hb dX7_readsParcel_19 ?_
    obtain ⟨r4, S4, h4, hf⟩ := bq2_some hf
    refine mcv_i (As := [.int (r3 - (1 : Int32))]) C0 I (kX7_number h4) (cwV 1 C0.2.2.2.2 (gwV wd_955 wd_957 wd_62 wd_73 wd_958) rfl rfl rfl dsc_X7_number ⟨Nat.le_of_ble_eq_true rfl, Nat.le_of_ble_eq_true rfl⟩) (mo_0 I) rfl hl.1 rfl (Nat.le_of_ble_eq_true rfl) dX7_readsParcel_20 (fun H locs I => ?_)
    refine lv_if_ne (tgt := 28) hx hb dX7_readsParcel_23 (by decide) (fun c5 => ?_) (fun c5 => ?_)
    · have hf := inn c5 hf
      refine lv_aload_n hx hb dX7_readsParcel_28 rfl (lv_at hl 0 rfl) ?_
      refine mg_X7_242_0 C0 I dX7_readsParcel_29 ?_
      refine lv_istore_n (lv' := [(2, .int (gF S4 27)), (0, .ref (g.2.2 0)), (1, .int x1)]) hx hb dX7_readsParcel_32 rfl hl (by decide) rfl (fun ls hl => ?_)
      refine lv_aload_n hx hb dX7_readsParcel_33 rfl (lv_at hl 1 rfl) ?_
      refine lv_bipush (v := 62) hx hb dX7_readsParcel_34 (by decide) ?_
      obtain ⟨r6, S6, h6, hf⟩ := bq2_some hf
      refine mcv_i (As := [.int (62 : Int32)]) C0 I (kX7_sign h6) (cwV 1 C0.2.2.2.2 (gwV wd_959 wd_961 wd_63 wd_73 wd_962) rfl rfl rfl dsc_X7_sign ⟨Nat.le_of_ble_eq_true rfl, Nat.le_of_ble_eq_true rfl⟩) (mo_0 I) rfl hl.1 rfl (Nat.le_of_ble_eq_true rfl) dX7_readsParcel_36 (fun H locs I => ?_)
      refine lv_if_eq (tgt := 55) hx hb dX7_readsParcel_39 (by decide) (fun c7 => ?_) (fun c7 => ?_)
      · have hf := ip c7 hf
        refine lv_iconst (v := 0) hx hb dX7_readsParcel_55 (by decide) ?_
        obtain ⟨rfl, rfl⟩ := se2 hf
        exact mrz C0 hr hk rfl I dX7_readsParcel_56
      · have hf := inn c7 hf
        refine lv_aload_n hx hb dX7_readsParcel_42 rfl (lv_at hl 1 rfl) ?_
        refine lv_aload_n hx hb dX7_readsParcel_43 rfl (lv_at hl 1 rfl) ?_
        obtain ⟨r8, h8, hf⟩ := bq1_some hf
        refine mcv_i (As := []) C0 I (kX7_corners h8) (cwV 0 C0.2.2.2.2 (gwV wd_721 wd_723 wd_26 wd_73 wd_724) rfl rfl rfl dsc_X7_corners ⟨Nat.le_of_ble_eq_true rfl, Nat.le_of_ble_eq_true rfl⟩) (mo_0 I) rfl hl.1 rfl (Nat.le_of_ble_eq_true rfl) dX7_readsParcel_44 (fun H locs I => ?_)
        refine lv_iconst (v := 1) hx hb dX7_readsParcel_47 (by decide) ?_
        refine lv_isub hx hb dX7_readsParcel_48 ?_
        obtain ⟨r9, S9, h9, hf⟩ := bq2_some hf
        refine mcv_i (As := [.int (r8 - (1 : Int32))]) C0 I (kX7_number h9) (cwV 1 C0.2.2.2.2 (gwV wd_955 wd_957 wd_62 wd_73 wd_958) rfl rfl rfl dsc_X7_number ⟨Nat.le_of_ble_eq_true rfl, Nat.le_of_ble_eq_true rfl⟩) (mo_0 I) rfl hl.1 rfl (Nat.le_of_ble_eq_true rfl) dX7_readsParcel_49 (fun H locs I => ?_)
        refine lv_if_ne (tgt := 57) hx hb dX7_readsParcel_52 (by decide) (fun c10 => ?_) (fun c10 => ?_)
        · have hf := inn c10 hf
          refine lv_aload_n hx hb dX7_readsParcel_57 rfl (lv_at hl 1 rfl) ?_
          refine mg_X7_242_0 C0 I dX7_readsParcel_58 ?_
          refine lv_istore_n (lv' := [(3, .int (gF S9 27)), (2, .int (gF S4 27)), (0, .ref (g.2.2 0)), (1, .int x1)]) hx hb dX7_readsParcel_61 rfl hl (by decide) rfl (fun ls hl => ?_)
          refine lv_iload_n hx hb dX7_readsParcel_62 rfl (lv_at hl 1 rfl) ?_
          refine lv_istore (lv' := [(4, .int (gF S4 27)), (3, .int (gF S9 27)), (2, .int (gF S4 27)), (0, .ref (g.2.2 0)), (1, .int x1)]) hx hb dX7_readsParcel_63 hl (by decide) rfl (fun ls hl => ?_)
          refine lv_iconst (v := 0) hx hb dX7_readsParcel_65 (by decide) ?_
          refine lv_istore (lv' := [(5, .int (0 : Int32)), (4, .int (gF S4 27)), (3, .int (gF S9 27)), (2, .int (gF S4 27)), (0, .ref (g.2.2 0)), (1, .int x1)]) hx hb dX7_readsParcel_66 hl (by decide) rfl (fun ls hl => ?_)
          refine lv_aload_n hx hb dX7_readsParcel_68 rfl (lv_at hl 4 rfl) ?_
          refine lv_bipush (v := 47) hx hb dX7_readsParcel_69 (by decide) ?_
          obtain ⟨r11, S11, h11, hf⟩ := bq2_some hf
          refine mcv_i (As := [.int (47 : Int32)]) C0 I (kX7_sign h11) (cwV 1 C0.2.2.2.2 (gwV wd_959 wd_961 wd_63 wd_73 wd_962) rfl rfl rfl dsc_X7_sign ⟨Nat.le_of_ble_eq_true rfl, Nat.le_of_ble_eq_true rfl⟩) (mo_0 I) rfl hl.1 rfl (Nat.le_of_ble_eq_true rfl) dX7_readsParcel_71 (fun H locs I => ?_)
          refine lv_if_eq (tgt := 98) hx hb dX7_readsParcel_74 (by decide) (fun c12 => ?_) (fun c12 => ?_)
          · have hf := ip c12 hf
            exact tX7_readsParcel_98 C0 hr hk hf I (lv_sub hl [4, 5, 3, 2, 1, 0] rfl)
          · have hf := inn c12 hf
            refine lv_aload_n hx hb dX7_readsParcel_77 rfl (lv_at hl 4 rfl) ?_
            refine lv_aload_n hx hb dX7_readsParcel_78 rfl (lv_at hl 4 rfl) ?_
            obtain ⟨r21, h21, hf⟩ := bq1_some hf
            refine mcv_i (As := []) C0 I (kX7_corners h21) (cwV 0 C0.2.2.2.2 (gwV wd_721 wd_723 wd_26 wd_73 wd_724) rfl rfl rfl dsc_X7_corners ⟨Nat.le_of_ble_eq_true rfl, Nat.le_of_ble_eq_true rfl⟩) (mo_0 I) rfl hl.1 rfl (Nat.le_of_ble_eq_true rfl) dX7_readsParcel_79 (fun H locs I => ?_)
            refine lv_iconst (v := 1) hx hb dX7_readsParcel_82 (by decide) ?_
            refine lv_isub hx hb dX7_readsParcel_83 ?_
            obtain ⟨r22, S22, h22, hf⟩ := bq2_some hf
            refine mcv_i (As := [.int (r21 - (1 : Int32))]) C0 I (kX7_number h22) (cwV 1 C0.2.2.2.2 (gwV wd_955 wd_957 wd_62 wd_73 wd_958) rfl rfl rfl dsc_X7_number ⟨Nat.le_of_ble_eq_true rfl, Nat.le_of_ble_eq_true rfl⟩) (mo_0 I) rfl hl.1 rfl (Nat.le_of_ble_eq_true rfl) dX7_readsParcel_84 (fun H locs I => ?_)
            refine lv_if_ne (tgt := 92) hx hb dX7_readsParcel_87 (by decide) (fun c23 => ?_) (fun c23 => ?_)
            · have hf := inn c23 hf
              refine lv_aload_n hx hb dX7_readsParcel_92 rfl (lv_at hl 4 rfl) ?_
              refine mg_X7_242_0 C0 I dX7_readsParcel_93 ?_
              refine lv_istore (lv' := [(4, .int (gF S22 27)), (5, .int (0 : Int32)), (3, .int (gF S9 27)), (2, .int (gF S4 27)), (0, .ref (g.2.2 0)), (1, .int x1)]) hx hb dX7_readsParcel_96 hl (by decide) rfl (fun ls hl => ?_)
              exact tX7_readsParcel_98 C0 hr hk hf I (lv_sub hl [4, 5, 3, 2, 0, 1] rfl)
            · have hf := ip c23 hf
              refine lv_iconst (v := 0) hx hb dX7_readsParcel_90 (by decide) ?_
              obtain ⟨rfl, rfl⟩ := se2 hf
              exact mrz C0 hr hk rfl I dX7_readsParcel_91
        · have hf := ip c10 hf
          refine lv_iconst (v := 0) hx hb dX7_readsParcel_55 (by decide) ?_
          obtain ⟨rfl, rfl⟩ := se2 hf
          exact mrz C0 hr hk rfl I dX7_readsParcel_56
    · have hf := ip c5 hf
      refine lv_iconst (v := 0) hx hb dX7_readsParcel_26 (by decide) ?_
      obtain ⟨rfl, rfl⟩ := se2 hf
      exact mrz C0 hr hk rfl I dX7_readsParcel_27
set_option maxRecDepth 100000 in
theorem kX7_readsParcel {x1 : Int32} {rr : Int32} (hf : fX7_readsParcel S x1 = some (rr, S')) : Met l yX7_readsParcel (Cond.code yX7_readsParcel cX7_readsParcel 6 (some .boolean) :: big) ({ frames := 3, cells := 0, slots := 0, locals := 63 } : Room) (va_Pc [.ref (g.2.2 0), .int x1] (mB g S)) (va_Qi (fun r' S2 => r' = rr ∧ S2 = S') (mB g) (mA g)) 0 0 (mA g) := by
  refine Met.ofW (cc := cX7_readsParcel) (maxL := 6) (ret := (some .boolean)) (by decide) rfl ?_
  intro p e s m args below meth c s₁ B hml hv
  obtain ⟨rfl, hP, hK, hD⟩ := hv
  have hts0 := atoms_spec (ws := (Cond.code yX7_readsParcel cX7_readsParcel 6 (some .boolean) :: big)) B.pre
  have C0 : CallFix p m c cX7_readsParcel 6 s _ big RX7 := ⟨B.exec, B.bytes, hml, findClass_of_methodNamed B.named, fun w h => hts0 w (List.mem_cons_of_mem _ h)⟩
  have I : mI g s S s.heap [] := ⟨hK, hP, hD, va_S.rf⟩
  have hl := lv_entry ([.ref (g.2.2 0), .int x1]) (n := 6) (Nat.le_of_ble_eq_true rfl)
  rw [lg_entry_eq]
  generalize (lg_sl ([.ref (g.2.2 0), .int x1]) ++ List.replicate (6 - (lg_sl ([.ref (g.2.2 0), .int x1])).length) Slot.unset).toArray = ls at hl ⊢
  have hl : lv_has ls 6 [(0, .ref (g.2.2 0)), (1, .int x1)] := hl
  exact tX7_readsParcel_0 C0 B.returns B.notSynchronized hf I (lv_sub hl [0, 1] rfl)
set_option maxHeartbeats 4000000 in
set_option maxRecDepth 100000 in
theorem BX7_goesThrough_41 (C0 : CallFix p m c cX7_goesThrough 3 s args big RX7) (hr : meth.sig.returnType = (some .int)) (hk : meth.locks = false) {x1 : Int32} {x2 : Int32} {b : Bool}  {yr : Option Int32} {rr : Int32} {SS : St} (Kr : ∀ r, b = false → yr = some r → rr = r ∧ SS = S') (Kt : b = true → ∀ (H : Heap) (locs : List Loc) (ls : Array Slot), mI g s S' H locs → lv_has ls 3 [(0, .ref (g.2.2 0)), (1, .int x1), (2, .int x2)] → W p l e ({ frames := 4, cells := 0, slots := 0, locals := 88 } : Room) s m args below meth c H locs 0 0 (MQ below (va_Qi (fun r' S2 => r' = rr ∧ S2 = SS) (mB g) (mA g)) args s 0 0 (mA g)) (F0 m 41 ls [])) (Kf : b = false → yr = none → ∀ (H : Heap) (locs : List Loc) (ls : Array Slot), mI g s S' H locs → lv_has ls 3 [(0, .ref (g.2.2 0)), (1, .int x1), (2, .int x2)] → W p l e ({ frames := 4, cells := 0, slots := 0, locals := 88 } : Room) s m args below meth c H locs 0 0 (MQ below (va_Qi (fun r' S2 => r' = rr ∧ S2 = SS) (mB g) (mA g)) args s 0 0 (mA g)) (F0 m 75 ls [])) (hf : bX7_goesThrough_41 x1 S = some (b, S', yr)) (I : mI g s S H locs) (hl : lv_has ls 3 [(0, .ref (g.2.2 0)), (1, .int x1), (2, .int x2)]) : W p l e ({ frames := 4, cells := 0, slots := 0, locals := 88 } : Room) s m args below meth c H locs 0 0 (MQ below (va_Qi (fun r' S2 => r' = rr ∧ S2 = SS) (mB g) (mA g)) args s 0 0 (mA g)) (F0 m 41 ls []) := by
  obtain ⟨hx, hb, hml, -, -⟩ := id C0
  unfold bX7_goesThrough_41 at hf
  refine lv_aload_n hx hb dX7_goesThrough_41 rfl (lv_at hl 0 rfl) ?_
  refine mg_X7_230_0 C0 I dX7_goesThrough_42 ?_
  refine lv_aload_n hx hb dX7_goesThrough_45 rfl (lv_at hl 0 rfl) ?_
  refine mg_X7_227_0 C0 I dX7_goesThrough_46 ?_
  refine lv_icmp_ge (tgt := 75) hx hb dX7_goesThrough_49 (by decide) (fun c3 => ?_) (fun c3 => ?_)
  · have hf := ip c3 hf
    obtain ⟨rfl, rfl, rfl⟩ := se3 hf
    exact Kf rfl rfl _ _ _ I (lv_sub hl [0, 1, 2] rfl)
  · have hf := inn c3 hf
    refine lv_aload_n hx hb dX7_goesThrough_52 rfl (lv_at hl 0 rfl) ?_
    refine lv_iload_n hx hb dX7_goesThrough_53 rfl (lv_at hl 1 rfl) ?_
    obtain ⟨r4, S4, h4, hf⟩ := bq2_some hf
    refine mcv_i (As := [.int x1]) C0 I (kX7_readsParcel h4) (cwV 1 C0.2.2.2.2 (gwV wd_951 wd_953 wd_61 wd_73 wd_954) rfl rfl rfl dsc_X7_readsParcel ⟨Nat.le_of_ble_eq_true rfl, Nat.le_of_ble_eq_true rfl⟩) (mo_0 I) rfl hl.1 rfl (Nat.le_of_ble_eq_true rfl) dX7_goesThrough_54 (fun H locs I => ?_)
    refine lv_if_ne (tgt := 68) hx hb dX7_goesThrough_57 (by decide) (fun c5 => ?_) (fun c5 => ?_)
    · have hf := inn c5 hf
      refine lv_aload_n hx hb dX7_goesThrough_68 rfl (lv_at hl 0 rfl) ?_
      obtain ⟨S6, h6, hf⟩ := bq1_some hf
      refine mcv_v (As := []) C0 I (kX7_skips h6) (cwV 0 C0.2.2.2.2 (gwV wd_943 wd_945 wd_59 wd_73 wd_946) rfl rfl rfl dsc_X7_skips ⟨Nat.le_of_ble_eq_true rfl, Nat.le_of_ble_eq_true rfl⟩) (mo_0 I) rfl hl.1 rfl (Nat.le_of_ble_eq_true rfl) dX7_goesThrough_69 (fun H locs I => ?_)
      refine lv_goto (tgt := 41) hx hb dX7_goesThrough_72 (by decide) ?_
      obtain ⟨rfl, rfl, rfl⟩ := se3 hf
      exact Kt rfl _ _ _ I (lv_sub hl [0, 1, 2] rfl)
    · have hf := ip c5 hf
      refine lv_bipush (v := -10) hx hb dX7_goesThrough_60 (by decide) ?_
      refine lv_aload_n hx hb dX7_goesThrough_62 rfl (lv_at hl 0 rfl) ?_
      refine mg_X7_236_0 C0 I dX7_goesThrough_63 ?_
      refine lv_isub hx hb dX7_goesThrough_66 ?_
      obtain ⟨rfl, rfl, rfl⟩ := se3 hf
      obtain ⟨rfl, rfl⟩ := Kr _ rfl rfl
      exact mri C0 hr hk I dX7_goesThrough_67
set_option maxHeartbeats 4000000 in
theorem lX7_goesThrough_41 (C0 : CallFix p m c cX7_goesThrough 3 s args big RX7) (hr : meth.sig.returnType = (some .int)) (hk : meth.locks = false) {x1 : Int32} {x2 : Int32} {S' : St}  {yr : Option Int32} {rr : Int32} {SS : St} (Kr : ∀ r, yr = some r → rr = r ∧ SS = S') : ∀ (n : Nat) {S : St} {yi : Option Int32}, lp (fun q => bX7_goesThrough_41 x1 q.1) n (S, yi) = some (S', yr) → ∀ {H : Heap} {locs : List Loc}, mI g s S H locs → ∀ {ls : Array Slot}, lv_has ls 3 [(0, .ref (g.2.2 0)), (1, .int x1), (2, .int x2)] → (∀ (H : Heap) (locs : List Loc) (ls : Array Slot), yr = none → mI g s S' H locs → lv_has ls 3 [(0, .ref (g.2.2 0)), (1, .int x1), (2, .int x2)] → W p l e ({ frames := 4, cells := 0, slots := 0, locals := 88 } : Room) s m args below meth c H locs 0 0 (MQ below (va_Qi (fun r' S2 => r' = rr ∧ S2 = SS) (mB g) (mA g)) args s 0 0 (mA g)) (F0 m 75 ls [])) → W p l e ({ frames := 4, cells := 0, slots := 0, locals := 88 } : Room) s m args below meth c H locs 0 0 (MQ below (va_Qi (fun r' S2 => r' = rr ∧ S2 = SS) (mB g) (mA g)) args s 0 0 (mA g)) (F0 m 41 ls []) := by
  intro n
  induction n with
  | zero => intro S yi hf; cases hf
  | succ n ih =>
    intro S yi hf H locs I ls hl K
    obtain ⟨b, ⟨z0, z1⟩, h1, h2, h3⟩ := lp_some hf
    refine BX7_goesThrough_41 C0 hr hk (fun r hb1 hy1 => ?_) (fun hb1 H locs ls I hl => ?_) (fun hb1 hy1 H locs ls I hl => ?_) h1 I hl
    · have e := h3 hb1
      cases e
      exact Kr r hy1
    · exact ih (h2 hb1) I hl K
    · have e := h3 hb1
      cases e
      exact K H locs ls hy1 I hl
set_option maxHeartbeats 4000000 in
set_option maxRecDepth 100000 in
theorem tX7_goesThrough_0 (C0 : CallFix p m c cX7_goesThrough 3 s args big RX7) (hr : meth.sig.returnType = (some .int)) (hk : meth.locks = false) {x1 : Int32} {rr : Int32}  (hf : fX7_goesThrough S x1 = some (rr, S')) (I : mI g s S H locs) (hl : lv_has ls 3 [(0, .ref (g.2.2 0)), (1, .int x1)]) : W p l e ({ frames := 4, cells := 0, slots := 0, locals := 88 } : Room) s m args below meth c H locs 0 0 (MQ below (va_Qi (fun r' S2 => r' = rr ∧ S2 = S') (mB g) (mA g)) args s 0 0 (mA g)) (F0 m 0 ls []) := by
  obtain ⟨hx, hb, hml, -, -⟩ := id C0
  unfold fX7_goesThrough at hf
  refine lv_aload_n hx hb dX7_goesThrough_0 rfl (lv_at hl 0 rfl) ?_
  refine lv_iconst (v := 0) hx hb dX7_goesThrough_1 (by decide) ?_
  refine mp_X7_230_0 C0 I dX7_goesThrough_2 (fun H locs I => ?_)
  refine lv_aload_n hx hb dX7_goesThrough_5 rfl (lv_at hl 0 rfl) ?_
  refine lv_aload_n hx hb dX7_goesThrough_6 rfl (lv_at hl 0 rfl) ?_
  refine mg_X7_76_0 C0 I dX7_goesThrough_7 ?_
  refine mp_X7_245_0 C0 I dX7_goesThrough_10 (fun H locs I => ?_)
  refine lv_aload_n hx hb dX7_goesThrough_13 rfl (lv_at hl 0 rfl) ?_
  refine mg_X7_76_0 C0 I dX7_goesThrough_14 ?_
  refine lv_istore_n (lv' := [(2, .int (gF S 2)), (0, .ref (g.2.2 0)), (1, .int x1)]) hx hb dX7_goesThrough_17 rfl hl (by decide) rfl (fun ls hl => ?_)
  refine lv_aload_n hx hb dX7_goesThrough_18 rfl (lv_at hl 1 rfl) ?_
  obtain ⟨S1, h1, hf⟩ := bq1_some hf
  refine mcv_v (As := []) C0 I (kX7_skips h1) (cwV 0 C0.2.2.2.2 (gwV wd_943 wd_945 wd_59 wd_73 wd_946) rfl rfl rfl dsc_X7_skips ⟨Nat.le_of_ble_eq_true rfl, Nat.le_of_ble_eq_true rfl⟩) (mo_0 I) rfl hl.1 rfl (Nat.le_of_ble_eq_true rfl) dX7_goesThrough_19 (fun H locs I => ?_)
  refine lv_aload_n hx hb dX7_goesThrough_22 rfl (lv_at hl 1 rfl) ?_
  refine mg_X7_230_0 C0 I dX7_goesThrough_23 ?_
  refine lv_aload_n hx hb dX7_goesThrough_26 rfl (lv_at hl 1 rfl) ?_
  refine mg_X7_227_0 C0 I dX7_goesThrough_27 ?_
  refine lv_icmp_ne (tgt := 41) hx hb dX7_goesThrough_30 (by decide) (fun c2 => ?_) (fun c2 => ?_)
  · have hf := inn c2 hf
    obtain ⟨S7, yr7, h7, hf⟩ := bq2_some hf
    refine lX7_goesThrough_41 C0 hr hk (fun r hy => ?_) fu h7 I (lv_sub hl [1, 2, 0] rfl) (fun H locs ls hy I hl => ?_)
    · rw [hy] at hf; cases hf; exact ⟨rfl, rfl⟩
    rw [hy] at hf
    have hf := rto_none hf
    refine lv_aload_n hx hb dX7_goesThrough_75 rfl (lv_at hl 0 rfl) ?_
    refine mg_X7_245_0 C0 I dX7_goesThrough_76 ?_
    refine lv_iload_n hx hb dX7_goesThrough_79 rfl (lv_at hl 2 rfl) ?_
    refine lv_isub hx hb dX7_goesThrough_80 ?_
    obtain ⟨rfl, rfl⟩ := se2 hf
    exact mri C0 hr hk I dX7_goesThrough_81
  · have hf := ip c2 hf
    refine lv_bipush (v := -10) hx hb dX7_goesThrough_33 (by decide) ?_
    refine lv_aload_n hx hb dX7_goesThrough_35 rfl (lv_at hl 1 rfl) ?_
    refine mg_X7_227_0 C0 I dX7_goesThrough_36 ?_
    refine lv_isub hx hb dX7_goesThrough_39 ?_
    obtain ⟨rfl, rfl⟩ := se2 hf
    exact mri C0 hr hk I dX7_goesThrough_40
set_option maxRecDepth 100000 in
theorem kX7_goesThrough {x1 : Int32} {rr : Int32} (hf : fX7_goesThrough S x1 = some (rr, S')) : Met l yX7_goesThrough (Cond.code yX7_goesThrough cX7_goesThrough 3 (some .int) :: big) ({ frames := 4, cells := 0, slots := 0, locals := 88 } : Room) (va_Pc [.ref (g.2.2 0), .int x1] (mB g S)) (va_Qi (fun r' S2 => r' = rr ∧ S2 = S') (mB g) (mA g)) 0 0 (mA g) := by
  refine Met.ofW (cc := cX7_goesThrough) (maxL := 3) (ret := (some .int)) (by decide) rfl ?_
  intro p e s m args below meth c s₁ B hml hv
  obtain ⟨rfl, hP, hK, hD⟩ := hv
  have hts0 := atoms_spec (ws := (Cond.code yX7_goesThrough cX7_goesThrough 3 (some .int) :: big)) B.pre
  have C0 : CallFix p m c cX7_goesThrough 3 s _ big RX7 := ⟨B.exec, B.bytes, hml, findClass_of_methodNamed B.named, fun w h => hts0 w (List.mem_cons_of_mem _ h)⟩
  have I : mI g s S s.heap [] := ⟨hK, hP, hD, va_S.rf⟩
  have hl := lv_entry ([.ref (g.2.2 0), .int x1]) (n := 3) (Nat.le_of_ble_eq_true rfl)
  rw [lg_entry_eq]
  generalize (lg_sl ([.ref (g.2.2 0), .int x1]) ++ List.replicate (3 - (lg_sl ([.ref (g.2.2 0), .int x1])).length) Slot.unset).toArray = ls at hl ⊢
  have hl : lv_has ls 3 [(0, .ref (g.2.2 0)), (1, .int x1)] := hl
  exact tX7_goesThrough_0 C0 B.returns B.notSynchronized hf I (lv_sub hl [0, 1] rfl)
set_option maxHeartbeats 4000000 in
set_option maxRecDepth 100000 in
theorem tX7_reads_0 (C0 : CallFix p m c cX7_reads 2 s args big RX7) (hr : meth.sig.returnType = (some .int)) (hk : meth.locks = false)  {rr : Int32}  (hf : fX7_reads S = some (rr, S')) (I : mI g s S H locs) (hl : lv_has ls 2 [(0, .ref (g.2.2 0))]) : W p l e ({ frames := 5, cells := 0, slots := 0, locals := 110 } : Room) s m args below meth c H locs 0 0 (MQ below (va_Qi (fun r' S2 => r' = rr ∧ S2 = S') (mB g) (mA g)) args s 0 0 (mA g)) (F0 m 0 ls []) := by
  obtain ⟨hx, hb, hml, -, -⟩ := id C0
  unfold fX7_reads at hf
  refine lv_aload_n hx hb dX7_reads_0 rfl (lv_at hl 0 rfl) ?_
  refine lv_iconst (v := 0) hx hb dX7_reads_1 (by decide) ?_
  obtain ⟨r1, S1, h1, hf⟩ := bq2_some hf
  refine mcv_i (As := [.int (0 : Int32)]) C0 I (kX7_goesThrough h1) (cwV 1 C0.2.2.2.2 (gwV wd_939 wd_941 wd_58 wd_73 wd_942) rfl rfl rfl dsc_X7_goesThrough ⟨Nat.le_of_ble_eq_true rfl, Nat.le_of_ble_eq_true rfl⟩) (mo_0 I) rfl hl.1 rfl (Nat.le_of_ble_eq_true rfl) dX7_reads_2 (fun H locs I => ?_)
  refine lv_istore_n (lv' := [(1, .int r1), (0, .ref (g.2.2 0))]) hx hb dX7_reads_5 rfl hl (by decide) rfl (fun ls hl => ?_)
  refine lv_iload_n hx hb dX7_reads_6 rfl (lv_at hl 0 rfl) ?_
  refine lv_if_ge (tgt := 12) hx hb dX7_reads_7 (by decide) (fun c2 => ?_) (fun c2 => ?_)
  · have hf := ip c2 hf
    refine lv_aload_n hx hb dX7_reads_12 rfl (lv_at hl 1 rfl) ?_
    obtain ⟨S3, h3, hf⟩ := bq1_some hf
    refine mcv_v (As := []) C0 I (kX7_leavesState h3) (cwV 0 C0.2.2.2.2 (gwV wd_709 wd_711 wd_24 wd_73 wd_712) rfl rfl rfl dsc_X7_leavesState ⟨Nat.le_of_ble_eq_true rfl, Nat.le_of_ble_eq_true rfl⟩) (mo_0 I) rfl hl.1 rfl (Nat.le_of_ble_eq_true rfl) dX7_reads_13 (fun H locs I => ?_)
    refine lv_aload_n hx hb dX7_reads_16 rfl (lv_at hl 1 rfl) ?_
    refine lv_iconst (v := 1) hx hb dX7_reads_17 (by decide) ?_
    obtain ⟨r4, S4, h4, hf⟩ := bq2_some hf
    refine mcv_i (As := [.int (1 : Int32)]) C0 I (kX7_goesThrough h4) (cwV 1 C0.2.2.2.2 (gwV wd_939 wd_941 wd_58 wd_73 wd_942) rfl rfl rfl dsc_X7_goesThrough ⟨Nat.le_of_ble_eq_true rfl, Nat.le_of_ble_eq_true rfl⟩) (mo_0 I) rfl hl.1 rfl (Nat.le_of_ble_eq_true rfl) dX7_reads_18 (fun H locs I => ?_)
    obtain ⟨rfl, rfl⟩ := se2 hf
    exact mri C0 hr hk I dX7_reads_21
  · have hf := inn c2 hf
    refine lv_iload_n hx hb dX7_reads_10 rfl (lv_at hl 0 rfl) ?_
    obtain ⟨rfl, rfl⟩ := se2 hf
    exact mri C0 hr hk I dX7_reads_11
set_option maxRecDepth 100000 in
theorem kX7_reads  {rr : Int32} (hf : fX7_reads S  = some (rr, S')) : Met l yX7_reads (Cond.code yX7_reads cX7_reads 2 (some .int) :: big) ({ frames := 5, cells := 0, slots := 0, locals := 110 } : Room) (va_Pc [.ref (g.2.2 0)] (mB g S)) (va_Qi (fun r' S2 => r' = rr ∧ S2 = S') (mB g) (mA g)) 0 0 (mA g) := by
  refine Met.ofW (cc := cX7_reads) (maxL := 2) (ret := (some .int)) (by decide) rfl ?_
  intro p e s m args below meth c s₁ B hml hv
  obtain ⟨rfl, hP, hK, hD⟩ := hv
  have hts0 := atoms_spec (ws := (Cond.code yX7_reads cX7_reads 2 (some .int) :: big)) B.pre
  have C0 : CallFix p m c cX7_reads 2 s _ big RX7 := ⟨B.exec, B.bytes, hml, findClass_of_methodNamed B.named, fun w h => hts0 w (List.mem_cons_of_mem _ h)⟩
  have I : mI g s S s.heap [] := ⟨hK, hP, hD, va_S.rf⟩
  have hl := lv_entry ([.ref (g.2.2 0)]) (n := 2) (Nat.le_of_ble_eq_true rfl)
  rw [lg_entry_eq]
  generalize (lg_sl ([.ref (g.2.2 0)]) ++ List.replicate (2 - (lg_sl ([.ref (g.2.2 0)])).length) Slot.unset).toArray = ls at hl ⊢
  have hl : lv_has ls 2 [(0, .ref (g.2.2 0))] := hl
  exact tX7_reads_0 C0 B.returns B.notSynchronized hf I (lv_sub hl [0] rfl)
set_option maxHeartbeats 4000000 in
set_option maxRecDepth 100000 in
theorem BX7_back_82 (C0 : CallFix p m c cX7_back 3 s args big RX7) (hr : meth.sig.returnType = (some .int)) (hk : meth.locks = false) {x1 : Int32} {x2 : Int32} {b : Bool} {y2 : Int32} (Kt : b = true → ∀ (H : Heap) (locs : List Loc) (ls : Array Slot), mI g s S' H locs → lv_has ls 3 [(0, .ref (g.2.2 0)), (1, .int x1), (2, .int y2)] → W p l e ({ frames := 1, cells := 0, slots := 0, locals := 20 } : Room) s m args below meth c H locs 0 0 Q (F0 m 82 ls [])) (Kf : b = false → ∀ (H : Heap) (locs : List Loc) (ls : Array Slot), mI g s S' H locs → lv_has ls 3 [(0, .ref (g.2.2 0)), (1, .int x1), (2, .int y2)] → W p l e ({ frames := 1, cells := 0, slots := 0, locals := 20 } : Room) s m args below meth c H locs 0 0 Q (F0 m 161 ls [])) (hf : bX7_back_82 x1 S x2 = some (b, S', y2)) (I : mI g s S H locs) (hl : lv_has ls 3 [(0, .ref (g.2.2 0)), (1, .int x1), (2, .int x2)]) : W p l e ({ frames := 1, cells := 0, slots := 0, locals := 20 } : Room) s m args below meth c H locs 0 0 Q (F0 m 82 ls []) := by
  obtain ⟨hx, hb, hml, -, -⟩ := id C0
  unfold bX7_back_82 at hf
  refine lv_iload_n hx hb dX7_back_82 rfl (lv_at hl 2 rfl) ?_
  refine lv_bipush (v := 16) hx hb dX7_back_83 (by decide) ?_
  refine lv_icmp_ge (tgt := 161) hx hb dX7_back_85 (by decide) (fun c6 => ?_) (fun c6 => ?_)
  · have hf := ip c6 hf
    obtain ⟨rfl, rfl, rfl⟩ := se3 hf
    exact Kf rfl _ _ _ I (lv_sub hl [0, 1, 2] rfl)
  · have hf := inn c6 hf
    refine lv_aload_n hx hb dX7_back_88 rfl (lv_at hl 0 rfl) ?_
    refine mg_X7_20_0 C0 I dX7_back_89 ?_
    refine lv_iload_n hx hb dX7_back_92 rfl (lv_at hl 2 rfl) ?_
    refine lv_aload_n hx hb dX7_back_93 rfl (lv_at hl 0 rfl) ?_
    refine mg_X7_32_0 C0 I dX7_back_94 ?_
    refine lv_iload_n hx hb dX7_back_97 rfl (lv_at hl 1 rfl) ?_
    refine lv_iconst (v := 4) hx hb dX7_back_98 (by decide) ?_
    refine lv_iadd hx hb dX7_back_99 ?_
    refine lv_iload_n hx hb dX7_back_100 rfl (lv_at hl 2 rfl) ?_
    refine lv_iadd hx hb dX7_back_101 ?_
    obtain ⟨b7, hf⟩ := chk_some hf
    refine ml_7 hx hb I b7 dX7_back_102 ?_
    obtain ⟨b8, hf⟩ := chk_some hf
    refine ms_3 hx hb I b8 dX7_back_103 (fun H locs I => ?_)
    refine lv_aload_n hx hb dX7_back_104 rfl (lv_at hl 0 rfl) ?_
    refine mg_X7_23_0 C0 I dX7_back_105 ?_
    refine lv_iload_n hx hb dX7_back_108 rfl (lv_at hl 2 rfl) ?_
    refine lv_aload_n hx hb dX7_back_109 rfl (lv_at hl 0 rfl) ?_
    refine mg_X7_32_0 C0 I dX7_back_110 ?_
    refine lv_iload_n hx hb dX7_back_113 rfl (lv_at hl 1 rfl) ?_
    refine lv_bipush (v := 20) hx hb dX7_back_114 (by decide) ?_
    refine lv_iadd hx hb dX7_back_116 ?_
    refine lv_iload_n hx hb dX7_back_117 rfl (lv_at hl 2 rfl) ?_
    refine lv_iadd hx hb dX7_back_118 ?_
    obtain ⟨b9, hf⟩ := chk_some hf
    refine ml_7 hx hb I b9 dX7_back_119 ?_
    obtain ⟨b10, hf⟩ := chk_some hf
    refine ms_4 hx hb I b10 dX7_back_120 (fun H locs I => ?_)
    refine lv_aload_n hx hb dX7_back_121 rfl (lv_at hl 0 rfl) ?_
    refine mg_X7_26_0 C0 I dX7_back_122 ?_
    refine lv_iload_n hx hb dX7_back_125 rfl (lv_at hl 2 rfl) ?_
    refine lv_aload_n hx hb dX7_back_126 rfl (lv_at hl 0 rfl) ?_
    refine mg_X7_32_0 C0 I dX7_back_127 ?_
    refine lv_iload_n hx hb dX7_back_130 rfl (lv_at hl 1 rfl) ?_
    refine lv_bipush (v := 36) hx hb dX7_back_131 (by decide) ?_
    refine lv_iadd hx hb dX7_back_133 ?_
    refine lv_iload_n hx hb dX7_back_134 rfl (lv_at hl 2 rfl) ?_
    refine lv_iadd hx hb dX7_back_135 ?_
    obtain ⟨b11, hf⟩ := chk_some hf
    refine ml_7 hx hb I b11 dX7_back_136 ?_
    obtain ⟨b12, hf⟩ := chk_some hf
    refine ms_5 hx hb I b12 dX7_back_137 (fun H locs I => ?_)
    refine lv_aload_n hx hb dX7_back_138 rfl (lv_at hl 0 rfl) ?_
    refine mg_X7_29_0 C0 I dX7_back_139 ?_
    refine lv_iload_n hx hb dX7_back_142 rfl (lv_at hl 2 rfl) ?_
    refine lv_aload_n hx hb dX7_back_143 rfl (lv_at hl 0 rfl) ?_
    refine mg_X7_32_0 C0 I dX7_back_144 ?_
    refine lv_iload_n hx hb dX7_back_147 rfl (lv_at hl 1 rfl) ?_
    refine lv_bipush (v := 52) hx hb dX7_back_148 (by decide) ?_
    refine lv_iadd hx hb dX7_back_150 ?_
    refine lv_iload_n hx hb dX7_back_151 rfl (lv_at hl 2 rfl) ?_
    refine lv_iadd hx hb dX7_back_152 ?_
    obtain ⟨b13, hf⟩ := chk_some hf
    refine ml_7 hx hb I b13 dX7_back_153 ?_
    obtain ⟨b14, hf⟩ := chk_some hf
    refine ms_6 hx hb I b14 dX7_back_154 (fun H locs I => ?_)
    refine lv_iinc (v := (x2 + (1 : Int32))) (lv' := [(2, .int (x2 + (1 : Int32))), (0, .ref (g.2.2 0)), (1, .int x1)]) hx hb dX7_back_155 hl (k := 2) rfl rfl (by decide) rfl (fun ls hl => ?_)
    refine lv_goto (tgt := 82) hx hb dX7_back_158 (by decide) ?_
    obtain ⟨rfl, rfl, rfl⟩ := se3 hf
    exact Kt rfl _ _ _ I (lv_sub hl [1, 2, 0] rfl)
set_option maxHeartbeats 4000000 in
theorem lX7_back_82 (C0 : CallFix p m c cX7_back 3 s args big RX7) (hr : meth.sig.returnType = (some .int)) (hk : meth.locks = false) {x1 : Int32} {S' : St} {y2 : Int32} : ∀ (n : Nat) {S : St} {x2 : Int32}, lp (fun q => bX7_back_82 x1 q.1 q.2) n (S, x2) = some (S', y2) → ∀ {H : Heap} {locs : List Loc}, mI g s S H locs → ∀ {ls : Array Slot}, lv_has ls 3 [(0, .ref (g.2.2 0)), (1, .int x1), (2, .int x2)] → (∀ (H : Heap) (locs : List Loc) (ls : Array Slot), mI g s S' H locs → lv_has ls 3 [(0, .ref (g.2.2 0)), (1, .int x1), (2, .int y2)] → W p l e ({ frames := 1, cells := 0, slots := 0, locals := 20 } : Room) s m args below meth c H locs 0 0 Q (F0 m 161 ls [])) → W p l e ({ frames := 1, cells := 0, slots := 0, locals := 20 } : Room) s m args below meth c H locs 0 0 Q (F0 m 82 ls []) := by
  intro n
  induction n with
  | zero => intro S x2 hf; cases hf
  | succ n ih =>
    intro S x2 hf H locs I ls hl K
    obtain ⟨b, ⟨z0, z1⟩, h1, h2, h3⟩ := lp_some hf
    refine BX7_back_82 C0 hr hk (fun hb1 H locs ls I hl => ?_) (fun hb1 H locs ls I hl => ?_) h1 I hl
    · exact ih (h2 hb1) I hl K
    · have e := h3 hb1
      cases e
      exact K H locs ls I hl
set_option maxHeartbeats 4000000 in
set_option maxRecDepth 100000 in
theorem tX7_back_0 (C0 : CallFix p m c cX7_back 3 s args big RX7) (hr : meth.sig.returnType = (some .int)) (hk : meth.locks = false)  {rr : Int32}  (hf : fX7_back S = some (rr, S')) (I : mI g s S H locs) (hl : lv_has ls 3 [(0, .ref (g.2.2 0))]) : W p l e ({ frames := 1, cells := 0, slots := 0, locals := 20 } : Room) s m args below meth c H locs 0 0 (MQ below (va_Qi (fun r' S2 => r' = rr ∧ S2 = S') (mB g) (mA g)) args s 0 0 (mA g)) (F0 m 0 ls []) := by
  obtain ⟨hx, hb, hml, -, -⟩ := id C0
  unfold fX7_back at hf
  refine lv_aload_n hx hb dX7_back_0 rfl (lv_at hl 0 rfl) ?_
  refine mg_X7_79_0 C0 I dX7_back_1 ?_
  refine lv_if_ne (tgt := 12) hx hb dX7_back_4 (by decide) (fun c1 => ?_) (fun c1 => ?_)
  · have hf := inn c1 hf
    refine lv_aload_n hx hb dX7_back_12 rfl (lv_at hl 0 rfl) ?_
    refine lv_dup hx hb dX7_back_13 rfl ?_
    refine mg_X7_79_0 C0 I dX7_back_14 ?_
    refine lv_iconst (v := 1) hx hb dX7_back_17 (by decide) ?_
    refine lv_isub hx hb dX7_back_18 ?_
    refine mp_X7_79_0 C0 I dX7_back_19 (fun H locs I => ?_)
    refine lv_bipush (v := 68) hx hb dX7_back_22 (by decide) ?_
    refine lv_aload_n hx hb dX7_back_24 rfl (lv_at hl 0 rfl) ?_
    refine mg_X7_79_0 C0 I dX7_back_25 ?_
    refine lv_imul hx hb dX7_back_28 ?_
    refine lv_istore_n (lv' := [(1, .int ((68 : Int32) * ((gF S 8) - (1 : Int32)))), (0, .ref (g.2.2 0))]) hx hb dX7_back_29 rfl hl (by decide) rfl (fun ls hl => ?_)
    refine lv_aload_n hx hb dX7_back_30 rfl (lv_at hl 1 rfl) ?_
    refine lv_aload_n hx hb dX7_back_31 rfl (lv_at hl 1 rfl) ?_
    refine mg_X7_32_0 C0 I dX7_back_32 ?_
    refine lv_iload_n hx hb dX7_back_35 rfl (lv_at hl 0 rfl) ?_
    obtain ⟨b2, hf⟩ := chk_some hf
    refine ml_7 hx hb I b2 dX7_back_36 ?_
    refine mp_X7_13_0 C0 I dX7_back_37 (fun H locs I => ?_)
    refine lv_aload_n hx hb dX7_back_40 rfl (lv_at hl 1 rfl) ?_
    refine lv_aload_n hx hb dX7_back_41 rfl (lv_at hl 1 rfl) ?_
    refine mg_X7_32_0 C0 I dX7_back_42 ?_
    refine lv_iload_n hx hb dX7_back_45 rfl (lv_at hl 0 rfl) ?_
    refine lv_iconst (v := 1) hx hb dX7_back_46 (by decide) ?_
    refine lv_iadd hx hb dX7_back_47 ?_
    obtain ⟨b3, hf⟩ := chk_some hf
    refine ml_7 hx hb I b3 dX7_back_48 ?_
    refine mp_X7_76_0 C0 I dX7_back_49 (fun H locs I => ?_)
    refine lv_aload_n hx hb dX7_back_52 rfl (lv_at hl 1 rfl) ?_
    refine mg_X7_17_0 C0 I dX7_back_53 ?_
    refine lv_iconst (v := 0) hx hb dX7_back_56 (by decide) ?_
    refine lv_aload_n hx hb dX7_back_57 rfl (lv_at hl 1 rfl) ?_
    refine mg_X7_32_0 C0 I dX7_back_58 ?_
    refine lv_iload_n hx hb dX7_back_61 rfl (lv_at hl 0 rfl) ?_
    refine lv_iconst (v := 2) hx hb dX7_back_62 (by decide) ?_
    refine lv_iadd hx hb dX7_back_63 ?_
    obtain ⟨b4, hf⟩ := chk_some hf
    refine ml_7 hx hb I b4 dX7_back_64 ?_
    refine ms_2 hx hb I (in_lit rfl) dX7_back_65 (fun H locs I => ?_)
    refine lv_aload_n hx hb dX7_back_66 rfl (lv_at hl 1 rfl) ?_
    refine mg_X7_17_0 C0 I dX7_back_67 ?_
    refine lv_iconst (v := 1) hx hb dX7_back_70 (by decide) ?_
    refine lv_aload_n hx hb dX7_back_71 rfl (lv_at hl 1 rfl) ?_
    refine mg_X7_32_0 C0 I dX7_back_72 ?_
    refine lv_iload_n hx hb dX7_back_75 rfl (lv_at hl 0 rfl) ?_
    refine lv_iconst (v := 3) hx hb dX7_back_76 (by decide) ?_
    refine lv_iadd hx hb dX7_back_77 ?_
    obtain ⟨b5, hf⟩ := chk_some hf
    refine ml_7 hx hb I b5 dX7_back_78 ?_
    refine ms_2 hx hb I (in_lit rfl) dX7_back_79 (fun H locs I => ?_)
    refine lv_iconst (v := 0) hx hb dX7_back_80 (by decide) ?_
    refine lv_istore_n (lv' := [(2, .int (0 : Int32)), (1, .int ((68 : Int32) * ((gF S 8) - (1 : Int32)))), (0, .ref (g.2.2 0))]) hx hb dX7_back_81 rfl hl (by decide) rfl (fun ls hl => ?_)
    obtain ⟨S15, y2_15, h15, hf⟩ := bq2_some hf
    refine lX7_back_82 C0 hr hk fu h15 I (lv_sub hl [2, 1, 0] rfl) (fun H locs ls I hl => ?_)
    refine lv_aload_n hx hb dX7_back_161 rfl (lv_at hl 0 rfl) ?_
    refine mg_X7_79_0 C0 I dX7_back_162 ?_
    obtain ⟨rfl, rfl⟩ := se2 hf
    exact mri C0 hr hk I dX7_back_165
  · have hf := ip c1 hf
    refine lv_aload_n hx hb dX7_back_7 rfl (lv_at hl 0 rfl) ?_
    obtain ⟨r16, S16, h16, hf⟩ := bq2_some hf
    refine mcv_i (As := []) C0 I (kX7_no h16) (cwV 0 C0.2.2.2.2 (gwV wd_694 wd_696 wd_22 wd_73 wd_697) rfl rfl rfl dsc_X7_no ⟨Nat.le_of_ble_eq_true rfl, Nat.le_of_ble_eq_true rfl⟩) (mo_0 I) rfl hl.1 rfl (Nat.le_of_ble_eq_true rfl) dX7_back_8 (fun H locs I => ?_)
    obtain ⟨rfl, rfl⟩ := se2 hf
    exact mri C0 hr hk I dX7_back_11
set_option maxRecDepth 100000 in
theorem kX7_back  {rr : Int32} (hf : fX7_back S  = some (rr, S')) : Met l yX7_back (Cond.code yX7_back cX7_back 3 (some .int) :: big) ({ frames := 1, cells := 0, slots := 0, locals := 20 } : Room) (va_Pc [.ref (g.2.2 0)] (mB g S)) (va_Qi (fun r' S2 => r' = rr ∧ S2 = S') (mB g) (mA g)) 0 0 (mA g) := by
  refine Met.ofW (cc := cX7_back) (maxL := 3) (ret := (some .int)) (by decide) rfl ?_
  intro p e s m args below meth c s₁ B hml hv
  obtain ⟨rfl, hP, hK, hD⟩ := hv
  have hts0 := atoms_spec (ws := (Cond.code yX7_back cX7_back 3 (some .int) :: big)) B.pre
  have C0 : CallFix p m c cX7_back 3 s _ big RX7 := ⟨B.exec, B.bytes, hml, findClass_of_methodNamed B.named, fun w h => hts0 w (List.mem_cons_of_mem _ h)⟩
  have I : mI g s S s.heap [] := ⟨hK, hP, hD, va_S.rf⟩
  have hl := lv_entry ([.ref (g.2.2 0)]) (n := 3) (Nat.le_of_ble_eq_true rfl)
  rw [lg_entry_eq]
  generalize (lg_sl ([.ref (g.2.2 0)]) ++ List.replicate (3 - (lg_sl ([.ref (g.2.2 0)])).length) Slot.unset).toArray = ls at hl ⊢
  have hl : lv_has ls 3 [(0, .ref (g.2.2 0))] := hl
  exact tX7_back_0 C0 B.returns B.notSynchronized hf I (lv_sub hl [0] rfl)
set_option maxHeartbeats 4000000 in
set_option maxRecDepth 100000 in
theorem tX7_toldBy_0 (C0 : CallFix p m c cX7_toldBy 2 s args big RX7) (hr : meth.sig.returnType = (some .int)) (hk : meth.locks = false) {x1 : Int32} {rr : Int32}  (hf : fX7_toldBy S x1 = some rr) (I : mI g s S H locs) (hl : lv_has ls 2 [(0, .ref (g.2.2 0)), (1, .int x1)]) : W p l e ({ frames := 0, cells := 0, slots := 0, locals := 0 } : Room) s m args below meth c H locs 0 0 (MQ below (va_Qi (fun r' S2 => r' = rr ∧ S2 = S) (mB g) (mA g)) args s 0 0 (mA g)) (F0 m 0 ls []) := by
  obtain ⟨hx, hb, hml, -, -⟩ := id C0
  unfold fX7_toldBy at hf
  refine lv_iload_n hx hb dX7_toldBy_0 rfl (lv_at hl 1 rfl) ?_
  refine lv_iconst (v := 3) hx hb dX7_toldBy_1 (by decide) ?_
  refine lv_icmp_ge (tgt := 14) hx hb dX7_toldBy_2 (by decide) (fun c1 => ?_) (fun c1 => ?_)
  · have hf := ip c1 hf
    refine lv_iload_n hx hb dX7_toldBy_14 rfl (lv_at hl 1 rfl) ?_
    refine lv_iconst (v := 3) hx hb dX7_toldBy_15 (by decide) ?_
    refine lv_icmp_ne (tgt := 26) hx hb dX7_toldBy_16 (by decide) (fun c2 => ?_) (fun c2 => ?_)
    · have hf := inn c2 hf
      refine lv_iload_n hx hb dX7_toldBy_26 rfl (lv_at hl 1 rfl) ?_
      refine lv_iconst (v := 4) hx hb dX7_toldBy_27 (by decide) ?_
      refine lv_icmp_ne (tgt := 38) hx hb dX7_toldBy_28 (by decide) (fun c3 => ?_) (fun c3 => ?_)
      · have hf := inn c3 hf
        refine lv_iload_n hx hb dX7_toldBy_38 rfl (lv_at hl 1 rfl) ?_
        refine lv_iconst (v := 5) hx hb dX7_toldBy_39 (by decide) ?_
        refine lv_icmp_ne (tgt := 50) hx hb dX7_toldBy_40 (by decide) (fun c4 => ?_) (fun c4 => ?_)
        · have hf := inn c4 hf
          refine lv_iload_n hx hb dX7_toldBy_50 rfl (lv_at hl 1 rfl) ?_
          refine lv_bipush (v := 8) hx hb dX7_toldBy_51 (by decide) ?_
          refine lv_icmp_ne (tgt := 63) hx hb dX7_toldBy_53 (by decide) (fun c5 => ?_) (fun c5 => ?_)
          · have hf := inn c5 hf
            refine lv_aload_n hx hb dX7_toldBy_63 rfl (lv_at hl 0 rfl) ?_
            refine mg_X7_17_0 C0 I dX7_toldBy_64 ?_
            refine lv_iload_n hx hb dX7_toldBy_67 rfl (lv_at hl 1 rfl) ?_
            refine lv_bipush (v := 6) hx hb dX7_toldBy_68 (by decide) ?_
            refine lv_isub hx hb dX7_toldBy_70 ?_
            obtain ⟨b6, hf⟩ := chk_some hf
            refine ml_2 hx hb I b6 dX7_toldBy_71 ?_
            obtain rfl := se1 hf
            exact mri C0 hr hk I dX7_toldBy_72
          · have hf := ip c5 hf
            refine lv_aload_n hx hb dX7_toldBy_56 rfl (lv_at hl 0 rfl) ?_
            refine mg_X7_79_0 C0 I dX7_toldBy_57 ?_
            refine lv_goto (tgt := 72) hx hb dX7_toldBy_60 (by decide) ?_
            obtain rfl := se1 hf
            exact mri C0 hr hk I dX7_toldBy_72
        · have hf := ip c4 hf
          refine lv_aload_n hx hb dX7_toldBy_43 rfl (lv_at hl 0 rfl) ?_
          refine mg_X7_76_0 C0 I dX7_toldBy_44 ?_
          refine lv_goto (tgt := 72) hx hb dX7_toldBy_47 (by decide) ?_
          obtain rfl := se1 hf
          exact mri C0 hr hk I dX7_toldBy_72
      · have hf := ip c3 hf
        refine lv_aload_n hx hb dX7_toldBy_31 rfl (lv_at hl 0 rfl) ?_
        refine mg_X7_13_0 C0 I dX7_toldBy_32 ?_
        refine lv_goto (tgt := 72) hx hb dX7_toldBy_35 (by decide) ?_
        obtain rfl := se1 hf
        exact mri C0 hr hk I dX7_toldBy_72
    · have hf := ip c2 hf
      refine lv_aload_n hx hb dX7_toldBy_19 rfl (lv_at hl 0 rfl) ?_
      refine mg_X7_227_0 C0 I dX7_toldBy_20 ?_
      refine lv_goto (tgt := 72) hx hb dX7_toldBy_23 (by decide) ?_
      obtain rfl := se1 hf
      exact mri C0 hr hk I dX7_toldBy_72
  · have hf := inn c1 hf
    refine lv_aload_n hx hb dX7_toldBy_5 rfl (lv_at hl 0 rfl) ?_
    refine mg_X7_7_0 C0 I dX7_toldBy_6 ?_
    refine lv_iload_n hx hb dX7_toldBy_9 rfl (lv_at hl 1 rfl) ?_
    obtain ⟨b7, hf⟩ := chk_some hf
    refine ml_1 hx hb I b7 dX7_toldBy_10 ?_
    refine lv_goto (tgt := 72) hx hb dX7_toldBy_11 (by decide) ?_
    obtain rfl := se1 hf
    exact mri C0 hr hk I dX7_toldBy_72
set_option maxRecDepth 100000 in
theorem kX7_toldBy {x1 : Int32} {rr : Int32} (hf : fX7_toldBy S x1 = some rr) : Met l yX7_toldBy (Cond.code yX7_toldBy cX7_toldBy 2 (some .int) :: big) ({ frames := 0, cells := 0, slots := 0, locals := 0 } : Room) (va_Pc [.ref (g.2.2 0), .int x1] (mB g S)) (va_Qi (fun r' S2 => r' = rr ∧ S2 = S) (mB g) (mA g)) 0 0 (mA g) := by
  refine Met.ofW (cc := cX7_toldBy) (maxL := 2) (ret := (some .int)) (by decide) rfl ?_
  intro p e s m args below meth c s₁ B hml hv
  obtain ⟨rfl, hP, hK, hD⟩ := hv
  have hts0 := atoms_spec (ws := (Cond.code yX7_toldBy cX7_toldBy 2 (some .int) :: big)) B.pre
  have C0 : CallFix p m c cX7_toldBy 2 s _ big RX7 := ⟨B.exec, B.bytes, hml, findClass_of_methodNamed B.named, fun w h => hts0 w (List.mem_cons_of_mem _ h)⟩
  have I : mI g s S s.heap [] := ⟨hK, hP, hD, va_S.rf⟩
  have hl := lv_entry ([.ref (g.2.2 0), .int x1]) (n := 2) (Nat.le_of_ble_eq_true rfl)
  rw [lg_entry_eq]
  generalize (lg_sl ([.ref (g.2.2 0), .int x1]) ++ List.replicate (2 - (lg_sl ([.ref (g.2.2 0), .int x1])).length) Slot.unset).toArray = ls at hl ⊢
  have hl : lv_has ls 2 [(0, .ref (g.2.2 0)), (1, .int x1)] := hl
  exact tX7_toldBy_0 C0 B.returns B.notSynchronized hf I (lv_sub hl [0, 1] rfl)
set_option maxHeartbeats 4000000 in
set_option maxRecDepth 100000 in
theorem tX7_told_0 (C0 : CallFix p m c cX7_told 2 s args big RX7) (hr : meth.sig.returnType = (some .int)) (hk : meth.locks = false) {x1 : Int32} {rr : Int32}  (hf : fX7_told S x1 = some (rr, S')) (I : mI g s S H locs) (hl : lv_has ls 2 [(0, .ref (g.2.2 0)), (1, .int x1)]) : W p l e ({ frames := 1, cells := 0, slots := 0, locals := 22 } : Room) s m args below meth c H locs 0 0 (MQ below (va_Qi (fun r' S2 => r' = rr ∧ S2 = S') (mB g) (mA g)) args s 0 0 (mA g)) (F0 m 0 ls []) := by
  obtain ⟨hx, hb, hml, -, -⟩ := id C0
  unfold fX7_told at hf
  refine lv_iload_n hx hb dX7_told_0 rfl (lv_at hl 1 rfl) ?_
  refine lv_iconst (v := 0) hx hb dX7_told_1 (by decide) ?_
  refine lv_bipush (v := 8) hx hb dX7_told_2 (by decide) ?_
  obtain ⟨r1, h1, hf⟩ := bq1_some hf
  refine mcs_i (As := [.int x1, .int (0 : Int32), .int (8 : Int32)]) C0 I (kX7_in h1) (va_cwS 3 C0.2.2.2.2 (gwS wd_702 wd_703 wd_73 wd_704) rfl rfl rfl dsc_X7_in.2 ⟨Nat.le_of_ble_eq_true rfl, Nat.le_of_ble_eq_true rfl⟩) rfl hl.1 rfl (Nat.le_of_ble_eq_true rfl) dX7_told_4 (fun H locs I => ?_)
  refine lv_if_eq (tgt := 18) hx hb dX7_told_7 (by decide) (fun c2 => ?_) (fun c2 => ?_)
  · have hf := ip c2 hf
    refine lv_aload_n hx hb dX7_told_18 rfl (lv_at hl 0 rfl) ?_
    obtain ⟨r3, S3, h3, hf⟩ := bq2_some hf
    refine mcv_i (As := []) C0 I (kX7_bad h3) (cwV 0 C0.2.2.2.2 (gwV wd_705 wd_707 wd_23 wd_73 wd_708) rfl rfl rfl dsc_X7_bad ⟨Nat.le_of_ble_eq_true rfl, Nat.le_of_ble_eq_true rfl⟩) (mo_0 I) rfl hl.1 rfl (Nat.le_of_ble_eq_true rfl) dX7_told_19 (fun H locs I => ?_)
    obtain ⟨rfl, rfl⟩ := se2 hf
    exact mri C0 hr hk I dX7_told_22
  · have hf := inn c2 hf
    refine lv_aload_n hx hb dX7_told_10 rfl (lv_at hl 0 rfl) ?_
    refine lv_iload_n hx hb dX7_told_11 rfl (lv_at hl 1 rfl) ?_
    obtain ⟨r4, h4, hf⟩ := bq1_some hf
    refine mcv_i (As := [.int x1]) C0 I (kX7_toldBy h4) (cwV 1 C0.2.2.2.2 (gwV wd_967 wd_969 wd_64 wd_73 wd_970) rfl rfl rfl dsc_X7_toldBy ⟨Nat.le_of_ble_eq_true rfl, Nat.le_of_ble_eq_true rfl⟩) (mo_0 I) rfl hl.1 rfl (Nat.le_of_ble_eq_true rfl) dX7_told_12 (fun H locs I => ?_)
    refine lv_goto (tgt := 22) hx hb dX7_told_15 (by decide) ?_
    obtain ⟨rfl, rfl⟩ := se2 hf
    exact mri C0 hr hk I dX7_told_22
set_option maxRecDepth 100000 in
theorem kX7_told {x1 : Int32} {rr : Int32} (hf : fX7_told S x1 = some (rr, S')) : Met l yX7_told (Cond.code yX7_told cX7_told 2 (some .int) :: big) ({ frames := 1, cells := 0, slots := 0, locals := 22 } : Room) (va_Pc [.ref (g.2.2 0), .int x1] (mB g S)) (va_Qi (fun r' S2 => r' = rr ∧ S2 = S') (mB g) (mA g)) 0 0 (mA g) := by
  refine Met.ofW (cc := cX7_told) (maxL := 2) (ret := (some .int)) (by decide) rfl ?_
  intro p e s m args below meth c s₁ B hml hv
  obtain ⟨rfl, hP, hK, hD⟩ := hv
  have hts0 := atoms_spec (ws := (Cond.code yX7_told cX7_told 2 (some .int) :: big)) B.pre
  have C0 : CallFix p m c cX7_told 2 s _ big RX7 := ⟨B.exec, B.bytes, hml, findClass_of_methodNamed B.named, fun w h => hts0 w (List.mem_cons_of_mem _ h)⟩
  have I : mI g s S s.heap [] := ⟨hK, hP, hD, va_S.rf⟩
  have hl := lv_entry ([.ref (g.2.2 0), .int x1]) (n := 2) (Nat.le_of_ble_eq_true rfl)
  rw [lg_entry_eq]
  generalize (lg_sl ([.ref (g.2.2 0), .int x1]) ++ List.replicate (2 - (lg_sl ([.ref (g.2.2 0), .int x1])).length) Slot.unset).toArray = ls at hl ⊢
  have hl : lv_has ls 2 [(0, .ref (g.2.2 0)), (1, .int x1)] := hl
  exact tX7_told_0 C0 B.returns B.notSynchronized hf I (lv_sub hl [0, 1] rfl)
set_option maxHeartbeats 4000000 in
set_option maxRecDepth 100000 in
theorem BX7_digest_6 (C0 : CallFix p m c cX7_digest 5 s args big RX7) (hr : meth.sig.returnType = (some .long)) (hk : meth.locks = false) {x1 : Int64} {x3 : Int32} {b : Bool} {y1 : Int64} {y3 : Int32} (Kt : b = true → ∀ (H : Heap) (locs : List Loc) (ls : Array Slot), mI g s S H locs → lv_has ls 5 [(0, .ref (g.2.2 0)), (1, .long y1), (3, .int y3)] → W p l e ({ frames := 5, cells := 0, slots := 0, locals := 120 } : Room) s m args below meth c H locs 0 0 Q (F0 m 6 ls [])) (Kf : b = false → ∀ (H : Heap) (locs : List Loc) (ls : Array Slot), mI g s S H locs → lv_has ls 5 [(0, .ref (g.2.2 0)), (1, .long y1), (3, .int y3)] → W p l e ({ frames := 5, cells := 0, slots := 0, locals := 120 } : Room) s m args below meth c H locs 0 0 Q (F0 m 31 ls [])) (hf : bX7_digest_6 S x1 x3 = some (b, y1, y3)) (I : mI g s S H locs) (hl : lv_has ls 5 [(0, .ref (g.2.2 0)), (1, .long x1), (3, .int x3)]) : W p l e ({ frames := 5, cells := 0, slots := 0, locals := 120 } : Room) s m args below meth c H locs 0 0 Q (F0 m 6 ls []) := by
  obtain ⟨hx, hb, hml, -, -⟩ := id C0
  unfold bX7_digest_6 at hf
  refine lv_iload_n hx hb dX7_digest_6 rfl (lv_at hl 2 rfl) ?_
  refine lv_bipush (v := 9) hx hb dX7_digest_7 (by decide) ?_
  refine lv_icmp_ge (tgt := 31) hx hb dX7_digest_9 (by decide) (fun c1 => ?_) (fun c1 => ?_)
  · have hf := ip c1 hf
    obtain ⟨rfl, rfl, rfl⟩ := se3 hf
    exact Kf rfl _ _ _ I (lv_sub hl [0, 1, 2] rfl)
  · have hf := inn c1 hf
    refine lv_ldc2 (v := 31) hx hb C0.2.2.2.1 (C0.2.2.2.2 _ wd_976) dX7_digest_12 ?_
    refine lv_lload_n hx hb dX7_digest_15 rfl (lv_at hl 1 rfl) ?_
    refine lv_lmul hx hb dX7_digest_16 ?_
    refine lv_aload_n hx hb dX7_digest_17 rfl (lv_at hl 0 rfl) ?_
    refine lv_iload_n hx hb dX7_digest_18 rfl (lv_at hl 2 rfl) ?_
    obtain ⟨r2, h2, hf⟩ := bq1_some hf
    refine mcv_i (As := [.int x3]) C0 I (kX7_toldBy h2) (cwV 1 C0.2.2.2.2 (gwV wd_967 wd_969 wd_64 wd_73 wd_970) rfl rfl rfl dsc_X7_toldBy ⟨Nat.le_of_ble_eq_true rfl, Nat.le_of_ble_eq_true rfl⟩) (mo_0 I) rfl hl.1 rfl (Nat.le_of_ble_eq_true rfl) dX7_digest_19 (fun H locs I => ?_)
    refine lv_i2l hx hb dX7_digest_22 rfl ?_
    refine lv_ladd hx hb dX7_digest_23 ?_
    refine lv_lstore_n (lv' := [(1, .long (((31 : Int64) * x1) + (Int32.toInt64 r2))), (0, .ref (g.2.2 0)), (3, .int x3)]) hx hb dX7_digest_24 rfl hl (by decide) rfl (fun ls hl => ?_)
    refine lv_iinc (v := (x3 + (1 : Int32))) (lv' := [(3, .int (x3 + (1 : Int32))), (1, .long (((31 : Int64) * x1) + (Int32.toInt64 r2))), (0, .ref (g.2.2 0))]) hx hb dX7_digest_25 hl (k := 2) rfl rfl (by decide) rfl (fun ls hl => ?_)
    refine lv_goto (tgt := 6) hx hb dX7_digest_28 (by decide) ?_
    obtain ⟨rfl, rfl, rfl⟩ := se3 hf
    exact Kt rfl _ _ _ I (lv_sub hl [2, 1, 0] rfl)
set_option maxHeartbeats 4000000 in
theorem lX7_digest_6 (C0 : CallFix p m c cX7_digest 5 s args big RX7) (hr : meth.sig.returnType = (some .long)) (hk : meth.locks = false) {S : St}  {y1 : Int64} {y3 : Int32} : ∀ (n : Nat) {x1 : Int64} {x3 : Int32}, lp (fun q => bX7_digest_6 S q.1 q.2) n (x1, x3) = some (y1, y3) → ∀ {H : Heap} {locs : List Loc}, mI g s S H locs → ∀ {ls : Array Slot}, lv_has ls 5 [(0, .ref (g.2.2 0)), (1, .long x1), (3, .int x3)] → (∀ (H : Heap) (locs : List Loc) (ls : Array Slot), mI g s S H locs → lv_has ls 5 [(0, .ref (g.2.2 0)), (1, .long y1), (3, .int y3)] → W p l e ({ frames := 5, cells := 0, slots := 0, locals := 120 } : Room) s m args below meth c H locs 0 0 Q (F0 m 31 ls [])) → W p l e ({ frames := 5, cells := 0, slots := 0, locals := 120 } : Room) s m args below meth c H locs 0 0 Q (F0 m 6 ls []) := by
  intro n
  induction n with
  | zero => intro x1 x3 hf; cases hf
  | succ n ih =>
    intro x1 x3 hf H locs I ls hl K
    obtain ⟨b, ⟨z0, z1⟩, h1, h2, h3⟩ := lp_some hf
    refine BX7_digest_6 C0 hr hk (fun hb1 H locs ls I hl => ?_) (fun hb1 H locs ls I hl => ?_) h1 I hl
    · exact ih (h2 hb1) I hl K
    · have e := h3 hb1
      cases e
      exact K H locs ls I hl
set_option maxHeartbeats 4000000 in
set_option maxRecDepth 100000 in
theorem BX7_digest_44 (C0 : CallFix p m c cX7_digest 5 s args big RX7) (hr : meth.sig.returnType = (some .long)) (hk : meth.locks = false) {x1 : Int64} {x3 : Int32} {x4 : Int32} {b : Bool} {y1 : Int64} {y4 : Int32} (Kt : b = true → ∀ (H : Heap) (locs : List Loc) (ls : Array Slot), mI g s S' H locs → lv_has ls 5 [(0, .ref (g.2.2 0)), (1, .long y1), (3, .int x3), (4, .int y4)] → W p l e ({ frames := 5, cells := 0, slots := 0, locals := 120 } : Room) s m args below meth c H locs 0 0 Q (F0 m 44 ls [])) (Kf : b = false → ∀ (H : Heap) (locs : List Loc) (ls : Array Slot), mI g s S' H locs → lv_has ls 5 [(0, .ref (g.2.2 0)), (1, .long y1), (3, .int x3), (4, .int y4)] → W p l e ({ frames := 5, cells := 0, slots := 0, locals := 120 } : Room) s m args below meth c H locs 0 0 Q (F0 m 72 ls [])) (hf : bX7_digest_44 x3 S x1 x4 = some (b, S', y1, y4)) (I : mI g s S H locs) (hl : lv_has ls 5 [(0, .ref (g.2.2 0)), (1, .long x1), (3, .int x3), (4, .int x4)]) : W p l e ({ frames := 5, cells := 0, slots := 0, locals := 120 } : Room) s m args below meth c H locs 0 0 Q (F0 m 44 ls []) := by
  obtain ⟨hx, hb, hml, -, -⟩ := id C0
  unfold bX7_digest_44 at hf
  refine lv_iload hx hb dX7_digest_44 (lv_at hl 3 rfl) ?_
  refine lv_bipush (v := 6) hx hb dX7_digest_46 (by decide) ?_
  refine lv_icmp_ge (tgt := 72) hx hb dX7_digest_48 (by decide) (fun c5 => ?_) (fun c5 => ?_)
  · have hf := ip c5 hf
    obtain ⟨rfl, rfl, rfl, rfl⟩ := se4 hf
    exact Kf rfl _ _ _ I (lv_sub hl [0, 1, 2, 3] rfl)
  · have hf := inn c5 hf
    refine lv_ldc2 (v := 31) hx hb C0.2.2.2.1 (C0.2.2.2.2 _ wd_976) dX7_digest_51 ?_
    refine lv_lload_n hx hb dX7_digest_54 rfl (lv_at hl 1 rfl) ?_
    refine lv_lmul hx hb dX7_digest_55 ?_
    refine lv_aload_n hx hb dX7_digest_56 rfl (lv_at hl 0 rfl) ?_
    refine lv_iload_n hx hb dX7_digest_57 rfl (lv_at hl 2 rfl) ?_
    refine lv_iload hx hb dX7_digest_58 (lv_at hl 3 rfl) ?_
    obtain ⟨r6, S6, h6, hf⟩ := bq2_some hf
    refine mcv_i (As := [.int x3, .int x4]) C0 I (kX7_ofBy h6) (cwV 2 C0.2.2.2.2 (gwV wd_776 wd_778 wd_32 wd_73 wd_779) rfl rfl rfl dsc_X7_ofBy ⟨Nat.le_of_ble_eq_true rfl, Nat.le_of_ble_eq_true rfl⟩) (mo_0 I) rfl hl.1 rfl (Nat.le_of_ble_eq_true rfl) dX7_digest_60 (fun H locs I => ?_)
    refine lv_i2l hx hb dX7_digest_63 rfl ?_
    refine lv_ladd hx hb dX7_digest_64 ?_
    refine lv_lstore_n (lv' := [(1, .long (((31 : Int64) * x1) + (Int32.toInt64 r6))), (0, .ref (g.2.2 0)), (3, .int x3), (4, .int x4)]) hx hb dX7_digest_65 rfl hl (by decide) rfl (fun ls hl => ?_)
    refine lv_iinc (v := (x4 + (1 : Int32))) (lv' := [(4, .int (x4 + (1 : Int32))), (1, .long (((31 : Int64) * x1) + (Int32.toInt64 r6))), (0, .ref (g.2.2 0)), (3, .int x3)]) hx hb dX7_digest_66 hl (k := 3) rfl rfl (by decide) rfl (fun ls hl => ?_)
    refine lv_goto (tgt := 44) hx hb dX7_digest_69 (by decide) ?_
    obtain ⟨rfl, rfl, rfl, rfl⟩ := se4 hf
    exact Kt rfl _ _ _ I (lv_sub hl [2, 1, 3, 0] rfl)
set_option maxHeartbeats 4000000 in
theorem lX7_digest_44 (C0 : CallFix p m c cX7_digest 5 s args big RX7) (hr : meth.sig.returnType = (some .long)) (hk : meth.locks = false) {x3 : Int32} {S' : St} {y1 : Int64} {y4 : Int32} : ∀ (n : Nat) {S : St} {x1 : Int64} {x4 : Int32}, lp (fun q => bX7_digest_44 x3 q.1 q.2.1 q.2.2) n (S, x1, x4) = some (S', y1, y4) → ∀ {H : Heap} {locs : List Loc}, mI g s S H locs → ∀ {ls : Array Slot}, lv_has ls 5 [(0, .ref (g.2.2 0)), (1, .long x1), (3, .int x3), (4, .int x4)] → (∀ (H : Heap) (locs : List Loc) (ls : Array Slot), mI g s S' H locs → lv_has ls 5 [(0, .ref (g.2.2 0)), (1, .long y1), (3, .int x3), (4, .int y4)] → W p l e ({ frames := 5, cells := 0, slots := 0, locals := 120 } : Room) s m args below meth c H locs 0 0 Q (F0 m 72 ls [])) → W p l e ({ frames := 5, cells := 0, slots := 0, locals := 120 } : Room) s m args below meth c H locs 0 0 Q (F0 m 44 ls []) := by
  intro n
  induction n with
  | zero => intro S x1 x4 hf; cases hf
  | succ n ih =>
    intro S x1 x4 hf H locs I ls hl K
    obtain ⟨b, ⟨z0, z1, z2⟩, h1, h2, h3⟩ := lp_some hf
    refine BX7_digest_44 C0 hr hk (fun hb1 H locs ls I hl => ?_) (fun hb1 H locs ls I hl => ?_) h1 I hl
    · exact ih (h2 hb1) I hl K
    · have e := h3 hb1
      cases e
      exact K H locs ls I hl
set_option maxHeartbeats 4000000 in
set_option maxRecDepth 100000 in
theorem BX7_digest_33 (C0 : CallFix p m c cX7_digest 5 s args big RX7) (hr : meth.sig.returnType = (some .long)) (hk : meth.locks = false) {x1 : Int64} {x3 : Int32} {b : Bool} {y1 : Int64} {y3 : Int32} (Kt : b = true → ∀ (H : Heap) (locs : List Loc) (ls : Array Slot), mI g s S' H locs → lv_has ls 5 [(0, .ref (g.2.2 0)), (1, .long y1), (3, .int y3)] → W p l e ({ frames := 5, cells := 0, slots := 0, locals := 120 } : Room) s m args below meth c H locs 0 0 Q (F0 m 33 ls [])) (Kf : b = false → ∀ (H : Heap) (locs : List Loc) (ls : Array Slot), mI g s S' H locs → lv_has ls 5 [(0, .ref (g.2.2 0)), (1, .long y1), (3, .int y3)] → W p l e ({ frames := 5, cells := 0, slots := 0, locals := 120 } : Room) s m args below meth c H locs 0 0 Q (F0 m 78 ls [])) (hf : bX7_digest_33 S x1 x3 = some (b, S', y1, y3)) (I : mI g s S H locs) (hl : lv_has ls 5 [(0, .ref (g.2.2 0)), (1, .long x1), (3, .int x3)]) : W p l e ({ frames := 5, cells := 0, slots := 0, locals := 120 } : Room) s m args below meth c H locs 0 0 Q (F0 m 33 ls []) := by
  obtain ⟨hx, hb, hml, -, -⟩ := id C0
  unfold bX7_digest_33 at hf
  refine lv_iload_n hx hb dX7_digest_33 rfl (lv_at hl 2 rfl) ?_
  refine lv_aload_n hx hb dX7_digest_34 rfl (lv_at hl 0 rfl) ?_
  refine mg_X7_76_0 C0 I dX7_digest_35 ?_
  refine lv_icmp_ge (tgt := 78) hx hb dX7_digest_38 (by decide) (fun c4 => ?_) (fun c4 => ?_)
  · have hf := ip c4 hf
    obtain ⟨rfl, rfl, rfl, rfl⟩ := se4 hf
    exact Kf rfl _ _ _ I (lv_sub hl [0, 1, 2] rfl)
  · have hf := inn c4 hf
    refine lv_iconst (v := 0) hx hb dX7_digest_41 (by decide) ?_
    refine lv_istore (lv' := [(4, .int (0 : Int32)), (0, .ref (g.2.2 0)), (1, .long x1), (3, .int x3)]) hx hb dX7_digest_42 hl (by decide) rfl (fun ls hl => ?_)
    obtain ⟨S7, y1_7, y4_7, h7, hf⟩ := bq3_some hf
    refine lX7_digest_44 C0 hr hk fu h7 I (lv_sub hl [1, 2, 3, 0] rfl) (fun H locs ls I hl => ?_)
    refine lv_iinc (v := (x3 + (1 : Int32))) (lv' := [(3, .int (x3 + (1 : Int32))), (0, .ref (g.2.2 0)), (1, .long y1_7), (4, .int y4_7)]) hx hb dX7_digest_72 hl (k := 2) rfl rfl (by decide) rfl (fun ls hl => ?_)
    refine lv_goto (tgt := 33) hx hb dX7_digest_75 (by decide) ?_
    obtain ⟨rfl, rfl, rfl, rfl⟩ := se4 hf
    exact Kt rfl _ _ _ I (lv_sub hl [1, 2, 0] rfl)
set_option maxHeartbeats 4000000 in
theorem lX7_digest_33 (C0 : CallFix p m c cX7_digest 5 s args big RX7) (hr : meth.sig.returnType = (some .long)) (hk : meth.locks = false)  {S' : St} {y1 : Int64} {y3 : Int32} : ∀ (n : Nat) {S : St} {x1 : Int64} {x3 : Int32}, lp (fun q => bX7_digest_33 q.1 q.2.1 q.2.2) n (S, x1, x3) = some (S', y1, y3) → ∀ {H : Heap} {locs : List Loc}, mI g s S H locs → ∀ {ls : Array Slot}, lv_has ls 5 [(0, .ref (g.2.2 0)), (1, .long x1), (3, .int x3)] → (∀ (H : Heap) (locs : List Loc) (ls : Array Slot), mI g s S' H locs → lv_has ls 5 [(0, .ref (g.2.2 0)), (1, .long y1), (3, .int y3)] → W p l e ({ frames := 5, cells := 0, slots := 0, locals := 120 } : Room) s m args below meth c H locs 0 0 Q (F0 m 78 ls [])) → W p l e ({ frames := 5, cells := 0, slots := 0, locals := 120 } : Room) s m args below meth c H locs 0 0 Q (F0 m 33 ls []) := by
  intro n
  induction n with
  | zero => intro S x1 x3 hf; cases hf
  | succ n ih =>
    intro S x1 x3 hf H locs I ls hl K
    obtain ⟨b, ⟨z0, z1, z2⟩, h1, h2, h3⟩ := lp_some hf
    refine BX7_digest_33 C0 hr hk (fun hb1 H locs ls I hl => ?_) (fun hb1 H locs ls I hl => ?_) h1 I hl
    · exact ih (h2 hb1) I hl K
    · have e := h3 hb1
      cases e
      exact K H locs ls I hl
set_option maxHeartbeats 4000000 in
set_option maxRecDepth 100000 in
theorem BX7_digest_104 (C0 : CallFix p m c cX7_digest 5 s args big RX7) (hr : meth.sig.returnType = (some .long)) (hk : meth.locks = false) {x1 : Int64} {x3 : Int32} {b : Bool} {y1 : Int64} {y3 : Int32} (Kt : b = true → ∀ (H : Heap) (locs : List Loc) (ls : Array Slot), mI g s S' H locs → lv_has ls 5 [(0, .ref (g.2.2 0)), (1, .long y1), (3, .int y3)] → W p l e ({ frames := 5, cells := 0, slots := 0, locals := 120 } : Room) s m args below meth c H locs 0 0 Q (F0 m 104 ls [])) (Kf : b = false → ∀ (H : Heap) (locs : List Loc) (ls : Array Slot), mI g s S' H locs → lv_has ls 5 [(0, .ref (g.2.2 0)), (1, .long y1), (3, .int y3)] → W p l e ({ frames := 5, cells := 0, slots := 0, locals := 120 } : Room) s m args below meth c H locs 0 0 Q (F0 m 128 ls [])) (hf : bX7_digest_104 S x1 x3 = some (b, S', y1, y3)) (I : mI g s S H locs) (hl : lv_has ls 5 [(0, .ref (g.2.2 0)), (1, .long x1), (3, .int x3)]) : W p l e ({ frames := 5, cells := 0, slots := 0, locals := 120 } : Room) s m args below meth c H locs 0 0 Q (F0 m 104 ls []) := by
  obtain ⟨hx, hb, hml, -, -⟩ := id C0
  unfold bX7_digest_104 at hf
  refine lv_iload_n hx hb dX7_digest_104 rfl (lv_at hl 2 rfl) ?_
  refine lv_iconst (v := 3) hx hb dX7_digest_105 (by decide) ?_
  refine lv_icmp_ge (tgt := 128) hx hb dX7_digest_106 (by decide) (fun c9 => ?_) (fun c9 => ?_)
  · have hf := ip c9 hf
    obtain ⟨rfl, rfl, rfl, rfl⟩ := se4 hf
    exact Kf rfl _ _ _ I (lv_sub hl [0, 1, 2] rfl)
  · have hf := inn c9 hf
    refine lv_ldc2 (v := 31) hx hb C0.2.2.2.1 (C0.2.2.2.2 _ wd_976) dX7_digest_109 ?_
    refine lv_lload_n hx hb dX7_digest_112 rfl (lv_at hl 1 rfl) ?_
    refine lv_lmul hx hb dX7_digest_113 ?_
    refine lv_aload_n hx hb dX7_digest_114 rfl (lv_at hl 0 rfl) ?_
    refine lv_iload_n hx hb dX7_digest_115 rfl (lv_at hl 2 rfl) ?_
    obtain ⟨r10, S10, h10, hf⟩ := bq2_some hf
    refine mcv_i (As := [.int x3]) C0 I (kX7_loadsTell h10) (cwV 1 C0.2.2.2.2 (gwV wd_832 wd_834 wd_43 wd_73 wd_835) rfl rfl rfl dsc_X7_loadsTell ⟨Nat.le_of_ble_eq_true rfl, Nat.le_of_ble_eq_true rfl⟩) (mo_0 I) rfl hl.1 rfl (Nat.le_of_ble_eq_true rfl) dX7_digest_116 (fun H locs I => ?_)
    refine lv_i2l hx hb dX7_digest_119 rfl ?_
    refine lv_ladd hx hb dX7_digest_120 ?_
    refine lv_lstore_n (lv' := [(1, .long (((31 : Int64) * x1) + (Int32.toInt64 r10))), (0, .ref (g.2.2 0)), (3, .int x3)]) hx hb dX7_digest_121 rfl hl (by decide) rfl (fun ls hl => ?_)
    refine lv_iinc (v := (x3 + (1 : Int32))) (lv' := [(3, .int (x3 + (1 : Int32))), (1, .long (((31 : Int64) * x1) + (Int32.toInt64 r10))), (0, .ref (g.2.2 0))]) hx hb dX7_digest_122 hl (k := 2) rfl rfl (by decide) rfl (fun ls hl => ?_)
    refine lv_goto (tgt := 104) hx hb dX7_digest_125 (by decide) ?_
    obtain ⟨rfl, rfl, rfl, rfl⟩ := se4 hf
    exact Kt rfl _ _ _ I (lv_sub hl [2, 1, 0] rfl)
set_option maxHeartbeats 4000000 in
theorem lX7_digest_104 (C0 : CallFix p m c cX7_digest 5 s args big RX7) (hr : meth.sig.returnType = (some .long)) (hk : meth.locks = false)  {S' : St} {y1 : Int64} {y3 : Int32} : ∀ (n : Nat) {S : St} {x1 : Int64} {x3 : Int32}, lp (fun q => bX7_digest_104 q.1 q.2.1 q.2.2) n (S, x1, x3) = some (S', y1, y3) → ∀ {H : Heap} {locs : List Loc}, mI g s S H locs → ∀ {ls : Array Slot}, lv_has ls 5 [(0, .ref (g.2.2 0)), (1, .long x1), (3, .int x3)] → (∀ (H : Heap) (locs : List Loc) (ls : Array Slot), mI g s S' H locs → lv_has ls 5 [(0, .ref (g.2.2 0)), (1, .long y1), (3, .int y3)] → W p l e ({ frames := 5, cells := 0, slots := 0, locals := 120 } : Room) s m args below meth c H locs 0 0 Q (F0 m 128 ls [])) → W p l e ({ frames := 5, cells := 0, slots := 0, locals := 120 } : Room) s m args below meth c H locs 0 0 Q (F0 m 104 ls []) := by
  intro n
  induction n with
  | zero => intro S x1 x3 hf; cases hf
  | succ n ih =>
    intro S x1 x3 hf H locs I ls hl K
    obtain ⟨b, ⟨z0, z1, z2⟩, h1, h2, h3⟩ := lp_some hf
    refine BX7_digest_104 C0 hr hk (fun hb1 H locs ls I hl => ?_) (fun hb1 H locs ls I hl => ?_) h1 I hl
    · exact ih (h2 hb1) I hl K
    · have e := h3 hb1
      cases e
      exact K H locs ls I hl
set_option maxHeartbeats 4000000 in
set_option maxRecDepth 100000 in
theorem BX7_digest_130 (C0 : CallFix p m c cX7_digest 5 s args big RX7) (hr : meth.sig.returnType = (some .long)) (hk : meth.locks = false) {x1 : Int64} {x3 : Int32} {b : Bool} {y1 : Int64} {y3 : Int32} (Kt : b = true → ∀ (H : Heap) (locs : List Loc) (ls : Array Slot), mI g s S' H locs → lv_has ls 5 [(0, .ref (g.2.2 0)), (1, .long y1), (3, .int y3)] → W p l e ({ frames := 5, cells := 0, slots := 0, locals := 120 } : Room) s m args below meth c H locs 0 0 Q (F0 m 130 ls [])) (Kf : b = false → ∀ (H : Heap) (locs : List Loc) (ls : Array Slot), mI g s S' H locs → lv_has ls 5 [(0, .ref (g.2.2 0)), (1, .long y1), (3, .int y3)] → W p l e ({ frames := 5, cells := 0, slots := 0, locals := 120 } : Room) s m args below meth c H locs 0 0 Q (F0 m 154 ls [])) (hf : bX7_digest_130 S x1 x3 = some (b, S', y1, y3)) (I : mI g s S H locs) (hl : lv_has ls 5 [(0, .ref (g.2.2 0)), (1, .long x1), (3, .int x3)]) : W p l e ({ frames := 5, cells := 0, slots := 0, locals := 120 } : Room) s m args below meth c H locs 0 0 Q (F0 m 130 ls []) := by
  obtain ⟨hx, hb, hml, -, -⟩ := id C0
  unfold bX7_digest_130 at hf
  refine lv_iload_n hx hb dX7_digest_130 rfl (lv_at hl 2 rfl) ?_
  refine lv_iconst (v := 3) hx hb dX7_digest_131 (by decide) ?_
  refine lv_icmp_ge (tgt := 154) hx hb dX7_digest_132 (by decide) (fun c12 => ?_) (fun c12 => ?_)
  · have hf := ip c12 hf
    obtain ⟨rfl, rfl, rfl, rfl⟩ := se4 hf
    exact Kf rfl _ _ _ I (lv_sub hl [0, 1, 2] rfl)
  · have hf := inn c12 hf
    refine lv_ldc2 (v := 31) hx hb C0.2.2.2.1 (C0.2.2.2.2 _ wd_976) dX7_digest_135 ?_
    refine lv_lload_n hx hb dX7_digest_138 rfl (lv_at hl 1 rfl) ?_
    refine lv_lmul hx hb dX7_digest_139 ?_
    refine lv_aload_n hx hb dX7_digest_140 rfl (lv_at hl 0 rfl) ?_
    refine lv_iload_n hx hb dX7_digest_141 rfl (lv_at hl 2 rfl) ?_
    obtain ⟨r13, S13, h13, hf⟩ := bq2_some hf
    refine mcv_i (As := [.int x3]) C0 I (kX7_runTells h13) (cwV 1 C0.2.2.2.2 (gwV wd_887 wd_889 wd_51 wd_73 wd_890) rfl rfl rfl dsc_X7_runTells ⟨Nat.le_of_ble_eq_true rfl, Nat.le_of_ble_eq_true rfl⟩) (mo_0 I) rfl hl.1 rfl (Nat.le_of_ble_eq_true rfl) dX7_digest_142 (fun H locs I => ?_)
    refine lv_i2l hx hb dX7_digest_145 rfl ?_
    refine lv_ladd hx hb dX7_digest_146 ?_
    refine lv_lstore_n (lv' := [(1, .long (((31 : Int64) * x1) + (Int32.toInt64 r13))), (0, .ref (g.2.2 0)), (3, .int x3)]) hx hb dX7_digest_147 rfl hl (by decide) rfl (fun ls hl => ?_)
    refine lv_iinc (v := (x3 + (1 : Int32))) (lv' := [(3, .int (x3 + (1 : Int32))), (1, .long (((31 : Int64) * x1) + (Int32.toInt64 r13))), (0, .ref (g.2.2 0))]) hx hb dX7_digest_148 hl (k := 2) rfl rfl (by decide) rfl (fun ls hl => ?_)
    refine lv_goto (tgt := 130) hx hb dX7_digest_151 (by decide) ?_
    obtain ⟨rfl, rfl, rfl, rfl⟩ := se4 hf
    exact Kt rfl _ _ _ I (lv_sub hl [2, 1, 0] rfl)
set_option maxHeartbeats 4000000 in
theorem lX7_digest_130 (C0 : CallFix p m c cX7_digest 5 s args big RX7) (hr : meth.sig.returnType = (some .long)) (hk : meth.locks = false)  {S' : St} {y1 : Int64} {y3 : Int32} : ∀ (n : Nat) {S : St} {x1 : Int64} {x3 : Int32}, lp (fun q => bX7_digest_130 q.1 q.2.1 q.2.2) n (S, x1, x3) = some (S', y1, y3) → ∀ {H : Heap} {locs : List Loc}, mI g s S H locs → ∀ {ls : Array Slot}, lv_has ls 5 [(0, .ref (g.2.2 0)), (1, .long x1), (3, .int x3)] → (∀ (H : Heap) (locs : List Loc) (ls : Array Slot), mI g s S' H locs → lv_has ls 5 [(0, .ref (g.2.2 0)), (1, .long y1), (3, .int y3)] → W p l e ({ frames := 5, cells := 0, slots := 0, locals := 120 } : Room) s m args below meth c H locs 0 0 Q (F0 m 154 ls [])) → W p l e ({ frames := 5, cells := 0, slots := 0, locals := 120 } : Room) s m args below meth c H locs 0 0 Q (F0 m 130 ls []) := by
  intro n
  induction n with
  | zero => intro S x1 x3 hf; cases hf
  | succ n ih =>
    intro S x1 x3 hf H locs I ls hl K
    obtain ⟨b, ⟨z0, z1, z2⟩, h1, h2, h3⟩ := lp_some hf
    refine BX7_digest_130 C0 hr hk (fun hb1 H locs ls I hl => ?_) (fun hb1 H locs ls I hl => ?_) h1 I hl
    · exact ih (h2 hb1) I hl K
    · have e := h3 hb1
      cases e
      exact K H locs ls I hl
set_option maxHeartbeats 4000000 in
set_option maxRecDepth 100000 in
theorem tX7_digest_0 (C0 : CallFix p m c cX7_digest 5 s args big RX7) (hr : meth.sig.returnType = (some .long)) (hk : meth.locks = false)  {rr : Int64}  (hf : fX7_digest S = some (rr, S')) (I : mI g s S H locs) (hl : lv_has ls 5 [(0, .ref (g.2.2 0))]) : W p l e ({ frames := 5, cells := 0, slots := 0, locals := 120 } : Room) s m args below meth c H locs 0 0 (MQ below (va_Ql (fun r' S2 => r' = rr ∧ S2 = S') (mB g) (mA g)) args s 0 0 (mA g)) (F0 m 0 ls []) := by
  obtain ⟨hx, hb, hml, -, -⟩ := id C0
  unfold fX7_digest at hf
  refine lv_ldc2 (v := 2141) hx hb C0.2.2.2.1 (C0.2.2.2.2 _ wd_975) dX7_digest_0 ?_
  refine lv_lstore_n (lv' := [(1, .long (2141 : Int64)), (0, .ref (g.2.2 0))]) hx hb dX7_digest_3 rfl hl (by decide) rfl (fun ls hl => ?_)
  refine lv_iconst (v := 0) hx hb dX7_digest_4 (by decide) ?_
  refine lv_istore_n (lv' := [(3, .int (0 : Int32)), (1, .long (2141 : Int64)), (0, .ref (g.2.2 0))]) hx hb dX7_digest_5 rfl hl (by decide) rfl (fun ls hl => ?_)
  obtain ⟨y1_3, y3_3, h3, hf⟩ := bq2_some hf
  refine lX7_digest_6 C0 hr hk fu h3 I (lv_sub hl [2, 1, 0] rfl) (fun H locs ls I hl => ?_)
  refine lv_iconst (v := 0) hx hb dX7_digest_31 (by decide) ?_
  refine lv_istore_n (lv' := [(3, .int (0 : Int32)), (0, .ref (g.2.2 0)), (1, .long y1_3)]) hx hb dX7_digest_32 rfl hl (by decide) rfl (fun ls hl => ?_)
  obtain ⟨S8, y1_8, y3_8, h8, hf⟩ := bq3_some hf
  refine lX7_digest_33 C0 hr hk fu h8 I (lv_sub hl [1, 2, 0] rfl) (fun H locs ls I hl => ?_)
  refine lv_ldc2 (v := 31) hx hb C0.2.2.2.1 (C0.2.2.2.2 _ wd_976) dX7_digest_78 ?_
  refine lv_lload_n hx hb dX7_digest_81 rfl (lv_at hl 1 rfl) ?_
  refine lv_lmul hx hb dX7_digest_82 ?_
  refine lv_aload_n hx hb dX7_digest_83 rfl (lv_at hl 0 rfl) ?_
  refine mg_X7_179_0 C0 I dX7_digest_84 ?_
  refine lv_i2l hx hb dX7_digest_87 rfl ?_
  refine lv_ladd hx hb dX7_digest_88 ?_
  refine lv_lstore_n (lv' := [(1, .long (((31 : Int64) * y1_8) + (Int32.toInt64 (gF S8 14)))), (0, .ref (g.2.2 0)), (3, .int y3_8)]) hx hb dX7_digest_89 rfl hl (by decide) rfl (fun ls hl => ?_)
  refine lv_ldc2 (v := 31) hx hb C0.2.2.2.1 (C0.2.2.2.2 _ wd_976) dX7_digest_90 ?_
  refine lv_lload_n hx hb dX7_digest_93 rfl (lv_at hl 0 rfl) ?_
  refine lv_lmul hx hb dX7_digest_94 ?_
  refine lv_aload_n hx hb dX7_digest_95 rfl (lv_at hl 1 rfl) ?_
  refine mg_X7_47_0 C0 I dX7_digest_96 ?_
  refine lv_i2l hx hb dX7_digest_99 rfl ?_
  refine lv_ladd hx hb dX7_digest_100 ?_
  refine lv_lstore_n (lv' := [(1, .long (((31 : Int64) * (((31 : Int64) * y1_8) + (Int32.toInt64 (gF S8 14)))) + (Int32.toInt64 (gF S8 15)))), (0, .ref (g.2.2 0)), (3, .int y3_8)]) hx hb dX7_digest_101 rfl hl (by decide) rfl (fun ls hl => ?_)
  refine lv_iconst (v := 0) hx hb dX7_digest_102 (by decide) ?_
  refine lv_istore_n (lv' := [(3, .int (0 : Int32)), (1, .long (((31 : Int64) * (((31 : Int64) * y1_8) + (Int32.toInt64 (gF S8 14)))) + (Int32.toInt64 (gF S8 15)))), (0, .ref (g.2.2 0))]) hx hb dX7_digest_103 rfl hl (by decide) rfl (fun ls hl => ?_)
  obtain ⟨S11, y1_11, y3_11, h11, hf⟩ := bq3_some hf
  refine lX7_digest_104 C0 hr hk fu h11 I (lv_sub hl [2, 1, 0] rfl) (fun H locs ls I hl => ?_)
  refine lv_iconst (v := 0) hx hb dX7_digest_128 (by decide) ?_
  refine lv_istore_n (lv' := [(3, .int (0 : Int32)), (0, .ref (g.2.2 0)), (1, .long y1_11)]) hx hb dX7_digest_129 rfl hl (by decide) rfl (fun ls hl => ?_)
  obtain ⟨S14, y1_14, y3_14, h14, hf⟩ := bq3_some hf
  refine lX7_digest_130 C0 hr hk fu h14 I (lv_sub hl [1, 2, 0] rfl) (fun H locs ls I hl => ?_)
  refine lv_lload_n hx hb dX7_digest_154 rfl (lv_at hl 1 rfl) ?_
  obtain ⟨rfl, rfl⟩ := se2 hf
  exact mrl C0 hr hk I dX7_digest_155
set_option maxRecDepth 100000 in
theorem kX7_digest  {rr : Int64} (hf : fX7_digest S  = some (rr, S')) : Met l yX7_digest (Cond.code yX7_digest cX7_digest 5 (some .long) :: big) ({ frames := 5, cells := 0, slots := 0, locals := 120 } : Room) (va_Pc [.ref (g.2.2 0)] (mB g S)) (va_Ql (fun r' S2 => r' = rr ∧ S2 = S') (mB g) (mA g)) 0 0 (mA g) := by
  refine Met.ofW (cc := cX7_digest) (maxL := 5) (ret := (some .long)) (by decide) rfl ?_
  intro p e s m args below meth c s₁ B hml hv
  obtain ⟨rfl, hP, hK, hD⟩ := hv
  have hts0 := atoms_spec (ws := (Cond.code yX7_digest cX7_digest 5 (some .long) :: big)) B.pre
  have C0 : CallFix p m c cX7_digest 5 s _ big RX7 := ⟨B.exec, B.bytes, hml, findClass_of_methodNamed B.named, fun w h => hts0 w (List.mem_cons_of_mem _ h)⟩
  have I : mI g s S s.heap [] := ⟨hK, hP, hD, va_S.rf⟩
  have hl := lv_entry ([.ref (g.2.2 0)]) (n := 5) (Nat.le_of_ble_eq_true rfl)
  rw [lg_entry_eq]
  generalize (lg_sl ([.ref (g.2.2 0)]) ++ List.replicate (5 - (lg_sl ([.ref (g.2.2 0)])).length) Slot.unset).toArray = ls at hl ⊢
  have hl : lv_has ls 5 [(0, .ref (g.2.2 0))] := hl
  exact tX7_digest_0 C0 B.returns B.notSynchronized hf I (lv_sub hl [0] rfl)
end
