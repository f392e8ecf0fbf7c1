def xW (g : xG) (S : St) : va_W := [(g.2.2 0, .inr (6, [.ref (g.2.2 1), .ref (g.2.2 3), .ref (g.2.2 17), .ref (g.2.2 22), .ref (g.2.2 24), .ref (g.2.2 32), .ref (g.2.2 35), .int (gF S 28), .int (gF S 29)])),
  (g.2.2 1, .inr (3, [.int (gF S 0), .int (gF S 1), .int (gF S 2), .int (gF S 3), .ref (g.2.2 2)])),
  (g.2.2 2, .inl (g.2.1 0, 64, .inl (aR S 0))),
  (g.2.2 3, .inr (0, [.int (gF S 30), .int (gF S 31), .ref (g.2.2 4)])),
  (g.2.2 4, .inl (g.2.1 3, 6, .inr (.inr (.inr (.inr (fun j => some (g.2.2 (5 + 2 * j)))))))),
  (g.2.2 5, .inr (3, [.int (gF S 4), .int (gF S 5), .int (gF S 6), .int (gF S 7), .ref (g.2.2 6)])),
  (g.2.2 6, .inl (g.2.1 0, 64, .inl (aR S 1))),
  (g.2.2 7, .inr (3, [.int (gF S 8), .int (gF S 9), .int (gF S 10), .int (gF S 11), .ref (g.2.2 8)])),
  (g.2.2 8, .inl (g.2.1 0, 64, .inl (aR S 2))),
  (g.2.2 9, .inr (3, [.int (gF S 12), .int (gF S 13), .int (gF S 14), .int (gF S 15), .ref (g.2.2 10)])),
  (g.2.2 10, .inl (g.2.1 0, 64, .inl (aR S 3))),
  (g.2.2 11, .inr (3, [.int (gF S 16), .int (gF S 17), .int (gF S 18), .int (gF S 19), .ref (g.2.2 12)])),
  (g.2.2 12, .inl (g.2.1 0, 64, .inl (aR S 4))),
  (g.2.2 13, .inr (3, [.int (gF S 20), .int (gF S 21), .int (gF S 22), .int (gF S 23), .ref (g.2.2 14)])),
  (g.2.2 14, .inl (g.2.1 0, 64, .inl (aR S 5))),
  (g.2.2 15, .inr (3, [.int (gF S 24), .int (gF S 25), .int (gF S 26), .int (gF S 27), .ref (g.2.2 16)])),
  (g.2.2 16, .inl (g.2.1 0, 64, .inl (aR S 6))),
  (g.2.2 17, .inr (5, [.ref (g.2.2 18), .ref (g.2.2 19), .ref (g.2.2 20), .ref (g.2.2 21)])),
  (g.2.2 18, .inl (g.2.1 0, 16, .inl (aR S 8))),
  (g.2.2 19, .inl (g.2.1 0, 16, .inl (aR S 9))),
  (g.2.2 20, .inl (g.2.1 0, 128, .inl (aR S 10))),
  (g.2.2 21, .inl (g.2.1 2, 16, .inr (.inl (aE S)))),
  (g.2.2 22, .inr (1, [.ref (g.2.2 23)])),
  (g.2.2 23, .inl (g.2.1 0, 64, .inl (aR S 11))),
  (g.2.2 24, .inr (4, [.int (gF S 32), .int (gF S 33), .ref (g.2.2 25), .ref (g.2.2 26), .ref (g.2.2 27), .ref (g.2.2 28), .ref (g.2.2 29), .ref (g.2.2 30), .ref (g.2.2 31)])),
  (g.2.2 25, .inl (g.2.1 0, 16, .inl (aR S 12))),
  (g.2.2 26, .inl (g.2.1 0, 16, .inl (aR S 13))),
  (g.2.2 27, .inl (g.2.1 0, 16, .inl (aR S 14))),
  (g.2.2 28, .inl (g.2.1 0, 16, .inl (aR S 15))),
  (g.2.2 29, .inl (g.2.1 0, 16, .inl (aR S 16))),
  (g.2.2 30, .inl (g.2.1 0, 64, .inl (aR S 17))),
  (g.2.2 31, .inl (g.2.1 0, 64, .inl (aR S 18))),
  (g.2.2 32, .inr (2, [.int (gF S 34), .int (gF S 35), .int (gF S 36), .int (gF S 37), .ref (g.2.2 33), .ref (g.2.2 34)])),
  (g.2.2 33, .inl (g.2.1 1, 120, .inl (aR S 19))),
  (g.2.2 34, .inl (g.2.1 0, 64, .inl (aR S 20))),
  (g.2.2 35, .inl (g.2.1 0, 3, .inl (aR S 7)))]
abbrev xT (g : xG) : List (ClassId × FieldType) := [(g.2.1 0, .int), (g.2.1 1, .byte), (g.2.1 2, .long), (g.2.1 3, .object "CubeLegs$Task")]
def xA (g : xG) : Nat → Prop := fun q => ∃ k, k < 36 ∧ q = g.2.2 k
def xB (g : xG) (S : St) (U : State) : Prop := va_P g.1 vwCl (xW g S) U.heap ∧ va_K g.1 vwCl (xT g) U ∧ va_D (xA g) (xW g S)
def xI (g : xG) (s : State) (S : St) (H : Heap) (locs : List Loc) : Prop := va_K g.1 vwCl (xT g) s ∧ va_P g.1 vwCl (xW g S) H ∧ va_D (xA g) (xW g S) ∧ va_S (xA g) s.heap H locs
theorem x_blind {av : List Value} {S : St} {g : xG} : FrameBlind (va_Pc av (xB g S)) := fun a U f mk q => ⟨q.1, q.2.1, va_K.moved (u := U) (U := U.calling f mk a) (Vm.Alike.refl U.vm) q.2.2.1, q.2.2.2⟩
section
variable {p : Program} {l : Launch} {e : Env} {R : Room} {s : State} {m : MethodId} {args : Array Value} {below : List Frame} {meth : Method} {c : Code} {cells slots : Nat} {Q : State → Prop} {g : xG} {H : Heap} {locs : List Loc} {ls : Array Slot} {S S' : St} {cc : ByteArray} {nL pc : Nat} {rest : List Value}
theorem xcv_i {rr : Int32} {own C : String} {index n maxL : Nat} {y : MethodName} {bytes : ByteArray} {ret : Option FieldType} {rm : Room} {b : Nat} {As st0 : List Value} (C0 : CallFix p m c cc nL s args big own) (I : xI g s S H locs) (hM : Met l y (Cond.code y bytes maxL ret :: big) rm (va_Pc (.ref b :: As) (xB g S)) (va_Qi (fun r' S2 => r' = rr ∧ S2 = S') (xB g) (xA g)) 0 0 (xA g)) (cw : CallW R s args own C index y bytes maxL ret (Cond.code y bytes maxL ret :: big) rm 0 0 n) (hrc : ∃ cell : Cell, H[b]? = some cell ∧ cell.vm.isStatics = false ∧ s.vm.findClass C = some cell.cls) (hn : As.length = n) (hsz : ls.size = nL) (hst : st0 = As.reverse ++ .ref b :: rest) (hW : (rest.map fun v => v.category).sum ≤ 8) (hd : decode cc pc = .ok (.invokevirtual index, 3)) (k : ∀ (H1 : Heap) (locs1 : List Loc), xI g s S' H1 locs1 → W p l e R s m args below meth c H1 locs1 cells slots Q (F0 m (pc + 3) ls (.int rr :: rest))) (hce : cells ≤ R.cells := by exact Nat.zero_le _) (hsl : slots ≤ R.slots := by exact Nat.zero_le _) : W p l e R s m args below meth c H locs cells slots Q (F0 m pc ls st0) := by
  subst hst
  refine va_calli (va_runV (As := As) (rest := rest) C0 hM cw ⟨x_blind, hrc, fun U hU hW => ⟨rfl, by rw [hU]; exact I.2.1, va_K.moved hW.alike I.1, I.2.2.1⟩⟩ rfl hn hsz rfl (lv_room hW) hd ⟨hce, hsl⟩) I.2.2.2 (fun q _ h => h) (fun q h => h) (fun r u t H1 locs ht hvm hw hB hz1 hk1 hS => ?_)
  obtain ⟨rfl, rfl⟩ := hw
  exact k H1 locs ⟨I.1, by rw [← ht]; exact hB.1, hB.2.2, hS⟩
theorem xcs_i {rr : Int32} {own : String} {index n maxL : Nat} {y : MethodName} {bytes : ByteArray} {ret : Option FieldType} {rm : Room} {As st0 : List Value} (C0 : CallFix p m c cc nL s args big own) (I : xI g s S H locs) (hM : Met l y (Cond.code y bytes maxL ret :: big) rm (va_Pc As (xB g S)) (va_Qi (fun r' S2 => r' = rr ∧ S2 = S') (xB g) (xA g)) 0 0 (xA g)) (cw : CallB R s args own index y bytes maxL ret (Cond.code y bytes maxL ret :: big) rm 0 0 n ∧ (Cond.static y).before args s = true) (hn : As.length = n) (hsz : ls.size = nL) (hst : st0 = As.reverse ++ rest) (hW : (rest.map fun v => v.category).sum ≤ 8) (hd : decode cc pc = .ok (.invokestatic index, 3)) (k : ∀ (H1 : Heap) (locs1 : List Loc), xI g s S' H1 locs1 → W p l e R s m args below meth c H1 locs1 cells slots Q (F0 m (pc + 3) ls (.int rr :: rest))) (hce : cells ≤ R.cells := by exact Nat.zero_le _) (hsl : slots ≤ R.slots := by exact Nat.zero_le _) : W p l e R s m args below meth c H locs cells slots Q (F0 m pc ls st0) := by
  subst hst
  refine va_calli (va_runS (As := As) (rest := rest) C0 hM cw ⟨x_blind, fun U hU hW => ⟨rfl, by rw [hU]; exact I.2.1, va_K.moved hW.alike I.1, I.2.2.1⟩⟩ rfl hn hsz rfl (lv_room hW) hd ⟨hce, hsl⟩) I.2.2.2 (fun q _ h => h) (fun q h => h) (fun r u t H1 locs ht hvm hw hB hz1 hk1 hS => ?_)
  obtain ⟨rfl, rfl⟩ := hw
  exact k H1 locs ⟨I.1, by rw [← ht]; exact hB.1, hB.2.2, hS⟩
theorem xcv_l {rr : Int64} {own C : String} {index n maxL : Nat} {y : MethodName} {bytes : ByteArray} {ret : Option FieldType} {rm : Room} {b : Nat} {As st0 : List Value} (C0 : CallFix p m c cc nL s args big own) (I : xI g s S H locs) (hM : Met l y (Cond.code y bytes maxL ret :: big) rm (va_Pc (.ref b :: As) (xB g S)) (va_Ql (fun r' S2 => r' = rr ∧ S2 = S') (xB g) (xA g)) 0 0 (xA g)) (cw : CallW R s args own C index y bytes maxL ret (Cond.code y bytes maxL ret :: big) rm 0 0 n) (hrc : ∃ cell : Cell, H[b]? = some cell ∧ cell.vm.isStatics = false ∧ s.vm.findClass C = some cell.cls) (hn : As.length = n) (hsz : ls.size = nL) (hst : st0 = As.reverse ++ .ref b :: rest) (hW : (rest.map fun v => v.category).sum ≤ 8) (hd : decode cc pc = .ok (.invokevirtual index, 3)) (k : ∀ (H1 : Heap) (locs1 : List Loc), xI g s S' H1 locs1 → W p l e R s m args below meth c H1 locs1 cells slots Q (F0 m (pc + 3) ls (.long rr :: rest))) (hce : cells ≤ R.cells := by exact Nat.zero_le _) (hsl : slots ≤ R.slots := by exact Nat.zero_le _) : W p l e R s m args below meth c H locs cells slots Q (F0 m pc ls st0) := by
  subst hst
  refine va_calll (va_runV (As := As) (rest := rest) C0 hM cw ⟨x_blind, hrc, fun U hU hW => ⟨rfl, by rw [hU]; exact I.2.1, va_K.moved hW.alike I.1, I.2.2.1⟩⟩ rfl hn hsz rfl (lv_room hW) hd ⟨hce, hsl⟩) I.2.2.2 (fun q _ h => h) (fun q h => h) (fun r u t H1 locs ht hvm hw hB hz1 hk1 hS => ?_)
  obtain ⟨rfl, rfl⟩ := hw
  exact k H1 locs ⟨I.1, by rw [← ht]; exact hB.1, hB.2.2, hS⟩
theorem xcs_l {rr : Int64} {own : String} {index n maxL : Nat} {y : MethodName} {bytes : ByteArray} {ret : Option FieldType} {rm : Room} {As st0 : List Value} (C0 : CallFix p m c cc nL s args big own) (I : xI g s S H locs) (hM : Met l y (Cond.code y bytes maxL ret :: big) rm (va_Pc As (xB g S)) (va_Ql (fun r' S2 => r' = rr ∧ S2 = S') (xB g) (xA g)) 0 0 (xA g)) (cw : CallB R s args own index y bytes maxL ret (Cond.code y bytes maxL ret :: big) rm 0 0 n ∧ (Cond.static y).before args s = true) (hn : As.length = n) (hsz : ls.size = nL) (hst : st0 = As.reverse ++ rest) (hW : (rest.map fun v => v.category).sum ≤ 8) (hd : decode cc pc = .ok (.invokestatic index, 3)) (k : ∀ (H1 : Heap) (locs1 : List Loc), xI g s S' H1 locs1 → W p l e R s m args below meth c H1 locs1 cells slots Q (F0 m (pc + 3) ls (.long rr :: rest))) (hce : cells ≤ R.cells := by exact Nat.zero_le _) (hsl : slots ≤ R.slots := by exact Nat.zero_le _) : W p l e R s m args below meth c H locs cells slots Q (F0 m pc ls st0) := by
  subst hst
  refine va_calll (va_runS (As := As) (rest := rest) C0 hM cw ⟨x_blind, fun U hU hW => ⟨rfl, by rw [hU]; exact I.2.1, va_K.moved hW.alike I.1, I.2.2.1⟩⟩ rfl hn hsz rfl (lv_room hW) hd ⟨hce, hsl⟩) I.2.2.2 (fun q _ h => h) (fun q h => h) (fun r u t H1 locs ht hvm hw hB hz1 hk1 hS => ?_)
  obtain ⟨rfl, rfl⟩ := hw
  exact k H1 locs ⟨I.1, by rw [← ht]; exact hB.1, hB.2.2, hS⟩
theorem xcv_v  {own C : String} {index n maxL : Nat} {y : MethodName} {bytes : ByteArray} {ret : Option FieldType} {rm : Room} {b : Nat} {As st0 : List Value} (C0 : CallFix p m c cc nL s args big own) (I : xI g s S H locs) (hM : Met l y (Cond.code y bytes maxL ret :: big) rm (va_Pc (.ref b :: As) (xB g S)) (va_Qv (fun S2 => S2 = S') (xB g) (xA g)) 0 0 (xA g)) (cw : CallW R s args own C index y bytes maxL ret (Cond.code y bytes maxL ret :: big) rm 0 0 n) (hrc : ∃ cell : Cell, H[b]? = some cell ∧ cell.vm.isStatics = false ∧ s.vm.findClass C = some cell.cls) (hn : As.length = n) (hsz : ls.size = nL) (hst : st0 = As.reverse ++ .ref b :: rest) (hW : (rest.map fun v => v.category).sum ≤ 8) (hd : decode cc pc = .ok (.invokevirtual index, 3)) (k : ∀ (H1 : Heap) (locs1 : List Loc), xI g s S' H1 locs1 → W p l e R s m args below meth c H1 locs1 cells slots Q (F0 m (pc + 3) ls (rest))) (hce : cells ≤ R.cells := by exact Nat.zero_le _) (hsl : slots ≤ R.slots := by exact Nat.zero_le _) : W p l e R s m args below meth c H locs cells slots Q (F0 m pc ls st0) := by
  subst hst
  refine va_callv (va_runV (As := As) (rest := rest) C0 hM cw ⟨x_blind, hrc, fun U hU hW => ⟨rfl, by rw [hU]; exact I.2.1, va_K.moved hW.alike I.1, I.2.2.1⟩⟩ rfl hn hsz rfl (lv_room hW) hd ⟨hce, hsl⟩) I.2.2.2 (fun q _ h => h) (fun q h => h) (fun u t H1 locs ht hvm hw hB hz1 hk1 hS => ?_)
  subst hw
  exact k H1 locs ⟨I.1, by rw [← ht]; exact hB.1, hB.2.2, hS⟩
theorem xcs_v  {own : String} {index n maxL : Nat} {y : MethodName} {bytes : ByteArray} {ret : Option FieldType} {rm : Room} {As st0 : List Value} (C0 : CallFix p m c cc nL s args big own) (I : xI g s S H locs) (hM : Met l y (Cond.code y bytes maxL ret :: big) rm (va_Pc As (xB g S)) (va_Qv (fun S2 => S2 = S') (xB g) (xA g)) 0 0 (xA g)) (cw : CallB R s args own index y bytes maxL ret (Cond.code y bytes maxL ret :: big) rm 0 0 n ∧ (Cond.static y).before args s = true) (hn : As.length = n) (hsz : ls.size = nL) (hst : st0 = As.reverse ++ rest) (hW : (rest.map fun v => v.category).sum ≤ 8) (hd : decode cc pc = .ok (.invokestatic index, 3)) (k : ∀ (H1 : Heap) (locs1 : List Loc), xI g s S' H1 locs1 → W p l e R s m args below meth c H1 locs1 cells slots Q (F0 m (pc + 3) ls (rest))) (hce : cells ≤ R.cells := by exact Nat.zero_le _) (hsl : slots ≤ R.slots := by exact Nat.zero_le _) : W p l e R s m args below meth c H locs cells slots Q (F0 m pc ls st0) := by
  subst hst
  refine va_callv (va_runS (As := As) (rest := rest) C0 hM cw ⟨x_blind, fun U hU hW => ⟨rfl, by rw [hU]; exact I.2.1, va_K.moved hW.alike I.1, I.2.2.1⟩⟩ rfl hn hsz rfl (lv_room hW) hd ⟨hce, hsl⟩) I.2.2.2 (fun q _ h => h) (fun q h => h) (fun u t H1 locs ht hvm hw hB hz1 hk1 hS => ?_)
  subst hw
  exact k H1 locs ⟨I.1, by rw [← ht]; exact hB.1, hB.2.2, hS⟩
theorem xri {own : String} {rr : Int32} (C0 : CallFix p m c cc nL s args big own) (hr : meth.sig.returnType = some .int) (hk : meth.locks = false) (I : xI g s S H locs) (hd : decode cc pc = .ok (.ireturn, 1)) : W p l e R s m args below meth c H locs 0 0 (MQ below (va_Qi (fun r' S2 => r' = rr ∧ S2 = S) (xB g) (xA g)) args s 0 0 (xA g)) (F0 m pc ls [.int rr]) :=
  W.iret (v := rr) C0.1 C0.2.1 hr (fun t ht hW => ⟨⟨rr, S, rfl, ⟨rfl, rfl⟩, by rw [ht]; exact I.2.1, va_K.moved hW.alike I.1, I.2.2.1⟩, I.2.2.2.F ht⟩) I.2.2.2.2.2 hd hk
theorem xrz {own : String} {rr : Int32} (C0 : CallFix p m c cc nL s args big own) (hr : meth.sig.returnType = some .boolean) (hk : meth.locks = false) (hz : narrow .boolean (.int rr) = .int rr) (I : xI g s S H locs) (hd : decode cc pc = .ok (.ireturn, 1)) : W p l e R s m args below meth c H locs 0 0 (MQ below (va_Qi (fun r' S2 => r' = rr ∧ S2 = S) (xB g) (xA g)) args s 0 0 (xA g)) (F0 m pc ls [.int rr]) :=
  W.zret (v := rr) C0.1 C0.2.1 hr hz (fun t ht hW => ⟨⟨rr, S, rfl, ⟨rfl, rfl⟩, by rw [ht]; exact I.2.1, va_K.moved hW.alike I.1, I.2.2.1⟩, I.2.2.2.F ht⟩) I.2.2.2.2.2 hd hk
theorem xrl {own : String} {rr : Int64} (C0 : CallFix p m c cc nL s args big own) (hr : meth.sig.returnType = some .long) (hk : meth.locks = false) (I : xI g s S H locs) (hd : decode cc pc = .ok (.lreturn, 1)) : W p l e R s m args below meth c H locs 0 0 (MQ below (va_Ql (fun r' S2 => r' = rr ∧ S2 = S) (xB g) (xA g)) args s 0 0 (xA g)) (F0 m pc ls [.long rr]) :=
  W.lret (v := rr) C0.1 C0.2.1 hr (fun t ht hW => ⟨⟨rr, S, rfl, ⟨rfl, rfl⟩, by rw [ht]; exact I.2.1, va_K.moved hW.alike I.1, I.2.2.1⟩, I.2.2.2.F ht⟩) I.2.2.2.2.2 hd hk
theorem xrv {own : String} (C0 : CallFix p m c cc nL s args big own) (hr : meth.sig.returnType = none) (hk : meth.locks = false) (I : xI g s S H locs) (hd : decode cc pc = .ok (.return_, 1)) : W p l e R s m args below meth c H locs 0 0 (MQ below (va_Qv (fun S2 => S2 = S) (xB g) (xA g)) args s 0 0 (xA g)) (F0 m pc ls []) :=
  W.vret C0.1 C0.2.1 hr (fun t ht hW => ⟨⟨S, rfl, rfl, by rw [ht]; exact I.2.1, va_K.moved hW.alike I.1, I.2.2.1⟩, I.2.2.2.F ht⟩) I.2.2.2.2.2 hd hk
theorem xa {i : Int32} {j : Nat} (hx : p.tables.exec = Jvm.exec) (hb : c.code = cc) (I : xI g s S H locs) (hi : vp_in i 6) (he : i.toNatClampNeg = j) (hd : decode cc pc = .ok (.aaload, 1)) (k : W p l e R s m args below meth c H locs cells slots Q (F0 m (pc + 1) ls (.ref (g.2.2 (5 + 2 * j)) :: rest))) : W p l e R s m args below meth c H locs cells slots Q (F0 m pc ls (.int i :: .ref (g.2.2 4) :: rest)) := by
  subst he
  exact va_aldq (f := fun j => some (g.2.2 (5 + 2 * j))) hx hb I.1 I.2.1 4 3 rfl rfl hi hd k
end
def mW (g : xG) (S : St) : va_W := [(g.2.2 0, .inr (7, [.ref (g.2.2 1), .int (gF S 1), .int (gF S 2), .ref (g.2.2 2), .ref (g.2.2 3), .ref (g.2.2 4), .ref (g.2.2 5), .ref (g.2.2 6), .int (gF S 8), .ref (g.2.2 7), .ref (g.2.2 8), .ref (g.2.2 9), .ref (g.2.2 10), .ref (g.2.2 11), .int (gF S 14), .int (gF S 15), .ref (g.2.2 12), .ref (g.2.2 13), .ref (g.2.2 14), .ref (g.2.2 15), .int (gF S 20), .int (gF S 21), .ref (g.2.2 16), .ref (g.2.2 17), .int (gF S 24), .int (gF S 25), .int (gF S 26), .int (gF S 27), .int (gF S 28)])),
  (g.2.2 1, .inl (g.2.1 0, 3, .inl (aR S 0))),
  (g.2.2 2, .inl (g.2.1 0, 2, .inl (aR S 1))),
  (g.2.2 3, .inl (g.2.1 0, 16, .inl (aR S 2))),
  (g.2.2 4, .inl (g.2.1 0, 16, .inl (aR S 3))),
  (g.2.2 5, .inl (g.2.1 0, 16, .inl (aR S 4))),
  (g.2.2 6, .inl (g.2.1 0, 16, .inl (aR S 5))),
  (g.2.2 7, .inl (g.2.1 0, 408, .inl (aR S 6))),
  (g.2.2 8, .inl (g.2.1 0, 16, .inl (aR S 7))),
  (g.2.2 9, .inl (g.2.1 0, 16, .inl (aR S 8))),
  (g.2.2 10, .inl (g.2.1 0, 144, .inl (aR S 9))),
  (g.2.2 11, .inl (g.2.1 0, 64, .inl (aR S 10))),
  (g.2.2 12, .inl (g.2.1 0, 16, .inl (aR S 11))),
  (g.2.2 13, .inl (g.2.1 0, 16, .inl (aR S 12))),
  (g.2.2 14, .inl (g.2.1 0, 16, .inl (aR S 13))),
  (g.2.2 15, .inl (g.2.1 0, 16, .inl (aR S 14))),
  (g.2.2 16, .inl (g.2.1 0, 16, .inl (aR S 15))),
  (g.2.2 17, .inl (g.2.1 0, 120, .inl (aR S 16)))]
abbrev mT (g : xG) : List (ClassId × FieldType) := [(g.2.1 0, .int)]
def mA (g : xG) : Nat → Prop := fun q => ∃ k, k < 18 ∧ q = g.2.2 k
def mB (g : xG) (S : St) (U : State) : Prop := va_P g.1 vwCl (mW g S) U.heap ∧ va_K g.1 vwCl (mT g) U ∧ va_D (mA g) (mW g S)
def mI (g : xG) (s : State) (S : St) (H : Heap) (locs : List Loc) : Prop := va_K g.1 vwCl (mT g) s ∧ va_P g.1 vwCl (mW g S) H ∧ va_D (mA g) (mW g S) ∧ va_S (mA g) s.heap H locs
theorem m_blind {av : List Value} {S : St} {g : xG} : FrameBlind (va_Pc av (mB g S)) := fun a U f mk q => ⟨q.1, q.2.1, va_K.moved (u := U) (U := U.calling f mk a) (Vm.Alike.refl U.vm) q.2.2.1, q.2.2.2⟩
section
variable {p : Program} {l : Launch} {e : Env} {R : Room} {s : State} {m : MethodId} {args : Array Value} {below : List Frame} {meth : Method} {c : Code} {cells slots : Nat} {Q : State → Prop} {g : xG} {H : Heap} {locs : List Loc} {ls : Array Slot} {S S' : St} {cc : ByteArray} {nL pc : Nat} {rest : List Value}
theorem mcv_i {rr : Int32} {own C : String} {index n maxL : Nat} {y : MethodName} {bytes : ByteArray} {ret : Option FieldType} {rm : Room} {b : Nat} {As st0 : List Value} (C0 : CallFix p m c cc nL s args big own) (I : mI g s S H locs) (hM : Met l y (Cond.code y bytes maxL ret :: big) rm (va_Pc (.ref b :: As) (mB g S)) (va_Qi (fun r' S2 => r' = rr ∧ S2 = S') (mB g) (mA g)) 0 0 (mA g)) (cw : CallW R s args own C index y bytes maxL ret (Cond.code y bytes maxL ret :: big) rm 0 0 n) (hrc : ∃ cell : Cell, H[b]? = some cell ∧ cell.vm.isStatics = false ∧ s.vm.findClass C = some cell.cls) (hn : As.length = n) (hsz : ls.size = nL) (hst : st0 = As.reverse ++ .ref b :: rest) (hW : (rest.map fun v => v.category).sum ≤ 8) (hd : decode cc pc = .ok (.invokevirtual index, 3)) (k : ∀ (H1 : Heap) (locs1 : List Loc), mI g s S' H1 locs1 → W p l e R s m args below meth c H1 locs1 cells slots Q (F0 m (pc + 3) ls (.int rr :: rest))) (hce : cells ≤ R.cells := by exact Nat.zero_le _) (hsl : slots ≤ R.slots := by exact Nat.zero_le _) : W p l e R s m args below meth c H locs cells slots Q (F0 m pc ls st0) := by
  subst hst
  refine va_calli (va_runV (As := As) (rest := rest) C0 hM cw ⟨m_blind, hrc, fun U hU hW => ⟨rfl, by rw [hU]; exact I.2.1, va_K.moved hW.alike I.1, I.2.2.1⟩⟩ rfl hn hsz rfl (lv_room hW) hd ⟨hce, hsl⟩) I.2.2.2 (fun q _ h => h) (fun q h => h) (fun r u t H1 locs ht hvm hw hB hz1 hk1 hS => ?_)
  obtain ⟨rfl, rfl⟩ := hw
  exact k H1 locs ⟨I.1, by rw [← ht]; exact hB.1, hB.2.2, hS⟩
theorem mcs_i {rr : Int32} {own : String} {index n maxL : Nat} {y : MethodName} {bytes : ByteArray} {ret : Option FieldType} {rm : Room} {As st0 : List Value} (C0 : CallFix p m c cc nL s args big own) (I : mI g s S H locs) (hM : Met l y (Cond.code y bytes maxL ret :: big) rm (va_Pc As (mB g S)) (va_Qi (fun r' S2 => r' = rr ∧ S2 = S') (mB g) (mA g)) 0 0 (mA g)) (cw : CallB R s args own index y bytes maxL ret (Cond.code y bytes maxL ret :: big) rm 0 0 n ∧ (Cond.static y).before args s = true) (hn : As.length = n) (hsz : ls.size = nL) (hst : st0 = As.reverse ++ rest) (hW : (rest.map fun v => v.category).sum ≤ 8) (hd : decode cc pc = .ok (.invokestatic index, 3)) (k : ∀ (H1 : Heap) (locs1 : List Loc), mI g s S' H1 locs1 → W p l e R s m args below meth c H1 locs1 cells slots Q (F0 m (pc + 3) ls (.int rr :: rest))) (hce : cells ≤ R.cells := by exact Nat.zero_le _) (hsl : slots ≤ R.slots := by exact Nat.zero_le _) : W p l e R s m args below meth c H locs cells slots Q (F0 m pc ls st0) := by
  subst hst
  refine va_calli (va_runS (As := As) (rest := rest) C0 hM cw ⟨m_blind, fun U hU hW => ⟨rfl, by rw [hU]; exact I.2.1, va_K.moved hW.alike I.1, I.2.2.1⟩⟩ rfl hn hsz rfl (lv_room hW) hd ⟨hce, hsl⟩) I.2.2.2 (fun q _ h => h) (fun q h => h) (fun r u t H1 locs ht hvm hw hB hz1 hk1 hS => ?_)
  obtain ⟨rfl, rfl⟩ := hw
  exact k H1 locs ⟨I.1, by rw [← ht]; exact hB.1, hB.2.2, hS⟩
theorem mcv_l {rr : Int64} {own C : String} {index n maxL : Nat} {y : MethodName} {bytes : ByteArray} {ret : Option FieldType} {rm : Room} {b : Nat} {As st0 : List Value} (C0 : CallFix p m c cc nL s args big own) (I : mI g s S H locs) (hM : Met l y (Cond.code y bytes maxL ret :: big) rm (va_Pc (.ref b :: As) (mB g S)) (va_Ql (fun r' S2 => r' = rr ∧ S2 = S') (mB g) (mA g)) 0 0 (mA g)) (cw : CallW R s args own C index y bytes maxL ret (Cond.code y bytes maxL ret :: big) rm 0 0 n) (hrc : ∃ cell : Cell, H[b]? = some cell ∧ cell.vm.isStatics = false ∧ s.vm.findClass C = some cell.cls) (hn : As.length = n) (hsz : ls.size = nL) (hst : st0 = As.reverse ++ .ref b :: rest) (hW : (rest.map fun v => v.category).sum ≤ 8) (hd : decode cc pc = .ok (.invokevirtual index, 3)) (k : ∀ (H1 : Heap) (locs1 : List Loc), mI g s S' H1 locs1 → W p l e R s m args below meth c H1 locs1 cells slots Q (F0 m (pc + 3) ls (.long rr :: rest))) (hce : cells ≤ R.cells := by exact Nat.zero_le _) (hsl : slots ≤ R.slots := by exact Nat.zero_le _) : W p l e R s m args below meth c H locs cells slots Q (F0 m pc ls st0) := by
  subst hst
  refine va_calll (va_runV (As := As) (rest := rest) C0 hM cw ⟨m_blind, hrc, fun U hU hW => ⟨rfl, by rw [hU]; exact I.2.1, va_K.moved hW.alike I.1, I.2.2.1⟩⟩ rfl hn hsz rfl (lv_room hW) hd ⟨hce, hsl⟩) I.2.2.2 (fun q _ h => h) (fun q h => h) (fun r u t H1 locs ht hvm hw hB hz1 hk1 hS => ?_)
  obtain ⟨rfl, rfl⟩ := hw
  exact k H1 locs ⟨I.1, by rw [← ht]; exact hB.1, hB.2.2, hS⟩
theorem mcs_l {rr : Int64} {own : String} {index n maxL : Nat} {y : MethodName} {bytes : ByteArray} {ret : Option FieldType} {rm : Room} {As st0 : List Value} (C0 : CallFix p m c cc nL s args big own) (I : mI g s S H locs) (hM : Met l y (Cond.code y bytes maxL ret :: big) rm (va_Pc As (mB g S)) (va_Ql (fun r' S2 => r' = rr ∧ S2 = S') (mB g) (mA g)) 0 0 (mA g)) (cw : CallB R s args own index y bytes maxL ret (Cond.code y bytes maxL ret :: big) rm 0 0 n ∧ (Cond.static y).before args s = true) (hn : As.length = n) (hsz : ls.size = nL) (hst : st0 = As.reverse ++ rest) (hW : (rest.map fun v => v.category).sum ≤ 8) (hd : decode cc pc = .ok (.invokestatic index, 3)) (k : ∀ (H1 : Heap) (locs1 : List Loc), mI g s S' H1 locs1 → W p l e R s m args below meth c H1 locs1 cells slots Q (F0 m (pc + 3) ls (.long rr :: rest))) (hce : cells ≤ R.cells := by exact Nat.zero_le _) (hsl : slots ≤ R.slots := by exact Nat.zero_le _) : W p l e R s m args below meth c H locs cells slots Q (F0 m pc ls st0) := by
  subst hst
  refine va_calll (va_runS (As := As) (rest := rest) C0 hM cw ⟨m_blind, fun U hU hW => ⟨rfl, by rw [hU]; exact I.2.1, va_K.moved hW.alike I.1, I.2.2.1⟩⟩ rfl hn hsz rfl (lv_room hW) hd ⟨hce, hsl⟩) I.2.2.2 (fun q _ h => h) (fun q h => h) (fun r u t H1 locs ht hvm hw hB hz1 hk1 hS => ?_)
  obtain ⟨rfl, rfl⟩ := hw
  exact k H1 locs ⟨I.1, by rw [← ht]; exact hB.1, hB.2.2, hS⟩
theorem mcv_v  {own C : String} {index n maxL : Nat} {y : MethodName} {bytes : ByteArray} {ret : Option FieldType} {rm : Room} {b : Nat} {As st0 : List Value} (C0 : CallFix p m c cc nL s args big own) (I : mI g s S H locs) (hM : Met l y (Cond.code y bytes maxL ret :: big) rm (va_Pc (.ref b :: As) (mB g S)) (va_Qv (fun S2 => S2 = S') (mB g) (mA g)) 0 0 (mA g)) (cw : CallW R s args own C index y bytes maxL ret (Cond.code y bytes maxL ret :: big) rm 0 0 n) (hrc : ∃ cell : Cell, H[b]? = some cell ∧ cell.vm.isStatics = false ∧ s.vm.findClass C = some cell.cls) (hn : As.length = n) (hsz : ls.size = nL) (hst : st0 = As.reverse ++ .ref b :: rest) (hW : (rest.map fun v => v.category).sum ≤ 8) (hd : decode cc pc = .ok (.invokevirtual index, 3)) (k : ∀ (H1 : Heap) (locs1 : List Loc), mI g s S' H1 locs1 → W p l e R s m args below meth c H1 locs1 cells slots Q (F0 m (pc + 3) ls (rest))) (hce : cells ≤ R.cells := by exact Nat.zero_le _) (hsl : slots ≤ R.slots := by exact Nat.zero_le _) : W p l e R s m args below meth c H locs cells slots Q (F0 m pc ls st0) := by
  subst hst
  refine va_callv (va_runV (As := As) (rest := rest) C0 hM cw ⟨m_blind, hrc, fun U hU hW => ⟨rfl, by rw [hU]; exact I.2.1, va_K.moved hW.alike I.1, I.2.2.1⟩⟩ rfl hn hsz rfl (lv_room hW) hd ⟨hce, hsl⟩) I.2.2.2 (fun q _ h => h) (fun q h => h) (fun u t H1 locs ht hvm hw hB hz1 hk1 hS => ?_)
  subst hw
  exact k H1 locs ⟨I.1, by rw [← ht]; exact hB.1, hB.2.2, hS⟩
theorem mcs_v  {own : String} {index n maxL : Nat} {y : MethodName} {bytes : ByteArray} {ret : Option FieldType} {rm : Room} {As st0 : List Value} (C0 : CallFix p m c cc nL s args big own) (I : mI g s S H locs) (hM : Met l y (Cond.code y bytes maxL ret :: big) rm (va_Pc As (mB g S)) (va_Qv (fun S2 => S2 = S') (mB g) (mA g)) 0 0 (mA g)) (cw : CallB R s args own index y bytes maxL ret (Cond.code y bytes maxL ret :: big) rm 0 0 n ∧ (Cond.static y).before args s = true) (hn : As.length = n) (hsz : ls.size = nL) (hst : st0 = As.reverse ++ rest) (hW : (rest.map fun v => v.category).sum ≤ 8) (hd : decode cc pc = .ok (.invokestatic index, 3)) (k : ∀ (H1 : Heap) (locs1 : List Loc), mI g s S' H1 locs1 → W p l e R s m args below meth c H1 locs1 cells slots Q (F0 m (pc + 3) ls (rest))) (hce : cells ≤ R.cells := by exact Nat.zero_le _) (hsl : slots ≤ R.slots := by exact Nat.zero_le _) : W p l e R s m args below meth c H locs cells slots Q (F0 m pc ls st0) := by
  subst hst
  refine va_callv (va_runS (As := As) (rest := rest) C0 hM cw ⟨m_blind, fun U hU hW => ⟨rfl, by rw [hU]; exact I.2.1, va_K.moved hW.alike I.1, I.2.2.1⟩⟩ rfl hn hsz rfl (lv_room hW) hd ⟨hce, hsl⟩) I.2.2.2 (fun q _ h => h) (fun q h => h) (fun u t H1 locs ht hvm hw hB hz1 hk1 hS => ?_)
  subst hw
  exact k H1 locs ⟨I.1, by rw [← ht]; exact hB.1, hB.2.2, hS⟩
theorem mri {own : String} {rr : Int32} (C0 : CallFix p m c cc nL s args big own) (hr : meth.sig.returnType = some .int) (hk : meth.locks = false) (I : mI g s S H locs) (hd : decode cc pc = .ok (.ireturn, 1)) : W p l e R s m args below meth c H locs 0 0 (MQ below (va_Qi (fun r' S2 => r' = rr ∧ S2 = S) (mB g) (mA g)) args s 0 0 (mA g)) (F0 m pc ls [.int rr]) :=
  W.iret (v := rr) C0.1 C0.2.1 hr (fun t ht hW => ⟨⟨rr, S, rfl, ⟨rfl, rfl⟩, by rw [ht]; exact I.2.1, va_K.moved hW.alike I.1, I.2.2.1⟩, I.2.2.2.F ht⟩) I.2.2.2.2.2 hd hk
theorem mrz {own : String} {rr : Int32} (C0 : CallFix p m c cc nL s args big own) (hr : meth.sig.returnType = some .boolean) (hk : meth.locks = false) (hz : narrow .boolean (.int rr) = .int rr) (I : mI g s S H locs) (hd : decode cc pc = .ok (.ireturn, 1)) : W p l e R s m args below meth c H locs 0 0 (MQ below (va_Qi (fun r' S2 => r' = rr ∧ S2 = S) (mB g) (mA g)) args s 0 0 (mA g)) (F0 m pc ls [.int rr]) :=
  W.zret (v := rr) C0.1 C0.2.1 hr hz (fun t ht hW => ⟨⟨rr, S, rfl, ⟨rfl, rfl⟩, by rw [ht]; exact I.2.1, va_K.moved hW.alike I.1, I.2.2.1⟩, I.2.2.2.F ht⟩) I.2.2.2.2.2 hd hk
theorem mrl {own : String} {rr : Int64} (C0 : CallFix p m c cc nL s args big own) (hr : meth.sig.returnType = some .long) (hk : meth.locks = false) (I : mI g s S H locs) (hd : decode cc pc = .ok (.lreturn, 1)) : W p l e R s m args below meth c H locs 0 0 (MQ below (va_Ql (fun r' S2 => r' = rr ∧ S2 = S) (mB g) (mA g)) args s 0 0 (mA g)) (F0 m pc ls [.long rr]) :=
  W.lret (v := rr) C0.1 C0.2.1 hr (fun t ht hW => ⟨⟨rr, S, rfl, ⟨rfl, rfl⟩, by rw [ht]; exact I.2.1, va_K.moved hW.alike I.1, I.2.2.1⟩, I.2.2.2.F ht⟩) I.2.2.2.2.2 hd hk
theorem mrv {own : String} (C0 : CallFix p m c cc nL s args big own) (hr : meth.sig.returnType = none) (hk : meth.locks = false) (I : mI g s S H locs) (hd : decode cc pc = .ok (.return_, 1)) : W p l e R s m args below meth c H locs 0 0 (MQ below (va_Qv (fun S2 => S2 = S) (mB g) (mA g)) args s 0 0 (mA g)) (F0 m pc ls []) :=
  W.vret C0.1 C0.2.1 hr (fun t ht hW => ⟨⟨S, rfl, rfl, by rw [ht]; exact I.2.1, va_K.moved hW.alike I.1, I.2.2.1⟩, I.2.2.2.F ht⟩) I.2.2.2.2.2 hd hk
end
