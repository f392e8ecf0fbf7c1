/-! The law: each of its calls by the two contracts, over a relation of the two states that every call keeps. -/
def Ops (Sim : St → St → Prop) : Prop :=
  (∀ (X M : St) (v1 : Int32), Sim X M → ∃ (r : Int32) (X2 M2 : St), fX6_sides X v1 = some (r, X2) ∧ fX7_sides M v1 = some (r, M2) ∧ Sim X2 M2) ∧
  (∀ (X M : St) (v1 v2 v3 v4 : Int32), Sim X M → ∃ (r : Int32) (X2 M2 : St), fX6_parcel X v1 v2 v3 v4 = some (r, X2) ∧ fX7_parcel M v1 v2 v3 v4 = some (r, M2) ∧ Sim X2 M2) ∧
  (∀ (X M : St) (v1 v2 v3 : Int32), Sim X M → ∃ (r : Int32) (X2 M2 : St), fX6_sets X v1 v2 v3 = some (r, X2) ∧ fX7_sets M v1 v2 v3 = some (r, M2) ∧ Sim X2 M2) ∧
  (∀ (X M : St) (v1 v2 : Int32), Sim X M → ∃ (r : Int32) (X2 M2 : St), fX6_rules X v1 v2 = some (r, X2) ∧ fX7_rules M v1 v2 = some (r, M2) ∧ Sim X2 M2) ∧
  (∀ (X M : St), Sim X M → ∃ (r : Int32) (X2 M2 : St), fX6_empties X  = some (r, X2) ∧ fX7_empties M  = some (r, M2) ∧ Sim X2 M2) ∧
  (∀ (X M : St) (v1 v2 : Int32), Sim X M → ∃ (r : Int32) (X2 M2 : St), fX6_fills X v1 v2 = some (r, X2) ∧ fX7_fills M v1 v2 = some (r, M2) ∧ Sim X2 M2) ∧
  (∀ (X M : St) (v1 v2 : Int32), Sim X M → ∃ (r : Int32) (X2 M2 : St), fX6_of X v1 v2 = some (r, X2) ∧ fX7_of M v1 v2 = some (r, M2) ∧ Sim X2 M2) ∧
  (∀ (X M : St) (v1 v2 : Int32), Sim X M → ∃ (r : Int32) (X2 M2 : St), fX6_step X v1 v2 = some (r, X2) ∧ fX7_step M v1 v2 = some (r, M2) ∧ Sim X2 M2) ∧
  (∀ (X M : St) (v1 v2 : Int32), Sim X M → ∃ (r : Int32) (X2 M2 : St), fX6_load X v1 v2 = some (r, X2) ∧ fX7_load M v1 v2 = some (r, M2) ∧ Sim X2 M2) ∧
  (∀ (X M : St) (v1 : Int32), Sim X M → ∃ (r : Int32) (X2 M2 : St), fX6_loads X v1 = some (r, X2) ∧ fX7_loads M v1 = some (r, M2) ∧ Sim X2 M2) ∧
  (∀ (X M : St) (v1 v2 v3 : Int32), Sim X M → ∃ (r : Int32) (X2 M2 : St), fX6_expected X v1 v2 v3 = some (r, X2) ∧ fX7_expected M v1 v2 v3 = some (r, M2) ∧ Sim X2 M2) ∧
  (∀ (X M : St) (v1 : Int32), Sim X M → ∃ (r : Int32) (X2 M2 : St), fX6_part X v1 = some (r, X2) ∧ fX7_part M v1 = some (r, M2) ∧ Sim X2 M2) ∧
  (∀ (X M : St), Sim X M → ∃ (r : Int32) (X2 M2 : St), fX6_greatest X  = some (r, X2) ∧ fX7_greatest M  = some (r, M2) ∧ Sim X2 M2) ∧
  (∀ (X M : St), Sim X M → ∃ (r : Int32) (X2 M2 : St), fX6_chooses X  = some (r, X2) ∧ fX7_chooses M  = some (r, M2) ∧ Sim X2 M2) ∧
  (∀ (X M : St) (v1 : Int32), Sim X M → ∃ (r : Int32) (X2 M2 : St), fX6_run X v1 = some (r, X2) ∧ fX7_run M v1 = some (r, M2) ∧ Sim X2 M2) ∧
  (∀ (X M : St) (v1 v2 v3 : Int32), Sim X M → ∃ (r : Int32) (X2 M2 : St), fX6_ran X v1 v2 v3 = some (r, X2) ∧ fX7_ran M v1 v2 v3 = some (r, M2) ∧ Sim X2 M2) ∧
  (∀ (X M : St) (v1 : Int32), Sim X M → ∃ (r : Int32) (X2 M2 : St), fX6_best X v1 = some (r, X2) ∧ fX7_best M v1 = some (r, M2) ∧ Sim X2 M2) ∧
  (∀ (X M : St), Sim X M → ∃ (r : Int32) (X2 M2 : St), fX6_straight X  = some (r, X2) ∧ fX7_straight M  = some (r, M2) ∧ Sim X2 M2) ∧
  (∀ (X M : St) (v1 : Int32), Sim X M → ∃ (r : Int32) (X2 M2 : St), fX6_type X v1 = some (r, X2) ∧ fX7_type M v1 = some (r, M2) ∧ Sim X2 M2) ∧
  (∀ (X M : St), Sim X M → ∃ (r : Int32) (X2 M2 : St), fX6_clear X  = some (r, X2) ∧ fX7_clear M  = some (r, M2) ∧ Sim X2 M2) ∧
  (∀ (X M : St), Sim X M → ∃ (r : Int32) (X2 M2 : St), fX6_reads X  = some (r, X2) ∧ fX7_reads M  = some (r, M2) ∧ Sim X2 M2) ∧
  (∀ (X M : St), Sim X M → ∃ (r : Int32) (X2 M2 : St), fX6_back X  = some (r, X2) ∧ fX7_back M  = some (r, M2) ∧ Sim X2 M2) ∧
  (∀ (X M : St) (v1 : Int32), Sim X M → ∃ (r : Int32) (X2 M2 : St), fX6_told X v1 = some (r, X2) ∧ fX7_told M v1 = some (r, M2) ∧ Sim X2 M2) ∧
  (∀ (X M : St), Sim X M → ∃ (r : Int64) (X2 M2 : St), fX6_digest X  = some (r, X2) ∧ fX7_digest M  = some (r, M2) ∧ Sim X2 M2)
def lA (s : State) : Nat → Prop := fun q => s.heap.size ≤ q
def lJ (D : va_G) (cs : Nat → ClassId) (ux um : Nat → Nat) (s : State) (X M : St) (H : Heap) (locs : List Loc) : Prop := va_K D vwCl (iT cs) s ∧ va_P D vwCl (xW (D, cs, ux) X ++ mW (D, cs, um) M) H ∧ va_D (lA s) (xW (D, cs, ux) X ++ mW (D, cs, um) M) ∧ va_S (lA s) s.heap H locs
theorem va_P_l {D : va_G} {cl : List vw_C} {w1 w2 : va_W} {H : Heap} (h : va_P D cl (w1 ++ w2) H) : va_P D cl w1 H := fun k q hk => h k q (by rw [List.getElem?_append_left (List.getElem?_eq_some_iff.mp hk).1]; exact hk)
theorem va_P_r {D : va_G} {cl : List vw_C} {w1 w2 : va_W} {H : Heap} (h : va_P D cl (w1 ++ w2) H) : va_P D cl w2 H := fun k q hk => h (w1.length + k) q (by rw [List.getElem?_append_right (Nat.le_add_right _ _), Nat.add_sub_cancel_left]; exact hk)
theorem va_D_l {A : Nat → Prop} {w1 w2 : va_W} (h : va_D A (w1 ++ w2)) : va_D A w1 := by
  have e : ∀ (k : Nat) (q : Nat × va_E), w1[k]? = some q → (w1 ++ w2)[k]? = some q := fun k q hk => by rw [List.getElem?_append_left (List.getElem?_eq_some_iff.mp hk).1]; exact hk
  exact ⟨fun i j p q hi hj hpq => h.1 i j p q (e i p hi) (e j q hj) hpq, fun k q hk => h.2 k q (e k q hk)⟩
theorem va_D_r {A : Nat → Prop} {w1 w2 : va_W} (h : va_D A (w1 ++ w2)) : va_D A w2 := by
  have e : ∀ (k : Nat) (q : Nat × va_E), w2[k]? = some q → (w1 ++ w2)[w1.length + k]? = some q := fun k q hk => by rw [List.getElem?_append_right (Nat.le_add_right _ _), Nat.add_sub_cancel_left]; exact hk
  exact ⟨fun i j p q hi hj hpq => by have := h.1 _ _ p q (e i p hi) (e j q hj) hpq; omega, fun k q hk => h.2 _ q (e k q hk)⟩
theorem va_D_x {A : Nat → Prop} {w1 w2 : va_W} (h : va_D A (w1 ++ w2)) : ∀ (i j : Nat) (p q : Nat × va_E), w1[i]? = some p → w2[j]? = some q → p.1 ≠ q.1 := by
  intro i j p q hi hj hpq
  have hl := (List.getElem?_eq_some_iff.mp hi).1
  have := h.1 i (w1.length + j) p q (by rw [List.getElem?_append_left hl]; exact hi) (by rw [List.getElem?_append_right (Nat.le_add_right _ _), Nat.add_sub_cancel_left]; exact hj) hpq
  omega
theorem va_at_map {w1 w2 : va_W} (e : w1.map Prod.fst = w2.map Prod.fst) {k : Nat} {q : Nat × va_E} (h : w1[k]? = some q) : ∃ q2, w2[k]? = some q2 ∧ q2.1 = q.1 := by
  have h1 : (w1.map Prod.fst)[k]? = some q.1 := by rw [List.getElem?_map, h]; rfl
  rw [e, List.getElem?_map] at h1
  cases h2 : w2[k]? with
  | none => rw [h2] at h1; cases h1
  | some q2 => rw [h2] at h1; exact ⟨q2, rfl, Option.some.inj h1⟩
theorem va_D_map {A : Nat → Prop} {w1 w2 : va_W} (e : w1.map Prod.fst = w2.map Prod.fst) (h : va_D A w2) : va_D A w1 := by
  refine ⟨fun i j p q hi hj hpq => ?_, fun k q hk => ?_⟩
  · obtain ⟨p2, h1, h2⟩ := va_at_map e hi
    obtain ⟨q2, h3, h4⟩ := va_at_map e hj
    exact h.1 i j p2 q2 h1 h3 (h2.trans (hpq.trans h4.symm))
  · obtain ⟨q2, h1, h2⟩ := va_at_map e hk
    rw [← h2]
    exact h.2 k q2 h1
theorem xW_fst (g : xG) (S S2 : St) : (xW g S).map Prod.fst = (xW g S2).map Prod.fst := rfl
theorem xW_rng (g : xG) (S : St) : (xW g S).map Prod.fst = (List.range 36).map g.2.2 := rfl
theorem xA_at {g : xG} {S : St} {q : Nat} (h : xA g q) : ∃ (k : Nat) (e : va_E), (xW g S)[k]? = some (q, e) := by
  obtain ⟨k, hk, rfl⟩ := h
  have h1 : ((xW g S).map Prod.fst)[k]? = some (g.2.2 k) := by rw [xW_rng, List.getElem?_map, List.getElem?_range hk]; rfl
  rw [List.getElem?_map] at h1
  cases h2 : (xW g S)[k]? with
  | none => rw [h2] at h1; cases h1
  | some q2 =>
    rw [h2] at h1
    have e1 : q2.1 = g.2.2 k := Option.some.inj h1
    exact ⟨k, q2.2, by rw [h2, ← e1]⟩
theorem xA_of {g : xG} {S : St} {k : Nat} {q : Nat × va_E} (h : (xW g S)[k]? = some q) : xA g q.1 := by
  have hl : k < (xW g S).length := (List.getElem?_eq_some_iff.mp h).1
  have h1 : ((xW g S).map Prod.fst)[k]? = some q.1 := by rw [List.getElem?_map, h]; rfl
  have hk : k < 36 := hl
  rw [xW_rng, List.getElem?_map, List.getElem?_range hk] at h1
  exact ⟨k, hk, (Option.some.inj h1).symm⟩
theorem mW_fst (g : xG) (S S2 : St) : (mW g S).map Prod.fst = (mW g S2).map Prod.fst := rfl
theorem mW_rng (g : xG) (S : St) : (mW g S).map Prod.fst = (List.range 18).map g.2.2 := rfl
theorem mA_at {g : xG} {S : St} {q : Nat} (h : mA g q) : ∃ (k : Nat) (e : va_E), (mW g S)[k]? = some (q, e) := by
  obtain ⟨k, hk, rfl⟩ := h
  have h1 : ((mW g S).map Prod.fst)[k]? = some (g.2.2 k) := by rw [mW_rng, List.getElem?_map, List.getElem?_range hk]; rfl
  rw [List.getElem?_map] at h1
  cases h2 : (mW g S)[k]? with
  | none => rw [h2] at h1; cases h1
  | some q2 =>
    rw [h2] at h1
    have e1 : q2.1 = g.2.2 k := Option.some.inj h1
    exact ⟨k, q2.2, by rw [h2, ← e1]⟩
theorem mA_of {g : xG} {S : St} {k : Nat} {q : Nat × va_E} (h : (mW g S)[k]? = some q) : mA g q.1 := by
  have hl : k < (mW g S).length := (List.getElem?_eq_some_iff.mp h).1
  have h1 : ((mW g S).map Prod.fst)[k]? = some q.1 := by rw [List.getElem?_map, h]; rfl
  have hk : k < 18 := hl
  rw [mW_rng, List.getElem?_map, List.getElem?_range hk] at h1
  exact ⟨k, hk, (Option.some.inj h1).symm⟩
section
variable {p : Program} {l : Launch} {e : Env} {R : Room} {s : State} {m : MethodId} {args : Array Value} {below : List Frame} {meth : Method} {c : Code} {cells slots : Nat} {Q : State → Prop} {D : va_G} {cs : Nat → ClassId} {ux um : Nat → Nat} {H : Heap} {locs : List Loc} {ls : Array Slot} {X M S2 : St} {cc : ByteArray} {nL pc : Nat} {rest : List Value}
theorem law_cx_i {rr : Int32} {own : String} {index n maxL : Nat} {y : MethodName} {bytes : ByteArray} {ret : Option FieldType} {rm : Room} {As st0 : List Value} (C0 : CallFix p m c cc nL s args big own) (J : lJ D cs ux um s X M H locs) (hM : Met l y (Cond.code y bytes maxL ret :: big) rm (va_Pc (.ref (ux 0) :: As) (xB (D, cs, ux) X)) (va_Qi (fun r1 S3 => r1 = rr ∧ S3 = S2) (xB (D, cs, ux)) (xA (D, cs, ux))) 0 0 (xA (D, cs, ux))) (cw : CallW R s args own RX6 index y bytes maxL ret (Cond.code y bytes maxL ret :: big) rm 0 0 n) (hn : As.length = n) (hsz : ls.size = nL) (hst : st0 = As.reverse ++ .ref (ux 0) :: rest) (hW : (rest.map fun v => v.category).sum ≤ 8) (hd : decode cc pc = .ok (.invokevirtual index, 3)) (hce : cells ≤ R.cells) (hsl : slots ≤ R.slots) (k : ∀ (H1 : Heap) (locs1 : List Loc), lJ D cs ux um s S2 M H1 locs1 → W p l e R s m args below meth c H1 locs1 cells slots Q (F0 m (pc + 3) ls (.int rr :: rest))) : W p l e R s m args below meth c H locs cells slots Q (F0 m pc ls st0) := by
  subst hst
  have hPs := va_P_l J.2.1
  have hDs : va_D (xA (D, cs, ux)) (xW (D, cs, ux) X) := (va_D_l J.2.2.1).weaken (fun k q hk _ => xA_of hk)
  have hAs : ∀ q, xA (D, cs, ux) q → lA s q := fun q h => by
    obtain ⟨k, e1, h1⟩ := xA_at (S := X) h
    exact (va_D_l J.2.2.1).2 k _ h1
  have hKs : va_K D vwCl (xT (D, cs, ux)) s := J.1
  refine va_calli (va_runV (As := As) (rest := rest) C0 hM cw ⟨x_blind, va_recv hKs hPs (ci := 6) (q0 := 0) rfl rfl, fun U hU hW => ⟨rfl, by rw [hU]; exact hPs, va_K.moved hW.alike hKs, hDs⟩⟩ rfl hn hsz rfl (lv_room hW) hd ⟨hce, hsl⟩) J.2.2.2 (fun q _ h => hAs q h) hAs (fun r u t H1 locs ht hvm hw hB hz1 hk1 hS => ?_)
  obtain ⟨rfl, rfl⟩ := hw
  refine k H1 locs ⟨J.1, ?_, ?_, hS⟩
  · refine va_P.app (by rw [← ht]; exact hB.1) ((va_P_r J.2.1).kept (fun k q hk => hk1 q.1 ((va_P_r J.2.1 k q hk).lt) (fun h => ?_)))
    obtain ⟨k2, e2, h2⟩ := xA_at (S := X) h
    exact va_D_x J.2.2.1 k2 k _ q h2 hk rfl
  · exact va_D_map (by rw [List.map_append, List.map_append, xW_fst _ _ X]) J.2.2.1
theorem law_cx_l {rr : Int64} {own : String} {index n maxL : Nat} {y : MethodName} {bytes : ByteArray} {ret : Option FieldType} {rm : Room} {As st0 : List Value} (C0 : CallFix p m c cc nL s args big own) (J : lJ D cs ux um s X M H locs) (hM : Met l y (Cond.code y bytes maxL ret :: big) rm (va_Pc (.ref (ux 0) :: As) (xB (D, cs, ux) X)) (va_Ql (fun r1 S3 => r1 = rr ∧ S3 = S2) (xB (D, cs, ux)) (xA (D, cs, ux))) 0 0 (xA (D, cs, ux))) (cw : CallW R s args own RX6 index y bytes maxL ret (Cond.code y bytes maxL ret :: big) rm 0 0 n) (hn : As.length = n) (hsz : ls.size = nL) (hst : st0 = As.reverse ++ .ref (ux 0) :: rest) (hW : (rest.map fun v => v.category).sum ≤ 8) (hd : decode cc pc = .ok (.invokevirtual index, 3)) (hce : cells ≤ R.cells) (hsl : slots ≤ R.slots) (k : ∀ (H1 : Heap) (locs1 : List Loc), lJ D cs ux um s S2 M H1 locs1 → W p l e R s m args below meth c H1 locs1 cells slots Q (F0 m (pc + 3) ls (.long rr :: rest))) : W p l e R s m args below meth c H locs cells slots Q (F0 m pc ls st0) := by
  subst hst
  have hPs := va_P_l J.2.1
  have hDs : va_D (xA (D, cs, ux)) (xW (D, cs, ux) X) := (va_D_l J.2.2.1).weaken (fun k q hk _ => xA_of hk)
  have hAs : ∀ q, xA (D, cs, ux) q → lA s q := fun q h => by
    obtain ⟨k, e1, h1⟩ := xA_at (S := X) h
    exact (va_D_l J.2.2.1).2 k _ h1
  have hKs : va_K D vwCl (xT (D, cs, ux)) s := J.1
  refine va_calll (va_runV (As := As) (rest := rest) C0 hM cw ⟨x_blind, va_recv hKs hPs (ci := 6) (q0 := 0) rfl rfl, fun U hU hW => ⟨rfl, by rw [hU]; exact hPs, va_K.moved hW.alike hKs, hDs⟩⟩ rfl hn hsz rfl (lv_room hW) hd ⟨hce, hsl⟩) J.2.2.2 (fun q _ h => hAs q h) hAs (fun r u t H1 locs ht hvm hw hB hz1 hk1 hS => ?_)
  obtain ⟨rfl, rfl⟩ := hw
  refine k H1 locs ⟨J.1, ?_, ?_, hS⟩
  · refine va_P.app (by rw [← ht]; exact hB.1) ((va_P_r J.2.1).kept (fun k q hk => hk1 q.1 ((va_P_r J.2.1 k q hk).lt) (fun h => ?_)))
    obtain ⟨k2, e2, h2⟩ := xA_at (S := X) h
    exact va_D_x J.2.2.1 k2 k _ q h2 hk rfl
  · exact va_D_map (by rw [List.map_append, List.map_append, xW_fst _ _ X]) J.2.2.1
theorem law_cm_i {rr : Int32} {own : String} {index n maxL : Nat} {y : MethodName} {bytes : ByteArray} {ret : Option FieldType} {rm : Room} {As st0 : List Value} (C0 : CallFix p m c cc nL s args big own) (J : lJ D cs ux um s X M H locs) (hM : Met l y (Cond.code y bytes maxL ret :: big) rm (va_Pc (.ref (um 0) :: As) (mB (D, cs, um) M)) (va_Qi (fun r1 S3 => r1 = rr ∧ S3 = S2) (mB (D, cs, um)) (mA (D, cs, um))) 0 0 (mA (D, cs, um))) (cw : CallW R s args own RX7 index y bytes maxL ret (Cond.code y bytes maxL ret :: big) rm 0 0 n) (hn : As.length = n) (hsz : ls.size = nL) (hst : st0 = As.reverse ++ .ref (um 0) :: rest) (hW : (rest.map fun v => v.category).sum ≤ 8) (hd : decode cc pc = .ok (.invokevirtual index, 3)) (hce : cells ≤ R.cells) (hsl : slots ≤ R.slots) (k : ∀ (H1 : Heap) (locs1 : List Loc), lJ D cs ux um s X S2 H1 locs1 → W p l e R s m args below meth c H1 locs1 cells slots Q (F0 m (pc + 3) ls (.int rr :: rest))) : W p l e R s m args below meth c H locs cells slots Q (F0 m pc ls st0) := by
  subst hst
  have hPs := va_P_r J.2.1
  have hDs : va_D (mA (D, cs, um)) (mW (D, cs, um) M) := (va_D_r J.2.2.1).weaken (fun k q hk _ => mA_of hk)
  have hAs : ∀ q, mA (D, cs, um) q → lA s q := fun q h => by
    obtain ⟨k, e1, h1⟩ := mA_at (S := M) h
    exact (va_D_r J.2.2.1).2 k _ h1
  have hKs : va_K D vwCl (mT (D, cs, um)) s := (J.1.sub (tys' := mT (D, cs, um)) [0] rfl)
  refine va_calli (va_runV (As := As) (rest := rest) C0 hM cw ⟨m_blind, va_recv hKs hPs (ci := 7) (q0 := 0) rfl rfl, fun U hU hW => ⟨rfl, by rw [hU]; exact hPs, va_K.moved hW.alike hKs, hDs⟩⟩ rfl hn hsz rfl (lv_room hW) hd ⟨hce, hsl⟩) J.2.2.2 (fun q _ h => hAs q h) hAs (fun r u t H1 locs ht hvm hw hB hz1 hk1 hS => ?_)
  obtain ⟨rfl, rfl⟩ := hw
  refine k H1 locs ⟨J.1, ?_, ?_, hS⟩
  · refine va_P.app ((va_P_l J.2.1).kept (fun k q hk => hk1 q.1 ((va_P_l J.2.1 k q hk).lt) (fun h => ?_))) (by rw [← ht]; exact hB.1)
    obtain ⟨k2, e2, h2⟩ := mA_at (S := M) h
    exact va_D_x J.2.2.1 k k2 q _ hk h2 rfl
  · exact va_D_map (by rw [List.map_append, List.map_append, mW_fst _ _ M]) J.2.2.1
theorem law_cm_l {rr : Int64} {own : String} {index n maxL : Nat} {y : MethodName} {bytes : ByteArray} {ret : Option FieldType} {rm : Room} {As st0 : List Value} (C0 : CallFix p m c cc nL s args big own) (J : lJ D cs ux um s X M H locs) (hM : Met l y (Cond.code y bytes maxL ret :: big) rm (va_Pc (.ref (um 0) :: As) (mB (D, cs, um) M)) (va_Ql (fun r1 S3 => r1 = rr ∧ S3 = S2) (mB (D, cs, um)) (mA (D, cs, um))) 0 0 (mA (D, cs, um))) (cw : CallW R s args own RX7 index y bytes maxL ret (Cond.code y bytes maxL ret :: big) rm 0 0 n) (hn : As.length = n) (hsz : ls.size = nL) (hst : st0 = As.reverse ++ .ref (um 0) :: rest) (hW : (rest.map fun v => v.category).sum ≤ 8) (hd : decode cc pc = .ok (.invokevirtual index, 3)) (hce : cells ≤ R.cells) (hsl : slots ≤ R.slots) (k : ∀ (H1 : Heap) (locs1 : List Loc), lJ D cs ux um s X S2 H1 locs1 → W p l e R s m args below meth c H1 locs1 cells slots Q (F0 m (pc + 3) ls (.long rr :: rest))) : W p l e R s m args below meth c H locs cells slots Q (F0 m pc ls st0) := by
  subst hst
  have hPs := va_P_r J.2.1
  have hDs : va_D (mA (D, cs, um)) (mW (D, cs, um) M) := (va_D_r J.2.2.1).weaken (fun k q hk _ => mA_of hk)
  have hAs : ∀ q, mA (D, cs, um) q → lA s q := fun q h => by
    obtain ⟨k, e1, h1⟩ := mA_at (S := M) h
    exact (va_D_r J.2.2.1).2 k _ h1
  have hKs : va_K D vwCl (mT (D, cs, um)) s := (J.1.sub (tys' := mT (D, cs, um)) [0] rfl)
  refine va_calll (va_runV (As := As) (rest := rest) C0 hM cw ⟨m_blind, va_recv hKs hPs (ci := 7) (q0 := 0) rfl rfl, fun U hU hW => ⟨rfl, by rw [hU]; exact hPs, va_K.moved hW.alike hKs, hDs⟩⟩ rfl hn hsz rfl (lv_room hW) hd ⟨hce, hsl⟩) J.2.2.2 (fun q _ h => hAs q h) hAs (fun r u t H1 locs ht hvm hw hB hz1 hk1 hS => ?_)
  obtain ⟨rfl, rfl⟩ := hw
  refine k H1 locs ⟨J.1, ?_, ?_, hS⟩
  · refine va_P.app ((va_P_l J.2.1).kept (fun k q hk => hk1 q.1 ((va_P_l J.2.1 k q hk).lt) (fun h => ?_))) (by rw [← ht]; exact hB.1)
    obtain ⟨k2, e2, h2⟩ := mA_at (S := M) h
    exact va_D_x J.2.2.1 k k2 q _ hk h2 rfl
  · exact va_D_map (by rw [List.map_append, List.map_append, mW_fst _ _ M]) J.2.2.1
end
theorem law_le {L ii : Nat} (hL : L ≤ 2560) (hi : ii ≤ L + 5) (h : ¬ Int32.ofNat L - 5 < nI ii) : ii + 5 ≤ L := by
  rcases Nat.lt_or_ge L (ii + 5) with q | q
  · exfalso
    apply h
    rw [Int32.lt_iff_toInt_lt]
    have e1 : (nI L - nI 5).toInt = (L : Int) - (5 : Nat) := pk_sub_toInt (by omega) (by omega)
    have e2 : (nI ii).toInt = (ii : Int) := nI_toInt (by omega)
    have e3 : Int32.ofNat L - 5 = nI L - nI 5 := rfl
    rw [e3, e1, e2]
    omega
  · exact q
theorem law_in {L ii : Nat} {x : Int32} (hL : L ≤ 2560) (hx : x = nI ii) (h : ii + 5 ≤ L) (j : Nat) (hj : j < 5) : vp_in (x + nI j) L := by
  rw [hx, nI_add]
  exact vp_in_nI (by omega) (by omega)
theorem law_in0 {L ii : Nat} {x : Int32} (hL : L ≤ 2560) (hx : x = nI ii) (h : ii + 5 ≤ L) : vp_in x L := by
  rw [hx]
  exact vp_in_nI (by omega) (by omega)
set_option maxHeartbeats 4000000 in
set_option maxRecDepth 100000 in
theorem law_case_0 {p : Program} {l : Launch} {e : Env} {s : State} {m : MethodId} {below : List Frame} {meth : Method} {c : Code} {D : va_G} {cs : Nat → ClassId} {ux um : Nat → Nat} {b L : Nat} {xs : Nat → Int32} {Sim : St → St → Prop} (HO : Ops Sim) (hL : L ≤ 2560) (C0 : CallFix p m c code 4 s #[Value.ref b] big R_law) (hX : va_X b L xs s s.heap) (hbl : b < s.heap.size) (hbA : ¬ lA s b) {x3 : Int32} {ii : Nat} (ex3 : x3 = nI ii) (hlt : ii + 5 ≤ L) (K : ∀ (X M : St) (H : Heap) (locs : List Loc), Sim X M → lJ D cs ux um s X M H locs → ∀ (ls : Array Slot), lv_has ls 4 [(0, .ref b), (1, .ref (ux 0)), (2, .ref (um 0)), (3, .int x3)] → W p l e room_1 s m #[Value.ref b] below meth c H locs 54 2102 (lw_Z below #[Value.ref b] s) (F0 m 757 ls [])) {X M : St} {H : Heap} {locs : List Loc} (hsim : Sim X M) (J : lJ D cs ux um s X M H locs) {ls : Array Slot} (hl : lv_has ls 4 [(0, .ref b), (1, .ref (ux 0)), (2, .ref (um 0)), (3, .int x3)]) : W p l e room_1 s m #[Value.ref b] below meth c H locs 54 2102 (lw_Z below #[Value.ref b] s) (F0 m 144 ls []) := by
  obtain ⟨hx, hb, hml, -, -⟩ := id C0
  obtain ⟨r, X2, M2, e1, e2, hs⟩ := HO.1 X M (xs (Int32.toNatClampNeg (x3 + 1))) hsim
  refine lv_aload_n hx hb dL_law_144 rfl (lv_at hl 1 rfl) ?_
  refine lv_aload_n hx hb dL_law_145 rfl (lv_at hl 0 rfl) ?_
  refine lv_iload_n hx hb dL_law_146 rfl (lv_at hl 3 rfl) ?_
  refine lv_iconst (v := 1) hx hb dL_law_147 (by decide) ?_
  refine lv_iadd hx hb dL_law_148 ?_
  refine va_sld hx hb hX hbl hbA J.2.2.2 (law_in hL ex3 hlt 1 (by decide)) dL_law_149 ?_
  refine law_cx_i (As := [.int (xs (Int32.toNatClampNeg (x3 + 1)))]) C0 J (kX6_sides (g := (D, cs, ux)) e1) (cwV 1 C0.2.2.2.2 (gwV wd_268 wd_269 wd_270 wd_66 wd_271) rfl rfl rfl dsc_X6_sides ⟨Nat.le_of_ble_eq_true rfl, Nat.le_of_ble_eq_true rfl⟩) rfl hl.1 rfl (Nat.le_of_ble_eq_true rfl) dL_law_150 (Nat.le_of_ble_eq_true rfl) (Nat.le_of_ble_eq_true rfl) (fun H locs J => ?_)
  refine lv_aload_n hx hb dL_law_153 rfl (lv_at hl 2 rfl) ?_
  refine lv_aload_n hx hb dL_law_154 rfl (lv_at hl 0 rfl) ?_
  refine lv_iload_n hx hb dL_law_155 rfl (lv_at hl 3 rfl) ?_
  refine lv_iconst (v := 1) hx hb dL_law_156 (by decide) ?_
  refine lv_iadd hx hb dL_law_157 ?_
  refine va_sld hx hb hX hbl hbA J.2.2.2 (law_in hL ex3 hlt 1 (by decide)) dL_law_158 ?_
  refine law_cm_i (As := [.int (xs (Int32.toNatClampNeg (x3 + 1)))]) C0 J (kX7_sides (g := (D, cs, um)) e2) (cwV 1 C0.2.2.2.2 (gwV wd_698 wd_699 wd_700 wd_73 wd_701) rfl rfl rfl dsc_X7_sides ⟨Nat.le_of_ble_eq_true rfl, Nat.le_of_ble_eq_true rfl⟩) rfl hl.1 rfl (Nat.le_of_ble_eq_true rfl) dL_law_159 (Nat.le_of_ble_eq_true rfl) (Nat.le_of_ble_eq_true rfl) (fun H locs J => ?_)
  refine lv_icmp_eq (tgt := 757) hx hb dL_law_162 (by decide) (fun c1 => ?_) (fun c1 => absurd rfl c1)
  exact K X2 M2 H locs hs J ls hl
set_option maxHeartbeats 4000000 in
set_option maxRecDepth 100000 in
theorem law_case_1 {p : Program} {l : Launch} {e : Env} {s : State} {m : MethodId} {below : List Frame} {meth : Method} {c : Code} {D : va_G} {cs : Nat → ClassId} {ux um : Nat → Nat} {b L : Nat} {xs : Nat → Int32} {Sim : St → St → Prop} (HO : Ops Sim) (hL : L ≤ 2560) (C0 : CallFix p m c code 4 s #[Value.ref b] big R_law) (hX : va_X b L xs s s.heap) (hbl : b < s.heap.size) (hbA : ¬ lA s b) {x3 : Int32} {ii : Nat} (ex3 : x3 = nI ii) (hlt : ii + 5 ≤ L) (K : ∀ (X M : St) (H : Heap) (locs : List Loc), Sim X M → lJ D cs ux um s X M H locs → ∀ (ls : Array Slot), lv_has ls 4 [(0, .ref b), (1, .ref (ux 0)), (2, .ref (um 0)), (3, .int x3)] → W p l e room_1 s m #[Value.ref b] below meth c H locs 54 2102 (lw_Z below #[Value.ref b] s) (F0 m 757 ls [])) {X M : St} {H : Heap} {locs : List Loc} (hsim : Sim X M) (J : lJ D cs ux um s X M H locs) {ls : Array Slot} (hl : lv_has ls 4 [(0, .ref b), (1, .ref (ux 0)), (2, .ref (um 0)), (3, .int x3)]) : W p l e room_1 s m #[Value.ref b] below meth c H locs 54 2102 (lw_Z below #[Value.ref b] s) (F0 m 167 ls []) := by
  obtain ⟨hx, hb, hml, -, -⟩ := id C0
  obtain ⟨r, X2, M2, e1, e2, hs⟩ := HO.2.1 X M (xs (Int32.toNatClampNeg (x3 + 1))) (xs (Int32.toNatClampNeg (x3 + 2))) (xs (Int32.toNatClampNeg (x3 + 3))) (xs (Int32.toNatClampNeg (x3 + 4))) hsim
  refine lv_aload_n hx hb dL_law_167 rfl (lv_at hl 1 rfl) ?_
  refine lv_aload_n hx hb dL_law_168 rfl (lv_at hl 0 rfl) ?_
  refine lv_iload_n hx hb dL_law_169 rfl (lv_at hl 3 rfl) ?_
  refine lv_iconst (v := 1) hx hb dL_law_170 (by decide) ?_
  refine lv_iadd hx hb dL_law_171 ?_
  refine va_sld hx hb hX hbl hbA J.2.2.2 (law_in hL ex3 hlt 1 (by decide)) dL_law_172 ?_
  refine lv_aload_n hx hb dL_law_173 rfl (lv_at hl 0 rfl) ?_
  refine lv_iload_n hx hb dL_law_174 rfl (lv_at hl 3 rfl) ?_
  refine lv_iconst (v := 2) hx hb dL_law_175 (by decide) ?_
  refine lv_iadd hx hb dL_law_176 ?_
  refine va_sld hx hb hX hbl hbA J.2.2.2 (law_in hL ex3 hlt 2 (by decide)) dL_law_177 ?_
  refine lv_aload_n hx hb dL_law_178 rfl (lv_at hl 0 rfl) ?_
  refine lv_iload_n hx hb dL_law_179 rfl (lv_at hl 3 rfl) ?_
  refine lv_iconst (v := 3) hx hb dL_law_180 (by decide) ?_
  refine lv_iadd hx hb dL_law_181 ?_
  refine va_sld hx hb hX hbl hbA J.2.2.2 (law_in hL ex3 hlt 3 (by decide)) dL_law_182 ?_
  refine lv_aload_n hx hb dL_law_183 rfl (lv_at hl 0 rfl) ?_
  refine lv_iload_n hx hb dL_law_184 rfl (lv_at hl 3 rfl) ?_
  refine lv_iconst (v := 4) hx hb dL_law_185 (by decide) ?_
  refine lv_iadd hx hb dL_law_186 ?_
  refine va_sld hx hb hX hbl hbA J.2.2.2 (law_in hL ex3 hlt 4 (by decide)) dL_law_187 ?_
  refine law_cx_i (As := [.int (xs (Int32.toNatClampNeg (x3 + 1))), .int (xs (Int32.toNatClampNeg (x3 + 2))), .int (xs (Int32.toNatClampNeg (x3 + 3))), .int (xs (Int32.toNatClampNeg (x3 + 4)))]) C0 J (kX6_parcel (g := (D, cs, ux)) e1) (cwV 4 C0.2.2.2.2 (gwV wd_290 wd_291 wd_292 wd_66 wd_293) rfl rfl rfl dsc_X6_parcel ⟨Nat.le_of_ble_eq_true rfl, Nat.le_of_ble_eq_true rfl⟩) rfl hl.1 rfl (Nat.le_of_ble_eq_true rfl) dL_law_188 (Nat.le_of_ble_eq_true rfl) (Nat.le_of_ble_eq_true rfl) (fun H locs J => ?_)
  refine lv_aload_n hx hb dL_law_191 rfl (lv_at hl 2 rfl) ?_
  refine lv_aload_n hx hb dL_law_192 rfl (lv_at hl 0 rfl) ?_
  refine lv_iload_n hx hb dL_law_193 rfl (lv_at hl 3 rfl) ?_
  refine lv_iconst (v := 1) hx hb dL_law_194 (by decide) ?_
  refine lv_iadd hx hb dL_law_195 ?_
  refine va_sld hx hb hX hbl hbA J.2.2.2 (law_in hL ex3 hlt 1 (by decide)) dL_law_196 ?_
  refine lv_aload_n hx hb dL_law_197 rfl (lv_at hl 0 rfl) ?_
  refine lv_iload_n hx hb dL_law_198 rfl (lv_at hl 3 rfl) ?_
  refine lv_iconst (v := 2) hx hb dL_law_199 (by decide) ?_
  refine lv_iadd hx hb dL_law_200 ?_
  refine va_sld hx hb hX hbl hbA J.2.2.2 (law_in hL ex3 hlt 2 (by decide)) dL_law_201 ?_
  refine lv_aload_n hx hb dL_law_202 rfl (lv_at hl 0 rfl) ?_
  refine lv_iload_n hx hb dL_law_203 rfl (lv_at hl 3 rfl) ?_
  refine lv_iconst (v := 3) hx hb dL_law_204 (by decide) ?_
  refine lv_iadd hx hb dL_law_205 ?_
  refine va_sld hx hb hX hbl hbA J.2.2.2 (law_in hL ex3 hlt 3 (by decide)) dL_law_206 ?_
  refine lv_aload_n hx hb dL_law_207 rfl (lv_at hl 0 rfl) ?_
  refine lv_iload_n hx hb dL_law_208 rfl (lv_at hl 3 rfl) ?_
  refine lv_iconst (v := 4) hx hb dL_law_209 (by decide) ?_
  refine lv_iadd hx hb dL_law_210 ?_
  refine va_sld hx hb hX hbl hbA J.2.2.2 (law_in hL ex3 hlt 4 (by decide)) dL_law_211 ?_
  refine law_cm_i (As := [.int (xs (Int32.toNatClampNeg (x3 + 1))), .int (xs (Int32.toNatClampNeg (x3 + 2))), .int (xs (Int32.toNatClampNeg (x3 + 3))), .int (xs (Int32.toNatClampNeg (x3 + 4)))]) C0 J (kX7_parcel (g := (D, cs, um)) e2) (cwV 4 C0.2.2.2.2 (gwV wd_713 wd_714 wd_715 wd_73 wd_716) rfl rfl rfl dsc_X7_parcel ⟨Nat.le_of_ble_eq_true rfl, Nat.le_of_ble_eq_true rfl⟩) rfl hl.1 rfl (Nat.le_of_ble_eq_true rfl) dL_law_212 (Nat.le_of_ble_eq_true rfl) (Nat.le_of_ble_eq_true rfl) (fun H locs J => ?_)
  refine lv_icmp_eq (tgt := 757) hx hb dL_law_215 (by decide) (fun c1 => ?_) (fun c1 => absurd rfl c1)
  exact K X2 M2 H locs hs J ls hl
set_option maxHeartbeats 4000000 in
set_option maxRecDepth 100000 in
theorem law_case_2 {p : Program} {l : Launch} {e : Env} {s : State} {m : MethodId} {below : List Frame} {meth : Method} {c : Code} {D : va_G} {cs : Nat → ClassId} {ux um : Nat → Nat} {b L : Nat} {xs : Nat → Int32} {Sim : St → St → Prop} (HO : Ops Sim) (hL : L ≤ 2560) (C0 : CallFix p m c code 4 s #[Value.ref b] big R_law) (hX : va_X b L xs s s.heap) (hbl : b < s.heap.size) (hbA : ¬ lA s b) {x3 : Int32} {ii : Nat} (ex3 : x3 = nI ii) (hlt : ii + 5 ≤ L) (K : ∀ (X M : St) (H : Heap) (locs : List Loc), Sim X M → lJ D cs ux um s X M H locs → ∀ (ls : Array Slot), lv_has ls 4 [(0, .ref b), (1, .ref (ux 0)), (2, .ref (um 0)), (3, .int x3)] → W p l e room_1 s m #[Value.ref b] below meth c H locs 54 2102 (lw_Z below #[Value.ref b] s) (F0 m 757 ls [])) {X M : St} {H : Heap} {locs : List Loc} (hsim : Sim X M) (J : lJ D cs ux um s X M H locs) {ls : Array Slot} (hl : lv_has ls 4 [(0, .ref b), (1, .ref (ux 0)), (2, .ref (um 0)), (3, .int x3)]) : W p l e room_1 s m #[Value.ref b] below meth c H locs 54 2102 (lw_Z below #[Value.ref b] s) (F0 m 220 ls []) := by
  obtain ⟨hx, hb, hml, -, -⟩ := id C0
  obtain ⟨r, X2, M2, e1, e2, hs⟩ := HO.2.2.1 X M (xs (Int32.toNatClampNeg (x3 + 1))) (xs (Int32.toNatClampNeg (x3 + 2))) (xs (Int32.toNatClampNeg (x3 + 3))) hsim
  refine lv_aload_n hx hb dL_law_220 rfl (lv_at hl 1 rfl) ?_
  refine lv_aload_n hx hb dL_law_221 rfl (lv_at hl 0 rfl) ?_
  refine lv_iload_n hx hb dL_law_222 rfl (lv_at hl 3 rfl) ?_
  refine lv_iconst (v := 1) hx hb dL_law_223 (by decide) ?_
  refine lv_iadd hx hb dL_law_224 ?_
  refine va_sld hx hb hX hbl hbA J.2.2.2 (law_in hL ex3 hlt 1 (by decide)) dL_law_225 ?_
  refine lv_aload_n hx hb dL_law_226 rfl (lv_at hl 0 rfl) ?_
  refine lv_iload_n hx hb dL_law_227 rfl (lv_at hl 3 rfl) ?_
  refine lv_iconst (v := 2) hx hb dL_law_228 (by decide) ?_
  refine lv_iadd hx hb dL_law_229 ?_
  refine va_sld hx hb hX hbl hbA J.2.2.2 (law_in hL ex3 hlt 2 (by decide)) dL_law_230 ?_
  refine lv_aload_n hx hb dL_law_231 rfl (lv_at hl 0 rfl) ?_
  refine lv_iload_n hx hb dL_law_232 rfl (lv_at hl 3 rfl) ?_
  refine lv_iconst (v := 3) hx hb dL_law_233 (by decide) ?_
  refine lv_iadd hx hb dL_law_234 ?_
  refine va_sld hx hb hX hbl hbA J.2.2.2 (law_in hL ex3 hlt 3 (by decide)) dL_law_235 ?_
  refine law_cx_i (As := [.int (xs (Int32.toNatClampNeg (x3 + 1))), .int (xs (Int32.toNatClampNeg (x3 + 2))), .int (xs (Int32.toNatClampNeg (x3 + 3)))]) C0 J (kX6_sets (g := (D, cs, ux)) e1) (cwV 3 C0.2.2.2.2 (gwV wd_310 wd_311 wd_312 wd_66 wd_313) rfl rfl rfl dsc_X6_sets ⟨Nat.le_of_ble_eq_true rfl, Nat.le_of_ble_eq_true rfl⟩) rfl hl.1 rfl (Nat.le_of_ble_eq_true rfl) dL_law_236 (Nat.le_of_ble_eq_true rfl) (Nat.le_of_ble_eq_true rfl) (fun H locs J => ?_)
  refine lv_aload_n hx hb dL_law_239 rfl (lv_at hl 2 rfl) ?_
  refine lv_aload_n hx hb dL_law_240 rfl (lv_at hl 0 rfl) ?_
  refine lv_iload_n hx hb dL_law_241 rfl (lv_at hl 3 rfl) ?_
  refine lv_iconst (v := 1) hx hb dL_law_242 (by decide) ?_
  refine lv_iadd hx hb dL_law_243 ?_
  refine va_sld hx hb hX hbl hbA J.2.2.2 (law_in hL ex3 hlt 1 (by decide)) dL_law_244 ?_
  refine lv_aload_n hx hb dL_law_245 rfl (lv_at hl 0 rfl) ?_
  refine lv_iload_n hx hb dL_law_246 rfl (lv_at hl 3 rfl) ?_
  refine lv_iconst (v := 2) hx hb dL_law_247 (by decide) ?_
  refine lv_iadd hx hb dL_law_248 ?_
  refine va_sld hx hb hX hbl hbA J.2.2.2 (law_in hL ex3 hlt 2 (by decide)) dL_law_249 ?_
  refine lv_aload_n hx hb dL_law_250 rfl (lv_at hl 0 rfl) ?_
  refine lv_iload_n hx hb dL_law_251 rfl (lv_at hl 3 rfl) ?_
  refine lv_iconst (v := 3) hx hb dL_law_252 (by decide) ?_
  refine lv_iadd hx hb dL_law_253 ?_
  refine va_sld hx hb hX hbl hbA J.2.2.2 (law_in hL ex3 hlt 3 (by decide)) dL_law_254 ?_
  refine law_cm_i (As := [.int (xs (Int32.toNatClampNeg (x3 + 1))), .int (xs (Int32.toNatClampNeg (x3 + 2))), .int (xs (Int32.toNatClampNeg (x3 + 3)))]) C0 J (kX7_sets (g := (D, cs, um)) e2) (cwV 3 C0.2.2.2.2 (gwV wd_736 wd_737 wd_738 wd_73 wd_739) rfl rfl rfl dsc_X7_sets ⟨Nat.le_of_ble_eq_true rfl, Nat.le_of_ble_eq_true rfl⟩) rfl hl.1 rfl (Nat.le_of_ble_eq_true rfl) dL_law_255 (Nat.le_of_ble_eq_true rfl) (Nat.le_of_ble_eq_true rfl) (fun H locs J => ?_)
  refine lv_icmp_eq (tgt := 757) hx hb dL_law_258 (by decide) (fun c1 => ?_) (fun c1 => absurd rfl c1)
  exact K X2 M2 H locs hs J ls hl
set_option maxHeartbeats 4000000 in
set_option maxRecDepth 100000 in
theorem law_case_3 {p : Program} {l : Launch} {e : Env} {s : State} {m : MethodId} {below : List Frame} {meth : Method} {c : Code} {D : va_G} {cs : Nat → ClassId} {ux um : Nat → Nat} {b L : Nat} {xs : Nat → Int32} {Sim : St → St → Prop} (HO : Ops Sim) (hL : L ≤ 2560) (C0 : CallFix p m c code 4 s #[Value.ref b] big R_law) (hX : va_X b L xs s s.heap) (hbl : b < s.heap.size) (hbA : ¬ lA s b) {x3 : Int32} {ii : Nat} (ex3 : x3 = nI ii) (hlt : ii + 5 ≤ L) (K : ∀ (X M : St) (H : Heap) (locs : List Loc), Sim X M → lJ D cs ux um s X M H locs → ∀ (ls : Array Slot), lv_has ls 4 [(0, .ref b), (1, .ref (ux 0)), (2, .ref (um 0)), (3, .int x3)] → W p l e room_1 s m #[Value.ref b] below meth c H locs 54 2102 (lw_Z below #[Value.ref b] s) (F0 m 757 ls [])) {X M : St} {H : Heap} {locs : List Loc} (hsim : Sim X M) (J : lJ D cs ux um s X M H locs) {ls : Array Slot} (hl : lv_has ls 4 [(0, .ref b), (1, .ref (ux 0)), (2, .ref (um 0)), (3, .int x3)]) : W p l e room_1 s m #[Value.ref b] below meth c H locs 54 2102 (lw_Z below #[Value.ref b] s) (F0 m 263 ls []) := by
  obtain ⟨hx, hb, hml, -, -⟩ := id C0
  obtain ⟨r, X2, M2, e1, e2, hs⟩ := HO.2.2.2.1 X M (xs (Int32.toNatClampNeg (x3 + 1))) (xs (Int32.toNatClampNeg (x3 + 2))) hsim
  refine lv_aload_n hx hb dL_law_263 rfl (lv_at hl 1 rfl) ?_
  refine lv_aload_n hx hb dL_law_264 rfl (lv_at hl 0 rfl) ?_
  refine lv_iload_n hx hb dL_law_265 rfl (lv_at hl 3 rfl) ?_
  refine lv_iconst (v := 1) hx hb dL_law_266 (by decide) ?_
  refine lv_iadd hx hb dL_law_267 ?_
  refine va_sld hx hb hX hbl hbA J.2.2.2 (law_in hL ex3 hlt 1 (by decide)) dL_law_268 ?_
  refine lv_aload_n hx hb dL_law_269 rfl (lv_at hl 0 rfl) ?_
  refine lv_iload_n hx hb dL_law_270 rfl (lv_at hl 3 rfl) ?_
  refine lv_iconst (v := 2) hx hb dL_law_271 (by decide) ?_
  refine lv_iadd hx hb dL_law_272 ?_
  refine va_sld hx hb hX hbl hbA J.2.2.2 (law_in hL ex3 hlt 2 (by decide)) dL_law_273 ?_
  refine law_cx_i (As := [.int (xs (Int32.toNatClampNeg (x3 + 1))), .int (xs (Int32.toNatClampNeg (x3 + 2)))]) C0 J (kX6_rules (g := (D, cs, ux)) e1) (cwV 2 C0.2.2.2.2 (gwV wd_323 wd_324 wd_325 wd_66 wd_326) rfl rfl rfl dsc_X6_rules ⟨Nat.le_of_ble_eq_true rfl, Nat.le_of_ble_eq_true rfl⟩) rfl hl.1 rfl (Nat.le_of_ble_eq_true rfl) dL_law_274 (Nat.le_of_ble_eq_true rfl) (Nat.le_of_ble_eq_true rfl) (fun H locs J => ?_)
  refine lv_aload_n hx hb dL_law_277 rfl (lv_at hl 2 rfl) ?_
  refine lv_aload_n hx hb dL_law_278 rfl (lv_at hl 0 rfl) ?_
  refine lv_iload_n hx hb dL_law_279 rfl (lv_at hl 3 rfl) ?_
  refine lv_iconst (v := 1) hx hb dL_law_280 (by decide) ?_
  refine lv_iadd hx hb dL_law_281 ?_
  refine va_sld hx hb hX hbl hbA J.2.2.2 (law_in hL ex3 hlt 1 (by decide)) dL_law_282 ?_
  refine lv_aload_n hx hb dL_law_283 rfl (lv_at hl 0 rfl) ?_
  refine lv_iload_n hx hb dL_law_284 rfl (lv_at hl 3 rfl) ?_
  refine lv_iconst (v := 2) hx hb dL_law_285 (by decide) ?_
  refine lv_iadd hx hb dL_law_286 ?_
  refine va_sld hx hb hX hbl hbA J.2.2.2 (law_in hL ex3 hlt 2 (by decide)) dL_law_287 ?_
  refine law_cm_i (As := [.int (xs (Int32.toNatClampNeg (x3 + 1))), .int (xs (Int32.toNatClampNeg (x3 + 2)))]) C0 J (kX7_rules (g := (D, cs, um)) e2) (cwV 2 C0.2.2.2.2 (gwV wd_748 wd_749 wd_750 wd_73 wd_751) rfl rfl rfl dsc_X7_rules ⟨Nat.le_of_ble_eq_true rfl, Nat.le_of_ble_eq_true rfl⟩) rfl hl.1 rfl (Nat.le_of_ble_eq_true rfl) dL_law_288 (Nat.le_of_ble_eq_true rfl) (Nat.le_of_ble_eq_true rfl) (fun H locs J => ?_)
  refine lv_icmp_eq (tgt := 757) hx hb dL_law_291 (by decide) (fun c1 => ?_) (fun c1 => absurd rfl c1)
  exact K X2 M2 H locs hs J ls hl
set_option maxHeartbeats 4000000 in
set_option maxRecDepth 100000 in
theorem law_case_4 {p : Program} {l : Launch} {e : Env} {s : State} {m : MethodId} {below : List Frame} {meth : Method} {c : Code} {D : va_G} {cs : Nat → ClassId} {ux um : Nat → Nat} {b L : Nat} {xs : Nat → Int32} {Sim : St → St → Prop} (HO : Ops Sim) (hL : L ≤ 2560) (C0 : CallFix p m c code 4 s #[Value.ref b] big R_law) (hX : va_X b L xs s s.heap) (hbl : b < s.heap.size) (hbA : ¬ lA s b) {x3 : Int32} {ii : Nat} (ex3 : x3 = nI ii) (hlt : ii + 5 ≤ L) (K : ∀ (X M : St) (H : Heap) (locs : List Loc), Sim X M → lJ D cs ux um s X M H locs → ∀ (ls : Array Slot), lv_has ls 4 [(0, .ref b), (1, .ref (ux 0)), (2, .ref (um 0)), (3, .int x3)] → W p l e room_1 s m #[Value.ref b] below meth c H locs 54 2102 (lw_Z below #[Value.ref b] s) (F0 m 757 ls [])) {X M : St} {H : Heap} {locs : List Loc} (hsim : Sim X M) (J : lJ D cs ux um s X M H locs) {ls : Array Slot} (hl : lv_has ls 4 [(0, .ref b), (1, .ref (ux 0)), (2, .ref (um 0)), (3, .int x3)]) : W p l e room_1 s m #[Value.ref b] below meth c H locs 54 2102 (lw_Z below #[Value.ref b] s) (F0 m 296 ls []) := by
  obtain ⟨hx, hb, hml, -, -⟩ := id C0
  obtain ⟨r, X2, M2, e1, e2, hs⟩ := HO.2.2.2.2.1 X M  hsim
  refine lv_aload_n hx hb dL_law_296 rfl (lv_at hl 1 rfl) ?_
  refine law_cx_i (As := []) C0 J (kX6_empties (g := (D, cs, ux)) e1) (cwV 0 C0.2.2.2.2 (gwV wd_327 wd_328 wd_329 wd_66 wd_330) rfl rfl rfl dsc_X6_empties ⟨Nat.le_of_ble_eq_true rfl, Nat.le_of_ble_eq_true rfl⟩) rfl hl.1 rfl (Nat.le_of_ble_eq_true rfl) dL_law_297 (Nat.le_of_ble_eq_true rfl) (Nat.le_of_ble_eq_true rfl) (fun H locs J => ?_)
  refine lv_aload_n hx hb dL_law_300 rfl (lv_at hl 2 rfl) ?_
  refine law_cm_i (As := []) C0 J (kX7_empties (g := (D, cs, um)) e2) (cwV 0 C0.2.2.2.2 (gwV wd_752 wd_753 wd_754 wd_73 wd_755) rfl rfl rfl dsc_X7_empties ⟨Nat.le_of_ble_eq_true rfl, Nat.le_of_ble_eq_true rfl⟩) rfl hl.1 rfl (Nat.le_of_ble_eq_true rfl) dL_law_301 (Nat.le_of_ble_eq_true rfl) (Nat.le_of_ble_eq_true rfl) (fun H locs J => ?_)
  refine lv_icmp_eq (tgt := 757) hx hb dL_law_304 (by decide) (fun c1 => ?_) (fun c1 => absurd rfl c1)
  exact K X2 M2 H locs hs J ls hl
set_option maxHeartbeats 4000000 in
set_option maxRecDepth 100000 in
theorem law_case_5 {p : Program} {l : Launch} {e : Env} {s : State} {m : MethodId} {below : List Frame} {meth : Method} {c : Code} {D : va_G} {cs : Nat → ClassId} {ux um : Nat → Nat} {b L : Nat} {xs : Nat → Int32} {Sim : St → St → Prop} (HO : Ops Sim) (hL : L ≤ 2560) (C0 : CallFix p m c code 4 s #[Value.ref b] big R_law) (hX : va_X b L xs s s.heap) (hbl : b < s.heap.size) (hbA : ¬ lA s b) {x3 : Int32} {ii : Nat} (ex3 : x3 = nI ii) (hlt : ii + 5 ≤ L) (K : ∀ (X M : St) (H : Heap) (locs : List Loc), Sim X M → lJ D cs ux um s X M H locs → ∀ (ls : Array Slot), lv_has ls 4 [(0, .ref b), (1, .ref (ux 0)), (2, .ref (um 0)), (3, .int x3)] → W p l e room_1 s m #[Value.ref b] below meth c H locs 54 2102 (lw_Z below #[Value.ref b] s) (F0 m 757 ls [])) {X M : St} {H : Heap} {locs : List Loc} (hsim : Sim X M) (J : lJ D cs ux um s X M H locs) {ls : Array Slot} (hl : lv_has ls 4 [(0, .ref b), (1, .ref (ux 0)), (2, .ref (um 0)), (3, .int x3)]) : W p l e room_1 s m #[Value.ref b] below meth c H locs 54 2102 (lw_Z below #[Value.ref b] s) (F0 m 309 ls []) := by
  obtain ⟨hx, hb, hml, -, -⟩ := id C0
  obtain ⟨r, X2, M2, e1, e2, hs⟩ := HO.2.2.2.2.2.1 X M (xs (Int32.toNatClampNeg (x3 + 1))) (xs (Int32.toNatClampNeg (x3 + 2))) hsim
  refine lv_aload_n hx hb dL_law_309 rfl (lv_at hl 1 rfl) ?_
  refine lv_aload_n hx hb dL_law_310 rfl (lv_at hl 0 rfl) ?_
  refine lv_iload_n hx hb dL_law_311 rfl (lv_at hl 3 rfl) ?_
  refine lv_iconst (v := 1) hx hb dL_law_312 (by decide) ?_
  refine lv_iadd hx hb dL_law_313 ?_
  refine va_sld hx hb hX hbl hbA J.2.2.2 (law_in hL ex3 hlt 1 (by decide)) dL_law_314 ?_
  refine lv_aload_n hx hb dL_law_315 rfl (lv_at hl 0 rfl) ?_
  refine lv_iload_n hx hb dL_law_316 rfl (lv_at hl 3 rfl) ?_
  refine lv_iconst (v := 2) hx hb dL_law_317 (by decide) ?_
  refine lv_iadd hx hb dL_law_318 ?_
  refine va_sld hx hb hX hbl hbA J.2.2.2 (law_in hL ex3 hlt 2 (by decide)) dL_law_319 ?_
  refine law_cx_i (As := [.int (xs (Int32.toNatClampNeg (x3 + 1))), .int (xs (Int32.toNatClampNeg (x3 + 2)))]) C0 J (kX6_fills (g := (D, cs, ux)) e1) (cwV 2 C0.2.2.2.2 (gwV wd_331 wd_332 wd_333 wd_66 wd_334) rfl rfl rfl dsc_X6_fills ⟨Nat.le_of_ble_eq_true rfl, Nat.le_of_ble_eq_true rfl⟩) rfl hl.1 rfl (Nat.le_of_ble_eq_true rfl) dL_law_320 (Nat.le_of_ble_eq_true rfl) (Nat.le_of_ble_eq_true rfl) (fun H locs J => ?_)
  refine lv_aload_n hx hb dL_law_323 rfl (lv_at hl 2 rfl) ?_
  refine lv_aload_n hx hb dL_law_324 rfl (lv_at hl 0 rfl) ?_
  refine lv_iload_n hx hb dL_law_325 rfl (lv_at hl 3 rfl) ?_
  refine lv_iconst (v := 1) hx hb dL_law_326 (by decide) ?_
  refine lv_iadd hx hb dL_law_327 ?_
  refine va_sld hx hb hX hbl hbA J.2.2.2 (law_in hL ex3 hlt 1 (by decide)) dL_law_328 ?_
  refine lv_aload_n hx hb dL_law_329 rfl (lv_at hl 0 rfl) ?_
  refine lv_iload_n hx hb dL_law_330 rfl (lv_at hl 3 rfl) ?_
  refine lv_iconst (v := 2) hx hb dL_law_331 (by decide) ?_
  refine lv_iadd hx hb dL_law_332 ?_
  refine va_sld hx hb hX hbl hbA J.2.2.2 (law_in hL ex3 hlt 2 (by decide)) dL_law_333 ?_
  refine law_cm_i (As := [.int (xs (Int32.toNatClampNeg (x3 + 1))), .int (xs (Int32.toNatClampNeg (x3 + 2)))]) C0 J (kX7_fills (g := (D, cs, um)) e2) (cwV 2 C0.2.2.2.2 (gwV wd_756 wd_757 wd_758 wd_73 wd_759) rfl rfl rfl dsc_X7_fills ⟨Nat.le_of_ble_eq_true rfl, Nat.le_of_ble_eq_true rfl⟩) rfl hl.1 rfl (Nat.le_of_ble_eq_true rfl) dL_law_334 (Nat.le_of_ble_eq_true rfl) (Nat.le_of_ble_eq_true rfl) (fun H locs J => ?_)
  refine lv_icmp_eq (tgt := 757) hx hb dL_law_337 (by decide) (fun c1 => ?_) (fun c1 => absurd rfl c1)
  exact K X2 M2 H locs hs J ls hl
set_option maxHeartbeats 4000000 in
set_option maxRecDepth 100000 in
theorem law_case_6 {p : Program} {l : Launch} {e : Env} {s : State} {m : MethodId} {below : List Frame} {meth : Method} {c : Code} {D : va_G} {cs : Nat → ClassId} {ux um : Nat → Nat} {b L : Nat} {xs : Nat → Int32} {Sim : St → St → Prop} (HO : Ops Sim) (hL : L ≤ 2560) (C0 : CallFix p m c code 4 s #[Value.ref b] big R_law) (hX : va_X b L xs s s.heap) (hbl : b < s.heap.size) (hbA : ¬ lA s b) {x3 : Int32} {ii : Nat} (ex3 : x3 = nI ii) (hlt : ii + 5 ≤ L) (K : ∀ (X M : St) (H : Heap) (locs : List Loc), Sim X M → lJ D cs ux um s X M H locs → ∀ (ls : Array Slot), lv_has ls 4 [(0, .ref b), (1, .ref (ux 0)), (2, .ref (um 0)), (3, .int x3)] → W p l e room_1 s m #[Value.ref b] below meth c H locs 54 2102 (lw_Z below #[Value.ref b] s) (F0 m 757 ls [])) {X M : St} {H : Heap} {locs : List Loc} (hsim : Sim X M) (J : lJ D cs ux um s X M H locs) {ls : Array Slot} (hl : lv_has ls 4 [(0, .ref b), (1, .ref (ux 0)), (2, .ref (um 0)), (3, .int x3)]) : W p l e room_1 s m #[Value.ref b] below meth c H locs 54 2102 (lw_Z below #[Value.ref b] s) (F0 m 342 ls []) := by
  obtain ⟨hx, hb, hml, -, -⟩ := id C0
  obtain ⟨r, X2, M2, e1, e2, hs⟩ := HO.2.2.2.2.2.2.1 X M (xs (Int32.toNatClampNeg (x3 + 1))) (xs (Int32.toNatClampNeg (x3 + 2))) hsim
  refine lv_aload_n hx hb dL_law_342 rfl (lv_at hl 1 rfl) ?_
  refine lv_aload_n hx hb dL_law_343 rfl (lv_at hl 0 rfl) ?_
  refine lv_iload_n hx hb dL_law_344 rfl (lv_at hl 3 rfl) ?_
  refine lv_iconst (v := 1) hx hb dL_law_345 (by decide) ?_
  refine lv_iadd hx hb dL_law_346 ?_
  refine va_sld hx hb hX hbl hbA J.2.2.2 (law_in hL ex3 hlt 1 (by decide)) dL_law_347 ?_
  refine lv_aload_n hx hb dL_law_348 rfl (lv_at hl 0 rfl) ?_
  refine lv_iload_n hx hb dL_law_349 rfl (lv_at hl 3 rfl) ?_
  refine lv_iconst (v := 2) hx hb dL_law_350 (by decide) ?_
  refine lv_iadd hx hb dL_law_351 ?_
  refine va_sld hx hb hX hbl hbA J.2.2.2 (law_in hL ex3 hlt 2 (by decide)) dL_law_352 ?_
  refine law_cx_i (As := [.int (xs (Int32.toNatClampNeg (x3 + 1))), .int (xs (Int32.toNatClampNeg (x3 + 2)))]) C0 J (kX6_of (g := (D, cs, ux)) e1) (cwV 2 C0.2.2.2.2 (gwV wd_348 wd_349 wd_350 wd_66 wd_351) rfl rfl rfl dsc_X6_of ⟨Nat.le_of_ble_eq_true rfl, Nat.le_of_ble_eq_true rfl⟩) rfl hl.1 rfl (Nat.le_of_ble_eq_true rfl) dL_law_353 (Nat.le_of_ble_eq_true rfl) (Nat.le_of_ble_eq_true rfl) (fun H locs J => ?_)
  refine lv_aload_n hx hb dL_law_356 rfl (lv_at hl 2 rfl) ?_
  refine lv_aload_n hx hb dL_law_357 rfl (lv_at hl 0 rfl) ?_
  refine lv_iload_n hx hb dL_law_358 rfl (lv_at hl 3 rfl) ?_
  refine lv_iconst (v := 1) hx hb dL_law_359 (by decide) ?_
  refine lv_iadd hx hb dL_law_360 ?_
  refine va_sld hx hb hX hbl hbA J.2.2.2 (law_in hL ex3 hlt 1 (by decide)) dL_law_361 ?_
  refine lv_aload_n hx hb dL_law_362 rfl (lv_at hl 0 rfl) ?_
  refine lv_iload_n hx hb dL_law_363 rfl (lv_at hl 3 rfl) ?_
  refine lv_iconst (v := 2) hx hb dL_law_364 (by decide) ?_
  refine lv_iadd hx hb dL_law_365 ?_
  refine va_sld hx hb hX hbl hbA J.2.2.2 (law_in hL ex3 hlt 2 (by decide)) dL_law_366 ?_
  refine law_cm_i (As := [.int (xs (Int32.toNatClampNeg (x3 + 1))), .int (xs (Int32.toNatClampNeg (x3 + 2)))]) C0 J (kX7_of (g := (D, cs, um)) e2) (cwV 2 C0.2.2.2.2 (gwV wd_772 wd_773 wd_774 wd_73 wd_775) rfl rfl rfl dsc_X7_of ⟨Nat.le_of_ble_eq_true rfl, Nat.le_of_ble_eq_true rfl⟩) rfl hl.1 rfl (Nat.le_of_ble_eq_true rfl) dL_law_367 (Nat.le_of_ble_eq_true rfl) (Nat.le_of_ble_eq_true rfl) (fun H locs J => ?_)
  refine lv_icmp_eq (tgt := 757) hx hb dL_law_370 (by decide) (fun c1 => ?_) (fun c1 => absurd rfl c1)
  exact K X2 M2 H locs hs J ls hl
set_option maxHeartbeats 4000000 in
set_option maxRecDepth 100000 in
theorem law_case_7 {p : Program} {l : Launch} {e : Env} {s : State} {m : MethodId} {below : List Frame} {meth : Method} {c : Code} {D : va_G} {cs : Nat → ClassId} {ux um : Nat → Nat} {b L : Nat} {xs : Nat → Int32} {Sim : St → St → Prop} (HO : Ops Sim) (hL : L ≤ 2560) (C0 : CallFix p m c code 4 s #[Value.ref b] big R_law) (hX : va_X b L xs s s.heap) (hbl : b < s.heap.size) (hbA : ¬ lA s b) {x3 : Int32} {ii : Nat} (ex3 : x3 = nI ii) (hlt : ii + 5 ≤ L) (K : ∀ (X M : St) (H : Heap) (locs : List Loc), Sim X M → lJ D cs ux um s X M H locs → ∀ (ls : Array Slot), lv_has ls 4 [(0, .ref b), (1, .ref (ux 0)), (2, .ref (um 0)), (3, .int x3)] → W p l e room_1 s m #[Value.ref b] below meth c H locs 54 2102 (lw_Z below #[Value.ref b] s) (F0 m 757 ls [])) {X M : St} {H : Heap} {locs : List Loc} (hsim : Sim X M) (J : lJ D cs ux um s X M H locs) {ls : Array Slot} (hl : lv_has ls 4 [(0, .ref b), (1, .ref (ux 0)), (2, .ref (um 0)), (3, .int x3)]) : W p l e room_1 s m #[Value.ref b] below meth c H locs 54 2102 (lw_Z below #[Value.ref b] s) (F0 m 375 ls []) := by
  obtain ⟨hx, hb, hml, -, -⟩ := id C0
  obtain ⟨r, X2, M2, e1, e2, hs⟩ := HO.2.2.2.2.2.2.2.1 X M (xs (Int32.toNatClampNeg (x3 + 1))) (xs (Int32.toNatClampNeg (x3 + 2))) hsim
  refine lv_aload_n hx hb dL_law_375 rfl (lv_at hl 1 rfl) ?_
  refine lv_aload_n hx hb dL_law_376 rfl (lv_at hl 0 rfl) ?_
  refine lv_iload_n hx hb dL_law_377 rfl (lv_at hl 3 rfl) ?_
  refine lv_iconst (v := 1) hx hb dL_law_378 (by decide) ?_
  refine lv_iadd hx hb dL_law_379 ?_
  refine va_sld hx hb hX hbl hbA J.2.2.2 (law_in hL ex3 hlt 1 (by decide)) dL_law_380 ?_
  refine lv_aload_n hx hb dL_law_381 rfl (lv_at hl 0 rfl) ?_
  refine lv_iload_n hx hb dL_law_382 rfl (lv_at hl 3 rfl) ?_
  refine lv_iconst (v := 2) hx hb dL_law_383 (by decide) ?_
  refine lv_iadd hx hb dL_law_384 ?_
  refine va_sld hx hb hX hbl hbA J.2.2.2 (law_in hL ex3 hlt 2 (by decide)) dL_law_385 ?_
  refine law_cx_i (As := [.int (xs (Int32.toNatClampNeg (x3 + 1))), .int (xs (Int32.toNatClampNeg (x3 + 2)))]) C0 J (kX6_step (g := (D, cs, ux)) e1) (cwV 2 C0.2.2.2.2 (gwV wd_373 wd_374 wd_375 wd_66 wd_376) rfl rfl rfl dsc_X6_step ⟨Nat.le_of_ble_eq_true rfl, Nat.le_of_ble_eq_true rfl⟩) rfl hl.1 rfl (Nat.le_of_ble_eq_true rfl) dL_law_386 (Nat.le_of_ble_eq_true rfl) (Nat.le_of_ble_eq_true rfl) (fun H locs J => ?_)
  refine lv_aload_n hx hb dL_law_389 rfl (lv_at hl 2 rfl) ?_
  refine lv_aload_n hx hb dL_law_390 rfl (lv_at hl 0 rfl) ?_
  refine lv_iload_n hx hb dL_law_391 rfl (lv_at hl 3 rfl) ?_
  refine lv_iconst (v := 1) hx hb dL_law_392 (by decide) ?_
  refine lv_iadd hx hb dL_law_393 ?_
  refine va_sld hx hb hX hbl hbA J.2.2.2 (law_in hL ex3 hlt 1 (by decide)) dL_law_394 ?_
  refine lv_aload_n hx hb dL_law_395 rfl (lv_at hl 0 rfl) ?_
  refine lv_iload_n hx hb dL_law_396 rfl (lv_at hl 3 rfl) ?_
  refine lv_iconst (v := 2) hx hb dL_law_397 (by decide) ?_
  refine lv_iadd hx hb dL_law_398 ?_
  refine va_sld hx hb hX hbl hbA J.2.2.2 (law_in hL ex3 hlt 2 (by decide)) dL_law_399 ?_
  refine law_cm_i (As := [.int (xs (Int32.toNatClampNeg (x3 + 1))), .int (xs (Int32.toNatClampNeg (x3 + 2)))]) C0 J (kX7_step (g := (D, cs, um)) e2) (cwV 2 C0.2.2.2.2 (gwV wd_804 wd_805 wd_806 wd_73 wd_807) rfl rfl rfl dsc_X7_step ⟨Nat.le_of_ble_eq_true rfl, Nat.le_of_ble_eq_true rfl⟩) rfl hl.1 rfl (Nat.le_of_ble_eq_true rfl) dL_law_400 (Nat.le_of_ble_eq_true rfl) (Nat.le_of_ble_eq_true rfl) (fun H locs J => ?_)
  refine lv_icmp_eq (tgt := 757) hx hb dL_law_403 (by decide) (fun c1 => ?_) (fun c1 => absurd rfl c1)
  exact K X2 M2 H locs hs J ls hl
set_option maxHeartbeats 4000000 in
set_option maxRecDepth 100000 in
theorem law_case_8 {p : Program} {l : Launch} {e : Env} {s : State} {m : MethodId} {below : List Frame} {meth : Method} {c : Code} {D : va_G} {cs : Nat → ClassId} {ux um : Nat → Nat} {b L : Nat} {xs : Nat → Int32} {Sim : St → St → Prop} (HO : Ops Sim) (hL : L ≤ 2560) (C0 : CallFix p m c code 4 s #[Value.ref b] big R_law) (hX : va_X b L xs s s.heap) (hbl : b < s.heap.size) (hbA : ¬ lA s b) {x3 : Int32} {ii : Nat} (ex3 : x3 = nI ii) (hlt : ii + 5 ≤ L) (K : ∀ (X M : St) (H : Heap) (locs : List Loc), Sim X M → lJ D cs ux um s X M H locs → ∀ (ls : Array Slot), lv_has ls 4 [(0, .ref b), (1, .ref (ux 0)), (2, .ref (um 0)), (3, .int x3)] → W p l e room_1 s m #[Value.ref b] below meth c H locs 54 2102 (lw_Z below #[Value.ref b] s) (F0 m 757 ls [])) {X M : St} {H : Heap} {locs : List Loc} (hsim : Sim X M) (J : lJ D cs ux um s X M H locs) {ls : Array Slot} (hl : lv_has ls 4 [(0, .ref b), (1, .ref (ux 0)), (2, .ref (um 0)), (3, .int x3)]) : W p l e room_1 s m #[Value.ref b] below meth c H locs 54 2102 (lw_Z below #[Value.ref b] s) (F0 m 408 ls []) := by
  obtain ⟨hx, hb, hml, -, -⟩ := id C0
  obtain ⟨r, X2, M2, e1, e2, hs⟩ := HO.2.2.2.2.2.2.2.2.1 X M (xs (Int32.toNatClampNeg (x3 + 1))) (xs (Int32.toNatClampNeg (x3 + 2))) hsim
  refine lv_aload_n hx hb dL_law_408 rfl (lv_at hl 1 rfl) ?_
  refine lv_aload_n hx hb dL_law_409 rfl (lv_at hl 0 rfl) ?_
  refine lv_iload_n hx hb dL_law_410 rfl (lv_at hl 3 rfl) ?_
  refine lv_iconst (v := 1) hx hb dL_law_411 (by decide) ?_
  refine lv_iadd hx hb dL_law_412 ?_
  refine va_sld hx hb hX hbl hbA J.2.2.2 (law_in hL ex3 hlt 1 (by decide)) dL_law_413 ?_
  refine lv_aload_n hx hb dL_law_414 rfl (lv_at hl 0 rfl) ?_
  refine lv_iload_n hx hb dL_law_415 rfl (lv_at hl 3 rfl) ?_
  refine lv_iconst (v := 2) hx hb dL_law_416 (by decide) ?_
  refine lv_iadd hx hb dL_law_417 ?_
  refine va_sld hx hb hX hbl hbA J.2.2.2 (law_in hL ex3 hlt 2 (by decide)) dL_law_418 ?_
  refine law_cx_i (As := [.int (xs (Int32.toNatClampNeg (x3 + 1))), .int (xs (Int32.toNatClampNeg (x3 + 2)))]) C0 J (kX6_load (g := (D, cs, ux)) e1) (cwV 2 C0.2.2.2.2 (gwV wd_385 wd_386 wd_387 wd_66 wd_388) rfl rfl rfl dsc_X6_load ⟨Nat.le_of_ble_eq_true rfl, Nat.le_of_ble_eq_true rfl⟩) rfl hl.1 rfl (Nat.le_of_ble_eq_true rfl) dL_law_419 (Nat.le_of_ble_eq_true rfl) (Nat.le_of_ble_eq_true rfl) (fun H locs J => ?_)
  refine lv_aload_n hx hb dL_law_422 rfl (lv_at hl 2 rfl) ?_
  refine lv_aload_n hx hb dL_law_423 rfl (lv_at hl 0 rfl) ?_
  refine lv_iload_n hx hb dL_law_424 rfl (lv_at hl 3 rfl) ?_
  refine lv_iconst (v := 1) hx hb dL_law_425 (by decide) ?_
  refine lv_iadd hx hb dL_law_426 ?_
  refine va_sld hx hb hX hbl hbA J.2.2.2 (law_in hL ex3 hlt 1 (by decide)) dL_law_427 ?_
  refine lv_aload_n hx hb dL_law_428 rfl (lv_at hl 0 rfl) ?_
  refine lv_iload_n hx hb dL_law_429 rfl (lv_at hl 3 rfl) ?_
  refine lv_iconst (v := 2) hx hb dL_law_430 (by decide) ?_
  refine lv_iadd hx hb dL_law_431 ?_
  refine va_sld hx hb hX hbl hbA J.2.2.2 (law_in hL ex3 hlt 2 (by decide)) dL_law_432 ?_
  refine law_cm_i (As := [.int (xs (Int32.toNatClampNeg (x3 + 1))), .int (xs (Int32.toNatClampNeg (x3 + 2)))]) C0 J (kX7_load (g := (D, cs, um)) e2) (cwV 2 C0.2.2.2.2 (gwV wd_808 wd_809 wd_810 wd_73 wd_811) rfl rfl rfl dsc_X7_load ⟨Nat.le_of_ble_eq_true rfl, Nat.le_of_ble_eq_true rfl⟩) rfl hl.1 rfl (Nat.le_of_ble_eq_true rfl) dL_law_433 (Nat.le_of_ble_eq_true rfl) (Nat.le_of_ble_eq_true rfl) (fun H locs J => ?_)
  refine lv_icmp_eq (tgt := 757) hx hb dL_law_436 (by decide) (fun c1 => ?_) (fun c1 => absurd rfl c1)
  exact K X2 M2 H locs hs J ls hl
set_option maxHeartbeats 4000000 in
set_option maxRecDepth 100000 in
theorem law_case_9 {p : Program} {l : Launch} {e : Env} {s : State} {m : MethodId} {below : List Frame} {meth : Method} {c : Code} {D : va_G} {cs : Nat → ClassId} {ux um : Nat → Nat} {b L : Nat} {xs : Nat → Int32} {Sim : St → St → Prop} (HO : Ops Sim) (hL : L ≤ 2560) (C0 : CallFix p m c code 4 s #[Value.ref b] big R_law) (hX : va_X b L xs s s.heap) (hbl : b < s.heap.size) (hbA : ¬ lA s b) {x3 : Int32} {ii : Nat} (ex3 : x3 = nI ii) (hlt : ii + 5 ≤ L) (K : ∀ (X M : St) (H : Heap) (locs : List Loc), Sim X M → lJ D cs ux um s X M H locs → ∀ (ls : Array Slot), lv_has ls 4 [(0, .ref b), (1, .ref (ux 0)), (2, .ref (um 0)), (3, .int x3)] → W p l e room_1 s m #[Value.ref b] below meth c H locs 54 2102 (lw_Z below #[Value.ref b] s) (F0 m 757 ls [])) {X M : St} {H : Heap} {locs : List Loc} (hsim : Sim X M) (J : lJ D cs ux um s X M H locs) {ls : Array Slot} (hl : lv_has ls 4 [(0, .ref b), (1, .ref (ux 0)), (2, .ref (um 0)), (3, .int x3)]) : W p l e room_1 s m #[Value.ref b] below meth c H locs 54 2102 (lw_Z below #[Value.ref b] s) (F0 m 441 ls []) := by
  obtain ⟨hx, hb, hml, -, -⟩ := id C0
  obtain ⟨r, X2, M2, e1, e2, hs⟩ := HO.2.2.2.2.2.2.2.2.2.1 X M (xs (Int32.toNatClampNeg (x3 + 1))) hsim
  refine lv_aload_n hx hb dL_law_441 rfl (lv_at hl 1 rfl) ?_
  refine lv_aload_n hx hb dL_law_442 rfl (lv_at hl 0 rfl) ?_
  refine lv_iload_n hx hb dL_law_443 rfl (lv_at hl 3 rfl) ?_
  refine lv_iconst (v := 1) hx hb dL_law_444 (by decide) ?_
  refine lv_iadd hx hb dL_law_445 ?_
  refine va_sld hx hb hX hbl hbA J.2.2.2 (law_in hL ex3 hlt 1 (by decide)) dL_law_446 ?_
  refine law_cx_i (As := [.int (xs (Int32.toNatClampNeg (x3 + 1)))]) C0 J (kX6_loads (g := (D, cs, ux)) e1) (cwV 1 C0.2.2.2.2 (gwV wd_409 wd_410 wd_411 wd_66 wd_412) rfl rfl rfl dsc_X6_loads ⟨Nat.le_of_ble_eq_true rfl, Nat.le_of_ble_eq_true rfl⟩) rfl hl.1 rfl (Nat.le_of_ble_eq_true rfl) dL_law_447 (Nat.le_of_ble_eq_true rfl) (Nat.le_of_ble_eq_true rfl) (fun H locs J => ?_)
  refine lv_aload_n hx hb dL_law_450 rfl (lv_at hl 2 rfl) ?_
  refine lv_aload_n hx hb dL_law_451 rfl (lv_at hl 0 rfl) ?_
  refine lv_iload_n hx hb dL_law_452 rfl (lv_at hl 3 rfl) ?_
  refine lv_iconst (v := 1) hx hb dL_law_453 (by decide) ?_
  refine lv_iadd hx hb dL_law_454 ?_
  refine va_sld hx hb hX hbl hbA J.2.2.2 (law_in hL ex3 hlt 1 (by decide)) dL_law_455 ?_
  refine law_cm_i (As := [.int (xs (Int32.toNatClampNeg (x3 + 1)))]) C0 J (kX7_loads (g := (D, cs, um)) e2) (cwV 1 C0.2.2.2.2 (gwV wd_828 wd_829 wd_830 wd_73 wd_831) rfl rfl rfl dsc_X7_loads ⟨Nat.le_of_ble_eq_true rfl, Nat.le_of_ble_eq_true rfl⟩) rfl hl.1 rfl (Nat.le_of_ble_eq_true rfl) dL_law_456 (Nat.le_of_ble_eq_true rfl) (Nat.le_of_ble_eq_true rfl) (fun H locs J => ?_)
  refine lv_icmp_eq (tgt := 757) hx hb dL_law_459 (by decide) (fun c1 => ?_) (fun c1 => absurd rfl c1)
  exact K X2 M2 H locs hs J ls hl
set_option maxHeartbeats 4000000 in
set_option maxRecDepth 100000 in
theorem law_case_10 {p : Program} {l : Launch} {e : Env} {s : State} {m : MethodId} {below : List Frame} {meth : Method} {c : Code} {D : va_G} {cs : Nat → ClassId} {ux um : Nat → Nat} {b L : Nat} {xs : Nat → Int32} {Sim : St → St → Prop} (HO : Ops Sim) (hL : L ≤ 2560) (C0 : CallFix p m c code 4 s #[Value.ref b] big R_law) (hX : va_X b L xs s s.heap) (hbl : b < s.heap.size) (hbA : ¬ lA s b) {x3 : Int32} {ii : Nat} (ex3 : x3 = nI ii) (hlt : ii + 5 ≤ L) (K : ∀ (X M : St) (H : Heap) (locs : List Loc), Sim X M → lJ D cs ux um s X M H locs → ∀ (ls : Array Slot), lv_has ls 4 [(0, .ref b), (1, .ref (ux 0)), (2, .ref (um 0)), (3, .int x3)] → W p l e room_1 s m #[Value.ref b] below meth c H locs 54 2102 (lw_Z below #[Value.ref b] s) (F0 m 757 ls [])) {X M : St} {H : Heap} {locs : List Loc} (hsim : Sim X M) (J : lJ D cs ux um s X M H locs) {ls : Array Slot} (hl : lv_has ls 4 [(0, .ref b), (1, .ref (ux 0)), (2, .ref (um 0)), (3, .int x3)]) : W p l e room_1 s m #[Value.ref b] below meth c H locs 54 2102 (lw_Z below #[Value.ref b] s) (F0 m 464 ls []) := by
  obtain ⟨hx, hb, hml, -, -⟩ := id C0
  obtain ⟨r, X2, M2, e1, e2, hs⟩ := HO.2.2.2.2.2.2.2.2.2.2.1 X M (xs (Int32.toNatClampNeg (x3 + 1))) (xs (Int32.toNatClampNeg (x3 + 2))) (xs (Int32.toNatClampNeg (x3 + 3))) hsim
  refine lv_aload_n hx hb dL_law_464 rfl (lv_at hl 1 rfl) ?_
  refine lv_aload_n hx hb dL_law_465 rfl (lv_at hl 0 rfl) ?_
  refine lv_iload_n hx hb dL_law_466 rfl (lv_at hl 3 rfl) ?_
  refine lv_iconst (v := 1) hx hb dL_law_467 (by decide) ?_
  refine lv_iadd hx hb dL_law_468 ?_
  refine va_sld hx hb hX hbl hbA J.2.2.2 (law_in hL ex3 hlt 1 (by decide)) dL_law_469 ?_
  refine lv_aload_n hx hb dL_law_470 rfl (lv_at hl 0 rfl) ?_
  refine lv_iload_n hx hb dL_law_471 rfl (lv_at hl 3 rfl) ?_
  refine lv_iconst (v := 2) hx hb dL_law_472 (by decide) ?_
  refine lv_iadd hx hb dL_law_473 ?_
  refine va_sld hx hb hX hbl hbA J.2.2.2 (law_in hL ex3 hlt 2 (by decide)) dL_law_474 ?_
  refine lv_aload_n hx hb dL_law_475 rfl (lv_at hl 0 rfl) ?_
  refine lv_iload_n hx hb dL_law_476 rfl (lv_at hl 3 rfl) ?_
  refine lv_iconst (v := 3) hx hb dL_law_477 (by decide) ?_
  refine lv_iadd hx hb dL_law_478 ?_
  refine va_sld hx hb hX hbl hbA J.2.2.2 (law_in hL ex3 hlt 3 (by decide)) dL_law_479 ?_
  refine law_cx_i (As := [.int (xs (Int32.toNatClampNeg (x3 + 1))), .int (xs (Int32.toNatClampNeg (x3 + 2))), .int (xs (Int32.toNatClampNeg (x3 + 3)))]) C0 J (kX6_expected (g := (D, cs, ux)) e1) (cwV 3 C0.2.2.2.2 (gwV wd_429 wd_430 wd_431 wd_66 wd_432) rfl rfl rfl dsc_X6_expected ⟨Nat.le_of_ble_eq_true rfl, Nat.le_of_ble_eq_true rfl⟩) rfl hl.1 rfl (Nat.le_of_ble_eq_true rfl) dL_law_480 (Nat.le_of_ble_eq_true rfl) (Nat.le_of_ble_eq_true rfl) (fun H locs J => ?_)
  refine lv_aload_n hx hb dL_law_483 rfl (lv_at hl 2 rfl) ?_
  refine lv_aload_n hx hb dL_law_484 rfl (lv_at hl 0 rfl) ?_
  refine lv_iload_n hx hb dL_law_485 rfl (lv_at hl 3 rfl) ?_
  refine lv_iconst (v := 1) hx hb dL_law_486 (by decide) ?_
  refine lv_iadd hx hb dL_law_487 ?_
  refine va_sld hx hb hX hbl hbA J.2.2.2 (law_in hL ex3 hlt 1 (by decide)) dL_law_488 ?_
  refine lv_aload_n hx hb dL_law_489 rfl (lv_at hl 0 rfl) ?_
  refine lv_iload_n hx hb dL_law_490 rfl (lv_at hl 3 rfl) ?_
  refine lv_iconst (v := 2) hx hb dL_law_491 (by decide) ?_
  refine lv_iadd hx hb dL_law_492 ?_
  refine va_sld hx hb hX hbl hbA J.2.2.2 (law_in hL ex3 hlt 2 (by decide)) dL_law_493 ?_
  refine lv_aload_n hx hb dL_law_494 rfl (lv_at hl 0 rfl) ?_
  refine lv_iload_n hx hb dL_law_495 rfl (lv_at hl 3 rfl) ?_
  refine lv_iconst (v := 3) hx hb dL_law_496 (by decide) ?_
  refine lv_iadd hx hb dL_law_497 ?_
  refine va_sld hx hb hX hbl hbA J.2.2.2 (law_in hL ex3 hlt 3 (by decide)) dL_law_498 ?_
  refine law_cm_i (As := [.int (xs (Int32.toNatClampNeg (x3 + 1))), .int (xs (Int32.toNatClampNeg (x3 + 2))), .int (xs (Int32.toNatClampNeg (x3 + 3)))]) C0 J (kX7_expected (g := (D, cs, um)) e2) (cwV 3 C0.2.2.2.2 (gwV wd_847 wd_848 wd_849 wd_73 wd_850) rfl rfl rfl dsc_X7_expected ⟨Nat.le_of_ble_eq_true rfl, Nat.le_of_ble_eq_true rfl⟩) rfl hl.1 rfl (Nat.le_of_ble_eq_true rfl) dL_law_499 (Nat.le_of_ble_eq_true rfl) (Nat.le_of_ble_eq_true rfl) (fun H locs J => ?_)
  refine lv_icmp_eq (tgt := 757) hx hb dL_law_502 (by decide) (fun c1 => ?_) (fun c1 => absurd rfl c1)
  exact K X2 M2 H locs hs J ls hl
set_option maxHeartbeats 4000000 in
set_option maxRecDepth 100000 in
theorem law_case_11 {p : Program} {l : Launch} {e : Env} {s : State} {m : MethodId} {below : List Frame} {meth : Method} {c : Code} {D : va_G} {cs : Nat → ClassId} {ux um : Nat → Nat} {b L : Nat} {xs : Nat → Int32} {Sim : St → St → Prop} (HO : Ops Sim) (hL : L ≤ 2560) (C0 : CallFix p m c code 4 s #[Value.ref b] big R_law) (hX : va_X b L xs s s.heap) (hbl : b < s.heap.size) (hbA : ¬ lA s b) {x3 : Int32} {ii : Nat} (ex3 : x3 = nI ii) (hlt : ii + 5 ≤ L) (K : ∀ (X M : St) (H : Heap) (locs : List Loc), Sim X M → lJ D cs ux um s X M H locs → ∀ (ls : Array Slot), lv_has ls 4 [(0, .ref b), (1, .ref (ux 0)), (2, .ref (um 0)), (3, .int x3)] → W p l e room_1 s m #[Value.ref b] below meth c H locs 54 2102 (lw_Z below #[Value.ref b] s) (F0 m 757 ls [])) {X M : St} {H : Heap} {locs : List Loc} (hsim : Sim X M) (J : lJ D cs ux um s X M H locs) {ls : Array Slot} (hl : lv_has ls 4 [(0, .ref b), (1, .ref (ux 0)), (2, .ref (um 0)), (3, .int x3)]) : W p l e room_1 s m #[Value.ref b] below meth c H locs 54 2102 (lw_Z below #[Value.ref b] s) (F0 m 507 ls []) := by
  obtain ⟨hx, hb, hml, -, -⟩ := id C0
  obtain ⟨r, X2, M2, e1, e2, hs⟩ := HO.2.2.2.2.2.2.2.2.2.2.2.1 X M (xs (Int32.toNatClampNeg (x3 + 1))) hsim
  refine lv_aload_n hx hb dL_law_507 rfl (lv_at hl 1 rfl) ?_
  refine lv_aload_n hx hb dL_law_508 rfl (lv_at hl 0 rfl) ?_
  refine lv_iload_n hx hb dL_law_509 rfl (lv_at hl 3 rfl) ?_
  refine lv_iconst (v := 1) hx hb dL_law_510 (by decide) ?_
  refine lv_iadd hx hb dL_law_511 ?_
  refine va_sld hx hb hX hbl hbA J.2.2.2 (law_in hL ex3 hlt 1 (by decide)) dL_law_512 ?_
  refine law_cx_i (As := [.int (xs (Int32.toNatClampNeg (x3 + 1)))]) C0 J (kX6_part (g := (D, cs, ux)) e1) (cwV 1 C0.2.2.2.2 (gwV wd_446 wd_447 wd_448 wd_66 wd_449) rfl rfl rfl dsc_X6_part ⟨Nat.le_of_ble_eq_true rfl, Nat.le_of_ble_eq_true rfl⟩) rfl hl.1 rfl (Nat.le_of_ble_eq_true rfl) dL_law_513 (Nat.le_of_ble_eq_true rfl) (Nat.le_of_ble_eq_true rfl) (fun H locs J => ?_)
  refine lv_aload_n hx hb dL_law_516 rfl (lv_at hl 2 rfl) ?_
  refine lv_aload_n hx hb dL_law_517 rfl (lv_at hl 0 rfl) ?_
  refine lv_iload_n hx hb dL_law_518 rfl (lv_at hl 3 rfl) ?_
  refine lv_iconst (v := 1) hx hb dL_law_519 (by decide) ?_
  refine lv_iadd hx hb dL_law_520 ?_
  refine va_sld hx hb hX hbl hbA J.2.2.2 (law_in hL ex3 hlt 1 (by decide)) dL_law_521 ?_
  refine law_cm_i (As := [.int (xs (Int32.toNatClampNeg (x3 + 1)))]) C0 J (kX7_part (g := (D, cs, um)) e2) (cwV 1 C0.2.2.2.2 (gwV wd_863 wd_864 wd_865 wd_73 wd_866) rfl rfl rfl dsc_X7_part ⟨Nat.le_of_ble_eq_true rfl, Nat.le_of_ble_eq_true rfl⟩) rfl hl.1 rfl (Nat.le_of_ble_eq_true rfl) dL_law_522 (Nat.le_of_ble_eq_true rfl) (Nat.le_of_ble_eq_true rfl) (fun H locs J => ?_)
  refine lv_icmp_eq (tgt := 757) hx hb dL_law_525 (by decide) (fun c1 => ?_) (fun c1 => absurd rfl c1)
  exact K X2 M2 H locs hs J ls hl
set_option maxHeartbeats 4000000 in
set_option maxRecDepth 100000 in
theorem law_case_12 {p : Program} {l : Launch} {e : Env} {s : State} {m : MethodId} {below : List Frame} {meth : Method} {c : Code} {D : va_G} {cs : Nat → ClassId} {ux um : Nat → Nat} {b L : Nat} {xs : Nat → Int32} {Sim : St → St → Prop} (HO : Ops Sim) (hL : L ≤ 2560) (C0 : CallFix p m c code 4 s #[Value.ref b] big R_law) (hX : va_X b L xs s s.heap) (hbl : b < s.heap.size) (hbA : ¬ lA s b) {x3 : Int32} {ii : Nat} (ex3 : x3 = nI ii) (hlt : ii + 5 ≤ L) (K : ∀ (X M : St) (H : Heap) (locs : List Loc), Sim X M → lJ D cs ux um s X M H locs → ∀ (ls : Array Slot), lv_has ls 4 [(0, .ref b), (1, .ref (ux 0)), (2, .ref (um 0)), (3, .int x3)] → W p l e room_1 s m #[Value.ref b] below meth c H locs 54 2102 (lw_Z below #[Value.ref b] s) (F0 m 757 ls [])) {X M : St} {H : Heap} {locs : List Loc} (hsim : Sim X M) (J : lJ D cs ux um s X M H locs) {ls : Array Slot} (hl : lv_has ls 4 [(0, .ref b), (1, .ref (ux 0)), (2, .ref (um 0)), (3, .int x3)]) : W p l e room_1 s m #[Value.ref b] below meth c H locs 54 2102 (lw_Z below #[Value.ref b] s) (F0 m 530 ls []) := by
  obtain ⟨hx, hb, hml, -, -⟩ := id C0
  obtain ⟨r, X2, M2, e1, e2, hs⟩ := HO.2.2.2.2.2.2.2.2.2.2.2.2.1 X M  hsim
  refine lv_aload_n hx hb dL_law_530 rfl (lv_at hl 1 rfl) ?_
  refine law_cx_i (As := []) C0 J (kX6_greatest (g := (D, cs, ux)) e1) (cwV 0 C0.2.2.2.2 (gwV wd_450 wd_451 wd_452 wd_66 wd_453) rfl rfl rfl dsc_X6_greatest ⟨Nat.le_of_ble_eq_true rfl, Nat.le_of_ble_eq_true rfl⟩) rfl hl.1 rfl (Nat.le_of_ble_eq_true rfl) dL_law_531 (Nat.le_of_ble_eq_true rfl) (Nat.le_of_ble_eq_true rfl) (fun H locs J => ?_)
  refine lv_aload_n hx hb dL_law_534 rfl (lv_at hl 2 rfl) ?_
  refine law_cm_i (As := []) C0 J (kX7_greatest (g := (D, cs, um)) e2) (cwV 0 C0.2.2.2.2 (gwV wd_867 wd_868 wd_869 wd_73 wd_870) rfl rfl rfl dsc_X7_greatest ⟨Nat.le_of_ble_eq_true rfl, Nat.le_of_ble_eq_true rfl⟩) rfl hl.1 rfl (Nat.le_of_ble_eq_true rfl) dL_law_535 (Nat.le_of_ble_eq_true rfl) (Nat.le_of_ble_eq_true rfl) (fun H locs J => ?_)
  refine lv_icmp_eq (tgt := 757) hx hb dL_law_538 (by decide) (fun c1 => ?_) (fun c1 => absurd rfl c1)
  exact K X2 M2 H locs hs J ls hl
set_option maxHeartbeats 4000000 in
set_option maxRecDepth 100000 in
theorem law_case_13 {p : Program} {l : Launch} {e : Env} {s : State} {m : MethodId} {below : List Frame} {meth : Method} {c : Code} {D : va_G} {cs : Nat → ClassId} {ux um : Nat → Nat} {b L : Nat} {xs : Nat → Int32} {Sim : St → St → Prop} (HO : Ops Sim) (hL : L ≤ 2560) (C0 : CallFix p m c code 4 s #[Value.ref b] big R_law) (hX : va_X b L xs s s.heap) (hbl : b < s.heap.size) (hbA : ¬ lA s b) {x3 : Int32} {ii : Nat} (ex3 : x3 = nI ii) (hlt : ii + 5 ≤ L) (K : ∀ (X M : St) (H : Heap) (locs : List Loc), Sim X M → lJ D cs ux um s X M H locs → ∀ (ls : Array Slot), lv_has ls 4 [(0, .ref b), (1, .ref (ux 0)), (2, .ref (um 0)), (3, .int x3)] → W p l e room_1 s m #[Value.ref b] below meth c H locs 54 2102 (lw_Z below #[Value.ref b] s) (F0 m 757 ls [])) {X M : St} {H : Heap} {locs : List Loc} (hsim : Sim X M) (J : lJ D cs ux um s X M H locs) {ls : Array Slot} (hl : lv_has ls 4 [(0, .ref b), (1, .ref (ux 0)), (2, .ref (um 0)), (3, .int x3)]) : W p l e room_1 s m #[Value.ref b] below meth c H locs 54 2102 (lw_Z below #[Value.ref b] s) (F0 m 543 ls []) := by
  obtain ⟨hx, hb, hml, -, -⟩ := id C0
  obtain ⟨r, X2, M2, e1, e2, hs⟩ := HO.2.2.2.2.2.2.2.2.2.2.2.2.2.1 X M  hsim
  refine lv_aload_n hx hb dL_law_543 rfl (lv_at hl 1 rfl) ?_
  refine law_cx_i (As := []) C0 J (kX6_chooses (g := (D, cs, ux)) e1) (cwV 0 C0.2.2.2.2 (gwV wd_454 wd_455 wd_456 wd_66 wd_457) rfl rfl rfl dsc_X6_chooses ⟨Nat.le_of_ble_eq_true rfl, Nat.le_of_ble_eq_true rfl⟩) rfl hl.1 rfl (Nat.le_of_ble_eq_true rfl) dL_law_544 (Nat.le_of_ble_eq_true rfl) (Nat.le_of_ble_eq_true rfl) (fun H locs J => ?_)
  refine lv_aload_n hx hb dL_law_547 rfl (lv_at hl 2 rfl) ?_
  refine law_cm_i (As := []) C0 J (kX7_chooses (g := (D, cs, um)) e2) (cwV 0 C0.2.2.2.2 (gwV wd_871 wd_872 wd_873 wd_73 wd_874) rfl rfl rfl dsc_X7_chooses ⟨Nat.le_of_ble_eq_true rfl, Nat.le_of_ble_eq_true rfl⟩) rfl hl.1 rfl (Nat.le_of_ble_eq_true rfl) dL_law_548 (Nat.le_of_ble_eq_true rfl) (Nat.le_of_ble_eq_true rfl) (fun H locs J => ?_)
  refine lv_icmp_eq (tgt := 757) hx hb dL_law_551 (by decide) (fun c1 => ?_) (fun c1 => absurd rfl c1)
  exact K X2 M2 H locs hs J ls hl
set_option maxHeartbeats 4000000 in
set_option maxRecDepth 100000 in
theorem law_case_14 {p : Program} {l : Launch} {e : Env} {s : State} {m : MethodId} {below : List Frame} {meth : Method} {c : Code} {D : va_G} {cs : Nat → ClassId} {ux um : Nat → Nat} {b L : Nat} {xs : Nat → Int32} {Sim : St → St → Prop} (HO : Ops Sim) (hL : L ≤ 2560) (C0 : CallFix p m c code 4 s #[Value.ref b] big R_law) (hX : va_X b L xs s s.heap) (hbl : b < s.heap.size) (hbA : ¬ lA s b) {x3 : Int32} {ii : Nat} (ex3 : x3 = nI ii) (hlt : ii + 5 ≤ L) (K : ∀ (X M : St) (H : Heap) (locs : List Loc), Sim X M → lJ D cs ux um s X M H locs → ∀ (ls : Array Slot), lv_has ls 4 [(0, .ref b), (1, .ref (ux 0)), (2, .ref (um 0)), (3, .int x3)] → W p l e room_1 s m #[Value.ref b] below meth c H locs 54 2102 (lw_Z below #[Value.ref b] s) (F0 m 757 ls [])) {X M : St} {H : Heap} {locs : List Loc} (hsim : Sim X M) (J : lJ D cs ux um s X M H locs) {ls : Array Slot} (hl : lv_has ls 4 [(0, .ref b), (1, .ref (ux 0)), (2, .ref (um 0)), (3, .int x3)]) : W p l e room_1 s m #[Value.ref b] below meth c H locs 54 2102 (lw_Z below #[Value.ref b] s) (F0 m 556 ls []) := by
  obtain ⟨hx, hb, hml, -, -⟩ := id C0
  obtain ⟨r, X2, M2, e1, e2, hs⟩ := HO.2.2.2.2.2.2.2.2.2.2.2.2.2.2.1 X M (xs (Int32.toNatClampNeg (x3 + 1))) hsim
  refine lv_aload_n hx hb dL_law_556 rfl (lv_at hl 1 rfl) ?_
  refine lv_aload_n hx hb dL_law_557 rfl (lv_at hl 0 rfl) ?_
  refine lv_iload_n hx hb dL_law_558 rfl (lv_at hl 3 rfl) ?_
  refine lv_iconst (v := 1) hx hb dL_law_559 (by decide) ?_
  refine lv_iadd hx hb dL_law_560 ?_
  refine va_sld hx hb hX hbl hbA J.2.2.2 (law_in hL ex3 hlt 1 (by decide)) dL_law_561 ?_
  refine law_cx_i (As := [.int (xs (Int32.toNatClampNeg (x3 + 1)))]) C0 J (kX6_run (g := (D, cs, ux)) e1) (cwV 1 C0.2.2.2.2 (gwV wd_466 wd_467 wd_468 wd_66 wd_469) rfl rfl rfl dsc_X6_run ⟨Nat.le_of_ble_eq_true rfl, Nat.le_of_ble_eq_true rfl⟩) rfl hl.1 rfl (Nat.le_of_ble_eq_true rfl) dL_law_562 (Nat.le_of_ble_eq_true rfl) (Nat.le_of_ble_eq_true rfl) (fun H locs J => ?_)
  refine lv_aload_n hx hb dL_law_565 rfl (lv_at hl 2 rfl) ?_
  refine lv_aload_n hx hb dL_law_566 rfl (lv_at hl 0 rfl) ?_
  refine lv_iload_n hx hb dL_law_567 rfl (lv_at hl 3 rfl) ?_
  refine lv_iconst (v := 1) hx hb dL_law_568 (by decide) ?_
  refine lv_iadd hx hb dL_law_569 ?_
  refine va_sld hx hb hX hbl hbA J.2.2.2 (law_in hL ex3 hlt 1 (by decide)) dL_law_570 ?_
  refine law_cm_i (As := [.int (xs (Int32.toNatClampNeg (x3 + 1)))]) C0 J (kX7_run (g := (D, cs, um)) e2) (cwV 1 C0.2.2.2.2 (gwV wd_883 wd_884 wd_885 wd_73 wd_886) rfl rfl rfl dsc_X7_run ⟨Nat.le_of_ble_eq_true rfl, Nat.le_of_ble_eq_true rfl⟩) rfl hl.1 rfl (Nat.le_of_ble_eq_true rfl) dL_law_571 (Nat.le_of_ble_eq_true rfl) (Nat.le_of_ble_eq_true rfl) (fun H locs J => ?_)
  refine lv_icmp_eq (tgt := 757) hx hb dL_law_574 (by decide) (fun c1 => ?_) (fun c1 => absurd rfl c1)
  exact K X2 M2 H locs hs J ls hl
set_option maxHeartbeats 4000000 in
set_option maxRecDepth 100000 in
theorem law_case_15 {p : Program} {l : Launch} {e : Env} {s : State} {m : MethodId} {below : List Frame} {meth : Method} {c : Code} {D : va_G} {cs : Nat → ClassId} {ux um : Nat → Nat} {b L : Nat} {xs : Nat → Int32} {Sim : St → St → Prop} (HO : Ops Sim) (hL : L ≤ 2560) (C0 : CallFix p m c code 4 s #[Value.ref b] big R_law) (hX : va_X b L xs s s.heap) (hbl : b < s.heap.size) (hbA : ¬ lA s b) {x3 : Int32} {ii : Nat} (ex3 : x3 = nI ii) (hlt : ii + 5 ≤ L) (K : ∀ (X M : St) (H : Heap) (locs : List Loc), Sim X M → lJ D cs ux um s X M H locs → ∀ (ls : Array Slot), lv_has ls 4 [(0, .ref b), (1, .ref (ux 0)), (2, .ref (um 0)), (3, .int x3)] → W p l e room_1 s m #[Value.ref b] below meth c H locs 54 2102 (lw_Z below #[Value.ref b] s) (F0 m 757 ls [])) {X M : St} {H : Heap} {locs : List Loc} (hsim : Sim X M) (J : lJ D cs ux um s X M H locs) {ls : Array Slot} (hl : lv_has ls 4 [(0, .ref b), (1, .ref (ux 0)), (2, .ref (um 0)), (3, .int x3)]) : W p l e room_1 s m #[Value.ref b] below meth c H locs 54 2102 (lw_Z below #[Value.ref b] s) (F0 m 579 ls []) := by
  obtain ⟨hx, hb, hml, -, -⟩ := id C0
  obtain ⟨r, X2, M2, e1, e2, hs⟩ := HO.2.2.2.2.2.2.2.2.2.2.2.2.2.2.2.1 X M (xs (Int32.toNatClampNeg (x3 + 1))) (xs (Int32.toNatClampNeg (x3 + 2))) (xs (Int32.toNatClampNeg (x3 + 3))) hsim
  refine lv_aload_n hx hb dL_law_579 rfl (lv_at hl 1 rfl) ?_
  refine lv_aload_n hx hb dL_law_580 rfl (lv_at hl 0 rfl) ?_
  refine lv_iload_n hx hb dL_law_581 rfl (lv_at hl 3 rfl) ?_
  refine lv_iconst (v := 1) hx hb dL_law_582 (by decide) ?_
  refine lv_iadd hx hb dL_law_583 ?_
  refine va_sld hx hb hX hbl hbA J.2.2.2 (law_in hL ex3 hlt 1 (by decide)) dL_law_584 ?_
  refine lv_aload_n hx hb dL_law_585 rfl (lv_at hl 0 rfl) ?_
  refine lv_iload_n hx hb dL_law_586 rfl (lv_at hl 3 rfl) ?_
  refine lv_iconst (v := 2) hx hb dL_law_587 (by decide) ?_
  refine lv_iadd hx hb dL_law_588 ?_
  refine va_sld hx hb hX hbl hbA J.2.2.2 (law_in hL ex3 hlt 2 (by decide)) dL_law_589 ?_
  refine lv_aload_n hx hb dL_law_590 rfl (lv_at hl 0 rfl) ?_
  refine lv_iload_n hx hb dL_law_591 rfl (lv_at hl 3 rfl) ?_
  refine lv_iconst (v := 3) hx hb dL_law_592 (by decide) ?_
  refine lv_iadd hx hb dL_law_593 ?_
  refine va_sld hx hb hX hbl hbA J.2.2.2 (law_in hL ex3 hlt 3 (by decide)) dL_law_594 ?_
  refine law_cx_i (As := [.int (xs (Int32.toNatClampNeg (x3 + 1))), .int (xs (Int32.toNatClampNeg (x3 + 2))), .int (xs (Int32.toNatClampNeg (x3 + 3)))]) C0 J (kX6_ran (g := (D, cs, ux)) e1) (cwV 3 C0.2.2.2.2 (gwV wd_516 wd_517 wd_518 wd_66 wd_519) rfl rfl rfl dsc_X6_ran ⟨Nat.le_of_ble_eq_true rfl, Nat.le_of_ble_eq_true rfl⟩) rfl hl.1 rfl (Nat.le_of_ble_eq_true rfl) dL_law_595 (Nat.le_of_ble_eq_true rfl) (Nat.le_of_ble_eq_true rfl) (fun H locs J => ?_)
  refine lv_aload_n hx hb dL_law_598 rfl (lv_at hl 2 rfl) ?_
  refine lv_aload_n hx hb dL_law_599 rfl (lv_at hl 0 rfl) ?_
  refine lv_iload_n hx hb dL_law_600 rfl (lv_at hl 3 rfl) ?_
  refine lv_iconst (v := 1) hx hb dL_law_601 (by decide) ?_
  refine lv_iadd hx hb dL_law_602 ?_
  refine va_sld hx hb hX hbl hbA J.2.2.2 (law_in hL ex3 hlt 1 (by decide)) dL_law_603 ?_
  refine lv_aload_n hx hb dL_law_604 rfl (lv_at hl 0 rfl) ?_
  refine lv_iload_n hx hb dL_law_605 rfl (lv_at hl 3 rfl) ?_
  refine lv_iconst (v := 2) hx hb dL_law_606 (by decide) ?_
  refine lv_iadd hx hb dL_law_607 ?_
  refine va_sld hx hb hX hbl hbA J.2.2.2 (law_in hL ex3 hlt 2 (by decide)) dL_law_608 ?_
  refine lv_aload_n hx hb dL_law_609 rfl (lv_at hl 0 rfl) ?_
  refine lv_iload_n hx hb dL_law_610 rfl (lv_at hl 3 rfl) ?_
  refine lv_iconst (v := 3) hx hb dL_law_611 (by decide) ?_
  refine lv_iadd hx hb dL_law_612 ?_
  refine va_sld hx hb hX hbl hbA J.2.2.2 (law_in hL ex3 hlt 3 (by decide)) dL_law_613 ?_
  refine law_cm_i (As := [.int (xs (Int32.toNatClampNeg (x3 + 1))), .int (xs (Int32.toNatClampNeg (x3 + 2))), .int (xs (Int32.toNatClampNeg (x3 + 3)))]) C0 J (kX7_ran (g := (D, cs, um)) e2) (cwV 3 C0.2.2.2.2 (gwV wd_915 wd_916 wd_917 wd_73 wd_918) rfl rfl rfl dsc_X7_ran ⟨Nat.le_of_ble_eq_true rfl, Nat.le_of_ble_eq_true rfl⟩) rfl hl.1 rfl (Nat.le_of_ble_eq_true rfl) dL_law_614 (Nat.le_of_ble_eq_true rfl) (Nat.le_of_ble_eq_true rfl) (fun H locs J => ?_)
  refine lv_icmp_eq (tgt := 757) hx hb dL_law_617 (by decide) (fun c1 => ?_) (fun c1 => absurd rfl c1)
  exact K X2 M2 H locs hs J ls hl
set_option maxHeartbeats 4000000 in
set_option maxRecDepth 100000 in
theorem law_case_16 {p : Program} {l : Launch} {e : Env} {s : State} {m : MethodId} {below : List Frame} {meth : Method} {c : Code} {D : va_G} {cs : Nat → ClassId} {ux um : Nat → Nat} {b L : Nat} {xs : Nat → Int32} {Sim : St → St → Prop} (HO : Ops Sim) (hL : L ≤ 2560) (C0 : CallFix p m c code 4 s #[Value.ref b] big R_law) (hX : va_X b L xs s s.heap) (hbl : b < s.heap.size) (hbA : ¬ lA s b) {x3 : Int32} {ii : Nat} (ex3 : x3 = nI ii) (hlt : ii + 5 ≤ L) (K : ∀ (X M : St) (H : Heap) (locs : List Loc), Sim X M → lJ D cs ux um s X M H locs → ∀ (ls : Array Slot), lv_has ls 4 [(0, .ref b), (1, .ref (ux 0)), (2, .ref (um 0)), (3, .int x3)] → W p l e room_1 s m #[Value.ref b] below meth c H locs 54 2102 (lw_Z below #[Value.ref b] s) (F0 m 757 ls [])) {X M : St} {H : Heap} {locs : List Loc} (hsim : Sim X M) (J : lJ D cs ux um s X M H locs) {ls : Array Slot} (hl : lv_has ls 4 [(0, .ref b), (1, .ref (ux 0)), (2, .ref (um 0)), (3, .int x3)]) : W p l e room_1 s m #[Value.ref b] below meth c H locs 54 2102 (lw_Z below #[Value.ref b] s) (F0 m 622 ls []) := by
  obtain ⟨hx, hb, hml, -, -⟩ := id C0
  obtain ⟨r, X2, M2, e1, e2, hs⟩ := HO.2.2.2.2.2.2.2.2.2.2.2.2.2.2.2.2.1 X M (xs (Int32.toNatClampNeg (x3 + 1))) hsim
  refine lv_aload_n hx hb dL_law_622 rfl (lv_at hl 1 rfl) ?_
  refine lv_aload_n hx hb dL_law_623 rfl (lv_at hl 0 rfl) ?_
  refine lv_iload_n hx hb dL_law_624 rfl (lv_at hl 3 rfl) ?_
  refine lv_iconst (v := 1) hx hb dL_law_625 (by decide) ?_
  refine lv_iadd hx hb dL_law_626 ?_
  refine va_sld hx hb hX hbl hbA J.2.2.2 (law_in hL ex3 hlt 1 (by decide)) dL_law_627 ?_
  refine law_cx_i (As := [.int (xs (Int32.toNatClampNeg (x3 + 1)))]) C0 J (kX6_best (g := (D, cs, ux)) e1) (cwV 1 C0.2.2.2.2 (gwV wd_520 wd_521 wd_522 wd_66 wd_523) rfl rfl rfl dsc_X6_best ⟨Nat.le_of_ble_eq_true rfl, Nat.le_of_ble_eq_true rfl⟩) rfl hl.1 rfl (Nat.le_of_ble_eq_true rfl) dL_law_628 (Nat.le_of_ble_eq_true rfl) (Nat.le_of_ble_eq_true rfl) (fun H locs J => ?_)
  refine lv_aload_n hx hb dL_law_631 rfl (lv_at hl 2 rfl) ?_
  refine lv_aload_n hx hb dL_law_632 rfl (lv_at hl 0 rfl) ?_
  refine lv_iload_n hx hb dL_law_633 rfl (lv_at hl 3 rfl) ?_
  refine lv_iconst (v := 1) hx hb dL_law_634 (by decide) ?_
  refine lv_iadd hx hb dL_law_635 ?_
  refine va_sld hx hb hX hbl hbA J.2.2.2 (law_in hL ex3 hlt 1 (by decide)) dL_law_636 ?_
  refine law_cm_i (As := [.int (xs (Int32.toNatClampNeg (x3 + 1)))]) C0 J (kX7_best (g := (D, cs, um)) e2) (cwV 1 C0.2.2.2.2 (gwV wd_919 wd_920 wd_921 wd_73 wd_922) rfl rfl rfl dsc_X7_best ⟨Nat.le_of_ble_eq_true rfl, Nat.le_of_ble_eq_true rfl⟩) rfl hl.1 rfl (Nat.le_of_ble_eq_true rfl) dL_law_637 (Nat.le_of_ble_eq_true rfl) (Nat.le_of_ble_eq_true rfl) (fun H locs J => ?_)
  refine lv_icmp_eq (tgt := 757) hx hb dL_law_640 (by decide) (fun c1 => ?_) (fun c1 => absurd rfl c1)
  exact K X2 M2 H locs hs J ls hl
set_option maxHeartbeats 4000000 in
set_option maxRecDepth 100000 in
theorem law_case_17 {p : Program} {l : Launch} {e : Env} {s : State} {m : MethodId} {below : List Frame} {meth : Method} {c : Code} {D : va_G} {cs : Nat → ClassId} {ux um : Nat → Nat} {b L : Nat} {xs : Nat → Int32} {Sim : St → St → Prop} (HO : Ops Sim) (hL : L ≤ 2560) (C0 : CallFix p m c code 4 s #[Value.ref b] big R_law) (hX : va_X b L xs s s.heap) (hbl : b < s.heap.size) (hbA : ¬ lA s b) {x3 : Int32} {ii : Nat} (ex3 : x3 = nI ii) (hlt : ii + 5 ≤ L) (K : ∀ (X M : St) (H : Heap) (locs : List Loc), Sim X M → lJ D cs ux um s X M H locs → ∀ (ls : Array Slot), lv_has ls 4 [(0, .ref b), (1, .ref (ux 0)), (2, .ref (um 0)), (3, .int x3)] → W p l e room_1 s m #[Value.ref b] below meth c H locs 54 2102 (lw_Z below #[Value.ref b] s) (F0 m 757 ls [])) {X M : St} {H : Heap} {locs : List Loc} (hsim : Sim X M) (J : lJ D cs ux um s X M H locs) {ls : Array Slot} (hl : lv_has ls 4 [(0, .ref b), (1, .ref (ux 0)), (2, .ref (um 0)), (3, .int x3)]) : W p l e room_1 s m #[Value.ref b] below meth c H locs 54 2102 (lw_Z below #[Value.ref b] s) (F0 m 645 ls []) := by
  obtain ⟨hx, hb, hml, -, -⟩ := id C0
  obtain ⟨r, X2, M2, e1, e2, hs⟩ := HO.2.2.2.2.2.2.2.2.2.2.2.2.2.2.2.2.2.1 X M  hsim
  refine lv_aload_n hx hb dL_law_645 rfl (lv_at hl 1 rfl) ?_
  refine law_cx_i (As := []) C0 J (kX6_straight (g := (D, cs, ux)) e1) (cwV 0 C0.2.2.2.2 (gwV wd_524 wd_525 wd_526 wd_66 wd_527) rfl rfl rfl dsc_X6_straight ⟨Nat.le_of_ble_eq_true rfl, Nat.le_of_ble_eq_true rfl⟩) rfl hl.1 rfl (Nat.le_of_ble_eq_true rfl) dL_law_646 (Nat.le_of_ble_eq_true rfl) (Nat.le_of_ble_eq_true rfl) (fun H locs J => ?_)
  refine lv_aload_n hx hb dL_law_649 rfl (lv_at hl 2 rfl) ?_
  refine law_cm_i (As := []) C0 J (kX7_straight (g := (D, cs, um)) e2) (cwV 0 C0.2.2.2.2 (gwV wd_923 wd_924 wd_925 wd_73 wd_926) rfl rfl rfl dsc_X7_straight ⟨Nat.le_of_ble_eq_true rfl, Nat.le_of_ble_eq_true rfl⟩) rfl hl.1 rfl (Nat.le_of_ble_eq_true rfl) dL_law_650 (Nat.le_of_ble_eq_true rfl) (Nat.le_of_ble_eq_true rfl) (fun H locs J => ?_)
  refine lv_icmp_eq (tgt := 757) hx hb dL_law_653 (by decide) (fun c1 => ?_) (fun c1 => absurd rfl c1)
  exact K X2 M2 H locs hs J ls hl
set_option maxHeartbeats 4000000 in
set_option maxRecDepth 100000 in
theorem law_case_18 {p : Program} {l : Launch} {e : Env} {s : State} {m : MethodId} {below : List Frame} {meth : Method} {c : Code} {D : va_G} {cs : Nat → ClassId} {ux um : Nat → Nat} {b L : Nat} {xs : Nat → Int32} {Sim : St → St → Prop} (HO : Ops Sim) (hL : L ≤ 2560) (C0 : CallFix p m c code 4 s #[Value.ref b] big R_law) (hX : va_X b L xs s s.heap) (hbl : b < s.heap.size) (hbA : ¬ lA s b) {x3 : Int32} {ii : Nat} (ex3 : x3 = nI ii) (hlt : ii + 5 ≤ L) (K : ∀ (X M : St) (H : Heap) (locs : List Loc), Sim X M → lJ D cs ux um s X M H locs → ∀ (ls : Array Slot), lv_has ls 4 [(0, .ref b), (1, .ref (ux 0)), (2, .ref (um 0)), (3, .int x3)] → W p l e room_1 s m #[Value.ref b] below meth c H locs 54 2102 (lw_Z below #[Value.ref b] s) (F0 m 757 ls [])) {X M : St} {H : Heap} {locs : List Loc} (hsim : Sim X M) (J : lJ D cs ux um s X M H locs) {ls : Array Slot} (hl : lv_has ls 4 [(0, .ref b), (1, .ref (ux 0)), (2, .ref (um 0)), (3, .int x3)]) : W p l e room_1 s m #[Value.ref b] below meth c H locs 54 2102 (lw_Z below #[Value.ref b] s) (F0 m 658 ls []) := by
  obtain ⟨hx, hb, hml, -, -⟩ := id C0
  obtain ⟨r, X2, M2, e1, e2, hs⟩ := HO.2.2.2.2.2.2.2.2.2.2.2.2.2.2.2.2.2.2.1 X M (xs (Int32.toNatClampNeg (x3 + 1))) hsim
  refine lv_aload_n hx hb dL_law_658 rfl (lv_at hl 1 rfl) ?_
  refine lv_aload_n hx hb dL_law_659 rfl (lv_at hl 0 rfl) ?_
  refine lv_iload_n hx hb dL_law_660 rfl (lv_at hl 3 rfl) ?_
  refine lv_iconst (v := 1) hx hb dL_law_661 (by decide) ?_
  refine lv_iadd hx hb dL_law_662 ?_
  refine va_sld hx hb hX hbl hbA J.2.2.2 (law_in hL ex3 hlt 1 (by decide)) dL_law_663 ?_
  refine law_cx_i (As := [.int (xs (Int32.toNatClampNeg (x3 + 1)))]) C0 J (kX6_type (g := (D, cs, ux)) e1) (cwV 1 C0.2.2.2.2 (gwV wd_528 wd_529 wd_530 wd_66 wd_531) rfl rfl rfl dsc_X6_type ⟨Nat.le_of_ble_eq_true rfl, Nat.le_of_ble_eq_true rfl⟩) rfl hl.1 rfl (Nat.le_of_ble_eq_true rfl) dL_law_664 (Nat.le_of_ble_eq_true rfl) (Nat.le_of_ble_eq_true rfl) (fun H locs J => ?_)
  refine lv_aload_n hx hb dL_law_667 rfl (lv_at hl 2 rfl) ?_
  refine lv_aload_n hx hb dL_law_668 rfl (lv_at hl 0 rfl) ?_
  refine lv_iload_n hx hb dL_law_669 rfl (lv_at hl 3 rfl) ?_
  refine lv_iconst (v := 1) hx hb dL_law_670 (by decide) ?_
  refine lv_iadd hx hb dL_law_671 ?_
  refine va_sld hx hb hX hbl hbA J.2.2.2 (law_in hL ex3 hlt 1 (by decide)) dL_law_672 ?_
  refine law_cm_i (As := [.int (xs (Int32.toNatClampNeg (x3 + 1)))]) C0 J (kX7_type (g := (D, cs, um)) e2) (cwV 1 C0.2.2.2.2 (gwV wd_927 wd_928 wd_929 wd_73 wd_930) rfl rfl rfl dsc_X7_type ⟨Nat.le_of_ble_eq_true rfl, Nat.le_of_ble_eq_true rfl⟩) rfl hl.1 rfl (Nat.le_of_ble_eq_true rfl) dL_law_673 (Nat.le_of_ble_eq_true rfl) (Nat.le_of_ble_eq_true rfl) (fun H locs J => ?_)
  refine lv_icmp_eq (tgt := 757) hx hb dL_law_676 (by decide) (fun c1 => ?_) (fun c1 => absurd rfl c1)
  exact K X2 M2 H locs hs J ls hl
set_option maxHeartbeats 4000000 in
set_option maxRecDepth 100000 in
theorem law_case_19 {p : Program} {l : Launch} {e : Env} {s : State} {m : MethodId} {below : List Frame} {meth : Method} {c : Code} {D : va_G} {cs : Nat → ClassId} {ux um : Nat → Nat} {b L : Nat} {xs : Nat → Int32} {Sim : St → St → Prop} (HO : Ops Sim) (hL : L ≤ 2560) (C0 : CallFix p m c code 4 s #[Value.ref b] big R_law) (hX : va_X b L xs s s.heap) (hbl : b < s.heap.size) (hbA : ¬ lA s b) {x3 : Int32} {ii : Nat} (ex3 : x3 = nI ii) (hlt : ii + 5 ≤ L) (K : ∀ (X M : St) (H : Heap) (locs : List Loc), Sim X M → lJ D cs ux um s X M H locs → ∀ (ls : Array Slot), lv_has ls 4 [(0, .ref b), (1, .ref (ux 0)), (2, .ref (um 0)), (3, .int x3)] → W p l e room_1 s m #[Value.ref b] below meth c H locs 54 2102 (lw_Z below #[Value.ref b] s) (F0 m 757 ls [])) {X M : St} {H : Heap} {locs : List Loc} (hsim : Sim X M) (J : lJ D cs ux um s X M H locs) {ls : Array Slot} (hl : lv_has ls 4 [(0, .ref b), (1, .ref (ux 0)), (2, .ref (um 0)), (3, .int x3)]) : W p l e room_1 s m #[Value.ref b] below meth c H locs 54 2102 (lw_Z below #[Value.ref b] s) (F0 m 681 ls []) := by
  obtain ⟨hx, hb, hml, -, -⟩ := id C0
  obtain ⟨r, X2, M2, e1, e2, hs⟩ := HO.2.2.2.2.2.2.2.2.2.2.2.2.2.2.2.2.2.2.2.1 X M  hsim
  refine lv_aload_n hx hb dL_law_681 rfl (lv_at hl 1 rfl) ?_
  refine law_cx_i (As := []) C0 J (kX6_clear (g := (D, cs, ux)) e1) (cwV 0 C0.2.2.2.2 (gwV wd_536 wd_537 wd_538 wd_66 wd_539) rfl rfl rfl dsc_X6_clear ⟨Nat.le_of_ble_eq_true rfl, Nat.le_of_ble_eq_true rfl⟩) rfl hl.1 rfl (Nat.le_of_ble_eq_true rfl) dL_law_682 (Nat.le_of_ble_eq_true rfl) (Nat.le_of_ble_eq_true rfl) (fun H locs J => ?_)
  refine lv_aload_n hx hb dL_law_685 rfl (lv_at hl 2 rfl) ?_
  refine law_cm_i (As := []) C0 J (kX7_clear (g := (D, cs, um)) e2) (cwV 0 C0.2.2.2.2 (gwV wd_931 wd_932 wd_933 wd_73 wd_934) rfl rfl rfl dsc_X7_clear ⟨Nat.le_of_ble_eq_true rfl, Nat.le_of_ble_eq_true rfl⟩) rfl hl.1 rfl (Nat.le_of_ble_eq_true rfl) dL_law_686 (Nat.le_of_ble_eq_true rfl) (Nat.le_of_ble_eq_true rfl) (fun H locs J => ?_)
  refine lv_icmp_eq (tgt := 757) hx hb dL_law_689 (by decide) (fun c1 => ?_) (fun c1 => absurd rfl c1)
  exact K X2 M2 H locs hs J ls hl
set_option maxHeartbeats 4000000 in
set_option maxRecDepth 100000 in
theorem law_case_20 {p : Program} {l : Launch} {e : Env} {s : State} {m : MethodId} {below : List Frame} {meth : Method} {c : Code} {D : va_G} {cs : Nat → ClassId} {ux um : Nat → Nat} {b L : Nat} {xs : Nat → Int32} {Sim : St → St → Prop} (HO : Ops Sim) (hL : L ≤ 2560) (C0 : CallFix p m c code 4 s #[Value.ref b] big R_law) (hX : va_X b L xs s s.heap) (hbl : b < s.heap.size) (hbA : ¬ lA s b) {x3 : Int32} {ii : Nat} (ex3 : x3 = nI ii) (hlt : ii + 5 ≤ L) (K : ∀ (X M : St) (H : Heap) (locs : List Loc), Sim X M → lJ D cs ux um s X M H locs → ∀ (ls : Array Slot), lv_has ls 4 [(0, .ref b), (1, .ref (ux 0)), (2, .ref (um 0)), (3, .int x3)] → W p l e room_1 s m #[Value.ref b] below meth c H locs 54 2102 (lw_Z below #[Value.ref b] s) (F0 m 757 ls [])) {X M : St} {H : Heap} {locs : List Loc} (hsim : Sim X M) (J : lJ D cs ux um s X M H locs) {ls : Array Slot} (hl : lv_has ls 4 [(0, .ref b), (1, .ref (ux 0)), (2, .ref (um 0)), (3, .int x3)]) : W p l e room_1 s m #[Value.ref b] below meth c H locs 54 2102 (lw_Z below #[Value.ref b] s) (F0 m 694 ls []) := by
  obtain ⟨hx, hb, hml, -, -⟩ := id C0
  obtain ⟨r, X2, M2, e1, e2, hs⟩ := HO.2.2.2.2.2.2.2.2.2.2.2.2.2.2.2.2.2.2.2.2.1 X M  hsim
  refine lv_aload_n hx hb dL_law_694 rfl (lv_at hl 1 rfl) ?_
  refine law_cx_i (As := []) C0 J (kX6_reads (g := (D, cs, ux)) e1) (cwV 0 C0.2.2.2.2 (gwV wd_540 wd_541 wd_542 wd_66 wd_543) rfl rfl rfl dsc_X6_reads ⟨Nat.le_of_ble_eq_true rfl, Nat.le_of_ble_eq_true rfl⟩) rfl hl.1 rfl (Nat.le_of_ble_eq_true rfl) dL_law_695 (Nat.le_of_ble_eq_true rfl) (Nat.le_of_ble_eq_true rfl) (fun H locs J => ?_)
  refine lv_aload_n hx hb dL_law_698 rfl (lv_at hl 2 rfl) ?_
  refine law_cm_i (As := []) C0 J (kX7_reads (g := (D, cs, um)) e2) (cwV 0 C0.2.2.2.2 (gwV wd_935 wd_936 wd_937 wd_73 wd_938) rfl rfl rfl dsc_X7_reads ⟨Nat.le_of_ble_eq_true rfl, Nat.le_of_ble_eq_true rfl⟩) rfl hl.1 rfl (Nat.le_of_ble_eq_true rfl) dL_law_699 (Nat.le_of_ble_eq_true rfl) (Nat.le_of_ble_eq_true rfl) (fun H locs J => ?_)
  refine lv_icmp_eq (tgt := 757) hx hb dL_law_702 (by decide) (fun c1 => ?_) (fun c1 => absurd rfl c1)
  exact K X2 M2 H locs hs J ls hl
set_option maxHeartbeats 4000000 in
set_option maxRecDepth 100000 in
theorem law_case_21 {p : Program} {l : Launch} {e : Env} {s : State} {m : MethodId} {below : List Frame} {meth : Method} {c : Code} {D : va_G} {cs : Nat → ClassId} {ux um : Nat → Nat} {b L : Nat} {xs : Nat → Int32} {Sim : St → St → Prop} (HO : Ops Sim) (hL : L ≤ 2560) (C0 : CallFix p m c code 4 s #[Value.ref b] big R_law) (hX : va_X b L xs s s.heap) (hbl : b < s.heap.size) (hbA : ¬ lA s b) {x3 : Int32} {ii : Nat} (ex3 : x3 = nI ii) (hlt : ii + 5 ≤ L) (K : ∀ (X M : St) (H : Heap) (locs : List Loc), Sim X M → lJ D cs ux um s X M H locs → ∀ (ls : Array Slot), lv_has ls 4 [(0, .ref b), (1, .ref (ux 0)), (2, .ref (um 0)), (3, .int x3)] → W p l e room_1 s m #[Value.ref b] below meth c H locs 54 2102 (lw_Z below #[Value.ref b] s) (F0 m 757 ls [])) {X M : St} {H : Heap} {locs : List Loc} (hsim : Sim X M) (J : lJ D cs ux um s X M H locs) {ls : Array Slot} (hl : lv_has ls 4 [(0, .ref b), (1, .ref (ux 0)), (2, .ref (um 0)), (3, .int x3)]) : W p l e room_1 s m #[Value.ref b] below meth c H locs 54 2102 (lw_Z below #[Value.ref b] s) (F0 m 707 ls []) := by
  obtain ⟨hx, hb, hml, -, -⟩ := id C0
  obtain ⟨r, X2, M2, e1, e2, hs⟩ := HO.2.2.2.2.2.2.2.2.2.2.2.2.2.2.2.2.2.2.2.2.2.1 X M  hsim
  refine lv_aload_n hx hb dL_law_707 rfl (lv_at hl 1 rfl) ?_
  refine law_cx_i (As := []) C0 J (kX6_back (g := (D, cs, ux)) e1) (cwV 0 C0.2.2.2.2 (gwV wd_577 wd_578 wd_579 wd_66 wd_580) rfl rfl rfl dsc_X6_back ⟨Nat.le_of_ble_eq_true rfl, Nat.le_of_ble_eq_true rfl⟩) rfl hl.1 rfl (Nat.le_of_ble_eq_true rfl) dL_law_708 (Nat.le_of_ble_eq_true rfl) (Nat.le_of_ble_eq_true rfl) (fun H locs J => ?_)
  refine lv_aload_n hx hb dL_law_711 rfl (lv_at hl 2 rfl) ?_
  refine law_cm_i (As := []) C0 J (kX7_back (g := (D, cs, um)) e2) (cwV 0 C0.2.2.2.2 (gwV wd_690 wd_691 wd_692 wd_73 wd_693) rfl rfl rfl dsc_X7_back ⟨Nat.le_of_ble_eq_true rfl, Nat.le_of_ble_eq_true rfl⟩) rfl hl.1 rfl (Nat.le_of_ble_eq_true rfl) dL_law_712 (Nat.le_of_ble_eq_true rfl) (Nat.le_of_ble_eq_true rfl) (fun H locs J => ?_)
  refine lv_icmp_eq (tgt := 757) hx hb dL_law_715 (by decide) (fun c1 => ?_) (fun c1 => absurd rfl c1)
  exact K X2 M2 H locs hs J ls hl
set_option maxHeartbeats 4000000 in
set_option maxRecDepth 100000 in
theorem law_case_22 {p : Program} {l : Launch} {e : Env} {s : State} {m : MethodId} {below : List Frame} {meth : Method} {c : Code} {D : va_G} {cs : Nat → ClassId} {ux um : Nat → Nat} {b L : Nat} {xs : Nat → Int32} {Sim : St → St → Prop} (HO : Ops Sim) (hL : L ≤ 2560) (C0 : CallFix p m c code 4 s #[Value.ref b] big R_law) (hX : va_X b L xs s s.heap) (hbl : b < s.heap.size) (hbA : ¬ lA s b) {x3 : Int32} {ii : Nat} (ex3 : x3 = nI ii) (hlt : ii + 5 ≤ L) (K : ∀ (X M : St) (H : Heap) (locs : List Loc), Sim X M → lJ D cs ux um s X M H locs → ∀ (ls : Array Slot), lv_has ls 4 [(0, .ref b), (1, .ref (ux 0)), (2, .ref (um 0)), (3, .int x3)] → W p l e room_1 s m #[Value.ref b] below meth c H locs 54 2102 (lw_Z below #[Value.ref b] s) (F0 m 757 ls [])) {X M : St} {H : Heap} {locs : List Loc} (hsim : Sim X M) (J : lJ D cs ux um s X M H locs) {ls : Array Slot} (hl : lv_has ls 4 [(0, .ref b), (1, .ref (ux 0)), (2, .ref (um 0)), (3, .int x3)]) : W p l e room_1 s m #[Value.ref b] below meth c H locs 54 2102 (lw_Z below #[Value.ref b] s) (F0 m 720 ls []) := by
  obtain ⟨hx, hb, hml, -, -⟩ := id C0
  obtain ⟨r, X2, M2, e1, e2, hs⟩ := HO.2.2.2.2.2.2.2.2.2.2.2.2.2.2.2.2.2.2.2.2.2.2.1 X M (xs (Int32.toNatClampNeg (x3 + 1))) hsim
  refine lv_aload_n hx hb dL_law_720 rfl (lv_at hl 1 rfl) ?_
  refine lv_aload_n hx hb dL_law_721 rfl (lv_at hl 0 rfl) ?_
  refine lv_iload_n hx hb dL_law_722 rfl (lv_at hl 3 rfl) ?_
  refine lv_iconst (v := 1) hx hb dL_law_723 (by decide) ?_
  refine lv_iadd hx hb dL_law_724 ?_
  refine va_sld hx hb hX hbl hbA J.2.2.2 (law_in hL ex3 hlt 1 (by decide)) dL_law_725 ?_
  refine law_cx_i (As := [.int (xs (Int32.toNatClampNeg (x3 + 1)))]) C0 J (kX6_told (g := (D, cs, ux)) e1) (cwV 1 C0.2.2.2.2 (gwV wd_585 wd_586 wd_587 wd_66 wd_588) rfl rfl rfl dsc_X6_told ⟨Nat.le_of_ble_eq_true rfl, Nat.le_of_ble_eq_true rfl⟩) rfl hl.1 rfl (Nat.le_of_ble_eq_true rfl) dL_law_726 (Nat.le_of_ble_eq_true rfl) (Nat.le_of_ble_eq_true rfl) (fun H locs J => ?_)
  refine lv_aload_n hx hb dL_law_729 rfl (lv_at hl 2 rfl) ?_
  refine lv_aload_n hx hb dL_law_730 rfl (lv_at hl 0 rfl) ?_
  refine lv_iload_n hx hb dL_law_731 rfl (lv_at hl 3 rfl) ?_
  refine lv_iconst (v := 1) hx hb dL_law_732 (by decide) ?_
  refine lv_iadd hx hb dL_law_733 ?_
  refine va_sld hx hb hX hbl hbA J.2.2.2 (law_in hL ex3 hlt 1 (by decide)) dL_law_734 ?_
  refine law_cm_i (As := [.int (xs (Int32.toNatClampNeg (x3 + 1)))]) C0 J (kX7_told (g := (D, cs, um)) e2) (cwV 1 C0.2.2.2.2 (gwV wd_963 wd_964 wd_965 wd_73 wd_966) rfl rfl rfl dsc_X7_told ⟨Nat.le_of_ble_eq_true rfl, Nat.le_of_ble_eq_true rfl⟩) rfl hl.1 rfl (Nat.le_of_ble_eq_true rfl) dL_law_735 (Nat.le_of_ble_eq_true rfl) (Nat.le_of_ble_eq_true rfl) (fun H locs J => ?_)
  refine lv_icmp_eq (tgt := 757) hx hb dL_law_738 (by decide) (fun c1 => ?_) (fun c1 => absurd rfl c1)
  exact K X2 M2 H locs hs J ls hl
set_option maxHeartbeats 4000000 in
set_option maxRecDepth 100000 in
theorem law_case_23 {p : Program} {l : Launch} {e : Env} {s : State} {m : MethodId} {below : List Frame} {meth : Method} {c : Code} {D : va_G} {cs : Nat → ClassId} {ux um : Nat → Nat} {b L : Nat} {xs : Nat → Int32} {Sim : St → St → Prop} (HO : Ops Sim) (hL : L ≤ 2560) (C0 : CallFix p m c code 4 s #[Value.ref b] big R_law) (hX : va_X b L xs s s.heap) (hbl : b < s.heap.size) (hbA : ¬ lA s b) {x3 : Int32} {ii : Nat} (ex3 : x3 = nI ii) (hlt : ii + 5 ≤ L) (K : ∀ (X M : St) (H : Heap) (locs : List Loc), Sim X M → lJ D cs ux um s X M H locs → ∀ (ls : Array Slot), lv_has ls 4 [(0, .ref b), (1, .ref (ux 0)), (2, .ref (um 0)), (3, .int x3)] → W p l e room_1 s m #[Value.ref b] below meth c H locs 54 2102 (lw_Z below #[Value.ref b] s) (F0 m 757 ls [])) {X M : St} {H : Heap} {locs : List Loc} (hsim : Sim X M) (J : lJ D cs ux um s X M H locs) {ls : Array Slot} (hl : lv_has ls 4 [(0, .ref b), (1, .ref (ux 0)), (2, .ref (um 0)), (3, .int x3)]) : W p l e room_1 s m #[Value.ref b] below meth c H locs 54 2102 (lw_Z below #[Value.ref b] s) (F0 m 743 ls []) := by
  obtain ⟨hx, hb, hml, -, -⟩ := id C0
  obtain ⟨r, X2, M2, e1, e2, hs⟩ := HO.2.2.2.2.2.2.2.2.2.2.2.2.2.2.2.2.2.2.2.2.2.2.2 X M  hsim
  refine lv_aload_n hx hb dL_law_743 rfl (lv_at hl 1 rfl) ?_
  refine law_cx_l (As := []) C0 J (kX6_digest (g := (D, cs, ux)) e1) (cwV 0 C0.2.2.2.2 (gwV wd_589 wd_590 wd_591 wd_66 wd_592) rfl rfl rfl dsc_X6_digest ⟨Nat.le_of_ble_eq_true rfl, Nat.le_of_ble_eq_true rfl⟩) rfl hl.1 rfl (Nat.le_of_ble_eq_true rfl) dL_law_744 (Nat.le_of_ble_eq_true rfl) (Nat.le_of_ble_eq_true rfl) (fun H locs J => ?_)
  refine lv_aload_n hx hb dL_law_747 rfl (lv_at hl 2 rfl) ?_
  refine law_cm_l (As := []) C0 J (kX7_digest (g := (D, cs, um)) e2) (cwV 0 C0.2.2.2.2 (gwV wd_971 wd_972 wd_973 wd_73 wd_974) rfl rfl rfl dsc_X7_digest ⟨Nat.le_of_ble_eq_true rfl, Nat.le_of_ble_eq_true rfl⟩) rfl hl.1 rfl (Nat.le_of_ble_eq_true rfl) dL_law_748 (Nat.le_of_ble_eq_true rfl) (Nat.le_of_ble_eq_true rfl) (fun H locs J => ?_)
  refine W.lcmp hx hb dL_law_751 ?_
  refine lv_if_eq (tgt := 757) hx hb dL_law_752 (by decide) (fun c1 => ?_) (fun c1 => absurd (by simp [lg_cmp]) c1)
  exact K X2 M2 H locs hs J ls hl
set_option maxHeartbeats 4000000 in
set_option maxRecDepth 100000 in
theorem law_loop {p : Program} {l : Launch} {e : Env} {s : State} {m : MethodId} {below : List Frame} {meth : Method} {c : Code} {D : va_G} {cs : Nat → ClassId} {ux um : Nat → Nat} {b L : Nat} {xs : Nat → Int32} {Sim : St → St → Prop} (HO : Ops Sim) (hL : L ≤ 2560) (hr : meth.sig.returnType = ret) (hlocks : meth.locks = false) (C0 : CallFix p m c code 4 s #[Value.ref b] big R_law) (hX : va_X b L xs s s.heap) (hbl : b < s.heap.size) :
    ∀ (n ii : Nat) (x3 : Int32), ii ≤ L + 5 → L + 5 < ii + 5 * n + 1 → x3 = nI ii → ∀ (X M : St) (H : Heap) (locs : List Loc), Sim X M → lJ D cs ux um s X M H locs → ∀ (ls : Array Slot), lv_has ls 4 [(0, .ref b), (1, .ref (ux 0)), (2, .ref (um 0)), (3, .int x3)] → W p l e room_1 s m #[Value.ref b] below meth c H locs 54 2102 (lw_Z below #[Value.ref b] s) (F0 m 18 ls []) := by
  obtain ⟨hx, hb, hml, -, -⟩ := id C0
  have hbA : ¬ lA s b := Nat.not_le.mpr hbl
  intro n
  induction n with
  | zero =>
    intro ii x3 h1 h2 ex3 X M H locs hsim J ls hl
    refine lv_iload_n hx hb dL_law_18 rfl (lv_at hl 3 rfl) ?_
    refine lv_aload_n hx hb dL_law_19 rfl (lv_at hl 0 rfl) ?_
    refine va_slen hx hb hX hbl hbA J.2.2.2 dL_law_20 ?_
    refine lv_iconst (v := 5) hx hb dL_law_21 (by decide) ?_
    refine lv_isub hx hb dL_law_22 ?_
    refine lv_icmp_gt (tgt := 763) hx hb dL_law_23 (by decide) (fun c1 => ?_) (fun c1 => ?_)
    · refine lv_iconst (v := 1) hx hb dL_law_763 (by decide) ?_
      refine va_forget (fun q hq => J.2.2.2.2.2 q hq) ?_
      refine W.widen (k := 600000) (n := 7302249) (Nat.le_of_ble_eq_true rfl) (Nat.le_of_ble_eq_true rfl) ?_
      exact lw_ret hx hb hr hlocks dL_law_764
    · have := law_le hL h1 (by rw [ex3] at c1; exact c1)
      omega
  | succ n ih =>
    intro ii x3 h1 h2 ex3 X M H locs hsim J ls hl
    refine lv_iload_n hx hb dL_law_18 rfl (lv_at hl 3 rfl) ?_
    refine lv_aload_n hx hb dL_law_19 rfl (lv_at hl 0 rfl) ?_
    refine va_slen hx hb hX hbl hbA J.2.2.2 dL_law_20 ?_
    refine lv_iconst (v := 5) hx hb dL_law_21 (by decide) ?_
    refine lv_isub hx hb dL_law_22 ?_
    refine lv_icmp_gt (tgt := 763) hx hb dL_law_23 (by decide) (fun c1 => ?_) (fun c1 => ?_)
    · refine lv_iconst (v := 1) hx hb dL_law_763 (by decide) ?_
      refine va_forget (fun q hq => J.2.2.2.2.2 q hq) ?_
      refine W.widen (k := 600000) (n := 7302249) (Nat.le_of_ble_eq_true rfl) (Nat.le_of_ble_eq_true rfl) ?_
      exact lw_ret hx hb hr hlocks dL_law_764
    · have hlt : ii + 5 ≤ L := law_le hL h1 (by rw [ex3] at c1; exact c1)
      have K : ∀ (X M : St) (H : Heap) (locs : List Loc), Sim X M → lJ D cs ux um s X M H locs → ∀ (ls : Array Slot), lv_has ls 4 [(0, .ref b), (1, .ref (ux 0)), (2, .ref (um 0)), (3, .int x3)] → W p l e room_1 s m #[Value.ref b] below meth c H locs 54 2102 (lw_Z below #[Value.ref b] s) (F0 m 757 ls []) := by
        intro X M H locs hsim J ls hl
        refine lv_iinc (v := x3 + 5) (lv' := [(3, .int (x3 + 5)), (0, .ref b), (1, .ref (ux 0)), (2, .ref (um 0))]) hx hb dL_law_757 hl (k := 3) rfl rfl (by decide) rfl (fun ls hl => ?_)
        refine lv_goto (tgt := 18) hx hb dL_law_760 (by decide) ?_
        exact ih (ii + 5) (x3 + 5) (by omega) (by omega) (by rw [ex3]; exact nI_add ii 5) X M H locs hsim J ls (lv_sub hl [1, 2, 3, 0] rfl)
      refine lv_aload_n hx hb dL_law_26 rfl (lv_at hl 0 rfl) ?_
      refine lv_iload_n hx hb dL_law_27 rfl (lv_at hl 3 rfl) ?_
      refine va_sld hx hb hX hbl hbA J.2.2.2 (law_in0 hL ex3 hlt) dL_law_28 ?_
      refine lv_bipush (v := 31) hx hb dL_law_29 (by decide) ?_
      refine lv_iand hx hb dL_law_31 ?_
      refine lv_topi (fun z ez => ?_)
      by_cases c10 : z = (0 : Int32)
      · refine lv_tableIn (off := 112) (tgt := 144) hx hb dL_law_32 (by rw [c10]; decide) (by rw [c10]; decide) (by rw [c10]; rfl) (by decide) ?_
        exact law_case_0 HO hL C0 hX hbl hbA ex3 hlt K hsim J hl
      by_cases c11 : z = (1 : Int32)
      · refine lv_tableIn (off := 135) (tgt := 167) hx hb dL_law_32 (by rw [c11]; decide) (by rw [c11]; decide) (by rw [c11]; rfl) (by decide) ?_
        exact law_case_1 HO hL C0 hX hbl hbA ex3 hlt K hsim J hl
      by_cases c12 : z = (2 : Int32)
      · refine lv_tableIn (off := 188) (tgt := 220) hx hb dL_law_32 (by rw [c12]; decide) (by rw [c12]; decide) (by rw [c12]; rfl) (by decide) ?_
        exact law_case_2 HO hL C0 hX hbl hbA ex3 hlt K hsim J hl
      by_cases c13 : z = (3 : Int32)
      · refine lv_tableIn (off := 231) (tgt := 263) hx hb dL_law_32 (by rw [c13]; decide) (by rw [c13]; decide) (by rw [c13]; rfl) (by decide) ?_
        exact law_case_3 HO hL C0 hX hbl hbA ex3 hlt K hsim J hl
      by_cases c14 : z = (4 : Int32)
      · refine lv_tableIn (off := 264) (tgt := 296) hx hb dL_law_32 (by rw [c14]; decide) (by rw [c14]; decide) (by rw [c14]; rfl) (by decide) ?_
        exact law_case_4 HO hL C0 hX hbl hbA ex3 hlt K hsim J hl
      by_cases c15 : z = (5 : Int32)
      · refine lv_tableIn (off := 277) (tgt := 309) hx hb dL_law_32 (by rw [c15]; decide) (by rw [c15]; decide) (by rw [c15]; rfl) (by decide) ?_
        exact law_case_5 HO hL C0 hX hbl hbA ex3 hlt K hsim J hl
      by_cases c16 : z = (6 : Int32)
      · refine lv_tableIn (off := 310) (tgt := 342) hx hb dL_law_32 (by rw [c16]; decide) (by rw [c16]; decide) (by rw [c16]; rfl) (by decide) ?_
        exact law_case_6 HO hL C0 hX hbl hbA ex3 hlt K hsim J hl
      by_cases c17 : z = (7 : Int32)
      · refine lv_tableIn (off := 343) (tgt := 375) hx hb dL_law_32 (by rw [c17]; decide) (by rw [c17]; decide) (by rw [c17]; rfl) (by decide) ?_
        exact law_case_7 HO hL C0 hX hbl hbA ex3 hlt K hsim J hl
      by_cases c18 : z = (8 : Int32)
      · refine lv_tableIn (off := 376) (tgt := 408) hx hb dL_law_32 (by rw [c18]; decide) (by rw [c18]; decide) (by rw [c18]; rfl) (by decide) ?_
        exact law_case_8 HO hL C0 hX hbl hbA ex3 hlt K hsim J hl
      by_cases c19 : z = (9 : Int32)
      · refine lv_tableIn (off := 409) (tgt := 441) hx hb dL_law_32 (by rw [c19]; decide) (by rw [c19]; decide) (by rw [c19]; rfl) (by decide) ?_
        exact law_case_9 HO hL C0 hX hbl hbA ex3 hlt K hsim J hl
      by_cases c20 : z = (10 : Int32)
      · refine lv_tableIn (off := 432) (tgt := 464) hx hb dL_law_32 (by rw [c20]; decide) (by rw [c20]; decide) (by rw [c20]; rfl) (by decide) ?_
        exact law_case_10 HO hL C0 hX hbl hbA ex3 hlt K hsim J hl
      by_cases c21 : z = (11 : Int32)
      · refine lv_tableIn (off := 475) (tgt := 507) hx hb dL_law_32 (by rw [c21]; decide) (by rw [c21]; decide) (by rw [c21]; rfl) (by decide) ?_
        exact law_case_11 HO hL C0 hX hbl hbA ex3 hlt K hsim J hl
      by_cases c22 : z = (12 : Int32)
      · refine lv_tableIn (off := 498) (tgt := 530) hx hb dL_law_32 (by rw [c22]; decide) (by rw [c22]; decide) (by rw [c22]; rfl) (by decide) ?_
        exact law_case_12 HO hL C0 hX hbl hbA ex3 hlt K hsim J hl
      by_cases c23 : z = (13 : Int32)
      · refine lv_tableIn (off := 511) (tgt := 543) hx hb dL_law_32 (by rw [c23]; decide) (by rw [c23]; decide) (by rw [c23]; rfl) (by decide) ?_
        exact law_case_13 HO hL C0 hX hbl hbA ex3 hlt K hsim J hl
      by_cases c24 : z = (14 : Int32)
      · refine lv_tableIn (off := 524) (tgt := 556) hx hb dL_law_32 (by rw [c24]; decide) (by rw [c24]; decide) (by rw [c24]; rfl) (by decide) ?_
        exact law_case_14 HO hL C0 hX hbl hbA ex3 hlt K hsim J hl
      by_cases c25 : z = (15 : Int32)
      · refine lv_tableIn (off := 547) (tgt := 579) hx hb dL_law_32 (by rw [c25]; decide) (by rw [c25]; decide) (by rw [c25]; rfl) (by decide) ?_
        exact law_case_15 HO hL C0 hX hbl hbA ex3 hlt K hsim J hl
      by_cases c26 : z = (16 : Int32)
      · refine lv_tableIn (off := 590) (tgt := 622) hx hb dL_law_32 (by rw [c26]; decide) (by rw [c26]; decide) (by rw [c26]; rfl) (by decide) ?_
        exact law_case_16 HO hL C0 hX hbl hbA ex3 hlt K hsim J hl
      by_cases c27 : z = (17 : Int32)
      · refine lv_tableIn (off := 613) (tgt := 645) hx hb dL_law_32 (by rw [c27]; decide) (by rw [c27]; decide) (by rw [c27]; rfl) (by decide) ?_
        exact law_case_17 HO hL C0 hX hbl hbA ex3 hlt K hsim J hl
      by_cases c28 : z = (18 : Int32)
      · refine lv_tableIn (off := 626) (tgt := 658) hx hb dL_law_32 (by rw [c28]; decide) (by rw [c28]; decide) (by rw [c28]; rfl) (by decide) ?_
        exact law_case_18 HO hL C0 hX hbl hbA ex3 hlt K hsim J hl
      by_cases c29 : z = (19 : Int32)
      · refine lv_tableIn (off := 649) (tgt := 681) hx hb dL_law_32 (by rw [c29]; decide) (by rw [c29]; decide) (by rw [c29]; rfl) (by decide) ?_
        exact law_case_19 HO hL C0 hX hbl hbA ex3 hlt K hsim J hl
      by_cases c30 : z = (20 : Int32)
      · refine lv_tableIn (off := 662) (tgt := 694) hx hb dL_law_32 (by rw [c30]; decide) (by rw [c30]; decide) (by rw [c30]; rfl) (by decide) ?_
        exact law_case_20 HO hL C0 hX hbl hbA ex3 hlt K hsim J hl
      by_cases c31 : z = (21 : Int32)
      · refine lv_tableIn (off := 675) (tgt := 707) hx hb dL_law_32 (by rw [c31]; decide) (by rw [c31]; decide) (by rw [c31]; rfl) (by decide) ?_
        exact law_case_21 HO hL C0 hX hbl hbA ex3 hlt K hsim J hl
      by_cases c32 : z = (22 : Int32)
      · refine lv_tableIn (off := 688) (tgt := 720) hx hb dL_law_32 (by rw [c32]; decide) (by rw [c32]; decide) (by rw [c32]; rfl) (by decide) ?_
        exact law_case_22 HO hL C0 hX hbl hbA ex3 hlt K hsim J hl
      by_cases c33 : z = (23 : Int32)
      · refine lv_tableIn (off := 711) (tgt := 743) hx hb dL_law_32 (by rw [c33]; decide) (by rw [c33]; decide) (by rw [c33]; rfl) (by decide) ?_
        exact law_case_23 HO hL C0 hX hbl hbA ex3 hlt K hsim J hl
      refine lv_tableOut (tgt := 757) hx hb dL_law_32 (by have q0 := lv_neT (a := 0) c10 (by decide); have q1 := lv_neT (a := 1) c11 (by decide); have q2 := lv_neT (a := 2) c12 (by decide); have q3 := lv_neT (a := 3) c13 (by decide); have q4 := lv_neT (a := 4) c14 (by decide); have q5 := lv_neT (a := 5) c15 (by decide); have q6 := lv_neT (a := 6) c16 (by decide); have q7 := lv_neT (a := 7) c17 (by decide); have q8 := lv_neT (a := 8) c18 (by decide); have q9 := lv_neT (a := 9) c19 (by decide); have q10 := lv_neT (a := 10) c20 (by decide); have q11 := lv_neT (a := 11) c21 (by decide); have q12 := lv_neT (a := 12) c22 (by decide); have q13 := lv_neT (a := 13) c23 (by decide); have q14 := lv_neT (a := 14) c24 (by decide); have q15 := lv_neT (a := 15) c25 (by decide); have q16 := lv_neT (a := 16) c26 (by decide); have q17 := lv_neT (a := 17) c27 (by decide); have q18 := lv_neT (a := 18) c28 (by decide); have q19 := lv_neT (a := 19) c29 (by decide); have q20 := lv_neT (a := 20) c30 (by decide); have q21 := lv_neT (a := 21) c31 (by decide); have q22 := lv_neT (a := 22) c32 (by decide); have q23 := lv_neT (a := 23) c33 (by decide); omega) (by decide) ?_
      exact K X M H locs hsim J ls hl
theorem law_grow {A0 : Nat → Prop} {D : va_G} {cl : List vw_C} {wr w1 : va_W} {q : Nat} {e : va_E} {H H1 : Heap} (hP : va_P D cl (wr ++ [(q, e)]) H) (hD : va_D A0 (wr ++ [(q, e)])) (hk : ∀ z : Nat, z < H.size → ¬ va_A [(q, e)] H.size z → H1[z]? = H[z]?) (hF : ∀ z, va_A [(q, e)] H.size z → A0 z) (hP1 : va_P D cl w1 H1) (hD1 : va_D (va_A [(q, e)] H.size) w1) : va_P D cl (wr ++ w1) H1 ∧ va_D A0 (wr ++ w1) := by
  have apart : ∀ (k : Nat) (x : Nat × va_E), wr[k]? = some x → x.1 < H.size ∧ ¬ va_A [(q, e)] H.size x.1 := by
    intro k x hx
    have hlt := (va_P_l hP k x hx).lt
    refine ⟨hlt, fun h => ?_⟩
    rcases h with ⟨k2, e2, h⟩ | h
    · exact va_D_x hD k k2 x _ hx h rfl
    · omega
  refine ⟨va_P.app ((va_P_l hP).kept (fun k x hx => hk x.1 (apart k x hx).1 (apart k x hx).2)) hP1, va_D.app (va_D_l hD) (hD1.weaken (fun k x _ h => hF x.1 h)) (fun i j x y hx hy hxy => ?_)⟩
  exact (apart i x hx).2 (by rw [hxy]; exact hD1.2 j y hy)
theorem law_arr {args : Array Value} {s : State} {ty : FieldType} (h : (Cond.arrayClass ty).before args s = true) (hp : ∀ c : ClassId, s.vm.findClass ("[" ++ ty.toString) = some c → va_RA s c ty) : ∃ cA : ClassId, ArrOfT s cA ty ∧ va_RA s cA ty := by
  obtain ⟨cA, kA, comp, h1, h2, h3⟩ := Cond.arrayClass_spec h
  exact ⟨cA, fun n z => ⟨fun k h => (by cases h), kA, h2, comp, h3⟩, hp cA h1⟩
theorem law_arrq {s : State} {C : String} (h : va_AO C s) : ∃ cA : ClassId, ArrOfT s cA (.object C) ∧ va_RA s cA (.object C) := by
  obtain ⟨comp, cA, kA, h1, h2, h3, h4, h5⟩ := Cond.arrayOver_spec h
  exact ⟨cA, fun n z => ⟨fun k h => (by cases h), kA, h3, comp, h4⟩, kA, comp, h3, h4, h1, h5⟩
theorem lwn_87 : Cond.methodLinkNest RX6 9 yX3_init RX6 ∈ lw_tbl := List.mem_of_getElem? (i := 87) (by decide +kernel)
theorem lwn_125 : Cond.methodLinkNest RX0 24 yX3_init RX6 ∈ lw_tbl := List.mem_of_getElem? (i := 125) (by decide +kernel)
theorem lwn_139 : Cond.methodLinkNest RX6 25 yX5_init RX6 ∈ lw_tbl := List.mem_of_getElem? (i := 139) (by decide +kernel)
theorem lwn_163 : Cond.methodLinkNest RX6 32 yX1_init RX6 ∈ lw_tbl := List.mem_of_getElem? (i := 163) (by decide +kernel)
theorem lwn_174 : Cond.methodLinkNest RX6 39 yX4_init RX6 ∈ lw_tbl := List.mem_of_getElem? (i := 174) (by decide +kernel)
theorem lwn_213 : Cond.methodLinkNest RX6 46 yX2_init RX6 ∈ lw_tbl := List.mem_of_getElem? (i := 213) (by decide +kernel)
theorem lwn_124 : Cond.arrayOver (.object "CubeLegs$Task") ∈ lw_tbl := List.mem_of_getElem? (i := 124) (by decide +kernel)
set_option maxHeartbeats 4000000 in
set_option maxRecDepth 100000 in
theorem law_start {p : Program} {e : Env} {s : State} {m : MethodId} {below : List Frame} {meth : Method} {c : Code} (l : Launch) {b L : Nat} {xs : Nat → Int32} {Sim : St → St → Prop} (HO : Ops Sim) (h0 : Sim x0 m0) (hL : L ≤ 2560) (L0 : lw_At p s m meth c b L xs) : W p l e room_1 s m #[Value.ref b] below meth c s.heap [] 0 0 (lw_Z below #[Value.ref b] s) (entryFrame m ([Value.ref b] : List Value).toArray 4) := by
  obtain ⟨hx, hb, hr, hml, hown, htl, hX, hbl, hlocks, hgv⟩ := id L0
  have hts : ∀ w ∈ big, w.before #[Value.ref b] s = true := fun w h => htl w (List.mem_filter.mp h).1
  have C0 : CallFix p m c code 4 s #[Value.ref b] big R_law := ⟨hx, hb, hml, hown, hts⟩
  have hA : ∀ q : Nat, s.heap.size ≤ q → lA s q := fun _ h => h
  obtain ⟨c0, iS0, hKn0⟩ := u_known (C := RX0) (T := TX0) (N := 3) (n := 3) hts iw_RX0 (hts _ wd_118)
  obtain ⟨c1, iS1, hKn1⟩ := u_known (C := RX1) (T := TX1) (N := 1) (n := 1) hts iw_RX1 (hts _ wd_162)
  obtain ⟨c2, iS2, hKn2⟩ := u_known (C := RX2) (T := TX2) (N := 6) (n := 6) hts iw_RX2 (hts _ wd_212)
  obtain ⟨c3, iS3, hKn3⟩ := u_known (C := RX3) (T := TX3) (N := 5) (n := 5) hts iw_RX3 (hts _ wd_86)
  obtain ⟨c4, iS4, hKn4⟩ := u_known (C := RX4) (T := TX4) (N := 9) (n := 9) hts iw_RX4 (hts _ wd_173)
  obtain ⟨c5, iS5, hKn5⟩ := u_known (C := RX5) (T := TX5) (N := 4) (n := 4) hts iw_RX5 (hts _ wd_138)
  obtain ⟨c6, iS6, hKn6⟩ := u_known (C := RX6) (T := TX6) (N := 9) (n := 9) hts iw_RX6 (hts _ wd_78)
  obtain ⟨c7, iS7, hKn7⟩ := u_known (C := RX7) (T := TX7) (N := 29) (n := 29) hts iw_RX7 (hts _ wd_597)
  obtain ⟨D, hKc⟩ : ∃ D : va_G, ∀ (k : Nat) (q : vw_C), vwCl[k]? = some q → u_Kn s q.1 q.2.1 q.2.2 (D.1 k) (D.2 k) := by
    refine ⟨(fun k => if k = 0 then c0 else if k = 1 then c1 else if k = 2 then c2 else if k = 3 then c3 else if k = 4 then c4 else if k = 5 then c5 else if k = 6 then c6 else c7, fun k => if k = 0 then iS0 else if k = 1 then iS1 else if k = 2 then iS2 else if k = 3 then iS3 else if k = 4 then iS4 else if k = 5 then iS5 else if k = 6 then iS6 else iS7), ?_⟩
    intro k q hq
    match k, hq with
    | 0, hq => cases hq; exact hKn0
    | 1, hq => cases hq; exact hKn1
    | 2, hq => cases hq; exact hKn2
    | 3, hq => cases hq; exact hKn3
    | 4, hq => cases hq; exact hKn4
    | 5, hq => cases hq; exact hKn5
    | 6, hq => cases hq; exact hKn6
    | 7, hq => cases hq; exact hKn7
    | k + 8, hq => simp [vwCl] at hq
  have hN : iN s := ⟨va_Nw.of rfl (htl _ lwn_87), va_Nw.of rfl (htl _ lwn_125), va_Nw.of rfl (htl _ lwn_139), va_Nw.of rfl (htl _ lwn_163), va_Nw.of rfl (htl _ lwn_174), va_Nw.of rfl (htl _ lwn_213), va_AO.of (htl _ lwn_124)⟩
  obtain ⟨ca0, a01, a02⟩ := law_arr (hts _ wd_116) (fun c h => h)
  obtain ⟨ca1, a11, a12⟩ := law_arr (hts _ wd_239) (fun c h => h)
  obtain ⟨ca2, a21, a22⟩ := law_arr (hts _ wd_160) (fun c h => h)
  obtain ⟨ca3, a31, a32⟩ := law_arrq (va_AO.of (htl _ lwn_124))
  obtain ⟨cs, hcs⟩ : ∃ cs : Nat → ClassId, va_K D vwCl (iT cs) s := by
    refine ⟨fun k => match k with | 0 => ca0 | 1 => ca1 | 2 => ca2 | _ => ca3, hKc, ?_⟩
    intro k q hq
    match k, hq with
    | 0, hq => cases hq; exact ⟨a01, a02⟩
    | 1, hq => cases hq; exact ⟨a11, a12⟩
    | 2, hq => cases hq; exact ⟨a21, a22⟩
    | 3, hq => cases hq; exact ⟨a31, a32⟩
    | k + 4, hq => simp [iT] at hq
  have hK := hcs
  have hS : va_S (lA s) s.heap s.heap [] := va_S.rf
  have hP : va_P D vwCl [] s.heap := fun k q h => by simp at h
  have hD : va_D (lA s) [] := ⟨fun i j p q h => by simp at h, fun k q h => by simp at h⟩
  have hl := lv_entry ([.ref b]) (n := 4) (Nat.le_of_ble_eq_true rfl)
  rw [lg_entry_eq]
  generalize (lg_sl ([.ref b]) ++ List.replicate (4 - (lg_sl ([.ref b])).length) Slot.unset).toArray = ls at hl ⊢
  have hl : lv_has ls 4 [(0, .ref b)] := hl
  refine va_new (ci := 6) (fs := [.null, .null, .null, .null, .null, .null, .null, .int 0, .int 0]) (C := RX6) (T := TX6) (N := 9) hx hb hts iw_RX6 tyX6 tyX6_ok hown (hts _ wd_77) (hts _ wd_78) (hts _ wd_66) hK hP hD hS hA rfl (fun j hj => by rcases (show j = 0 ∨ j = 1 ∨ j = 2 ∨ j = 3 ∨ j = 4 ∨ j = 5 ∨ j = 6 ∨ j = 7 ∨ j = 8 by omega) with rfl | rfl | rfl | rfl | rfl | rfl | rfl | rfl | rfl <;> rfl) (Nat.le_of_ble_eq_true rfl) (Nat.le_of_ble_eq_true rfl) dL_law_0 (fun qx H hP hD hS => ?_)
  have hP : va_P D vwCl ([] ++ [(qx, .inr (6, [.null, .null, .null, .null, .null, .null, .null, .int 0, .int 0]))]) H := hP
  have hD : va_D (lA s) ([] ++ [(qx, .inr (6, [.null, .null, .null, .null, .null, .null, .null, .int 0, .int 0]))]) := hD
  refine W.widen (k := 1) (n := 9) (Nat.le_of_ble_eq_true rfl) (Nat.le_of_ble_eq_true rfl) ?_
  refine lv_dup hx hb dL_law_3 rfl ?_
  have hPc : va_P D vwCl [(qx, .inr (6, [.null, .null, .null, .null, .null, .null, .null, .int 0, .int 0]))] H := va_P_r hP
  have hDc : va_D (lA s) [(qx, .inr (6, [.null, .null, .null, .null, .null, .null, .null, .int 0, .int 0]))] := va_D_r hD
  have hFc : ∀ q, va_A [(qx, .inr (6, [.null, .null, .null, .null, .null, .null, .null, .int 0, .int 0]))] H.size q → lA s q := fun q h => by
    rcases h with ⟨k, e, h⟩ | h
    · exact hDc.2 k _ h
    · exact Nat.le_trans hS.1 h
  refine va_callv (va_runI (As := []) (rest := [.ref qx]) C0 (kiX6_init (D := D) (cs := cs) (h0 := qx) (sz := H.size)) (cwI 0 hts (gwI wd_81) rfl rfl rfl (hts _ wd_66) (hts _ wd_79) (hts _ wd_80) rfl dsc_X6_init.2 ⟨Nat.le_of_ble_eq_true rfl, Nat.le_of_ble_eq_true rfl⟩) ⟨i_blind, fun U hU hW => ⟨rfl, by rw [hU], by rw [hU]; exact hPc, va_K.moved hW.alike hK, hDc.weaken (fun _ _ _ _ => trivial), hN.warm hW⟩⟩ rfl rfl hl.1 rfl (lv_room (Nat.le_of_ble_eq_true rfl)) dL_law_4 ⟨Nat.le_of_ble_eq_true rfl, Nat.le_of_ble_eq_true rfl⟩) hS (fun q _ h => hFc q h) hFc (fun ux t H1 locs ht hvm hw hB hz1 hk1 hS9 => ?_)
  obtain ⟨hP1, hD1⟩ := hB
  rw [ht] at hP1
  obtain ⟨hP9, hD9⟩ := law_grow hP hD hk1 hFc hP1 hD1
  subst hw
  generalize H1 = H at hP9 hS9 ⊢
  have hP := hP9
  have hD := hD9
  have hS := hS9
  refine W.widen (k := 36) (n := 1156) (Nat.le_of_ble_eq_true rfl) (Nat.le_of_ble_eq_true rfl) ?_
  refine lv_astore_n (lv' := [(1, .ref (ux 0)), (0, .ref b)]) hx hb dL_law_7 rfl hl (by decide) rfl (fun ls hl => ?_)
  have hP : va_P D vwCl (xW (D, cs, ux) x0) H := va_P_r (w1 := []) hP
  have hD : va_D (lA s) (xW (D, cs, ux) x0) := va_D_r (w1 := []) hD
  refine va_new (ci := 7) (fs := [.null, .int 0, .int 0, .null, .null, .null, .null, .null, .int 0, .null, .null, .null, .null, .null, .int 0, .int 0, .null, .null, .null, .null, .int 0, .int 0, .null, .null, .int 0, .int 0, .int 0, .int 0, .int 0]) (C := RX7) (T := TX7) (N := 29) hx hb hts iw_RX7 tyX7 tyX7_ok hown (hts _ wd_596) (hts _ wd_597) (hts _ wd_73) hK hP hD hS hA rfl (fun j hj => by rcases (show j = 0 ∨ j = 1 ∨ j = 2 ∨ j = 3 ∨ j = 4 ∨ j = 5 ∨ j = 6 ∨ j = 7 ∨ j = 8 ∨ j = 9 ∨ j = 10 ∨ j = 11 ∨ j = 12 ∨ j = 13 ∨ j = 14 ∨ j = 15 ∨ j = 16 ∨ j = 17 ∨ j = 18 ∨ j = 19 ∨ j = 20 ∨ j = 21 ∨ j = 22 ∨ j = 23 ∨ j = 24 ∨ j = 25 ∨ j = 26 ∨ j = 27 ∨ j = 28 by omega) with rfl | rfl | rfl | rfl | rfl | rfl | rfl | rfl | rfl | rfl | rfl | rfl | rfl | rfl | rfl | rfl | rfl | rfl | rfl | rfl | rfl | rfl | rfl | rfl | rfl | rfl | rfl | rfl | rfl <;> rfl) (Nat.le_of_ble_eq_true rfl) (Nat.le_of_ble_eq_true rfl) dL_law_8 (fun qm H hP hD hS => ?_)
  have hP : va_P D vwCl (xW (D, cs, ux) x0 ++ [(qm, .inr (7, [.null, .int 0, .int 0, .null, .null, .null, .null, .null, .int 0, .null, .null, .null, .null, .null, .int 0, .int 0, .null, .null, .null, .null, .int 0, .int 0, .null, .null, .int 0, .int 0, .int 0, .int 0, .int 0]))]) H := hP
  have hD : va_D (lA s) (xW (D, cs, ux) x0 ++ [(qm, .inr (7, [.null, .int 0, .int 0, .null, .null, .null, .null, .null, .int 0, .null, .null, .null, .null, .null, .int 0, .int 0, .null, .null, .null, .null, .int 0, .int 0, .null, .null, .int 0, .int 0, .int 0, .int 0, .int 0]))]) := hD
  refine W.widen (k := 37) (n := 1185) (Nat.le_of_ble_eq_true rfl) (Nat.le_of_ble_eq_true rfl) ?_
  refine lv_dup hx hb dL_law_11 rfl ?_
  have hPc : va_P D vwCl [(qm, .inr (7, [.null, .int 0, .int 0, .null, .null, .null, .null, .null, .int 0, .null, .null, .null, .null, .null, .int 0, .int 0, .null, .null, .null, .null, .int 0, .int 0, .null, .null, .int 0, .int 0, .int 0, .int 0, .int 0]))] H := va_P_r hP
  have hDc : va_D (lA s) [(qm, .inr (7, [.null, .int 0, .int 0, .null, .null, .null, .null, .null, .int 0, .null, .null, .null, .null, .null, .int 0, .int 0, .null, .null, .null, .null, .int 0, .int 0, .null, .null, .int 0, .int 0, .int 0, .int 0, .int 0]))] := va_D_r hD
  have hFc : ∀ q, va_A [(qm, .inr (7, [.null, .int 0, .int 0, .null, .null, .null, .null, .null, .int 0, .null, .null, .null, .null, .null, .int 0, .int 0, .null, .null, .null, .null, .int 0, .int 0, .null, .null, .int 0, .int 0, .int 0, .int 0, .int 0]))] H.size q → lA s q := fun q h => by
    rcases h with ⟨k, e, h⟩ | h
    · exact hDc.2 k _ h
    · exact Nat.le_trans hS.1 h
  refine va_callv (va_runI (As := []) (rest := [.ref qm]) C0 (kiX7_init (D := D) (cs := cs) (h0 := qm) (sz := H.size)) (cwI 0 hts (gwI wd_600) rfl rfl rfl (hts _ wd_73) (hts _ wd_598) (hts _ wd_599) rfl dsc_X7_init.2 ⟨Nat.le_of_ble_eq_true rfl, Nat.le_of_ble_eq_true rfl⟩) ⟨i_blind, fun U hU hW => ⟨rfl, by rw [hU], by rw [hU]; exact hPc, va_K.moved hW.alike hK, hDc.weaken (fun _ _ _ _ => trivial), hN.warm hW⟩⟩ rfl rfl hl.1 rfl (lv_room (Nat.le_of_ble_eq_true rfl)) dL_law_12 ⟨Nat.le_of_ble_eq_true rfl, Nat.le_of_ble_eq_true rfl⟩) hS (fun q _ h => hFc q h) hFc (fun um t H1 locs ht hvm hw hB hz1 hk1 hS9 => ?_)
  obtain ⟨hP1, hD1⟩ := hB
  rw [ht] at hP1
  obtain ⟨hP9, hD9⟩ := law_grow hP hD hk1 hFc hP1 hD1
  subst hw
  generalize H1 = H at hP9 hS9 ⊢
  have hP := hP9
  have hD := hD9
  have hS := hS9
  refine W.widen (k := 54) (n := 2102) (Nat.le_of_ble_eq_true rfl) (Nat.le_of_ble_eq_true rfl) ?_
  refine lv_astore_n (lv' := [(2, .ref (um 0)), (1, .ref (ux 0)), (0, .ref b)]) hx hb dL_law_15 rfl hl (by decide) rfl (fun ls hl => ?_)
  refine lv_iconst (v := 0) hx hb dL_law_16 (by decide) ?_
  refine lv_istore_n (lv' := [(3, .int 0), (2, .ref (um 0)), (1, .ref (ux 0)), (0, .ref b)]) hx hb dL_law_17 rfl hl (by decide) rfl (fun ls hl => ?_)
  exact law_loop HO hL hr hlocks C0 hX hbl (L + 2) 0 0 (by omega) (by omega) rfl x0 m0 _ _ h0 ⟨hK, hP, hD, hS⟩ ls (lv_sub hl [3, 2, 1, 0] rfl)
