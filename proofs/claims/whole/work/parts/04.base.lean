/-! The state of a world as numbers: fields, rows of ints, one row of longs; reads and writes; checks; joining of answers; loops by fuel. -/
abbrev St : Type := (Nat → Int32) × (Nat → Nat → Int32) × (Nat → Int64)
def gF (S : St) (k : Nat) : Int32 := S.1 k
def pF (S : St) (k : Nat) (v : Int32) : St := (fun j => if j = k then v else S.1 j, S.2)
def aR (S : St) (k : Nat) : Nat → Int32 := S.2.1 k
def aE (S : St) : Nat → Int64 := S.2.2
def gR (S : St) (k : Nat) (i : Int32) : Int32 := S.2.1 k i.toNatClampNeg
def pR (S : St) (k : Nat) (i v : Int32) : St := (S.1, fun j => if j = k then upd (S.2.1 k) i.toNatClampNeg v else S.2.1 j, S.2.2)
def gE (S : St) (i : Int32) : Int64 := S.2.2 i.toNatClampNeg
def pE (S : St) (i : Int32) (v : Int64) : St := (S.1, S.2.1, vp_updL S.2.2 i.toNatClampNeg v)
def pC (S : St) (d s : Nat) : St := (S.1, fun j => if j = d then va_cpy (S.2.1 s) (S.2.1 d) 0 0 64 else S.2.1 j, S.2.2)
def chk {α : Type} (i : Int32) (n : Nat) (k : Option α) : Option α := if i < 0 ∨ n ≤ i.toNatClampNeg then none else k
theorem chk_some {α : Type} {i : Int32} {n : Nat} {k : Option α} {o : α} (h : chk i n k = some o) : vp_in i n ∧ k = some o := by
  unfold chk at h
  by_cases hc : i < 0 ∨ n ≤ i.toNatClampNeg
  · rw [if_pos hc] at h; cases h
  · rw [if_neg hc] at h; exact ⟨hc, h⟩
theorem chk_ok {α : Type} {i : Int32} {n : Nat} {k : Option α} (h : vp_in i n) : chk i n k = k := if_neg h
def nz {α : Type} (y : Int32) (k : Option α) : Option α := if y = 0 then none else k
theorem nz_some {α : Type} {y : Int32} {k : Option α} {o : α} (h : nz y k = some o) : ¬ y = 0 ∧ k = some o := by
  unfold nz at h
  by_cases hc : y = 0
  · rw [if_pos hc] at h; cases h
  · rw [if_neg hc] at h; exact ⟨hc, h⟩
def nzl {α : Type} (y : Int64) (k : Option α) : Option α := if y = 0 then none else k
theorem nzl_some {α : Type} {y : Int64} {k : Option α} {o : α} (h : nzl y k = some o) : ¬ y = 0 ∧ k = some o := by
  unfold nzl at h
  by_cases hc : y = 0
  · rw [if_pos hc] at h; cases h
  · rw [if_neg hc] at h; exact ⟨hc, h⟩
def zb {α : Type} (v : Int32) (k : Option α) : Option α := if v = 0 ∨ v = 1 then k else none
theorem zb_some {α : Type} {v : Int32} {k : Option α} {o : α} (h : zb v k = some o) : narrow .boolean (.int v) = .int v ∧ k = some o := by
  unfold zb at h
  by_cases hc : v = 0 ∨ v = 1
  · rw [if_pos hc] at h
    refine ⟨?_, h⟩
    rcases hc with rfl | rfl <;> rfl
  · rw [if_neg hc] at h; cases h
theorem ip {α : Type} {P : Prop} {inst : Decidable P} {a b o : α} (h : P) (e : @ite α P inst a b = o) : a = o := by rw [if_pos h] at e; exact e
theorem inn {α : Type} {P : Prop} {inst : Decidable P} {a b o : α} (h : ¬ P) (e : @ite α P inst a b = o) : b = o := by rw [if_neg h] at e; exact e
theorem in_lit {i : Int32} {n : Nat} (h : decide (¬ (i < 0 ∨ n ≤ i.toNatClampNeg)) = true) : vp_in i n := by
  have h2 : ¬ (i < 0 ∨ n ≤ i.toNatClampNeg) := of_decide_eq_true h
  exact h2
theorem kc6 {i : Int32} (h : vp_in i 6) : i.toNatClampNeg = 0 ∨ i.toNatClampNeg = 1 ∨ i.toNatClampNeg = 2 ∨ i.toNatClampNeg = 3 ∨ i.toNatClampNeg = 4 ∨ i.toNatClampNeg = 5 := by
  have hlt : i.toNatClampNeg < 6 := Nat.not_le.mp fun q => h (Or.inr q)
  omega
def rto {α : Type} (o : Option Int32) (f : Int32 → Option α) (k : Option α) : Option α := match o with
  | some r => f r
  | none => k
theorem rto_none {α : Type} {f : Int32 → Option α} {k : Option α} {o : α} (h : rto none f k = some o) : k = some o := h
def bq1 {A1 B : Type} (o : Option A1) (k : A1 → Option B) : Option B := match o with
  | some a1 => k a1
  | none => none
theorem bq1_some {A1 B : Type} {o : Option A1} {k : A1 → Option B} {r : B} (h : bq1 o k = some r) : ∃ a1, o = some a1 ∧ k a1 = some r := by
  cases o with
  | none => cases h
  | some a => exact ⟨a, rfl, h⟩
def bq2 {A1 A2 B : Type} (o : Option (A1 × A2)) (k : A1 → A2 → Option B) : Option B := match o with
  | some (a1, a2) => k a1 a2
  | none => none
theorem bq2_some {A1 A2 B : Type} {o : Option (A1 × A2)} {k : A1 → A2 → Option B} {r : B} (h : bq2 o k = some r) : ∃ a1 a2, o = some (a1, a2) ∧ k a1 a2 = some r := by
  cases o with
  | none => cases h
  | some a => exact ⟨a.1, a.2, rfl, h⟩
def bq3 {A1 A2 A3 B : Type} (o : Option (A1 × A2 × A3)) (k : A1 → A2 → A3 → Option B) : Option B := match o with
  | some (a1, a2, a3) => k a1 a2 a3
  | none => none
theorem bq3_some {A1 A2 A3 B : Type} {o : Option (A1 × A2 × A3)} {k : A1 → A2 → A3 → Option B} {r : B} (h : bq3 o k = some r) : ∃ a1 a2 a3, o = some (a1, a2, a3) ∧ k a1 a2 a3 = some r := by
  cases o with
  | none => cases h
  | some a => exact ⟨a.1, a.2.1, a.2.2, rfl, h⟩
def bq4 {A1 A2 A3 A4 B : Type} (o : Option (A1 × A2 × A3 × A4)) (k : A1 → A2 → A3 → A4 → Option B) : Option B := match o with
  | some (a1, a2, a3, a4) => k a1 a2 a3 a4
  | none => none
theorem bq4_some {A1 A2 A3 A4 B : Type} {o : Option (A1 × A2 × A3 × A4)} {k : A1 → A2 → A3 → A4 → Option B} {r : B} (h : bq4 o k = some r) : ∃ a1 a2 a3 a4, o = some (a1, a2, a3, a4) ∧ k a1 a2 a3 a4 = some r := by
  cases o with
  | none => cases h
  | some a => exact ⟨a.1, a.2.1, a.2.2.1, a.2.2.2, rfl, h⟩
def bq5 {A1 A2 A3 A4 A5 B : Type} (o : Option (A1 × A2 × A3 × A4 × A5)) (k : A1 → A2 → A3 → A4 → A5 → Option B) : Option B := match o with
  | some (a1, a2, a3, a4, a5) => k a1 a2 a3 a4 a5
  | none => none
theorem bq5_some {A1 A2 A3 A4 A5 B : Type} {o : Option (A1 × A2 × A3 × A4 × A5)} {k : A1 → A2 → A3 → A4 → A5 → Option B} {r : B} (h : bq5 o k = some r) : ∃ a1 a2 a3 a4 a5, o = some (a1, a2, a3, a4, a5) ∧ k a1 a2 a3 a4 a5 = some r := by
  cases o with
  | none => cases h
  | some a => exact ⟨a.1, a.2.1, a.2.2.1, a.2.2.2.1, a.2.2.2.2, rfl, h⟩
theorem se1 {A1 : Type} {a1 b1 : A1} (h : some a1 = some b1) : b1 = a1 := (Option.some.inj h).symm
theorem se2 {A1 A2 : Type} {a1 b1 : A1} {a2 b2 : A2} (h : some (a1, a2) = some (b1, b2)) : b1 = a1 ∧ b2 = a2 := by
  have e := Option.some.inj h
  exact ⟨(congrArg Prod.fst e).symm, (congrArg Prod.snd e).symm⟩
theorem se3 {A1 A2 A3 : Type} {a1 b1 : A1} {a2 b2 : A2} {a3 b3 : A3} (h : some (a1, a2, a3) = some (b1, b2, b3)) : b1 = a1 ∧ b2 = a2 ∧ b3 = a3 := by
  obtain ⟨h1, h2⟩ := se2 h
  exact ⟨h1, se2 (congrArg some h2.symm)⟩
theorem se4 {A1 A2 A3 A4 : Type} {a1 b1 : A1} {a2 b2 : A2} {a3 b3 : A3} {a4 b4 : A4} (h : some (a1, a2, a3, a4) = some (b1, b2, b3, b4)) : b1 = a1 ∧ b2 = a2 ∧ b3 = a3 ∧ b4 = a4 := by
  obtain ⟨h1, h2⟩ := se2 h
  exact ⟨h1, se3 (congrArg some h2.symm)⟩
theorem se5 {A1 A2 A3 A4 A5 : Type} {a1 b1 : A1} {a2 b2 : A2} {a3 b3 : A3} {a4 b4 : A4} {a5 b5 : A5} (h : some (a1, a2, a3, a4, a5) = some (b1, b2, b3, b4, b5)) : b1 = a1 ∧ b2 = a2 ∧ b3 = a3 ∧ b4 = a4 ∧ b5 = a5 := by
  obtain ⟨h1, h2⟩ := se2 h
  exact ⟨h1, se4 (congrArg some h2.symm)⟩
theorem se6 {A1 A2 A3 A4 A5 A6 : Type} {a1 b1 : A1} {a2 b2 : A2} {a3 b3 : A3} {a4 b4 : A4} {a5 b5 : A5} {a6 b6 : A6} (h : some (a1, a2, a3, a4, a5, a6) = some (b1, b2, b3, b4, b5, b6)) : b1 = a1 ∧ b2 = a2 ∧ b3 = a3 ∧ b4 = a4 ∧ b5 = a5 ∧ b6 = a6 := by
  obtain ⟨h1, h2⟩ := se2 h
  exact ⟨h1, se5 (congrArg some h2.symm)⟩
def lp {σ : Type} (f : σ → Option (Bool × σ)) : Nat → σ → Option σ
  | 0, _ => none
  | n + 1, s => match f s with
    | none => none
    | some (b, s2) => if b = true then lp f n s2 else some s2
theorem lp_some {σ : Type} {f : σ → Option (Bool × σ)} {n : Nat} {s t : σ} (h : lp f (n + 1) s = some t) : ∃ (b : Bool) (u : σ), f s = some (b, u) ∧ (b = true → lp f n u = some t) ∧ (b = false → u = t) := by
  unfold lp at h
  cases hf : f s with
  | none => rw [hf] at h; cases h
  | some a =>
    obtain ⟨b, u⟩ := a
    rw [hf] at h
    refine ⟨b, u, rfl, fun hb => ?_, fun hb => ?_⟩
    · subst hb; exact h
    · subst hb; exact Option.some.inj h
def fu : Nat := 1000
/-! The words that all methods take along: those of the tables that stay good over calls. -/
def big : List Cond := lw_tbl.filter goodWord
theorem big_at {w : Cond} (i : Nat) (h : lw_tbl[i]? = some w) (hg : goodWord w = true) : w ∈ big := List.mem_filter.mpr ⟨List.mem_of_getElem? h, hg⟩
theorem big_good {ws : List Cond} (h : ∀ w ∈ ws, w ∈ big) : GoodIn big ws := fun w hw => ⟨h w hw, good_of_word (List.mem_filter.mp (h w hw)).2⟩
theorem gwV {own C : String} {idx maxL : Nat} {y : MethodName} {cc : ByteArray} {ret : Option FieldType} (h1 : Cond.methodLink own idx y ∈ big) (h2 : Cond.instanceMethod y ∈ big) (h3 : Cond.selects C y y ∈ big) (h4 : Cond.initialized C ∈ big) (h5 : Cond.code y cc maxL ret ∈ big) : GoodIn big (wsV own idx C y (Cond.code y cc maxL ret :: big)) := by
  refine big_good fun w hw => ?_
  unfold wsV at hw
  rcases List.mem_append.mp hw with h | h
  · simp only [List.mem_cons, List.not_mem_nil, or_false] at h
    rcases h with rfl | rfl | rfl | rfl <;> assumption
  · rcases List.mem_cons.mp h with rfl | h
    · exact h5
    · exact h
theorem gwS {own : String} {idx maxL : Nat} {y : MethodName} {cc : ByteArray} {ret : Option FieldType} (h1 : Cond.methodLink own idx y ∈ big) (h2 : Cond.static y ∈ big) (h4 : Cond.initialized y.cls ∈ big) (h5 : Cond.code y cc maxL ret ∈ big) : GoodIn big (va_wsS own idx y (Cond.code y cc maxL ret :: big)) := by
  refine big_good fun w hw => ?_
  unfold va_wsS at hw
  rcases List.mem_append.mp hw with h | h
  · simp only [List.mem_cons, List.not_mem_nil, or_false] at h
    rcases h with rfl | rfl | rfl <;> assumption
  · rcases List.mem_cons.mp h with rfl | h
    · exact h5
    · exact h
abbrev xG : Type := va_G × (Nat → ClassId) × (Nat → Nat)
