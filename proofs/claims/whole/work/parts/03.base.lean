/-! The abstract heap: a size, and what each address that was made since the law's entry holds; a judgement over it; a row an instruction. -/
abbrev ae : Type := (Nat × vp_A) ⊕ (Nat × List Value)
abbrev AH : Type := Nat × (Nat → Option ae)
abbrev GG : Type := va_G × (Nat → ClassId) × Nat × Nat
def cv (G : GG) (e : ae) : va_E := match e with
  | .inl x => .inl (G.2.1 x.1, x.2)
  | .inr o => .inr o
def hup (h : AH) (a : Nat) (e : ae) : AH := (h.1, fun q => if q = a then some e else h.2 q)
def hnew (h : AH) (e : ae) : AH := (h.1 + 1, fun q => if q = h.1 then some e else h.2 q)
def HP (G : GG) (b0 : Nat) (h : AH) (H : Heap) : Prop := H.size = h.1 ∧ b0 ≤ h.1 ∧ ∀ (a : Nat) (e : ae), h.2 a = some e → b0 ≤ a ∧ va_at G.1 vwCl (a, cv G e) H
/-- an object of a class stands at an address -/
def isO (h : AH) (a ci : Nat) : Prop := ∃ fs : List Value, h.2 a = some (.inr (ci, fs))
/-- objects stay -/
def EX (h h' : AH) : Prop := ∀ a ci : Nat, isO h a ci → isO h' a ci
theorem EX.rf {h : AH} : EX h h := fun _ _ q => q
theorem EX.tr {h h1 h2 : AH} (a : EX h h1) (b : EX h1 h2) : EX h h2 := fun x y q => b x y (a x y q)
theorem EX.upO {h : AH} {a ci : Nat} {fs fs' : List Value} (h0 : h.2 a = some (.inr (ci, fs))) : EX h (hup h a (.inr (ci, fs'))) := by
  intro x y ⟨gs, hx⟩
  by_cases e : x = a
  · subst e
    rw [h0] at hx
    cases hx
    exact ⟨fs', by simp [hup]⟩
  · exact ⟨gs, by simp [hup, e, hx]⟩
theorem EX.upA {h : AH} {a : Nat} {x0 x1 : Nat × vp_A} (h0 : h.2 a = some (.inl x0)) : EX h (hup h a (.inl x1)) := by
  intro x y ⟨gs, hx⟩
  by_cases e : x = a
  · subst e
    rw [h0] at hx
    cases hx
  · exact ⟨gs, by simp [hup, e, hx]⟩
theorem EX.new {h : AH} {e : ae} (h0 : h.2 h.1 = none) : EX h (hnew h e) := by
  intro x y ⟨gs, hx⟩
  by_cases q : x = h.1
  · subst q
    rw [h0] at hx
    cases hx
  · exact ⟨gs, by simp [hnew, q, hx]⟩
theorem HP.fresh {G : GG} {b0 : Nat} {h : AH} {H : Heap} (hP : HP G b0 h H) : h.2 h.1 = none := by
  cases e : h.2 h.1 with
  | none => rfl
  | some x =>
    have := (hP.2.2 _ _ e).2.lt
    simp only at this
    rw [hP.1] at this
    exact absurd this (Nat.lt_irrefl _)
theorem HP.up {G : GG} {b0 : Nat} {h : AH} {H H1 : Heap} {a : Nat} {e0 e : ae} (hP : HP G b0 h H) (h0 : h.2 a = some e0) (he : va_at G.1 vwCl (a, cv G e) H1) (z : H1.size = H.size) (oq : ∀ q : Nat, q ≠ a → H1[q]? = H[q]?) : HP G b0 (hup h a e) H1 := by
  refine ⟨z.trans hP.1, hP.2.1, fun x y hx => ?_⟩
  by_cases q : x = a
  · subst q
    simp only [hup, if_pos] at hx
    cases hx
    exact ⟨(hP.2.2 x e0 h0).1, he⟩
  · simp only [hup, if_neg q] at hx
    have := hP.2.2 x y hx
    exact ⟨this.1, this.2.kept (oq x q)⟩
theorem HP.push {G : GG} {b0 : Nat} {h : AH} {H H1 : Heap} {e : ae} (hP : HP G b0 h H) (he : va_at G.1 vwCl (h.1, cv G e) H1) (z : H1.size = H.size + 1) (oq : ∀ q : Nat, q < H.size → H1[q]? = H[q]?) : HP G b0 (hnew h e) H1 := by
  refine ⟨by rw [z, hP.1]; rfl, Nat.le_succ_of_le hP.2.1, fun x y hx => ?_⟩
  by_cases q : x = h.1
  · subst q
    simp only [hnew, if_pos] at hx
    cases hx
    exact ⟨hP.2.1, he⟩
  · simp only [hnew, if_neg q] at hx
    have := hP.2.2 x y hx
    exact ⟨this.1, this.2.kept (oq x this.2.lt)⟩
theorem HP.one {G : GG} {b0 : Nat} {h : AH} {H : Heap} {a : Nat} {e : ae} (hP : HP G b0 h H) (h0 : h.2 a = some e) : va_P G.1 vwCl [(a, cv G e)] H := by
  intro k q hk
  have hz : k < 1 := (List.getElem?_eq_some_iff.mp hk).1
  rw [show k = 0 by omega] at hk
  cases hk
  exact (hP.2.2 a e h0).2
-- the array kinds: 0 int, 1 long, 2 boolean, 3 int[][], 4.. references
def tysG (G : GG) : List (ClassId × FieldType) := [(G.2.1 0, .int), (G.2.1 1, .long), (G.2.1 2, .boolean), (G.2.1 3, .array .int), (G.2.1 4, .object RX3), (G.2.1 5, .object RX5), (G.2.1 6, .object RX8), (G.2.1 7, .object RX4)]
/-- the words that a walk may hand on -/
def gw : List Cond := lw_tbl.filter goodWord
theorem gw_at {w : Cond} (i : Nat) (h : lw_tbl[i]? = some w) (hg : goodWord w = true) : w ∈ gw := List.mem_filter.mpr ⟨List.mem_of_getElem? h, hg⟩
theorem gw_good {y : MethodName} {cc : ByteArray} {n : Nat} {r : Option FieldType} (h : Cond.code y cc n r ∈ gw) : GoodIn gw (Cond.code y cc n r :: gw) := by
  have k : ∀ w ∈ gw, w ∈ gw ∧ ((w.onTables && w.keeps) = true ∨ ∃ ty, w = .arrayClass ty) := fun w hw => ⟨hw, good_of_word (List.mem_filter.mp hw).2⟩
  intro w hw
  rcases List.mem_cons.mp hw with e | e
  · rw [e]; exact k _ h
  · exact k _ e
theorem gw_all {big ws : List Cond} (h : ∀ w ∈ ws, w ∈ big) (hb : ∀ w ∈ big, w ∈ lw_tbl) (hg : ws.all goodWord = true) : ∀ w ∈ ws, w ∈ gw := fun w hw => List.mem_filter.mpr ⟨hb w (h w hw), List.all_eq_true.mp hg w hw⟩
theorem gw_in (ws : List Cond) (ps : List Nat) (hp : ws = ps.filterMap (fun i => lw_tbl[i]?)) (h : ws.all goodWord = true) : ∀ w ∈ ws, w ∈ gw := by
  intro w hw
  refine List.mem_filter.mpr ⟨?_, List.all_eq_true.mp h w hw⟩
  rw [hp] at hw
  obtain ⟨i, -, hi⟩ := List.mem_filterMap.mp hw
  exact List.mem_of_getElem? hi
-- private links and classes of arrays of references, which no list of words may hold
def nw_i : List (String × Nat × MethodName) := [("TollWays", 47, yX0_init), ("TollWays$Cheapest", 11, yX6_init), ("TollWays", 61, yX5_init), ("TollWays$Steady", 22, yX6_init), ("TollWays", 68, yX7_init), ("TollWays", 91, yX6_init), ("TollWays", 96, yX8_init), ("TollWays", 97, yX4_init), ("TollWays$Net", 42, yX9_isOneOf), ("TollWays", 335, yX5_canAllDrive)]
def va_OA (U : State) : Prop := (Cond.arrayOver (.array .int)).before #[] U = true
theorem va_OA.moved {u U : State} (hvm : u.vm.Alike U.vm) (h : va_OA u) : va_OA U := over_moved hvm h
def KK (G : GG) (U : State) : Prop := va_K G.1 vwCl (tysG G) U ∧ (∀ q ∈ nw_i, va_Nw (.methodLinkNest q.1 q.2.1 q.2.2 "TollWays") U) ∧ (va_AO RX3 U ∧ va_AO RX5 U ∧ va_AO RX8 U ∧ va_AO RX4 U) ∧ va_OA U
theorem KK.warm {G : GG} {s U : State} (hW : s.WarmedH U.vm) (h : KK G s) : KK G U := ⟨h.1.moved hW.alike, fun q hq => (h.2.1 q hq).warmM hW, ⟨h.2.2.1.1.moved hW.alike, h.2.2.1.2.1.moved hW.alike, h.2.2.1.2.2.1.moved hW.alike, h.2.2.1.2.2.2.moved hW.alike⟩, h.2.2.2.moved hW.alike⟩
theorem KK.same {G : GG} {s U : State} (hv : s.vm = U.vm) (h : KK G s) : KK G U := by
  have ha : s.vm.Alike U.vm := by rw [hv]; exact Vm.Alike.refl _
  exact ⟨h.1.moved ha, fun q hq => (h.2.1 q hq).same rfl hv, ⟨h.2.2.1.1.moved ha, h.2.2.1.2.1.moved ha, h.2.2.1.2.2.1.moved ha, h.2.2.1.2.2.2.moved ha⟩, h.2.2.2.moved ha⟩
/-- the two tables of traits, which nobody writes -/
def trL : Nat → Value := fun j => .int (match j with | 0 => 1 | 1 => 0 | 2 => 1 | _ => 0)
def trM : Nat → Value := fun j => .int (match j with | 0 => 5 | 1 => 12 | 2 => 9 | _ => 9)
def AB (b0 : Nat) : Nat → Prop := fun q => b0 ≤ q
def ST (G : GG) (b0 : Nat) (U : State) (H : Heap) : Prop := (va_Z "TollWays" "LEAST_TRAIT" "[I" (.ref G.2.2.1) (AB b0) U H ∧ va_T .int G.2.2.1 4 trL (AB b0) U H) ∧ va_Z "TollWays" "MOST_TRAIT" "[I" (.ref G.2.2.2) (AB b0) U H ∧ va_T .int G.2.2.2 4 trM (AB b0) U H
theorem ST.moved {G : GG} {b0 : Nat} {u U : State} {H : Heap} (hvm : u.vm.Alike U.vm) (h : ST G b0 u H) : ST G b0 U H := ⟨⟨h.1.1.moved hvm, h.1.2.moved hvm⟩, h.2.1.moved hvm, h.2.2.moved hvm⟩
theorem ST.kept {G : GG} {b0 : Nat} {U : State} {H H1 : Heap} (h : ST G b0 U H) (hq : ∀ a : Nat, a < H.size → ¬ AB b0 a → H1[a]? = H[a]?) : ST G b0 U H1 := ⟨⟨h.1.1.kept hq, h.1.2.kept hq⟩, h.2.1.kept hq, h.2.2.kept hq⟩
/-- what holds at a method's entry, and what every instruction of it may lean on -/
def CX (p : Program) (s : State) (m : MethodId) (args : Array Value) (meth : Method) (c : Code) (cc : ByteArray) (nL : Nat) (own : String) (ret : Option FieldType) (G : GG) (b0 : Nat) : Prop :=
  p.tables.exec = Jvm.exec ∧ c.code = cc ∧ c.maxLocals = nL ∧ s.vm.findClass own = some m.cls ∧ (∀ w ∈ gw, w.before args s = true) ∧ meth.sig.returnType = ret ∧ meth.locks = false ∧ KK G s ∧ b0 ≤ s.heap.size ∧ ST G b0 s s.heap
/-- the machine, at an abstract heap, comes to a state with Q -/
def WA (p : Program) (l : Launch) (e : Env) (R : Room) (s : State) (m : MethodId) (args : Array Value) (below : List Frame) (meth : Method) (c : Code) (Q : State → Prop) (G : GG) (b0 nL : Nat) (h0 : AH) (cells slots : Nat) (h : AH) (pc : Nat) (lv : List (Nat × Value)) (st : List Value) : Prop :=
  ∀ (H : Heap) (locs : List Loc) (ls : Array Slot), HP G b0 h H → EX h0 h → va_S (AB b0) s.heap H locs → lv_has ls nL lv → W p l e R s m args below meth c H locs cells slots Q (F0 m pc ls st)
/-- a contract's start -/
def PRE (G : GG) (b0 : Nat) (h : AH) (U : State) : Prop := HP G b0 h U.heap ∧ KK G U ∧ b0 ≤ U.heap.size ∧ ST G b0 U U.heap
theorem PRE.blind {G : GG} {b0 : Nat} {h : AH} {av : List Value} : FrameBlind (va_Pc av (PRE G b0 h)) := by
  intro a U g mk ⟨q0, q1, q2, q3, q4⟩
  exact ⟨q0, q1, KK.same (s := U) (U := U.calling g mk a) rfl q2, q3, ST.moved (u := U) (U := U.calling g mk a) (Vm.Alike.refl U.vm) q4⟩
