section RN_
variable {p : Program} {l : Launch} {e : Env} {R : Room} {s : State} {m : MethodId} {args : Array Value} {below : List Frame} {meth : Method} {c : Code} {Q : State → Prop} {G : GG} {b0 nL : Nat} {h0 : AH} {cells slots : Nat} {h : AH} {pc : Nat} {lv : List (Nat × Value)} {st : List Value} {cc : ByteArray} {own : String} {ret : Option FieldType}

theorem r_null (K : CX p s m args meth c cc nL own ret G b0) (d : decode cc pc = .ok (.aconst_null, 1)) (k : WA p l e R s m args below meth c Q G b0 nL h0 cells slots h (pc + 1) lv (.null :: st)) : WA p l e R s m args below meth c Q G b0 nL h0 cells slots h pc lv st := fun H locs ls hP hE hS hl => lv_null K.1 K.2.1 d (k H locs ls hP hE hS hl)
theorem r_ifnull (K : CX p s m args meth c cc nL own ret G b0) {x : Nat} {off : Int} (d : decode cc pc = .ok (.ifnull off, 3)) (k : WA p l e R s m args below meth c Q G b0 nL h0 cells slots h (pc + 3) lv st) : WA p l e R s m args below meth c Q G b0 nL h0 cells slots h pc lv (.ref x :: st) := fun H locs ls hP hE hS hl => lv_ifnull K.1 K.2.1 d (k H locs ls hP hE hS hl)
theorem r_ifnullN (K : CX p s m args meth c cc nL own ret G b0) {off : Int} {tgt : Nat} (d : decode cc pc = .ok (.ifnull off, 3)) (ht : (pc : Int) + off = (tgt : Int)) (k : WA p l e R s m args below meth c Q G b0 nL h0 cells slots h tgt lv st) : WA p l e R s m args below meth c Q G b0 nL h0 cells slots h pc lv (.null :: st) := fun H locs ls hP hE hS hl => lv_ifnullN K.1 K.2.1 d ht (k H locs ls hP hE hS hl)
theorem r_ifnonnull (K : CX p s m args meth c cc nL own ret G b0) {x : Nat} {off : Int} {tgt : Nat} (d : decode cc pc = .ok (.ifnonnull off, 3)) (ht : (pc : Int) + off = (tgt : Int)) (k : WA p l e R s m args below meth c Q G b0 nL h0 cells slots h tgt lv st) : WA p l e R s m args below meth c Q G b0 nL h0 cells slots h pc lv (.ref x :: st) := fun H locs ls hP hE hS hl => lv_ifnonnull K.1 K.2.1 d ht (k H locs ls hP hE hS hl)
theorem r_ifnonnullN (K : CX p s m args meth c cc nL own ret G b0) {off : Int} (d : decode cc pc = .ok (.ifnonnull off, 3)) (k : WA p l e R s m args below meth c Q G b0 nL h0 cells slots h (pc + 3) lv st) : WA p l e R s m args below meth c Q G b0 nL h0 cells slots h pc lv (.null :: st) := fun H locs ls hP hE hS hl => lv_ifnonnullN K.1 K.2.1 d (k H locs ls hP hE hS hl)
theorem r_aload_nQ (K : CX p s m args meth c cc nL own ret G b0) {i : Fin 4} {x : Option Nat} (j : Nat) (d : decode cc pc = .ok (.aload_n i, 1)) (hj : lv[j]? = some ((i : Nat), va_rf x)) (k : WA p l e R s m args below meth c Q G b0 nL h0 cells slots h (pc + 1) lv (va_rf x :: st)) : WA p l e R s m args below meth c Q G b0 nL h0 cells slots h pc lv st := fun H locs ls hP hE hS hl => by
  cases x with
  | none => exact lv_aload_nN K.1 K.2.1 d rfl (lv_at hl j hj) (k H locs ls hP hE hS hl)
  | some x => exact lv_aload_n K.1 K.2.1 d rfl (lv_at hl j hj) (k H locs ls hP hE hS hl)
theorem r_aloadQ (K : CX p s m args meth c cc nL own ret G b0) {i : Nat} {x : Option Nat} (j : Nat) (d : decode cc pc = .ok (.aload i, 2)) (hj : lv[j]? = some (i, va_rf x)) (k : WA p l e R s m args below meth c Q G b0 nL h0 cells slots h (pc + 2) lv (va_rf x :: st)) : WA p l e R s m args below meth c Q G b0 nL h0 cells slots h pc lv st := fun H locs ls hP hE hS hl => by
  cases x with
  | none => exact lv_aloadN K.1 K.2.1 d (lv_at hl j hj) (k H locs ls hP hE hS hl)
  | some x => exact lv_aload K.1 K.2.1 d (lv_at hl j hj) (k H locs ls hP hE hS hl)
theorem rf_cat (x : Option Nat) : (va_rf x).category = 1 := by cases x <;> rfl
theorem r_astore_nQ (K : CX p s m args meth c cc nL own ret G b0) {i : Fin 4} {x : Option Nat} {lv1 : List (Nat × Value)} (d : decode cc pc = .ok (.astore_n i, 1)) (hn : (i : Nat) < nL) (hv : ((i : Nat), va_rf x) :: lv.filter (fun q => !(q.1 == (i : Nat)) && !(q.1 + 1 == (i : Nat) && q.2.category == 2)) = lv1) (k : WA p l e R s m args below meth c Q G b0 nL h0 cells slots h (pc + 1) lv1 st) : WA p l e R s m args below meth c Q G b0 nL h0 cells slots h pc lv (va_rf x :: st) := fun H locs ls hP hE hS hl => by
  cases x with
  | none => exact lv_astore_nN K.1 K.2.1 d rfl hl hn hv (fun ls hl => (k H locs ls hP hE hS hl))
  | some x => exact lv_astore_n K.1 K.2.1 d rfl hl hn hv (fun ls hl => (k H locs ls hP hE hS hl))
theorem r_astoreQ (K : CX p s m args meth c cc nL own ret G b0) {i : Nat} {x : Option Nat} {lv1 : List (Nat × Value)} (d : decode cc pc = .ok (.astore i, 2)) (hn : (i : Nat) < nL) (hv : ((i : Nat), va_rf x) :: lv.filter (fun q => !(q.1 == (i : Nat)) && !(q.1 + 1 == (i : Nat) && q.2.category == 2)) = lv1) (k : WA p l e R s m args below meth c Q G b0 nL h0 cells slots h (pc + 2) lv1 st) : WA p l e R s m args below meth c Q G b0 nL h0 cells slots h pc lv (va_rf x :: st) := fun H locs ls hP hE hS hl => by
  cases x with
  | none => exact lv_astoreN K.1 K.2.1 d hl hn hv (fun ls hl => (k H locs ls hP hE hS hl))
  | some x => exact lv_astore K.1 K.2.1 d hl hn hv (fun ls hl => (k H locs ls hP hE hS hl))
theorem r_objInit (K : CX p s m args meth c cc nL own ret G b0) {a i : Nat} (d : decode cc pc = .ok (.invokespecial i, 3)) (w1 : Cond.methodLink own i objectInit ∈ gw) (w2 : Cond.instanceMethod objectInit ∈ gw) (w3 : Cond.code objectInit ⟨#[0xb1]⟩ 1 none ∈ gw) (hf : 1 ≤ R.frames) (hw : (st.map fun v => v.category).sum + 12 ≤ R.locals) (k : WA p l e R s m args below meth c Q G b0 nL h0 cells slots h (pc + 3) lv st) : WA p l e R s m args below meth c Q G b0 nL h0 cells slots h pc lv (.ref a :: st) := fun H locs ls hP hE hS hl => W.objInit K.1 K.2.1 K.2.2.2.1 (K.2.2.2.2.1 _ w1) (K.2.2.2.2.1 _ w2) (K.2.2.2.2.1 _ w3) rfl (by rw [K.2.2.1]; exact hl.1) rfl d hf (by show 2 * 0 + _ + 12 ≤ _; omega) (k H locs ls hP hE hS hl)
theorem r_new (K : CX p s m args meth c cc nL own ret G b0) {C : String} {T : u_T} {N ci i a1 : Nat} {h1 : AH} {ty0 : Nat → FieldType} {fs : List Value} {cells1 slots1 : Nat} (d : decode cc pc = .ok (.new i, 3)) (hin : ∀ w ∈ u_ws C T N, w ∈ gw) (hc : vwCl[ci]? = some (C, T, N)) (hty : ∀ k, k < N → parseFieldDescriptor (T k).2.2.1 = some (ty0 k)) (w1 : Cond.classLink own i C ∈ gw) (w2 : Cond.instantiable C N ∈ gw) (w3 : Cond.initialized C ∈ gw) (hfs : ∀ j, j < N → defaultValue (ty0 j) = vp_V fs j) (ea : a1 = h.1) (eg : h1 = hnew h (.inr (ci, fs))) (k1 : cells + 1 = cells1) (k2 : slots + N = slots1) (g1 : cells1 ≤ R.cells) (g2 : slots1 ≤ R.slots) (kk : WA p l e R s m args below meth c Q G b0 nL h0 cells1 slots1 h1 (pc + 3) lv (.ref a1 :: st)) : WA p l e R s m args below meth c Q G b0 nL h0 cells slots h pc lv st := by
  intro H locs ls hP hE hS hl
  subst k1
  subst k2
  have hts := K.2.2.2.2.1
  have hK := K.2.2.2.2.2.2.2.1.1
  have hKn := hK.1 ci _ hc
  refine W.newcK K.1 K.2.1 K.2.2.2.1 (hts _ w1) (hts _ w2) (hts _ w3) rfl d g1 g2 hKn.2.1 rfl fun H1 kC hkC e1 z1 o1 => ?_
  have ha : a1 = H.size := by rw [hP.1]; exact ea
  have hAt : va_at G.1 vwCl (h.1, cv G (.inr (ci, fs))) H1 := by
    rw [← hP.1]
    exact ⟨_, hc, (u_born ty0 hts hin hKn hkC e1 hty).to hfs⟩
  have q := kk H1 locs ls (by rw [eg]; exact hP.push hAt z1 o1) (by rw [eg]; exact hE.tr (EX.new hP.fresh)) ⟨Nat.le_trans hS.1 (by omega), fun x q1 q2 => (o1 x (Nat.lt_of_lt_of_le q1 hS.1)).trans (hS.2.1 x q1 q2), hS.2.2⟩ hl
  rw [ha] at q
  exact q
theorem r_newa0 (K : CX p s m args meth c cc nL own ret G b0) {n : Int32} {N a1 : Nat} {h1 : AH} {cells1 slots1 : Nat} (d : decode cc pc = .ok (.newarray .int, 2)) (w : Cond.arrayClass .int ∈ gw) (hn : ¬ n < 0) (hN : n.toNatClampNeg = N) (hb : N * 8 ≤ 536870912) (ea : a1 = h.1) (eg : h1 = hnew h (.inl (0, N, .inl (fun _ => 0)))) (k1 : cells + 1 = cells1) (k2 : slots + N = slots1) (g1 : cells1 ≤ R.cells) (g2 : slots1 ≤ R.slots) (kk : WA p l e R s m args below meth c Q G b0 nL h0 cells1 slots1 h1 (pc + 2) lv (.ref a1 :: st)) : WA p l e R s m args below meth c Q G b0 nL h0 cells slots h pc lv (.int n :: st) := by
  intro H locs ls hP hE hS hl
  subst k1
  subst k2
  refine va_newaK (atype := .int) K.1 K.2.1 (K.2.2.2.2.1 _ w) rfl d rfl hn hN (by show N * componentBytes _ ≤ _; exact Nat.le_trans (Nat.mul_le_mul_left N (by decide)) hb) g1 g2 rfl fun H1 cA e1 z1 o1 hAr hNm => ?_
  have hcA : cA = G.2.1 0 := Option.some.inj (hNm.symm.trans (K.2.2.2.2.2.2.2.1.1.2 0 _ rfl).2)
  subst hcA
  have ha : a1 = H.size := by rw [hP.1]; exact ea
  have hAt : va_at G.1 vwCl (h.1, cv G (.inl (0, N, .inl (fun _ => 0)))) H1 := by
    rw [← hP.1]
    exact e1
  have q := kk H1 locs ls (by rw [eg]; exact hP.push hAt z1 o1) (by rw [eg]; exact hE.tr (EX.new hP.fresh)) ⟨Nat.le_trans hS.1 (by omega), fun x q1 q2 => (o1 x (Nat.lt_of_lt_of_le q1 hS.1)).trans (hS.2.1 x q1 q2), hS.2.2⟩ hl
  rw [ha] at q
  exact q
theorem r_newa1 (K : CX p s m args meth c cc nL own ret G b0) {n : Int32} {N a1 : Nat} {h1 : AH} {cells1 slots1 : Nat} (d : decode cc pc = .ok (.newarray .long, 2)) (w : Cond.arrayClass .long ∈ gw) (hn : ¬ n < 0) (hN : n.toNatClampNeg = N) (hb : N * 8 ≤ 536870912) (ea : a1 = h.1) (eg : h1 = hnew h (.inl (1, N, .inr (.inl (fun _ => 0))))) (k1 : cells + 1 = cells1) (k2 : slots + N = slots1) (g1 : cells1 ≤ R.cells) (g2 : slots1 ≤ R.slots) (kk : WA p l e R s m args below meth c Q G b0 nL h0 cells1 slots1 h1 (pc + 2) lv (.ref a1 :: st)) : WA p l e R s m args below meth c Q G b0 nL h0 cells slots h pc lv (.int n :: st) := by
  intro H locs ls hP hE hS hl
  subst k1
  subst k2
  refine va_newaK (atype := .long) K.1 K.2.1 (K.2.2.2.2.1 _ w) rfl d rfl hn hN (by show N * componentBytes _ ≤ _; exact Nat.le_trans (Nat.mul_le_mul_left N (by decide)) hb) g1 g2 rfl fun H1 cA e1 z1 o1 hAr hNm => ?_
  have hcA : cA = G.2.1 1 := Option.some.inj (hNm.symm.trans (K.2.2.2.2.2.2.2.1.1.2 1 _ rfl).2)
  subst hcA
  have ha : a1 = H.size := by rw [hP.1]; exact ea
  have hAt : va_at G.1 vwCl (h.1, cv G (.inl (1, N, .inr (.inl (fun _ => 0))))) H1 := by
    rw [← hP.1]
    exact e1
  have q := kk H1 locs ls (by rw [eg]; exact hP.push hAt z1 o1) (by rw [eg]; exact hE.tr (EX.new hP.fresh)) ⟨Nat.le_trans hS.1 (by omega), fun x q1 q2 => (o1 x (Nat.lt_of_lt_of_le q1 hS.1)).trans (hS.2.1 x q1 q2), hS.2.2⟩ hl
  rw [ha] at q
  exact q
theorem r_newa2 (K : CX p s m args meth c cc nL own ret G b0) {n : Int32} {N a1 : Nat} {h1 : AH} {cells1 slots1 : Nat} (d : decode cc pc = .ok (.newarray .boolean, 2)) (w : Cond.arrayClass .boolean ∈ gw) (hn : ¬ n < 0) (hN : n.toNatClampNeg = N) (hb : N * 8 ≤ 536870912) (ea : a1 = h.1) (eg : h1 = hnew h (.inl (2, N, .inl (fun _ => 0)))) (k1 : cells + 1 = cells1) (k2 : slots + N = slots1) (g1 : cells1 ≤ R.cells) (g2 : slots1 ≤ R.slots) (kk : WA p l e R s m args below meth c Q G b0 nL h0 cells1 slots1 h1 (pc + 2) lv (.ref a1 :: st)) : WA p l e R s m args below meth c Q G b0 nL h0 cells slots h pc lv (.int n :: st) := by
  intro H locs ls hP hE hS hl
  subst k1
  subst k2
  refine va_newaK (atype := .boolean) K.1 K.2.1 (K.2.2.2.2.1 _ w) rfl d rfl hn hN (by show N * componentBytes _ ≤ _; exact Nat.le_trans (Nat.mul_le_mul_left N (by decide)) hb) g1 g2 rfl fun H1 cA e1 z1 o1 hAr hNm => ?_
  have hcA : cA = G.2.1 2 := Option.some.inj (hNm.symm.trans (K.2.2.2.2.2.2.2.1.1.2 2 _ rfl).2)
  subst hcA
  have ha : a1 = H.size := by rw [hP.1]; exact ea
  have hAt : va_at G.1 vwCl (h.1, cv G (.inl (2, N, .inl (fun _ => 0)))) H1 := by
    rw [← hP.1]
    exact e1
  have q := kk H1 locs ls (by rw [eg]; exact hP.push hAt z1 o1) (by rw [eg]; exact hE.tr (EX.new hP.fresh)) ⟨Nat.le_trans hS.1 (by omega), fun x q1 q2 => (o1 x (Nat.lt_of_lt_of_le q1 hS.1)).trans (hS.2.1 x q1 q2), hS.2.2⟩ hl
  rw [ha] at q
  exact q
theorem r_newr4 (K : CX p s m args meth c cc nL own ret G b0) {n : Int32} {N a1 i : Nat} {h1 : AH} {cells1 slots1 : Nat} (d : decode cc pc = .ok (.anewarray i, 3)) (w : Cond.classLink own i RX3 ∈ gw) (hn : ¬ n < 0) (hN : n.toNatClampNeg = N) (hb : N * 4 ≤ 536870912) (ea : a1 = h.1) (eg : h1 = hnew h (.inl (4, N, .inr (.inr (.inr (.inr (fun _ => none))))))) (k1 : cells + 1 = cells1) (k2 : slots + N = slots1) (g1 : cells1 ≤ R.cells) (g2 : slots1 ≤ R.slots) (kk : WA p l e R s m args below meth c Q G b0 nL h0 cells1 slots1 h1 (pc + 3) lv (.ref a1 :: st)) : WA p l e R s m args below meth c Q G b0 nL h0 cells slots h pc lv (.int n :: st) := by
  intro H locs ls hP hE hS hl
  subst k1
  subst k2
  subst hN
  refine W.anew K.1 K.2.1 K.2.2.2.1 (K.2.2.2.2.1 _ w) (va_AO.use K.2.2.2.2.2.2.2.1.2.2.1.1) rfl d rfl hn hb g1 g2 fun cA kA comp f1 f2 f3 f4 => ?_
  obtain ⟨kA2, comp2, y1, y2, y3, y4⟩ := (K.2.2.2.2.2.2.2.1.1.2 4 _ rfl).2
  have hcA : cA = G.2.1 4 := Option.some.inj (f1.symm.trans y4)
  subst hcA
  have ha : a1 = H.size := by rw [hP.1]; exact ea
  generalize hH1 : H.push ({ cls := G.2.1 4, slots := Array.replicate n.toNatClampNeg .null, vm := .none } : Cell) = H1
  have z1 : H1.size = H.size + 1 := by rw [← hH1, Array.size_push]
  have e1 : H1[H.size]? = some (arrV (G.2.1 4) n.toNatClampNeg (fun _ => .null)) := by rw [← hH1, Array.getElem?_push_size, ← arrV_new]
  have o1 : ∀ q : Nat, q < H.size → H1[q]? = H[q]? := fun q hq => by rw [← hH1, Array.getElem?_push, if_neg (Nat.ne_of_lt hq)]
  have hAt : va_at G.1 vwCl (h.1, cv G (.inl (4, n.toNatClampNeg, .inr (.inr (.inr (.inr (fun _ => none))))))) H1 := by
    rw [← hP.1]
    exact e1
  have q := kk H1 locs ls (by rw [eg]; exact hP.push hAt z1 o1) (by rw [eg]; exact hE.tr (EX.new hP.fresh)) ⟨Nat.le_trans hS.1 (by omega), fun x q1 q2 => (o1 x (Nat.lt_of_lt_of_le q1 hS.1)).trans (hS.2.1 x q1 q2), hS.2.2⟩ hl
  rw [ha] at q
  exact q
theorem r_newr5 (K : CX p s m args meth c cc nL own ret G b0) {n : Int32} {N a1 i : Nat} {h1 : AH} {cells1 slots1 : Nat} (d : decode cc pc = .ok (.anewarray i, 3)) (w : Cond.classLink own i RX5 ∈ gw) (hn : ¬ n < 0) (hN : n.toNatClampNeg = N) (hb : N * 4 ≤ 536870912) (ea : a1 = h.1) (eg : h1 = hnew h (.inl (5, N, .inr (.inr (.inr (.inr (fun _ => none))))))) (k1 : cells + 1 = cells1) (k2 : slots + N = slots1) (g1 : cells1 ≤ R.cells) (g2 : slots1 ≤ R.slots) (kk : WA p l e R s m args below meth c Q G b0 nL h0 cells1 slots1 h1 (pc + 3) lv (.ref a1 :: st)) : WA p l e R s m args below meth c Q G b0 nL h0 cells slots h pc lv (.int n :: st) := by
  intro H locs ls hP hE hS hl
  subst k1
  subst k2
  subst hN
  refine W.anew K.1 K.2.1 K.2.2.2.1 (K.2.2.2.2.1 _ w) (va_AO.use K.2.2.2.2.2.2.2.1.2.2.1.2.1) rfl d rfl hn hb g1 g2 fun cA kA comp f1 f2 f3 f4 => ?_
  obtain ⟨kA2, comp2, y1, y2, y3, y4⟩ := (K.2.2.2.2.2.2.2.1.1.2 5 _ rfl).2
  have hcA : cA = G.2.1 5 := Option.some.inj (f1.symm.trans y4)
  subst hcA
  have ha : a1 = H.size := by rw [hP.1]; exact ea
  generalize hH1 : H.push ({ cls := G.2.1 5, slots := Array.replicate n.toNatClampNeg .null, vm := .none } : Cell) = H1
  have z1 : H1.size = H.size + 1 := by rw [← hH1, Array.size_push]
  have e1 : H1[H.size]? = some (arrV (G.2.1 5) n.toNatClampNeg (fun _ => .null)) := by rw [← hH1, Array.getElem?_push_size, ← arrV_new]
  have o1 : ∀ q : Nat, q < H.size → H1[q]? = H[q]? := fun q hq => by rw [← hH1, Array.getElem?_push, if_neg (Nat.ne_of_lt hq)]
  have hAt : va_at G.1 vwCl (h.1, cv G (.inl (5, n.toNatClampNeg, .inr (.inr (.inr (.inr (fun _ => none))))))) H1 := by
    rw [← hP.1]
    exact e1
  have q := kk H1 locs ls (by rw [eg]; exact hP.push hAt z1 o1) (by rw [eg]; exact hE.tr (EX.new hP.fresh)) ⟨Nat.le_trans hS.1 (by omega), fun x q1 q2 => (o1 x (Nat.lt_of_lt_of_le q1 hS.1)).trans (hS.2.1 x q1 q2), hS.2.2⟩ hl
  rw [ha] at q
  exact q
theorem r_newr6 (K : CX p s m args meth c cc nL own ret G b0) {n : Int32} {N a1 i : Nat} {h1 : AH} {cells1 slots1 : Nat} (d : decode cc pc = .ok (.anewarray i, 3)) (w : Cond.classLink own i RX8 ∈ gw) (hn : ¬ n < 0) (hN : n.toNatClampNeg = N) (hb : N * 4 ≤ 536870912) (ea : a1 = h.1) (eg : h1 = hnew h (.inl (6, N, .inr (.inr (.inr (.inr (fun _ => none))))))) (k1 : cells + 1 = cells1) (k2 : slots + N = slots1) (g1 : cells1 ≤ R.cells) (g2 : slots1 ≤ R.slots) (kk : WA p l e R s m args below meth c Q G b0 nL h0 cells1 slots1 h1 (pc + 3) lv (.ref a1 :: st)) : WA p l e R s m args below meth c Q G b0 nL h0 cells slots h pc lv (.int n :: st) := by
  intro H locs ls hP hE hS hl
  subst k1
  subst k2
  subst hN
  refine W.anew K.1 K.2.1 K.2.2.2.1 (K.2.2.2.2.1 _ w) (va_AO.use K.2.2.2.2.2.2.2.1.2.2.1.2.2.1) rfl d rfl hn hb g1 g2 fun cA kA comp f1 f2 f3 f4 => ?_
  obtain ⟨kA2, comp2, y1, y2, y3, y4⟩ := (K.2.2.2.2.2.2.2.1.1.2 6 _ rfl).2
  have hcA : cA = G.2.1 6 := Option.some.inj (f1.symm.trans y4)
  subst hcA
  have ha : a1 = H.size := by rw [hP.1]; exact ea
  generalize hH1 : H.push ({ cls := G.2.1 6, slots := Array.replicate n.toNatClampNeg .null, vm := .none } : Cell) = H1
  have z1 : H1.size = H.size + 1 := by rw [← hH1, Array.size_push]
  have e1 : H1[H.size]? = some (arrV (G.2.1 6) n.toNatClampNeg (fun _ => .null)) := by rw [← hH1, Array.getElem?_push_size, ← arrV_new]
  have o1 : ∀ q : Nat, q < H.size → H1[q]? = H[q]? := fun q hq => by rw [← hH1, Array.getElem?_push, if_neg (Nat.ne_of_lt hq)]
  have hAt : va_at G.1 vwCl (h.1, cv G (.inl (6, n.toNatClampNeg, .inr (.inr (.inr (.inr (fun _ => none))))))) H1 := by
    rw [← hP.1]
    exact e1
  have q := kk H1 locs ls (by rw [eg]; exact hP.push hAt z1 o1) (by rw [eg]; exact hE.tr (EX.new hP.fresh)) ⟨Nat.le_trans hS.1 (by omega), fun x q1 q2 => (o1 x (Nat.lt_of_lt_of_le q1 hS.1)).trans (hS.2.1 x q1 q2), hS.2.2⟩ hl
  rw [ha] at q
  exact q
theorem r_newr7 (K : CX p s m args meth c cc nL own ret G b0) {n : Int32} {N a1 i : Nat} {h1 : AH} {cells1 slots1 : Nat} (d : decode cc pc = .ok (.anewarray i, 3)) (w : Cond.classLink own i RX4 ∈ gw) (hn : ¬ n < 0) (hN : n.toNatClampNeg = N) (hb : N * 4 ≤ 536870912) (ea : a1 = h.1) (eg : h1 = hnew h (.inl (7, N, .inr (.inr (.inr (.inr (fun _ => none))))))) (k1 : cells + 1 = cells1) (k2 : slots + N = slots1) (g1 : cells1 ≤ R.cells) (g2 : slots1 ≤ R.slots) (kk : WA p l e R s m args below meth c Q G b0 nL h0 cells1 slots1 h1 (pc + 3) lv (.ref a1 :: st)) : WA p l e R s m args below meth c Q G b0 nL h0 cells slots h pc lv (.int n :: st) := by
  intro H locs ls hP hE hS hl
  subst k1
  subst k2
  subst hN
  refine W.anew K.1 K.2.1 K.2.2.2.1 (K.2.2.2.2.1 _ w) (va_AO.use K.2.2.2.2.2.2.2.1.2.2.1.2.2.2) rfl d rfl hn hb g1 g2 fun cA kA comp f1 f2 f3 f4 => ?_
  obtain ⟨kA2, comp2, y1, y2, y3, y4⟩ := (K.2.2.2.2.2.2.2.1.1.2 7 _ rfl).2
  have hcA : cA = G.2.1 7 := Option.some.inj (f1.symm.trans y4)
  subst hcA
  have ha : a1 = H.size := by rw [hP.1]; exact ea
  generalize hH1 : H.push ({ cls := G.2.1 7, slots := Array.replicate n.toNatClampNeg .null, vm := .none } : Cell) = H1
  have z1 : H1.size = H.size + 1 := by rw [← hH1, Array.size_push]
  have e1 : H1[H.size]? = some (arrV (G.2.1 7) n.toNatClampNeg (fun _ => .null)) := by rw [← hH1, Array.getElem?_push_size, ← arrV_new]
  have o1 : ∀ q : Nat, q < H.size → H1[q]? = H[q]? := fun q hq => by rw [← hH1, Array.getElem?_push, if_neg (Nat.ne_of_lt hq)]
  have hAt : va_at G.1 vwCl (h.1, cv G (.inl (7, n.toNatClampNeg, .inr (.inr (.inr (.inr (fun _ => none))))))) H1 := by
    rw [← hP.1]
    exact e1
  have q := kk H1 locs ls (by rw [eg]; exact hP.push hAt z1 o1) (by rw [eg]; exact hE.tr (EX.new hP.fresh)) ⟨Nat.le_trans hS.1 (by omega), fun x q1 q2 => (o1 x (Nat.lt_of_lt_of_le q1 hS.1)).trans (hS.2.1 x q1 q2), hS.2.2⟩ hl
  rw [ha] at q
  exact q
theorem r_aastore (K : CX p s m args meth c cc nL own ret G b0) {a kd : Nat} {i : Int32} {x : Option Nat} {h1 : AH} {r : vw_C} (d : decode cc pc = .ok (.aastore, 1)) (ht : (tysG G)[kd]? = some (G.2.1 kd, .object r.1)) (hc : vwCl[kdC kd]? = some r) (q : sQ h a kd i x = some h1) (kk : WA p l e R s m args below meth c Q G b0 nL h0 cells slots h1 (pc + 1) lv st) : WA p l e R s m args below meth c Q G b0 nL h0 cells slots h pc lv (va_rf x :: .int i :: .ref a :: st) := by
  intro H locs ls hP hE hS hl
  obtain ⟨n, f, q1, q2, q3, rfl⟩ := sQ_s q
  have hlt : i.toNatClampNeg < n := Nat.not_le.mp fun q => q2 (Or.inr q)
  have hi0 : ¬ i < 0 := fun q => q2 (Or.inl q)
  obtain ⟨hb0, hat⟩ := hP.2.2 a _ q1
  have hK := K.2.2.2.2.2.2.2.1.1
  have fin : ∀ (H1 : Heap), H1[a]? = some ((vp_cell (G.2.1 kd) (n, .inr (.inr (.inr (.inr f))))).setSlot i.toNatClampNeg (va_rf x)) → va_at G.1 vwCl (a, cv G (.inl (kd, n, .inr (.inr (.inr (.inr (va_up f i.toNatClampNeg x))))))) H1 := by
    intro H1 e
    show H1[a]? = some (vp_cell (G.2.1 kd) (n, .inr (.inr (.inr (.inr (va_up f i.toNatClampNeg x))))))
    rw [e, vp_cell_q, vp_cell_q, arrV_store]
    congr 2
    funext q
    by_cases hq : q = i.toNatClampNeg
    · subst hq
      simp [updV, va_up]
    · simp [updV, va_up, hq]
  cases x with
  | none =>
    refine va_WaastN (C := r.1) K.1 K.2.1 hat ((hK.2 kd _ ht).1 n (fun j => va_rf (f j))) (fun h => by cases h) (by show ¬ (i < 0 ∨ (arrV _ _ _).slots.size ≤ _); rw [arrV_size]; exact q2) rfl rfl d fun H1 e z oq => ?_
    exact kk H1 _ ls (hP.up q1 (fin H1 e) z oq) (hE.tr (EX.upA q1)) (hS.put z oq hb0) hl
  | some v =>
    obtain ⟨vs, hv⟩ := q3 v rfl
    obtain ⟨hbv, r', hr', cellV, g1, g2, g3, -⟩ := hP.2.2 v _ hv
    have hcls := (hK.1 (kdC kd) r hc).2
    obtain ⟨kA, comp, k1, k2, k3, -⟩ := (hK.2 kd _ ht).2
    have hcomp : comp = G.1.1 (kdC kd) := Option.some.inj (k3.symm.trans hcls.1)
    subst hcomp
    obtain ⟨kC, hkC, -⟩ := hcls.2
    refine W.aast K.1 K.2.1 hat (fun q h => by cases h) (fun h => by cases h) k1 k2 rfl hkC ⟨hi0, by show _ < (arrV _ _ _).slots.size; rw [arrV_size]; exact hlt⟩ g1 (fun q h => by rw [g3] at h; cases h) (by rw [g2]; exact hkC) (by rw [g2]; exact va_assign hcls) rfl rfl d fun H1 e z oq => ?_
    exact kk H1 _ ls (hP.up q1 (fin H1 e) z oq) (hE.tr (EX.upA q1)) (hS.put z oq hb0) hl
def aNk (h : AH) (a kd : Nat) : Option Int32 := match h.2 a with
  | some (.inl x) => if x.1 = kd then some (Int32.ofNat x.2.1) else none
  | _ => none
theorem aNk_s {h : AH} {a kd : Nat} {x : Int32} (q : aNk h a kd = some x) : ∃ y : vp_A, h.2 a = some (.inl (kd, y)) ∧ Int32.ofNat y.1 = x := by
  unfold aNk at q
  split at q
  · rename_i y ho
    split at q
    · rename_i e
      subst e
      cases q
      exact ⟨y.2, ho, rfl⟩
    · cases q
  · cases q
theorem r_alenk (K : CX p s m args meth c cc nL own ret G b0) {a kd : Nat} {x : Int32} {ty : FieldType} (d : decode cc pc = .ok (.arraylength, 1)) (ht : (tysG G)[kd]? = some (G.2.1 kd, ty)) (q : aNk h a kd = some x) (kk : WA p l e R s m args below meth c Q G b0 nL h0 cells slots h (pc + 1) lv (.int x :: st)) : WA p l e R s m args below meth c Q G b0 nL h0 cells slots h pc lv (.ref a :: st) := by
  intro H locs ls hP hE hS hl
  obtain ⟨y, q1, q2⟩ := aNk_s q
  exact va_alen K.1 K.2.1 K.2.2.2.2.2.2.2.1.1 (hP.one q1) 0 kd rfl ht q2 d (kk H locs ls hP hE hS hl)
end RN_
