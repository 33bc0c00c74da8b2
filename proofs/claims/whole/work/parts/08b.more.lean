def tTL (i : Int32) : Option Int32 := if ¬ (i < 0 ∨ 4 ≤ i.toNatClampNeg) then some (match i.toNatClampNeg with | 0 => 1 | 1 => 0 | 2 => 1 | _ => 0) else none
def tTM (i : Int32) : Option Int32 := if ¬ (i < 0 ∨ 4 ≤ i.toNatClampNeg) then some (match i.toNatClampNeg with | 0 => 5 | 1 => 12 | 2 => 9 | _ => 9) else none
def nn (r : UInt32) : Bool := decide (r &&& 0x7fffffff ≤ 0x7f800000)
theorem nn_n {r : UInt32} (q : nn r = true) : vf_n32 r := by
  unfold nn at q
  exact of_decide_eq_true (p := r &&& 0x7fffffff ≤ 0x7f800000) q
/-- System.arraycopy between int arrays -/
def cpI (h : AH) (a0 : Nat) (sp : Int32) (a : Nat) (dp n : Int32) : Option AH := match h.2 a0, h.2 a with
  | some (.inl (k0, n0, .inl f)), some (.inl (k1, n1, .inl g)) => if (k0 = 0 ∧ k1 = 0) ∧ (¬ sp < 0 ∧ ¬ dp < 0 ∧ ¬ n < 0) ∧ sp.toNatClampNeg + n.toNatClampNeg ≤ n0 ∧ dp.toNatClampNeg + n.toNatClampNeg ≤ n1 then some (hup h a (.inl (0, n1, .inl (va_cpy f g sp.toNatClampNeg dp.toNatClampNeg n.toNatClampNeg)))) else none
  | _, _ => none
theorem cpI_s {h h1 : AH} {a0 a : Nat} {sp dp n : Int32} (q : cpI h a0 sp a dp n = some h1) : ∃ (n0 n1 : Nat) (f g : Nat → Int32), h.2 a0 = some (.inl (0, n0, .inl f)) ∧ h.2 a = some (.inl (0, n1, .inl g)) ∧ ¬ sp < 0 ∧ ¬ dp < 0 ∧ ¬ n < 0 ∧ sp.toNatClampNeg + n.toNatClampNeg ≤ n0 ∧ dp.toNatClampNeg + n.toNatClampNeg ≤ n1 ∧ h1 = hup h a (.inl (0, n1, .inl (va_cpy f g sp.toNatClampNeg dp.toNatClampNeg n.toNatClampNeg))) := by
  unfold cpI at q
  split at q
  · rename_i k0 n0 f k1 n1 g q0 q1
    rw [Option.ite_none_right_eq_some] at q
    obtain ⟨⟨⟨rfl, rfl⟩, ⟨r1, r2, r3⟩, r4, r5⟩, q⟩ := q
    exact ⟨n0, n1, f, g, q0, q1, r1, r2, r3, r4, r5, (Option.some.inj q).symm⟩
  · cases q
section RO_
variable {p : Program} {l : Launch} {e : Env} {R : Room} {s : State} {m : MethodId} {args : Array Value} {below : List Frame} {meth : Method} {c : Code} {Q : State → Prop} {G : GG} {b0 nL : Nat} {h0 : AH} {cells slots : Nat} {h : AH} {pc : Nat} {lv : List (Nat × Value)} {st : List Value} {cc : ByteArray} {own : String} {ret : Option FieldType}

theorem r_statL (K : CX p s m args meth c cc nL own ret G b0) {i : Nat} (d : decode cc pc = .ok (.getstatic i, 3)) (w : Cond.fieldLink own i "TollWays" "LEAST_TRAIT" "[I" ∈ gw) (k : WA p l e R s m args below meth c Q G b0 nL h0 cells slots h (pc + 3) lv (.ref G.2.2.1 :: st)) : WA p l e R s m args below meth c Q G b0 nL h0 cells slots h pc lv st := fun H locs ls hP hE hS hl => va_gets K.1 K.2.1 K.2.2.2.2.2.2.2.2.2.1.1 hS K.2.2.2.1 (K.2.2.2.2.1 _ w) (fun _ x => x) d (k H locs ls hP hE hS hl)
theorem r_traitL (K : CX p s m args meth c cc nL own ret G b0) {i x : Int32} (d : decode cc pc = .ok (.iaload, 1)) (q : tTL i = some x) (k : WA p l e R s m args below meth c Q G b0 nL h0 cells slots h (pc + 1) lv (.int x :: st)) : WA p l e R s m args below meth c Q G b0 nL h0 cells slots h pc lv (.int i :: .ref G.2.2.1 :: st) := fun H locs ls hP hE hS hl => by
  unfold tTL at q
  rw [Option.ite_none_right_eq_some] at q
  obtain ⟨q1, q2⟩ := q
  exact va_ti K.1 K.2.1 K.2.2.2.2.2.2.2.2.2.1.2 hS q1 (v := .int x) (by rw [← Option.some.inj q2]; rfl) d (k H locs ls hP hE hS hl)
theorem r_statM (K : CX p s m args meth c cc nL own ret G b0) {i : Nat} (d : decode cc pc = .ok (.getstatic i, 3)) (w : Cond.fieldLink own i "TollWays" "MOST_TRAIT" "[I" ∈ gw) (k : WA p l e R s m args below meth c Q G b0 nL h0 cells slots h (pc + 3) lv (.ref G.2.2.2 :: st)) : WA p l e R s m args below meth c Q G b0 nL h0 cells slots h pc lv st := fun H locs ls hP hE hS hl => va_gets K.1 K.2.1 K.2.2.2.2.2.2.2.2.2.2.1 hS K.2.2.2.1 (K.2.2.2.2.1 _ w) (fun _ x => x) d (k H locs ls hP hE hS hl)
theorem r_traitM (K : CX p s m args meth c cc nL own ret G b0) {i x : Int32} (d : decode cc pc = .ok (.iaload, 1)) (q : tTM i = some x) (k : WA p l e R s m args below meth c Q G b0 nL h0 cells slots h (pc + 1) lv (.int x :: st)) : WA p l e R s m args below meth c Q G b0 nL h0 cells slots h pc lv (.int i :: .ref G.2.2.2 :: st) := fun H locs ls hP hE hS hl => by
  unfold tTM at q
  rw [Option.ite_none_right_eq_some] at q
  obtain ⟨q1, q2⟩ := q
  exact va_ti K.1 K.2.1 K.2.2.2.2.2.2.2.2.2.2.2 hS q1 (v := .int x) (by rw [← Option.some.inj q2]; rfl) d (k H locs ls hP hE hS hl)
theorem r_i2f (K : CX p s m args meth c cc nL own ret G b0) {x : Int32} (d : decode cc pc = .ok (.i2f, 1)) (k : WA p l e R s m args below meth c Q G b0 nL h0 cells slots h (pc + 1) lv (.float (FP.i2f x) :: st)) : WA p l e R s m args below meth c Q G b0 nL h0 cells slots h pc lv (.int x :: st) := fun H locs ls hP hE hS hl => lv_i2f K.1 K.2.1 d (k H locs ls hP hE hS hl)
theorem r_l2f (K : CX p s m args meth c cc nL own ret G b0) {x : Int64} (d : decode cc pc = .ok (.l2f, 1)) (k : WA p l e R s m args below meth c Q G b0 nL h0 cells slots h (pc + 1) lv (.float (FP.l2f x) :: st)) : WA p l e R s m args below meth c Q G b0 nL h0 cells slots h pc lv (.long x :: st) := fun H locs ls hP hE hS hl => lv_l2f K.1 K.2.1 d (k H locs ls hP hE hS hl)
theorem r_f2i (K : CX p s m args meth c cc nL own ret G b0) {x : UInt32} (d : decode cc pc = .ok (.f2i, 1)) (k : WA p l e R s m args below meth c Q G b0 nL h0 cells slots h (pc + 1) lv (.int (FP.f2i x) :: st)) : WA p l e R s m args below meth c Q G b0 nL h0 cells slots h pc lv (.float x :: st) := fun H locs ls hP hE hS hl => lv_f2i K.1 K.2.1 d (k H locs ls hP hE hS hl)
theorem r_fadd (K : CX p s m args meth c cc nL own ret G b0) {x y : UInt32} (d : decode cc pc = .ok (.fadd, 1)) (hne : vf_n32 (FP.fadd x y)) (k : WA p l e R s m args below meth c Q G b0 nL h0 cells slots h (pc + 1) lv (.float (FP.fadd x y) :: st)) : WA p l e R s m args below meth c Q G b0 nL h0 cells slots h pc lv (.float y :: .float x :: st) := fun H locs ls hP hE hS hl => lv_fadd K.1 K.2.1 d hne (k H locs ls hP hE hS hl)
theorem r_fsub (K : CX p s m args meth c cc nL own ret G b0) {x y : UInt32} (d : decode cc pc = .ok (.fsub, 1)) (hne : vf_n32 (FP.fsub x y)) (k : WA p l e R s m args below meth c Q G b0 nL h0 cells slots h (pc + 1) lv (.float (FP.fsub x y) :: st)) : WA p l e R s m args below meth c Q G b0 nL h0 cells slots h pc lv (.float y :: .float x :: st) := fun H locs ls hP hE hS hl => lv_fsub K.1 K.2.1 d hne (k H locs ls hP hE hS hl)
theorem r_fmul (K : CX p s m args meth c cc nL own ret G b0) {x y : UInt32} (d : decode cc pc = .ok (.fmul, 1)) (hne : vf_n32 (FP.fmul x y)) (k : WA p l e R s m args below meth c Q G b0 nL h0 cells slots h (pc + 1) lv (.float (FP.fmul x y) :: st)) : WA p l e R s m args below meth c Q G b0 nL h0 cells slots h pc lv (.float y :: .float x :: st) := fun H locs ls hP hE hS hl => lv_fmul K.1 K.2.1 d hne (k H locs ls hP hE hS hl)
theorem r_fdiv (K : CX p s m args meth c cc nL own ret G b0) {x y : UInt32} (d : decode cc pc = .ok (.fdiv, 1)) (hne : vf_n32 (FP.fdiv x y)) (k : WA p l e R s m args below meth c Q G b0 nL h0 cells slots h (pc + 1) lv (.float (FP.fdiv x y) :: st)) : WA p l e R s m args below meth c Q G b0 nL h0 cells slots h pc lv (.float y :: .float x :: st) := fun H locs ls hP hE hS hl => lv_fdiv K.1 K.2.1 d hne (k H locs ls hP hE hS hl)
theorem r_fcmp (K : CX p s m args meth c cc nL own ret G b0) {x y : UInt32} {op : CmpOp} (d : decode cc pc = .ok (.fcmp op, 1)) (k : WA p l e R s m args below meth c Q G b0 nL h0 cells slots h (pc + 1) lv (.int (Op.cmpValue (FP.fcmp x y) op) :: st)) : WA p l e R s m args below meth c Q G b0 nL h0 cells slots h pc lv (.float y :: .float x :: st) := fun H locs ls hP hE hS hl => lv_fcmp K.1 K.2.1 d (k H locs ls hP hE hS hl)
theorem r_f2bits (K : CX p s m args meth c cc nL own ret G b0) {x : UInt32} {i : Nat} (d : decode cc pc = .ok (.invokestatic i, 3)) (w1 : Cond.methodLink own i ⟨"java/lang/Float", "floatToRawIntBits", "(F)I"⟩ ∈ gw) (w2 : Cond.native ⟨"java/lang/Float", "floatToRawIntBits", "(F)I"⟩ ∈ gw) (w3 : Cond.static ⟨"java/lang/Float", "floatToRawIntBits", "(F)I"⟩ ∈ gw) (w4 : Cond.initialized "java/lang/Float" ∈ gw) (hf : 1 ≤ R.frames) (hw : (st.map fun v => v.category).sum + 15 ≤ R.locals) (k : WA p l e R s m args below meth c Q G b0 nL h0 cells slots h (pc + 3) lv (.int x.toInt32 :: st)) : WA p l e R s m args below meth c Q G b0 nL h0 cells slots h pc lv (.float x :: st) := fun H locs ls hP hE hS hl => vn_f2i K.1 K.2.1 (by rw [K.2.2.1]; exact hl.1.symm) K.2.2.2.1 (K.2.2.2.2.1 _ w1) (K.2.2.2.2.1 _ w2) (K.2.2.2.2.1 _ w3) (K.2.2.2.2.1 _ w4) hf hw d (k H locs ls hP hE hS hl)
theorem r_tin (K : CX p s m args meth c cc nL own ret G b0) {x v : Int32} {dflt lo hi : Int} {offs : Array Int} {len : Nat} {off : Int} {tgt : Nat} (d : decode cc pc = .ok (.tableswitch dflt lo hi offs, len)) (q : x = v) (h1 : ¬ v.toInt < lo) (h2 : ¬ hi < v.toInt) (ho : offs[(v.toInt - lo).toNat]? = some off) (ht : (pc : Int) + off = (tgt : Int)) (k : WA p l e R s m args below meth c Q G b0 nL h0 cells slots h tgt lv st) : WA p l e R s m args below meth c Q G b0 nL h0 cells slots h pc lv (.int x :: st) := fun H locs ls hP hE hS hl => by
  subst q
  exact lv_tableIn K.1 K.2.1 d h1 h2 ho ht (k H locs ls hP hE hS hl)
theorem r_tout (K : CX p s m args meth c cc nL own ret G b0) {x : Int32} {dflt hi : Int} {offs : Array Int} {len N : Nat} {tgt : Nat} (d : decode cc pc = .ok (.tableswitch dflt 0 hi offs, len)) (q : ∀ j, j < N → ¬ x = Int32.ofNat j) (hN : hi + 1 = (N : Int)) (hN2 : N < 2 ^ 31) (ht : (pc : Int) + dflt = (tgt : Int)) (k : WA p l e R s m args below meth c Q G b0 nL h0 cells slots h tgt lv st) : WA p l e R s m args below meth c Q G b0 nL h0 cells slots h pc lv (.int x :: st) := fun H locs ls hP hE hS hl => by
  refine lv_tableOut K.1 K.2.1 d ?_ ht (k H locs ls hP hE hS hl)
  by_cases z : x < 0
  · left
    exact Int32.lt_iff_toInt_lt.mp z
  · right
    obtain ⟨j, hj, e⟩ := nI_of z
    have e2 : x.toInt = (j : Int) := by rw [e]; exact nI_toInt hj
    by_cases w : j < N
    · exact absurd e (q j w)
    · omega
theorem r_copyI (K : CX p s m args meth c cc nL own ret G b0) {a0 a i : Nat} {sp dp n : Int32} {h1 : AH} (d : decode cc pc = .ok (.invokestatic i, 3)) (w1 : Cond.methodLink own i arraycopyName ∈ gw) (w2 : Cond.native arraycopyName ∈ gw) (w3 : Cond.static arraycopyName ∈ gw) (w4 : Cond.initialized "java/lang/System" ∈ gw) (q : cpI h a0 sp a dp n = some h1) (hf : 1 ≤ R.frames) (hw : (st.map fun v => v.category).sum + (nativeFrameWords "java/lang/System" "arraycopy" 5 + 11) ≤ R.locals) (kk : WA p l e R s m args below meth c Q G b0 nL h0 cells slots h1 (pc + 3) lv st) : WA p l e R s m args below meth c Q G b0 nL h0 cells slots h pc lv (.int n :: .int dp :: .ref a :: .int sp :: .ref a0 :: st) := by
  intro H locs ls hP hE hS hl
  obtain ⟨n0, n1, f, g, q0, q1, r1, r2, r3, r4, r5, rfl⟩ := cpI_s q
  obtain ⟨hb0, hc0⟩ := hP.2.2 a0 _ q0
  obtain ⟨hb1, hc1⟩ := hP.2.2 a _ q1
  have hc0 : H[a0]? = some (vp_cell (G.2.1 0) (n0, .inl f)) := hc0
  have hc1 : H[a]? = some (vp_cell (G.2.1 0) (n1, .inl g)) := hc1
  have hts := K.2.2.2.2.1
  have hK := K.2.2.2.2.2.2.2.1.1
  have nn : ∀ z : Int32, ¬ z < 0 → z.toInt = (z.toNatClampNeg : Int) := by
    intro z hz
    have hz0 : (0 : Int) ≤ z.toInt := by
      have := Int32.not_lt.mp hz
      simpa using Int32.le_iff_toInt_le.mp this
    show z.toInt = ((z.toInt.toNat : Nat) : Int)
    omega
  obtain ⟨-, k0, hk0, cm0, hkk0⟩ := (hK.2 0 _ rfl).1 n0 (fun j => .int (f j))
  obtain ⟨-, k1, hk1, cm1, hkk1⟩ := (hK.2 0 _ rfl).1 n1 (fun j => .int (g j))
  intro T hT X
  obtain ⟨vm', X', step⟩ := X.arraycopy K.1 K.2.2.2.1 (hts _ w1) (hts _ w2) (hts _ w3) (hts _ w4) (src := a0) (dst := a) (cs := vp_cell (G.2.1 0) (n0, .inl f)) (cd := vp_cell (G.2.1 0) (n1, .inl g)) (srcPos := sp) (destPos := dp) (n := n) (by rw [hT]; exact hc0) (by rw [hT]; exact hc1)
    (fun _ h => by cases h) (fun _ h => by cases h) (fun h => by cases h) (fun h => by cases h) hk0 hk1 hkk0 hkk1 (by simp [refKind]) r1 r2 r3
    (by rw [nn sp r1, nn n r3]; show ¬ _ > ((arrV (G.2.1 0) n0 (fun j => .int (f j))).slots.size : Int); rw [arrV_size]; omega)
    (by rw [nn dp r2, nn n r3]; show ¬ _ > ((arrV (G.2.1 0) n1 (fun j => .int (g j))).slots.size : Int); rw [arrV_size]; omega)
    (fun vm₁ _ i hi => by
      have e : (vp_cell (G.2.1 0) (n0, .inl f)).slots.getD (sp.toNatClampNeg + i) .null = .int (f (sp.toNatClampNeg + i)) := by
        show (arrV (G.2.1 0) n0 (fun j => .int (f j))).slots.getD _ _ = _
        rw [Array.getD_eq_getD_getElem?, arrV_read _ _ (by omega)]
        rfl
      rw [e]
      exact ⟨rfl, trivial⟩)
    (g := F0 m pc ls (.int n :: .int dp :: .ref a :: .int sp :: .ref a0 :: st)) rfl (by rw [K.2.2.1]; exact hl.1) (rest := st) rfl (by rw [K.2.1]; exact d) hf (by show 2 * 0 + _ + _ ≤ _; omega)
  have e1 : copied (vp_cell (G.2.1 0) (n0, .inl f)) (vp_cell (G.2.1 0) (n1, .inl g)) sp dp n = vp_cell (G.2.1 0) (n1, .inl (va_cpy f g sp.toNatClampNeg dp.toNatClampNeg n.toNatClampNeg)) := va_copied (fun z => .int z) (G.2.1 0) (G.2.1 0) f g r4
  rw [e1] at X' step
  have hlt : a < H.size := (Array.getElem?_eq_some_iff.mp hc1).1
  have hheap : ((T.setVm vm').setCell a (vp_cell (G.2.1 0) (n1, .inl (va_cpy f g sp.toNatClampNeg dp.toNatClampNeg n.toNatClampNeg)))).heap = H.setIfInBounds a (vp_cell (G.2.1 0) (n1, .inl (va_cpy f g sp.toNatClampNeg dp.toNatClampNeg n.toNatClampNeg))) := by rw [← hT]; rfl
  have oq : ∀ q : Nat, q ≠ a → (H.setIfInBounds a (vp_cell (G.2.1 0) (n1, .inl (va_cpy f g sp.toNatClampNeg dp.toNatClampNeg n.toNatClampNeg))))[q]? = H[q]? := fun q hq => by simp [Array.getElem?_setIfInBounds, Ne.symm hq]
  obtain ⟨t, a1, b1⟩ := kk _ _ ls (hP.up q1 (show (H.setIfInBounds a (vp_cell (G.2.1 0) (n1, .inl (va_cpy f g sp.toNatClampNeg dp.toNatClampNeg n.toNatClampNeg))))[a]? = some _ by simp [Array.getElem?_setIfInBounds, hlt]) (by simp) oq) (hE.tr (EX.upA q1)) ⟨by simp; exact hS.1, fun q g1 g2 => by
      rw [oq q (fun e => g2 (by rw [e]; exact hb1))]
      exact hS.2.1 q g1 g2, fun q hq => by
      rcases List.mem_append.mp hq with h | h
      · exact hS.2.2 q h
      · obtain ⟨z, -, hz⟩ := List.mem_map.mp h
        rw [← hz]
        exact hb1⟩ hl _ hheap X'
  exact ⟨t, step t a1, b1⟩
end RO_
