/-! what the heap answers: each as an Option, none where the machine would throw -/
def gV (h : AH) (a ci k : Nat) : Option Value := match h.2 a with
  | some (.inr o) => if o.1 = ci then o.2[k]? else none
  | _ => none
def vI (v : Option Value) : Option Int32 := match v with | some (.int x) => some x | _ => none
def vL (v : Option Value) : Option Int64 := match v with | some (.long x) => some x | _ => none
def vR (v : Option Value) : Option Nat := match v with | some (.ref x) => some x | _ => none
def gI (h : AH) (a ci k : Nat) : Option Int32 := vI (gV h a ci k)
def gL (h : AH) (a ci k : Nat) : Option Int64 := vL (gV h a ci k)
def gR (h : AH) (a ci k : Nat) : Option Nat := vR (gV h a ci k)
def pV (h : AH) (a ci k : Nat) (v : Value) : Option AH := match h.2 a with
  | some (.inr o) => if o.1 = ci ∧ k < o.2.length then some (hup h a (.inr (ci, o.2.set k v))) else none
  | _ => none
def aI (h : AH) (a kd : Nat) (i : Int32) : Option Int32 := match h.2 a with
  | some (.inl (k, n, .inl f)) => if k = kd ∧ ¬ (i < 0 ∨ n ≤ i.toNatClampNeg) then some (f i.toNatClampNeg) else none
  | _ => none
def aL (h : AH) (a : Nat) (i : Int32) : Option Int64 := match h.2 a with
  | some (.inl (k, n, .inr (.inl f))) => if k = 1 ∧ ¬ (i < 0 ∨ n ≤ i.toNatClampNeg) then some (f i.toNatClampNeg) else none
  | _ => none
def aQ (h : AH) (a kd : Nat) (i : Int32) : Option (Option Nat) := match h.2 a with
  | some (.inl (k, n, .inr (.inr (.inr (.inr f))))) => if k = kd ∧ ¬ (i < 0 ∨ n ≤ i.toNatClampNeg) then some (f i.toNatClampNeg) else none
  | _ => none
def aR (h : AH) (a kd : Nat) (i : Int32) : Option Nat := (aQ h a kd i).bind id
def sI (h : AH) (a : Nat) (i x : Int32) : Option AH := match h.2 a with
  | some (.inl (k, n, .inl f)) => if k = 0 ∧ ¬ (i < 0 ∨ n ≤ i.toNatClampNeg) then some (hup h a (.inl (0, n, .inl (upd f i.toNatClampNeg x)))) else none
  | _ => none
def sZ (h : AH) (a : Nat) (i x : Int32) : Option AH := match h.2 a with
  | some (.inl (k, n, .inl f)) => if k = 2 ∧ ¬ (i < 0 ∨ n ≤ i.toNatClampNeg) then some (hup h a (.inl (2, n, .inl (upd f i.toNatClampNeg (vp_nar .boolean x))))) else none
  | _ => none
def sL (h : AH) (a : Nat) (i : Int32) (x : Int64) : Option AH := match h.2 a with
  | some (.inl (k, n, .inr (.inl f))) => if k = 1 ∧ ¬ (i < 0 ∨ n ≤ i.toNatClampNeg) then some (hup h a (.inl (1, n, .inr (.inl (vp_updL f i.toNatClampNeg x))))) else none
  | _ => none
/-- which class the places of an array of references are of -/
def kdC (kd : Nat) : Nat := match kd with | 4 => 3 | 5 => 5 | 6 => 8 | _ => 4
def ckO (h : AH) (a ci : Nat) : Bool := match h.2 a with
  | some (.inr o) => o.1 == ci
  | _ => false
def sQ (h : AH) (a kd : Nat) (i : Int32) (x : Option Nat) : Option AH := match h.2 a with
  | some (.inl (k, n, .inr (.inr (.inr (.inr f))))) => if (k = kd ∧ ¬ (i < 0 ∨ n ≤ i.toNatClampNeg)) ∧ (match x with | some v => ckO h v (kdC kd) | none => true) = true then some (hup h a (.inl (kd, n, .inr (.inr (.inr (.inr (va_up f i.toNatClampNeg x))))))) else none
  | _ => none
def aN (h : AH) (a : Nat) : Option Int32 := match h.2 a with
  | some (.inl x) => some (Int32.ofNat x.2.1)
  | _ => none
theorem isO_of {h : AH} {a ci : Nat} (q : ckO h a ci = true) : isO h a ci := by
  unfold ckO at q
  split at q
  · rename_i o ho
    refine ⟨o.2, ?_⟩
    rw [ho]
    have := eq_of_beq q
    subst this
    rfl
  · cases q
theorem gV_s {h : AH} {a ci k : Nat} {v : Value} (q : gV h a ci k = some v) : ∃ fs : List Value, h.2 a = some (.inr (ci, fs)) ∧ fs[k]? = some v := by
  unfold gV at q
  split at q
  · rename_i o ho
    split at q
    · rename_i e
      subst e
      exact ⟨o.2, ho, q⟩
    · cases q
  · cases q
theorem gI_s {h : AH} {a ci k : Nat} {x : Int32} (q : gI h a ci k = some x) : gV h a ci k = some (.int x) := by
  unfold gI vI at q
  split at q
  · rename_i e; rw [e]; cases q; rfl
  · cases q
theorem gL_s {h : AH} {a ci k : Nat} {x : Int64} (q : gL h a ci k = some x) : gV h a ci k = some (.long x) := by
  unfold gL vL at q
  split at q
  · rename_i e; rw [e]; cases q; rfl
  · cases q
theorem gR_s {h : AH} {a ci k : Nat} {x : Nat} (q : gR h a ci k = some x) : gV h a ci k = some (.ref x) := by
  unfold gR vR at q
  split at q
  · rename_i e; rw [e]; cases q; rfl
  · cases q
theorem aI_s {h : AH} {a kd : Nat} {i x : Int32} (q : aI h a kd i = some x) : ∃ (n : Nat) (f : Nat → Int32), h.2 a = some (.inl (kd, n, .inl f)) ∧ vp_in i n ∧ x = f i.toNatClampNeg := by
  unfold aI at q
  split at q
  · rename_i k n f ho
    split at q
    · rename_i e
      obtain ⟨rfl, e⟩ := e
      cases q
      exact ⟨n, f, ho, e, rfl⟩
    · cases q
  · cases q
theorem aL_s {h : AH} {a : Nat} {i : Int32} {x : Int64} (q : aL h a i = some x) : ∃ (n : Nat) (f : Nat → Int64), h.2 a = some (.inl (1, n, .inr (.inl f))) ∧ vp_in i n ∧ x = f i.toNatClampNeg := by
  unfold aL at q
  split at q
  · rename_i k n f ho
    split at q
    · rename_i e
      obtain ⟨rfl, e⟩ := e
      cases q
      exact ⟨n, f, ho, e, rfl⟩
    · cases q
  · cases q
theorem aQ_s {h : AH} {a kd : Nat} {i : Int32} {x : Option Nat} (q : aQ h a kd i = some x) : ∃ (n : Nat) (f : Nat → Option Nat), h.2 a = some (.inl (kd, n, .inr (.inr (.inr (.inr f))))) ∧ vp_in i n ∧ x = f i.toNatClampNeg := by
  unfold aQ at q
  split at q
  · rename_i k n f ho
    split at q
    · rename_i e
      obtain ⟨rfl, e⟩ := e
      cases q
      exact ⟨n, f, ho, e, rfl⟩
    · cases q
  · cases q
theorem pV_s {h h1 : AH} {a ci k : Nat} {v : Value} (q : pV h a ci k v = some h1) : ∃ fs : List Value, h.2 a = some (.inr (ci, fs)) ∧ k < fs.length ∧ h1 = hup h a (.inr (ci, fs.set k v)) := by
  unfold pV at q
  split at q
  · rename_i o ho
    split at q
    · rename_i e
      obtain ⟨rfl, e⟩ := e
      cases q
      exact ⟨o.2, ho, e, rfl⟩
    · cases q
  · cases q
theorem sI_s {h h1 : AH} {a : Nat} {i x : Int32} (q : sI h a i x = some h1) : ∃ (n : Nat) (f : Nat → Int32), h.2 a = some (.inl (0, n, .inl f)) ∧ vp_in i n ∧ h1 = hup h a (.inl (0, n, .inl (upd f i.toNatClampNeg x))) := by
  unfold sI at q
  split at q
  · rename_i k n f ho
    split at q
    · rename_i e
      obtain ⟨rfl, e⟩ := e
      cases q
      exact ⟨n, f, ho, e, rfl⟩
    · cases q
  · cases q
theorem sZ_s {h h1 : AH} {a : Nat} {i x : Int32} (q : sZ h a i x = some h1) : ∃ (n : Nat) (f : Nat → Int32), h.2 a = some (.inl (2, n, .inl f)) ∧ vp_in i n ∧ h1 = hup h a (.inl (2, n, .inl (upd f i.toNatClampNeg (vp_nar .boolean x)))) := by
  unfold sZ at q
  split at q
  · rename_i k n f ho
    split at q
    · rename_i e
      obtain ⟨rfl, e⟩ := e
      cases q
      exact ⟨n, f, ho, e, rfl⟩
    · cases q
  · cases q
theorem sL_s {h h1 : AH} {a : Nat} {i : Int32} {x : Int64} (q : sL h a i x = some h1) : ∃ (n : Nat) (f : Nat → Int64), h.2 a = some (.inl (1, n, .inr (.inl f))) ∧ vp_in i n ∧ h1 = hup h a (.inl (1, n, .inr (.inl (vp_updL f i.toNatClampNeg x)))) := by
  unfold sL at q
  split at q
  · rename_i k n f ho
    split at q
    · rename_i e
      obtain ⟨rfl, e⟩ := e
      cases q
      exact ⟨n, f, ho, e, rfl⟩
    · cases q
  · cases q
theorem sQ_s {h h1 : AH} {a kd : Nat} {i : Int32} {x : Option Nat} (q : sQ h a kd i x = some h1) : ∃ (n : Nat) (f : Nat → Option Nat), h.2 a = some (.inl (kd, n, .inr (.inr (.inr (.inr f))))) ∧ vp_in i n ∧ (∀ v, x = some v → isO h v (kdC kd)) ∧ h1 = hup h a (.inl (kd, n, .inr (.inr (.inr (.inr (va_up f i.toNatClampNeg x)))))) := by
  unfold sQ at q
  split at q
  · rename_i k n f ho
    rw [Option.ite_none_right_eq_some] at q
    obtain ⟨⟨⟨rfl, e⟩, e2⟩, q⟩ := q
    refine ⟨n, f, ho, e, fun v hv => ?_, (Option.some.inj q).symm⟩
    subst hv
    exact isO_of e2
  · cases q
theorem aN_s {h : AH} {a : Nat} {x : Int32} (q : aN h a = some x) : ∃ y : Nat × vp_A, h.2 a = some (.inl y) ∧ Int32.ofNat y.2.1 = x := by
  unfold aN at q
  split at q
  · rename_i y ho
    cases q
    exact ⟨y, ho, rfl⟩
  · cases q
theorem vc_c0 : vwCl[0]? = some (RX0, TX0, 6) := rfl
section RH_
variable {p : Program} {l : Launch} {e : Env} {R : Room} {s : State} {m : MethodId} {args : Array Value} {below : List Frame} {meth : Method} {c : Code} {Q : State → Prop} {G : GG} {b0 nL : Nat} {h0 : AH} {cells slots : Nat} {h : AH} {pc : Nat} {lv : List (Nat × Value)} {st : List Value} {cc : ByteArray} {own : String} {ret : Option FieldType}

theorem r_getV (K : CX p s m args meth c cc nL own ret G b0) {ref C : String} {T : u_T} {N ci i k a : Nat} {v : Value} (d : decode cc pc = .ok (.getfield i, 3)) (hin : ∀ w ∈ u_ws C T N, w ∈ gw) (hc : vwCl[ci]? = some (C, T, N)) (hk : k < N) (hr : (T k).1 = ref) (w : Cond.fieldLink own i ref (T k).2.1 (T k).2.2.1 ∈ gw) (q : gV h a ci k = some v) (kk : WA p l e R s m args below meth c Q G b0 nL h0 cells slots h (pc + 3) lv (v :: st)) : WA p l e R s m args below meth c Q G b0 nL h0 cells slots h pc lv (.ref a :: st) := by
  intro H locs ls hP hE hS hl
  obtain ⟨fs, q1, q2⟩ := gV_s q
  exact va_get K.1 K.2.1 K.2.2.2.2.1 hin K.2.2.2.1 K.2.2.2.2.2.2.2.1.1 (hP.one q1) 0 rfl hc k hk (K.2.2.2.2.1 _ w) (fun x hx => by rw [← hr]; exact hx) q2 d (kk H locs ls hP hE hS hl)
theorem r_getI (K : CX p s m args meth c cc nL own ret G b0) {ref C : String} {T : u_T} {N ci i k a : Nat} {v : Int32} (d : decode cc pc = .ok (.getfield i, 3)) (hin : ∀ w ∈ u_ws C T N, w ∈ gw) (hc : vwCl[ci]? = some (C, T, N)) (hk : k < N) (hr : (T k).1 = ref) (w : Cond.fieldLink own i ref (T k).2.1 (T k).2.2.1 ∈ gw) (q : gI h a ci k = some v) (kk : WA p l e R s m args below meth c Q G b0 nL h0 cells slots h (pc + 3) lv (.int v :: st)) : WA p l e R s m args below meth c Q G b0 nL h0 cells slots h pc lv (.ref a :: st) := r_getV K d hin hc hk hr w (gI_s q) kk
theorem r_getL (K : CX p s m args meth c cc nL own ret G b0) {ref C : String} {T : u_T} {N ci i k a : Nat} {v : Int64} (d : decode cc pc = .ok (.getfield i, 3)) (hin : ∀ w ∈ u_ws C T N, w ∈ gw) (hc : vwCl[ci]? = some (C, T, N)) (hk : k < N) (hr : (T k).1 = ref) (w : Cond.fieldLink own i ref (T k).2.1 (T k).2.2.1 ∈ gw) (q : gL h a ci k = some v) (kk : WA p l e R s m args below meth c Q G b0 nL h0 cells slots h (pc + 3) lv (.long v :: st)) : WA p l e R s m args below meth c Q G b0 nL h0 cells slots h pc lv (.ref a :: st) := r_getV K d hin hc hk hr w (gL_s q) kk
theorem r_getR (K : CX p s m args meth c cc nL own ret G b0) {ref C : String} {T : u_T} {N ci i k a : Nat} {v : Nat} (d : decode cc pc = .ok (.getfield i, 3)) (hin : ∀ w ∈ u_ws C T N, w ∈ gw) (hc : vwCl[ci]? = some (C, T, N)) (hk : k < N) (hr : (T k).1 = ref) (w : Cond.fieldLink own i ref (T k).2.1 (T k).2.2.1 ∈ gw) (q : gR h a ci k = some v) (kk : WA p l e R s m args below meth c Q G b0 nL h0 cells slots h (pc + 3) lv (.ref v :: st)) : WA p l e R s m args below meth c Q G b0 nL h0 cells slots h pc lv (.ref a :: st) := r_getV K d hin hc hk hr w (gR_s q) kk
theorem r_putV (K : CX p s m args meth c cc nL own ret G b0) {ref C : String} {T : u_T} {N ci i k a : Nat} {v : Value} {h1 : AH} {ty0 : Nat → FieldType} {ty : FieldType} (d : decode cc pc = .ok (.putfield i, 3)) (hin : ∀ w ∈ u_ws C T N, w ∈ gw) (hc : vwCl[ci]? = some (C, T, N)) (hk : k < N) (hr : (T k).1 = ref) (w : Cond.fieldLink own i ref (T k).2.1 (T k).2.2.1 ∈ gw) (hty : ∀ k, k < N → parseFieldDescriptor (T k).2.2.1 = some (ty0 k)) (hnm : ∀ a, a < N → ∀ b, b < N → a ≠ b → (T a).2.1 ≠ (T b).2.1) (hfin : (T k).2.2.2 = false)  (ht : ty0 k = ty) (hn : narrow ty v = v) (hfit : fits ty v = true) (q : pV h a ci k v = some h1) (kk : WA p l e R s m args below meth c Q G b0 nL h0 cells slots h1 (pc + 3) lv st) : WA p l e R s m args below meth c Q G b0 nL h0 cells slots h pc lv (v :: .ref a :: st) := by
  intro H locs ls hP hE hS hl
  have hexec := K.1
  have hb := K.2.1
  have hts := K.2.2.2.2.1
  have hown := K.2.2.2.1
  have hK := K.2.2.2.2.2.2.2.1.1
  have hlink := hts _ w
  have hd : parseFieldDescriptor (T k).2.2.1 = some ty := by rw [hty k hk, ht]
  obtain ⟨fs, q0, hlen, rfl⟩ := pV_s q
  have hap := va_apart (own := own) hts hin ty0 hty hnm hK hc
  obtain ⟨hb0, r, g1, cell, q1, q2, q3, q4⟩ := hP.2.2 a _ q0
  have hr0 : r = (C, T, N) := Option.some.inj (g1.symm.trans hc)
  subst hr0
  obtain ⟨hSl, hfc, kC, hkC, hkind⟩ := hK.1 ci _ hc
  obtain ⟨cf, kf, fi, f, hi, hsl⟩ := hSl k hk
  have hi2 : s.fieldFound? ref (T k).2.1 (T k).2.2.1 = some (cf, kf, fi, f) := by rw [← hr]; exact hi
  have hlay := hts _ (hin _ (u_in_lay hk))
  unfold u_lay at hlay
  rw [if_neg (by rw [hfin]; decide)] at hlay
  have hst := (u_facts hfc hkC (u_lays hts hin hk) hi).1
  have h6 := u_store hfc hkC hkind hlay hi hd hn hfit
  refine W.putK hexec hb (f := f) ⟨hown, hlink, ⟨_, _, _, hi2⟩, hst⟩ (by rw [q2]; exact h6) q1 q3 (by rw [hsl]; exact k2_hasslot (q4 k hk)) rfl rfl d fun H' e1 e2 e3 => ?_
  rw [hsl] at e1 ⊢
  exact kk H' _ ls (hP.up q0 ⟨_, hc, t_OB.to (V := updV (vp_V fs) k v) ⟨_, e1, q2, q3, t_set q4 hap hk v⟩ (fun j _ => vp_updV_set hlen v j)⟩ e2 e3) (hE.tr (EX.upO q0)) (hS.put e2 e3 hb0) hl
theorem r_putF (K : CX p s m args meth c cc nL own ret G b0) {ref C : String} {T : u_T} {N ci i k a : Nat} {v : Value} {h1 : AH} {ty0 : Nat → FieldType} {ty : FieldType} (d : decode cc pc = .ok (.putfield i, 3)) (hin : ∀ w ∈ u_ws C T N, w ∈ gw) (hc : vwCl[ci]? = some (C, T, N)) (hk : k < N) (hr : (T k).1 = ref) (w : Cond.fieldLink own i ref (T k).2.1 (T k).2.2.1 ∈ gw) (hty : ∀ k, k < N → parseFieldDescriptor (T k).2.2.1 = some (ty0 k)) (hnm : ∀ a, a < N → ∀ b, b < N → a ≠ b → (T a).2.1 ≠ (T b).2.1) (hfin : (T k).2.2.2 = true) (hin2 : meth.name = "<init>") (hdecl : (T k).1 = own) (ht : ty0 k = ty) (hn : narrow ty v = v) (hfit : fits ty v = true) (q : pV h a ci k v = some h1) (kk : WA p l e R s m args below meth c Q G b0 nL h0 cells slots h1 (pc + 3) lv st) : WA p l e R s m args below meth c Q G b0 nL h0 cells slots h pc lv (v :: .ref a :: st) := by
  intro H locs ls hP hE hS hl
  have hexec := K.1
  have hb := K.2.1
  have hts := K.2.2.2.2.1
  have hown := K.2.2.2.1
  have hK := K.2.2.2.2.2.2.2.1.1
  have hlink := hts _ w
  have hd : parseFieldDescriptor (T k).2.2.1 = some ty := by rw [hty k hk, ht]
  obtain ⟨fs, q0, hlen, rfl⟩ := pV_s q
  have hap := va_apart (own := own) hts hin ty0 hty hnm hK hc
  obtain ⟨hb0, r, g1, cell, q1, q2, q3, q4⟩ := hP.2.2 a _ q0
  have hr0 : r = (C, T, N) := Option.some.inj (g1.symm.trans hc)
  subst hr0
  obtain ⟨hSl, hfc, kC, hkC, hkind⟩ := hK.1 ci _ hc
  obtain ⟨cf, kf, fi, f, hi, hsl⟩ := hSl k hk
  have hi2 : s.fieldFound? ref (T k).2.1 (T k).2.2.1 = some (cf, kf, fi, f) := by rw [← hr]; exact hi
  have hlay := hts _ (hin _ (u_in_lay hk))
  unfold u_lay at hlay
  rw [if_pos hfin] at hlay
  have hst := (u_facts hfc hkC (u_lays hts hin hk) hi).1
  have hcf : m.cls = cf := by
    obtain ⟨_, _, c', _, _, _, -, -, hf', -, -, -, hown2, -⟩ := Cond.laysFinal_spec hlay
    have e1 : c' = cf := by have := hi.symm.trans hf'; simp at this; exact this.1.symm
    rw [hdecl] at hown2
    rw [← e1]; exact Option.some.inj (hown.symm.trans hown2)
  have h6 := u_fits hfc hkC hkind (Or.inr hlay) hi hd hn hfit
  refine W.putFinK hexec hb hown hlink hi2 hst hcf hin2 (by rw [q2]; exact h6) q1 q3 (by rw [hsl]; exact k2_hasslot (q4 k hk)) rfl rfl d fun H' e1 e2 e3 => ?_
  rw [hsl] at e1 ⊢
  exact kk H' _ ls (hP.up q0 ⟨_, hc, t_OB.to (V := updV (vp_V fs) k v) ⟨_, e1, q2, q3, t_set q4 hap hk v⟩ (fun j _ => vp_updV_set hlen v j)⟩ e2 e3) (hE.tr (EX.upO q0)) (hS.put e2 e3 hb0) hl
theorem r_iaload (K : CX p s m args meth c cc nL own ret G b0) {a : Nat} {i x : Int32} (d : decode cc pc = .ok (.iaload, 1)) (q : aI h a 0 i = some x) (kk : WA p l e R s m args below meth c Q G b0 nL h0 cells slots h (pc + 1) lv (.int x :: st)) : WA p l e R s m args below meth c Q G b0 nL h0 cells slots h pc lv (.int i :: .ref a :: st) := by
  intro H locs ls hP hE hS hl
  obtain ⟨n, f, q1, q2, rfl⟩ := aI_s q
  exact va_iald K.1 K.2.1 K.2.2.2.2.2.2.2.1.1 (hP.one q1) 0 0 rfl rfl q2 d (kk H locs ls hP hE hS hl)
theorem r_zaload (K : CX p s m args meth c cc nL own ret G b0) {a : Nat} {i x : Int32} (d : decode cc pc = .ok (.baload, 1)) (q : aI h a 2 i = some x) (kk : WA p l e R s m args below meth c Q G b0 nL h0 cells slots h (pc + 1) lv (.int x :: st)) : WA p l e R s m args below meth c Q G b0 nL h0 cells slots h pc lv (.int i :: .ref a :: st) := by
  intro H locs ls hP hE hS hl
  obtain ⟨n, f, q1, q2, rfl⟩ := aI_s q
  exact va_zald K.1 K.2.1 K.2.2.2.2.2.2.2.1.1 (hP.one q1) 0 2 rfl rfl q2 d (kk H locs ls hP hE hS hl)
theorem r_laload (K : CX p s m args meth c cc nL own ret G b0) {a : Nat} {i : Int32} {x : Int64} (d : decode cc pc = .ok (.laload, 1)) (q : aL h a i = some x) (kk : WA p l e R s m args below meth c Q G b0 nL h0 cells slots h (pc + 1) lv (.long x :: st)) : WA p l e R s m args below meth c Q G b0 nL h0 cells slots h pc lv (.int i :: .ref a :: st) := by
  intro H locs ls hP hE hS hl
  obtain ⟨n, f, q1, q2, rfl⟩ := aL_s q
  exact va_lald K.1 K.2.1 K.2.2.2.2.2.2.2.1.1 (hP.one q1) 0 1 rfl rfl q2 d (kk H locs ls hP hE hS hl)
theorem r_aaloadQ (K : CX p s m args meth c cc nL own ret G b0) {a kd : Nat} {i : Int32} {x : Option Nat} {ty : FieldType} (d : decode cc pc = .ok (.aaload, 1)) (ht : (tysG G)[kd]? = some (G.2.1 kd, ty)) (hr : ty.isReference = true) (q : aQ h a kd i = some x) (kk : WA p l e R s m args below meth c Q G b0 nL h0 cells slots h (pc + 1) lv (va_rf x :: st)) : WA p l e R s m args below meth c Q G b0 nL h0 cells slots h pc lv (.int i :: .ref a :: st) := by
  intro H locs ls hP hE hS hl
  obtain ⟨n, f, q1, q2, rfl⟩ := aQ_s q
  have hlt : i.toNatClampNeg < n := Nat.not_le.mp fun q => q2 (Or.inr q)
  exact W.aald (v := va_rf (f i.toNatClampNeg)) (ty := ty) K.1 K.2.1 (hP.2.2 a _ q1).2 ((K.2.2.2.2.2.2.2.1.1.2 kd _ ht).1 n (fun j => va_rf (f j))) hr (fun q => by cases q) (by show ¬ (i < 0 ∨ (arrV _ _ _).slots.size ≤ _); rw [arrV_size]; exact q2) (by show (arrV _ _ _).slots[_]? = _; rw [arrV_read _ _ hlt]) rfl rfl d (kk H locs ls hP hE hS hl)
theorem r_aaload (K : CX p s m args meth c cc nL own ret G b0) {a kd x : Nat} {i : Int32} {ty : FieldType} (d : decode cc pc = .ok (.aaload, 1)) (ht : (tysG G)[kd]? = some (G.2.1 kd, ty)) (hr : ty.isReference = true) (q : aR h a kd i = some x) (kk : WA p l e R s m args below meth c Q G b0 nL h0 cells slots h (pc + 1) lv (.ref x :: st)) : WA p l e R s m args below meth c Q G b0 nL h0 cells slots h pc lv (.int i :: .ref a :: st) := by
  obtain ⟨y, q1, q2⟩ := Option.bind_eq_some_iff.mp q
  cases q2
  exact r_aaloadQ K d ht hr q1 kk
theorem r_alen (K : CX p s m args meth c cc nL own ret G b0) {a : Nat} {x : Int32} (kd : Nat) (d : decode cc pc = .ok (.arraylength, 1)) (hk : ∀ y : Nat × vp_A, h.2 a = some (.inl y) → y.1 = kd) {ty : FieldType} (ht : (tysG G)[kd]? = some (G.2.1 kd, ty)) (q : aN h a = some x) (kk : WA p l e R s m args below meth c Q G b0 nL h0 cells slots h (pc + 1) lv (.int x :: st)) : WA p l e R s m args below meth c Q G b0 nL h0 cells slots h pc lv (.ref a :: st) := by
  intro H locs ls hP hE hS hl
  obtain ⟨y, q1, q2⟩ := aN_s q
  have e := hk y q1
  subst e
  exact va_alen K.1 K.2.1 K.2.2.2.2.2.2.2.1.1 (hP.one q1) 0 y.1 rfl ht q2 d (kk H locs ls hP hE hS hl)
theorem r_iastore (K : CX p s m args meth c cc nL own ret G b0) {a : Nat} {i : Int32} {x : Int32} {h1 : AH} (d : decode cc pc = .ok (.iastore, 1)) (q : sI h a i x = some h1) (kk : WA p l e R s m args below meth c Q G b0 nL h0 cells slots h1 (pc + 1) lv st) : WA p l e R s m args below meth c Q G b0 nL h0 cells slots h pc lv (.int x :: .int i :: .ref a :: st) := by
  intro H locs ls hP hE hS hl
  obtain ⟨n, f, q1, q2, rfl⟩ := sI_s q
  have hlt : i.toNatClampNeg < n := Nat.not_le.mp fun q => q2 (Or.inr q)
  obtain ⟨hb0, hat⟩ := hP.2.2 a _ q1
  refine W.iast K.1 K.2.1 hat ((K.2.2.2.2.2.2.2.1.1.2 0 _ rfl).1 n (fun j => .int (f j))) (fun q => by cases q) (by show ¬ (i < 0 ∨ (arrV _ _ _).slots.size ≤ _); rw [arrV_size]; exact q2) rfl rfl d fun H1 e z oq => ?_
  refine kk H1 _ ls (hP.up q1 ?_ z oq) (hE.tr (EX.upA q1)) (hS.put z oq hb0) hl
  show H1[a]? = some (vp_cell _ _)
  rw [e]
  show some ((vp_cell (G.2.1 0) (n, .inl f)).setSlot _ _) = some (vp_cell (G.2.1 0) (n, .inl (upd f i.toNatClampNeg x)))
  rw [vp_cell_i, vp_cell_i, arrV_store]
  congr 2
  funext q
  by_cases hq : q = i.toNatClampNeg
  · subst hq
    simp [updV, upd]
    try rfl
  · simp [updV, upd, hq]
theorem r_zastore (K : CX p s m args meth c cc nL own ret G b0) {a : Nat} {i : Int32} {x : Int32} {h1 : AH} (d : decode cc pc = .ok (.bastore, 1)) (q : sZ h a i x = some h1) (kk : WA p l e R s m args below meth c Q G b0 nL h0 cells slots h1 (pc + 1) lv st) : WA p l e R s m args below meth c Q G b0 nL h0 cells slots h pc lv (.int x :: .int i :: .ref a :: st) := by
  intro H locs ls hP hE hS hl
  obtain ⟨n, f, q1, q2, rfl⟩ := sZ_s q
  have hlt : i.toNatClampNeg < n := Nat.not_le.mp fun q => q2 (Or.inr q)
  obtain ⟨hb0, hat⟩ := hP.2.2 a _ q1
  refine W.zast K.1 K.2.1 hat ((K.2.2.2.2.2.2.2.1.1.2 2 _ rfl).1 n (fun j => .int (f j))) (fun q => by cases q) (by show ¬ (i < 0 ∨ (arrV _ _ _).slots.size ≤ _); rw [arrV_size]; exact q2) rfl rfl d fun H1 e z oq => ?_
  refine kk H1 _ ls (hP.up q1 ?_ z oq) (hE.tr (EX.upA q1)) (hS.put z oq hb0) hl
  show H1[a]? = some (vp_cell _ _)
  rw [e]
  show some ((vp_cell (G.2.1 2) (n, .inl f)).setSlot _ _) = some (vp_cell (G.2.1 2) (n, .inl (upd f i.toNatClampNeg (vp_nar .boolean x))))
  rw [vp_cell_i, vp_cell_i, arrV_store]
  congr 2
  funext q
  by_cases hq : q = i.toNatClampNeg
  · subst hq
    simp [updV, upd, vp_nar]
    try rfl
  · simp [updV, upd, vp_nar, hq]
theorem r_lastore (K : CX p s m args meth c cc nL own ret G b0) {a : Nat} {i : Int32} {x : Int64} {h1 : AH} (d : decode cc pc = .ok (.lastore, 1)) (q : sL h a i x = some h1) (kk : WA p l e R s m args below meth c Q G b0 nL h0 cells slots h1 (pc + 1) lv st) : WA p l e R s m args below meth c Q G b0 nL h0 cells slots h pc lv (.long x :: .int i :: .ref a :: st) := by
  intro H locs ls hP hE hS hl
  obtain ⟨n, f, q1, q2, rfl⟩ := sL_s q
  have hlt : i.toNatClampNeg < n := Nat.not_le.mp fun q => q2 (Or.inr q)
  obtain ⟨hb0, hat⟩ := hP.2.2 a _ q1
  refine W.last K.1 K.2.1 hat ((K.2.2.2.2.2.2.2.1.1.2 1 _ rfl).1 n (fun j => .long (f j))) (fun q => by cases q) (by show ¬ (i < 0 ∨ (arrV _ _ _).slots.size ≤ _); rw [arrV_size]; exact q2) rfl rfl d fun H1 e z oq => ?_
  refine kk H1 _ ls (hP.up q1 ?_ z oq) (hE.tr (EX.upA q1)) (hS.put z oq hb0) hl
  show H1[a]? = some (vp_cell _ _)
  rw [e]
  show some ((vp_cell (G.2.1 1) (n, .inr (.inl f))).setSlot _ _) = some (vp_cell (G.2.1 1) (n, .inr (.inl (vp_updL f i.toNatClampNeg x))))
  rw [vp_cell_l, vp_cell_l, arrV_store]
  congr 2
  funext q
  by_cases hq : q = i.toNatClampNeg
  · subst hq
    simp [updV, vp_updL]
    try rfl
  · simp [updV, vp_updL, hq]
end RH_
