-- the words of the functional programs
def lf : Nat := 1000
def bnd {α β : Type} (x : α) (k : α → β) : β := k x
theorem bnd_g {α β : Type} {x : α} {k : α → β} {r : β} (hf : bnd x k = r) : ∃ y, y = x ∧ k y = r := ⟨x, rfl, hf⟩
def ob2 {α β γ : Type} (o : Option (α × β)) (k : α → β → Option γ) : Option γ := match o with | some q => k q.1 q.2 | none => none
theorem ob2_s {α β γ : Type} {o : Option (α × β)} {k : α → β → Option γ} {r : γ} (hf : ob2 o k = some r) : ∃ a b, o = some (a, b) ∧ k a b = some r := by
  cases o with
  | none => cases hf
  | some q => exact ⟨q.1, q.2, rfl, hf⟩
def ob1 {α γ : Type} (o : Option α) (k : α → Option γ) : Option γ := match o with | some q => k q | none => none
theorem ob1_s {α γ : Type} {o : Option α} {k : α → Option γ} {r : γ} (hf : ob1 o k = some r) : ∃ a, o = some a ∧ k a = some r := by
  cases o with
  | none => cases hf
  | some q => exact ⟨q, rfl, hf⟩
def gd {γ : Type} (b : Bool) (k : Option γ) : Option γ := if b = true then k else none
theorem gd_s {γ : Type} {b : Bool} {k : Option γ} {r : γ} (hf : gd b k = some r) : b = true ∧ k = some r := by
  unfold gd at hf
  split at hf
  · rename_i q; exact ⟨q, hf⟩
  · cases hf
def oc {β : Type} (x : Option Nat) (n : β) (k : Nat → β) : β := match x with | none => n | some y => k y
theorem ite_t {α : Type} {c : Prop} {D : Decidable c} {a b r : α} (hf : (if c then a else b) = r) (q : c) : a = r := by rw [if_pos q] at hf; exact hf
theorem ite_f {α : Type} {c : Prop} {D : Decidable c} {a b r : α} (hf : (if c then a else b) = r) (q : ¬ c) : b = r := by rw [if_neg q] at hf; exact hf
def zb (x : Int32) : Bool := decide (x = 0 ∨ x = 1)
theorem zb_n {x : Int32} (q : zb x = true) : narrow .boolean (.int x) = .int x := by
  rcases of_decide_eq_true q with e | e <;> subst e <;> rfl
theorem zb_f {x : Int32} (q : zb x = true) : fits .boolean (.int x) = true := by
  rcases of_decide_eq_true q with e | e <;> subst e <;> rfl
theorem retp {α : Type} {x r : α} {h : AH} (hf : some x = some r) : some (x, h) = some (r, h) := by cases hf; rfl
theorem isO_new {h g : AH} {a ci : Nat} {fs : List Value} (ea : a = h.1) (eg : g = hnew h (.inr (ci, fs))) : isO g a ci := by
  subst ea
  subst eg
  exact ⟨fs, by simp [hnew]⟩
section RM_
variable {p : Program} {l : Launch} {e : Env} {R : Room} {s : State} {m : MethodId} {args : Array Value} {below : List Frame} {meth : Method} {c : Code} {Q : State → Prop} {G : GG} {b0 nL : Nat} {h0 : AH} {cells slots : Nat} {h : AH} {pc : Nat} {lv : List (Nat × Value)} {st : List Value} {cc : ByteArray} {own : String} {ret : Option FieldType}

theorem r_nmi {x y : Int32} (q : y = x) (k : WA p l e R s m args below meth c Q G b0 nL h0 cells slots h pc lv (.int y :: st)) : WA p l e R s m args below meth c Q G b0 nL h0 cells slots h pc lv (.int x :: st) := by subst q; exact k
theorem r_nml {x y : Int64} (q : y = x) (k : WA p l e R s m args below meth c Q G b0 nL h0 cells slots h pc lv (.long y :: st)) : WA p l e R s m args below meth c Q G b0 nL h0 cells slots h pc lv (.long x :: st) := by subst q; exact k
theorem r_nmf {x y : UInt32} (q : y = x) (k : WA p l e R s m args below meth c Q G b0 nL h0 cells slots h pc lv (.float y :: st)) : WA p l e R s m args below meth c Q G b0 nL h0 cells slots h pc lv (.float x :: st) := by subst q; exact k
theorem r_lif_eq (K : CX p s m args meth c cc nL own ret G b0) {x y : Int64} {off : Int} {tgt : Nat} (d1 : decode cc pc = .ok (.lcmp, 1)) (d2 : decode cc (pc + 1) = .ok (.ifCond .eq off, 3)) (ht : ((pc + 1 : Nat) : Int) + off = (tgt : Int)) (kt : x = y → WA p l e R s m args below meth c Q G b0 nL h0 cells slots h tgt lv st) (kf : ¬ x = y → WA p l e R s m args below meth c Q G b0 nL h0 cells slots h (pc + 4) lv st) : WA p l e R s m args below meth c Q G b0 nL h0 cells slots h pc lv (.long y :: .long x :: st) := r_lcmp K d1 (r_if_eq K d2 ht (fun q => kt ((lg_cmp_eq x y).mp q)) (fun q => kf (fun z => q ((lg_cmp_eq x y).mpr z))))
theorem r_lif_ne (K : CX p s m args meth c cc nL own ret G b0) {x y : Int64} {off : Int} {tgt : Nat} (d1 : decode cc pc = .ok (.lcmp, 1)) (d2 : decode cc (pc + 1) = .ok (.ifCond .ne off, 3)) (ht : ((pc + 1 : Nat) : Int) + off = (tgt : Int)) (kt : ¬ x = y → WA p l e R s m args below meth c Q G b0 nL h0 cells slots h tgt lv st) (kf : x = y → WA p l e R s m args below meth c Q G b0 nL h0 cells slots h (pc + 4) lv st) : WA p l e R s m args below meth c Q G b0 nL h0 cells slots h pc lv (.long y :: .long x :: st) := r_lcmp K d1 (r_if_ne K d2 ht (fun q => kt (fun z => q ((lg_cmp_eq x y).mpr z))) (fun q => kf ((lg_cmp_eq x y).mp q)))
theorem r_lif_lt (K : CX p s m args meth c cc nL own ret G b0) {x y : Int64} {off : Int} {tgt : Nat} (d1 : decode cc pc = .ok (.lcmp, 1)) (d2 : decode cc (pc + 1) = .ok (.ifCond .lt off, 3)) (ht : ((pc + 1 : Nat) : Int) + off = (tgt : Int)) (kt : x < y → WA p l e R s m args below meth c Q G b0 nL h0 cells slots h tgt lv st) (kf : ¬ x < y → WA p l e R s m args below meth c Q G b0 nL h0 cells slots h (pc + 4) lv st) : WA p l e R s m args below meth c Q G b0 nL h0 cells slots h pc lv (.long y :: .long x :: st) := r_lcmp K d1 (r_if_lt K d2 ht (fun q => kt ((lg_cmp_lt x y).mp q)) (fun q => kf (fun z => q ((lg_cmp_lt x y).mpr z))))
theorem r_lif_ge (K : CX p s m args meth c cc nL own ret G b0) {x y : Int64} {off : Int} {tgt : Nat} (d1 : decode cc pc = .ok (.lcmp, 1)) (d2 : decode cc (pc + 1) = .ok (.ifCond .ge off, 3)) (ht : ((pc + 1 : Nat) : Int) + off = (tgt : Int)) (kt : y ≤ x → WA p l e R s m args below meth c Q G b0 nL h0 cells slots h tgt lv st) (kf : ¬ y ≤ x → WA p l e R s m args below meth c Q G b0 nL h0 cells slots h (pc + 4) lv st) : WA p l e R s m args below meth c Q G b0 nL h0 cells slots h pc lv (.long y :: .long x :: st) := r_lcmp K d1 (r_if_ge K d2 ht (fun q => kt ((lg_cmp_ge x y).mp q)) (fun q => kf (fun z => q ((lg_cmp_ge x y).mpr z))))
theorem r_lif_gt (K : CX p s m args meth c cc nL own ret G b0) {x y : Int64} {off : Int} {tgt : Nat} (d1 : decode cc pc = .ok (.lcmp, 1)) (d2 : decode cc (pc + 1) = .ok (.ifCond .gt off, 3)) (ht : ((pc + 1 : Nat) : Int) + off = (tgt : Int)) (kt : y < x → WA p l e R s m args below meth c Q G b0 nL h0 cells slots h tgt lv st) (kf : ¬ y < x → WA p l e R s m args below meth c Q G b0 nL h0 cells slots h (pc + 4) lv st) : WA p l e R s m args below meth c Q G b0 nL h0 cells slots h pc lv (.long y :: .long x :: st) := r_lcmp K d1 (r_if_gt K d2 ht (fun q => kt ((lg_cmp_gt x y).mp q)) (fun q => kf (fun z => q ((lg_cmp_gt x y).mpr z))))
theorem r_lif_le (K : CX p s m args meth c cc nL own ret G b0) {x y : Int64} {off : Int} {tgt : Nat} (d1 : decode cc pc = .ok (.lcmp, 1)) (d2 : decode cc (pc + 1) = .ok (.ifCond .le off, 3)) (ht : ((pc + 1 : Nat) : Int) + off = (tgt : Int)) (kt : x ≤ y → WA p l e R s m args below meth c Q G b0 nL h0 cells slots h tgt lv st) (kf : ¬ x ≤ y → WA p l e R s m args below meth c Q G b0 nL h0 cells slots h (pc + 4) lv st) : WA p l e R s m args below meth c Q G b0 nL h0 cells slots h pc lv (.long y :: .long x :: st) := r_lcmp K d1 (r_if_le K d2 ht (fun q => kt ((lg_cmp_le x y).mp q)) (fun q => kf (fun z => q ((lg_cmp_le x y).mpr z))))
end RM_
