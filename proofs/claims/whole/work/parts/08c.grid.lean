/-! new int[n][m]: the row of rows, then the rows, one behind the other -/
def hgrid (h : AH) (N M : Nat) : AH := (h.1 + 1 + N, fun q => if q = h.1 then some (.inl (3, N, .inr (.inr (.inr (.inr (fun i => if i < N then some (h.1 + 1 + i) else none)))))) else if h.1 < q ∧ q ≤ h.1 + N then some (.inl (0, M, .inl (fun _ => 0))) else h.2 q)
theorem gr_outer (c : ClassId) (N h0 : Nat) : ∀ i : Nat, Jvm.Free.Multi.outerC c N h0 i = arrV c N (fun j => va_rf (if j < i then some (h0 + 1 + j) else none))
  | 0 => by
    show ({ cls := c, slots := Array.replicate N .null, vm := .none } : Cell) = _
    rw [arrV_new]
    refine congrArg (arrV c N) (funext fun j => ?_)
    simp [va_rf]
  | i + 1 => by
    show (Jvm.Free.Multi.outerC c N h0 i).setSlot i (.ref (h0 + 1 + i)) = _
    rw [gr_outer c N h0 i, arrV_store]
    refine congrArg (arrV c N) (funext fun j => ?_)
    by_cases e : j = i
    · subst e
      simp [updV, va_rf]
    · by_cases h : j < i
      · simp [updV, e, h, Nat.lt_succ_of_lt h]
      · simp [updV, e, h, show ¬ j < i + 1 by omega]
section RG_
variable {p : Program} {l : Launch} {e : Env} {R : Room} {s : State} {m : MethodId} {args : Array Value} {below : List Frame} {meth : Method} {c : Code} {Q : State → Prop} {G : GG} {b0 nL : Nat} {h0 : AH} {cells slots : Nat} {h : AH} {pc : Nat} {lv : List (Nat × Value)} {st : List Value} {cc : ByteArray} {own : String} {ret : Option FieldType}
theorem r_grid (K : CX p s m args meth c cc nL own ret G b0) {n k : Int32} {N M a1 i : Nat} {h1 : AH} {cells1 slots1 : Nat} (d : decode cc pc = .ok (.multianewarray i 2, 4)) (w : Cond.classLink own i "[[I" ∈ gw) (w2 : Cond.arrayClass .int ∈ gw) (hn : ¬ n < 0) (hk : ¬ k < 0) (hN : n.toNatClampNeg = N) (hM : k.toNatClampNeg = M) (hb : N ≤ 1000 ∧ M ≤ 1000) (ea : a1 = h.1) (eg : h1 = hgrid h N M) (k1 : cells + (1 + N) = cells1) (k2 : slots + (N + N * M) = slots1) (g1 : cells1 ≤ R.cells) (g2 : slots1 ≤ R.slots) (kk : WA p l e R s m args below meth c Q G b0 nL h0 cells1 slots1 h1 (pc + 4) lv (.ref a1 :: st)) : WA p l e R s m args below meth c Q G b0 nL h0 cells slots h pc lv (.int k :: .int n :: st) := by
  intro H locs ls hP hE hS hl
  subst k1
  subst k2
  subst hN
  subst hM
  have hts := K.2.2.2.2.1
  have hK := K.2.2.2.2.2.2.2.1.1
  intro T hT Xs
  obtain ⟨vm₁, cA, comp, -, fA, fC, hO, -, X', step⟩ := Xs.multianewarray2F K.1 K.2.2.2.1 (ty := .int) (hts _ w) (over_moved (Vm.Alike.refl s.vm) K.2.2.2.2.2.2.2.1.2.2.2) (hts _ w2) (g := F0 m pc ls (.int k :: .int n :: st)) rfl (by rw [K.2.1]; exact d) rfl hn hk (by omega) (by show k.toNatClampNeg * 4 ≤ _; omega) (by omega) rfl rfl g1 g2
  have hcA : cA = G.2.1 3 := Option.some.inj (fA.symm.trans (hK.2 3 _ rfl).2)
  subst hcA
  have hco : comp = G.2.1 0 := Option.some.inj (fC.symm.trans (hK.2 0 _ rfl).2)
  subst hco
  generalize hF : Jvm.Free.Multi.fill (T.setVm vm₁) (G.2.1 3) (G.2.1 0) n.toNatClampNeg k.toNatClampNeg (defaultValue .int) n.toNatClampNeg = F at X' step
  have hTh : (T.setVm vm₁).heap = H := hT
  obtain ⟨f1, f2, -, -⟩ := Jvm.Free.Multi.fill_facts (T.setVm vm₁) (G.2.1 3) (G.2.1 0) n.toNatClampNeg k.toNatClampNeg (defaultValue .int) n.toNatClampNeg
  rw [hF, hTh] at f1 f2
  have hold : ∀ x : Nat, x < H.size → F.heap[x]? = H[x]? := fun x hx => by
    have := Jvm.Free.Multi.fill_old (T.setVm vm₁) (G.2.1 3) (G.2.1 0) n.toNatClampNeg k.toNatClampNeg (defaultValue .int) (a := x) (by rw [hTh]; exact hx) n.toNatClampNeg
    rw [hF, hTh] at this
    exact this
  have hrow : ∀ j : Nat, j < n.toNatClampNeg → F.heap[H.size + 1 + j]? = some (vp_cell (G.2.1 0) (k.toNatClampNeg, .inl (fun _ => 0))) := fun j hj => by
    have := Jvm.Free.Multi.fill_inner (T.setVm vm₁) (G.2.1 3) (G.2.1 0) n.toNatClampNeg k.toNatClampNeg (defaultValue .int) n.toNatClampNeg j hj
    rw [hF, hTh] at this
    rw [this, vp_cell_i, ← arrV_new]
    rfl
  have hout : Jvm.Free.Multi.outerC (G.2.1 3) n.toNatClampNeg H.size n.toNatClampNeg = vp_cell (G.2.1 3) (n.toNatClampNeg, .inr (.inr (.inr (.inr (fun i => if i < n.toNatClampNeg then some (H.size + 1 + i) else none))))) := by
    rw [vp_cell_q]
    exact gr_outer (G.2.1 3) n.toNatClampNeg H.size n.toNatClampNeg
  rw [hout] at f2
  have hz := hP.1
  have hP1 : HP G b0 (hgrid h n.toNatClampNeg k.toNatClampNeg) F.heap := by
    refine ⟨by rw [f1, hz]; rfl, by show b0 ≤ h.1 + 1 + n.toNatClampNeg; have := hP.2.1; omega, fun x y hx => ?_⟩
    by_cases q1 : x = h.1
    · subst q1
      simp only [hgrid, if_pos] at hx
      cases hx
      refine ⟨hP.2.1, ?_⟩
      show F.heap[h.1]? = some (vp_cell _ _)
      rw [← hz]
      exact f2
    · by_cases q2 : h.1 < x ∧ x ≤ h.1 + n.toNatClampNeg
      · simp only [hgrid, if_neg q1, if_pos q2] at hx
        cases hx
        refine ⟨by have := hP.2.1; omega, ?_⟩
        show F.heap[x]? = some (vp_cell _ _)
        have := hrow (x - H.size - 1) (by omega)
        rw [show H.size + 1 + (x - H.size - 1) = x by omega] at this
        exact this
      · simp only [hgrid, if_neg q1, if_neg q2] at hx
        have := hP.2.2 x y hx
        exact ⟨this.1, this.2.kept (hold x this.2.lt)⟩
  have hE1 : EX h (hgrid h n.toNatClampNeg k.toNatClampNeg) := by
    intro x y ⟨gs, hx⟩
    have hlt := (hP.2.2 x _ hx).2.lt
    simp only at hlt
    rw [hz] at hlt
    exact ⟨gs, by simp only [hgrid, if_neg (Nat.ne_of_lt hlt), if_neg (show ¬ (h.1 < x ∧ x ≤ h.1 + n.toNatClampNeg) by omega)]; exact hx⟩
  have ha : a1 = T.heap.size := by rw [hT, hz]; exact ea
  have q := kk F.heap locs ls (by rw [eg]; exact hP1) (by rw [eg]; exact hE.tr hE1) ⟨by rw [f1]; have := hS.1; omega, fun x h1 h2 => (hold x (Nat.lt_of_lt_of_le h1 hS.1)).trans (hS.2.1 x h1 h2), hS.2.2⟩ hl
  rw [← Nat.add_assoc, ← Nat.add_assoc] at q
  obtain ⟨t, a1', b1⟩ := q F rfl X'
  refine ⟨t, step t ?_, b1⟩
  rw [← ha]
  exact a1'
end RG_
