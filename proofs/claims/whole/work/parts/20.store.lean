-- the words of the functional programs, as rules
theorem ob1_some {α γ : Type} (q : α) (k : α → Option γ) : ob1 (some q) k = k q := rfl
theorem ob2_some {α β γ : Type} (a : α) (b : β) (k : α → β → Option γ) : ob2 (some (a, b)) k = k a b := rfl
theorem bnd_eq {α β : Type} (x : α) (k : α → β) : bnd x k = k x := rfl
theorem gd_true {γ : Type} (k : Option γ) : gd true k = k := rfl
theorem oc_none {β : Type} (n : β) (k : Nat → β) : oc none n k = n := rfl
theorem oc_some {β : Type} (y : Nat) (n : β) (k : Nat → β) : oc (some y) n k = k y := rfl
abbrev RDt : Type := Int32 × Int32 × Int32 × Int64 × Int64 × Int64 × Int32
def rcell (r : RDt) : ae := .inr (3, [.int r.1, .int r.2.1, .int r.2.2.1, .long r.2.2.2.1, .long r.2.2.2.2.1, .long r.2.2.2.2.2.1, .int r.2.2.2.2.2.2])
def fillr : RDt := (0, 1, 0, 0, 0, 0, 0)
def u2 {α : Type} (I : Nat → Nat → α) (k i : Nat) (v : α) : Nat → Nat → α := fun a j => if a = k then (if j = i then v else I a j) else I a j
theorem u2_eq {α : Type} {I : Nat → Nat → α} {k i : Nat} {v : α} : u2 I k i v k i = v := by simp [u2]
theorem u2_ne {α : Type} {I : Nat → Nat → α} {k i a j : Nat} {v : α} (h : a ≠ k ∨ j ≠ i) : u2 I k i v a j = I a j := by
  unfold u2
  by_cases e : a = k
  · by_cases e2 : j = i
    · rcases h with h | h
      · exact absurd e h
      · exact absurd e2 h
    · rw [if_pos e, if_neg e2]
  · rw [if_neg e]
theorem u2_nk {α : Type} {I : Nat → Nat → α} {k i a : Nat} {v : α} (h : a ≠ k) : u2 I k i v a = I a := by
  funext j
  exact u2_ne (Or.inl h)
theorem u2_at {α : Type} (I : Nat → Nat → α) (k i : Nat) (v : α) : u2 I k i v k = fun j => if j = i then v else I k j := by
  funext j
  simp [u2]
/-- the places of the two objects, by their distance from the first one -/
def celf (B : Nat) : List ((Nat → Int32) → (Nat → Int64) → (Nat → Option Nat) → ae) := [
  fun I _ _ => .inr (9, [.ref (B + 1), .ref (B + 9), .int (I 2), .ref (B + 17), .int (I 4), .ref (B + 24), .ref (B + 25), .ref (B + 26), .int (I 8), .ref (B + 33), .ref (B + 41), .ref (B + 48), .ref (B + 58), .ref (B + 60), .ref (B + 61), .ref (B + 62), .ref (B + 63)]),
  fun I _ _ => .inr (1, [.int (I 0), .int (I 1), .ref (B + 2), .ref (B + 3), .ref (B + 4)]),
  fun _ _ Q => .inl (4, 13, .inr (.inr (.inr (.inr Q)))),
  fun _ L _ => .inl (1, 13, .inr (.inl L)),
  fun _ _ _ => .inl (3, 3, .inr (.inr (.inr (.inr (fun i => if i < 3 then some (B + 5 + i) else none))))),
  fun I _ _ => .inl (0, 4, .inl I),
  fun I _ _ => .inl (0, 4, .inl I),
  fun I _ _ => .inl (0, 4, .inl I),
  fun _ _ _ => rcell fillr,
  fun I _ _ => .inr (1, [.int (I 0), .int (I 1), .ref (B + 10), .ref (B + 11), .ref (B + 12)]),
  fun _ _ Q => .inl (4, 13, .inr (.inr (.inr (.inr Q)))),
  fun _ L _ => .inl (1, 13, .inr (.inl L)),
  fun _ _ _ => .inl (3, 3, .inr (.inr (.inr (.inr (fun i => if i < 3 then some (B + 13 + i) else none))))),
  fun I _ _ => .inl (0, 4, .inl I),
  fun I _ _ => .inl (0, 4, .inl I),
  fun I _ _ => .inl (0, 4, .inl I),
  fun _ _ _ => rcell fillr,
  fun I _ _ => .inr (2, [.int (I 0), .ref (B + 18), .ref (B + 19), .ref (B + 20), .ref (B + 21), .ref (B + 22), .ref (B + 23)]),
  fun I _ _ => .inl (0, 211, .inl I),
  fun I _ _ => .inl (0, 211, .inl I),
  fun I _ _ => .inl (0, 211, .inl I),
  fun I _ _ => .inl (0, 211, .inl I),
  fun I _ _ => .inl (0, 211, .inl I),
  fun I _ _ => .inl (0, 211, .inl I),
  fun _ _ _ => .inl (5, 3, .inr (.inr (.inr (.inr (fun i => if i < 3 then some (B + (64 + 10 * i)) else none))))),
  fun I _ _ => .inl (2, 3, .inl I),
  fun _ _ _ => .inr (0, [.ref (B + 27), .ref (B + 28), .ref (B + 29), .ref (B + 30), .ref (B + 31), .ref (B + 32)]),
  fun I L _ => .inr (6, [.long (L 0), .int (I 1)]),
  fun I _ _ => .inl (0, 13, .inl I),
  fun I _ _ => .inl (2, 6, .inl I),
  fun _ L _ => .inl (1, 6, .inr (.inl L)),
  fun I _ _ => .inl (0, 6, .inl I),
  fun I _ _ => .inl (0, 6, .inl I),
  fun I _ _ => .inr (1, [.int (I 0), .int (I 1), .ref (B + 34), .ref (B + 35), .ref (B + 36)]),
  fun _ _ Q => .inl (4, 13, .inr (.inr (.inr (.inr Q)))),
  fun _ L _ => .inl (1, 13, .inr (.inl L)),
  fun _ _ _ => .inl (3, 3, .inr (.inr (.inr (.inr (fun i => if i < 3 then some (B + 37 + i) else none))))),
  fun I _ _ => .inl (0, 4, .inl I),
  fun I _ _ => .inl (0, 4, .inl I),
  fun I _ _ => .inl (0, 4, .inl I),
  fun _ _ _ => rcell fillr,
  fun I _ _ => .inr (2, [.int (I 0), .ref (B + 42), .ref (B + 43), .ref (B + 44), .ref (B + 45), .ref (B + 46), .ref (B + 47)]),
  fun I _ _ => .inl (0, 211, .inl I),
  fun I _ _ => .inl (0, 211, .inl I),
  fun I _ _ => .inl (0, 211, .inl I),
  fun I _ _ => .inl (0, 211, .inl I),
  fun I _ _ => .inl (0, 211, .inl I),
  fun I _ _ => .inl (0, 211, .inl I),
  fun I _ _ => .inr (5, [.ref (B + 49), .ref (B + 50), .ref (B + 54), .int (I 3), .int (I 4), .ref (B + 55), .ref (B + 56), .ref (B + 57)]),
  fun I _ _ => .inl (0, 13, .inl I),
  fun _ _ _ => .inl (3, 3, .inr (.inr (.inr (.inr (fun i => if i < 3 then some (B + 51 + i) else none))))),
  fun I _ _ => .inl (0, 211, .inl I),
  fun I _ _ => .inl (0, 211, .inl I),
  fun I _ _ => .inl (0, 211, .inl I),
  fun I L _ => .inr (6, [.long (L 0), .int (I 1)]),
  fun _ L _ => .inl (1, 13, .inr (.inl L)),
  fun _ L _ => .inl (1, 13, .inr (.inl L)),
  fun _ L _ => .inl (1, 211, .inr (.inl L)),
  fun I _ _ => .inr (7, [.int (I 0), .ref (B + 59), .int (I 2), .int (I 3)]),
  fun I _ _ => .inl (0, 100, .inl I),
  fun _ _ _ => .inl (6, 3, .inr (.inr (.inr (.inr (fun i => if i < 3 then some (B + (94 + 2 * i)) else none))))),
  fun _ _ _ => .inl (7, 4, .inr (.inr (.inr (.inr (fun i => if i < 4 then some (B + (100 + 2 * i)) else none))))),
  fun I _ _ => .inl (0, 13, .inl I),
  fun I L _ => .inr (6, [.long (L 0), .int (I 1)]),
  fun I _ _ => .inr (5, [.ref (B + 65), .ref (B + 66), .ref (B + 70), .int (I 3), .int (I 4), .ref (B + 71), .ref (B + 72), .ref (B + 73)]),
  fun I _ _ => .inl (0, 13, .inl I),
  fun _ _ _ => .inl (3, 3, .inr (.inr (.inr (.inr (fun i => if i < 3 then some (B + 67 + i) else none))))),
  fun I _ _ => .inl (0, 211, .inl I),
  fun I _ _ => .inl (0, 211, .inl I),
  fun I _ _ => .inl (0, 211, .inl I),
  fun I L _ => .inr (6, [.long (L 0), .int (I 1)]),
  fun _ L _ => .inl (1, 13, .inr (.inl L)),
  fun _ L _ => .inl (1, 13, .inr (.inl L)),
  fun _ L _ => .inl (1, 211, .inr (.inl L)),
  fun I _ _ => .inr (5, [.ref (B + 75), .ref (B + 76), .ref (B + 80), .int (I 3), .int (I 4), .ref (B + 81), .ref (B + 82), .ref (B + 83)]),
  fun I _ _ => .inl (0, 13, .inl I),
  fun _ _ _ => .inl (3, 3, .inr (.inr (.inr (.inr (fun i => if i < 3 then some (B + 77 + i) else none))))),
  fun I _ _ => .inl (0, 211, .inl I),
  fun I _ _ => .inl (0, 211, .inl I),
  fun I _ _ => .inl (0, 211, .inl I),
  fun I L _ => .inr (6, [.long (L 0), .int (I 1)]),
  fun _ L _ => .inl (1, 13, .inr (.inl L)),
  fun _ L _ => .inl (1, 13, .inr (.inl L)),
  fun _ L _ => .inl (1, 211, .inr (.inl L)),
  fun I _ _ => .inr (5, [.ref (B + 85), .ref (B + 86), .ref (B + 90), .int (I 3), .int (I 4), .ref (B + 91), .ref (B + 92), .ref (B + 93)]),
  fun I _ _ => .inl (0, 13, .inl I),
  fun _ _ _ => .inl (3, 3, .inr (.inr (.inr (.inr (fun i => if i < 3 then some (B + 87 + i) else none))))),
  fun I _ _ => .inl (0, 211, .inl I),
  fun I _ _ => .inl (0, 211, .inl I),
  fun I _ _ => .inl (0, 211, .inl I),
  fun I L _ => .inr (6, [.long (L 0), .int (I 1)]),
  fun _ L _ => .inl (1, 13, .inr (.inl L)),
  fun _ L _ => .inl (1, 13, .inr (.inl L)),
  fun _ L _ => .inl (1, 211, .inr (.inl L)),
  fun I _ _ => .inr (8, [.int (I 0), .int (I 1), .ref (B + 95)]),
  fun _ _ Q => .inl (4, 20, .inr (.inr (.inr (.inr Q)))),
  fun I _ _ => .inr (8, [.int (I 0), .int (I 1), .ref (B + 97)]),
  fun _ _ Q => .inl (4, 20, .inr (.inr (.inr (.inr Q)))),
  fun I _ _ => .inr (8, [.int (I 0), .int (I 1), .ref (B + 99)]),
  fun _ _ Q => .inl (4, 20, .inr (.inr (.inr (.inr Q)))),
  fun I _ _ => .inr (4, [.int (I 0), .ref (B + 101)]),
  fun _ L _ => .inl (1, 24, .inr (.inl L)),
  fun I _ _ => .inr (4, [.int (I 0), .ref (B + 103)]),
  fun _ L _ => .inl (1, 24, .inr (.inl L)),
  fun I _ _ => .inr (4, [.int (I 0), .ref (B + 105)]),
  fun _ L _ => .inl (1, 24, .inr (.inl L)),
  fun I _ _ => .inr (4, [.int (I 0), .ref (B + 107)]),
  fun _ L _ => .inl (1, 24, .inr (.inl L)),
  fun I L _ => .inr (10, [.ref (B + 109), .ref (B + 110), .ref (B + 111), .int (I 3), .ref (B + 112), .int (I 5), .int (I 6), .int (I 7), .ref (B + 113), .int (I 9), .ref (B + 114), .ref (B + 115), .ref (B + 116), .ref (B + 117), .ref (B + 118), .ref (B + 119), .ref (B + 120), .ref (B + 121), .int (I 18), .int (I 19), .long (L 20), .ref (B + 122), .ref (B + 123), .ref (B + 124), .ref (B + 125), .ref (B + 126), .ref (B + 127), .ref (B + 128), .ref (B + 129), .ref (B + 130), .ref (B + 131)]),
  fun _ L _ => .inl (1, 118, .inr (.inl L)),
  fun _ L _ => .inl (1, 118, .inr (.inl L)),
  fun _ L _ => .inl (1, 118, .inr (.inl L)),
  fun I _ _ => .inl (0, 100, .inl I),
  fun I _ _ => .inl (0, 91, .inl I),
  fun I _ _ => .inl (0, 3, .inl I),
  fun I _ _ => .inl (0, 768, .inl I),
  fun I _ _ => .inl (0, 3840, .inl I),
  fun I _ _ => .inl (0, 2560, .inl I),
  fun I _ _ => .inl (0, 512, .inl I),
  fun I _ _ => .inl (0, 512, .inl I),
  fun I _ _ => .inl (0, 13, .inl I),
  fun I _ _ => .inl (0, 768, .inl I),
  fun I _ _ => .inl (0, 13, .inl I),
  fun I _ _ => .inl (0, 6, .inl I),
  fun _ L _ => .inl (1, 6, .inr (.inl L)),
  fun I _ _ => .inl (0, 6, .inl I),
  fun I _ _ => .inl (0, 4, .inl I),
  fun _ L _ => .inl (1, 96, .inr (.inl L)),
  fun I _ _ => .inl (0, 3, .inl I),
  fun I _ _ => .inl (0, 3, .inl I),
  fun I _ _ => .inl (2, 60, .inl I),
  fun _ L _ => .inl (1, 300, .inr (.inl L))]
set_option maxRecDepth 20000 in
theorem celf_len (B : Nat) : (celf B).length = 132 := rfl
/-- the heap: the two objects, then roads -/
def MK (B n : Nat) (I : Nat → Nat → Int32) (L : Nat → Nat → Int64) (Q : Nat → Nat → Option Nat) (R : Nat → RDt) : AH :=
  (n, fun q => if q < B then none else match (celf B)[q - B]? with
    | some c => some (c (I (q - B)) (L (q - B)) (Q (q - B)))
    | none => if q < n then some (rcell (R q)) else none)
section MK_
variable {B n : Nat} {I : Nat → Nat → Int32} {L : Nat → Nat → Int64} {Q : Nat → Nat → Option Nat} {R : Nat → RDt}

theorem mk_at {k : Nat} {c : (Nat → Int32) → (Nat → Int64) → (Nat → Option Nat) → ae} (hk : (celf B)[k]? = some c) : (MK B n I L Q R).2 (B + k) = some (c (I k) (L k) (Q k)) := by
  show (if B + k < B then none else match (celf B)[B + k - B]? with | some c => some (c (I (B + k - B)) (L (B + k - B)) (Q (B + k - B))) | none => if B + k < n then some (rcell (R (B + k))) else none) = _
  rw [if_neg (by omega), Nat.add_sub_cancel_left, hk]
theorem mk_up {k : Nat} {I' : Nat → Nat → Int32} {L' : Nat → Nat → Int64} {Q' : Nat → Nat → Option Nat} {c : (Nat → Int32) → (Nat → Int64) → (Nat → Option Nat) → ae} {e : ae} (hk : (celf B)[k]? = some c) (hI : ∀ j, j ≠ k → I' j = I j) (hL : ∀ j, j ≠ k → L' j = L j) (hQ : ∀ j, j ≠ k → Q' j = Q j) (he : e = c (I' k) (L' k) (Q' k)) : hup (MK B n I L Q R) (B + k) e = MK B n I' L' Q' R := by
  refine Prod.ext rfl (funext fun q => ?_)
  show (if q = B + k then some e else (MK B n I L Q R).2 q) = (MK B n I' L' Q' R).2 q
  by_cases hq : q = B + k
  · subst hq
    rw [if_pos rfl, mk_at hk, he]
  · rw [if_neg hq]
    show (if q < B then none else match (celf B)[q - B]? with | some c => some (c (I (q - B)) (L (q - B)) (Q (q - B))) | none => if q < n then some (rcell (R q)) else none) = (if q < B then none else match (celf B)[q - B]? with | some c => some (c (I' (q - B)) (L' (q - B)) (Q' (q - B))) | none => if q < n then some (rcell (R q)) else none)
    by_cases hb : q < B
    · rw [if_pos hb, if_pos hb]
    · rw [if_neg hb, if_neg hb, hI _ (by omega), hL _ (by omega), hQ _ (by omega)]
theorem mk_gV {k ci j : Nat} {fs : List Value} {v : Value} {c : (Nat → Int32) → (Nat → Int64) → (Nat → Option Nat) → ae} (hk : (celf B)[k]? = some c) (hc : c (I k) (L k) (Q k) = .inr (ci, fs)) (hj : fs[j]? = some v) : gV (MK B n I L Q R) (B + k) ci j = some v := by
  unfold gV
  rw [mk_at hk, hc]
  show (if ci = ci then fs[j]? else none) = some v
  rw [if_pos rfl, hj]
theorem mk_gI {k ci j : Nat} {fs : List Value} {v : Int32} {c : (Nat → Int32) → (Nat → Int64) → (Nat → Option Nat) → ae} (hk : (celf B)[k]? = some c) (hc : c (I k) (L k) (Q k) = .inr (ci, fs)) (hj : fs[j]? = some (.int v)) : gI (MK B n I L Q R) (B + k) ci j = some v := by
  unfold gI
  rw [mk_gV hk hc hj]
  rfl
theorem mk_gL {k ci j : Nat} {fs : List Value} {v : Int64} {c : (Nat → Int32) → (Nat → Int64) → (Nat → Option Nat) → ae} (hk : (celf B)[k]? = some c) (hc : c (I k) (L k) (Q k) = .inr (ci, fs)) (hj : fs[j]? = some (.long v)) : gL (MK B n I L Q R) (B + k) ci j = some v := by
  unfold gL
  rw [mk_gV hk hc hj]
  rfl
theorem mk_gR {k ci j : Nat} {fs : List Value} {v : Nat} {c : (Nat → Int32) → (Nat → Int64) → (Nat → Option Nat) → ae} (hk : (celf B)[k]? = some c) (hc : c (I k) (L k) (Q k) = .inr (ci, fs)) (hj : fs[j]? = some (.ref v)) : gR (MK B n I L Q R) (B + k) ci j = some v := by
  unfold gR
  rw [mk_gV hk hc hj]
  rfl
theorem mk_ck {k ci : Nat} {fs : List Value} {c : (Nat → Int32) → (Nat → Int64) → (Nat → Option Nat) → ae} (hk : (celf B)[k]? = some c) (hc : c (I k) (L k) (Q k) = .inr (ci, fs)) : ckO (MK B n I L Q R) (B + k) ci = true := by
  unfold ckO
  rw [mk_at hk, hc]
  exact beq_self_eq_true ci
theorem mk_pI {k ci j : Nat} {fs : List Value} {v : Int32} {c : (Nat → Int32) → (Nat → Int64) → (Nat → Option Nat) → ae} (hk : (celf B)[k]? = some c) (hc : c (I k) (L k) (Q k) = .inr (ci, fs)) (hj : j < fs.length) (he : (Sum.inr (ci, fs.set j (.int v)) : ae) = c (u2 I k j v k) (L k) (Q k)) : pV (MK B n I L Q R) (B + k) ci j (.int v) = some (MK B n (u2 I k j v) L Q R) := by
  unfold pV
  rw [mk_at hk, hc]
  show (if ci = ci ∧ j < fs.length then some (hup (MK B n I L Q R) (B + k) (.inr (ci, fs.set j (.int v)))) else none) = _
  rw [if_pos ⟨rfl, hj⟩, mk_up hk (fun q hq => u2_nk hq) (fun _ _ => rfl) (fun _ _ => rfl) he]
theorem mk_pL {k ci j : Nat} {fs : List Value} {v : Int64} {c : (Nat → Int32) → (Nat → Int64) → (Nat → Option Nat) → ae} (hk : (celf B)[k]? = some c) (hc : c (I k) (L k) (Q k) = .inr (ci, fs)) (hj : j < fs.length) (he : (Sum.inr (ci, fs.set j (.long v)) : ae) = c (I k) (u2 L k j v k) (Q k)) : pV (MK B n I L Q R) (B + k) ci j (.long v) = some (MK B n I (u2 L k j v) Q R) := by
  unfold pV
  rw [mk_at hk, hc]
  show (if ci = ci ∧ j < fs.length then some (hup (MK B n I L Q R) (B + k) (.inr (ci, fs.set j (.long v)))) else none) = _
  rw [if_pos ⟨rfl, hj⟩, mk_up hk (fun _ _ => rfl) (fun q hq => u2_nk hq) (fun _ _ => rfl) he]
theorem mk_aI {k kd len i : Nat} (hk : (celf B)[k]? = some (fun I _ _ => .inl (kd, len, .inl I))) (hi : i < len) (hl : len < 2147483648) : aI (MK B n I L Q R) (B + k) kd (nI i) = some (I k i) := by
  unfold aI
  rw [mk_at hk]
  show (if kd = kd ∧ ¬ (nI i < 0 ∨ len ≤ (nI i).toNatClampNeg) then some (I k (nI i).toNatClampNeg) else none) = _
  rw [if_pos ⟨rfl, nI_in hi hl⟩, nI_clamp (by omega)]
theorem mk_aL {k len i : Nat} (hk : (celf B)[k]? = some (fun _ L _ => .inl (1, len, .inr (.inl L)))) (hi : i < len) (hl : len < 2147483648) : aL (MK B n I L Q R) (B + k) (nI i) = some (L k i) := by
  unfold aL
  rw [mk_at hk]
  show (if 1 = 1 ∧ ¬ (nI i < 0 ∨ len ≤ (nI i).toNatClampNeg) then some (L k (nI i).toNatClampNeg) else none) = _
  rw [if_pos ⟨rfl, nI_in hi hl⟩, nI_clamp (by omega)]
theorem mk_aQ {k kd len i : Nat} {F : (Nat → Option Nat) → Nat → Option Nat} (hk : (celf B)[k]? = some (fun _ _ Q => .inl (kd, len, .inr (.inr (.inr (.inr (F Q))))))) (hi : i < len) (hl : len < 2147483648) : aQ (MK B n I L Q R) (B + k) kd (nI i) = some (F (Q k) i) := by
  unfold aQ
  rw [mk_at hk]
  show (if kd = kd ∧ ¬ (nI i < 0 ∨ len ≤ (nI i).toNatClampNeg) then some (F (Q k) (nI i).toNatClampNeg) else none) = _
  rw [if_pos ⟨rfl, nI_in hi hl⟩, nI_clamp (by omega)]
theorem mk_aNk {k kd len : Nat} {x : (Nat → Int32) → (Nat → Int64) → (Nat → Option Nat) → (Nat → Int32) ⊕ (Nat → Int64) ⊕ (Nat → UInt32) ⊕ (Nat → UInt64) ⊕ (Nat → Option Nat)} (hk : (celf B)[k]? = some (fun I L Q => .inl (kd, len, x I L Q))) : aNk (MK B n I L Q R) (B + k) kd = some (nI len) := by
  unfold aNk
  rw [mk_at hk]
  show (if kd = kd then some (Int32.ofNat len) else none) = _
  rw [if_pos rfl]
  rfl
theorem upd_u2 (I : Nat → Nat → Int32) (k i : Nat) (v : Int32) : upd (I k) i v = u2 I k i v k := (u2_at I k i v).symm
theorem updL_u2 (L : Nat → Nat → Int64) (k i : Nat) (v : Int64) : vp_updL (L k) i v = u2 L k i v k := (u2_at L k i v).symm
theorem up_u2 {α : Type} (Q : Nat → Nat → α) (k i : Nat) (v : α) : va_up (Q k) i v = u2 Q k i v k := (u2_at Q k i v).symm
theorem mk_sI {k len i : Nat} {v : Int32} (hk : (celf B)[k]? = some (fun I _ _ => .inl (0, len, .inl I))) (hi : i < len) (hl : len < 2147483648) : sI (MK B n I L Q R) (B + k) (nI i) v = some (MK B n (u2 I k i v) L Q R) := by
  unfold sI
  rw [mk_at hk]
  show (if 0 = 0 ∧ ¬ (nI i < 0 ∨ len ≤ (nI i).toNatClampNeg) then some (hup (MK B n I L Q R) (B + k) (.inl (0, len, .inl (upd (I k) (nI i).toNatClampNeg v)))) else none) = _
  rw [if_pos ⟨rfl, nI_in hi hl⟩, nI_clamp (by omega), mk_up hk (fun q hq => u2_nk hq) (fun _ _ => rfl) (fun _ _ => rfl) (by rw [upd_u2])]
theorem mk_sZ {k len i : Nat} {v : Int32} (hk : (celf B)[k]? = some (fun I _ _ => .inl (2, len, .inl I))) (hv : v = 0 ∨ v = 1) (hi : i < len) (hl : len < 2147483648) : sZ (MK B n I L Q R) (B + k) (nI i) v = some (MK B n (u2 I k i v) L Q R) := by
  have hn : vp_nar .boolean v = v := by rcases hv with h | h <;> subst h <;> rfl
  unfold sZ
  rw [mk_at hk]
  show (if 2 = 2 ∧ ¬ (nI i < 0 ∨ len ≤ (nI i).toNatClampNeg) then some (hup (MK B n I L Q R) (B + k) (.inl (2, len, .inl (upd (I k) (nI i).toNatClampNeg (vp_nar .boolean v))))) else none) = _
  rw [if_pos ⟨rfl, nI_in hi hl⟩, nI_clamp (by omega), hn, mk_up hk (fun q hq => u2_nk hq) (fun _ _ => rfl) (fun _ _ => rfl) (by rw [upd_u2])]
theorem mk_sL {k len i : Nat} {v : Int64} (hk : (celf B)[k]? = some (fun _ L _ => .inl (1, len, .inr (.inl L)))) (hi : i < len) (hl : len < 2147483648) : sL (MK B n I L Q R) (B + k) (nI i) v = some (MK B n I (u2 L k i v) Q R) := by
  unfold sL
  rw [mk_at hk]
  show (if 1 = 1 ∧ ¬ (nI i < 0 ∨ len ≤ (nI i).toNatClampNeg) then some (hup (MK B n I L Q R) (B + k) (.inl (1, len, .inr (.inl (vp_updL (L k) (nI i).toNatClampNeg v))))) else none) = _
  rw [if_pos ⟨rfl, nI_in hi hl⟩, nI_clamp (by omega), mk_up hk (fun _ _ => rfl) (fun q hq => u2_nk hq) (fun _ _ => rfl) (by rw [updL_u2])]
/-- a road stands there -/
def VA (B n a : Nat) : Prop := a = B + 8 ∨ a = B + 16 ∨ a = B + 40 ∨ (B + 132 ≤ a ∧ a < n)
def rda (B : Nat) (R : Nat → RDt) (a : Nat) : RDt := if a < B + 132 then fillr else R a
theorem mk_rd {a : Nat} (h : VA B n a) : (MK B n I L Q R).2 a = some (rcell (rda B R a)) := by
  rcases h with h | h | h | h
  · subst h
    rw [mk_at (k := 8) rfl, rda, if_pos (by omega)]
  · subst h
    rw [mk_at (k := 16) rfl, rda, if_pos (by omega)]
  · subst h
    rw [mk_at (k := 40) rfl, rda, if_pos (by omega)]
  · have h1 : ¬ a < B := by omega
    have h2 : (celf B)[a - B]? = none := List.getElem?_eq_none (by rw [celf_len]; omega)
    show (if a < B then none else match (celf B)[a - B]? with | some c => some (c (I (a - B)) (L (a - B)) (Q (a - B))) | none => if a < n then some (rcell (R a)) else none) = _
    have h3 : rda B R a = R a := if_neg (by omega)
    rw [if_neg h1, h2, h3]
    exact if_pos h.2
theorem rd_gV {a j : Nat} {v : Value} (h : VA B n a) (hj : [Value.int (rda B R a).1, .int (rda B R a).2.1, .int (rda B R a).2.2.1, .long (rda B R a).2.2.2.1, .long (rda B R a).2.2.2.2.1, .long (rda B R a).2.2.2.2.2.1, .int (rda B R a).2.2.2.2.2.2][j]? = some v) : gV (MK B n I L Q R) a 3 j = some v := by
  unfold gV
  rw [mk_rd h]
  show (if 3 = 3 then ([Value.int (rda B R a).1, .int (rda B R a).2.1, .int (rda B R a).2.2.1, .long (rda B R a).2.2.2.1, .long (rda B R a).2.2.2.2.1, .long (rda B R a).2.2.2.2.2.1, .int (rda B R a).2.2.2.2.2.2] : List Value)[j]? else none) = some v
  rw [if_pos rfl, hj]
theorem rd_ck {a : Nat} (h : VA B n a) : ckO (MK B n I L Q R) a 3 = true := by
  unfold ckO
  rw [mk_rd h]
  rfl
theorem rd_from {a : Nat} (h : VA B n a) : gI (MK B n I L Q R) a 3 0 = some (rda B R a).1 := by unfold gI; rw [rd_gV h rfl]; rfl
theorem rd_to {a : Nat} (h : VA B n a) : gI (MK B n I L Q R) a 3 1 = some (rda B R a).2.1 := by unfold gI; rw [rd_gV h rfl]; rfl
theorem rd_kind {a : Nat} (h : VA B n a) : gI (MK B n I L Q R) a 3 2 = some (rda B R a).2.2.1 := by unfold gI; rw [rd_gV h rfl]; rfl
theorem rd_base {a : Nat} (h : VA B n a) : gL (MK B n I L Q R) a 3 3 = some (rda B R a).2.2.2.1 := by unfold gL; rw [rd_gV h rfl]; rfl
theorem rd_slope {a : Nat} (h : VA B n a) : gL (MK B n I L Q R) a 3 4 = some (rda B R a).2.2.2.2.1 := by unfold gL; rw [rd_gV h rfl]; rfl
theorem rd_steep {a : Nat} (h : VA B n a) : gL (MK B n I L Q R) a 3 5 = some (rda B R a).2.2.2.2.2.1 := by unfold gL; rw [rd_gV h rfl]; rfl
theorem rd_knee {a : Nat} (h : VA B n a) : gI (MK B n I L Q R) a 3 6 = some (rda B R a).2.2.2.2.2.2 := by unfold gI; rw [rd_gV h rfl]; rfl
theorem mk_sQ {k len i : Nat} {x : Option Nat} (hk : (celf B)[k]? = some (fun _ _ Q => .inl (4, len, .inr (.inr (.inr (.inr Q)))))) (hx : ∀ a, x = some a → VA B n a) (hi : i < len) (hl : len < 2147483648) : sQ (MK B n I L Q R) (B + k) 4 (nI i) x = some (MK B n I L (u2 Q k i x) R) := by
  cases x with
  | none =>
    unfold sQ
    rw [mk_at hk]
    show (if (4 = 4 ∧ ¬ (nI i < 0 ∨ len ≤ (nI i).toNatClampNeg)) ∧ true = true then some (hup (MK B n I L Q R) (B + k) (.inl (4, len, .inr (.inr (.inr (.inr (va_up (Q k) (nI i).toNatClampNeg none))))))) else none) = _
    rw [if_pos ⟨⟨rfl, nI_in hi hl⟩, rfl⟩, nI_clamp (by omega), mk_up hk (fun _ _ => rfl) (fun _ _ => rfl) (fun q hq => u2_nk hq) (by rw [up_u2])]
  | some v =>
    unfold sQ
    rw [mk_at hk]
    show (if (4 = 4 ∧ ¬ (nI i < 0 ∨ len ≤ (nI i).toNatClampNeg)) ∧ ckO (MK B n I L Q R) v (kdC 4) = true then some (hup (MK B n I L Q R) (B + k) (.inl (4, len, .inr (.inr (.inr (.inr (va_up (Q k) (nI i).toNatClampNeg (some v)))))))) else none) = _
    rw [if_pos ⟨⟨rfl, nI_in hi hl⟩, rd_ck (hx v rfl)⟩, nI_clamp (by omega), mk_up hk (fun _ _ => rfl) (fun _ _ => rfl) (fun q hq => u2_nk hq) (by rw [up_u2])]

-- what is where
def isN (x : Nat) : Prop := x = 1 ∨ x = 9 ∨ x = 33
def isP (x : Nat) : Prop := x = 17 ∨ x = 41
def isS (x : Nat) : Prop := x = 48 ∨ x = 64 ∨ x = 74 ∨ x = 84
def isU (x : Nat) : Prop := x = 27 ∨ x = 54 ∨ x = 63 ∨ x = 70 ∨ x = 80 ∨ x = 90
def isT (x : Nat) : Prop := x = 94 ∨ x = 96 ∨ x = 98
def isR (x : Nat) : Prop := x = 100 ∨ x = 102 ∨ x = 104 ∨ x = 106
theorem k_Net {x : Nat} (hx : isN x) : ckO (MK B n I L Q R) (B + x) 1 = true := by rcases hx with h | h | h <;> subst h <;> exact mk_ck rfl rfl
theorem g_towns {x : Nat} (hx : isN x) : gI (MK B n I L Q R) (B + x) 1 0 = some (I x 0) := by rcases hx with h | h | h <;> subst h <;> exact mk_gI rfl rfl rfl
theorem p_towns {x : Nat} (hx : isN x) {v : Int32} : pV (MK B n I L Q R) (B + x) 1 0 (.int v) = some (MK B n (u2 I x 0 v) L Q R) := by rcases hx with h | h | h <;> subst h <;> exact mk_pI rfl rfl (Nat.le_of_ble_eq_true rfl) rfl
theorem g_size {x : Nat} (hx : isN x) : gI (MK B n I L Q R) (B + x) 1 1 = some (I x 1) := by rcases hx with h | h | h <;> subst h <;> exact mk_gI rfl rfl rfl
theorem p_size {x : Nat} (hx : isN x) {v : Int32} : pV (MK B n I L Q R) (B + x) 1 1 (.int v) = some (MK B n (u2 I x 1 v) L Q R) := by rcases hx with h | h | h <;> subst h <;> exact mk_pI rfl rfl (Nat.le_of_ble_eq_true rfl) rfl
theorem g_roads {x : Nat} (hx : isN x) : gR (MK B n I L Q R) (B + x) 1 2 = some (B + (x + 1)) := by rcases hx with h | h | h <;> subst h <;> exact mk_gR rfl rfl rfl
theorem g_tolls {x : Nat} (hx : isN x) : gR (MK B n I L Q R) (B + x) 1 3 = some (B + (x + 2)) := by rcases hx with h | h | h <;> subst h <;> exact mk_gR rfl rfl rfl
theorem g_crowds {x : Nat} (hx : isN x) : gR (MK B n I L Q R) (B + x) 1 4 = some (B + (x + 3)) := by rcases hx with h | h | h <;> subst h <;> exact mk_gR rfl rfl rfl
theorem a_tolls {x : Nat} (hx : isN x) {i : Nat} (hi : i < 13) : aL (MK B n I L Q R) (B + (x + 2)) (nI i) = some (L (x + 2) i) := by rcases hx with h | h | h <;> subst h <;> exact mk_aL rfl hi (by decide)
theorem s_tolls {x : Nat} (hx : isN x) {i : Nat} {v : Int64} (hi : i < 13) : sL (MK B n I L Q R) (B + (x + 2)) (nI i) v = some (MK B n I (u2 L (x + 2) i v) Q R) := by rcases hx with h | h | h <;> subst h <;> exact mk_sL rfl hi (by decide)
theorem r_crowds {x : Nat} (hx : isN x) {c : Nat} (hc : c < 3) : aR (MK B n I L Q R) (B + (x + 3)) 3 (nI c) = some (B + (x + (4 + c))) := by
  unfold aR
  have e : (if c < 3 then some (B + (x + 4) + c) else none) = some (B + (x + (4 + c))) := by rw [if_pos hc]; congr 1; omega
  rcases hx with h | h | h <;> subst h <;> rw [mk_aQ rfl hc (by decide)] <;> exact e
theorem q_roads {x : Nat} (hx : isN x) {i a : Nat} (hi : i < 13) (ha : Q (x + 1) i = some a) : aR (MK B n I L Q R) (B + (x + 1)) 4 (nI i) = some a := by
  unfold aR
  rcases hx with h | h | h <;> subst h <;> (rw [mk_aQ (F := fun Q => Q) rfl hi (by decide)]; exact ha)
theorem w_roads {x : Nat} (hx : isN x) {i a : Nat} (hi : i < 13) (ha : VA B n a) : sQ (MK B n I L Q R) (B + (x + 1)) 4 (nI i) (some a) = some (MK B n I L (u2 Q (x + 1) i (some a)) R) := by
  rcases hx with h | h | h <;> subst h <;> exact mk_sQ rfl (fun _ e => by cases e; exact ha) hi (by decide)
theorem a_crowd {x c : Nat} (hx : isN x) (hc : c < 3) {i : Nat} (hi : i < 4) : aI (MK B n I L Q R) (B + (x + (4 + c))) 0 (nI i) = some (I (x + (4 + c)) i) := by
  obtain h | h | h : c = 0 ∨ c = 1 ∨ c = 2 := by omega
  all_goals subst h
  all_goals rcases hx with h | h | h <;> subst h <;> exact mk_aI rfl hi (by decide)
theorem s_crowd {x c : Nat} (hx : isN x) (hc : c < 3) {i : Nat} {v : Int32} (hi : i < 4) : sI (MK B n I L Q R) (B + (x + (4 + c))) (nI i) v = some (MK B n (u2 I (x + (4 + c)) i v) L Q R) := by
  obtain h | h | h : c = 0 ∨ c = 1 ∨ c = 2 := by omega
  all_goals subst h
  all_goals rcases hx with h | h | h <;> subst h <;> exact mk_sI rfl hi (by decide)
theorem k_Paths {x : Nat} (hx : isP x) : ckO (MK B n I L Q R) (B + x) 2 = true := by rcases hx with h | h <;> subst h <;> exact mk_ck rfl rfl
theorem g_count {x : Nat} (hx : isP x) : gI (MK B n I L Q R) (B + x) 2 0 = some (I x 0) := by rcases hx with h | h <;> subst h <;> exact mk_gI rfl rfl rfl
theorem p_count {x : Nat} (hx : isP x) {v : Int32} : pV (MK B n I L Q R) (B + x) 2 0 (.int v) = some (MK B n (u2 I x 0 v) L Q R) := by rcases hx with h | h <;> subst h <;> exact mk_pI rfl rfl (Nat.le_of_ble_eq_true rfl) rfl
theorem g_parents {x : Nat} (hx : isP x) : gR (MK B n I L Q R) (B + x) 2 1 = some (B + (x + 1)) := by rcases hx with h | h <;> subst h <;> exact mk_gR rfl rfl rfl
theorem a_parents {x : Nat} (hx : isP x) {i : Nat} (hi : i < 211) : aI (MK B n I L Q R) (B + (x + 1)) 0 (nI i) = some (I (x + 1) i) := by rcases hx with h | h <;> subst h <;> exact mk_aI rfl hi (by decide)
theorem s_parents {x : Nat} (hx : isP x) {i : Nat} {v : Int32} (hi : i < 211) : sI (MK B n I L Q R) (B + (x + 1)) (nI i) v = some (MK B n (u2 I (x + 1) i v) L Q R) := by rcases hx with h | h <;> subst h <;> exact mk_sI rfl hi (by decide)
theorem g_lastRoads {x : Nat} (hx : isP x) : gR (MK B n I L Q R) (B + x) 2 2 = some (B + (x + 2)) := by rcases hx with h | h <;> subst h <;> exact mk_gR rfl rfl rfl
theorem a_lastRoads {x : Nat} (hx : isP x) {i : Nat} (hi : i < 211) : aI (MK B n I L Q R) (B + (x + 2)) 0 (nI i) = some (I (x + 2) i) := by rcases hx with h | h <;> subst h <;> exact mk_aI rfl hi (by decide)
theorem s_lastRoads {x : Nat} (hx : isP x) {i : Nat} {v : Int32} (hi : i < 211) : sI (MK B n I L Q R) (B + (x + 2)) (nI i) v = some (MK B n (u2 I (x + 2) i v) L Q R) := by rcases hx with h | h <;> subst h <;> exact mk_sI rfl hi (by decide)
theorem g_ends {x : Nat} (hx : isP x) : gR (MK B n I L Q R) (B + x) 2 3 = some (B + (x + 3)) := by rcases hx with h | h <;> subst h <;> exact mk_gR rfl rfl rfl
theorem a_ends {x : Nat} (hx : isP x) {i : Nat} (hi : i < 211) : aI (MK B n I L Q R) (B + (x + 3)) 0 (nI i) = some (I (x + 3) i) := by rcases hx with h | h <;> subst h <;> exact mk_aI rfl hi (by decide)
theorem s_ends {x : Nat} (hx : isP x) {i : Nat} {v : Int32} (hi : i < 211) : sI (MK B n I L Q R) (B + (x + 3)) (nI i) v = some (MK B n (u2 I (x + 3) i v) L Q R) := by rcases hx with h | h <;> subst h <;> exact mk_sI rfl hi (by decide)
theorem g_lengths {x : Nat} (hx : isP x) : gR (MK B n I L Q R) (B + x) 2 4 = some (B + (x + 4)) := by rcases hx with h | h <;> subst h <;> exact mk_gR rfl rfl rfl
theorem a_lengths {x : Nat} (hx : isP x) {i : Nat} (hi : i < 211) : aI (MK B n I L Q R) (B + (x + 4)) 0 (nI i) = some (I (x + 4) i) := by rcases hx with h | h <;> subst h <;> exact mk_aI rfl hi (by decide)
theorem s_lengths {x : Nat} (hx : isP x) {i : Nat} {v : Int32} (hi : i < 211) : sI (MK B n I L Q R) (B + (x + 4)) (nI i) v = some (MK B n (u2 I (x + 4) i v) L Q R) := by rcases hx with h | h <;> subst h <;> exact mk_sI rfl hi (by decide)
theorem g_roadBits {x : Nat} (hx : isP x) : gR (MK B n I L Q R) (B + x) 2 5 = some (B + (x + 5)) := by rcases hx with h | h <;> subst h <;> exact mk_gR rfl rfl rfl
theorem a_roadBits {x : Nat} (hx : isP x) {i : Nat} (hi : i < 211) : aI (MK B n I L Q R) (B + (x + 5)) 0 (nI i) = some (I (x + 5) i) := by rcases hx with h | h <;> subst h <;> exact mk_aI rfl hi (by decide)
theorem s_roadBits {x : Nat} (hx : isP x) {i : Nat} {v : Int32} (hi : i < 211) : sI (MK B n I L Q R) (B + (x + 5)) (nI i) v = some (MK B n (u2 I (x + 5) i v) L Q R) := by rcases hx with h | h <;> subst h <;> exact mk_sI rfl hi (by decide)
theorem g_townBits {x : Nat} (hx : isP x) : gR (MK B n I L Q R) (B + x) 2 6 = some (B + (x + 6)) := by rcases hx with h | h <;> subst h <;> exact mk_gR rfl rfl rfl
theorem a_townBits {x : Nat} (hx : isP x) {i : Nat} (hi : i < 211) : aI (MK B n I L Q R) (B + (x + 6)) 0 (nI i) = some (I (x + 6) i) := by rcases hx with h | h <;> subst h <;> exact mk_aI rfl hi (by decide)
theorem s_townBits {x : Nat} (hx : isP x) {i : Nat} {v : Int32} (hi : i < 211) : sI (MK B n I L Q R) (B + (x + 6)) (nI i) v = some (MK B n (u2 I (x + 6) i v) L Q R) := by rcases hx with h | h <;> subst h <;> exact mk_sI rfl hi (by decide)
theorem k_Steady {x : Nat} (hx : isS x) : ckO (MK B n I L Q R) (B + x) 5 = true := by rcases hx with h | h | h | h <;> subst h <;> exact mk_ck rfl rfl
theorem g_loads {x : Nat} (hx : isS x) : gR (MK B n I L Q R) (B + x) 5 0 = some (B + (x + 1)) := by rcases hx with h | h | h | h <;> subst h <;> exact mk_gR rfl rfl rfl
theorem g_riders {x : Nat} (hx : isS x) : gR (MK B n I L Q R) (B + x) 5 1 = some (B + (x + 2)) := by rcases hx with h | h | h | h <;> subst h <;> exact mk_gR rfl rfl rfl
theorem g_ssum {x : Nat} (hx : isS x) : gR (MK B n I L Q R) (B + x) 5 2 = some (B + (x + 6)) := by rcases hx with h | h | h | h <;> subst h <;> exact mk_gR rfl rfl rfl
theorem g_here {x : Nat} (hx : isS x) : gR (MK B n I L Q R) (B + x) 5 5 = some (B + (x + 7)) := by rcases hx with h | h | h | h <;> subst h <;> exact mk_gR rfl rfl rfl
theorem g_more {x : Nat} (hx : isS x) : gR (MK B n I L Q R) (B + x) 5 6 = some (B + (x + 8)) := by rcases hx with h | h | h | h <;> subst h <;> exact mk_gR rfl rfl rfl
theorem g_fares {x : Nat} (hx : isS x) : gR (MK B n I L Q R) (B + x) 5 7 = some (B + (x + 9)) := by rcases hx with h | h | h | h <;> subst h <;> exact mk_gR rfl rfl rfl
theorem g_stands {x : Nat} (hx : isS x) : gI (MK B n I L Q R) (B + x) 5 3 = some (I x 3) := by rcases hx with h | h | h | h <;> subst h <;> exact mk_gI rfl rfl rfl
theorem p_stands {x : Nat} (hx : isS x) {v : Int32} : pV (MK B n I L Q R) (B + x) 5 3 (.int v) = some (MK B n (u2 I x 3 v) L Q R) := by rcases hx with h | h | h | h <;> subst h <;> exact mk_pI rfl rfl (Nat.le_of_ble_eq_true rfl) rfl
theorem g_steps {x : Nat} (hx : isS x) : gI (MK B n I L Q R) (B + x) 5 4 = some (I x 4) := by rcases hx with h | h | h | h <;> subst h <;> exact mk_gI rfl rfl rfl
theorem p_steps {x : Nat} (hx : isS x) {v : Int32} : pV (MK B n I L Q R) (B + x) 5 4 (.int v) = some (MK B n (u2 I x 4 v) L Q R) := by rcases hx with h | h | h | h <;> subst h <;> exact mk_pI rfl rfl (Nat.le_of_ble_eq_true rfl) rfl
theorem a_loads {x : Nat} (hx : isS x) {i : Nat} (hi : i < 13) : aI (MK B n I L Q R) (B + (x + 1)) 0 (nI i) = some (I (x + 1) i) := by rcases hx with h | h | h | h <;> subst h <;> exact mk_aI rfl hi (by decide)
theorem s_loads {x : Nat} (hx : isS x) {i : Nat} {v : Int32} (hi : i < 13) : sI (MK B n I L Q R) (B + (x + 1)) (nI i) v = some (MK B n (u2 I (x + 1) i v) L Q R) := by rcases hx with h | h | h | h <;> subst h <;> exact mk_sI rfl hi (by decide)
theorem n_loads {x : Nat} (hx : isS x) : aNk (MK B n I L Q R) (B + (x + 1)) 0 = some (nI 13) := by rcases hx with h | h | h | h <;> subst h <;> exact mk_aNk (x := fun I _ _ => .inl I) rfl
theorem r_riders {x : Nat} (hx : isS x) {c : Nat} (hc : c < 3) : aR (MK B n I L Q R) (B + (x + 2)) 3 (nI c) = some (B + (x + (3 + c))) := by
  unfold aR
  have e : (if c < 3 then some (B + (x + 3) + c) else none) = some (B + (x + (3 + c))) := by rw [if_pos hc]; congr 1; omega
  rcases hx with h | h | h | h <;> subst h <;> rw [mk_aQ rfl hc (by decide)] <;> exact e
theorem a_here {x : Nat} (hx : isS x) {i : Nat} (hi : i < 13) : aL (MK B n I L Q R) (B + (x + 7)) (nI i) = some (L (x + 7) i) := by rcases hx with h | h | h | h <;> subst h <;> exact mk_aL rfl hi (by decide)
theorem s_here {x : Nat} (hx : isS x) {i : Nat} {v : Int64} (hi : i < 13) : sL (MK B n I L Q R) (B + (x + 7)) (nI i) v = some (MK B n I (u2 L (x + 7) i v) Q R) := by rcases hx with h | h | h | h <;> subst h <;> exact mk_sL rfl hi (by decide)
theorem a_more {x : Nat} (hx : isS x) {i : Nat} (hi : i < 13) : aL (MK B n I L Q R) (B + (x + 8)) (nI i) = some (L (x + 8) i) := by rcases hx with h | h | h | h <;> subst h <;> exact mk_aL rfl hi (by decide)
theorem s_more {x : Nat} (hx : isS x) {i : Nat} {v : Int64} (hi : i < 13) : sL (MK B n I L Q R) (B + (x + 8)) (nI i) v = some (MK B n I (u2 L (x + 8) i v) Q R) := by rcases hx with h | h | h | h <;> subst h <;> exact mk_sL rfl hi (by decide)
theorem a_fares {x : Nat} (hx : isS x) {i : Nat} (hi : i < 211) : aL (MK B n I L Q R) (B + (x + 9)) (nI i) = some (L (x + 9) i) := by rcases hx with h | h | h | h <;> subst h <;> exact mk_aL rfl hi (by decide)
theorem s_fares {x : Nat} (hx : isS x) {i : Nat} {v : Int64} (hi : i < 211) : sL (MK B n I L Q R) (B + (x + 9)) (nI i) v = some (MK B n I (u2 L (x + 9) i v) Q R) := by rcases hx with h | h | h | h <;> subst h <;> exact mk_sL rfl hi (by decide)
theorem a_rider {x c : Nat} (hx : isS x) (hc : c < 3) {i : Nat} (hi : i < 211) : aI (MK B n I L Q R) (B + (x + (3 + c))) 0 (nI i) = some (I (x + (3 + c)) i) := by
  obtain h | h | h : c = 0 ∨ c = 1 ∨ c = 2 := by omega
  all_goals subst h
  all_goals rcases hx with h | h | h | h <;> subst h <;> exact mk_aI rfl hi (by decide)
theorem s_rider {x c : Nat} (hx : isS x) (hc : c < 3) {i : Nat} {v : Int32} (hi : i < 211) : sI (MK B n I L Q R) (B + (x + (3 + c))) (nI i) v = some (MK B n (u2 I (x + (3 + c)) i v) L Q R) := by
  obtain h | h | h : c = 0 ∨ c = 1 ∨ c = 2 := by omega
  all_goals subst h
  all_goals rcases hx with h | h | h | h <;> subst h <;> exact mk_sI rfl hi (by decide)
theorem n_rider {x c : Nat} (hx : isS x) (hc : c < 3) : aNk (MK B n I L Q R) (B + (x + (3 + c))) 0 = some (nI 211) := by
  obtain h | h | h : c = 0 ∨ c = 1 ∨ c = 2 := by omega
  all_goals subst h
  all_goals rcases hx with h | h | h | h <;> subst h <;> exact mk_aNk (x := fun I _ _ => .inl I) rfl
theorem isU_S {x : Nat} (hx : isS x) : isU (x + 6) := by unfold isS at hx; unfold isU; omega
theorem k_Sum {x : Nat} (hx : isU x) : ckO (MK B n I L Q R) (B + x) 6 = true := by rcases hx with h | h | h | h | h | h <;> subst h <;> exact mk_ck rfl rfl
theorem g_value {x : Nat} (hx : isU x) : gL (MK B n I L Q R) (B + x) 6 0 = some (L x 0) := by rcases hx with h | h | h | h | h | h <;> subst h <;> exact mk_gL rfl rfl rfl
theorem p_value {x : Nat} (hx : isU x) {v : Int64} : pV (MK B n I L Q R) (B + x) 6 0 (.long v) = some (MK B n I (u2 L x 0 v) Q R) := by rcases hx with h | h | h | h | h | h <;> subst h <;> exact mk_pL rfl rfl (Nat.le_of_ble_eq_true rfl) rfl
theorem g_isOver {x : Nat} (hx : isU x) : gI (MK B n I L Q R) (B + x) 6 1 = some (I x 1) := by rcases hx with h | h | h | h | h | h <;> subst h <;> exact mk_gI rfl rfl rfl
theorem p_isOver {x : Nat} (hx : isU x) {v : Int32} : pV (MK B n I L Q R) (B + x) 6 1 (.int v) = some (MK B n (u2 I x 1 v) L Q R) := by rcases hx with h | h | h | h | h | h <;> subst h <;> exact mk_pI rfl rfl (Nat.le_of_ble_eq_true rfl) rfl
theorem k_Cheapest : ckO (MK B n I L Q R) (B + 26) 0 = true := by exact mk_ck rfl rfl
theorem g_csum : gR (MK B n I L Q R) (B + 26) 0 0 = some (B + 27) := by exact mk_gR rfl rfl rfl
theorem g_cloads : gR (MK B n I L Q R) (B + 26) 0 1 = some (B + 28) := by exact mk_gR rfl rfl rfl
theorem g_isMet : gR (MK B n I L Q R) (B + 26) 0 2 = some (B + 29) := by exact mk_gR rfl rfl rfl
theorem g_far : gR (MK B n I L Q R) (B + 26) 0 3 = some (B + 30) := by exact mk_gR rfl rfl rfl
theorem g_cameFrom : gR (MK B n I L Q R) (B + 26) 0 4 = some (B + 31) := by exact mk_gR rfl rfl rfl
theorem g_cameBy : gR (MK B n I L Q R) (B + 26) 0 5 = some (B + 32) := by exact mk_gR rfl rfl rfl
theorem a_cloads {i : Nat} (hi : i < 13) : aI (MK B n I L Q R) (B + 28) 0 (nI i) = some (I 28 i) := by exact mk_aI rfl hi (by decide)
theorem s_cloads {i : Nat} {v : Int32} (hi : i < 13) : sI (MK B n I L Q R) (B + 28) (nI i) v = some (MK B n (u2 I 28 i v) L Q R) := by exact mk_sI rfl hi (by decide)
theorem n_cloads : aNk (MK B n I L Q R) (B + 28) 0 = some (nI 13) := by exact mk_aNk (x := fun I _ _ => .inl I) rfl
theorem a_isMet {i : Nat} (hi : i < 6) : aI (MK B n I L Q R) (B + 29) 2 (nI i) = some (I 29 i) := by exact mk_aI rfl hi (by decide)
theorem s_isMet {i : Nat} {v : Int32} (hi : i < 6) (hv : v = 0 ∨ v = 1) : sZ (MK B n I L Q R) (B + 29) (nI i) v = some (MK B n (u2 I 29 i v) L Q R) := by exact mk_sZ rfl hv hi (by decide)
theorem a_far {i : Nat} (hi : i < 6) : aL (MK B n I L Q R) (B + 30) (nI i) = some (L 30 i) := by exact mk_aL rfl hi (by decide)
theorem s_far {i : Nat} {v : Int64} (hi : i < 6) : sL (MK B n I L Q R) (B + 30) (nI i) v = some (MK B n I (u2 L 30 i v) Q R) := by exact mk_sL rfl hi (by decide)
theorem a_cameFrom {i : Nat} (hi : i < 6) : aI (MK B n I L Q R) (B + 31) 0 (nI i) = some (I 31 i) := by exact mk_aI rfl hi (by decide)
theorem s_cameFrom {i : Nat} {v : Int32} (hi : i < 6) : sI (MK B n I L Q R) (B + 31) (nI i) v = some (MK B n (u2 I 31 i v) L Q R) := by exact mk_sI rfl hi (by decide)
theorem a_cameBy {i : Nat} (hi : i < 6) : aI (MK B n I L Q R) (B + 32) 0 (nI i) = some (I 32 i) := by exact mk_aI rfl hi (by decide)
theorem s_cameBy {i : Nat} {v : Int32} (hi : i < 6) : sI (MK B n I L Q R) (B + 32) (nI i) v = some (MK B n (u2 I 32 i v) L Q R) := by exact mk_sI rfl hi (by decide)
theorem k_Tape : ckO (MK B n I L Q R) (B + 58) 7 = true := by exact mk_ck rfl rfl
theorem g_tlen : gI (MK B n I L Q R) (B + 58) 7 0 = some (I 58 0) := by exact mk_gI rfl rfl rfl
theorem p_tlen {v : Int32} : pV (MK B n I L Q R) (B + 58) 7 0 (.int v) = some (MK B n (u2 I 58 0 v) L Q R) := by exact mk_pI rfl rfl (Nat.le_of_ble_eq_true rfl) rfl
theorem g_bytes : gR (MK B n I L Q R) (B + 58) 7 1 = some (B + 59) := by exact mk_gR rfl rfl rfl
theorem g_at : gI (MK B n I L Q R) (B + 58) 7 2 = some (I 58 2) := by exact mk_gI rfl rfl rfl
theorem p_at {v : Int32} : pV (MK B n I L Q R) (B + 58) 7 2 (.int v) = some (MK B n (u2 I 58 2 v) L Q R) := by exact mk_pI rfl rfl (Nat.le_of_ble_eq_true rfl) rfl
theorem g_fault : gI (MK B n I L Q R) (B + 58) 7 3 = some (I 58 3) := by exact mk_gI rfl rfl rfl
theorem p_fault {v : Int32} : pV (MK B n I L Q R) (B + 58) 7 3 (.int v) = some (MK B n (u2 I 58 3 v) L Q R) := by exact mk_pI rfl rfl (Nat.le_of_ble_eq_true rfl) rfl
theorem a_bytes {i : Nat} (hi : i < 100) : aI (MK B n I L Q R) (B + 59) 0 (nI i) = some (I 59 i) := by exact mk_aI rfl hi (by decide)
theorem s_bytes {i : Nat} {v : Int32} (hi : i < 100) : sI (MK B n I L Q R) (B + 59) (nI i) v = some (MK B n (u2 I 59 i v) L Q R) := by exact mk_sI rfl hi (by decide)
theorem k_Tray {x : Nat} (hx : isT x) : ckO (MK B n I L Q R) (B + x) 8 = true := by rcases hx with h | h | h <;> subst h <;> exact mk_ck rfl rfl
theorem g_traysize {x : Nat} (hx : isT x) : gI (MK B n I L Q R) (B + x) 8 0 = some (I x 0) := by rcases hx with h | h | h <;> subst h <;> exact mk_gI rfl rfl rfl
theorem p_traysize {x : Nat} (hx : isT x) {v : Int32} : pV (MK B n I L Q R) (B + x) 8 0 (.int v) = some (MK B n (u2 I x 0 v) L Q R) := by rcases hx with h | h | h <;> subst h <;> exact mk_pI rfl rfl (Nat.le_of_ble_eq_true rfl) rfl
theorem g_traykind {x : Nat} (hx : isT x) : gI (MK B n I L Q R) (B + x) 8 1 = some (I x 1) := by rcases hx with h | h | h <;> subst h <;> exact mk_gI rfl rfl rfl
theorem p_traykind {x : Nat} (hx : isT x) {v : Int32} : pV (MK B n I L Q R) (B + x) 8 1 (.int v) = some (MK B n (u2 I x 1 v) L Q R) := by rcases hx with h | h | h <;> subst h <;> exact mk_pI rfl rfl (Nat.le_of_ble_eq_true rfl) rfl
theorem g_places {x : Nat} (hx : isT x) : gR (MK B n I L Q R) (B + x) 8 2 = some (B + (x + 1)) := by rcases hx with h | h | h <;> subst h <;> exact mk_gR rfl rfl rfl
theorem q_places {x : Nat} (hx : isT x) {i : Nat} (hi : i < 20) : aQ (MK B n I L Q R) (B + (x + 1)) 4 (nI i) = some (Q (x + 1) i) := by
  rcases hx with h | h | h <;> subst h <;> exact mk_aQ (F := fun Q => Q) rfl hi (by decide)
theorem w_places {x : Nat} (hx : isT x) {i : Nat} {v : Option Nat} (hi : i < 20) (hv : ∀ a, v = some a → VA B n a) : sQ (MK B n I L Q R) (B + (x + 1)) 4 (nI i) v = some (MK B n I L (u2 Q (x + 1) i v) R) := by
  rcases hx with h | h | h <;> subst h <;> exact mk_sQ rfl hv hi (by decide)
theorem k_Row {x : Nat} (hx : isR x) : ckO (MK B n I L Q R) (B + x) 4 = true := by rcases hx with h | h | h | h <;> subst h <;> exact mk_ck rfl rfl
theorem g_rowsize {x : Nat} (hx : isR x) : gI (MK B n I L Q R) (B + x) 4 0 = some (I x 0) := by rcases hx with h | h | h | h <;> subst h <;> exact mk_gI rfl rfl rfl
theorem p_rowsize {x : Nat} (hx : isR x) {v : Int32} : pV (MK B n I L Q R) (B + x) 4 0 (.int v) = some (MK B n (u2 I x 0 v) L Q R) := by rcases hx with h | h | h | h <;> subst h <;> exact mk_pI rfl rfl (Nat.le_of_ble_eq_true rfl) rfl
theorem g_longs {x : Nat} (hx : isR x) : gR (MK B n I L Q R) (B + x) 4 1 = some (B + (x + 1)) := by rcases hx with h | h | h | h <;> subst h <;> exact mk_gR rfl rfl rfl
theorem a_longs {x : Nat} (hx : isR x) {i : Nat} (hi : i < 24) : aL (MK B n I L Q R) (B + (x + 1)) (nI i) = some (L (x + 1) i) := by rcases hx with h | h | h | h <;> subst h <;> exact mk_aL rfl hi (by decide)
theorem s_longs {x : Nat} (hx : isR x) {i : Nat} {v : Int64} (hi : i < 24) : sL (MK B n I L Q R) (B + (x + 1)) (nI i) v = some (MK B n I (u2 L (x + 1) i v) Q R) := by rcases hx with h | h | h | h <;> subst h <;> exact mk_sL rfl hi (by decide)
theorem n_longs {x : Nat} (hx : isR x) : aNk (MK B n I L Q R) (B + (x + 1)) 1 = some (nI 24) := by rcases hx with h | h | h | h <;> subst h <;> exact mk_aNk (x := fun _ L _ => .inr (.inl L)) rfl
theorem g_Wnow : gR (MK B n I L Q R) B 9 0 = some (B + 1) := mk_gR (k := 0) rfl rfl rfl
theorem g_Wkept : gR (MK B n I L Q R) B 9 1 = some (B + 9) := mk_gR (k := 0) rfl rfl rfl
theorem g_Wpaths : gR (MK B n I L Q R) B 9 3 = some (B + 17) := mk_gR (k := 0) rfl rfl rfl
theorem g_Wsteadies : gR (MK B n I L Q R) B 9 5 = some (B + 24) := mk_gR (k := 0) rfl rfl rfl
theorem g_Wsfresh : gR (MK B n I L Q R) B 9 6 = some (B + 25) := mk_gR (k := 0) rfl rfl rfl
theorem g_Wcheapest : gR (MK B n I L Q R) B 9 7 = some (B + 26) := mk_gR (k := 0) rfl rfl rfl
theorem g_WthoughtNet : gR (MK B n I L Q R) B 9 9 = some (B + 33) := mk_gR (k := 0) rfl rfl rfl
theorem g_WthoughtPaths : gR (MK B n I L Q R) B 9 10 = some (B + 41) := mk_gR (k := 0) rfl rfl rfl
theorem g_WthoughtSteady : gR (MK B n I L Q R) B 9 11 = some (B + 48) := mk_gR (k := 0) rfl rfl rfl
theorem g_Wtape : gR (MK B n I L Q R) B 9 12 = some (B + 58) := mk_gR (k := 0) rfl rfl rfl
theorem g_Wtrays : gR (MK B n I L Q R) B 9 13 = some (B + 60) := mk_gR (k := 0) rfl rfl rfl
theorem g_Wrows : gR (MK B n I L Q R) B 9 14 = some (B + 61) := mk_gR (k := 0) rfl rfl rfl
theorem g_WtoldLoads : gR (MK B n I L Q R) B 9 15 = some (B + 62) := mk_gR (k := 0) rfl rfl rfl
theorem g_Wsum : gR (MK B n I L Q R) B 9 16 = some (B + 63) := mk_gR (k := 0) rfl rfl rfl
theorem g_WisKept : gI (MK B n I L Q R) B 9 2 = some (I 0 2) := mk_gI (k := 0) rfl rfl rfl
theorem p_WisKept {v : Int32} : pV (MK B n I L Q R) B 9 2 (.int v) = some (MK B n (u2 I 0 2 v) L Q R) := mk_pI (k := 0) rfl rfl (Nat.le_of_ble_eq_true rfl) rfl
theorem g_Wpfresh : gI (MK B n I L Q R) B 9 4 = some (I 0 4) := mk_gI (k := 0) rfl rfl rfl
theorem p_Wpfresh {v : Int32} : pV (MK B n I L Q R) B 9 4 (.int v) = some (MK B n (u2 I 0 4 v) L Q R) := mk_pI (k := 0) rfl rfl (Nat.le_of_ble_eq_true rfl) rfl
theorem g_Wcfresh : gI (MK B n I L Q R) B 9 8 = some (I 0 8) := mk_gI (k := 0) rfl rfl rfl
theorem p_Wcfresh {v : Int32} : pV (MK B n I L Q R) B 9 8 (.int v) = some (MK B n (u2 I 0 8 v) L Q R) := mk_pI (k := 0) rfl rfl (Nat.le_of_ble_eq_true rfl) rfl
theorem k_W : ckO (MK B n I L Q R) B 9 = true := mk_ck (k := 0) rfl rfl
theorem a_sfresh {i : Nat} (hi : i < 3) : aI (MK B n I L Q R) (B + 25) 2 (nI i) = some (I 25 i) := by exact mk_aI rfl hi (by decide)
theorem s_sfresh {i : Nat} {v : Int32} (hi : i < 3) (hv : v = 0 ∨ v = 1) : sZ (MK B n I L Q R) (B + 25) (nI i) v = some (MK B n (u2 I 25 i v) L Q R) := by exact mk_sZ rfl hv hi (by decide)
theorem a_told {i : Nat} (hi : i < 13) : aI (MK B n I L Q R) (B + 62) 0 (nI i) = some (I 62 i) := by exact mk_aI rfl hi (by decide)
theorem s_told {i : Nat} {v : Int32} (hi : i < 13) : sI (MK B n I L Q R) (B + 62) (nI i) v = some (MK B n (u2 I 62 i v) L Q R) := by exact mk_sI rfl hi (by decide)
theorem r_steadies {c : Nat} (hc : c < 3) : aR (MK B n I L Q R) (B + 24) 5 (nI c) = some (B + (64 + 10 * c)) := by
  unfold aR
  rw [mk_aQ rfl hc (by decide)]
  show (if c < 3 then some (B + (64 + 10 * c)) else none) = _
  rw [if_pos hc]
theorem r_trays {c : Nat} (hc : c < 3) : aR (MK B n I L Q R) (B + 60) 6 (nI c) = some (B + (94 + 2 * c)) := by
  unfold aR
  rw [mk_aQ rfl hc (by decide)]
  show (if c < 3 then some (B + (94 + 2 * c)) else none) = _
  rw [if_pos hc]
theorem r_rows {c : Nat} (hc : c < 4) : aR (MK B n I L Q R) (B + 61) 7 (nI c) = some (B + (100 + 2 * c)) := by
  unfold aR
  rw [mk_aQ rfl hc (by decide)]
  show (if c < 4 then some (B + (100 + 2 * c)) else none) = _
  rw [if_pos hc]
theorem k_M : ckO (MK B n I L Q R) (B + 108) 10 = true := by exact mk_ck rfl rfl
theorem g_Mnow : gR (MK B n I L Q R) (B + 108) 10 0 = some (B + 109) := by exact mk_gR rfl rfl rfl
theorem a_Mnow {i : Nat} (hi : i < 118) : aL (MK B n I L Q R) (B + 109) (nI i) = some (L 109 i) := by exact mk_aL rfl hi (by decide)
theorem s_Mnow {i : Nat} {v : Int64} (hi : i < 118) : sL (MK B n I L Q R) (B + 109) (nI i) v = some (MK B n I (u2 L 109 i v) Q R) := by exact mk_sL rfl hi (by decide)
theorem g_Mimaged : gR (MK B n I L Q R) (B + 108) 10 1 = some (B + 110) := by exact mk_gR rfl rfl rfl
theorem a_Mimaged {i : Nat} (hi : i < 118) : aL (MK B n I L Q R) (B + 110) (nI i) = some (L 110 i) := by exact mk_aL rfl hi (by decide)
theorem s_Mimaged {i : Nat} {v : Int64} (hi : i < 118) : sL (MK B n I L Q R) (B + 110) (nI i) v = some (MK B n I (u2 L 110 i v) Q R) := by exact mk_sL rfl hi (by decide)
theorem g_Mkept : gR (MK B n I L Q R) (B + 108) 10 2 = some (B + 111) := by exact mk_gR rfl rfl rfl
theorem a_Mkept {i : Nat} (hi : i < 118) : aL (MK B n I L Q R) (B + 111) (nI i) = some (L 111 i) := by exact mk_aL rfl hi (by decide)
theorem s_Mkept {i : Nat} {v : Int64} (hi : i < 118) : sL (MK B n I L Q R) (B + 111) (nI i) v = some (MK B n I (u2 L 111 i v) Q R) := by exact mk_sL rfl hi (by decide)
theorem g_MhasImage : gI (MK B n I L Q R) (B + 108) 10 3 = some (I 108 3) := by exact mk_gI rfl rfl rfl
theorem p_MhasImage {v : Int32} : pV (MK B n I L Q R) (B + 108) 10 3 (.int v) = some (MK B n (u2 I 108 3 v) L Q R) := by exact mk_pI rfl rfl (Nat.le_of_ble_eq_true rfl) rfl
theorem g_Mtape : gR (MK B n I L Q R) (B + 108) 10 4 = some (B + 112) := by exact mk_gR rfl rfl rfl
theorem a_Mtape {i : Nat} (hi : i < 100) : aI (MK B n I L Q R) (B + 112) 0 (nI i) = some (I 112 i) := by exact mk_aI rfl hi (by decide)
theorem s_Mtape {i : Nat} {v : Int32} (hi : i < 100) : sI (MK B n I L Q R) (B + 112) (nI i) v = some (MK B n (u2 I 112 i v) L Q R) := by exact mk_sI rfl hi (by decide)
theorem g_Msize : gI (MK B n I L Q R) (B + 108) 10 5 = some (I 108 5) := by exact mk_gI rfl rfl rfl
theorem p_Msize {v : Int32} : pV (MK B n I L Q R) (B + 108) 10 5 (.int v) = some (MK B n (u2 I 108 5 v) L Q R) := by exact mk_pI rfl rfl (Nat.le_of_ble_eq_true rfl) rfl
theorem g_Mplace : gI (MK B n I L Q R) (B + 108) 10 6 = some (I 108 6) := by exact mk_gI rfl rfl rfl
theorem p_Mplace {v : Int32} : pV (MK B n I L Q R) (B + 108) 10 6 (.int v) = some (MK B n (u2 I 108 6 v) L Q R) := by exact mk_pI rfl rfl (Nat.le_of_ble_eq_true rfl) rfl
theorem g_MisBad : gI (MK B n I L Q R) (B + 108) 10 7 = some (I 108 7) := by exact mk_gI rfl rfl rfl
theorem p_MisBad {v : Int32} : pV (MK B n I L Q R) (B + 108) 10 7 (.int v) = some (MK B n (u2 I 108 7 v) L Q R) := by exact mk_pI rfl rfl (Nat.le_of_ble_eq_true rfl) rfl
theorem g_Mread : gR (MK B n I L Q R) (B + 108) 10 8 = some (B + 113) := by exact mk_gR rfl rfl rfl
theorem a_Mread {i : Nat} (hi : i < 91) : aI (MK B n I L Q R) (B + 113) 0 (nI i) = some (I 113 i) := by exact mk_aI rfl hi (by decide)
theorem s_Mread {i : Nat} {v : Int32} (hi : i < 91) : sI (MK B n I L Q R) (B + 113) (nI i) v = some (MK B n (u2 I 113 i v) L Q R) := by exact mk_sI rfl hi (by decide)
theorem g_MreadMany : gI (MK B n I L Q R) (B + 108) 10 9 = some (I 108 9) := by exact mk_gI rfl rfl rfl
theorem p_MreadMany {v : Int32} : pV (MK B n I L Q R) (B + 108) 10 9 (.int v) = some (MK B n (u2 I 108 9 v) L Q R) := by exact mk_pI rfl rfl (Nat.le_of_ble_eq_true rfl) rfl
theorem g_MwayMany : gR (MK B n I L Q R) (B + 108) 10 10 = some (B + 114) := by exact mk_gR rfl rfl rfl
theorem a_MwayMany {i : Nat} (hi : i < 3) : aI (MK B n I L Q R) (B + 114) 0 (nI i) = some (I 114 i) := by exact mk_aI rfl hi (by decide)
theorem s_MwayMany {i : Nat} {v : Int32} (hi : i < 3) : sI (MK B n I L Q R) (B + 114) (nI i) v = some (MK B n (u2 I 114 i v) L Q R) := by exact mk_sI rfl hi (by decide)
theorem g_MwayLong : gR (MK B n I L Q R) (B + 108) 10 11 = some (B + 115) := by exact mk_gR rfl rfl rfl
theorem a_MwayLong {i : Nat} (hi : i < 768) : aI (MK B n I L Q R) (B + 115) 0 (nI i) = some (I 115 i) := by exact mk_aI rfl hi (by decide)
theorem s_MwayLong {i : Nat} {v : Int32} (hi : i < 768) : sI (MK B n I L Q R) (B + 115) (nI i) v = some (MK B n (u2 I 115 i v) L Q R) := by exact mk_sI rfl hi (by decide)
theorem g_MwayRoads : gR (MK B n I L Q R) (B + 108) 10 12 = some (B + 116) := by exact mk_gR rfl rfl rfl
theorem a_MwayRoads {i : Nat} (hi : i < 3840) : aI (MK B n I L Q R) (B + 116) 0 (nI i) = some (I 116 i) := by exact mk_aI rfl hi (by decide)
theorem s_MwayRoads {i : Nat} {v : Int32} (hi : i < 3840) : sI (MK B n I L Q R) (B + 116) (nI i) v = some (MK B n (u2 I 116 i v) L Q R) := by exact mk_sI rfl hi (by decide)
theorem g_MonRoads : gR (MK B n I L Q R) (B + 108) 10 13 = some (B + 117) := by exact mk_gR rfl rfl rfl
theorem a_MonRoads {i : Nat} (hi : i < 2560) : aI (MK B n I L Q R) (B + 117) 0 (nI i) = some (I 117 i) := by exact mk_aI rfl hi (by decide)
theorem s_MonRoads {i : Nat} {v : Int32} (hi : i < 2560) : sI (MK B n I L Q R) (B + 117) (nI i) v = some (MK B n (u2 I 117 i v) L Q R) := by exact mk_sI rfl hi (by decide)
theorem g_MonTowns : gR (MK B n I L Q R) (B + 108) 10 14 = some (B + 118) := by exact mk_gR rfl rfl rfl
theorem a_MonTowns {i : Nat} (hi : i < 512) : aI (MK B n I L Q R) (B + 118) 0 (nI i) = some (I 118 i) := by exact mk_aI rfl hi (by decide)
theorem s_MonTowns {i : Nat} {v : Int32} (hi : i < 512) : sI (MK B n I L Q R) (B + 118) (nI i) v = some (MK B n (u2 I 118 i v) L Q R) := by exact mk_sI rfl hi (by decide)
theorem g_MonAt : gR (MK B n I L Q R) (B + 108) 10 15 = some (B + 119) := by exact mk_gR rfl rfl rfl
theorem a_MonAt {i : Nat} (hi : i < 512) : aI (MK B n I L Q R) (B + 119) 0 (nI i) = some (I 119 i) := by exact mk_aI rfl hi (by decide)
theorem s_MonAt {i : Nat} {v : Int32} (hi : i < 512) : sI (MK B n I L Q R) (B + 119) (nI i) v = some (MK B n (u2 I 119 i v) L Q R) := by exact mk_sI rfl hi (by decide)
theorem g_Mloads : gR (MK B n I L Q R) (B + 108) 10 16 = some (B + 120) := by exact mk_gR rfl rfl rfl
theorem a_Mloads {i : Nat} (hi : i < 13) : aI (MK B n I L Q R) (B + 120) 0 (nI i) = some (I 120 i) := by exact mk_aI rfl hi (by decide)
theorem s_Mloads {i : Nat} {v : Int32} (hi : i < 13) : sI (MK B n I L Q R) (B + 120) (nI i) v = some (MK B n (u2 I 120 i v) L Q R) := by exact mk_sI rfl hi (by decide)
theorem g_MonWay : gR (MK B n I L Q R) (B + 108) 10 17 = some (B + 121) := by exact mk_gR rfl rfl rfl
theorem a_MonWay {i : Nat} (hi : i < 768) : aI (MK B n I L Q R) (B + 121) 0 (nI i) = some (I 121 i) := by exact mk_aI rfl hi (by decide)
theorem s_MonWay {i : Nat} {v : Int32} (hi : i < 768) : sI (MK B n I L Q R) (B + 121) (nI i) v = some (MK B n (u2 I 121 i v) L Q R) := by exact mk_sI rfl hi (by decide)
theorem g_MstepMany : gI (MK B n I L Q R) (B + 108) 10 18 = some (I 108 18) := by exact mk_gI rfl rfl rfl
theorem p_MstepMany {v : Int32} : pV (MK B n I L Q R) (B + 108) 10 18 (.int v) = some (MK B n (u2 I 108 18 v) L Q R) := by exact mk_pI rfl rfl (Nat.le_of_ble_eq_true rfl) rfl
theorem g_MisOver : gI (MK B n I L Q R) (B + 108) 10 19 = some (I 108 19) := by exact mk_gI rfl rfl rfl
theorem p_MisOver {v : Int32} : pV (MK B n I L Q R) (B + 108) 10 19 (.int v) = some (MK B n (u2 I 108 19 v) L Q R) := by exact mk_pI rfl rfl (Nat.le_of_ble_eq_true rfl) rfl
theorem g_Msum0 : gL (MK B n I L Q R) (B + 108) 10 20 = some (L 108 20) := by exact mk_gL rfl rfl rfl
theorem p_Msum0 {v : Int64} : pV (MK B n I L Q R) (B + 108) 10 20 (.long v) = some (MK B n I (u2 L 108 20 v) Q R) := by exact mk_pL rfl rfl (Nat.le_of_ble_eq_true rfl) rfl
theorem g_Mflow : gR (MK B n I L Q R) (B + 108) 10 21 = some (B + 122) := by exact mk_gR rfl rfl rfl
theorem a_Mflow {i : Nat} (hi : i < 13) : aI (MK B n I L Q R) (B + 122) 0 (nI i) = some (I 122 i) := by exact mk_aI rfl hi (by decide)
theorem s_Mflow {i : Nat} {v : Int32} (hi : i < 13) : sI (MK B n I L Q R) (B + 122) (nI i) v = some (MK B n (u2 I 122 i v) L Q R) := by exact mk_sI rfl hi (by decide)
theorem g_Mdue : gR (MK B n I L Q R) (B + 108) 10 22 = some (B + 123) := by exact mk_gR rfl rfl rfl
theorem a_Mdue {i : Nat} (hi : i < 6) : aI (MK B n I L Q R) (B + 123) 0 (nI i) = some (I 123 i) := by exact mk_aI rfl hi (by decide)
theorem s_Mdue {i : Nat} {v : Int32} (hi : i < 6) : sI (MK B n I L Q R) (B + 123) (nI i) v = some (MK B n (u2 I 123 i v) L Q R) := by exact mk_sI rfl hi (by decide)
theorem g_Mfar : gR (MK B n I L Q R) (B + 108) 10 23 = some (B + 124) := by exact mk_gR rfl rfl rfl
theorem a_Mfar {i : Nat} (hi : i < 6) : aL (MK B n I L Q R) (B + 124) (nI i) = some (L 124 i) := by exact mk_aL rfl hi (by decide)
theorem s_Mfar {i : Nat} {v : Int64} (hi : i < 6) : sL (MK B n I L Q R) (B + 124) (nI i) v = some (MK B n I (u2 L 124 i v) Q R) := by exact mk_sL rfl hi (by decide)
theorem g_Mby : gR (MK B n I L Q R) (B + 108) 10 24 = some (B + 125) := by exact mk_gR rfl rfl rfl
theorem a_Mby {i : Nat} (hi : i < 6) : aI (MK B n I L Q R) (B + 125) 0 (nI i) = some (I 125 i) := by exact mk_aI rfl hi (by decide)
theorem s_Mby {i : Nat} {v : Int32} (hi : i < 6) : sI (MK B n I L Q R) (B + 125) (nI i) v = some (MK B n (u2 I 125 i v) L Q R) := by exact mk_sI rfl hi (by decide)
theorem g_MlistMany : gR (MK B n I L Q R) (B + 108) 10 25 = some (B + 126) := by exact mk_gR rfl rfl rfl
theorem a_MlistMany {i : Nat} (hi : i < 4) : aI (MK B n I L Q R) (B + 126) 0 (nI i) = some (I 126 i) := by exact mk_aI rfl hi (by decide)
theorem s_MlistMany {i : Nat} {v : Int32} (hi : i < 4) : sI (MK B n I L Q R) (B + 126) (nI i) v = some (MK B n (u2 I 126 i v) L Q R) := by exact mk_sI rfl hi (by decide)
theorem g_Mlists : gR (MK B n I L Q R) (B + 108) 10 26 = some (B + 127) := by exact mk_gR rfl rfl rfl
theorem a_Mlists {i : Nat} (hi : i < 96) : aL (MK B n I L Q R) (B + 127) (nI i) = some (L 127 i) := by exact mk_aL rfl hi (by decide)
theorem s_Mlists {i : Nat} {v : Int64} (hi : i < 96) : sL (MK B n I L Q R) (B + 127) (nI i) v = some (MK B n I (u2 L 127 i v) Q R) := by exact mk_sL rfl hi (by decide)
theorem g_MtrayKind : gR (MK B n I L Q R) (B + 108) 10 27 = some (B + 128) := by exact mk_gR rfl rfl rfl
theorem a_MtrayKind {i : Nat} (hi : i < 3) : aI (MK B n I L Q R) (B + 128) 0 (nI i) = some (I 128 i) := by exact mk_aI rfl hi (by decide)
theorem s_MtrayKind {i : Nat} {v : Int32} (hi : i < 3) : sI (MK B n I L Q R) (B + 128) (nI i) v = some (MK B n (u2 I 128 i v) L Q R) := by exact mk_sI rfl hi (by decide)
theorem g_MtrayMany : gR (MK B n I L Q R) (B + 108) 10 28 = some (B + 129) := by exact mk_gR rfl rfl rfl
theorem a_MtrayMany {i : Nat} (hi : i < 3) : aI (MK B n I L Q R) (B + 129) 0 (nI i) = some (I 129 i) := by exact mk_aI rfl hi (by decide)
theorem s_MtrayMany {i : Nat} {v : Int32} (hi : i < 3) : sI (MK B n I L Q R) (B + 129) (nI i) v = some (MK B n (u2 I 129 i v) L Q R) := by exact mk_sI rfl hi (by decide)
theorem g_MisLaid : gR (MK B n I L Q R) (B + 108) 10 29 = some (B + 130) := by exact mk_gR rfl rfl rfl
theorem a_MisLaid {i : Nat} (hi : i < 60) : aI (MK B n I L Q R) (B + 130) 2 (nI i) = some (I 130 i) := by exact mk_aI rfl hi (by decide)
theorem s_MisLaid {i : Nat} {v : Int32} (hi : i < 60) (hv : v = 0 ∨ v = 1) : sZ (MK B n I L Q R) (B + 130) (nI i) v = some (MK B n (u2 I 130 i v) L Q R) := by exact mk_sZ rfl hv hi (by decide)
theorem g_Mtrays : gR (MK B n I L Q R) (B + 108) 10 30 = some (B + 131) := by exact mk_gR rfl rfl rfl
theorem a_Mtrays {i : Nat} (hi : i < 300) : aL (MK B n I L Q R) (B + 131) (nI i) = some (L 131 i) := by exact mk_aL rfl hi (by decide)
theorem s_Mtrays {i : Nat} {v : Int64} (hi : i < 300) : sL (MK B n I L Q R) (B + 131) (nI i) v = some (MK B n I (u2 L 131 i v) Q R) := by exact mk_sL rfl hi (by decide)
end MK_
