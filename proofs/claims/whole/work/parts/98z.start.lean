/-! the first heap -/
theorem mk_ap {B : Nat} {l : List ae} {I : Nat → Nat → Int32} {L : Nat → Nat → Int64} {Q : Nat → Nat → Option Nat} {R : Nat → RDt} (hl : l.length = 132) (h : ∀ k, k < 132 → l[k]? = ((celf B)[k]?).map fun c => c (I k) (L k) (Q k)) : ap (B, fun _ => none) l = MK B (B + 132) I L Q R := by
  refine Prod.ext (by show B + l.length = B + 132; rw [hl]) (funext fun q => ?_)
  show (if B ≤ q ∧ q < B + l.length then l[q - B]? else none) = (if q < B then none else match (celf B)[q - B]? with | some c => some (c (I (q - B)) (L (q - B)) (Q (q - B))) | none => if q < B + 132 then some (rcell (R q)) else none)
  rw [hl]
  by_cases c : B ≤ q ∧ q < B + 132
  · rw [if_pos c, if_neg (by omega), h (q - B) (by omega)]
    have : q - B < (celf B).length := by rw [celf_len]; omega
    rw [List.getElem?_eq_getElem this]
    rfl
  · rw [if_neg c]
    by_cases d : q < B
    · rw [if_pos d]
    · have : (celf B)[q - B]? = none := List.getElem?_eq_none (by rw [celf_len]; omega)
      rw [if_neg d, this]
      exact (if_neg (by omega)).symm
theorem rdF_at (a : Nat) : ∀ (m i : Nat) (f : Nat → Option Nat) (j : Nat), rdF a f i m j = if i ≤ j ∧ j < i + m then some a else f j
  | 0, i, f, j => by rw [if_neg (by omega)]; rfl
  | m + 1, i, f, j => by
    rw [rdF, rdF_at a m (i + 1)]
    show _ = _
    by_cases c : i + 1 ≤ j ∧ j < i + 1 + m
    · rw [if_pos c, if_pos (by omega)]
    · rw [if_neg c]
      show (if j = i then some a else f j) = _
      by_cases e : j = i
      · rw [if_pos e, if_pos (by omega)]
      · rw [if_neg e, if_neg (by omega)]
theorem stQ_eq (B : Nat) : stQ B = fun i => if i < 3 then some (B + (64 + 10 * i)) else none := by
  funext i
  show (if i = 2 then some (B + 84) else if i = 1 then some (B + 74) else if i = 0 then some (B + 64) else none) = _
  by_cases c : i < 3
  · rw [if_pos c]
    obtain e | e | e : i = 0 ∨ i = 1 ∨ i = 2 := by omega
    all_goals subst e; rfl
  · rw [if_neg c, if_neg (by omega), if_neg (by omega), if_neg (by omega)]
theorem trQ_eq (B : Nat) : trQ B = fun i => if i < 3 then some (B + (94 + 2 * i)) else none := by
  funext i
  show (if i = 2 then some (B + 98) else if i = 1 then some (B + 96) else if i = 0 then some (B + 94) else none) = _
  by_cases c : i < 3
  · rw [if_pos c]
    obtain e | e | e : i = 0 ∨ i = 1 ∨ i = 2 := by omega
    all_goals subst e; rfl
  · rw [if_neg c, if_neg (by omega), if_neg (by omega), if_neg (by omega)]
theorem liQ_eq (B : Nat) : liQ B = fun i => if i < 4 then some (B + (100 + 2 * i)) else none := by
  funext i
  show (if i = 3 then some (B + 106) else if i = 2 then some (B + 104) else if i = 1 then some (B + 102) else if i = 0 then some (B + 100) else none) = _
  by_cases c : i < 4
  · rw [if_pos c]
    obtain e | e | e | e : i = 0 ∨ i = 1 ∨ i = 2 ∨ i = 3 := by omega
    all_goals subst e; rfl
  · rw [if_neg c, if_neg (by omega), if_neg (by omega), if_neg (by omega), if_neg (by omega)]
def netF0 : Nat → Int32 := fun j => if j = 0 then 2 else 0
def m1F : Nat → Int32 := fun j => if j = 0 then -1 else 0
def m3F : Nat → Int32 := upd (upd (upd (fun _ => 0) 0 (-1)) 1 (-1)) 2 (-1)
def m4F : Nat → Int32 := upd m3F 3 (-1)
def cntF : Nat → Int32 := fun j => if j = 0 then 1 else 0
def I0 : Nat → Nat → Int32 := fun k => if k = 1 ∨ k = 9 ∨ k = 33 then netF0 else if k = 5 ∨ k = 6 ∨ k = 7 ∨ k = 13 ∨ k = 14 ∨ k = 15 ∨ k = 37 ∨ k = 38 ∨ k = 39 then crF else if k = 17 ∨ k = 41 then cntF else if k = 23 ∨ k = 47 then oneF else if k = 94 ∨ k = 96 ∨ k = 98 ∨ k = 100 ∨ k = 102 ∨ k = 104 ∨ k = 106 then m1F else if k = 126 then m4F else if k = 128 then m3F else fun _ => 0
def L0x : Nat → Nat → Int64 := fun k => if k = 109 then nowF else fun _ => 0
def Q0x (B : Nat) : Nat → Nat → Option Nat := fun k => if k = 2 then rdF (B + 1 + 7) (fun _ => none) 0 13 else if k = 10 then rdF (B + 9 + 7) (fun _ => none) 0 13 else if k = 34 then rdF (B + 33 + 7) (fun _ => none) 0 13 else fun _ => none
set_option maxHeartbeats 4000000 in
theorem cell9_0 (B : Nat) : ∀ k, 0 ≤ k → k < 18 → (c9 B)[k]? = ((celf B)[k]?).map fun c => c (I0 k) (L0x k) (Q0x B k) := by
  intro k h1 h2
  obtain e | e | e | e | e | e | e | e | e | e | e | e | e | e | e | e | e | e : k = 0 ∨ k = 1 ∨ k = 2 ∨ k = 3 ∨ k = 4 ∨ k = 5 ∨ k = 6 ∨ k = 7 ∨ k = 8 ∨ k = 9 ∨ k = 10 ∨ k = 11 ∨ k = 12 ∨ k = 13 ∨ k = 14 ∨ k = 15 ∨ k = 16 ∨ k = 17 := by omega
  · subst e; rfl
  · subst e; rfl
  · subst e; rfl
  · subst e; rfl
  · subst e; rfl
  · subst e; rfl
  · subst e; rfl
  · subst e; rfl
  · subst e; rfl
  · subst e; rfl
  · subst e; rfl
  · subst e; rfl
  · subst e; rfl
  · subst e; rfl
  · subst e; rfl
  · subst e; rfl
  · subst e; rfl
  · subst e; rfl
set_option maxHeartbeats 4000000 in
theorem cell9_18 (B : Nat) : ∀ k, 18 ≤ k → k < 36 → (c9 B)[k]? = ((celf B)[k]?).map fun c => c (I0 k) (L0x k) (Q0x B k) := by
  intro k h1 h2
  obtain e | e | e | e | e | e | e | e | e | e | e | e | e | e | e | e | e | e : k = 18 ∨ k = 19 ∨ k = 20 ∨ k = 21 ∨ k = 22 ∨ k = 23 ∨ k = 24 ∨ k = 25 ∨ k = 26 ∨ k = 27 ∨ k = 28 ∨ k = 29 ∨ k = 30 ∨ k = 31 ∨ k = 32 ∨ k = 33 ∨ k = 34 ∨ k = 35 := by omega
  · subst e; rfl
  · subst e; rfl
  · subst e; rfl
  · subst e; rfl
  · subst e; rfl
  · subst e; rfl
  · subst e
    show some (A5 (stQ B)) = _
    rw [stQ_eq]
    rfl
  · subst e; rfl
  · subst e; rfl
  · subst e; rfl
  · subst e; rfl
  · subst e; rfl
  · subst e; rfl
  · subst e; rfl
  · subst e; rfl
  · subst e; rfl
  · subst e; rfl
  · subst e; rfl
set_option maxHeartbeats 4000000 in
theorem cell9_36 (B : Nat) : ∀ k, 36 ≤ k → k < 54 → (c9 B)[k]? = ((celf B)[k]?).map fun c => c (I0 k) (L0x k) (Q0x B k) := by
  intro k h1 h2
  obtain e | e | e | e | e | e | e | e | e | e | e | e | e | e | e | e | e | e : k = 36 ∨ k = 37 ∨ k = 38 ∨ k = 39 ∨ k = 40 ∨ k = 41 ∨ k = 42 ∨ k = 43 ∨ k = 44 ∨ k = 45 ∨ k = 46 ∨ k = 47 ∨ k = 48 ∨ k = 49 ∨ k = 50 ∨ k = 51 ∨ k = 52 ∨ k = 53 := by omega
  · subst e; rfl
  · subst e; rfl
  · subst e; rfl
  · subst e; rfl
  · subst e; rfl
  · subst e; rfl
  · subst e; rfl
  · subst e; rfl
  · subst e; rfl
  · subst e; rfl
  · subst e; rfl
  · subst e; rfl
  · subst e; rfl
  · subst e; rfl
  · subst e; rfl
  · subst e; rfl
  · subst e; rfl
  · subst e; rfl
set_option maxHeartbeats 4000000 in
theorem cell9_54 (B : Nat) : ∀ k, 54 ≤ k → k < 72 → (c9 B)[k]? = ((celf B)[k]?).map fun c => c (I0 k) (L0x k) (Q0x B k) := by
  intro k h1 h2
  obtain e | e | e | e | e | e | e | e | e | e | e | e | e | e | e | e | e | e : k = 54 ∨ k = 55 ∨ k = 56 ∨ k = 57 ∨ k = 58 ∨ k = 59 ∨ k = 60 ∨ k = 61 ∨ k = 62 ∨ k = 63 ∨ k = 64 ∨ k = 65 ∨ k = 66 ∨ k = 67 ∨ k = 68 ∨ k = 69 ∨ k = 70 ∨ k = 71 := by omega
  · subst e; rfl
  · subst e; rfl
  · subst e; rfl
  · subst e; rfl
  · subst e; rfl
  · subst e; rfl
  · subst e
    show some (A6 (trQ B)) = _
    rw [trQ_eq]
    rfl
  · subst e
    show some (A7 (liQ B)) = _
    rw [liQ_eq]
    rfl
  · subst e; rfl
  · subst e; rfl
  · subst e; rfl
  · subst e; rfl
  · subst e; rfl
  · subst e; rfl
  · subst e; rfl
  · subst e; rfl
  · subst e; rfl
  · subst e; rfl
set_option maxHeartbeats 4000000 in
theorem cell9_72 (B : Nat) : ∀ k, 72 ≤ k → k < 90 → (c9 B)[k]? = ((celf B)[k]?).map fun c => c (I0 k) (L0x k) (Q0x B k) := by
  intro k h1 h2
  obtain e | e | e | e | e | e | e | e | e | e | e | e | e | e | e | e | e | e : k = 72 ∨ k = 73 ∨ k = 74 ∨ k = 75 ∨ k = 76 ∨ k = 77 ∨ k = 78 ∨ k = 79 ∨ k = 80 ∨ k = 81 ∨ k = 82 ∨ k = 83 ∨ k = 84 ∨ k = 85 ∨ k = 86 ∨ k = 87 ∨ k = 88 ∨ k = 89 := by omega
  · subst e; rfl
  · subst e; rfl
  · subst e; rfl
  · subst e; rfl
  · subst e; rfl
  · subst e; rfl
  · subst e; rfl
  · subst e; rfl
  · subst e; rfl
  · subst e; rfl
  · subst e; rfl
  · subst e; rfl
  · subst e; rfl
  · subst e; rfl
  · subst e; rfl
  · subst e; rfl
  · subst e; rfl
  · subst e; rfl
set_option maxHeartbeats 4000000 in
theorem cell9_90 (B : Nat) : ∀ k, 90 ≤ k → k < 108 → (c9 B)[k]? = ((celf B)[k]?).map fun c => c (I0 k) (L0x k) (Q0x B k) := by
  intro k h1 h2
  obtain e | e | e | e | e | e | e | e | e | e | e | e | e | e | e | e | e | e : k = 90 ∨ k = 91 ∨ k = 92 ∨ k = 93 ∨ k = 94 ∨ k = 95 ∨ k = 96 ∨ k = 97 ∨ k = 98 ∨ k = 99 ∨ k = 100 ∨ k = 101 ∨ k = 102 ∨ k = 103 ∨ k = 104 ∨ k = 105 ∨ k = 106 ∨ k = 107 := by omega
  · subst e; rfl
  · subst e; rfl
  · subst e; rfl
  · subst e; rfl
  · subst e; rfl
  · subst e; rfl
  · subst e; rfl
  · subst e; rfl
  · subst e; rfl
  · subst e; rfl
  · subst e; rfl
  · subst e; rfl
  · subst e; rfl
  · subst e; rfl
  · subst e; rfl
  · subst e; rfl
  · subst e; rfl
  · subst e; rfl
set_option maxHeartbeats 4000000 in
theorem cell10 (B : Nat) : ∀ k, k < 24 → (c10 (B + 108))[k]? = ((celf B)[108 + k]?).map fun c => c (I0 (108 + k)) (L0x (108 + k)) (Q0x B (108 + k)) := by
  intro k h2
  obtain e | e | e | e | e | e | e | e | e | e | e | e | e | e | e | e | e | e | e | e | e | e | e | e : k = 0 ∨ k = 1 ∨ k = 2 ∨ k = 3 ∨ k = 4 ∨ k = 5 ∨ k = 6 ∨ k = 7 ∨ k = 8 ∨ k = 9 ∨ k = 10 ∨ k = 11 ∨ k = 12 ∨ k = 13 ∨ k = 14 ∨ k = 15 ∨ k = 16 ∨ k = 17 ∨ k = 18 ∨ k = 19 ∨ k = 20 ∨ k = 21 ∨ k = 22 ∨ k = 23 := by omega
  · subst e; rfl
  · subst e; rfl
  · subst e; rfl
  · subst e; rfl
  · subst e; rfl
  · subst e; rfl
  · subst e; rfl
  · subst e; rfl
  · subst e; rfl
  · subst e; rfl
  · subst e; rfl
  · subst e; rfl
  · subst e; rfl
  · subst e; rfl
  · subst e; rfl
  · subst e; rfl
  · subst e; rfl
  · subst e; rfl
  · subst e; rfl
  · subst e; rfl
  · subst e; rfl
  · subst e; rfl
  · subst e; rfl
  · subst e; rfl
theorem c9_len (B : Nat) : (c9 B).length = 108 := by
  unfold c9
  rw [Sx_len (by rfl) (by rfl)]
  rfl
theorem c10_len (B : Nat) : (c10 B).length = 24 := by rfl
theorem start_mk (B : Nat) : ap (B, fun _ => none) (c9 B ++ c10 (B + 108)) = MK B (B + 132) I0 L0x (Q0x B) (fun _ => fillr) := by
  refine mk_ap (by rw [List.length_append, c9_len, c10_len]) (fun k hk => ?_)
  by_cases c : k < 108
  · rw [List.getElem?_append_left (by rw [c9_len]; exact c)]
    by_cases c1 : k < 18
    · exact cell9_0 B k (by omega) c1
    by_cases c2 : k < 36
    · exact cell9_18 B k (by omega) c2
    by_cases c3 : k < 54
    · exact cell9_36 B k (by omega) c3
    by_cases c4 : k < 72
    · exact cell9_54 B k (by omega) c4
    by_cases c5 : k < 90
    · exact cell9_72 B k (by omega) c5
    exact cell9_90 B k (by omega) c
  · rw [List.getElem?_append_right (by rw [c9_len]; omega), c9_len]
    have := cell10 B (k - 108) (by omega)
    rw [show 108 + (k - 108) = k by omega] at this
    exact this
def net0 : NET := (2, 0, fun _ => (0, 0, 0, 0, 0, 0, 0), fun _ => 0, fun _ j => if j = 1 then 0 else 1)
def st0 : STT := (net0, none, (0, fun _ => 0), fun _ => none, fun _ => none)
theorem net0_ok : NetOK net0 := ⟨by decide, by decide, by decide, fun r hr => absurd hr (Nat.not_lt_zero r), fun c _ => ⟨by show 1 ≤ 1; decide, by show 1 ≤ 5; decide, by show 0 ≤ 12; decide, by show 1 ≤ 1; decide, by show 1 ≤ 9; decide, by show 1 ≤ 9; decide⟩⟩
theorem cr_at {c j : Nat} (hj : j < 4) : crF j = nI (nC net0 c j) := by
  show crF j = nI (if j = 1 then 0 else 1)
  obtain e | e | e | e : j = 0 ∨ j = 1 ∨ j = 2 ∨ j = 3 := by omega
  all_goals subst e; rfl
theorem start_C (B : Nat) : IsC B (B + 132) I0 L0x (Q0x B) (fun _ => fillr) st0 := by
  refine ⟨false, fun _ => false, false, ⟨Nat.le_refl _, ⟨rfl, rfl, fun r hr => ?_, fun r hr => absurd hr (Nat.not_lt_zero r), fun r hr => absurd hr (Nat.not_lt_zero r), fun c j hc hj => ?_⟩, net0_ok, by decide, ⟨rfl, fun M h => by cases h⟩, ⟨rfl, by decide, fun j hj => absurd hj (Nat.not_lt_zero j)⟩, fun t ht => ?_, fun l hl => ?_⟩, ⟨rfl, fun _ _ => rfl, rfl, fun h => absurd h (by decide), fun _ _ h => absurd h (show ¬ false = true by decide), fun h => absurd h (by decide)⟩, ?_, ?_, fun x hx => ?_⟩
  · have e : Q0x B (1 + 1) r = some (B + 8) := by
      show rdF (B + 1 + 7) (fun _ => none) 0 13 r = _
      rw [rdF_at, if_pos (by omega)]
    have ea : adr (Q0x B) 1 r = B + 8 := by unfold adr; rw [e]; rfl
    rw [ea]
    exact ⟨e, Or.inl rfl⟩
  · obtain e | e | e : c = 0 ∨ c = 1 ∨ c = 2 := by omega
    all_goals subst e; exact cr_at hj
  · obtain e | e | e : t = 0 ∨ t = 1 ∨ t = 2 := by omega
    all_goals subst e; exact (rfl : m1F 0 = -1)
  · obtain e | e | e | e : l = 0 ∨ l = 1 ∨ l = 2 ∨ l = 3 := by omega
    all_goals subst e; exact (rfl : m1F 0 = -1)
  · exact ⟨rfl, rfl, rfl, rfl, rfl, rfl⟩
  · exact ⟨rfl, rfl, rfl, rfl, rfl, rfl⟩
  · unfold isS at hx
    obtain e | e | e | e := hx
    all_goals subst e; rfl
theorem start_M : IsM I0 L0x st0 := by
  refine ⟨⟨rfl, rfl, fun r j hr _ => absurd hr (Nat.not_lt_zero r), fun c j hc hj => ?_⟩, ⟨rfl, fun M h => by cases h⟩, ⟨rfl, fun j hj => absurd hj (Nat.not_lt_zero j)⟩, fun l hl => ?_, fun t ht => ?_⟩
  · show nowF (106 + 4 * c + j) = lN (if j = 1 then 0 else 1)
    obtain e | e | e : c = 0 ∨ c = 1 ∨ c = 2 := by omega
    all_goals
      subst e
      obtain e | e | e | e : j = 0 ∨ j = 1 ∨ j = 2 ∨ j = 3 := by omega
      all_goals subst e; rfl
  · obtain e | e | e | e : l = 0 ∨ l = 1 ∨ l = 2 ∨ l = 3 := by omega
    all_goals subst e; rfl
  · obtain e | e | e : t = 0 ∨ t = 1 ∨ t = 2 := by omega
    all_goals subst e; rfl
theorem law_true {L : Nat} {xs : Nat → Int32} (hL : L ≤ 5632) (B : Nat) : fL_law L xs (B, fun _ => none) = some 1 := by
  unfold fL_law
  have e1 := i_X9 (g := (B, fun _ => none)) (a := B) rfl
  have e2 := i_X10 (g := ap (B, fun _ => none) (c9 B)) (a := B + 108) (by rw [ap_fst, c9_len])
  have e3 : (ap (B, fun _ => none) (c9 B)).1 = B + 108 := by rw [ap_fst, c9_len]
  rw [bnd_eq, bnd_eq]
  show ob1 (fX9_init B (hnew (B, fun _ => none) _)) _ = some 1
  rw [e1, ob1_some, bnd_eq, bnd_eq, e3, e2, ob1_some, ap_ap, start_mk]
  exact law_loop hL 600 lf 0 (by omega) (by decide) (by decide) (by decide) _ _ _ _ _ _ (start_C B) start_M
