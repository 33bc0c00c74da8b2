theorem hup_hup (h : AH) (a : Nat) (e e' : ae) : hup (hup h a e) a e' = hup h a e' := by
  refine Prod.ext rfl (funext fun q => ?_)
  show (if q = a then some e' else (if q = a then some e else h.2 q)) = if q = a then some e' else h.2 q
  by_cases c : q = a
  · rw [if_pos c, if_pos c]
  · rw [if_neg c, if_neg c, if_neg c]
theorem hup_new (h : AH) (e e' : ae) : hup (hnew h e) h.1 e' = hnew h e' := by
  refine Prod.ext rfl (funext fun q => ?_)
  show (if q = h.1 then some e' else (if q = h.1 then some e else h.2 q)) = if q = h.1 then some e' else h.2 q
  by_cases c : q = h.1
  · rw [if_pos c, if_pos c]
  · rw [if_neg c, if_neg c, if_neg c]
theorem pV_new {h : AH} {ci k : Nat} {fs : List Value} {v : Value} (hk : k < fs.length) : pV (hnew h (.inr (ci, fs))) h.1 ci k v = some (hnew h (.inr (ci, fs.set k v))) := by
  have h0 : (hnew h (.inr (ci, fs))).2 h.1 = some (.inr (ci, fs)) := if_pos rfl
  unfold pV
  rw [h0]
  show (if ci = ci ∧ k < fs.length then some (hup (hnew h (.inr (ci, fs))) h.1 (.inr (ci, fs.set k v))) else none) = _
  rw [if_pos ⟨rfl, hk⟩, hup_new]
def updR (R : Nat → RDt) (n : Nat) (d : RDt) : Nat → RDt := fun q => if q = n then d else R q
theorem mk_new {B n : Nat} {I : Nat → Nat → Int32} {L : Nat → Nat → Int64} {Q : Nat → Nat → Option Nat} {R : Nat → RDt} {d : RDt} (hn : B + 132 ≤ n) : hnew (MK B n I L Q R) (rcell d) = MK B (n + 1) I L Q (updR R n d) := by
  refine Prod.ext rfl (funext fun q => ?_)
  show (if q = n then some (rcell d) else if q < B then none else match (celf B)[q - B]? with | some c => some (c (I (q - B)) (L (q - B)) (Q (q - B))) | none => if q < n then some (rcell (R q)) else none) = (if q < B then none else match (celf B)[q - B]? with | some c => some (c (I (q - B)) (L (q - B)) (Q (q - B))) | none => if q < n + 1 then some (rcell (updR R n d q)) else none)
  by_cases c : q = n
  · have h2 : (celf B)[q - B]? = none := List.getElem?_eq_none (by rw [celf_len]; omega)
    rw [if_pos c, if_neg (by omega), h2]
    show _ = if q < n + 1 then some (rcell (if q = n then d else R q)) else none
    rw [if_pos (by omega), if_pos c]
  · rw [if_neg c]
    have e : (if q < n then some (rcell (R q)) else none) = (if q < n + 1 then some (rcell (updR R n d q)) else none) := by
      show _ = if q < n + 1 then some (rcell (if q = n then d else R q)) else none
      rw [if_neg c]
      by_cases g : q < n
      · rw [if_pos g, if_pos (by omega)]
      · rw [if_neg g, if_neg (by omega)]
    rw [e]
theorem e_newRoad {B n : Nat} {I : Nat → Nat → Int32} {L : Nat → Nat → Int64} {Q : Nat → Nat → Option Nat} {R : Nat → RDt} {x1 x2 x3 x10 : Int32} {x4 x6 x8 : Int64} (hn : B + 132 ≤ n) : fX3_init n x1 x2 x3 x4 x6 x8 x10 (hnew (MK B n I L Q R) (.inr (3, [.int 0, .int 0, .int 0, .long 0, .long 0, .long 0, .int 0]))) = some (MK B (n + 1) I L Q (updR R n (x1, x2, x3, x4, x6, x8, x10))) := by
  have e : ∀ {fs : List Value} {k : Nat} {v : Value}, k < fs.length → pV (hnew (MK B n I L Q R) (.inr (3, fs))) n 3 k v = some (hnew (MK B n I L Q R) (.inr (3, fs.set k v))) := fun h => pV_new (h := (MK B n I L Q R)) h
  unfold fX3_init
  rw [e (by decide), ob1_some]
  simp only [List.set_cons_zero, List.set_cons_succ]
  rw [e (by simp), ob1_some]
  simp only [List.set_cons_zero, List.set_cons_succ]
  rw [e (by simp), ob1_some]
  simp only [List.set_cons_zero, List.set_cons_succ]
  rw [e (by simp), ob1_some]
  simp only [List.set_cons_zero, List.set_cons_succ]
  rw [e (by simp), ob1_some]
  simp only [List.set_cons_zero, List.set_cons_succ]
  rw [e (by simp), ob1_some]
  simp only [List.set_cons_zero, List.set_cons_succ]
  rw [e (by simp), ob1_some]
  simp only [List.set_cons_zero, List.set_cons_succ]
  rw [← mk_new hn]
  rfl
theorem VA.grow {B n a : Nat} (h : VA B n a) : VA B (n + 1) a := by unfold VA at h ⊢; omega
theorem rda_grow {B n a : Nat} {R : Nat → RDt} {d : RDt} (h : VA B n a) : rda B (updR R n d) a = rda B R a := by
  unfold rda
  by_cases c : a < B + 132
  · rw [if_pos c, if_pos c]
  · rw [if_neg c, if_neg c]
    have : a ≠ n := by unfold VA at h; omega
    exact if_neg this
theorem rda_new {B n : Nat} {R : Nat → RDt} {d : RDt} (hn : B + 132 ≤ n) : rda B (updR R n d) n = d ∧ VA B (n + 1) n := by
  unfold rda VA
  rw [if_neg (by omega)]
  exact ⟨if_pos rfl, by omega⟩
theorem NetIs.grow {B n : Nat} {I : Nat → Nat → Int32} {L : Nat → Nat → Int64} {Q : Nat → Nat → Option Nat} {R : Nat → RDt} {x : Nat} {N : NET} {d : RDt} (h : NetIs B n I L Q R x N) (hm : nM N ≤ 13) : NetIs B (n + 1) I L Q (updR R n d) x N := by
  obtain ⟨h1, h2, h3, h4, h5, h6⟩ := h
  exact ⟨h1, h2, fun r hr => ⟨(h3 r hr).1, (h3 r hr).2.grow⟩, fun r hr => by rw [rda_grow (h3 r (by omega)).2]; exact h4 r hr, h5, h6⟩
/-! the state of the class, as told -/
abbrev TAPE : Type := Nat × (Nat → Nat)
abbrev TRAY : Type := Option (Nat × Nat × (Nat → Option RD))
abbrev LST : Type := Option (Nat × (Nat → Int64))
/-- the net, the image, the tape, trays, lists -/
abbrev STT : Type := NET × Option NET × TAPE × (Nat → TRAY) × (Nat → LST)
def stN (s : STT) : NET := s.1
def stK (s : STT) : Option NET := s.2.1
def stT (s : STT) : TAPE := s.2.2.1
def stY (s : STT) : Nat → TRAY := s.2.2.2.1
def stL (s : STT) : Nat → LST := s.2.2.2.2
def PlIs (B n : Nat) (Q : Nat → Nat → Option Nat) (R : Nat → RDt) (k j : Nat) (o : Option RD) : Prop := match o with
  | none => Q k j = none
  | some d => (∃ a, Q k j = some a ∧ VA B n a ∧ rda B R a = rdI d) ∧ RDok d
def TrayIs (B n : Nat) (I : Nat → Nat → Int32) (Q : Nat → Nat → Option Nat) (R : Nat → RDt) (x : Nat) (tr : TRAY) : Prop := match tr with
  | none => I x 0 = -1
  | some v => I x 0 = nI v.2.1 ∧ v.2.1 ≤ 20 ∧ I x 1 = nI v.1 ∧ v.1 ≤ 2 ∧ ∀ j, j < 20 → PlIs B n Q R (x + 1) j (v.2.2 j)
def ListIs (I : Nat → Nat → Int32) (L : Nat → Nat → Int64) (x : Nat) (ls : LST) : Prop := match ls with
  | none => I x 0 = -1
  | some v => I x 0 = nI v.1 ∧ v.1 ≤ 24 ∧ ∀ j, j < 24 → L (x + 1) j = v.2 j
def TapeIs (I : Nat → Nat → Int32) (t : TAPE) : Prop := I 58 0 = nI t.1 ∧ t.1 ≤ 100 ∧ ∀ j, j < t.1 → I 59 j = nI (t.2 j) ∧ 1 ≤ t.2 j ∧ t.2 j ≤ 127
def KeptIs (B n : Nat) (I : Nat → Nat → Int32) (L : Nat → Nat → Int64) (Q : Nat → Nat → Option Nat) (R : Nat → RDt) (K : Option NET) : Prop := I 0 2 = bz K.isSome ∧ ∀ M, K = some M → NetIs B n I L Q R 9 M ∧ NetOK M ∧ nM M ≤ 12
def Core (B n : Nat) (I : Nat → Nat → Int32) (L : Nat → Nat → Int64) (Q : Nat → Nat → Option Nat) (R : Nat → RDt) (s : STT) : Prop :=
  B + 132 ≤ n ∧ NetIs B n I L Q R 1 (stN s) ∧ NetOK (stN s) ∧ nM (stN s) ≤ 12 ∧ KeptIs B n I L Q R (stK s) ∧ TapeIs I (stT s) ∧ (∀ t, t < 3 → TrayIs B n I Q R (94 + 2 * t) (stY s t)) ∧ ∀ l, l < 4 → ListIs I L (100 + 2 * l) (stL s l)
def rowsN (N : NET) : List ROW := rowsOf N (fun _ => true)
def Caches (I : Nat → Nat → Int32) (L : Nat → Nat → Int64) (N : NET) (fp : Bool) (fs : Nat → Bool) (fc : Bool) : Prop :=
  I 0 4 = bz fp ∧ (∀ m, m < 3 → I 25 m = bz (fs m)) ∧ I 0 8 = bz fc ∧ (fp = true → PathsIs I 17 (rowsN N)) ∧ (∀ m, m < 3 → fs m = true → fp = true ∧ SteadyIs I L (64 + 10 * m) N m (rowsN N)) ∧ (fc = true → SumIs I L 27 (totN N (flAll N 3) (nM N)))
def Fixed (I : Nat → Nat → Int32) (L : Nat → Nat → Int64) : Prop := Row0 I 17 ∧ Row0 I 41 ∧ ∀ x, isS x → L (x + 9) 0 = lN 0
def RepC (B n : Nat) (I : Nat → Nat → Int32) (L : Nat → Nat → Int64) (Q : Nat → Nat → Option Nat) (R : Nat → RDt) (s : STT) (fp : Bool) (fs : Nat → Bool) (fc : Bool) : Prop := Core B n I L Q R s ∧ Caches I L (stN s) fp fs fc ∧ Fixed I L
theorem TrayIs.same {B n : Nat} {I I' : Nat → Nat → Int32} {Q Q' : Nat → Nat → Option Nat} {R : Nat → RDt} {x : Nat} {tr : TRAY} (h : TrayIs B n I Q R x tr) (hI : I' x = I x) (hQ : Q' (x + 1) = Q (x + 1)) : TrayIs B n I' Q' R x tr := by
  cases tr with
  | none => show I' x 0 = -1; rw [hI]; exact h
  | some v =>
    obtain ⟨h1, h2, h3, h4, h5⟩ := h
    refine ⟨by rw [hI]; exact h1, h2, by rw [hI]; exact h3, h4, fun j hj => ?_⟩
    have := h5 j hj
    unfold PlIs at this ⊢
    rw [hQ]
    exact this
theorem ListIs.same {I I' : Nat → Nat → Int32} {L L' : Nat → Nat → Int64} {x : Nat} {ls : LST} (h : ListIs I L x ls) (hI : I' x = I x) (hL : L' (x + 1) = L (x + 1)) : ListIs I' L' x ls := by
  cases ls with
  | none => show I' x 0 = -1; rw [hI]; exact h
  | some v =>
    obtain ⟨h1, h2, h3⟩ := h
    exact ⟨by rw [hI]; exact h1, h2, fun j hj => by rw [hL]; exact h3 j hj⟩
theorem TapeIs.same {I I' : Nat → Nat → Int32} {t : TAPE} (h : TapeIs I t) (h1 : I' 58 0 = I 58 0) (h2 : I' 59 = I 59) : TapeIs I' t := by
  obtain ⟨a, b, c⟩ := h
  exact ⟨by rw [h1]; exact a, b, fun j hj => by rw [h2]; exact c j hj⟩
theorem KeptIs.same {B n : Nat} {I : Nat → Nat → Int32} {L : Nat → Nat → Int64} {Q : Nat → Nat → Option Nat} {R : Nat → RDt} {I' : Nat → Nat → Int32} {L' : Nat → Nat → Int64} {K : Option NET} (h : KeptIs B n I L Q R K) (h1 : I' 0 2 = I 0 2) (hI : ∀ a, 9 ≤ a → a < 16 → I' a = I a) (hL : L' 11 = L 11) : KeptIs B n I' L' Q R K :=
  ⟨by rw [h1]; exact h.1, fun M hM => ⟨(h.2 M hM).1.same (fun k a b => hI k a b) hL, (h.2 M hM).2⟩⟩
theorem Core.same {B n : Nat} {I : Nat → Nat → Int32} {L : Nat → Nat → Int64} {Q : Nat → Nat → Option Nat} {R : Nat → RDt} {I' : Nat → Nat → Int32} {L' : Nat → Nat → Int64} {s : STT} (h : Core B n I L Q R s) (h02 : I' 0 2 = I 0 2) (hI : ∀ a, (1 ≤ a ∧ a < 17) ∨ (58 ≤ a ∧ a < 60) ∨ (94 ≤ a ∧ a < 108) → I' a = I a) (hL : ∀ a, (1 ≤ a ∧ a < 17) ∨ (94 ≤ a ∧ a < 108) → L' a = L a) : Core B n I' L' Q R s := by
  obtain ⟨h0, h1, h2, h3, h4, h5, h6, h7⟩ := h
  exact ⟨h0, h1.same (fun k a b => hI k (by omega)) (hL 3 (by omega)), h2, h3, h4.same h02 (fun a g1 g2 => hI a (by omega)) (hL 11 (by omega)), h5.same (by rw [hI 58 (by omega)]) (hI 59 (by omega)), fun t ht => (h6 t ht).same (hI _ (by omega)) rfl, fun l hl => (h7 l hl).same (hI _ (by omega)) (hL _ (by omega))⟩
theorem isN1 : isN 1 := Or.inl rfl
theorem isN9 : isN 9 := Or.inr (Or.inl rfl)
theorem isN33 : isN 33 := Or.inr (Or.inr rfl)
theorem isP17 : isP 17 := Or.inl rfl
theorem isP41 : isP 41 := Or.inr rfl
theorem isS48 : isS 48 := Or.inl rfl
theorem isSm {m : Nat} (h : m < 3) : isS (64 + 10 * m) := by unfold isS; omega
theorem isTm {t : Nat} (h : t < 3) : isT (94 + 2 * t) := by unfold isT; omega
theorem isRl {l : Nat} (h : l < 4) : isR (100 + 2 * l) := by unfold isR; omega
theorem isU63 : isU 63 := Or.inr (Or.inr (Or.inl rfl))
theorem bfs_head {N : NET} {A : Nat → Bool} : ∀ (f i : Nat) (rows : List ROW), rows[0]? = some row0 → (bfs N A f i rows)[0]? = some row0
  | 0, _, _, h => h
  | f + 1, i, rows, h => by
    rw [bfs]
    cases e : rows[i]? with
    | none => exact h
    | some r => exact bfs_head f (i + 1) _ (by
        rw [List.getElem?_append_left (List.getElem?_eq_some_iff.mp h).1]
        exact h)
theorem rows_head (N : NET) (A : Nat → Bool) : (rowsOf N A)[0]? = some row0 := bfs_head 211 0 [row0] rfl
theorem PathsIs.fix0 {I : Nat → Nat → Int32} {x : Nat} {N : NET} {A : Nat → Bool} (h : PathsIs I x (rowsOf N A)) : Row0 I x := by
  obtain ⟨h1, h2, h3, h4, h5, h6⟩ := h.2 0 row0 (rows_head N A)
  exact ⟨h6, h3, h1, h2, h4, h5⟩
theorem rows_pos (N : NET) (A : Nat → Bool) : 1 ≤ (rowsOf N A).length := (List.getElem?_eq_some_iff.mp (rows_head N A)).1
theorem Row0.same {I I' : Nat → Nat → Int32} {x : Nat} (h : Row0 I x) (hI : ∀ a, x < a → a < x + 7 → I' a = I a) : Row0 I' x := by
  obtain ⟨h1, h2, h3, h4, h5, h6⟩ := h
  unfold Row0
  rw [hI (x + 1) (by omega) (by omega), hI (x + 2) (by omega) (by omega), hI (x + 3) (by omega) (by omega), hI (x + 4) (by omega) (by omega), hI (x + 5) (by omega) (by omega), hI (x + 6) (by omega) (by omega)]
  exact ⟨h1, h2, h3, h4, h5, h6⟩
