theorem ap_fstN {h : AH} {l : List ae} {n : Nat} (hn : l.length = n) : (ap h l).1 = h.1 + n := by rw [ap_fst, hn]
def c6 : List ae := [.inr (6, [.long 0, .int 0])]
def c4 (a : Nat) : List ae := [.inr (4, [.int (-1), .ref (a + 1)]), .inl (1, 24, .inr (.inl (fun _ => 0)))]
def c8 (a : Nat) : List ae := [.inr (8, [.int (-1), .int 0, .ref (a + 1)]), .inl (4, 20, .inr (.inr (.inr (.inr (fun _ => none)))))]
def c7 (a : Nat) : List ae := [.inr (7, [.int 0, .ref (a + 1), .int 0, .int 0]), .inl (0, 100, .inl (fun _ => 0))]
def z0 (n : Nat) : ae := .inl (0, n, .inl (fun _ => 0))
def crF : Nat → Int32 := upd (upd (upd (fun _ => 0) 0 1) 2 1) 3 1
def oneF : Nat → Int32 := upd (fun _ => 0) 0 1
def c2 (a : Nat) : List ae := [.inr (2, [.int 1, .ref (a + 1), .ref (a + 2), .ref (a + 3), .ref (a + 4), .ref (a + 5), .ref (a + 6)]), z0 211, z0 211, z0 211, z0 211, z0 211, .inl (0, 211, .inl oneF)]
def c0 (a : Nat) : List ae := [.inr (0, [.ref (a + 1), .ref (a + 2), .ref (a + 3), .ref (a + 4), .ref (a + 5), .ref (a + 6)]), .inr (6, [.long 0, .int 0]), z0 13, .inl (2, 6, .inl (fun _ => 0)), .inl (1, 6, .inr (.inl (fun _ => 0))), z0 6, z0 6]
def c5 (a : Nat) : List ae := [.inr (5, [.ref (a + 1), .ref (a + 2), .ref (a + 6), .int 0, .int 0, .ref (a + 7), .ref (a + 8), .ref (a + 9)]), z0 13, .inl (3, 3, .inr (.inr (.inr (.inr (fun i => if i < 3 then some (a + 2 + 1 + i) else none))))), z0 211, z0 211, z0 211, .inr (6, [.long 0, .int 0]), .inl (1, 13, .inr (.inl (fun _ => 0))), .inl (1, 13, .inr (.inl (fun _ => 0))), .inl (1, 211, .inr (.inl (fun _ => 0)))]
def rdF (a : Nat) : (Nat → Option Nat) → Nat → Nat → (Nat → Option Nat)
  | f, _, 0 => f
  | f, i, m + 1 => rdF a (va_up f i (some a)) (i + 1) m
def c1 (a : Nat) : List ae := [.inr (1, [.int 2, .int 0, .ref (a + 1), .ref (a + 2), .ref (a + 3)]), .inl (4, 13, .inr (.inr (.inr (.inr (rdF (a + 7) (fun _ => none) 0 13))))), .inl (1, 13, .inr (.inl (fun _ => 0))), .inl (3, 3, .inr (.inr (.inr (.inr (fun i => if i < 3 then some (a + 3 + 1 + i) else none))))), .inl (0, 4, .inl crF), .inl (0, 4, .inl crF), .inl (0, 4, .inl crF), rcell fillr]
theorem i_X6 {g : AH} {a : Nat} (ha : a = g.1) : fX6_init a (hnew g (.inr (6, [.long 0, .int 0]))) = some (ap g (c6)) := by
  subst ha
  unfold fX6_init
  rw [ap_one]
  rw [ap_pV (k := 0) (by rfl) (by rfl) (by exact Nat.le_of_ble_eq_true rfl), ob1_some, ap_pV (k := 0) (by rfl) (by rfl) (by exact Nat.le_of_ble_eq_true rfl), ob1_some]
  rfl
theorem i_X4 {g : AH} {a : Nat} (ha : a = g.1) : fX4_init a (hnew g (.inr (4, [.int 0, .null]))) = some (ap g (c4 a)) := by
  subst ha
  unfold fX4_init
  rw [ap_one]
  rw [ap_pV (k := 0) (by rfl) (by rfl) (by exact Nat.le_of_ble_eq_true rfl), ob1_some, ap_fstN (n := 1) (by rfl), bnd_eq, ap_new, bnd_eq, ap_pV (k := 0) (by rfl) (by rfl) (by exact Nat.le_of_ble_eq_true rfl), ob1_some]
  rfl
theorem i_X8 {g : AH} {a : Nat} (ha : a = g.1) : fX8_init a (hnew g (.inr (8, [.int 0, .int 0, .null]))) = some (ap g (c8 a)) := by
  subst ha
  unfold fX8_init
  rw [ap_one]
  rw [ap_pV (k := 0) (by rfl) (by rfl) (by exact Nat.le_of_ble_eq_true rfl), ob1_some, ap_pV (k := 0) (by rfl) (by rfl) (by exact Nat.le_of_ble_eq_true rfl), ob1_some, ap_fstN (n := 1) (by rfl), bnd_eq, ap_new, bnd_eq, ap_pV (k := 0) (by rfl) (by rfl) (by exact Nat.le_of_ble_eq_true rfl), ob1_some]
  rfl
theorem i_X7 {g : AH} {a : Nat} (ha : a = g.1) : fX7_init a (hnew g (.inr (7, [.int 0, .null, .int 0, .int 0]))) = some (ap g (c7 a)) := by
  subst ha
  unfold fX7_init
  rw [ap_one]
  rw [ap_pV (k := 0) (by rfl) (by rfl) (by exact Nat.le_of_ble_eq_true rfl), ob1_some, ap_fstN (n := 1) (by rfl), bnd_eq, ap_new, bnd_eq, ap_pV (k := 0) (by rfl) (by rfl) (by exact Nat.le_of_ble_eq_true rfl), ob1_some, ap_pV (k := 0) (by rfl) (by rfl) (by exact Nat.le_of_ble_eq_true rfl), ob1_some, ap_pV (k := 0) (by rfl) (by rfl) (by exact Nat.le_of_ble_eq_true rfl), ob1_some]
  rfl
theorem i_X0 {g : AH} {a : Nat} (ha : a = g.1) : fX0_init a (hnew g (.inr (0, [.null, .null, .null, .null, .null, .null]))) = some (ap g (c0 a)) := by
  subst ha
  unfold fX0_init
  rw [ap_one]
  rw [ap_fstN (n := 1) (by rfl), bnd_eq, bnd_eq, i_X6 (by rfl), ob1_some, ap_ap, ap_pV (k := 0) (by rfl) (by rfl) (by exact Nat.le_of_ble_eq_true rfl), ob1_some, ap_fstN (n := 2) (by rfl), bnd_eq, ap_new, bnd_eq, ap_pV (k := 0) (by rfl) (by rfl) (by exact Nat.le_of_ble_eq_true rfl), ob1_some, ap_fstN (n := 3) (by rfl), bnd_eq, ap_new, bnd_eq, ap_pV (k := 0) (by rfl) (by rfl) (by exact Nat.le_of_ble_eq_true rfl), ob1_some, ap_fstN (n := 4) (by rfl), bnd_eq, ap_new, bnd_eq, ap_pV (k := 0) (by rfl) (by rfl) (by exact Nat.le_of_ble_eq_true rfl), ob1_some, ap_fstN (n := 5) (by rfl), bnd_eq, ap_new, bnd_eq, ap_pV (k := 0) (by rfl) (by rfl) (by exact Nat.le_of_ble_eq_true rfl), ob1_some, ap_fstN (n := 6) (by rfl), bnd_eq, ap_new, bnd_eq, ap_pV (k := 0) (by rfl) (by rfl) (by exact Nat.le_of_ble_eq_true rfl), ob1_some]
  rfl
theorem i_X2 {g : AH} {a : Nat} (ha : a = g.1) : fX2_init a (hnew g (.inr (2, [.int 0, .null, .null, .null, .null, .null, .null]))) = some (ap g (c2 a)) := by
  subst ha
  unfold fX2_init
  rw [ap_one]
  rw [ap_pV (k := 0) (by rfl) (by rfl) (by exact Nat.le_of_ble_eq_true rfl), ob1_some, ap_fstN (n := 1) (by rfl), bnd_eq, ap_new, bnd_eq, ap_pV (k := 0) (by rfl) (by rfl) (by exact Nat.le_of_ble_eq_true rfl), ob1_some, ap_fstN (n := 2) (by rfl), bnd_eq, ap_new, bnd_eq, ap_pV (k := 0) (by rfl) (by rfl) (by exact Nat.le_of_ble_eq_true rfl), ob1_some, ap_fstN (n := 3) (by rfl), bnd_eq, ap_new, bnd_eq, ap_pV (k := 0) (by rfl) (by rfl) (by exact Nat.le_of_ble_eq_true rfl), ob1_some, ap_fstN (n := 4) (by rfl), bnd_eq, ap_new, bnd_eq, ap_pV (k := 0) (by rfl) (by rfl) (by exact Nat.le_of_ble_eq_true rfl), ob1_some, ap_fstN (n := 5) (by rfl), bnd_eq, ap_new, bnd_eq, ap_pV (k := 0) (by rfl) (by rfl) (by exact Nat.le_of_ble_eq_true rfl), ob1_some, ap_fstN (n := 6) (by rfl), bnd_eq, ap_new, bnd_eq, ap_pV (k := 0) (by rfl) (by rfl) (by exact Nat.le_of_ble_eq_true rfl), ob1_some, ap_gR (k := 0) (by rfl) (by rfl) (by rfl), ob1_some, ap_sI (k := 6) (j := 0) (by rfl) (by rfl) (by rfl) (by decide) (by decide), ob1_some]
  rfl
theorem i_X5 {g : AH} {a : Nat} (ha : a = g.1) : fX5_init a (hnew g (.inr (5, [.null, .null, .null, .int 0, .int 0, .null, .null, .null]))) = some (ap g (c5 a)) := by
  subst ha
  unfold fX5_init
  rw [ap_one]
  rw [ap_fstN (n := 1) (by rfl), bnd_eq, ap_new, bnd_eq, ap_pV (k := 0) (by rfl) (by rfl) (by exact Nat.le_of_ble_eq_true rfl), ob1_some, ap_fstN (n := 2) (by rfl), bnd_eq, ap_gridA, bnd_eq, ap_pV (k := 0) (by rfl) (by rfl) (by exact Nat.le_of_ble_eq_true rfl), ob1_some, ap_fstN (n := 6) (by rfl), bnd_eq, bnd_eq, i_X6 (by rfl), ob1_some, ap_ap, ap_pV (k := 0) (by rfl) (by rfl) (by exact Nat.le_of_ble_eq_true rfl), ob1_some, ap_pV (k := 0) (by rfl) (by rfl) (by exact Nat.le_of_ble_eq_true rfl), ob1_some, ap_pV (k := 0) (by rfl) (by rfl) (by exact Nat.le_of_ble_eq_true rfl), ob1_some, ap_fstN (n := 7) (by rfl), bnd_eq, ap_new, bnd_eq, ap_pV (k := 0) (by rfl) (by rfl) (by exact Nat.le_of_ble_eq_true rfl), ob1_some, ap_fstN (n := 8) (by rfl), bnd_eq, ap_new, bnd_eq, ap_pV (k := 0) (by rfl) (by rfl) (by exact Nat.le_of_ble_eq_true rfl), ob1_some, ap_fstN (n := 9) (by rfl), bnd_eq, ap_new, bnd_eq, ap_pV (k := 0) (by rfl) (by rfl) (by exact Nat.le_of_ble_eq_true rfl), ob1_some]
  rfl
