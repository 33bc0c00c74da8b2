def nowF : Nat → Int64 := vp_updL (vp_updL (vp_updL (vp_updL (vp_updL (vp_updL (vp_updL (vp_updL (vp_updL (vp_updL (fun _ => 0) 0 2) 106 1) 108 1) 109 1) 110 1) 112 1) 113 1) 114 1) 116 1) 117 1
def f10 (a : Nat) : List Value := [.ref (a + 1), .ref (a + 2), .ref (a + 3), .int 0, .ref (a + 4), .int 0, .int 0, .int 0, .ref (a + 5), .int 0, .ref (a + 6), .ref (a + 7), .ref (a + 8), .ref (a + 9), .ref (a + 10), .ref (a + 11), .ref (a + 12), .ref (a + 13), .int 0, .int 0, .long 0, .ref (a + 14), .ref (a + 15), .ref (a + 16), .ref (a + 17), .ref (a + 18), .ref (a + 19), .ref (a + 20), .ref (a + 21), .ref (a + 22), .ref (a + 23)]
def T10 : List ae := [.inl (1, 118, .inr (.inl (fun _ => 0))), .inl (1, 118, .inr (.inl (fun _ => 0))), .inl (0, 100, .inl (fun _ => 0)), .inl (0, 91, .inl (fun _ => 0)), .inl (0, 3, .inl (fun _ => 0)), .inl (0, 768, .inl (fun _ => 0)), .inl (0, 3840, .inl (fun _ => 0)), .inl (0, 2560, .inl (fun _ => 0)), .inl (0, 512, .inl (fun _ => 0)), .inl (0, 512, .inl (fun _ => 0)), .inl (0, 13, .inl (fun _ => 0)), .inl (0, 768, .inl (fun _ => 0)), .inl (0, 13, .inl (fun _ => 0)), .inl (0, 6, .inl (fun _ => 0)), .inl (1, 6, .inr (.inl (fun _ => 0))), .inl (0, 6, .inl (fun _ => 0)), .inl (0, 4, .inl (upd (upd (upd (upd (fun _ => 0) 0 (-1)) 1 (-1)) 2 (-1)) 3 (-1))), .inl (1, 96, .inr (.inl (fun _ => 0))), .inl (0, 3, .inl (upd (upd (upd (fun _ => 0) 0 (-1)) 1 (-1)) 2 (-1))), .inl (0, 3, .inl (fun _ => 0)), .inl (2, 60, .inl (fun _ => 0)), .inl (1, 300, .inr (.inl (fun _ => 0)))]
def c10 (a : Nat) : List ae := .inr (10, f10 a) :: .inl (1, 118, .inr (.inl (nowF))) :: T10
theorem m_arr {g : AH} {t : List ae} {fs : List Value} {i n : Nat} {e : ae} {K : AH → Option AH} (hi : i < fs.length) (hl : t.length + 1 = n) : (bnd (ap g (.inr (10, fs) :: t)).1 fun b => bnd (hnew (ap g (.inr (10, fs) :: t)) e) fun g3 => ob1 (pV g3 g.1 10 i (.ref b)) fun g5 => K g5) = K (ap g (.inr (10, fs.set i (.ref (g.1 + n))) :: (t ++ [e]))) := by
  subst hl
  rw [bnd_eq, bnd_eq, ap_new, List.cons_append, ap_pV0 hi, ob1_some]
  rfl
theorem ap_sIe {h : AH} {o : ae} {t : List ae} {a len : Nat} {i x : Int32} {f : Nat → Int32} {j : Nat} (ha : a = h.1 + (t.length + 1)) (hi : i = nI j) (hj : j < len) (hl : len < 100000) : sI (ap h (o :: (t ++ [.inl (0, len, .inl f)]))) a i x = some (ap h (o :: (t ++ [.inl (0, len, .inl (upd f j x))]))) := by
  have hk : (o :: (t ++ [.inl (0, len, .inl f)]))[t.length + 1]? = some (.inl (0, len, .inl f)) := by
    rw [List.getElem?_cons_succ, List.getElem?_append_right (Nat.le_refl _), Nat.sub_self]
    rfl
  rw [ap_sI ha hk hi hj hl, List.set_cons_succ, List.set_append_right _ _ (Nat.le_refl _), Nat.sub_self]
  rfl
theorem m_arr4 {g : AH} {t : List ae} {fs : List Value} {i n : Nat} {K : AH → Option AH} (hi : i < fs.length) (hl : t.length + 1 = n) : (bnd (ap g (.inr (10, fs) :: t)).1 fun b => bnd (hnew (ap g (.inr (10, fs) :: t)) (.inl (0, 4, .inl (fun _ => 0)))) fun g3 => ob1 (sI g3 b (0 : Int32) (-1 : Int32)) fun g4 => ob1 (sI g4 b (1 : Int32) (-1 : Int32)) fun g5 => ob1 (sI g5 b (2 : Int32) (-1 : Int32)) fun g6 => ob1 (sI g6 b (3 : Int32) (-1 : Int32)) fun g7 => ob1 (pV g7 g.1 10 i (.ref b)) fun g5 => K g5) = K (ap g (.inr (10, fs.set i (.ref (g.1 + n))) :: (t ++ [.inl (0, 4, .inl (upd (upd (upd (upd (fun _ => 0) 0 (-1)) 1 (-1)) 2 (-1)) 3 (-1)))]))) := by
  subst hl
  rw [bnd_eq, bnd_eq, ap_new, List.cons_append, ap_sIe (j := 0) rfl rfl (by decide) (by decide), ob1_some, ap_sIe (j := 1) rfl rfl (by decide) (by decide), ob1_some, ap_sIe (j := 2) rfl rfl (by decide) (by decide), ob1_some, ap_sIe (j := 3) rfl rfl (by decide) (by decide), ob1_some, ap_pV0 hi, ob1_some]
  rfl
theorem m_arr3 {g : AH} {t : List ae} {fs : List Value} {i n : Nat} {K : AH → Option AH} (hi : i < fs.length) (hl : t.length + 1 = n) : (bnd (ap g (.inr (10, fs) :: t)).1 fun b => bnd (hnew (ap g (.inr (10, fs) :: t)) (.inl (0, 3, .inl (fun _ => 0)))) fun g3 => ob1 (sI g3 b (0 : Int32) (-1 : Int32)) fun g4 => ob1 (sI g4 b (1 : Int32) (-1 : Int32)) fun g5 => ob1 (sI g5 b (2 : Int32) (-1 : Int32)) fun g6 => ob1 (pV g6 g.1 10 i (.ref b)) fun g5 => K g5) = K (ap g (.inr (10, fs.set i (.ref (g.1 + n))) :: (t ++ [.inl (0, 3, .inl (upd (upd (upd (fun _ => 0) 0 (-1)) 1 (-1)) 2 (-1)))]))) := by
  subst hl
  rw [bnd_eq, bnd_eq, ap_new, List.cons_append, ap_sIe (j := 0) rfl rfl (by decide) (by decide), ob1_some, ap_sIe (j := 1) rfl rfl (by decide) (by decide), ob1_some, ap_sIe (j := 2) rfl rfl (by decide) (by decide), ob1_some, ap_pV0 hi, ob1_some]
  rfl
theorem ap_sL1 {h : AH} {o : ae} {T : List ae} {len : Nat} {i : Int32} {x : Int64} {f : Nat → Int64} {j : Nat} (hi : i = nI j) (hj : j < len) (hl : len < 100000) : sL (ap h (o :: .inl (1, len, .inr (.inl f)) :: T)) (h.1 + 1) i x = some (ap h (o :: .inl (1, len, .inr (.inl (vp_updL f j x))) :: T)) := by
  rw [ap_sL (k := 1) rfl rfl hi hj hl]
  rfl
theorem ap_gR0 {h : AH} {t : List ae} {ci i x : Nat} {fs : List Value} (hi : fs[i]? = some (.ref x)) : gR (ap h (.inr (ci, fs) :: t)) h.1 ci i = some x := ap_gR (k := 0) rfl rfl hi
theorem i_X10b {g : AH} : (  ob1 (gR (ap g (.inr (10, f10 g.1) :: .inl (1, 118, .inr (.inl (fun _ => 0))) :: T10)) g.1 10 0) fun b107 =>
  ob1 (sL (ap g (.inr (10, f10 g.1) :: .inl (1, 118, .inr (.inl (fun _ => 0))) :: T10)) b107 (0 : Int32) (2 : Int64)) fun g109 =>
  fX10_init_L230 g.1 (fun (g125 : AH) =>
    some g125
  ) lf (0 : Int32) g109) = some (ap g (c10 g.1)) := by
  have hf : (f10 g.1)[0]? = some (.ref (g.1 + 1)) := rfl
  unfold c10
  generalize T10 = T
  generalize f10 g.1 = fs at *
  rw [ap_gR0 hf, ob1_some, ap_sL1 (j := 0) (by rfl) (by decide) (by decide), ob1_some, show lf = 996 + 1 + 1 + 1 + 1 from rfl]
  rw [fX10_init_L230, if_neg (by decide), ap_gR0 hf, ob1_some, ap_sL1 (j := 106) (by rfl) (by decide) (by decide), ob1_some, ap_gR0 hf, ob1_some, ap_sL1 (j := 108) (by rfl) (by decide) (by decide), ob1_some, ap_gR0 hf, ob1_some, ap_sL1 (j := 109) (by rfl) (by decide) (by decide), ob1_some, bnd_eq]
  rw [fX10_init_L230, if_neg (by decide), ap_gR0 hf, ob1_some, ap_sL1 (j := 110) (by rfl) (by decide) (by decide), ob1_some, ap_gR0 hf, ob1_some, ap_sL1 (j := 112) (by rfl) (by decide) (by decide), ob1_some, ap_gR0 hf, ob1_some, ap_sL1 (j := 113) (by rfl) (by decide) (by decide), ob1_some, bnd_eq]
  rw [fX10_init_L230, if_neg (by decide), ap_gR0 hf, ob1_some, ap_sL1 (j := 114) (by rfl) (by decide) (by decide), ob1_some, ap_gR0 hf, ob1_some, ap_sL1 (j := 116) (by rfl) (by decide) (by decide), ob1_some, ap_gR0 hf, ob1_some, ap_sL1 (j := 117) (by rfl) (by decide) (by decide), ob1_some, bnd_eq]
  rw [fX10_init_L230, if_pos (by decide)]
  rfl
set_option maxHeartbeats 4000000 in
theorem i_X10 {g : AH} {a : Nat} (ha : a = g.1) : fX10_init a (hnew g (.inr (10, [.null, .null, .null, .int 0, .null, .int 0, .int 0, .int 0, .null, .int 0, .null, .null, .null, .null, .null, .null, .null, .null, .int 0, .int 0, .long 0, .null, .null, .null, .null, .null, .null, .null, .null, .null, .null]))) = some (ap g (c10 a)) := by
  subst ha
  unfold fX10_init
  rw [ap_one]
  rw [m_arr (n := 1) (by exact Nat.le_of_ble_eq_true rfl) (by rfl)]
  rw [m_arr (n := 2) (by exact Nat.le_of_ble_eq_true rfl) (by rfl)]
  rw [m_arr (n := 3) (by exact Nat.le_of_ble_eq_true rfl) (by rfl)]
  rw [m_arr (n := 4) (by exact Nat.le_of_ble_eq_true rfl) (by rfl)]
  rw [m_arr (n := 5) (by exact Nat.le_of_ble_eq_true rfl) (by rfl)]
  rw [m_arr (n := 6) (by exact Nat.le_of_ble_eq_true rfl) (by rfl)]
  rw [m_arr (n := 7) (by exact Nat.le_of_ble_eq_true rfl) (by rfl)]
  rw [m_arr (n := 8) (by exact Nat.le_of_ble_eq_true rfl) (by rfl)]
  rw [m_arr (n := 9) (by exact Nat.le_of_ble_eq_true rfl) (by rfl)]
  rw [m_arr (n := 10) (by exact Nat.le_of_ble_eq_true rfl) (by rfl)]
  rw [m_arr (n := 11) (by exact Nat.le_of_ble_eq_true rfl) (by rfl)]
  rw [m_arr (n := 12) (by exact Nat.le_of_ble_eq_true rfl) (by rfl)]
  rw [m_arr (n := 13) (by exact Nat.le_of_ble_eq_true rfl) (by rfl)]
  rw [m_arr (n := 14) (by exact Nat.le_of_ble_eq_true rfl) (by rfl)]
  rw [m_arr (n := 15) (by exact Nat.le_of_ble_eq_true rfl) (by rfl)]
  rw [m_arr (n := 16) (by exact Nat.le_of_ble_eq_true rfl) (by rfl)]
  rw [m_arr (n := 17) (by exact Nat.le_of_ble_eq_true rfl) (by rfl)]
  rw [m_arr4 (n := 18) (by exact Nat.le_of_ble_eq_true rfl) (by rfl)]
  rw [m_arr (n := 19) (by exact Nat.le_of_ble_eq_true rfl) (by rfl)]
  rw [m_arr3 (n := 20) (by exact Nat.le_of_ble_eq_true rfl) (by rfl)]
  rw [m_arr (n := 21) (by exact Nat.le_of_ble_eq_true rfl) (by rfl)]
  rw [m_arr (n := 22) (by exact Nat.le_of_ble_eq_true rfl) (by rfl)]
  rw [m_arr (n := 23) (by exact Nat.le_of_ble_eq_true rfl) (by rfl)]
  exact i_X10b
