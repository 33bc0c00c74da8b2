theorem ap_pV0 {h : AH} {t : List ae} {ci i : Nat} {v : Value} {fs : List Value} (hi : i < fs.length) : pV (ap h (.inr (ci, fs) :: t)) h.1 ci i v = some (ap h (.inr (ci, fs.set i v) :: t)) := ap_pV (k := 0) rfl rfl hi
theorem a_X0 {g : AH} {t : List ae} {fs : List Value} {i n : Nat} {K : AH → Option AH} (hi : i < fs.length) (hl : t.length + 1 = n) : (bnd (ap g (.inr (9, fs) :: t)).1 fun b => bnd (hnew (ap g (.inr (9, fs) :: t)) (.inr (0, [.null, .null, .null, .null, .null, .null]))) fun g2 => ob1 (fX0_init b g2) fun g3 => ob1 (pV g3 g.1 9 i (.ref b)) fun g5 => K g5) = K (ap g (.inr (9, fs.set i (.ref (g.1 + n))) :: (t ++ c0 (g.1 + n)))) := by
  subst hl
  rw [bnd_eq, bnd_eq, i_X0 rfl, ob1_some, ap_ap, List.cons_append, ap_pV0 hi, ob1_some]
  rfl
theorem a_X1 {g : AH} {t : List ae} {fs : List Value} {i n : Nat} {K : AH → Option AH} (hi : i < fs.length) (hl : t.length + 1 = n) : (bnd (ap g (.inr (9, fs) :: t)).1 fun b => bnd (hnew (ap g (.inr (9, fs) :: t)) (.inr (1, [.int 0, .int 0, .null, .null, .null]))) fun g2 => ob1 (fX1_init b g2) fun g3 => ob1 (pV g3 g.1 9 i (.ref b)) fun g5 => K g5) = K (ap g (.inr (9, fs.set i (.ref (g.1 + n))) :: (t ++ c1 (g.1 + n)))) := by
  subst hl
  rw [bnd_eq, bnd_eq, i_X1 rfl, ob1_some, ap_ap, List.cons_append, ap_pV0 hi, ob1_some]
  rfl
theorem a_X2 {g : AH} {t : List ae} {fs : List Value} {i n : Nat} {K : AH → Option AH} (hi : i < fs.length) (hl : t.length + 1 = n) : (bnd (ap g (.inr (9, fs) :: t)).1 fun b => bnd (hnew (ap g (.inr (9, fs) :: t)) (.inr (2, [.int 0, .null, .null, .null, .null, .null, .null]))) fun g2 => ob1 (fX2_init b g2) fun g3 => ob1 (pV g3 g.1 9 i (.ref b)) fun g5 => K g5) = K (ap g (.inr (9, fs.set i (.ref (g.1 + n))) :: (t ++ c2 (g.1 + n)))) := by
  subst hl
  rw [bnd_eq, bnd_eq, i_X2 rfl, ob1_some, ap_ap, List.cons_append, ap_pV0 hi, ob1_some]
  rfl
theorem a_X5 {g : AH} {t : List ae} {fs : List Value} {i n : Nat} {K : AH → Option AH} (hi : i < fs.length) (hl : t.length + 1 = n) : (bnd (ap g (.inr (9, fs) :: t)).1 fun b => bnd (hnew (ap g (.inr (9, fs) :: t)) (.inr (5, [.null, .null, .null, .int 0, .int 0, .null, .null, .null]))) fun g2 => ob1 (fX5_init b g2) fun g3 => ob1 (pV g3 g.1 9 i (.ref b)) fun g5 => K g5) = K (ap g (.inr (9, fs.set i (.ref (g.1 + n))) :: (t ++ c5 (g.1 + n)))) := by
  subst hl
  rw [bnd_eq, bnd_eq, i_X5 rfl, ob1_some, ap_ap, List.cons_append, ap_pV0 hi, ob1_some]
  rfl
theorem a_X6 {g : AH} {t : List ae} {fs : List Value} {i n : Nat} {K : AH → Option AH} (hi : i < fs.length) (hl : t.length + 1 = n) : (bnd (ap g (.inr (9, fs) :: t)).1 fun b => bnd (hnew (ap g (.inr (9, fs) :: t)) (.inr (6, [.long 0, .int 0]))) fun g2 => ob1 (fX6_init b g2) fun g3 => ob1 (pV g3 g.1 9 i (.ref b)) fun g5 => K g5) = K (ap g (.inr (9, fs.set i (.ref (g.1 + n))) :: (t ++ c6))) := by
  subst hl
  rw [bnd_eq, bnd_eq, i_X6 rfl, ob1_some, ap_ap, List.cons_append, ap_pV0 hi, ob1_some]
  rfl
theorem a_X7 {g : AH} {t : List ae} {fs : List Value} {i n : Nat} {K : AH → Option AH} (hi : i < fs.length) (hl : t.length + 1 = n) : (bnd (ap g (.inr (9, fs) :: t)).1 fun b => bnd (hnew (ap g (.inr (9, fs) :: t)) (.inr (7, [.int 0, .null, .int 0, .int 0]))) fun g2 => ob1 (fX7_init b g2) fun g3 => ob1 (pV g3 g.1 9 i (.ref b)) fun g5 => K g5) = K (ap g (.inr (9, fs.set i (.ref (g.1 + n))) :: (t ++ c7 (g.1 + n)))) := by
  subst hl
  rw [bnd_eq, bnd_eq, i_X7 rfl, ob1_some, ap_ap, List.cons_append, ap_pV0 hi, ob1_some]
  rfl
theorem a_arr {g : AH} {t : List ae} {fs : List Value} {i n : Nat} {e : ae} {K : AH → Option AH} (hi : i < fs.length) (hl : t.length + 1 = n) : (bnd (ap g (.inr (9, fs) :: t)).1 fun b => bnd (hnew (ap g (.inr (9, fs) :: t)) e) fun g3 => ob1 (pV g3 g.1 9 i (.ref b)) fun g5 => K g5) = K (ap g (.inr (9, fs.set i (.ref (g.1 + n))) :: (t ++ [e]))) := by
  subst hl
  rw [bnd_eq, bnd_eq, ap_new, List.cons_append, ap_pV0 hi, ob1_some]
  rfl
theorem set_mid {L1 T : List ae} {c x : ae} {k : Nat} (h : L1.length = k) : (L1 ++ c :: T).set k x = L1 ++ x :: T := by
  subst h
  rw [List.set_append_right _ _ (Nat.le_refl _), Nat.sub_self]
  rfl
theorem get_mid {L1 T : List ae} {c : ae} {k : Nat} (h : L1.length = k) : (L1 ++ c :: T)[k]? = some c := by
  subst h
  rw [List.getElem?_append_right (Nat.le_refl _), Nat.sub_self]
  rfl
def A5 (f : Nat → Option Nat) : ae := .inl (5, 3, .inr (.inr (.inr (.inr f))))
def A6 (f : Nat → Option Nat) : ae := .inl (6, 3, .inr (.inr (.inr (.inr f))))
def A7 (f : Nat → Option Nat) : ae := .inl (7, 4, .inr (.inr (.inr (.inr f))))
def Sx (L1 L2 L3 : List ae) (f5 f6 f7 : Nat → Option Nat) : List ae := L1 ++ A5 f5 :: (L2 ++ A6 f6 :: A7 f7 :: L3)
theorem Sx_app {L1 L2 L3 m : List ae} {f5 f6 f7 : Nat → Option Nat} : Sx L1 L2 L3 f5 f6 f7 ++ m = Sx L1 L2 (L3 ++ m) f5 f6 f7 := by
  unfold Sx
  simp only [List.append_assoc, List.cons_append]
theorem Sx_len {L1 L2 L3 : List ae} {f5 f6 f7 : Nat → Option Nat} (h1 : L1.length = 24) (h2 : L2.length = 35) : (Sx L1 L2 L3 f5 f6 f7).length = 62 + L3.length := by
  unfold Sx
  simp only [List.length_append, List.length_cons]
  omega
theorem Sx_0 {L1 L2 L3 : List ae} {f5 f6 f7 : Nat → Option Nat} (h1 : L1.length = 24) : (Sx L1 L2 L3 f5 f6 f7)[0]? = L1[0]? := List.getElem?_append_left (by omega)
theorem Sx_6 (L1 L2 L3 : List ae) (f5 f6 f7 : Nat → Option Nat) : Sx L1 L2 L3 f5 f6 f7 = (L1 ++ A5 f5 :: L2) ++ A6 f6 :: A7 f7 :: L3 := by
  unfold Sx
  simp only [List.append_assoc, List.cons_append]
theorem Sx_7 (L1 L2 L3 : List ae) (f5 f6 f7 : Nat → Option Nat) : Sx L1 L2 L3 f5 f6 f7 = (L1 ++ A5 f5 :: (L2 ++ [A6 f6])) ++ A7 f7 :: L3 := by
  unfold Sx
  simp only [List.append_assoc, List.cons_append, List.nil_append]
theorem Sx_s5 {L1 L2 L3 : List ae} {f5 f6 f7 f : Nat → Option Nat} (h1 : L1.length = 24) : (Sx L1 L2 L3 f5 f6 f7).set 24 (A5 f) = Sx L1 L2 L3 f f6 f7 := set_mid h1
theorem Sx_s6 {L1 L2 L3 : List ae} {f5 f6 f7 f : Nat → Option Nat} (h1 : L1.length = 24) (h2 : L2.length = 35) : (Sx L1 L2 L3 f5 f6 f7).set 60 (A6 f) = Sx L1 L2 L3 f5 f f7 := by
  rw [Sx_6, Sx_6]
  exact set_mid (by simp only [List.length_append, List.length_cons]; omega)
theorem Sx_s7 {L1 L2 L3 : List ae} {f5 f6 f7 f : Nat → Option Nat} (h1 : L1.length = 24) (h2 : L2.length = 35) : (Sx L1 L2 L3 f5 f6 f7).set 61 (A7 f) = Sx L1 L2 L3 f5 f6 f := by
  rw [Sx_7, Sx_7]
  exact set_mid (by simp only [List.length_append, List.length_cons, List.length_nil]; omega)
theorem Sx_g5 {L1 L2 L3 : List ae} {f5 f6 f7 : Nat → Option Nat} (h1 : L1.length = 24) : (Sx L1 L2 L3 f5 f6 f7)[24]? = some (A5 f5) := get_mid h1
theorem Sx_g6 {L1 L2 L3 : List ae} {f5 f6 f7 : Nat → Option Nat} (h1 : L1.length = 24) (h2 : L2.length = 35) : (Sx L1 L2 L3 f5 f6 f7)[60]? = some (A6 f6) := by
  rw [Sx_6]
  exact get_mid (by simp only [List.length_append, List.length_cons]; omega)
theorem Sx_g7 {L1 L2 L3 : List ae} {f5 f6 f7 : Nat → Option Nat} (h1 : L1.length = 24) (h2 : L2.length = 35) : (Sx L1 L2 L3 f5 f6 f7)[61]? = some (A7 f7) := by
  rw [Sx_7]
  exact get_mid (by simp only [List.length_append, List.length_cons, List.length_nil]; omega)
theorem b_X5 {g : AH} {L1 L2 L3 : List ae} {fs : List Value} {n j : Nat} {x : Int32} {f5 f6 f7 : Nat → Option Nat} {K : AH → Option AH} (h1 : L1.length = 24) (h2 : L2.length = 35) (h0 : L1[0]? = some (.inr (9, fs))) (hn : n = 62 + L3.length) (hx : x = nI j) (hj : j < 3) (hf : fs[5]? = some (.ref (g.1 + 24))) : (ob1 (gR (ap g (Sx L1 L2 L3 f5 f6 f7)) g.1 9 5) fun b81 => bnd (ap g (Sx L1 L2 L3 f5 f6 f7)).1 fun b83 => bnd (hnew (ap g (Sx L1 L2 L3 f5 f6 f7)) (.inr (5, [.null, .null, .null, .int 0, .int 0, .null, .null, .null]))) fun g84 => ob1 (fX5_init b83 g84) fun g85 => ob1 (sQ g85 b81 5 x (some b83)) fun g87 => K g87) = K (ap g (Sx L1 L2 (L3 ++ c5 (g.1 + n)) (va_up f5 j (some (g.1 + n))) f6 f7)) := by
  have hlen := Sx_len (L3 := L3) (f5 := f5) (f6 := f6) (f7 := f7) h1 h2
  subst hn
  rw [ap_gR (h := g) (a := g.1) (k := 0) rfl ((Sx_0 h1).trans h0) hf, ob1_some, bnd_eq, bnd_eq, i_X5 rfl, ob1_some, ap_ap, ap_fst, hlen, Sx_app, ap_sQ (k := 24) (j := j) rfl (Sx_g5 h1) hx hj (by decide) (ap_ck (k := 62 + L3.length) rfl (by rw [← Sx_app, List.getElem?_append_right (by omega), hlen, Nat.sub_self]; rfl)), ob1_some]
  exact congrArg (fun l => K (ap g l)) (Sx_s5 h1)
theorem b_X8 {g : AH} {L1 L2 L3 : List ae} {fs : List Value} {n j : Nat} {x : Int32} {f5 f6 f7 : Nat → Option Nat} {K : AH → Option AH} (h1 : L1.length = 24) (h2 : L2.length = 35) (h0 : L1[0]? = some (.inr (9, fs))) (hn : n = 62 + L3.length) (hx : x = nI j) (hj : j < 3) (hf : fs[13]? = some (.ref (g.1 + 60))) : (ob1 (gR (ap g (Sx L1 L2 L3 f5 f6 f7)) g.1 9 13) fun b81 => bnd (ap g (Sx L1 L2 L3 f5 f6 f7)).1 fun b83 => bnd (hnew (ap g (Sx L1 L2 L3 f5 f6 f7)) (.inr (8, [.int 0, .int 0, .null]))) fun g84 => ob1 (fX8_init b83 g84) fun g85 => ob1 (sQ g85 b81 6 x (some b83)) fun g87 => K g87) = K (ap g (Sx L1 L2 (L3 ++ c8 (g.1 + n)) f5 (va_up f6 j (some (g.1 + n))) f7)) := by
  have hlen := Sx_len (L3 := L3) (f5 := f5) (f6 := f6) (f7 := f7) h1 h2
  subst hn
  rw [ap_gR (h := g) (a := g.1) (k := 0) rfl ((Sx_0 h1).trans h0) hf, ob1_some, bnd_eq, bnd_eq, i_X8 rfl, ob1_some, ap_ap, ap_fst, hlen, Sx_app, ap_sQ (k := 60) (j := j) rfl (Sx_g6 h1 h2) hx hj (by decide) (ap_ck (k := 62 + L3.length) rfl (by rw [← Sx_app, List.getElem?_append_right (by omega), hlen, Nat.sub_self]; rfl)), ob1_some]
  exact congrArg (fun l => K (ap g l)) (Sx_s6 h1 h2)
theorem b_X4 {g : AH} {L1 L2 L3 : List ae} {fs : List Value} {n j : Nat} {x : Int32} {f5 f6 f7 : Nat → Option Nat} {K : AH → Option AH} (h1 : L1.length = 24) (h2 : L2.length = 35) (h0 : L1[0]? = some (.inr (9, fs))) (hn : n = 62 + L3.length) (hx : x = nI j) (hj : j < 4) (hf : fs[14]? = some (.ref (g.1 + 61))) : (ob1 (gR (ap g (Sx L1 L2 L3 f5 f6 f7)) g.1 9 14) fun b81 => bnd (ap g (Sx L1 L2 L3 f5 f6 f7)).1 fun b83 => bnd (hnew (ap g (Sx L1 L2 L3 f5 f6 f7)) (.inr (4, [.int 0, .null]))) fun g84 => ob1 (fX4_init b83 g84) fun g85 => ob1 (sQ g85 b81 7 x (some b83)) fun g87 => K g87) = K (ap g (Sx L1 L2 (L3 ++ c4 (g.1 + n)) f5 f6 (va_up f7 j (some (g.1 + n))))) := by
  have hlen := Sx_len (L3 := L3) (f5 := f5) (f6 := f6) (f7 := f7) h1 h2
  subst hn
  rw [ap_gR (h := g) (a := g.1) (k := 0) rfl ((Sx_0 h1).trans h0) hf, ob1_some, bnd_eq, bnd_eq, i_X4 rfl, ob1_some, ap_ap, ap_fst, hlen, Sx_app, ap_sQ (k := 61) (j := j) rfl (Sx_g7 h1 h2) hx hj (by decide) (ap_ck (k := 62 + L3.length) rfl (by rw [← Sx_app, List.getElem?_append_right (by omega), hlen, Nat.sub_self]; rfl)), ob1_some]
  exact congrArg (fun l => K (ap g l)) (Sx_s7 h1 h2)
def stQ (a : Nat) : Nat → Option Nat := va_up (va_up (va_up (fun _ => none) 0 (some (a + 64))) 1 (some (a + 74))) 2 (some (a + 84))
def trQ (a : Nat) : Nat → Option Nat := va_up (va_up (va_up (fun _ => none) 0 (some (a + 94))) 1 (some (a + 96))) 2 (some (a + 98))
def liQ (a : Nat) : Nat → Option Nat := va_up (va_up (va_up (va_up (fun _ => none) 0 (some (a + 100))) 1 (some (a + 102))) 2 (some (a + 104))) 3 (some (a + 106))
def f9 (a : Nat) : List Value := [.ref (a + 1), .ref (a + 9), .int 0, .ref (a + 17), .int 0, .ref (a + 24), .ref (a + 25), .ref (a + 26), .int 0, .ref (a + 33), .ref (a + 41), .ref (a + 48), .ref (a + 58), .ref (a + 60), .ref (a + 61), .ref (a + 62), .ref (a + 63)]
def P1 (a : Nat) : List ae := .inr (9, f9 a) :: (c1 (a + 1) ++ c1 (a + 9) ++ c2 (a + 17))
def P2 (a : Nat) : List ae := [.inl (2, 3, .inl (fun _ => 0))] ++ c0 (a + 26) ++ c1 (a + 33) ++ c2 (a + 41) ++ c5 (a + 48) ++ c7 (a + 58)
def c9 (a : Nat) : List ae := Sx (P1 a) (P2 a) ([z0 13] ++ c6 ++ c5 (a + 64) ++ c5 (a + 74) ++ c5 (a + 84) ++ c8 (a + 94) ++ c8 (a + 96) ++ c8 (a + 98) ++ c4 (a + 100) ++ c4 (a + 102) ++ c4 (a + 104) ++ c4 (a + 106)) (stQ a) (trQ a) (liQ a)
theorem c4l (a : Nat) : (c4 a).length = 2 := rfl
theorem c8l (a : Nat) : (c8 a).length = 2 := rfl
theorem c5l (a : Nat) : (c5 a).length = 10 := rfl
theorem c6l : c6.length = 1 := rfl
theorem i_X9b {g : AH} : (  ob1 (gR (ap g (Sx (P1 g.1) (P2 g.1) ([z0 13] ++ c6) (fun _ => none) (fun _ => none) (fun _ => none))) g.1 9 5) fun b81 =>
  bnd (ap g (Sx (P1 g.1) (P2 g.1) ([z0 13] ++ c6) (fun _ => none) (fun _ => none) (fun _ => none))).1 fun b83 =>
  bnd (hnew (ap g (Sx (P1 g.1) (P2 g.1) ([z0 13] ++ c6) (fun _ => none) (fun _ => none) (fun _ => none))) (.inr (5, [.null, .null, .null, .int 0, .int 0, .null, .null, .null]))) fun g84 =>
  ob1 (fX5_init b83 g84) fun g85 =>
  ob1 (sQ g85 b81 5 (0 : Int32) (some b83)) fun g87 =>
  ob1 (gR g87 g.1 9 5) fun b89 =>
  bnd g87.1 fun b91 =>
  bnd (hnew g87 (.inr (5, [.null, .null, .null, .int 0, .int 0, .null, .null, .null]))) fun g92 =>
  ob1 (fX5_init b91 g92) fun g93 =>
  ob1 (sQ g93 b89 5 (1 : Int32) (some b91)) fun g95 =>
  ob1 (gR g95 g.1 9 5) fun b97 =>
  bnd g95.1 fun b99 =>
  bnd (hnew g95 (.inr (5, [.null, .null, .null, .int 0, .int 0, .null, .null, .null]))) fun g100 =>
  ob1 (fX5_init b99 g100) fun g101 =>
  ob1 (sQ g101 b97 5 (2 : Int32) (some b99)) fun g103 =>
  ob1 (gR g103 g.1 9 13) fun b105 =>
  bnd g103.1 fun b107 =>
  bnd (hnew g103 (.inr (8, [.int 0, .int 0, .null]))) fun g108 =>
  ob1 (fX8_init b107 g108) fun g109 =>
  ob1 (sQ g109 b105 6 (0 : Int32) (some b107)) fun g111 =>
  ob1 (gR g111 g.1 9 13) fun b113 =>
  bnd g111.1 fun b115 =>
  bnd (hnew g111 (.inr (8, [.int 0, .int 0, .null]))) fun g116 =>
  ob1 (fX8_init b115 g116) fun g117 =>
  ob1 (sQ g117 b113 6 (1 : Int32) (some b115)) fun g119 =>
  ob1 (gR g119 g.1 9 13) fun b121 =>
  bnd g119.1 fun b123 =>
  bnd (hnew g119 (.inr (8, [.int 0, .int 0, .null]))) fun g124 =>
  ob1 (fX8_init b123 g124) fun g125 =>
  ob1 (sQ g125 b121 6 (2 : Int32) (some b123)) fun g127 =>
  ob1 (gR g127 g.1 9 14) fun b129 =>
  bnd g127.1 fun b131 =>
  bnd (hnew g127 (.inr (4, [.int 0, .null]))) fun g132 =>
  ob1 (fX4_init b131 g132) fun g133 =>
  ob1 (sQ g133 b129 7 (0 : Int32) (some b131)) fun g135 =>
  ob1 (gR g135 g.1 9 14) fun b137 =>
  bnd g135.1 fun b139 =>
  bnd (hnew g135 (.inr (4, [.int 0, .null]))) fun g140 =>
  ob1 (fX4_init b139 g140) fun g141 =>
  ob1 (sQ g141 b137 7 (1 : Int32) (some b139)) fun g143 =>
  ob1 (gR g143 g.1 9 14) fun b145 =>
  bnd g143.1 fun b147 =>
  bnd (hnew g143 (.inr (4, [.int 0, .null]))) fun g148 =>
  ob1 (fX4_init b147 g148) fun g149 =>
  ob1 (sQ g149 b145 7 (2 : Int32) (some b147)) fun g151 =>
  ob1 (gR g151 g.1 9 14) fun b153 =>
  bnd g151.1 fun b155 =>
  bnd (hnew g151 (.inr (4, [.int 0, .null]))) fun g156 =>
  ob1 (fX4_init b155 g156) fun g157 =>
  ob1 (sQ g157 b153 7 (3 : Int32) (some b155)) fun g159 =>
  some g159) = some (ap g (c9 g.1)) := by
  have h1 : (P1 g.1).length = 24 := by rfl
  have h2 : (P2 g.1).length = 35 := by rfl
  have h0 : (P1 g.1)[0]? = some (.inr (9, f9 g.1)) := rfl
  have hs : (f9 g.1)[5]? = some (.ref (g.1 + 24)) ∧ (f9 g.1)[13]? = some (.ref (g.1 + 60)) ∧ (f9 g.1)[14]? = some (.ref (g.1 + 61)) := ⟨rfl, rfl, rfl⟩
  unfold c9
  generalize P1 g.1 = L1 at *
  generalize P2 g.1 = L2 at *
  generalize f9 g.1 = fs at *
  rw [b_X5 (n := 64) (x := 0) (j := 0) h1 h2 h0 (by simp only [List.length_append, List.length_cons, List.length_nil, c5l, c8l, c4l, c6l]) (by rfl) (by decide) hs.1]
  rw [b_X5 (n := 74) (x := 1) (j := 1) h1 h2 h0 (by simp only [List.length_append, List.length_cons, List.length_nil, c5l, c8l, c4l, c6l]) (by rfl) (by decide) hs.1]
  rw [b_X5 (n := 84) (x := 2) (j := 2) h1 h2 h0 (by simp only [List.length_append, List.length_cons, List.length_nil, c5l, c8l, c4l, c6l]) (by rfl) (by decide) hs.1]
  rw [b_X8 (n := 94) (x := 0) (j := 0) h1 h2 h0 (by simp only [List.length_append, List.length_cons, List.length_nil, c5l, c8l, c4l, c6l]) (by rfl) (by decide) hs.2.1]
  rw [b_X8 (n := 96) (x := 1) (j := 1) h1 h2 h0 (by simp only [List.length_append, List.length_cons, List.length_nil, c5l, c8l, c4l, c6l]) (by rfl) (by decide) hs.2.1]
  rw [b_X8 (n := 98) (x := 2) (j := 2) h1 h2 h0 (by simp only [List.length_append, List.length_cons, List.length_nil, c5l, c8l, c4l, c6l]) (by rfl) (by decide) hs.2.1]
  rw [b_X4 (n := 100) (x := 0) (j := 0) h1 h2 h0 (by simp only [List.length_append, List.length_cons, List.length_nil, c5l, c8l, c4l, c6l]) (by rfl) (by decide) hs.2.2]
  rw [b_X4 (n := 102) (x := 1) (j := 1) h1 h2 h0 (by simp only [List.length_append, List.length_cons, List.length_nil, c5l, c8l, c4l, c6l]) (by rfl) (by decide) hs.2.2]
  rw [b_X4 (n := 104) (x := 2) (j := 2) h1 h2 h0 (by simp only [List.length_append, List.length_cons, List.length_nil, c5l, c8l, c4l, c6l]) (by rfl) (by decide) hs.2.2]
  rw [b_X4 (n := 106) (x := 3) (j := 3) h1 h2 h0 (by simp only [List.length_append, List.length_cons, List.length_nil, c5l, c8l, c4l, c6l]) (by rfl) (by decide) hs.2.2]
  rfl
set_option maxHeartbeats 4000000 in
theorem i_X9 {g : AH} {a : Nat} (ha : a = g.1) : fX9_init a (hnew g (.inr (9, [.null, .null, .int 0, .null, .int 0, .null, .null, .null, .int 0, .null, .null, .null, .null, .null, .null, .null, .null]))) = some (ap g (c9 a)) := by
  subst ha
  unfold fX9_init
  rw [ap_one]
  rw [a_X1 (n := 1) (by exact Nat.le_of_ble_eq_true rfl) (by rfl)]
  rw [a_X1 (n := 9) (by exact Nat.le_of_ble_eq_true rfl) (by rfl)]
  rw [ap_pV0 (by exact Nat.le_of_ble_eq_true rfl), ob1_some]
  rw [a_X2 (n := 17) (by exact Nat.le_of_ble_eq_true rfl) (by rfl)]
  rw [ap_pV0 (by exact Nat.le_of_ble_eq_true rfl), ob1_some]
  rw [a_arr (n := 24) (by exact Nat.le_of_ble_eq_true rfl) (by rfl)]
  rw [a_arr (n := 25) (by exact Nat.le_of_ble_eq_true rfl) (by rfl)]
  rw [a_X0 (n := 26) (by exact Nat.le_of_ble_eq_true rfl) (by rfl)]
  rw [ap_pV0 (by exact Nat.le_of_ble_eq_true rfl), ob1_some]
  rw [a_X1 (n := 33) (by exact Nat.le_of_ble_eq_true rfl) (by rfl)]
  rw [a_X2 (n := 41) (by exact Nat.le_of_ble_eq_true rfl) (by rfl)]
  rw [a_X5 (n := 48) (by exact Nat.le_of_ble_eq_true rfl) (by rfl)]
  rw [a_X7 (n := 58) (by exact Nat.le_of_ble_eq_true rfl) (by rfl)]
  rw [a_arr (n := 60) (by exact Nat.le_of_ble_eq_true rfl) (by rfl)]
  rw [a_arr (n := 61) (by exact Nat.le_of_ble_eq_true rfl) (by rfl)]
  rw [a_arr (n := 62) (by exact Nat.le_of_ble_eq_true rfl) (by rfl)]
  rw [a_X6 (n := 63) (by exact Nat.le_of_ble_eq_true rfl) (by rfl)]
  exact i_X9b
