theorem i_L58 {g : AH} {a0 a1 : Nat} {fs : List Value} (h0 : a0 = g.1) (k : AH → Option AH) : ∀ (m n' i : Nat) (l : List ae) (f : Nat → Option Nat), i + m = 13 → m < n' → l[0]? = some (.inr (1, fs)) → l[1]? = some (.inl (4, 13, .inr (.inr (.inr (.inr f))))) → l[7]? = some (rcell fillr) → a1 = g.1 + 7 → fs[2]? = some (.ref (g.1 + 1)) → fX1_init_L58 a0 a1 k n' (nI i) (ap g l) = k (ap g (l.set 1 (.inl (4, 13, .inr (.inr (.inr (.inr (rdF a1 f i m)))))))) := by
  subst h0
  intro m
  induction m with
  | zero =>
    intro n' i l f hi hn l0 l1 l7 ha hf
    obtain ⟨n1, rfl⟩ := suc_of hn
    have e : l.set 1 (.inl (4, 13, .inr (.inr (.inr (.inr (rdF a1 f i 0)))))) = l := by
      obtain ⟨h1, h2⟩ := List.getElem?_eq_some_iff.mp l1
      have : rdF a1 f i 0 = f := rfl
      rw [this, ← h2]
      exact List.set_getElem_self h1
    rw [fX1_init_L58, if_pos (by rw [l13, nI_leI (by omega) (by omega)]; omega), e]
  | succ m ih =>
    intro n' i l f hi hn l0 l1 l7 ha hf
    obtain ⟨n1, rfl⟩ := suc_of hn
    have hlt := ap_lt l1
    have := ih n1 (i + 1) (l.set 1 (.inl (4, 13, .inr (.inr (.inr (.inr (va_up f i (some a1)))))))) (va_up f i (some a1)) (by omega) (by omega) (by rw [List.getElem?_set_ne (by decide)]; exact l0) (List.getElem?_set_self hlt) (by rw [List.getElem?_set_ne (by decide)]; exact l7) ha hf
    rw [List.set_set] at this
    rw [fX1_init_L58, if_neg (by rw [l13, nI_leI (by omega) (by omega)]; omega), ap_gR (k := 0) (by rfl) l0 hf, ob1_some, ap_sQ (k := 1) (j := i) (by rfl) l1 rfl (by omega) (by decide) (ap_ck (k := 7) ha l7), ob1_some, bnd_eq, nI_1]
    exact this
theorem i_X3 {h : AH} {l : List ae} {a k : Nat} (ha : a = h.1 + k) (hk : l[k]? = some (.inr (3, [.int 0, .int 0, .int 0, .long 0, .long 0, .long 0, .int 0]))) : fX3_init a 0 1 0 0 0 0 0 (ap h l) = some (ap h (l.set k (rcell fillr))) := by
  have hl := ap_lt hk
  have hs : ∀ c : ae, (l.set k c)[k]? = some c := fun c => List.getElem?_set_self hl
  unfold fX3_init
  rw [ap_pV ha hk (by decide), ob1_some, ap_pV ha (hs _) (by decide), ob1_some, List.set_set, ap_pV ha (hs _) (by decide), ob1_some, List.set_set, ap_pV ha (hs _) (by decide), ob1_some, List.set_set, ap_pV ha (hs _) (by decide), ob1_some, List.set_set, ap_pV ha (hs _) (by decide), ob1_some, List.set_set, ap_pV ha (hs _) (by decide), ob1_some, List.set_set]
  rfl
theorem i_X1 {g : AH} {a : Nat} (ha : a = g.1) : fX1_init a (hnew g (.inr (1, [.int 0, .int 0, .null, .null, .null]))) = some (ap g (c1 a)) := by
  subst ha
  unfold fX1_init
  rw [ap_one]
  rw [ap_pV (k := 0) (by rfl) (by rfl) (by exact Nat.le_of_ble_eq_true rfl), ob1_some, ap_pV (k := 0) (by rfl) (by rfl) (by exact Nat.le_of_ble_eq_true rfl), ob1_some, ap_fstN (n := 1) (by rfl), bnd_eq, ap_new, bnd_eq, ap_pV (k := 0) (by rfl) (by rfl) (by exact Nat.le_of_ble_eq_true rfl), ob1_some, ap_fstN (n := 2) (by rfl), bnd_eq, ap_new, bnd_eq, ap_pV (k := 0) (by rfl) (by rfl) (by exact Nat.le_of_ble_eq_true rfl), ob1_some, ap_fstN (n := 3) (by rfl), bnd_eq, ap_gridA, bnd_eq, ap_pV (k := 0) (by rfl) (by rfl) (by exact Nat.le_of_ble_eq_true rfl), ob1_some, ap_fstN (n := 7) (by rfl), bnd_eq, ap_new, bnd_eq, i_X3 (k := 7) (by rfl) (by rfl), ob1_some]
  refine (i_L58 rfl _ 13 lf 0 _ (fun _ => none) (by omega) (by decide) (by rfl) (by rfl) (by rfl) rfl (by rfl)).trans ?_
  rw [show lf = 996 + 1 + 1 + 1 + 1 from rfl]
  rw [fX1_init_L79, if_neg (by decide), ap_gR (k := 0) (by rfl) (by rfl) (by rfl), ob1_some, ap_aR (k := 3) (j := 0) (x := g.1 + 4) (by rfl) (by rfl) (by rfl) (by decide) (by decide) (by rfl), ob1_some, ap_sI (k := 4) (j := 0) (by rfl) (by rfl) (by rfl) (by decide) (by decide), ob1_some, ap_gR (k := 0) (by rfl) (by rfl) (by rfl), ob1_some, ap_aR (k := 3) (j := 0) (x := g.1 + 4) (by rfl) (by rfl) (by rfl) (by decide) (by decide) (by rfl), ob1_some, ap_sI (k := 4) (j := 2) (by rfl) (by rfl) (by rfl) (by decide) (by decide), ob1_some, ap_gR (k := 0) (by rfl) (by rfl) (by rfl), ob1_some, ap_aR (k := 3) (j := 0) (x := g.1 + 4) (by rfl) (by rfl) (by rfl) (by decide) (by decide) (by rfl), ob1_some, ap_sI (k := 4) (j := 3) (by rfl) (by rfl) (by rfl) (by decide) (by decide), ob1_some, bnd_eq]
  rw [fX1_init_L79, if_neg (by decide), ap_gR (k := 0) (by rfl) (by rfl) (by rfl), ob1_some, ap_aR (k := 3) (j := 1) (x := g.1 + 5) (by rfl) (by rfl) (by rfl) (by decide) (by decide) (by rfl), ob1_some, ap_sI (k := 5) (j := 0) (by rfl) (by rfl) (by rfl) (by decide) (by decide), ob1_some, ap_gR (k := 0) (by rfl) (by rfl) (by rfl), ob1_some, ap_aR (k := 3) (j := 1) (x := g.1 + 5) (by rfl) (by rfl) (by rfl) (by decide) (by decide) (by rfl), ob1_some, ap_sI (k := 5) (j := 2) (by rfl) (by rfl) (by rfl) (by decide) (by decide), ob1_some, ap_gR (k := 0) (by rfl) (by rfl) (by rfl), ob1_some, ap_aR (k := 3) (j := 1) (x := g.1 + 5) (by rfl) (by rfl) (by rfl) (by decide) (by decide) (by rfl), ob1_some, ap_sI (k := 5) (j := 3) (by rfl) (by rfl) (by rfl) (by decide) (by decide), ob1_some, bnd_eq]
  rw [fX1_init_L79, if_neg (by decide), ap_gR (k := 0) (by rfl) (by rfl) (by rfl), ob1_some, ap_aR (k := 3) (j := 2) (x := g.1 + 6) (by rfl) (by rfl) (by rfl) (by decide) (by decide) (by rfl), ob1_some, ap_sI (k := 6) (j := 0) (by rfl) (by rfl) (by rfl) (by decide) (by decide), ob1_some, ap_gR (k := 0) (by rfl) (by rfl) (by rfl), ob1_some, ap_aR (k := 3) (j := 2) (x := g.1 + 6) (by rfl) (by rfl) (by rfl) (by decide) (by decide) (by rfl), ob1_some, ap_sI (k := 6) (j := 2) (by rfl) (by rfl) (by rfl) (by decide) (by decide), ob1_some, ap_gR (k := 0) (by rfl) (by rfl) (by rfl), ob1_some, ap_aR (k := 3) (j := 2) (x := g.1 + 6) (by rfl) (by rfl) (by rfl) (by decide) (by decide) (by rfl), ob1_some, ap_sI (k := 6) (j := 3) (by rfl) (by rfl) (by rfl) (by decide) (by decide), ob1_some, bnd_eq]
  rw [fX1_init_L79, if_pos (by decide)]
  rfl
