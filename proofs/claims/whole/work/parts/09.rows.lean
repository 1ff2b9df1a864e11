/-- all that a group's fields rest on is the same in two lists -/
def cg_Q (k : Int32) (L M : List (Int32 × Int32)) : Prop := cg_c k L = cg_c k M ∧ (∀ w, cg_lo k w L = cg_lo k w M) ∧ (∀ w, cg_e k w L = cg_e k w M) ∧ cg_s k L = cg_s k M ∧ cg_d k L = cg_d k M
theorem cg_Q_p {k : Int32} {L M : List (Int32 × Int32)} (h : L.Perm M) : cg_Q k L M := ⟨cg_c_p h, fun _ => cg_lo_p h, fun _ => cg_e_p h, cg_s_p h, cg_d_p h⟩
theorem cg_Q_t {k : Int32} {L M N : List (Int32 × Int32)} (h : cg_Q k L M) (h' : cg_Q k M N) : cg_Q k L N :=
  ⟨h.1.trans h'.1, fun w => (h.2.1 w).trans (h'.2.1 w), fun w => (h.2.2.1 w).trans (h'.2.2.1 w), h.2.2.2.1.trans h'.2.2.2.1, h.2.2.2.2.trans h'.2.2.2.2⟩
theorem cg_Q_s {k : Int32} {L M : List (Int32 × Int32)} (h : cg_Q k L M) : cg_Q k M L :=
  ⟨h.1.symm, fun w => (h.2.1 w).symm, fun w => (h.2.2.1 w).symm, h.2.2.2.1.symm, h.2.2.2.2.symm⟩
theorem cg_Q_c {k : Int32} {x : Int32 × Int32} (L : List (Int32 × Int32)) (h : ¬ x.1 = k) : cg_Q k (x :: L) L := by
  refine ⟨?_, fun w => ?_, fun w => ?_, ?_, ?_⟩
  · rw [cg_c_c, if_neg h]; rfl
  · rw [cg_lo_c, if_neg (fun z => h z.1)]; rfl
  · rw [cg_e_c, if_neg (fun z => h z.1)]; rfl
  · rw [cg_s, if_neg h]
  · rw [cg_d, if_neg (fun z => h z.1)]
def cg_fi (κ : Int32) (L : List (Int32 × Int32)) : List (Int32 × Int32) := L.filter (fun x => decide (¬ x.1 = κ))
theorem cg_fi_t {κ : Int32} {x : Int32 × Int32} (l : List (Int32 × Int32)) (h : x.1 = κ) : cg_fi κ (x :: l) = cg_fi κ l :=
  List.filter_cons_of_neg (by simp [h])
theorem cg_fi_f {κ : Int32} {x : Int32 × Int32} (l : List (Int32 × Int32)) (h : ¬ x.1 = κ) : cg_fi κ (x :: l) = x :: cg_fi κ l :=
  List.filter_cons_of_pos (by simp [h])
theorem cg_fi_m {κ : Int32} {x : Int32 × Int32} {l : List (Int32 × Int32)} : x ∈ cg_fi κ l ↔ x ∈ l ∧ ¬ x.1 = κ := by
  rw [cg_fi, List.mem_filter, decide_eq_true_eq]
theorem cg_Q_f {k κ : Int32} (h : ¬ k = κ) : ∀ L : List (Int32 × Int32), cg_Q k (cg_fi κ L) L
  | [] => cg_Q_p (List.Perm.refl _)
  | x :: l => by
    have ih := cg_Q_f h l
    by_cases c : x.1 = κ
    · rw [cg_fi_t l c]
      exact cg_Q_t ih (cg_Q_s (cg_Q_c l (fun z => h (z.symm.trans c))))
    · rw [cg_fi_f l c]
      obtain ⟨h1, h2, h3, h4, h5⟩ := ih
      refine ⟨?_, fun w => ?_, fun w => ?_, ?_, ?_⟩
      · rw [cg_c_c, cg_c_c, h1]
      · rw [cg_lo_c, cg_lo_c, h2]
      · rw [cg_e_c, cg_e_c, h3]
      · rw [cg_s, cg_s, h4]
      · have e : x ∈ cg_fi κ l ↔ x ∈ l := by rw [cg_fi_m]; exact ⟨fun z => z.1, fun z => ⟨z, c⟩⟩
        simp only [cg_d, h5, e]
theorem cg_Q_F {k : Int32} {L M : List (Int32 × Int32)} (h : cg_Q k L M) (f : Nat) : cg_F L k f = cg_F M k f := by
  obtain ⟨h1, h2, h3, h4, h5⟩ := h
  have hR : ∀ p, cg_r k L p = cg_r k M p := fun p => by
    unfold cg_r
    have : cg_R k L p = cg_R k M p := by
      funext w
      unfold cg_R
      rw [h2, h3]
    rw [this]
  unfold cg_F
  simp only [h1, h4, h5, hR]
theorem cg_Q_h {k : Int32} {L M : List (Int32 × Int32)} (h : cg_Q k L M) (fl ce : Int32) : cg_h fl ce L k = cg_h fl ce M k := by
  unfold cg_h
  simp only [h.1, h.2.2.2.2]
def cg_In (L : List (Int32 × Int32)) : Prop := ∀ x, x ∈ L → ∃ q : Nat, q < 8 ∧ x.1 = nI q
theorem cg_In_p {L M : List (Int32 × Int32)} (h : L.Perm M) (H : cg_In L) : cg_In M := fun x hx => H x (h.mem_iff.mpr hx)
theorem cg_In_c {k : Int32} : ∀ {L : List (Int32 × Int32)}, cg_In L → (∀ q : Nat, q < 8 → ¬ k = nI q) → cg_c k L = 0
  | [], _, _ => rfl
  | x :: l, h, hk => by
    have h0 : ¬ x.1 = k := fun z => by
      obtain ⟨q, hq, e⟩ := h x List.mem_cons_self
      exact hk q hq (z.symm.trans e)
    rw [cg_c_c, if_neg h0, cg_In_c (fun y hy => h y (List.mem_cons_of_mem _ hy)) hk]
/-- rows taken out of the middle -/
def cg_del (a : Nat → Int32) (p c : Nat) : Nat → Int32 := fun j => if j < p then a j else a (j + c)
def cg_ins (a : Nat → Int32) (p : Nat) (x : Int32) : Nat → Int32 := fun j => if j < p then a j else if j = p then x else a (j - 1)
theorem cg_del_1 {a b : Nat → Int32} {i : Nat} : ∀ n, i < n + 1 → (cg_L a b (n + 1)).Perm ((a i, b i) :: cg_L (cg_del a i 1) (cg_del b i 1) n) := by
  intro n
  induction n with
  | zero =>
    intro h
    obtain rfl : i = 0 := by omega
    exact List.Perm.refl _
  | succ n ih =>
    intro h
    by_cases z : i = n + 1
    · rw [cg_L, z, cg_L_e (a := a) (b := b) (a' := cg_del a (n + 1) 1) (b' := cg_del b (n + 1) 1) (n + 1) (fun j hj => ⟨if_pos hj, if_pos hj⟩)]
    · have e : cg_L (cg_del a i 1) (cg_del b i 1) (n + 1) = (a (n + 1), b (n + 1)) :: cg_L (cg_del a i 1) (cg_del b i 1) n := by
        rw [cg_L, cg_del, if_neg (by omega), cg_del, if_neg (by omega)]
      rw [cg_L, e]
      exact ((ih (by omega)).cons _).trans (List.Perm.swap _ _ _)
theorem cg_ins_p {a b a' b' : Nat → Int32} {n p : Nat} {x y : Int32} (hp : p ≤ n) (h : ∀ j, j ≤ n → a' j = cg_ins a p x j ∧ b' j = cg_ins b p y j) : (cg_L a' b' (n + 1)).Perm ((x, y) :: cg_L a b n) := by
  have h1 := cg_del_1 (a := a') (b := b') (i := p) n (by omega)
  have ex : a' p = x := by rw [(h p hp).1, cg_ins, if_neg (by omega), if_pos rfl]
  have ey : b' p = y := by rw [(h p hp).2, cg_ins, if_neg (by omega), if_pos rfl]
  have e : cg_L (cg_del a' p 1) (cg_del b' p 1) n = cg_L a b n := cg_L_e n (fun j hj => by
    unfold cg_del
    by_cases c : j < p
    · rw [if_pos c, if_pos c, (h j (by omega)).1, (h j (by omega)).2, cg_ins, if_pos c, cg_ins, if_pos c]; exact ⟨rfl, rfl⟩
    · rw [if_neg c, if_neg c, (h (j + 1) (by omega)).1, (h (j + 1) (by omega)).2, cg_ins, if_neg (by omega), if_neg (by omega), cg_ins, if_neg (by omega), if_neg (by omega)]; exact ⟨rfl, rfl⟩)
  rw [ex, ey, e] at h1
  exact h1
theorem cg_ins_s {a b a' b' : Nat → Int32} {n p : Nat} {x y : Int32} (hs : cg_So a b n) (hp : p = cg_B (x, y) (cg_L a b n)) (h : ∀ j, j ≤ n → a' j = cg_ins a p x j ∧ b' j = cg_ins b p y j) : cg_So a' b' (n + 1) := by
  have hpn : p ≤ n := by rw [hp]; exact cg_B_le_n _
  have hB : ∀ i, i < n → ((a i).toInt < x.toInt ∨ ((a i).toInt = x.toInt ∧ (b i).toInt < y.toInt) ↔ i < p) := fun i hi => by
    have := cg_Bi hs (x, y) hi
    rw [cg_lb_i, ← hp] at this
    exact this
  intro i j hij hj
  rw [(h i (by omega)).1, (h i (by omega)).2, (h j (by omega)).1, (h j (by omega)).2]
  unfold cg_ins
  by_cases c1 : j < p
  · rw [if_pos c1, if_pos c1, if_pos (by omega), if_pos (by omega)]
    exact hs i j hij (by omega)
  · rw [if_neg c1, if_neg c1]
    by_cases c2 : j = p
    · rw [if_pos c2, if_pos c2, if_pos (by omega), if_pos (by omega)]
      have := (hB i (by omega)).mpr (by omega)
      omega
    · rw [if_neg c2, if_neg c2]
      by_cases c3 : i < p
      · rw [if_pos c3, if_pos c3]
        exact hs i (j - 1) (by omega) (by omega)
      · rw [if_neg c3, if_neg c3]
        by_cases c4 : i = p
        · rw [if_pos c4, if_pos c4]
          have := hB (j - 1) (by omega)
          omega
        · rw [if_neg c4, if_neg c4]
          exact hs (i - 1) (j - 1) (by omega) (by omega)
theorem cg_del_s {a b a' b' : Nat → Int32} {n p c : Nat} (hs : cg_So a b n) (hc : p + c ≤ n) (h : ∀ j, j < n - c → a' j = cg_del a p c j ∧ b' j = cg_del b p c j) : cg_So a' b' (n - c) := by
  intro i j hij hj
  rw [(h i (by omega)).1, (h i (by omega)).2, (h j (by omega)).1, (h j (by omega)).2]
  unfold cg_del
  by_cases c1 : j < p
  · rw [if_pos c1, if_pos c1, if_pos (by omega), if_pos (by omega)]
    exact hs i j hij (by omega)
  · rw [if_neg c1, if_neg c1]
    by_cases c2 : i < p
    · rw [if_pos c2, if_pos c2]
      exact hs i (j + c) (by omega) (by omega)
    · rw [if_neg c2, if_neg c2]
      exact hs (i + c) (j + c) (by omega) (by omega)
theorem cg_del_f {a b : Nat → Int32} {k : Int32} {p c : Nat} : ∀ n, (∀ i, i < n → (a i = k ↔ p ≤ i ∧ i < p + c)) → cg_fi k (cg_L a b n) = cg_L (cg_del a p c) (cg_del b p c) (if n ≤ p then n else if n ≤ p + c then p else n - c)
  | 0, _ => by rw [if_pos (Nat.zero_le p)]; rfl
  | n + 1, h => by
    have ih := cg_del_f (b := b) n (fun i hi => h i (by omega))
    have hn := h n (by omega)
    rw [cg_L]
    by_cases c1 : n + 1 ≤ p
    · rw [cg_fi_f _ (fun z => by have := hn.mp z; omega), ih, if_pos (by omega), if_pos c1, cg_L]
      have e1 : cg_del a p c n = a n := if_pos (by omega)
      have e2 : cg_del b p c n = b n := if_pos (by omega)
      rw [e1, e2]
    · rw [if_neg c1]
      by_cases c2 : n + 1 ≤ p + c
      · rw [cg_fi_t _ (hn.mpr (by omega)), ih, if_pos c2]
        by_cases c3 : n = p
        · rw [if_pos (by omega), c3]
        · rw [if_neg (by omega), if_pos (by omega)]
      · rw [cg_fi_f _ (fun z => by have := hn.mp z; omega), ih, if_neg c2]
        have e0 : (if n ≤ p then n else if n ≤ p + c then p else n - c) = n - c := by
          by_cases c3 : n ≤ p
          · rw [if_pos c3]; omega
          · rw [if_neg c3]
            by_cases c4 : n ≤ p + c
            · rw [if_pos c4]; omega
            · rw [if_neg c4]
        have e3 : n + 1 - c = (n - c) + 1 := by omega
        have e1 : cg_del a p c (n - c) = a n := by rw [cg_del, if_neg (by omega), show n - c + c = n by omega]
        have e2 : cg_del b p c (n - c) = b n := by rw [cg_del, if_neg (by omega), show n - c + c = n by omega]
        rw [e0, e3, cg_L, e1, e2]
theorem cg_rep {K V : Nat → Int32} {i : Nat} {x y : Int32} : ∀ m, i < m → ((K i, V i) :: cg_L (upd K i x) (upd V i y) m).Perm ((x, y) :: cg_L K V m)
  | 0, h => absurd h (Nat.not_lt_zero i)
  | m + 1, h => by
    rw [cg_L, cg_L]
    by_cases z : i = m
    · rw [z, pk_us, pk_us, cg_L_e (a := K) (b := V) (a' := upd K m x) (b' := upd V m y) m (fun j hj => ⟨pk_un (by omega), pk_un (by omega)⟩)]
      exact List.Perm.swap _ _ _
    · rw [pk_un (by omega), pk_un (by omega)]
      exact (List.Perm.swap _ _ _).trans (((cg_rep m (by omega)).cons _).trans (List.Perm.swap _ _ _))
theorem cg_dr {K V : Nat → Int32} {i m : Nat} (h : i < m + 1) : (cg_L K V (m + 1)).Perm ((K i, V i) :: cg_L (upd K i (K m)) (upd V i (V m)) m) := by
  by_cases z : i = m
  · rw [z, cg_L, cg_L_e (a := K) (b := V) (a' := upd K m (K m)) (b' := upd V m (V m)) m (fun j hj => ⟨pk_un (by omega), pk_un (by omega)⟩)]
  · rw [cg_L]
    exact (cg_rep m (by omega)).symm
