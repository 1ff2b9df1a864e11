/-- the rows of a table, newest first -/
def cg_L (a b : Nat → Int32) : Nat → List (Int32 × Int32)
  | 0 => []
  | n + 1 => (a n, b n) :: cg_L a b n
def cg_c (k : Int32) (L : List (Int32 × Int32)) : Nat := L.countP (fun x => decide (x.1 = k))
def cg_lo (k w : Int32) (L : List (Int32 × Int32)) : Nat := L.countP (fun x => decide (x.1 = k ∧ x.2 < w))
def cg_e (k w : Int32) (L : List (Int32 × Int32)) : Nat := L.countP (fun x => decide (x.1 = k ∧ x.2 = w))
def cg_s (k : Int32) : List (Int32 × Int32) → Int32
  | [] => 0
  | x :: l => if x.1 = k then cg_s k l + x.2 else cg_s k l
def cg_d (k : Int32) : List (Int32 × Int32) → Nat
  | [] => 0
  | x :: l => if x.1 = k ∧ ¬ x ∈ l then cg_d k l + 1 else cg_d k l
def cg_R (k : Int32) (L : List (Int32 × Int32)) (p : Nat) (w : Int32) : Prop := cg_lo k w L ≤ p ∧ p < cg_lo k w L + cg_e k w L
noncomputable def cg_r (k : Int32) (L : List (Int32 × Int32)) (p : Nat) : Int32 := Classical.epsilon (cg_R k L p)
noncomputable def cg_F (L : List (Int32 × Int32)) (k : Int32) (f : Nat) : Int32 :=
  if cg_c k L = 0 then 0 else if f = 0 then nI (cg_c k L) else if f = 1 then cg_s k L else if f = 2 then cg_r k L 0 else if f = 3 then cg_r k L (cg_c k L - 1) else if f = 4 then nI (cg_d k L) else if f = 5 then cg_r k L ((cg_c k L - 1) / 2) else 0
def cg_h (fl ce : Int32) (L : List (Int32 × Int32)) (k : Int32) : Bool := decide (0 < cg_c k L ∧ ¬ nI (cg_c k L) < fl ∧ ¬ ce < nI (cg_d k L))
/-- every place of every group has a value -/
def cg_Fu (L : List (Int32 × Int32)) : Prop := ∀ k p, p < cg_c k L → ∃ w, cg_R k L p w

theorem cg_c_c (k : Int32) (x : Int32 × Int32) (l : List (Int32 × Int32)) : cg_c k (x :: l) = cg_c k l + (if x.1 = k then 1 else 0) := by
  simp [cg_c, List.countP_cons]
theorem cg_lo_c (k w : Int32) (x : Int32 × Int32) (l : List (Int32 × Int32)) : cg_lo k w (x :: l) = cg_lo k w l + (if x.1 = k ∧ x.2 < w then 1 else 0) := by
  simp [cg_lo, List.countP_cons]
theorem cg_e_c (k w : Int32) (x : Int32 × Int32) (l : List (Int32 × Int32)) : cg_e k w (x :: l) = cg_e k w l + (if x.1 = k ∧ x.2 = w then 1 else 0) := by
  simp [cg_e, List.countP_cons]
theorem cg_c_p {k : Int32} {L M : List (Int32 × Int32)} (h : L.Perm M) : cg_c k L = cg_c k M := h.countP_eq _
theorem cg_lo_p {k w : Int32} {L M : List (Int32 × Int32)} (h : L.Perm M) : cg_lo k w L = cg_lo k w M := h.countP_eq _
theorem cg_e_p {k w : Int32} {L M : List (Int32 × Int32)} (h : L.Perm M) : cg_e k w L = cg_e k w M := h.countP_eq _
theorem cg_s_p {k : Int32} {L M : List (Int32 × Int32)} (h : L.Perm M) : cg_s k L = cg_s k M := by
  induction h with
  | nil => rfl
  | cons x _ ih => simp only [cg_s, ih]
  | swap x y l =>
    by_cases hx : x.1 = k <;> by_cases hy : y.1 = k <;> simp only [cg_s, hx, hy, if_true, if_false]
    grind
  | trans _ _ a b => exact a.trans b
theorem cg_d_p {k : Int32} {L M : List (Int32 × Int32)} (h : L.Perm M) : cg_d k L = cg_d k M := by
  induction h with
  | nil => rfl
  | cons x p ih => simp only [cg_d, ih, p.mem_iff]
  | swap x y l =>
    by_cases e : x = y
    · subst e; rfl
    · have e' : ¬ y = x := fun z => e z.symm
      simp only [cg_d, List.mem_cons, e, e', false_or]
      by_cases a : x.1 = k ∧ ¬ x ∈ l
      · by_cases b : y.1 = k ∧ ¬ y ∈ l
        · simp only [if_pos a, if_pos b]
        · simp only [if_pos a, if_neg b]
      · by_cases b : y.1 = k ∧ ¬ y ∈ l
        · simp only [if_neg a, if_pos b]
        · simp only [if_neg a, if_neg b]
  | trans _ _ a b => exact a.trans b
theorem cg_R_p {k : Int32} {L M : List (Int32 × Int32)} (h : L.Perm M) (p : Nat) : cg_R k L p = cg_R k M p := by
  funext w
  unfold cg_R
  rw [cg_lo_p h, cg_e_p h]
theorem cg_r_p {k : Int32} {L M : List (Int32 × Int32)} (h : L.Perm M) (p : Nat) : cg_r k L p = cg_r k M p := by
  unfold cg_r
  rw [cg_R_p h]
theorem cg_F_p {L M : List (Int32 × Int32)} (h : L.Perm M) (k : Int32) (f : Nat) : cg_F L k f = cg_F M k f := by
  unfold cg_F
  simp only [cg_c_p h, cg_s_p h, cg_d_p h, cg_r_p h]
theorem cg_h_p {L M : List (Int32 × Int32)} (h : L.Perm M) (fl ce k : Int32) : cg_h fl ce L k = cg_h fl ce M k := by
  unfold cg_h
  simp only [cg_c_p h, cg_d_p h]
theorem cg_Fu_p {L M : List (Int32 × Int32)} (h : L.Perm M) (H : cg_Fu L) : cg_Fu M := by
  intro k p hp
  rw [← cg_c_p h] at hp
  obtain ⟨w, hw⟩ := H k p hp
  exact ⟨w, by rw [← cg_R_p h]; exact hw⟩

theorem cg_lo_m (k w w' : Int32) (h : w < w') : ∀ L : List (Int32 × Int32), cg_lo k w L + cg_e k w L ≤ cg_lo k w' L
  | [] => Nat.le_refl _
  | x :: l => by
    have ih := cg_lo_m k w w' h l
    rw [cg_lo_c, cg_e_c, cg_lo_c]
    by_cases hk : x.1 = k
    · simp only [hk, true_and]
      rw [Int32.lt_iff_toInt_lt] at h
      have := @Int32.lt_iff_toInt_lt x.2 w
      have := @Int32.lt_iff_toInt_lt x.2 w'
      by_cases h1 : x.2 < w
      · have h2 : ¬ x.2 = w := fun z => by rw [z, Int32.lt_iff_toInt_lt] at h1; omega
        have h3 : x.2 < w' := by rw [Int32.lt_iff_toInt_lt] at h1 ⊢; omega
        simp only [h1, h2, h3, if_true, if_false]; omega
      · by_cases h2 : x.2 = w
        · have h3 : x.2 < w' := by rw [Int32.lt_iff_toInt_lt, h2]; omega
          simp only [h1, h2, h3, if_true, if_false]
          rw [h2] at h1 h3
          simp only [h1, h3, if_true, if_false]; omega
        · simp only [h1, h2, if_false]; omega
    · simp only [hk, false_and, if_false]; omega
theorem cg_R_u {k : Int32} {L : List (Int32 × Int32)} {p : Nat} {w w' : Int32} (h : cg_R k L p w) (h' : cg_R k L p w') : w = w' := by
  obtain ⟨a, b⟩ := h
  obtain ⟨a', b'⟩ := h'
  by_cases c : w < w'
  · have := cg_lo_m k w w' c L; omega
  · by_cases d : w' < w
    · have := cg_lo_m k w' w d L; omega
    · rw [Int32.lt_iff_toInt_lt] at c d
      exact Int32.toInt_inj.mp (by omega)
theorem cg_r_e {k : Int32} {L : List (Int32 × Int32)} {p : Nat} {w : Int32} (h : cg_R k L p w) : cg_r k L p = w :=
  cg_R_u (Classical.epsilon_spec (p := cg_R k L p) ⟨w, h⟩) h
theorem cg_e_0 (k w : Int32) : ∀ L : List (Int32 × Int32), 0 < cg_e k w L → (k, w) ∈ L
  | [], h => absurd h (Nat.lt_irrefl 0)
  | x :: l, h => by
    rw [cg_e_c] at h
    by_cases hx : x.1 = k ∧ x.2 = w
    · have : x = (k, w) := Prod.ext hx.1 hx.2
      rw [this]; exact List.mem_cons_self
    · rw [if_neg hx] at h
      exact List.mem_cons_of_mem _ (cg_e_0 k w l (by omega))
theorem cg_L_m (a b : Nat → Int32) (x : Int32 × Int32) : ∀ n, x ∈ cg_L a b n ↔ ∃ j, j < n ∧ (a j, b j) = x
  | 0 => ⟨(fun h => nomatch h), fun ⟨j, h, _⟩ => absurd h (Nat.not_lt_zero j)⟩
  | n + 1 => by
    rw [cg_L, List.mem_cons, cg_L_m a b x n]
    constructor
    · rintro (h | ⟨j, hj, e⟩)
      · exact ⟨n, by omega, h.symm⟩
      · exact ⟨j, by omega, e⟩
    · rintro ⟨j, hj, e⟩
      by_cases h : j = n
      · subst h; exact Or.inl e.symm
      · exact Or.inr ⟨j, by omega, e⟩
theorem cg_L_len (a b : Nat → Int32) : ∀ n, (cg_L a b n).length = n
  | 0 => rfl
  | n + 1 => by rw [cg_L, List.length_cons, cg_L_len a b n]
theorem cg_c_le (k : Int32) (L : List (Int32 × Int32)) : cg_c k L ≤ L.length := List.countP_le_length
theorem cg_lo_le (k w : Int32) (L : List (Int32 × Int32)) : cg_lo k w L ≤ L.length := List.countP_le_length
theorem cg_e_le (k w : Int32) (L : List (Int32 × Int32)) : cg_e k w L ≤ L.length := List.countP_le_length
theorem cg_d_le (k : Int32) : ∀ L : List (Int32 × Int32), cg_d k L ≤ L.length
  | [] => Nat.le_refl _
  | x :: l => by
    have := cg_d_le k l
    rw [cg_d, List.length_cons]
    split <;> omega
theorem cg_L_e {a b a' b' : Nat → Int32} : ∀ n, (∀ j, j < n → a' j = a j ∧ b' j = b j) → cg_L a' b' n = cg_L a b n
  | 0, _ => rfl
  | n + 1, h => by
    rw [cg_L, cg_L, (h n (by omega)).1, (h n (by omega)).2, cg_L_e n (fun j hj => h j (by omega))]
