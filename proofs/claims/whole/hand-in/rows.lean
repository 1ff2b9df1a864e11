section
theorem pk_us {f : Nat → Int32} {k : Nat} {x : Int32} : upd f k x k = x := if_pos rfl
theorem pk_un {f : Nat → Int32} {k j : Nat} {x : Int32} (h : j ≠ k) : upd f k x j = f j := if_neg h
theorem pk_sub {a b : Nat} (h : b ≤ a) : nI a - nI b = nI (a - b) := by
  obtain ⟨c, rfl⟩ : ∃ c, a = c + b := ⟨a - b, by omega⟩
  rw [← nI_add, Int32.add_sub_cancel, Nat.add_sub_cancel]
theorem pk_m1 (n : Nat) : nI (n + 1) + (-1) = nI n := by
  rw [← nI_1, Int32.add_assoc, show (1 : Int32) + (-1) = 0 from rfl, Int32.add_zero]
theorem pk_mul (a b : Nat) : nI a * nI b = nI (a * b) := (Int32.ofNat_mul a b).symm
theorem pk_div {a d : Nat} (ha : a < 2 ^ 31) (h0 : 0 < d) (hd : d < 2 ^ 31) : nI a / nI d = nI (a / d) := by
  apply Int32.toInt_inj.mp
  rw [lg_idiv_nonneg (by rw [nI_toInt ha]; omega) (by rw [nI_toInt hd]; omega), nI_toInt ha, nI_toInt hd, nI_toInt (Nat.lt_of_le_of_lt (Nat.div_le_self a d) ha)]
  first | rfl | exact (Int.natCast_ediv _ _).symm
theorem pk_ix (x : Int32) {n : Nat} (hn : n < 2 ^ 31) : x < 0 ∨ nI n ≤ x ∨ ∃ j : Nat, j < n ∧ x = nI j := by
  by_cases h : x < 0
  · exact Or.inl h
  · obtain ⟨j, hj, rfl⟩ := nI_of h
    by_cases h2 : j < n
    · exact Or.inr (Or.inr ⟨j, h2, rfl⟩)
    · exact Or.inr (Or.inl (nI_le (by omega) hj))
theorem pk_le {x y : Int32} {A B : Prop} (a b : Nat) (f : a ≤ b → A) (g : b < a → B) (hx : x = nI a := by rfl) (hy : y = nI b := by rfl) (ha : a < 2 ^ 31 := by omega) (hb : b < 2 ^ 31 := by omega) : (x ≤ y → A) ∧ (¬ x ≤ y → B) := by
  subst hx hy
  rw [nI_leI ha hb]
  exact ⟨f, fun z => g (by omega)⟩
theorem pk_lt {x y : Int32} {A B : Prop} (a b : Nat) (f : a < b → A) (g : b ≤ a → B) (hx : x = nI a := by rfl) (hy : y = nI b := by rfl) (ha : a < 2 ^ 31 := by omega) (hb : b < 2 ^ 31 := by omega) : (x < y → A) ∧ (¬ x < y → B) := by
  subst hx hy
  rw [nI_ltI ha hb]
  exact ⟨f, fun z => g (by omega)⟩
theorem pk_eq {x y : Int32} {A B : Prop} (a b : Nat) (f : a = b → A) (g : a ≠ b → B) (hx : x = nI a := by rfl) (hy : y = nI b := by rfl) (ha : a < 2 ^ 31 := by omega) (hb : b < 2 ^ 31 := by omega) : (x = y → A) ∧ (¬ x = y → B) := by
  subst hx hy
  rw [nI_eq ha hb]
  exact ⟨f, g⟩
theorem pk_in {x : Int32} (n N : Nat) (h : n < N) (hx : x = nI n := by rfl) (hN : N < 2 ^ 31 := by omega) : vp_in x N := by
  subst hx
  exact vp_in_nI h hN
theorem pk_cl {x : Int32} (n : Nat) (hx : x = nI n := by rfl) (h : n < 2 ^ 31 := by omega) : x.toNatClampNeg = n := by
  subst hx
  exact nI_clamp h
end
section
/-- the rows of a table, newest first -/
def cg_L (a b : Nat → Int32) : Nat → List (Int32 × Int32)
  | 0 => []
  | n + 1 => (a n, b n) :: cg_L a b n
def cg_c (k : Int32) (L : List (Int32 × Int32)) : Nat := L.countP (fun x => decide (x.1 = k))
def cg_lo (k w : Int32) (L : List (Int32 × Int32)) : Nat := L.countP (fun x => decide (x.1 = k ∧ x.2 < w))
def cg_e (k w : Int32) (L : List (Int32 × Int32)) : Nat := L.countP (fun x => decide (x.1 = k ∧ x.2 = w))
def cg_s (k : Int32) : List (Int32 × Int32) → Int32
  | [] => 0
  | x :: l => if x.1 = k then cg_s k l + x.2 else cg_s k l
def cg_d (k : Int32) : List (Int32 × Int32) → Nat
  | [] => 0
  | x :: l => if x.1 = k ∧ ¬ x ∈ l then cg_d k l + 1 else cg_d k l
def cg_R (k : Int32) (L : List (Int32 × Int32)) (p : Nat) (w : Int32) : Prop := cg_lo k w L ≤ p ∧ p < cg_lo k w L + cg_e k w L
noncomputable def cg_r (k : Int32) (L : List (Int32 × Int32)) (p : Nat) : Int32 := Classical.epsilon (cg_R k L p)
noncomputable def cg_F (L : List (Int32 × Int32)) (k : Int32) (f : Nat) : Int32 :=
  if cg_c k L = 0 then 0 else if f = 0 then nI (cg_c k L) else if f = 1 then cg_s k L else if f = 2 then cg_r k L 0 else if f = 3 then cg_r k L (cg_c k L - 1) else if f = 4 then nI (cg_d k L) else if f = 5 then cg_r k L ((cg_c k L - 1) / 2) else 0
def cg_h (fl ce : Int32) (L : List (Int32 × Int32)) (k : Int32) : Bool := decide (0 < cg_c k L ∧ ¬ nI (cg_c k L) < fl ∧ ¬ ce < nI (cg_d k L))
/-- every place of every group has a value -/
def cg_Fu (L : List (Int32 × Int32)) : Prop := ∀ k p, p < cg_c k L → ∃ w, cg_R k L p w

theorem cg_c_c (k : Int32) (x : Int32 × Int32) (l : List (Int32 × Int32)) : cg_c k (x :: l) = cg_c k l + (if x.1 = k then 1 else 0) := by
  simp [cg_c, List.countP_cons]
theorem cg_lo_c (k w : Int32) (x : Int32 × Int32) (l : List (Int32 × Int32)) : cg_lo k w (x :: l) = cg_lo k w l + (if x.1 = k ∧ x.2 < w then 1 else 0) := by
  simp [cg_lo, List.countP_cons]
theorem cg_e_c (k w : Int32) (x : Int32 × Int32) (l : List (Int32 × Int32)) : cg_e k w (x :: l) = cg_e k w l + (if x.1 = k ∧ x.2 = w then 1 else 0) := by
  simp [cg_e, List.countP_cons]
theorem cg_c_p {k : Int32} {L M : List (Int32 × Int32)} (h : L.Perm M) : cg_c k L = cg_c k M := h.countP_eq _
theorem cg_lo_p {k w : Int32} {L M : List (Int32 × Int32)} (h : L.Perm M) : cg_lo k w L = cg_lo k w M := h.countP_eq _
theorem cg_e_p {k w : Int32} {L M : List (Int32 × Int32)} (h : L.Perm M) : cg_e k w L = cg_e k w M := h.countP_eq _
theorem cg_s_p {k : Int32} {L M : List (Int32 × Int32)} (h : L.Perm M) : cg_s k L = cg_s k M := by
  induction h with
  | nil => rfl
  | cons x _ ih => simp only [cg_s, ih]
  | swap x y l =>
    by_cases hx : x.1 = k <;> by_cases hy : y.1 = k <;> simp only [cg_s, hx, hy, if_true, if_false]
    grind
  | trans _ _ a b => exact a.trans b
theorem cg_d_p {k : Int32} {L M : List (Int32 × Int32)} (h : L.Perm M) : cg_d k L = cg_d k M := by
  induction h with
  | nil => rfl
  | cons x p ih => simp only [cg_d, ih, p.mem_iff]
  | swap x y l =>
    by_cases e : x = y
    · subst e; rfl
    · have e' : ¬ y = x := fun z => e z.symm
      simp only [cg_d, List.mem_cons, e, e', false_or]
      by_cases a : x.1 = k ∧ ¬ x ∈ l
      · by_cases b : y.1 = k ∧ ¬ y ∈ l
        · simp only [if_pos a, if_pos b]
        · simp only [if_pos a, if_neg b]
      · by_cases b : y.1 = k ∧ ¬ y ∈ l
        · simp only [if_neg a, if_pos b]
        · simp only [if_neg a, if_neg b]
  | trans _ _ a b => exact a.trans b
theorem cg_R_p {k : Int32} {L M : List (Int32 × Int32)} (h : L.Perm M) (p : Nat) : cg_R k L p = cg_R k M p := by
  funext w
  unfold cg_R
  rw [cg_lo_p h, cg_e_p h]
theorem cg_r_p {k : Int32} {L M : List (Int32 × Int32)} (h : L.Perm M) (p : Nat) : cg_r k L p = cg_r k M p := by
  unfold cg_r
  rw [cg_R_p h]
theorem cg_F_p {L M : List (Int32 × Int32)} (h : L.Perm M) (k : Int32) (f : Nat) : cg_F L k f = cg_F M k f := by
  unfold cg_F
  simp only [cg_c_p h, cg_s_p h, cg_d_p h, cg_r_p h]
theorem cg_h_p {L M : List (Int32 × Int32)} (h : L.Perm M) (fl ce k : Int32) : cg_h fl ce L k = cg_h fl ce M k := by
  unfold cg_h
  simp only [cg_c_p h, cg_d_p h]
theorem cg_Fu_p {L M : List (Int32 × Int32)} (h : L.Perm M) (H : cg_Fu L) : cg_Fu M := by
  intro k p hp
  rw [← cg_c_p h] at hp
  obtain ⟨w, hw⟩ := H k p hp
  exact ⟨w, by rw [← cg_R_p h]; exact hw⟩

theorem cg_lo_m (k w w' : Int32) (h : w < w') : ∀ L : List (Int32 × Int32), cg_lo k w L + cg_e k w L ≤ cg_lo k w' L
  | [] => Nat.le_refl _
  | x :: l => by
    have ih := cg_lo_m k w w' h l
    rw [cg_lo_c, cg_e_c, cg_lo_c]
    by_cases hk : x.1 = k
    · simp only [hk, true_and]
      rw [Int32.lt_iff_toInt_lt] at h
      have := @Int32.lt_iff_toInt_lt x.2 w
      have := @Int32.lt_iff_toInt_lt x.2 w'
      by_cases h1 : x.2 < w
      · have h2 : ¬ x.2 = w := fun z => by rw [z, Int32.lt_iff_toInt_lt] at h1; omega
        have h3 : x.2 < w' := by rw [Int32.lt_iff_toInt_lt] at h1 ⊢; omega
        simp only [h1, h2, h3, if_true, if_false]; omega
      · by_cases h2 : x.2 = w
        · have h3 : x.2 < w' := by rw [Int32.lt_iff_toInt_lt, h2]; omega
          simp only [h1, h2, h3, if_true, if_false]
          rw [h2] at h1 h3
          simp only [h1, h3, if_true, if_false]; omega
        · simp only [h1, h2, if_false]; omega
    · simp only [hk, false_and, if_false]; omega
theorem cg_R_u {k : Int32} {L : List (Int32 × Int32)} {p : Nat} {w w' : Int32} (h : cg_R k L p w) (h' : cg_R k L p w') : w = w' := by
  obtain ⟨a, b⟩ := h
  obtain ⟨a', b'⟩ := h'
  by_cases c : w < w'
  · have := cg_lo_m k w w' c L; omega
  · by_cases d : w' < w
    · have := cg_lo_m k w' w d L; omega
    · rw [Int32.lt_iff_toInt_lt] at c d
      exact Int32.toInt_inj.mp (by omega)
theorem cg_r_e {k : Int32} {L : List (Int32 × Int32)} {p : Nat} {w : Int32} (h : cg_R k L p w) : cg_r k L p = w :=
  cg_R_u (Classical.epsilon_spec (p := cg_R k L p) ⟨w, h⟩) h
theorem cg_e_0 (k w : Int32) : ∀ L : List (Int32 × Int32), 0 < cg_e k w L → (k, w) ∈ L
  | [], h => absurd h (Nat.lt_irrefl 0)
  | x :: l, h => by
    rw [cg_e_c] at h
    by_cases hx : x.1 = k ∧ x.2 = w
    · have : x = (k, w) := Prod.ext hx.1 hx.2
      rw [this]; exact List.mem_cons_self
    · rw [if_neg hx] at h
      exact List.mem_cons_of_mem _ (cg_e_0 k w l (by omega))
theorem cg_L_m (a b : Nat → Int32) (x : Int32 × Int32) : ∀ n, x ∈ cg_L a b n ↔ ∃ j, j < n ∧ (a j, b j) = x
  | 0 => ⟨(fun h => nomatch h), fun ⟨j, h, _⟩ => absurd h (Nat.not_lt_zero j)⟩
  | n + 1 => by
    rw [cg_L, List.mem_cons, cg_L_m a b x n]
    constructor
    · rintro (h | ⟨j, hj, e⟩)
      · exact ⟨n, by omega, h.symm⟩
      · exact ⟨j, by omega, e⟩
    · rintro ⟨j, hj, e⟩
      by_cases h : j = n
      · subst h; exact Or.inl e.symm
      · exact Or.inr ⟨j, by omega, e⟩
theorem cg_L_len (a b : Nat → Int32) : ∀ n, (cg_L a b n).length = n
  | 0 => rfl
  | n + 1 => by rw [cg_L, List.length_cons, cg_L_len a b n]
theorem cg_c_le (k : Int32) (L : List (Int32 × Int32)) : cg_c k L ≤ L.length := List.countP_le_length
theorem cg_lo_le (k w : Int32) (L : List (Int32 × Int32)) : cg_lo k w L ≤ L.length := List.countP_le_length
theorem cg_e_le (k w : Int32) (L : List (Int32 × Int32)) : cg_e k w L ≤ L.length := List.countP_le_length
theorem cg_d_le (k : Int32) : ∀ L : List (Int32 × Int32), cg_d k L ≤ L.length
  | [] => Nat.le_refl _
  | x :: l => by
    have := cg_d_le k l
    rw [cg_d, List.length_cons]
    split <;> omega
theorem cg_L_e {a b a' b' : Nat → Int32} : ∀ n, (∀ j, j < n → a' j = a j ∧ b' j = b j) → cg_L a' b' n = cg_L a b n
  | 0, _ => rfl
  | n + 1, h => by
    rw [cg_L, cg_L, (h n (by omega)).1, (h n (by omega)).2, cg_L_e n (fun j hj => h j (by omega))]
end
section
section
variable (fl ce en : Int32) (K V S KK FF SB BE : Nat → Int32)
theorem cy_count_l (post : Int32 → Prop) (k : Int32) {n : Nat} (hn : n ≤ 40) (h : post (nI (cg_c k (cg_L K V n)))) : ∀ d i, i + d = n → wY_count_4 post k (nI n) fl ce en K V S KK FF SB BE (d + 1) (nI (cg_c k (cg_L K V i))) (nI i) := by
  intro d
  induction d with
  | zero =>
    intro i e
    obtain rfl : i = n := by omega
    exact br_t (Int32.le_refl _) h
  | succ d ih =>
    intro i e
    have hc := nI_clamp (n := i) (by omega)
    refine br_f (nI_ge (by omega) (by omega)) ⟨vp_in_nI (by omega) (by omega), ?_⟩
    rw [hc]
    by_cases hk : K i = k
    · have e1 : nI (cg_c k (cg_L K V i)) + 1 = nI (cg_c k (cg_L K V (i + 1))) := by rw [nI_1, cg_L, cg_c_c, if_pos hk]
      exact br_t hk (nm_r e1 (nm_r (nI_1 i) (ih (i + 1) (by omega))))
    · have e1 : cg_c k (cg_L K V (i + 1)) = cg_c k (cg_L K V i) := by rw [cg_L, cg_c_c, if_neg hk]; rfl
      refine br_f hk (nm_r (nI_1 i) ?_)
      rw [← e1]
      exact ih (i + 1) (by omega)
theorem cy_count (post : Int32 → Prop) (k : Int32) {n : Nat} (hn : n ≤ 40) (h : post (nI (cg_c k (cg_L K V n)))) : wpY_count post (nI n, fl, ce, en, K, V, S, KK, FF, SB, BE) k :=
  ⟨n + 1, cy_count_l fl ce en K V S KK FF SB BE post k hn h n 0 (by omega)⟩
theorem cy_sum_l (post : Int32 → Prop) (k : Int32) {n : Nat} (hn : n ≤ 40) (h : post (cg_s k (cg_L K V n))) : ∀ d i, i + d = n → wY_sum_4 post k (nI n) fl ce en K V S KK FF SB BE (d + 1) (cg_s k (cg_L K V i)) (nI i) := by
  intro d
  induction d with
  | zero =>
    intro i e
    obtain rfl : i = n := by omega
    exact br_t (Int32.le_refl _) h
  | succ d ih =>
    intro i e
    have hc := nI_clamp (n := i) (by omega)
    have hi : vp_in (nI i) 40 := vp_in_nI (by omega) (by omega)
    refine br_f (nI_ge (by omega) (by omega)) ⟨hi, ?_⟩
    rw [hc]
    by_cases hk : K i = k
    · have e1 : cg_s k (cg_L K V i) + V i = cg_s k (cg_L K V (i + 1)) := by rw [cg_L, cg_s, if_pos hk]
      exact br_t hk ⟨hi, nm_r e1 (nm_r (nI_1 i) (ih (i + 1) (by omega)))⟩
    · have e1 : cg_s k (cg_L K V (i + 1)) = cg_s k (cg_L K V i) := by rw [cg_L, cg_s, if_neg hk]
      refine br_f hk (nm_r (nI_1 i) ?_)
      rw [← e1]
      exact ih (i + 1) (by omega)
theorem cy_sum (post : Int32 → Prop) (k : Int32) {n : Nat} (hn : n ≤ 40) (h : post (cg_s k (cg_L K V n))) : wpY_sum post (nI n, fl, ce, en, K, V, S, KK, FF, SB, BE) k :=
  ⟨n + 1, cy_sum_l fl ce en K V S KK FF SB BE post k hn h n 0 (by omega)⟩
theorem cy_seen_l (post : Int32 → Prop) (rw' : Int32) {i : Nat} (hi : i < 40) (h0 : ¬ (K i, V i) ∈ cg_L K V i → post 0) (h1 : (K i, V i) ∈ cg_L K V i → post 1) : ∀ d j, j + d = i → ¬ (K i, V i) ∈ cg_L K V j → wY_seenBefore_2 post (nI i) rw' fl ce en K V S KK FF SB BE (d + 1) (nI j) := by
  intro d
  induction d with
  | zero =>
    intro j e hm
    obtain rfl : j = i := by omega
    exact br_t (Int32.le_refl _) (h0 hm)
  | succ d ih =>
    intro j e hm
    have hc := nI_clamp (n := j) (by omega)
    have hci := nI_clamp (n := i) (by omega)
    have hi : vp_in (nI i) 40 := vp_in_nI (by omega) (by omega)
    have hj : vp_in (nI j) 40 := vp_in_nI (by omega) (by omega)
    refine br_f (nI_ge (by omega) (by omega)) ⟨hj, hi, ?_⟩
    rw [hc, hci]
    by_cases hk : K j = K i
    · refine br_t hk ⟨hj, hi, ?_⟩
      by_cases hv : V j = V i
      · exact br_t hv (h1 ((cg_L_m K V _ i).mpr ⟨j, by omega, by rw [hk, hv]⟩))
      · refine br_f hv (nm_r (nI_1 j) (ih (j + 1) (by omega) ?_))
        rw [cg_L, List.mem_cons]
        exact fun z => z.elim (fun q => hv (congrArg Prod.snd q).symm) hm
    · refine br_f hk (nm_r (nI_1 j) (ih (j + 1) (by omega) ?_))
      rw [cg_L, List.mem_cons]
      exact fun z => z.elim (fun q => hk (congrArg Prod.fst q).symm) hm
theorem cy_seen (post : Int32 → Prop) (rw' : Int32) {i : Nat} (hi : i < 40) (h0 : ¬ (K i, V i) ∈ cg_L K V i → post 0) (h1 : (K i, V i) ∈ cg_L K V i → post 1) : wpY_seenBefore post (rw', fl, ce, en, K, V, S, KK, FF, SB, BE) (nI i) :=
  ⟨i + 1, cy_seen_l fl ce en K V S KK FF SB BE post rw' hi h0 h1 i 0 (by omega) (fun z => nomatch z)⟩
theorem cy_diff_l (post : Int32 → Prop) (k : Int32) {n : Nat} (hn : n ≤ 40) (h : post (nI (cg_d k (cg_L K V n)))) : ∀ d i, i + d = n → wY_different_4 post k (nI n) fl ce en K V S KK FF SB BE (d + 1) (nI (cg_d k (cg_L K V i))) (nI i) := by
  intro d
  induction d with
  | zero =>
    intro i e
    obtain rfl : i = n := by omega
    exact br_t (Int32.le_refl _) h
  | succ d ih =>
    intro i e
    have hc := nI_clamp (n := i) (by omega)
    have hi : vp_in (nI i) 40 := vp_in_nI (by omega) (by omega)
    refine br_f (nI_ge (by omega) (by omega)) ⟨hi, ?_⟩
    rw [hc]
    by_cases hk : K i = k
    · refine br_t hk (cy_seen fl ce en K V S KK FF SB BE _ (nI n) (by omega) (fun hm => ?_) (fun hm => ?_))
      · have e1 : nI (cg_d k (cg_L K V i)) + 1 = nI (cg_d k (cg_L K V (i + 1))) := by rw [nI_1, cg_L, cg_d, if_pos ⟨hk, hm⟩]
        exact br_t rfl (nm_r e1 (nm_r (nI_1 i) (ih (i + 1) (by omega))))
      · have e1 : cg_d k (cg_L K V (i + 1)) = cg_d k (cg_L K V i) := by rw [cg_L, cg_d, if_neg (fun z => z.2 hm)]
        refine br_f (by decide) (nm_r (nI_1 i) ?_)
        rw [← e1]
        exact ih (i + 1) (by omega)
    · have e1 : cg_d k (cg_L K V (i + 1)) = cg_d k (cg_L K V i) := by rw [cg_L, cg_d, if_neg (fun z => hk z.1)]
      refine br_f hk (nm_r (nI_1 i) ?_)
      rw [← e1]
      exact ih (i + 1) (by omega)
theorem cy_diff (post : Int32 → Prop) (k : Int32) {n : Nat} (hn : n ≤ 40) (h : post (nI (cg_d k (cg_L K V n)))) : wpY_different post (nI n, fl, ce, en, K, V, S, KK, FF, SB, BE) k :=
  ⟨n + 1, cy_diff_l fl ce en K V S KK FF SB BE post k hn h n 0 (by omega)⟩
theorem cy_equal_l (post : Int32 → Prop) (k w : Int32) {n : Nat} (hn : n ≤ 40) (h : post (nI (cg_e k w (cg_L K V n)))) : ∀ d i, i + d = n → wY_equal_5 post k w (nI n) fl ce en K V S KK FF SB BE (d + 1) (nI (cg_e k w (cg_L K V i))) (nI i) := by
  intro d
  induction d with
  | zero =>
    intro i e
    obtain rfl : i = n := by omega
    exact br_t (Int32.le_refl _) h
  | succ d ih =>
    intro i e
    have hc := nI_clamp (n := i) (by omega)
    have hi : vp_in (nI i) 40 := vp_in_nI (by omega) (by omega)
    refine br_f (nI_ge (by omega) (by omega)) ⟨hi, ?_⟩
    rw [hc]
    by_cases hk : K i = k
    · refine br_t hk ⟨hi, ?_⟩
      by_cases hv : V i = w
      · have e1 : nI (cg_e k w (cg_L K V i)) + 1 = nI (cg_e k w (cg_L K V (i + 1))) := by rw [nI_1, cg_L, cg_e_c, if_pos ⟨hk, hv⟩]
        exact br_t hv (nm_r e1 (nm_r (nI_1 i) (ih (i + 1) (by omega))))
      · have e1 : cg_e k w (cg_L K V (i + 1)) = cg_e k w (cg_L K V i) := by rw [cg_L, cg_e_c, if_neg (fun z => hv z.2)]; rfl
        refine br_f hv (nm_r (nI_1 i) ?_)
        rw [← e1]
        exact ih (i + 1) (by omega)
    · have e1 : cg_e k w (cg_L K V (i + 1)) = cg_e k w (cg_L K V i) := by rw [cg_L, cg_e_c, if_neg (fun z => hk z.1)]; rfl
      refine br_f hk (nm_r (nI_1 i) ?_)
      rw [← e1]
      exact ih (i + 1) (by omega)
theorem cy_equal (post : Int32 → Prop) (k w : Int32) {n : Nat} (hn : n ≤ 40) (h : post (nI (cg_e k w (cg_L K V n)))) : wpY_equal post (nI n, fl, ce, en, K, V, S, KK, FF, SB, BE) k w :=
  ⟨n + 1, cy_equal_l fl ce en K V S KK FF SB BE post k w hn h n 0 (by omega)⟩
theorem cy_below_l (post : Int32 → Prop) (k w : Int32) {n : Nat} (hn : n ≤ 40) (h : post (nI (cg_lo k w (cg_L K V n)))) : ∀ d i, i + d = n → wY_below_5 post k w (nI n) fl ce en K V S KK FF SB BE (d + 1) (nI (cg_lo k w (cg_L K V i))) (nI i) := by
  intro d
  induction d with
  | zero =>
    intro i e
    obtain rfl : i = n := by omega
    exact br_t (Int32.le_refl _) h
  | succ d ih =>
    intro i e
    have hc := nI_clamp (n := i) (by omega)
    have hi : vp_in (nI i) 40 := vp_in_nI (by omega) (by omega)
    refine br_f (nI_ge (by omega) (by omega)) ⟨hi, ?_⟩
    rw [hc]
    by_cases hk : K i = k
    · refine br_t hk ⟨hi, ?_⟩
      by_cases hv : w ≤ V i
      · have e1 : cg_lo k w (cg_L K V (i + 1)) = cg_lo k w (cg_L K V i) := by rw [cg_L, cg_lo_c, if_neg (fun z => Int32.not_lt.mpr hv z.2)]; rfl
        refine br_t hv (nm_r (nI_1 i) ?_)
        rw [← e1]
        exact ih (i + 1) (by omega)
      · have e1 : nI (cg_lo k w (cg_L K V i)) + 1 = nI (cg_lo k w (cg_L K V (i + 1))) := by rw [nI_1, cg_L, cg_lo_c, if_pos ⟨hk, Int32.not_le.mp hv⟩]
        exact br_f hv (nm_r e1 (nm_r (nI_1 i) (ih (i + 1) (by omega))))
    · have e1 : cg_lo k w (cg_L K V (i + 1)) = cg_lo k w (cg_L K V i) := by rw [cg_L, cg_lo_c, if_neg (fun z => hk z.1)]; rfl
      refine br_f hk (nm_r (nI_1 i) ?_)
      rw [← e1]
      exact ih (i + 1) (by omega)
theorem cy_below (post : Int32 → Prop) (k w : Int32) {n : Nat} (hn : n ≤ 40) (h : post (nI (cg_lo k w (cg_L K V n)))) : wpY_below post (nI n, fl, ce, en, K, V, S, KK, FF, SB, BE) k w :=
  ⟨n + 1, cy_below_l fl ce en K V S KK FF SB BE post k w hn h n 0 (by omega)⟩
theorem cy_rank_l (post : Int32 → Prop) (k : Int32) {p : Nat} (hp : p < 40) {n : Nat} (hn : n ≤ 40) (hx : ∃ w, cg_R k (cg_L K V n) p w) (h : post (cg_r k (cg_L K V n) p)) : ∀ d i, i + d = n → (∀ j, j < i → ¬ (K j = k ∧ cg_R k (cg_L K V n) p (V j))) → wY_ranked_2 post k (nI p) (nI n) fl ce en K V S KK FF SB BE (d + 1) (nI i) := by
  intro d
  induction d with
  | zero =>
    intro i e hno
    obtain rfl : i = n := by omega
    obtain ⟨w, hw⟩ := hx
    obtain ⟨j, hj, ej⟩ := (cg_L_m K V (k, w) i).mp (cg_e_0 k w _ (by have := hw.1; have := hw.2; omega))
    have e1 : K j = k := congrArg Prod.fst ej
    have e2 : V j = w := congrArg Prod.snd ej
    exact absurd ⟨e1, by rw [e2]; exact hw⟩ (hno j hj)
  | succ d ih =>
    intro i e hno
    have hc := nI_clamp (n := i) (by omega)
    have hi : vp_in (nI i) 40 := vp_in_nI (by omega) (by omega)
    have hlo := cg_lo_le k (V i) (cg_L K V n)
    have heq := cg_e_le k (V i) (cg_L K V n)
    rw [cg_L_len] at hlo heq
    refine br_f (nI_ge (by omega) (by omega)) ⟨hi, ?_⟩
    rw [hc]
    refine cy_below fl ce en K V S KK FF SB BE _ k (V i) hn ⟨hi, ?_⟩
    refine cy_equal fl ce en K V S KK FF SB BE _ k (V i) hn ⟨hi, ?_⟩
    have next : ¬ (K i = k ∧ cg_R k (cg_L K V n) p (V i)) → wY_ranked_2 post k (nI p) (nI n) fl ce en K V S KK FF SB BE (d + 1) (nI (i + 1)) := by
      intro hno'
      refine ih (i + 1) (by omega) (fun j hj => ?_)
      by_cases z : j = i
      · rw [z]; exact hno'
      · exact hno j (by omega)
    by_cases hk : K i = k
    · refine br_t hk ?_
      refine pk_lt p _ (fun hl => nm_r (nI_1 i) (next (fun z => ?_))) (fun hl => ?_)
      · have := z.2.1; omega
      · rw [nI_add]
        refine pk_le _ p (fun hm => nm_r (nI_1 i) (next (fun z => ?_))) (fun hm => ⟨hi, ?_⟩)
        · have := z.2.2; omega
        · rw [← cg_r_e (k := k) (L := cg_L K V n) (p := p) (w := V i) ⟨hl, hm⟩]; exact h
    · exact br_f hk (nm_r (nI_1 i) (next (fun z => hk z.1)))
theorem cy_rank (post : Int32 → Prop) (k : Int32) {p : Nat} (hp : p < 40) {n : Nat} (hn : n ≤ 40) (hx : ∃ w, cg_R k (cg_L K V n) p w) (h : post (cg_r k (cg_L K V n) p)) : wpY_ranked post (nI n, fl, ce, en, K, V, S, KK, FF, SB, BE) k (nI p) :=
  ⟨n + 1, cy_rank_l fl ce en K V S KK FF SB BE post k hp hn hx h n 0 (by omega) (fun j hj => absurd hj (Nat.not_lt_zero j))⟩
end
end
section
def cg_b : Bool → Int32
  | true => 1
  | false => 0
theorem cg_b_nar (b : Bool) : vp_nar .boolean (cg_b b) = cg_b b := by cases b <;> rfl
theorem cg_ix (q f : Nat) : (6 : Int32) * nI q + nI f = nI (6 * q + f) := by
  rw [← nI_add, ← pk_mul]; rfl
theorem cg_ix' (q f : Nat) : nI q * (6 : Int32) + nI f = nI (6 * q + f) := by
  rw [Nat.mul_comm, ← nI_add, ← pk_mul]; rfl
noncomputable def cg_q (g g' : Nat → Int32) : Bool := @decide (∀ f, f < 6 → g f = g' f) (Classical.propDecidable _)
theorem cg_q_t {g g' : Nat → Int32} (h : ∀ f, f < 6 → g f = g' f) : cg_q g g' = true := @decide_eq_true _ (Classical.propDecidable _) h
theorem cg_q_f {g g' : Nat → Int32} (h : ¬ ∀ f, f < 6 → g f = g' f) : cg_q g g' = false := @decide_eq_false _ (Classical.propDecidable _) h
def cg_u (F : Nat → Int32) (b : Nat) (g : Nat → Int32) : Nat → Nat → Int32
  | 0 => F
  | m + 1 => upd (cg_u F b g m) (b + m) (g m)
theorem cg_u_e (F : Nat → Int32) (b : Nat) {g g' : Nat → Int32} : ∀ m, (∀ f, f < m → g f = g' f) → cg_u F b g m = cg_u F b g' m
  | 0, _ => rfl
  | m + 1, h => by rw [cg_u, cg_u, cg_u_e F b m (fun f hf => h f (by omega)), h m (by omega)]
abbrev cg_S : Type := Nat × (Nat → Int32) × (Nat → Int32) × (Nat → Int32)
def cg_put (t k : Int32) (g : Nat → Int32) (s : cg_S) : cg_S := (s.1 + 1, upd s.2.1 s.1 t, upd s.2.2.1 s.1 k, cg_u s.2.2.2 (6 * s.1) g 6)
def cg_st (sb sa sm : Bool) (k : Int32) (go gn : Nat → Int32) (s : cg_S) : cg_S :=
  match sb, sa, sm with
  | false, false, _ => s
  | false, true, _ => cg_put 2 k gn s
  | true, false, _ => cg_put 1 k go s
  | true, true, true => s
  | true, true, false => cg_put 2 k gn (cg_put 1 k go s)
def cg_lg (sb sa sm : Nat → Bool) (go gn : Nat → Nat → Int32) (s : cg_S) : Nat → cg_S
  | 0 => s
  | q + 1 => cg_st (sb q) (sa q) (sm q) (nI q) (go q) (gn q) (cg_lg sb sa sm go gn s q)
section
variable (fl ce en : Int32) (K V S KK FF SB BE : Nat → Int32)
theorem cy_shown (post : Int32 → Prop) (k : Int32) {n : Nat} (hn : n ≤ 40) (h : post (cg_b (cg_h fl ce (cg_L K V n) k))) : wpY_shown post (nI n, fl, ce, en, K, V, S, KK, FF, SB, BE) k := by
  have hcl := cg_c_le k (cg_L K V n)
  rw [cg_L_len] at hcl
  unfold wpY_shown
  dsimp only
  refine cy_count fl ce en K V S KK FF SB BE _ k hn ?_
  by_cases h0 : cg_c k (cg_L K V n) = 0
  · have e : cg_h fl ce (cg_L K V n) k = false := decide_eq_false (fun z => by have := z.1; omega)
    rw [e] at h
    exact br_t (by rw [h0]; decide) h
  · refine br_f (nI_nle (by omega) (by omega)) ?_
    by_cases h1 : nI (cg_c k (cg_L K V n)) < fl
    · have e : cg_h fl ce (cg_L K V n) k = false := decide_eq_false (fun z => z.2.1 h1)
      rw [e] at h
      exact br_t h1 h
    · refine br_f h1 (cy_diff fl ce en K V S KK FF SB BE _ k hn ?_)
      by_cases h2 : ce < nI (cg_d k (cg_L K V n))
      · have e : cg_h fl ce (cg_L K V n) k = false := decide_eq_false (fun z => z.2.2 h2)
        rw [e] at h
        exact br_t h2 h
      · have e : cg_h fl ce (cg_L K V n) k = true := decide_eq_true ⟨by omega, h1, h2⟩
        rw [e] at h
        exact br_f h2 h
theorem cy_now (post : Int32 → Prop) (k p : Int32) {n : Nat} (hn : n ≤ 40) (hF : cg_Fu (cg_L K V n)) (h : ∀ f : Nat, f < 6 → p = nI f → post (cg_F (cg_L K V n) k f)) (h' : (∀ f : Nat, f < 6 → ¬ p = nI f) → post 0) : wpY_now post (nI n, fl, ce, en, K, V, S, KK, FF, SB, BE) k p := by
  have hcl := cg_c_le k (cg_L K V n)
  rw [cg_L_len] at hcl
  unfold wpY_now
  dsimp only
  refine cy_count fl ce en K V S KK FF SB BE _ k hn ?_
  by_cases h0 : cg_c k (cg_L K V n) = 0
  · refine br_t (by rw [h0]; decide) ?_
    by_cases hp : ∃ f : Nat, f < 6 ∧ p = nI f
    · obtain ⟨f, hf, e⟩ := hp
      have := h f hf e
      unfold cg_F at this
      rw [if_pos h0] at this
      exact this
    · exact h' (fun f hf e => hp ⟨f, hf, e⟩)
  · refine br_f (nI_ne0 (by omega) (by omega)) ?_
    have e1 : nI (cg_c k (cg_L K V n)) - 1 = nI (cg_c k (cg_L K V n) - 1) := pk_sub (b := 1) (by omega)
    refine br_c (fun e => ?_) (fun n0 => ?_)
    · have := h 0 (by omega) e
      unfold cg_F at this
      rw [if_neg h0] at this
      exact this
    refine br_c (fun e => ?_) (fun n1 => ?_)
    · have := h 1 (by omega) e
      unfold cg_F at this
      rw [if_neg h0] at this
      exact cy_sum fl ce en K V S KK FF SB BE _ k hn this
    refine br_c (fun e => ?_) (fun n2 => ?_)
    · have := h 2 (by omega) e
      unfold cg_F at this
      rw [if_neg h0] at this
      exact cy_rank fl ce en K V S KK FF SB BE _ k (p := 0) (by omega) hn (hF k 0 (by omega)) this
    refine br_c (fun e => ?_) (fun n3 => ?_)
    · have := h 3 (by omega) e
      unfold cg_F at this
      rw [if_neg h0] at this
      rw [e1]
      exact cy_rank fl ce en K V S KK FF SB BE _ k (by omega) hn (hF k _ (by omega)) this
    refine br_c (fun e => ?_) (fun n4 => ?_)
    · have := h 4 (by omega) e
      unfold cg_F at this
      rw [if_neg h0] at this
      exact cy_diff fl ce en K V S KK FF SB BE _ k hn this
    refine br_c (fun e => ⟨by decide, ?_⟩) (fun n5 => ?_)
    · have := h 5 (by omega) e
      unfold cg_F at this
      rw [if_neg h0] at this
      have e2 : nI (cg_c k (cg_L K V n) - 1) / 2 = nI ((cg_c k (cg_L K V n) - 1) / 2) := pk_div (d := 2) (by omega) (by omega) (by omega)
      rw [e1, e2]
      exact cy_rank fl ce en K V S KK FF SB BE _ k (by omega) hn (hF k _ (by omega)) this
    · refine h' (fun f hf e => ?_)
      match f, hf with
      | 0, _ => exact n0 e
      | 1, _ => exact n1 e
      | 2, _ => exact n2 e
      | 3, _ => exact n3 e
      | 4, _ => exact n4 e
      | 5, _ => exact n5 e
theorem cy_nowI (post : Int32 → Prop) (k : Int32) {n f : Nat} (hn : n ≤ 40) (hf : f < 6) (hF : cg_Fu (cg_L K V n)) (h : post (cg_F (cg_L K V n) k f)) : wpY_now post (nI n, fl, ce, en, K, V, S, KK, FF, SB, BE) k (nI f) := by
  refine cy_now fl ce en K V S KK FF SB BE post k (nI f) hn hF (fun f' hf' e => ?_) (fun z => absurd rfl (z f hf))
  rw [nI_eq (by omega) (by omega)] at e
  rw [← e]; exact h
theorem cy_same_l (post : Int32 → Prop) {n q : Nat} (hn : n ≤ 40) (hq : q < 8) (hF : cg_Fu (cg_L K V n)) (h : post (cg_b (cg_q (fun f => BE (6 * q + f)) (cg_F (cg_L K V n) (nI q))))) : ∀ d f, f + d = 6 → (∀ f', f' < f → BE (6 * q + f') = cg_F (cg_L K V n) (nI q) f') → wY_sameAsBefore_2 post (nI q) (nI n) fl ce en K V S KK FF SB BE (d + 1) (nI f) := by
  intro d
  induction d with
  | zero =>
    intro f e hb
    obtain rfl : f = 6 := by omega
    have e : cg_q (fun f => BE (6 * q + f)) (cg_F (cg_L K V n) (nI q)) = true := cg_q_t hb
    rw [e] at h
    exact br_t (Int32.le_refl _) h
  | succ d ih =>
    intro f e hb
    refine br_f (nI_ge (b := 6) (by omega) (by decide)) ?_
    rw [cg_ix]
    refine ⟨vp_in_nI (by omega) (by omega), ?_⟩
    rw [nI_clamp (by omega)]
    refine cy_nowI fl ce en K V S KK FF SB BE _ (nI q) hn (by omega) hF ?_
    refine br_c (fun e1 => nm_r (nI_1 f) (ih (f + 1) (by omega) (lt_s hb e1))) (fun e1 => ?_)
    have e : cg_q (fun f => BE (6 * q + f)) (cg_F (cg_L K V n) (nI q)) = false := cg_q_f (fun z => e1 (z f (by omega)))
    rw [e] at h
    exact h
theorem cy_same (post : Int32 → Prop) {n q : Nat} (hn : n ≤ 40) (hq : q < 8) (hF : cg_Fu (cg_L K V n)) (h : post (cg_b (cg_q (fun f => BE (6 * q + f)) (cg_F (cg_L K V n) (nI q))))) : wpY_sameAsBefore post (nI n, fl, ce, en, K, V, S, KK, FF, SB, BE) (nI q) :=
  ⟨7, cy_same_l fl ce en K V S KK FF SB BE post hn hq hF h 6 0 (by omega) (fun j hj => absurd hj (Nat.not_lt_zero j))⟩
/-- Y's memory up to the linear place m -/
def cg_M (L : List (Int32 × Int32)) (B : Nat → Int32) (m : Nat) : Prop := ∀ j i, i < 6 → 6 * j + i < m → B (6 * j + i) = cg_F L (nI j) i
theorem cg_M_s {L : List (Int32 × Int32)} {B : Nat → Int32} {q f : Nat} (hf : f < 6) (h : cg_M L B (6 * q + f)) : cg_M L (upd B (6 * q + f) (cg_F L (nI q) f)) (6 * q + (f + 1)) := by
  intro j i hi hm
  by_cases z : 6 * j + i = 6 * q + f
  · obtain rfl : j = q := by omega
    obtain rfl : i = f := by omega
    exact pk_us
  · rw [pk_un z]; exact h j i hi (by omega)
theorem cy_rem_i (post : SY → Prop) (J : Int32 → (Nat → Int32) → (Nat → Int32) → (Nat → Int32) → (Nat → Int32) → (Nat → Int32) → (Nat → Int32) → (Nat → Int32) → Prop) {n q : Nat} (hn : n ≤ 40) (hq : q < 8) (hF : cg_Fu (cg_L K V n)) (h : ∀ B, cg_M (cg_L K V n) B (6 * (q + 1)) → J (nI (q + 1)) K V S KK FF SB B) : ∀ d f B, f + d = 6 → cg_M (cg_L K V n) B (6 * q + f) → wY_remember_21 post J (nI q) (nI n) fl ce en (d + 1) (nI f) K V S KK FF SB B := by
  intro d
  induction d with
  | zero =>
    intro f B e hb
    obtain rfl : f = 6 := by omega
    exact br_t (Int32.le_refl _) (nm_r (nI_1 q) (h B hb))
  | succ d ih =>
    intro f B e hb
    refine br_f (nI_ge (b := 6) (by omega) (by decide)) ?_
    refine cy_nowI fl ce en K V S KK FF SB B _ (nI q) hn (by omega) hF ?_
    rw [cg_ix]
    refine ⟨vp_in_nI (by omega) (by omega), ?_⟩
    rw [nI_clamp (by omega)]
    exact nm_e (nm_r (nI_1 f) (ih (f + 1) _ (by omega) (cg_M_s (by omega) hb)))
theorem cy_rem_l (post : SY → Prop) {n : Nat} (hn : n ≤ 40) (hF : cg_Fu (cg_L K V n)) (h : ∀ A B, (∀ j, j < 8 → A j = cg_b (cg_h fl ce (cg_L K V n) (nI j))) → cg_M (cg_L K V n) B 48 → post (nI n, fl, ce, en, K, V, S, KK, FF, A, B)) : ∀ d q A B, q + d = 8 → (∀ j, j < q → A j = cg_b (cg_h fl ce (cg_L K V n) (nI j))) → cg_M (cg_L K V n) B (6 * q) → wY_remember_2 post (nI n) fl ce en (d + 1) (nI q) K V S KK FF A B := by
  intro d
  induction d with
  | zero =>
    intro q A B e ha hb
    obtain rfl : q = 8 := by omega
    exact br_t (Int32.le_refl _) (h A B ha hb)
  | succ d ih =>
    intro q A B e ha hb
    refine br_f (nI_ge (b := 8) (by omega) (by decide)) ?_
    refine cy_shown fl ce en K V S KK FF A B _ (nI q) hn ?_
    refine ⟨vp_in_nI (by omega) (by omega), ?_⟩
    rw [nI_clamp (by omega), cg_b_nar]
    refine nm_e ⟨7, cy_rem_i fl ce en K V S KK FF _ post _ hn (by omega) hF (fun B' hB' => ih (q + 1) _ B' (by omega) ?_ hB') 6 0 B (by omega) hb⟩
    refine lt_s (fun j hj => ?_) pk_us
    rw [pk_un (by omega)]; exact ha j hj
theorem cy_rem (post : SY → Prop) {n : Nat} (hn : n ≤ 40) (hF : cg_Fu (cg_L K V n)) (h : ∀ A B, (∀ j, j < 8 → A j = cg_b (cg_h fl ce (cg_L K V n) (nI j))) → cg_M (cg_L K V n) B 48 → post (nI n, fl, ce, en, K, V, S, KK, FF, A, B)) : wpY_remember post (nI n, fl, ce, en, K, V, S, KK, FF, SB, BE) :=
  ⟨9, cy_rem_l fl ce en K V S KK FF post hn hF h 8 0 SB BE (by omega) (fun j hj => absurd hj (Nat.not_lt_zero j)) (fun j i _ hm => absurd hm (Nat.not_lt_zero _))⟩
theorem cy_ent1_l (post : SY → Prop) {n e q : Nat} (he : e < 24) (hq : q < 8) (G : Nat → Int32) (h : post (nI n, fl, ce, nI (e + 1), K, V, S, KK, cg_u FF (6 * e) (fun f => BE (6 * q + f)) 6, SB, BE)) : ∀ d f, f + d = 6 → wY_enter_32 post 1 (nI q) (nI n) fl ce (nI e) (d + 1) (nI f) K V S KK (cg_u FF (6 * e) (fun f => BE (6 * q + f)) f) SB BE := by
  intro d
  induction d with
  | zero =>
    intro f e
    obtain rfl : f = 6 := by omega
    exact br_t (Int32.le_refl _) (nm_r (nI_1 _) h)
  | succ d ih =>
    intro f e
    refine br_f (nI_ge (b := 6) (by omega) (by decide)) (br_t rfl ?_)
    rw [cg_ix, cg_ix]
    refine ⟨vp_in_nI (by omega) (by omega), vp_in_nI (by omega) (by omega), ?_⟩
    rw [nI_clamp (by omega), nI_clamp (by omega)]
    exact nm_e (nm_r (nI_1 f) (ih (f + 1) (by omega)))
theorem cy_ent2_l (post : SY → Prop) {n e q : Nat} (hn : n ≤ 40) (he : e < 24) (hF : cg_Fu (cg_L K V n)) (h : post (nI n, fl, ce, nI (e + 1), K, V, S, KK, cg_u FF (6 * e) (cg_F (cg_L K V n) (nI q)) 6, SB, BE)) : ∀ d f, f + d = 6 → wY_enter_32 post 2 (nI q) (nI n) fl ce (nI e) (d + 1) (nI f) K V S KK (cg_u FF (6 * e) (cg_F (cg_L K V n) (nI q)) f) SB BE := by
  intro d
  induction d with
  | zero =>
    intro f e
    obtain rfl : f = 6 := by omega
    exact br_t (Int32.le_refl _) (nm_r (nI_1 _) h)
  | succ d ih =>
    intro f e
    refine br_f (nI_ge (b := 6) (by omega) (by decide)) (br_f (by decide) ?_)
    refine cy_nowI fl ce _ K V S KK _ SB BE _ (nI q) hn (by omega) hF ?_
    rw [cg_ix]
    refine ⟨vp_in_nI (by omega) (by omega), ?_⟩
    rw [nI_clamp (by omega)]
    exact nm_e (nm_r (nI_1 f) (ih (f + 1) (by omega)))
theorem cy_ent1 (post : SY → Prop) {n q : Nat} {s : cg_S} (he : s.1 < 24) (hq : q < 8) {g : Nat → Int32} (hg : ∀ f, f < 6 → BE (6 * q + f) = g f) (h : post (nI n, fl, ce, nI (cg_put 1 (nI q) g s).1, K, V, (cg_put 1 (nI q) g s).2.1, (cg_put 1 (nI q) g s).2.2.1, (cg_put 1 (nI q) g s).2.2.2, SB, BE)) : wpY_enter post (nI n, fl, ce, nI s.1, K, V, s.2.1, s.2.2.1, s.2.2.2, SB, BE) 1 (nI q) := by
  have e : cg_u s.2.2.2 (6 * s.1) g 6 = cg_u s.2.2.2 (6 * s.1) (fun f => BE (6 * q + f)) 6 := (cg_u_e _ _ 6 hg).symm
  simp only [cg_put, e] at h
  have hi : vp_in (nI s.1) 24 := vp_in_nI he (by omega)
  have h24 : ¬ nI s.1 = 24 := fun z => by
    have z' : nI s.1 = nI 24 := z
    rw [nI_eq (by omega) (by omega)] at z'
    omega
  refine br_f h24 ⟨hi, ?_⟩
  rw [nI_clamp (by omega)]
  refine nm_e ⟨hi, nm_e ⟨7, ?_⟩⟩
  exact cy_ent1_l fl ce K V _ _ s.2.2.2 SB BE post he hq BE h 6 0 (by omega)
theorem cy_ent2 (post : SY → Prop) {n q : Nat} {s : cg_S} (hn : n ≤ 40) (he : s.1 < 24) (hF : cg_Fu (cg_L K V n)) {g : Nat → Int32} (hg : ∀ f, f < 6 → cg_F (cg_L K V n) (nI q) f = g f) (h : post (nI n, fl, ce, nI (cg_put 2 (nI q) g s).1, K, V, (cg_put 2 (nI q) g s).2.1, (cg_put 2 (nI q) g s).2.2.1, (cg_put 2 (nI q) g s).2.2.2, SB, BE)) : wpY_enter post (nI n, fl, ce, nI s.1, K, V, s.2.1, s.2.2.1, s.2.2.2, SB, BE) 2 (nI q) := by
  have e : cg_u s.2.2.2 (6 * s.1) g 6 = cg_u s.2.2.2 (6 * s.1) (cg_F (cg_L K V n) (nI q)) 6 := (cg_u_e _ _ 6 hg).symm
  simp only [cg_put, e] at h
  have hi : vp_in (nI s.1) 24 := vp_in_nI he (by omega)
  have h24 : ¬ nI s.1 = 24 := fun z => by
    have z' : nI s.1 = nI 24 := z
    rw [nI_eq (by omega) (by omega)] at z'
    omega
  refine br_f h24 ⟨hi, ?_⟩
  rw [nI_clamp (by omega)]
  refine nm_e ⟨hi, nm_e ⟨7, ?_⟩⟩
  exact cy_ent2_l fl ce K V _ _ s.2.2.2 SB BE post hn he hF h 6 0 (by omega)
end
end
section
section
variable (fl ce : Int32) (K V SB BE : Nat → Int32)
theorem cy_t60 (post : SY → Prop) (J : Int32 → Int32 → Int32 → Int32 → Int32 → (Nat → Int32) → (Nat → Int32) → (Nat → Int32) → (Nat → Int32) → (Nat → Int32) → (Nat → Int32) → (Nat → Int32) → Prop) {n q : Nat} {s : cg_S} (hn : n ≤ 40) (he : s.1 < 24) (hF : cg_Fu (cg_L K V n)) {g : Nat → Int32} (hg : ∀ f, f < 6 → cg_F (cg_L K V n) (nI q) f = g f) (h : J (nI (q + 1)) (nI n) fl ce (nI (cg_put 2 (nI q) g s).1) K V (cg_put 2 (nI q) g s).2.1 (cg_put 2 (nI q) g s).2.2.1 (cg_put 2 (nI q) g s).2.2.2 SB BE) : wY_tell_60 post J (nI q) (nI n) fl ce (nI s.1) K V s.2.1 s.2.2.1 s.2.2.2 SB BE := by
  unfold wY_tell_60
  refine cy_ent2 fl ce K V SB BE _ hn he hF hg ?_
  exact nm_r (nI_1 q) h
theorem cy_tell_l (post : SY → Prop) {n : Nat} (hn : n ≤ 40) (hF : cg_Fu (cg_L K V n)) (sb sa sm : Nat → Bool) (go gn : Nat → Nat → Int32) (s : cg_S)
    (hA : ∀ j, j < 8 → SB j = cg_b (sb j)) (hsa : ∀ j, j < 8 → cg_h fl ce (cg_L K V n) (nI j) = sa j) (hsm : ∀ j, j < 8 → cg_q (fun f => BE (6 * j + f)) (cg_F (cg_L K V n) (nI j)) = sm j)
    (hgo : ∀ j, j < 8 → ∀ f, f < 6 → BE (6 * j + f) = go j f) (hgn : ∀ j, j < 8 → ∀ f, f < 6 → cg_F (cg_L K V n) (nI j) f = gn j f) (hlg : ∀ q, q ≤ 8 → (cg_lg sb sa sm go gn s q).1 ≤ 24)
    (h : post (nI n, fl, ce, nI (cg_lg sb sa sm go gn s 8).1, K, V, (cg_lg sb sa sm go gn s 8).2.1, (cg_lg sb sa sm go gn s 8).2.2.1, (cg_lg sb sa sm go gn s 8).2.2.2, SB, BE)) :
    ∀ d q, q + d = 8 → wY_tell_2 post (d + 1) (nI q) (nI n) fl ce (nI (cg_lg sb sa sm go gn s q).1) K V (cg_lg sb sa sm go gn s q).2.1 (cg_lg sb sa sm go gn s q).2.2.1 (cg_lg sb sa sm go gn s q).2.2.2 SB BE := by
  intro d
  induction d with
  | zero =>
    intro q e
    obtain rfl : q = 8 := by omega
    exact br_t (Int32.le_refl _) h
  | succ d ih =>
    intro q e
    have hJ := ih (q + 1) (by omega)
    have hl := hlg (q + 1) (by omega)
    have hq : q < 8 := by omega
    rw [cg_lg] at hJ hl
    have hSB := hA q hq
    have hgo := hgo q hq
    have hgn := hgn q hq
    have hsa := hsa q hq
    have hsm := hsm q hq
    generalize cg_lg sb sa sm go gn s q = t at hJ hl ⊢
    refine br_f (nI_ge (b := 8) (by omega) (by decide)) ?_
    refine cy_shown fl ce _ K V _ _ _ SB BE _ (nI q) hn ?_
    refine cy_same fl ce _ K V _ _ _ SB BE _ hn hq hF ?_
    rw [hsa, hsm]
    have hi : vp_in (nI q) 8 := vp_in_nI hq (by omega)
    refine ⟨hi, ?_⟩
    have hcl : (nI q).toNatClampNeg = q := nI_clamp (by omega)
    have hS : SB (nI q).toNatClampNeg = cg_b (sb q) := by rw [hcl]; exact hSB
    cases hb : sb q
    · rw [hb] at hJ hl hS
      have h0 : SB (nI q).toNatClampNeg = 0 := hS
      refine br_t h0 ?_
      cases ha : sa q
      · rw [ha] at hJ hl
        exact br_t rfl (nm_r (nI_1 q) hJ)
      · rw [ha] at hJ hl
        exact br_f (by decide) ⟨hi, br_t h0 (cy_t60 fl ce K V SB BE post _ hn (by have : t.1 + 1 ≤ 24 := hl; omega) hF hgn hJ)⟩
    · rw [hb] at hJ hl hS
      have h0 : ¬ SB (nI q).toNatClampNeg = 0 := by rw [hS]; decide
      refine br_f h0 ?_
      cases ha : sa q
      · rw [ha] at hJ hl
        refine br_t rfl ?_
        unfold wY_tell_37
        refine cy_ent1 fl ce K V SB BE _ (by have : t.1 + 1 ≤ 24 := hl; omega) hq hgo ?_
        exact br_t rfl (nm_r (nI_1 q) hJ)
      · rw [ha] at hJ hl
        refine br_f (by decide) ?_
        cases hc : sm q
        · rw [hc] at hJ hl
          refine br_t rfl ?_
          unfold wY_tell_37
          have hl' : t.1 + 1 + 1 ≤ 24 := hl
          refine cy_ent1 fl ce K V SB BE _ (by omega) hq hgo ?_
          exact br_f (by decide) ⟨hi, br_f h0 (br_t rfl (cy_t60 fl ce K V SB BE post _ hn (show t.1 + 1 < 24 by omega) hF hgn hJ))⟩
        · rw [hc] at hJ hl
          exact br_f (by decide) (br_f (by decide) ⟨hi, br_f h0 (br_f (by decide) (nm_r (nI_1 q) hJ))⟩)
theorem cy_tell (post : SY → Prop) {n : Nat} (hn : n ≤ 40) (hF : cg_Fu (cg_L K V n)) (sb sa sm : Nat → Bool) (go gn : Nat → Nat → Int32) (s : cg_S)
    (hA : ∀ j, j < 8 → SB j = cg_b (sb j)) (hsa : ∀ j, j < 8 → cg_h fl ce (cg_L K V n) (nI j) = sa j) (hsm : ∀ j, j < 8 → cg_q (fun f => BE (6 * j + f)) (cg_F (cg_L K V n) (nI j)) = sm j)
    (hgo : ∀ j, j < 8 → ∀ f, f < 6 → BE (6 * j + f) = go j f) (hgn : ∀ j, j < 8 → ∀ f, f < 6 → cg_F (cg_L K V n) (nI j) f = gn j f) (hlg : ∀ q, q ≤ 8 → (cg_lg sb sa sm go gn s q).1 ≤ 24)
    (h : post (nI n, fl, ce, nI (cg_lg sb sa sm go gn s 8).1, K, V, (cg_lg sb sa sm go gn s 8).2.1, (cg_lg sb sa sm go gn s 8).2.2.1, (cg_lg sb sa sm go gn s 8).2.2.2, SB, BE)) :
    wpY_tell post (nI n, fl, ce, nI s.1, K, V, s.2.1, s.2.2.1, s.2.2.2, SB, BE) :=
  ⟨9, cy_tell_l fl ce K V SB BE post hn hF sb sa sm go gn s hA hsa hsm hgo hgn hlg h 8 0 (by omega)⟩
end
end
section
def cg_lb (x y : Int32 × Int32) : Bool := decide (x.1 < y.1 ∨ (x.1 = y.1 ∧ x.2 < y.2))
def cg_le (x y : Int32 × Int32) : Bool := decide (x.1 < y.1 ∨ (x.1 = y.1 ∧ x.2 ≤ y.2))
def cg_kl (k : Int32) (x : Int32 × Int32) : Bool := decide (x.1 ≤ k)
def cg_B (x : Int32 × Int32) (L : List (Int32 × Int32)) : Nat := L.countP (fun y => cg_lb y x)
def cg_So (a b : Nat → Int32) (n : Nat) : Prop := ∀ i j, i < j → j < n → (a i).toInt < (a j).toInt ∨ ((a i).toInt = (a j).toInt ∧ (b i).toInt ≤ (b j).toInt)
def cg_mo (p : Int32 × Int32 → Bool) (a b : Nat → Int32) (n : Nat) : Prop := ∀ i j, i < j → j < n → p (a j, b j) = true → p (a i, b i) = true
theorem cg_eqi (x y : Int32) : x = y ↔ x.toInt = y.toInt := Int32.toInt_inj.symm
theorem cg_lb_i (x y : Int32 × Int32) : cg_lb x y = true ↔ x.1.toInt < y.1.toInt ∨ (x.1.toInt = y.1.toInt ∧ x.2.toInt < y.2.toInt) := by
  unfold cg_lb
  rw [decide_eq_true_eq, Int32.lt_iff_toInt_lt, Int32.lt_iff_toInt_lt, cg_eqi]
theorem cg_le_i (x y : Int32 × Int32) : cg_le x y = true ↔ x.1.toInt < y.1.toInt ∨ (x.1.toInt = y.1.toInt ∧ x.2.toInt ≤ y.2.toInt) := by
  unfold cg_le
  rw [decide_eq_true_eq, Int32.lt_iff_toInt_lt, Int32.le_iff_toInt_le, cg_eqi]
theorem cg_kl_i (k : Int32) (x : Int32 × Int32) : cg_kl k x = true ↔ x.1.toInt ≤ k.toInt := by
  unfold cg_kl
  rw [decide_eq_true_eq, Int32.le_iff_toInt_le]
theorem cg_min (x : Int32) : (-2147483648 : Int32).toInt ≤ x.toInt := by
  have h := Int32.le_toInt x
  have e : (-2147483648 : Int32).toInt = -2147483648 := by decide
  rw [e]
  omega
theorem cg_mo_lb {a b : Nat → Int32} {n : Nat} (h : cg_So a b n) (x : Int32 × Int32) : cg_mo (fun y => cg_lb y x) a b n := by
  intro i j hij hj hp
  have := h i j hij hj
  simp only [cg_lb_i] at hp ⊢
  omega
theorem cg_mo_le {a b : Nat → Int32} {n : Nat} (h : cg_So a b n) (x : Int32 × Int32) : cg_mo (fun y => cg_le y x) a b n := by
  intro i j hij hj hp
  have := h i j hij hj
  simp only [cg_le_i] at hp ⊢
  omega
theorem cg_mo_kl {a b : Nat → Int32} {n : Nat} (h : cg_So a b n) (k : Int32) : cg_mo (cg_kl k) a b n := by
  intro i j hij hj hp
  have := h i j hij hj
  simp only [cg_kl_i] at hp ⊢
  omega
theorem cg_cnt {p : Int32 × Int32 → Bool} {a b : Nat → Int32} {n : Nat} (h : cg_mo p a b n) : ∀ m, m ≤ n → (cg_L a b m).countP p ≤ m ∧ ∀ i, i < m → (p (a i, b i) = true ↔ i < (cg_L a b m).countP p)
  | 0, _ => ⟨Nat.le_refl 0, fun i hi => absurd hi (Nat.not_lt_zero i)⟩
  | m + 1, hm => by
    obtain ⟨h1, h2⟩ := cg_cnt h m (by omega)
    rw [cg_L, List.countP_cons]
    by_cases hp : p (a m, b m) = true
    · rw [if_pos hp]
      have e : (cg_L a b m).countP p = m := by
        by_cases z : m = 0
        · omega
        · have := (h2 (m - 1) (by omega)).mp (h (m - 1) m (by omega) (by omega) hp)
          omega
      rw [e]
      refine ⟨Nat.le_refl _, fun i hi => ⟨fun _ => hi, fun _ => ?_⟩⟩
      by_cases z : i = m
      · rw [z]; exact hp
      · exact h i m (by omega) (by omega) hp
    · rw [if_neg hp]
      refine ⟨by omega, fun i hi => ?_⟩
      by_cases z : i = m
      · rw [z]; exact ⟨fun q => absurd q hp, fun q => by omega⟩
      · exact h2 i (by omega)
theorem cg_B_c (x y : Int32 × Int32) (l : List (Int32 × Int32)) : cg_B x (y :: l) = cg_B x l + (if cg_lb y x = true then 1 else 0) := by
  rw [cg_B, List.countP_cons]; rfl
theorem cg_B_kl (k : Int32) : ∀ L : List (Int32 × Int32), L.countP (cg_kl k) = cg_B (k, -2147483648) L + cg_c k L
  | [] => rfl
  | x :: l => by
    rw [List.countP_cons, cg_B_kl k l, cg_B_c, cg_c_c]
    have h1 := cg_kl_i k x
    have h2 := cg_lb_i x (k, -2147483648)
    have h3 := cg_eqi x.1 k
    have h4 := cg_min x.2
    dsimp only at h2
    by_cases c1 : x.1.toInt < k.toInt
    · rw [if_pos (h1.mpr (by omega)), if_pos (h2.mpr (by omega)), if_neg (fun z => by have := h3.mp z; omega)]; omega
    · by_cases c2 : x.1.toInt = k.toInt
      · rw [if_pos (h1.mpr (by omega)), if_neg (fun z => by have := h2.mp z; omega), if_pos (h3.mpr c2)]; omega
      · rw [if_neg (fun z => by have := h1.mp z; omega), if_neg (fun z => by have := h2.mp z; omega), if_neg (fun z => c2 (h3.mp z))]; omega
theorem cg_B_lo (k w : Int32) : ∀ L : List (Int32 × Int32), cg_B (k, w) L = cg_B (k, -2147483648) L + cg_lo k w L
  | [] => rfl
  | x :: l => by
    rw [cg_B_c, cg_B_lo k w l, cg_B_c, cg_lo_c]
    have h1 := cg_lb_i x (k, w)
    have h2 := cg_lb_i x (k, -2147483648)
    have h3 := cg_eqi x.1 k
    have h4 := cg_min x.2
    have h5 := @Int32.lt_iff_toInt_lt x.2 w
    dsimp only at h1 h2
    by_cases c1 : x.1.toInt < k.toInt
    · rw [if_pos (h1.mpr (by omega)), if_pos (h2.mpr (by omega)), if_neg (fun z => by have := h3.mp z.1; omega)]; omega
    · rw [if_neg (c := cg_lb x (k, -2147483648) = true) (fun z => by have := h2.mp z; omega)]
      by_cases c2 : x.1.toInt = k.toInt ∧ x.2.toInt < w.toInt
      · rw [if_pos (h1.mpr (by omega)), if_pos ⟨h3.mpr c2.1, h5.mpr c2.2⟩]; omega
      · rw [if_neg (fun z => by have := h1.mp z; omega), if_neg (fun z => c2 ⟨h3.mp z.1, h5.mp z.2⟩)]; omega
theorem cg_B_le (k w : Int32) : ∀ L : List (Int32 × Int32), L.countP (fun y => cg_le y (k, w)) = cg_B (k, w) L + cg_e k w L
  | [] => rfl
  | x :: l => by
    rw [List.countP_cons, cg_B_le k w l, cg_B_c, cg_e_c]
    have h1 := cg_lb_i x (k, w)
    have h2 := cg_le_i x (k, w)
    have h3 := cg_eqi x.1 k
    have h5 := cg_eqi x.2 w
    dsimp only at h1 h2
    by_cases c1 : x.1.toInt = k.toInt ∧ x.2.toInt = w.toInt
    · rw [if_pos (h2.mpr (by omega)), if_neg (fun z => by have := h1.mp z; omega), if_pos ⟨h3.mpr c1.1, h5.mpr c1.2⟩]; omega
    · rw [if_neg (c := x.1 = k ∧ x.2 = w) (fun z => c1 ⟨h3.mp z.1, h5.mp z.2⟩)]
      by_cases c2 : cg_lb x (k, w) = true
      · rw [if_pos c2, if_pos (h2.mpr (by have := h1.mp c2; omega))]; omega
      · rw [if_neg c2, if_neg (fun z => c2 (h1.mpr (by have := h2.mp z; omega)))]; omega
theorem cg_B_nx {q : Nat} (hq : q < 8) (L : List (Int32 × Int32)) : cg_B (nI (q + 1), -2147483648) L = cg_B (nI q, -2147483648) L + cg_c (nI q) L := by
  rw [← cg_B_kl, cg_B]
  apply List.countP_congr
  intro x _
  have h1 := cg_kl_i (nI q) x
  have h2 := cg_lb_i x (nI (q + 1), -2147483648)
  have h4 := cg_min x.2
  dsimp only at h2
  rw [nI_toInt (by omega)] at h1 h2
  rw [h1, h2]
  omega
theorem cg_B_le_n {a b : Nat → Int32} {n : Nat} (x : Int32 × Int32) : cg_B x (cg_L a b n) ≤ n := by
  have : cg_B x (cg_L a b n) ≤ (cg_L a b n).length := List.countP_le_length
  rw [cg_L_len] at this
  exact this
theorem cg_Bi {a b : Nat → Int32} {n : Nat} (h : cg_So a b n) (x : Int32 × Int32) {i : Nat} (hi : i < n) : cg_lb (a i, b i) x = true ↔ i < cg_B x (cg_L a b n) :=
  (cg_cnt (cg_mo_lb h x) n (Nat.le_refl n)).2 i hi
/-- the group of a key is one stretch -/
theorem cg_rg {a b : Nat → Int32} {n : Nat} (h : cg_So a b n) (k : Int32) {i : Nat} (hi : i < n) : a i = k ↔ cg_B (k, -2147483648) (cg_L a b n) ≤ i ∧ i < cg_B (k, -2147483648) (cg_L a b n) + cg_c k (cg_L a b n) := by
  have h1 := (cg_cnt (cg_mo_kl h k) n (Nat.le_refl n)).2 i hi
  rw [cg_B_kl, cg_kl_i] at h1
  have h2 := cg_Bi h (k, -2147483648) hi
  rw [cg_lb_i] at h2
  have h4 := cg_min (b i)
  have h3 := cg_eqi (a i) k
  dsimp only at h1 h2
  rw [h3]
  omega
theorem cg_rg_n {a b : Nat → Int32} {n : Nat} (h : cg_So a b n) (k : Int32) : cg_B (k, -2147483648) (cg_L a b n) + cg_c k (cg_L a b n) ≤ n := by
  rw [← cg_B_kl]
  exact (cg_cnt (cg_mo_kl h k) n (Nat.le_refl n)).1
theorem cg_at {a b : Nat → Int32} {n : Nat} (h : cg_So a b n) (k : Int32) {p : Nat} (hp : p < cg_c k (cg_L a b n)) : cg_R k (cg_L a b n) p (b (cg_B (k, -2147483648) (cg_L a b n) + p)) := by
  have hn := cg_rg_n h k
  have hi : cg_B (k, -2147483648) (cg_L a b n) + p < n := by omega
  have hk := (cg_rg h k hi).mpr (by omega)
  have h1 := cg_Bi h (k, b (cg_B (k, -2147483648) (cg_L a b n) + p)) hi
  have h2 := (cg_cnt (cg_mo_le h (k, b (cg_B (k, -2147483648) (cg_L a b n) + p))) n (Nat.le_refl n)).2 _ hi
  rw [cg_B_le] at h2
  rw [cg_lb_i] at h1
  rw [cg_le_i] at h2
  rw [hk] at h1 h2
  have h3 := cg_B_lo k (b (cg_B (k, -2147483648) (cg_L a b n) + p)) (cg_L a b n)
  dsimp only at h1 h2
  unfold cg_R
  omega
theorem cg_So_Fu {a b : Nat → Int32} {n : Nat} (h : cg_So a b n) : cg_Fu (cg_L a b n) := fun k _ hp => ⟨_, cg_at h k hp⟩
theorem cg_s_k {a b : Nat → Int32} {k : Int32} {m : Nat} : ∀ n, m ≤ n → (∀ i, m ≤ i → i < n → ¬ a i = k) → cg_s k (cg_L a b n) = cg_s k (cg_L a b m) ∧ cg_d k (cg_L a b n) = cg_d k (cg_L a b m)
  | 0, h, _ => by obtain rfl : m = 0 := by omega
                  exact ⟨rfl, rfl⟩
  | n + 1, h, hk => by
    by_cases z : m = n + 1
    · rw [z]; exact ⟨rfl, rfl⟩
    · obtain ⟨e1, e2⟩ := cg_s_k n (by omega) (fun i h1 h2 => hk i h1 (by omega))
      have hk' := hk n (by omega) (by omega)
      rw [cg_L, cg_s, cg_d, if_neg hk', if_neg (fun z => hk' z.1)]
      exact ⟨e1, e2⟩
end
section
theorem cg_m6 (M g : Nat → Int32) {v0 v1 v2 v3 v4 v5 : Int32} (h0 : v0 = g 0) (h1 : v1 = g 1) (h2 : v2 = g 2) (h3 : v3 = g 3) (h4 : v4 = g 4) (h5 : v5 = g 5) : ∀ f, f < 6 → upd (upd (upd (upd (upd (upd M 0 v0) 1 v1) 2 v2) 3 v3) 4 v4) 5 v5 f = g f := by
  intro f hf
  match f, hf with
  | 0, _ => exact h0
  | 1, _ => exact h1
  | 2, _ => exact h2
  | 3, _ => exact h3
  | 4, _ => exact h4
  | 5, _ => exact h5
section
variable (fl ce en : Int32) (a b G H M S K F : Nat → Int32)
theorem cx_rb_l (post : Int32 → Prop) (k w : Int32) {n : Nat} (hn : n ≤ 40) (hs : cg_So a b n) (h : post (nI (cg_B (k, w) (cg_L a b n)))) : ∀ d i, i + d = n → i ≤ cg_B (k, w) (cg_L a b n) → wX_rowsBefore_2 post k w (nI n) fl ce en a b G H M S K F (d + 1) (nI i) := by
  have hB : cg_B (k, w) (cg_L a b n) ≤ n := cg_B_le_n (k, w)
  intro d
  induction d with
  | zero =>
    intro i e hi
    obtain rfl : i = n := by omega
    have e1 : cg_B (k, w) (cg_L a b i) = i := by omega
    rw [e1] at h
    exact br_t (Int32.le_refl _) h
  | succ d ih =>
    intro i e hi
    have hc := nI_clamp (n := i) (by omega)
    have hv : vp_in (nI i) 40 := vp_in_nI (by omega) (by omega)
    have hl := cg_Bi hs (k, w) (i := i) (by omega)
    have stop : ¬ cg_lb (a i, b i) (k, w) = true → post (nI i) := fun z => by
      have e1 : cg_B (k, w) (cg_L a b n) = i := by
        have : ¬ i < cg_B (k, w) (cg_L a b n) := fun q => z (hl.mpr q)
        omega
      rw [e1] at h
      exact h
    refine br_f (nI_ge (by omega) (by omega)) ⟨hv, ?_⟩
    rw [hc]
    have hd : cg_lb (a i, b i) (k, w) = true ↔ (a i < k ∨ (a i = k ∧ b i < w)) := decide_eq_true_iff
    by_cases c1 : a i < k
    · exact br_t c1 (nm_r (nI_1 i) (ih (i + 1) (by omega) (hl.mp (hd.mpr (Or.inl c1)))))
    · refine br_f c1 ⟨hv, ?_⟩
      by_cases c2 : a i = k
      · refine br_t c2 ⟨hv, ?_⟩
        by_cases c3 : w ≤ b i
        · exact br_t c3 (stop (fun z => (hd.mp z).elim c1 (fun q => Int32.not_lt.mpr c3 q.2)))
        · exact br_f c3 (nm_r (nI_1 i) (ih (i + 1) (by omega) (hl.mp (hd.mpr (Or.inr ⟨c2, Int32.not_le.mp c3⟩)))))
      · exact br_f c2 (stop (fun z => (hd.mp z).elim c1 (fun q => c2 q.1)))
theorem cx_rb (post : Int32 → Prop) (k w : Int32) {n : Nat} (hn : n ≤ 40) (hs : cg_So a b n) (h : post (nI (cg_B (k, w) (cg_L a b n)))) : wpX_rowsBefore post (nI n, fl, ce, en, a, b, G, H, M, S, K, F) k w :=
  ⟨n + 1, cx_rb_l fl ce en a b G H M S K F post k w hn hs h n 0 (by omega) (Nat.zero_le _)⟩
theorem cx_ms_l (post : SX → Prop) {q n : Nat} (hq : q < 8) (hn : n ≤ 40) (hs : cg_So a b n) (h : ∀ M', (∀ f, f < 6 → M' f = cg_F (cg_L a b n) (nI q) f) → post (nI n, fl, ce, en, a, b, G, H, M', S, K, F)) (st c : Nat) (hst : st = cg_B (nI q, -2147483648) (cg_L a b n)) (hcc : c = cg_c (nI q) (cg_L a b n)) : ∀ d i, i + d = st + c → st ≤ i → wX_measureGroup_32 post (nI st) (nI (st + c)) (nI c) (nI n) fl ce en a b G H M S K F (d + 1) (cg_s (nI q) (cg_L a b i)) (nI (cg_d (nI q) (cg_L a b i))) (nI i) := by
  have hrg := cg_rg_n hs (nI q)
  rw [← hst, ← hcc] at hrg
  have hin : ∀ {i : Nat}, i < n → (a i = nI q ↔ st ≤ i ∧ i < st + c) := fun {i} hi => by
    have := cg_rg hs (nI q) hi
    rw [← hst, ← hcc] at this
    exact this
  intro d
  induction d with
  | zero =>
    intro i e hi
    obtain rfl : i = st + c := by omega
    obtain ⟨es, ed⟩ := cg_s_k (a := a) (b := b) (k := nI q) (m := st + c) n hrg (fun i h1 h2 z => by have := (hin h2).mp z; omega)
    rw [← es, ← ed]
    refine br_t (Int32.le_refl _) (nm_e (nm_e ?_))
    by_cases h0 : c = 0
    · have z0 : nI c ≤ 0 := by rw [h0]; decide
      have g0 : ∀ f, (0 : Int32) = cg_F (cg_L a b n) (nI q) f := fun f => by
        unfold cg_F
        rw [if_pos (by omega)]
      obtain ⟨es0, ed0⟩ := cg_s_k (a := a) (b := b) (k := nI q) (m := 0) n (Nat.zero_le n) (fun i h1 h2 z => by have := (hin h2).mp z; omega)
      refine br_t z0 ?_
      refine ⟨vp_in_iff.mpr (by decide), nm_e (br_t z0 ?_)⟩
      refine ⟨vp_in_iff.mpr (by decide), nm_e (nm_e (br_t z0 (nm_e (h _ ?_))))⟩
      refine cg_m6 M _ ?_ ?_ (g0 2) (g0 3) ?_ (g0 5)
      · rw [h0]; exact g0 0
      · rw [es0]; exact g0 1
      · rw [ed0]; exact g0 4
    · have z0 : ¬ nI c ≤ 0 := nI_nle (by omega) (by omega)
      have hc0 : ¬ cg_c (nI q) (cg_L a b n) = 0 := by omega
      have e1 : nI (st + c) - 1 = nI (st + (c - 1)) := by
        have : nI (st + c) - nI 1 = nI (st + c - 1) := pk_sub (b := 1) (by omega)
        rw [show st + (c - 1) = st + c - 1 by omega]
        exact this
      have e2 : nI st + (nI c - 1) / 2 = nI (st + (c - 1) / 2) := by
        have e3 : nI c - 1 = nI (c - 1) := pk_sub (b := 1) (by omega)
        have e4 : nI (c - 1) / 2 = nI ((c - 1) / 2) := pk_div (d := 2) (by omega) (by omega) (by omega)
        rw [e3, e4, nI_add]
      have hat : ∀ {p : Nat}, p < c → b (st + p) = cg_r (nI q) (cg_L a b n) p := fun {p} hp => by
        have := cg_at hs (nI q) (p := p) (by omega)
        rw [← hst] at this
        exact (cg_r_e this).symm
      refine br_f z0 ⟨vp_in_nI (by omega) (by omega), ?_⟩
      refine ⟨vp_in_iff.mpr (by decide), nm_e (br_f z0 ?_)⟩
      rw [e1]
      refine ⟨vp_in_nI (by omega) (by omega), ?_⟩
      refine ⟨vp_in_iff.mpr (by decide), nm_e (nm_e (br_f z0 ⟨by decide, ?_⟩))⟩
      rw [e2]
      refine ⟨vp_in_nI (by omega) (by omega), nm_e (h _ ?_)⟩
      have gF : ∀ f, cg_F (cg_L a b n) (nI q) f = if f = 0 then nI (cg_c (nI q) (cg_L a b n)) else if f = 1 then cg_s (nI q) (cg_L a b n) else if f = 2 then cg_r (nI q) (cg_L a b n) 0 else if f = 3 then cg_r (nI q) (cg_L a b n) (cg_c (nI q) (cg_L a b n) - 1) else if f = 4 then nI (cg_d (nI q) (cg_L a b n)) else if f = 5 then cg_r (nI q) (cg_L a b n) ((cg_c (nI q) (cg_L a b n) - 1) / 2) else 0 := fun f => by
        unfold cg_F
        rw [if_neg hc0]
      refine cg_m6 M _ ?_ ?_ ?_ ?_ ?_ ?_
      · rw [gF, hcc]; rfl
      · rw [gF]; rfl
      · rw [gF, nI_clamp (by omega)]; exact hat (p := 0) (by omega)
      · rw [gF, nI_clamp (by omega), ← hcc]; exact hat (p := c - 1) (by omega)
      · rw [gF]; rfl
      · rw [gF, nI_clamp (by omega), ← hcc]; exact hat (p := (c - 1) / 2) (by omega)
  | succ d ih =>
    intro i e hi
    have hc := nI_clamp (n := i) (by omega)
    have hv : vp_in (nI i) 40 := vp_in_nI (by omega) (by omega)
    have hk : a i = nI q := (hin (by omega)).mpr (by omega)
    have hS : cg_s (nI q) (cg_L a b i) + b i = cg_s (nI q) (cg_L a b (i + 1)) := by rw [cg_L, cg_s, if_pos hk]
    refine br_f (nI_ge (by omega) (by omega)) ⟨hv, ?_⟩
    rw [hc, hS]
    refine nm_e ?_
    by_cases c1 : i = st
    · have hm : ¬ (a i, b i) ∈ cg_L a b i := by
        intro z
        obtain ⟨j, hj, ej⟩ := (cg_L_m a b _ i).mp z
        have e5 : a j = a i := congrArg Prod.fst ej
        rw [hk] at e5
        have := (hin (by omega)).mp e5
        omega
      have hd : nI (cg_d (nI q) (cg_L a b i)) + 1 = nI (cg_d (nI q) (cg_L a b (i + 1))) := by
        rw [nI_1, cg_L, cg_d, if_pos ⟨hk, hm⟩]
      refine br_t (by rw [c1]) (nm_r hd (nm_r (nI_1 i) (ih (i + 1) (by omega) (by omega))))
    · have c1' : ¬ nI i = nI st := fun z => c1 ((nI_eq (by omega) (by omega)).mp z)
      have e1 : nI i - 1 = nI (i - 1) := pk_sub (b := 1) (by omega)
      have hk1 : a (i - 1) = nI q := (hin (by omega)).mpr (by omega)
      refine br_f c1' ⟨hv, ?_⟩
      rw [e1]
      refine ⟨vp_in_nI (by omega) (by omega), ?_⟩
      rw [nI_clamp (n := i - 1) (by omega)]
      by_cases c2 : b i = b (i - 1)
      · have hd : cg_d (nI q) (cg_L a b (i + 1)) = cg_d (nI q) (cg_L a b i) := by
          rw [cg_L, cg_d, if_neg (fun z => z.2 ((cg_L_m a b _ i).mpr ⟨i - 1, by omega, by rw [hk, hk1, c2]⟩))]
        refine br_t c2 (nm_r (nI_1 i) ?_)
        rw [← hd]
        exact ih (i + 1) (by omega) (by omega)
      · have hm : ¬ (a i, b i) ∈ cg_L a b i := by
          intro z
          obtain ⟨j, hj, ej⟩ := (cg_L_m a b _ i).mp z
          have e5 : a j = a i := congrArg Prod.fst ej
          have e6 : b j = b i := congrArg Prod.snd ej
          by_cases c3 : j = i - 1
          · rw [c3] at e6; exact c2 e6.symm
          · have o1 := hs j (i - 1) (by omega) (by omega)
            have o2 := hs (i - 1) i (by omega) (by omega)
            rw [e5, e6, hk, hk1] at o1
            rw [hk, hk1] at o2
            have : (b i).toInt = (b (i - 1)).toInt := by omega
            exact c2 ((cg_eqi _ _).mpr this)
        have hd : nI (cg_d (nI q) (cg_L a b i)) + 1 = nI (cg_d (nI q) (cg_L a b (i + 1))) := by
          rw [nI_1, cg_L, cg_d, if_pos ⟨hk, hm⟩]
        exact br_f c2 (nm_r hd (nm_r (nI_1 i) (ih (i + 1) (by omega) (by omega))))
theorem cx_ms (post : SX → Prop) {q n : Nat} (hq : q < 8) (hn : n ≤ 40) (hs : cg_So a b n) (h : ∀ M', (∀ f, f < 6 → M' f = cg_F (cg_L a b n) (nI q) f) → post (nI n, fl, ce, en, a, b, G, H, M', S, K, F)) : wpX_measureGroup post (nI n, fl, ce, en, a, b, G, H, M, S, K, F) (nI q) := by
  unfold wpX_measureGroup
  dsimp only
  refine cx_rb fl ce en a b G H M S K F _ (nI q) (-2147483648) hn hs ?_
  rw [nI_1]
  refine cx_rb fl ce en a b G H M S K F _ (nI (q + 1)) (-2147483648) hn hs ?_
  rw [cg_B_nx hq]
  refine nm_r (e' := nI (cg_c (nI q) (cg_L a b n))) ?_ ?_
  · rw [pk_sub (by omega)]
    exact congrArg nI (by omega)
  · obtain ⟨es, ed⟩ := cg_s_k (a := a) (b := b) (k := nI q) (m := 0) (cg_B (nI q, -2147483648) (cg_L a b n)) (Nat.zero_le _) (fun i h1 h2 z => by
      have hi : i < n := Nat.lt_of_lt_of_le h2 (cg_B_le_n _)
      have := (cg_rg hs (nI q) hi).mp z
      omega)
    have := cx_ms_l fl ce en a b G H M S K F post hq hn hs h _ _ rfl rfl (cg_c (nI q) (cg_L a b n)) (cg_B (nI q, -2147483648) (cg_L a b n)) rfl (Nat.le_refl _)
    rw [es, ed] at this
    exact ⟨_, this⟩
end
end
section
theorem cg_q_e {g g' h h' : Nat → Int32} (e : ∀ f, f < 6 → g f = h f) (e' : ∀ f, f < 6 → g' f = h' f) : cg_q g g' = cg_q h h' := by
  by_cases z : ∀ f, f < 6 → h f = h' f
  · rw [cg_q_t z, cg_q_t (fun f hf => (e f hf).trans ((z f hf).trans (e' f hf).symm))]
  · rw [cg_q_f z, cg_q_f (fun y => z (fun f hf => (e f hf).symm.trans ((y f hf).trans (e' f hf))))]
theorem cg_q_s (g g' : Nat → Int32) : cg_q g g' = cg_q g' g := by
  by_cases z : ∀ f, f < 6 → g f = g' f
  · rw [cg_q_t z, cg_q_t (fun f hf => (z f hf).symm)]
  · rw [cg_q_f z, cg_q_f (fun y => z (fun f hf => (y f hf).symm))]
theorem cg_u_o (F : Nat → Int32) (b : Nat) (g : Nat → Int32) {j : Nat} : ∀ m, (j < b ∨ b + m ≤ j) → cg_u F b g m j = F j
  | 0, _ => rfl
  | m + 1, h => by rw [cg_u, pk_un (by omega), cg_u_o F b g m (by omega)]
theorem cg_u_i (F : Nat → Int32) (b : Nat) (g : Nat → Int32) {f : Nat} : ∀ m, f < m → cg_u F b g m (b + f) = g f
  | 0, h => absurd h (Nat.not_lt_zero f)
  | m + 1, h => by
    by_cases z : f = m
    · rw [cg_u, z, pk_us]
    · rw [cg_u, pk_un (by omega), cg_u_i F b g m (by omega)]
theorem cg_F_0 (L : List (Int32 × Int32)) (k : Int32) : cg_F L k 0 = nI (cg_c k L) := by
  unfold cg_F
  by_cases h : cg_c k L = 0
  · rw [if_pos h, h]; rfl
  · rw [if_neg h]; rfl
theorem cg_F_4 (L : List (Int32 × Int32)) (k : Int32) (h : ¬ cg_c k L = 0) : cg_F L k 4 = nI (cg_d k L) := by
  unfold cg_F
  rw [if_neg h]; rfl
section
variable (fl ce : Int32) (a b G H M : Nat → Int32)
theorem cx_shown (en : Int32) (S K F : Nat → Int32) (post : Int32 → Prop) {q n : Nat} (hn : n ≤ 40) (hM : ∀ f, f < 6 → M f = cg_F (cg_L a b n) (nI q) f) (h : post (cg_b (cg_h fl ce (cg_L a b n) (nI q)))) : wpX_measuredIsShown post (nI n, fl, ce, en, a, b, G, H, M, S, K, F) := by
  have hcl := cg_c_le (nI q) (cg_L a b n)
  rw [cg_L_len] at hcl
  have m0 := (hM 0 (by omega)).trans (cg_F_0 _ _)
  unfold wpX_measuredIsShown
  dsimp only
  by_cases h0 : cg_c (nI q) (cg_L a b n) = 0
  · have e : cg_h fl ce (cg_L a b n) (nI q) = false := decide_eq_false (fun z => by have := z.1; omega)
    rw [e] at h
    exact br_t (by rw [m0, h0]; decide) h
  · have m4 := (hM 4 (by omega)).trans (cg_F_4 _ _ h0)
    rw [m0, m4]
    refine br_f (nI_nle (by omega) (by omega)) ?_
    by_cases h1 : nI (cg_c (nI q) (cg_L a b n)) < fl
    · have e : cg_h fl ce (cg_L a b n) (nI q) = false := decide_eq_false (fun z => z.2.1 h1)
      rw [e] at h
      exact br_t h1 h
    · refine br_f h1 ?_
      by_cases h2 : ce < nI (cg_d (nI q) (cg_L a b n))
      · have e : cg_h fl ce (cg_L a b n) (nI q) = false := decide_eq_false (fun z => z.2.2 h2)
        rw [e] at h
        exact br_t h2 h
      · have e : cg_h fl ce (cg_L a b n) (nI q) = true := decide_eq_true ⟨by omega, h1, h2⟩
        rw [e] at h
        exact br_f h2 h
theorem cx_same_l (rw' en : Int32) (S K F : Nat → Int32) (post : Int32 → Prop) {q : Nat} (hq : q < 8) (h : post (cg_b (cg_q M (fun f => G (6 * q + f))))) : ∀ d f, f + d = 6 → (∀ f', f' < f → M f' = G (6 * q + f')) → wX_measuredIsAsBefore_2 post (nI q) rw' fl ce en a b G H M S K F (d + 1) (nI f) := by
  intro d
  induction d with
  | zero =>
    intro f e hb
    obtain rfl : f = 6 := by omega
    rw [cg_q_t hb] at h
    exact br_t (Int32.le_refl _) h
  | succ d ih =>
    intro f e hb
    refine br_f (nI_ge (b := 6) (by omega) (by decide)) ⟨vp_in_nI (by omega) (by omega), ?_⟩
    rw [cg_ix', nI_clamp (n := f) (by omega), nI_clamp (n := 6 * q + f) (by omega)]
    refine ⟨vp_in_nI (by omega) (by omega), ?_⟩
    refine br_c (fun e1 => nm_r (nI_1 f) (ih (f + 1) (by omega) (lt_s hb e1))) (fun e1 => ?_)
    rw [cg_q_f (fun z => e1 (z f (by omega)))] at h
    exact h
theorem cx_same (rw' en : Int32) (S K F : Nat → Int32) (post : Int32 → Prop) {q : Nat} (hq : q < 8) (h : post (cg_b (cg_q M (fun f => G (6 * q + f))))) : wpX_measuredIsAsBefore post (rw', fl, ce, en, a, b, G, H, M, S, K, F) (nI q) :=
  ⟨7, cx_same_l fl ce a b G H M rw' en S K F post hq h 6 0 (by omega) (fun j hj => absurd hj (Nat.not_lt_zero j))⟩
theorem cx_put_l (S K F : Nat → Int32) (post : SX → Prop) {n e q : Nat} (he : e < 24) (hq : q < 8) (h : post (nI n, fl, ce, nI (e + 1), a, b, G, H, M, S, K, cg_u F (6 * e) (fun f => G (6 * q + f)) 6)) : ∀ d f, f + d = 6 → wX_putEntry_22 post (nI q) (nI n) fl ce (nI e) (d + 1) (nI f) a b G H M S K (cg_u F (6 * e) (fun f => G (6 * q + f)) f) := by
  intro d
  induction d with
  | zero =>
    intro f e
    obtain rfl : f = 6 := by omega
    exact br_t (Int32.le_refl _) (nm_r (nI_1 _) h)
  | succ d ih =>
    intro f e
    refine br_f (nI_ge (b := 6) (by omega) (by decide)) ?_
    rw [cg_ix', cg_ix']
    refine ⟨vp_in_nI (by omega) (by omega), vp_in_nI (by omega) (by omega), ?_⟩
    rw [nI_clamp (by omega), nI_clamp (by omega)]
    exact nm_e (nm_r (nI_1 f) (ih (f + 1) (by omega)))
theorem cx_put (t : Int32) (post : SX → Prop) {n q : Nat} {s : cg_S} (he : s.1 < 24) (hq : q < 8) {g : Nat → Int32} (hg : ∀ f, f < 6 → G (6 * q + f) = g f) (h : post (nI n, fl, ce, nI (cg_put t (nI q) g s).1, a, b, G, H, M, (cg_put t (nI q) g s).2.1, (cg_put t (nI q) g s).2.2.1, (cg_put t (nI q) g s).2.2.2)) : wpX_putEntry post (nI n, fl, ce, nI s.1, a, b, G, H, M, s.2.1, s.2.2.1, s.2.2.2) t (nI q) := by
  have e : cg_u s.2.2.2 (6 * s.1) g 6 = cg_u s.2.2.2 (6 * s.1) (fun f => G (6 * q + f)) 6 := (cg_u_e _ _ 6 hg).symm
  simp only [cg_put, e] at h
  have hi : vp_in (nI s.1) 24 := vp_in_nI he (by omega)
  unfold wpX_putEntry
  dsimp only
  rw [nI_clamp (by omega)]
  refine ⟨hi, nm_e ⟨hi, nm_e ⟨7, ?_⟩⟩⟩
  exact cx_put_l fl ce a b G H M _ _ s.2.2.2 post he hq h 6 0 (by omega)
theorem cx_keep_l (rw' en : Int32) (S K F : Nat → Int32) (post : SX → Prop) {q : Nat} (hq : q < 8) (h : post (rw', fl, ce, en, a, b, cg_u G (6 * q) M 6, H, M, S, K, F)) : ∀ d f, f + d = 6 → wX_keepMeasured_9 post (nI q) rw' fl ce en (d + 1) (nI f) a b (cg_u G (6 * q) M f) H M S K F := by
  intro d
  induction d with
  | zero =>
    intro f e
    obtain rfl : f = 6 := by omega
    exact br_t (Int32.le_refl _) h
  | succ d ih =>
    intro f e
    refine br_f (nI_ge (b := 6) (by omega) (by decide)) ⟨vp_in_nI (by omega) (by omega), ?_⟩
    rw [cg_ix', nI_clamp (n := f) (by omega), nI_clamp (n := 6 * q + f) (by omega)]
    refine ⟨vp_in_nI (by omega) (by omega), ?_⟩
    exact nm_e (nm_r (nI_1 f) (ih (f + 1) (by omega)))
theorem cx_keep (rw' en : Int32) (S K F : Nat → Int32) (post : SX → Prop) {q : Nat} (hq : q < 8) (x : Bool) (h : post (rw', fl, ce, en, a, b, cg_u G (6 * q) M 6, upd H q (cg_b x), M, S, K, F)) : wpX_keepMeasured post (rw', fl, ce, en, a, b, G, H, M, S, K, F) (nI q) (cg_b x) := by
  unfold wpX_keepMeasured
  dsimp only
  rw [nI_clamp (by omega), cg_b_nar]
  exact ⟨vp_in_nI hq (by omega), nm_e ⟨7, cx_keep_l fl ce a b G _ M rw' en S K F post hq h 6 0 (by omega)⟩⟩
theorem cx_63n (post : SX → Prop) (J : Int32 → Int32 → Int32 → Int32 → Int32 → (Nat → Int32) → (Nat → Int32) → (Nat → Int32) → (Nat → Int32) → (Nat → Int32) → (Nat → Int32) → (Nat → Int32) → (Nat → Int32) → Prop) {n q : Nat} (hq : q < 8) (s : cg_S) (sa : Bool) (x4 : Int32) (hno : cg_b sa = 0 ∨ ¬ x4 = 0) (h : J (nI (q + 1)) (nI n) fl ce (nI s.1) a b (cg_u G (6 * q) M 6) (upd H q (cg_b sa)) M s.2.1 s.2.2.1 s.2.2.2) : wX_logChanges_63 post J (nI q) (cg_b sa) x4 (nI n) fl ce (nI s.1) a b G H M s.2.1 s.2.2.1 s.2.2.2 := by
  unfold wX_logChanges_63
  refine cx_keep fl ce a b G H M _ _ _ _ _ _ hq sa ?_
  by_cases c : cg_b sa = 0
  · exact br_t c (nm_r (nI_1 q) h)
  · exact br_f c (br_f (hno.resolve_left c) (nm_r (nI_1 q) h))
theorem cx_63p (post : SX → Prop) (J : Int32 → Int32 → Int32 → Int32 → Int32 → (Nat → Int32) → (Nat → Int32) → (Nat → Int32) → (Nat → Int32) → (Nat → Int32) → (Nat → Int32) → (Nat → Int32) → (Nat → Int32) → Prop) {n q : Nat} (hq : q < 8) (s : cg_S) (he : s.1 < 24) {g : Nat → Int32} (hg : ∀ f, f < 6 → M f = g f) (h : J (nI (q + 1)) (nI n) fl ce (nI (cg_put 2 (nI q) g s).1) a b (cg_u G (6 * q) M 6) (upd H q (cg_b true)) M (cg_put 2 (nI q) g s).2.1 (cg_put 2 (nI q) g s).2.2.1 (cg_put 2 (nI q) g s).2.2.2) : wX_logChanges_63 post J (nI q) (cg_b true) 0 (nI n) fl ce (nI s.1) a b G H M s.2.1 s.2.2.1 s.2.2.2 := by
  unfold wX_logChanges_63
  refine cx_keep fl ce a b G H M _ _ _ _ _ _ hq true ?_
  refine br_f (by decide) (br_t rfl ?_)
  refine cx_put fl ce a b (cg_u G (6 * q) M 6) (upd H q (cg_b true)) M 2 _ he hq (g := g) (fun f hf => ?_) ?_
  · rw [cg_u_i _ _ _ 6 hf]; exact hg f hf
  · exact nm_r (nI_1 q) h
end
section
variable (fl ce : Int32) (a b : Nat → Int32)
theorem cx_log_l (post : SX → Prop) {n : Nat} (hn : n ≤ 40) (hs : cg_So a b n) (sb sa sm : Nat → Bool) (go gn : Nat → Nat → Int32) (s : cg_S)
    (hsa : ∀ j, j < 8 → cg_h fl ce (cg_L a b n) (nI j) = sa j) (hsm : ∀ j, j < 8 → cg_q (gn j) (go j) = sm j)
    (hgn : ∀ j, j < 8 → ∀ f, f < 6 → cg_F (cg_L a b n) (nI j) f = gn j f) (hlg : ∀ q, q ≤ 8 → (cg_lg sb sa sm go gn s q).1 ≤ 24)
    (h : ∀ G H M, (∀ j, j < 8 → ∀ f, f < 6 → G (6 * j + f) = gn j f) → (∀ j, j < 8 → H j = cg_b (sa j)) → post (nI n, fl, ce, nI (cg_lg sb sa sm go gn s 8).1, a, b, G, H, M, (cg_lg sb sa sm go gn s 8).2.1, (cg_lg sb sa sm go gn s 8).2.2.1, (cg_lg sb sa sm go gn s 8).2.2.2)) :
    ∀ d q G H M, q + d = 8 → (∀ j, j < q → ∀ f, f < 6 → G (6 * j + f) = gn j f) → (∀ j, j < q → H j = cg_b (sa j)) → (∀ j, q ≤ j → j < 8 → ∀ f, f < 6 → G (6 * j + f) = go j f) → (∀ j, q ≤ j → j < 8 → H j = cg_b (sb j)) →
    wX_logChanges_2 post (d + 1) (nI q) (nI n) fl ce (nI (cg_lg sb sa sm go gn s q).1) a b G H M (cg_lg sb sa sm go gn s q).2.1 (cg_lg sb sa sm go gn s q).2.2.1 (cg_lg sb sa sm go gn s q).2.2.2 := by
  intro d
  induction d with
  | zero =>
    intro q G H M e g1 h1 g2 h2
    obtain rfl : q = 8 := by omega
    exact br_t (Int32.le_refl _) (h G H M g1 h1)
  | succ d ih =>
    intro q G H M e g1 h1 g2 h2
    have hl := hlg (q + 1) (by omega)
    have hq : q < 8 := by omega
    have hgn := hgn q hq
    have hsa := hsa q hq
    have hsm := hsm q hq
    refine br_f (nI_ge (b := 8) (by omega) (by decide)) ?_
    refine cx_ms fl ce _ a b G H M _ _ _ _ hq hn hs (fun M' hM' => ?_)
    have hi : vp_in (nI q) 8 := vp_in_nI hq (by omega)
    have hcl : (nI q).toNatClampNeg = q := nI_clamp (by omega)
    have hM : ∀ f, f < 6 → M' f = gn q f := fun f hf => (hM' f hf).trans (hgn f hf)
    have hg := g2 q (Nat.le_refl q) hq
    have hJ := ih (q + 1) (cg_u G (6 * q) M' 6) (upd H q (cg_b (sa q))) M' (by omega)
      (fun j hj f hf => by
        by_cases z : j = q
        · rw [z, cg_u_i _ _ _ 6 hf]; exact hM f hf
        · rw [cg_u_o _ _ _ 6 (by omega)]; exact g1 j (by omega) f hf)
      (lt_s (fun j hj => by rw [pk_un (by omega)]; exact h1 j hj) pk_us)
      (fun j hj hj8 f hf => by rw [cg_u_o _ _ _ 6 (by omega)]; exact g2 j (by omega) hj8 f hf)
      (fun j hj hj8 => by rw [pk_un (by omega)]; exact h2 j (by omega) hj8)
    rw [cg_lg] at hJ hl
    have hS : H (nI q).toNatClampNeg = cg_b (sb q) := by rw [hcl]; exact h2 q (Nat.le_refl q) hq
    generalize cg_lg sb sa sm go gn s q = t at hJ hl ⊢
    refine ⟨hi, nm_r hS ?_⟩
    refine cx_shown fl ce a b G H M' _ _ _ _ _ hn hM' ?_
    rw [hsa]
    cases hb : sb q
    · rw [hb] at hJ hl
      refine br_t rfl (br_t rfl ?_)
      cases ha : sa q
      · rw [ha] at hJ hl
        exact cx_63n fl ce a b G H M' post _ hq t false 0 (Or.inl rfl) hJ
      · rw [ha] at hJ hl
        exact cx_63p fl ce a b G H M' post _ hq t (by have : t.1 + 1 ≤ 24 := hl; omega) hM hJ
    · rw [hb] at hJ hl
      refine br_f (by decide) ?_
      cases ha : sa q
      · rw [ha] at hJ hl
        refine br_t rfl (br_f (by decide) (br_t rfl ?_))
        refine cx_put fl ce a b G H M' 1 _ (by have : t.1 + 1 ≤ 24 := hl; omega) hq hg ?_
        exact cx_63n fl ce a b G H M' post _ hq (cg_put 1 (nI q) (go q) t) false 0 (Or.inl rfl) hJ
      · rw [ha] at hJ hl
        refine br_f (by decide) ?_
        refine cx_same fl ce a b G H M' _ _ _ _ _ _ hq ?_
        have eq : cg_q M' (fun f => G (6 * q + f)) = sm q := (cg_q_e hM hg).trans hsm
        rw [eq]
        cases hc : sm q
        · rw [hc] at hJ hl
          have hl' : t.1 + 1 + 1 ≤ 24 := hl
          refine br_t rfl (br_f (by decide) (br_t rfl ?_))
          refine cx_put fl ce a b G H M' 1 _ (by omega) hq hg ?_
          exact cx_63p fl ce a b G H M' post _ hq (cg_put 1 (nI q) (go q) t) (show t.1 + 1 < 24 by omega) hM hJ
        · rw [hc] at hJ hl
          refine br_f (by decide) (br_f (by decide) (br_f (by decide) ?_))
          exact cx_63n fl ce a b G H M' post _ hq t true 1 (Or.inr (by decide)) hJ
theorem cx_log (post : SX → Prop) {n : Nat} (hn : n ≤ 40) (hs : cg_So a b n) (sb sa sm : Nat → Bool) (go gn : Nat → Nat → Int32) (s : cg_S) (G H M : Nat → Int32)
    (hG : ∀ j, j < 8 → ∀ f, f < 6 → G (6 * j + f) = go j f) (hH : ∀ j, j < 8 → H j = cg_b (sb j))
    (hsa : ∀ j, j < 8 → cg_h fl ce (cg_L a b n) (nI j) = sa j) (hsm : ∀ j, j < 8 → cg_q (gn j) (go j) = sm j)
    (hgn : ∀ j, j < 8 → ∀ f, f < 6 → cg_F (cg_L a b n) (nI j) f = gn j f) (hlg : ∀ q, q ≤ 8 → (cg_lg sb sa sm go gn s q).1 ≤ 24)
    (h : ∀ G H M, (∀ j, j < 8 → ∀ f, f < 6 → G (6 * j + f) = gn j f) → (∀ j, j < 8 → H j = cg_b (sa j)) → post (nI n, fl, ce, nI (cg_lg sb sa sm go gn s 8).1, a, b, G, H, M, (cg_lg sb sa sm go gn s 8).2.1, (cg_lg sb sa sm go gn s 8).2.2.1, (cg_lg sb sa sm go gn s 8).2.2.2)) :
    wpX_logChanges post (nI n, fl, ce, nI s.1, a, b, G, H, M, s.2.1, s.2.2.1, s.2.2.2) :=
  ⟨9, cx_log_l fl ce a b post hn hs sb sa sm go gn s hsa hsm hgn hlg h 8 0 G H M (by omega) (fun j hj => absurd hj (Nat.not_lt_zero j)) (fun j hj => absurd hj (Nat.not_lt_zero j)) (fun j _ hj => hG j hj) (fun j _ hj => hH j hj)⟩
end
end
section
/-- all that a group's fields rest on is the same in two lists -/
def cg_Q (k : Int32) (L M : List (Int32 × Int32)) : Prop := cg_c k L = cg_c k M ∧ (∀ w, cg_lo k w L = cg_lo k w M) ∧ (∀ w, cg_e k w L = cg_e k w M) ∧ cg_s k L = cg_s k M ∧ cg_d k L = cg_d k M
theorem cg_Q_p {k : Int32} {L M : List (Int32 × Int32)} (h : L.Perm M) : cg_Q k L M := ⟨cg_c_p h, fun _ => cg_lo_p h, fun _ => cg_e_p h, cg_s_p h, cg_d_p h⟩
theorem cg_Q_t {k : Int32} {L M N : List (Int32 × Int32)} (h : cg_Q k L M) (h' : cg_Q k M N) : cg_Q k L N :=
  ⟨h.1.trans h'.1, fun w => (h.2.1 w).trans (h'.2.1 w), fun w => (h.2.2.1 w).trans (h'.2.2.1 w), h.2.2.2.1.trans h'.2.2.2.1, h.2.2.2.2.trans h'.2.2.2.2⟩
theorem cg_Q_s {k : Int32} {L M : List (Int32 × Int32)} (h : cg_Q k L M) : cg_Q k M L :=
  ⟨h.1.symm, fun w => (h.2.1 w).symm, fun w => (h.2.2.1 w).symm, h.2.2.2.1.symm, h.2.2.2.2.symm⟩
theorem cg_Q_c {k : Int32} {x : Int32 × Int32} (L : List (Int32 × Int32)) (h : ¬ x.1 = k) : cg_Q k (x :: L) L := by
  refine ⟨?_, fun w => ?_, fun w => ?_, ?_, ?_⟩
  · rw [cg_c_c, if_neg h]; rfl
  · rw [cg_lo_c, if_neg (fun z => h z.1)]; rfl
  · rw [cg_e_c, if_neg (fun z => h z.1)]; rfl
  · rw [cg_s, if_neg h]
  · rw [cg_d, if_neg (fun z => h z.1)]
def cg_fi (κ : Int32) (L : List (Int32 × Int32)) : List (Int32 × Int32) := L.filter (fun x => decide (¬ x.1 = κ))
theorem cg_fi_t {κ : Int32} {x : Int32 × Int32} (l : List (Int32 × Int32)) (h : x.1 = κ) : cg_fi κ (x :: l) = cg_fi κ l :=
  List.filter_cons_of_neg (by simp [h])
theorem cg_fi_f {κ : Int32} {x : Int32 × Int32} (l : List (Int32 × Int32)) (h : ¬ x.1 = κ) : cg_fi κ (x :: l) = x :: cg_fi κ l :=
  List.filter_cons_of_pos (by simp [h])
theorem cg_fi_m {κ : Int32} {x : Int32 × Int32} {l : List (Int32 × Int32)} : x ∈ cg_fi κ l ↔ x ∈ l ∧ ¬ x.1 = κ := by
  rw [cg_fi, List.mem_filter, decide_eq_true_eq]
theorem cg_Q_f {k κ : Int32} (h : ¬ k = κ) : ∀ L : List (Int32 × Int32), cg_Q k (cg_fi κ L) L
  | [] => cg_Q_p (List.Perm.refl _)
  | x :: l => by
    have ih := cg_Q_f h l
    by_cases c : x.1 = κ
    · rw [cg_fi_t l c]
      exact cg_Q_t ih (cg_Q_s (cg_Q_c l (fun z => h (z.symm.trans c))))
    · rw [cg_fi_f l c]
      obtain ⟨h1, h2, h3, h4, h5⟩ := ih
      refine ⟨?_, fun w => ?_, fun w => ?_, ?_, ?_⟩
      · rw [cg_c_c, cg_c_c, h1]
      · rw [cg_lo_c, cg_lo_c, h2]
      · rw [cg_e_c, cg_e_c, h3]
      · rw [cg_s, cg_s, h4]
      · have e : x ∈ cg_fi κ l ↔ x ∈ l := by rw [cg_fi_m]; exact ⟨fun z => z.1, fun z => ⟨z, c⟩⟩
        simp only [cg_d, h5, e]
theorem cg_Q_F {k : Int32} {L M : List (Int32 × Int32)} (h : cg_Q k L M) (f : Nat) : cg_F L k f = cg_F M k f := by
  obtain ⟨h1, h2, h3, h4, h5⟩ := h
  have hR : ∀ p, cg_r k L p = cg_r k M p := fun p => by
    unfold cg_r
    have : cg_R k L p = cg_R k M p := by
      funext w
      unfold cg_R
      rw [h2, h3]
    rw [this]
  unfold cg_F
  simp only [h1, h4, h5, hR]
theorem cg_Q_h {k : Int32} {L M : List (Int32 × Int32)} (h : cg_Q k L M) (fl ce : Int32) : cg_h fl ce L k = cg_h fl ce M k := by
  unfold cg_h
  simp only [h.1, h.2.2.2.2]
def cg_In (L : List (Int32 × Int32)) : Prop := ∀ x, x ∈ L → ∃ q : Nat, q < 8 ∧ x.1 = nI q
theorem cg_In_p {L M : List (Int32 × Int32)} (h : L.Perm M) (H : cg_In L) : cg_In M := fun x hx => H x (h.mem_iff.mpr hx)
theorem cg_In_c {k : Int32} : ∀ {L : List (Int32 × Int32)}, cg_In L → (∀ q : Nat, q < 8 → ¬ k = nI q) → cg_c k L = 0
  | [], _, _ => rfl
  | x :: l, h, hk => by
    have h0 : ¬ x.1 = k := fun z => by
      obtain ⟨q, hq, e⟩ := h x List.mem_cons_self
      exact hk q hq (z.symm.trans e)
    rw [cg_c_c, if_neg h0, cg_In_c (fun y hy => h y (List.mem_cons_of_mem _ hy)) hk]
/-- rows taken out of the middle -/
def cg_del (a : Nat → Int32) (p c : Nat) : Nat → Int32 := fun j => if j < p then a j else a (j + c)
def cg_ins (a : Nat → Int32) (p : Nat) (x : Int32) : Nat → Int32 := fun j => if j < p then a j else if j = p then x else a (j - 1)
theorem cg_del_1 {a b : Nat → Int32} {i : Nat} : ∀ n, i < n + 1 → (cg_L a b (n + 1)).Perm ((a i, b i) :: cg_L (cg_del a i 1) (cg_del b i 1) n) := by
  intro n
  induction n with
  | zero =>
    intro h
    obtain rfl : i = 0 := by omega
    exact List.Perm.refl _
  | succ n ih =>
    intro h
    by_cases z : i = n + 1
    · rw [cg_L, z, cg_L_e (a := a) (b := b) (a' := cg_del a (n + 1) 1) (b' := cg_del b (n + 1) 1) (n + 1) (fun j hj => ⟨if_pos hj, if_pos hj⟩)]
    · have e : cg_L (cg_del a i 1) (cg_del b i 1) (n + 1) = (a (n + 1), b (n + 1)) :: cg_L (cg_del a i 1) (cg_del b i 1) n := by
        rw [cg_L, cg_del, if_neg (by omega), cg_del, if_neg (by omega)]
      rw [cg_L, e]
      exact ((ih (by omega)).cons _).trans (List.Perm.swap _ _ _)
theorem cg_ins_p {a b a' b' : Nat → Int32} {n p : Nat} {x y : Int32} (hp : p ≤ n) (h : ∀ j, j ≤ n → a' j = cg_ins a p x j ∧ b' j = cg_ins b p y j) : (cg_L a' b' (n + 1)).Perm ((x, y) :: cg_L a b n) := by
  have h1 := cg_del_1 (a := a') (b := b') (i := p) n (by omega)
  have ex : a' p = x := by rw [(h p hp).1, cg_ins, if_neg (by omega), if_pos rfl]
  have ey : b' p = y := by rw [(h p hp).2, cg_ins, if_neg (by omega), if_pos rfl]
  have e : cg_L (cg_del a' p 1) (cg_del b' p 1) n = cg_L a b n := cg_L_e n (fun j hj => by
    unfold cg_del
    by_cases c : j < p
    · rw [if_pos c, if_pos c, (h j (by omega)).1, (h j (by omega)).2, cg_ins, if_pos c, cg_ins, if_pos c]; exact ⟨rfl, rfl⟩
    · rw [if_neg c, if_neg c, (h (j + 1) (by omega)).1, (h (j + 1) (by omega)).2, cg_ins, if_neg (by omega), if_neg (by omega), cg_ins, if_neg (by omega), if_neg (by omega)]; exact ⟨rfl, rfl⟩)
  rw [ex, ey, e] at h1
  exact h1
theorem cg_ins_s {a b a' b' : Nat → Int32} {n p : Nat} {x y : Int32} (hs : cg_So a b n) (hp : p = cg_B (x, y) (cg_L a b n)) (h : ∀ j, j ≤ n → a' j = cg_ins a p x j ∧ b' j = cg_ins b p y j) : cg_So a' b' (n + 1) := by
  have hpn : p ≤ n := by rw [hp]; exact cg_B_le_n _
  have hB : ∀ i, i < n → ((a i).toInt < x.toInt ∨ ((a i).toInt = x.toInt ∧ (b i).toInt < y.toInt) ↔ i < p) := fun i hi => by
    have := cg_Bi hs (x, y) hi
    rw [cg_lb_i, ← hp] at this
    exact this
  intro i j hij hj
  rw [(h i (by omega)).1, (h i (by omega)).2, (h j (by omega)).1, (h j (by omega)).2]
  unfold cg_ins
  by_cases c1 : j < p
  · rw [if_pos c1, if_pos c1, if_pos (by omega), if_pos (by omega)]
    exact hs i j hij (by omega)
  · rw [if_neg c1, if_neg c1]
    by_cases c2 : j = p
    · rw [if_pos c2, if_pos c2, if_pos (by omega), if_pos (by omega)]
      have := (hB i (by omega)).mpr (by omega)
      omega
    · rw [if_neg c2, if_neg c2]
      by_cases c3 : i < p
      · rw [if_pos c3, if_pos c3]
        exact hs i (j - 1) (by omega) (by omega)
      · rw [if_neg c3, if_neg c3]
        by_cases c4 : i = p
        · rw [if_pos c4, if_pos c4]
          have := hB (j - 1) (by omega)
          omega
        · rw [if_neg c4, if_neg c4]
          exact hs (i - 1) (j - 1) (by omega) (by omega)
theorem cg_del_s {a b a' b' : Nat → Int32} {n p c : Nat} (hs : cg_So a b n) (hc : p + c ≤ n) (h : ∀ j, j < n - c → a' j = cg_del a p c j ∧ b' j = cg_del b p c j) : cg_So a' b' (n - c) := by
  intro i j hij hj
  rw [(h i (by omega)).1, (h i (by omega)).2, (h j (by omega)).1, (h j (by omega)).2]
  unfold cg_del
  by_cases c1 : j < p
  · rw [if_pos c1, if_pos c1, if_pos (by omega), if_pos (by omega)]
    exact hs i j hij (by omega)
  · rw [if_neg c1, if_neg c1]
    by_cases c2 : i < p
    · rw [if_pos c2, if_pos c2]
      exact hs i (j + c) (by omega) (by omega)
    · rw [if_neg c2, if_neg c2]
      exact hs (i + c) (j + c) (by omega) (by omega)
theorem cg_del_f {a b : Nat → Int32} {k : Int32} {p c : Nat} : ∀ n, (∀ i, i < n → (a i = k ↔ p ≤ i ∧ i < p + c)) → cg_fi k (cg_L a b n) = cg_L (cg_del a p c) (cg_del b p c) (if n ≤ p then n else if n ≤ p + c then p else n - c)
  | 0, _ => by rw [if_pos (Nat.zero_le p)]; rfl
  | n + 1, h => by
    have ih := cg_del_f (b := b) n (fun i hi => h i (by omega))
    have hn := h n (by omega)
    rw [cg_L]
    by_cases c1 : n + 1 ≤ p
    · rw [cg_fi_f _ (fun z => by have := hn.mp z; omega), ih, if_pos (by omega), if_pos c1, cg_L]
      have e1 : cg_del a p c n = a n := if_pos (by omega)
      have e2 : cg_del b p c n = b n := if_pos (by omega)
      rw [e1, e2]
    · rw [if_neg c1]
      by_cases c2 : n + 1 ≤ p + c
      · rw [cg_fi_t _ (hn.mpr (by omega)), ih, if_pos c2]
        by_cases c3 : n = p
        · rw [if_pos (by omega), c3]
        · rw [if_neg (by omega), if_pos (by omega)]
      · rw [cg_fi_f _ (fun z => by have := hn.mp z; omega), ih, if_neg c2]
        have e0 : (if n ≤ p then n else if n ≤ p + c then p else n - c) = n - c := by
          by_cases c3 : n ≤ p
          · rw [if_pos c3]; omega
          · rw [if_neg c3]
            by_cases c4 : n ≤ p + c
            · rw [if_pos c4]; omega
            · rw [if_neg c4]
        have e3 : n + 1 - c = (n - c) + 1 := by omega
        have e1 : cg_del a p c (n - c) = a n := by rw [cg_del, if_neg (by omega), show n - c + c = n by omega]
        have e2 : cg_del b p c (n - c) = b n := by rw [cg_del, if_neg (by omega), show n - c + c = n by omega]
        rw [e0, e3, cg_L, e1, e2]
theorem cg_rep {K V : Nat → Int32} {i : Nat} {x y : Int32} : ∀ m, i < m → ((K i, V i) :: cg_L (upd K i x) (upd V i y) m).Perm ((x, y) :: cg_L K V m)
  | 0, h => absurd h (Nat.not_lt_zero i)
  | m + 1, h => by
    rw [cg_L, cg_L]
    by_cases z : i = m
    · rw [z, pk_us, pk_us, cg_L_e (a := K) (b := V) (a' := upd K m x) (b' := upd V m y) m (fun j hj => ⟨pk_un (by omega), pk_un (by omega)⟩)]
      exact List.Perm.swap _ _ _
    · rw [pk_un (by omega), pk_un (by omega)]
      exact (List.Perm.swap _ _ _).trans (((cg_rep m (by omega)).cons _).trans (List.Perm.swap _ _ _))
theorem cg_dr {K V : Nat → Int32} {i m : Nat} (h : i < m + 1) : (cg_L K V (m + 1)).Perm ((K i, V i) :: cg_L (upd K i (K m)) (upd V i (V m)) m) := by
  by_cases z : i = m
  · rw [z, cg_L, cg_L_e (a := K) (b := V) (a' := upd K m (K m)) (b' := upd V m (V m)) m (fun j hj => ⟨pk_un (by omega), pk_un (by omega)⟩)]
  · rw [cg_L]
    exact (cg_rep m (by omega)).symm
end
section
/-- the log of a change from the table L to M -/
noncomputable def cg_T (fl ce fl' ce' : Int32) (L M : List (Int32 × Int32)) (s : cg_S) (q : Nat) : cg_S :=
  cg_lg (fun j => cg_h fl ce L (nI j)) (fun j => cg_h fl' ce' M (nI j)) (fun j => cg_q (cg_F M (nI j)) (cg_F L (nI j))) (fun j => cg_F L (nI j)) (fun j => cg_F M (nI j)) s q
def cg_GG (L : List (Int32 × Int32)) (G : Nat → Int32) : Prop := ∀ j, j < 8 → ∀ f, f < 6 → G (6 * j + f) = cg_F L (nI j) f
def cg_HH (fl ce : Int32) (L : List (Int32 × Int32)) (H : Nat → Int32) : Prop := ∀ j, j < 8 → H j = cg_b (cg_h fl ce L (nI j))
theorem cx_tell (fl ce fl' ce' : Int32) (a b : Nat → Int32) (post : SX → Prop) {n : Nat} (hn : n ≤ 40) (hs : cg_So a b n) (L : List (Int32 × Int32)) (s : cg_S) (G H M : Nat → Int32) (hG : cg_GG L G) (hH : cg_HH fl ce L H)
    (hl : ∀ q, q ≤ 8 → (cg_T fl ce fl' ce' L (cg_L a b n) s q).1 ≤ 24)
    (h : ∀ G H M, cg_GG (cg_L a b n) G → cg_HH fl' ce' (cg_L a b n) H → post (nI n, fl', ce', nI (cg_T fl ce fl' ce' L (cg_L a b n) s 8).1, a, b, G, H, M, (cg_T fl ce fl' ce' L (cg_L a b n) s 8).2.1, (cg_T fl ce fl' ce' L (cg_L a b n) s 8).2.2.1, (cg_T fl ce fl' ce' L (cg_L a b n) s 8).2.2.2)) :
    wpX_logChanges post (nI n, fl', ce', nI s.1, a, b, G, H, M, s.2.1, s.2.2.1, s.2.2.2) :=
  cx_log fl' ce' a b post hn hs _ _ _ _ _ s G H M hG hH (fun _ _ => rfl) (fun _ _ => rfl) (fun _ _ _ _ => rfl) hl h
theorem cy_tell' (fl ce fl' ce' : Int32) (K V SB BE : Nat → Int32) (post : SY → Prop) {n : Nat} (hn : n ≤ 40) (L M Ly : List (Int32 × Int32)) (hM : cg_Fu M) (hP : M.Perm (cg_L K V n)) (hP' : L.Perm Ly) (s : cg_S) (hS : cg_HH fl ce Ly SB) (hB : cg_M Ly BE 48)
    (hl : ∀ q, q ≤ 8 → (cg_T fl ce fl' ce' L M s q).1 ≤ 24)
    (h : post (nI n, fl', ce', nI (cg_T fl ce fl' ce' L M s 8).1, K, V, (cg_T fl ce fl' ce' L M s 8).2.1, (cg_T fl ce fl' ce' L M s 8).2.2.1, (cg_T fl ce fl' ce' L M s 8).2.2.2, SB, BE)) :
    wpY_tell post (nI n, fl', ce', nI s.1, K, V, s.2.1, s.2.2.1, s.2.2.2, SB, BE) := by
  have hBE : ∀ j, j < 8 → ∀ f, f < 6 → BE (6 * j + f) = cg_F L (nI j) f := fun j hj f hf => (hB j f hf (by omega)).trans (cg_F_p hP' _ _).symm
  refine cy_tell fl' ce' K V SB BE post hn (cg_Fu_p hP hM) _ _ _ _ _ s (fun j hj => ?_) (fun j _ => (cg_h_p hP fl' ce' (nI j)).symm) (fun j hj => ?_) hBE (fun j _ f _ => (cg_F_p hP (nI j) f).symm) hl h
  · rw [hS j hj, cg_h_p hP']
  · rw [cg_q_s]
    exact cg_q_e (fun f _ => (cg_F_p hP (nI j) f).symm) (hBE j hj)
theorem cg_st_2 (sb sa sm : Bool) (k : Int32) (go gn : Nat → Int32) (s : cg_S) : (cg_st sb sa sm k go gn s).1 ≤ s.1 + 2 := by
  cases sb <;> cases sa <;> cases sm <;> simp [cg_st, cg_put]
theorem cg_st_1 (sb sa : Bool) (k : Int32) (go gn : Nat → Int32) (s : cg_S) : (cg_st sb sa true k go gn s).1 ≤ s.1 + 1 := by
  cases sb <;> cases sa <;> simp [cg_st, cg_put]
theorem cg_st_0 (sb : Bool) (k : Int32) (go gn : Nat → Int32) (s : cg_S) : cg_st sb sb true k go gn s = s := by
  cases sb <;> rfl
/-- one group has changed: room for two -/
theorem cg_room {fl ce : Int32} {L M : List (Int32 × Int32)} {κ : Nat} (s : cg_S) (hs : s.1 ≤ 22) (h : ∀ j, j < 8 → ¬ j = κ → cg_Q (nI j) L M) : ∀ q, q ≤ 8 → (cg_T fl ce fl ce L M s q).1 ≤ 24 := by
  have H : ∀ q, q ≤ 8 → (cg_T fl ce fl ce L M s q).1 ≤ s.1 + (if q ≤ κ then 0 else 2) := by
    intro q
    induction q with
    | zero => intro _; rw [if_pos (Nat.zero_le κ)]; exact Nat.le_refl _
    | succ q ih =>
      intro hq
      have ih := ih (by omega)
      unfold cg_T at ih ⊢
      rw [cg_lg]
      by_cases c : q = κ
      · rw [if_pos (by omega)] at ih
        rw [if_neg (by omega)]
        refine Nat.le_trans (cg_st_2 _ _ _ _ _ _ _) (by omega)
      · have hQ := h q (by omega) c
        have e1 : cg_h fl ce L (nI q) = cg_h fl ce M (nI q) := cg_Q_h hQ fl ce
        have e2 : cg_q (cg_F M (nI q)) (cg_F L (nI q)) = true := cg_q_t (fun f _ => (cg_Q_F hQ f).symm)
        rw [e1, e2, cg_st_0]
        refine Nat.le_trans ih ?_
        by_cases c2 : q ≤ κ
        · rw [if_pos c2, if_pos (by omega)]; exact Nat.le_refl _
        · rw [if_neg c2, if_neg (by omega)]; exact Nat.le_refl _
  intro q hq
  refine Nat.le_trans (H q hq) ?_
  by_cases c : q ≤ κ
  · rw [if_pos c]; omega
  · rw [if_neg c]; omega
/-- the table is as it was: room for one a key -/
theorem cg_room1 {fl ce fl' ce' : Int32} {L : List (Int32 × Int32)} (s : cg_S) (hs : s.1 = 0) : ∀ q, q ≤ 8 → (cg_T fl ce fl' ce' L L s q).1 ≤ 24 := by
  have H : ∀ q, (cg_T fl ce fl' ce' L L s q).1 ≤ q := by
    intro q
    induction q with
    | zero => exact Nat.le_of_eq hs
    | succ q ih =>
      unfold cg_T at ih ⊢
      rw [cg_lg]
      have e2 : cg_q (cg_F L (nI q)) (cg_F L (nI q)) = true := cg_q_t (fun f _ => rfl)
      rw [e2]
      exact Nat.le_trans (cg_st_1 _ _ _ _ _ _) (by omega)
  exact fun q hq => Nat.le_trans (H q) (by omega)
def i_Rel (k : Nat) (u : SX) (v : SY) : Prop :=
  ∃ (n : Nat) (fl ce : Int32) (s : cg_S) (a b G H M K V SB BE : Nat → Int32), u = (nI n, fl, ce, nI s.1, a, b, G, H, M, s.2.1, s.2.2.1, s.2.2.2) ∧ v = (nI n, fl, ce, nI s.1, K, V, s.2.1, s.2.2.1, s.2.2.2, SB, BE) ∧
    n ≤ 40 ∧ s.1 ≤ 24 ∧ cg_So a b n ∧ cg_In (cg_L a b n) ∧ (cg_L a b n).Perm (cg_L K V n) ∧ cg_GG (cg_L a b n) G ∧ cg_HH fl ce (cg_L a b n) H
theorem i_up {k : Nat} {u : SX} {v : SY} (h : i_Rel k u v) : i_Rel (k + 3) u v := h
theorem i_vc0 : wpX_init (fun u => wpY_init (fun v => i_Rel 0 u v)) := by
  have hF : ∀ k f, (0 : Int32) = cg_F [] k f := fun k f => by
    unfold cg_F
    rw [if_pos (show cg_c k [] = 0 from rfl)]
  exact ⟨0, 1, 40, (0, (fun _ => 0), (fun _ => 0), (fun _ => 0)), _, _, _, _, _, _, _, _, _, rfl, rfl, by omega, by decide, fun i j _ hj => absurd hj (Nat.not_lt_zero j), (fun x hx => nomatch hx), List.Perm.refl _, fun j _ f _ => hF _ _, fun j _ => rfl⟩
/-- X's insertion -/
theorem cx_ins_l (fl ce en : Int32) (a b G H M S K F : Nat → Int32) (post : Int32 → SX → Prop) (x y : Int32) {n p : Nat} (hn : n < 40) (hp : p ≤ n)
    (h : ∀ a' b', (∀ j, j ≤ n → a' j = cg_ins a p x j ∧ b' j = cg_ins b p y j) → ∀ Q : SX → Prop, (∀ r f2 f3 f4 g1 g2 g3 g4 g5 g6 g7 g8, post r (r, f2, f3, f4, g1, g2, g3, g4, g5, g6, g7, g8) → Q (r, f2, f3, f4, g1, g2, g3, g4, g5, g6, g7, g8)) → wpX_logChanges Q (nI (n + 1), fl, ce, en, a', b', G, H, M, S, K, F)) :
    ∀ d i a' b', p + d = i → i ≤ n → (∀ j, j ≤ n → (a' j = if j ≤ i then a j else a (j - 1)) ∧ (b' j = if j ≤ i then b j else b (j - 1))) → wX_insert_39 post x y (nI p) (nI n) fl ce en (d + 1) (nI i) a' b' G H M S K F := by
  intro d
  induction d with
  | zero =>
    intro i a' b' e hi hab
    obtain rfl : p = i := by omega
    have hv : vp_in (nI p) 40 := vp_in_nI (by omega) (by omega)
    have hc := nI_clamp (n := p) (by omega)
    refine br_t (Int32.le_refl _) ⟨hv, ?_⟩
    rw [hc]
    refine nm_e ⟨hv, nm_e (nm_r (nI_1 n) (h _ _ (fun j hj => ?_) _ (fun _ _ _ _ _ _ _ _ _ _ _ _ hq => hq)))⟩
    unfold cg_ins
    by_cases c1 : j = p
    · rw [c1, pk_us, pk_us, if_neg (by omega), if_pos rfl, if_neg (by omega), if_pos rfl]; exact ⟨rfl, rfl⟩
    · rw [pk_un c1, pk_un c1, (hab j hj).1, (hab j hj).2]
      by_cases c2 : j < p
      · rw [if_pos c2, if_pos c2, if_pos (by omega), if_pos (by omega)]; exact ⟨rfl, rfl⟩
      · rw [if_neg c2, if_neg c2, if_neg c1, if_neg c1, if_neg (by omega), if_neg (by omega)]; exact ⟨rfl, rfl⟩
  | succ d ih =>
    intro i a' b' e hi hab
    have hv : vp_in (nI i) 40 := vp_in_nI (by omega) (by omega)
    have e1 : nI i - 1 = nI (i - 1) := pk_sub (b := 1) (by omega)
    have e2 : nI i + (-1) = nI (i - 1) := by
      have := pk_m1 (i - 1)
      rw [show i - 1 + 1 = i by omega] at this
      exact this
    have hv1 : vp_in (nI (i - 1)) 40 := vp_in_nI (by omega) (by omega)
    refine br_f (nI_ge (by omega) (by omega)) ?_
    rw [e1, nI_clamp (n := i) (by omega), nI_clamp (n := i - 1) (by omega)]
    refine ⟨hv1, hv, nm_e ⟨hv1, hv, nm_e (nm_r e2 (ih (i - 1) _ _ (by omega) (by omega) (fun j hj => ?_)))⟩⟩
    by_cases c1 : j = i
    · rw [c1, pk_us, pk_us, if_neg (by omega), if_neg (by omega), (hab (i - 1) (by omega)).1, (hab (i - 1) (by omega)).2, if_pos (by omega), if_pos (by omega)]; exact ⟨rfl, rfl⟩
    · rw [pk_un c1, pk_un c1, (hab j hj).1, (hab j hj).2]
      by_cases c2 : j ≤ i
      · rw [if_pos c2, if_pos c2, if_pos (by omega), if_pos (by omega)]; exact ⟨rfl, rfl⟩
      · rw [if_neg c2, if_neg c2, if_neg (by omega), if_neg (by omega)]; exact ⟨rfl, rfl⟩
/-- X's removal of a stretch -/
theorem cx_drop_l (fl ce en : Int32) (a b G H M S K F : Nat → Int32) (post : SX → Prop) {n p c : Nat} (hn : n ≤ 40) (hp : p + c ≤ n)
    (h : ∀ a' b', (∀ j, j < n - c → a' j = cg_del a p c j ∧ b' j = cg_del b p c j) → post (nI (n - c), fl, ce, en, a', b', G, H, M, S, K, F)) :
    ∀ d i a' b', i + d = n → p + c ≤ i → (∀ j, j < n → (a' j = if j < i - c then cg_del a p c j else a j) ∧ (b' j = if j < i - c then cg_del b p c j else b j)) → wX_dropRows_4 post (nI c) (nI n) fl ce en (d + 1) (nI i) a' b' G H M S K F := by
  intro d
  induction d with
  | zero =>
    intro i a' b' e hi hab
    obtain rfl : i = n := by omega
    refine br_t (Int32.le_refl _) (nm_r (pk_sub (by omega)) (h a' b' (fun j hj => ?_)))
    have := hab j (by omega)
    rw [if_pos hj, if_pos hj] at this
    exact this
  | succ d ih =>
    intro i a' b' e hi hab
    have hv : vp_in (nI i) 40 := vp_in_nI (by omega) (by omega)
    have hv1 : vp_in (nI (i - c)) 40 := vp_in_nI (by omega) (by omega)
    refine br_f (nI_ge (by omega) (by omega)) ?_
    rw [pk_sub (a := i) (b := c) (by omega), nI_clamp (n := i) (by omega), nI_clamp (n := i - c) (by omega)]
    refine ⟨hv, hv1, nm_e ⟨hv, hv1, nm_e (nm_r (nI_1 i) (ih (i + 1) _ _ (by omega) (by omega) (fun j hj => ?_)))⟩⟩
    have hi' := hab i (by omega)
    rw [if_neg (by omega), if_neg (by omega)] at hi'
    by_cases c1 : j = i - c
    · rw [c1, pk_us, pk_us, if_pos (by omega), if_pos (by omega), hi'.1, hi'.2, cg_del, cg_del, if_neg (by omega), if_neg (by omega), show i - c + c = i by omega]; exact ⟨rfl, rfl⟩
    · rw [pk_un c1, pk_un c1, (hab j hj).1, (hab j hj).2]
      by_cases c2 : j < i - c
      · rw [if_pos c2, if_pos c2, if_pos (by omega), if_pos (by omega)]; exact ⟨rfl, rfl⟩
      · rw [if_neg c2, if_neg c2, if_neg (by omega), if_neg (by omega)]; exact ⟨rfl, rfl⟩
theorem cx_drop (fl ce en : Int32) (a b G H M S K F : Nat → Int32) (post : SX → Prop) {n p c : Nat} (hn : n ≤ 40) (hp : p + c ≤ n)
    (h : ∀ a' b', (∀ j, j < n - c → a' j = cg_del a p c j ∧ b' j = cg_del b p c j) → post (nI (n - c), fl, ce, en, a', b', G, H, M, S, K, F)) : wpX_dropRows post (nI n, fl, ce, en, a, b, G, H, M, S, K, F) (nI p) (nI c) := by
  unfold wpX_dropRows
  dsimp only
  refine nm_r (nI_add p c) ⟨n - (p + c) + 1, cx_drop_l fl ce en a b G H M S K F post hn hp h (n - (p + c)) (p + c) a b (by omega) (Nat.le_refl _) (fun j hj => ?_)⟩
  rw [show p + c - c = p by omega]
  by_cases c1 : j < p
  · rw [if_pos c1, if_pos c1, cg_del, cg_del, if_pos c1, if_pos c1]; exact ⟨rfl, rfl⟩
  · rw [if_neg c1, if_neg c1]; exact ⟨rfl, rfl⟩
theorem cy_drop (fl ce en : Int32) (K V S KK FF SB BE : Nat → Int32) (post : SY → Prop) {m i : Nat} (hm : m < 40) (hi : i < m + 1) (h : post (nI m, fl, ce, en, upd K i (K m), upd V i (V m), S, KK, FF, SB, BE)) : wpY_drop post (nI (m + 1), fl, ce, en, K, V, S, KK, FF, SB, BE) (nI i) := by
  have hv : vp_in (nI i) 40 := vp_in_nI (by omega) (by omega)
  have hv1 : vp_in (nI m) 40 := vp_in_nI (by omega) (by omega)
  unfold wpY_drop
  dsimp only
  refine nm_r (nI_pred m) ⟨hv1, hv, ?_⟩
  rw [nI_clamp (n := i) (by omega), nI_clamp (n := m) (by omega)]
  exact nm_e ⟨hv1, hv, nm_e h⟩
end
section
theorem i_vc_pending {k : Nat} {u : SX} {v : SY} (I : i_Rel k u v) (hk : k + 3 ≤ 1536) : wpX_pending (fun r => wpY_pending (fun r' => r' = r ∧ i_Rel (k + 3) u v) v) u := by
  have I' : i_Rel (k + 3) u v := I
  obtain ⟨n, fl, ce, s, a, b, G, H, M, K, V, SB, BE, rfl, rfl, hn, he, hs, hin, hP, hG, hH⟩ := I
  exact ⟨rfl, I'⟩
theorem cg_ent {e : Nat} (he : e ≤ 24) {x : Int32} (h0 : ¬ x < 0) (h1 : ¬ nI e ≤ x) : ∃ j : Nat, j < e ∧ x = nI j := by
  obtain ⟨j, hj, rfl⟩ := nI_of h0
  rw [nI_leI (by omega) hj] at h1
  exact ⟨j, by omega, rfl⟩
theorem i_vc_sort {k : Nat} {u : SX} {v : SY} (I : i_Rel k u v) (hk : k + 3 ≤ 1536) (v1 : Int32) : wpX_sort (fun r => wpY_sort (fun r' => r' = r ∧ i_Rel (k + 3) u v) v v1) u v1 := by
  have I' : i_Rel (k + 3) u v := I
  obtain ⟨n, fl, ce, s, a, b, G, H, M, K, V, SB, BE, rfl, rfl, hn, he, hs, hin, hP, hG, hH⟩ := I
  unfold wpX_sort wpX_isEntry wpY_sort
  dsimp only
  by_cases h0 : v1 < 0
  · exact br_t h0 (br_t rfl (br_t h0 ⟨rfl, I'⟩))
  · by_cases h1 : nI s.1 ≤ v1
    · exact br_f h0 (br_t h1 (br_t rfl (br_f h0 (br_f (Int32.not_lt.mpr h1) ⟨rfl, I'⟩))))
    · obtain ⟨j, hj, rfl⟩ := cg_ent he h0 h1
      have hv : vp_in (nI j) 24 := vp_in_nI (by omega) (by omega)
      exact br_f h0 (br_f h1 (br_f (by decide) ⟨hv, br_f h0 (br_t (Int32.not_le.mp h1) ⟨hv, rfl, I'⟩)⟩))
theorem i_vc_key {k : Nat} {u : SX} {v : SY} (I : i_Rel k u v) (hk : k + 3 ≤ 1536) (v1 : Int32) : wpX_key (fun r => wpY_key (fun r' => r' = r ∧ i_Rel (k + 3) u v) v v1) u v1 := by
  have I' : i_Rel (k + 3) u v := I
  obtain ⟨n, fl, ce, s, a, b, G, H, M, K, V, SB, BE, rfl, rfl, hn, he, hs, hin, hP, hG, hH⟩ := I
  unfold wpX_key wpX_isEntry wpY_key
  dsimp only
  by_cases h0 : v1 < 0
  · exact br_t h0 (br_t rfl (br_t h0 ⟨rfl, I'⟩))
  · by_cases h1 : nI s.1 ≤ v1
    · exact br_f h0 (br_t h1 (br_t rfl (br_f h0 (br_f (Int32.not_lt.mpr h1) ⟨rfl, I'⟩))))
    · obtain ⟨j, hj, rfl⟩ := cg_ent he h0 h1
      have hv : vp_in (nI j) 24 := vp_in_nI (by omega) (by omega)
      exact br_f h0 (br_f h1 (br_f (by decide) ⟨hv, br_f h0 (br_t (Int32.not_le.mp h1) ⟨hv, rfl, I'⟩)⟩))
theorem i_vc_field {k : Nat} {u : SX} {v : SY} (I : i_Rel k u v) (hk : k + 3 ≤ 1536) (v1 : Int32) (v2 : Int32) : wpX_field (fun r => wpY_field (fun r' => r' = r ∧ i_Rel (k + 3) u v) v v1 v2) u v1 v2 := by
  have I' : i_Rel (k + 3) u v := I
  obtain ⟨n, fl, ce, s, a, b, G, H, M, K, V, SB, BE, rfl, rfl, hn, he, hs, hin, hP, hG, hH⟩ := I
  unfold wpX_field wpX_isEntry wpX_isField wpY_field
  dsimp only
  by_cases h0 : v1 < 0
  · exact br_t h0 (br_t rfl (br_t h0 ⟨rfl, I'⟩))
  · by_cases h1 : nI s.1 ≤ v1
    · exact br_f h0 (br_t h1 (br_t rfl (br_f h0 (br_t h1 ⟨rfl, I'⟩))))
    · obtain ⟨j, hj, rfl⟩ := cg_ent he h0 h1
      refine br_f h0 (br_f h1 (br_f (by decide) ?_))
      by_cases g0 : v2 < 0
      · exact br_t g0 (br_t rfl (br_f h0 (br_f h1 (br_t g0 ⟨rfl, I'⟩))))
      · obtain ⟨f, hf, rfl⟩ := nI_of g0
        by_cases g1 : f < 6
        · refine br_f g0 (br_f (nI_ge (b := 6) g1 (by decide)) (br_f (by decide) ?_))
          rw [cg_ix', cg_ix]
          have hv : vp_in (nI (6 * j + f)) 144 := vp_in_nI (by omega) (by omega)
          have hx : nI f ≤ 5 := nI_le (b := 5) (by omega) (by decide)
          exact ⟨hv, br_f h0 (br_f h1 (br_f g0 (br_t hx ⟨hv, rfl, I'⟩)))⟩
        · have hx : ¬ nI f ≤ 5 := nI_ge (a := 5) (by omega) hf
          have hx6 : (6 : Int32) ≤ nI f := nI_le (a := 6) (by omega) hf
          exact br_f g0 (br_t hx6 (br_t rfl (br_f h0 (br_f h1 (br_f g0 (br_f hx ⟨rfl, I'⟩))))))
theorem cg_key (x : Int32) : x < 0 ∨ (¬ x < 0 ∧ (8 : Int32) ≤ x ∧ (7 : Int32) < x ∧ ∀ q : Nat, q < 8 → ¬ x = nI q) ∨ ∃ q : Nat, q < 8 ∧ x = nI q ∧ ¬ x < 0 ∧ ¬ (8 : Int32) ≤ x ∧ ¬ (7 : Int32) < x := by
  by_cases h : x < 0
  · exact Or.inl h
  · obtain ⟨j, hj, rfl⟩ := nI_of h
    by_cases c : j < 8
    · exact Or.inr (Or.inr ⟨j, c, rfl, h, nI_ge (b := 8) c (by decide), nI_nlt (b := j) (a := 7) (by omega) (by decide)⟩)
    · refine Or.inr (Or.inl ⟨h, nI_le (a := 8) (by omega) hj, nI_lt (a := 7) (by omega) hj, fun q hq e => ?_⟩)
      rw [nI_eq hj (by omega)] at e
      omega
theorem cg_neg {x : Int32} (h : x < 0) (q : Nat) (hq : q < 8) : ¬ x = nI q := fun e => by
  rw [e] at h
  exact nI_pos (by omega) h
theorem i_vc_now {k : Nat} {u : SX} {v : SY} (I : i_Rel k u v) (hk : k + 3 ≤ 1536) (v1 : Int32) (v2 : Int32) : wpX_now (fun r => wpY_now (fun r' => r' = r ∧ i_Rel (k + 3) u v) v v1 v2) u v1 v2 := by
  have I' : i_Rel (k + 3) u v := I
  obtain ⟨n, fl, ce, s, a, b, G, H, M, K, V, SB, BE, rfl, rfl, hn, he, hs, hin, hP, hG, hH⟩ := I
  have hFu := cg_Fu_p hP (cg_So_Fu hs)
  have out : (∀ q : Nat, q < 8 → ¬ v1 = nI q) → wpY_now (fun r' => r' = 0 ∧ i_Rel (k + 3) (nI n, fl, ce, nI s.1, a, b, G, H, M, s.2.1, s.2.2.1, s.2.2.2) (nI n, fl, ce, nI s.1, K, V, s.2.1, s.2.2.1, s.2.2.2, SB, BE)) (nI n, fl, ce, nI s.1, K, V, s.2.1, s.2.2.1, s.2.2.2, SB, BE) v1 v2 := fun ho => by
    refine cy_now fl ce _ K V _ _ _ SB BE _ v1 v2 hn hFu (fun f hf e => ⟨?_, I'⟩) (fun _ => ⟨rfl, I'⟩)
    unfold cg_F
    rw [if_pos (cg_In_c (cg_In_p hP hin) ho)]
  unfold wpX_now wpX_isKey wpX_isField
  dsimp only
  rcases cg_key v1 with h0 | ⟨h0, h8, _, ho⟩ | ⟨q, hq, rfl, h0, h8, _⟩
  · exact br_t h0 (br_t rfl (out (cg_neg h0)))
  · exact br_f h0 (br_t h8 (br_t rfl (out ho)))
  · refine br_f h0 (br_f h8 (br_f (by decide) ?_))
    by_cases g0 : v2 < 0
    · refine br_t g0 (br_t rfl (cy_now fl ce _ K V _ _ _ SB BE _ _ v2 hn hFu (fun f hf e => ?_) (fun _ => ⟨rfl, I'⟩)))
      exact absurd e (cg_neg g0 f (by omega))
    · obtain ⟨f, hf, rfl⟩ := nI_of g0
      by_cases g1 : f < 6
      · refine br_f g0 (br_f (nI_ge (b := 6) g1 (by decide)) (br_f (by decide) ?_))
        rw [cg_ix', nI_clamp (by omega)]
        refine ⟨vp_in_nI (by omega) (by omega), ?_⟩
        refine cy_nowI fl ce _ K V _ _ _ SB BE _ _ hn g1 hFu ⟨?_, I'⟩
        rw [hG q hq f g1, cg_F_p hP]
      · have hx6 : (6 : Int32) ≤ nI f := nI_le (a := 6) (by omega) hf
        refine br_f g0 (br_t hx6 (br_t rfl (cy_now fl ce _ K V _ _ _ SB BE _ _ _ hn hFu (fun f' hf' e => ?_) (fun _ => ⟨rfl, I'⟩))))
        rw [nI_eq hf (by omega)] at e
        omega
theorem cg_lo_c0 (k w : Int32) : ∀ L : List (Int32 × Int32), cg_lo k w L ≤ cg_c k L
  | [] => Nat.le_refl _
  | x :: l => by
    have := cg_lo_c0 k w l
    rw [cg_lo_c, cg_c_c]
    by_cases c : x.1 = k
    · rw [if_pos c]
      split <;> omega
    · rw [if_neg c, if_neg (fun z => c z.1)]
      exact this
theorem i_vc_below {k : Nat} {u : SX} {v : SY} (I : i_Rel k u v) (hk : k + 3 ≤ 1536) (v1 : Int32) (v2 : Int32) : wpX_below (fun r => wpY_below (fun r' => r' = r ∧ i_Rel (k + 3) u v) v v1 v2) u v1 v2 := by
  have I' : i_Rel (k + 3) u v := I
  obtain ⟨n, fl, ce, s, a, b, G, H, M, K, V, SB, BE, rfl, rfl, hn, he, hs, hin, hP, hG, hH⟩ := I
  have out : (∀ q : Nat, q < 8 → ¬ v1 = nI q) → wpY_below (fun r' => r' = 0 ∧ i_Rel (k + 3) (nI n, fl, ce, nI s.1, a, b, G, H, M, s.2.1, s.2.2.1, s.2.2.2) (nI n, fl, ce, nI s.1, K, V, s.2.1, s.2.2.1, s.2.2.2, SB, BE)) (nI n, fl, ce, nI s.1, K, V, s.2.1, s.2.2.1, s.2.2.2, SB, BE) v1 v2 := fun ho => by
    refine cy_below fl ce _ K V _ _ _ SB BE _ v1 v2 hn ⟨?_, I'⟩
    have h1 := cg_lo_c0 v1 v2 (cg_L K V n)
    rw [cg_In_c (cg_In_p hP hin) ho] at h1
    rw [Nat.le_zero.mp h1]
    rfl
  unfold wpX_below wpX_isKey
  dsimp only
  rcases cg_key v1 with h0 | ⟨h0, h8, _, ho⟩ | ⟨q, hq, rfl, h0, h8, _⟩
  · exact br_t h0 (br_t rfl (out (cg_neg h0)))
  · exact br_f h0 (br_t h8 (br_t rfl (out ho)))
  · refine br_f h0 (br_f h8 (br_f (by decide) ?_))
    refine cx_rb fl ce _ a b G H M _ _ _ _ (nI q) v2 hn hs ?_
    refine cx_rb fl ce _ a b G H M _ _ _ _ (nI q) (-2147483648) hn hs ?_
    refine cy_below fl ce _ K V _ _ _ SB BE _ _ v2 hn ⟨?_, I'⟩
    rw [cg_B_lo (nI q) v2, pk_sub (by omega), cg_lo_p hP]
    exact congrArg nI (by omega)
def cg_w (F : Nat → Int32) (i j : Nat) : Nat → Nat → Int32
  | 0 => F
  | f + 1 => upd (cg_w F i j f) (6 * j + f) (cg_w F i j f (6 * i + f))
/-- the log after e entries have come down by c -/
def cg_mv (c : Nat) (S K F : Nat → Int32) : Nat → (Nat → Int32) × (Nat → Int32) × (Nat → Int32)
  | 0 => (S, K, F)
  | e + 1 => (upd (cg_mv c S K F e).1 e ((cg_mv c S K F e).1 (e + c)), upd (cg_mv c S K F e).2.1 e ((cg_mv c S K F e).2.1 (e + c)), cg_w (cg_mv c S K F e).2.2 (e + c) e 6)
theorem cx_move_l (rw' fl ce en : Int32) (a b G H M S K F : Nat → Int32) (post : SX → Prop) {i j : Nat} (hi : i < 24) (hj : j < 24) (h : post (rw', fl, ce, en, a, b, G, H, M, S, K, cg_w F i j 6)) : ∀ d f, f + d = 6 → wX_moveEntry_26 post (nI i) (nI j) rw' fl ce en (d + 1) (nI f) a b G H M S K (cg_w F i j f) := by
  intro d
  induction d with
  | zero =>
    intro f e
    obtain rfl : f = 6 := by omega
    exact br_t (Int32.le_refl _) h
  | succ d ih =>
    intro f e
    refine br_f (nI_ge (b := 6) (by omega) (by decide)) ?_
    rw [cg_ix', cg_ix']
    refine ⟨vp_in_nI (by omega) (by omega), vp_in_nI (by omega) (by omega), ?_⟩
    rw [nI_clamp (by omega), nI_clamp (by omega)]
    exact nm_e (nm_r (nI_1 f) (ih (f + 1) (by omega)))
theorem cx_move (rw' fl ce en : Int32) (a b G H M S K F : Nat → Int32) (post : SX → Prop) {i j : Nat} (hi : i < 24) (hj : j < 24) (h : post (rw', fl, ce, en, a, b, G, H, M, upd S j (S i), upd K j (K i), cg_w F i j 6)) : wpX_moveEntry post (rw', fl, ce, en, a, b, G, H, M, S, K, F) (nI i) (nI j) := by
  have hv : vp_in (nI i) 24 := vp_in_nI hi (by omega)
  have hw : vp_in (nI j) 24 := vp_in_nI hj (by omega)
  unfold wpX_moveEntry
  dsimp only
  rw [nI_clamp (n := i) (by omega), nI_clamp (n := j) (by omega)]
  exact ⟨hv, hw, nm_e ⟨hv, hw, nm_e ⟨7, cx_move_l rw' fl ce en a b G H M _ _ F post hi hj h 6 0 (by omega)⟩⟩⟩
theorem cx_take_l (rw' fl ce : Int32) (a b G H M S K F : Nat → Int32) (post : Int32 → SX → Prop) {c e : Nat} (hc : c ≤ e) (he : e ≤ 24) (h : post (nI c) (rw', fl, ce, nI (e - c), a, b, G, H, M, (cg_mv c S K F (e - c)).1, (cg_mv c S K F (e - c)).2.1, (cg_mv c S K F (e - c)).2.2)) : ∀ d j, j + c + d = e → wX_take_23 post (nI c) (d + 1) (nI (j + c)) rw' fl ce (nI e) a b G H M (cg_mv c S K F j).1 (cg_mv c S K F j).2.1 (cg_mv c S K F j).2.2 := by
  intro d
  induction d with
  | zero =>
    intro j e'
    obtain rfl : j = e - c := by omega
    have e1 : e - c + c = e := by omega
    rw [e1]
    exact br_t (Int32.le_refl _) (nm_r (pk_sub hc) h)
  | succ d ih =>
    intro j e'
    refine br_f (nI_ge (by omega) (by omega)) ?_
    have e1 : nI (j + c) - nI c = nI j := by rw [pk_sub (by omega)]; exact congrArg nI (by omega)
    rw [e1]
    refine cx_move rw' fl ce _ a b G H M _ _ _ _ (by omega) (by omega) ?_
    refine nm_r (e' := nI (j + 1 + c)) ?_ (ih (j + 1) (by omega))
    rw [nI_1]
    exact congrArg nI (by omega)
theorem cy_take_i (rw' fl ce en : Int32) (K V S KK FF SB BE : Nat → Int32) (post : Int32 → SY → Prop) (J : Int32 → (Nat → Int32) → (Nat → Int32) → (Nat → Int32) → (Nat → Int32) → (Nat → Int32) → (Nat → Int32) → (Nat → Int32) → Prop) {c j : Nat} (hj : j + c < 24) (h : J (nI (j + 1)) K V S KK (cg_w FF (j + c) j 6) SB BE) : ∀ d f, f + d = 6 → wY_take_76 post J (nI c) (nI j) rw' fl ce en (d + 1) (nI f) K V S KK (cg_w FF (j + c) j f) SB BE := by
  intro d
  induction d with
  | zero =>
    intro f e
    obtain rfl : f = 6 := by omega
    exact br_t (Int32.le_refl _) (nm_r (nI_1 j) h)
  | succ d ih =>
    intro f e
    refine br_f (nI_ge (b := 6) (by omega) (by decide)) ?_
    rw [nI_add, cg_ix, cg_ix]
    refine ⟨vp_in_nI (by omega) (by omega), vp_in_nI (by omega) (by omega), ?_⟩
    rw [nI_clamp (by omega), nI_clamp (by omega)]
    exact nm_e (nm_r (nI_1 f) (ih (f + 1) (by omega)))
theorem cy_take_l (rw' fl ce : Int32) (K V S KK FF SB BE : Nat → Int32) (post : Int32 → SY → Prop) {c e : Nat} (hc : c ≤ e) (he : e ≤ 24) (h : post (nI c) (rw', fl, ce, nI (e - c), K, V, (cg_mv c S KK FF (e - c)).1, (cg_mv c S KK FF (e - c)).2.1, (cg_mv c S KK FF (e - c)).2.2, SB, BE)) : ∀ d j, j + d = e - c → wY_take_37 post (nI c) rw' fl ce (nI (e - c)) (d + 1) (nI j) K V (cg_mv c S KK FF j).1 (cg_mv c S KK FF j).2.1 (cg_mv c S KK FF j).2.2 SB BE := by
  intro d
  induction d with
  | zero =>
    intro j e'
    obtain rfl : j = e - c := by omega
    exact br_t (Int32.le_refl _) h
  | succ d ih =>
    intro j e'
    refine br_f (nI_ge (by omega) (by omega)) ?_
    have hv : vp_in (nI (j + c)) 24 := vp_in_nI (by omega) (by omega)
    have hw : vp_in (nI j) 24 := vp_in_nI (by omega) (by omega)
    rw [nI_add, nI_clamp (n := j + c) (by omega), nI_clamp (n := j) (by omega)]
    refine ⟨hv, hw, nm_e ⟨hv, hw, nm_e ⟨7, cy_take_i rw' fl ce _ K V _ _ _ SB BE post _ (by omega) (ih (j + 1) (by omega)) 6 0 (by omega)⟩⟩⟩
theorem i_vc_take {k : Nat} {u : SX} {v : SY} (I : i_Rel k u v) (hk : k + 3 ≤ 1536) (v1 : Int32) : wpX_take (fun r u' => wpY_take (fun r' v' => r' = r ∧ i_Rel (k + 3) u' v') v v1) u v1 := by
  obtain ⟨n, fl, ce, s, a, b, G, H, M, K, V, SB, BE, rfl, rfl, hn, he, hs, hin, hP, hG, hH⟩ := I
  have hX : ∀ (post : Int32 → SX → Prop) (c : Nat), c ≤ s.1 → post (nI c) (nI n, fl, ce, nI (s.1 - c), a, b, G, H, M, (cg_mv c s.2.1 s.2.2.1 s.2.2.2 (s.1 - c)).1, (cg_mv c s.2.1 s.2.2.1 s.2.2.2 (s.1 - c)).2.1, (cg_mv c s.2.1 s.2.2.1 s.2.2.2 (s.1 - c)).2.2) → ∃ m, wX_take_23 post (nI c) m (nI c) (nI n) fl ce (nI s.1) a b G H M s.2.1 s.2.2.1 s.2.2.2 := fun post c hc hp =>
    ⟨_, by
      have := cx_take_l (nI n) fl ce a b G H M s.2.1 s.2.2.1 s.2.2.2 post hc he hp (s.1 - c) 0 (by omega)
      rw [Nat.zero_add] at this
      exact this⟩
  have hY : ∀ (c : Nat), c ≤ s.1 → wY_take_24 (fun r' v' => r' = nI c ∧ i_Rel (k + 3) (nI n, fl, ce, nI (s.1 - c), a, b, G, H, M, (cg_mv c s.2.1 s.2.2.1 s.2.2.2 (s.1 - c)).1, (cg_mv c s.2.1 s.2.2.1 s.2.2.2 (s.1 - c)).2.1, (cg_mv c s.2.1 s.2.2.1 s.2.2.2 (s.1 - c)).2.2) v') (nI c) (nI n) fl ce (nI s.1) K V s.2.1 s.2.2.1 s.2.2.2 SB BE := fun c hc => by
    refine nm_r (pk_sub hc) ⟨s.1 - c + 1, cy_take_l (nI n) fl ce K V s.2.1 s.2.2.1 s.2.2.2 SB BE _ hc he ⟨rfl, ?_⟩ (s.1 - c) 0 (by omega)⟩
    exact ⟨n, fl, ce, (s.1 - c, (cg_mv c s.2.1 s.2.2.1 s.2.2.2 (s.1 - c)).1, (cg_mv c s.2.1 s.2.2.1 s.2.2.2 (s.1 - c)).2.1, (cg_mv c s.2.1 s.2.2.1 s.2.2.2 (s.1 - c)).2.2), a, b, G, H, M, K, V, SB, BE, rfl, rfl, hn, Nat.le_trans (Nat.sub_le _ _) he, hs, hin, hP, hG, hH⟩
  unfold wpX_take wX_take_8 wpY_take
  dsimp only
  by_cases h0 : 0 ≤ v1
  · obtain ⟨c, hc, rfl⟩ := nI_of (x := v1) (Int32.not_lt.mpr h0)
    by_cases h1 : c ≤ s.1
    · have h2 : nI c ≤ nI s.1 := nI_le h1 (by omega)
      exact br_t h0 (br_t h2 (hX _ c h1 (br_t h0 (br_t h2 (hY c h1)))))
    · have h2 : ¬ nI c ≤ nI s.1 := nI_ge (by omega) hc
      exact br_t h0 (br_f h2 (hX _ s.1 (Nat.le_refl _) (br_t h0 (br_f h2 (hY s.1 (Nat.le_refl _))))))
  · have h2 : (0 : Int32) ≤ nI s.1 := nI_pos' (by omega)
    exact br_f h0 (br_t h2 (hX _ 0 (Nat.zero_le _) (br_f h0 (hY 0 (Nat.zero_le _)))))
end
section
def cg_cl (x : Int32) : Int32 := if 0 ≤ x then (if x ≤ 40 then x else 40) else 0
theorem cx_clamp (post : Int32 → Prop) (r f2 f3 f4 : Int32) (a b G H M S K F : Nat → Int32) (x : Int32) (h : post (cg_cl x)) : wpX_clampToRows post (r, f2, f3, f4, a, b, G, H, M, S, K, F) x := by
  unfold cg_cl at h
  by_cases c : 0 ≤ x
  · rw [if_pos c] at h
    by_cases d : x ≤ 40
    · rw [if_pos d] at h
      exact br_t c (br_t d h)
    · rw [if_neg d] at h
      exact br_t c (br_f d h)
  · rw [if_neg c] at h
    exact br_f c h
theorem cy_clamp (post : Int32 → Prop) (x : Int32) (h : post (cg_cl x)) : wpY_clamped post x := by
  unfold cg_cl at h
  by_cases c : 0 ≤ x
  · rw [if_pos c] at h
    by_cases d : x ≤ 40
    · rw [if_pos d] at h
      exact br_t c (br_t d h)
    · rw [if_neg d] at h
      exact br_t c (br_f d h)
  · rw [if_neg c] at h
    exact br_f c h
theorem i_vc_limits {k : Nat} {u : SX} {v : SY} (I : i_Rel k u v) (hk : k + 3 ≤ 1536) (v1 : Int32) (v2 : Int32) : wpX_limits (fun r u' => wpY_limits (fun r' v' => r' = r ∧ i_Rel (k + 3) u' v') v v1 v2) u v1 v2 := by
  have I' : i_Rel (k + 3) u v := I
  obtain ⟨n, fl, ce, s, a, b, G, H, M, K, V, SB, BE, rfl, rfl, hn, he, hs, hin, hP, hG, hH⟩ := I
  unfold wpX_limits
  dsimp only
  by_cases e0 : s.1 = 0
  · have z : nI s.1 ≤ 0 := by rw [e0]; decide
    refine br_t z ?_
    refine cx_clamp _ _ _ _ _ _ _ _ _ _ _ _ _ v1 ?_
    refine cx_clamp _ _ _ _ _ _ _ _ _ _ _ _ _ v2 ?_
    refine cx_tell fl ce (cg_cl v1) (cg_cl v2) a b _ hn hs (cg_L a b n) s G H M hG hH (cg_room1 s e0) (fun G' H' M' hG' hH' => ?_)
    unfold wpY_limits
    dsimp only
    refine br_t z ?_
    refine cy_rem fl ce _ K V _ _ _ SB BE _ hn (cg_Fu_p hP (cg_So_Fu hs)) (fun A B hA hB => ?_)
    refine cy_clamp _ v1 ?_
    refine cy_clamp _ v2 ?_
    refine cy_tell' fl ce (cg_cl v1) (cg_cl v2) K V A B _ hn (cg_L a b n) (cg_L a b n) (cg_L K V n) (cg_So_Fu hs) hP hP s hA hB (cg_room1 s e0) ⟨rfl, ?_⟩
    exact ⟨n, cg_cl v1, cg_cl v2, cg_T fl ce (cg_cl v1) (cg_cl v2) (cg_L a b n) (cg_L a b n) s 8, a, b, G', H', M', K, V, A, B, rfl, rfl, hn, cg_room1 s e0 8 (Nat.le_refl 8), hs, hin, hP, hG', hH'⟩
  · have z : ¬ nI s.1 ≤ 0 := nI_nle (by omega) (by omega)
    exact br_f z (br_f z ⟨rfl, I'⟩)
theorem i_vc_insert {k : Nat} {u : SX} {v : SY} (I : i_Rel k u v) (hk : k + 3 ≤ 1536) (v1 : Int32) (v2 : Int32) : wpX_insert (fun r u' => wpY_insert (fun r' v' => r' = r ∧ i_Rel (k + 3) u' v') v v1 v2) u v1 v2 := by
  have I' : i_Rel (k + 3) u v := I
  obtain ⟨n, fl, ce, s, a, b, G, H, M, K, V, SB, BE, rfl, rfl, hn, he, hs, hin, hP, hG, hH⟩ := I
  unfold wpX_insert wpX_isKey wpX_logIsTooFull
  dsimp only
  rcases cg_key v1 with h0 | ⟨h0, h8, h7, ho⟩ | ⟨q, hq, rfl, h0, h8, h7⟩
  · exact br_t h0 (br_t rfl (br_t h0 ⟨rfl, I'⟩))
  · exact br_f h0 (br_t h8 (br_t rfl (br_f h0 (br_t h7 ⟨rfl, I'⟩))))
  · refine br_f h0 (br_f h8 (br_f (by decide) ?_))
    by_cases c40 : n = 40
    · have z : (40 : Int32) ≤ nI n := by rw [c40]; exact Int32.le_refl _
      have z' : nI n = 40 := by rw [c40]; rfl
      exact br_t z (br_f h0 (br_f h7 (br_t z' ⟨rfl, I'⟩)))
    · have z : ¬ (40 : Int32) ≤ nI n := nI_ge (b := 40) (by omega) (by decide)
      have z' : ¬ nI n = 40 := fun w => by
        have w' : nI n = nI 40 := w
        rw [nI_eq (by omega) (by omega)] at w'
        exact c40 w'
      refine br_f z ?_
      by_cases c22 : s.1 ≤ 22
      · have y : nI s.1 ≤ 22 := nI_le (b := 22) c22 (by decide)
        refine br_t y (br_t rfl ?_)
        refine cx_rb fl ce _ a b G H M _ _ _ _ (nI q) v2 hn hs ?_
        have hp : cg_B (nI q, v2) (cg_L a b n) ≤ n := cg_B_le_n _
        refine ⟨n - cg_B (nI q, v2) (cg_L a b n) + 1, cx_ins_l fl ce _ a b G H M _ _ _ _ (nI q) v2 (by omega) hp (fun a' b' hab Q hQ => ?_) (n - cg_B (nI q, v2) (cg_L a b n)) n a b (by omega) (Nat.le_refl n) (fun j hj => by rw [if_pos hj, if_pos hj]; exact ⟨rfl, rfl⟩)⟩
        have hs' : cg_So a' b' (n + 1) := cg_ins_s hs rfl hab
        have hp' : (cg_L a' b' (n + 1)).Perm ((nI q, v2) :: cg_L a b n) := cg_ins_p hp hab
        have room : ∀ j, j ≤ 8 → (cg_T fl ce fl ce (cg_L a b n) (cg_L a' b' (n + 1)) s j).1 ≤ 24 := cg_room (κ := q) s c22 (fun j hj hne => cg_Q_s (cg_Q_t (cg_Q_p hp') (cg_Q_c _ (fun w => hne ((nI_eq (by omega) (by omega)).mp w).symm))))
        refine cx_tell fl ce fl ce a' b' Q (by omega) hs' (cg_L a b n) s G H M hG hH room (fun G' H' M' hG' hH' => hQ _ _ _ _ _ _ _ _ _ _ _ _ ?_)
        unfold wpY_insert
        dsimp only
        refine br_f h0 (br_f h7 (br_f z' (br_t y ?_)))
        refine cy_rem fl ce _ K V _ _ _ SB BE _ hn (cg_Fu_p hP (cg_So_Fu hs)) (fun A B hA hB => ?_)
        have hv : vp_in (nI n) 40 := vp_in_nI (by omega) (by omega)
        dsimp only
        rw [nI_clamp (n := n) (by omega)]
        refine ⟨hv, nm_e ⟨hv, nm_e (nm_r (nI_1 n) ?_)⟩⟩
        have hPn : (cg_L a' b' (n + 1)).Perm (cg_L (upd K n (nI q)) (upd V n v2) (n + 1)) := by
          have e5 : cg_L (upd K n (nI q)) (upd V n v2) (n + 1) = (nI q, v2) :: cg_L K V n := by
            rw [cg_L, pk_us, pk_us, cg_L_e (a := K) (b := V) (a' := upd K n (nI q)) (b' := upd V n v2) n (fun j hj => ⟨pk_un (by omega), pk_un (by omega)⟩)]
          rw [e5]
          exact hp'.trans (hP.cons _)
        refine cy_tell' fl ce fl ce (upd K n (nI q)) (upd V n v2) A B _ (by omega) (cg_L a b n) (cg_L a' b' (n + 1)) (cg_L K V n) (cg_So_Fu hs') hPn hP s hA hB room ⟨rfl, ?_⟩
        refine ⟨n + 1, fl, ce, cg_T fl ce fl ce (cg_L a b n) (cg_L a' b' (n + 1)) s 8, a', b', G', H', M', _, _, A, B, rfl, rfl, by omega, room 8 (Nat.le_refl 8), hs', ?_, hPn, hG', hH'⟩
        refine cg_In_p hp'.symm (fun x hx => ?_)
        rcases List.mem_cons.mp hx with e | e
        · exact ⟨q, hq, by rw [e]⟩
        · exact hin x e
      · have y : ¬ nI s.1 ≤ 22 := nI_ge (a := 22) (by omega) (by omega)
        exact br_f y (br_f (by decide) (br_f h0 (br_f h7 (br_f z' (br_f y ⟨rfl, I'⟩)))))
theorem cy_rv_l (fl ce en : Int32) (K V S KK FF SB BE : Nat → Int32) (post : Int32 → SY → Prop) (x y : Int32) {n : Nat} (hn : n ≤ 40) (hF : cg_Fu (cg_L K V n)) (h0 : ¬ (x, y) ∈ cg_L K V n → post (-1) (nI n, fl, ce, en, K, V, S, KK, FF, SB, BE))
    (h1 : ∀ i m A B, n = m + 1 → i < n → K i = x → V i = y → cg_HH fl ce (cg_L K V n) A → cg_M (cg_L K V n) B 48 → ∀ Q : SY → Prop, (∀ r f2 f3 f4 g1 g2 g3 g4 g5 g6 g7, post r (r, f2, f3, f4, g1, g2, g3, g4, g5, g6, g7) → Q (r, f2, f3, f4, g1, g2, g3, g4, g5, g6, g7)) → wpY_tell Q (nI m, fl, ce, en, upd K i (K m), upd V i (V m), S, KK, FF, A, B)) :
    ∀ d i, i + d = n → ¬ (x, y) ∈ cg_L K V i → wY_remove_13 post x y (nI n) fl ce en K V S KK FF SB BE (d + 1) (nI i) := by
  intro d
  induction d with
  | zero =>
    intro i e hno
    obtain rfl : i = n := by omega
    exact br_t (Int32.le_refl _) (h0 hno)
  | succ d ih =>
    intro i e hno
    have hc := nI_clamp (n := i) (by omega)
    have hi : vp_in (nI i) 40 := vp_in_nI (by omega) (by omega)
    refine br_f (nI_ge (by omega) (by omega)) ⟨hi, ?_⟩
    rw [hc]
    by_cases hx : K i = x
    · refine br_t hx ⟨hi, ?_⟩
      by_cases hy : V i = y
      · refine br_t hy (cy_rem fl ce en K V S KK FF SB BE _ hn hF (fun A B hA hB => ?_))
        have en : n = n - 1 + 1 := by omega
        have h2 := h1 i (n - 1) A B en (by omega) hx hy hA hB
        have e3 : nI n = nI (n - 1 + 1) := by rw [← en]
        dsimp only
        rw [e3]
        refine cy_drop fl ce _ K V S KK FF A B _ (by omega) (by omega) ?_
        exact h2 _ (fun _ _ _ _ _ _ _ _ _ _ _ hq => hq)
      · refine br_f hy (nm_r (nI_1 i) (ih (i + 1) (by omega) ?_))
        rw [cg_L, List.mem_cons]
        exact fun z => z.elim (fun w => hy (congrArg Prod.snd w).symm) hno
    · refine br_f hx (nm_r (nI_1 i) (ih (i + 1) (by omega) ?_))
      rw [cg_L, List.mem_cons]
      exact fun z => z.elim (fun w => hx (congrArg Prod.fst w).symm) hno
theorem cg_at_B {a b : Nat → Int32} {n : Nat} (hs : cg_So a b n) {x y : Int32} (h : (x, y) ∈ cg_L a b n) : cg_B (x, y) (cg_L a b n) < n ∧ a (cg_B (x, y) (cg_L a b n)) = x ∧ b (cg_B (x, y) (cg_L a b n)) = y := by
  obtain ⟨j, hj, e⟩ := (cg_L_m a b (x, y) n).mp h
  have ea : a j = x := congrArg Prod.fst e
  have eb : b j = y := congrArg Prod.snd e
  have h1 := cg_Bi hs (x, y) hj
  rw [cg_lb_i, ea, eb] at h1
  dsimp only at h1
  have hle : cg_B (x, y) (cg_L a b n) ≤ j := by omega
  have hlt : cg_B (x, y) (cg_L a b n) < n := by omega
  have h2 := cg_Bi hs (x, y) hlt
  rw [cg_lb_i] at h2
  dsimp only at h2
  refine ⟨hlt, ?_⟩
  by_cases c : cg_B (x, y) (cg_L a b n) = j
  · rw [c]; exact ⟨ea, eb⟩
  · have h3 := hs _ j (Nat.lt_of_le_of_ne hle c) hj
    rw [ea, eb] at h3
    exact ⟨(cg_eqi _ _).mpr (by omega), (cg_eqi _ _).mpr (by omega)⟩
theorem i_vc_remove {k : Nat} {u : SX} {v : SY} (I : i_Rel k u v) (hk : k + 3 ≤ 1536) (v1 : Int32) (v2 : Int32) : wpX_remove (fun r u' => wpY_remove (fun r' v' => r' = r ∧ i_Rel (k + 3) u' v') v v1 v2) u v1 v2 := by
  have I' : i_Rel (k + 3) u v := I
  obtain ⟨n, fl, ce, s, a, b, G, H, M, K, V, SB, BE, rfl, rfl, hn, he, hs, hin, hP, hG, hH⟩ := I
  have hFu := cg_Fu_p hP (cg_So_Fu hs)
  have hp : cg_B (v1, v2) (cg_L a b n) ≤ n := cg_B_le_n _
  unfold wpX_remove
  dsimp only
  refine cx_rb fl ce _ a b G H M _ _ _ _ v1 v2 hn hs ?_
  unfold wpX_isRowAt wpX_logIsTooFull
  dsimp only
  have no : ¬ (v1, v2) ∈ cg_L a b n → wpY_remove (fun r' v' => r' = -1 ∧ i_Rel (k + 3) (nI n, fl, ce, nI s.1, a, b, G, H, M, s.2.1, s.2.2.1, s.2.2.2) v') (nI n, fl, ce, nI s.1, K, V, s.2.1, s.2.2.1, s.2.2.2, SB, BE) v1 v2 := fun hm => by
    have hm' : ¬ (v1, v2) ∈ cg_L K V n := fun z => hm (hP.mem_iff.mpr z)
    unfold wpY_remove
    dsimp only
    refine br_c (fun _ => ⟨n + 1, cy_rv_l fl ce _ K V _ _ _ SB BE _ v1 v2 hn hFu (fun _ => ⟨rfl, I'⟩) (fun i m A B en hi hx hy _ _ => ?_) n 0 (by omega) (fun z => nomatch z)⟩) (fun _ => ⟨rfl, I'⟩)
    exact absurd ((cg_L_m K V _ n).mpr ⟨i, hi, by rw [hx, hy]⟩) hm'
  by_cases hm : (v1, v2) ∈ cg_L a b n
  · obtain ⟨hlt, ea, eb⟩ := cg_at_B hs hm
    have hv : vp_in (nI (cg_B (v1, v2) (cg_L a b n))) 40 := vp_in_nI (by omega) (by omega)
    have hcl : (nI (cg_B (v1, v2) (cg_L a b n))).toNatClampNeg = cg_B (v1, v2) (cg_L a b n) := nI_clamp (by omega)
    refine br_f (nI_ge hlt (by omega)) ⟨hv, ?_⟩
    rw [hcl]
    refine br_t ea ⟨hv, br_t eb (br_f (by decide) ?_)⟩
    by_cases c22 : s.1 ≤ 22
    · have y : nI s.1 ≤ 22 := nI_le (b := 22) c22 (by decide)
      refine br_t y (br_t rfl ?_)
      obtain ⟨q, hq, eq⟩ := hin _ hm
      have eq : v1 = nI q := eq
      obtain ⟨m, rfl⟩ : ∃ m, n = m + 1 := ⟨n - 1, by omega⟩
      refine cx_drop fl ce _ a b G H M _ _ _ _ (c := 1) hn (by omega) (fun a' b' hab => ?_)
      have hab : ∀ j, j < m → a' j = cg_del a (cg_B (v1, v2) (cg_L a b (m + 1))) 1 j ∧ b' j = cg_del b (cg_B (v1, v2) (cg_L a b (m + 1))) 1 j := hab
      have hs' : cg_So a' b' m := cg_del_s (c := 1) hs (by omega) hab
      have hp' : (cg_L a b (m + 1)).Perm ((v1, v2) :: cg_L a' b' m) := by
        have h1 := cg_del_1 (a := a) (b := b) (i := cg_B (v1, v2) (cg_L a b (m + 1))) m hlt
        rw [ea, eb, ← cg_L_e m hab] at h1
        exact h1
      have room : ∀ j, j ≤ 8 → (cg_T fl ce fl ce (cg_L a b (m + 1)) (cg_L a' b' m) s j).1 ≤ 24 := cg_room (κ := q) s c22 (fun j hj hne => cg_Q_t (cg_Q_p hp') (cg_Q_c _ (fun w => hne ((nI_eq (by omega) (by omega)).mp (eq.symm.trans w)).symm)))
      refine cx_tell fl ce fl ce a' b' _ (by omega) hs' (cg_L a b (m + 1)) s G H M hG hH room (fun G' H' M' hG' hH' => ?_)
      unfold wpY_remove
      dsimp only
      refine br_t y ⟨m + 1 + 1, cy_rv_l fl ce _ K V _ _ _ SB BE _ v1 v2 hn hFu (fun z => absurd (hP.mem_iff.mp hm) z) (fun i m' A B en hi hx hy hA hB Q hQ => ?_) (m + 1) 0 (by omega) (fun z => nomatch z)⟩
      obtain rfl : m = m' := by omega
      have hPn : (cg_L a' b' m).Perm (cg_L (upd K i (K m)) (upd V i (V m)) m) := by
        have h2 := cg_dr (K := K) (V := V) hi
        rw [hx, hy] at h2
        exact (hp'.symm.trans (hP.trans h2)).cons_inv
      refine cy_tell' fl ce fl ce _ _ A B Q (by omega) (cg_L a b (m + 1)) (cg_L a' b' m) (cg_L K V (m + 1)) (cg_So_Fu hs') hPn hP s hA hB room (hQ _ _ _ _ _ _ _ _ _ _ _ ⟨rfl, ?_⟩)
      refine ⟨m, fl, ce, cg_T fl ce fl ce (cg_L a b (m + 1)) (cg_L a' b' m) s 8, a', b', G', H', M', _, _, A, B, rfl, rfl, by omega, room 8 (Nat.le_refl 8), hs', ?_, hPn, hG', hH'⟩
      exact fun x hx => hin x (hp'.mem_iff.mpr (List.mem_cons_of_mem _ hx))
    · have y : ¬ nI s.1 ≤ 22 := nI_ge (a := 22) (by omega) (by omega)
      exact br_f y (br_f (by decide) (br_f y ⟨rfl, I'⟩))
  · by_cases c1 : nI n ≤ nI (cg_B (v1, v2) (cg_L a b n))
    · exact br_t c1 (br_t rfl (no hm))
    · have hlt : cg_B (v1, v2) (cg_L a b n) < n := by
        rw [nI_leI (by omega) (by omega)] at c1
        omega
      have hv : vp_in (nI (cg_B (v1, v2) (cg_L a b n))) 40 := vp_in_nI (by omega) (by omega)
      have hcl : (nI (cg_B (v1, v2) (cg_L a b n))).toNatClampNeg = cg_B (v1, v2) (cg_L a b n) := nI_clamp (by omega)
      refine br_f c1 ⟨hv, ?_⟩
      rw [hcl]
      refine br_c (fun ea => ⟨hv, br_c (fun eb => ?_) (fun _ => br_t rfl (no hm))⟩) (fun _ => br_t rfl (no hm))
      exact absurd ((cg_L_m a b _ n).mpr ⟨_, hlt, by rw [ea, eb]⟩) hm
end
section
theorem cg_fi_id {K V : Nat → Int32} {k : Int32} : ∀ m, (∀ j, j < m → ¬ K j = k) → cg_fi k (cg_L K V m) = cg_L K V m
  | 0, _ => rfl
  | m + 1, h => by
    rw [cg_L, cg_fi_f _ (h m (by omega)), cg_fi_id m (fun j hj => h j (by omega))]
theorem cy_rg_l (fl ce en : Int32) (S KK FF A B : Nat → Int32) (post : Int32 → SY → Prop) (x : Int32) {n : Nat} (N : List (Int32 × Int32))
    (h : ∀ K V m, m ≤ 40 → (cg_L K V m).Perm N → ∀ Q : SY → Prop, (∀ r f2 f3 f4 g1 g2 g3 g4 g5 g6 g7, post (nI n - r) (r, f2, f3, f4, g1, g2, g3, g4, g5, g6, g7) → Q (r, f2, f3, f4, g1, g2, g3, g4, g5, g6, g7)) → wpY_tell Q (nI m, fl, ce, en, K, V, S, KK, FF, A, B)) :
    ∀ t m K V, t ≤ m → m ≤ 40 → (∀ j, t ≤ j → j < m → ¬ K j = x) → (cg_fi x (cg_L K V m)).Perm N → wY_removeGroup_37 post x (nI n) (t + 1) (nI t - 1) (nI m) fl ce en K V S KK FF A B := by
  intro t
  induction t with
  | zero =>
    intro m K V _ hm hno hP
    rw [cg_fi_id m (fun j hj => hno j (Nat.zero_le j) hj)] at hP
    exact br_t (by decide) (h K V m hm hP _ (fun _ _ _ _ _ _ _ _ _ _ _ hq => hq))
  | succ t ih =>
    intro m K V ht hm hno hP
    have e1 : nI t + (-1) = nI t - 1 := by rw [Int32.sub_eq_add_neg]
    have hi : vp_in (nI t) 40 := vp_in_nI (by omega) (by omega)
    rw [nI_pred t]
    refine br_f (nI_pos (by omega)) ⟨hi, ?_⟩
    rw [nI_clamp (n := t) (by omega)]
    by_cases hx : K t = x
    · refine br_t hx ?_
      obtain ⟨m', rfl⟩ : ∃ m', m = m' + 1 := ⟨m - 1, by omega⟩
      refine cy_drop fl ce _ K V S KK FF A B _ (by omega) (by omega) (nm_r e1 ?_)
      refine ih m' _ _ (by omega) (by omega) (fun j h1 h2 => ?_) ?_
      · by_cases c : j = t
        · rw [c, pk_us]; exact hno m' (by omega) (by omega)
        · rw [pk_un c]; exact hno j (by omega) (by omega)
      · have h2 : (cg_fi x (cg_L K V (m' + 1))).Perm (cg_fi x ((K t, V t) :: cg_L (upd K t (K m')) (upd V t (V m')) m')) := (cg_dr (K := K) (V := V) (i := t) (by omega)).filter _
        rw [cg_fi_t _ hx] at h2
        exact h2.symm.trans hP
    · refine br_f hx (nm_r e1 (ih m K V (by omega) hm (fun j h1 h2 => ?_) hP))
      by_cases c : j = t
      · rw [c]; exact hx
      · exact hno j (by omega) h2
theorem i_vc_removeGroup {k : Nat} {u : SX} {v : SY} (I : i_Rel k u v) (hk : k + 3 ≤ 1536) (v1 : Int32) : wpX_removeGroup (fun r u' => wpY_removeGroup (fun r' v' => r' = r ∧ i_Rel (k + 3) u' v') v v1) u v1 := by
  have I' : i_Rel (k + 3) u v := I
  obtain ⟨n, fl, ce, s, a, b, G, H, M, K, V, SB, BE, rfl, rfl, hn, he, hs, hin, hP, hG, hH⟩ := I
  unfold wpX_removeGroup wpX_isKey wpX_logIsTooFull
  dsimp only
  rcases cg_key v1 with h0 | ⟨h0, h8, h7, ho⟩ | ⟨q, hq, rfl, h0, h8, h7⟩
  · exact br_t h0 (br_t rfl (br_t h0 ⟨rfl, I'⟩))
  · exact br_f h0 (br_t h8 (br_t rfl (br_f h0 (br_t h7 ⟨rfl, I'⟩))))
  · refine br_f h0 (br_f h8 (br_f (by decide) ?_))
    by_cases c22 : s.1 ≤ 22
    · have y : nI s.1 ≤ 22 := nI_le (b := 22) c22 (by decide)
      refine br_t y (br_t rfl ?_)
      have e6 : nI q * 6 + 0 = nI (6 * q + 0) := cg_ix' q 0
      have hg : G (6 * q + 0) = nI (cg_c (nI q) (cg_L a b n)) := (hG q hq 0 (by omega)).trans (cg_F_0 _ _)
      rw [e6, nI_clamp (by omega)]
      refine ⟨vp_in_nI (by omega) (by omega), nm_r hg ?_⟩
      refine cx_rb fl ce _ a b G H M _ _ _ _ (nI q) (-2147483648) hn hs ?_
      have hrn := cg_rg_n hs (nI q)
      refine cx_drop fl ce _ a b G H M _ _ _ _ hn hrn (fun a' b' hab => ?_)
      have hs' : cg_So a' b' (n - cg_c (nI q) (cg_L a b n)) := cg_del_s hs hrn hab
      have hL : cg_L a' b' (n - cg_c (nI q) (cg_L a b n)) = cg_fi (nI q) (cg_L a b n) := by
        rw [cg_del_f (p := cg_B (nI q, -2147483648) (cg_L a b n)) (c := cg_c (nI q) (cg_L a b n)) n (fun i hi => cg_rg hs (nI q) hi), cg_L_e _ hab]
        congr 1
        by_cases c1 : n ≤ cg_B (nI q, -2147483648) (cg_L a b n)
        · rw [if_pos c1]; omega
        · rw [if_neg c1]
          by_cases c2 : n ≤ cg_B (nI q, -2147483648) (cg_L a b n) + cg_c (nI q) (cg_L a b n)
          · rw [if_pos c2]; omega
          · rw [if_neg c2]
      have room : ∀ j, j ≤ 8 → (cg_T fl ce fl ce (cg_L a b n) (cg_L a' b' (n - cg_c (nI q) (cg_L a b n))) s j).1 ≤ 24 := by
        rw [hL]
        exact cg_room (κ := q) s c22 (fun j hj hne => cg_Q_s (cg_Q_f (fun w => hne ((nI_eq (by omega) (by omega)).mp w)) _))
      refine cx_tell fl ce fl ce a' b' _ (by omega) hs' (cg_L a b n) s G H M hG hH room (fun G' H' M' hG' hH' => ?_)
      unfold wpY_removeGroup
      dsimp only
      refine br_f h0 (br_f h7 (br_t y ?_))
      refine cy_rem fl ce _ K V _ _ _ SB BE _ hn (cg_Fu_p hP (cg_So_Fu hs)) (fun A B hA hB => ?_)
      refine nm_e ⟨n + 1, cy_rg_l fl ce _ _ _ _ A B _ (nI q) (cg_fi (nI q) (cg_L K V n)) (fun K' V' m hm hPm Q hQ => ?_) n n K V (Nat.le_refl n) hn (fun j h1 h2 => by omega) (List.Perm.refl _)⟩
      have hPn : (cg_L a' b' (n - cg_c (nI q) (cg_L a b n))).Perm (cg_L K' V' m) := by
        rw [hL]
        have h3 : (cg_fi (nI q) (cg_L a b n)).Perm (cg_fi (nI q) (cg_L K V n)) := hP.filter _
        exact h3.trans hPm.symm
      have hlen := hPn.length_eq
      rw [cg_L_len, cg_L_len] at hlen
      subst hlen
      refine cy_tell' fl ce fl ce K' V' A B Q hm (cg_L a b n) (cg_L a' b' (n - cg_c (nI q) (cg_L a b n))) (cg_L K V n) (cg_So_Fu hs') hPn hP s hA hB room (hQ _ _ _ _ _ _ _ _ _ _ _ ⟨?_, ?_⟩)
      · rw [pk_sub (by omega)]
        exact congrArg nI (by omega)
      · refine ⟨n - cg_c (nI q) (cg_L a b n), fl, ce, cg_T fl ce fl ce (cg_L a b n) (cg_L a' b' (n - cg_c (nI q) (cg_L a b n))) s 8, a', b', G', H', M', K', V', A, B, rfl, rfl, hm, room 8 (Nat.le_refl 8), hs', ?_, hPn, hG', hH'⟩
        rw [hL]
        exact fun x hx => hin x (cg_fi_m.mp hx).1
    · have y : ¬ nI s.1 ≤ 22 := nI_ge (a := 22) (by omega) (by omega)
      exact br_f y (br_f (by decide) (br_f h0 (br_f h7 (br_f y ⟨rfl, I'⟩))))
end
