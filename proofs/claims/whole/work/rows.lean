section
theorem pk_us {f : Nat → Int32} {k : Nat} {x : Int32} : upd f k x k = x := if_pos rfl
theorem pk_un {f : Nat → Int32} {k j : Nat} {x : Int32} (h : j ≠ k) : upd f k x j = f j := if_neg h
theorem pk_sub {a b : Nat} (h : b ≤ a) : nI a - nI b = nI (a - b) := by
  obtain ⟨c, rfl⟩ : ∃ c, a = c + b := ⟨a - b, by omega⟩
  rw [← nI_add, Int32.add_sub_cancel, Nat.add_sub_cancel]
theorem pk_m1 (n : Nat) : nI (n + 1) + (-1) = nI n := by
  rw [← nI_1, Int32.add_assoc, show (1 : Int32) + (-1) = 0 from rfl, Int32.add_zero]
theorem pk_mul (a b : Nat) : nI a * nI b = nI (a * b) := (Int32.ofNat_mul a b).symm
theorem pk_div {a d : Nat} (ha : a < 2 ^ 31) (h0 : 0 < d) (hd : d < 2 ^ 31) : nI a / nI d = nI (a / d) := by
  apply Int32.toInt_inj.mp
  rw [lg_idiv_nonneg (by rw [nI_toInt ha]; omega) (by rw [nI_toInt hd]; omega), nI_toInt ha, nI_toInt hd, nI_toInt (Nat.lt_of_le_of_lt (Nat.div_le_self a d) ha)]
  first | rfl | exact (Int.natCast_ediv _ _).symm
theorem pk_ix (x : Int32) {n : Nat} (hn : n < 2 ^ 31) : x < 0 ∨ nI n ≤ x ∨ ∃ j : Nat, j < n ∧ x = nI j := by
  by_cases h : x < 0
  · exact Or.inl h
  · obtain ⟨j, hj, rfl⟩ := nI_of h
    by_cases h2 : j < n
    · exact Or.inr (Or.inr ⟨j, h2, rfl⟩)
    · exact Or.inr (Or.inl (nI_le (by omega) hj))
theorem pk_le {x y : Int32} {A B : Prop} (a b : Nat) (f : a ≤ b → A) (g : b < a → B) (hx : x = nI a := by rfl) (hy : y = nI b := by rfl) (ha : a < 2 ^ 31 := by omega) (hb : b < 2 ^ 31 := by omega) : (x ≤ y → A) ∧ (¬ x ≤ y → B) := by
  subst hx hy
  rw [nI_leI ha hb]
  exact ⟨f, fun z => g (by omega)⟩
theorem pk_lt {x y : Int32} {A B : Prop} (a b : Nat) (f : a < b → A) (g : b ≤ a → B) (hx : x = nI a := by rfl) (hy : y = nI b := by rfl) (ha : a < 2 ^ 31 := by omega) (hb : b < 2 ^ 31 := by omega) : (x < y → A) ∧ (¬ x < y → B) := by
  subst hx hy
  rw [nI_ltI ha hb]
  exact ⟨f, fun z => g (by omega)⟩
theorem pk_eq {x y : Int32} {A B : Prop} (a b : Nat) (f : a = b → A) (g : a ≠ b → B) (hx : x = nI a := by rfl) (hy : y = nI b := by rfl) (ha : a < 2 ^ 31 := by omega) (hb : b < 2 ^ 31 := by omega) : (x = y → A) ∧ (¬ x = y → B) := by
  subst hx hy
  rw [nI_eq ha hb]
  exact ⟨f, g⟩
theorem pk_in {x : Int32} (n N : Nat) (h : n < N) (hx : x = nI n := by rfl) (hN : N < 2 ^ 31 := by omega) : vp_in x N := by
  subst hx
  exact vp_in_nI h hN
theorem pk_cl {x : Int32} (n : Nat) (hx : x = nI n := by rfl) (h : n < 2 ^ 31 := by omega) : x.toNatClampNeg = n := by
  subst hx
  exact nI_clamp h
end
section
/-- the rows of a table, newest first -/
def cg_L (a b : Nat → Int32) : Nat → List (Int32 × Int32)
  | 0 => []
  | n + 1 => (a n, b n) :: cg_L a b n
def cg_c (k : Int32) (L : List (Int32 × Int32)) : Nat := L.countP (fun x => decide (x.1 = k))
def cg_lo (k w : Int32) (L : List (Int32 × Int32)) : Nat := L.countP (fun x => decide (x.1 = k ∧ x.2 < w))
def cg_e (k w : Int32) (L : List (Int32 × Int32)) : Nat := L.countP (fun x => decide (x.1 = k ∧ x.2 = w))
def cg_s (k : Int32) : List (Int32 × Int32) → Int32
  | [] => 0
  | x :: l => if x.1 = k then cg_s k l + x.2 else cg_s k l
def cg_d (k : Int32) : List (Int32 × Int32) → Nat
  | [] => 0
  | x :: l => if x.1 = k ∧ ¬ x ∈ l then cg_d k l + 1 else cg_d k l
def cg_R (k : Int32) (L : List (Int32 × Int32)) (p : Nat) (w : Int32) : Prop := cg_lo k w L ≤ p ∧ p < cg_lo k w L + cg_e k w L
noncomputable def cg_r (k : Int32) (L : List (Int32 × Int32)) (p : Nat) : Int32 := Classical.epsilon (cg_R k L p)
noncomputable def cg_F (L : List (Int32 × Int32)) (k : Int32) (f : Nat) : Int32 :=
  if cg_c k L = 0 then 0 else if f = 0 then nI (cg_c k L) else if f = 1 then cg_s k L else if f = 2 then cg_r k L 0 else if f = 3 then cg_r k L (cg_c k L - 1) else if f = 4 then nI (cg_d k L) else if f = 5 then cg_r k L ((cg_c k L - 1) / 2) else 0
def cg_h (fl ce : Int32) (L : List (Int32 × Int32)) (k : Int32) : Bool := decide (0 < cg_c k L ∧ ¬ nI (cg_c k L) < fl ∧ ¬ ce < nI (cg_d k L))
/-- every place of every group has a value -/
def cg_Fu (L : List (Int32 × Int32)) : Prop := ∀ k p, p < cg_c k L → ∃ w, cg_R k L p w

theorem cg_c_c (k : Int32) (x : Int32 × Int32) (l : List (Int32 × Int32)) : cg_c k (x :: l) = cg_c k l + (if x.1 = k then 1 else 0) := by
  simp [cg_c, List.countP_cons]
theorem cg_lo_c (k w : Int32) (x : Int32 × Int32) (l : List (Int32 × Int32)) : cg_lo k w (x :: l) = cg_lo k w l + (if x.1 = k ∧ x.2 < w then 1 else 0) := by
  simp [cg_lo, List.countP_cons]
theorem cg_e_c (k w : Int32) (x : Int32 × Int32) (l : List (Int32 × Int32)) : cg_e k w (x :: l) = cg_e k w l + (if x.1 = k ∧ x.2 = w then 1 else 0) := by
  simp [cg_e, List.countP_cons]
theorem cg_c_p {k : Int32} {L M : List (Int32 × Int32)} (h : L.Perm M) : cg_c k L = cg_c k M := h.countP_eq _
theorem cg_lo_p {k w : Int32} {L M : List (Int32 × Int32)} (h : L.Perm M) : cg_lo k w L = cg_lo k w M := h.countP_eq _
theorem cg_e_p {k w : Int32} {L M : List (Int32 × Int32)} (h : L.Perm M) : cg_e k w L = cg_e k w M := h.countP_eq _
theorem cg_s_p {k : Int32} {L M : List (Int32 × Int32)} (h : L.Perm M) : cg_s k L = cg_s k M := by
  induction h with
  | nil => rfl
  | cons x _ ih => simp only [cg_s, ih]
  | swap x y l =>
    by_cases hx : x.1 = k <;> by_cases hy : y.1 = k <;> simp only [cg_s, hx, hy, if_true, if_false]
    grind
  | trans _ _ a b => exact a.trans b
theorem cg_d_p {k : Int32} {L M : List (Int32 × Int32)} (h : L.Perm M) : cg_d k L = cg_d k M := by
  induction h with
  | nil => rfl
  | cons x p ih => simp only [cg_d, ih, p.mem_iff]
  | swap x y l =>
    by_cases e : x = y
    · subst e; rfl
    · have e' : ¬ y = x := fun z => e z.symm
      simp only [cg_d, List.mem_cons, e, e', false_or]
      by_cases a : x.1 = k ∧ ¬ x ∈ l
      · by_cases b : y.1 = k ∧ ¬ y ∈ l
        · simp only [if_pos a, if_pos b]
        · simp only [if_pos a, if_neg b]
      · by_cases b : y.1 = k ∧ ¬ y ∈ l
        · simp only [if_neg a, if_pos b]
        · simp only [if_neg a, if_neg b]
  | trans _ _ a b => exact a.trans b
theorem cg_R_p {k : Int32} {L M : List (Int32 × Int32)} (h : L.Perm M) (p : Nat) : cg_R k L p = cg_R k M p := by
  funext w
  unfold cg_R
  rw [cg_lo_p h, cg_e_p h]
theorem cg_r_p {k : Int32} {L M : List (Int32 × Int32)} (h : L.Perm M) (p : Nat) : cg_r k L p = cg_r k M p := by
  unfold cg_r
  rw [cg_R_p h]
theorem cg_F_p {L M : List (Int32 × Int32)} (h : L.Perm M) (k : Int32) (f : Nat) : cg_F L k f = cg_F M k f := by
  unfold cg_F
  simp only [cg_c_p h, cg_s_p h, cg_d_p h, cg_r_p h]
theorem cg_h_p {L M : List (Int32 × Int32)} (h : L.Perm M) (fl ce k : Int32) : cg_h fl ce L k = cg_h fl ce M k := by
  unfold cg_h
  simp only [cg_c_p h, cg_d_p h]
theorem cg_Fu_p {L M : List (Int32 × Int32)} (h : L.Perm M) (H : cg_Fu L) : cg_Fu M := by
  intro k p hp
  rw [← cg_c_p h] at hp
  obtain ⟨w, hw⟩ := H k p hp
  exact ⟨w, by rw [← cg_R_p h]; exact hw⟩

theorem cg_lo_m (k w w' : Int32) (h : w < w') : ∀ L : List (Int32 × Int32), cg_lo k w L + cg_e k w L ≤ cg_lo k w' L
  | [] => Nat.le_refl _
  | x :: l => by
    have ih := cg_lo_m k w w' h l
    rw [cg_lo_c, cg_e_c, cg_lo_c]
    by_cases hk : x.1 = k
    · simp only [hk, true_and]
      rw [Int32.lt_iff_toInt_lt] at h
      have := @Int32.lt_iff_toInt_lt x.2 w
      have := @Int32.lt_iff_toInt_lt x.2 w'
      by_cases h1 : x.2 < w
      · have h2 : ¬ x.2 = w := fun z => by rw [z, Int32.lt_iff_toInt_lt] at h1; omega
        have h3 : x.2 < w' := by rw [Int32.lt_iff_toInt_lt] at h1 ⊢; omega
        simp only [h1, h2, h3, if_true, if_false]; omega
      · by_cases h2 : x.2 = w
        · have h3 : x.2 < w' := by rw [Int32.lt_iff_toInt_lt, h2]; omega
          simp only [h1, h2, h3, if_true, if_false]
          rw [h2] at h1 h3
          simp only [h1, h3, if_true, if_false]; omega
        · simp only [h1, h2, if_false]; omega
    · simp only [hk, false_and, if_false]; omega
theorem cg_R_u {k : Int32} {L : List (Int32 × Int32)} {p : Nat} {w w' : Int32} (h : cg_R k L p w) (h' : cg_R k L p w') : w = w' := by
  obtain ⟨a, b⟩ := h
  obtain ⟨a', b'⟩ := h'
  by_cases c : w < w'
  · have := cg_lo_m k w w' c L; omega
  · by_cases d : w' < w
    · have := cg_lo_m k w' w d L; omega
    · rw [Int32.lt_iff_toInt_lt] at c d
      exact Int32.toInt_inj.mp (by omega)
theorem cg_r_e {k : Int32} {L : List (Int32 × Int32)} {p : Nat} {w : Int32} (h : cg_R k L p w) : cg_r k L p = w :=
  cg_R_u (Classical.epsilon_spec (p := cg_R k L p) ⟨w, h⟩) h
theorem cg_e_0 (k w : Int32) : ∀ L : List (Int32 × Int32), 0 < cg_e k w L → (k, w) ∈ L
  | [], h => absurd h (Nat.lt_irrefl 0)
  | x :: l, h => by
    rw [cg_e_c] at h
    by_cases hx : x.1 = k ∧ x.2 = w
    · have : x = (k, w) := Prod.ext hx.1 hx.2
      rw [this]; exact List.mem_cons_self
    · rw [if_neg hx] at h
      exact List.mem_cons_of_mem _ (cg_e_0 k w l (by omega))
theorem cg_L_m (a b : Nat → Int32) (x : Int32 × Int32) : ∀ n, x ∈ cg_L a b n ↔ ∃ j, j < n ∧ (a j, b j) = x
  | 0 => ⟨(fun h => nomatch h), fun ⟨j, h, _⟩ => absurd h (Nat.not_lt_zero j)⟩
  | n + 1 => by
    rw [cg_L, List.mem_cons, cg_L_m a b x n]
    constructor
    · rintro (h | ⟨j, hj, e⟩)
      · exact ⟨n, by omega, h.symm⟩
      · exact ⟨j, by omega, e⟩
    · rintro ⟨j, hj, e⟩
      by_cases h : j = n
      · subst h; exact Or.inl e.symm
      · exact Or.inr ⟨j, by omega, e⟩
theorem cg_L_len (a b : Nat → Int32) : ∀ n, (cg_L a b n).length = n
  | 0 => rfl
  | n + 1 => by rw [cg_L, List.length_cons, cg_L_len a b n]
theorem cg_c_le (k : Int32) (L : List (Int32 × Int32)) : cg_c k L ≤ L.length := List.countP_le_length
theorem cg_lo_le (k w : Int32) (L : List (Int32 × Int32)) : cg_lo k w L ≤ L.length := List.countP_le_length
theorem cg_e_le (k w : Int32) (L : List (Int32 × Int32)) : cg_e k w L ≤ L.length := List.countP_le_length
theorem cg_d_le (k : Int32) : ∀ L : List (Int32 × Int32), cg_d k L ≤ L.length
  | [] => Nat.le_refl _
  | x :: l => by
    have := cg_d_le k l
    rw [cg_d, List.length_cons]
    split <;> omega
theorem cg_L_e {a b a' b' : Nat → Int32} : ∀ n, (∀ j, j < n → a' j = a j ∧ b' j = b j) → cg_L a' b' n = cg_L a b n
  | 0, _ => rfl
  | n + 1, h => by
    rw [cg_L, cg_L, (h n (by omega)).1, (h n (by omega)).2, cg_L_e n (fun j hj => h j (by omega))]
end
section
section
variable (fl ce en : Int32) (K V S KK FF SB BE : Nat → Int32)
theorem cy_count_l (post : Int32 → Prop) (k : Int32) {n : Nat} (hn : n ≤ 40) (h : post (nI (cg_c k (cg_L K V n)))) : ∀ d i, i + d = n → wY_count_4 post k (nI n) fl ce en K V S KK FF SB BE (d + 1) (nI (cg_c k (cg_L K V i))) (nI i) := by
  intro d
  induction d with
  | zero =>
    intro i e
    obtain rfl : i = n := by omega
    exact br_t (Int32.le_refl _) h
  | succ d ih =>
    intro i e
    have hc := nI_clamp (n := i) (by omega)
    refine br_f (nI_ge (by omega) (by omega)) ⟨vp_in_nI (by omega) (by omega), ?_⟩
    rw [hc]
    by_cases hk : K i = k
    · have e1 : nI (cg_c k (cg_L K V i)) + 1 = nI (cg_c k (cg_L K V (i + 1))) := by rw [nI_1, cg_L, cg_c_c, if_pos hk]
      exact br_t hk (nm_r e1 (nm_r (nI_1 i) (ih (i + 1) (by omega))))
    · have e1 : cg_c k (cg_L K V (i + 1)) = cg_c k (cg_L K V i) := by rw [cg_L, cg_c_c, if_neg hk]; rfl
      refine br_f hk (nm_r (nI_1 i) ?_)
      rw [← e1]
      exact ih (i + 1) (by omega)
theorem cy_count (post : Int32 → Prop) (k : Int32) {n : Nat} (hn : n ≤ 40) (h : post (nI (cg_c k (cg_L K V n)))) : wpY_count post (nI n, fl, ce, en, K, V, S, KK, FF, SB, BE) k :=
  ⟨n + 1, cy_count_l fl ce en K V S KK FF SB BE post k hn h n 0 (by omega)⟩
theorem cy_sum_l (post : Int32 → Prop) (k : Int32) {n : Nat} (hn : n ≤ 40) (h : post (cg_s k (cg_L K V n))) : ∀ d i, i + d = n → wY_sum_4 post k (nI n) fl ce en K V S KK FF SB BE (d + 1) (cg_s k (cg_L K V i)) (nI i) := by
  intro d
  induction d with
  | zero =>
    intro i e
    obtain rfl : i = n := by omega
    exact br_t (Int32.le_refl _) h
  | succ d ih =>
    intro i e
    have hc := nI_clamp (n := i) (by omega)
    have hi : vp_in (nI i) 40 := vp_in_nI (by omega) (by omega)
    refine br_f (nI_ge (by omega) (by omega)) ⟨hi, ?_⟩
    rw [hc]
    by_cases hk : K i = k
    · have e1 : cg_s k (cg_L K V i) + V i = cg_s k (cg_L K V (i + 1)) := by rw [cg_L, cg_s, if_pos hk]
      exact br_t hk ⟨hi, nm_r e1 (nm_r (nI_1 i) (ih (i + 1) (by omega)))⟩
    · have e1 : cg_s k (cg_L K V (i + 1)) = cg_s k (cg_L K V i) := by rw [cg_L, cg_s, if_neg hk]
      refine br_f hk (nm_r (nI_1 i) ?_)
      rw [← e1]
      exact ih (i + 1) (by omega)
theorem cy_sum (post : Int32 → Prop) (k : Int32) {n : Nat} (hn : n ≤ 40) (h : post (cg_s k (cg_L K V n))) : wpY_sum post (nI n, fl, ce, en, K, V, S, KK, FF, SB, BE) k :=
  ⟨n + 1, cy_sum_l fl ce en K V S KK FF SB BE post k hn h n 0 (by omega)⟩
theorem cy_seen_l (post : Int32 → Prop) (rw' : Int32) {i : Nat} (hi : i < 40) (h0 : ¬ (K i, V i) ∈ cg_L K V i → post 0) (h1 : (K i, V i) ∈ cg_L K V i → post 1) : ∀ d j, j + d = i → ¬ (K i, V i) ∈ cg_L K V j → wY_seenBefore_2 post (nI i) rw' fl ce en K V S KK FF SB BE (d + 1) (nI j) := by
  intro d
  induction d with
  | zero =>
    intro j e hm
    obtain rfl : j = i := by omega
    exact br_t (Int32.le_refl _) (h0 hm)
  | succ d ih =>
    intro j e hm
    have hc := nI_clamp (n := j) (by omega)
    have hci := nI_clamp (n := i) (by omega)
    have hi : vp_in (nI i) 40 := vp_in_nI (by omega) (by omega)
    have hj : vp_in (nI j) 40 := vp_in_nI (by omega) (by omega)
    refine br_f (nI_ge (by omega) (by omega)) ⟨hj, hi, ?_⟩
    rw [hc, hci]
    by_cases hk : K j = K i
    · refine br_t hk ⟨hj, hi, ?_⟩
      by_cases hv : V j = V i
      · exact br_t hv (h1 ((cg_L_m K V _ i).mpr ⟨j, by omega, by rw [hk, hv]⟩))
      · refine br_f hv (nm_r (nI_1 j) (ih (j + 1) (by omega) ?_))
        rw [cg_L, List.mem_cons]
        exact fun z => z.elim (fun q => hv (congrArg Prod.snd q).symm) hm
    · refine br_f hk (nm_r (nI_1 j) (ih (j + 1) (by omega) ?_))
      rw [cg_L, List.mem_cons]
      exact fun z => z.elim (fun q => hk (congrArg Prod.fst q).symm) hm
theorem cy_seen (post : Int32 → Prop) (rw' : Int32) {i : Nat} (hi : i < 40) (h0 : ¬ (K i, V i) ∈ cg_L K V i → post 0) (h1 : (K i, V i) ∈ cg_L K V i → post 1) : wpY_seenBefore post (rw', fl, ce, en, K, V, S, KK, FF, SB, BE) (nI i) :=
  ⟨i + 1, cy_seen_l fl ce en K V S KK FF SB BE post rw' hi h0 h1 i 0 (by omega) (fun z => nomatch z)⟩
theorem cy_diff_l (post : Int32 → Prop) (k : Int32) {n : Nat} (hn : n ≤ 40) (h : post (nI (cg_d k (cg_L K V n)))) : ∀ d i, i + d = n → wY_different_4 post k (nI n) fl ce en K V S KK FF SB BE (d + 1) (nI (cg_d k (cg_L K V i))) (nI i) := by
  intro d
  induction d with
  | zero =>
    intro i e
    obtain rfl : i = n := by omega
    exact br_t (Int32.le_refl _) h
  | succ d ih =>
    intro i e
    have hc := nI_clamp (n := i) (by omega)
    have hi : vp_in (nI i) 40 := vp_in_nI (by omega) (by omega)
    refine br_f (nI_ge (by omega) (by omega)) ⟨hi, ?_⟩
    rw [hc]
    by_cases hk : K i = k
    · refine br_t hk (cy_seen fl ce en K V S KK FF SB BE _ (nI n) (by omega) (fun hm => ?_) (fun hm => ?_))
      · have e1 : nI (cg_d k (cg_L K V i)) + 1 = nI (cg_d k (cg_L K V (i + 1))) := by rw [nI_1, cg_L, cg_d, if_pos ⟨hk, hm⟩]
        exact br_t rfl (nm_r e1 (nm_r (nI_1 i) (ih (i + 1) (by omega))))
      · have e1 : cg_d k (cg_L K V (i + 1)) = cg_d k (cg_L K V i) := by rw [cg_L, cg_d, if_neg (fun z => z.2 hm)]
        refine br_f (by decide) (nm_r (nI_1 i) ?_)
        rw [← e1]
        exact ih (i + 1) (by omega)
    · have e1 : cg_d k (cg_L K V (i + 1)) = cg_d k (cg_L K V i) := by rw [cg_L, cg_d, if_neg (fun z => hk z.1)]
      refine br_f hk (nm_r (nI_1 i) ?_)
      rw [← e1]
      exact ih (i + 1) (by omega)
theorem cy_diff (post : Int32 → Prop) (k : Int32) {n : Nat} (hn : n ≤ 40) (h : post (nI (cg_d k (cg_L K V n)))) : wpY_different post (nI n, fl, ce, en, K, V, S, KK, FF, SB, BE) k :=
  ⟨n + 1, cy_diff_l fl ce en K V S KK FF SB BE post k hn h n 0 (by omega)⟩
theorem cy_equal_l (post : Int32 → Prop) (k w : Int32) {n : Nat} (hn : n ≤ 40) (h : post (nI (cg_e k w (cg_L K V n)))) : ∀ d i, i + d = n → wY_equal_5 post k w (nI n) fl ce en K V S KK FF SB BE (d + 1) (nI (cg_e k w (cg_L K V i))) (nI i) := by
  intro d
  induction d with
  | zero =>
    intro i e
    obtain rfl : i = n := by omega
    exact br_t (Int32.le_refl _) h
  | succ d ih =>
    intro i e
    have hc := nI_clamp (n := i) (by omega)
    have hi : vp_in (nI i) 40 := vp_in_nI (by omega) (by omega)
    refine br_f (nI_ge (by omega) (by omega)) ⟨hi, ?_⟩
    rw [hc]
    by_cases hk : K i = k
    · refine br_t hk ⟨hi, ?_⟩
      by_cases hv : V i = w
      · have e1 : nI (cg_e k w (cg_L K V i)) + 1 = nI (cg_e k w (cg_L K V (i + 1))) := by rw [nI_1, cg_L, cg_e_c, if_pos ⟨hk, hv⟩]
        exact br_t hv (nm_r e1 (nm_r (nI_1 i) (ih (i + 1) (by omega))))
      · have e1 : cg_e k w (cg_L K V (i + 1)) = cg_e k w (cg_L K V i) := by rw [cg_L, cg_e_c, if_neg (fun z => hv z.2)]; rfl
        refine br_f hv (nm_r (nI_1 i) ?_)
        rw [← e1]
        exact ih (i + 1) (by omega)
    · have e1 : cg_e k w (cg_L K V (i + 1)) = cg_e k w (cg_L K V i) := by rw [cg_L, cg_e_c, if_neg (fun z => hk z.1)]; rfl
      refine br_f hk (nm_r (nI_1 i) ?_)
      rw [← e1]
      exact ih (i + 1) (by omega)
theorem cy_equal (post : Int32 → Prop) (k w : Int32) {n : Nat} (hn : n ≤ 40) (h : post (nI (cg_e k w (cg_L K V n)))) : wpY_equal post (nI n, fl, ce, en, K, V, S, KK, FF, SB, BE) k w :=
  ⟨n + 1, cy_equal_l fl ce en K V S KK FF SB BE post k w hn h n 0 (by omega)⟩
theorem cy_below_l (post : Int32 → Prop) (k w : Int32) {n : Nat} (hn : n ≤ 40) (h : post (nI (cg_lo k w (cg_L K V n)))) : ∀ d i, i + d = n → wY_below_5 post k w (nI n) fl ce en K V S KK FF SB BE (d + 1) (nI (cg_lo k w (cg_L K V i))) (nI i) := by
  intro d
  induction d with
  | zero =>
    intro i e
    obtain rfl : i = n := by omega
    exact br_t (Int32.le_refl _) h
  | succ d ih =>
    intro i e
    have hc := nI_clamp (n := i) (by omega)
    have hi : vp_in (nI i) 40 := vp_in_nI (by omega) (by omega)
    refine br_f (nI_ge (by omega) (by omega)) ⟨hi, ?_⟩
    rw [hc]
    by_cases hk : K i = k
    · refine br_t hk ⟨hi, ?_⟩
      by_cases hv : w ≤ V i
      · have e1 : cg_lo k w (cg_L K V (i + 1)) = cg_lo k w (cg_L K V i) := by rw [cg_L, cg_lo_c, if_neg (fun z => Int32.not_lt.mpr hv z.2)]; rfl
        refine br_t hv (nm_r (nI_1 i) ?_)
        rw [← e1]
        exact ih (i + 1) (by omega)
      · have e1 : nI (cg_lo k w (cg_L K V i)) + 1 = nI (cg_lo k w (cg_L K V (i + 1))) := by rw [nI_1, cg_L, cg_lo_c, if_pos ⟨hk, Int32.not_le.mp hv⟩]
        exact br_f hv (nm_r e1 (nm_r (nI_1 i) (ih (i + 1) (by omega))))
    · have e1 : cg_lo k w (cg_L K V (i + 1)) = cg_lo k w (cg_L K V i) := by rw [cg_L, cg_lo_c, if_neg (fun z => hk z.1)]; rfl
      refine br_f hk (nm_r (nI_1 i) ?_)
      rw [← e1]
      exact ih (i + 1) (by omega)
theorem cy_below (post : Int32 → Prop) (k w : Int32) {n : Nat} (hn : n ≤ 40) (h : post (nI (cg_lo k w (cg_L K V n)))) : wpY_below post (nI n, fl, ce, en, K, V, S, KK, FF, SB, BE) k w :=
  ⟨n + 1, cy_below_l fl ce en K V S KK FF SB BE post k w hn h n 0 (by omega)⟩
theorem cy_rank_l (post : Int32 → Prop) (k : Int32) {p : Nat} (hp : p < 40) {n : Nat} (hn : n ≤ 40) (hx : ∃ w, cg_R k (cg_L K V n) p w) (h : post (cg_r k (cg_L K V n) p)) : ∀ d i, i + d = n → (∀ j, j < i → ¬ (K j = k ∧ cg_R k (cg_L K V n) p (V j))) → wY_ranked_2 post k (nI p) (nI n) fl ce en K V S KK FF SB BE (d + 1) (nI i) := by
  intro d
  induction d with
  | zero =>
    intro i e hno
    obtain rfl : i = n := by omega
    obtain ⟨w, hw⟩ := hx
    obtain ⟨j, hj, ej⟩ := (cg_L_m K V (k, w) i).mp (cg_e_0 k w _ (by have := hw.1; have := hw.2; omega))
    have e1 : K j = k := congrArg Prod.fst ej
    have e2 : V j = w := congrArg Prod.snd ej
    exact absurd ⟨e1, by rw [e2]; exact hw⟩ (hno j hj)
  | succ d ih =>
    intro i e hno
    have hc := nI_clamp (n := i) (by omega)
    have hi : vp_in (nI i) 40 := vp_in_nI (by omega) (by omega)
    have hlo := cg_lo_le k (V i) (cg_L K V n)
    have heq := cg_e_le k (V i) (cg_L K V n)
    rw [cg_L_len] at hlo heq
    refine br_f (nI_ge (by omega) (by omega)) ⟨hi, ?_⟩
    rw [hc]
    refine cy_below fl ce en K V S KK FF SB BE _ k (V i) hn ⟨hi, ?_⟩
    refine cy_equal fl ce en K V S KK FF SB BE _ k (V i) hn ⟨hi, ?_⟩
    have next : ¬ (K i = k ∧ cg_R k (cg_L K V n) p (V i)) → wY_ranked_2 post k (nI p) (nI n) fl ce en K V S KK FF SB BE (d + 1) (nI (i + 1)) := by
      intro hno'
      refine ih (i + 1) (by omega) (fun j hj => ?_)
      by_cases z : j = i
      · rw [z]; exact hno'
      · exact hno j (by omega)
    by_cases hk : K i = k
    · refine br_t hk ?_
      refine pk_lt p _ (fun hl => nm_r (nI_1 i) (next (fun z => ?_))) (fun hl => ?_)
      · have := z.2.1; omega
      · rw [nI_add]
        refine pk_le _ p (fun hm => nm_r (nI_1 i) (next (fun z => ?_))) (fun hm => ⟨hi, ?_⟩)
        · have := z.2.2; omega
        · rw [← cg_r_e (k := k) (L := cg_L K V n) (p := p) (w := V i) ⟨hl, hm⟩]; exact h
    · exact br_f hk (nm_r (nI_1 i) (next (fun z => hk z.1)))
theorem cy_rank (post : Int32 → Prop) (k : Int32) {p : Nat} (hp : p < 40) {n : Nat} (hn : n ≤ 40) (hx : ∃ w, cg_R k (cg_L K V n) p w) (h : post (cg_r k (cg_L K V n) p)) : wpY_ranked post (nI n, fl, ce, en, K, V, S, KK, FF, SB, BE) k (nI p) :=
  ⟨n + 1, cy_rank_l fl ce en K V S KK FF SB BE post k hp hn hx h n 0 (by omega) (fun j hj => absurd hj (Nat.not_lt_zero j))⟩
end
end
section
theorem cg_last : True := trivial
end
