def cg_lb (x y : Int32 × Int32) : Bool := decide (x.1 < y.1 ∨ (x.1 = y.1 ∧ x.2 < y.2))
def cg_le (x y : Int32 × Int32) : Bool := decide (x.1 < y.1 ∨ (x.1 = y.1 ∧ x.2 ≤ y.2))
def cg_kl (k : Int32) (x : Int32 × Int32) : Bool := decide (x.1 ≤ k)
def cg_B (x : Int32 × Int32) (L : List (Int32 × Int32)) : Nat := L.countP (fun y => cg_lb y x)
def cg_So (a b : Nat → Int32) (n : Nat) : Prop := ∀ i j, i < j → j < n → (a i).toInt < (a j).toInt ∨ ((a i).toInt = (a j).toInt ∧ (b i).toInt ≤ (b j).toInt)
def cg_mo (p : Int32 × Int32 → Bool) (a b : Nat → Int32) (n : Nat) : Prop := ∀ i j, i < j → j < n → p (a j, b j) = true → p (a i, b i) = true
theorem cg_eqi (x y : Int32) : x = y ↔ x.toInt = y.toInt := Int32.toInt_inj.symm
theorem cg_lb_i (x y : Int32 × Int32) : cg_lb x y = true ↔ x.1.toInt < y.1.toInt ∨ (x.1.toInt = y.1.toInt ∧ x.2.toInt < y.2.toInt) := by
  unfold cg_lb
  rw [decide_eq_true_eq, Int32.lt_iff_toInt_lt, Int32.lt_iff_toInt_lt, cg_eqi]
theorem cg_le_i (x y : Int32 × Int32) : cg_le x y = true ↔ x.1.toInt < y.1.toInt ∨ (x.1.toInt = y.1.toInt ∧ x.2.toInt ≤ y.2.toInt) := by
  unfold cg_le
  rw [decide_eq_true_eq, Int32.lt_iff_toInt_lt, Int32.le_iff_toInt_le, cg_eqi]
theorem cg_kl_i (k : Int32) (x : Int32 × Int32) : cg_kl k x = true ↔ x.1.toInt ≤ k.toInt := by
  unfold cg_kl
  rw [decide_eq_true_eq, Int32.le_iff_toInt_le]
theorem cg_min (x : Int32) : (-2147483648 : Int32).toInt ≤ x.toInt := by
  have h := Int32.le_toInt x
  have e : (-2147483648 : Int32).toInt = -2147483648 := by decide
  rw [e]
  omega
theorem cg_mo_lb {a b : Nat → Int32} {n : Nat} (h : cg_So a b n) (x : Int32 × Int32) : cg_mo (fun y => cg_lb y x) a b n := by
  intro i j hij hj hp
  have := h i j hij hj
  simp only [cg_lb_i] at hp ⊢
  omega
theorem cg_mo_le {a b : Nat → Int32} {n : Nat} (h : cg_So a b n) (x : Int32 × Int32) : cg_mo (fun y => cg_le y x) a b n := by
  intro i j hij hj hp
  have := h i j hij hj
  simp only [cg_le_i] at hp ⊢
  omega
theorem cg_mo_kl {a b : Nat → Int32} {n : Nat} (h : cg_So a b n) (k : Int32) : cg_mo (cg_kl k) a b n := by
  intro i j hij hj hp
  have := h i j hij hj
  simp only [cg_kl_i] at hp ⊢
  omega
theorem cg_cnt {p : Int32 × Int32 → Bool} {a b : Nat → Int32} {n : Nat} (h : cg_mo p a b n) : ∀ m, m ≤ n → (cg_L a b m).countP p ≤ m ∧ ∀ i, i < m → (p (a i, b i) = true ↔ i < (cg_L a b m).countP p)
  | 0, _ => ⟨Nat.le_refl 0, fun i hi => absurd hi (Nat.not_lt_zero i)⟩
  | m + 1, hm => by
    obtain ⟨h1, h2⟩ := cg_cnt h m (by omega)
    rw [cg_L, List.countP_cons]
    by_cases hp : p (a m, b m) = true
    · rw [if_pos hp]
      have e : (cg_L a b m).countP p = m := by
        by_cases z : m = 0
        · omega
        · have := (h2 (m - 1) (by omega)).mp (h (m - 1) m (by omega) (by omega) hp)
          omega
      rw [e]
      refine ⟨Nat.le_refl _, fun i hi => ⟨fun _ => hi, fun _ => ?_⟩⟩
      by_cases z : i = m
      · rw [z]; exact hp
      · exact h i m (by omega) (by omega) hp
    · rw [if_neg hp]
      refine ⟨by omega, fun i hi => ?_⟩
      by_cases z : i = m
      · rw [z]; exact ⟨fun q => absurd q hp, fun q => by omega⟩
      · exact h2 i (by omega)
theorem cg_B_c (x y : Int32 × Int32) (l : List (Int32 × Int32)) : cg_B x (y :: l) = cg_B x l + (if cg_lb y x = true then 1 else 0) := by
  rw [cg_B, List.countP_cons]; rfl
theorem cg_B_kl (k : Int32) : ∀ L : List (Int32 × Int32), L.countP (cg_kl k) = cg_B (k, -2147483648) L + cg_c k L
  | [] => rfl
  | x :: l => by
    rw [List.countP_cons, cg_B_kl k l, cg_B_c, cg_c_c]
    have h1 := cg_kl_i k x
    have h2 := cg_lb_i x (k, -2147483648)
    have h3 := cg_eqi x.1 k
    have h4 := cg_min x.2
    dsimp only at h2
    by_cases c1 : x.1.toInt < k.toInt
    · rw [if_pos (h1.mpr (by omega)), if_pos (h2.mpr (by omega)), if_neg (fun z => by have := h3.mp z; omega)]; omega
    · by_cases c2 : x.1.toInt = k.toInt
      · rw [if_pos (h1.mpr (by omega)), if_neg (fun z => by have := h2.mp z; omega), if_pos (h3.mpr c2)]; omega
      · rw [if_neg (fun z => by have := h1.mp z; omega), if_neg (fun z => by have := h2.mp z; omega), if_neg (fun z => c2 (h3.mp z))]; omega
theorem cg_B_lo (k w : Int32) : ∀ L : List (Int32 × Int32), cg_B (k, w) L = cg_B (k, -2147483648) L + cg_lo k w L
  | [] => rfl
  | x :: l => by
    rw [cg_B_c, cg_B_lo k w l, cg_B_c, cg_lo_c]
    have h1 := cg_lb_i x (k, w)
    have h2 := cg_lb_i x (k, -2147483648)
    have h3 := cg_eqi x.1 k
    have h4 := cg_min x.2
    have h5 := @Int32.lt_iff_toInt_lt x.2 w
    dsimp only at h1 h2
    by_cases c1 : x.1.toInt < k.toInt
    · rw [if_pos (h1.mpr (by omega)), if_pos (h2.mpr (by omega)), if_neg (fun z => by have := h3.mp z.1; omega)]; omega
    · rw [if_neg (c := cg_lb x (k, -2147483648) = true) (fun z => by have := h2.mp z; omega)]
      by_cases c2 : x.1.toInt = k.toInt ∧ x.2.toInt < w.toInt
      · rw [if_pos (h1.mpr (by omega)), if_pos ⟨h3.mpr c2.1, h5.mpr c2.2⟩]; omega
      · rw [if_neg (fun z => by have := h1.mp z; omega), if_neg (fun z => c2 ⟨h3.mp z.1, h5.mp z.2⟩)]; omega
theorem cg_B_le (k w : Int32) : ∀ L : List (Int32 × Int32), L.countP (fun y => cg_le y (k, w)) = cg_B (k, w) L + cg_e k w L
  | [] => rfl
  | x :: l => by
    rw [List.countP_cons, cg_B_le k w l, cg_B_c, cg_e_c]
    have h1 := cg_lb_i x (k, w)
    have h2 := cg_le_i x (k, w)
    have h3 := cg_eqi x.1 k
    have h5 := cg_eqi x.2 w
    dsimp only at h1 h2
    by_cases c1 : x.1.toInt = k.toInt ∧ x.2.toInt = w.toInt
    · rw [if_pos (h2.mpr (by omega)), if_neg (fun z => by have := h1.mp z; omega), if_pos ⟨h3.mpr c1.1, h5.mpr c1.2⟩]; omega
    · rw [if_neg (c := x.1 = k ∧ x.2 = w) (fun z => c1 ⟨h3.mp z.1, h5.mp z.2⟩)]
      by_cases c2 : cg_lb x (k, w) = true
      · rw [if_pos c2, if_pos (h2.mpr (by have := h1.mp c2; omega))]; omega
      · rw [if_neg c2, if_neg (fun z => c2 (h1.mpr (by have := h2.mp z; omega)))]; omega
theorem cg_B_nx {q : Nat} (hq : q < 8) (L : List (Int32 × Int32)) : cg_B (nI (q + 1), -2147483648) L = cg_B (nI q, -2147483648) L + cg_c (nI q) L := by
  rw [← cg_B_kl, cg_B]
  apply List.countP_congr
  intro x _
  have h1 := cg_kl_i (nI q) x
  have h2 := cg_lb_i x (nI (q + 1), -2147483648)
  have h4 := cg_min x.2
  dsimp only at h2
  rw [nI_toInt (by omega)] at h1 h2
  rw [h1, h2]
  omega
theorem cg_B_le_n {a b : Nat → Int32} {n : Nat} (x : Int32 × Int32) : cg_B x (cg_L a b n) ≤ n := by
  have : cg_B x (cg_L a b n) ≤ (cg_L a b n).length := List.countP_le_length
  rw [cg_L_len] at this
  exact this
theorem cg_Bi {a b : Nat → Int32} {n : Nat} (h : cg_So a b n) (x : Int32 × Int32) {i : Nat} (hi : i < n) : cg_lb (a i, b i) x = true ↔ i < cg_B x (cg_L a b n) :=
  (cg_cnt (cg_mo_lb h x) n (Nat.le_refl n)).2 i hi
/-- the group of a key is one stretch -/
theorem cg_rg {a b : Nat → Int32} {n : Nat} (h : cg_So a b n) (k : Int32) {i : Nat} (hi : i < n) : a i = k ↔ cg_B (k, -2147483648) (cg_L a b n) ≤ i ∧ i < cg_B (k, -2147483648) (cg_L a b n) + cg_c k (cg_L a b n) := by
  have h1 := (cg_cnt (cg_mo_kl h k) n (Nat.le_refl n)).2 i hi
  rw [cg_B_kl, cg_kl_i] at h1
  have h2 := cg_Bi h (k, -2147483648) hi
  rw [cg_lb_i] at h2
  have h4 := cg_min (b i)
  have h3 := cg_eqi (a i) k
  dsimp only at h1 h2
  rw [h3]
  omega
theorem cg_rg_n {a b : Nat → Int32} {n : Nat} (h : cg_So a b n) (k : Int32) : cg_B (k, -2147483648) (cg_L a b n) + cg_c k (cg_L a b n) ≤ n := by
  rw [← cg_B_kl]
  exact (cg_cnt (cg_mo_kl h k) n (Nat.le_refl n)).1
theorem cg_at {a b : Nat → Int32} {n : Nat} (h : cg_So a b n) (k : Int32) {p : Nat} (hp : p < cg_c k (cg_L a b n)) : cg_R k (cg_L a b n) p (b (cg_B (k, -2147483648) (cg_L a b n) + p)) := by
  have hn := cg_rg_n h k
  have hi : cg_B (k, -2147483648) (cg_L a b n) + p < n := by omega
  have hk := (cg_rg h k hi).mpr (by omega)
  have h1 := cg_Bi h (k, b (cg_B (k, -2147483648) (cg_L a b n) + p)) hi
  have h2 := (cg_cnt (cg_mo_le h (k, b (cg_B (k, -2147483648) (cg_L a b n) + p))) n (Nat.le_refl n)).2 _ hi
  rw [cg_B_le] at h2
  rw [cg_lb_i] at h1
  rw [cg_le_i] at h2
  rw [hk] at h1 h2
  have h3 := cg_B_lo k (b (cg_B (k, -2147483648) (cg_L a b n) + p)) (cg_L a b n)
  dsimp only at h1 h2
  unfold cg_R
  omega
theorem cg_So_Fu {a b : Nat → Int32} {n : Nat} (h : cg_So a b n) : cg_Fu (cg_L a b n) := fun k _ hp => ⟨_, cg_at h k hp⟩
theorem cg_s_k {a b : Nat → Int32} {k : Int32} {m : Nat} : ∀ n, m ≤ n → (∀ i, m ≤ i → i < n → ¬ a i = k) → cg_s k (cg_L a b n) = cg_s k (cg_L a b m) ∧ cg_d k (cg_L a b n) = cg_d k (cg_L a b m)
  | 0, h, _ => by obtain rfl : m = 0 := by omega
                  exact ⟨rfl, rfl⟩
  | n + 1, h, hk => by
    by_cases z : m = n + 1
    · rw [z]; exact ⟨rfl, rfl⟩
    · obtain ⟨e1, e2⟩ := cg_s_k n (by omega) (fun i h1 h2 => hk i h1 (by omega))
      have hk' := hk n (by omega) (by omega)
      rw [cg_L, cg_s, cg_d, if_neg hk', if_neg (fun z => hk' z.1)]
      exact ⟨e1, e2⟩
