/-- the log of a change from the table L to M -/
noncomputable def cg_T (fl ce fl' ce' : Int32) (L M : List (Int32 × Int32)) (s : cg_S) (q : Nat) : cg_S :=
  cg_lg (fun j => cg_h fl ce L (nI j)) (fun j => cg_h fl' ce' M (nI j)) (fun j => cg_q (cg_F M (nI j)) (cg_F L (nI j))) (fun j => cg_F L (nI j)) (fun j => cg_F M (nI j)) s q
def cg_GG (L : List (Int32 × Int32)) (G : Nat → Int32) : Prop := ∀ j, j < 8 → ∀ f, f < 6 → G (6 * j + f) = cg_F L (nI j) f
def cg_HH (fl ce : Int32) (L : List (Int32 × Int32)) (H : Nat → Int32) : Prop := ∀ j, j < 8 → H j = cg_b (cg_h fl ce L (nI j))
theorem cx_tell (fl ce fl' ce' : Int32) (a b : Nat → Int32) (post : SX → Prop) {n : Nat} (hn : n ≤ 40) (hs : cg_So a b n) (L : List (Int32 × Int32)) (s : cg_S) (G H M : Nat → Int32) (hG : cg_GG L G) (hH : cg_HH fl ce L H)
    (hl : ∀ q, q ≤ 8 → (cg_T fl ce fl' ce' L (cg_L a b n) s q).1 ≤ 24)
    (h : ∀ G H M, cg_GG (cg_L a b n) G → cg_HH fl' ce' (cg_L a b n) H → post (nI n, fl', ce', nI (cg_T fl ce fl' ce' L (cg_L a b n) s 8).1, a, b, G, H, M, (cg_T fl ce fl' ce' L (cg_L a b n) s 8).2.1, (cg_T fl ce fl' ce' L (cg_L a b n) s 8).2.2.1, (cg_T fl ce fl' ce' L (cg_L a b n) s 8).2.2.2)) :
    wpX_logChanges post (nI n, fl', ce', nI s.1, a, b, G, H, M, s.2.1, s.2.2.1, s.2.2.2) :=
  cx_log fl' ce' a b post hn hs _ _ _ _ _ s G H M hG hH (fun _ _ => rfl) (fun _ _ => rfl) (fun _ _ _ _ => rfl) hl h
theorem cy_tell' (fl ce fl' ce' : Int32) (K V SB BE : Nat → Int32) (post : SY → Prop) {n : Nat} (hn : n ≤ 40) (L M Ly : List (Int32 × Int32)) (hM : cg_Fu M) (hP : M.Perm (cg_L K V n)) (hP' : L.Perm Ly) (s : cg_S) (hS : cg_HH fl ce Ly SB) (hB : cg_M Ly BE 48)
    (hl : ∀ q, q ≤ 8 → (cg_T fl ce fl' ce' L M s q).1 ≤ 24)
    (h : post (nI n, fl', ce', nI (cg_T fl ce fl' ce' L M s 8).1, K, V, (cg_T fl ce fl' ce' L M s 8).2.1, (cg_T fl ce fl' ce' L M s 8).2.2.1, (cg_T fl ce fl' ce' L M s 8).2.2.2, SB, BE)) :
    wpY_tell post (nI n, fl', ce', nI s.1, K, V, s.2.1, s.2.2.1, s.2.2.2, SB, BE) := by
  have hBE : ∀ j, j < 8 → ∀ f, f < 6 → BE (6 * j + f) = cg_F L (nI j) f := fun j hj f hf => (hB j f hf (by omega)).trans (cg_F_p hP' _ _).symm
  refine cy_tell fl' ce' K V SB BE post hn (cg_Fu_p hP hM) _ _ _ _ _ s (fun j hj => ?_) (fun j _ => (cg_h_p hP fl' ce' (nI j)).symm) (fun j hj => ?_) hBE (fun j _ f _ => (cg_F_p hP (nI j) f).symm) hl h
  · rw [hS j hj, cg_h_p hP']
  · rw [cg_q_s]
    exact cg_q_e (fun f _ => (cg_F_p hP (nI j) f).symm) (hBE j hj)
theorem cg_st_2 (sb sa sm : Bool) (k : Int32) (go gn : Nat → Int32) (s : cg_S) : (cg_st sb sa sm k go gn s).1 ≤ s.1 + 2 := by
  cases sb <;> cases sa <;> cases sm <;> simp [cg_st, cg_put]
theorem cg_st_1 (sb sa : Bool) (k : Int32) (go gn : Nat → Int32) (s : cg_S) : (cg_st sb sa true k go gn s).1 ≤ s.1 + 1 := by
  cases sb <;> cases sa <;> simp [cg_st, cg_put]
theorem cg_st_0 (sb : Bool) (k : Int32) (go gn : Nat → Int32) (s : cg_S) : cg_st sb sb true k go gn s = s := by
  cases sb <;> rfl
/-- one group has changed: room for two -/
theorem cg_room {fl ce : Int32} {L M : List (Int32 × Int32)} {κ : Nat} (s : cg_S) (hs : s.1 ≤ 22) (h : ∀ j, j < 8 → ¬ j = κ → cg_Q (nI j) L M) : ∀ q, q ≤ 8 → (cg_T fl ce fl ce L M s q).1 ≤ 24 := by
  have H : ∀ q, q ≤ 8 → (cg_T fl ce fl ce L M s q).1 ≤ s.1 + (if q ≤ κ then 0 else 2) := by
    intro q
    induction q with
    | zero => intro _; rw [if_pos (Nat.zero_le κ)]; exact Nat.le_refl _
    | succ q ih =>
      intro hq
      have ih := ih (by omega)
      unfold cg_T at ih ⊢
      rw [cg_lg]
      by_cases c : q = κ
      · rw [if_pos (by omega)] at ih
        rw [if_neg (by omega)]
        refine Nat.le_trans (cg_st_2 _ _ _ _ _ _ _) (by omega)
      · have hQ := h q (by omega) c
        have e1 : cg_h fl ce L (nI q) = cg_h fl ce M (nI q) := cg_Q_h hQ fl ce
        have e2 : cg_q (cg_F M (nI q)) (cg_F L (nI q)) = true := cg_q_t (fun f _ => (cg_Q_F hQ f).symm)
        rw [e1, e2, cg_st_0]
        refine Nat.le_trans ih ?_
        by_cases c2 : q ≤ κ
        · rw [if_pos c2, if_pos (by omega)]; exact Nat.le_refl _
        · rw [if_neg c2, if_neg (by omega)]; exact Nat.le_refl _
  intro q hq
  refine Nat.le_trans (H q hq) ?_
  by_cases c : q ≤ κ
  · rw [if_pos c]; omega
  · rw [if_neg c]; omega
/-- the table is as it was: room for one a key -/
theorem cg_room1 {fl ce fl' ce' : Int32} {L : List (Int32 × Int32)} (s : cg_S) (hs : s.1 = 0) : ∀ q, q ≤ 8 → (cg_T fl ce fl' ce' L L s q).1 ≤ 24 := by
  have H : ∀ q, (cg_T fl ce fl' ce' L L s q).1 ≤ q := by
    intro q
    induction q with
    | zero => exact Nat.le_of_eq hs
    | succ q ih =>
      unfold cg_T at ih ⊢
      rw [cg_lg]
      have e2 : cg_q (cg_F L (nI q)) (cg_F L (nI q)) = true := cg_q_t (fun f _ => rfl)
      rw [e2]
      exact Nat.le_trans (cg_st_1 _ _ _ _ _ _) (by omega)
  exact fun q hq => Nat.le_trans (H q) (by omega)
def i_Rel (k : Nat) (u : SX) (v : SY) : Prop :=
  ∃ (n : Nat) (fl ce : Int32) (s : cg_S) (a b G H M K V SB BE : Nat → Int32), u = (nI n, fl, ce, nI s.1, a, b, G, H, M, s.2.1, s.2.2.1, s.2.2.2) ∧ v = (nI n, fl, ce, nI s.1, K, V, s.2.1, s.2.2.1, s.2.2.2, SB, BE) ∧
    n ≤ 40 ∧ s.1 ≤ 24 ∧ cg_So a b n ∧ cg_In (cg_L a b n) ∧ (cg_L a b n).Perm (cg_L K V n) ∧ cg_GG (cg_L a b n) G ∧ cg_HH fl ce (cg_L a b n) H
theorem i_up {k : Nat} {u : SX} {v : SY} (h : i_Rel k u v) : i_Rel (k + 3) u v := h
theorem i_vc0 : wpX_init (fun u => wpY_init (fun v => i_Rel 0 u v)) := by
  have hF : ∀ k f, (0 : Int32) = cg_F [] k f := fun k f => by
    unfold cg_F
    rw [if_pos (show cg_c k [] = 0 from rfl)]
  exact ⟨0, 1, 40, (0, (fun _ => 0), (fun _ => 0), (fun _ => 0)), _, _, _, _, _, _, _, _, _, rfl, rfl, by omega, by decide, fun i j _ hj => absurd hj (Nat.not_lt_zero j), (fun x hx => nomatch hx), List.Perm.refl _, fun j _ f _ => hF _ _, fun j _ => rfl⟩
/-- X's insertion -/
theorem cx_ins_l (fl ce en : Int32) (a b G H M S K F : Nat → Int32) (post : Int32 → SX → Prop) (x y : Int32) {n p : Nat} (hn : n < 40) (hp : p ≤ n)
    (h : ∀ a' b', (∀ j, j ≤ n → a' j = cg_ins a p x j ∧ b' j = cg_ins b p y j) → ∀ Q : SX → Prop, (∀ r f2 f3 f4 g1 g2 g3 g4 g5 g6 g7 g8, post r (r, f2, f3, f4, g1, g2, g3, g4, g5, g6, g7, g8) → Q (r, f2, f3, f4, g1, g2, g3, g4, g5, g6, g7, g8)) → wpX_logChanges Q (nI (n + 1), fl, ce, en, a', b', G, H, M, S, K, F)) :
    ∀ d i a' b', p + d = i → i ≤ n → (∀ j, j ≤ n → (a' j = if j ≤ i then a j else a (j - 1)) ∧ (b' j = if j ≤ i then b j else b (j - 1))) → wX_insert_39 post x y (nI p) (nI n) fl ce en (d + 1) (nI i) a' b' G H M S K F := by
  intro d
  induction d with
  | zero =>
    intro i a' b' e hi hab
    obtain rfl : p = i := by omega
    have hv : vp_in (nI p) 40 := vp_in_nI (by omega) (by omega)
    have hc := nI_clamp (n := p) (by omega)
    refine br_t (Int32.le_refl _) ⟨hv, ?_⟩
    rw [hc]
    refine nm_e ⟨hv, nm_e (nm_r (nI_1 n) (h _ _ (fun j hj => ?_) _ (fun _ _ _ _ _ _ _ _ _ _ _ _ hq => hq)))⟩
    unfold cg_ins
    by_cases c1 : j = p
    · rw [c1, pk_us, pk_us, if_neg (by omega), if_pos rfl, if_neg (by omega), if_pos rfl]; exact ⟨rfl, rfl⟩
    · rw [pk_un c1, pk_un c1, (hab j hj).1, (hab j hj).2]
      by_cases c2 : j < p
      · rw [if_pos c2, if_pos c2, if_pos (by omega), if_pos (by omega)]; exact ⟨rfl, rfl⟩
      · rw [if_neg c2, if_neg c2, if_neg c1, if_neg c1, if_neg (by omega), if_neg (by omega)]; exact ⟨rfl, rfl⟩
  | succ d ih =>
    intro i a' b' e hi hab
    have hv : vp_in (nI i) 40 := vp_in_nI (by omega) (by omega)
    have e1 : nI i - 1 = nI (i - 1) := pk_sub (b := 1) (by omega)
    have e2 : nI i + (-1) = nI (i - 1) := by
      have := pk_m1 (i - 1)
      rw [show i - 1 + 1 = i by omega] at this
      exact this
    have hv1 : vp_in (nI (i - 1)) 40 := vp_in_nI (by omega) (by omega)
    refine br_f (nI_ge (by omega) (by omega)) ?_
    rw [e1, nI_clamp (n := i) (by omega), nI_clamp (n := i - 1) (by omega)]
    refine ⟨hv1, hv, nm_e ⟨hv1, hv, nm_e (nm_r e2 (ih (i - 1) _ _ (by omega) (by omega) (fun j hj => ?_)))⟩⟩
    by_cases c1 : j = i
    · rw [c1, pk_us, pk_us, if_neg (by omega), if_neg (by omega), (hab (i - 1) (by omega)).1, (hab (i - 1) (by omega)).2, if_pos (by omega), if_pos (by omega)]; exact ⟨rfl, rfl⟩
    · rw [pk_un c1, pk_un c1, (hab j hj).1, (hab j hj).2]
      by_cases c2 : j ≤ i
      · rw [if_pos c2, if_pos c2, if_pos (by omega), if_pos (by omega)]; exact ⟨rfl, rfl⟩
      · rw [if_neg c2, if_neg c2, if_neg (by omega), if_neg (by omega)]; exact ⟨rfl, rfl⟩
/-- X's removal of a stretch -/
theorem cx_drop_l (fl ce en : Int32) (a b G H M S K F : Nat → Int32) (post : SX → Prop) {n p c : Nat} (hn : n ≤ 40) (hp : p + c ≤ n)
    (h : ∀ a' b', (∀ j, j < n - c → a' j = cg_del a p c j ∧ b' j = cg_del b p c j) → post (nI (n - c), fl, ce, en, a', b', G, H, M, S, K, F)) :
    ∀ d i a' b', i + d = n → p + c ≤ i → (∀ j, j < n → (a' j = if j < i - c then cg_del a p c j else a j) ∧ (b' j = if j < i - c then cg_del b p c j else b j)) → wX_dropRows_4 post (nI c) (nI n) fl ce en (d + 1) (nI i) a' b' G H M S K F := by
  intro d
  induction d with
  | zero =>
    intro i a' b' e hi hab
    obtain rfl : i = n := by omega
    refine br_t (Int32.le_refl _) (nm_r (pk_sub (by omega)) (h a' b' (fun j hj => ?_)))
    have := hab j (by omega)
    rw [if_pos hj, if_pos hj] at this
    exact this
  | succ d ih =>
    intro i a' b' e hi hab
    have hv : vp_in (nI i) 40 := vp_in_nI (by omega) (by omega)
    have hv1 : vp_in (nI (i - c)) 40 := vp_in_nI (by omega) (by omega)
    refine br_f (nI_ge (by omega) (by omega)) ?_
    rw [pk_sub (a := i) (b := c) (by omega), nI_clamp (n := i) (by omega), nI_clamp (n := i - c) (by omega)]
    refine ⟨hv, hv1, nm_e ⟨hv, hv1, nm_e (nm_r (nI_1 i) (ih (i + 1) _ _ (by omega) (by omega) (fun j hj => ?_)))⟩⟩
    have hi' := hab i (by omega)
    rw [if_neg (by omega), if_neg (by omega)] at hi'
    by_cases c1 : j = i - c
    · rw [c1, pk_us, pk_us, if_pos (by omega), if_pos (by omega), hi'.1, hi'.2, cg_del, cg_del, if_neg (by omega), if_neg (by omega), show i - c + c = i by omega]; exact ⟨rfl, rfl⟩
    · rw [pk_un c1, pk_un c1, (hab j hj).1, (hab j hj).2]
      by_cases c2 : j < i - c
      · rw [if_pos c2, if_pos c2, if_pos (by omega), if_pos (by omega)]; exact ⟨rfl, rfl⟩
      · rw [if_neg c2, if_neg c2, if_neg (by omega), if_neg (by omega)]; exact ⟨rfl, rfl⟩
theorem cx_drop (fl ce en : Int32) (a b G H M S K F : Nat → Int32) (post : SX → Prop) {n p c : Nat} (hn : n ≤ 40) (hp : p + c ≤ n)
    (h : ∀ a' b', (∀ j, j < n - c → a' j = cg_del a p c j ∧ b' j = cg_del b p c j) → post (nI (n - c), fl, ce, en, a', b', G, H, M, S, K, F)) : wpX_dropRows post (nI n, fl, ce, en, a, b, G, H, M, S, K, F) (nI p) (nI c) := by
  unfold wpX_dropRows
  dsimp only
  refine nm_r (nI_add p c) ⟨n - (p + c) + 1, cx_drop_l fl ce en a b G H M S K F post hn hp h (n - (p + c)) (p + c) a b (by omega) (Nat.le_refl _) (fun j hj => ?_)⟩
  rw [show p + c - c = p by omega]
  by_cases c1 : j < p
  · rw [if_pos c1, if_pos c1, cg_del, cg_del, if_pos c1, if_pos c1]; exact ⟨rfl, rfl⟩
  · rw [if_neg c1, if_neg c1]; exact ⟨rfl, rfl⟩
theorem cy_drop (fl ce en : Int32) (K V S KK FF SB BE : Nat → Int32) (post : SY → Prop) {m i : Nat} (hm : m < 40) (hi : i < m + 1) (h : post (nI m, fl, ce, en, upd K i (K m), upd V i (V m), S, KK, FF, SB, BE)) : wpY_drop post (nI (m + 1), fl, ce, en, K, V, S, KK, FF, SB, BE) (nI i) := by
  have hv : vp_in (nI i) 40 := vp_in_nI (by omega) (by omega)
  have hv1 : vp_in (nI m) 40 := vp_in_nI (by omega) (by omega)
  unfold wpY_drop
  dsimp only
  refine nm_r (nI_pred m) ⟨hv1, hv, ?_⟩
  rw [nI_clamp (n := i) (by omega), nI_clamp (n := m) (by omega)]
  exact nm_e ⟨hv1, hv, nm_e h⟩
