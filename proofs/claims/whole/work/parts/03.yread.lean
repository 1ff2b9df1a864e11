section
variable (fl ce en : Int32) (K V S KK FF SB BE : Nat → Int32)
theorem cy_count_l (post : Int32 → Prop) (k : Int32) {n : Nat} (hn : n ≤ 40) (h : post (nI (cg_c k (cg_L K V n)))) : ∀ d i, i + d = n → wY_count_4 post k (nI n) fl ce en K V S KK FF SB BE (d + 1) (nI (cg_c k (cg_L K V i))) (nI i) := by
  intro d
  induction d with
  | zero =>
    intro i e
    obtain rfl : i = n := by omega
    exact br_t (Int32.le_refl _) h
  | succ d ih =>
    intro i e
    have hc := nI_clamp (n := i) (by omega)
    refine br_f (nI_ge (by omega) (by omega)) ⟨vp_in_nI (by omega) (by omega), ?_⟩
    rw [hc]
    by_cases hk : K i = k
    · have e1 : nI (cg_c k (cg_L K V i)) + 1 = nI (cg_c k (cg_L K V (i + 1))) := by rw [nI_1, cg_L, cg_c_c, if_pos hk]
      exact br_t hk (nm_r e1 (nm_r (nI_1 i) (ih (i + 1) (by omega))))
    · have e1 : cg_c k (cg_L K V (i + 1)) = cg_c k (cg_L K V i) := by rw [cg_L, cg_c_c, if_neg hk]; rfl
      refine br_f hk (nm_r (nI_1 i) ?_)
      rw [← e1]
      exact ih (i + 1) (by omega)
theorem cy_count (post : Int32 → Prop) (k : Int32) {n : Nat} (hn : n ≤ 40) (h : post (nI (cg_c k (cg_L K V n)))) : wpY_count post (nI n, fl, ce, en, K, V, S, KK, FF, SB, BE) k :=
  ⟨n + 1, cy_count_l fl ce en K V S KK FF SB BE post k hn h n 0 (by omega)⟩
theorem cy_sum_l (post : Int32 → Prop) (k : Int32) {n : Nat} (hn : n ≤ 40) (h : post (cg_s k (cg_L K V n))) : ∀ d i, i + d = n → wY_sum_4 post k (nI n) fl ce en K V S KK FF SB BE (d + 1) (cg_s k (cg_L K V i)) (nI i) := by
  intro d
  induction d with
  | zero =>
    intro i e
    obtain rfl : i = n := by omega
    exact br_t (Int32.le_refl _) h
  | succ d ih =>
    intro i e
    have hc := nI_clamp (n := i) (by omega)
    have hi : vp_in (nI i) 40 := vp_in_nI (by omega) (by omega)
    refine br_f (nI_ge (by omega) (by omega)) ⟨hi, ?_⟩
    rw [hc]
    by_cases hk : K i = k
    · have e1 : cg_s k (cg_L K V i) + V i = cg_s k (cg_L K V (i + 1)) := by rw [cg_L, cg_s, if_pos hk]
      exact br_t hk ⟨hi, nm_r e1 (nm_r (nI_1 i) (ih (i + 1) (by omega)))⟩
    · have e1 : cg_s k (cg_L K V (i + 1)) = cg_s k (cg_L K V i) := by rw [cg_L, cg_s, if_neg hk]
      refine br_f hk (nm_r (nI_1 i) ?_)
      rw [← e1]
      exact ih (i + 1) (by omega)
theorem cy_sum (post : Int32 → Prop) (k : Int32) {n : Nat} (hn : n ≤ 40) (h : post (cg_s k (cg_L K V n))) : wpY_sum post (nI n, fl, ce, en, K, V, S, KK, FF, SB, BE) k :=
  ⟨n + 1, cy_sum_l fl ce en K V S KK FF SB BE post k hn h n 0 (by omega)⟩
theorem cy_seen_l (post : Int32 → Prop) (rw' : Int32) {i : Nat} (hi : i < 40) (h0 : ¬ (K i, V i) ∈ cg_L K V i → post 0) (h1 : (K i, V i) ∈ cg_L K V i → post 1) : ∀ d j, j + d = i → ¬ (K i, V i) ∈ cg_L K V j → wY_seenBefore_2 post (nI i) rw' fl ce en K V S KK FF SB BE (d + 1) (nI j) := by
  intro d
  induction d with
  | zero =>
    intro j e hm
    obtain rfl : j = i := by omega
    exact br_t (Int32.le_refl _) (h0 hm)
  | succ d ih =>
    intro j e hm
    have hc := nI_clamp (n := j) (by omega)
    have hci := nI_clamp (n := i) (by omega)
    have hi : vp_in (nI i) 40 := vp_in_nI (by omega) (by omega)
    have hj : vp_in (nI j) 40 := vp_in_nI (by omega) (by omega)
    refine br_f (nI_ge (by omega) (by omega)) ⟨hj, hi, ?_⟩
    rw [hc, hci]
    by_cases hk : K j = K i
    · refine br_t hk ⟨hj, hi, ?_⟩
      by_cases hv : V j = V i
      · exact br_t hv (h1 ((cg_L_m K V _ i).mpr ⟨j, by omega, by rw [hk, hv]⟩))
      · refine br_f hv (nm_r (nI_1 j) (ih (j + 1) (by omega) ?_))
        rw [cg_L, List.mem_cons]
        exact fun z => z.elim (fun q => hv (congrArg Prod.snd q).symm) hm
    · refine br_f hk (nm_r (nI_1 j) (ih (j + 1) (by omega) ?_))
      rw [cg_L, List.mem_cons]
      exact fun z => z.elim (fun q => hk (congrArg Prod.fst q).symm) hm
theorem cy_seen (post : Int32 → Prop) (rw' : Int32) {i : Nat} (hi : i < 40) (h0 : ¬ (K i, V i) ∈ cg_L K V i → post 0) (h1 : (K i, V i) ∈ cg_L K V i → post 1) : wpY_seenBefore post (rw', fl, ce, en, K, V, S, KK, FF, SB, BE) (nI i) :=
  ⟨i + 1, cy_seen_l fl ce en K V S KK FF SB BE post rw' hi h0 h1 i 0 (by omega) (fun z => nomatch z)⟩
theorem cy_diff_l (post : Int32 → Prop) (k : Int32) {n : Nat} (hn : n ≤ 40) (h : post (nI (cg_d k (cg_L K V n)))) : ∀ d i, i + d = n → wY_different_4 post k (nI n) fl ce en K V S KK FF SB BE (d + 1) (nI (cg_d k (cg_L K V i))) (nI i) := by
  intro d
  induction d with
  | zero =>
    intro i e
    obtain rfl : i = n := by omega
    exact br_t (Int32.le_refl _) h
  | succ d ih =>
    intro i e
    have hc := nI_clamp (n := i) (by omega)
    have hi : vp_in (nI i) 40 := vp_in_nI (by omega) (by omega)
    refine br_f (nI_ge (by omega) (by omega)) ⟨hi, ?_⟩
    rw [hc]
    by_cases hk : K i = k
    · refine br_t hk (cy_seen fl ce en K V S KK FF SB BE _ (nI n) (by omega) (fun hm => ?_) (fun hm => ?_))
      · have e1 : nI (cg_d k (cg_L K V i)) + 1 = nI (cg_d k (cg_L K V (i + 1))) := by rw [nI_1, cg_L, cg_d, if_pos ⟨hk, hm⟩]
        exact br_t rfl (nm_r e1 (nm_r (nI_1 i) (ih (i + 1) (by omega))))
      · have e1 : cg_d k (cg_L K V (i + 1)) = cg_d k (cg_L K V i) := by rw [cg_L, cg_d, if_neg (fun z => z.2 hm)]
        refine br_f (by decide) (nm_r (nI_1 i) ?_)
        rw [← e1]
        exact ih (i + 1) (by omega)
    · have e1 : cg_d k (cg_L K V (i + 1)) = cg_d k (cg_L K V i) := by rw [cg_L, cg_d, if_neg (fun z => hk z.1)]
      refine br_f hk (nm_r (nI_1 i) ?_)
      rw [← e1]
      exact ih (i + 1) (by omega)
theorem cy_diff (post : Int32 → Prop) (k : Int32) {n : Nat} (hn : n ≤ 40) (h : post (nI (cg_d k (cg_L K V n)))) : wpY_different post (nI n, fl, ce, en, K, V, S, KK, FF, SB, BE) k :=
  ⟨n + 1, cy_diff_l fl ce en K V S KK FF SB BE post k hn h n 0 (by omega)⟩
theorem cy_equal_l (post : Int32 → Prop) (k w : Int32) {n : Nat} (hn : n ≤ 40) (h : post (nI (cg_e k w (cg_L K V n)))) : ∀ d i, i + d = n → wY_equal_5 post k w (nI n) fl ce en K V S KK FF SB BE (d + 1) (nI (cg_e k w (cg_L K V i))) (nI i) := by
  intro d
  induction d with
  | zero =>
    intro i e
    obtain rfl : i = n := by omega
    exact br_t (Int32.le_refl _) h
  | succ d ih =>
    intro i e
    have hc := nI_clamp (n := i) (by omega)
    have hi : vp_in (nI i) 40 := vp_in_nI (by omega) (by omega)
    refine br_f (nI_ge (by omega) (by omega)) ⟨hi, ?_⟩
    rw [hc]
    by_cases hk : K i = k
    · refine br_t hk ⟨hi, ?_⟩
      by_cases hv : V i = w
      · have e1 : nI (cg_e k w (cg_L K V i)) + 1 = nI (cg_e k w (cg_L K V (i + 1))) := by rw [nI_1, cg_L, cg_e_c, if_pos ⟨hk, hv⟩]
        exact br_t hv (nm_r e1 (nm_r (nI_1 i) (ih (i + 1) (by omega))))
      · have e1 : cg_e k w (cg_L K V (i + 1)) = cg_e k w (cg_L K V i) := by rw [cg_L, cg_e_c, if_neg (fun z => hv z.2)]; rfl
        refine br_f hv (nm_r (nI_1 i) ?_)
        rw [← e1]
        exact ih (i + 1) (by omega)
    · have e1 : cg_e k w (cg_L K V (i + 1)) = cg_e k w (cg_L K V i) := by rw [cg_L, cg_e_c, if_neg (fun z => hk z.1)]; rfl
      refine br_f hk (nm_r (nI_1 i) ?_)
      rw [← e1]
      exact ih (i + 1) (by omega)
theorem cy_equal (post : Int32 → Prop) (k w : Int32) {n : Nat} (hn : n ≤ 40) (h : post (nI (cg_e k w (cg_L K V n)))) : wpY_equal post (nI n, fl, ce, en, K, V, S, KK, FF, SB, BE) k w :=
  ⟨n + 1, cy_equal_l fl ce en K V S KK FF SB BE post k w hn h n 0 (by omega)⟩
theorem cy_below_l (post : Int32 → Prop) (k w : Int32) {n : Nat} (hn : n ≤ 40) (h : post (nI (cg_lo k w (cg_L K V n)))) : ∀ d i, i + d = n → wY_below_5 post k w (nI n) fl ce en K V S KK FF SB BE (d + 1) (nI (cg_lo k w (cg_L K V i))) (nI i) := by
  intro d
  induction d with
  | zero =>
    intro i e
    obtain rfl : i = n := by omega
    exact br_t (Int32.le_refl _) h
  | succ d ih =>
    intro i e
    have hc := nI_clamp (n := i) (by omega)
    have hi : vp_in (nI i) 40 := vp_in_nI (by omega) (by omega)
    refine br_f (nI_ge (by omega) (by omega)) ⟨hi, ?_⟩
    rw [hc]
    by_cases hk : K i = k
    · refine br_t hk ⟨hi, ?_⟩
      by_cases hv : w ≤ V i
      · have e1 : cg_lo k w (cg_L K V (i + 1)) = cg_lo k w (cg_L K V i) := by rw [cg_L, cg_lo_c, if_neg (fun z => Int32.not_lt.mpr hv z.2)]; rfl
        refine br_t hv (nm_r (nI_1 i) ?_)
        rw [← e1]
        exact ih (i + 1) (by omega)
      · have e1 : nI (cg_lo k w (cg_L K V i)) + 1 = nI (cg_lo k w (cg_L K V (i + 1))) := by rw [nI_1, cg_L, cg_lo_c, if_pos ⟨hk, Int32.not_le.mp hv⟩]
        exact br_f hv (nm_r e1 (nm_r (nI_1 i) (ih (i + 1) (by omega))))
    · have e1 : cg_lo k w (cg_L K V (i + 1)) = cg_lo k w (cg_L K V i) := by rw [cg_L, cg_lo_c, if_neg (fun z => hk z.1)]; rfl
      refine br_f hk (nm_r (nI_1 i) ?_)
      rw [← e1]
      exact ih (i + 1) (by omega)
theorem cy_below (post : Int32 → Prop) (k w : Int32) {n : Nat} (hn : n ≤ 40) (h : post (nI (cg_lo k w (cg_L K V n)))) : wpY_below post (nI n, fl, ce, en, K, V, S, KK, FF, SB, BE) k w :=
  ⟨n + 1, cy_below_l fl ce en K V S KK FF SB BE post k w hn h n 0 (by omega)⟩
theorem cy_rank_l (post : Int32 → Prop) (k : Int32) {p : Nat} (hp : p < 40) {n : Nat} (hn : n ≤ 40) (hx : ∃ w, cg_R k (cg_L K V n) p w) (h : post (cg_r k (cg_L K V n) p)) : ∀ d i, i + d = n → (∀ j, j < i → ¬ (K j = k ∧ cg_R k (cg_L K V n) p (V j))) → wY_ranked_2 post k (nI p) (nI n) fl ce en K V S KK FF SB BE (d + 1) (nI i) := by
  intro d
  induction d with
  | zero =>
    intro i e hno
    obtain rfl : i = n := by omega
    obtain ⟨w, hw⟩ := hx
    obtain ⟨j, hj, ej⟩ := (cg_L_m K V (k, w) i).mp (cg_e_0 k w _ (by have := hw.1; have := hw.2; omega))
    have e1 : K j = k := congrArg Prod.fst ej
    have e2 : V j = w := congrArg Prod.snd ej
    exact absurd ⟨e1, by rw [e2]; exact hw⟩ (hno j hj)
  | succ d ih =>
    intro i e hno
    have hc := nI_clamp (n := i) (by omega)
    have hi : vp_in (nI i) 40 := vp_in_nI (by omega) (by omega)
    have hlo := cg_lo_le k (V i) (cg_L K V n)
    have heq := cg_e_le k (V i) (cg_L K V n)
    rw [cg_L_len] at hlo heq
    refine br_f (nI_ge (by omega) (by omega)) ⟨hi, ?_⟩
    rw [hc]
    refine cy_below fl ce en K V S KK FF SB BE _ k (V i) hn ⟨hi, ?_⟩
    refine cy_equal fl ce en K V S KK FF SB BE _ k (V i) hn ⟨hi, ?_⟩
    have next : ¬ (K i = k ∧ cg_R k (cg_L K V n) p (V i)) → wY_ranked_2 post k (nI p) (nI n) fl ce en K V S KK FF SB BE (d + 1) (nI (i + 1)) := by
      intro hno'
      refine ih (i + 1) (by omega) (fun j hj => ?_)
      by_cases z : j = i
      · rw [z]; exact hno'
      · exact hno j (by omega)
    by_cases hk : K i = k
    · refine br_t hk ?_
      refine pk_lt p _ (fun hl => nm_r (nI_1 i) (next (fun z => ?_))) (fun hl => ?_)
      · have := z.2.1; omega
      · rw [nI_add]
        refine pk_le _ p (fun hm => nm_r (nI_1 i) (next (fun z => ?_))) (fun hm => ⟨hi, ?_⟩)
        · have := z.2.2; omega
        · rw [← cg_r_e (k := k) (L := cg_L K V n) (p := p) (w := V i) ⟨hl, hm⟩]; exact h
    · exact br_f hk (nm_r (nI_1 i) (next (fun z => hk z.1)))
theorem cy_rank (post : Int32 → Prop) (k : Int32) {p : Nat} (hp : p < 40) {n : Nat} (hn : n ≤ 40) (hx : ∃ w, cg_R k (cg_L K V n) p w) (h : post (cg_r k (cg_L K V n) p)) : wpY_ranked post (nI n, fl, ce, en, K, V, S, KK, FF, SB, BE) k (nI p) :=
  ⟨n + 1, cy_rank_l fl ce en K V S KK FF SB BE post k hp hn hx h n 0 (by omega) (fun j hj => absurd hj (Nat.not_lt_zero j))⟩
end
