theorem i_vc_pending {k : Nat} {u : SX} {v : SY} (I : i_Rel k u v) (hk : k + 3 ≤ 1536) : wpX_pending (fun r => wpY_pending (fun r' => r' = r ∧ i_Rel (k + 3) u v) v) u := by
  have I' : i_Rel (k + 3) u v := I
  obtain ⟨n, fl, ce, s, a, b, G, H, M, K, V, SB, BE, rfl, rfl, hn, he, hs, hin, hP, hG, hH⟩ := I
  exact ⟨rfl, I'⟩
theorem cg_ent {e : Nat} (he : e ≤ 24) {x : Int32} (h0 : ¬ x < 0) (h1 : ¬ nI e ≤ x) : ∃ j : Nat, j < e ∧ x = nI j := by
  obtain ⟨j, hj, rfl⟩ := nI_of h0
  rw [nI_leI (by omega) hj] at h1
  exact ⟨j, by omega, rfl⟩
theorem i_vc_sort {k : Nat} {u : SX} {v : SY} (I : i_Rel k u v) (hk : k + 3 ≤ 1536) (v1 : Int32) : wpX_sort (fun r => wpY_sort (fun r' => r' = r ∧ i_Rel (k + 3) u v) v v1) u v1 := by
  have I' : i_Rel (k + 3) u v := I
  obtain ⟨n, fl, ce, s, a, b, G, H, M, K, V, SB, BE, rfl, rfl, hn, he, hs, hin, hP, hG, hH⟩ := I
  unfold wpX_sort wpX_isEntry wpY_sort
  dsimp only
  by_cases h0 : v1 < 0
  · exact br_t h0 (br_t rfl (br_t h0 ⟨rfl, I'⟩))
  · by_cases h1 : nI s.1 ≤ v1
    · exact br_f h0 (br_t h1 (br_t rfl (br_f h0 (br_f (Int32.not_lt.mpr h1) ⟨rfl, I'⟩))))
    · obtain ⟨j, hj, rfl⟩ := cg_ent he h0 h1
      have hv : vp_in (nI j) 24 := vp_in_nI (by omega) (by omega)
      exact br_f h0 (br_f h1 (br_f (by decide) ⟨hv, br_f h0 (br_t (Int32.not_le.mp h1) ⟨hv, rfl, I'⟩)⟩))
theorem i_vc_key {k : Nat} {u : SX} {v : SY} (I : i_Rel k u v) (hk : k + 3 ≤ 1536) (v1 : Int32) : wpX_key (fun r => wpY_key (fun r' => r' = r ∧ i_Rel (k + 3) u v) v v1) u v1 := by
  have I' : i_Rel (k + 3) u v := I
  obtain ⟨n, fl, ce, s, a, b, G, H, M, K, V, SB, BE, rfl, rfl, hn, he, hs, hin, hP, hG, hH⟩ := I
  unfold wpX_key wpX_isEntry wpY_key
  dsimp only
  by_cases h0 : v1 < 0
  · exact br_t h0 (br_t rfl (br_t h0 ⟨rfl, I'⟩))
  · by_cases h1 : nI s.1 ≤ v1
    · exact br_f h0 (br_t h1 (br_t rfl (br_f h0 (br_f (Int32.not_lt.mpr h1) ⟨rfl, I'⟩))))
    · obtain ⟨j, hj, rfl⟩ := cg_ent he h0 h1
      have hv : vp_in (nI j) 24 := vp_in_nI (by omega) (by omega)
      exact br_f h0 (br_f h1 (br_f (by decide) ⟨hv, br_f h0 (br_t (Int32.not_le.mp h1) ⟨hv, rfl, I'⟩)⟩))
theorem i_vc_field {k : Nat} {u : SX} {v : SY} (I : i_Rel k u v) (hk : k + 3 ≤ 1536) (v1 : Int32) (v2 : Int32) : wpX_field (fun r => wpY_field (fun r' => r' = r ∧ i_Rel (k + 3) u v) v v1 v2) u v1 v2 := by
  have I' : i_Rel (k + 3) u v := I
  obtain ⟨n, fl, ce, s, a, b, G, H, M, K, V, SB, BE, rfl, rfl, hn, he, hs, hin, hP, hG, hH⟩ := I
  unfold wpX_field wpX_isEntry wpX_isField wpY_field
  dsimp only
  by_cases h0 : v1 < 0
  · exact br_t h0 (br_t rfl (br_t h0 ⟨rfl, I'⟩))
  · by_cases h1 : nI s.1 ≤ v1
    · exact br_f h0 (br_t h1 (br_t rfl (br_f h0 (br_t h1 ⟨rfl, I'⟩))))
    · obtain ⟨j, hj, rfl⟩ := cg_ent he h0 h1
      refine br_f h0 (br_f h1 (br_f (by decide) ?_))
      by_cases g0 : v2 < 0
      · exact br_t g0 (br_t rfl (br_f h0 (br_f h1 (br_t g0 ⟨rfl, I'⟩))))
      · obtain ⟨f, hf, rfl⟩ := nI_of g0
        by_cases g1 : f < 6
        · refine br_f g0 (br_f (nI_ge (b := 6) g1 (by decide)) (br_f (by decide) ?_))
          rw [cg_ix', cg_ix]
          have hv : vp_in (nI (6 * j + f)) 144 := vp_in_nI (by omega) (by omega)
          have hx : nI f ≤ 5 := nI_le (b := 5) (by omega) (by decide)
          exact ⟨hv, br_f h0 (br_f h1 (br_f g0 (br_t hx ⟨hv, rfl, I'⟩)))⟩
        · have hx : ¬ nI f ≤ 5 := nI_ge (a := 5) (by omega) hf
          have hx6 : (6 : Int32) ≤ nI f := nI_le (a := 6) (by omega) hf
          exact br_f g0 (br_t hx6 (br_t rfl (br_f h0 (br_f h1 (br_f g0 (br_f hx ⟨rfl, I'⟩))))))
theorem cg_key (x : Int32) : x < 0 ∨ (¬ x < 0 ∧ (8 : Int32) ≤ x ∧ (7 : Int32) < x ∧ ∀ q : Nat, q < 8 → ¬ x = nI q) ∨ ∃ q : Nat, q < 8 ∧ x = nI q ∧ ¬ x < 0 ∧ ¬ (8 : Int32) ≤ x ∧ ¬ (7 : Int32) < x := by
  by_cases h : x < 0
  · exact Or.inl h
  · obtain ⟨j, hj, rfl⟩ := nI_of h
    by_cases c : j < 8
    · exact Or.inr (Or.inr ⟨j, c, rfl, h, nI_ge (b := 8) c (by decide), nI_nlt (b := j) (a := 7) (by omega) (by decide)⟩)
    · refine Or.inr (Or.inl ⟨h, nI_le (a := 8) (by omega) hj, nI_lt (a := 7) (by omega) hj, fun q hq e => ?_⟩)
      rw [nI_eq hj (by omega)] at e
      omega
theorem cg_neg {x : Int32} (h : x < 0) (q : Nat) (hq : q < 8) : ¬ x = nI q := fun e => by
  rw [e] at h
  exact nI_pos (by omega) h
theorem i_vc_now {k : Nat} {u : SX} {v : SY} (I : i_Rel k u v) (hk : k + 3 ≤ 1536) (v1 : Int32) (v2 : Int32) : wpX_now (fun r => wpY_now (fun r' => r' = r ∧ i_Rel (k + 3) u v) v v1 v2) u v1 v2 := by
  have I' : i_Rel (k + 3) u v := I
  obtain ⟨n, fl, ce, s, a, b, G, H, M, K, V, SB, BE, rfl, rfl, hn, he, hs, hin, hP, hG, hH⟩ := I
  have hFu := cg_Fu_p hP (cg_So_Fu hs)
  have out : (∀ q : Nat, q < 8 → ¬ v1 = nI q) → wpY_now (fun r' => r' = 0 ∧ i_Rel (k + 3) (nI n, fl, ce, nI s.1, a, b, G, H, M, s.2.1, s.2.2.1, s.2.2.2) (nI n, fl, ce, nI s.1, K, V, s.2.1, s.2.2.1, s.2.2.2, SB, BE)) (nI n, fl, ce, nI s.1, K, V, s.2.1, s.2.2.1, s.2.2.2, SB, BE) v1 v2 := fun ho => by
    refine cy_now fl ce _ K V _ _ _ SB BE _ v1 v2 hn hFu (fun f hf e => ⟨?_, I'⟩) (fun _ => ⟨rfl, I'⟩)
    unfold cg_F
    rw [if_pos (cg_In_c (cg_In_p hP hin) ho)]
  unfold wpX_now wpX_isKey wpX_isField
  dsimp only
  rcases cg_key v1 with h0 | ⟨h0, h8, _, ho⟩ | ⟨q, hq, rfl, h0, h8, _⟩
  · exact br_t h0 (br_t rfl (out (cg_neg h0)))
  · exact br_f h0 (br_t h8 (br_t rfl (out ho)))
  · refine br_f h0 (br_f h8 (br_f (by decide) ?_))
    by_cases g0 : v2 < 0
    · refine br_t g0 (br_t rfl (cy_now fl ce _ K V _ _ _ SB BE _ _ v2 hn hFu (fun f hf e => ?_) (fun _ => ⟨rfl, I'⟩)))
      exact absurd e (cg_neg g0 f (by omega))
    · obtain ⟨f, hf, rfl⟩ := nI_of g0
      by_cases g1 : f < 6
      · refine br_f g0 (br_f (nI_ge (b := 6) g1 (by decide)) (br_f (by decide) ?_))
        rw [cg_ix', nI_clamp (by omega)]
        refine ⟨vp_in_nI (by omega) (by omega), ?_⟩
        refine cy_nowI fl ce _ K V _ _ _ SB BE _ _ hn g1 hFu ⟨?_, I'⟩
        rw [hG q hq f g1, cg_F_p hP]
      · have hx6 : (6 : Int32) ≤ nI f := nI_le (a := 6) (by omega) hf
        refine br_f g0 (br_t hx6 (br_t rfl (cy_now fl ce _ K V _ _ _ SB BE _ _ _ hn hFu (fun f' hf' e => ?_) (fun _ => ⟨rfl, I'⟩))))
        rw [nI_eq hf (by omega)] at e
        omega
theorem cg_lo_c0 (k w : Int32) : ∀ L : List (Int32 × Int32), cg_lo k w L ≤ cg_c k L
  | [] => Nat.le_refl _
  | x :: l => by
    have := cg_lo_c0 k w l
    rw [cg_lo_c, cg_c_c]
    by_cases c : x.1 = k
    · rw [if_pos c]
      split <;> omega
    · rw [if_neg c, if_neg (fun z => c z.1)]
      exact this
theorem i_vc_below {k : Nat} {u : SX} {v : SY} (I : i_Rel k u v) (hk : k + 3 ≤ 1536) (v1 : Int32) (v2 : Int32) : wpX_below (fun r => wpY_below (fun r' => r' = r ∧ i_Rel (k + 3) u v) v v1 v2) u v1 v2 := by
  have I' : i_Rel (k + 3) u v := I
  obtain ⟨n, fl, ce, s, a, b, G, H, M, K, V, SB, BE, rfl, rfl, hn, he, hs, hin, hP, hG, hH⟩ := I
  have out : (∀ q : Nat, q < 8 → ¬ v1 = nI q) → wpY_below (fun r' => r' = 0 ∧ i_Rel (k + 3) (nI n, fl, ce, nI s.1, a, b, G, H, M, s.2.1, s.2.2.1, s.2.2.2) (nI n, fl, ce, nI s.1, K, V, s.2.1, s.2.2.1, s.2.2.2, SB, BE)) (nI n, fl, ce, nI s.1, K, V, s.2.1, s.2.2.1, s.2.2.2, SB, BE) v1 v2 := fun ho => by
    refine cy_below fl ce _ K V _ _ _ SB BE _ v1 v2 hn ⟨?_, I'⟩
    have h1 := cg_lo_c0 v1 v2 (cg_L K V n)
    rw [cg_In_c (cg_In_p hP hin) ho] at h1
    rw [Nat.le_zero.mp h1]
    rfl
  unfold wpX_below wpX_isKey
  dsimp only
  rcases cg_key v1 with h0 | ⟨h0, h8, _, ho⟩ | ⟨q, hq, rfl, h0, h8, _⟩
  · exact br_t h0 (br_t rfl (out (cg_neg h0)))
  · exact br_f h0 (br_t h8 (br_t rfl (out ho)))
  · refine br_f h0 (br_f h8 (br_f (by decide) ?_))
    refine cx_rb fl ce _ a b G H M _ _ _ _ (nI q) v2 hn hs ?_
    refine cx_rb fl ce _ a b G H M _ _ _ _ (nI q) (-2147483648) hn hs ?_
    refine cy_below fl ce _ K V _ _ _ SB BE _ _ v2 hn ⟨?_, I'⟩
    rw [cg_B_lo (nI q) v2, pk_sub (by omega), cg_lo_p hP]
    exact congrArg nI (by omega)
def cg_w (F : Nat → Int32) (i j : Nat) : Nat → Nat → Int32
  | 0 => F
  | f + 1 => upd (cg_w F i j f) (6 * j + f) (cg_w F i j f (6 * i + f))
/-- the log after e entries have come down by c -/
def cg_mv (c : Nat) (S K F : Nat → Int32) : Nat → (Nat → Int32) × (Nat → Int32) × (Nat → Int32)
  | 0 => (S, K, F)
  | e + 1 => (upd (cg_mv c S K F e).1 e ((cg_mv c S K F e).1 (e + c)), upd (cg_mv c S K F e).2.1 e ((cg_mv c S K F e).2.1 (e + c)), cg_w (cg_mv c S K F e).2.2 (e + c) e 6)
theorem cx_move_l (rw' fl ce en : Int32) (a b G H M S K F : Nat → Int32) (post : SX → Prop) {i j : Nat} (hi : i < 24) (hj : j < 24) (h : post (rw', fl, ce, en, a, b, G, H, M, S, K, cg_w F i j 6)) : ∀ d f, f + d = 6 → wX_moveEntry_26 post (nI i) (nI j) rw' fl ce en (d + 1) (nI f) a b G H M S K (cg_w F i j f) := by
  intro d
  induction d with
  | zero =>
    intro f e
    obtain rfl : f = 6 := by omega
    exact br_t (Int32.le_refl _) h
  | succ d ih =>
    intro f e
    refine br_f (nI_ge (b := 6) (by omega) (by decide)) ?_
    rw [cg_ix', cg_ix']
    refine ⟨vp_in_nI (by omega) (by omega), vp_in_nI (by omega) (by omega), ?_⟩
    rw [nI_clamp (by omega), nI_clamp (by omega)]
    exact nm_e (nm_r (nI_1 f) (ih (f + 1) (by omega)))
theorem cx_move (rw' fl ce en : Int32) (a b G H M S K F : Nat → Int32) (post : SX → Prop) {i j : Nat} (hi : i < 24) (hj : j < 24) (h : post (rw', fl, ce, en, a, b, G, H, M, upd S j (S i), upd K j (K i), cg_w F i j 6)) : wpX_moveEntry post (rw', fl, ce, en, a, b, G, H, M, S, K, F) (nI i) (nI j) := by
  have hv : vp_in (nI i) 24 := vp_in_nI hi (by omega)
  have hw : vp_in (nI j) 24 := vp_in_nI hj (by omega)
  unfold wpX_moveEntry
  dsimp only
  rw [nI_clamp (n := i) (by omega), nI_clamp (n := j) (by omega)]
  exact ⟨hv, hw, nm_e ⟨hv, hw, nm_e ⟨7, cx_move_l rw' fl ce en a b G H M _ _ F post hi hj h 6 0 (by omega)⟩⟩⟩
theorem cx_take_l (rw' fl ce : Int32) (a b G H M S K F : Nat → Int32) (post : Int32 → SX → Prop) {c e : Nat} (hc : c ≤ e) (he : e ≤ 24) (h : post (nI c) (rw', fl, ce, nI (e - c), a, b, G, H, M, (cg_mv c S K F (e - c)).1, (cg_mv c S K F (e - c)).2.1, (cg_mv c S K F (e - c)).2.2)) : ∀ d j, j + c + d = e → wX_take_23 post (nI c) (d + 1) (nI (j + c)) rw' fl ce (nI e) a b G H M (cg_mv c S K F j).1 (cg_mv c S K F j).2.1 (cg_mv c S K F j).2.2 := by
  intro d
  induction d with
  | zero =>
    intro j e'
    obtain rfl : j = e - c := by omega
    have e1 : e - c + c = e := by omega
    rw [e1]
    exact br_t (Int32.le_refl _) (nm_r (pk_sub hc) h)
  | succ d ih =>
    intro j e'
    refine br_f (nI_ge (by omega) (by omega)) ?_
    have e1 : nI (j + c) - nI c = nI j := by rw [pk_sub (by omega)]; exact congrArg nI (by omega)
    rw [e1]
    refine cx_move rw' fl ce _ a b G H M _ _ _ _ (by omega) (by omega) ?_
    refine nm_r (e' := nI (j + 1 + c)) ?_ (ih (j + 1) (by omega))
    rw [nI_1]
    exact congrArg nI (by omega)
theorem cy_take_i (rw' fl ce en : Int32) (K V S KK FF SB BE : Nat → Int32) (post : Int32 → SY → Prop) (J : Int32 → (Nat → Int32) → (Nat → Int32) → (Nat → Int32) → (Nat → Int32) → (Nat → Int32) → (Nat → Int32) → (Nat → Int32) → Prop) {c j : Nat} (hj : j + c < 24) (h : J (nI (j + 1)) K V S KK (cg_w FF (j + c) j 6) SB BE) : ∀ d f, f + d = 6 → wY_take_76 post J (nI c) (nI j) rw' fl ce en (d + 1) (nI f) K V S KK (cg_w FF (j + c) j f) SB BE := by
  intro d
  induction d with
  | zero =>
    intro f e
    obtain rfl : f = 6 := by omega
    exact br_t (Int32.le_refl _) (nm_r (nI_1 j) h)
  | succ d ih =>
    intro f e
    refine br_f (nI_ge (b := 6) (by omega) (by decide)) ?_
    rw [nI_add, cg_ix, cg_ix]
    refine ⟨vp_in_nI (by omega) (by omega), vp_in_nI (by omega) (by omega), ?_⟩
    rw [nI_clamp (by omega), nI_clamp (by omega)]
    exact nm_e (nm_r (nI_1 f) (ih (f + 1) (by omega)))
theorem cy_take_l (rw' fl ce : Int32) (K V S KK FF SB BE : Nat → Int32) (post : Int32 → SY → Prop) {c e : Nat} (hc : c ≤ e) (he : e ≤ 24) (h : post (nI c) (rw', fl, ce, nI (e - c), K, V, (cg_mv c S KK FF (e - c)).1, (cg_mv c S KK FF (e - c)).2.1, (cg_mv c S KK FF (e - c)).2.2, SB, BE)) : ∀ d j, j + d = e - c → wY_take_37 post (nI c) rw' fl ce (nI (e - c)) (d + 1) (nI j) K V (cg_mv c S KK FF j).1 (cg_mv c S KK FF j).2.1 (cg_mv c S KK FF j).2.2 SB BE := by
  intro d
  induction d with
  | zero =>
    intro j e'
    obtain rfl : j = e - c := by omega
    exact br_t (Int32.le_refl _) h
  | succ d ih =>
    intro j e'
    refine br_f (nI_ge (by omega) (by omega)) ?_
    have hv : vp_in (nI (j + c)) 24 := vp_in_nI (by omega) (by omega)
    have hw : vp_in (nI j) 24 := vp_in_nI (by omega) (by omega)
    rw [nI_add, nI_clamp (n := j + c) (by omega), nI_clamp (n := j) (by omega)]
    refine ⟨hv, hw, nm_e ⟨hv, hw, nm_e ⟨7, cy_take_i rw' fl ce _ K V _ _ _ SB BE post _ (by omega) (ih (j + 1) (by omega)) 6 0 (by omega)⟩⟩⟩
theorem i_vc_take {k : Nat} {u : SX} {v : SY} (I : i_Rel k u v) (hk : k + 3 ≤ 1536) (v1 : Int32) : wpX_take (fun r u' => wpY_take (fun r' v' => r' = r ∧ i_Rel (k + 3) u' v') v v1) u v1 := by
  obtain ⟨n, fl, ce, s, a, b, G, H, M, K, V, SB, BE, rfl, rfl, hn, he, hs, hin, hP, hG, hH⟩ := I
  have hX : ∀ (post : Int32 → SX → Prop) (c : Nat), c ≤ s.1 → post (nI c) (nI n, fl, ce, nI (s.1 - c), a, b, G, H, M, (cg_mv c s.2.1 s.2.2.1 s.2.2.2 (s.1 - c)).1, (cg_mv c s.2.1 s.2.2.1 s.2.2.2 (s.1 - c)).2.1, (cg_mv c s.2.1 s.2.2.1 s.2.2.2 (s.1 - c)).2.2) → ∃ m, wX_take_23 post (nI c) m (nI c) (nI n) fl ce (nI s.1) a b G H M s.2.1 s.2.2.1 s.2.2.2 := fun post c hc hp =>
    ⟨_, by
      have := cx_take_l (nI n) fl ce a b G H M s.2.1 s.2.2.1 s.2.2.2 post hc he hp (s.1 - c) 0 (by omega)
      rw [Nat.zero_add] at this
      exact this⟩
  have hY : ∀ (c : Nat), c ≤ s.1 → wY_take_24 (fun r' v' => r' = nI c ∧ i_Rel (k + 3) (nI n, fl, ce, nI (s.1 - c), a, b, G, H, M, (cg_mv c s.2.1 s.2.2.1 s.2.2.2 (s.1 - c)).1, (cg_mv c s.2.1 s.2.2.1 s.2.2.2 (s.1 - c)).2.1, (cg_mv c s.2.1 s.2.2.1 s.2.2.2 (s.1 - c)).2.2) v') (nI c) (nI n) fl ce (nI s.1) K V s.2.1 s.2.2.1 s.2.2.2 SB BE := fun c hc => by
    refine nm_r (pk_sub hc) ⟨s.1 - c + 1, cy_take_l (nI n) fl ce K V s.2.1 s.2.2.1 s.2.2.2 SB BE _ hc he ⟨rfl, ?_⟩ (s.1 - c) 0 (by omega)⟩
    exact ⟨n, fl, ce, (s.1 - c, (cg_mv c s.2.1 s.2.2.1 s.2.2.2 (s.1 - c)).1, (cg_mv c s.2.1 s.2.2.1 s.2.2.2 (s.1 - c)).2.1, (cg_mv c s.2.1 s.2.2.1 s.2.2.2 (s.1 - c)).2.2), a, b, G, H, M, K, V, SB, BE, rfl, rfl, hn, Nat.le_trans (Nat.sub_le _ _) he, hs, hin, hP, hG, hH⟩
  unfold wpX_take wX_take_8 wpY_take
  dsimp only
  by_cases h0 : 0 ≤ v1
  · obtain ⟨c, hc, rfl⟩ := nI_of (x := v1) (Int32.not_lt.mpr h0)
    by_cases h1 : c ≤ s.1
    · have h2 : nI c ≤ nI s.1 := nI_le h1 (by omega)
      exact br_t h0 (br_t h2 (hX _ c h1 (br_t h0 (br_t h2 (hY c h1)))))
    · have h2 : ¬ nI c ≤ nI s.1 := nI_ge (by omega) hc
      exact br_t h0 (br_f h2 (hX _ s.1 (Nat.le_refl _) (br_t h0 (br_f h2 (hY s.1 (Nat.le_refl _))))))
  · have h2 : (0 : Int32) ≤ nI s.1 := nI_pos' (by omega)
    exact br_f h0 (br_t h2 (hX _ 0 (Nat.zero_le _) (br_f h0 (hY 0 (Nat.zero_le _)))))
