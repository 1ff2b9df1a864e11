def cg_cl (x : Int32) : Int32 := if 0 ≤ x then (if x ≤ 40 then x else 40) else 0
theorem cx_clamp (post : Int32 → Prop) (r f2 f3 f4 : Int32) (a b G H M S K F : Nat → Int32) (x : Int32) (h : post (cg_cl x)) : wpX_clampToRows post (r, f2, f3, f4, a, b, G, H, M, S, K, F) x := by
  unfold cg_cl at h
  by_cases c : 0 ≤ x
  · rw [if_pos c] at h
    by_cases d : x ≤ 40
    · rw [if_pos d] at h
      exact br_t c (br_t d h)
    · rw [if_neg d] at h
      exact br_t c (br_f d h)
  · rw [if_neg c] at h
    exact br_f c h
theorem cy_clamp (post : Int32 → Prop) (x : Int32) (h : post (cg_cl x)) : wpY_clamped post x := by
  unfold cg_cl at h
  by_cases c : 0 ≤ x
  · rw [if_pos c] at h
    by_cases d : x ≤ 40
    · rw [if_pos d] at h
      exact br_t c (br_t d h)
    · rw [if_neg d] at h
      exact br_t c (br_f d h)
  · rw [if_neg c] at h
    exact br_f c h
theorem i_vc_limits {k : Nat} {u : SX} {v : SY} (I : i_Rel k u v) (hk : k + 3 ≤ 1536) (v1 : Int32) (v2 : Int32) : wpX_limits (fun r u' => wpY_limits (fun r' v' => r' = r ∧ i_Rel (k + 3) u' v') v v1 v2) u v1 v2 := by
  have I' : i_Rel (k + 3) u v := I
  obtain ⟨n, fl, ce, s, a, b, G, H, M, K, V, SB, BE, rfl, rfl, hn, he, hs, hin, hP, hG, hH⟩ := I
  unfold wpX_limits
  dsimp only
  by_cases e0 : s.1 = 0
  · have z : nI s.1 ≤ 0 := by rw [e0]; decide
    refine br_t z ?_
    refine cx_clamp _ _ _ _ _ _ _ _ _ _ _ _ _ v1 ?_
    refine cx_clamp _ _ _ _ _ _ _ _ _ _ _ _ _ v2 ?_
    refine cx_tell fl ce (cg_cl v1) (cg_cl v2) a b _ hn hs (cg_L a b n) s G H M hG hH (cg_room1 s e0) (fun G' H' M' hG' hH' => ?_)
    unfold wpY_limits
    dsimp only
    refine br_t z ?_
    refine cy_rem fl ce _ K V _ _ _ SB BE _ hn (cg_Fu_p hP (cg_So_Fu hs)) (fun A B hA hB => ?_)
    refine cy_clamp _ v1 ?_
    refine cy_clamp _ v2 ?_
    refine cy_tell' fl ce (cg_cl v1) (cg_cl v2) K V A B _ hn (cg_L a b n) (cg_L a b n) (cg_L K V n) (cg_So_Fu hs) hP hP s hA hB (cg_room1 s e0) ⟨rfl, ?_⟩
    exact ⟨n, cg_cl v1, cg_cl v2, cg_T fl ce (cg_cl v1) (cg_cl v2) (cg_L a b n) (cg_L a b n) s 8, a, b, G', H', M', K, V, A, B, rfl, rfl, hn, cg_room1 s e0 8 (Nat.le_refl 8), hs, hin, hP, hG', hH'⟩
  · have z : ¬ nI s.1 ≤ 0 := nI_nle (by omega) (by omega)
    exact br_f z (br_f z ⟨rfl, I'⟩)
theorem i_vc_insert {k : Nat} {u : SX} {v : SY} (I : i_Rel k u v) (hk : k + 3 ≤ 1536) (v1 : Int32) (v2 : Int32) : wpX_insert (fun r u' => wpY_insert (fun r' v' => r' = r ∧ i_Rel (k + 3) u' v') v v1 v2) u v1 v2 := by
  have I' : i_Rel (k + 3) u v := I
  obtain ⟨n, fl, ce, s, a, b, G, H, M, K, V, SB, BE, rfl, rfl, hn, he, hs, hin, hP, hG, hH⟩ := I
  unfold wpX_insert wpX_isKey wpX_logIsTooFull
  dsimp only
  rcases cg_key v1 with h0 | ⟨h0, h8, h7, ho⟩ | ⟨q, hq, rfl, h0, h8, h7⟩
  · exact br_t h0 (br_t rfl (br_t h0 ⟨rfl, I'⟩))
  · exact br_f h0 (br_t h8 (br_t rfl (br_f h0 (br_t h7 ⟨rfl, I'⟩))))
  · refine br_f h0 (br_f h8 (br_f (by decide) ?_))
    by_cases c40 : n = 40
    · have z : (40 : Int32) ≤ nI n := by rw [c40]; exact Int32.le_refl _
      have z' : nI n = 40 := by rw [c40]; rfl
      exact br_t z (br_f h0 (br_f h7 (br_t z' ⟨rfl, I'⟩)))
    · have z : ¬ (40 : Int32) ≤ nI n := nI_ge (b := 40) (by omega) (by decide)
      have z' : ¬ nI n = 40 := fun w => by
        have w' : nI n = nI 40 := w
        rw [nI_eq (by omega) (by omega)] at w'
        exact c40 w'
      refine br_f z ?_
      by_cases c22 : s.1 ≤ 22
      · have y : nI s.1 ≤ 22 := nI_le (b := 22) c22 (by decide)
        refine br_t y (br_t rfl ?_)
        refine cx_rb fl ce _ a b G H M _ _ _ _ (nI q) v2 hn hs ?_
        have hp : cg_B (nI q, v2) (cg_L a b n) ≤ n := cg_B_le_n _
        refine ⟨n - cg_B (nI q, v2) (cg_L a b n) + 1, cx_ins_l fl ce _ a b G H M _ _ _ _ (nI q) v2 (by omega) hp (fun a' b' hab Q hQ => ?_) (n - cg_B (nI q, v2) (cg_L a b n)) n a b (by omega) (Nat.le_refl n) (fun j hj => by rw [if_pos hj, if_pos hj]; exact ⟨rfl, rfl⟩)⟩
        have hs' : cg_So a' b' (n + 1) := cg_ins_s hs rfl hab
        have hp' : (cg_L a' b' (n + 1)).Perm ((nI q, v2) :: cg_L a b n) := cg_ins_p hp hab
        have room : ∀ j, j ≤ 8 → (cg_T fl ce fl ce (cg_L a b n) (cg_L a' b' (n + 1)) s j).1 ≤ 24 := cg_room (κ := q) s c22 (fun j hj hne => cg_Q_s (cg_Q_t (cg_Q_p hp') (cg_Q_c _ (fun w => hne ((nI_eq (by omega) (by omega)).mp w).symm))))
        refine cx_tell fl ce fl ce a' b' Q (by omega) hs' (cg_L a b n) s G H M hG hH room (fun G' H' M' hG' hH' => hQ _ _ _ _ _ _ _ _ _ _ _ _ ?_)
        unfold wpY_insert
        dsimp only
        refine br_f h0 (br_f h7 (br_f z' (br_t y ?_)))
        refine cy_rem fl ce _ K V _ _ _ SB BE _ hn (cg_Fu_p hP (cg_So_Fu hs)) (fun A B hA hB => ?_)
        have hv : vp_in (nI n) 40 := vp_in_nI (by omega) (by omega)
        dsimp only
        rw [nI_clamp (n := n) (by omega)]
        refine ⟨hv, nm_e ⟨hv, nm_e (nm_r (nI_1 n) ?_)⟩⟩
        have hPn : (cg_L a' b' (n + 1)).Perm (cg_L (upd K n (nI q)) (upd V n v2) (n + 1)) := by
          have e5 : cg_L (upd K n (nI q)) (upd V n v2) (n + 1) = (nI q, v2) :: cg_L K V n := by
            rw [cg_L, pk_us, pk_us, cg_L_e (a := K) (b := V) (a' := upd K n (nI q)) (b' := upd V n v2) n (fun j hj => ⟨pk_un (by omega), pk_un (by omega)⟩)]
          rw [e5]
          exact hp'.trans (hP.cons _)
        refine cy_tell' fl ce fl ce (upd K n (nI q)) (upd V n v2) A B _ (by omega) (cg_L a b n) (cg_L a' b' (n + 1)) (cg_L K V n) (cg_So_Fu hs') hPn hP s hA hB room ⟨rfl, ?_⟩
        refine ⟨n + 1, fl, ce, cg_T fl ce fl ce (cg_L a b n) (cg_L a' b' (n + 1)) s 8, a', b', G', H', M', _, _, A, B, rfl, rfl, by omega, room 8 (Nat.le_refl 8), hs', ?_, hPn, hG', hH'⟩
        refine cg_In_p hp'.symm (fun x hx => ?_)
        rcases List.mem_cons.mp hx with e | e
        · exact ⟨q, hq, by rw [e]⟩
        · exact hin x e
      · have y : ¬ nI s.1 ≤ 22 := nI_ge (a := 22) (by omega) (by omega)
        exact br_f y (br_f (by decide) (br_f h0 (br_f h7 (br_f z' (br_f y ⟨rfl, I'⟩)))))
theorem cy_rv_l (fl ce en : Int32) (K V S KK FF SB BE : Nat → Int32) (post : Int32 → SY → Prop) (x y : Int32) {n : Nat} (hn : n ≤ 40) (hF : cg_Fu (cg_L K V n)) (h0 : ¬ (x, y) ∈ cg_L K V n → post (-1) (nI n, fl, ce, en, K, V, S, KK, FF, SB, BE))
    (h1 : ∀ i m A B, n = m + 1 → i < n → K i = x → V i = y → cg_HH fl ce (cg_L K V n) A → cg_M (cg_L K V n) B 48 → ∀ Q : SY → Prop, (∀ r f2 f3 f4 g1 g2 g3 g4 g5 g6 g7, post r (r, f2, f3, f4, g1, g2, g3, g4, g5, g6, g7) → Q (r, f2, f3, f4, g1, g2, g3, g4, g5, g6, g7)) → wpY_tell Q (nI m, fl, ce, en, upd K i (K m), upd V i (V m), S, KK, FF, A, B)) :
    ∀ d i, i + d = n → ¬ (x, y) ∈ cg_L K V i → wY_remove_13 post x y (nI n) fl ce en K V S KK FF SB BE (d + 1) (nI i) := by
  intro d
  induction d with
  | zero =>
    intro i e hno
    obtain rfl : i = n := by omega
    exact br_t (Int32.le_refl _) (h0 hno)
  | succ d ih =>
    intro i e hno
    have hc := nI_clamp (n := i) (by omega)
    have hi : vp_in (nI i) 40 := vp_in_nI (by omega) (by omega)
    refine br_f (nI_ge (by omega) (by omega)) ⟨hi, ?_⟩
    rw [hc]
    by_cases hx : K i = x
    · refine br_t hx ⟨hi, ?_⟩
      by_cases hy : V i = y
      · refine br_t hy (cy_rem fl ce en K V S KK FF SB BE _ hn hF (fun A B hA hB => ?_))
        have en : n = n - 1 + 1 := by omega
        have h2 := h1 i (n - 1) A B en (by omega) hx hy hA hB
        have e3 : nI n = nI (n - 1 + 1) := by rw [← en]
        dsimp only
        rw [e3]
        refine cy_drop fl ce _ K V S KK FF A B _ (by omega) (by omega) ?_
        exact h2 _ (fun _ _ _ _ _ _ _ _ _ _ _ hq => hq)
      · refine br_f hy (nm_r (nI_1 i) (ih (i + 1) (by omega) ?_))
        rw [cg_L, List.mem_cons]
        exact fun z => z.elim (fun w => hy (congrArg Prod.snd w).symm) hno
    · refine br_f hx (nm_r (nI_1 i) (ih (i + 1) (by omega) ?_))
      rw [cg_L, List.mem_cons]
      exact fun z => z.elim (fun w => hx (congrArg Prod.fst w).symm) hno
theorem cg_at_B {a b : Nat → Int32} {n : Nat} (hs : cg_So a b n) {x y : Int32} (h : (x, y) ∈ cg_L a b n) : cg_B (x, y) (cg_L a b n) < n ∧ a (cg_B (x, y) (cg_L a b n)) = x ∧ b (cg_B (x, y) (cg_L a b n)) = y := by
  obtain ⟨j, hj, e⟩ := (cg_L_m a b (x, y) n).mp h
  have ea : a j = x := congrArg Prod.fst e
  have eb : b j = y := congrArg Prod.snd e
  have h1 := cg_Bi hs (x, y) hj
  rw [cg_lb_i, ea, eb] at h1
  dsimp only at h1
  have hle : cg_B (x, y) (cg_L a b n) ≤ j := by omega
  have hlt : cg_B (x, y) (cg_L a b n) < n := by omega
  have h2 := cg_Bi hs (x, y) hlt
  rw [cg_lb_i] at h2
  dsimp only at h2
  refine ⟨hlt, ?_⟩
  by_cases c : cg_B (x, y) (cg_L a b n) = j
  · rw [c]; exact ⟨ea, eb⟩
  · have h3 := hs _ j (Nat.lt_of_le_of_ne hle c) hj
    rw [ea, eb] at h3
    exact ⟨(cg_eqi _ _).mpr (by omega), (cg_eqi _ _).mpr (by omega)⟩
theorem i_vc_remove {k : Nat} {u : SX} {v : SY} (I : i_Rel k u v) (hk : k + 3 ≤ 1536) (v1 : Int32) (v2 : Int32) : wpX_remove (fun r u' => wpY_remove (fun r' v' => r' = r ∧ i_Rel (k + 3) u' v') v v1 v2) u v1 v2 := by
  have I' : i_Rel (k + 3) u v := I
  obtain ⟨n, fl, ce, s, a, b, G, H, M, K, V, SB, BE, rfl, rfl, hn, he, hs, hin, hP, hG, hH⟩ := I
  have hFu := cg_Fu_p hP (cg_So_Fu hs)
  have hp : cg_B (v1, v2) (cg_L a b n) ≤ n := cg_B_le_n _
  unfold wpX_remove
  dsimp only
  refine cx_rb fl ce _ a b G H M _ _ _ _ v1 v2 hn hs ?_
  unfold wpX_isRowAt wpX_logIsTooFull
  dsimp only
  have no : ¬ (v1, v2) ∈ cg_L a b n → wpY_remove (fun r' v' => r' = -1 ∧ i_Rel (k + 3) (nI n, fl, ce, nI s.1, a, b, G, H, M, s.2.1, s.2.2.1, s.2.2.2) v') (nI n, fl, ce, nI s.1, K, V, s.2.1, s.2.2.1, s.2.2.2, SB, BE) v1 v2 := fun hm => by
    have hm' : ¬ (v1, v2) ∈ cg_L K V n := fun z => hm (hP.mem_iff.mpr z)
    unfold wpY_remove
    dsimp only
    refine br_c (fun _ => ⟨n + 1, cy_rv_l fl ce _ K V _ _ _ SB BE _ v1 v2 hn hFu (fun _ => ⟨rfl, I'⟩) (fun i m A B en hi hx hy _ _ => ?_) n 0 (by omega) (fun z => nomatch z)⟩) (fun _ => ⟨rfl, I'⟩)
    exact absurd ((cg_L_m K V _ n).mpr ⟨i, hi, by rw [hx, hy]⟩) hm'
  by_cases hm : (v1, v2) ∈ cg_L a b n
  · obtain ⟨hlt, ea, eb⟩ := cg_at_B hs hm
    have hv : vp_in (nI (cg_B (v1, v2) (cg_L a b n))) 40 := vp_in_nI (by omega) (by omega)
    have hcl : (nI (cg_B (v1, v2) (cg_L a b n))).toNatClampNeg = cg_B (v1, v2) (cg_L a b n) := nI_clamp (by omega)
    refine br_f (nI_ge hlt (by omega)) ⟨hv, ?_⟩
    rw [hcl]
    refine br_t ea ⟨hv, br_t eb (br_f (by decide) ?_)⟩
    by_cases c22 : s.1 ≤ 22
    · have y : nI s.1 ≤ 22 := nI_le (b := 22) c22 (by decide)
      refine br_t y (br_t rfl ?_)
      obtain ⟨q, hq, eq⟩ := hin _ hm
      have eq : v1 = nI q := eq
      obtain ⟨m, rfl⟩ : ∃ m, n = m + 1 := ⟨n - 1, by omega⟩
      refine cx_drop fl ce _ a b G H M _ _ _ _ (c := 1) hn (by omega) (fun a' b' hab => ?_)
      have hab : ∀ j, j < m → a' j = cg_del a (cg_B (v1, v2) (cg_L a b (m + 1))) 1 j ∧ b' j = cg_del b (cg_B (v1, v2) (cg_L a b (m + 1))) 1 j := hab
      have hs' : cg_So a' b' m := cg_del_s (c := 1) hs (by omega) hab
      have hp' : (cg_L a b (m + 1)).Perm ((v1, v2) :: cg_L a' b' m) := by
        have h1 := cg_del_1 (a := a) (b := b) (i := cg_B (v1, v2) (cg_L a b (m + 1))) m hlt
        rw [ea, eb, ← cg_L_e m hab] at h1
        exact h1
      have room : ∀ j, j ≤ 8 → (cg_T fl ce fl ce (cg_L a b (m + 1)) (cg_L a' b' m) s j).1 ≤ 24 := cg_room (κ := q) s c22 (fun j hj hne => cg_Q_t (cg_Q_p hp') (cg_Q_c _ (fun w => hne ((nI_eq (by omega) (by omega)).mp (eq.symm.trans w)).symm)))
      refine cx_tell fl ce fl ce a' b' _ (by omega) hs' (cg_L a b (m + 1)) s G H M hG hH room (fun G' H' M' hG' hH' => ?_)
      unfold wpY_remove
      dsimp only
      refine br_t y ⟨m + 1 + 1, cy_rv_l fl ce _ K V _ _ _ SB BE _ v1 v2 hn hFu (fun z => absurd (hP.mem_iff.mp hm) z) (fun i m' A B en hi hx hy hA hB Q hQ => ?_) (m + 1) 0 (by omega) (fun z => nomatch z)⟩
      obtain rfl : m = m' := by omega
      have hPn : (cg_L a' b' m).Perm (cg_L (upd K i (K m)) (upd V i (V m)) m) := by
        have h2 := cg_dr (K := K) (V := V) hi
        rw [hx, hy] at h2
        exact (hp'.symm.trans (hP.trans h2)).cons_inv
      refine cy_tell' fl ce fl ce _ _ A B Q (by omega) (cg_L a b (m + 1)) (cg_L a' b' m) (cg_L K V (m + 1)) (cg_So_Fu hs') hPn hP s hA hB room (hQ _ _ _ _ _ _ _ _ _ _ _ ⟨rfl, ?_⟩)
      refine ⟨m, fl, ce, cg_T fl ce fl ce (cg_L a b (m + 1)) (cg_L a' b' m) s 8, a', b', G', H', M', _, _, A, B, rfl, rfl, by omega, room 8 (Nat.le_refl 8), hs', ?_, hPn, hG', hH'⟩
      exact fun x hx => hin x (hp'.mem_iff.mpr (List.mem_cons_of_mem _ hx))
    · have y : ¬ nI s.1 ≤ 22 := nI_ge (a := 22) (by omega) (by omega)
      exact br_f y (br_f (by decide) (br_f y ⟨rfl, I'⟩))
  · by_cases c1 : nI n ≤ nI (cg_B (v1, v2) (cg_L a b n))
    · exact br_t c1 (br_t rfl (no hm))
    · have hlt : cg_B (v1, v2) (cg_L a b n) < n := by
        rw [nI_leI (by omega) (by omega)] at c1
        omega
      have hv : vp_in (nI (cg_B (v1, v2) (cg_L a b n))) 40 := vp_in_nI (by omega) (by omega)
      have hcl : (nI (cg_B (v1, v2) (cg_L a b n))).toNatClampNeg = cg_B (v1, v2) (cg_L a b n) := nI_clamp (by omega)
      refine br_f c1 ⟨hv, ?_⟩
      rw [hcl]
      refine br_c (fun ea => ⟨hv, br_c (fun eb => ?_) (fun _ => br_t rfl (no hm))⟩) (fun _ => br_t rfl (no hm))
      exact absurd ((cg_L_m a b _ n).mpr ⟨_, hlt, by rw [ea, eb]⟩) hm
