theorem cg_fi_id {K V : Nat → Int32} {k : Int32} : ∀ m, (∀ j, j < m → ¬ K j = k) → cg_fi k (cg_L K V m) = cg_L K V m
  | 0, _ => rfl
  | m + 1, h => by
    rw [cg_L, cg_fi_f _ (h m (by omega)), cg_fi_id m (fun j hj => h j (by omega))]
theorem cy_rg_l (fl ce en : Int32) (S KK FF A B : Nat → Int32) (post : Int32 → SY → Prop) (x : Int32) {n : Nat} (N : List (Int32 × Int32))
    (h : ∀ K V m, m ≤ 40 → (cg_L K V m).Perm N → ∀ Q : SY → Prop, (∀ r f2 f3 f4 g1 g2 g3 g4 g5 g6 g7, post (nI n - r) (r, f2, f3, f4, g1, g2, g3, g4, g5, g6, g7) → Q (r, f2, f3, f4, g1, g2, g3, g4, g5, g6, g7)) → wpY_tell Q (nI m, fl, ce, en, K, V, S, KK, FF, A, B)) :
    ∀ t m K V, t ≤ m → m ≤ 40 → (∀ j, t ≤ j → j < m → ¬ K j = x) → (cg_fi x (cg_L K V m)).Perm N → wY_removeGroup_37 post x (nI n) (t + 1) (nI t - 1) (nI m) fl ce en K V S KK FF A B := by
  intro t
  induction t with
  | zero =>
    intro m K V _ hm hno hP
    rw [cg_fi_id m (fun j hj => hno j (Nat.zero_le j) hj)] at hP
    exact br_t (by decide) (h K V m hm hP _ (fun _ _ _ _ _ _ _ _ _ _ _ hq => hq))
  | succ t ih =>
    intro m K V ht hm hno hP
    have e1 : nI t + (-1) = nI t - 1 := by rw [Int32.sub_eq_add_neg]
    have hi : vp_in (nI t) 40 := vp_in_nI (by omega) (by omega)
    rw [nI_pred t]
    refine br_f (nI_pos (by omega)) ⟨hi, ?_⟩
    rw [nI_clamp (n := t) (by omega)]
    by_cases hx : K t = x
    · refine br_t hx ?_
      obtain ⟨m', rfl⟩ : ∃ m', m = m' + 1 := ⟨m - 1, by omega⟩
      refine cy_drop fl ce _ K V S KK FF A B _ (by omega) (by omega) (nm_r e1 ?_)
      refine ih m' _ _ (by omega) (by omega) (fun j h1 h2 => ?_) ?_
      · by_cases c : j = t
        · rw [c, pk_us]; exact hno m' (by omega) (by omega)
        · rw [pk_un c]; exact hno j (by omega) (by omega)
      · have h2 : (cg_fi x (cg_L K V (m' + 1))).Perm (cg_fi x ((K t, V t) :: cg_L (upd K t (K m')) (upd V t (V m')) m')) := (cg_dr (K := K) (V := V) (i := t) (by omega)).filter _
        rw [cg_fi_t _ hx] at h2
        exact h2.symm.trans hP
    · refine br_f hx (nm_r e1 (ih m K V (by omega) hm (fun j h1 h2 => ?_) hP))
      by_cases c : j = t
      · rw [c]; exact hx
      · exact hno j (by omega) h2
theorem i_vc_removeGroup {k : Nat} {u : SX} {v : SY} (I : i_Rel k u v) (hk : k + 3 ≤ 1536) (v1 : Int32) : wpX_removeGroup (fun r u' => wpY_removeGroup (fun r' v' => r' = r ∧ i_Rel (k + 3) u' v') v v1) u v1 := by
  have I' : i_Rel (k + 3) u v := I
  obtain ⟨n, fl, ce, s, a, b, G, H, M, K, V, SB, BE, rfl, rfl, hn, he, hs, hin, hP, hG, hH⟩ := I
  unfold wpX_removeGroup wpX_isKey wpX_logIsTooFull
  dsimp only
  rcases cg_key v1 with h0 | ⟨h0, h8, h7, ho⟩ | ⟨q, hq, rfl, h0, h8, h7⟩
  · exact br_t h0 (br_t rfl (br_t h0 ⟨rfl, I'⟩))
  · exact br_f h0 (br_t h8 (br_t rfl (br_f h0 (br_t h7 ⟨rfl, I'⟩))))
  · refine br_f h0 (br_f h8 (br_f (by decide) ?_))
    by_cases c22 : s.1 ≤ 22
    · have y : nI s.1 ≤ 22 := nI_le (b := 22) c22 (by decide)
      refine br_t y (br_t rfl ?_)
      have e6 : nI q * 6 + 0 = nI (6 * q + 0) := cg_ix' q 0
      have hg : G (6 * q + 0) = nI (cg_c (nI q) (cg_L a b n)) := (hG q hq 0 (by omega)).trans (cg_F_0 _ _)
      rw [e6, nI_clamp (by omega)]
      refine ⟨vp_in_nI (by omega) (by omega), nm_r hg ?_⟩
      refine cx_rb fl ce _ a b G H M _ _ _ _ (nI q) (-2147483648) hn hs ?_
      have hrn := cg_rg_n hs (nI q)
      refine cx_drop fl ce _ a b G H M _ _ _ _ hn hrn (fun a' b' hab => ?_)
      have hs' : cg_So a' b' (n - cg_c (nI q) (cg_L a b n)) := cg_del_s hs hrn hab
      have hL : cg_L a' b' (n - cg_c (nI q) (cg_L a b n)) = cg_fi (nI q) (cg_L a b n) := by
        rw [cg_del_f (p := cg_B (nI q, -2147483648) (cg_L a b n)) (c := cg_c (nI q) (cg_L a b n)) n (fun i hi => cg_rg hs (nI q) hi), cg_L_e _ hab]
        congr 1
        by_cases c1 : n ≤ cg_B (nI q, -2147483648) (cg_L a b n)
        · rw [if_pos c1]; omega
        · rw [if_neg c1]
          by_cases c2 : n ≤ cg_B (nI q, -2147483648) (cg_L a b n) + cg_c (nI q) (cg_L a b n)
          · rw [if_pos c2]; omega
          · rw [if_neg c2]
      have room : ∀ j, j ≤ 8 → (cg_T fl ce fl ce (cg_L a b n) (cg_L a' b' (n - cg_c (nI q) (cg_L a b n))) s j).1 ≤ 24 := by
        rw [hL]
        exact cg_room (κ := q) s c22 (fun j hj hne => cg_Q_s (cg_Q_f (fun w => hne ((nI_eq (by omega) (by omega)).mp w)) _))
      refine cx_tell fl ce fl ce a' b' _ (by omega) hs' (cg_L a b n) s G H M hG hH room (fun G' H' M' hG' hH' => ?_)
      unfold wpY_removeGroup
      dsimp only
      refine br_f h0 (br_f h7 (br_t y ?_))
      refine cy_rem fl ce _ K V _ _ _ SB BE _ hn (cg_Fu_p hP (cg_So_Fu hs)) (fun A B hA hB => ?_)
      refine nm_e ⟨n + 1, cy_rg_l fl ce _ _ _ _ A B _ (nI q) (cg_fi (nI q) (cg_L K V n)) (fun K' V' m hm hPm Q hQ => ?_) n n K V (Nat.le_refl n) hn (fun j h1 h2 => by omega) (List.Perm.refl _)⟩
      have hPn : (cg_L a' b' (n - cg_c (nI q) (cg_L a b n))).Perm (cg_L K' V' m) := by
        rw [hL]
        have h3 : (cg_fi (nI q) (cg_L a b n)).Perm (cg_fi (nI q) (cg_L K V n)) := hP.filter _
        exact h3.trans hPm.symm
      have hlen := hPn.length_eq
      rw [cg_L_len, cg_L_len] at hlen
      subst hlen
      refine cy_tell' fl ce fl ce K' V' A B Q hm (cg_L a b n) (cg_L a' b' (n - cg_c (nI q) (cg_L a b n))) (cg_L K V n) (cg_So_Fu hs') hPn hP s hA hB room (hQ _ _ _ _ _ _ _ _ _ _ _ ⟨?_, ?_⟩)
      · rw [pk_sub (by omega)]
        exact congrArg nI (by omega)
      · refine ⟨n - cg_c (nI q) (cg_L a b n), fl, ce, cg_T fl ce fl ce (cg_L a b n) (cg_L a' b' (n - cg_c (nI q) (cg_L a b n))) s 8, a', b', G', H', M', K', V', A, B, rfl, rfl, hm, room 8 (Nat.le_refl 8), hs', ?_, hPn, hG', hH'⟩
        rw [hL]
        exact fun x hx => hin x (cg_fi_m.mp hx).1
    · have y : ¬ nI s.1 ≤ 22 := nI_ge (a := 22) (by omega) (by omega)
      exact br_f y (br_f (by decide) (br_f h0 (br_f h7 (br_f y ⟨rfl, I'⟩))))
