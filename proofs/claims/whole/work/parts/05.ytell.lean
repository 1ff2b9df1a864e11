section
variable (fl ce : Int32) (K V SB BE : Nat → Int32)
theorem cy_t60 (post : SY → Prop) (J : Int32 → Int32 → Int32 → Int32 → Int32 → (Nat → Int32) → (Nat → Int32) → (Nat → Int32) → (Nat → Int32) → (Nat → Int32) → (Nat → Int32) → (Nat → Int32) → Prop) {n q : Nat} {s : cg_S} (hn : n ≤ 40) (he : s.1 < 24) (hF : cg_Fu (cg_L K V n)) {g : Nat → Int32} (hg : ∀ f, f < 6 → cg_F (cg_L K V n) (nI q) f = g f) (h : J (nI (q + 1)) (nI n) fl ce (nI (cg_put 2 (nI q) g s).1) K V (cg_put 2 (nI q) g s).2.1 (cg_put 2 (nI q) g s).2.2.1 (cg_put 2 (nI q) g s).2.2.2 SB BE) : wY_tell_60 post J (nI q) (nI n) fl ce (nI s.1) K V s.2.1 s.2.2.1 s.2.2.2 SB BE := by
  unfold wY_tell_60
  refine cy_ent2 fl ce K V SB BE _ hn he hF hg ?_
  exact nm_r (nI_1 q) h
theorem cy_tell_l (post : SY → Prop) {n : Nat} (hn : n ≤ 40) (hF : cg_Fu (cg_L K V n)) (sb sa sm : Nat → Bool) (go gn : Nat → Nat → Int32) (s : cg_S)
    (hA : ∀ j, j < 8 → SB j = cg_b (sb j)) (hsa : ∀ j, j < 8 → cg_h fl ce (cg_L K V n) (nI j) = sa j) (hsm : ∀ j, j < 8 → cg_q (fun f => BE (6 * j + f)) (cg_F (cg_L K V n) (nI j)) = sm j)
    (hgo : ∀ j, j < 8 → ∀ f, f < 6 → BE (6 * j + f) = go j f) (hgn : ∀ j, j < 8 → ∀ f, f < 6 → cg_F (cg_L K V n) (nI j) f = gn j f) (hlg : ∀ q, q ≤ 8 → (cg_lg sb sa sm go gn s q).1 ≤ 24)
    (h : post (nI n, fl, ce, nI (cg_lg sb sa sm go gn s 8).1, K, V, (cg_lg sb sa sm go gn s 8).2.1, (cg_lg sb sa sm go gn s 8).2.2.1, (cg_lg sb sa sm go gn s 8).2.2.2, SB, BE)) :
    ∀ d q, q + d = 8 → wY_tell_2 post (d + 1) (nI q) (nI n) fl ce (nI (cg_lg sb sa sm go gn s q).1) K V (cg_lg sb sa sm go gn s q).2.1 (cg_lg sb sa sm go gn s q).2.2.1 (cg_lg sb sa sm go gn s q).2.2.2 SB BE := by
  intro d
  induction d with
  | zero =>
    intro q e
    obtain rfl : q = 8 := by omega
    exact br_t (Int32.le_refl _) h
  | succ d ih =>
    intro q e
    have hJ := ih (q + 1) (by omega)
    have hl := hlg (q + 1) (by omega)
    have hq : q < 8 := by omega
    rw [cg_lg] at hJ hl
    have hSB := hA q hq
    have hgo := hgo q hq
    have hgn := hgn q hq
    have hsa := hsa q hq
    have hsm := hsm q hq
    generalize cg_lg sb sa sm go gn s q = t at hJ hl ⊢
    refine br_f (nI_ge (b := 8) (by omega) (by decide)) ?_
    refine cy_shown fl ce _ K V _ _ _ SB BE _ (nI q) hn ?_
    refine cy_same fl ce _ K V _ _ _ SB BE _ hn hq hF ?_
    rw [hsa, hsm]
    have hi : vp_in (nI q) 8 := vp_in_nI hq (by omega)
    refine ⟨hi, ?_⟩
    have hcl : (nI q).toNatClampNeg = q := nI_clamp (by omega)
    have hS : SB (nI q).toNatClampNeg = cg_b (sb q) := by rw [hcl]; exact hSB
    cases hb : sb q
    · rw [hb] at hJ hl hS
      have h0 : SB (nI q).toNatClampNeg = 0 := hS
      refine br_t h0 ?_
      cases ha : sa q
      · rw [ha] at hJ hl
        exact br_t rfl (nm_r (nI_1 q) hJ)
      · rw [ha] at hJ hl
        exact br_f (by decide) ⟨hi, br_t h0 (cy_t60 fl ce K V SB BE post _ hn (by have : t.1 + 1 ≤ 24 := hl; omega) hF hgn hJ)⟩
    · rw [hb] at hJ hl hS
      have h0 : ¬ SB (nI q).toNatClampNeg = 0 := by rw [hS]; decide
      refine br_f h0 ?_
      cases ha : sa q
      · rw [ha] at hJ hl
        refine br_t rfl ?_
        unfold wY_tell_37
        refine cy_ent1 fl ce K V SB BE _ (by have : t.1 + 1 ≤ 24 := hl; omega) hq hgo ?_
        exact br_t rfl (nm_r (nI_1 q) hJ)
      · rw [ha] at hJ hl
        refine br_f (by decide) ?_
        cases hc : sm q
        · rw [hc] at hJ hl
          refine br_t rfl ?_
          unfold wY_tell_37
          have hl' : t.1 + 1 + 1 ≤ 24 := hl
          refine cy_ent1 fl ce K V SB BE _ (by omega) hq hgo ?_
          exact br_f (by decide) ⟨hi, br_f h0 (br_t rfl (cy_t60 fl ce K V SB BE post _ hn (show t.1 + 1 < 24 by omega) hF hgn hJ))⟩
        · rw [hc] at hJ hl
          exact br_f (by decide) (br_f (by decide) ⟨hi, br_f h0 (br_f (by decide) (nm_r (nI_1 q) hJ))⟩)
theorem cy_tell (post : SY → Prop) {n : Nat} (hn : n ≤ 40) (hF : cg_Fu (cg_L K V n)) (sb sa sm : Nat → Bool) (go gn : Nat → Nat → Int32) (s : cg_S)
    (hA : ∀ j, j < 8 → SB j = cg_b (sb j)) (hsa : ∀ j, j < 8 → cg_h fl ce (cg_L K V n) (nI j) = sa j) (hsm : ∀ j, j < 8 → cg_q (fun f => BE (6 * j + f)) (cg_F (cg_L K V n) (nI j)) = sm j)
    (hgo : ∀ j, j < 8 → ∀ f, f < 6 → BE (6 * j + f) = go j f) (hgn : ∀ j, j < 8 → ∀ f, f < 6 → cg_F (cg_L K V n) (nI j) f = gn j f) (hlg : ∀ q, q ≤ 8 → (cg_lg sb sa sm go gn s q).1 ≤ 24)
    (h : post (nI n, fl, ce, nI (cg_lg sb sa sm go gn s 8).1, K, V, (cg_lg sb sa sm go gn s 8).2.1, (cg_lg sb sa sm go gn s 8).2.2.1, (cg_lg sb sa sm go gn s 8).2.2.2, SB, BE)) :
    wpY_tell post (nI n, fl, ce, nI s.1, K, V, s.2.1, s.2.2.1, s.2.2.2, SB, BE) :=
  ⟨9, cy_tell_l fl ce K V SB BE post hn hF sb sa sm go gn s hA hsa hsm hgo hgn hlg h 8 0 (by omega)⟩
end
