theorem cg_q_e {g g' h h' : Nat → Int32} (e : ∀ f, f < 6 → g f = h f) (e' : ∀ f, f < 6 → g' f = h' f) : cg_q g g' = cg_q h h' := by
  by_cases z : ∀ f, f < 6 → h f = h' f
  · rw [cg_q_t z, cg_q_t (fun f hf => (e f hf).trans ((z f hf).trans (e' f hf).symm))]
  · rw [cg_q_f z, cg_q_f (fun y => z (fun f hf => (e f hf).symm.trans ((y f hf).trans (e' f hf))))]
theorem cg_q_s (g g' : Nat → Int32) : cg_q g g' = cg_q g' g := by
  by_cases z : ∀ f, f < 6 → g f = g' f
  · rw [cg_q_t z, cg_q_t (fun f hf => (z f hf).symm)]
  · rw [cg_q_f z, cg_q_f (fun y => z (fun f hf => (y f hf).symm))]
theorem cg_u_o (F : Nat → Int32) (b : Nat) (g : Nat → Int32) {j : Nat} : ∀ m, (j < b ∨ b + m ≤ j) → cg_u F b g m j = F j
  | 0, _ => rfl
  | m + 1, h => by rw [cg_u, pk_un (by omega), cg_u_o F b g m (by omega)]
theorem cg_u_i (F : Nat → Int32) (b : Nat) (g : Nat → Int32) {f : Nat} : ∀ m, f < m → cg_u F b g m (b + f) = g f
  | 0, h => absurd h (Nat.not_lt_zero f)
  | m + 1, h => by
    by_cases z : f = m
    · rw [cg_u, z, pk_us]
    · rw [cg_u, pk_un (by omega), cg_u_i F b g m (by omega)]
theorem cg_F_0 (L : List (Int32 × Int32)) (k : Int32) : cg_F L k 0 = nI (cg_c k L) := by
  unfold cg_F
  by_cases h : cg_c k L = 0
  · rw [if_pos h, h]; rfl
  · rw [if_neg h]; rfl
theorem cg_F_4 (L : List (Int32 × Int32)) (k : Int32) (h : ¬ cg_c k L = 0) : cg_F L k 4 = nI (cg_d k L) := by
  unfold cg_F
  rw [if_neg h]; rfl
section
variable (fl ce : Int32) (a b G H M : Nat → Int32)
theorem cx_shown (en : Int32) (S K F : Nat → Int32) (post : Int32 → Prop) {q n : Nat} (hn : n ≤ 40) (hM : ∀ f, f < 6 → M f = cg_F (cg_L a b n) (nI q) f) (h : post (cg_b (cg_h fl ce (cg_L a b n) (nI q)))) : wpX_measuredIsShown post (nI n, fl, ce, en, a, b, G, H, M, S, K, F) := by
  have hcl := cg_c_le (nI q) (cg_L a b n)
  rw [cg_L_len] at hcl
  have m0 := (hM 0 (by omega)).trans (cg_F_0 _ _)
  unfold wpX_measuredIsShown
  dsimp only
  by_cases h0 : cg_c (nI q) (cg_L a b n) = 0
  · have e : cg_h fl ce (cg_L a b n) (nI q) = false := decide_eq_false (fun z => by have := z.1; omega)
    rw [e] at h
    exact br_t (by rw [m0, h0]; decide) h
  · have m4 := (hM 4 (by omega)).trans (cg_F_4 _ _ h0)
    rw [m0, m4]
    refine br_f (nI_nle (by omega) (by omega)) ?_
    by_cases h1 : nI (cg_c (nI q) (cg_L a b n)) < fl
    · have e : cg_h fl ce (cg_L a b n) (nI q) = false := decide_eq_false (fun z => z.2.1 h1)
      rw [e] at h
      exact br_t h1 h
    · refine br_f h1 ?_
      by_cases h2 : ce < nI (cg_d (nI q) (cg_L a b n))
      · have e : cg_h fl ce (cg_L a b n) (nI q) = false := decide_eq_false (fun z => z.2.2 h2)
        rw [e] at h
        exact br_t h2 h
      · have e : cg_h fl ce (cg_L a b n) (nI q) = true := decide_eq_true ⟨by omega, h1, h2⟩
        rw [e] at h
        exact br_f h2 h
theorem cx_same_l (rw' en : Int32) (S K F : Nat → Int32) (post : Int32 → Prop) {q : Nat} (hq : q < 8) (h : post (cg_b (cg_q M (fun f => G (6 * q + f))))) : ∀ d f, f + d = 6 → (∀ f', f' < f → M f' = G (6 * q + f')) → wX_measuredIsAsBefore_2 post (nI q) rw' fl ce en a b G H M S K F (d + 1) (nI f) := by
  intro d
  induction d with
  | zero =>
    intro f e hb
    obtain rfl : f = 6 := by omega
    rw [cg_q_t hb] at h
    exact br_t (Int32.le_refl _) h
  | succ d ih =>
    intro f e hb
    refine br_f (nI_ge (b := 6) (by omega) (by decide)) ⟨vp_in_nI (by omega) (by omega), ?_⟩
    rw [cg_ix', nI_clamp (n := f) (by omega), nI_clamp (n := 6 * q + f) (by omega)]
    refine ⟨vp_in_nI (by omega) (by omega), ?_⟩
    refine br_c (fun e1 => nm_r (nI_1 f) (ih (f + 1) (by omega) (lt_s hb e1))) (fun e1 => ?_)
    rw [cg_q_f (fun z => e1 (z f (by omega)))] at h
    exact h
theorem cx_same (rw' en : Int32) (S K F : Nat → Int32) (post : Int32 → Prop) {q : Nat} (hq : q < 8) (h : post (cg_b (cg_q M (fun f => G (6 * q + f))))) : wpX_measuredIsAsBefore post (rw', fl, ce, en, a, b, G, H, M, S, K, F) (nI q) :=
  ⟨7, cx_same_l fl ce a b G H M rw' en S K F post hq h 6 0 (by omega) (fun j hj => absurd hj (Nat.not_lt_zero j))⟩
theorem cx_put_l (S K F : Nat → Int32) (post : SX → Prop) {n e q : Nat} (he : e < 24) (hq : q < 8) (h : post (nI n, fl, ce, nI (e + 1), a, b, G, H, M, S, K, cg_u F (6 * e) (fun f => G (6 * q + f)) 6)) : ∀ d f, f + d = 6 → wX_putEntry_22 post (nI q) (nI n) fl ce (nI e) (d + 1) (nI f) a b G H M S K (cg_u F (6 * e) (fun f => G (6 * q + f)) f) := by
  intro d
  induction d with
  | zero =>
    intro f e
    obtain rfl : f = 6 := by omega
    exact br_t (Int32.le_refl _) (nm_r (nI_1 _) h)
  | succ d ih =>
    intro f e
    refine br_f (nI_ge (b := 6) (by omega) (by decide)) ?_
    rw [cg_ix', cg_ix']
    refine ⟨vp_in_nI (by omega) (by omega), vp_in_nI (by omega) (by omega), ?_⟩
    rw [nI_clamp (by omega), nI_clamp (by omega)]
    exact nm_e (nm_r (nI_1 f) (ih (f + 1) (by omega)))
theorem cx_put (t : Int32) (post : SX → Prop) {n q : Nat} {s : cg_S} (he : s.1 < 24) (hq : q < 8) {g : Nat → Int32} (hg : ∀ f, f < 6 → G (6 * q + f) = g f) (h : post (nI n, fl, ce, nI (cg_put t (nI q) g s).1, a, b, G, H, M, (cg_put t (nI q) g s).2.1, (cg_put t (nI q) g s).2.2.1, (cg_put t (nI q) g s).2.2.2)) : wpX_putEntry post (nI n, fl, ce, nI s.1, a, b, G, H, M, s.2.1, s.2.2.1, s.2.2.2) t (nI q) := by
  have e : cg_u s.2.2.2 (6 * s.1) g 6 = cg_u s.2.2.2 (6 * s.1) (fun f => G (6 * q + f)) 6 := (cg_u_e _ _ 6 hg).symm
  simp only [cg_put, e] at h
  have hi : vp_in (nI s.1) 24 := vp_in_nI he (by omega)
  unfold wpX_putEntry
  dsimp only
  rw [nI_clamp (by omega)]
  refine ⟨hi, nm_e ⟨hi, nm_e ⟨7, ?_⟩⟩⟩
  exact cx_put_l fl ce a b G H M _ _ s.2.2.2 post he hq h 6 0 (by omega)
theorem cx_keep_l (rw' en : Int32) (S K F : Nat → Int32) (post : SX → Prop) {q : Nat} (hq : q < 8) (h : post (rw', fl, ce, en, a, b, cg_u G (6 * q) M 6, H, M, S, K, F)) : ∀ d f, f + d = 6 → wX_keepMeasured_9 post (nI q) rw' fl ce en (d + 1) (nI f) a b (cg_u G (6 * q) M f) H M S K F := by
  intro d
  induction d with
  | zero =>
    intro f e
    obtain rfl : f = 6 := by omega
    exact br_t (Int32.le_refl _) h
  | succ d ih =>
    intro f e
    refine br_f (nI_ge (b := 6) (by omega) (by decide)) ⟨vp_in_nI (by omega) (by omega), ?_⟩
    rw [cg_ix', nI_clamp (n := f) (by omega), nI_clamp (n := 6 * q + f) (by omega)]
    refine ⟨vp_in_nI (by omega) (by omega), ?_⟩
    exact nm_e (nm_r (nI_1 f) (ih (f + 1) (by omega)))
theorem cx_keep (rw' en : Int32) (S K F : Nat → Int32) (post : SX → Prop) {q : Nat} (hq : q < 8) (x : Bool) (h : post (rw', fl, ce, en, a, b, cg_u G (6 * q) M 6, upd H q (cg_b x), M, S, K, F)) : wpX_keepMeasured post (rw', fl, ce, en, a, b, G, H, M, S, K, F) (nI q) (cg_b x) := by
  unfold wpX_keepMeasured
  dsimp only
  rw [nI_clamp (by omega), cg_b_nar]
  exact ⟨vp_in_nI hq (by omega), nm_e ⟨7, cx_keep_l fl ce a b G _ M rw' en S K F post hq h 6 0 (by omega)⟩⟩
theorem cx_63n (post : SX → Prop) (J : Int32 → Int32 → Int32 → Int32 → Int32 → (Nat → Int32) → (Nat → Int32) → (Nat → Int32) → (Nat → Int32) → (Nat → Int32) → (Nat → Int32) → (Nat → Int32) → (Nat → Int32) → Prop) {n q : Nat} (hq : q < 8) (s : cg_S) (sa : Bool) (x4 : Int32) (hno : cg_b sa = 0 ∨ ¬ x4 = 0) (h : J (nI (q + 1)) (nI n) fl ce (nI s.1) a b (cg_u G (6 * q) M 6) (upd H q (cg_b sa)) M s.2.1 s.2.2.1 s.2.2.2) : wX_logChanges_63 post J (nI q) (cg_b sa) x4 (nI n) fl ce (nI s.1) a b G H M s.2.1 s.2.2.1 s.2.2.2 := by
  unfold wX_logChanges_63
  refine cx_keep fl ce a b G H M _ _ _ _ _ _ hq sa ?_
  by_cases c : cg_b sa = 0
  · exact br_t c (nm_r (nI_1 q) h)
  · exact br_f c (br_f (hno.resolve_left c) (nm_r (nI_1 q) h))
theorem cx_63p (post : SX → Prop) (J : Int32 → Int32 → Int32 → Int32 → Int32 → (Nat → Int32) → (Nat → Int32) → (Nat → Int32) → (Nat → Int32) → (Nat → Int32) → (Nat → Int32) → (Nat → Int32) → (Nat → Int32) → Prop) {n q : Nat} (hq : q < 8) (s : cg_S) (he : s.1 < 24) {g : Nat → Int32} (hg : ∀ f, f < 6 → M f = g f) (h : J (nI (q + 1)) (nI n) fl ce (nI (cg_put 2 (nI q) g s).1) a b (cg_u G (6 * q) M 6) (upd H q (cg_b true)) M (cg_put 2 (nI q) g s).2.1 (cg_put 2 (nI q) g s).2.2.1 (cg_put 2 (nI q) g s).2.2.2) : wX_logChanges_63 post J (nI q) (cg_b true) 0 (nI n) fl ce (nI s.1) a b G H M s.2.1 s.2.2.1 s.2.2.2 := by
  unfold wX_logChanges_63
  refine cx_keep fl ce a b G H M _ _ _ _ _ _ hq true ?_
  refine br_f (by decide) (br_t rfl ?_)
  refine cx_put fl ce a b (cg_u G (6 * q) M 6) (upd H q (cg_b true)) M 2 _ he hq (g := g) (fun f hf => ?_) ?_
  · rw [cg_u_i _ _ _ 6 hf]; exact hg f hf
  · exact nm_r (nI_1 q) h
end
section
variable (fl ce : Int32) (a b : Nat → Int32)
theorem cx_log_l (post : SX → Prop) {n : Nat} (hn : n ≤ 40) (hs : cg_So a b n) (sb sa sm : Nat → Bool) (go gn : Nat → Nat → Int32) (s : cg_S)
    (hsa : ∀ j, j < 8 → cg_h fl ce (cg_L a b n) (nI j) = sa j) (hsm : ∀ j, j < 8 → cg_q (gn j) (go j) = sm j)
    (hgn : ∀ j, j < 8 → ∀ f, f < 6 → cg_F (cg_L a b n) (nI j) f = gn j f) (hlg : ∀ q, q ≤ 8 → (cg_lg sb sa sm go gn s q).1 ≤ 24)
    (h : ∀ G H M, (∀ j, j < 8 → ∀ f, f < 6 → G (6 * j + f) = gn j f) → (∀ j, j < 8 → H j = cg_b (sa j)) → post (nI n, fl, ce, nI (cg_lg sb sa sm go gn s 8).1, a, b, G, H, M, (cg_lg sb sa sm go gn s 8).2.1, (cg_lg sb sa sm go gn s 8).2.2.1, (cg_lg sb sa sm go gn s 8).2.2.2)) :
    ∀ d q G H M, q + d = 8 → (∀ j, j < q → ∀ f, f < 6 → G (6 * j + f) = gn j f) → (∀ j, j < q → H j = cg_b (sa j)) → (∀ j, q ≤ j → j < 8 → ∀ f, f < 6 → G (6 * j + f) = go j f) → (∀ j, q ≤ j → j < 8 → H j = cg_b (sb j)) →
    wX_logChanges_2 post (d + 1) (nI q) (nI n) fl ce (nI (cg_lg sb sa sm go gn s q).1) a b G H M (cg_lg sb sa sm go gn s q).2.1 (cg_lg sb sa sm go gn s q).2.2.1 (cg_lg sb sa sm go gn s q).2.2.2 := by
  intro d
  induction d with
  | zero =>
    intro q G H M e g1 h1 g2 h2
    obtain rfl : q = 8 := by omega
    exact br_t (Int32.le_refl _) (h G H M g1 h1)
  | succ d ih =>
    intro q G H M e g1 h1 g2 h2
    have hl := hlg (q + 1) (by omega)
    have hq : q < 8 := by omega
    have hgn := hgn q hq
    have hsa := hsa q hq
    have hsm := hsm q hq
    refine br_f (nI_ge (b := 8) (by omega) (by decide)) ?_
    refine cx_ms fl ce _ a b G H M _ _ _ _ hq hn hs (fun M' hM' => ?_)
    have hi : vp_in (nI q) 8 := vp_in_nI hq (by omega)
    have hcl : (nI q).toNatClampNeg = q := nI_clamp (by omega)
    have hM : ∀ f, f < 6 → M' f = gn q f := fun f hf => (hM' f hf).trans (hgn f hf)
    have hg := g2 q (Nat.le_refl q) hq
    have hJ := ih (q + 1) (cg_u G (6 * q) M' 6) (upd H q (cg_b (sa q))) M' (by omega)
      (fun j hj f hf => by
        by_cases z : j = q
        · rw [z, cg_u_i _ _ _ 6 hf]; exact hM f hf
        · rw [cg_u_o _ _ _ 6 (by omega)]; exact g1 j (by omega) f hf)
      (lt_s (fun j hj => by rw [pk_un (by omega)]; exact h1 j hj) pk_us)
      (fun j hj hj8 f hf => by rw [cg_u_o _ _ _ 6 (by omega)]; exact g2 j (by omega) hj8 f hf)
      (fun j hj hj8 => by rw [pk_un (by omega)]; exact h2 j (by omega) hj8)
    rw [cg_lg] at hJ hl
    have hS : H (nI q).toNatClampNeg = cg_b (sb q) := by rw [hcl]; exact h2 q (Nat.le_refl q) hq
    generalize cg_lg sb sa sm go gn s q = t at hJ hl ⊢
    refine ⟨hi, nm_r hS ?_⟩
    refine cx_shown fl ce a b G H M' _ _ _ _ _ hn hM' ?_
    rw [hsa]
    cases hb : sb q
    · rw [hb] at hJ hl
      refine br_t rfl (br_t rfl ?_)
      cases ha : sa q
      · rw [ha] at hJ hl
        exact cx_63n fl ce a b G H M' post _ hq t false 0 (Or.inl rfl) hJ
      · rw [ha] at hJ hl
        exact cx_63p fl ce a b G H M' post _ hq t (by have : t.1 + 1 ≤ 24 := hl; omega) hM hJ
    · rw [hb] at hJ hl
      refine br_f (by decide) ?_
      cases ha : sa q
      · rw [ha] at hJ hl
        refine br_t rfl (br_f (by decide) (br_t rfl ?_))
        refine cx_put fl ce a b G H M' 1 _ (by have : t.1 + 1 ≤ 24 := hl; omega) hq hg ?_
        exact cx_63n fl ce a b G H M' post _ hq (cg_put 1 (nI q) (go q) t) false 0 (Or.inl rfl) hJ
      · rw [ha] at hJ hl
        refine br_f (by decide) ?_
        refine cx_same fl ce a b G H M' _ _ _ _ _ _ hq ?_
        have eq : cg_q M' (fun f => G (6 * q + f)) = sm q := (cg_q_e hM hg).trans hsm
        rw [eq]
        cases hc : sm q
        · rw [hc] at hJ hl
          have hl' : t.1 + 1 + 1 ≤ 24 := hl
          refine br_t rfl (br_f (by decide) (br_t rfl ?_))
          refine cx_put fl ce a b G H M' 1 _ (by omega) hq hg ?_
          exact cx_63p fl ce a b G H M' post _ hq (cg_put 1 (nI q) (go q) t) (show t.1 + 1 < 24 by omega) hM hJ
        · rw [hc] at hJ hl
          refine br_f (by decide) (br_f (by decide) (br_f (by decide) ?_))
          exact cx_63n fl ce a b G H M' post _ hq t true 1 (Or.inr (by decide)) hJ
theorem cx_log (post : SX → Prop) {n : Nat} (hn : n ≤ 40) (hs : cg_So a b n) (sb sa sm : Nat → Bool) (go gn : Nat → Nat → Int32) (s : cg_S) (G H M : Nat → Int32)
    (hG : ∀ j, j < 8 → ∀ f, f < 6 → G (6 * j + f) = go j f) (hH : ∀ j, j < 8 → H j = cg_b (sb j))
    (hsa : ∀ j, j < 8 → cg_h fl ce (cg_L a b n) (nI j) = sa j) (hsm : ∀ j, j < 8 → cg_q (gn j) (go j) = sm j)
    (hgn : ∀ j, j < 8 → ∀ f, f < 6 → cg_F (cg_L a b n) (nI j) f = gn j f) (hlg : ∀ q, q ≤ 8 → (cg_lg sb sa sm go gn s q).1 ≤ 24)
    (h : ∀ G H M, (∀ j, j < 8 → ∀ f, f < 6 → G (6 * j + f) = gn j f) → (∀ j, j < 8 → H j = cg_b (sa j)) → post (nI n, fl, ce, nI (cg_lg sb sa sm go gn s 8).1, a, b, G, H, M, (cg_lg sb sa sm go gn s 8).2.1, (cg_lg sb sa sm go gn s 8).2.2.1, (cg_lg sb sa sm go gn s 8).2.2.2)) :
    wpX_logChanges post (nI n, fl, ce, nI s.1, a, b, G, H, M, s.2.1, s.2.2.1, s.2.2.2) :=
  ⟨9, cx_log_l fl ce a b post hn hs sb sa sm go gn s hsa hsm hgn hlg h 8 0 G H M (by omega) (fun j hj => absurd hj (Nat.not_lt_zero j)) (fun j hj => absurd hj (Nat.not_lt_zero j)) (fun j _ hj => hG j hj) (fun j _ hj => hH j hj)⟩
end
