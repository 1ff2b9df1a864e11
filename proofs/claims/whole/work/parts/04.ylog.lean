def cg_b : Bool → Int32
  | true => 1
  | false => 0
theorem cg_b_nar (b : Bool) : vp_nar .boolean (cg_b b) = cg_b b := by cases b <;> rfl
theorem cg_ix (q f : Nat) : (6 : Int32) * nI q + nI f = nI (6 * q + f) := by
  rw [← nI_add, ← pk_mul]; rfl
theorem cg_ix' (q f : Nat) : nI q * (6 : Int32) + nI f = nI (6 * q + f) := by
  rw [Nat.mul_comm, ← nI_add, ← pk_mul]; rfl
noncomputable def cg_q (g g' : Nat → Int32) : Bool := @decide (∀ f, f < 6 → g f = g' f) (Classical.propDecidable _)
theorem cg_q_t {g g' : Nat → Int32} (h : ∀ f, f < 6 → g f = g' f) : cg_q g g' = true := @decide_eq_true _ (Classical.propDecidable _) h
theorem cg_q_f {g g' : Nat → Int32} (h : ¬ ∀ f, f < 6 → g f = g' f) : cg_q g g' = false := @decide_eq_false _ (Classical.propDecidable _) h
def cg_u (F : Nat → Int32) (b : Nat) (g : Nat → Int32) : Nat → Nat → Int32
  | 0 => F
  | m + 1 => upd (cg_u F b g m) (b + m) (g m)
theorem cg_u_e (F : Nat → Int32) (b : Nat) {g g' : Nat → Int32} : ∀ m, (∀ f, f < m → g f = g' f) → cg_u F b g m = cg_u F b g' m
  | 0, _ => rfl
  | m + 1, h => by rw [cg_u, cg_u, cg_u_e F b m (fun f hf => h f (by omega)), h m (by omega)]
abbrev cg_S : Type := Nat × (Nat → Int32) × (Nat → Int32) × (Nat → Int32)
def cg_put (t k : Int32) (g : Nat → Int32) (s : cg_S) : cg_S := (s.1 + 1, upd s.2.1 s.1 t, upd s.2.2.1 s.1 k, cg_u s.2.2.2 (6 * s.1) g 6)
def cg_st (sb sa sm : Bool) (k : Int32) (go gn : Nat → Int32) (s : cg_S) : cg_S :=
  match sb, sa, sm with
  | false, false, _ => s
  | false, true, _ => cg_put 2 k gn s
  | true, false, _ => cg_put 1 k go s
  | true, true, true => s
  | true, true, false => cg_put 2 k gn (cg_put 1 k go s)
def cg_lg (sb sa sm : Nat → Bool) (go gn : Nat → Nat → Int32) (s : cg_S) : Nat → cg_S
  | 0 => s
  | q + 1 => cg_st (sb q) (sa q) (sm q) (nI q) (go q) (gn q) (cg_lg sb sa sm go gn s q)
section
variable (fl ce en : Int32) (K V S KK FF SB BE : Nat → Int32)
theorem cy_shown (post : Int32 → Prop) (k : Int32) {n : Nat} (hn : n ≤ 40) (h : post (cg_b (cg_h fl ce (cg_L K V n) k))) : wpY_shown post (nI n, fl, ce, en, K, V, S, KK, FF, SB, BE) k := by
  have hcl := cg_c_le k (cg_L K V n)
  rw [cg_L_len] at hcl
  unfold wpY_shown
  dsimp only
  refine cy_count fl ce en K V S KK FF SB BE _ k hn ?_
  by_cases h0 : cg_c k (cg_L K V n) = 0
  · have e : cg_h fl ce (cg_L K V n) k = false := decide_eq_false (fun z => by have := z.1; omega)
    rw [e] at h
    exact br_t (by rw [h0]; decide) h
  · refine br_f (nI_nle (by omega) (by omega)) ?_
    by_cases h1 : nI (cg_c k (cg_L K V n)) < fl
    · have e : cg_h fl ce (cg_L K V n) k = false := decide_eq_false (fun z => z.2.1 h1)
      rw [e] at h
      exact br_t h1 h
    · refine br_f h1 (cy_diff fl ce en K V S KK FF SB BE _ k hn ?_)
      by_cases h2 : ce < nI (cg_d k (cg_L K V n))
      · have e : cg_h fl ce (cg_L K V n) k = false := decide_eq_false (fun z => z.2.2 h2)
        rw [e] at h
        exact br_t h2 h
      · have e : cg_h fl ce (cg_L K V n) k = true := decide_eq_true ⟨by omega, h1, h2⟩
        rw [e] at h
        exact br_f h2 h
theorem cy_now (post : Int32 → Prop) (k p : Int32) {n : Nat} (hn : n ≤ 40) (hF : cg_Fu (cg_L K V n)) (h : ∀ f : Nat, f < 6 → p = nI f → post (cg_F (cg_L K V n) k f)) (h' : (∀ f : Nat, f < 6 → ¬ p = nI f) → post 0) : wpY_now post (nI n, fl, ce, en, K, V, S, KK, FF, SB, BE) k p := by
  have hcl := cg_c_le k (cg_L K V n)
  rw [cg_L_len] at hcl
  unfold wpY_now
  dsimp only
  refine cy_count fl ce en K V S KK FF SB BE _ k hn ?_
  by_cases h0 : cg_c k (cg_L K V n) = 0
  · refine br_t (by rw [h0]; decide) ?_
    by_cases hp : ∃ f : Nat, f < 6 ∧ p = nI f
    · obtain ⟨f, hf, e⟩ := hp
      have := h f hf e
      unfold cg_F at this
      rw [if_pos h0] at this
      exact this
    · exact h' (fun f hf e => hp ⟨f, hf, e⟩)
  · refine br_f (nI_ne0 (by omega) (by omega)) ?_
    have e1 : nI (cg_c k (cg_L K V n)) - 1 = nI (cg_c k (cg_L K V n) - 1) := pk_sub (b := 1) (by omega)
    refine br_c (fun e => ?_) (fun n0 => ?_)
    · have := h 0 (by omega) e
      unfold cg_F at this
      rw [if_neg h0] at this
      exact this
    refine br_c (fun e => ?_) (fun n1 => ?_)
    · have := h 1 (by omega) e
      unfold cg_F at this
      rw [if_neg h0] at this
      exact cy_sum fl ce en K V S KK FF SB BE _ k hn this
    refine br_c (fun e => ?_) (fun n2 => ?_)
    · have := h 2 (by omega) e
      unfold cg_F at this
      rw [if_neg h0] at this
      exact cy_rank fl ce en K V S KK FF SB BE _ k (p := 0) (by omega) hn (hF k 0 (by omega)) this
    refine br_c (fun e => ?_) (fun n3 => ?_)
    · have := h 3 (by omega) e
      unfold cg_F at this
      rw [if_neg h0] at this
      rw [e1]
      exact cy_rank fl ce en K V S KK FF SB BE _ k (by omega) hn (hF k _ (by omega)) this
    refine br_c (fun e => ?_) (fun n4 => ?_)
    · have := h 4 (by omega) e
      unfold cg_F at this
      rw [if_neg h0] at this
      exact cy_diff fl ce en K V S KK FF SB BE _ k hn this
    refine br_c (fun e => ⟨by decide, ?_⟩) (fun n5 => ?_)
    · have := h 5 (by omega) e
      unfold cg_F at this
      rw [if_neg h0] at this
      have e2 : nI (cg_c k (cg_L K V n) - 1) / 2 = nI ((cg_c k (cg_L K V n) - 1) / 2) := pk_div (d := 2) (by omega) (by omega) (by omega)
      rw [e1, e2]
      exact cy_rank fl ce en K V S KK FF SB BE _ k (by omega) hn (hF k _ (by omega)) this
    · refine h' (fun f hf e => ?_)
      match f, hf with
      | 0, _ => exact n0 e
      | 1, _ => exact n1 e
      | 2, _ => exact n2 e
      | 3, _ => exact n3 e
      | 4, _ => exact n4 e
      | 5, _ => exact n5 e
theorem cy_nowI (post : Int32 → Prop) (k : Int32) {n f : Nat} (hn : n ≤ 40) (hf : f < 6) (hF : cg_Fu (cg_L K V n)) (h : post (cg_F (cg_L K V n) k f)) : wpY_now post (nI n, fl, ce, en, K, V, S, KK, FF, SB, BE) k (nI f) := by
  refine cy_now fl ce en K V S KK FF SB BE post k (nI f) hn hF (fun f' hf' e => ?_) (fun z => absurd rfl (z f hf))
  rw [nI_eq (by omega) (by omega)] at e
  rw [← e]; exact h
theorem cy_same_l (post : Int32 → Prop) {n q : Nat} (hn : n ≤ 40) (hq : q < 8) (hF : cg_Fu (cg_L K V n)) (h : post (cg_b (cg_q (fun f => BE (6 * q + f)) (cg_F (cg_L K V n) (nI q))))) : ∀ d f, f + d = 6 → (∀ f', f' < f → BE (6 * q + f') = cg_F (cg_L K V n) (nI q) f') → wY_sameAsBefore_2 post (nI q) (nI n) fl ce en K V S KK FF SB BE (d + 1) (nI f) := by
  intro d
  induction d with
  | zero =>
    intro f e hb
    obtain rfl : f = 6 := by omega
    have e : cg_q (fun f => BE (6 * q + f)) (cg_F (cg_L K V n) (nI q)) = true := cg_q_t hb
    rw [e] at h
    exact br_t (Int32.le_refl _) h
  | succ d ih =>
    intro f e hb
    refine br_f (nI_ge (b := 6) (by omega) (by decide)) ?_
    rw [cg_ix]
    refine ⟨vp_in_nI (by omega) (by omega), ?_⟩
    rw [nI_clamp (by omega)]
    refine cy_nowI fl ce en K V S KK FF SB BE _ (nI q) hn (by omega) hF ?_
    refine br_c (fun e1 => nm_r (nI_1 f) (ih (f + 1) (by omega) (lt_s hb e1))) (fun e1 => ?_)
    have e : cg_q (fun f => BE (6 * q + f)) (cg_F (cg_L K V n) (nI q)) = false := cg_q_f (fun z => e1 (z f (by omega)))
    rw [e] at h
    exact h
theorem cy_same (post : Int32 → Prop) {n q : Nat} (hn : n ≤ 40) (hq : q < 8) (hF : cg_Fu (cg_L K V n)) (h : post (cg_b (cg_q (fun f => BE (6 * q + f)) (cg_F (cg_L K V n) (nI q))))) : wpY_sameAsBefore post (nI n, fl, ce, en, K, V, S, KK, FF, SB, BE) (nI q) :=
  ⟨7, cy_same_l fl ce en K V S KK FF SB BE post hn hq hF h 6 0 (by omega) (fun j hj => absurd hj (Nat.not_lt_zero j))⟩
/-- Y's memory up to the linear place m -/
def cg_M (L : List (Int32 × Int32)) (B : Nat → Int32) (m : Nat) : Prop := ∀ j i, i < 6 → 6 * j + i < m → B (6 * j + i) = cg_F L (nI j) i
theorem cg_M_s {L : List (Int32 × Int32)} {B : Nat → Int32} {q f : Nat} (hf : f < 6) (h : cg_M L B (6 * q + f)) : cg_M L (upd B (6 * q + f) (cg_F L (nI q) f)) (6 * q + (f + 1)) := by
  intro j i hi hm
  by_cases z : 6 * j + i = 6 * q + f
  · obtain rfl : j = q := by omega
    obtain rfl : i = f := by omega
    exact pk_us
  · rw [pk_un z]; exact h j i hi (by omega)
theorem cy_rem_i (post : SY → Prop) (J : Int32 → (Nat → Int32) → (Nat → Int32) → (Nat → Int32) → (Nat → Int32) → (Nat → Int32) → (Nat → Int32) → (Nat → Int32) → Prop) {n q : Nat} (hn : n ≤ 40) (hq : q < 8) (hF : cg_Fu (cg_L K V n)) (h : ∀ B, cg_M (cg_L K V n) B (6 * (q + 1)) → J (nI (q + 1)) K V S KK FF SB B) : ∀ d f B, f + d = 6 → cg_M (cg_L K V n) B (6 * q + f) → wY_remember_21 post J (nI q) (nI n) fl ce en (d + 1) (nI f) K V S KK FF SB B := by
  intro d
  induction d with
  | zero =>
    intro f B e hb
    obtain rfl : f = 6 := by omega
    exact br_t (Int32.le_refl _) (nm_r (nI_1 q) (h B hb))
  | succ d ih =>
    intro f B e hb
    refine br_f (nI_ge (b := 6) (by omega) (by decide)) ?_
    refine cy_nowI fl ce en K V S KK FF SB B _ (nI q) hn (by omega) hF ?_
    rw [cg_ix]
    refine ⟨vp_in_nI (by omega) (by omega), ?_⟩
    rw [nI_clamp (by omega)]
    exact nm_e (nm_r (nI_1 f) (ih (f + 1) _ (by omega) (cg_M_s (by omega) hb)))
theorem cy_rem_l (post : SY → Prop) {n : Nat} (hn : n ≤ 40) (hF : cg_Fu (cg_L K V n)) (h : ∀ A B, (∀ j, j < 8 → A j = cg_b (cg_h fl ce (cg_L K V n) (nI j))) → cg_M (cg_L K V n) B 48 → post (nI n, fl, ce, en, K, V, S, KK, FF, A, B)) : ∀ d q A B, q + d = 8 → (∀ j, j < q → A j = cg_b (cg_h fl ce (cg_L K V n) (nI j))) → cg_M (cg_L K V n) B (6 * q) → wY_remember_2 post (nI n) fl ce en (d + 1) (nI q) K V S KK FF A B := by
  intro d
  induction d with
  | zero =>
    intro q A B e ha hb
    obtain rfl : q = 8 := by omega
    exact br_t (Int32.le_refl _) (h A B ha hb)
  | succ d ih =>
    intro q A B e ha hb
    refine br_f (nI_ge (b := 8) (by omega) (by decide)) ?_
    refine cy_shown fl ce en K V S KK FF A B _ (nI q) hn ?_
    refine ⟨vp_in_nI (by omega) (by omega), ?_⟩
    rw [nI_clamp (by omega), cg_b_nar]
    refine nm_e ⟨7, cy_rem_i fl ce en K V S KK FF _ post _ hn (by omega) hF (fun B' hB' => ih (q + 1) _ B' (by omega) ?_ hB') 6 0 B (by omega) hb⟩
    refine lt_s (fun j hj => ?_) pk_us
    rw [pk_un (by omega)]; exact ha j hj
theorem cy_rem (post : SY → Prop) {n : Nat} (hn : n ≤ 40) (hF : cg_Fu (cg_L K V n)) (h : ∀ A B, (∀ j, j < 8 → A j = cg_b (cg_h fl ce (cg_L K V n) (nI j))) → cg_M (cg_L K V n) B 48 → post (nI n, fl, ce, en, K, V, S, KK, FF, A, B)) : wpY_remember post (nI n, fl, ce, en, K, V, S, KK, FF, SB, BE) :=
  ⟨9, cy_rem_l fl ce en K V S KK FF post hn hF h 8 0 SB BE (by omega) (fun j hj => absurd hj (Nat.not_lt_zero j)) (fun j i _ hm => absurd hm (Nat.not_lt_zero _))⟩
theorem cy_ent1_l (post : SY → Prop) {n e q : Nat} (he : e < 24) (hq : q < 8) (G : Nat → Int32) (h : post (nI n, fl, ce, nI (e + 1), K, V, S, KK, cg_u FF (6 * e) (fun f => BE (6 * q + f)) 6, SB, BE)) : ∀ d f, f + d = 6 → wY_enter_32 post 1 (nI q) (nI n) fl ce (nI e) (d + 1) (nI f) K V S KK (cg_u FF (6 * e) (fun f => BE (6 * q + f)) f) SB BE := by
  intro d
  induction d with
  | zero =>
    intro f e
    obtain rfl : f = 6 := by omega
    exact br_t (Int32.le_refl _) (nm_r (nI_1 _) h)
  | succ d ih =>
    intro f e
    refine br_f (nI_ge (b := 6) (by omega) (by decide)) (br_t rfl ?_)
    rw [cg_ix, cg_ix]
    refine ⟨vp_in_nI (by omega) (by omega), vp_in_nI (by omega) (by omega), ?_⟩
    rw [nI_clamp (by omega), nI_clamp (by omega)]
    exact nm_e (nm_r (nI_1 f) (ih (f + 1) (by omega)))
theorem cy_ent2_l (post : SY → Prop) {n e q : Nat} (hn : n ≤ 40) (he : e < 24) (hF : cg_Fu (cg_L K V n)) (h : post (nI n, fl, ce, nI (e + 1), K, V, S, KK, cg_u FF (6 * e) (cg_F (cg_L K V n) (nI q)) 6, SB, BE)) : ∀ d f, f + d = 6 → wY_enter_32 post 2 (nI q) (nI n) fl ce (nI e) (d + 1) (nI f) K V S KK (cg_u FF (6 * e) (cg_F (cg_L K V n) (nI q)) f) SB BE := by
  intro d
  induction d with
  | zero =>
    intro f e
    obtain rfl : f = 6 := by omega
    exact br_t (Int32.le_refl _) (nm_r (nI_1 _) h)
  | succ d ih =>
    intro f e
    refine br_f (nI_ge (b := 6) (by omega) (by decide)) (br_f (by decide) ?_)
    refine cy_nowI fl ce _ K V S KK _ SB BE _ (nI q) hn (by omega) hF ?_
    rw [cg_ix]
    refine ⟨vp_in_nI (by omega) (by omega), ?_⟩
    rw [nI_clamp (by omega)]
    exact nm_e (nm_r (nI_1 f) (ih (f + 1) (by omega)))
theorem cy_ent1 (post : SY → Prop) {n q : Nat} {s : cg_S} (he : s.1 < 24) (hq : q < 8) {g : Nat → Int32} (hg : ∀ f, f < 6 → BE (6 * q + f) = g f) (h : post (nI n, fl, ce, nI (cg_put 1 (nI q) g s).1, K, V, (cg_put 1 (nI q) g s).2.1, (cg_put 1 (nI q) g s).2.2.1, (cg_put 1 (nI q) g s).2.2.2, SB, BE)) : wpY_enter post (nI n, fl, ce, nI s.1, K, V, s.2.1, s.2.2.1, s.2.2.2, SB, BE) 1 (nI q) := by
  have e : cg_u s.2.2.2 (6 * s.1) g 6 = cg_u s.2.2.2 (6 * s.1) (fun f => BE (6 * q + f)) 6 := (cg_u_e _ _ 6 hg).symm
  simp only [cg_put, e] at h
  have hi : vp_in (nI s.1) 24 := vp_in_nI he (by omega)
  have h24 : ¬ nI s.1 = 24 := fun z => by
    have z' : nI s.1 = nI 24 := z
    rw [nI_eq (by omega) (by omega)] at z'
    omega
  refine br_f h24 ⟨hi, ?_⟩
  rw [nI_clamp (by omega)]
  refine nm_e ⟨hi, nm_e ⟨7, ?_⟩⟩
  exact cy_ent1_l fl ce K V _ _ s.2.2.2 SB BE post he hq BE h 6 0 (by omega)
theorem cy_ent2 (post : SY → Prop) {n q : Nat} {s : cg_S} (hn : n ≤ 40) (he : s.1 < 24) (hF : cg_Fu (cg_L K V n)) {g : Nat → Int32} (hg : ∀ f, f < 6 → cg_F (cg_L K V n) (nI q) f = g f) (h : post (nI n, fl, ce, nI (cg_put 2 (nI q) g s).1, K, V, (cg_put 2 (nI q) g s).2.1, (cg_put 2 (nI q) g s).2.2.1, (cg_put 2 (nI q) g s).2.2.2, SB, BE)) : wpY_enter post (nI n, fl, ce, nI s.1, K, V, s.2.1, s.2.2.1, s.2.2.2, SB, BE) 2 (nI q) := by
  have e : cg_u s.2.2.2 (6 * s.1) g 6 = cg_u s.2.2.2 (6 * s.1) (cg_F (cg_L K V n) (nI q)) 6 := (cg_u_e _ _ 6 hg).symm
  simp only [cg_put, e] at h
  have hi : vp_in (nI s.1) 24 := vp_in_nI he (by omega)
  have h24 : ¬ nI s.1 = 24 := fun z => by
    have z' : nI s.1 = nI 24 := z
    rw [nI_eq (by omega) (by omega)] at z'
    omega
  refine br_f h24 ⟨hi, ?_⟩
  rw [nI_clamp (by omega)]
  refine nm_e ⟨hi, nm_e ⟨7, ?_⟩⟩
  exact cy_ent2_l fl ce K V _ _ s.2.2.2 SB BE post hn he hF h 6 0 (by omega)
end
