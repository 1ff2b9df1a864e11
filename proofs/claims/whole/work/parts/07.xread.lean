theorem cg_m6 (M g : Nat → Int32) {v0 v1 v2 v3 v4 v5 : Int32} (h0 : v0 = g 0) (h1 : v1 = g 1) (h2 : v2 = g 2) (h3 : v3 = g 3) (h4 : v4 = g 4) (h5 : v5 = g 5) : ∀ f, f < 6 → upd (upd (upd (upd (upd (upd M 0 v0) 1 v1) 2 v2) 3 v3) 4 v4) 5 v5 f = g f := by
  intro f hf
  match f, hf with
  | 0, _ => exact h0
  | 1, _ => exact h1
  | 2, _ => exact h2
  | 3, _ => exact h3
  | 4, _ => exact h4
  | 5, _ => exact h5
section
variable (fl ce en : Int32) (a b G H M S K F : Nat → Int32)
theorem cx_rb_l (post : Int32 → Prop) (k w : Int32) {n : Nat} (hn : n ≤ 40) (hs : cg_So a b n) (h : post (nI (cg_B (k, w) (cg_L a b n)))) : ∀ d i, i + d = n → i ≤ cg_B (k, w) (cg_L a b n) → wX_rowsBefore_2 post k w (nI n) fl ce en a b G H M S K F (d + 1) (nI i) := by
  have hB : cg_B (k, w) (cg_L a b n) ≤ n := cg_B_le_n (k, w)
  intro d
  induction d with
  | zero =>
    intro i e hi
    obtain rfl : i = n := by omega
    have e1 : cg_B (k, w) (cg_L a b i) = i := by omega
    rw [e1] at h
    exact br_t (Int32.le_refl _) h
  | succ d ih =>
    intro i e hi
    have hc := nI_clamp (n := i) (by omega)
    have hv : vp_in (nI i) 40 := vp_in_nI (by omega) (by omega)
    have hl := cg_Bi hs (k, w) (i := i) (by omega)
    have stop : ¬ cg_lb (a i, b i) (k, w) = true → post (nI i) := fun z => by
      have e1 : cg_B (k, w) (cg_L a b n) = i := by
        have : ¬ i < cg_B (k, w) (cg_L a b n) := fun q => z (hl.mpr q)
        omega
      rw [e1] at h
      exact h
    refine br_f (nI_ge (by omega) (by omega)) ⟨hv, ?_⟩
    rw [hc]
    have hd : cg_lb (a i, b i) (k, w) = true ↔ (a i < k ∨ (a i = k ∧ b i < w)) := decide_eq_true_iff
    by_cases c1 : a i < k
    · exact br_t c1 (nm_r (nI_1 i) (ih (i + 1) (by omega) (hl.mp (hd.mpr (Or.inl c1)))))
    · refine br_f c1 ⟨hv, ?_⟩
      by_cases c2 : a i = k
      · refine br_t c2 ⟨hv, ?_⟩
        by_cases c3 : w ≤ b i
        · exact br_t c3 (stop (fun z => (hd.mp z).elim c1 (fun q => Int32.not_lt.mpr c3 q.2)))
        · exact br_f c3 (nm_r (nI_1 i) (ih (i + 1) (by omega) (hl.mp (hd.mpr (Or.inr ⟨c2, Int32.not_le.mp c3⟩)))))
      · exact br_f c2 (stop (fun z => (hd.mp z).elim c1 (fun q => c2 q.1)))
theorem cx_rb (post : Int32 → Prop) (k w : Int32) {n : Nat} (hn : n ≤ 40) (hs : cg_So a b n) (h : post (nI (cg_B (k, w) (cg_L a b n)))) : wpX_rowsBefore post (nI n, fl, ce, en, a, b, G, H, M, S, K, F) k w :=
  ⟨n + 1, cx_rb_l fl ce en a b G H M S K F post k w hn hs h n 0 (by omega) (Nat.zero_le _)⟩
theorem cx_ms_l (post : SX → Prop) {q n : Nat} (hq : q < 8) (hn : n ≤ 40) (hs : cg_So a b n) (h : ∀ M', (∀ f, f < 6 → M' f = cg_F (cg_L a b n) (nI q) f) → post (nI n, fl, ce, en, a, b, G, H, M', S, K, F)) (st c : Nat) (hst : st = cg_B (nI q, -2147483648) (cg_L a b n)) (hcc : c = cg_c (nI q) (cg_L a b n)) : ∀ d i, i + d = st + c → st ≤ i → wX_measureGroup_32 post (nI st) (nI (st + c)) (nI c) (nI n) fl ce en a b G H M S K F (d + 1) (cg_s (nI q) (cg_L a b i)) (nI (cg_d (nI q) (cg_L a b i))) (nI i) := by
  have hrg := cg_rg_n hs (nI q)
  rw [← hst, ← hcc] at hrg
  have hin : ∀ {i : Nat}, i < n → (a i = nI q ↔ st ≤ i ∧ i < st + c) := fun {i} hi => by
    have := cg_rg hs (nI q) hi
    rw [← hst, ← hcc] at this
    exact this
  intro d
  induction d with
  | zero =>
    intro i e hi
    obtain rfl : i = st + c := by omega
    obtain ⟨es, ed⟩ := cg_s_k (a := a) (b := b) (k := nI q) (m := st + c) n hrg (fun i h1 h2 z => by have := (hin h2).mp z; omega)
    rw [← es, ← ed]
    refine br_t (Int32.le_refl _) (nm_e (nm_e ?_))
    by_cases h0 : c = 0
    · have z0 : nI c ≤ 0 := by rw [h0]; decide
      have g0 : ∀ f, (0 : Int32) = cg_F (cg_L a b n) (nI q) f := fun f => by
        unfold cg_F
        rw [if_pos (by omega)]
      obtain ⟨es0, ed0⟩ := cg_s_k (a := a) (b := b) (k := nI q) (m := 0) n (Nat.zero_le n) (fun i h1 h2 z => by have := (hin h2).mp z; omega)
      refine br_t z0 ?_
      refine ⟨vp_in_iff.mpr (by decide), nm_e (br_t z0 ?_)⟩
      refine ⟨vp_in_iff.mpr (by decide), nm_e (nm_e (br_t z0 (nm_e (h _ ?_))))⟩
      refine cg_m6 M _ ?_ ?_ (g0 2) (g0 3) ?_ (g0 5)
      · rw [h0]; exact g0 0
      · rw [es0]; exact g0 1
      · rw [ed0]; exact g0 4
    · have z0 : ¬ nI c ≤ 0 := nI_nle (by omega) (by omega)
      have hc0 : ¬ cg_c (nI q) (cg_L a b n) = 0 := by omega
      have e1 : nI (st + c) - 1 = nI (st + (c - 1)) := by
        have : nI (st + c) - nI 1 = nI (st + c - 1) := pk_sub (b := 1) (by omega)
        rw [show st + (c - 1) = st + c - 1 by omega]
        exact this
      have e2 : nI st + (nI c - 1) / 2 = nI (st + (c - 1) / 2) := by
        have e3 : nI c - 1 = nI (c - 1) := pk_sub (b := 1) (by omega)
        have e4 : nI (c - 1) / 2 = nI ((c - 1) / 2) := pk_div (d := 2) (by omega) (by omega) (by omega)
        rw [e3, e4, nI_add]
      have hat : ∀ {p : Nat}, p < c → b (st + p) = cg_r (nI q) (cg_L a b n) p := fun {p} hp => by
        have := cg_at hs (nI q) (p := p) (by omega)
        rw [← hst] at this
        exact (cg_r_e this).symm
      refine br_f z0 ⟨vp_in_nI (by omega) (by omega), ?_⟩
      refine ⟨vp_in_iff.mpr (by decide), nm_e (br_f z0 ?_)⟩
      rw [e1]
      refine ⟨vp_in_nI (by omega) (by omega), ?_⟩
      refine ⟨vp_in_iff.mpr (by decide), nm_e (nm_e (br_f z0 ⟨by decide, ?_⟩))⟩
      rw [e2]
      refine ⟨vp_in_nI (by omega) (by omega), nm_e (h _ ?_)⟩
      have gF : ∀ f, cg_F (cg_L a b n) (nI q) f = if f = 0 then nI (cg_c (nI q) (cg_L a b n)) else if f = 1 then cg_s (nI q) (cg_L a b n) else if f = 2 then cg_r (nI q) (cg_L a b n) 0 else if f = 3 then cg_r (nI q) (cg_L a b n) (cg_c (nI q) (cg_L a b n) - 1) else if f = 4 then nI (cg_d (nI q) (cg_L a b n)) else if f = 5 then cg_r (nI q) (cg_L a b n) ((cg_c (nI q) (cg_L a b n) - 1) / 2) else 0 := fun f => by
        unfold cg_F
        rw [if_neg hc0]
      refine cg_m6 M _ ?_ ?_ ?_ ?_ ?_ ?_
      · rw [gF, hcc]; rfl
      · rw [gF]; rfl
      · rw [gF, nI_clamp (by omega)]; exact hat (p := 0) (by omega)
      · rw [gF, nI_clamp (by omega), ← hcc]; exact hat (p := c - 1) (by omega)
      · rw [gF]; rfl
      · rw [gF, nI_clamp (by omega), ← hcc]; exact hat (p := (c - 1) / 2) (by omega)
  | succ d ih =>
    intro i e hi
    have hc := nI_clamp (n := i) (by omega)
    have hv : vp_in (nI i) 40 := vp_in_nI (by omega) (by omega)
    have hk : a i = nI q := (hin (by omega)).mpr (by omega)
    have hS : cg_s (nI q) (cg_L a b i) + b i = cg_s (nI q) (cg_L a b (i + 1)) := by rw [cg_L, cg_s, if_pos hk]
    refine br_f (nI_ge (by omega) (by omega)) ⟨hv, ?_⟩
    rw [hc, hS]
    refine nm_e ?_
    by_cases c1 : i = st
    · have hm : ¬ (a i, b i) ∈ cg_L a b i := by
        intro z
        obtain ⟨j, hj, ej⟩ := (cg_L_m a b _ i).mp z
        have e5 : a j = a i := congrArg Prod.fst ej
        rw [hk] at e5
        have := (hin (by omega)).mp e5
        omega
      have hd : nI (cg_d (nI q) (cg_L a b i)) + 1 = nI (cg_d (nI q) (cg_L a b (i + 1))) := by
        rw [nI_1, cg_L, cg_d, if_pos ⟨hk, hm⟩]
      refine br_t (by rw [c1]) (nm_r hd (nm_r (nI_1 i) (ih (i + 1) (by omega) (by omega))))
    · have c1' : ¬ nI i = nI st := fun z => c1 ((nI_eq (by omega) (by omega)).mp z)
      have e1 : nI i - 1 = nI (i - 1) := pk_sub (b := 1) (by omega)
      have hk1 : a (i - 1) = nI q := (hin (by omega)).mpr (by omega)
      refine br_f c1' ⟨hv, ?_⟩
      rw [e1]
      refine ⟨vp_in_nI (by omega) (by omega), ?_⟩
      rw [nI_clamp (n := i - 1) (by omega)]
      by_cases c2 : b i = b (i - 1)
      · have hd : cg_d (nI q) (cg_L a b (i + 1)) = cg_d (nI q) (cg_L a b i) := by
          rw [cg_L, cg_d, if_neg (fun z => z.2 ((cg_L_m a b _ i).mpr ⟨i - 1, by omega, by rw [hk, hk1, c2]⟩))]
        refine br_t c2 (nm_r (nI_1 i) ?_)
        rw [← hd]
        exact ih (i + 1) (by omega) (by omega)
      · have hm : ¬ (a i, b i) ∈ cg_L a b i := by
          intro z
          obtain ⟨j, hj, ej⟩ := (cg_L_m a b _ i).mp z
          have e5 : a j = a i := congrArg Prod.fst ej
          have e6 : b j = b i := congrArg Prod.snd ej
          by_cases c3 : j = i - 1
          · rw [c3] at e6; exact c2 e6.symm
          · have o1 := hs j (i - 1) (by omega) (by omega)
            have o2 := hs (i - 1) i (by omega) (by omega)
            rw [e5, e6, hk, hk1] at o1
            rw [hk, hk1] at o2
            have : (b i).toInt = (b (i - 1)).toInt := by omega
            exact c2 ((cg_eqi _ _).mpr this)
        have hd : nI (cg_d (nI q) (cg_L a b i)) + 1 = nI (cg_d (nI q) (cg_L a b (i + 1))) := by
          rw [nI_1, cg_L, cg_d, if_pos ⟨hk, hm⟩]
        exact br_f c2 (nm_r hd (nm_r (nI_1 i) (ih (i + 1) (by omega) (by omega))))
theorem cx_ms (post : SX → Prop) {q n : Nat} (hq : q < 8) (hn : n ≤ 40) (hs : cg_So a b n) (h : ∀ M', (∀ f, f < 6 → M' f = cg_F (cg_L a b n) (nI q) f) → post (nI n, fl, ce, en, a, b, G, H, M', S, K, F)) : wpX_measureGroup post (nI n, fl, ce, en, a, b, G, H, M, S, K, F) (nI q) := by
  unfold wpX_measureGroup
  dsimp only
  refine cx_rb fl ce en a b G H M S K F _ (nI q) (-2147483648) hn hs ?_
  rw [nI_1]
  refine cx_rb fl ce en a b G H M S K F _ (nI (q + 1)) (-2147483648) hn hs ?_
  rw [cg_B_nx hq]
  refine nm_r (e' := nI (cg_c (nI q) (cg_L a b n))) ?_ ?_
  · rw [pk_sub (by omega)]
    exact congrArg nI (by omega)
  · obtain ⟨es, ed⟩ := cg_s_k (a := a) (b := b) (k := nI q) (m := 0) (cg_B (nI q, -2147483648) (cg_L a b n)) (Nat.zero_le _) (fun i h1 h2 z => by
      have hi : i < n := Nat.lt_of_lt_of_le h2 (cg_B_le_n _)
      have := (cg_rg hs (nI q) hi).mp z
      omega)
    have := cx_ms_l fl ce en a b G H M S K F post hq hn hs h _ _ rfl rfl (cg_c (nI q) (cg_L a b n)) (cg_B (nI q, -2147483648) (cg_L a b n)) rfl (Nat.le_refl _)
    rw [es, ed] at this
    exact ⟨_, this⟩
end
