/-! The searches and the walks along the multiples, on both sides -/
noncomputable def sp_bf (w : Nat → Nat → Bool) (s : Nat → Nat) (n : Nat) : Nat → Nat
  | 0 => sp_o w s
  | j + 1 => sp_m w s n j
section
variable {w : Nat → Nat → Bool} {s : Nat → Nat} {kn tp : Int32} {nr sk gr wk fd : Nat → Int32}
theorem yw_neu7 {post : Int32 → SY → Prop} (G : sp_ok w s) (N : sp_Nb nr w) (S : sp_A sk s) (h : ∀ t a d, sp_Fd d (sp_rb w s) → post (nI (sp_o w s)) (1, t, nr, sk, gr, a, d)) :
    ∀ (q i : Nat) (kn t : Int32) (a d : Nat → Int32), sp_o w s - i < q → i ≤ sp_o w s → (kn = 0 ∨ (kn = 1 ∧ sp_Fd d (sp_rb w s))) → wY_neutralState_7 post (nI (sp_F w s)) q (nI i) kn t nr sk gr a d := by
  have ho := sp_or G
  have hF := sp_Fr G
  intro q
  induction q with
  | zero => intro i kn t a d hq; omega
  | succ q ih =>
    intro i kn t a d hq hi K
    have hl := ho.1
    have hfl := hF.1
    refine br_f (nI_ge (b := 4096) (by omega) (by decide)) (yw_rec G N S K (fun n t a d F e r => ?_) (fun t a d F hn => ?_))
    · have e' : i = n := (nI_eq (by omega) (by have := r.1; omega)).mp e
      subst e'
      refine br_f hx_01 (yw_sum G N S r.1 hfl fun t2 a2 => ?_)
      by_cases e2 : sp_a w s i (sp_F w s) = sp_F w s
      · refine br_t (by rw [e2]) ?_
        rw [sp_ou G r e2 hF]
        exact h t2 a2 d F
      · have hne : i ≠ sp_o w s := fun z => e2 (by rw [z]; exact sp_oa G hF)
        refine br_f (fun z => e2 ((nI_eq (by have := sp_al G i (sp_F w s); omega) (by omega)).mp z)) (nm_r (nI_1 i) (ih (i + 1) 1 t2 a2 d ?_ ?_ (Or.inr ⟨rfl, F⟩))) <;> omega
    · refine br_t rfl (nm_r (nI_1 i) (ih (i + 1) 1 t a d ?_ ?_ (Or.inr ⟨rfl, F⟩)))
      · have hne : i ≠ sp_o w s := fun z => hn i rfl (by rw [z]; exact ho)
        omega
      · have hne : i ≠ sp_o w s := fun z => hn i rfl (by rw [z]; exact ho)
        omega
theorem yw_neu {post : Int32 → SY → Prop} (G : sp_ok w s) (N : sp_Nb nr w) (S : sp_A sk s) (K : kn = 0 ∨ (kn = 1 ∧ sp_Fd fd (sp_rb w s)))
    (h : ∀ t a d, sp_Fd d (sp_rb w s) → post (nI (sp_o w s)) (1, t, nr, sk, gr, a, d)) : wpY_neutralState post (kn, tp, nr, sk, gr, wk, fd) := by
  unfold wpY_neutralState
  exact yw_full G N S fun a => Exists.intro (sp_o w s + 1) (yw_neu7 G N S h (sp_o w s + 1) 0 kn tp a fd (by omega) (Nat.zero_le _) K)
theorem yw_opp {post : Int32 → SY → Prop} {n b : Nat} (G : sp_ok w s) (N : sp_Nb nr w) (S : sp_A sk s) (hn : n < 4096) (hb : sp_r w s b) (eb : sp_a w s b n = sp_o w s)
    (h : ∀ t a d, sp_Fd d (sp_rb w s) → post (nI b) (1, t, nr, sk, gr, a, d)) :
    ∀ (q i : Nat) (kn t : Int32) (a d : Nat → Int32), b - i < q → i ≤ b → (kn = 0 ∨ (kn = 1 ∧ sp_Fd d (sp_rb w s))) → wY_opposite_17 post (nI n) (nI (sp_o w s)) q (nI i) kn t nr sk gr a d := by
  have ho := (sp_or G).1
  intro q
  induction q with
  | zero => intro i kn t a d hq; omega
  | succ q ih =>
    intro i kn t a d hq hi K
    have hl := hb.1
    refine br_f (nI_ge (b := 4096) (by omega) (by decide)) (yw_rec G N S K (fun n' t a d F e r => ?_) (fun t a d F hn' => ?_))
    · have e' : i = n' := (nI_eq (by omega) (by have := r.1; omega)).mp e
      subst e'
      refine br_f hx_01 (yw_sum G N S hn r.1 fun t2 a2 => ?_)
      by_cases e2 : sp_a w s n i = sp_o w s
      · refine br_t (by rw [e2]) ?_
        rw [sp_op G r hb (by rw [sp_ac]; exact e2) eb]
        exact h t2 a2 d F
      · have hne : i ≠ b := fun z => e2 (by rw [z, sp_ac]; exact eb)
        refine br_f (fun z => e2 ((nI_eq (by have := sp_al G n i; omega) (by omega)).mp z)) (nm_r (nI_1 i) (ih (i + 1) 1 t2 a2 d ?_ ?_ (Or.inr ⟨rfl, F⟩))) <;> omega
    · have hne : i ≠ b := fun z => hn' i rfl (by rw [z]; exact hb)
      refine br_t rfl (nm_r (nI_1 i) (ih (i + 1) 1 t a d ?_ ?_ (Or.inr ⟨rfl, F⟩))) <;> omega
theorem yw_ord {post : Int32 → SY → Prop} {n k0 : Nat} (G : sp_ok w s) (N : sp_Nb nr w) (S : sp_A sk s) (hn : sp_r w s n) (hk : k0 < 625) (e0 : sp_m w s n k0 = sp_o w s) (hm : ∀ j, j < k0 → ¬ sp_m w s n j = sp_o w s)
    (h : ∀ t a, post (nI (k0 + 1)) (kn, t, nr, sk, gr, a, fd)) :
    ∀ (q j : Nat) (t : Int32) (a : Nat → Int32), k0 - j < q → j ≤ k0 → wY_orderOf_20 post (nI n) (nI (sp_o w s)) q (nI (sp_m w s n j)) (nI (j + 1)) kn t nr sk gr a fd := by
  have ho := (sp_or G).1
  intro q
  induction q with
  | zero => intro j t a hq; omega
  | succ q ih =>
    intro j t a hq hj
    have hl := (sp_mr G hn j).1
    refine br_f (nI_nlt (a := 625) (by omega) (by omega)) ?_
    by_cases e : j = k0
    · subst e
      exact br_t (by rw [e0]) (h t a)
    · refine br_f (fun z => hm j (by omega) ((nI_eq (by omega) (by omega)).mp z)) (yw_sum G N S hl hn.1 fun t2 a2 => nm_r (nI_1 (j + 1)) (ih (j + 1) t2 a2 (by omega) (by omega)))
theorem yw_cnt {post : Int32 → SY → Prop} (F : sp_Fd fd (sp_rb w s)) (h : post (nI (sp_c (sp_rb w s) 4096)) (kn, tp, nr, sk, gr, wk, fd)) : ∃ q, wY_order_8 post kn tp nr sk gr wk fd q 0 0 := by
  refine loop_0 (σ := Int32) (fun q i x => wY_order_8 post kn tp nr sk gr wk fd q x (nI i)) (fun i x => x = nI (sp_c (sp_rb w s) i)) 4096 0 rfl ?_ ?_
  · intro q x hx
    exact br_t (nI_le (Nat.le_refl 4096) (by decide)) (by rw [hx]; exact h)
  · intro q i x hi hx hq
    refine br_f (nI_ge hi (by decide)) ⟨vp_in_nI hi (by decide), ?_⟩
    rw [nI_clamp (by omega), F i hi]
    cases e : sp_rb w s i with
    | true =>
      refine br_f hx_01 (nm_r (e' := nI (sp_c (sp_rb w s) (i + 1))) ?_ (nm_r (nI_1 i) (hq _ rfl)))
      rw [hx]
      show nI (sp_c (sp_rb w s) i) + 1 = nI (sp_c (sp_rb w s) i + sp_b (sp_rb w s i))
      rw [e, nI_1]
      rfl
    | false =>
      refine br_t rfl (nm_r (nI_1 i) (hq _ ?_))
      rw [hx]
      show nI (sp_c (sp_rb w s) i) = nI (sp_c (sp_rb w s) i + sp_b (sp_rb w s i))
      rw [e]
      rfl
theorem yw_van {post : SY → Prop} (h : ∀ a, sp_A a (fun _ => 0) → post (0, tp, nr, sk, a, wk, fd)) : wpY_vanish post (kn, tp, nr, sk, gr, wk, fd) := by
  refine loop_0 (σ := Nat → Int32) (fun n i a => wY_vanish_2 post kn tp n (nI i) nr sk a wk fd) (fun i a => sp_B a gr (fun _ => 0) i) 4 gr (sp_B0 _ _) ?_ ?_
  · intro n a hI
    exact br_t hx_e4 (h a (sp_B4 hI))
  · intro n i a hi hI hk
    exact br_f (hx_c4 hi) ⟨hx_in hi, nm_r (e' := upd a i (nI 0)) (by rw [hx_cl hi]; rfl) (nm_r (nI_1 i) (hk _ (sp_B1 hI)))⟩
theorem yw_pl1 {post : Int32 → Prop} {n : Nat} (hn : n < 4) (h : post 1) : wpY_isPlace post (kn, tp, nr, sk, gr, wk, fd) (nI n) :=
  br_f (nI_pos (by omega)) (br_f (nI_nlt (a := 3) (by omega) (by decide)) h)
theorem yw_pl0 {post : Int32 → Prop} {x : Int32} (hx : ¬ ∃ n, n < 4 ∧ x = nI n) (h : post 0) : wpY_isPlace post (kn, tp, nr, sk, gr, wk, fd) x := by
  rcases pk_ix x (n := 4) (by decide) with h1 | h1 | h1
  · exact br_t h1 h
  · have hnx : ¬ x < 0 := fun hl => by
      have h2 : (0 : Int32) ≤ nI 4 := by decide
      exact Int32.lt_irrefl (Int32.lt_of_lt_of_le hl (Int32.le_trans h2 h1))
    exact br_f hnx (br_t (Int32.lt_of_lt_of_le (by decide : (3 : Int32) < nI 4) h1) h)
  · exact absurd h1 hx
end
section
variable {w : Nat → Nat → Bool} {s : Nat → Nat} {c : Int32} {aj sk ap : Nat → Int32}
theorem xw_pl1 {post : Int32 → Prop} {n : Nat} (hn : n < 4) (h : post 1) : wpX_isPlace post (nI n) :=
  br_f (nI_pos (by omega)) (br_f (hx_c4 hn) h)
theorem xw_pl0 {post : Int32 → Prop} {x : Int32} (hx : ¬ ∃ n, n < 4 ∧ x = nI n) (h : post 0) : wpX_isPlace post x := by
  rcases pk_ix x (n := 4) (by decide) with h1 | h1 | h1
  · exact br_t h1 h
  · have hnx : ¬ x < 0 := fun hl => by
      have h2 : (0 : Int32) ≤ nI 4 := by decide
      exact Int32.lt_irrefl (Int32.lt_of_lt_of_le hl (Int32.le_trans h2 h1))
    exact br_f hnx (br_t h1 h)
  · exact absurd h1 hx
theorem xw_ord {post : Int32 → SX → Prop} {n k0 : Nat} (G : sp_ok w s) (J : sp_J aj w) (S : sp_A sk s) (hn : sp_r w s n) (hk : k0 < 625) (e0 : sp_m w s n k0 = sp_o w s) (hm : ∀ j, j < k0 → ¬ sp_m w s n j = sp_o w s)
    (h : ∀ a, post (nI (k0 + 1)) (c, aj, sk, a)) :
    ∀ (q j : Nat) (a : Nat → Int32), k0 - j < q → j ≤ k0 → wX_orderOf_20 post (nI n) (nI (sp_o w s)) q (nI (sp_m w s n j)) (nI (j + 1)) c aj sk a := by
  have ho := (sp_or G).1
  intro q
  induction q with
  | zero => intro j a hq; omega
  | succ q ih =>
    intro j a hq hj
    have hl := (sp_mr G hn j).1
    refine br_f (nI_ge (b := 4096) (by omega) (by decide)) ?_
    by_cases e : j = k0
    · subst e
      exact br_t (by rw [e0]) (h a)
    · refine br_f (fun z => hm j (by omega) ((nI_eq (by omega) (by omega)).mp z)) (xw_add G J S hl hn.1 fun a2 => nm_r (nI_1 (j + 1)) (ih (j + 1) a2 (by omega) (by omega)))
theorem xw_opp {post : Int32 → SX → Prop} {n k0 : Nat} (G : sp_ok w s) (J : sp_J aj w) (S : sp_A sk s) (hn : sp_r w s n) (hk : k0 < 625) (e0 : sp_m w s n k0 = sp_o w s) (hm : ∀ j, j < k0 → ¬ sp_m w s n j = sp_o w s)
    (h : ∀ a, post (nI (sp_bf w s n k0)) (c, aj, sk, a)) :
    ∀ (q j : Nat) (a : Nat → Int32), k0 - j < q → j ≤ k0 → wX_opposite_23 post (nI n) (nI (sp_o w s)) q (nI (sp_bf w s n j)) (nI (sp_m w s n j)) (nI (j + 1)) c aj sk a := by
  have ho := (sp_or G).1
  intro q
  induction q with
  | zero => intro j a hq; omega
  | succ q ih =>
    intro j a hq hj
    have hl := (sp_mr G hn j).1
    refine br_f (nI_ge (b := 4096) (by omega) (by decide)) ?_
    by_cases e : j = k0
    · subst e
      exact br_t (by rw [e0]) (h a)
    · refine br_f (fun z => hm j (by omega) ((nI_eq (by omega) (by omega)).mp z)) (xw_add G J S hl hn.1 fun a2 => nm_r (nI_1 (j + 1)) (ih (j + 1) a2 (by omega) (by omega)))
theorem xw_cnt {post : Int32 → SX → Prop} (G : sp_ok w s) (J : sp_J aj w) (S : sp_A sk s) (h : ∀ a, post (nI (sp_c (sp_rb w s) 4096)) (c, aj, sk, a)) : wpX_order post (c, aj, sk, ap) := by
  refine loop_0 (σ := Int32 × (Nat → Int32)) (fun q i t => wX_order_4 post q t.1 (nI i) c aj sk t.2) (fun i t => t.1 = nI (sp_c (sp_rb w s) i)) 4096 (0, ap) rfl ?_ ?_
  · intro q t hx
    obtain ⟨x, a⟩ := t
    exact br_t (nI_le (Nat.le_refl 4096) (by decide)) (by dsimp only at hx ⊢; rw [hx]; exact h a)
  · intro q i t hi hx hq
    obtain ⟨x, a⟩ := t
    dsimp only at hx
    refine br_f (nI_ge hi (by decide)) (xw_rec G J S (fun n a2 e r => ?_) (fun a2 hn => ?_))
    · have e' : i = n := (nI_eq (by omega) (by have := r.1; omega)).mp e
      subst e'
      refine br_f hx_01 (nm_r (e' := nI (sp_c (sp_rb w s) (i + 1))) ?_ (nm_r (nI_1 i) (hq (_, a2) rfl)))
      rw [hx]
      show nI (sp_c (sp_rb w s) i) + 1 = nI (sp_c (sp_rb w s) i + sp_b (sp_rb w s i))
      rw [sp_rbt.mpr r, nI_1]
      rfl
    · refine br_t rfl (nm_r (nI_1 i) (hq (x, a2) ?_))
      show x = nI (sp_c (sp_rb w s) i + sp_b (sp_rb w s i))
      rw [hx, sp_rbf.mpr (hn i rfl)]
      rfl
end
/-- the least multiple that is neutral, and the opposite before it -/
theorem sp_mk {w : Nat → Nat → Bool} {s : Nat → Nat} (G : sp_ok w s) {n : Nat} (hn : sp_r w s n) :
    ∃ k0, k0 < 625 ∧ sp_m w s n k0 = sp_o w s ∧ (∀ j, j < k0 → ¬ sp_m w s n j = sp_o w s) ∧ sp_r w s (sp_bf w s n k0) ∧ sp_a w s (sp_bf w s n k0) n = sp_o w s := by
  obtain ⟨k0, h, hl⟩ := pk_least (fun k => k < 625 ∧ sp_m w s n k = sp_o w s) (sp_mo G hn)
  refine ⟨k0, h.1, h.2, fun j hj e => hl j hj ⟨by have := h.1; omega, e⟩, ?_⟩
  cases k0 with
  | zero =>
    refine ⟨sp_or G, ?_⟩
    show sp_a w s (sp_o w s) n = sp_o w s
    rw [sp_oa G hn]
    exact h.2
  | succ k => exact ⟨sp_mr G hn k, h.2⟩
