/-! The component's settling and what stands on it -/
section
variable {w : Nat → Nat → Bool} {s : Nat → Nat} {c : Int32} {aj sk ap : Nat → Int32}
/-- what a sweep keeps: from pile pS with cS topplings -/
def sp_I (w : Nat → Nat → Bool) (s p0 pS : Nat → Nat) (cS i : Nat) (x m : Int32) (a : Nat → Int32) : Prop :=
  ∃ p k, x = nI k ∧ sp_A a p ∧ sp_Z w s p0 p k ∧ ((m = 0 ∧ p = pS ∧ k = cS ∧ ∀ j, j < i → p j < sp_d w s j) ∨ (m = 1 ∧ cS + 1 ≤ k))
theorem xw_sw {post : Int32 → SX → Prop} {J6 : Int32 → Int32 → Int32 → Int32 → (Nat → Int32) → (Nat → Int32) → (Nat → Int32) → Prop} {p0 pS : Nat → Nat} {cS : Nat} {x3 : Int32}
    (G : sp_ok w s) (J : sp_J aj w) (S : sp_A sk s) (A : sp_A ap pS) (Z : sp_Z w s p0 pS cS) (hb : sp_t p0 ≤ 1050)
    (h : ∀ x m a, sp_I w s p0 pS cS 4 x m a → J6 x m (x3 + 1) c aj sk a) : ∃ n, wX_settlePile_21 post J6 x3 n (nI cS) 0 0 c aj sk ap := by
  refine loop_0 (σ := Int32 × Int32 × (Nat → Int32)) (fun n i t => wX_settlePile_21 post J6 x3 n t.1 t.2.1 (nI i) c aj sk t.2.2) (fun i t => sp_I w s p0 pS cS i t.1 t.2.1 t.2.2) 4 (nI cS, 0, ap)
    ⟨pS, cS, rfl, A, Z, Or.inl ⟨rfl, rfl, rfl, fun j hj => absurd hj (Nat.not_lt_zero j)⟩⟩ ?_ ?_
  · intro n t hI
    exact br_t hx_e4 (nm_e (h _ _ _ hI))
  · intro n i t hi hI hn
    obtain ⟨x, m, a⟩ := t
    obtain ⟨p, k, ex, Ap, Zp, hc⟩ := hI
    dsimp only at ex Ap hc
    refine br_f (hx_c4 hi) (xw_deg J S hi (And.intro (hx_in hi) ?_))
    have hl : p i ≤ 1050 := by
      have h1 := sp_Zt Zp
      unfold sp_t at h1 hb
      rcases sp_4 hi with rfl | rfl | rfl | rfl <;> omega
    have hd := (sp_d1 G hi).2
    have hv : a (nI i).toNatClampNeg = nI (p i) := by rw [hx_cl hi, Ap i hi]
    by_cases l : p i < sp_d w s i
    · refine br_t (by dsimp only; rw [hv]; exact nI_lt l (by omega)) (nm_r (nI_1 i) (hn (x, m, a) ⟨p, k, ex, Ap, Zp, ?_⟩))
      rcases hc with ⟨a1, a2, a3, a4⟩ | hc
      · refine Or.inl ⟨a1, a2, a3, fun j hj => ?_⟩
        by_cases e : j = i
        · rw [e]; exact l
        · exact a4 j (by omega)
      · exact Or.inr hc
    · refine br_f (by dsimp only; rw [hv]; exact nI_nlt (by omega) (by omega)) (xw_topple G J Ap hi (by omega) fun a' A' => ?_)
      refine nm_r (e' := nI (k + 1)) (by rw [ex, nI_1]) (nm_r (nI_1 i) (hn (nI (k + 1), 1, a') ⟨sp_p w s i p, k + 1, rfl, A', sp_Z1 G Zp hi (by omega), Or.inr ⟨rfl, ?_⟩⟩))
      rcases hc with ⟨_, _, a3, _⟩ | ⟨_, hc⟩ <;> omega
theorem xw_st6 {post : Int32 → SX → Prop} {n : Nat} {x1 x3 : Int32} (h : post x1 (c, aj, sk, ap)) : wX_settlePile_6 post (n + 1) x1 0 x3 c aj sk ap :=
  br_c (fun _ => h) (fun _ => br_t rfl h)
theorem xw_out {post : Int32 → SX → Prop} {p0 : Nat → Nat} (G : sp_ok w s) (J : sp_J aj w) (S : sp_A sk s) (hb : sp_t p0 ≤ 1050)
    (h : ∀ a, sp_A a (sp_y w s p0) → post (nI (sp_t (sp_u w s p0))) (c, aj, sk, a)) :
    ∀ (n r k : Nat) (p : Nat → Nat) (a : Nat → Int32), sp_t p0 + 1 < n + r → r ≤ k → sp_Z w s p0 p k → sp_A a p → wX_settlePile_6 post n (nI k) 1 (nI r) c aj sk a := by
  intro n
  induction n with
  | zero =>
    intro r k p a hn hr Z A
    have := sp_Zt Z
    omega
  | succ n ih =>
    intro r k p a hn hr Z A
    have hz := sp_Zt Z
    refine br_f (nI_ge (b := 1000000) (by omega) (by decide)) (br_f hx_01 (xw_sw G J S A Z hb fun x m a' hI => ?_))
    obtain ⟨q, k', ex, Aq, Zq, hc⟩ := hI
    rw [nI_1, ex]
    rcases hc with ⟨em, eq, ek, hs⟩ | ⟨em, hk⟩
    · obtain ⟨n', rfl⟩ : ∃ n', n = n' + 1 := ⟨n - 1, by omega⟩
      rw [em]
      have he := sp_Ze G Zq hs
      rw [he.1]
      exact xw_st6 (h a' (fun i hi => by rw [Aq i hi, he.2 i hi]))
    · rw [em]
      exact ih (r + 1) k' q a' (by omega) (by omega) Zq Aq
theorem xw_settle {post : Int32 → SX → Prop} {p0 : Nat → Nat} (G : sp_ok w s) (J : sp_J aj w) (S : sp_A sk s) (A : sp_A ap p0) (hb : sp_t p0 ≤ 1050)
    (h : ∀ a, sp_A a (sp_y w s p0) → post (nI (sp_t (sp_u w s p0))) (c, aj, sk, a)) : wpX_settlePile post (c, aj, sk, ap) :=
  Exists.intro (sp_t p0 + 2) (xw_out G J S hb h (sp_t p0 + 2) 0 0 p0 ap (by omega) (Nat.le_refl _) (sp_Z0 w s p0) A)
theorem hx_t8 {p : Nat → Nat} {m : Nat} (h : ∀ i, i < 4 → p i ≤ m) : sp_t p ≤ 4 * m := by
  have h0 := h 0 (by decide)
  have h1 := h 1 (by decide)
  have h2 := h 2 (by decide)
  have h3 := h 3 (by decide)
  unfold sp_t
  omega
theorem xw_add {post : Int32 → SX → Prop} {n m : Nat} (G : sp_ok w s) (J : sp_J aj w) (S : sp_A sk s) (hn : n < 4096) (hm : m < 4096)
    (h : ∀ a, post (nI (sp_a w s n m)) (c, aj, sk, a)) : wpX_addStates post (c, aj, sk, ap) (nI n) (nI m) := by
  unfold wpX_addStates
  refine xw_clear fun a1 A1 => xw_addp A1 hn fun a2 A2 => xw_addp A2 hm fun a3 A3 => xw_settle (p0 := fun i => sp_g n i + sp_g m i) G J S ?_ ?_ fun a4 A4 => xw_num A4 (sp_y8 G _) (h a4)
  · intro i hi
    rw [A3 i hi]
    show nI (0 + sp_g n i + sp_g m i) = nI (sp_g n i + sp_g m i)
    exact congrArg nI (by omega)
  · refine Nat.le_trans (hx_t8 (m := 14) fun i _ => ?_) (by decide)
    have h1 := sp_g8 n i
    have h2 := sp_g8 m i
    omega
theorem xw_stab {post : Int32 → Prop} {x : Int32} (G : sp_ok w s) (J : sp_J aj w) (S : sp_A sk s) (h1 : ∀ n, x = nI n → sp_k w s n → post 1) (h0 : (∀ n, x = nI n → ¬ sp_k w s n) → post 0) :
    wpX_isStable post (c, aj, sk, ap) x := by
  rcases pk_ix x (n := 4096) (by decide) with hx | hx | ⟨n, hn, rfl⟩
  · refine br_t hx (h0 fun n e k => ?_)
    rw [e] at hx
    exact nI_pos (by have := k.1; omega) hx
  · have hnx : ¬ x < 0 := fun hl => by
      have h2 : (0 : Int32) ≤ nI 4096 := by decide
      exact Int32.lt_irrefl (Int32.lt_of_lt_of_le hl (Int32.le_trans h2 hx))
    refine br_f hnx (br_f (Int32.not_lt.mpr hx) (h0 fun n e k => ?_))
    rw [e] at hx
    exact nI_ge k.1 (by decide) hx
  · refine br_f (nI_pos (by omega)) (br_t (nI_lt hn (by decide)) ?_)
    refine loop_0 (σ := Unit) (fun q i _ => wX_isStable_15 post (nI n) c aj sk ap q (nI i)) (fun i _ => ∀ j, j < i → sp_g n j < sp_d w s j) 4 () (fun j hj => absurd hj (Nat.not_lt_zero j)) ?_ ?_
    · intro q _ hI
      exact br_t hx_e4 (h1 n rfl ⟨hn, hI⟩)
    · intro q i _ hi hI hk
      have hd := (sp_d1 G hi).2
      have hg := sp_g8 n i
      refine br_f (hx_c4 hi) ?_
      unfold wpX_grainsAt
      refine xw_deg J S hi ?_
      rw [hw_shX (by omega) hi]
      by_cases l : sp_g n i < sp_d w s i
      · refine br_t (nI_lt l (by omega)) (nm_r (nI_1 i) (hk () fun j hj => ?_))
        by_cases e : j = i
        · rw [e]; exact l
        · exact hI j (by omega)
      · refine br_f (nI_nlt (by omega) (by omega)) (h0 fun n' e k => ?_)
        have e' : n' = n := (nI_eq (by have := k.1; omega) (by omega)).mp e.symm
        exact l (e' ▸ k.2 i hi)
end
