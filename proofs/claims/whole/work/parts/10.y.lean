/-! The reference's private methods, each against the pure picture -/
def sp_Nb (nr : Nat → Int32) (w : Nat → Nat → Bool) : Prop := ∀ i, i < 4 → nr i = nI (sp_M4 w i)
theorem hx_wr {a : Nat → Int32} {p : Nat → Nat} (A : sp_A a p) : 512 * a 0 + 64 * a 1 + 8 * a 2 + a 3 = nI (sp_n p) := by
  rw [A 0 (by decide), A 1 (by decide), A 2 (by decide), A 3 (by decide)]
  show nI 512 * nI (p 0) + nI 64 * nI (p 1) + nI 8 * nI (p 2) + nI (p 3) = _
  rw [pk_mul, pk_mul, pk_mul, nI_add, nI_add, nI_add]
  rfl
section
variable {w : Nat → Nat → Bool} {s : Nat → Nat} {kn tp : Int32} {nr sk gr wk fd : Nat → Int32}
theorem yw_in {post : Int32 → Prop} {i j : Nat} {x : Int32} (hx : x = nI (sp_M4 w i)) (hj : j < 4) (h : post (nI (sp_b (w i j)))) : wpY_in post (kn, tp, nr, sk, gr, wk, fd) x (nI j) := by
  have e := hw_in w i hj
  subst hx
  cases b : w i j with
  | true =>
    rw [b] at e h
    exact br_t e h
  | false =>
    rw [b] at e h
    exact br_f (by rw [e]; decide) h
theorem yw_deg {post : Int32 → Prop} {p : Nat} (N : sp_Nb nr w) (S : sp_A sk s) (hp : p < 4) (h : post (nI (sp_d w s p))) : wpY_degreeOf post (kn, tp, nr, sk, gr, wk, fd) (nI p) := by
  refine And.intro (hx_in hp) (nm_r (e' := nI (s p)) (by rw [hx_cl hp, S p hp]) ?_)
  refine loop_0 (σ := Int32) (fun n i x => wY_degreeOf_9 post (nI p) kn tp nr sk gr wk fd n x (nI i)) (fun i x => x = nI (sp_D w s p i)) 4 (nI (s p)) rfl ?_ ?_
  · intro n x hx
    exact br_t hx_e4 (by rw [hx]; exact h)
  · intro n i x hi hx hk
    refine br_f (hx_c4 hi) ⟨hx_in hp, yw_in (w := w) (i := p) (by rw [hx_cl hp, N p hp]) hi ?_⟩
    cases b : w p i with
    | true =>
      refine br_f hx_01 (nm_r (e' := nI (sp_D w s p (i + 1))) ?_ (nm_r (nI_1 i) (hk _ rfl)))
      rw [hx]
      show nI (sp_D w s p i) + 1 = nI (sp_D w s p i + sp_b (w p i))
      rw [b, nI_1]
      rfl
    | false =>
      refine br_t rfl (nm_r (nI_1 i) (hk _ ?_))
      rw [hx]
      show nI (sp_D w s p i) = nI (sp_D w s p i + sp_b (w p i))
      rw [b]
      rfl
theorem yw_topple {post : SY → Prop} {p : Nat → Nat} {k : Nat} (G : sp_ok w s) (N : sp_Nb nr w) (S : sp_A sk s) (A : sp_A wk p) (hk : k < 4) (hx : sp_d w s k ≤ p k)
    (h : ∀ a, sp_A a (sp_p w s k p) → post (kn, tp + 1, nr, sk, gr, a, fd)) : wpY_topple post (kn, tp, nr, sk, gr, wk, fd) (nI k) := by
  refine And.intro (hx_in hk) (yw_deg N S hk (And.intro (hx_in hk) (nm_r (e' := upd wk k (nI (p k - sp_d w s k))) (by rw [hx_cl hk, A k hk, pk_sub hx]) ?_)))
  refine loop_0 (σ := Nat → Int32) (fun n i a => wY_topple_16 post (nI k) kn tp n (nI i) nr sk gr a fd) (fun i a => sp_B a (upd wk k (nI (p k - sp_d w s k))) (sp_p w s k p) i) 4 _ (sp_B0 _ _) ?_ ?_
  · intro n a hI
    exact br_t hx_e4 (nm_e (h a (sp_B4 hI)))
  · intro n i a hi hI hn
    refine br_f (hx_c4 hi) ⟨hx_in hk, yw_in (w := w) (i := k) (by rw [hx_cl hk, N k hk]) hi ?_⟩
    cases b : w k i with
    | true =>
      have hne : i ≠ k := by
        intro e
        rw [e, G.2.1 k hk] at b
        exact Bool.noConfusion b
      refine br_f hx_01 ⟨hx_in hi, hx_in hi, nm_r (e' := upd a i (nI (sp_p w s k p i))) ?_ (nm_r (nI_1 i) (hn _ (sp_B1 hI)))⟩
      rw [hx_cl hi, sp_Bk hI hi, pk_un hne, A i hi, nI_1]
      unfold sp_p
      rw [if_neg hne, b]
      rfl
    | false =>
      refine br_t rfl (nm_r (nI_1 i) (hn _ (sp_Bn hI ?_)))
      unfold sp_p
      by_cases e : i = k
      · rw [if_pos e, e, pk_us]
      · rw [if_neg e, pk_un e, A i hi, b]
        rfl
theorem yw_wr {post : Int32 → Prop} {p : Nat → Nat} (A : sp_A wk p) (h : post (nI (sp_n p))) : wpY_written post (kn, tp, nr, sk, gr, wk, fd) :=
  Eq.mpr (congrArg post (hx_wr A)) h
theorem yw_sw {post : SY → Prop} {J9 : Int32 → Int32 → Int32 → Int32 → (Nat → Int32) → (Nat → Int32) → (Nat → Int32) → (Nat → Int32) → (Nat → Int32) → Prop} {p0 pS : Nat → Nat} {cS : Nat} {x2 : Int32}
    (G : sp_ok w s) (N : sp_Nb nr w) (S : sp_A sk s) (A : sp_A wk pS) (Z : sp_Z w s p0 pS cS) (hb : sp_t p0 ≤ 1050)
    (h : ∀ x m a, sp_I w s p0 pS cS 4 x m a → J9 m (x2 + 1) kn x nr sk gr a fd) : ∃ n, wY_settle_24 post J9 x2 n 0 0 kn (nI cS) nr sk gr wk fd := by
  refine loop_0 (σ := Int32 × Int32 × (Nat → Int32)) (fun n i t => wY_settle_24 post J9 x2 n t.2.1 (nI i) kn t.1 nr sk gr t.2.2 fd) (fun i t => sp_I w s p0 pS cS i t.1 t.2.1 t.2.2) 4 (nI cS, 0, wk)
    ⟨pS, cS, rfl, A, Z, Or.inl ⟨rfl, rfl, rfl, fun j hj => absurd hj (Nat.not_lt_zero j)⟩⟩ ?_ ?_
  · intro n t hI
    exact br_t hx_e4 (nm_e (h _ _ _ hI))
  · intro n i t hi hI hn
    obtain ⟨x, m, a⟩ := t
    obtain ⟨p, k, ex, Ap, Zp, hc⟩ := hI
    dsimp only at ex Ap hc
    refine br_f (hx_c4 hi) ⟨hx_in hi, yw_deg N S hi ?_⟩
    have hl : p i ≤ 1050 := by
      have h1 := sp_Zt Zp
      unfold sp_t at h1 hb
      rcases sp_4 hi with rfl | rfl | rfl | rfl <;> omega
    have hd := (sp_d1 G hi).2
    have hv : a (nI i).toNatClampNeg = nI (p i) := by rw [hx_cl hi, Ap i hi]
    by_cases l : p i < sp_d w s i
    · refine br_t (by dsimp only; rw [hv]; exact nI_lt l (by omega)) (nm_r (nI_1 i) (hn (x, m, a) ⟨p, k, ex, Ap, Zp, ?_⟩))
      rcases hc with ⟨a1, a2, a3, a4⟩ | hc
      · refine Or.inl ⟨a1, a2, a3, fun j hj => ?_⟩
        by_cases e : j = i
        · rw [e]; exact l
        · exact a4 j (by omega)
      · exact Or.inr hc
    · refine br_f (by dsimp only; rw [hv]; exact nI_nlt (by omega) (by omega)) (yw_topple G N S Ap hi (by omega) fun a' A' => ?_)
      refine nm_r (nI_1 i) (hn (x + 1, 1, a') ⟨sp_p w s i p, k + 1, by rw [ex, nI_1], A', sp_Z1 G Zp hi (by omega), Or.inr ⟨rfl, ?_⟩⟩)
      rcases hc with ⟨_, _, a3, _⟩ | ⟨_, hc⟩ <;> omega
theorem yw_st9 {post : SY → Prop} {n : Nat} {x2 : Int32} (h : post (kn, tp, nr, sk, gr, wk, fd)) : wY_settle_9 post (n + 1) 0 x2 kn tp nr sk gr wk fd :=
  br_c (fun _ => h) (fun _ => br_t rfl h)
theorem yw_out {post : SY → Prop} {p0 : Nat → Nat} (G : sp_ok w s) (N : sp_Nb nr w) (S : sp_A sk s) (hb : sp_t p0 ≤ 1050)
    (h : ∀ a, sp_A a (sp_y w s p0) → post (kn, nI (sp_t (sp_u w s p0)), nr, sk, gr, a, fd)) :
    ∀ (n r k : Nat) (p : Nat → Nat) (a : Nat → Int32), sp_t p0 + 1 < n + r → r ≤ k → sp_Z w s p0 p k → sp_A a p → wY_settle_9 post n 1 (nI r) kn (nI k) nr sk gr a fd := by
  intro n
  induction n with
  | zero =>
    intro r k p a hn hr Z A
    have := sp_Zt Z
    omega
  | succ n ih =>
    intro r k p a hn hr Z A
    have hz := sp_Zt Z
    refine br_f (nI_ge (b := 1101) (by omega) (by decide)) (br_f hx_01 (yw_sw G N S A Z hb fun x m a' hI => ?_))
    obtain ⟨q, k', ex, Aq, Zq, hc⟩ := hI
    rw [nI_1, ex]
    rcases hc with ⟨em, eq, ek, hs⟩ | ⟨em, hk⟩
    · obtain ⟨n', rfl⟩ : ∃ n', n = n' + 1 := ⟨n - 1, by omega⟩
      rw [em]
      have he := sp_Ze G Zq hs
      rw [he.1]
      exact yw_st9 (h a' (fun i hi => by rw [Aq i hi, he.2 i hi]))
    · rw [em]
      exact ih (r + 1) k' q a' (by omega) (by omega) Zq Aq
theorem yw_settle {post : SY → Prop} {p0 : Nat → Nat} (G : sp_ok w s) (N : sp_Nb nr w) (S : sp_A sk s) (A : sp_A wk p0) (hb : sp_t p0 ≤ 1050)
    (h : ∀ a, sp_A a (sp_y w s p0) → post (kn, nI (sp_t (sp_u w s p0)), nr, sk, gr, a, fd)) : wpY_settle post (kn, tp, nr, sk, gr, wk, fd) :=
  Exists.intro (sp_t p0 + 2) (yw_out G N S hb h (sp_t p0 + 2) 0 0 p0 wk (by omega) (Nat.le_refl _) (sp_Z0 w s p0) A)
theorem yw_sum {post : Int32 → SY → Prop} {n m : Nat} (G : sp_ok w s) (N : sp_Nb nr w) (S : sp_A sk s) (hn : n < 4096) (hm : m < 4096)
    (h : ∀ t a, post (nI (sp_a w s n m)) (kn, t, nr, sk, gr, a, fd)) : wpY_sum post (kn, tp, nr, sk, gr, wk, fd) (nI n) (nI m) := by
  refine loop_0 (σ := Nat → Int32) (fun q i a => wY_sum_2 post (nI n) (nI m) kn tp q (nI i) nr sk gr a fd) (fun i a => sp_B a wk (fun i => sp_g n i + sp_g m i) i) 4 wk (sp_B0 _ _) ?_ ?_
  · intro q a hI
    refine br_t hx_e4 (yw_settle G N S (sp_B4 hI) ?_ fun a4 A4 => yw_wr A4 (h _ a4))
    refine Nat.le_trans (hx_t8 (m := 14) fun i _ => ?_) (by decide)
    have h1 := sp_g8 n i
    have h2 := sp_g8 m i
    omega
  · intro q i a hi hI hq
    refine br_f (hx_c4 hi) (And.intro (hx_in hi) (nm_r (e' := upd a i (nI (sp_g n i + sp_g m i))) ?_ (nm_r (nI_1 i) (hq _ (sp_B1 hI)))))
    rw [hx_cl hi, hw_shY (by omega) hi, hw_shY (by omega) hi, nI_add]
theorem yw_full {post : Int32 → SY → Prop} (G : sp_ok w s) (N : sp_Nb nr w) (S : sp_A sk s) (h : ∀ a, post (nI (sp_F w s)) (kn, tp, nr, sk, gr, a, fd)) :
    wpY_full post (kn, tp, nr, sk, gr, wk, fd) := by
  refine loop_0 (σ := Nat → Int32) (fun q i a => wY_full_2 post kn tp q (nI i) nr sk gr a fd) (fun i a => sp_B a wk (sp_f w s) i) 4 wk (sp_B0 _ _) ?_ ?_
  · intro q a hI
    exact br_t hx_e4 (yw_wr (sp_B4 hI) (h a))
  · intro q i a hi hI hq
    refine br_f (hx_c4 hi) (yw_deg N S hi (And.intro (hx_in hi) (nm_r (e' := upd a i (nI (sp_f w s i))) ?_ (nm_r (nI_1 i) (hq _ (sp_B1 hI))))))
    have h1 := (sp_d1 G hi).1
    rw [hx_cl hi]
    show upd a i (nI (sp_d w s i) - nI 1) = _
    rw [pk_sub h1]
    rfl
theorem yw_stab {post : Int32 → Prop} {x : Int32} (G : sp_ok w s) (N : sp_Nb nr w) (S : sp_A sk s) (h1 : ∀ n, x = nI n → sp_k w s n → post 1) (h0 : (∀ n, x = nI n → ¬ sp_k w s n) → post 0) :
    wpY_isStable post (kn, tp, nr, sk, gr, wk, fd) x := by
  rcases pk_ix x (n := 4096) (by decide) with hx | hx | ⟨n, hn, rfl⟩
  · refine br_t hx (h0 fun n e k => ?_)
    rw [e] at hx
    exact nI_pos (by have := k.1; omega) hx
  · have hnx : ¬ x < 0 := fun hl => by
      have h2 : (0 : Int32) ≤ nI 4096 := by decide
      exact Int32.lt_irrefl (Int32.lt_of_lt_of_le hl (Int32.le_trans h2 hx))
    have hx2 : ¬ x ≤ 4095 := fun hl => by
      have h2 : nI 4096 ≤ (4095 : Int32) := Int32.le_trans hx hl
      exact absurd h2 (by decide)
    refine br_f hnx (br_f hx2 (h0 fun n e k => ?_))
    rw [e] at hx
    exact nI_ge k.1 (by decide) hx
  · refine br_f (nI_pos (by omega)) (br_t (nI_le (b := 4095) (by omega) (by decide)) ?_)
    refine loop_0 (σ := Unit) (fun q i _ => wY_isStable_15 post (nI n) kn tp nr sk gr wk fd q (nI i)) (fun i _ => ∀ j, j < i → sp_g n j < sp_d w s j) 4 () (fun j hj => absurd hj (Nat.not_lt_zero j)) ?_ ?_
    · intro q _ hI
      exact br_t hx_e4 (h1 n rfl ⟨hn, hI⟩)
    · intro q i _ hi hI hk
      have hd := (sp_d1 G hi).2
      have hg := sp_g8 n i
      refine br_f (hx_c4 hi) ?_
      unfold wpY_digit
      dsimp only
      refine yw_deg N S hi ?_
      rw [hw_shY (by omega) hi]
      by_cases l : sp_g n i < sp_d w s i
      · refine br_t (nI_lt l (by omega)) (nm_r (nI_1 i) (hk () fun j hj => ?_))
        by_cases e : j = i
        · rw [e]; exact l
        · exact hI j (by omega)
      · refine br_f (nI_nlt (by omega) (by omega)) (h0 fun n' e k => ?_)
        have e' : n' = n := (nI_eq (by have := k.1; omega) (by omega)).mp e.symm
        exact l (e' ▸ k.2 i hi)
end
