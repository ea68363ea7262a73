/-! The reference's set of recurrent states, built from the full one; its searches -/
def sp_Fd (fd : Nat → Int32) (f : Nat → Bool) : Prop := ∀ n, n < 4096 → fd n = nI (sp_b (f n))
def sp_C (w : Nat → Nat → Bool) (s : Nat → Nat) (f : Nat → Bool) : Prop := f (sp_F w s) = true ∧ ∀ n, f n = true → sp_r w s n
def sp_cc (f : Nat → Bool) : Nat := sp_c (fun m => f (sp_j m)) 625
theorem hx_nb1 : vp_nar .boolean 1 = 1 := by first | rfl | decide
theorem hx_nb0 : vp_nar .boolean 0 = 0 := by first | rfl | decide
theorem hx_512 {a : Nat} (ha : a < 4) : (512 : Int32) >>> ((3 * nI a) &&& 31) = nI (sp_q a) := by
  rcases sp_4 ha with rfl | rfl | rfl | rfl <;> decide
theorem hx_4095 {t : Nat} (ht : t < 4096) : nI t &&& 4095 = nI t := by
  rw [pk_andN (by omega) 12 (by decide), Nat.mod_eq_of_lt (by omega)]
theorem sp_ql {a : Nat} : sp_q a < 4096 := by
  unfold sp_q
  split
  · omega
  · split
    · omega
    · split <;> omega
theorem sp_Fu {fd : Nat → Int32} {f : Nat → Bool} (h : sp_Fd fd f) (t : Nat) : sp_Fd (upd fd t 1) (fun n => if n = t then true else f n) := by
  intro n hn
  by_cases e : n = t
  · rw [e, pk_us]
    simp only [if_true]
    rfl
  · rw [pk_un e, h n hn]
    simp only [if_neg e]
theorem sp_Cu {w : Nat → Nat → Bool} {s : Nat → Nat} {f : Nat → Bool} (h : sp_C w s f) {t : Nat} (ht : sp_r w s t) : sp_C w s (fun n => if n = t then true else f n) := by
  constructor
  · by_cases e : sp_F w s = t
    · simp only [if_pos e]
    · simp only [if_neg e]
      exact h.1
  · intro n hn
    by_cases e : n = t
    · rw [e]; exact ht
    · simp only [if_neg e] at hn
      exact h.2 n hn
theorem sp_cu {w : Nat → Nat → Bool} {s : Nat → Nat} (G : sp_ok w s) {f : Nat → Bool} {t : Nat} (ht : sp_r w s t) (hf : f t = false) : sp_cc f + 1 ≤ sp_cc (fun n => if n = t then true else f n) := by
  have hk := sp_k5 G (sp_rk ht)
  refine sp_cs (k := sp_i t) ?_ ?_ ?_ 625 hk.1
  · intro i hi
    by_cases e : sp_j i = t
    · simp only [if_pos e]
    · simp only [if_neg e]
      exact hi
  · rw [hk.2]; exact hf
  · simp only [if_pos hk.2]
def sp_QO (w : Nat → Nat → Bool) (s : Nat → Nat) (f0 : Nat → Bool) (N : Nat) (x : Int32) (fd : Nat → Int32) : Prop :=
  ∃ f, sp_Fd fd f ∧ sp_C w s f ∧ ((x = 0 ∧ f = f0 ∧ ∀ n, N ≤ n → n < 4096 → f0 n = true → ∀ a, a < 4 → f0 (sp_a w s n (sp_q a)) = true) ∨ (x = 1 ∧ sp_cc f0 + 1 ≤ sp_cc f))
def sp_QI (w : Nat → Nat → Bool) (s : Nat → Nat) (f0 : Nat → Bool) (i b : Nat) (x : Int32) (fd : Nat → Int32) : Prop :=
  ∃ f, sp_Fd fd f ∧ sp_C w s f ∧ ((x = 0 ∧ f = f0 ∧ (∀ n, i + 1 ≤ n → n < 4096 → f0 n = true → ∀ a, a < 4 → f0 (sp_a w s n (sp_q a)) = true) ∧
    (f0 i = true → ∀ a, a < b → f0 (sp_a w s i (sp_q a)) = true)) ∨ (x = 1 ∧ sp_cc f0 + 1 ≤ sp_cc f))
theorem sp_QOI {w : Nat → Nat → Bool} {s : Nat → Nat} {f0 : Nat → Bool} {i : Nat} {x : Int32} {fd : Nat → Int32} (h : sp_QO w s f0 (i + 1) x fd) : sp_QI w s f0 i 0 x fd := by
  obtain ⟨f, a, b, c⟩ := h
  refine ⟨f, a, b, ?_⟩
  rcases c with ⟨c1, c2, c3⟩ | c
  · exact Or.inl ⟨c1, c2, c3, fun _ a ha => absurd ha (Nat.not_lt_zero a)⟩
  · exact Or.inr c
theorem sp_QIO {w : Nat → Nat → Bool} {s : Nat → Nat} {f0 : Nat → Bool} {i : Nat} {x : Int32} {fd : Nat → Int32} (h : sp_QI w s f0 i 4 x fd) : sp_QO w s f0 i x fd := by
  obtain ⟨f, a, b, c⟩ := h
  refine ⟨f, a, b, ?_⟩
  rcases c with ⟨c1, c2, c3, c4⟩ | c
  · refine Or.inl ⟨c1, c2, fun n hn hl hf => ?_⟩
    by_cases e : n = i
    · rw [e]
      rw [e] at hf
      exact c4 hf
    · exact c3 n (by omega) hl hf
  · exact Or.inr c
section
variable {w : Nat → Nat → Bool} {s : Nat → Nat} {kn tp : Int32} {nr sk gr wk fd : Nat → Int32}
theorem yw_spin {post : Int32 → SY → Prop} {J6 : Int32 → Int32 → Int32 → Int32 → (Nat → Int32) → (Nat → Int32) → (Nat → Int32) → (Nat → Int32) → (Nat → Int32) → Prop} {f0 : Nat → Bool} {i : Nat} {x1 : Int32}
    (G : sp_ok w s) (N : sp_Nb nr w) (S : sp_A sk s) (hi : i < 4096) (Q : sp_QO w s f0 (i + 1) x1 fd)
    (h : ∀ x t a d, sp_QO w s f0 i x d → J6 x (nI i + (-1)) kn t nr sk gr a d) : ∃ n, wY_spread_12 post J6 (nI i) n x1 0 kn tp nr sk gr wk fd := by
  refine loop_0 (σ := Int32 × Int32 × (Nat → Int32) × (Nat → Int32)) (fun n b t => wY_spread_12 post J6 (nI i) n t.1 (nI b) kn t.2.1 nr sk gr t.2.2.1 t.2.2.2)
    (fun b t => sp_QI w s f0 i b t.1 t.2.2.2) 4 (x1, tp, wk, fd) (sp_QOI Q) ?_ ?_
  · intro n t hI
    exact br_t hx_e4 (nm_e (h _ _ _ _ (sp_QIO hI)))
  · intro n b t hb hI hn
    obtain ⟨x, t1, a1, d1⟩ := t
    obtain ⟨f, F, C, hc⟩ := hI
    dsimp only at F hc
    have hin : vp_in (nI i) 4096 := vp_in_nI hi (by decide)
    have hcl : (nI i).toNatClampNeg = i := nI_clamp (by omega)
    refine br_f (hx_c4 hb) ⟨hin, ?_⟩
    cases e : f i with
    | false =>
      have hz : d1 (nI i).toNatClampNeg = 0 := by rw [hcl, F i hi, e]; rfl
      refine br_t hz (And.intro hin (br_t hz (nm_r (nI_1 b) (hn (x, t1, a1, d1) ⟨f, F, C, ?_⟩))))
      rcases hc with ⟨c1, c2, c3, c4⟩ | c
      · refine Or.inl ⟨c1, c2, c3, fun hf => ?_⟩
        rw [← c2, e] at hf
        exact Bool.noConfusion hf
      · exact Or.inr c
    | true =>
      have hz : ¬ d1 (nI i).toNatClampNeg = 0 := by rw [hcl, F i hi, e]; decide
      refine br_f hz ?_
      rw [hx_512 hb]
      refine yw_sum G N S hi sp_ql fun t2 a2 => ?_
      have hr : sp_r w s (sp_a w s i (sp_q b)) := sp_ar G (C.2 i e) _
      have hl := hr.1
      generalize hT : sp_a w s i (sp_q b) = T at *
      have hin2 : vp_in (nI T &&& 4095) 4096 := by rw [hx_4095 hl]; exact vp_in_nI hl (by decide)
      have hcl2 : (nI T &&& 4095).toNatClampNeg = T := by rw [hx_4095 hl]; exact nI_clamp (by omega)
      refine And.intro hin (br_f hz ⟨hin2, ?_⟩)
      cases e2 : f T with
      | false =>
        have hz2 : d1 (nI T &&& 4095).toNatClampNeg = 0 := by rw [hcl2, F T hl, e2]; rfl
        refine br_t hz2 ⟨hin2, nm_r (e' := upd d1 T 1) (by rw [hcl2, hx_nb1]) (nm_r (nI_1 b) (hn (1, t2, a2, upd d1 T 1) ⟨_, sp_Fu F T, sp_Cu C hr, Or.inr ⟨rfl, ?_⟩⟩))⟩
        have h1 := sp_cu G hr e2
        rcases hc with ⟨c1, c2, c3, c4⟩ | ⟨c1, c2⟩
        · rw [← c2]; exact h1
        · omega
      | true =>
        have hz2 : ¬ d1 (nI T &&& 4095).toNatClampNeg = 0 := by rw [hcl2, F T hl, e2]; decide
        refine br_f hz2 (nm_r (nI_1 b) (hn (x, t2, a2, d1) ⟨f, F, C, ?_⟩))
        rcases hc with ⟨c1, c2, c3, c4⟩ | c
        · refine Or.inl ⟨c1, c2, c3, fun hf a ha => ?_⟩
          by_cases ea : a = b
          · rw [ea, hT, ← c2]; exact e2
          · exact c4 hf a (by omega)
        · exact Or.inr c
theorem yw_spread {post : Int32 → SY → Prop} {f0 : Nat → Bool} (G : sp_ok w s) (N : sp_Nb nr w) (S : sp_A sk s) (F : sp_Fd fd f0) (C : sp_C w s f0)
    (h : ∀ x t a d, sp_QO w s f0 0 x d → post x (kn, t, nr, sk, gr, a, d)) : wpY_spread post (kn, tp, nr, sk, gr, wk, fd) := by
  have H := pk_loopD (σ := Int32 × Int32 × (Nat → Int32) × (Nat → Int32)) (fun n k t => ∀ x2, x2 = nI k + (-1) → wY_spread_6 post n t.1 x2 kn t.2.1 nr sk gr t.2.2.1 t.2.2.2)
    (fun k t => k ≤ 4096 ∧ sp_QO w s f0 k t.1 t.2.2.2) ?_ ?_ 4096 (0, tp, wk, fd) ⟨Nat.le_refl _, f0, F, C, Or.inl ⟨rfl, rfl, fun n h1 h2 => by omega⟩⟩
  · exact Exists.intro (4096 + 1) (H 4095 (by decide))
  · intro n t hI x2 e
    refine br_t (by rw [e]; decide) ⟨?_, h _ _ _ _ hI.2⟩
    obtain ⟨f, _, _, hc⟩ := hI.2
    rcases hc with ⟨c1, _⟩ | ⟨c1, _⟩ <;> rw [c1] <;> rfl
  · intro n k t hI hk x2 e
    have hl : k < 4096 := hI.1
    have e2 : x2 = nI k := by rw [e, pk_m1]
    subst e2
    exact br_f (nI_pos (by omega)) (yw_spin G N S hl hI.2 fun x t1 a d Q => hk (x, t1, a, d) ⟨by omega, Q⟩ _ rfl)
theorem yw_fr50 {post : SY → Prop} (G : sp_ok w s) (N : sp_Nb nr w) (S : sp_A sk s) (h : ∀ t a d, sp_Fd d (sp_rb w s) → post (1, t, nr, sk, gr, a, d)) :
    ∀ (n r : Nat) (f : Nat → Bool) (t : Int32) (a d : Nat → Int32), 626 < n + r → r ≤ sp_cc f → sp_Fd d f → sp_C w s f → wY_findRecurrent_50 post n 1 (nI r) kn t nr sk gr a d := by
  intro n
  induction n with
  | zero =>
    intro r f t a d hn hr F C
    have h1 : sp_cc f ≤ 625 := sp_cn _ 625
    omega
  | succ n ih =>
    intro r f t a d hn hr F C
    have h1 : sp_cc f ≤ 625 := sp_cn _ 625
    refine br_f (nI_ge (b := 626) (by omega) (by decide)) (br_f hx_01 (yw_spread G N S F C fun x t2 a2 d2 Q => nm_r (nI_1 r) ?_))
    obtain ⟨g, Fg, Cg, hc⟩ := Q
    rcases hc with ⟨c1, c2, c3⟩ | ⟨c1, c2⟩
    · obtain ⟨n', rfl⟩ : ∃ n', n = n' + 1 := ⟨n - 1, by omega⟩
      rw [c1]
      have hp : post (1, t2, nr, sk, gr, a2, d2) := by
        refine h t2 a2 d2 fun m hm => ?_
        rw [Fg m hm]
        cases e : sp_rb w s m with
        | true =>
          have hr := sp_rbt.mp e
          have hg : f m = true := sp_cr G (fun n => f n = true) C.1 (fun n hn hf a ha => c3 n (Nat.zero_le _) hn hf a ha) hr
          rw [c2, hg]
        | false =>
          have hr := sp_rbf.mp e
          cases e2 : g m with
          | true => exact absurd (Cg.2 m e2) hr
          | false => rfl
      exact br_c (fun _ => hp) (fun _ => br_t rfl hp)
    · rw [c1]
      exact ih (r + 1) g t2 a2 d2 (by omega) (by omega) Fg Cg
theorem yw_find {post : SY → Prop} (G : sp_ok w s) (N : sp_Nb nr w) (S : sp_A sk s) (K : kn = 0 ∨ (kn = 1 ∧ sp_Fd fd (sp_rb w s))) (h : ∀ t a d, sp_Fd d (sp_rb w s) → post (1, t, nr, sk, gr, a, d)) :
    wpY_findRecurrent post (kn, tp, nr, sk, gr, wk, fd) := by
  rcases K with rfl | ⟨rfl, K⟩
  · refine br_t rfl ?_
    refine loop_0 (σ := Nat → Int32) (fun n i d => wY_findRecurrent_10 post 0 tp n (nI i) nr sk gr wk d) (fun i d => ∀ j, j < i → d j = 0) 4096 fd (fun j hj => absurd hj (Nat.not_lt_zero j)) ?_ ?_
    · intro n d hI
      refine br_t (nI_le (Nat.le_refl 4096) (by decide)) (yw_full G N S fun a => ?_)
      have hF := sp_Fr G
      have hl := hF.1
      refine And.intro (by rw [hx_4095 hl]; exact vp_in_nI hl (by decide)) (nm_r (e' := upd d (sp_F w s) 1) (by rw [hx_4095 hl, nI_clamp (by omega), hx_nb1]) ?_)
      refine Exists.intro 627 (yw_fr50 G N S h 627 0 (fun n => if n = sp_F w s then true else false) tp a _ (by omega) (Nat.zero_le _) (sp_Fu (f := fun _ => false) (fun n hn => by rw [hI n hn]; rfl) _) ⟨by simp, fun n hn => ?_⟩)
      by_cases e : n = sp_F w s
      · rw [e]; exact hF
      · simp [e] at hn
    · intro n i d hi hI hn
      refine br_f (nI_ge hi (by decide)) ⟨vp_in_nI hi (by decide), nm_r (e' := upd d i 0) (by rw [nI_clamp (by omega), hx_nb0]) (nm_r (nI_1 i) (hn _ fun j hj => ?_))⟩
      by_cases e : j = i
      · rw [e, pk_us]
      · rw [pk_un e]; exact hI j (by omega)
  · exact br_f hx_01 (h tp wk fd K)
theorem yw_rec {post : Int32 → SY → Prop} {x : Int32} (G : sp_ok w s) (N : sp_Nb nr w) (S : sp_A sk s) (K : kn = 0 ∨ (kn = 1 ∧ sp_Fd fd (sp_rb w s)))
    (h1 : ∀ n t a d, sp_Fd d (sp_rb w s) → x = nI n → sp_r w s n → post 1 (1, t, nr, sk, gr, a, d))
    (h0 : ∀ t a d, sp_Fd d (sp_rb w s) → (∀ n, x = nI n → ¬ sp_r w s n) → post 0 (1, t, nr, sk, gr, a, d)) : wpY_isRecurrent post (kn, tp, nr, sk, gr, wk, fd) x := by
  unfold wpY_isRecurrent
  refine yw_find G N S K fun t a d F => ?_
  rcases pk_ix x (n := 4096) (by decide) with hx | hx | ⟨n, hn, rfl⟩
  · refine br_t hx (h0 t a d F fun n e k => ?_)
    rw [e] at hx
    exact nI_pos (by have := k.1; omega) hx
  · have hnx : ¬ x < 0 := fun hl => by
      have h2 : (0 : Int32) ≤ nI 4096 := by decide
      exact Int32.lt_irrefl (Int32.lt_of_lt_of_le hl (Int32.le_trans h2 hx))
    have hx2 : (4095 : Int32) < x := Int32.lt_of_lt_of_le (by decide : (4095 : Int32) < nI 4096) hx
    refine br_f hnx (br_t hx2 (h0 t a d F fun n e k => ?_))
    rw [e] at hx
    exact nI_ge k.1 (by decide) hx
  · refine br_f (nI_pos (by omega)) (br_f (nI_nlt (a := 4095) (by omega) (by decide)) ⟨vp_in_nI hn (by decide), ?_⟩)
    rw [nI_clamp (by omega), F n hn]
    cases e : sp_rb w s n with
    | true => exact br_f hx_01 (h1 n t a d F rfl (sp_rbt.mp e))
    | false =>
      refine br_t rfl (h0 t a d F fun n' e' k => ?_)
      have e2 : n' = n := (nI_eq (by have := k.1; omega) (by omega)).mp e'.symm
      exact sp_rbf.mp e (e2 ▸ k)
end
