/-! The set that is reached from the full state by single grains; counting -/
def sp_q (a : Nat) : Nat := if a = 0 then 512 else if a = 1 then 64 else if a = 2 then 8 else 1
theorem sp_qe {a : Nat} (ha : a < 4) : ∀ i, i < 4 → sp_g (sp_q a) i = sp_e a i := by
  intro i hi
  rcases sp_4 ha with rfl | rfl | rfl | rfl <;> rcases sp_4 hi with rfl | rfl | rfl | rfl <;> decide
theorem sp_cl {w : Nat → Nat → Bool} {s : Nat → Nat} (G : sp_ok w s) (P : Nat → Prop) (hF : P (sp_F w s))
    (hs : ∀ n, n < 4096 → P n → ∀ a, a < 4 → P (sp_a w s n (sp_q a))) :
    ∀ (t : Nat) (z y u : Nat → Nat), sp_t z ≤ t → sp_S w s (fun i => sp_f w s i + z i) y u → P (sp_n y) := by
  have zero : ∀ z y u : Nat → Nat, (∀ i, i < 4 → z i = 0) → sp_S w s (fun i => sp_f w s i + z i) y u → P (sp_n y) := by
    intro z y u hz h
    have h1 := sp_cg (x' := sp_f w s) h (fun i hi => by show sp_f w s i + z i = sp_f w s i; rw [hz i hi]; rfl) (fun _ _ => rfl) (fun _ _ => rfl)
    have h2 : sp_n y = sp_F w s := sp_nc (fun i hi => (sp_un h1 (sp_z (sp_ff G)) i hi).2)
    rw [h2]
    exact hF
  intro t
  induction t with
  | zero =>
    intro z y u hz h
    refine zero z y u (fun i hi => ?_) h
    unfold sp_t at hz
    rcases sp_4 hi with rfl | rfl | rfl | rfl <;> omega
  | succ t ih =>
    intro z y u hz h
    by_cases hz0 : ∀ i, i < 4 → z i = 0
    · exact zero z y u hz0 h
    · have h' : ∃ k, k < 4 ∧ 1 ≤ z k := by
        apply Classical.byContradiction
        intro hn
        apply hz0
        intro i hi
        apply Classical.byContradiction
        intro hx'
        exact hn ⟨i, hi, by omega⟩
      obtain ⟨k, hk, hzk⟩ := h'
      have he : ∀ j, z j = (z j - sp_e k j) + sp_e k j := by
        intro j
        unfold sp_e
        by_cases hj : j = k
        · subst hj; rw [if_pos rfl]; omega
        · rw [if_neg hj]; omega
      have ht : sp_t (fun j => z j - sp_e k j) ≤ t := by
        unfold sp_t at hz ⊢
        unfold sp_e
        rcases sp_4 hk with rfl | rfl | rfl | rfl <;> simp <;> omega
      have hy := sp_yu G (fun i => sp_f w s i + (z i - sp_e k i))
      have hP := ih _ _ _ ht hy
      have hP2 := hs _ (sp_nl (sp_y8 G _)) hP k hk
      have hA := sp_as G (sp_n (sp_y w s (fun i => sp_f w s i + (z i - sp_e k i)))) (sp_q k)
      have hB := sp_cg (x' := fun i => sp_y w s (fun i => sp_f w s i + (z i - sp_e k i)) i + sp_e k i) hA
        (fun i hi => by (try dsimp only); rw [sp_gn (sp_y8 G _) i hi, sp_qe hk i hi]) (fun _ _ => rfl) (fun _ _ => rfl)
      have hC := sp_cg (x' := fun i => sp_f w s i + z i) (sp_ab hy hB) (fun i hi => by have := he i; (try dsimp only); omega) (fun _ _ => rfl) (fun _ _ => rfl)
      have hD : sp_n y = sp_a w s (sp_n (sp_y w s (fun i => sp_f w s i + (z i - sp_e k i)))) (sp_q k) := by
        rw [← sp_ng (sp_al G (sp_n (sp_y w s (fun i => sp_f w s i + (z i - sp_e k i)))) (sp_q k))]
        exact sp_nc (fun i hi => (sp_un h hC i hi).2)
      rw [hD]
      exact hP2
theorem sp_cr {w : Nat → Nat → Bool} {s : Nat → Nat} (G : sp_ok w s) (P : Nat → Prop) (hF : P (sp_F w s))
    (hs : ∀ n, n < 4096 → P n → ∀ a, a < 4 → P (sp_a w s n (sp_q a))) {n : Nat} (h : sp_r w s n) : P n := by
  obtain ⟨hn, z, u, h⟩ := h
  rw [← sp_ng hn]
  exact sp_cl G P hF hs _ z _ u (Nat.le_refl _) h
/-- how many k below n there are -/
def sp_c (f : Nat → Bool) : Nat → Nat
  | 0 => 0
  | n + 1 => sp_c f n + sp_b (f n)
theorem sp_cn (f : Nat → Bool) : ∀ n, sp_c f n ≤ n := by
  intro n
  induction n with
  | zero => exact Nat.le_refl _
  | succ n ih =>
    have := sp_b1 (f n)
    show sp_c f n + sp_b (f n) ≤ n + 1
    omega
theorem sp_cm {f g : Nat → Bool} (h : ∀ i, f i = true → g i = true) : ∀ n, sp_c f n ≤ sp_c g n := by
  intro n
  induction n with
  | zero => exact Nat.le_refl _
  | succ n ih =>
    have h1 : sp_b (f n) ≤ sp_b (g n) := by
      cases e : f n with
      | false => exact Nat.zero_le _
      | true => rw [h n e]; exact Nat.le_refl _
    show sp_c f n + sp_b (f n) ≤ sp_c g n + sp_b (g n)
    omega
theorem sp_cs {f g : Nat → Bool} (h : ∀ i, f i = true → g i = true) {k : Nat} (hf : f k = false) (hg : g k = true) : ∀ n, k < n → sp_c f n + 1 ≤ sp_c g n := by
  intro n
  induction n with
  | zero => intro hk; omega
  | succ n ih =>
    intro hk
    by_cases e : k = n
    · subst e
      have h1 := sp_cm h k
      show sp_c f k + sp_b (f k) + 1 ≤ sp_c g k + sp_b (g k)
      rw [hf, hg, show sp_b false = 0 from rfl, show sp_b true = 1 from rfl]
      omega
    · have h1 := ih (by omega)
      have h2 : sp_b (f n) ≤ sp_b (g n) := by
        cases e : f n with
        | false => exact Nat.zero_le _
        | true => rw [h n e]; exact Nat.le_refl _
      show sp_c f n + sp_b (f n) + 1 ≤ sp_c g n + sp_b (g n)
      omega
theorem sp_ce {f g : Nat → Bool} : ∀ n, (∀ i, i < n → f i = g i) → sp_c f n = sp_c g n := by
  intro n
  induction n with
  | zero => intro _; rfl
  | succ n ih =>
    intro h
    show sp_c f n + sp_b (f n) = sp_c g n + sp_b (g n)
    rw [ih (fun i hi => h i (by omega)), h n (by omega)]
noncomputable def sp_rb (w : Nat → Nat → Bool) (s : Nat → Nat) (n : Nat) : Bool := @decide (sp_r w s n) (Classical.propDecidable _)
theorem sp_rbt {w : Nat → Nat → Bool} {s : Nat → Nat} {n : Nat} : sp_rb w s n = true ↔ sp_r w s n := by
  exact ⟨fun h => @of_decide_eq_true _ (Classical.propDecidable _) h, fun h => @decide_eq_true _ (Classical.propDecidable _) h⟩
theorem sp_rbf {w : Nat → Nat → Bool} {s : Nat → Nat} {n : Nat} : sp_rb w s n = false ↔ ¬ sp_r w s n := by
  exact ⟨fun h => @of_decide_eq_false _ (Classical.propDecidable _) h, fun h => @decide_eq_false _ (Classical.propDecidable _) h⟩
