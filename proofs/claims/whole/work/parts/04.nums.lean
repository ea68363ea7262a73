/-! States as numbers; what a state comes to, as a function; group sums, the neutral state, multiples -/
noncomputable def sp_y (w : Nat → Nat → Bool) (s : Nat → Nat) (x : Nat → Nat) : Nat → Nat := Classical.epsilon (fun y : Nat → Nat => ∃ u, sp_S w s x y u)
noncomputable def sp_u (w : Nat → Nat → Bool) (s : Nat → Nat) (x : Nat → Nat) : Nat → Nat := Classical.epsilon (fun u : Nat → Nat => sp_S w s x (sp_y w s x) u)
theorem sp_yu {w : Nat → Nat → Bool} {s : Nat → Nat} (G : sp_ok w s) (x : Nat → Nat) : sp_S w s x (sp_y w s x) (sp_u w s x) :=
  Classical.epsilon_spec (p := fun u : Nat → Nat => sp_S w s x (sp_y w s x) u) (Classical.epsilon_spec (p := fun y : Nat → Nat => ∃ u, sp_S w s x y u) (sp_ex G _ x (Nat.le_refl _)))
def sp_n (p : Nat → Nat) : Nat := 512 * p 0 + 64 * p 1 + 8 * p 2 + p 3
def sp_g (n i : Nat) : Nat := if i = 0 then n / 512 % 8 else if i = 1 then n / 64 % 8 else if i = 2 then n / 8 % 8 else n % 8
theorem sp_g0 (n : Nat) : sp_g n 0 = n / 512 % 8 := rfl
theorem sp_g1 (n : Nat) : sp_g n 1 = n / 64 % 8 := rfl
theorem sp_g2 (n : Nat) : sp_g n 2 = n / 8 % 8 := rfl
theorem sp_g3 (n : Nat) : sp_g n 3 = n % 8 := rfl
theorem sp_ng {n : Nat} (h : n < 4096) : sp_n (sp_g n) = n := by
  unfold sp_n
  rw [sp_g0, sp_g1, sp_g2, sp_g3]
  omega
theorem sp_g8 (n i : Nat) : sp_g n i < 8 := by
  unfold sp_g
  split
  · omega
  · split
    · omega
    · split <;> omega
theorem sp_gn {p : Nat → Nat} (h : ∀ i, i < 4 → p i < 8) : ∀ i, i < 4 → sp_g (sp_n p) i = p i := by
  intro i hi
  have h0 := h 0 (by decide)
  have h1 := h 1 (by decide)
  have h2 := h 2 (by decide)
  have h3 := h 3 (by decide)
  unfold sp_n
  rcases sp_4 hi with rfl | rfl | rfl | rfl
  · rw [sp_g0]; omega
  · rw [sp_g1]; omega
  · rw [sp_g2]; omega
  · rw [sp_g3]; omega
theorem sp_nl {p : Nat → Nat} (h : ∀ i, i < 4 → p i < 8) : sp_n p < 4096 := by
  have h0 := h 0 (by decide)
  have h1 := h 1 (by decide)
  have h2 := h 2 (by decide)
  have h3 := h 3 (by decide)
  unfold sp_n
  omega
theorem sp_nc {p q : Nat → Nat} (h : ∀ i, i < 4 → p i = q i) : sp_n p = sp_n q := by
  unfold sp_n
  rw [h 0 (by decide), h 1 (by decide), h 2 (by decide), h 3 (by decide)]
theorem sp_y8 {w : Nat → Nat → Bool} {s : Nat → Nat} (G : sp_ok w s) (x : Nat → Nat) : ∀ i, i < 4 → sp_y w s x i < 8 := by
  intro i hi
  have h1 := ((sp_yu G x).1 i hi).2
  have h2 := (sp_d1 G hi).2
  omega
/-- stable, recurrent, as numbers -/
def sp_k (w : Nat → Nat → Bool) (s : Nat → Nat) (n : Nat) : Prop := n < 4096 ∧ ∀ i, i < 4 → sp_g n i < sp_d w s i
def sp_r (w : Nat → Nat → Bool) (s : Nat → Nat) (n : Nat) : Prop := n < 4096 ∧ sp_R w s (sp_g n)
noncomputable def sp_a (w : Nat → Nat → Bool) (s : Nat → Nat) (n m : Nat) : Nat := sp_n (sp_y w s (fun i => sp_g n i + sp_g m i))
theorem sp_rk {w : Nat → Nat → Bool} {s : Nat → Nat} {n : Nat} (h : sp_r w s n) : sp_k w s n := ⟨h.1, fun _ hi => sp_Rd h.2 hi⟩
theorem sp_al {w : Nat → Nat → Bool} {s : Nat → Nat} (G : sp_ok w s) (n m : Nat) : sp_a w s n m < 4096 := sp_nl (sp_y8 G _)
theorem sp_ag {w : Nat → Nat → Bool} {s : Nat → Nat} (G : sp_ok w s) (n m : Nat) : ∀ i, i < 4 → sp_g (sp_a w s n m) i = sp_y w s (fun i => sp_g n i + sp_g m i) i := sp_gn (sp_y8 G _)
theorem sp_as {w : Nat → Nat → Bool} {s : Nat → Nat} (G : sp_ok w s) (n m : Nat) :
    sp_S w s (fun i => sp_g n i + sp_g m i) (sp_g (sp_a w s n m)) (sp_u w s (fun i => sp_g n i + sp_g m i)) :=
  sp_cg (sp_yu G _) (fun _ _ => rfl) (fun i hi => (sp_ag G n m i hi).symm) (fun _ _ => rfl)
theorem sp_ac (w : Nat → Nat → Bool) (s : Nat → Nat) (n m : Nat) : sp_a w s n m = sp_a w s m n := by
  unfold sp_a
  rw [show (fun i => sp_g n i + sp_g m i) = (fun i => sp_g m i + sp_g n i) from funext (fun i => Nat.add_comm _ _)]
theorem sp_ak {w : Nat → Nat → Bool} {s : Nat → Nat} (G : sp_ok w s) (n m : Nat) : sp_k w s (sp_a w s n m) := ⟨sp_al G n m, fun i hi => ((sp_as G n m).1 i hi).2⟩
theorem sp_ar {w : Nat → Nat → Bool} {s : Nat → Nat} (G : sp_ok w s) {n : Nat} (h : sp_r w s n) (m : Nat) : sp_r w s (sp_a w s n m) := ⟨sp_al G n m, sp_Ra h.2 (sp_as G n m)⟩
theorem sp_ae {w : Nat → Nat → Bool} {s : Nat → Nat} (G : sp_ok w s) (n m : Nat) : sp_E w s (fun i => sp_g n i + sp_g m i) (sp_g (sp_a w s n m)) := sp_ES (sp_as G n m)
theorem sp_r1 {w : Nat → Nat → Bool} {s : Nat → Nat} (G : sp_ok w s) {n m : Nat} (h : sp_r w s n) (h' : sp_r w s m) (e : sp_E w s (sp_g n) (sp_g m)) : n = m := by
  rw [← sp_ng h.1, ← sp_ng h'.1]
  exact sp_nc (sp_R1 G h.2 h'.2 e)
/-- what comes out is the function's value -/
theorem sp_yn {w : Nat → Nat → Bool} {s : Nat → Nat} (G : sp_ok w s) {x y u : Nat → Nat} (h : sp_S w s x y u) : sp_n y = sp_n (sp_y w s x) := sp_nc (fun i hi => (sp_un h (sp_yu G x) i hi).2)
/-- the full state -/
def sp_F (w : Nat → Nat → Bool) (s : Nat → Nat) : Nat := sp_n (sp_f w s)
theorem sp_f8 {w : Nat → Nat → Bool} {s : Nat → Nat} (G : sp_ok w s) : ∀ i, i < 4 → sp_f w s i < 8 := by
  intro i hi
  have h2 := (sp_d1 G hi).2
  unfold sp_f
  omega
theorem sp_Fr {w : Nat → Nat → Bool} {s : Nat → Nat} (G : sp_ok w s) : sp_r w s (sp_F w s) :=
  ⟨sp_nl (sp_f8 G), sp_Rc (sp_Rf G) (fun i hi => (sp_gn (sp_f8 G) i hi).symm)⟩
/-- the neutral state -/
noncomputable def sp_v (w : Nat → Nat → Bool) (s : Nat → Nat) (i : Nat) : Nat := 2 * sp_f w s i - sp_y w s (fun i => 2 * sp_f w s i) i
noncomputable def sp_o (w : Nat → Nat → Bool) (s : Nat → Nat) : Nat := sp_n (sp_y w s (sp_v w s))
theorem sp_og {w : Nat → Nat → Bool} {s : Nat → Nat} (G : sp_ok w s) : ∀ i, i < 4 → sp_g (sp_o w s) i = sp_y w s (sp_v w s) i := sp_gn (sp_y8 G _)
theorem sp_vf {w : Nat → Nat → Bool} {s : Nat → Nat} (G : sp_ok w s) : ∀ i, i < 4 → sp_y w s (fun i => 2 * sp_f w s i) i ≤ sp_f w s i := by
  intro i hi
  have h := ((sp_yu G (fun i => 2 * sp_f w s i)).1 i hi).2
  have h2 : sp_f w s i = sp_d w s i - 1 := rfl
  omega
theorem sp_or {w : Nat → Nat → Bool} {s : Nat → Nat} (G : sp_ok w s) : sp_r w s (sp_o w s) := by
  refine ⟨sp_nl (sp_y8 G _), sp_Rc (sp_Rg (fun i hi => ?_) (sp_yu G (sp_v w s))) (fun i hi => (sp_og G i hi).symm)⟩
  have h := sp_vf G i hi
  have h2 : sp_v w s i = 2 * sp_f w s i - sp_y w s (fun i => 2 * sp_f w s i) i := rfl
  omega
theorem sp_oe {w : Nat → Nat → Bool} {s : Nat → Nat} (G : sp_ok w s) : sp_E w s (sp_g (sp_o w s)) (fun _ => 0) := by
  have h1 : sp_E w s (sp_v w s) (sp_g (sp_o w s)) := sp_Et (sp_ES (sp_yu G (sp_v w s))) (sp_Er (fun i hi => (sp_og G i hi).symm))
  have h2 : sp_E w s (fun i => 2 * sp_f w s i) (sp_y w s (fun i => 2 * sp_f w s i)) := sp_ES (sp_yu G _)
  have h3 : sp_E w s (fun i => sp_v w s i + sp_y w s (fun i => 2 * sp_f w s i) i) (fun i => 0 + sp_y w s (fun i => 2 * sp_f w s i) i) := by
    refine sp_Et (sp_Er (fun i hi => ?_)) (sp_Et h2 (sp_Er (fun i hi => ?_)))
    · have h := sp_vf G i hi
      have h2 : sp_v w s i = 2 * sp_f w s i - sp_y w s (fun i => 2 * sp_f w s i) i := rfl
      show sp_v w s i + sp_y w s (fun i => 2 * sp_f w s i) i = 2 * sp_f w s i
      omega
    · show sp_y w s (fun i => 2 * sp_f w s i) i = 0 + sp_y w s (fun i => 2 * sp_f w s i) i
      omega
  exact sp_Et (sp_Es h1) (sp_Ec (x := sp_v w s) (y := fun _ => 0) h3)
theorem sp_oa {w : Nat → Nat → Bool} {s : Nat → Nat} (G : sp_ok w s) {n : Nat} (h : sp_r w s n) : sp_a w s (sp_o w s) n = n := by
  refine sp_r1 G (sp_ar G (sp_or G) n) h (sp_Et (sp_Es (sp_ae G _ _)) ?_)
  exact sp_Et (sp_Ea (sp_g n) (sp_oe G)) (sp_Er (fun i _ => Nat.zero_add _))
theorem sp_ou {w : Nat → Nat → Bool} {s : Nat → Nat} (G : sp_ok w s) {n m : Nat} (h : sp_r w s n) (e : sp_a w s n m = m) (hm : sp_r w s m) : n = sp_o w s := by
  refine sp_r1 G h (sp_or G) (sp_Et ?_ (sp_Es (sp_oe G)))
  have h1 := sp_ae G n m
  rw [e] at h1
  exact sp_Ec (z := sp_g m) (sp_Et h1 (sp_Er (fun i _ => (Nat.zero_add _).symm)))
/-- only one opposite -/
theorem sp_op {w : Nat → Nat → Bool} {s : Nat → Nat} (G : sp_ok w s) {n a b : Nat} (ha : sp_r w s a) (hb : sp_r w s b) (ea : sp_a w s a n = sp_o w s) (eb : sp_a w s b n = sp_o w s) : a = b := by
  refine sp_r1 G ha hb ?_
  have h1 := sp_ae G a n
  have h2 := sp_ae G b n
  rw [ea] at h1
  rw [eb] at h2
  exact sp_Ec (z := sp_g n) (sp_Et h1 (sp_Es h2))
/-- multiples: sp_m n k is k + 1 times n -/
noncomputable def sp_m (w : Nat → Nat → Bool) (s : Nat → Nat) (n : Nat) : Nat → Nat
  | 0 => n
  | k + 1 => sp_a w s (sp_m w s n k) n
theorem sp_mr {w : Nat → Nat → Bool} {s : Nat → Nat} (G : sp_ok w s) {n : Nat} (h : sp_r w s n) : ∀ k, sp_r w s (sp_m w s n k) := by
  intro k
  induction k with
  | zero => exact h
  | succ k ih => exact sp_ar G ih n
theorem sp_me {w : Nat → Nat → Bool} {s : Nat → Nat} (G : sp_ok w s) (n : Nat) : ∀ k, sp_E w s (sp_g (sp_m w s n k)) (fun i => sp_g n i * (k + 1)) := by
  intro k
  induction k with
  | zero => exact sp_Er (fun i _ => (Nat.mul_one _).symm)
  | succ k ih =>
    show sp_E w s (sp_g (sp_a w s (sp_m w s n k) n)) (fun i => sp_g n i * (k + 1 + 1))
    refine sp_Et (sp_Es (sp_ae G _ _)) (sp_Et (sp_Ea (sp_g n) ih) (sp_Er (fun i _ => ?_)))
    show sp_g n i * (k + 1) + sp_g n i = sp_g n i * (k + 1 + 1)
    rw [Nat.mul_add (sp_g n i) (k + 1) 1]
    omega
theorem sp_ph : ∀ (n : Nat) (f : Nat → Nat), (∀ i, i ≤ n → f i < n) → ∃ i j, i < j ∧ j ≤ n ∧ f i = f j := by
  intro n
  induction n with
  | zero => intro f h; exact absurd (h 0 (Nat.le_refl _)) (Nat.not_lt_zero _)
  | succ n ih =>
    intro f h
    by_cases hc : ∃ i, i ≤ n ∧ f i = f (n + 1)
    · obtain ⟨i, hi, e⟩ := hc
      exact ⟨i, n + 1, by omega, Nat.le_refl _, e⟩
    · have hc' : ∀ i, i ≤ n → f i ≠ f (n + 1) := fun i hi e => hc ⟨i, hi, e⟩
      obtain ⟨i, j, hij, hj, e⟩ := ih (fun i => if f i = n then f (n + 1) else f i) (by
        intro i hi
        have h1 := hc' i hi
        have h2 := h i (by omega)
        have h3 := h (n + 1) (Nat.le_refl _)
        try dsimp only
        split <;> omega)
      refine ⟨i, j, hij, by omega, ?_⟩
      have h1 := hc' i (by omega)
      have h2 := hc' j hj
      try dsimp only at *
      split at e <;> split at e <;> omega
/-- states with digits below 5, as numbers below 625 -/
def sp_i (n : Nat) : Nat := 125 * sp_g n 0 + 25 * sp_g n 1 + 5 * sp_g n 2 + sp_g n 3
def sp_j (m : Nat) : Nat := 512 * (m / 125) + 64 * (m / 25 % 5) + 8 * (m / 5 % 5) + m % 5
theorem sp_k5 {w : Nat → Nat → Bool} {s : Nat → Nat} (G : sp_ok w s) {n : Nat} (h : sp_k w s n) : sp_i n < 625 ∧ sp_j (sp_i n) = n := by
  have e := sp_ng h.1
  have a0 := h.2 0 (by decide)
  have a1 := h.2 1 (by decide)
  have a2 := h.2 2 (by decide)
  have a3 := h.2 3 (by decide)
  have b0 := (sp_d1 G (i := 0) (by decide)).2
  have b1 := (sp_d1 G (i := 1) (by decide)).2
  have b2 := (sp_d1 G (i := 2) (by decide)).2
  have b3 := (sp_d1 G (i := 3) (by decide)).2
  unfold sp_n at e
  unfold sp_j sp_i
  omega
/-- some multiple below the 626th is the neutral one -/
theorem sp_mo {w : Nat → Nat → Bool} {s : Nat → Nat} (G : sp_ok w s) {n : Nat} (h : sp_r w s n) : ∃ k, k < 625 ∧ sp_m w s n k = sp_o w s := by
  obtain ⟨i, j, hij, hj, e⟩ := sp_ph 625 (fun k => sp_i (sp_m w s n k)) (fun k _ => (sp_k5 G (sp_rk (sp_mr G h k))).1)
  try dsimp only at *
  have e' : sp_m w s n i = sp_m w s n j := by
    rw [← (sp_k5 G (sp_rk (sp_mr G h i))).2, ← (sp_k5 G (sp_rk (sp_mr G h j))).2, e]
  refine ⟨j - i - 1, by omega, sp_r1 G (sp_mr G h _) (sp_or G) (sp_Et (sp_me G n _) (sp_Et ?_ (sp_Es (sp_oe G))))⟩
  have h1 := sp_me G n i
  rw [e'] at h1
  have h2 := sp_Et (sp_Es (sp_me G n j)) h1
  refine sp_Ec (z := fun x => sp_g n x * (i + 1)) (sp_Et (sp_Et (sp_Er (fun x _ => ?_)) h2) (sp_Er (fun x _ => ?_)))
  · show sp_g n x * (j - i - 1 + 1) + sp_g n x * (i + 1) = sp_g n x * (j + 1)
    rw [← Nat.mul_add]
    exact congrArg _ (by omega)
  · show sp_g n x * (i + 1) = 0 + sp_g n x * (i + 1)
    omega
