/-! The full state, recurrent states, the burning test, one recurrent state among those that differ by topplings -/
def sp_f (w : Nat → Nat → Bool) (s : Nat → Nat) (i : Nat) : Nat := sp_d w s i - 1
def sp_R (w : Nat → Nat → Bool) (s : Nat → Nat) (y : Nat → Nat) : Prop := ∃ z u : Nat → Nat, sp_S w s (fun i => sp_f w s i + z i) y u
theorem sp_Rc {w : Nat → Nat → Bool} {s : Nat → Nat} {y y' : Nat → Nat} (h : sp_R w s y) (e : ∀ i, i < 4 → y i = y' i) : sp_R w s y' := by
  obtain ⟨z, u, h⟩ := h
  exact ⟨z, u, sp_cg h (fun _ _ => rfl) e (fun _ _ => rfl)⟩
theorem sp_Rd {w : Nat → Nat → Bool} {s : Nat → Nat} {y : Nat → Nat} (h : sp_R w s y) {i : Nat} (hi : i < 4) : y i < sp_d w s i := by
  obtain ⟨z, u, h⟩ := h
  exact (h.1 i hi).2
theorem sp_ff {w : Nat → Nat → Bool} {s : Nat → Nat} (G : sp_ok w s) : ∀ i, i < 4 → sp_f w s i < sp_d w s i := by
  intro i hi
  have := sp_d1 G hi
  unfold sp_f
  omega
theorem sp_Rf {w : Nat → Nat → Bool} {s : Nat → Nat} (G : sp_ok w s) : sp_R w s (sp_f w s) :=
  ⟨fun _ => 0, fun _ => 0, sp_cg (sp_z (sp_ff G)) (fun _ _ => rfl) (fun _ _ => rfl) (fun _ _ => rfl)⟩
/-- more grains on a recurrent state -/
theorem sp_Ra {w : Nat → Nat → Bool} {s : Nat → Nat} {y z q u : Nat → Nat} (h : sp_R w s y) (h' : sp_S w s (fun i => y i + z i) q u) : sp_R w s q := by
  obtain ⟨z0, u0, h0⟩ := h
  refine ⟨fun i => z0 i + z i, fun i => u0 i + u i, ?_⟩
  exact sp_cg (sp_ab h0 h') (fun i _ => Nat.add_assoc _ _ _) (fun _ _ => rfl) (fun _ _ => rfl)
/-- what has at least the full state's grains -/
theorem sp_Rg {w : Nat → Nat → Bool} {s : Nat → Nat} {x q u : Nat → Nat} (hx : ∀ i, i < 4 → sp_f w s i ≤ x i) (h' : sp_S w s x q u) : sp_R w s q :=
  ⟨fun i => x i - sp_f w s i, u, sp_cg h' (fun i hi => by have := hx i hi; (try dsimp only); omega) (fun _ _ => rfl) (fun _ _ => rfl)⟩
/-- the full state and the sink's grains -/
theorem sp_fs {w : Nat → Nat → Bool} {s : Nat → Nat} (G : sp_ok w s) : sp_S w s (fun i => sp_f w s i + s i) (sp_f w s) (fun _ => 1) := by
  constructor
  · intro i hi
    have h1 := sp_1 w s (a := fun _ => 1) (k := 1) (fun _ _ => rfl) hi
    refine ⟨?_, sp_ff G i hi⟩
    try dsimp only
    omega
  · intro v hv i hi
    have hz : v i ≠ 0 := by
      intro z
      have h1 : sp_f w s i + s i + sp_N w v i < sp_d w s i + sp_M w s v i := hv i hi
      have h2 : sp_f w s i = sp_d w s i - 1 := rfl
      have h3 := (G.2.2 i hi).1
      rw [sp_M0 w s z] at h1
      omega
    show 1 ≤ v i
    omega
/-- a recurrent state and the sink's grains: each place topples once -/
theorem sp_Rs {w : Nat → Nat → Bool} {s : Nat → Nat} (G : sp_ok w s) {y : Nat → Nat} (h : sp_R w s y) : sp_S w s (fun i => y i + s i) y (fun _ => 1) := by
  obtain ⟨z, u, h⟩ := h
  obtain ⟨q, v, hq⟩ := sp_ex G _ (fun i => y i + s i) (Nat.le_refl _)
  have a := sp_ab h hq
  have b := sp_ab (z := z) (sp_fs G) h
  have b' := sp_cg (x' := fun i => sp_f w s i + z i + s i) b (fun i _ => by (try dsimp only); omega) (fun _ _ => rfl) (fun _ _ => rfl)
  have c := sp_un a b'
  exact sp_cg hq (fun _ _ => rfl) (fun i hi => (c i hi).2) (fun i hi => by have := (c i hi).1; (try dsimp only at *); omega)
/-- k times the sink's grains -/
theorem sp_Sk {w : Nat → Nat → Bool} {s : Nat → Nat} {y u : Nat → Nat} (h : sp_S w s (fun i => y i + s i) y u) (hy : ∀ i, i < 4 → y i < sp_d w s i) :
    ∀ k : Nat, sp_S w s (fun i => y i + s i * k) y (fun i => u i * k) := by
  intro k
  induction k with
  | zero => exact sp_cg (sp_z hy) (fun i _ => by simp) (fun _ _ => rfl) (fun i _ => by simp)
  | succ k ih =>
    refine sp_cg (sp_ab ih h) (fun i _ => ?_) (fun _ _ => rfl) (fun i _ => ?_)
    · try dsimp only
      rw [Nat.mul_add]
      omega
    · try dsimp only
      rw [Nat.mul_add]
      omega
/-- the burning test -/
theorem sp_Rb {w : Nat → Nat → Bool} {s : Nat → Nat} (G : sp_ok w s) {y u : Nat → Nat} (h : sp_S w s (fun i => y i + s i) y u) : sp_R w s y := by
  refine sp_Rg (u := fun i => u i * 8) (fun i hi => ?_) (sp_Sk h (fun i hi => (h.1 i hi).2) 8)
  have h1 := sp_d1 G hi
  have h2 := (G.2.2 i hi).1
  unfold sp_f
  try dsimp only
  omega
/-- x and y differ by topplings -/
def sp_E (w : Nat → Nat → Bool) (s : Nat → Nat) (x y : Nat → Nat) : Prop := ∃ a b : Nat → Nat, ∀ i, i < 4 → x i + sp_N w a i + sp_M w s b i = y i + sp_N w b i + sp_M w s a i
theorem sp_Er {w : Nat → Nat → Bool} {s : Nat → Nat} {x y : Nat → Nat} (h : ∀ i, i < 4 → x i = y i) : sp_E w s x y :=
  ⟨fun _ => 0, fun _ => 0, fun i hi => by rw [h i hi]⟩
theorem sp_Es {w : Nat → Nat → Bool} {s : Nat → Nat} {x y : Nat → Nat} (h : sp_E w s x y) : sp_E w s y x := by
  obtain ⟨a, b, h⟩ := h
  exact ⟨b, a, fun i hi => (h i hi).symm⟩
theorem sp_Et {w : Nat → Nat → Bool} {s : Nat → Nat} {x y z : Nat → Nat} (h : sp_E w s x y) (h' : sp_E w s y z) : sp_E w s x z := by
  obtain ⟨a, b, h⟩ := h
  obtain ⟨a', b', h'⟩ := h'
  refine ⟨fun i => a i + a' i, fun i => b i + b' i, fun i hi => ?_⟩
  have h1 := h i hi
  have h2 := h' i hi
  have h3 := sp_Na w (a := a) (b := a') (c := fun i => a i + a' i) (fun _ _ => rfl) i
  have h4 := sp_Na w (a := b) (b := b') (c := fun i => b i + b' i) (fun _ _ => rfl) i
  have h5 := sp_Ma w s (a := a) (b := a') (c := fun i => a i + a' i) (i := i) rfl
  have h6 := sp_Ma w s (a := b) (b := b') (c := fun i => b i + b' i) (i := i) rfl
  omega
theorem sp_Ea {w : Nat → Nat → Bool} {s : Nat → Nat} {x y : Nat → Nat} (z : Nat → Nat) (h : sp_E w s x y) : sp_E w s (fun i => x i + z i) (fun i => y i + z i) := by
  obtain ⟨a, b, h⟩ := h
  exact ⟨a, b, fun i hi => by have := h i hi; (try dsimp only); omega⟩
theorem sp_Ec {w : Nat → Nat → Bool} {s : Nat → Nat} {x y z : Nat → Nat} (h : sp_E w s (fun i => x i + z i) (fun i => y i + z i)) : sp_E w s x y := by
  obtain ⟨a, b, h⟩ := h
  exact ⟨a, b, fun i hi => by have := h i hi; (try dsimp only at *); omega⟩
theorem sp_ES {w : Nat → Nat → Bool} {s : Nat → Nat} {x y u : Nat → Nat} (h : sp_S w s x y u) : sp_E w s x y := by
  refine ⟨u, fun _ => 0, fun i hi => ?_⟩
  have h1 := h.1 i hi
  have h2 := sp_N0 w (a := fun _ => 0) (fun _ _ => rfl) i
  have h3 := sp_M0 w s (a := fun _ => 0) (i := i) rfl
  omega
theorem sp_R1a {w : Nat → Nat → Bool} {s : Nat → Nat} (G : sp_ok w s) {x y a b : Nat → Nat} (hx : sp_R w s x) (hy : sp_R w s y)
    (h : ∀ i, i < 4 → x i + sp_N w a i + sp_M w s b i = y i + sp_N w b i + sp_M w s a i) : ∀ i, i < 4 → a i ≤ b i := by
  have hk : ∃ k, ∀ i, i < 4 → a i ≤ k := by
    refine ⟨a 0 + a 1 + a 2 + a 3, fun i hi => ?_⟩
    rcases sp_4 hi with rfl | rfl | rfl | rfl <;> omega
  obtain ⟨k, hk⟩ := hk
  have hS := sp_Sk (sp_Rs G hy) (fun i hi => sp_Rd hy hi) k
  have hv := hS.2 (fun i => k + b i - a i) (by
    intro i hi
    have h1 := h i hi
    have h2 := sp_Rd hx hi
    have h3 := sp_1 w s (a := fun _ => k) (k := k) (fun _ _ => rfl) hi
    have h4 := sp_Na w (a := fun i => k + b i - a i) (b := a) (c := fun i => k + b i) (fun j hj => by have := hk j hj; (try dsimp only); omega) i
    have h5 := sp_Ma w s (a := fun i => k + b i - a i) (b := a) (c := fun i => k + b i) (i := i) (by have := hk i hi; (try dsimp only); omega)
    have h6 := sp_Na w (a := fun _ => k) (b := b) (c := fun i => k + b i) (fun _ _ => rfl) i
    have h7 := sp_Ma w s (a := fun _ => k) (b := b) (c := fun i => k + b i) (i := i) rfl
    try dsimp only
    omega)
  intro i hi
  have h1 := hv i hi
  have h2 := hk i hi
  try dsimp only at *
  omega
theorem sp_R1 {w : Nat → Nat → Bool} {s : Nat → Nat} (G : sp_ok w s) {x y : Nat → Nat} (hx : sp_R w s x) (hy : sp_R w s y) (h : sp_E w s x y) : ∀ i, i < 4 → x i = y i := by
  obtain ⟨a, b, h⟩ := h
  have h1 := sp_R1a G hx hy h
  have h2 := sp_R1a G hy hx (fun i hi => (h i hi).symm)
  have h3 : ∀ i, i < 4 → a i = b i := fun i hi => Nat.le_antisymm (h1 i hi) (h2 i hi)
  intro i hi
  have h4 := h i hi
  have h5 := sp_Nc w h3 i
  have h6 := sp_Mc w s (h3 i hi)
  omega
