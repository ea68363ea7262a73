/-! The sandpile on four places: w i j says whether there is an edge, s i is the number of edges to the sink -/
def sp_b (b : Bool) : Nat := if b then 1 else 0
def sp_ok (w : Nat → Nat → Bool) (s : Nat → Nat) : Prop := (∀ i j, i < 4 → j < 4 → w i j = w j i) ∧ (∀ i, i < 4 → w i i = false) ∧ (∀ i, i < 4 → 1 ≤ s i ∧ s i ≤ 2)
def sp_d (w : Nat → Nat → Bool) (s : Nat → Nat) (i : Nat) : Nat := s i + sp_b (w i 0) + sp_b (w i 1) + sp_b (w i 2) + sp_b (w i 3)
def sp_N (w : Nat → Nat → Bool) (v : Nat → Nat) (i : Nat) : Nat := sp_b (w i 0) * v 0 + sp_b (w i 1) * v 1 + sp_b (w i 2) * v 2 + sp_b (w i 3) * v 3
def sp_M (w : Nat → Nat → Bool) (s : Nat → Nat) (v : Nat → Nat) (i : Nat) : Nat := sp_d w s i * v i
/-- x comes to y, each place i toppling u i times: u is the least with which x becomes stable -/
def sp_S (w : Nat → Nat → Bool) (s : Nat → Nat) (x y u : Nat → Nat) : Prop :=
  (∀ i, i < 4 → y i + sp_M w s u i = x i + sp_N w u i ∧ y i < sp_d w s i) ∧
  ∀ v : Nat → Nat, (∀ i, i < 4 → x i + sp_N w v i < sp_d w s i + sp_M w s v i) → ∀ i, i < 4 → u i ≤ v i
def sp_e (k : Nat) (j : Nat) : Nat := if j = k then 1 else 0
def sp_t (x : Nat → Nat) : Nat := x 0 + x 1 + x 2 + x 3
/-- place i topples -/
def sp_p (w : Nat → Nat → Bool) (s : Nat → Nat) (i : Nat) (x : Nat → Nat) (j : Nat) : Nat := if j = i then x j - sp_d w s i else x j + sp_b (w i j)
theorem sp_b1 (b : Bool) : sp_b b ≤ 1 := by cases b <;> decide
theorem sp_4 {i : Nat} (h : i < 4) : i = 0 ∨ i = 1 ∨ i = 2 ∨ i = 3 := by omega
theorem sp_Nc (w : Nat → Nat → Bool) {a b : Nat → Nat} (h : ∀ j, j < 4 → a j = b j) (i : Nat) : sp_N w a i = sp_N w b i := by
  unfold sp_N
  rw [h 0 (by decide), h 1 (by decide), h 2 (by decide), h 3 (by decide)]
theorem sp_Mc (w : Nat → Nat → Bool) (s : Nat → Nat) {a b : Nat → Nat} {i : Nat} (h : a i = b i) : sp_M w s a i = sp_M w s b i := by
  unfold sp_M
  rw [h]
theorem sp_Na (w : Nat → Nat → Bool) {a b c : Nat → Nat} (h : ∀ j, j < 4 → c j = a j + b j) (i : Nat) : sp_N w c i = sp_N w a i + sp_N w b i := by
  unfold sp_N
  rw [h 0 (by decide), h 1 (by decide), h 2 (by decide), h 3 (by decide)]
  simp only [Nat.mul_add]
  omega
theorem sp_Ma (w : Nat → Nat → Bool) (s : Nat → Nat) {a b c : Nat → Nat} {i : Nat} (h : c i = a i + b i) : sp_M w s c i = sp_M w s a i + sp_M w s b i := by
  unfold sp_M
  rw [h, Nat.mul_add]
theorem sp_N0 (w : Nat → Nat → Bool) {a : Nat → Nat} (h : ∀ j, j < 4 → a j = 0) (i : Nat) : sp_N w a i = 0 := by
  unfold sp_N
  rw [h 0 (by decide), h 1 (by decide), h 2 (by decide), h 3 (by decide)]
  omega
theorem sp_M0 (w : Nat → Nat → Bool) (s : Nat → Nat) {a : Nat → Nat} {i : Nat} (h : a i = 0) : sp_M w s a i = 0 := by
  unfold sp_M
  rw [h, Nat.mul_zero]
theorem sp_1 (w : Nat → Nat → Bool) (s : Nat → Nat) {a : Nat → Nat} {k : Nat} (h : ∀ j, j < 4 → a j = k) {i : Nat} (hi : i < 4) : sp_N w a i + s i * k = sp_M w s a i := by
  unfold sp_N sp_M sp_d
  rw [h 0 (by decide), h 1 (by decide), h 2 (by decide), h 3 (by decide), h i hi]
  simp only [Nat.add_mul]
  omega
theorem sp_Ne (w : Nat → Nat → Bool) {k : Nat} (hk : k < 4) (i : Nat) : sp_N w (sp_e k) i = sp_b (w i k) := by
  unfold sp_N
  rcases sp_4 hk with rfl | rfl | rfl | rfl <;> simp [sp_e]
theorem sp_Me (w : Nat → Nat → Bool) (s : Nat → Nat) (k i : Nat) : sp_M w s (sp_e k) i = if i = k then sp_d w s i else 0 := by
  unfold sp_M sp_e
  split <;> simp
theorem sp_d1 {w : Nat → Nat → Bool} {s : Nat → Nat} (G : sp_ok w s) {i : Nat} (hi : i < 4) : 1 ≤ sp_d w s i ∧ sp_d w s i ≤ 5 := by
  have h := G.2.2 i hi
  have hz : sp_b (w i i) = 0 := by rw [G.2.1 i hi]; rfl
  have h0 := sp_b1 (w i 0)
  have h1 := sp_b1 (w i 1)
  have h2 := sp_b1 (w i 2)
  have h3 := sp_b1 (w i 3)
  unfold sp_d
  rcases sp_4 hi with rfl | rfl | rfl | rfl <;> omega
theorem sp_pe {w : Nat → Nat → Bool} {s : Nat → Nat} (G : sp_ok w s) {k : Nat} (hk : k < 4) {x : Nat → Nat} (hx : sp_d w s k ≤ x k) {j : Nat} (hj : j < 4) :
    sp_p w s k x j + sp_M w s (sp_e k) j = x j + sp_N w (sp_e k) j := by
  rw [sp_Ne w hk, sp_Me, G.1 j k hj hk]
  unfold sp_p
  by_cases h : j = k
  · subst h
    rw [if_pos rfl, if_pos rfl, G.2.1 j hj, show sp_b false = 0 from rfl]
    omega
  · rw [if_neg h, if_neg h]
    omega
theorem sp_pt {w : Nat → Nat → Bool} {s : Nat → Nat} (G : sp_ok w s) {k : Nat} (hk : k < 4) {x : Nat → Nat} (hx : sp_d w s k ≤ x k) : sp_t (sp_p w s k x) + s k = sp_t x := by
  have hz : sp_b (w k k) = 0 := by rw [G.2.1 k hk]; rfl
  have hd : sp_d w s k = s k + sp_b (w k 0) + sp_b (w k 1) + sp_b (w k 2) + sp_b (w k 3) := rfl
  rcases sp_4 hk with rfl | rfl | rfl | rfl
  · show x 0 - sp_d w s 0 + (x 1 + sp_b (w 0 1)) + (x 2 + sp_b (w 0 2)) + (x 3 + sp_b (w 0 3)) + s 0 = x 0 + x 1 + x 2 + x 3
    omega
  · show x 0 + sp_b (w 1 0) + (x 1 - sp_d w s 1) + (x 2 + sp_b (w 1 2)) + (x 3 + sp_b (w 1 3)) + s 1 = x 0 + x 1 + x 2 + x 3
    omega
  · show x 0 + sp_b (w 2 0) + (x 1 + sp_b (w 2 1)) + (x 2 - sp_d w s 2) + (x 3 + sp_b (w 2 3)) + s 2 = x 0 + x 1 + x 2 + x 3
    omega
  · show x 0 + sp_b (w 3 0) + (x 1 + sp_b (w 3 1)) + (x 2 + sp_b (w 3 2)) + (x 3 - sp_d w s 3) + s 3 = x 0 + x 1 + x 2 + x 3
    omega
/-- one toppling ahead -/
theorem sp_st {w : Nat → Nat → Bool} {s : Nat → Nat} (G : sp_ok w s) {k : Nat} (hk : k < 4) {x y u : Nat → Nat} (hx : sp_d w s k ≤ x k) (h : sp_S w s (sp_p w s k x) y u) :
    sp_S w s x y (fun j => u j + sp_e k j) := by
  constructor
  · intro i hi
    have h1 := h.1 i hi
    have h2 := sp_pe G hk hx hi
    have h3 := sp_Na w (a := u) (b := sp_e k) (c := fun j => u j + sp_e k j) (fun _ _ => rfl) i
    have h4 := sp_Ma w s (a := u) (b := sp_e k) (c := fun j => u j + sp_e k j) (i := i) rfl
    omega
  · intro v hv
    have hk1 : v k ≠ 0 := by
      intro z
      have h1 := hv k hk
      rw [sp_M0 w s z] at h1
      omega
    have he : ∀ j, v j = (v j - sp_e k j) + sp_e k j := by
      intro j
      unfold sp_e
      by_cases hj : j = k
      · subst hj; rw [if_pos rfl]; omega
      · rw [if_neg hj]; omega
    have hr := h.2 (fun j => v j - sp_e k j) (by
      intro i hi
      have h1 := hv i hi
      have h2 := sp_pe G hk hx hi
      have h3 := sp_Na w (a := fun j => v j - sp_e k j) (b := sp_e k) (c := v) (fun j _ => he j) i
      have h4 := sp_Ma w s (a := fun j => v j - sp_e k j) (b := sp_e k) (c := v) (i := i) (he i)
      omega)
    intro i hi
    have h1 := hr i hi
    have h2 := he i
    try dsimp only at *
    omega
theorem sp_z {w : Nat → Nat → Bool} {s : Nat → Nat} {x : Nat → Nat} (h : ∀ i, i < 4 → x i < sp_d w s i) : sp_S w s x x (fun _ => 0) := by
  constructor
  · intro i hi
    rw [sp_N0 w (a := fun _ => 0) (fun _ _ => rfl) i, sp_M0 w s (a := fun _ => 0) (i := i) rfl]
    exact ⟨rfl, h i hi⟩
  · intro v _ i _
    exact Nat.zero_le _
/-- every state comes to one -/
theorem sp_ex {w : Nat → Nat → Bool} {s : Nat → Nat} (G : sp_ok w s) : ∀ (n : Nat) (x : Nat → Nat), sp_t x ≤ n → ∃ y u, sp_S w s x y u := by
  intro n
  induction n with
  | zero =>
    intro x hx
    refine ⟨x, _, sp_z (fun i hi => ?_)⟩
    have h := (sp_d1 G hi).1
    unfold sp_t at hx
    rcases sp_4 hi with rfl | rfl | rfl | rfl <;> omega
  | succ n ih =>
    intro x hx
    by_cases h : ∀ i, i < 4 → x i < sp_d w s i
    · exact ⟨x, _, sp_z h⟩
    · have h' : ∃ k, k < 4 ∧ sp_d w s k ≤ x k := by
        apply Classical.byContradiction
        intro hn
        apply h
        intro i hi
        apply Classical.byContradiction
        intro hx'
        exact hn ⟨i, hi, by omega⟩
      obtain ⟨k, hk, hx'⟩ := h'
      have ht := sp_pt G hk hx'
      have hs := (G.2.2 k hk).1
      obtain ⟨y, u, hy⟩ := ih (sp_p w s k x) (by omega)
      exact ⟨y, _, sp_st G hk hx' hy⟩
/-- only one -/
theorem sp_un {w : Nat → Nat → Bool} {s : Nat → Nat} {x y u y' u' : Nat → Nat} (h : sp_S w s x y u) (h' : sp_S w s x y' u') :
    ∀ i, i < 4 → u i = u' i ∧ y i = y' i := by
  have a : ∀ i, i < 4 → u i ≤ u' i := h.2 u' (fun i hi => by have := h'.1 i hi; omega)
  have b : ∀ i, i < 4 → u' i ≤ u i := h'.2 u (fun i hi => by have := h.1 i hi; omega)
  have c : ∀ i, i < 4 → u i = u' i := fun i hi => Nat.le_antisymm (a i hi) (b i hi)
  intro i hi
  refine ⟨c i hi, ?_⟩
  have h1 := h.1 i hi
  have h2 := h'.1 i hi
  have h3 := sp_Nc w c i
  have h4 := sp_Mc w s (c i hi)
  omega
theorem sp_cg {w : Nat → Nat → Bool} {s : Nat → Nat} {x y u x' y' u' : Nat → Nat} (h : sp_S w s x y u) (hx : ∀ i, i < 4 → x i = x' i) (hy : ∀ i, i < 4 → y i = y' i)
    (hu : ∀ i, i < 4 → u i = u' i) : sp_S w s x' y' u' := by
  constructor
  · intro i hi
    have h1 := h.1 i hi
    rw [hx i hi, hy i hi, sp_Nc w hu i, sp_Mc w s (hu i hi)] at h1
    exact h1
  · intro v hv i hi
    rw [← hu i hi]
    exact h.2 v (fun i hi => by rw [hx i hi]; exact hv i hi) i hi
/-- first x alone, then with z -/
theorem sp_ab {w : Nat → Nat → Bool} {s : Nat → Nat} {x y u z q v : Nat → Nat} (h : sp_S w s x y u) (h' : sp_S w s (fun i => y i + z i) q v) :
    sp_S w s (fun i => x i + z i) q (fun i => u i + v i) := by
  constructor
  · intro i hi
    have h1 := h.1 i hi
    have h2 := h'.1 i hi
    have h3 := sp_Na w (a := u) (b := v) (c := fun i => u i + v i) (fun _ _ => rfl) i
    have h4 := sp_Ma w s (a := u) (b := v) (c := fun i => u i + v i) (i := i) rfl
    try dsimp only at *
    omega
  · intro t ht
    try dsimp only at *
    have a := h.2 t (fun i hi => by have := ht i hi; omega)
    have he : ∀ j, j < 4 → t j = u j + (t j - u j) := fun j hj => by have := a j hj; omega
    have b := h'.2 (fun j => t j - u j) (by
      intro i hi
      have h0 := ht i hi
      have h1 := h.1 i hi
      have h3 := sp_Na w (a := u) (b := fun j => t j - u j) (c := t) he i
      have h4 := sp_Ma w s (a := u) (b := fun j => t j - u j) (c := t) (i := i) (he i hi)
      try dsimp only
      omega)
    intro i hi
    have h1 := a i hi
    have h2 := b i hi
    try dsimp only at *
    omega
/-- what x + z comes to, what x comes to comes to with z -/
theorem sp_ba {w : Nat → Nat → Bool} {s : Nat → Nat} (G : sp_ok w s) {x y u z q t : Nat → Nat} (h : sp_S w s x y u) (h' : sp_S w s (fun i => x i + z i) q t) :
    ∃ v, sp_S w s (fun i => y i + z i) q v ∧ ∀ i, i < 4 → t i = u i + v i := by
  obtain ⟨q', v, hq⟩ := sp_ex G _ (fun i => y i + z i) (Nat.le_refl _)
  have h2 := sp_un h' (sp_ab h hq)
  exact ⟨v, sp_cg hq (fun _ _ => rfl) (fun i hi => ((h2 i hi).2).symm) (fun _ _ => rfl), fun i hi => (h2 i hi).1⟩
