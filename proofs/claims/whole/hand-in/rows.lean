section
theorem pk_us {f : Nat → Int32} {k : Nat} {x : Int32} : upd f k x k = x := if_pos rfl
theorem pk_un {f : Nat → Int32} {k j : Nat} {x : Int32} (h : j ≠ k) : upd f k x j = f j := if_neg h
theorem pk_sub {a b : Nat} (h : b ≤ a) : nI a - nI b = nI (a - b) := by
  obtain ⟨c, rfl⟩ : ∃ c, a = c + b := ⟨a - b, by omega⟩
  rw [← nI_add, Int32.add_sub_cancel, Nat.add_sub_cancel]
theorem pk_m1 (n : Nat) : nI (n + 1) + (-1) = nI n := by
  rw [← nI_1, Int32.add_assoc, show (1 : Int32) + (-1) = 0 from rfl, Int32.add_zero]
theorem pk_mul (a b : Nat) : nI a * nI b = nI (a * b) := (Int32.ofNat_mul a b).symm
theorem pk_ix (x : Int32) {n : Nat} (hn : n < 2 ^ 31) : x < 0 ∨ nI n ≤ x ∨ ∃ j : Nat, j < n ∧ x = nI j := by
  by_cases h : x < 0
  · exact Or.inl h
  · obtain ⟨j, hj, rfl⟩ := nI_of h
    by_cases h2 : j < n
    · exact Or.inr (Or.inr ⟨j, h2, rfl⟩)
    · exact Or.inr (Or.inl (nI_le (by omega) hj))
theorem pk_le {x y : Int32} {A B : Prop} (a b : Nat) (f : a ≤ b → A) (g : b < a → B) (hx : x = nI a := by rfl) (hy : y = nI b := by rfl) (ha : a < 2 ^ 31 := by omega) (hb : b < 2 ^ 31 := by omega) : (x ≤ y → A) ∧ (¬ x ≤ y → B) := by
  subst hx hy
  rw [nI_leI ha hb]
  exact ⟨f, fun z => g (by omega)⟩
theorem pk_lt {x y : Int32} {A B : Prop} (a b : Nat) (f : a < b → A) (g : b ≤ a → B) (hx : x = nI a := by rfl) (hy : y = nI b := by rfl) (ha : a < 2 ^ 31 := by omega) (hb : b < 2 ^ 31 := by omega) : (x < y → A) ∧ (¬ x < y → B) := by
  subst hx hy
  rw [nI_ltI ha hb]
  exact ⟨f, fun z => g (by omega)⟩
theorem pk_eq {x y : Int32} {A B : Prop} (a b : Nat) (f : a = b → A) (g : a ≠ b → B) (hx : x = nI a := by rfl) (hy : y = nI b := by rfl) (ha : a < 2 ^ 31 := by omega) (hb : b < 2 ^ 31 := by omega) : (x = y → A) ∧ (¬ x = y → B) := by
  subst hx hy
  rw [nI_eq ha hb]
  exact ⟨f, g⟩
theorem pk_in {x : Int32} (n N : Nat) (h : n < N) (hx : x = nI n := by rfl) (hN : N < 2 ^ 31 := by omega) : vp_in x N := by
  subst hx
  exact vp_in_nI h hN
theorem pk_cl {x : Int32} (n : Nat) (hx : x = nI n := by rfl) (h : n < 2 ^ 31 := by omega) : x.toNatClampNeg = n := by
  subst hx
  exact nI_clamp h
theorem pk_tn {n : Nat} (h : n < 2 ^ 32) : (nI n).toBitVec.toNat = n := Nat.mod_eq_of_lt h
theorem pk_and (x : Int32) {m : Int32} (k : Nat) (hm : m.toBitVec.toNat = 2 ^ k - 1) : x &&& m = nI (x.toBitVec.toNat % 2 ^ k) := by
  apply Int32.toBitVec_inj.mp
  apply BitVec.eq_of_toNat_eq
  rw [Int32.toBitVec_and, BitVec.toNat_and, hm, Nat.and_two_pow_sub_one_eq_mod]
  show _ = (BitVec.ofNat 32 _).toNat
  rw [BitVec.toNat_ofNat]
  exact (Nat.mod_eq_of_lt (Nat.lt_of_le_of_lt (Nat.mod_le _ _) x.toBitVec.isLt)).symm
theorem pk_andN {n : Nat} (h : n < 2 ^ 32) {m : Int32} (k : Nat) (hm : m.toBitVec.toNat = 2 ^ k - 1) : nI n &&& m = nI (n % 2 ^ k) := by
  rw [pk_and _ k hm, pk_tn h]
theorem pk_shl (a s : Int32) (k : Nat) (hs : (s.toBitVec.smod 32).toNat = k) : (a <<< s).toBitVec.toNat = a.toBitVec.toNat * 2 ^ k % 2 ^ 32 := by
  show (a.toBitVec <<< (s.toBitVec.smod 32).toNat).toNat = _
  rw [hs, BitVec.toNat_shiftLeft, Nat.shiftLeft_eq]
theorem pk_shlN {n : Nat} (s : Int32) (k : Nat) (hs : (s.toBitVec.smod 32).toNat = k) (h : n * 2 ^ k < 2 ^ 32) : nI n <<< s = nI (n * 2 ^ k) := by
  apply Int32.toBitVec_inj.mp
  apply BitVec.eq_of_toNat_eq
  have hn : n < 2 ^ 32 := Nat.lt_of_le_of_lt (Nat.le_mul_of_pos_right n (Nat.two_pow_pos k)) h
  rw [pk_shl _ _ k hs, pk_tn hn, pk_tn h, Nat.mod_eq_of_lt h]
theorem pk_shr (a s : Int32) (k : Nat) (hs : (s.toBitVec.smod 32).toNat = k) : (a >>> s).toInt = a.toInt >>> k := by
  show (a.toBitVec.sshiftRight (s.toBitVec.smod 32).toNat).toInt = _
  rw [hs, BitVec.toInt_sshiftRight]
  rfl
theorem pk_shrN {n : Nat} (h : n < 2 ^ 31) (s : Int32) (k : Nat) (hs : (s.toBitVec.smod 32).toNat = k) : nI n >>> s = nI (n / 2 ^ k) := by
  apply Int32.toInt_inj.mp
  have h2 : n / 2 ^ k ≤ n := Nat.div_le_self _ _
  rw [pk_shr _ _ k hs, nI_toInt h, nI_toInt (by omega), Int.shiftRight_eq_div_pow]
  rfl
theorem pk_loop {σ : Type} (W : Nat → Nat → σ → Prop) (I : Nat → σ → Prop) (e i0 : Nat) (s : σ) (hi : i0 ≤ e) (h0 : I i0 s) (hx : ∀ n s, I e s → W (n + 1) e s)
    (hs : ∀ n i s, i < e → I i s → (∀ s', I (i + 1) s' → W n (i + 1) s') → W (n + 1) i s) : ∃ n, W n i0 s :=
  ⟨e + 1, loop_i W I e hx hs (e + 1) i0 s hi (by omega) h0⟩
theorem pk_loopD {σ : Type} (W : Nat → Nat → σ → Prop) (I : Nat → σ → Prop) (hx : ∀ n s, I 0 s → W (n + 1) 0 s)
    (hs : ∀ n i s, I (i + 1) s → (∀ s', I i s' → W n i s') → W (n + 1) (i + 1) s) : ∀ (e : Nat) (s : σ), I e s → W (e + 1) e s := by
  intro e
  induction e with
  | zero => exact fun s h => hx 0 s h
  | succ e ih => exact fun s h => hs (e + 1) e s h (fun s' h' => ih s' h')
theorem pk_least (P : Nat → Prop) (h : ∃ k, P k) : ∃ k, P k ∧ ∀ j, j < k → ¬ P j := by
  obtain ⟨k, hk⟩ := h
  induction k using Nat.strongRecOn with
  | ind k ih =>
    by_cases e : ∃ j, j < k ∧ P j
    · obtain ⟨j, hj, pj⟩ := e
      exact ih j hj pj
    · exact ⟨k, hk, fun j hj pj => e ⟨j, hj, pj⟩⟩
theorem co_4 {P : Nat → Prop} (h0 : P 0) (h1 : P 1) (h2 : P 2) (h3 : P 3) {i : Nat} (hi : i < 4) : P i :=
  match i, hi with
  | 0, _ => h0
  | 1, _ => h1
  | 2, _ => h2
  | 3, _ => h3
end
section
/-! The sandpile on four places: w i j says whether there is an edge, s i is the number of edges to the sink -/
def sp_b (b : Bool) : Nat := if b then 1 else 0
def sp_ok (w : Nat → Nat → Bool) (s : Nat → Nat) : Prop := (∀ i j, i < 4 → j < 4 → w i j = w j i) ∧ (∀ i, i < 4 → w i i = false) ∧ (∀ i, i < 4 → 1 ≤ s i ∧ s i ≤ 2)
def sp_d (w : Nat → Nat → Bool) (s : Nat → Nat) (i : Nat) : Nat := s i + sp_b (w i 0) + sp_b (w i 1) + sp_b (w i 2) + sp_b (w i 3)
def sp_N (w : Nat → Nat → Bool) (v : Nat → Nat) (i : Nat) : Nat := sp_b (w i 0) * v 0 + sp_b (w i 1) * v 1 + sp_b (w i 2) * v 2 + sp_b (w i 3) * v 3
def sp_M (w : Nat → Nat → Bool) (s : Nat → Nat) (v : Nat → Nat) (i : Nat) : Nat := sp_d w s i * v i
/-- x comes to y, each place i toppling u i times: u is the least with which x becomes stable -/
def sp_S (w : Nat → Nat → Bool) (s : Nat → Nat) (x y u : Nat → Nat) : Prop :=
  (∀ i, i < 4 → y i + sp_M w s u i = x i + sp_N w u i ∧ y i < sp_d w s i) ∧
  ∀ v : Nat → Nat, (∀ i, i < 4 → x i + sp_N w v i < sp_d w s i + sp_M w s v i) → ∀ i, i < 4 → u i ≤ v i
def sp_e (k : Nat) (j : Nat) : Nat := if j = k then 1 else 0
def sp_t (x : Nat → Nat) : Nat := x 0 + x 1 + x 2 + x 3
/-- place i topples -/
def sp_p (w : Nat → Nat → Bool) (s : Nat → Nat) (i : Nat) (x : Nat → Nat) (j : Nat) : Nat := if j = i then x j - sp_d w s i else x j + sp_b (w i j)
theorem sp_b1 (b : Bool) : sp_b b ≤ 1 := by cases b <;> decide
theorem sp_4 {i : Nat} (h : i < 4) : i = 0 ∨ i = 1 ∨ i = 2 ∨ i = 3 := by omega
theorem sp_Nc (w : Nat → Nat → Bool) {a b : Nat → Nat} (h : ∀ j, j < 4 → a j = b j) (i : Nat) : sp_N w a i = sp_N w b i := by
  unfold sp_N
  rw [h 0 (by decide), h 1 (by decide), h 2 (by decide), h 3 (by decide)]
theorem sp_Mc (w : Nat → Nat → Bool) (s : Nat → Nat) {a b : Nat → Nat} {i : Nat} (h : a i = b i) : sp_M w s a i = sp_M w s b i := by
  unfold sp_M
  rw [h]
theorem sp_Na (w : Nat → Nat → Bool) {a b c : Nat → Nat} (h : ∀ j, j < 4 → c j = a j + b j) (i : Nat) : sp_N w c i = sp_N w a i + sp_N w b i := by
  unfold sp_N
  rw [h 0 (by decide), h 1 (by decide), h 2 (by decide), h 3 (by decide)]
  simp only [Nat.mul_add]
  omega
theorem sp_Ma (w : Nat → Nat → Bool) (s : Nat → Nat) {a b c : Nat → Nat} {i : Nat} (h : c i = a i + b i) : sp_M w s c i = sp_M w s a i + sp_M w s b i := by
  unfold sp_M
  rw [h, Nat.mul_add]
theorem sp_N0 (w : Nat → Nat → Bool) {a : Nat → Nat} (h : ∀ j, j < 4 → a j = 0) (i : Nat) : sp_N w a i = 0 := by
  unfold sp_N
  rw [h 0 (by decide), h 1 (by decide), h 2 (by decide), h 3 (by decide)]
  omega
theorem sp_M0 (w : Nat → Nat → Bool) (s : Nat → Nat) {a : Nat → Nat} {i : Nat} (h : a i = 0) : sp_M w s a i = 0 := by
  unfold sp_M
  rw [h, Nat.mul_zero]
theorem sp_1 (w : Nat → Nat → Bool) (s : Nat → Nat) {a : Nat → Nat} {k : Nat} (h : ∀ j, j < 4 → a j = k) {i : Nat} (hi : i < 4) : sp_N w a i + s i * k = sp_M w s a i := by
  unfold sp_N sp_M sp_d
  rw [h 0 (by decide), h 1 (by decide), h 2 (by decide), h 3 (by decide), h i hi]
  simp only [Nat.add_mul]
  omega
theorem sp_Ne (w : Nat → Nat → Bool) {k : Nat} (hk : k < 4) (i : Nat) : sp_N w (sp_e k) i = sp_b (w i k) := by
  unfold sp_N
  rcases sp_4 hk with rfl | rfl | rfl | rfl <;> simp [sp_e]
theorem sp_Me (w : Nat → Nat → Bool) (s : Nat → Nat) (k i : Nat) : sp_M w s (sp_e k) i = if i = k then sp_d w s i else 0 := by
  unfold sp_M sp_e
  split <;> simp
theorem sp_d1 {w : Nat → Nat → Bool} {s : Nat → Nat} (G : sp_ok w s) {i : Nat} (hi : i < 4) : 1 ≤ sp_d w s i ∧ sp_d w s i ≤ 5 := by
  have h := G.2.2 i hi
  have hz : sp_b (w i i) = 0 := by rw [G.2.1 i hi]; rfl
  have h0 := sp_b1 (w i 0)
  have h1 := sp_b1 (w i 1)
  have h2 := sp_b1 (w i 2)
  have h3 := sp_b1 (w i 3)
  unfold sp_d
  rcases sp_4 hi with rfl | rfl | rfl | rfl <;> omega
theorem sp_pe {w : Nat → Nat → Bool} {s : Nat → Nat} (G : sp_ok w s) {k : Nat} (hk : k < 4) {x : Nat → Nat} (hx : sp_d w s k ≤ x k) {j : Nat} (hj : j < 4) :
    sp_p w s k x j + sp_M w s (sp_e k) j = x j + sp_N w (sp_e k) j := by
  rw [sp_Ne w hk, sp_Me, G.1 j k hj hk]
  unfold sp_p
  by_cases h : j = k
  · subst h
    rw [if_pos rfl, if_pos rfl, G.2.1 j hj, show sp_b false = 0 from rfl]
    omega
  · rw [if_neg h, if_neg h]
    omega
theorem sp_pt {w : Nat → Nat → Bool} {s : Nat → Nat} (G : sp_ok w s) {k : Nat} (hk : k < 4) {x : Nat → Nat} (hx : sp_d w s k ≤ x k) : sp_t (sp_p w s k x) + s k = sp_t x := by
  have hz : sp_b (w k k) = 0 := by rw [G.2.1 k hk]; rfl
  have hd : sp_d w s k = s k + sp_b (w k 0) + sp_b (w k 1) + sp_b (w k 2) + sp_b (w k 3) := rfl
  rcases sp_4 hk with rfl | rfl | rfl | rfl
  · show x 0 - sp_d w s 0 + (x 1 + sp_b (w 0 1)) + (x 2 + sp_b (w 0 2)) + (x 3 + sp_b (w 0 3)) + s 0 = x 0 + x 1 + x 2 + x 3
    omega
  · show x 0 + sp_b (w 1 0) + (x 1 - sp_d w s 1) + (x 2 + sp_b (w 1 2)) + (x 3 + sp_b (w 1 3)) + s 1 = x 0 + x 1 + x 2 + x 3
    omega
  · show x 0 + sp_b (w 2 0) + (x 1 + sp_b (w 2 1)) + (x 2 - sp_d w s 2) + (x 3 + sp_b (w 2 3)) + s 2 = x 0 + x 1 + x 2 + x 3
    omega
  · show x 0 + sp_b (w 3 0) + (x 1 + sp_b (w 3 1)) + (x 2 + sp_b (w 3 2)) + (x 3 - sp_d w s 3) + s 3 = x 0 + x 1 + x 2 + x 3
    omega
/-- one toppling ahead -/
theorem sp_st {w : Nat → Nat → Bool} {s : Nat → Nat} (G : sp_ok w s) {k : Nat} (hk : k < 4) {x y u : Nat → Nat} (hx : sp_d w s k ≤ x k) (h : sp_S w s (sp_p w s k x) y u) :
    sp_S w s x y (fun j => u j + sp_e k j) := by
  constructor
  · intro i hi
    have h1 := h.1 i hi
    have h2 := sp_pe G hk hx hi
    have h3 := sp_Na w (a := u) (b := sp_e k) (c := fun j => u j + sp_e k j) (fun _ _ => rfl) i
    have h4 := sp_Ma w s (a := u) (b := sp_e k) (c := fun j => u j + sp_e k j) (i := i) rfl
    omega
  · intro v hv
    have hk1 : v k ≠ 0 := by
      intro z
      have h1 := hv k hk
      rw [sp_M0 w s z] at h1
      omega
    have he : ∀ j, v j = (v j - sp_e k j) + sp_e k j := by
      intro j
      unfold sp_e
      by_cases hj : j = k
      · subst hj; rw [if_pos rfl]; omega
      · rw [if_neg hj]; omega
    have hr := h.2 (fun j => v j - sp_e k j) (by
      intro i hi
      have h1 := hv i hi
      have h2 := sp_pe G hk hx hi
      have h3 := sp_Na w (a := fun j => v j - sp_e k j) (b := sp_e k) (c := v) (fun j _ => he j) i
      have h4 := sp_Ma w s (a := fun j => v j - sp_e k j) (b := sp_e k) (c := v) (i := i) (he i)
      omega)
    intro i hi
    have h1 := hr i hi
    have h2 := he i
    try dsimp only at *
    omega
theorem sp_z {w : Nat → Nat → Bool} {s : Nat → Nat} {x : Nat → Nat} (h : ∀ i, i < 4 → x i < sp_d w s i) : sp_S w s x x (fun _ => 0) := by
  constructor
  · intro i hi
    rw [sp_N0 w (a := fun _ => 0) (fun _ _ => rfl) i, sp_M0 w s (a := fun _ => 0) (i := i) rfl]
    exact ⟨rfl, h i hi⟩
  · intro v _ i _
    exact Nat.zero_le _
/-- every state comes to one -/
theorem sp_ex {w : Nat → Nat → Bool} {s : Nat → Nat} (G : sp_ok w s) : ∀ (n : Nat) (x : Nat → Nat), sp_t x ≤ n → ∃ y u, sp_S w s x y u := by
  intro n
  induction n with
  | zero =>
    intro x hx
    refine ⟨x, _, sp_z (fun i hi => ?_)⟩
    have h := (sp_d1 G hi).1
    unfold sp_t at hx
    rcases sp_4 hi with rfl | rfl | rfl | rfl <;> omega
  | succ n ih =>
    intro x hx
    by_cases h : ∀ i, i < 4 → x i < sp_d w s i
    · exact ⟨x, _, sp_z h⟩
    · have h' : ∃ k, k < 4 ∧ sp_d w s k ≤ x k := by
        apply Classical.byContradiction
        intro hn
        apply h
        intro i hi
        apply Classical.byContradiction
        intro hx'
        exact hn ⟨i, hi, by omega⟩
      obtain ⟨k, hk, hx'⟩ := h'
      have ht := sp_pt G hk hx'
      have hs := (G.2.2 k hk).1
      obtain ⟨y, u, hy⟩ := ih (sp_p w s k x) (by omega)
      exact ⟨y, _, sp_st G hk hx' hy⟩
/-- only one -/
theorem sp_un {w : Nat → Nat → Bool} {s : Nat → Nat} {x y u y' u' : Nat → Nat} (h : sp_S w s x y u) (h' : sp_S w s x y' u') :
    ∀ i, i < 4 → u i = u' i ∧ y i = y' i := by
  have a : ∀ i, i < 4 → u i ≤ u' i := h.2 u' (fun i hi => by have := h'.1 i hi; omega)
  have b : ∀ i, i < 4 → u' i ≤ u i := h'.2 u (fun i hi => by have := h.1 i hi; omega)
  have c : ∀ i, i < 4 → u i = u' i := fun i hi => Nat.le_antisymm (a i hi) (b i hi)
  intro i hi
  refine ⟨c i hi, ?_⟩
  have h1 := h.1 i hi
  have h2 := h'.1 i hi
  have h3 := sp_Nc w c i
  have h4 := sp_Mc w s (c i hi)
  omega
theorem sp_cg {w : Nat → Nat → Bool} {s : Nat → Nat} {x y u x' y' u' : Nat → Nat} (h : sp_S w s x y u) (hx : ∀ i, i < 4 → x i = x' i) (hy : ∀ i, i < 4 → y i = y' i)
    (hu : ∀ i, i < 4 → u i = u' i) : sp_S w s x' y' u' := by
  constructor
  · intro i hi
    have h1 := h.1 i hi
    rw [hx i hi, hy i hi, sp_Nc w hu i, sp_Mc w s (hu i hi)] at h1
    exact h1
  · intro v hv i hi
    rw [← hu i hi]
    exact h.2 v (fun i hi => by rw [hx i hi]; exact hv i hi) i hi
/-- first x alone, then with z -/
theorem sp_ab {w : Nat → Nat → Bool} {s : Nat → Nat} {x y u z q v : Nat → Nat} (h : sp_S w s x y u) (h' : sp_S w s (fun i => y i + z i) q v) :
    sp_S w s (fun i => x i + z i) q (fun i => u i + v i) := by
  constructor
  · intro i hi
    have h1 := h.1 i hi
    have h2 := h'.1 i hi
    have h3 := sp_Na w (a := u) (b := v) (c := fun i => u i + v i) (fun _ _ => rfl) i
    have h4 := sp_Ma w s (a := u) (b := v) (c := fun i => u i + v i) (i := i) rfl
    try dsimp only at *
    omega
  · intro t ht
    try dsimp only at *
    have a := h.2 t (fun i hi => by have := ht i hi; omega)
    have he : ∀ j, j < 4 → t j = u j + (t j - u j) := fun j hj => by have := a j hj; omega
    have b := h'.2 (fun j => t j - u j) (by
      intro i hi
      have h0 := ht i hi
      have h1 := h.1 i hi
      have h3 := sp_Na w (a := u) (b := fun j => t j - u j) (c := t) he i
      have h4 := sp_Ma w s (a := u) (b := fun j => t j - u j) (c := t) (i := i) (he i hi)
      try dsimp only
      omega)
    intro i hi
    have h1 := a i hi
    have h2 := b i hi
    try dsimp only at *
    omega
/-- what x + z comes to, what x comes to comes to with z -/
theorem sp_ba {w : Nat → Nat → Bool} {s : Nat → Nat} (G : sp_ok w s) {x y u z q t : Nat → Nat} (h : sp_S w s x y u) (h' : sp_S w s (fun i => x i + z i) q t) :
    ∃ v, sp_S w s (fun i => y i + z i) q v ∧ ∀ i, i < 4 → t i = u i + v i := by
  obtain ⟨q', v, hq⟩ := sp_ex G _ (fun i => y i + z i) (Nat.le_refl _)
  have h2 := sp_un h' (sp_ab h hq)
  exact ⟨v, sp_cg hq (fun _ _ => rfl) (fun i hi => ((h2 i hi).2).symm) (fun _ _ => rfl), fun i hi => (h2 i hi).1⟩
end
section
/-! The full state, recurrent states, the burning test, one recurrent state among those that differ by topplings -/
def sp_f (w : Nat → Nat → Bool) (s : Nat → Nat) (i : Nat) : Nat := sp_d w s i - 1
def sp_R (w : Nat → Nat → Bool) (s : Nat → Nat) (y : Nat → Nat) : Prop := ∃ z u : Nat → Nat, sp_S w s (fun i => sp_f w s i + z i) y u
theorem sp_Rc {w : Nat → Nat → Bool} {s : Nat → Nat} {y y' : Nat → Nat} (h : sp_R w s y) (e : ∀ i, i < 4 → y i = y' i) : sp_R w s y' := by
  obtain ⟨z, u, h⟩ := h
  exact ⟨z, u, sp_cg h (fun _ _ => rfl) e (fun _ _ => rfl)⟩
theorem sp_Rd {w : Nat → Nat → Bool} {s : Nat → Nat} {y : Nat → Nat} (h : sp_R w s y) {i : Nat} (hi : i < 4) : y i < sp_d w s i := by
  obtain ⟨z, u, h⟩ := h
  exact (h.1 i hi).2
theorem sp_ff {w : Nat → Nat → Bool} {s : Nat → Nat} (G : sp_ok w s) : ∀ i, i < 4 → sp_f w s i < sp_d w s i := by
  intro i hi
  have := sp_d1 G hi
  unfold sp_f
  omega
theorem sp_Rf {w : Nat → Nat → Bool} {s : Nat → Nat} (G : sp_ok w s) : sp_R w s (sp_f w s) :=
  ⟨fun _ => 0, fun _ => 0, sp_cg (sp_z (sp_ff G)) (fun _ _ => rfl) (fun _ _ => rfl) (fun _ _ => rfl)⟩
/-- more grains on a recurrent state -/
theorem sp_Ra {w : Nat → Nat → Bool} {s : Nat → Nat} {y z q u : Nat → Nat} (h : sp_R w s y) (h' : sp_S w s (fun i => y i + z i) q u) : sp_R w s q := by
  obtain ⟨z0, u0, h0⟩ := h
  refine ⟨fun i => z0 i + z i, fun i => u0 i + u i, ?_⟩
  exact sp_cg (sp_ab h0 h') (fun i _ => Nat.add_assoc _ _ _) (fun _ _ => rfl) (fun _ _ => rfl)
/-- what has at least the full state's grains -/
theorem sp_Rg {w : Nat → Nat → Bool} {s : Nat → Nat} {x q u : Nat → Nat} (hx : ∀ i, i < 4 → sp_f w s i ≤ x i) (h' : sp_S w s x q u) : sp_R w s q :=
  ⟨fun i => x i - sp_f w s i, u, sp_cg h' (fun i hi => by have := hx i hi; (try dsimp only); omega) (fun _ _ => rfl) (fun _ _ => rfl)⟩
/-- the full state and the sink's grains -/
theorem sp_fs {w : Nat → Nat → Bool} {s : Nat → Nat} (G : sp_ok w s) : sp_S w s (fun i => sp_f w s i + s i) (sp_f w s) (fun _ => 1) := by
  constructor
  · intro i hi
    have h1 := sp_1 w s (a := fun _ => 1) (k := 1) (fun _ _ => rfl) hi
    refine ⟨?_, sp_ff G i hi⟩
    try dsimp only
    omega
  · intro v hv i hi
    have hz : v i ≠ 0 := by
      intro z
      have h1 : sp_f w s i + s i + sp_N w v i < sp_d w s i + sp_M w s v i := hv i hi
      have h2 : sp_f w s i = sp_d w s i - 1 := rfl
      have h3 := (G.2.2 i hi).1
      rw [sp_M0 w s z] at h1
      omega
    show 1 ≤ v i
    omega
/-- a recurrent state and the sink's grains: each place topples once -/
theorem sp_Rs {w : Nat → Nat → Bool} {s : Nat → Nat} (G : sp_ok w s) {y : Nat → Nat} (h : sp_R w s y) : sp_S w s (fun i => y i + s i) y (fun _ => 1) := by
  obtain ⟨z, u, h⟩ := h
  obtain ⟨q, v, hq⟩ := sp_ex G _ (fun i => y i + s i) (Nat.le_refl _)
  have a := sp_ab h hq
  have b := sp_ab (z := z) (sp_fs G) h
  have b' := sp_cg (x' := fun i => sp_f w s i + z i + s i) b (fun i _ => by (try dsimp only); omega) (fun _ _ => rfl) (fun _ _ => rfl)
  have c := sp_un a b'
  exact sp_cg hq (fun _ _ => rfl) (fun i hi => (c i hi).2) (fun i hi => by have := (c i hi).1; (try dsimp only at *); omega)
/-- k times the sink's grains -/
theorem sp_Sk {w : Nat → Nat → Bool} {s : Nat → Nat} {y u : Nat → Nat} (h : sp_S w s (fun i => y i + s i) y u) (hy : ∀ i, i < 4 → y i < sp_d w s i) :
    ∀ k : Nat, sp_S w s (fun i => y i + s i * k) y (fun i => u i * k) := by
  intro k
  induction k with
  | zero => exact sp_cg (sp_z hy) (fun i _ => by simp) (fun _ _ => rfl) (fun i _ => by simp)
  | succ k ih =>
    refine sp_cg (sp_ab ih h) (fun i _ => ?_) (fun _ _ => rfl) (fun i _ => ?_)
    · try dsimp only
      rw [Nat.mul_add]
      omega
    · try dsimp only
      rw [Nat.mul_add]
      omega
/-- the burning test -/
theorem sp_Rb {w : Nat → Nat → Bool} {s : Nat → Nat} (G : sp_ok w s) {y u : Nat → Nat} (h : sp_S w s (fun i => y i + s i) y u) : sp_R w s y := by
  refine sp_Rg (u := fun i => u i * 8) (fun i hi => ?_) (sp_Sk h (fun i hi => (h.1 i hi).2) 8)
  have h1 := sp_d1 G hi
  have h2 := (G.2.2 i hi).1
  unfold sp_f
  try dsimp only
  omega
/-- x and y differ by topplings -/
def sp_E (w : Nat → Nat → Bool) (s : Nat → Nat) (x y : Nat → Nat) : Prop := ∃ a b : Nat → Nat, ∀ i, i < 4 → x i + sp_N w a i + sp_M w s b i = y i + sp_N w b i + sp_M w s a i
theorem sp_Er {w : Nat → Nat → Bool} {s : Nat → Nat} {x y : Nat → Nat} (h : ∀ i, i < 4 → x i = y i) : sp_E w s x y :=
  ⟨fun _ => 0, fun _ => 0, fun i hi => by rw [h i hi]⟩
theorem sp_Es {w : Nat → Nat → Bool} {s : Nat → Nat} {x y : Nat → Nat} (h : sp_E w s x y) : sp_E w s y x := by
  obtain ⟨a, b, h⟩ := h
  exact ⟨b, a, fun i hi => (h i hi).symm⟩
theorem sp_Et {w : Nat → Nat → Bool} {s : Nat → Nat} {x y z : Nat → Nat} (h : sp_E w s x y) (h' : sp_E w s y z) : sp_E w s x z := by
  obtain ⟨a, b, h⟩ := h
  obtain ⟨a', b', h'⟩ := h'
  refine ⟨fun i => a i + a' i, fun i => b i + b' i, fun i hi => ?_⟩
  have h1 := h i hi
  have h2 := h' i hi
  have h3 := sp_Na w (a := a) (b := a') (c := fun i => a i + a' i) (fun _ _ => rfl) i
  have h4 := sp_Na w (a := b) (b := b') (c := fun i => b i + b' i) (fun _ _ => rfl) i
  have h5 := sp_Ma w s (a := a) (b := a') (c := fun i => a i + a' i) (i := i) rfl
  have h6 := sp_Ma w s (a := b) (b := b') (c := fun i => b i + b' i) (i := i) rfl
  omega
theorem sp_Ea {w : Nat → Nat → Bool} {s : Nat → Nat} {x y : Nat → Nat} (z : Nat → Nat) (h : sp_E w s x y) : sp_E w s (fun i => x i + z i) (fun i => y i + z i) := by
  obtain ⟨a, b, h⟩ := h
  exact ⟨a, b, fun i hi => by have := h i hi; (try dsimp only); omega⟩
theorem sp_Ec {w : Nat → Nat → Bool} {s : Nat → Nat} {x y z : Nat → Nat} (h : sp_E w s (fun i => x i + z i) (fun i => y i + z i)) : sp_E w s x y := by
  obtain ⟨a, b, h⟩ := h
  exact ⟨a, b, fun i hi => by have := h i hi; (try dsimp only at *); omega⟩
theorem sp_ES {w : Nat → Nat → Bool} {s : Nat → Nat} {x y u : Nat → Nat} (h : sp_S w s x y u) : sp_E w s x y := by
  refine ⟨u, fun _ => 0, fun i hi => ?_⟩
  have h1 := h.1 i hi
  have h2 := sp_N0 w (a := fun _ => 0) (fun _ _ => rfl) i
  have h3 := sp_M0 w s (a := fun _ => 0) (i := i) rfl
  omega
theorem sp_R1a {w : Nat → Nat → Bool} {s : Nat → Nat} (G : sp_ok w s) {x y a b : Nat → Nat} (hx : sp_R w s x) (hy : sp_R w s y)
    (h : ∀ i, i < 4 → x i + sp_N w a i + sp_M w s b i = y i + sp_N w b i + sp_M w s a i) : ∀ i, i < 4 → a i ≤ b i := by
  have hk : ∃ k, ∀ i, i < 4 → a i ≤ k := by
    refine ⟨a 0 + a 1 + a 2 + a 3, fun i hi => ?_⟩
    rcases sp_4 hi with rfl | rfl | rfl | rfl <;> omega
  obtain ⟨k, hk⟩ := hk
  have hS := sp_Sk (sp_Rs G hy) (fun i hi => sp_Rd hy hi) k
  have hv := hS.2 (fun i => k + b i - a i) (by
    intro i hi
    have h1 := h i hi
    have h2 := sp_Rd hx hi
    have h3 := sp_1 w s (a := fun _ => k) (k := k) (fun _ _ => rfl) hi
    have h4 := sp_Na w (a := fun i => k + b i - a i) (b := a) (c := fun i => k + b i) (fun j hj => by have := hk j hj; (try dsimp only); omega) i
    have h5 := sp_Ma w s (a := fun i => k + b i - a i) (b := a) (c := fun i => k + b i) (i := i) (by have := hk i hi; (try dsimp only); omega)
    have h6 := sp_Na w (a := fun _ => k) (b := b) (c := fun i => k + b i) (fun _ _ => rfl) i
    have h7 := sp_Ma w s (a := fun _ => k) (b := b) (c := fun i => k + b i) (i := i) rfl
    try dsimp only
    omega)
  intro i hi
  have h1 := hv i hi
  have h2 := hk i hi
  try dsimp only at *
  omega
theorem sp_R1 {w : Nat → Nat → Bool} {s : Nat → Nat} (G : sp_ok w s) {x y : Nat → Nat} (hx : sp_R w s x) (hy : sp_R w s y) (h : sp_E w s x y) : ∀ i, i < 4 → x i = y i := by
  obtain ⟨a, b, h⟩ := h
  have h1 := sp_R1a G hx hy h
  have h2 := sp_R1a G hy hx (fun i hi => (h i hi).symm)
  have h3 : ∀ i, i < 4 → a i = b i := fun i hi => Nat.le_antisymm (h1 i hi) (h2 i hi)
  intro i hi
  have h4 := h i hi
  have h5 := sp_Nc w h3 i
  have h6 := sp_Mc w s (h3 i hi)
  omega
end
section
/-! States as numbers; what a state comes to, as a function; group sums, the neutral state, multiples -/
noncomputable def sp_y (w : Nat → Nat → Bool) (s : Nat → Nat) (x : Nat → Nat) : Nat → Nat := Classical.epsilon (fun y : Nat → Nat => ∃ u, sp_S w s x y u)
noncomputable def sp_u (w : Nat → Nat → Bool) (s : Nat → Nat) (x : Nat → Nat) : Nat → Nat := Classical.epsilon (fun u : Nat → Nat => sp_S w s x (sp_y w s x) u)
theorem sp_yu {w : Nat → Nat → Bool} {s : Nat → Nat} (G : sp_ok w s) (x : Nat → Nat) : sp_S w s x (sp_y w s x) (sp_u w s x) :=
  Classical.epsilon_spec (p := fun u : Nat → Nat => sp_S w s x (sp_y w s x) u) (Classical.epsilon_spec (p := fun y : Nat → Nat => ∃ u, sp_S w s x y u) (sp_ex G _ x (Nat.le_refl _)))
def sp_n (p : Nat → Nat) : Nat := 512 * p 0 + 64 * p 1 + 8 * p 2 + p 3
def sp_g (n i : Nat) : Nat := if i = 0 then n / 512 % 8 else if i = 1 then n / 64 % 8 else if i = 2 then n / 8 % 8 else n % 8
theorem sp_g0 (n : Nat) : sp_g n 0 = n / 512 % 8 := rfl
theorem sp_g1 (n : Nat) : sp_g n 1 = n / 64 % 8 := rfl
theorem sp_g2 (n : Nat) : sp_g n 2 = n / 8 % 8 := rfl
theorem sp_g3 (n : Nat) : sp_g n 3 = n % 8 := rfl
theorem sp_ng {n : Nat} (h : n < 4096) : sp_n (sp_g n) = n := by
  unfold sp_n
  rw [sp_g0, sp_g1, sp_g2, sp_g3]
  omega
theorem sp_g8 (n i : Nat) : sp_g n i < 8 := by
  unfold sp_g
  split
  · omega
  · split
    · omega
    · split <;> omega
theorem sp_gn {p : Nat → Nat} (h : ∀ i, i < 4 → p i < 8) : ∀ i, i < 4 → sp_g (sp_n p) i = p i := by
  intro i hi
  have h0 := h 0 (by decide)
  have h1 := h 1 (by decide)
  have h2 := h 2 (by decide)
  have h3 := h 3 (by decide)
  unfold sp_n
  rcases sp_4 hi with rfl | rfl | rfl | rfl
  · rw [sp_g0]; omega
  · rw [sp_g1]; omega
  · rw [sp_g2]; omega
  · rw [sp_g3]; omega
theorem sp_nl {p : Nat → Nat} (h : ∀ i, i < 4 → p i < 8) : sp_n p < 4096 := by
  have h0 := h 0 (by decide)
  have h1 := h 1 (by decide)
  have h2 := h 2 (by decide)
  have h3 := h 3 (by decide)
  unfold sp_n
  omega
theorem sp_nc {p q : Nat → Nat} (h : ∀ i, i < 4 → p i = q i) : sp_n p = sp_n q := by
  unfold sp_n
  rw [h 0 (by decide), h 1 (by decide), h 2 (by decide), h 3 (by decide)]
theorem sp_y8 {w : Nat → Nat → Bool} {s : Nat → Nat} (G : sp_ok w s) (x : Nat → Nat) : ∀ i, i < 4 → sp_y w s x i < 8 := by
  intro i hi
  have h1 := ((sp_yu G x).1 i hi).2
  have h2 := (sp_d1 G hi).2
  omega
/-- stable, recurrent, as numbers -/
def sp_k (w : Nat → Nat → Bool) (s : Nat → Nat) (n : Nat) : Prop := n < 4096 ∧ ∀ i, i < 4 → sp_g n i < sp_d w s i
def sp_r (w : Nat → Nat → Bool) (s : Nat → Nat) (n : Nat) : Prop := n < 4096 ∧ sp_R w s (sp_g n)
noncomputable def sp_a (w : Nat → Nat → Bool) (s : Nat → Nat) (n m : Nat) : Nat := sp_n (sp_y w s (fun i => sp_g n i + sp_g m i))
theorem sp_rk {w : Nat → Nat → Bool} {s : Nat → Nat} {n : Nat} (h : sp_r w s n) : sp_k w s n := ⟨h.1, fun _ hi => sp_Rd h.2 hi⟩
theorem sp_al {w : Nat → Nat → Bool} {s : Nat → Nat} (G : sp_ok w s) (n m : Nat) : sp_a w s n m < 4096 := sp_nl (sp_y8 G _)
theorem sp_ag {w : Nat → Nat → Bool} {s : Nat → Nat} (G : sp_ok w s) (n m : Nat) : ∀ i, i < 4 → sp_g (sp_a w s n m) i = sp_y w s (fun i => sp_g n i + sp_g m i) i := sp_gn (sp_y8 G _)
theorem sp_as {w : Nat → Nat → Bool} {s : Nat → Nat} (G : sp_ok w s) (n m : Nat) :
    sp_S w s (fun i => sp_g n i + sp_g m i) (sp_g (sp_a w s n m)) (sp_u w s (fun i => sp_g n i + sp_g m i)) :=
  sp_cg (sp_yu G _) (fun _ _ => rfl) (fun i hi => (sp_ag G n m i hi).symm) (fun _ _ => rfl)
theorem sp_ac (w : Nat → Nat → Bool) (s : Nat → Nat) (n m : Nat) : sp_a w s n m = sp_a w s m n := by
  unfold sp_a
  rw [show (fun i => sp_g n i + sp_g m i) = (fun i => sp_g m i + sp_g n i) from funext (fun i => Nat.add_comm _ _)]
theorem sp_ak {w : Nat → Nat → Bool} {s : Nat → Nat} (G : sp_ok w s) (n m : Nat) : sp_k w s (sp_a w s n m) := ⟨sp_al G n m, fun i hi => ((sp_as G n m).1 i hi).2⟩
theorem sp_ar {w : Nat → Nat → Bool} {s : Nat → Nat} (G : sp_ok w s) {n : Nat} (h : sp_r w s n) (m : Nat) : sp_r w s (sp_a w s n m) := ⟨sp_al G n m, sp_Ra h.2 (sp_as G n m)⟩
theorem sp_ae {w : Nat → Nat → Bool} {s : Nat → Nat} (G : sp_ok w s) (n m : Nat) : sp_E w s (fun i => sp_g n i + sp_g m i) (sp_g (sp_a w s n m)) := sp_ES (sp_as G n m)
theorem sp_r1 {w : Nat → Nat → Bool} {s : Nat → Nat} (G : sp_ok w s) {n m : Nat} (h : sp_r w s n) (h' : sp_r w s m) (e : sp_E w s (sp_g n) (sp_g m)) : n = m := by
  rw [← sp_ng h.1, ← sp_ng h'.1]
  exact sp_nc (sp_R1 G h.2 h'.2 e)
/-- what comes out is the function's value -/
theorem sp_yn {w : Nat → Nat → Bool} {s : Nat → Nat} (G : sp_ok w s) {x y u : Nat → Nat} (h : sp_S w s x y u) : sp_n y = sp_n (sp_y w s x) := sp_nc (fun i hi => (sp_un h (sp_yu G x) i hi).2)
/-- the full state -/
def sp_F (w : Nat → Nat → Bool) (s : Nat → Nat) : Nat := sp_n (sp_f w s)
theorem sp_f8 {w : Nat → Nat → Bool} {s : Nat → Nat} (G : sp_ok w s) : ∀ i, i < 4 → sp_f w s i < 8 := by
  intro i hi
  have h2 := (sp_d1 G hi).2
  unfold sp_f
  omega
theorem sp_Fr {w : Nat → Nat → Bool} {s : Nat → Nat} (G : sp_ok w s) : sp_r w s (sp_F w s) :=
  ⟨sp_nl (sp_f8 G), sp_Rc (sp_Rf G) (fun i hi => (sp_gn (sp_f8 G) i hi).symm)⟩
/-- the neutral state -/
noncomputable def sp_v (w : Nat → Nat → Bool) (s : Nat → Nat) (i : Nat) : Nat := 2 * sp_f w s i - sp_y w s (fun i => 2 * sp_f w s i) i
noncomputable def sp_o (w : Nat → Nat → Bool) (s : Nat → Nat) : Nat := sp_n (sp_y w s (sp_v w s))
theorem sp_og {w : Nat → Nat → Bool} {s : Nat → Nat} (G : sp_ok w s) : ∀ i, i < 4 → sp_g (sp_o w s) i = sp_y w s (sp_v w s) i := sp_gn (sp_y8 G _)
theorem sp_vf {w : Nat → Nat → Bool} {s : Nat → Nat} (G : sp_ok w s) : ∀ i, i < 4 → sp_y w s (fun i => 2 * sp_f w s i) i ≤ sp_f w s i := by
  intro i hi
  have h := ((sp_yu G (fun i => 2 * sp_f w s i)).1 i hi).2
  have h2 : sp_f w s i = sp_d w s i - 1 := rfl
  omega
theorem sp_or {w : Nat → Nat → Bool} {s : Nat → Nat} (G : sp_ok w s) : sp_r w s (sp_o w s) := by
  refine ⟨sp_nl (sp_y8 G _), sp_Rc (sp_Rg (fun i hi => ?_) (sp_yu G (sp_v w s))) (fun i hi => (sp_og G i hi).symm)⟩
  have h := sp_vf G i hi
  have h2 : sp_v w s i = 2 * sp_f w s i - sp_y w s (fun i => 2 * sp_f w s i) i := rfl
  omega
theorem sp_oe {w : Nat → Nat → Bool} {s : Nat → Nat} (G : sp_ok w s) : sp_E w s (sp_g (sp_o w s)) (fun _ => 0) := by
  have h1 : sp_E w s (sp_v w s) (sp_g (sp_o w s)) := sp_Et (sp_ES (sp_yu G (sp_v w s))) (sp_Er (fun i hi => (sp_og G i hi).symm))
  have h2 : sp_E w s (fun i => 2 * sp_f w s i) (sp_y w s (fun i => 2 * sp_f w s i)) := sp_ES (sp_yu G _)
  have h3 : sp_E w s (fun i => sp_v w s i + sp_y w s (fun i => 2 * sp_f w s i) i) (fun i => 0 + sp_y w s (fun i => 2 * sp_f w s i) i) := by
    refine sp_Et (sp_Er (fun i hi => ?_)) (sp_Et h2 (sp_Er (fun i hi => ?_)))
    · have h := sp_vf G i hi
      have h2 : sp_v w s i = 2 * sp_f w s i - sp_y w s (fun i => 2 * sp_f w s i) i := rfl
      show sp_v w s i + sp_y w s (fun i => 2 * sp_f w s i) i = 2 * sp_f w s i
      omega
    · show sp_y w s (fun i => 2 * sp_f w s i) i = 0 + sp_y w s (fun i => 2 * sp_f w s i) i
      omega
  exact sp_Et (sp_Es h1) (sp_Ec (x := sp_v w s) (y := fun _ => 0) h3)
theorem sp_oa {w : Nat → Nat → Bool} {s : Nat → Nat} (G : sp_ok w s) {n : Nat} (h : sp_r w s n) : sp_a w s (sp_o w s) n = n := by
  refine sp_r1 G (sp_ar G (sp_or G) n) h (sp_Et (sp_Es (sp_ae G _ _)) ?_)
  exact sp_Et (sp_Ea (sp_g n) (sp_oe G)) (sp_Er (fun i _ => Nat.zero_add _))
theorem sp_ou {w : Nat → Nat → Bool} {s : Nat → Nat} (G : sp_ok w s) {n m : Nat} (h : sp_r w s n) (e : sp_a w s n m = m) (hm : sp_r w s m) : n = sp_o w s := by
  refine sp_r1 G h (sp_or G) (sp_Et ?_ (sp_Es (sp_oe G)))
  have h1 := sp_ae G n m
  rw [e] at h1
  exact sp_Ec (z := sp_g m) (sp_Et h1 (sp_Er (fun i _ => (Nat.zero_add _).symm)))
/-- only one opposite -/
theorem sp_op {w : Nat → Nat → Bool} {s : Nat → Nat} (G : sp_ok w s) {n a b : Nat} (ha : sp_r w s a) (hb : sp_r w s b) (ea : sp_a w s a n = sp_o w s) (eb : sp_a w s b n = sp_o w s) : a = b := by
  refine sp_r1 G ha hb ?_
  have h1 := sp_ae G a n
  have h2 := sp_ae G b n
  rw [ea] at h1
  rw [eb] at h2
  exact sp_Ec (z := sp_g n) (sp_Et h1 (sp_Es h2))
/-- multiples: sp_m n k is k + 1 times n -/
noncomputable def sp_m (w : Nat → Nat → Bool) (s : Nat → Nat) (n : Nat) : Nat → Nat
  | 0 => n
  | k + 1 => sp_a w s (sp_m w s n k) n
theorem sp_mr {w : Nat → Nat → Bool} {s : Nat → Nat} (G : sp_ok w s) {n : Nat} (h : sp_r w s n) : ∀ k, sp_r w s (sp_m w s n k) := by
  intro k
  induction k with
  | zero => exact h
  | succ k ih => exact sp_ar G ih n
theorem sp_me {w : Nat → Nat → Bool} {s : Nat → Nat} (G : sp_ok w s) (n : Nat) : ∀ k, sp_E w s (sp_g (sp_m w s n k)) (fun i => sp_g n i * (k + 1)) := by
  intro k
  induction k with
  | zero => exact sp_Er (fun i _ => (Nat.mul_one _).symm)
  | succ k ih =>
    show sp_E w s (sp_g (sp_a w s (sp_m w s n k) n)) (fun i => sp_g n i * (k + 1 + 1))
    refine sp_Et (sp_Es (sp_ae G _ _)) (sp_Et (sp_Ea (sp_g n) ih) (sp_Er (fun i _ => ?_)))
    show sp_g n i * (k + 1) + sp_g n i = sp_g n i * (k + 1 + 1)
    rw [Nat.mul_add (sp_g n i) (k + 1) 1]
    omega
theorem sp_ph : ∀ (n : Nat) (f : Nat → Nat), (∀ i, i ≤ n → f i < n) → ∃ i j, i < j ∧ j ≤ n ∧ f i = f j := by
  intro n
  induction n with
  | zero => intro f h; exact absurd (h 0 (Nat.le_refl _)) (Nat.not_lt_zero _)
  | succ n ih =>
    intro f h
    by_cases hc : ∃ i, i ≤ n ∧ f i = f (n + 1)
    · obtain ⟨i, hi, e⟩ := hc
      exact ⟨i, n + 1, by omega, Nat.le_refl _, e⟩
    · have hc' : ∀ i, i ≤ n → f i ≠ f (n + 1) := fun i hi e => hc ⟨i, hi, e⟩
      obtain ⟨i, j, hij, hj, e⟩ := ih (fun i => if f i = n then f (n + 1) else f i) (by
        intro i hi
        have h1 := hc' i hi
        have h2 := h i (by omega)
        have h3 := h (n + 1) (Nat.le_refl _)
        try dsimp only
        split <;> omega)
      refine ⟨i, j, hij, by omega, ?_⟩
      have h1 := hc' i (by omega)
      have h2 := hc' j hj
      try dsimp only at *
      split at e <;> split at e <;> omega
/-- states with digits below 5, as numbers below 625 -/
def sp_i (n : Nat) : Nat := 125 * sp_g n 0 + 25 * sp_g n 1 + 5 * sp_g n 2 + sp_g n 3
def sp_j (m : Nat) : Nat := 512 * (m / 125) + 64 * (m / 25 % 5) + 8 * (m / 5 % 5) + m % 5
theorem sp_k5 {w : Nat → Nat → Bool} {s : Nat → Nat} (G : sp_ok w s) {n : Nat} (h : sp_k w s n) : sp_i n < 625 ∧ sp_j (sp_i n) = n := by
  have e := sp_ng h.1
  have a0 := h.2 0 (by decide)
  have a1 := h.2 1 (by decide)
  have a2 := h.2 2 (by decide)
  have a3 := h.2 3 (by decide)
  have b0 := (sp_d1 G (i := 0) (by decide)).2
  have b1 := (sp_d1 G (i := 1) (by decide)).2
  have b2 := (sp_d1 G (i := 2) (by decide)).2
  have b3 := (sp_d1 G (i := 3) (by decide)).2
  unfold sp_n at e
  unfold sp_j sp_i
  omega
/-- some multiple below the 626th is the neutral one -/
theorem sp_mo {w : Nat → Nat → Bool} {s : Nat → Nat} (G : sp_ok w s) {n : Nat} (h : sp_r w s n) : ∃ k, k < 625 ∧ sp_m w s n k = sp_o w s := by
  obtain ⟨i, j, hij, hj, e⟩ := sp_ph 625 (fun k => sp_i (sp_m w s n k)) (fun k _ => (sp_k5 G (sp_rk (sp_mr G h k))).1)
  try dsimp only at *
  have e' : sp_m w s n i = sp_m w s n j := by
    rw [← (sp_k5 G (sp_rk (sp_mr G h i))).2, ← (sp_k5 G (sp_rk (sp_mr G h j))).2, e]
  refine ⟨j - i - 1, by omega, sp_r1 G (sp_mr G h _) (sp_or G) (sp_Et (sp_me G n _) (sp_Et ?_ (sp_Es (sp_oe G))))⟩
  have h1 := sp_me G n i
  rw [e'] at h1
  have h2 := sp_Et (sp_Es (sp_me G n j)) h1
  refine sp_Ec (z := fun x => sp_g n x * (i + 1)) (sp_Et (sp_Et (sp_Er (fun x _ => ?_)) h2) (sp_Er (fun x _ => ?_)))
  · show sp_g n x * (j - i - 1 + 1) + sp_g n x * (i + 1) = sp_g n x * (j + 1)
    rw [← Nat.mul_add]
    exact congrArg _ (by omega)
  · show sp_g n x * (i + 1) = 0 + sp_g n x * (i + 1)
    omega
end
section
/-! The set that is reached from the full state by single grains; counting -/
def sp_q (a : Nat) : Nat := if a = 0 then 512 else if a = 1 then 64 else if a = 2 then 8 else 1
theorem sp_qe {a : Nat} (ha : a < 4) : ∀ i, i < 4 → sp_g (sp_q a) i = sp_e a i := by
  intro i hi
  rcases sp_4 ha with rfl | rfl | rfl | rfl <;> rcases sp_4 hi with rfl | rfl | rfl | rfl <;> decide
theorem sp_cl {w : Nat → Nat → Bool} {s : Nat → Nat} (G : sp_ok w s) (P : Nat → Prop) (hF : P (sp_F w s))
    (hs : ∀ n, n < 4096 → P n → ∀ a, a < 4 → P (sp_a w s n (sp_q a))) :
    ∀ (t : Nat) (z y u : Nat → Nat), sp_t z ≤ t → sp_S w s (fun i => sp_f w s i + z i) y u → P (sp_n y) := by
  have zero : ∀ z y u : Nat → Nat, (∀ i, i < 4 → z i = 0) → sp_S w s (fun i => sp_f w s i + z i) y u → P (sp_n y) := by
    intro z y u hz h
    have h1 := sp_cg (x' := sp_f w s) h (fun i hi => by show sp_f w s i + z i = sp_f w s i; rw [hz i hi]; rfl) (fun _ _ => rfl) (fun _ _ => rfl)
    have h2 : sp_n y = sp_F w s := sp_nc (fun i hi => (sp_un h1 (sp_z (sp_ff G)) i hi).2)
    rw [h2]
    exact hF
  intro t
  induction t with
  | zero =>
    intro z y u hz h
    refine zero z y u (fun i hi => ?_) h
    unfold sp_t at hz
    rcases sp_4 hi with rfl | rfl | rfl | rfl <;> omega
  | succ t ih =>
    intro z y u hz h
    by_cases hz0 : ∀ i, i < 4 → z i = 0
    · exact zero z y u hz0 h
    · have h' : ∃ k, k < 4 ∧ 1 ≤ z k := by
        apply Classical.byContradiction
        intro hn
        apply hz0
        intro i hi
        apply Classical.byContradiction
        intro hx'
        exact hn ⟨i, hi, by omega⟩
      obtain ⟨k, hk, hzk⟩ := h'
      have he : ∀ j, z j = (z j - sp_e k j) + sp_e k j := by
        intro j
        unfold sp_e
        by_cases hj : j = k
        · subst hj; rw [if_pos rfl]; omega
        · rw [if_neg hj]; omega
      have ht : sp_t (fun j => z j - sp_e k j) ≤ t := by
        unfold sp_t at hz ⊢
        unfold sp_e
        rcases sp_4 hk with rfl | rfl | rfl | rfl <;> simp <;> omega
      have hy := sp_yu G (fun i => sp_f w s i + (z i - sp_e k i))
      have hP := ih _ _ _ ht hy
      have hP2 := hs _ (sp_nl (sp_y8 G _)) hP k hk
      have hA := sp_as G (sp_n (sp_y w s (fun i => sp_f w s i + (z i - sp_e k i)))) (sp_q k)
      have hB := sp_cg (x' := fun i => sp_y w s (fun i => sp_f w s i + (z i - sp_e k i)) i + sp_e k i) hA
        (fun i hi => by (try dsimp only); rw [sp_gn (sp_y8 G _) i hi, sp_qe hk i hi]) (fun _ _ => rfl) (fun _ _ => rfl)
      have hC := sp_cg (x' := fun i => sp_f w s i + z i) (sp_ab hy hB) (fun i hi => by have := he i; (try dsimp only); omega) (fun _ _ => rfl) (fun _ _ => rfl)
      have hD : sp_n y = sp_a w s (sp_n (sp_y w s (fun i => sp_f w s i + (z i - sp_e k i)))) (sp_q k) := by
        rw [← sp_ng (sp_al G (sp_n (sp_y w s (fun i => sp_f w s i + (z i - sp_e k i)))) (sp_q k))]
        exact sp_nc (fun i hi => (sp_un h hC i hi).2)
      rw [hD]
      exact hP2
theorem sp_cr {w : Nat → Nat → Bool} {s : Nat → Nat} (G : sp_ok w s) (P : Nat → Prop) (hF : P (sp_F w s))
    (hs : ∀ n, n < 4096 → P n → ∀ a, a < 4 → P (sp_a w s n (sp_q a))) {n : Nat} (h : sp_r w s n) : P n := by
  obtain ⟨hn, z, u, h⟩ := h
  rw [← sp_ng hn]
  exact sp_cl G P hF hs _ z _ u (Nat.le_refl _) h
/-- how many k below n there are -/
def sp_c (f : Nat → Bool) : Nat → Nat
  | 0 => 0
  | n + 1 => sp_c f n + sp_b (f n)
theorem sp_cn (f : Nat → Bool) : ∀ n, sp_c f n ≤ n := by
  intro n
  induction n with
  | zero => exact Nat.le_refl _
  | succ n ih =>
    have := sp_b1 (f n)
    show sp_c f n + sp_b (f n) ≤ n + 1
    omega
theorem sp_cm {f g : Nat → Bool} (h : ∀ i, f i = true → g i = true) : ∀ n, sp_c f n ≤ sp_c g n := by
  intro n
  induction n with
  | zero => exact Nat.le_refl _
  | succ n ih =>
    have h1 : sp_b (f n) ≤ sp_b (g n) := by
      cases e : f n with
      | false => exact Nat.zero_le _
      | true => rw [h n e]; exact Nat.le_refl _
    show sp_c f n + sp_b (f n) ≤ sp_c g n + sp_b (g n)
    omega
theorem sp_cs {f g : Nat → Bool} (h : ∀ i, f i = true → g i = true) {k : Nat} (hf : f k = false) (hg : g k = true) : ∀ n, k < n → sp_c f n + 1 ≤ sp_c g n := by
  intro n
  induction n with
  | zero => intro hk; omega
  | succ n ih =>
    intro hk
    by_cases e : k = n
    · subst e
      have h1 := sp_cm h k
      show sp_c f k + sp_b (f k) + 1 ≤ sp_c g k + sp_b (g k)
      rw [hf, hg, show sp_b false = 0 from rfl, show sp_b true = 1 from rfl]
      omega
    · have h1 := ih (by omega)
      have h2 : sp_b (f n) ≤ sp_b (g n) := by
        cases e : f n with
        | false => exact Nat.zero_le _
        | true => rw [h n e]; exact Nat.le_refl _
      show sp_c f n + sp_b (f n) + 1 ≤ sp_c g n + sp_b (g n)
      omega
theorem sp_ce {f g : Nat → Bool} : ∀ n, (∀ i, i < n → f i = g i) → sp_c f n = sp_c g n := by
  intro n
  induction n with
  | zero => intro _; rfl
  | succ n ih =>
    intro h
    show sp_c f n + sp_b (f n) = sp_c g n + sp_b (g n)
    rw [ih (fun i hi => h i (by omega)), h n (by omega)]
noncomputable def sp_rb (w : Nat → Nat → Bool) (s : Nat → Nat) (n : Nat) : Bool := @decide (sp_r w s n) (Classical.propDecidable _)
theorem sp_rbt {w : Nat → Nat → Bool} {s : Nat → Nat} {n : Nat} : sp_rb w s n = true ↔ sp_r w s n := by
  exact ⟨fun h => @of_decide_eq_true _ (Classical.propDecidable _) h, fun h => @decide_eq_true _ (Classical.propDecidable _) h⟩
theorem sp_rbf {w : Nat → Nat → Bool} {s : Nat → Nat} {n : Nat} : sp_rb w s n = false ↔ ¬ sp_r w s n := by
  exact ⟨fun h => @of_decide_eq_false _ (Classical.propDecidable _) h, fun h => @decide_eq_false _ (Classical.propDecidable _) h⟩
end
section
/-! A run of topplings, as the loops make it: from p0 to p with c topplings so far -/
def sp_Z (w : Nat → Nat → Bool) (s : Nat → Nat) (p0 p : Nat → Nat) (c : Nat) : Prop :=
  ∃ t : Nat → Nat, sp_t t = c ∧ (∀ q u, sp_S w s p q u → sp_S w s p0 q (fun i => u i + t i)) ∧ sp_t p + c ≤ sp_t p0
theorem sp_Z0 (w : Nat → Nat → Bool) (s : Nat → Nat) (p0 : Nat → Nat) : sp_Z w s p0 p0 0 :=
  ⟨fun _ => 0, rfl, fun _ _ h => h, Nat.le_refl _⟩
theorem sp_te {k : Nat} (hk : k < 4) : sp_t (sp_e k) = 1 := by
  rcases sp_4 hk with rfl | rfl | rfl | rfl <;> rfl
theorem sp_Z1 {w : Nat → Nat → Bool} {s : Nat → Nat} (G : sp_ok w s) {p0 p : Nat → Nat} {c k : Nat} (h : sp_Z w s p0 p c) (hk : k < 4) (hx : sp_d w s k ≤ p k) :
    sp_Z w s p0 (sp_p w s k p) (c + 1) := by
  obtain ⟨t, ht, hS, hc⟩ := h
  refine ⟨fun i => sp_e k i + t i, ?_, fun q u h => ?_, ?_⟩
  · have h1 : sp_e k 0 + sp_e k 1 + sp_e k 2 + sp_e k 3 = 1 := sp_te hk
    have h2 : t 0 + t 1 + t 2 + t 3 = c := ht
    show sp_e k 0 + t 0 + (sp_e k 1 + t 1) + (sp_e k 2 + t 2) + (sp_e k 3 + t 3) = c + 1
    omega
  · exact sp_cg (hS q _ (sp_st G hk hx h)) (fun _ _ => rfl) (fun _ _ => rfl) (fun i _ => Nat.add_assoc _ _ _)
  · have h1 := sp_pt G hk hx
    have h2 := (G.2.2 k hk).1
    omega
theorem sp_Zt {w : Nat → Nat → Bool} {s : Nat → Nat} {p0 p : Nat → Nat} {c : Nat} (h : sp_Z w s p0 p c) : sp_t p + c ≤ sp_t p0 := by
  obtain ⟨t, _, _, h⟩ := h
  exact h
theorem sp_Ze {w : Nat → Nat → Bool} {s : Nat → Nat} (G : sp_ok w s) {p0 p : Nat → Nat} {c : Nat} (h : sp_Z w s p0 p c) (hp : ∀ i, i < 4 → p i < sp_d w s i) :
    c = sp_t (sp_u w s p0) ∧ ∀ i, i < 4 → p i = sp_y w s p0 i := by
  obtain ⟨t, ht, hS, _⟩ := h
  have h1 := sp_un (hS p _ (sp_z hp)) (sp_yu G p0)
  refine ⟨?_, fun i hi => (h1 i hi).2⟩
  have a0 : 0 + t 0 = sp_u w s p0 0 := (h1 0 (by decide)).1
  have a1 : 0 + t 1 = sp_u w s p0 1 := (h1 1 (by decide)).1
  have a2 : 0 + t 2 = sp_u w s p0 2 := (h1 2 (by decide)).1
  have a3 : 0 + t 3 = sp_u w s p0 3 := (h1 3 (by decide)).1
  have h2 : t 0 + t 1 + t 2 + t 3 = c := ht
  show c = sp_u w s p0 0 + sp_u w s p0 1 + sp_u w s p0 2 + sp_u w s p0 3
  omega
theorem sp_yc {w : Nat → Nat → Bool} {s : Nat → Nat} (G : sp_ok w s) {p q : Nat → Nat} (h : ∀ i, i < 4 → p i = q i) :
    sp_t (sp_u w s p) = sp_t (sp_u w s q) ∧ ∀ i, i < 4 → sp_y w s p i = sp_y w s q i := by
  have h1 := sp_un (sp_yu G p) (sp_cg (sp_yu G q) (fun i hi => (h i hi).symm) (fun _ _ => rfl) (fun _ _ => rfl))
  refine ⟨?_, fun i hi => (h1 i hi).2⟩
  have a0 := (h1 0 (by decide)).1
  have a1 := (h1 1 (by decide)).1
  have a2 := (h1 2 (by decide)).1
  have a3 := (h1 3 (by decide)).1
  show sp_u w s p 0 + sp_u w s p 1 + sp_u w s p 2 + sp_u w s p 3 = sp_u w s q 0 + sp_u w s q 1 + sp_u w s q 2 + sp_u w s q 3
  omega
/-! Int32 against Nat -/
/-- the array's first four cells -/
def sp_A (a : Nat → Int32) (p : Nat → Nat) : Prop := ∀ i, i < 4 → a i = nI (p i)
theorem sp_Au {a : Nat → Int32} {p q : Nat → Nat} {k x : Nat} (h : sp_A a p) (hq : ∀ i, i < 4 → q i = if i = k then x else p i) : sp_A (upd a k (nI x)) q := by
  intro i hi
  rw [hq i hi]
  by_cases e : i = k
  · rw [if_pos e, e, pk_us]
  · rw [if_neg e, pk_un e, h i hi]
theorem hw_shX {n i : Nat} (hn : n < 2 ^ 31) (hi : i < 4) : (nI n >>> ((3 * (3 - nI i)) &&& 31)) &&& 7 = nI (sp_g n i) := by
  rcases sp_4 hi with rfl | rfl | rfl | rfl
  · rw [pk_shrN hn _ 9 (by decide), pk_andN (Nat.lt_of_le_of_lt (Nat.div_le_self _ _) (by omega)) 3 (by decide)]; rfl
  · rw [pk_shrN hn _ 6 (by decide), pk_andN (Nat.lt_of_le_of_lt (Nat.div_le_self _ _) (by omega)) 3 (by decide)]; rfl
  · rw [pk_shrN hn _ 3 (by decide), pk_andN (Nat.lt_of_le_of_lt (Nat.div_le_self _ _) (by omega)) 3 (by decide)]; rfl
  · rw [pk_shrN hn _ 0 (by decide), pk_andN (Nat.lt_of_le_of_lt (Nat.div_le_self _ _) (by omega)) 3 (by decide), Nat.pow_zero, Nat.div_one]; rfl
theorem hw_shY {n i : Nat} (hn : n < 2 ^ 31) (hi : i < 4) : (nI n >>> ((9 - 3 * nI i) &&& 31)) &&& 7 = nI (sp_g n i) := by
  rcases sp_4 hi with rfl | rfl | rfl | rfl
  · rw [pk_shrN hn _ 9 (by decide), pk_andN (Nat.lt_of_le_of_lt (Nat.div_le_self _ _) (by omega)) 3 (by decide)]; rfl
  · rw [pk_shrN hn _ 6 (by decide), pk_andN (Nat.lt_of_le_of_lt (Nat.div_le_self _ _) (by omega)) 3 (by decide)]; rfl
  · rw [pk_shrN hn _ 3 (by decide), pk_andN (Nat.lt_of_le_of_lt (Nat.div_le_self _ _) (by omega)) 3 (by decide)]; rfl
  · rw [pk_shrN hn _ 0 (by decide), pk_andN (Nat.lt_of_le_of_lt (Nat.div_le_self _ _) (by omega)) 3 (by decide), Nat.pow_zero, Nat.div_one]; rfl
/-- the neighbours as bits -/
def sp_M4 (w : Nat → Nat → Bool) (i : Nat) : Nat := sp_b (w i 0) + 2 * sp_b (w i 1) + 4 * sp_b (w i 2) + 8 * sp_b (w i 3)
theorem hw_bits : ∀ b0 b1 b2 b3 : Bool, ∀ j : Nat, j < 4 → (nI (sp_b b0 + 2 * sp_b b1 + 4 * sp_b b2 + 8 * sp_b b3) >>> (nI j &&& 31)) &&& 1 = nI (sp_b (if j = 0 then b0 else if j = 1 then b1 else if j = 2 then b2 else b3)) := by
  intro b0 b1 b2 b3 j hj
  rcases sp_4 hj with rfl | rfl | rfl | rfl <;> cases b0 <;> cases b1 <;> cases b2 <;> cases b3 <;> decide
theorem hw_in (w : Nat → Nat → Bool) (i : Nat) {j : Nat} (hj : j < 4) : (nI (sp_M4 w i) >>> (nI j &&& 31)) &&& 1 = nI (sp_b (w i j)) := by
  have h := hw_bits (w i 0) (w i 1) (w i 2) (w i 3) j hj
  unfold sp_M4
  rw [h]
  rcases sp_4 hj with rfl | rfl | rfl | rfl <;> rfl
theorem hw_or : ∀ b0 b1 b2 b3 : Bool, ∀ j : Nat, j < 4 → nI (sp_b b0 + 2 * sp_b b1 + 4 * sp_b b2 + 8 * sp_b b3) ||| (1 <<< (nI j &&& 31)) =
    nI (sp_b (if j = 0 then true else b0) + 2 * sp_b (if j = 1 then true else b1) + 4 * sp_b (if j = 2 then true else b2) + 8 * sp_b (if j = 3 then true else b3)) := by
  intro b0 b1 b2 b3 j hj
  rcases sp_4 hj with rfl | rfl | rfl | rfl <;> cases b0 <;> cases b1 <;> cases b2 <;> cases b3 <;> decide
theorem hw_an : ∀ b0 b1 b2 b3 : Bool, ∀ j : Nat, j < 4 → nI (sp_b b0 + 2 * sp_b b1 + 4 * sp_b b2 + 8 * sp_b b3) &&& ((1 <<< (nI j &&& 31)) ^^^ (-1)) =
    nI (sp_b (if j = 0 then false else b0) + 2 * sp_b (if j = 1 then false else b1) + 4 * sp_b (if j = 2 then false else b2) + 8 * sp_b (if j = 3 then false else b3)) := by
  intro b0 b1 b2 b3 j hj
  rcases sp_4 hj with rfl | rfl | rfl | rfl <;> cases b0 <;> cases b1 <;> cases b2 <;> cases b3 <;> decide
end
section
/-! The component's private methods, each against the pure picture -/
def sp_B (a f : Nat → Int32) (g : Nat → Nat) (k : Nat) : Prop := ∀ i, i < 4 → a i = if i < k then nI (g i) else f i
theorem sp_B0 (a : Nat → Int32) (g : Nat → Nat) : sp_B a a g 0 := fun i _ => (if_neg (Nat.not_lt_zero i)).symm
theorem sp_Bk {a f : Nat → Int32} {g : Nat → Nat} {k : Nat} (h : sp_B a f g k) (hk : k < 4) : a k = f k := (h k hk).trans (if_neg (Nat.lt_irrefl k))
theorem sp_B1 {a f : Nat → Int32} {g : Nat → Nat} {k : Nat} (h : sp_B a f g k) : sp_B (upd a k (nI (g k))) f g (k + 1) := by
  intro i hi
  by_cases e : i = k
  · rw [e, pk_us, if_pos (Nat.lt_succ_self k)]
  · rw [pk_un e, h i hi]
    by_cases l : i < k
    · rw [if_pos l, if_pos (by omega)]
    · rw [if_neg l, if_neg (by omega)]
theorem sp_Bn {a f : Nat → Int32} {g : Nat → Nat} {k : Nat} (h : sp_B a f g k) (he : f k = nI (g k)) : sp_B a f g (k + 1) := by
  intro i hi
  rw [h i hi]
  by_cases e : i = k
  · rw [e, if_neg (Nat.lt_irrefl k), if_pos (Nat.lt_succ_self k), he]
  · by_cases l : i < k
    · rw [if_pos l, if_pos (by omega)]
    · rw [if_neg l, if_neg (by omega)]
theorem sp_B4 {a f : Nat → Int32} {g : Nat → Nat} (h : sp_B a f g 4) : sp_A a g := fun i hi => (h i hi).trans (if_pos hi)
theorem hx_c4 {k : Nat} (h : k < 4) : ¬ (4 : Int32) ≤ nI k := nI_ge (b := 4) h (by decide)
theorem hx_e4 : (4 : Int32) ≤ nI 4 := nI_le (Nat.le_refl 4) (by decide)
theorem hx_in {k : Nat} (h : k < 4) : vp_in (nI k) 4 := vp_in_nI h (by decide)
theorem hx_cl {k : Nat} (h : k < 4) : (nI k).toNatClampNeg = k := nI_clamp (by omega)
theorem hx_ix (p k : Nat) : nI p * 4 + nI k = nI (p * 4 + k) := by
  show nI p * nI 4 + nI k = _
  rw [pk_mul, nI_add]
theorem hx_ic {p k : Nat} (hp : p < 4) (hk : k < 4) : (nI p * 4 + nI k).toNatClampNeg = p * 4 + k := by rw [hx_ix, nI_clamp (by omega)]
theorem hx_ii {p k : Nat} (hp : p < 4) (hk : k < 4) : vp_in (nI p * 4 + nI k) 16 := by
  rw [hx_ix]
  exact vp_in_nI (by omega) (by decide)
def sp_J (aj : Nat → Int32) (w : Nat → Nat → Bool) : Prop := ∀ i j, i < 4 → j < 4 → aj (i * 4 + j) = nI (sp_b (w i j))
def sp_D (w : Nat → Nat → Bool) (s : Nat → Nat) (p : Nat) : Nat → Nat
  | 0 => s p
  | k + 1 => sp_D w s p k + sp_b (w p k)
theorem hx_01 : ¬ (1 : Int32) = 0 := by decide
section
variable {w : Nat → Nat → Bool} {s : Nat → Nat} {c : Int32} {aj sk ap : Nat → Int32}
theorem xw_clear {post : SX → Prop} (h : ∀ a, sp_A a (fun _ => 0) → post (c, aj, sk, a)) : wpX_clearPile post (c, aj, sk, ap) := by
  refine loop_0 (σ := Nat → Int32) (fun n i a => wX_clearPile_2 post c n (nI i) aj sk a) (fun i a => sp_B a ap (fun _ => 0) i) 4 ap (sp_B0 _ _) ?_ ?_
  · intro n a hI
    exact br_t hx_e4 (h a (sp_B4 hI))
  · intro n i a hi hI hk
    exact br_f (hx_c4 hi) ⟨hx_in hi, nm_r (e' := upd a i (nI 0)) (by rw [hx_cl hi]; rfl) (nm_r (nI_1 i) (hk _ (sp_B1 hI)))⟩
theorem xw_addp {post : SX → Prop} {p : Nat → Nat} {n0 : Nat} (A : sp_A ap p) (hn : n0 < 4096) (h : ∀ a, sp_A a (fun i => p i + sp_g n0 i) → post (c, aj, sk, a)) :
    wpX_addToPile post (c, aj, sk, ap) (nI n0) := by
  refine loop_0 (σ := Nat → Int32) (fun n i a => wX_addToPile_2 post (nI n0) c n (nI i) aj sk a) (fun i a => sp_B a ap (fun i => p i + sp_g n0 i) i) 4 ap (sp_B0 _ _) ?_ ?_
  · intro n a hI
    exact br_t hx_e4 (h a (sp_B4 hI))
  · intro n i a hi hI hk
    refine br_f (hx_c4 hi) ⟨hx_in hi, And.intro (hx_in hi) (nm_r (e' := upd a i (nI (p i + sp_g n0 i))) ?_ (nm_r (nI_1 i) (hk _ (sp_B1 hI))))⟩
    rw [hx_cl hi, hw_shX (by omega) hi, sp_Bk hI hi, A i hi, nI_add]
theorem xw_deg {post : Int32 → Prop} {p : Nat} (J : sp_J aj w) (S : sp_A sk s) (hp : p < 4) (h : post (nI (sp_d w s p))) : wpX_countEdges post (c, aj, sk, ap) (nI p) := by
  refine And.intro (hx_in hp) (nm_r (e' := nI (s p)) (by rw [hx_cl hp, S p hp]) ?_)
  refine loop_0 (σ := Int32) (fun n i x => wX_countEdges_9 post (nI p) c aj sk ap n x (nI i)) (fun i x => x = nI (sp_D w s p i)) 4 (nI (s p)) rfl ?_ ?_
  · intro n x hx
    exact br_t hx_e4 (by rw [hx]; exact h)
  · intro n i x hi hx hk
    refine br_f (hx_c4 hi) ⟨hx_ii hp hi, ?_⟩
    cases b : w p i with
    | true =>
      have hj : aj (p * 4 + i) = 1 := by rw [J p i hp hi, b]; rfl
      refine br_f (by rw [hx_ic hp hi, hj]; exact hx_01) (nm_r (e' := nI (sp_D w s p (i + 1))) ?_ (nm_r (nI_1 i) (hk _ rfl)))
      rw [hx]
      show nI (sp_D w s p i) + 1 = nI (sp_D w s p i + sp_b (w p i))
      rw [b, nI_1]
      rfl
    | false =>
      have hj : aj (p * 4 + i) = 0 := by rw [J p i hp hi, b]; rfl
      refine br_t (by rw [hx_ic hp hi, hj]) (nm_r (nI_1 i) (hk _ ?_))
      rw [hx]
      show nI (sp_D w s p i) = nI (sp_D w s p i + sp_b (w p i))
      rw [b]
      rfl
theorem xw_topple {post : SX → Prop} {p : Nat → Nat} {k : Nat} (G : sp_ok w s) (J : sp_J aj w) (A : sp_A ap p) (hk : k < 4) (hx : sp_d w s k ≤ p k)
    (h : ∀ a, sp_A a (sp_p w s k p) → post (c, aj, sk, a)) : wpX_topple post (c, aj, sk, ap) (nI k) (nI (sp_d w s k)) := by
  refine And.intro (hx_in hk) (And.intro (hx_in hk) (nm_r (e' := upd ap k (nI (p k - sp_d w s k))) (by rw [hx_cl hk, A k hk, pk_sub hx]) ?_))
  refine loop_0 (σ := Nat → Int32) (fun n i a => wX_topple_12 post (nI k) c n (nI i) aj sk a) (fun i a => sp_B a (upd ap k (nI (p k - sp_d w s k))) (sp_p w s k p) i) 4 _ (sp_B0 _ _) ?_ ?_
  · intro n a hI
    exact br_t hx_e4 (h a (sp_B4 hI))
  · intro n i a hi hI hn
    refine br_f (hx_c4 hi) ⟨hx_ii hk hi, ?_⟩
    cases b : w k i with
    | true =>
      have hj : aj (k * 4 + i) = 1 := by rw [J k i hk hi, b]; rfl
      have hne : i ≠ k := by
        intro e
        rw [e, G.2.1 k hk] at b
        exact Bool.noConfusion b
      refine br_f (by rw [hx_ic hk hi, hj]; exact hx_01) ⟨hx_in hi, hx_in hi, nm_r (e' := upd a i (nI (sp_p w s k p i))) ?_ (nm_r (nI_1 i) (hn _ (sp_B1 hI)))⟩
      rw [hx_cl hi, sp_Bk hI hi, pk_un hne, A i hi, nI_1]
      unfold sp_p
      rw [if_neg hne, b]
      rfl
    | false =>
      have hj : aj (k * 4 + i) = 0 := by rw [J k i hk hi, b]; rfl
      refine br_t (by rw [hx_ic hk hi, hj]) (nm_r (nI_1 i) (hn _ (sp_Bn hI ?_)))
      unfold sp_p
      by_cases e : i = k
      · rw [if_pos e, e, pk_us]
      · rw [if_neg e, pk_un e, A i hi, b]
        rfl
theorem xw_num {post : Int32 → Prop} {p : Nat → Nat} (A : sp_A ap p) (hp : ∀ i, i < 4 → p i < 8) (h : post (nI (sp_n p))) : wpX_pileNumber post (c, aj, sk, ap) := by
  refine loop_0 (σ := Int32) (fun n i x => wX_pileNumber_4 post c aj sk ap n x (nI i))
    (fun i x => x = nI (if i = 0 then 0 else if i = 1 then p 0 else if i = 2 then 8 * p 0 + p 1 else if i = 3 then 64 * p 0 + 8 * p 1 + p 2 else sp_n p)) 4 0 rfl ?_ ?_
  · intro n x hx
    exact br_t hx_e4 (by rw [hx]; exact h)
  · intro n i x hi hx hk
    refine br_f (hx_c4 hi) ⟨hx_in hi, nm_r rfl (nm_r (nI_1 i) (hk _ ?_))⟩
    have h0 := hp 0 (by decide)
    have h1 := hp 1 (by decide)
    have h2 := hp 2 (by decide)
    rw [hx, hx_cl hi, A i hi]
    rcases sp_4 hi with rfl | rfl | rfl | rfl
    · show nI 0 <<< ((3 : Int32) &&& 31) + nI (p 0) = nI (p 0)
      rw [pk_shlN _ 3 (by decide) (by decide), nI_add]
      exact congrArg nI (by omega)
    · show nI (p 0) <<< ((3 : Int32) &&& 31) + nI (p 1) = nI (8 * p 0 + p 1)
      rw [pk_shlN _ 3 (by decide) (by omega), nI_add]
      exact congrArg nI (by omega)
    · show nI (8 * p 0 + p 1) <<< ((3 : Int32) &&& 31) + nI (p 2) = nI (64 * p 0 + 8 * p 1 + p 2)
      rw [pk_shlN _ 3 (by decide) (by omega), nI_add]
      exact congrArg nI (by omega)
    · show nI (64 * p 0 + 8 * p 1 + p 2) <<< ((3 : Int32) &&& 31) + nI (p 3) = nI (sp_n p)
      rw [pk_shlN _ 3 (by decide) (by omega), nI_add]
      exact congrArg nI (by unfold sp_n; omega)
end
end
section
/-! The component's settling and what stands on it -/
section
variable {w : Nat → Nat → Bool} {s : Nat → Nat} {c : Int32} {aj sk ap : Nat → Int32}
/-- what a sweep keeps: from pile pS with cS topplings -/
def sp_I (w : Nat → Nat → Bool) (s p0 pS : Nat → Nat) (cS i : Nat) (x m : Int32) (a : Nat → Int32) : Prop :=
  ∃ p k, x = nI k ∧ sp_A a p ∧ sp_Z w s p0 p k ∧ ((m = 0 ∧ p = pS ∧ k = cS ∧ ∀ j, j < i → p j < sp_d w s j) ∨ (m = 1 ∧ cS + 1 ≤ k))
theorem xw_sw {post : Int32 → SX → Prop} {J6 : Int32 → Int32 → Int32 → Int32 → (Nat → Int32) → (Nat → Int32) → (Nat → Int32) → Prop} {p0 pS : Nat → Nat} {cS : Nat} {x3 : Int32}
    (G : sp_ok w s) (J : sp_J aj w) (S : sp_A sk s) (A : sp_A ap pS) (Z : sp_Z w s p0 pS cS) (hb : sp_t p0 ≤ 1050)
    (h : ∀ x m a, sp_I w s p0 pS cS 4 x m a → J6 x m (x3 + 1) c aj sk a) : ∃ n, wX_settlePile_21 post J6 x3 n (nI cS) 0 0 c aj sk ap := by
  refine loop_0 (σ := Int32 × Int32 × (Nat → Int32)) (fun n i t => wX_settlePile_21 post J6 x3 n t.1 t.2.1 (nI i) c aj sk t.2.2) (fun i t => sp_I w s p0 pS cS i t.1 t.2.1 t.2.2) 4 (nI cS, 0, ap)
    ⟨pS, cS, rfl, A, Z, Or.inl ⟨rfl, rfl, rfl, fun j hj => absurd hj (Nat.not_lt_zero j)⟩⟩ ?_ ?_
  · intro n t hI
    exact br_t hx_e4 (nm_e (h _ _ _ hI))
  · intro n i t hi hI hn
    obtain ⟨x, m, a⟩ := t
    obtain ⟨p, k, ex, Ap, Zp, hc⟩ := hI
    dsimp only at ex Ap hc
    refine br_f (hx_c4 hi) (xw_deg J S hi (And.intro (hx_in hi) ?_))
    have hl : p i ≤ 1050 := by
      have h1 := sp_Zt Zp
      unfold sp_t at h1 hb
      rcases sp_4 hi with rfl | rfl | rfl | rfl <;> omega
    have hd := (sp_d1 G hi).2
    have hv : a (nI i).toNatClampNeg = nI (p i) := by rw [hx_cl hi, Ap i hi]
    by_cases l : p i < sp_d w s i
    · refine br_t (by dsimp only; rw [hv]; exact nI_lt l (by omega)) (nm_r (nI_1 i) (hn (x, m, a) ⟨p, k, ex, Ap, Zp, ?_⟩))
      rcases hc with ⟨a1, a2, a3, a4⟩ | hc
      · refine Or.inl ⟨a1, a2, a3, fun j hj => ?_⟩
        by_cases e : j = i
        · rw [e]; exact l
        · exact a4 j (by omega)
      · exact Or.inr hc
    · refine br_f (by dsimp only; rw [hv]; exact nI_nlt (by omega) (by omega)) (xw_topple G J Ap hi (by omega) fun a' A' => ?_)
      refine nm_r (e' := nI (k + 1)) (by rw [ex, nI_1]) (nm_r (nI_1 i) (hn (nI (k + 1), 1, a') ⟨sp_p w s i p, k + 1, rfl, A', sp_Z1 G Zp hi (by omega), Or.inr ⟨rfl, ?_⟩⟩))
      rcases hc with ⟨_, _, a3, _⟩ | ⟨_, hc⟩ <;> omega
theorem xw_st6 {post : Int32 → SX → Prop} {n : Nat} {x1 x3 : Int32} (h : post x1 (c, aj, sk, ap)) : wX_settlePile_6 post (n + 1) x1 0 x3 c aj sk ap :=
  br_c (fun _ => h) (fun _ => br_t rfl h)
theorem xw_out {post : Int32 → SX → Prop} {p0 : Nat → Nat} (G : sp_ok w s) (J : sp_J aj w) (S : sp_A sk s) (hb : sp_t p0 ≤ 1050)
    (h : ∀ a, sp_A a (sp_y w s p0) → post (nI (sp_t (sp_u w s p0))) (c, aj, sk, a)) :
    ∀ (n r k : Nat) (p : Nat → Nat) (a : Nat → Int32), sp_t p0 + 1 < n + r → r ≤ k → sp_Z w s p0 p k → sp_A a p → wX_settlePile_6 post n (nI k) 1 (nI r) c aj sk a := by
  intro n
  induction n with
  | zero =>
    intro r k p a hn hr Z A
    have := sp_Zt Z
    omega
  | succ n ih =>
    intro r k p a hn hr Z A
    have hz := sp_Zt Z
    refine br_f (nI_ge (b := 1000000) (by omega) (by decide)) (br_f hx_01 (xw_sw G J S A Z hb fun x m a' hI => ?_))
    obtain ⟨q, k', ex, Aq, Zq, hc⟩ := hI
    rw [nI_1, ex]
    rcases hc with ⟨em, eq, ek, hs⟩ | ⟨em, hk⟩
    · obtain ⟨n', rfl⟩ : ∃ n', n = n' + 1 := ⟨n - 1, by omega⟩
      rw [em]
      have he := sp_Ze G Zq hs
      rw [he.1]
      exact xw_st6 (h a' (fun i hi => by rw [Aq i hi, he.2 i hi]))
    · rw [em]
      exact ih (r + 1) k' q a' (by omega) (by omega) Zq Aq
theorem xw_settle {post : Int32 → SX → Prop} {p0 : Nat → Nat} (G : sp_ok w s) (J : sp_J aj w) (S : sp_A sk s) (A : sp_A ap p0) (hb : sp_t p0 ≤ 1050)
    (h : ∀ a, sp_A a (sp_y w s p0) → post (nI (sp_t (sp_u w s p0))) (c, aj, sk, a)) : wpX_settlePile post (c, aj, sk, ap) :=
  Exists.intro (sp_t p0 + 2) (xw_out G J S hb h (sp_t p0 + 2) 0 0 p0 ap (by omega) (Nat.le_refl _) (sp_Z0 w s p0) A)
theorem hx_t8 {p : Nat → Nat} {m : Nat} (h : ∀ i, i < 4 → p i ≤ m) : sp_t p ≤ 4 * m := by
  have h0 := h 0 (by decide)
  have h1 := h 1 (by decide)
  have h2 := h 2 (by decide)
  have h3 := h 3 (by decide)
  unfold sp_t
  omega
theorem xw_add {post : Int32 → SX → Prop} {n m : Nat} (G : sp_ok w s) (J : sp_J aj w) (S : sp_A sk s) (hn : n < 4096) (hm : m < 4096)
    (h : ∀ a, post (nI (sp_a w s n m)) (c, aj, sk, a)) : wpX_addStates post (c, aj, sk, ap) (nI n) (nI m) := by
  unfold wpX_addStates
  refine xw_clear fun a1 A1 => xw_addp A1 hn fun a2 A2 => xw_addp A2 hm fun a3 A3 => xw_settle (p0 := fun i => sp_g n i + sp_g m i) G J S ?_ ?_ fun a4 A4 => xw_num A4 (sp_y8 G _) (h a4)
  · intro i hi
    rw [A3 i hi]
    show nI (0 + sp_g n i + sp_g m i) = nI (sp_g n i + sp_g m i)
    exact congrArg nI (by omega)
  · refine Nat.le_trans (hx_t8 (m := 14) fun i _ => ?_) (by decide)
    have h1 := sp_g8 n i
    have h2 := sp_g8 m i
    omega
theorem xw_stab {post : Int32 → Prop} {x : Int32} (G : sp_ok w s) (J : sp_J aj w) (S : sp_A sk s) (h1 : ∀ n, x = nI n → sp_k w s n → post 1) (h0 : (∀ n, x = nI n → ¬ sp_k w s n) → post 0) :
    wpX_isStable post (c, aj, sk, ap) x := by
  rcases pk_ix x (n := 4096) (by decide) with hx | hx | ⟨n, hn, rfl⟩
  · refine br_t hx (h0 fun n e k => ?_)
    rw [e] at hx
    exact nI_pos (by have := k.1; omega) hx
  · have hnx : ¬ x < 0 := fun hl => by
      have h2 : (0 : Int32) ≤ nI 4096 := by decide
      exact Int32.lt_irrefl (Int32.lt_of_lt_of_le hl (Int32.le_trans h2 hx))
    refine br_f hnx (br_f (Int32.not_lt.mpr hx) (h0 fun n e k => ?_))
    rw [e] at hx
    exact nI_ge k.1 (by decide) hx
  · refine br_f (nI_pos (by omega)) (br_t (nI_lt hn (by decide)) ?_)
    refine loop_0 (σ := Unit) (fun q i _ => wX_isStable_15 post (nI n) c aj sk ap q (nI i)) (fun i _ => ∀ j, j < i → sp_g n j < sp_d w s j) 4 () (fun j hj => absurd hj (Nat.not_lt_zero j)) ?_ ?_
    · intro q _ hI
      exact br_t hx_e4 (h1 n rfl ⟨hn, hI⟩)
    · intro q i _ hi hI hk
      have hd := (sp_d1 G hi).2
      have hg := sp_g8 n i
      refine br_f (hx_c4 hi) ?_
      unfold wpX_grainsAt
      refine xw_deg J S hi ?_
      rw [hw_shX (by omega) hi]
      by_cases l : sp_g n i < sp_d w s i
      · refine br_t (nI_lt l (by omega)) (nm_r (nI_1 i) (hk () fun j hj => ?_))
        by_cases e : j = i
        · rw [e]; exact l
        · exact hI j (by omega)
      · refine br_f (nI_nlt (by omega) (by omega)) (h0 fun n' e k => ?_)
        have e' : n' = n := (nI_eq (by have := k.1; omega) (by omega)).mp e.symm
        exact l (e' ▸ k.2 i hi)
end
end
section
/-! The component's test of recurrent states, its neutral state, its walk along the multiples -/
section
variable {w : Nat → Nat → Bool} {s : Nat → Nat} {c : Int32} {aj sk ap : Nat → Int32}
theorem sp_burn {w : Nat → Nat → Bool} {s : Nat → Nat} (G : sp_ok w s) {n : Nat} (hk : sp_k w s n) : sp_n (sp_y w s (fun i => sp_g n i + s i)) = n ↔ sp_r w s n := by
  constructor
  · intro e
    refine ⟨hk.1, sp_Rb G (u := sp_u w s (fun i => sp_g n i + s i)) ?_⟩
    have h := sp_yu G (fun i => sp_g n i + s i)
    refine sp_cg h (fun _ _ => rfl) (fun i hi => ?_) (fun _ _ => rfl)
    rw [← sp_gn (sp_y8 G _) i hi, e]
  · intro h
    have h1 := sp_yn G (sp_Rs G h.2)
    rw [← h1, sp_ng h.1]
theorem xw_rec {post : Int32 → SX → Prop} {x : Int32} (G : sp_ok w s) (J : sp_J aj w) (S : sp_A sk s) (h1 : ∀ n a, x = nI n → sp_r w s n → post 1 (c, aj, sk, a))
    (h0 : ∀ a, (∀ n, x = nI n → ¬ sp_r w s n) → post 0 (c, aj, sk, a)) : wpX_isRecurrent post (c, aj, sk, ap) x := by
  unfold wpX_isRecurrent
  refine xw_stab G J S (fun n e k => ?_) (fun hn => br_t rfl (h0 ap fun n e r => hn n e (sp_rk r)))
  subst e
  refine br_f hx_01 (xw_clear fun a1 A1 => xw_addp A1 k.1 fun a2 A2 => ?_)
  refine loop_0 (σ := Nat → Int32) (fun q i a => wX_isRecurrent_21 post (nI n) c q (nI i) aj sk a) (fun i a => sp_B a a2 (fun i => sp_g n i + s i) i) 4 a2 (sp_B0 _ _) ?_ ?_
  · intro q a hI
    have hA := sp_B4 hI
    refine br_t hx_e4 (xw_settle G J S hA ?_ fun a4 A4 => xw_num A4 (sp_y8 G _) ?_)
    · refine Nat.le_trans (hx_t8 (m := 9) fun i hi => ?_) (by decide)
      have h1 := sp_g8 n i
      have h2 := (G.2.2 i hi).2
      omega
    · have hl := sp_nl (sp_y8 G (fun i => sp_g n i + s i))
      by_cases e : sp_n (sp_y w s (fun i => sp_g n i + s i)) = n
      · exact br_t (by rw [e]) (h1 n a4 rfl ((sp_burn G k).mp e))
      · refine br_f (fun z => e ((nI_eq (by omega) (by have := k.1; omega)).mp z)) (h0 a4 fun n' e' r => e ?_)
        have e2 : n' = n := (nI_eq (by have := r.1; omega) (by have := k.1; omega)).mp e'.symm
        exact (sp_burn G k).mpr (e2 ▸ r)
  · intro q i a hi hI hq
    refine br_f (hx_c4 hi) ⟨hx_in hi, hx_in hi, hx_in hi, nm_r (e' := upd a i (nI (sp_g n i + s i))) ?_ (nm_r (nI_1 i) (hq _ (sp_B1 hI)))⟩
    rw [hx_cl hi, sp_Bk hI hi, A2 i hi, S i hi, nI_add]
    show upd a i (nI (0 + sp_g n i + s i)) = upd a i (nI (sp_g n i + s i))
    rw [Nat.zero_add]
theorem hx_2f {G : sp_ok w s} {i : Nat} (hi : i < 4) : 2 * (nI (sp_d w s i) - 1) = nI (2 * sp_f w s i) := by
  have h1 := (sp_d1 G hi).1
  show nI 2 * (nI (sp_d w s i) - nI 1) = _
  rw [pk_sub h1, pk_mul]
  rfl
theorem xw_neu {post : Int32 → SX → Prop} (G : sp_ok w s) (J : sp_J aj w) (S : sp_A sk s) (h : ∀ a, post (nI (sp_o w s)) (c, aj, sk, a)) : wpX_findNeutral post (c, aj, sk, ap) := by
  have h5 : ∀ i, i < 4 → sp_f w s i ≤ 4 := fun i hi => by
    have h2 := (sp_d1 G hi).2
    unfold sp_f
    omega
  refine loop_0 (σ := Nat → Int32) (fun q i a => wX_findNeutral_2 post c q (nI i) aj sk a) (fun i a => sp_B a ap (fun i => 2 * sp_f w s i) i) 4 ap (sp_B0 _ _) ?_ ?_
  · intro q a hI
    refine br_t hx_e4 (xw_settle G J S (sp_B4 hI) ?_ fun a1 A1 => ?_)
    · refine Nat.le_trans (hx_t8 (m := 8) fun i hi => ?_) (by decide)
      have h1 := h5 i hi
      omega
    refine loop_0 (σ := Nat → Int32) (fun q i a => wX_findNeutral_35 post c q (nI i) aj sk a) (fun i a => sp_B a a1 (sp_v w s) i) 4 a1 (sp_B0 _ _) ?_ ?_
    · intro q a hI
      refine br_t hx_e4 (xw_settle G J S (sp_B4 hI) ?_ fun a2 A2 => xw_num A2 (sp_y8 G _) (h a2))
      refine Nat.le_trans (hx_t8 (m := 8) fun i hi => ?_) (by decide)
      have h1 := h5 i hi
      unfold sp_v
      omega
    · intro q i a hi hI hq
      refine br_f (hx_c4 hi) (xw_deg J S hi (And.intro (hx_in hi) (And.intro (hx_in hi) (nm_r (e' := upd a i (nI (sp_v w s i))) ?_ (nm_r (nI_1 i) (hq _ (sp_B1 hI)))))))
      have hv := sp_vf G i hi
      rw [hx_cl hi, sp_Bk hI hi, A1 i hi, hx_2f (G := G) hi, pk_sub (by omega)]
      rfl
  · intro q i a hi hI hq
    refine br_f (hx_c4 hi) (xw_deg J S hi (And.intro (hx_in hi) (nm_r (e' := upd a i (nI (2 * sp_f w s i))) ?_ (nm_r (nI_1 i) (hq _ (sp_B1 hI))))))
    rw [hx_cl hi, hx_2f (G := G) hi]
end
end
section
/-! The reference's private methods, each against the pure picture -/
def sp_Nb (nr : Nat → Int32) (w : Nat → Nat → Bool) : Prop := ∀ i, i < 4 → nr i = nI (sp_M4 w i)
theorem hx_wr {a : Nat → Int32} {p : Nat → Nat} (A : sp_A a p) : 512 * a 0 + 64 * a 1 + 8 * a 2 + a 3 = nI (sp_n p) := by
  rw [A 0 (by decide), A 1 (by decide), A 2 (by decide), A 3 (by decide)]
  show nI 512 * nI (p 0) + nI 64 * nI (p 1) + nI 8 * nI (p 2) + nI (p 3) = _
  rw [pk_mul, pk_mul, pk_mul, nI_add, nI_add, nI_add]
  rfl
section
variable {w : Nat → Nat → Bool} {s : Nat → Nat} {kn tp : Int32} {nr sk gr wk fd : Nat → Int32}
theorem yw_in {post : Int32 → Prop} {i j : Nat} {x : Int32} (hx : x = nI (sp_M4 w i)) (hj : j < 4) (h : post (nI (sp_b (w i j)))) : wpY_in post (kn, tp, nr, sk, gr, wk, fd) x (nI j) := by
  have e := hw_in w i hj
  subst hx
  cases b : w i j with
  | true =>
    rw [b] at e h
    exact br_t e h
  | false =>
    rw [b] at e h
    exact br_f (by rw [e]; decide) h
theorem yw_deg {post : Int32 → Prop} {p : Nat} (N : sp_Nb nr w) (S : sp_A sk s) (hp : p < 4) (h : post (nI (sp_d w s p))) : wpY_degreeOf post (kn, tp, nr, sk, gr, wk, fd) (nI p) := by
  refine And.intro (hx_in hp) (nm_r (e' := nI (s p)) (by rw [hx_cl hp, S p hp]) ?_)
  refine loop_0 (σ := Int32) (fun n i x => wY_degreeOf_9 post (nI p) kn tp nr sk gr wk fd n x (nI i)) (fun i x => x = nI (sp_D w s p i)) 4 (nI (s p)) rfl ?_ ?_
  · intro n x hx
    exact br_t hx_e4 (by rw [hx]; exact h)
  · intro n i x hi hx hk
    refine br_f (hx_c4 hi) ⟨hx_in hp, yw_in (w := w) (i := p) (by rw [hx_cl hp, N p hp]) hi ?_⟩
    cases b : w p i with
    | true =>
      refine br_f hx_01 (nm_r (e' := nI (sp_D w s p (i + 1))) ?_ (nm_r (nI_1 i) (hk _ rfl)))
      rw [hx]
      show nI (sp_D w s p i) + 1 = nI (sp_D w s p i + sp_b (w p i))
      rw [b, nI_1]
      rfl
    | false =>
      refine br_t rfl (nm_r (nI_1 i) (hk _ ?_))
      rw [hx]
      show nI (sp_D w s p i) = nI (sp_D w s p i + sp_b (w p i))
      rw [b]
      rfl
theorem yw_topple {post : SY → Prop} {p : Nat → Nat} {k : Nat} (G : sp_ok w s) (N : sp_Nb nr w) (S : sp_A sk s) (A : sp_A wk p) (hk : k < 4) (hx : sp_d w s k ≤ p k)
    (h : ∀ a, sp_A a (sp_p w s k p) → post (kn, tp + 1, nr, sk, gr, a, fd)) : wpY_topple post (kn, tp, nr, sk, gr, wk, fd) (nI k) := by
  refine And.intro (hx_in hk) (yw_deg N S hk (And.intro (hx_in hk) (nm_r (e' := upd wk k (nI (p k - sp_d w s k))) (by rw [hx_cl hk, A k hk, pk_sub hx]) ?_)))
  refine loop_0 (σ := Nat → Int32) (fun n i a => wY_topple_16 post (nI k) kn tp n (nI i) nr sk gr a fd) (fun i a => sp_B a (upd wk k (nI (p k - sp_d w s k))) (sp_p w s k p) i) 4 _ (sp_B0 _ _) ?_ ?_
  · intro n a hI
    exact br_t hx_e4 (nm_e (h a (sp_B4 hI)))
  · intro n i a hi hI hn
    refine br_f (hx_c4 hi) ⟨hx_in hk, yw_in (w := w) (i := k) (by rw [hx_cl hk, N k hk]) hi ?_⟩
    cases b : w k i with
    | true =>
      have hne : i ≠ k := by
        intro e
        rw [e, G.2.1 k hk] at b
        exact Bool.noConfusion b
      refine br_f hx_01 ⟨hx_in hi, hx_in hi, nm_r (e' := upd a i (nI (sp_p w s k p i))) ?_ (nm_r (nI_1 i) (hn _ (sp_B1 hI)))⟩
      rw [hx_cl hi, sp_Bk hI hi, pk_un hne, A i hi, nI_1]
      unfold sp_p
      rw [if_neg hne, b]
      rfl
    | false =>
      refine br_t rfl (nm_r (nI_1 i) (hn _ (sp_Bn hI ?_)))
      unfold sp_p
      by_cases e : i = k
      · rw [if_pos e, e, pk_us]
      · rw [if_neg e, pk_un e, A i hi, b]
        rfl
theorem yw_wr {post : Int32 → Prop} {p : Nat → Nat} (A : sp_A wk p) (h : post (nI (sp_n p))) : wpY_written post (kn, tp, nr, sk, gr, wk, fd) :=
  Eq.mpr (congrArg post (hx_wr A)) h
theorem yw_sw {post : SY → Prop} {J9 : Int32 → Int32 → Int32 → Int32 → (Nat → Int32) → (Nat → Int32) → (Nat → Int32) → (Nat → Int32) → (Nat → Int32) → Prop} {p0 pS : Nat → Nat} {cS : Nat} {x2 : Int32}
    (G : sp_ok w s) (N : sp_Nb nr w) (S : sp_A sk s) (A : sp_A wk pS) (Z : sp_Z w s p0 pS cS) (hb : sp_t p0 ≤ 1050)
    (h : ∀ x m a, sp_I w s p0 pS cS 4 x m a → J9 m (x2 + 1) kn x nr sk gr a fd) : ∃ n, wY_settle_24 post J9 x2 n 0 0 kn (nI cS) nr sk gr wk fd := by
  refine loop_0 (σ := Int32 × Int32 × (Nat → Int32)) (fun n i t => wY_settle_24 post J9 x2 n t.2.1 (nI i) kn t.1 nr sk gr t.2.2 fd) (fun i t => sp_I w s p0 pS cS i t.1 t.2.1 t.2.2) 4 (nI cS, 0, wk)
    ⟨pS, cS, rfl, A, Z, Or.inl ⟨rfl, rfl, rfl, fun j hj => absurd hj (Nat.not_lt_zero j)⟩⟩ ?_ ?_
  · intro n t hI
    exact br_t hx_e4 (nm_e (h _ _ _ hI))
  · intro n i t hi hI hn
    obtain ⟨x, m, a⟩ := t
    obtain ⟨p, k, ex, Ap, Zp, hc⟩ := hI
    dsimp only at ex Ap hc
    refine br_f (hx_c4 hi) ⟨hx_in hi, yw_deg N S hi ?_⟩
    have hl : p i ≤ 1050 := by
      have h1 := sp_Zt Zp
      unfold sp_t at h1 hb
      rcases sp_4 hi with rfl | rfl | rfl | rfl <;> omega
    have hd := (sp_d1 G hi).2
    have hv : a (nI i).toNatClampNeg = nI (p i) := by rw [hx_cl hi, Ap i hi]
    by_cases l : p i < sp_d w s i
    · refine br_t (by dsimp only; rw [hv]; exact nI_lt l (by omega)) (nm_r (nI_1 i) (hn (x, m, a) ⟨p, k, ex, Ap, Zp, ?_⟩))
      rcases hc with ⟨a1, a2, a3, a4⟩ | hc
      · refine Or.inl ⟨a1, a2, a3, fun j hj => ?_⟩
        by_cases e : j = i
        · rw [e]; exact l
        · exact a4 j (by omega)
      · exact Or.inr hc
    · refine br_f (by dsimp only; rw [hv]; exact nI_nlt (by omega) (by omega)) (yw_topple G N S Ap hi (by omega) fun a' A' => ?_)
      refine nm_r (nI_1 i) (hn (x + 1, 1, a') ⟨sp_p w s i p, k + 1, by rw [ex, nI_1], A', sp_Z1 G Zp hi (by omega), Or.inr ⟨rfl, ?_⟩⟩)
      rcases hc with ⟨_, _, a3, _⟩ | ⟨_, hc⟩ <;> omega
theorem yw_st9 {post : SY → Prop} {n : Nat} {x2 : Int32} (h : post (kn, tp, nr, sk, gr, wk, fd)) : wY_settle_9 post (n + 1) 0 x2 kn tp nr sk gr wk fd :=
  br_c (fun _ => h) (fun _ => br_t rfl h)
theorem yw_out {post : SY → Prop} {p0 : Nat → Nat} (G : sp_ok w s) (N : sp_Nb nr w) (S : sp_A sk s) (hb : sp_t p0 ≤ 1050)
    (h : ∀ a, sp_A a (sp_y w s p0) → post (kn, nI (sp_t (sp_u w s p0)), nr, sk, gr, a, fd)) :
    ∀ (n r k : Nat) (p : Nat → Nat) (a : Nat → Int32), sp_t p0 + 1 < n + r → r ≤ k → sp_Z w s p0 p k → sp_A a p → wY_settle_9 post n 1 (nI r) kn (nI k) nr sk gr a fd := by
  intro n
  induction n with
  | zero =>
    intro r k p a hn hr Z A
    have := sp_Zt Z
    omega
  | succ n ih =>
    intro r k p a hn hr Z A
    have hz := sp_Zt Z
    refine br_f (nI_ge (b := 1101) (by omega) (by decide)) (br_f hx_01 (yw_sw G N S A Z hb fun x m a' hI => ?_))
    obtain ⟨q, k', ex, Aq, Zq, hc⟩ := hI
    rw [nI_1, ex]
    rcases hc with ⟨em, eq, ek, hs⟩ | ⟨em, hk⟩
    · obtain ⟨n', rfl⟩ : ∃ n', n = n' + 1 := ⟨n - 1, by omega⟩
      rw [em]
      have he := sp_Ze G Zq hs
      rw [he.1]
      exact yw_st9 (h a' (fun i hi => by rw [Aq i hi, he.2 i hi]))
    · rw [em]
      exact ih (r + 1) k' q a' (by omega) (by omega) Zq Aq
theorem yw_settle {post : SY → Prop} {p0 : Nat → Nat} (G : sp_ok w s) (N : sp_Nb nr w) (S : sp_A sk s) (A : sp_A wk p0) (hb : sp_t p0 ≤ 1050)
    (h : ∀ a, sp_A a (sp_y w s p0) → post (kn, nI (sp_t (sp_u w s p0)), nr, sk, gr, a, fd)) : wpY_settle post (kn, tp, nr, sk, gr, wk, fd) :=
  Exists.intro (sp_t p0 + 2) (yw_out G N S hb h (sp_t p0 + 2) 0 0 p0 wk (by omega) (Nat.le_refl _) (sp_Z0 w s p0) A)
theorem yw_sum {post : Int32 → SY → Prop} {n m : Nat} (G : sp_ok w s) (N : sp_Nb nr w) (S : sp_A sk s) (hn : n < 4096) (hm : m < 4096)
    (h : ∀ t a, post (nI (sp_a w s n m)) (kn, t, nr, sk, gr, a, fd)) : wpY_sum post (kn, tp, nr, sk, gr, wk, fd) (nI n) (nI m) := by
  refine loop_0 (σ := Nat → Int32) (fun q i a => wY_sum_2 post (nI n) (nI m) kn tp q (nI i) nr sk gr a fd) (fun i a => sp_B a wk (fun i => sp_g n i + sp_g m i) i) 4 wk (sp_B0 _ _) ?_ ?_
  · intro q a hI
    refine br_t hx_e4 (yw_settle G N S (sp_B4 hI) ?_ fun a4 A4 => yw_wr A4 (h _ a4))
    refine Nat.le_trans (hx_t8 (m := 14) fun i _ => ?_) (by decide)
    have h1 := sp_g8 n i
    have h2 := sp_g8 m i
    omega
  · intro q i a hi hI hq
    refine br_f (hx_c4 hi) (And.intro (hx_in hi) (nm_r (e' := upd a i (nI (sp_g n i + sp_g m i))) ?_ (nm_r (nI_1 i) (hq _ (sp_B1 hI)))))
    rw [hx_cl hi, hw_shY (by omega) hi, hw_shY (by omega) hi, nI_add]
theorem yw_full {post : Int32 → SY → Prop} (G : sp_ok w s) (N : sp_Nb nr w) (S : sp_A sk s) (h : ∀ a, post (nI (sp_F w s)) (kn, tp, nr, sk, gr, a, fd)) :
    wpY_full post (kn, tp, nr, sk, gr, wk, fd) := by
  refine loop_0 (σ := Nat → Int32) (fun q i a => wY_full_2 post kn tp q (nI i) nr sk gr a fd) (fun i a => sp_B a wk (sp_f w s) i) 4 wk (sp_B0 _ _) ?_ ?_
  · intro q a hI
    exact br_t hx_e4 (yw_wr (sp_B4 hI) (h a))
  · intro q i a hi hI hq
    refine br_f (hx_c4 hi) (yw_deg N S hi (And.intro (hx_in hi) (nm_r (e' := upd a i (nI (sp_f w s i))) ?_ (nm_r (nI_1 i) (hq _ (sp_B1 hI))))))
    have h1 := (sp_d1 G hi).1
    rw [hx_cl hi]
    show upd a i (nI (sp_d w s i) - nI 1) = _
    rw [pk_sub h1]
    rfl
theorem yw_stab {post : Int32 → Prop} {x : Int32} (G : sp_ok w s) (N : sp_Nb nr w) (S : sp_A sk s) (h1 : ∀ n, x = nI n → sp_k w s n → post 1) (h0 : (∀ n, x = nI n → ¬ sp_k w s n) → post 0) :
    wpY_isStable post (kn, tp, nr, sk, gr, wk, fd) x := by
  rcases pk_ix x (n := 4096) (by decide) with hx | hx | ⟨n, hn, rfl⟩
  · refine br_t hx (h0 fun n e k => ?_)
    rw [e] at hx
    exact nI_pos (by have := k.1; omega) hx
  · have hnx : ¬ x < 0 := fun hl => by
      have h2 : (0 : Int32) ≤ nI 4096 := by decide
      exact Int32.lt_irrefl (Int32.lt_of_lt_of_le hl (Int32.le_trans h2 hx))
    have hx2 : ¬ x ≤ 4095 := fun hl => by
      have h2 : nI 4096 ≤ (4095 : Int32) := Int32.le_trans hx hl
      exact absurd h2 (by decide)
    refine br_f hnx (br_f hx2 (h0 fun n e k => ?_))
    rw [e] at hx
    exact nI_ge k.1 (by decide) hx
  · refine br_f (nI_pos (by omega)) (br_t (nI_le (b := 4095) (by omega) (by decide)) ?_)
    refine loop_0 (σ := Unit) (fun q i _ => wY_isStable_15 post (nI n) kn tp nr sk gr wk fd q (nI i)) (fun i _ => ∀ j, j < i → sp_g n j < sp_d w s j) 4 () (fun j hj => absurd hj (Nat.not_lt_zero j)) ?_ ?_
    · intro q _ hI
      exact br_t hx_e4 (h1 n rfl ⟨hn, hI⟩)
    · intro q i _ hi hI hk
      have hd := (sp_d1 G hi).2
      have hg := sp_g8 n i
      refine br_f (hx_c4 hi) ?_
      unfold wpY_digit
      dsimp only
      refine yw_deg N S hi ?_
      rw [hw_shY (by omega) hi]
      by_cases l : sp_g n i < sp_d w s i
      · refine br_t (nI_lt l (by omega)) (nm_r (nI_1 i) (hk () fun j hj => ?_))
        by_cases e : j = i
        · rw [e]; exact l
        · exact hI j (by omega)
      · refine br_f (nI_nlt (by omega) (by omega)) (h0 fun n' e k => ?_)
        have e' : n' = n := (nI_eq (by have := k.1; omega) (by omega)).mp e.symm
        exact l (e' ▸ k.2 i hi)
end
end
section
/-! The reference's set of recurrent states, built from the full one; its searches -/
def sp_Fd (fd : Nat → Int32) (f : Nat → Bool) : Prop := ∀ n, n < 4096 → fd n = nI (sp_b (f n))
def sp_C (w : Nat → Nat → Bool) (s : Nat → Nat) (f : Nat → Bool) : Prop := f (sp_F w s) = true ∧ ∀ n, f n = true → sp_r w s n
def sp_cc (f : Nat → Bool) : Nat := sp_c (fun m => f (sp_j m)) 625
theorem hx_nb1 : vp_nar .boolean 1 = 1 := by first | rfl | decide
theorem hx_nb0 : vp_nar .boolean 0 = 0 := by first | rfl | decide
theorem hx_512 {a : Nat} (ha : a < 4) : (512 : Int32) >>> ((3 * nI a) &&& 31) = nI (sp_q a) := by
  rcases sp_4 ha with rfl | rfl | rfl | rfl <;> decide
theorem hx_4095 {t : Nat} (ht : t < 4096) : nI t &&& 4095 = nI t := by
  rw [pk_andN (by omega) 12 (by decide), Nat.mod_eq_of_lt (by omega)]
theorem sp_ql {a : Nat} : sp_q a < 4096 := by
  unfold sp_q
  split
  · omega
  · split
    · omega
    · split <;> omega
theorem sp_Fu {fd : Nat → Int32} {f : Nat → Bool} (h : sp_Fd fd f) (t : Nat) : sp_Fd (upd fd t 1) (fun n => if n = t then true else f n) := by
  intro n hn
  by_cases e : n = t
  · rw [e, pk_us]
    simp only [if_true]
    rfl
  · rw [pk_un e, h n hn]
    simp only [if_neg e]
theorem sp_Cu {w : Nat → Nat → Bool} {s : Nat → Nat} {f : Nat → Bool} (h : sp_C w s f) {t : Nat} (ht : sp_r w s t) : sp_C w s (fun n => if n = t then true else f n) := by
  constructor
  · by_cases e : sp_F w s = t
    · simp only [if_pos e]
    · simp only [if_neg e]
      exact h.1
  · intro n hn
    by_cases e : n = t
    · rw [e]; exact ht
    · simp only [if_neg e] at hn
      exact h.2 n hn
theorem sp_cu {w : Nat → Nat → Bool} {s : Nat → Nat} (G : sp_ok w s) {f : Nat → Bool} {t : Nat} (ht : sp_r w s t) (hf : f t = false) : sp_cc f + 1 ≤ sp_cc (fun n => if n = t then true else f n) := by
  have hk := sp_k5 G (sp_rk ht)
  refine sp_cs (k := sp_i t) ?_ ?_ ?_ 625 hk.1
  · intro i hi
    by_cases e : sp_j i = t
    · simp only [if_pos e]
    · simp only [if_neg e]
      exact hi
  · rw [hk.2]; exact hf
  · simp only [if_pos hk.2]
def sp_QO (w : Nat → Nat → Bool) (s : Nat → Nat) (f0 : Nat → Bool) (N : Nat) (x : Int32) (fd : Nat → Int32) : Prop :=
  ∃ f, sp_Fd fd f ∧ sp_C w s f ∧ ((x = 0 ∧ f = f0 ∧ ∀ n, N ≤ n → n < 4096 → f0 n = true → ∀ a, a < 4 → f0 (sp_a w s n (sp_q a)) = true) ∨ (x = 1 ∧ sp_cc f0 + 1 ≤ sp_cc f))
def sp_QI (w : Nat → Nat → Bool) (s : Nat → Nat) (f0 : Nat → Bool) (i b : Nat) (x : Int32) (fd : Nat → Int32) : Prop :=
  ∃ f, sp_Fd fd f ∧ sp_C w s f ∧ ((x = 0 ∧ f = f0 ∧ (∀ n, i + 1 ≤ n → n < 4096 → f0 n = true → ∀ a, a < 4 → f0 (sp_a w s n (sp_q a)) = true) ∧
    (f0 i = true → ∀ a, a < b → f0 (sp_a w s i (sp_q a)) = true)) ∨ (x = 1 ∧ sp_cc f0 + 1 ≤ sp_cc f))
theorem sp_QOI {w : Nat → Nat → Bool} {s : Nat → Nat} {f0 : Nat → Bool} {i : Nat} {x : Int32} {fd : Nat → Int32} (h : sp_QO w s f0 (i + 1) x fd) : sp_QI w s f0 i 0 x fd := by
  obtain ⟨f, a, b, c⟩ := h
  refine ⟨f, a, b, ?_⟩
  rcases c with ⟨c1, c2, c3⟩ | c
  · exact Or.inl ⟨c1, c2, c3, fun _ a ha => absurd ha (Nat.not_lt_zero a)⟩
  · exact Or.inr c
theorem sp_QIO {w : Nat → Nat → Bool} {s : Nat → Nat} {f0 : Nat → Bool} {i : Nat} {x : Int32} {fd : Nat → Int32} (h : sp_QI w s f0 i 4 x fd) : sp_QO w s f0 i x fd := by
  obtain ⟨f, a, b, c⟩ := h
  refine ⟨f, a, b, ?_⟩
  rcases c with ⟨c1, c2, c3, c4⟩ | c
  · refine Or.inl ⟨c1, c2, fun n hn hl hf => ?_⟩
    by_cases e : n = i
    · rw [e]
      rw [e] at hf
      exact c4 hf
    · exact c3 n (by omega) hl hf
  · exact Or.inr c
section
variable {w : Nat → Nat → Bool} {s : Nat → Nat} {kn tp : Int32} {nr sk gr wk fd : Nat → Int32}
theorem yw_spin {post : Int32 → SY → Prop} {J6 : Int32 → Int32 → Int32 → Int32 → (Nat → Int32) → (Nat → Int32) → (Nat → Int32) → (Nat → Int32) → (Nat → Int32) → Prop} {f0 : Nat → Bool} {i : Nat} {x1 : Int32}
    (G : sp_ok w s) (N : sp_Nb nr w) (S : sp_A sk s) (hi : i < 4096) (Q : sp_QO w s f0 (i + 1) x1 fd)
    (h : ∀ x t a d, sp_QO w s f0 i x d → J6 x (nI i + (-1)) kn t nr sk gr a d) : ∃ n, wY_spread_12 post J6 (nI i) n x1 0 kn tp nr sk gr wk fd := by
  refine loop_0 (σ := Int32 × Int32 × (Nat → Int32) × (Nat → Int32)) (fun n b t => wY_spread_12 post J6 (nI i) n t.1 (nI b) kn t.2.1 nr sk gr t.2.2.1 t.2.2.2)
    (fun b t => sp_QI w s f0 i b t.1 t.2.2.2) 4 (x1, tp, wk, fd) (sp_QOI Q) ?_ ?_
  · intro n t hI
    exact br_t hx_e4 (nm_e (h _ _ _ _ (sp_QIO hI)))
  · intro n b t hb hI hn
    obtain ⟨x, t1, a1, d1⟩ := t
    obtain ⟨f, F, C, hc⟩ := hI
    dsimp only at F hc
    have hin : vp_in (nI i) 4096 := vp_in_nI hi (by decide)
    have hcl : (nI i).toNatClampNeg = i := nI_clamp (by omega)
    refine br_f (hx_c4 hb) ⟨hin, ?_⟩
    cases e : f i with
    | false =>
      have hz : d1 (nI i).toNatClampNeg = 0 := by rw [hcl, F i hi, e]; rfl
      refine br_t hz (And.intro hin (br_t hz (nm_r (nI_1 b) (hn (x, t1, a1, d1) ⟨f, F, C, ?_⟩))))
      rcases hc with ⟨c1, c2, c3, c4⟩ | c
      · refine Or.inl ⟨c1, c2, c3, fun hf => ?_⟩
        rw [← c2, e] at hf
        exact Bool.noConfusion hf
      · exact Or.inr c
    | true =>
      have hz : ¬ d1 (nI i).toNatClampNeg = 0 := by rw [hcl, F i hi, e]; decide
      refine br_f hz ?_
      rw [hx_512 hb]
      refine yw_sum G N S hi sp_ql fun t2 a2 => ?_
      have hr : sp_r w s (sp_a w s i (sp_q b)) := sp_ar G (C.2 i e) _
      have hl := hr.1
      generalize hT : sp_a w s i (sp_q b) = T at *
      have hin2 : vp_in (nI T &&& 4095) 4096 := by rw [hx_4095 hl]; exact vp_in_nI hl (by decide)
      have hcl2 : (nI T &&& 4095).toNatClampNeg = T := by rw [hx_4095 hl]; exact nI_clamp (by omega)
      refine And.intro hin (br_f hz ⟨hin2, ?_⟩)
      cases e2 : f T with
      | false =>
        have hz2 : d1 (nI T &&& 4095).toNatClampNeg = 0 := by rw [hcl2, F T hl, e2]; rfl
        refine br_t hz2 ⟨hin2, nm_r (e' := upd d1 T 1) (by rw [hcl2, hx_nb1]) (nm_r (nI_1 b) (hn (1, t2, a2, upd d1 T 1) ⟨_, sp_Fu F T, sp_Cu C hr, Or.inr ⟨rfl, ?_⟩⟩))⟩
        have h1 := sp_cu G hr e2
        rcases hc with ⟨c1, c2, c3, c4⟩ | ⟨c1, c2⟩
        · rw [← c2]; exact h1
        · omega
      | true =>
        have hz2 : ¬ d1 (nI T &&& 4095).toNatClampNeg = 0 := by rw [hcl2, F T hl, e2]; decide
        refine br_f hz2 (nm_r (nI_1 b) (hn (x, t2, a2, d1) ⟨f, F, C, ?_⟩))
        rcases hc with ⟨c1, c2, c3, c4⟩ | c
        · refine Or.inl ⟨c1, c2, c3, fun hf a ha => ?_⟩
          by_cases ea : a = b
          · rw [ea, hT, ← c2]; exact e2
          · exact c4 hf a (by omega)
        · exact Or.inr c
theorem yw_spread {post : Int32 → SY → Prop} {f0 : Nat → Bool} (G : sp_ok w s) (N : sp_Nb nr w) (S : sp_A sk s) (F : sp_Fd fd f0) (C : sp_C w s f0)
    (h : ∀ x t a d, sp_QO w s f0 0 x d → post x (kn, t, nr, sk, gr, a, d)) : wpY_spread post (kn, tp, nr, sk, gr, wk, fd) := by
  have H := pk_loopD (σ := Int32 × Int32 × (Nat → Int32) × (Nat → Int32)) (fun n k t => ∀ x2, x2 = nI k + (-1) → wY_spread_6 post n t.1 x2 kn t.2.1 nr sk gr t.2.2.1 t.2.2.2)
    (fun k t => k ≤ 4096 ∧ sp_QO w s f0 k t.1 t.2.2.2) ?_ ?_ 4096 (0, tp, wk, fd) ⟨Nat.le_refl _, f0, F, C, Or.inl ⟨rfl, rfl, fun n h1 h2 => by omega⟩⟩
  · exact Exists.intro (4096 + 1) (H 4095 (by decide))
  · intro n t hI x2 e
    refine br_t (by rw [e]; decide) ⟨?_, h _ _ _ _ hI.2⟩
    obtain ⟨f, _, _, hc⟩ := hI.2
    rcases hc with ⟨c1, _⟩ | ⟨c1, _⟩ <;> rw [c1] <;> rfl
  · intro n k t hI hk x2 e
    have hl : k < 4096 := hI.1
    have e2 : x2 = nI k := by rw [e, pk_m1]
    subst e2
    exact br_f (nI_pos (by omega)) (yw_spin G N S hl hI.2 fun x t1 a d Q => hk (x, t1, a, d) ⟨by omega, Q⟩ _ rfl)
theorem yw_fr50 {post : SY → Prop} (G : sp_ok w s) (N : sp_Nb nr w) (S : sp_A sk s) (h : ∀ t a d, sp_Fd d (sp_rb w s) → post (1, t, nr, sk, gr, a, d)) :
    ∀ (n r : Nat) (f : Nat → Bool) (t : Int32) (a d : Nat → Int32), 626 < n + r → r ≤ sp_cc f → sp_Fd d f → sp_C w s f → wY_findRecurrent_50 post n 1 (nI r) kn t nr sk gr a d := by
  intro n
  induction n with
  | zero =>
    intro r f t a d hn hr F C
    have h1 : sp_cc f ≤ 625 := sp_cn _ 625
    omega
  | succ n ih =>
    intro r f t a d hn hr F C
    have h1 : sp_cc f ≤ 625 := sp_cn _ 625
    refine br_f (nI_ge (b := 626) (by omega) (by decide)) (br_f hx_01 (yw_spread G N S F C fun x t2 a2 d2 Q => nm_r (nI_1 r) ?_))
    obtain ⟨g, Fg, Cg, hc⟩ := Q
    rcases hc with ⟨c1, c2, c3⟩ | ⟨c1, c2⟩
    · obtain ⟨n', rfl⟩ : ∃ n', n = n' + 1 := ⟨n - 1, by omega⟩
      rw [c1]
      have hp : post (1, t2, nr, sk, gr, a2, d2) := by
        refine h t2 a2 d2 fun m hm => ?_
        rw [Fg m hm]
        cases e : sp_rb w s m with
        | true =>
          have hr := sp_rbt.mp e
          have hg : f m = true := sp_cr G (fun n => f n = true) C.1 (fun n hn hf a ha => c3 n (Nat.zero_le _) hn hf a ha) hr
          rw [c2, hg]
        | false =>
          have hr := sp_rbf.mp e
          cases e2 : g m with
          | true => exact absurd (Cg.2 m e2) hr
          | false => rfl
      exact br_c (fun _ => hp) (fun _ => br_t rfl hp)
    · rw [c1]
      exact ih (r + 1) g t2 a2 d2 (by omega) (by omega) Fg Cg
theorem yw_find {post : SY → Prop} (G : sp_ok w s) (N : sp_Nb nr w) (S : sp_A sk s) (K : kn = 0 ∨ (kn = 1 ∧ sp_Fd fd (sp_rb w s))) (h : ∀ t a d, sp_Fd d (sp_rb w s) → post (1, t, nr, sk, gr, a, d)) :
    wpY_findRecurrent post (kn, tp, nr, sk, gr, wk, fd) := by
  rcases K with rfl | ⟨rfl, K⟩
  · refine br_t rfl ?_
    refine loop_0 (σ := Nat → Int32) (fun n i d => wY_findRecurrent_10 post 0 tp n (nI i) nr sk gr wk d) (fun i d => ∀ j, j < i → d j = 0) 4096 fd (fun j hj => absurd hj (Nat.not_lt_zero j)) ?_ ?_
    · intro n d hI
      refine br_t (nI_le (Nat.le_refl 4096) (by decide)) (yw_full G N S fun a => ?_)
      have hF := sp_Fr G
      have hl := hF.1
      refine And.intro (by rw [hx_4095 hl]; exact vp_in_nI hl (by decide)) (nm_r (e' := upd d (sp_F w s) 1) (by rw [hx_4095 hl, nI_clamp (by omega), hx_nb1]) ?_)
      refine Exists.intro 627 (yw_fr50 G N S h 627 0 (fun n => if n = sp_F w s then true else false) tp a _ (by omega) (Nat.zero_le _) (sp_Fu (f := fun _ => false) (fun n hn => by rw [hI n hn]; rfl) _) ⟨by simp, fun n hn => ?_⟩)
      by_cases e : n = sp_F w s
      · rw [e]; exact hF
      · simp [e] at hn
    · intro n i d hi hI hn
      refine br_f (nI_ge hi (by decide)) ⟨vp_in_nI hi (by decide), nm_r (e' := upd d i 0) (by rw [nI_clamp (by omega), hx_nb0]) (nm_r (nI_1 i) (hn _ fun j hj => ?_))⟩
      by_cases e : j = i
      · rw [e, pk_us]
      · rw [pk_un e]; exact hI j (by omega)
  · exact br_f hx_01 (h tp wk fd K)
theorem yw_rec {post : Int32 → SY → Prop} {x : Int32} (G : sp_ok w s) (N : sp_Nb nr w) (S : sp_A sk s) (K : kn = 0 ∨ (kn = 1 ∧ sp_Fd fd (sp_rb w s)))
    (h1 : ∀ n t a d, sp_Fd d (sp_rb w s) → x = nI n → sp_r w s n → post 1 (1, t, nr, sk, gr, a, d))
    (h0 : ∀ t a d, sp_Fd d (sp_rb w s) → (∀ n, x = nI n → ¬ sp_r w s n) → post 0 (1, t, nr, sk, gr, a, d)) : wpY_isRecurrent post (kn, tp, nr, sk, gr, wk, fd) x := by
  unfold wpY_isRecurrent
  refine yw_find G N S K fun t a d F => ?_
  rcases pk_ix x (n := 4096) (by decide) with hx | hx | ⟨n, hn, rfl⟩
  · refine br_t hx (h0 t a d F fun n e k => ?_)
    rw [e] at hx
    exact nI_pos (by have := k.1; omega) hx
  · have hnx : ¬ x < 0 := fun hl => by
      have h2 : (0 : Int32) ≤ nI 4096 := by decide
      exact Int32.lt_irrefl (Int32.lt_of_lt_of_le hl (Int32.le_trans h2 hx))
    have hx2 : (4095 : Int32) < x := Int32.lt_of_lt_of_le (by decide : (4095 : Int32) < nI 4096) hx
    refine br_f hnx (br_t hx2 (h0 t a d F fun n e k => ?_))
    rw [e] at hx
    exact nI_ge k.1 (by decide) hx
  · refine br_f (nI_pos (by omega)) (br_f (nI_nlt (a := 4095) (by omega) (by decide)) ⟨vp_in_nI hn (by decide), ?_⟩)
    rw [nI_clamp (by omega), F n hn]
    cases e : sp_rb w s n with
    | true => exact br_f hx_01 (h1 n t a d F rfl (sp_rbt.mp e))
    | false =>
      refine br_t rfl (h0 t a d F fun n' e' k => ?_)
      have e2 : n' = n := (nI_eq (by have := k.1; omega) (by omega)).mp e'.symm
      exact sp_rbf.mp e (e2 ▸ k)
end
end
section
/-! The searches and the walks along the multiples, on both sides -/
noncomputable def sp_bf (w : Nat → Nat → Bool) (s : Nat → Nat) (n : Nat) : Nat → Nat
  | 0 => sp_o w s
  | j + 1 => sp_m w s n j
section
variable {w : Nat → Nat → Bool} {s : Nat → Nat} {kn tp : Int32} {nr sk gr wk fd : Nat → Int32}
theorem yw_neu7 {post : Int32 → SY → Prop} (G : sp_ok w s) (N : sp_Nb nr w) (S : sp_A sk s) (h : ∀ t a d, sp_Fd d (sp_rb w s) → post (nI (sp_o w s)) (1, t, nr, sk, gr, a, d)) :
    ∀ (q i : Nat) (kn t : Int32) (a d : Nat → Int32), sp_o w s - i < q → i ≤ sp_o w s → (kn = 0 ∨ (kn = 1 ∧ sp_Fd d (sp_rb w s))) → wY_neutralState_7 post (nI (sp_F w s)) q (nI i) kn t nr sk gr a d := by
  have ho := sp_or G
  have hF := sp_Fr G
  intro q
  induction q with
  | zero => intro i kn t a d hq; omega
  | succ q ih =>
    intro i kn t a d hq hi K
    have hl := ho.1
    have hfl := hF.1
    refine br_f (nI_ge (b := 4096) (by omega) (by decide)) (yw_rec G N S K (fun n t a d F e r => ?_) (fun t a d F hn => ?_))
    · have e' : i = n := (nI_eq (by omega) (by have := r.1; omega)).mp e
      subst e'
      refine br_f hx_01 (yw_sum G N S r.1 hfl fun t2 a2 => ?_)
      by_cases e2 : sp_a w s i (sp_F w s) = sp_F w s
      · refine br_t (by rw [e2]) ?_
        rw [sp_ou G r e2 hF]
        exact h t2 a2 d F
      · have hne : i ≠ sp_o w s := fun z => e2 (by rw [z]; exact sp_oa G hF)
        refine br_f (fun z => e2 ((nI_eq (by have := sp_al G i (sp_F w s); omega) (by omega)).mp z)) (nm_r (nI_1 i) (ih (i + 1) 1 t2 a2 d ?_ ?_ (Or.inr ⟨rfl, F⟩))) <;> omega
    · refine br_t rfl (nm_r (nI_1 i) (ih (i + 1) 1 t a d ?_ ?_ (Or.inr ⟨rfl, F⟩)))
      · have hne : i ≠ sp_o w s := fun z => hn i rfl (by rw [z]; exact ho)
        omega
      · have hne : i ≠ sp_o w s := fun z => hn i rfl (by rw [z]; exact ho)
        omega
theorem yw_neu {post : Int32 → SY → Prop} (G : sp_ok w s) (N : sp_Nb nr w) (S : sp_A sk s) (K : kn = 0 ∨ (kn = 1 ∧ sp_Fd fd (sp_rb w s)))
    (h : ∀ t a d, sp_Fd d (sp_rb w s) → post (nI (sp_o w s)) (1, t, nr, sk, gr, a, d)) : wpY_neutralState post (kn, tp, nr, sk, gr, wk, fd) := by
  unfold wpY_neutralState
  exact yw_full G N S fun a => Exists.intro (sp_o w s + 1) (yw_neu7 G N S h (sp_o w s + 1) 0 kn tp a fd (by omega) (Nat.zero_le _) K)
theorem yw_opp {post : Int32 → SY → Prop} {n b : Nat} (G : sp_ok w s) (N : sp_Nb nr w) (S : sp_A sk s) (hn : n < 4096) (hb : sp_r w s b) (eb : sp_a w s b n = sp_o w s)
    (h : ∀ t a d, sp_Fd d (sp_rb w s) → post (nI b) (1, t, nr, sk, gr, a, d)) :
    ∀ (q i : Nat) (kn t : Int32) (a d : Nat → Int32), b - i < q → i ≤ b → (kn = 0 ∨ (kn = 1 ∧ sp_Fd d (sp_rb w s))) → wY_opposite_17 post (nI n) (nI (sp_o w s)) q (nI i) kn t nr sk gr a d := by
  have ho := (sp_or G).1
  intro q
  induction q with
  | zero => intro i kn t a d hq; omega
  | succ q ih =>
    intro i kn t a d hq hi K
    have hl := hb.1
    refine br_f (nI_ge (b := 4096) (by omega) (by decide)) (yw_rec G N S K (fun n' t a d F e r => ?_) (fun t a d F hn' => ?_))
    · have e' : i = n' := (nI_eq (by omega) (by have := r.1; omega)).mp e
      subst e'
      refine br_f hx_01 (yw_sum G N S hn r.1 fun t2 a2 => ?_)
      by_cases e2 : sp_a w s n i = sp_o w s
      · refine br_t (by rw [e2]) ?_
        rw [sp_op G r hb (by rw [sp_ac]; exact e2) eb]
        exact h t2 a2 d F
      · have hne : i ≠ b := fun z => e2 (by rw [z, sp_ac]; exact eb)
        refine br_f (fun z => e2 ((nI_eq (by have := sp_al G n i; omega) (by omega)).mp z)) (nm_r (nI_1 i) (ih (i + 1) 1 t2 a2 d ?_ ?_ (Or.inr ⟨rfl, F⟩))) <;> omega
    · have hne : i ≠ b := fun z => hn' i rfl (by rw [z]; exact hb)
      refine br_t rfl (nm_r (nI_1 i) (ih (i + 1) 1 t a d ?_ ?_ (Or.inr ⟨rfl, F⟩))) <;> omega
theorem yw_ord {post : Int32 → SY → Prop} {n k0 : Nat} (G : sp_ok w s) (N : sp_Nb nr w) (S : sp_A sk s) (hn : sp_r w s n) (hk : k0 < 625) (e0 : sp_m w s n k0 = sp_o w s) (hm : ∀ j, j < k0 → ¬ sp_m w s n j = sp_o w s)
    (h : ∀ t a, post (nI (k0 + 1)) (kn, t, nr, sk, gr, a, fd)) :
    ∀ (q j : Nat) (t : Int32) (a : Nat → Int32), k0 - j < q → j ≤ k0 → wY_orderOf_20 post (nI n) (nI (sp_o w s)) q (nI (sp_m w s n j)) (nI (j + 1)) kn t nr sk gr a fd := by
  have ho := (sp_or G).1
  intro q
  induction q with
  | zero => intro j t a hq; omega
  | succ q ih =>
    intro j t a hq hj
    have hl := (sp_mr G hn j).1
    refine br_f (nI_nlt (a := 625) (by omega) (by omega)) ?_
    by_cases e : j = k0
    · subst e
      exact br_t (by rw [e0]) (h t a)
    · refine br_f (fun z => hm j (by omega) ((nI_eq (by omega) (by omega)).mp z)) (yw_sum G N S hl hn.1 fun t2 a2 => nm_r (nI_1 (j + 1)) (ih (j + 1) t2 a2 (by omega) (by omega)))
theorem yw_cnt {post : Int32 → SY → Prop} (F : sp_Fd fd (sp_rb w s)) (h : post (nI (sp_c (sp_rb w s) 4096)) (kn, tp, nr, sk, gr, wk, fd)) : ∃ q, wY_order_8 post kn tp nr sk gr wk fd q 0 0 := by
  refine loop_0 (σ := Int32) (fun q i x => wY_order_8 post kn tp nr sk gr wk fd q x (nI i)) (fun i x => x = nI (sp_c (sp_rb w s) i)) 4096 0 rfl ?_ ?_
  · intro q x hx
    exact br_t (nI_le (Nat.le_refl 4096) (by decide)) (by rw [hx]; exact h)
  · intro q i x hi hx hq
    refine br_f (nI_ge hi (by decide)) ⟨vp_in_nI hi (by decide), ?_⟩
    rw [nI_clamp (by omega), F i hi]
    cases e : sp_rb w s i with
    | true =>
      refine br_f hx_01 (nm_r (e' := nI (sp_c (sp_rb w s) (i + 1))) ?_ (nm_r (nI_1 i) (hq _ rfl)))
      rw [hx]
      show nI (sp_c (sp_rb w s) i) + 1 = nI (sp_c (sp_rb w s) i + sp_b (sp_rb w s i))
      rw [e, nI_1]
      rfl
    | false =>
      refine br_t rfl (nm_r (nI_1 i) (hq _ ?_))
      rw [hx]
      show nI (sp_c (sp_rb w s) i) = nI (sp_c (sp_rb w s) i + sp_b (sp_rb w s i))
      rw [e]
      rfl
theorem yw_van {post : SY → Prop} (h : ∀ a, sp_A a (fun _ => 0) → post (0, tp, nr, sk, a, wk, fd)) : wpY_vanish post (kn, tp, nr, sk, gr, wk, fd) := by
  refine loop_0 (σ := Nat → Int32) (fun n i a => wY_vanish_2 post kn tp n (nI i) nr sk a wk fd) (fun i a => sp_B a gr (fun _ => 0) i) 4 gr (sp_B0 _ _) ?_ ?_
  · intro n a hI
    exact br_t hx_e4 (h a (sp_B4 hI))
  · intro n i a hi hI hk
    exact br_f (hx_c4 hi) ⟨hx_in hi, nm_r (e' := upd a i (nI 0)) (by rw [hx_cl hi]; rfl) (nm_r (nI_1 i) (hk _ (sp_B1 hI)))⟩
theorem yw_pl1 {post : Int32 → Prop} {n : Nat} (hn : n < 4) (h : post 1) : wpY_isPlace post (kn, tp, nr, sk, gr, wk, fd) (nI n) :=
  br_f (nI_pos (by omega)) (br_f (nI_nlt (a := 3) (by omega) (by decide)) h)
theorem yw_pl0 {post : Int32 → Prop} {x : Int32} (hx : ¬ ∃ n, n < 4 ∧ x = nI n) (h : post 0) : wpY_isPlace post (kn, tp, nr, sk, gr, wk, fd) x := by
  rcases pk_ix x (n := 4) (by decide) with h1 | h1 | h1
  · exact br_t h1 h
  · have hnx : ¬ x < 0 := fun hl => by
      have h2 : (0 : Int32) ≤ nI 4 := by decide
      exact Int32.lt_irrefl (Int32.lt_of_lt_of_le hl (Int32.le_trans h2 h1))
    exact br_f hnx (br_t (Int32.lt_of_lt_of_le (by decide : (3 : Int32) < nI 4) h1) h)
  · exact absurd h1 hx
end
section
variable {w : Nat → Nat → Bool} {s : Nat → Nat} {c : Int32} {aj sk ap : Nat → Int32}
theorem xw_pl1 {post : Int32 → Prop} {n : Nat} (hn : n < 4) (h : post 1) : wpX_isPlace post (nI n) :=
  br_f (nI_pos (by omega)) (br_f (hx_c4 hn) h)
theorem xw_pl0 {post : Int32 → Prop} {x : Int32} (hx : ¬ ∃ n, n < 4 ∧ x = nI n) (h : post 0) : wpX_isPlace post x := by
  rcases pk_ix x (n := 4) (by decide) with h1 | h1 | h1
  · exact br_t h1 h
  · have hnx : ¬ x < 0 := fun hl => by
      have h2 : (0 : Int32) ≤ nI 4 := by decide
      exact Int32.lt_irrefl (Int32.lt_of_lt_of_le hl (Int32.le_trans h2 h1))
    exact br_f hnx (br_t h1 h)
  · exact absurd h1 hx
theorem xw_ord {post : Int32 → SX → Prop} {n k0 : Nat} (G : sp_ok w s) (J : sp_J aj w) (S : sp_A sk s) (hn : sp_r w s n) (hk : k0 < 625) (e0 : sp_m w s n k0 = sp_o w s) (hm : ∀ j, j < k0 → ¬ sp_m w s n j = sp_o w s)
    (h : ∀ a, post (nI (k0 + 1)) (c, aj, sk, a)) :
    ∀ (q j : Nat) (a : Nat → Int32), k0 - j < q → j ≤ k0 → wX_orderOf_20 post (nI n) (nI (sp_o w s)) q (nI (sp_m w s n j)) (nI (j + 1)) c aj sk a := by
  have ho := (sp_or G).1
  intro q
  induction q with
  | zero => intro j a hq; omega
  | succ q ih =>
    intro j a hq hj
    have hl := (sp_mr G hn j).1
    refine br_f (nI_ge (b := 4096) (by omega) (by decide)) ?_
    by_cases e : j = k0
    · subst e
      exact br_t (by rw [e0]) (h a)
    · refine br_f (fun z => hm j (by omega) ((nI_eq (by omega) (by omega)).mp z)) (xw_add G J S hl hn.1 fun a2 => nm_r (nI_1 (j + 1)) (ih (j + 1) a2 (by omega) (by omega)))
theorem xw_opp {post : Int32 → SX → Prop} {n k0 : Nat} (G : sp_ok w s) (J : sp_J aj w) (S : sp_A sk s) (hn : sp_r w s n) (hk : k0 < 625) (e0 : sp_m w s n k0 = sp_o w s) (hm : ∀ j, j < k0 → ¬ sp_m w s n j = sp_o w s)
    (h : ∀ a, post (nI (sp_bf w s n k0)) (c, aj, sk, a)) :
    ∀ (q j : Nat) (a : Nat → Int32), k0 - j < q → j ≤ k0 → wX_opposite_23 post (nI n) (nI (sp_o w s)) q (nI (sp_bf w s n j)) (nI (sp_m w s n j)) (nI (j + 1)) c aj sk a := by
  have ho := (sp_or G).1
  intro q
  induction q with
  | zero => intro j a hq; omega
  | succ q ih =>
    intro j a hq hj
    have hl := (sp_mr G hn j).1
    refine br_f (nI_ge (b := 4096) (by omega) (by decide)) ?_
    by_cases e : j = k0
    · subst e
      exact br_t (by rw [e0]) (h a)
    · refine br_f (fun z => hm j (by omega) ((nI_eq (by omega) (by omega)).mp z)) (xw_add G J S hl hn.1 fun a2 => nm_r (nI_1 (j + 1)) (ih (j + 1) a2 (by omega) (by omega)))
theorem xw_cnt {post : Int32 → SX → Prop} (G : sp_ok w s) (J : sp_J aj w) (S : sp_A sk s) (h : ∀ a, post (nI (sp_c (sp_rb w s) 4096)) (c, aj, sk, a)) : wpX_order post (c, aj, sk, ap) := by
  refine loop_0 (σ := Int32 × (Nat → Int32)) (fun q i t => wX_order_4 post q t.1 (nI i) c aj sk t.2) (fun i t => t.1 = nI (sp_c (sp_rb w s) i)) 4096 (0, ap) rfl ?_ ?_
  · intro q t hx
    obtain ⟨x, a⟩ := t
    exact br_t (nI_le (Nat.le_refl 4096) (by decide)) (by dsimp only at hx ⊢; rw [hx]; exact h a)
  · intro q i t hi hx hq
    obtain ⟨x, a⟩ := t
    dsimp only at hx
    refine br_f (nI_ge hi (by decide)) (xw_rec G J S (fun n a2 e r => ?_) (fun a2 hn => ?_))
    · have e' : i = n := (nI_eq (by omega) (by have := r.1; omega)).mp e
      subst e'
      refine br_f hx_01 (nm_r (e' := nI (sp_c (sp_rb w s) (i + 1))) ?_ (nm_r (nI_1 i) (hq (_, a2) rfl)))
      rw [hx]
      show nI (sp_c (sp_rb w s) i) + 1 = nI (sp_c (sp_rb w s) i + sp_b (sp_rb w s i))
      rw [sp_rbt.mpr r, nI_1]
      rfl
    · refine br_t rfl (nm_r (nI_1 i) (hq (x, a2) ?_))
      show x = nI (sp_c (sp_rb w s) i + sp_b (sp_rb w s i))
      rw [hx, sp_rbf.mpr (hn i rfl)]
      rfl
end
/-- the least multiple that is neutral, and the opposite before it -/
theorem sp_mk {w : Nat → Nat → Bool} {s : Nat → Nat} (G : sp_ok w s) {n : Nat} (hn : sp_r w s n) :
    ∃ k0, k0 < 625 ∧ sp_m w s n k0 = sp_o w s ∧ (∀ j, j < k0 → ¬ sp_m w s n j = sp_o w s) ∧ sp_r w s (sp_bf w s n k0) ∧ sp_a w s (sp_bf w s n k0) n = sp_o w s := by
  obtain ⟨k0, h, hl⟩ := pk_least (fun k => k < 625 ∧ sp_m w s n k = sp_o w s) (sp_mo G hn)
  refine ⟨k0, h.1, h.2, fun j hj e => hl j hj ⟨by have := h.1; omega, e⟩, ?_⟩
  cases k0 with
  | zero =>
    refine ⟨sp_or G, ?_⟩
    show sp_a w s (sp_o w s) n = sp_o w s
    rw [sp_oa G hn]
    exact h.2
  | succ k => exact ⟨sp_mr G hn k, h.2⟩
end
section
/-! Changing the graph -/
def sp_w (w : Nat → Nat → Bool) (a b : Nat) (t : Bool) (i j : Nat) : Bool := if (i = a ∧ j = b) ∨ (i = b ∧ j = a) then t else w i j
theorem sp_wa (w : Nat → Nat → Bool) {a b : Nat} (t : Bool) (h : a ≠ b) (j : Nat) : sp_w w a b t a j = if b = j then t else w a j := by
  unfold sp_w
  by_cases e : b = j
  · rw [if_pos e, if_pos (Or.inl ⟨rfl, e.symm⟩)]
  · rw [if_neg e, if_neg (by omega)]
theorem sp_wb (w : Nat → Nat → Bool) {a b : Nat} (t : Bool) (h : a ≠ b) (j : Nat) : sp_w w a b t b j = if a = j then t else w b j := by
  unfold sp_w
  by_cases e : a = j
  · rw [if_pos e, if_pos (Or.inr ⟨rfl, e.symm⟩)]
  · rw [if_neg e, if_neg (by omega)]
theorem sp_wc (w : Nat → Nat → Bool) {a b i : Nat} (t : Bool) (ha : i ≠ a) (hb : i ≠ b) (j : Nat) : sp_w w a b t i j = w i j := by
  unfold sp_w
  rw [if_neg (by omega)]
theorem sp_wok {w : Nat → Nat → Bool} {s : Nat → Nat} (G : sp_ok w s) {a b : Nat} (t : Bool) (h : a ≠ b) : sp_ok (sp_w w a b t) s := by
  refine ⟨fun i j hi hj => ?_, fun i hi => ?_, G.2.2⟩
  · unfold sp_w
    by_cases e : (i = a ∧ j = b) ∨ (i = b ∧ j = a)
    · rw [if_pos e, if_pos (by omega)]
    · rw [if_neg e, if_neg (by omega)]
      exact G.1 i j hi hj
  · unfold sp_w
    rw [if_neg (by omega)]
    exact G.2.1 i hi
theorem sp_wJ {aj : Nat → Int32} {w : Nat → Nat → Bool} (J : sp_J aj w) {a b : Nat} (t : Bool) (ha : a < 4) (hb : b < 4) :
    sp_J (upd (upd aj (a * 4 + b) (nI (sp_b t))) (b * 4 + a) (nI (sp_b t))) (sp_w w a b t) := by
  intro i j hi hj
  unfold sp_w
  by_cases e1 : i * 4 + j = b * 4 + a
  · rw [e1, pk_us, if_pos (by omega)]
  · rw [pk_un e1]
    by_cases e2 : i * 4 + j = a * 4 + b
    · rw [e2, pk_us, if_pos (by omega)]
    · rw [pk_un e2, J i j hi hj, if_neg (by omega)]
/-- row i of the neighbours with j set to t -/
def sp_m1 (w : Nat → Nat → Bool) (i j : Nat) (t : Bool) : Nat :=
  sp_b (if j = 0 then t else w i 0) + 2 * sp_b (if j = 1 then t else w i 1) + 4 * sp_b (if j = 2 then t else w i 2) + 8 * sp_b (if j = 3 then t else w i 3)
theorem sp_or1 (w : Nat → Nat → Bool) (i : Nat) {j : Nat} (hj : j < 4) : nI (sp_M4 w i) ||| ((1 : Int32) <<< (nI j &&& 31)) = nI (sp_m1 w i j true) := hw_or (w i 0) (w i 1) (w i 2) (w i 3) j hj
theorem sp_an1 (w : Nat → Nat → Bool) (i : Nat) {j : Nat} (hj : j < 4) : nI (sp_M4 w i) &&& (((1 : Int32) <<< (nI j &&& 31)) ^^^ (-1)) = nI (sp_m1 w i j false) := hw_an (w i 0) (w i 1) (w i 2) (w i 3) j hj
theorem sp_wN {nr : Nat → Int32} {w : Nat → Nat → Bool} (N : sp_Nb nr w) {a b : Nat} (t : Bool) (h : a ≠ b) :
    sp_Nb (upd (upd nr a (nI (sp_m1 w a b t))) b (nI (sp_m1 w b a t))) (sp_w w a b t) := by
  intro i hi
  by_cases eb : i = b
  · subst eb
    rw [pk_us]
    unfold sp_m1 sp_M4
    rw [sp_wb w t h, sp_wb w t h, sp_wb w t h, sp_wb w t h]
  · rw [pk_un eb]
    by_cases ea : i = a
    · subst ea
      rw [pk_us]
      unfold sp_m1 sp_M4
      rw [sp_wa w t h, sp_wa w t h, sp_wa w t h, sp_wa w t h]
    · rw [pk_un ea, N i hi]
      unfold sp_M4
      rw [sp_wc w t ea eb, sp_wc w t ea eb, sp_wc w t ea eb, sp_wc w t ea eb]
def sp_s (s : Nat → Nat) (a k i : Nat) : Nat := if i = a then k else s i
theorem sp_sok {w : Nat → Nat → Bool} {s : Nat → Nat} (G : sp_ok w s) {a k : Nat} (h1 : 1 ≤ k) (h2 : k ≤ 2) : sp_ok w (sp_s s a k) := by
  refine ⟨G.1, G.2.1, fun i hi => ?_⟩
  unfold sp_s
  split
  · exact ⟨h1, h2⟩
  · exact G.2.2 i hi
theorem sp_sA {sk : Nat → Int32} {s : Nat → Nat} (S : sp_A sk s) (a k : Nat) : sp_A (upd sk a (nI k)) (sp_s s a k) := sp_Au S (fun _ _ => rfl)
theorem sp_bz (v : Int32) : ∃ t : Bool, lw_bz v = nI (sp_b t) := by
  rcases lw_bz_01 v with h | h
  · exact ⟨false, h⟩
  · exact ⟨true, h⟩
theorem sp_nb (t : Bool) : vp_nar .boolean (nI (sp_b t)) = nI (sp_b t) := by
  cases t
  · exact hx_nb0
  · exact hx_nb1
end
section
/-! The relation, the start, the calls that change the graph or the grains -/
/-- one graph, one state; the scratch arrays are free; what the reference has found, if it is known, are the recurrent states -/
def i_Rel (k : Nat) (u : SX) (v : SY) : Prop :=
  ∃ (w : Nat → Nat → Bool) (s g : Nat → Nat) (aj sx ap : Nat → Int32) (kn tp : Int32) (nr sy gr wk fd : Nat → Int32),
    u = (nI (sp_n g), aj, sx, ap) ∧ v = (kn, tp, nr, sy, gr, wk, fd) ∧ sp_ok w s ∧ sp_J aj w ∧ sp_A sx s ∧ sp_Nb nr w ∧ sp_A sy s ∧ sp_A gr g ∧ (∀ i, i < 4 → g i < sp_d w s i) ∧
    (kn = 0 ∨ (kn = 1 ∧ sp_Fd fd (sp_rb w s)))
theorem i_up {k : Nat} {u : SX} {v : SY} (h : i_Rel k u v) : i_Rel (k + 4) u v := h
theorem ir_mk {k : Nat} {w : Nat → Nat → Bool} {s g : Nat → Nat} {aj sx ap : Nat → Int32} {kn tp : Int32} {nr sy gr wk fd : Nat → Int32} {x : Int32}
    (G : sp_ok w s) (J : sp_J aj w) (S : sp_A sx s) (N : sp_Nb nr w) (T : sp_A sy s) (A : sp_A gr g) (hg : ∀ i, i < 4 → g i < sp_d w s i) (K : kn = 0 ∨ (kn = 1 ∧ sp_Fd fd (sp_rb w s))) (hx : x = nI (sp_n g)) :
    i_Rel k (x, aj, sx, ap) (kn, tp, nr, sy, gr, wk, fd) := by
  subst hx
  exact ⟨w, s, g, aj, sx, ap, kn, tp, nr, sy, gr, wk, fd, rfl, rfl, G, J, S, N, T, A, hg, K⟩
theorem ir_0 {k : Nat} {w : Nat → Nat → Bool} {s : Nat → Nat} {aj sx ap : Nat → Int32} {tp : Int32} {nr sy gr wk fd : Nat → Int32}
    (G : sp_ok w s) (J : sp_J aj w) (S : sp_A sx s) (N : sp_Nb nr w) (T : sp_A sy s) (A : sp_A gr (fun _ => 0)) : i_Rel k (0, aj, sx, ap) (0, tp, nr, sy, gr, wk, fd) :=
  ir_mk (g := fun _ => 0) G J S N T A (fun i hi => (sp_d1 G hi).1) (Or.inl rfl) rfl
theorem i_vc0 : wpX_init (fun u => wpY_init (fun v => i_Rel 0 u v)) := by
  refine loop_0 (σ := Nat → Int32) (fun n i a => wX_init_28 (fun u => wpY_init (fun v => i_Rel 0 u v)) 0 n (nI i) (fun _ => 0) a (fun _ => 0)) (fun i a => sp_B a (fun _ => 0) (fun _ => 1) i) 4 _ (sp_B0 _ _) ?_ ?_
  · intro n a hI
    refine br_t hx_e4 ?_
    refine loop_0 (σ := Nat → Int32) (fun n i b => wY_init_48 (fun v => i_Rel 0 (0, fun _ => 0, a, fun _ => 0) v) 0 0 n (nI i) (fun _ => 0) b (fun _ => 0) (fun _ => 0) (fun _ => 0)) (fun i b => sp_B b (fun _ => 0) (fun _ => 1) i) 4 _ (sp_B0 _ _) ?_ ?_
    · intro n b hJ
      refine br_t hx_e4 (ir_0 (w := fun _ _ => false) (s := fun _ => 1) ?_ ?_ (sp_B4 hI) ?_ (sp_B4 hJ) ?_)
      · exact ⟨fun _ _ _ _ => rfl, fun _ _ => rfl, fun _ _ => ⟨Nat.le_refl 1, Nat.le_succ 1⟩⟩
      · exact fun _ _ _ _ => rfl
      · exact fun _ _ => rfl
      · exact fun _ _ => rfl
    · intro n i b hi hJ hk
      exact br_f (hx_c4 hi) ⟨hx_in hi, nm_r (e' := upd b i (nI 1)) (by rw [hx_cl hi]; rfl) (nm_r (nI_1 i) (hk _ (sp_B1 hJ)))⟩
  · intro n i a hi hI hk
    exact br_f (hx_c4 hi) ⟨hx_in hi, nm_r (e' := upd a i (nI 1)) (by rw [hx_cl hi]; rfl) (nm_r (nI_1 i) (hk _ (sp_B1 hI)))⟩
theorem i_vc_edge {k : Nat} {u : SX} {v : SY} (I : i_Rel k u v) (hk : k + 4 ≤ 2048) (v1 : Int32) (v2 : Int32) (v3 : Int32) : wpX_edge (fun r u' => wpY_edge (fun r' v' => r' = r ∧ i_Rel (k + 4) u' v') v v1 v2 (lw_bz v3)) u v1 v2 (lw_bz v3) := by
  have I0 := I
  obtain ⟨w, s, g, aj, sx, ap, kn, tp, nr, sy, gr, wk, fd, rfl, rfl, G, J, S, N, T, A, hg, K⟩ := I
  unfold wpX_edge wpY_edge
  dsimp only
  by_cases ha : ∃ n, n < 4 ∧ v1 = nI n
  · by_cases hb : ∃ n, n < 4 ∧ v2 = nI n
    · obtain ⟨a, ha, rfl⟩ := ha
      obtain ⟨b, hb, rfl⟩ := hb
      refine xw_pl1 ha (br_f hx_01 (xw_pl1 hb (br_f hx_01 ?_)))
      by_cases e : a = b
      · subst e
        exact br_t rfl (yw_pl1 ha (br_f hx_01 (yw_pl1 ha (br_f hx_01 (br_t rfl ⟨rfl, I0⟩)))))
      · have hne : ¬ nI a = nI b := fun z => e ((nI_eq (by omega) (by omega)).mp z)
        obtain ⟨t, ht⟩ := sp_bz v3
        rw [ht]
        refine br_f hne ⟨hx_ii ha hb, nm_r (e' := upd aj (a * 4 + b) (nI (sp_b t))) (by rw [hx_ic ha hb, sp_nb]) ⟨hx_ii hb ha, nm_r (e' := upd (upd aj (a * 4 + b) (nI (sp_b t))) (b * 4 + a) (nI (sp_b t))) (by rw [hx_ic hb ha, sp_nb]) ?_⟩⟩
        refine yw_pl1 ha (br_f hx_01 (yw_pl1 hb (br_f hx_01 (br_f hne ?_))))
        have hba : ¬ b = a := fun z => e z.symm
        have H : ∀ q : Nat → Int32, q = upd (upd nr a (nI (sp_m1 w a b t))) b (nI (sp_m1 w b a t)) → ∀ gr', sp_A gr' (fun _ => 0) →
            i_Rel (k + 4) (0, upd (upd aj (a * 4 + b) (nI (sp_b t))) (b * 4 + a) (nI (sp_b t)), sx, ap) (0, tp, q, sy, gr', wk, fd) := by
          intro q eq gr' A'
          subst eq
          exact ir_0 (sp_wok G t e) (sp_wJ J t ha hb) S (sp_wN N t e) T A'
        cases t with
        | false =>
          refine br_t rfl ⟨hx_in ha, And.intro (hx_in ha) (nm_r (e' := upd nr a (nI (sp_m1 w a b false))) (by rw [hx_cl ha, N a ha, sp_an1 w a hb]) (br_t rfl ⟨hx_in hb, And.intro (hx_in hb) (nm_r rfl (yw_van fun gr' A' => ⟨rfl, H _ ?_ gr' A'⟩))⟩))⟩
          rw [hx_cl hb, pk_un hba, N b hb, sp_an1 w b ha]
        | true =>
          refine br_f hx_01 ⟨hx_in ha, And.intro (hx_in ha) (nm_r (e' := upd nr a (nI (sp_m1 w a b true))) (by rw [hx_cl ha, N a ha, sp_or1 w a hb]) (br_f hx_01 ⟨hx_in hb, And.intro (hx_in hb) (nm_r rfl (yw_van fun gr' A' => ⟨rfl, H _ ?_ gr' A'⟩))⟩))⟩
          rw [hx_cl hb, pk_un hba, N b hb, sp_or1 w b ha]
    · obtain ⟨a, ha, rfl⟩ := ha
      exact xw_pl1 ha (br_f hx_01 (xw_pl0 hb (br_t rfl (yw_pl1 ha (br_f hx_01 (yw_pl0 hb (br_t rfl ⟨rfl, I0⟩)))))))
  · exact xw_pl0 ha (br_t rfl (yw_pl0 ha (br_t rfl ⟨rfl, I0⟩)))
theorem i_vc_sink {k : Nat} {u : SX} {v : SY} (I : i_Rel k u v) (hk : k + 4 ≤ 2048) (v1 : Int32) (v2 : Int32) : wpX_sink (fun r u' => wpY_sink (fun r' v' => r' = r ∧ i_Rel (k + 4) u' v') v v1 v2) u v1 v2 := by
  have I0 := I
  obtain ⟨w, s, g, aj, sx, ap, kn, tp, nr, sy, gr, wk, fd, rfl, rfl, G, J, S, N, T, A, hg, K⟩ := I
  unfold wpX_sink wpY_sink
  dsimp only
  by_cases ha : ∃ n, n < 4 ∧ v1 = nI n
  · obtain ⟨a, ha, rfl⟩ := ha
    refine xw_pl1 ha (br_f hx_01 ?_)
    by_cases h1 : v2 < 1
    · exact br_t h1 (yw_pl1 ha (br_f hx_01 (br_t h1 ⟨rfl, I0⟩)))
    · by_cases h2 : v2 ≤ 2
      · have h0 : ¬ v2 < 0 := fun z => h1 (Int32.lt_trans z (by decide))
        obtain ⟨m, hm, rfl⟩ := nI_of2 (n := 2) (by decide) h0 h2
        have hm1 : 1 ≤ m := by
          apply Classical.byContradiction
          intro z
          exact h1 (nI_lt (b := 1) (by omega) (by decide))
        refine br_f h1 (br_t h2 ⟨hx_in ha, nm_r (e' := upd sx a (nI m)) (by rw [hx_cl ha]) ?_⟩)
        refine yw_pl1 ha (br_f hx_01 (br_f h1 (br_t h2 ⟨hx_in ha, nm_r (e' := upd sy a (nI m)) (by rw [hx_cl ha]) (yw_van fun gr' A' => ⟨rfl, ?_⟩)⟩)))
        exact ir_0 (sp_sok G hm1 hm) J (sp_sA S a m) N (sp_sA T a m) A'
      · exact br_f h1 (br_f h2 (yw_pl1 ha (br_f hx_01 (br_f h1 (br_f h2 ⟨rfl, I0⟩)))))
  · exact xw_pl0 ha (br_t rfl (yw_pl0 ha (br_t rfl ⟨rfl, I0⟩)))
theorem i_vc_drop {k : Nat} {u : SX} {v : SY} (I : i_Rel k u v) (hk : k + 4 ≤ 2048) (v1 : Int32) (v2 : Int32) : wpX_drop (fun r u' => wpY_drop (fun r' v' => r' = r ∧ i_Rel (k + 4) u' v') v v1 v2) u v1 v2 := by
  have I0 := I
  obtain ⟨w, s, g, aj, sx, ap, kn, tp, nr, sy, gr, wk, fd, rfl, rfl, G, J, S, N, T, A, hg, K⟩ := I
  unfold wpX_drop wpY_drop
  dsimp only
  have g5 : ∀ i, i < 4 → g i ≤ 4 := fun i hi => by
    have h1 := hg i hi
    have h2 := (sp_d1 G hi).2
    omega
  have g8 : ∀ i, i < 4 → g i < 8 := fun i hi => by
    have h1 := g5 i hi
    omega
  by_cases ha : ∃ n, n < 4 ∧ v1 = nI n
  · obtain ⟨a, ha, rfl⟩ := ha
    refine xw_pl1 ha (br_f hx_01 ?_)
    by_cases h1 : v2 < 0
    · exact br_t h1 (yw_pl1 ha (br_f hx_01 (br_t h1 ⟨rfl, I0⟩)))
    · by_cases h2 : v2 ≤ 1000
      · obtain ⟨m, hm, rfl⟩ := nI_of2 (n := 1000) (by decide) h1 h2
        have hb : sp_t (fun i => if i = a then g i + m else g i) ≤ 1050 := by
          have a0 := g5 0 (by decide)
          have a1 := g5 1 (by decide)
          have a2 := g5 2 (by decide)
          have a3 := g5 3 (by decide)
          unfold sp_t
          rcases sp_4 ha with rfl | rfl | rfl | rfl <;> simp <;> omega
        refine br_f h1 (br_t h2 (xw_clear fun a1 A1 => xw_addp A1 (sp_nl g8) fun a2 A2 => And.intro (hx_in ha) (And.intro (hx_in ha) (nm_r (e' := upd a2 a (nI (g a + m))) ?_ (xw_settle G J S (p0 := fun i => if i = a then g i + m else g i) ?_ hb fun a3 A3 => xw_num A3 (sp_y8 G _) ?_)))))
        · dsimp only
          rw [hx_cl ha, A2 a ha]
          show upd a2 a (nI (0 + sp_g (sp_n g) a) + nI m) = _
          rw [sp_gn g8 a ha, nI_add, Nat.zero_add]
        · refine sp_Au A2 fun i hi => ?_
          by_cases e : i = a
          · rw [if_pos e, if_pos e, e]
          · rw [if_neg e, if_neg e, sp_gn g8 i hi, Nat.zero_add]
        refine yw_pl1 ha (br_f hx_01 (br_f h1 (br_t h2 ?_)))
        refine loop_0 (σ := Nat → Int32) (fun n i b => wY_drop_23 _ (nI a) (nI m) kn tp n (nI i) nr sy gr b fd) (fun i b => sp_B b wk g i) 4 _ (sp_B0 _ _) ?_ ?_
        · intro n b hI
          have hB := sp_B4 hI
          refine br_t hx_e4 ⟨hx_in ha, hx_in ha, nm_r (e' := upd b a (nI (g a + m))) (by rw [hx_cl ha, hB a ha, nI_add]) (yw_settle G N T (p0 := fun i => if i = a then g i + m else g i) ?_ hb fun b2 B2 => ?_)⟩
          · refine sp_Au hB fun i hi => ?_
            by_cases e : i = a
            · rw [if_pos e, if_pos e, e]
            · rw [if_neg e, if_neg e]
          refine loop_0 (σ := Nat → Int32) (fun n i d => wY_drop_62 _ kn _ n (nI i) nr sy d b2 fd) (fun i d => sp_B d gr (sp_y w s (fun i => if i = a then g i + m else g i)) i) 4 _ (sp_B0 _ _) ?_ ?_
          · intro n d hI
            refine br_t hx_e4 ⟨rfl, ir_mk G J S N T (sp_B4 hI) (fun i hi => ((sp_yu G _).1 i hi).2) K rfl⟩
          · intro n i d hi hI hn
            exact br_f (hx_c4 hi) ⟨hx_in hi, hx_in hi, nm_r (e' := upd d i (nI (sp_y w s (fun i => if i = a then g i + m else g i) i))) (by rw [hx_cl hi, B2 i hi]) (nm_r (nI_1 i) (hn _ (sp_B1 hI)))⟩
        · intro n i b hi hI hn
          exact br_f (hx_c4 hi) ⟨hx_in hi, hx_in hi, nm_r (e' := upd b i (nI (g i))) (by rw [hx_cl hi, A i hi]) (nm_r (nI_1 i) (hn _ (sp_B1 hI)))⟩
      · exact br_f h1 (br_f h2 (yw_pl1 ha (br_f hx_01 (br_f h1 (br_f h2 ⟨rfl, I0⟩)))))
  · exact xw_pl0 ha (br_t rfl (yw_pl0 ha (br_t rfl ⟨rfl, I0⟩)))
theorem i_vc_state {k : Nat} {u : SX} {v : SY} (I : i_Rel k u v) (hk : k + 4 ≤ 2048) : wpX_state (fun r => wpY_state (fun r' => r' = r ∧ i_Rel (k + 4) u v) v) u := by
  have I0 := I
  obtain ⟨w, s, g, aj, sx, ap, kn, tp, nr, sy, gr, wk, fd, rfl, rfl, G, J, S, N, T, A, hg, K⟩ := I
  exact And.intro (hx_wr A) I0
theorem i_vc_set {k : Nat} {u : SX} {v : SY} (I : i_Rel k u v) (hk : k + 4 ≤ 2048) (v1 : Int32) : wpX_set (fun r u' => wpY_set (fun r' v' => r' = r ∧ i_Rel (k + 4) u' v') v v1) u v1 := by
  have I0 := I
  obtain ⟨w, s, g, aj, sx, ap, kn, tp, nr, sy, gr, wk, fd, rfl, rfl, G, J, S, N, T, A, hg, K⟩ := I
  unfold wpX_set wpY_set
  dsimp only
  by_cases h : ∃ n, v1 = nI n ∧ sp_k w s n
  · obtain ⟨n, rfl, hn⟩ := h
    refine xw_stab G J S (fun n' e k' => br_f hx_01 (yw_stab G N T (fun n2 e2 k2 => br_f hx_01 ?_) (fun z => absurd hn (z n rfl)))) (fun z => absurd hn (z n rfl))
    refine loop_0 (σ := Nat → Int32) (fun q i d => wY_set_12 _ (nI n) kn tp q (nI i) nr sy d wk fd) (fun i d => sp_B d gr (sp_g n) i) 4 _ (sp_B0 _ _) ?_ ?_
    · intro q d hI
      exact br_t hx_e4 ⟨rfl, ir_mk G J S N T (sp_B4 hI) hn.2 K (by rw [sp_ng hn.1])⟩
    · intro q i d hi hI hq
      have hl := hn.1
      refine br_f (hx_c4 hi) (And.intro (hx_in hi) (nm_r (e' := upd d i (nI (sp_g n i))) ?_ (nm_r (nI_1 i) (hq _ (sp_B1 hI)))))
      rw [hx_cl hi, hw_shY (by omega) hi]
  · have hz : ∀ n, v1 = nI n → ¬ sp_k w s n := fun n e kk => h ⟨n, e, kk⟩
    exact xw_stab G J S (fun n e kk => absurd kk (hz n e)) (fun _ => br_t rfl (yw_stab G N T (fun n e kk => absurd kk (hz n e)) (fun _ => br_t rfl ⟨rfl, I0⟩)))
theorem i_vc_degree {k : Nat} {u : SX} {v : SY} (I : i_Rel k u v) (hk : k + 4 ≤ 2048) (v1 : Int32) : wpX_degree (fun r => wpY_degree (fun r' => r' = r ∧ i_Rel (k + 4) u v) v v1) u v1 := by
  have I0 := I
  obtain ⟨w, s, g, aj, sx, ap, kn, tp, nr, sy, gr, wk, fd, rfl, rfl, G, J, S, N, T, A, hg, K⟩ := I
  unfold wpX_degree wpY_degree
  dsimp only
  by_cases ha : ∃ n, n < 4 ∧ v1 = nI n
  · obtain ⟨a, ha, rfl⟩ := ha
    exact xw_pl1 ha (br_f hx_01 (xw_deg J S ha (yw_pl1 ha (br_f hx_01 (yw_deg N T ha ⟨rfl, I0⟩)))))
  · exact xw_pl0 ha (br_t rfl (yw_pl0 ha (br_t rfl ⟨rfl, I0⟩)))
end
section
/-! The calls that ask about recurrent states -/
theorem i_vc_recurrent {k : Nat} {u : SX} {v : SY} (I : i_Rel k u v) (hk : k + 4 ≤ 2048) (v1 : Int32) : wpX_recurrent (fun r u' => wpY_recurrent (fun r' v' => r' = r ∧ i_Rel (k + 4) u' v') v v1) u v1 := by
  obtain ⟨w, s, g, aj, sx, ap, kn, tp, nr, sy, gr, wk, fd, rfl, rfl, G, J, S, N, T, A, hg, K⟩ := I
  unfold wpX_recurrent wpY_recurrent
  dsimp only
  refine xw_rec G J S (fun n a e r => And.intro rfl ?_) (fun a hz => And.intro rfl ?_)
  · exact yw_rec G N T K (fun n' t a' d F e' r' => And.intro rfl ⟨rfl, ir_mk G J S N T A hg (Or.inr ⟨rfl, F⟩) rfl⟩) (fun t a' d F z => absurd r (z n e))
  · exact yw_rec G N T K (fun n' t a' d F e' r' => absurd r' (hz n' e')) (fun t a' d F z => And.intro rfl ⟨rfl, ir_mk G J S N T A hg (Or.inr ⟨rfl, F⟩) rfl⟩)
theorem i_vc_order {k : Nat} {u : SX} {v : SY} (I : i_Rel k u v) (hk : k + 4 ≤ 2048) : wpX_order (fun r u' => wpY_order (fun r' v' => r' = r ∧ i_Rel (k + 4) u' v') v) u := by
  obtain ⟨w, s, g, aj, sx, ap, kn, tp, nr, sy, gr, wk, fd, rfl, rfl, G, J, S, N, T, A, hg, K⟩ := I
  refine xw_cnt G J S fun a => ?_
  unfold wpY_order
  exact yw_find G N T K fun t a' d F => yw_cnt F ⟨rfl, ir_mk G J S N T A hg (Or.inr ⟨rfl, F⟩) rfl⟩
theorem i_vc_neutral {k : Nat} {u : SX} {v : SY} (I : i_Rel k u v) (hk : k + 4 ≤ 2048) : wpX_neutral (fun r u' => wpY_neutral (fun r' v' => r' = r ∧ i_Rel (k + 4) u' v') v) u := by
  obtain ⟨w, s, g, aj, sx, ap, kn, tp, nr, sy, gr, wk, fd, rfl, rfl, G, J, S, N, T, A, hg, K⟩ := I
  unfold wpX_neutral wpY_neutral
  dsimp only
  exact xw_neu G J S fun a => yw_neu G N T K fun t a' d F => ⟨rfl, ir_mk G J S N T A hg (Or.inr ⟨rfl, F⟩) rfl⟩
theorem i_vc_opposite {k : Nat} {u : SX} {v : SY} (I : i_Rel k u v) (hk : k + 4 ≤ 2048) (v1 : Int32) : wpX_opposite (fun r u' => wpY_opposite (fun r' v' => r' = r ∧ i_Rel (k + 4) u' v') v v1) u v1 := by
  obtain ⟨w, s, g, aj, sx, ap, kn, tp, nr, sy, gr, wk, fd, rfl, rfl, G, J, S, N, T, A, hg, K⟩ := I
  unfold wpX_opposite wpY_opposite
  dsimp only
  refine xw_rec G J S (fun n a e r => br_f hx_01 (xw_neu G J S fun a1 => ?_)) (fun a hz => br_t rfl ?_)
  · subst e
    obtain ⟨k0, hk0, e0, hm, hb, eb⟩ := sp_mk G r
    refine Exists.intro (k0 + 1) (xw_opp G J S r hk0 e0 hm (fun a2 => ?_) (k0 + 1) 0 a1 (by omega) (Nat.zero_le _))
    refine yw_rec G N T K (fun n' t a' d F e' r' => br_f hx_01 (yw_neu G N T (Or.inr ⟨rfl, F⟩) fun t3 a3 d3 F3 => ?_)) (fun t a' d F z => absurd r (z n rfl))
    exact Exists.intro (sp_bf w s n k0 + 1) (yw_opp G N T r.1 hb eb (fun t4 a4 d4 F4 => ⟨rfl, ir_mk G J S N T A hg (Or.inr ⟨rfl, F4⟩) rfl⟩) (sp_bf w s n k0 + 1) 0 1 t3 a3 d3 (by omega) (Nat.zero_le _) (Or.inr ⟨rfl, F3⟩))
  · exact yw_rec G N T K (fun n' t a' d F e' r' => absurd r' (hz n' e')) (fun t a' d F z => br_t rfl ⟨rfl, ir_mk G J S N T A hg (Or.inr ⟨rfl, F⟩) rfl⟩)
theorem i_vc_groupSum {k : Nat} {u : SX} {v : SY} (I : i_Rel k u v) (hk : k + 4 ≤ 2048) (v1 : Int32) (v2 : Int32) : wpX_groupSum (fun r u' => wpY_groupSum (fun r' v' => r' = r ∧ i_Rel (k + 4) u' v') v v1 v2) u v1 v2 := by
  have I0 := I
  obtain ⟨w, s, g, aj, sx, ap, kn, tp, nr, sy, gr, wk, fd, rfl, rfl, G, J, S, N, T, A, hg, K⟩ := I
  unfold wpX_groupSum wpY_groupSum
  dsimp only
  refine xw_stab G J S (fun n e kn1 => br_f hx_01 (xw_stab G J S (fun m e2 km => br_f hx_01 ?_) (fun hz2 => br_t rfl ?_))) (fun hz => br_t rfl ?_)
  · subst e e2
    refine xw_add G J S kn1.1 km.1 fun a => ?_
    exact yw_stab G N T (fun _ _ _ => br_f hx_01 (yw_stab G N T (fun _ _ _ => br_f hx_01 (yw_sum G N T kn1.1 km.1 fun t a' => ⟨rfl, ir_mk G J S N T A hg K rfl⟩)) (fun z => absurd km (z m rfl)))) (fun z => absurd kn1 (z n rfl))
  · exact yw_stab G N T (fun _ _ _ => br_f hx_01 (yw_stab G N T (fun m e2 km => absurd km (hz2 m e2)) (fun z => br_t rfl ⟨rfl, I0⟩))) (fun z => absurd kn1 (z n e))
  · exact yw_stab G N T (fun n e kk => absurd kk (hz n e)) (fun _ => br_t rfl ⟨rfl, I0⟩)
theorem i_vc_orderOf {k : Nat} {u : SX} {v : SY} (I : i_Rel k u v) (hk : k + 4 ≤ 2048) (v1 : Int32) : wpX_orderOf (fun r u' => wpY_orderOf (fun r' v' => r' = r ∧ i_Rel (k + 4) u' v') v v1) u v1 := by
  obtain ⟨w, s, g, aj, sx, ap, kn, tp, nr, sy, gr, wk, fd, rfl, rfl, G, J, S, N, T, A, hg, K⟩ := I
  unfold wpX_orderOf wpY_orderOf
  dsimp only
  refine xw_rec G J S (fun n a e r => br_f hx_01 (xw_neu G J S fun a1 => ?_)) (fun a hz => br_t rfl ?_)
  · subst e
    obtain ⟨k0, hk0, e0, hm, hb, eb⟩ := sp_mk G r
    refine Exists.intro (k0 + 1) (xw_ord G J S r hk0 e0 hm (fun a2 => ?_) (k0 + 1) 0 a1 (by omega) (Nat.zero_le _))
    refine yw_rec G N T K (fun n' t a' d F e' r' => br_f hx_01 (yw_neu G N T (Or.inr ⟨rfl, F⟩) fun t3 a3 d3 F3 => ?_)) (fun t a' d F z => absurd r (z n rfl))
    exact Exists.intro (k0 + 1) (yw_ord G N T r hk0 e0 hm (fun t4 a4 => ⟨rfl, ir_mk G J S N T A hg (Or.inr ⟨rfl, F3⟩) rfl⟩) (k0 + 1) 0 t3 a3 (by omega) (Nat.zero_le _))
  · exact yw_rec G N T K (fun n' t a' d F e' r' => absurd r' (hz n' e')) (fun t a' d F z => br_t rfl ⟨rfl, ir_mk G J S N T A hg (Or.inr ⟨rfl, F⟩) rfl⟩)
theorem i_vc_recurrentOf {k : Nat} {u : SX} {v : SY} (I : i_Rel k u v) (hk : k + 4 ≤ 2048) (v1 : Int32) : wpX_recurrentOf (fun r u' => wpY_recurrentOf (fun r' v' => r' = r ∧ i_Rel (k + 4) u' v') v v1) u v1 := by
  have I0 := I
  obtain ⟨w, s, g, aj, sx, ap, kn, tp, nr, sy, gr, wk, fd, rfl, rfl, G, J, S, N, T, A, hg, K⟩ := I
  unfold wpX_recurrentOf wpY_recurrentOf
  dsimp only
  refine xw_stab G J S (fun n e kk => br_f hx_01 (xw_neu G J S fun a1 => ?_)) (fun hz => br_t rfl ?_)
  · subst e
    have ho := (sp_or G).1
    refine xw_add G J S ho kk.1 fun a => ?_
    exact yw_stab G N T (fun _ _ _ => br_f hx_01 (yw_neu G N T K fun t2 a2 d2 F2 => yw_sum G N T ho kk.1 fun t3 a3 => ⟨rfl, ir_mk G J S N T A hg (Or.inr ⟨rfl, F2⟩) rfl⟩)) (fun z => absurd kk (z n rfl))
  · exact yw_stab G N T (fun n e kk => absurd kk (hz n e)) (fun _ => br_t rfl ⟨rfl, I0⟩)
end
