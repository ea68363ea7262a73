section
theorem pk_us {f : Nat → Int32} {k : Nat} {x : Int32} : upd f k x k = x := if_pos rfl
theorem pk_un {f : Nat → Int32} {k j : Nat} {x : Int32} (h : j ≠ k) : upd f k x j = f j := if_neg h
theorem pk_sub {a b : Nat} (h : b ≤ a) : nI a - nI b = nI (a - b) := by
  obtain ⟨c, rfl⟩ : ∃ c, a = c + b := ⟨a - b, by omega⟩
  rw [← nI_add, Int32.add_sub_cancel, Nat.add_sub_cancel]
theorem pk_m1 (n : Nat) : nI (n + 1) + (-1) = nI n := by
  rw [← nI_1, Int32.add_assoc, show (1 : Int32) + (-1) = 0 from rfl, Int32.add_zero]
theorem pk_mul (a b : Nat) : nI a * nI b = nI (a * b) := (Int32.ofNat_mul a b).symm
theorem pk_ix (x : Int32) {n : Nat} (hn : n < 2 ^ 31) : x < 0 ∨ nI n ≤ x ∨ ∃ j : Nat, j < n ∧ x = nI j := by
  by_cases h : x < 0
  · exact Or.inl h
  · obtain ⟨j, hj, rfl⟩ := nI_of h
    by_cases h2 : j < n
    · exact Or.inr (Or.inr ⟨j, h2, rfl⟩)
    · exact Or.inr (Or.inl (nI_le (by omega) hj))
theorem pk_le {x y : Int32} {A B : Prop} (a b : Nat) (f : a ≤ b → A) (g : b < a → B) (hx : x = nI a := by rfl) (hy : y = nI b := by rfl) (ha : a < 2 ^ 31 := by omega) (hb : b < 2 ^ 31 := by omega) : (x ≤ y → A) ∧ (¬ x ≤ y → B) := by
  subst hx hy
  rw [nI_leI ha hb]
  exact ⟨f, fun z => g (by omega)⟩
theorem pk_lt {x y : Int32} {A B : Prop} (a b : Nat) (f : a < b → A) (g : b ≤ a → B) (hx : x = nI a := by rfl) (hy : y = nI b := by rfl) (ha : a < 2 ^ 31 := by omega) (hb : b < 2 ^ 31 := by omega) : (x < y → A) ∧ (¬ x < y → B) := by
  subst hx hy
  rw [nI_ltI ha hb]
  exact ⟨f, fun z => g (by omega)⟩
theorem pk_eq {x y : Int32} {A B : Prop} (a b : Nat) (f : a = b → A) (g : a ≠ b → B) (hx : x = nI a := by rfl) (hy : y = nI b := by rfl) (ha : a < 2 ^ 31 := by omega) (hb : b < 2 ^ 31 := by omega) : (x = y → A) ∧ (¬ x = y → B) := by
  subst hx hy
  rw [nI_eq ha hb]
  exact ⟨f, g⟩
theorem pk_in {x : Int32} (n N : Nat) (h : n < N) (hx : x = nI n := by rfl) (hN : N < 2 ^ 31 := by omega) : vp_in x N := by
  subst hx
  exact vp_in_nI h hN
theorem pk_cl {x : Int32} (n : Nat) (hx : x = nI n := by rfl) (h : n < 2 ^ 31 := by omega) : x.toNatClampNeg = n := by
  subst hx
  exact nI_clamp h
theorem pk_tn {n : Nat} (h : n < 2 ^ 32) : (nI n).toBitVec.toNat = n := Nat.mod_eq_of_lt h
theorem pk_and (x : Int32) {m : Int32} (k : Nat) (hm : m.toBitVec.toNat = 2 ^ k - 1) : x &&& m = nI (x.toBitVec.toNat % 2 ^ k) := by
  apply Int32.toBitVec_inj.mp
  apply BitVec.eq_of_toNat_eq
  rw [Int32.toBitVec_and, BitVec.toNat_and, hm, Nat.and_two_pow_sub_one_eq_mod]
  show _ = (BitVec.ofNat 32 _).toNat
  rw [BitVec.toNat_ofNat]
  exact (Nat.mod_eq_of_lt (Nat.lt_of_le_of_lt (Nat.mod_le _ _) x.toBitVec.isLt)).symm
theorem pk_andN {n : Nat} (h : n < 2 ^ 32) {m : Int32} (k : Nat) (hm : m.toBitVec.toNat = 2 ^ k - 1) : nI n &&& m = nI (n % 2 ^ k) := by
  rw [pk_and _ k hm, pk_tn h]
theorem pk_shl (a s : Int32) (k : Nat) (hs : (s.toBitVec.smod 32).toNat = k) : (a <<< s).toBitVec.toNat = a.toBitVec.toNat * 2 ^ k % 2 ^ 32 := by
  show (a.toBitVec <<< (s.toBitVec.smod 32).toNat).toNat = _
  rw [hs, BitVec.toNat_shiftLeft, Nat.shiftLeft_eq]
theorem pk_shlN {n : Nat} (s : Int32) (k : Nat) (hs : (s.toBitVec.smod 32).toNat = k) (h : n * 2 ^ k < 2 ^ 32) : nI n <<< s = nI (n * 2 ^ k) := by
  apply Int32.toBitVec_inj.mp
  apply BitVec.eq_of_toNat_eq
  have hn : n < 2 ^ 32 := Nat.lt_of_le_of_lt (Nat.le_mul_of_pos_right n (Nat.two_pow_pos k)) h
  rw [pk_shl _ _ k hs, pk_tn hn, pk_tn h, Nat.mod_eq_of_lt h]
theorem pk_shr (a s : Int32) (k : Nat) (hs : (s.toBitVec.smod 32).toNat = k) : (a >>> s).toInt = a.toInt >>> k := by
  show (a.toBitVec.sshiftRight (s.toBitVec.smod 32).toNat).toInt = _
  rw [hs, BitVec.toInt_sshiftRight]
  rfl
theorem pk_shrN {n : Nat} (h : n < 2 ^ 31) (s : Int32) (k : Nat) (hs : (s.toBitVec.smod 32).toNat = k) : nI n >>> s = nI (n / 2 ^ k) := by
  apply Int32.toInt_inj.mp
  have h2 : n / 2 ^ k ≤ n := Nat.div_le_self _ _
  rw [pk_shr _ _ k hs, nI_toInt h, nI_toInt (by omega), Int.shiftRight_eq_div_pow]
  rfl
theorem pk_loop {σ : Type} (W : Nat → Nat → σ → Prop) (I : Nat → σ → Prop) (e i0 : Nat) (s : σ) (hi : i0 ≤ e) (h0 : I i0 s) (hx : ∀ n s, I e s → W (n + 1) e s)
    (hs : ∀ n i s, i < e → I i s → (∀ s', I (i + 1) s' → W n (i + 1) s') → W (n + 1) i s) : ∃ n, W n i0 s :=
  ⟨e + 1, loop_i W I e hx hs (e + 1) i0 s hi (by omega) h0⟩
theorem pk_loopD {σ : Type} (W : Nat → Nat → σ → Prop) (I : Nat → σ → Prop) (hx : ∀ n s, I 0 s → W (n + 1) 0 s)
    (hs : ∀ n i s, I (i + 1) s → (∀ s', I i s' → W n i s') → W (n + 1) (i + 1) s) : ∀ (e : Nat) (s : σ), I e s → W (e + 1) e s := by
  intro e
  induction e with
  | zero => exact fun s h => hx 0 s h
  | succ e ih => exact fun s h => hs (e + 1) e s h (fun s' h' => ih s' h')
theorem pk_least (P : Nat → Prop) (h : ∃ k, P k) : ∃ k, P k ∧ ∀ j, j < k → ¬ P j := by
  obtain ⟨k, hk⟩ := h
  induction k using Nat.strongRecOn with
  | ind k ih =>
    by_cases e : ∃ j, j < k ∧ P j
    · obtain ⟨j, hj, pj⟩ := e
      exact ih j hj pj
    · exact ⟨k, hk, fun j hj pj => e ⟨j, hj, pj⟩⟩
theorem co_4 {P : Nat → Prop} (h0 : P 0) (h1 : P 1) (h2 : P 2) (h3 : P 3) {i : Nat} (hi : i < 4) : P i :=
  match i, hi with
  | 0, _ => h0
  | 1, _ => h1
  | 2, _ => h2
  | 3, _ => h3
end
section
/-! The sandpile on four places: w i j says whether there is an edge, s i is the number of edges to the sink -/
def sp_b (b : Bool) : Nat := if b then 1 else 0
def sp_ok (w : Nat → Nat → Bool) (s : Nat → Nat) : Prop := (∀ i j, i < 4 → j < 4 → w i j = w j i) ∧ (∀ i, i < 4 → w i i = false) ∧ (∀ i, i < 4 → 1 ≤ s i ∧ s i ≤ 2)
def sp_d (w : Nat → Nat → Bool) (s : Nat → Nat) (i : Nat) : Nat := s i + sp_b (w i 0) + sp_b (w i 1) + sp_b (w i 2) + sp_b (w i 3)
def sp_N (w : Nat → Nat → Bool) (v : Nat → Nat) (i : Nat) : Nat := sp_b (w i 0) * v 0 + sp_b (w i 1) * v 1 + sp_b (w i 2) * v 2 + sp_b (w i 3) * v 3
def sp_M (w : Nat → Nat → Bool) (s : Nat → Nat) (v : Nat → Nat) (i : Nat) : Nat := sp_d w s i * v i
/-- x comes to y, each place i toppling u i times: u is the least with which x becomes stable -/
def sp_S (w : Nat → Nat → Bool) (s : Nat → Nat) (x y u : Nat → Nat) : Prop :=
  (∀ i, i < 4 → y i + sp_M w s u i = x i + sp_N w u i ∧ y i < sp_d w s i) ∧
  ∀ v : Nat → Nat, (∀ i, i < 4 → x i + sp_N w v i < sp_d w s i + sp_M w s v i) → ∀ i, i < 4 → u i ≤ v i
def sp_e (k : Nat) (j : Nat) : Nat := if j = k then 1 else 0
def sp_t (x : Nat → Nat) : Nat := x 0 + x 1 + x 2 + x 3
/-- place i topples -/
def sp_p (w : Nat → Nat → Bool) (s : Nat → Nat) (i : Nat) (x : Nat → Nat) (j : Nat) : Nat := if j = i then x j - sp_d w s i else x j + sp_b (w i j)
theorem sp_b1 (b : Bool) : sp_b b ≤ 1 := by cases b <;> decide
theorem sp_4 {i : Nat} (h : i < 4) : i = 0 ∨ i = 1 ∨ i = 2 ∨ i = 3 := by omega
theorem sp_Nc (w : Nat → Nat → Bool) {a b : Nat → Nat} (h : ∀ j, j < 4 → a j = b j) (i : Nat) : sp_N w a i = sp_N w b i := by
  unfold sp_N
  rw [h 0 (by decide), h 1 (by decide), h 2 (by decide), h 3 (by decide)]
theorem sp_Mc (w : Nat → Nat → Bool) (s : Nat → Nat) {a b : Nat → Nat} {i : Nat} (h : a i = b i) : sp_M w s a i = sp_M w s b i := by
  unfold sp_M
  rw [h]
theorem sp_Na (w : Nat → Nat → Bool) {a b c : Nat → Nat} (h : ∀ j, j < 4 → c j = a j + b j) (i : Nat) : sp_N w c i = sp_N w a i + sp_N w b i := by
  unfold sp_N
  rw [h 0 (by decide), h 1 (by decide), h 2 (by decide), h 3 (by decide)]
  simp only [Nat.mul_add]
  omega
theorem sp_Ma (w : Nat → Nat → Bool) (s : Nat → Nat) {a b c : Nat → Nat} {i : Nat} (h : c i = a i + b i) : sp_M w s c i = sp_M w s a i + sp_M w s b i := by
  unfold sp_M
  rw [h, Nat.mul_add]
theorem sp_N0 (w : Nat → Nat → Bool) {a : Nat → Nat} (h : ∀ j, j < 4 → a j = 0) (i : Nat) : sp_N w a i = 0 := by
  unfold sp_N
  rw [h 0 (by decide), h 1 (by decide), h 2 (by decide), h 3 (by decide)]
  omega
theorem sp_M0 (w : Nat → Nat → Bool) (s : Nat → Nat) {a : Nat → Nat} {i : Nat} (h : a i = 0) : sp_M w s a i = 0 := by
  unfold sp_M
  rw [h, Nat.mul_zero]
theorem sp_1 (w : Nat → Nat → Bool) (s : Nat → Nat) {a : Nat → Nat} {k : Nat} (h : ∀ j, j < 4 → a j = k) {i : Nat} (hi : i < 4) : sp_N w a i + s i * k = sp_M w s a i := by
  unfold sp_N sp_M sp_d
  rw [h 0 (by decide), h 1 (by decide), h 2 (by decide), h 3 (by decide), h i hi]
  simp only [Nat.add_mul]
  omega
theorem sp_Ne (w : Nat → Nat → Bool) {k : Nat} (hk : k < 4) (i : Nat) : sp_N w (sp_e k) i = sp_b (w i k) := by
  unfold sp_N
  rcases sp_4 hk with rfl | rfl | rfl | rfl <;> simp [sp_e]
theorem sp_Me (w : Nat → Nat → Bool) (s : Nat → Nat) (k i : Nat) : sp_M w s (sp_e k) i = if i = k then sp_d w s i else 0 := by
  unfold sp_M sp_e
  split <;> simp
theorem sp_d1 {w : Nat → Nat → Bool} {s : Nat → Nat} (G : sp_ok w s) {i : Nat} (hi : i < 4) : 1 ≤ sp_d w s i ∧ sp_d w s i ≤ 5 := by
  have h := G.2.2 i hi
  have hz : sp_b (w i i) = 0 := by rw [G.2.1 i hi]; rfl
  have h0 := sp_b1 (w i 0)
  have h1 := sp_b1 (w i 1)
  have h2 := sp_b1 (w i 2)
  have h3 := sp_b1 (w i 3)
  unfold sp_d
  rcases sp_4 hi with rfl | rfl | rfl | rfl <;> omega
theorem sp_pe {w : Nat → Nat → Bool} {s : Nat → Nat} (G : sp_ok w s) {k : Nat} (hk : k < 4) {x : Nat → Nat} (hx : sp_d w s k ≤ x k) {j : Nat} (hj : j < 4) :
    sp_p w s k x j + sp_M w s (sp_e k) j = x j + sp_N w (sp_e k) j := by
  rw [sp_Ne w hk, sp_Me, G.1 j k hj hk]
  unfold sp_p
  by_cases h : j = k
  · subst h
    rw [if_pos rfl, if_pos rfl, G.2.1 j hj, show sp_b false = 0 from rfl]
    omega
  · rw [if_neg h, if_neg h]
    omega
theorem sp_pt {w : Nat → Nat → Bool} {s : Nat → Nat} (G : sp_ok w s) {k : Nat} (hk : k < 4) {x : Nat → Nat} (hx : sp_d w s k ≤ x k) : sp_t (sp_p w s k x) + s k = sp_t x := by
  have hz : sp_b (w k k) = 0 := by rw [G.2.1 k hk]; rfl
  have hd : sp_d w s k = s k + sp_b (w k 0) + sp_b (w k 1) + sp_b (w k 2) + sp_b (w k 3) := rfl
  rcases sp_4 hk with rfl | rfl | rfl | rfl
  · show x 0 - sp_d w s 0 + (x 1 + sp_b (w 0 1)) + (x 2 + sp_b (w 0 2)) + (x 3 + sp_b (w 0 3)) + s 0 = x 0 + x 1 + x 2 + x 3
    omega
  · show x 0 + sp_b (w 1 0) + (x 1 - sp_d w s 1) + (x 2 + sp_b (w 1 2)) + (x 3 + sp_b (w 1 3)) + s 1 = x 0 + x 1 + x 2 + x 3
    omega
  · show x 0 + sp_b (w 2 0) + (x 1 + sp_b (w 2 1)) + (x 2 - sp_d w s 2) + (x 3 + sp_b (w 2 3)) + s 2 = x 0 + x 1 + x 2 + x 3
    omega
  · show x 0 + sp_b (w 3 0) + (x 1 + sp_b (w 3 1)) + (x 2 + sp_b (w 3 2)) + (x 3 - sp_d w s 3) + s 3 = x 0 + x 1 + x 2 + x 3
    omega
/-- one toppling ahead -/
theorem sp_st {w : Nat → Nat → Bool} {s : Nat → Nat} (G : sp_ok w s) {k : Nat} (hk : k < 4) {x y u : Nat → Nat} (hx : sp_d w s k ≤ x k) (h : sp_S w s (sp_p w s k x) y u) :
    sp_S w s x y (fun j => u j + sp_e k j) := by
  constructor
  · intro i hi
    have h1 := h.1 i hi
    have h2 := sp_pe G hk hx hi
    have h3 := sp_Na w (a := u) (b := sp_e k) (c := fun j => u j + sp_e k j) (fun _ _ => rfl) i
    have h4 := sp_Ma w s (a := u) (b := sp_e k) (c := fun j => u j + sp_e k j) (i := i) rfl
    omega
  · intro v hv
    have hk1 : v k ≠ 0 := by
      intro z
      have h1 := hv k hk
      rw [sp_M0 w s z] at h1
      omega
    have he : ∀ j, v j = (v j - sp_e k j) + sp_e k j := by
      intro j
      unfold sp_e
      by_cases hj : j = k
      · subst hj; rw [if_pos rfl]; omega
      · rw [if_neg hj]; omega
    have hr := h.2 (fun j => v j - sp_e k j) (by
      intro i hi
      have h1 := hv i hi
      have h2 := sp_pe G hk hx hi
      have h3 := sp_Na w (a := fun j => v j - sp_e k j) (b := sp_e k) (c := v) (fun j _ => he j) i
      have h4 := sp_Ma w s (a := fun j => v j - sp_e k j) (b := sp_e k) (c := v) (i := i) (he i)
      omega)
    intro i hi
    have h1 := hr i hi
    have h2 := he i
    try dsimp only at *
    omega
theorem sp_z {w : Nat → Nat → Bool} {s : Nat → Nat} {x : Nat → Nat} (h : ∀ i, i < 4 → x i < sp_d w s i) : sp_S w s x x (fun _ => 0) := by
  constructor
  · intro i hi
    rw [sp_N0 w (a := fun _ => 0) (fun _ _ => rfl) i, sp_M0 w s (a := fun _ => 0) (i := i) rfl]
    exact ⟨rfl, h i hi⟩
  · intro v _ i _
    exact Nat.zero_le _
/-- every state comes to one -/
theorem sp_ex {w : Nat → Nat → Bool} {s : Nat → Nat} (G : sp_ok w s) : ∀ (n : Nat) (x : Nat → Nat), sp_t x ≤ n → ∃ y u, sp_S w s x y u := by
  intro n
  induction n with
  | zero =>
    intro x hx
    refine ⟨x, _, sp_z (fun i hi => ?_)⟩
    have h := (sp_d1 G hi).1
    unfold sp_t at hx
    rcases sp_4 hi with rfl | rfl | rfl | rfl <;> omega
  | succ n ih =>
    intro x hx
    by_cases h : ∀ i, i < 4 → x i < sp_d w s i
    · exact ⟨x, _, sp_z h⟩
    · have h' : ∃ k, k < 4 ∧ sp_d w s k ≤ x k := by
        apply Classical.byContradiction
        intro hn
        apply h
        intro i hi
        apply Classical.byContradiction
        intro hx'
        exact hn ⟨i, hi, by omega⟩
      obtain ⟨k, hk, hx'⟩ := h'
      have ht := sp_pt G hk hx'
      have hs := (G.2.2 k hk).1
      obtain ⟨y, u, hy⟩ := ih (sp_p w s k x) (by omega)
      exact ⟨y, _, sp_st G hk hx' hy⟩
/-- only one -/
theorem sp_un {w : Nat → Nat → Bool} {s : Nat → Nat} {x y u y' u' : Nat → Nat} (h : sp_S w s x y u) (h' : sp_S w s x y' u') :
    ∀ i, i < 4 → u i = u' i ∧ y i = y' i := by
  have a : ∀ i, i < 4 → u i ≤ u' i := h.2 u' (fun i hi => by have := h'.1 i hi; omega)
  have b : ∀ i, i < 4 → u' i ≤ u i := h'.2 u (fun i hi => by have := h.1 i hi; omega)
  have c : ∀ i, i < 4 → u i = u' i := fun i hi => Nat.le_antisymm (a i hi) (b i hi)
  intro i hi
  refine ⟨c i hi, ?_⟩
  have h1 := h.1 i hi
  have h2 := h'.1 i hi
  have h3 := sp_Nc w c i
  have h4 := sp_Mc w s (c i hi)
  omega
theorem sp_cg {w : Nat → Nat → Bool} {s : Nat → Nat} {x y u x' y' u' : Nat → Nat} (h : sp_S w s x y u) (hx : ∀ i, i < 4 → x i = x' i) (hy : ∀ i, i < 4 → y i = y' i)
    (hu : ∀ i, i < 4 → u i = u' i) : sp_S w s x' y' u' := by
  constructor
  · intro i hi
    have h1 := h.1 i hi
    rw [hx i hi, hy i hi, sp_Nc w hu i, sp_Mc w s (hu i hi)] at h1
    exact h1
  · intro v hv i hi
    rw [← hu i hi]
    exact h.2 v (fun i hi => by rw [hx i hi]; exact hv i hi) i hi
/-- first x alone, then with z -/
theorem sp_ab {w : Nat → Nat → Bool} {s : Nat → Nat} {x y u z q v : Nat → Nat} (h : sp_S w s x y u) (h' : sp_S w s (fun i => y i + z i) q v) :
    sp_S w s (fun i => x i + z i) q (fun i => u i + v i) := by
  constructor
  · intro i hi
    have h1 := h.1 i hi
    have h2 := h'.1 i hi
    have h3 := sp_Na w (a := u) (b := v) (c := fun i => u i + v i) (fun _ _ => rfl) i
    have h4 := sp_Ma w s (a := u) (b := v) (c := fun i => u i + v i) (i := i) rfl
    try dsimp only at *
    omega
  · intro t ht
    try dsimp only at *
    have a := h.2 t (fun i hi => by have := ht i hi; omega)
    have he : ∀ j, j < 4 → t j = u j + (t j - u j) := fun j hj => by have := a j hj; omega
    have b := h'.2 (fun j => t j - u j) (by
      intro i hi
      have h0 := ht i hi
      have h1 := h.1 i hi
      have h3 := sp_Na w (a := u) (b := fun j => t j - u j) (c := t) he i
      have h4 := sp_Ma w s (a := u) (b := fun j => t j - u j) (c := t) (i := i) (he i hi)
      try dsimp only
      omega)
    intro i hi
    have h1 := a i hi
    have h2 := b i hi
    try dsimp only at *
    omega
/-- what x + z comes to, what x comes to comes to with z -/
theorem sp_ba {w : Nat → Nat → Bool} {s : Nat → Nat} (G : sp_ok w s) {x y u z q t : Nat → Nat} (h : sp_S w s x y u) (h' : sp_S w s (fun i => x i + z i) q t) :
    ∃ v, sp_S w s (fun i => y i + z i) q v ∧ ∀ i, i < 4 → t i = u i + v i := by
  obtain ⟨q', v, hq⟩ := sp_ex G _ (fun i => y i + z i) (Nat.le_refl _)
  have h2 := sp_un h' (sp_ab h hq)
  exact ⟨v, sp_cg hq (fun _ _ => rfl) (fun i hi => ((h2 i hi).2).symm) (fun _ _ => rfl), fun i hi => (h2 i hi).1⟩
end
section
/-! The full state, recurrent states, the burning test, one recurrent state among those that differ by topplings -/
def sp_f (w : Nat → Nat → Bool) (s : Nat → Nat) (i : Nat) : Nat := sp_d w s i - 1
def sp_R (w : Nat → Nat → Bool) (s : Nat → Nat) (y : Nat → Nat) : Prop := ∃ z u : Nat → Nat, sp_S w s (fun i => sp_f w s i + z i) y u
theorem sp_Rc {w : Nat → Nat → Bool} {s : Nat → Nat} {y y' : Nat → Nat} (h : sp_R w s y) (e : ∀ i, i < 4 → y i = y' i) : sp_R w s y' := by
  obtain ⟨z, u, h⟩ := h
  exact ⟨z, u, sp_cg h (fun _ _ => rfl) e (fun _ _ => rfl)⟩
theorem sp_Rd {w : Nat → Nat → Bool} {s : Nat → Nat} {y : Nat → Nat} (h : sp_R w s y) {i : Nat} (hi : i < 4) : y i < sp_d w s i := by
  obtain ⟨z, u, h⟩ := h
  exact (h.1 i hi).2
theorem sp_ff {w : Nat → Nat → Bool} {s : Nat → Nat} (G : sp_ok w s) : ∀ i, i < 4 → sp_f w s i < sp_d w s i := by
  intro i hi
  have := sp_d1 G hi
  unfold sp_f
  omega
theorem sp_Rf {w : Nat → Nat → Bool} {s : Nat → Nat} (G : sp_ok w s) : sp_R w s (sp_f w s) :=
  ⟨fun _ => 0, fun _ => 0, sp_cg (sp_z (sp_ff G)) (fun _ _ => rfl) (fun _ _ => rfl) (fun _ _ => rfl)⟩
/-- more grains on a recurrent state -/
theorem sp_Ra {w : Nat → Nat → Bool} {s : Nat → Nat} {y z q u : Nat → Nat} (h : sp_R w s y) (h' : sp_S w s (fun i => y i + z i) q u) : sp_R w s q := by
  obtain ⟨z0, u0, h0⟩ := h
  refine ⟨fun i => z0 i + z i, fun i => u0 i + u i, ?_⟩
  exact sp_cg (sp_ab h0 h') (fun i _ => Nat.add_assoc _ _ _) (fun _ _ => rfl) (fun _ _ => rfl)
/-- what has at least the full state's grains -/
theorem sp_Rg {w : Nat → Nat → Bool} {s : Nat → Nat} {x q u : Nat → Nat} (hx : ∀ i, i < 4 → sp_f w s i ≤ x i) (h' : sp_S w s x q u) : sp_R w s q :=
  ⟨fun i => x i - sp_f w s i, u, sp_cg h' (fun i hi => by have := hx i hi; (try dsimp only); omega) (fun _ _ => rfl) (fun _ _ => rfl)⟩
/-- the full state and the sink's grains -/
theorem sp_fs {w : Nat → Nat → Bool} {s : Nat → Nat} (G : sp_ok w s) : sp_S w s (fun i => sp_f w s i + s i) (sp_f w s) (fun _ => 1) := by
  constructor
  · intro i hi
    have h1 := sp_1 w s (a := fun _ => 1) (k := 1) (fun _ _ => rfl) hi
    refine ⟨?_, sp_ff G i hi⟩
    try dsimp only
    omega
  · intro v hv i hi
    have hz : v i ≠ 0 := by
      intro z
      have h1 : sp_f w s i + s i + sp_N w v i < sp_d w s i + sp_M w s v i := hv i hi
      have h2 : sp_f w s i = sp_d w s i - 1 := rfl
      have h3 := (G.2.2 i hi).1
      rw [sp_M0 w s z] at h1
      omega
    show 1 ≤ v i
    omega
/-- a recurrent state and the sink's grains: each place topples once -/
theorem sp_Rs {w : Nat → Nat → Bool} {s : Nat → Nat} (G : sp_ok w s) {y : Nat → Nat} (h : sp_R w s y) : sp_S w s (fun i => y i + s i) y (fun _ => 1) := by
  obtain ⟨z, u, h⟩ := h
  obtain ⟨q, v, hq⟩ := sp_ex G _ (fun i => y i + s i) (Nat.le_refl _)
  have a := sp_ab h hq
  have b := sp_ab (z := z) (sp_fs G) h
  have b' := sp_cg (x' := fun i => sp_f w s i + z i + s i) b (fun i _ => by (try dsimp only); omega) (fun _ _ => rfl) (fun _ _ => rfl)
  have c := sp_un a b'
  exact sp_cg hq (fun _ _ => rfl) (fun i hi => (c i hi).2) (fun i hi => by have := (c i hi).1; (try dsimp only at *); omega)
/-- k times the sink's grains -/
theorem sp_Sk {w : Nat → Nat → Bool} {s : Nat → Nat} {y u : Nat → Nat} (h : sp_S w s (fun i => y i + s i) y u) (hy : ∀ i, i < 4 → y i < sp_d w s i) :
    ∀ k : Nat, sp_S w s (fun i => y i + s i * k) y (fun i => u i * k) := by
  intro k
  induction k with
  | zero => exact sp_cg (sp_z hy) (fun i _ => by simp) (fun _ _ => rfl) (fun i _ => by simp)
  | succ k ih =>
    refine sp_cg (sp_ab ih h) (fun i _ => ?_) (fun _ _ => rfl) (fun i _ => ?_)
    · try dsimp only
      rw [Nat.mul_add]
      omega
    · try dsimp only
      rw [Nat.mul_add]
      omega
/-- the burning test -/
theorem sp_Rb {w : Nat → Nat → Bool} {s : Nat → Nat} (G : sp_ok w s) {y u : Nat → Nat} (h : sp_S w s (fun i => y i + s i) y u) : sp_R w s y := by
  refine sp_Rg (u := fun i => u i * 8) (fun i hi => ?_) (sp_Sk h (fun i hi => (h.1 i hi).2) 8)
  have h1 := sp_d1 G hi
  have h2 := (G.2.2 i hi).1
  unfold sp_f
  try dsimp only
  omega
/-- x and y differ by topplings -/
def sp_E (w : Nat → Nat → Bool) (s : Nat → Nat) (x y : Nat → Nat) : Prop := ∃ a b : Nat → Nat, ∀ i, i < 4 → x i + sp_N w a i + sp_M w s b i = y i + sp_N w b i + sp_M w s a i
theorem sp_Er {w : Nat → Nat → Bool} {s : Nat → Nat} {x y : Nat → Nat} (h : ∀ i, i < 4 → x i = y i) : sp_E w s x y :=
  ⟨fun _ => 0, fun _ => 0, fun i hi => by rw [h i hi]⟩
theorem sp_Es {w : Nat → Nat → Bool} {s : Nat → Nat} {x y : Nat → Nat} (h : sp_E w s x y) : sp_E w s y x := by
  obtain ⟨a, b, h⟩ := h
  exact ⟨b, a, fun i hi => (h i hi).symm⟩
theorem sp_Et {w : Nat → Nat → Bool} {s : Nat → Nat} {x y z : Nat → Nat} (h : sp_E w s x y) (h' : sp_E w s y z) : sp_E w s x z := by
  obtain ⟨a, b, h⟩ := h
  obtain ⟨a', b', h'⟩ := h'
  refine ⟨fun i => a i + a' i, fun i => b i + b' i, fun i hi => ?_⟩
  have h1 := h i hi
  have h2 := h' i hi
  have h3 := sp_Na w (a := a) (b := a') (c := fun i => a i + a' i) (fun _ _ => rfl) i
  have h4 := sp_Na w (a := b) (b := b') (c := fun i => b i + b' i) (fun _ _ => rfl) i
  have h5 := sp_Ma w s (a := a) (b := a') (c := fun i => a i + a' i) (i := i) rfl
  have h6 := sp_Ma w s (a := b) (b := b') (c := fun i => b i + b' i) (i := i) rfl
  omega
theorem sp_Ea {w : Nat → Nat → Bool} {s : Nat → Nat} {x y : Nat → Nat} (z : Nat → Nat) (h : sp_E w s x y) : sp_E w s (fun i => x i + z i) (fun i => y i + z i) := by
  obtain ⟨a, b, h⟩ := h
  exact ⟨a, b, fun i hi => by have := h i hi; (try dsimp only); omega⟩
theorem sp_Ec {w : Nat → Nat → Bool} {s : Nat → Nat} {x y z : Nat → Nat} (h : sp_E w s (fun i => x i + z i) (fun i => y i + z i)) : sp_E w s x y := by
  obtain ⟨a, b, h⟩ := h
  exact ⟨a, b, fun i hi => by have := h i hi; (try dsimp only at *); omega⟩
theorem sp_ES {w : Nat → Nat → Bool} {s : Nat → Nat} {x y u : Nat → Nat} (h : sp_S w s x y u) : sp_E w s x y := by
  refine ⟨u, fun _ => 0, fun i hi => ?_⟩
  have h1 := h.1 i hi
  have h2 := sp_N0 w (a := fun _ => 0) (fun _ _ => rfl) i
  have h3 := sp_M0 w s (a := fun _ => 0) (i := i) rfl
  omega
theorem sp_R1a {w : Nat → Nat → Bool} {s : Nat → Nat} (G : sp_ok w s) {x y a b : Nat → Nat} (hx : sp_R w s x) (hy : sp_R w s y)
    (h : ∀ i, i < 4 → x i + sp_N w a i + sp_M w s b i = y i + sp_N w b i + sp_M w s a i) : ∀ i, i < 4 → a i ≤ b i := by
  have hk : ∃ k, ∀ i, i < 4 → a i ≤ k := by
    refine ⟨a 0 + a 1 + a 2 + a 3, fun i hi => ?_⟩
    rcases sp_4 hi with rfl | rfl | rfl | rfl <;> omega
  obtain ⟨k, hk⟩ := hk
  have hS := sp_Sk (sp_Rs G hy) (fun i hi => sp_Rd hy hi) k
  have hv := hS.2 (fun i => k + b i - a i) (by
    intro i hi
    have h1 := h i hi
    have h2 := sp_Rd hx hi
    have h3 := sp_1 w s (a := fun _ => k) (k := k) (fun _ _ => rfl) hi
    have h4 := sp_Na w (a := fun i => k + b i - a i) (b := a) (c := fun i => k + b i) (fun j hj => by have := hk j hj; (try dsimp only); omega) i
    have h5 := sp_Ma w s (a := fun i => k + b i - a i) (b := a) (c := fun i => k + b i) (i := i) (by have := hk i hi; (try dsimp only); omega)
    have h6 := sp_Na w (a := fun _ => k) (b := b) (c := fun i => k + b i) (fun _ _ => rfl) i
    have h7 := sp_Ma w s (a := fun _ => k) (b := b) (c := fun i => k + b i) (i := i) rfl
    try dsimp only
    omega)
  intro i hi
  have h1 := hv i hi
  have h2 := hk i hi
  try dsimp only at *
  omega
theorem sp_R1 {w : Nat → Nat → Bool} {s : Nat → Nat} (G : sp_ok w s) {x y : Nat → Nat} (hx : sp_R w s x) (hy : sp_R w s y) (h : sp_E w s x y) : ∀ i, i < 4 → x i = y i := by
  obtain ⟨a, b, h⟩ := h
  have h1 := sp_R1a G hx hy h
  have h2 := sp_R1a G hy hx (fun i hi => (h i hi).symm)
  have h3 : ∀ i, i < 4 → a i = b i := fun i hi => Nat.le_antisymm (h1 i hi) (h2 i hi)
  intro i hi
  have h4 := h i hi
  have h5 := sp_Nc w h3 i
  have h6 := sp_Mc w s (h3 i hi)
  omega
end
section
/-! States as numbers; what a state comes to, as a function; group sums, the neutral state, multiples -/
noncomputable def sp_y (w : Nat → Nat → Bool) (s : Nat → Nat) (x : Nat → Nat) : Nat → Nat := Classical.epsilon (fun y : Nat → Nat => ∃ u, sp_S w s x y u)
noncomputable def sp_u (w : Nat → Nat → Bool) (s : Nat → Nat) (x : Nat → Nat) : Nat → Nat := Classical.epsilon (fun u : Nat → Nat => sp_S w s x (sp_y w s x) u)
theorem sp_yu {w : Nat → Nat → Bool} {s : Nat → Nat} (G : sp_ok w s) (x : Nat → Nat) : sp_S w s x (sp_y w s x) (sp_u w s x) :=
  Classical.epsilon_spec (p := fun u : Nat → Nat => sp_S w s x (sp_y w s x) u) (Classical.epsilon_spec (p := fun y : Nat → Nat => ∃ u, sp_S w s x y u) (sp_ex G _ x (Nat.le_refl _)))
def sp_n (p : Nat → Nat) : Nat := 512 * p 0 + 64 * p 1 + 8 * p 2 + p 3
def sp_g (n i : Nat) : Nat := if i = 0 then n / 512 % 8 else if i = 1 then n / 64 % 8 else if i = 2 then n / 8 % 8 else n % 8
theorem sp_g0 (n : Nat) : sp_g n 0 = n / 512 % 8 := rfl
theorem sp_g1 (n : Nat) : sp_g n 1 = n / 64 % 8 := rfl
theorem sp_g2 (n : Nat) : sp_g n 2 = n / 8 % 8 := rfl
theorem sp_g3 (n : Nat) : sp_g n 3 = n % 8 := rfl
theorem sp_ng {n : Nat} (h : n < 4096) : sp_n (sp_g n) = n := by
  unfold sp_n
  rw [sp_g0, sp_g1, sp_g2, sp_g3]
  omega
theorem sp_g8 (n i : Nat) : sp_g n i < 8 := by
  unfold sp_g
  split
  · omega
  · split
    · omega
    · split <;> omega
theorem sp_gn {p : Nat → Nat} (h : ∀ i, i < 4 → p i < 8) : ∀ i, i < 4 → sp_g (sp_n p) i = p i := by
  intro i hi
  have h0 := h 0 (by decide)
  have h1 := h 1 (by decide)
  have h2 := h 2 (by decide)
  have h3 := h 3 (by decide)
  unfold sp_n
  rcases sp_4 hi with rfl | rfl | rfl | rfl
  · rw [sp_g0]; omega
  · rw [sp_g1]; omega
  · rw [sp_g2]; omega
  · rw [sp_g3]; omega
theorem sp_nl {p : Nat → Nat} (h : ∀ i, i < 4 → p i < 8) : sp_n p < 4096 := by
  have h0 := h 0 (by decide)
  have h1 := h 1 (by decide)
  have h2 := h 2 (by decide)
  have h3 := h 3 (by decide)
  unfold sp_n
  omega
theorem sp_nc {p q : Nat → Nat} (h : ∀ i, i < 4 → p i = q i) : sp_n p = sp_n q := by
  unfold sp_n
  rw [h 0 (by decide), h 1 (by decide), h 2 (by decide), h 3 (by decide)]
theorem sp_y8 {w : Nat → Nat → Bool} {s : Nat → Nat} (G : sp_ok w s) (x : Nat → Nat) : ∀ i, i < 4 → sp_y w s x i < 8 := by
  intro i hi
  have h1 := ((sp_yu G x).1 i hi).2
  have h2 := (sp_d1 G hi).2
  omega
/-- stable, recurrent, as numbers -/
def sp_k (w : Nat → Nat → Bool) (s : Nat → Nat) (n : Nat) : Prop := n < 4096 ∧ ∀ i, i < 4 → sp_g n i < sp_d w s i
def sp_r (w : Nat → Nat → Bool) (s : Nat → Nat) (n : Nat) : Prop := n < 4096 ∧ sp_R w s (sp_g n)
noncomputable def sp_a (w : Nat → Nat → Bool) (s : Nat → Nat) (n m : Nat) : Nat := sp_n (sp_y w s (fun i => sp_g n i + sp_g m i))
theorem sp_rk {w : Nat → Nat → Bool} {s : Nat → Nat} {n : Nat} (h : sp_r w s n) : sp_k w s n := ⟨h.1, fun _ hi => sp_Rd h.2 hi⟩
theorem sp_al {w : Nat → Nat → Bool} {s : Nat → Nat} (G : sp_ok w s) (n m : Nat) : sp_a w s n m < 4096 := sp_nl (sp_y8 G _)
theorem sp_ag {w : Nat → Nat → Bool} {s : Nat → Nat} (G : sp_ok w s) (n m : Nat) : ∀ i, i < 4 → sp_g (sp_a w s n m) i = sp_y w s (fun i => sp_g n i + sp_g m i) i := sp_gn (sp_y8 G _)
theorem sp_as {w : Nat → Nat → Bool} {s : Nat → Nat} (G : sp_ok w s) (n m : Nat) :
    sp_S w s (fun i => sp_g n i + sp_g m i) (sp_g (sp_a w s n m)) (sp_u w s (fun i => sp_g n i + sp_g m i)) :=
  sp_cg (sp_yu G _) (fun _ _ => rfl) (fun i hi => (sp_ag G n m i hi).symm) (fun _ _ => rfl)
theorem sp_ac (w : Nat → Nat → Bool) (s : Nat → Nat) (n m : Nat) : sp_a w s n m = sp_a w s m n := by
  unfold sp_a
  rw [show (fun i => sp_g n i + sp_g m i) = (fun i => sp_g m i + sp_g n i) from funext (fun i => Nat.add_comm _ _)]
theorem sp_ak {w : Nat → Nat → Bool} {s : Nat → Nat} (G : sp_ok w s) (n m : Nat) : sp_k w s (sp_a w s n m) := ⟨sp_al G n m, fun i hi => ((sp_as G n m).1 i hi).2⟩
theorem sp_ar {w : Nat → Nat → Bool} {s : Nat → Nat} (G : sp_ok w s) {n : Nat} (h : sp_r w s n) (m : Nat) : sp_r w s (sp_a w s n m) := ⟨sp_al G n m, sp_Ra h.2 (sp_as G n m)⟩
theorem sp_ae {w : Nat → Nat → Bool} {s : Nat → Nat} (G : sp_ok w s) (n m : Nat) : sp_E w s (fun i => sp_g n i + sp_g m i) (sp_g (sp_a w s n m)) := sp_ES (sp_as G n m)
theorem sp_r1 {w : Nat → Nat → Bool} {s : Nat → Nat} (G : sp_ok w s) {n m : Nat} (h : sp_r w s n) (h' : sp_r w s m) (e : sp_E w s (sp_g n) (sp_g m)) : n = m := by
  rw [← sp_ng h.1, ← sp_ng h'.1]
  exact sp_nc (sp_R1 G h.2 h'.2 e)
/-- what comes out is the function's value -/
theorem sp_yn {w : Nat → Nat → Bool} {s : Nat → Nat} (G : sp_ok w s) {x y u : Nat → Nat} (h : sp_S w s x y u) : sp_n y = sp_n (sp_y w s x) := sp_nc (fun i hi => (sp_un h (sp_yu G x) i hi).2)
/-- the full state -/
def sp_F (w : Nat → Nat → Bool) (s : Nat → Nat) : Nat := sp_n (sp_f w s)
theorem sp_f8 {w : Nat → Nat → Bool} {s : Nat → Nat} (G : sp_ok w s) : ∀ i, i < 4 → sp_f w s i < 8 := by
  intro i hi
  have h2 := (sp_d1 G hi).2
  unfold sp_f
  omega
theorem sp_Fr {w : Nat → Nat → Bool} {s : Nat → Nat} (G : sp_ok w s) : sp_r w s (sp_F w s) :=
  ⟨sp_nl (sp_f8 G), sp_Rc (sp_Rf G) (fun i hi => (sp_gn (sp_f8 G) i hi).symm)⟩
/-- the neutral state -/
noncomputable def sp_v (w : Nat → Nat → Bool) (s : Nat → Nat) (i : Nat) : Nat := 2 * sp_f w s i - sp_y w s (fun i => 2 * sp_f w s i) i
noncomputable def sp_o (w : Nat → Nat → Bool) (s : Nat → Nat) : Nat := sp_n (sp_y w s (sp_v w s))
theorem sp_og {w : Nat → Nat → Bool} {s : Nat → Nat} (G : sp_ok w s) : ∀ i, i < 4 → sp_g (sp_o w s) i = sp_y w s (sp_v w s) i := sp_gn (sp_y8 G _)
theorem sp_vf {w : Nat → Nat → Bool} {s : Nat → Nat} (G : sp_ok w s) : ∀ i, i < 4 → sp_y w s (fun i => 2 * sp_f w s i) i ≤ sp_f w s i := by
  intro i hi
  have h := ((sp_yu G (fun i => 2 * sp_f w s i)).1 i hi).2
  have h2 : sp_f w s i = sp_d w s i - 1 := rfl
  omega
theorem sp_or {w : Nat → Nat → Bool} {s : Nat → Nat} (G : sp_ok w s) : sp_r w s (sp_o w s) := by
  refine ⟨sp_nl (sp_y8 G _), sp_Rc (sp_Rg (fun i hi => ?_) (sp_yu G (sp_v w s))) (fun i hi => (sp_og G i hi).symm)⟩
  have h := sp_vf G i hi
  have h2 : sp_v w s i = 2 * sp_f w s i - sp_y w s (fun i => 2 * sp_f w s i) i := rfl
  omega
theorem sp_oe {w : Nat → Nat → Bool} {s : Nat → Nat} (G : sp_ok w s) : sp_E w s (sp_g (sp_o w s)) (fun _ => 0) := by
  have h1 : sp_E w s (sp_v w s) (sp_g (sp_o w s)) := sp_Et (sp_ES (sp_yu G (sp_v w s))) (sp_Er (fun i hi => (sp_og G i hi).symm))
  have h2 : sp_E w s (fun i => 2 * sp_f w s i) (sp_y w s (fun i => 2 * sp_f w s i)) := sp_ES (sp_yu G _)
  have h3 : sp_E w s (fun i => sp_v w s i + sp_y w s (fun i => 2 * sp_f w s i) i) (fun i => 0 + sp_y w s (fun i => 2 * sp_f w s i) i) := by
    refine sp_Et (sp_Er (fun i hi => ?_)) (sp_Et h2 (sp_Er (fun i hi => ?_)))
    · have h := sp_vf G i hi
      have h2 : sp_v w s i = 2 * sp_f w s i - sp_y w s (fun i => 2 * sp_f w s i) i := rfl
      show sp_v w s i + sp_y w s (fun i => 2 * sp_f w s i) i = 2 * sp_f w s i
      omega
    · show sp_y w s (fun i => 2 * sp_f w s i) i = 0 + sp_y w s (fun i => 2 * sp_f w s i) i
      omega
  exact sp_Et (sp_Es h1) (sp_Ec (x := sp_v w s) (y := fun _ => 0) h3)
theorem sp_oa {w : Nat → Nat → Bool} {s : Nat → Nat} (G : sp_ok w s) {n : Nat} (h : sp_r w s n) : sp_a w s (sp_o w s) n = n := by
  refine sp_r1 G (sp_ar G (sp_or G) n) h (sp_Et (sp_Es (sp_ae G _ _)) ?_)
  exact sp_Et (sp_Ea (sp_g n) (sp_oe G)) (sp_Er (fun i _ => Nat.zero_add _))
theorem sp_ou {w : Nat → Nat → Bool} {s : Nat → Nat} (G : sp_ok w s) {n m : Nat} (h : sp_r w s n) (e : sp_a w s n m = m) (hm : sp_r w s m) : n = sp_o w s := by
  refine sp_r1 G h (sp_or G) (sp_Et ?_ (sp_Es (sp_oe G)))
  have h1 := sp_ae G n m
  rw [e] at h1
  exact sp_Ec (z := sp_g m) (sp_Et h1 (sp_Er (fun i _ => (Nat.zero_add _).symm)))
/-- only one opposite -/
theorem sp_op {w : Nat → Nat → Bool} {s : Nat → Nat} (G : sp_ok w s) {n a b : Nat} (ha : sp_r w s a) (hb : sp_r w s b) (ea : sp_a w s a n = sp_o w s) (eb : sp_a w s b n = sp_o w s) : a = b := by
  refine sp_r1 G ha hb ?_
  have h1 := sp_ae G a n
  have h2 := sp_ae G b n
  rw [ea] at h1
  rw [eb] at h2
  exact sp_Ec (z := sp_g n) (sp_Et h1 (sp_Es h2))
/-- multiples: sp_m n k is k + 1 times n -/
noncomputable def sp_m (w : Nat → Nat → Bool) (s : Nat → Nat) (n : Nat) : Nat → Nat
  | 0 => n
  | k + 1 => sp_a w s (sp_m w s n k) n
theorem sp_mr {w : Nat → Nat → Bool} {s : Nat → Nat} (G : sp_ok w s) {n : Nat} (h : sp_r w s n) : ∀ k, sp_r w s (sp_m w s n k) := by
  intro k
  induction k with
  | zero => exact h
  | succ k ih => exact sp_ar G ih n
theorem sp_me {w : Nat → Nat → Bool} {s : Nat → Nat} (G : sp_ok w s) (n : Nat) : ∀ k, sp_E w s (sp_g (sp_m w s n k)) (fun i => sp_g n i * (k + 1)) := by
  intro k
  induction k with
  | zero => exact sp_Er (fun i _ => (Nat.mul_one _).symm)
  | succ k ih =>
    show sp_E w s (sp_g (sp_a w s (sp_m w s n k) n)) (fun i => sp_g n i * (k + 1 + 1))
    refine sp_Et (sp_Es (sp_ae G _ _)) (sp_Et (sp_Ea (sp_g n) ih) (sp_Er (fun i _ => ?_)))
    show sp_g n i * (k + 1) + sp_g n i = sp_g n i * (k + 1 + 1)
    rw [Nat.mul_add (sp_g n i) (k + 1) 1]
    omega
theorem sp_ph : ∀ (n : Nat) (f : Nat → Nat), (∀ i, i ≤ n → f i < n) → ∃ i j, i < j ∧ j ≤ n ∧ f i = f j := by
  intro n
  induction n with
  | zero => intro f h; exact absurd (h 0 (Nat.le_refl _)) (Nat.not_lt_zero _)
  | succ n ih =>
    intro f h
    by_cases hc : ∃ i, i ≤ n ∧ f i = f (n + 1)
    · obtain ⟨i, hi, e⟩ := hc
      exact ⟨i, n + 1, by omega, Nat.le_refl _, e⟩
    · have hc' : ∀ i, i ≤ n → f i ≠ f (n + 1) := fun i hi e => hc ⟨i, hi, e⟩
      obtain ⟨i, j, hij, hj, e⟩ := ih (fun i => if f i = n then f (n + 1) else f i) (by
        intro i hi
        have h1 := hc' i hi
        have h2 := h i (by omega)
        have h3 := h (n + 1) (Nat.le_refl _)
        try dsimp only
        split <;> omega)
      refine ⟨i, j, hij, by omega, ?_⟩
      have h1 := hc' i (by omega)
      have h2 := hc' j hj
      try dsimp only at *
      split at e <;> split at e <;> omega
/-- states with digits below 5, as numbers below 625 -/
def sp_i (n : Nat) : Nat := 125 * sp_g n 0 + 25 * sp_g n 1 + 5 * sp_g n 2 + sp_g n 3
def sp_j (m : Nat) : Nat := 512 * (m / 125) + 64 * (m / 25 % 5) + 8 * (m / 5 % 5) + m % 5
theorem sp_k5 {w : Nat → Nat → Bool} {s : Nat → Nat} (G : sp_ok w s) {n : Nat} (h : sp_k w s n) : sp_i n < 625 ∧ sp_j (sp_i n) = n := by
  have e := sp_ng h.1
  have a0 := h.2 0 (by decide)
  have a1 := h.2 1 (by decide)
  have a2 := h.2 2 (by decide)
  have a3 := h.2 3 (by decide)
  have b0 := (sp_d1 G (i := 0) (by decide)).2
  have b1 := (sp_d1 G (i := 1) (by decide)).2
  have b2 := (sp_d1 G (i := 2) (by decide)).2
  have b3 := (sp_d1 G (i := 3) (by decide)).2
  unfold sp_n at e
  unfold sp_j sp_i
  omega
/-- some multiple below the 626th is the neutral one -/
theorem sp_mo {w : Nat → Nat → Bool} {s : Nat → Nat} (G : sp_ok w s) {n : Nat} (h : sp_r w s n) : ∃ k, k < 625 ∧ sp_m w s n k = sp_o w s := by
  obtain ⟨i, j, hij, hj, e⟩ := sp_ph 625 (fun k => sp_i (sp_m w s n k)) (fun k _ => (sp_k5 G (sp_rk (sp_mr G h k))).1)
  try dsimp only at *
  have e' : sp_m w s n i = sp_m w s n j := by
    rw [← (sp_k5 G (sp_rk (sp_mr G h i))).2, ← (sp_k5 G (sp_rk (sp_mr G h j))).2, e]
  refine ⟨j - i - 1, by omega, sp_r1 G (sp_mr G h _) (sp_or G) (sp_Et (sp_me G n _) (sp_Et ?_ (sp_Es (sp_oe G))))⟩
  have h1 := sp_me G n i
  rw [e'] at h1
  have h2 := sp_Et (sp_Es (sp_me G n j)) h1
  refine sp_Ec (z := fun x => sp_g n x * (i + 1)) (sp_Et (sp_Et (sp_Er (fun x _ => ?_)) h2) (sp_Er (fun x _ => ?_)))
  · show sp_g n x * (j - i - 1 + 1) + sp_g n x * (i + 1) = sp_g n x * (j + 1)
    rw [← Nat.mul_add]
    exact congrArg _ (by omega)
  · show sp_g n x * (i + 1) = 0 + sp_g n x * (i + 1)
    omega
end
section
/-! The set that is reached from the full state by single grains; counting -/
def sp_q (a : Nat) : Nat := if a = 0 then 512 else if a = 1 then 64 else if a = 2 then 8 else 1
theorem sp_qe {a : Nat} (ha : a < 4) : ∀ i, i < 4 → sp_g (sp_q a) i = sp_e a i := by
  intro i hi
  rcases sp_4 ha with rfl | rfl | rfl | rfl <;> rcases sp_4 hi with rfl | rfl | rfl | rfl <;> decide
theorem sp_cl {w : Nat → Nat → Bool} {s : Nat → Nat} (G : sp_ok w s) (P : Nat → Prop) (hF : P (sp_F w s))
    (hs : ∀ n, n < 4096 → P n → ∀ a, a < 4 → P (sp_a w s n (sp_q a))) :
    ∀ (t : Nat) (z y u : Nat → Nat), sp_t z ≤ t → sp_S w s (fun i => sp_f w s i + z i) y u → P (sp_n y) := by
  have zero : ∀ z y u : Nat → Nat, (∀ i, i < 4 → z i = 0) → sp_S w s (fun i => sp_f w s i + z i) y u → P (sp_n y) := by
    intro z y u hz h
    have h1 := sp_cg (x' := sp_f w s) h (fun i hi => by show sp_f w s i + z i = sp_f w s i; rw [hz i hi]; rfl) (fun _ _ => rfl) (fun _ _ => rfl)
    have h2 : sp_n y = sp_F w s := sp_nc (fun i hi => (sp_un h1 (sp_z (sp_ff G)) i hi).2)
    rw [h2]
    exact hF
  intro t
  induction t with
  | zero =>
    intro z y u hz h
    refine zero z y u (fun i hi => ?_) h
    unfold sp_t at hz
    rcases sp_4 hi with rfl | rfl | rfl | rfl <;> omega
  | succ t ih =>
    intro z y u hz h
    by_cases hz0 : ∀ i, i < 4 → z i = 0
    · exact zero z y u hz0 h
    · have h' : ∃ k, k < 4 ∧ 1 ≤ z k := by
        apply Classical.byContradiction
        intro hn
        apply hz0
        intro i hi
        apply Classical.byContradiction
        intro hx'
        exact hn ⟨i, hi, by omega⟩
      obtain ⟨k, hk, hzk⟩ := h'
      have he : ∀ j, z j = (z j - sp_e k j) + sp_e k j := by
        intro j
        unfold sp_e
        by_cases hj : j = k
        · subst hj; rw [if_pos rfl]; omega
        · rw [if_neg hj]; omega
      have ht : sp_t (fun j => z j - sp_e k j) ≤ t := by
        unfold sp_t at hz ⊢
        unfold sp_e
        rcases sp_4 hk with rfl | rfl | rfl | rfl <;> simp <;> omega
      have hy := sp_yu G (fun i => sp_f w s i + (z i - sp_e k i))
      have hP := ih _ _ _ ht hy
      have hP2 := hs _ (sp_nl (sp_y8 G _)) hP k hk
      have hA := sp_as G (sp_n (sp_y w s (fun i => sp_f w s i + (z i - sp_e k i)))) (sp_q k)
      have hB := sp_cg (x' := fun i => sp_y w s (fun i => sp_f w s i + (z i - sp_e k i)) i + sp_e k i) hA
        (fun i hi => by (try dsimp only); rw [sp_gn (sp_y8 G _) i hi, sp_qe hk i hi]) (fun _ _ => rfl) (fun _ _ => rfl)
      have hC := sp_cg (x' := fun i => sp_f w s i + z i) (sp_ab hy hB) (fun i hi => by have := he i; (try dsimp only); omega) (fun _ _ => rfl) (fun _ _ => rfl)
      have hD : sp_n y = sp_a w s (sp_n (sp_y w s (fun i => sp_f w s i + (z i - sp_e k i)))) (sp_q k) := by
        rw [← sp_ng (sp_al G (sp_n (sp_y w s (fun i => sp_f w s i + (z i - sp_e k i)))) (sp_q k))]
        exact sp_nc (fun i hi => (sp_un h hC i hi).2)
      rw [hD]
      exact hP2
theorem sp_cr {w : Nat → Nat → Bool} {s : Nat → Nat} (G : sp_ok w s) (P : Nat → Prop) (hF : P (sp_F w s))
    (hs : ∀ n, n < 4096 → P n → ∀ a, a < 4 → P (sp_a w s n (sp_q a))) {n : Nat} (h : sp_r w s n) : P n := by
  obtain ⟨hn, z, u, h⟩ := h
  rw [← sp_ng hn]
  exact sp_cl G P hF hs _ z _ u (Nat.le_refl _) h
/-- how many k below n there are -/
def sp_c (f : Nat → Bool) : Nat → Nat
  | 0 => 0
  | n + 1 => sp_c f n + sp_b (f n)
theorem sp_cn (f : Nat → Bool) : ∀ n, sp_c f n ≤ n := by
  intro n
  induction n with
  | zero => exact Nat.le_refl _
  | succ n ih =>
    have := sp_b1 (f n)
    show sp_c f n + sp_b (f n) ≤ n + 1
    omega
theorem sp_cm {f g : Nat → Bool} (h : ∀ i, f i = true → g i = true) : ∀ n, sp_c f n ≤ sp_c g n := by
  intro n
  induction n with
  | zero => exact Nat.le_refl _
  | succ n ih =>
    have h1 : sp_b (f n) ≤ sp_b (g n) := by
      cases e : f n with
      | false => exact Nat.zero_le _
      | true => rw [h n e]; exact Nat.le_refl _
    show sp_c f n + sp_b (f n) ≤ sp_c g n + sp_b (g n)
    omega
theorem sp_cs {f g : Nat → Bool} (h : ∀ i, f i = true → g i = true) {k : Nat} (hf : f k = false) (hg : g k = true) : ∀ n, k < n → sp_c f n + 1 ≤ sp_c g n := by
  intro n
  induction n with
  | zero => intro hk; omega
  | succ n ih =>
    intro hk
    by_cases e : k = n
    · subst e
      have h1 := sp_cm h k
      show sp_c f k + sp_b (f k) + 1 ≤ sp_c g k + sp_b (g k)
      rw [hf, hg, show sp_b false = 0 from rfl, show sp_b true = 1 from rfl]
      omega
    · have h1 := ih (by omega)
      have h2 : sp_b (f n) ≤ sp_b (g n) := by
        cases e : f n with
        | false => exact Nat.zero_le _
        | true => rw [h n e]; exact Nat.le_refl _
      show sp_c f n + sp_b (f n) + 1 ≤ sp_c g n + sp_b (g n)
      omega
theorem sp_ce {f g : Nat → Bool} : ∀ n, (∀ i, i < n → f i = g i) → sp_c f n = sp_c g n := by
  intro n
  induction n with
  | zero => intro _; rfl
  | succ n ih =>
    intro h
    show sp_c f n + sp_b (f n) = sp_c g n + sp_b (g n)
    rw [ih (fun i hi => h i (by omega)), h n (by omega)]
noncomputable def sp_rb (w : Nat → Nat → Bool) (s : Nat → Nat) (n : Nat) : Bool := @decide (sp_r w s n) (Classical.propDecidable _)
theorem sp_rbt {w : Nat → Nat → Bool} {s : Nat → Nat} {n : Nat} : sp_rb w s n = true ↔ sp_r w s n := by
  exact ⟨fun h => @of_decide_eq_true _ (Classical.propDecidable _) h, fun h => @decide_eq_true _ (Classical.propDecidable _) h⟩
theorem sp_rbf {w : Nat → Nat → Bool} {s : Nat → Nat} {n : Nat} : sp_rb w s n = false ↔ ¬ sp_r w s n := by
  exact ⟨fun h => @of_decide_eq_false _ (Classical.propDecidable _) h, fun h => @decide_eq_false _ (Classical.propDecidable _) h⟩
end
section
/-! A run of topplings, as the loops make it: from p0 to p with c topplings so far -/
def sp_Z (w : Nat → Nat → Bool) (s : Nat → Nat) (p0 p : Nat → Nat) (c : Nat) : Prop :=
  ∃ t : Nat → Nat, sp_t t = c ∧ (∀ q u, sp_S w s p q u → sp_S w s p0 q (fun i => u i + t i)) ∧ sp_t p + c ≤ sp_t p0
theorem sp_Z0 (w : Nat → Nat → Bool) (s : Nat → Nat) (p0 : Nat → Nat) : sp_Z w s p0 p0 0 :=
  ⟨fun _ => 0, rfl, fun _ _ h => h, Nat.le_refl _⟩
theorem sp_te {k : Nat} (hk : k < 4) : sp_t (sp_e k) = 1 := by
  rcases sp_4 hk with rfl | rfl | rfl | rfl <;> rfl
theorem sp_Z1 {w : Nat → Nat → Bool} {s : Nat → Nat} (G : sp_ok w s) {p0 p : Nat → Nat} {c k : Nat} (h : sp_Z w s p0 p c) (hk : k < 4) (hx : sp_d w s k ≤ p k) :
    sp_Z w s p0 (sp_p w s k p) (c + 1) := by
  obtain ⟨t, ht, hS, hc⟩ := h
  refine ⟨fun i => sp_e k i + t i, ?_, fun q u h => ?_, ?_⟩
  · have h1 : sp_e k 0 + sp_e k 1 + sp_e k 2 + sp_e k 3 = 1 := sp_te hk
    have h2 : t 0 + t 1 + t 2 + t 3 = c := ht
    show sp_e k 0 + t 0 + (sp_e k 1 + t 1) + (sp_e k 2 + t 2) + (sp_e k 3 + t 3) = c + 1
    omega
  · exact sp_cg (hS q _ (sp_st G hk hx h)) (fun _ _ => rfl) (fun _ _ => rfl) (fun i _ => Nat.add_assoc _ _ _)
  · have h1 := sp_pt G hk hx
    have h2 := (G.2.2 k hk).1
    omega
theorem sp_Zt {w : Nat → Nat → Bool} {s : Nat → Nat} {p0 p : Nat → Nat} {c : Nat} (h : sp_Z w s p0 p c) : sp_t p + c ≤ sp_t p0 := by
  obtain ⟨t, _, _, h⟩ := h
  exact h
theorem sp_Ze {w : Nat → Nat → Bool} {s : Nat → Nat} (G : sp_ok w s) {p0 p : Nat → Nat} {c : Nat} (h : sp_Z w s p0 p c) (hp : ∀ i, i < 4 → p i < sp_d w s i) :
    c = sp_t (sp_u w s p0) ∧ ∀ i, i < 4 → p i = sp_y w s p0 i := by
  obtain ⟨t, ht, hS, _⟩ := h
  have h1 := sp_un (hS p _ (sp_z hp)) (sp_yu G p0)
  refine ⟨?_, fun i hi => (h1 i hi).2⟩
  have a0 : 0 + t 0 = sp_u w s p0 0 := (h1 0 (by decide)).1
  have a1 : 0 + t 1 = sp_u w s p0 1 := (h1 1 (by decide)).1
  have a2 : 0 + t 2 = sp_u w s p0 2 := (h1 2 (by decide)).1
  have a3 : 0 + t 3 = sp_u w s p0 3 := (h1 3 (by decide)).1
  have h2 : t 0 + t 1 + t 2 + t 3 = c := ht
  show c = sp_u w s p0 0 + sp_u w s p0 1 + sp_u w s p0 2 + sp_u w s p0 3
  omega
theorem sp_yc {w : Nat → Nat → Bool} {s : Nat → Nat} (G : sp_ok w s) {p q : Nat → Nat} (h : ∀ i, i < 4 → p i = q i) :
    sp_t (sp_u w s p) = sp_t (sp_u w s q) ∧ ∀ i, i < 4 → sp_y w s p i = sp_y w s q i := by
  have h1 := sp_un (sp_yu G p) (sp_cg (sp_yu G q) (fun i hi => (h i hi).symm) (fun _ _ => rfl) (fun _ _ => rfl))
  refine ⟨?_, fun i hi => (h1 i hi).2⟩
  have a0 := (h1 0 (by decide)).1
  have a1 := (h1 1 (by decide)).1
  have a2 := (h1 2 (by decide)).1
  have a3 := (h1 3 (by decide)).1
  show sp_u w s p 0 + sp_u w s p 1 + sp_u w s p 2 + sp_u w s p 3 = sp_u w s q 0 + sp_u w s q 1 + sp_u w s q 2 + sp_u w s q 3
  omega
/-! Int32 against Nat -/
/-- the array's first four cells -/
def sp_A (a : Nat → Int32) (p : Nat → Nat) : Prop := ∀ i, i < 4 → a i = nI (p i)
theorem sp_Au {a : Nat → Int32} {p q : Nat → Nat} {k x : Nat} (h : sp_A a p) (hq : ∀ i, i < 4 → q i = if i = k then x else p i) : sp_A (upd a k (nI x)) q := by
  intro i hi
  rw [hq i hi]
  by_cases e : i = k
  · rw [if_pos e, e, pk_us]
  · rw [if_neg e, pk_un e, h i hi]
theorem hw_shX {n i : Nat} (hn : n < 2 ^ 31) (hi : i < 4) : (nI n >>> ((3 * (3 - nI i)) &&& 31)) &&& 7 = nI (sp_g n i) := by
  rcases sp_4 hi with rfl | rfl | rfl | rfl
  · rw [pk_shrN hn _ 9 (by decide), pk_andN (Nat.lt_of_le_of_lt (Nat.div_le_self _ _) (by omega)) 3 (by decide)]; rfl
  · rw [pk_shrN hn _ 6 (by decide), pk_andN (Nat.lt_of_le_of_lt (Nat.div_le_self _ _) (by omega)) 3 (by decide)]; rfl
  · rw [pk_shrN hn _ 3 (by decide), pk_andN (Nat.lt_of_le_of_lt (Nat.div_le_self _ _) (by omega)) 3 (by decide)]; rfl
  · rw [pk_shrN hn _ 0 (by decide), pk_andN (Nat.lt_of_le_of_lt (Nat.div_le_self _ _) (by omega)) 3 (by decide), Nat.pow_zero, Nat.div_one]; rfl
theorem hw_shY {n i : Nat} (hn : n < 2 ^ 31) (hi : i < 4) : (nI n >>> ((9 - 3 * nI i) &&& 31)) &&& 7 = nI (sp_g n i) := by
  rcases sp_4 hi with rfl | rfl | rfl | rfl
  · rw [pk_shrN hn _ 9 (by decide), pk_andN (Nat.lt_of_le_of_lt (Nat.div_le_self _ _) (by omega)) 3 (by decide)]; rfl
  · rw [pk_shrN hn _ 6 (by decide), pk_andN (Nat.lt_of_le_of_lt (Nat.div_le_self _ _) (by omega)) 3 (by decide)]; rfl
  · rw [pk_shrN hn _ 3 (by decide), pk_andN (Nat.lt_of_le_of_lt (Nat.div_le_self _ _) (by omega)) 3 (by decide)]; rfl
  · rw [pk_shrN hn _ 0 (by decide), pk_andN (Nat.lt_of_le_of_lt (Nat.div_le_self _ _) (by omega)) 3 (by decide), Nat.pow_zero, Nat.div_one]; rfl
/-- the neighbours as bits -/
def sp_M4 (w : Nat → Nat → Bool) (i : Nat) : Nat := sp_b (w i 0) + 2 * sp_b (w i 1) + 4 * sp_b (w i 2) + 8 * sp_b (w i 3)
theorem hw_bits : ∀ b0 b1 b2 b3 : Bool, ∀ j : Nat, j < 4 → (nI (sp_b b0 + 2 * sp_b b1 + 4 * sp_b b2 + 8 * sp_b b3) >>> (nI j &&& 31)) &&& 1 = nI (sp_b (if j = 0 then b0 else if j = 1 then b1 else if j = 2 then b2 else b3)) := by
  intro b0 b1 b2 b3 j hj
  rcases sp_4 hj with rfl | rfl | rfl | rfl <;> cases b0 <;> cases b1 <;> cases b2 <;> cases b3 <;> decide
theorem hw_in (w : Nat → Nat → Bool) (i : Nat) {j : Nat} (hj : j < 4) : (nI (sp_M4 w i) >>> (nI j &&& 31)) &&& 1 = nI (sp_b (w i j)) := by
  have h := hw_bits (w i 0) (w i 1) (w i 2) (w i 3) j hj
  unfold sp_M4
  rw [h]
  rcases sp_4 hj with rfl | rfl | rfl | rfl <;> rfl
theorem hw_or : ∀ b0 b1 b2 b3 : Bool, ∀ j : Nat, j < 4 → nI (sp_b b0 + 2 * sp_b b1 + 4 * sp_b b2 + 8 * sp_b b3) ||| (1 <<< (nI j &&& 31)) =
    nI (sp_b (if j = 0 then true else b0) + 2 * sp_b (if j = 1 then true else b1) + 4 * sp_b (if j = 2 then true else b2) + 8 * sp_b (if j = 3 then true else b3)) := by
  intro b0 b1 b2 b3 j hj
  rcases sp_4 hj with rfl | rfl | rfl | rfl <;> cases b0 <;> cases b1 <;> cases b2 <;> cases b3 <;> decide
theorem hw_an : ∀ b0 b1 b2 b3 : Bool, ∀ j : Nat, j < 4 → nI (sp_b b0 + 2 * sp_b b1 + 4 * sp_b b2 + 8 * sp_b b3) &&& ((1 <<< (nI j &&& 31)) ^^^ (-1)) =
    nI (sp_b (if j = 0 then false else b0) + 2 * sp_b (if j = 1 then false else b1) + 4 * sp_b (if j = 2 then false else b2) + 8 * sp_b (if j = 3 then false else b3)) := by
  intro b0 b1 b2 b3 j hj
  rcases sp_4 hj with rfl | rfl | rfl | rfl <;> cases b0 <;> cases b1 <;> cases b2 <;> cases b3 <;> decide
end
