/-! A run of topplings, as the loops make it: from p0 to p with c topplings so far -/
def sp_Z (w : Nat → Nat → Bool) (s : Nat → Nat) (p0 p : Nat → Nat) (c : Nat) : Prop :=
  ∃ t : Nat → Nat, sp_t t = c ∧ (∀ q u, sp_S w s p q u → sp_S w s p0 q (fun i => u i + t i)) ∧ sp_t p + c ≤ sp_t p0
theorem sp_Z0 (w : Nat → Nat → Bool) (s : Nat → Nat) (p0 : Nat → Nat) : sp_Z w s p0 p0 0 :=
  ⟨fun _ => 0, rfl, fun _ _ h => h, Nat.le_refl _⟩
theorem sp_te {k : Nat} (hk : k < 4) : sp_t (sp_e k) = 1 := by
  rcases sp_4 hk with rfl | rfl | rfl | rfl <;> rfl
theorem sp_Z1 {w : Nat → Nat → Bool} {s : Nat → Nat} (G : sp_ok w s) {p0 p : Nat → Nat} {c k : Nat} (h : sp_Z w s p0 p c) (hk : k < 4) (hx : sp_d w s k ≤ p k) :
    sp_Z w s p0 (sp_p w s k p) (c + 1) := by
  obtain ⟨t, ht, hS, hc⟩ := h
  refine ⟨fun i => sp_e k i + t i, ?_, fun q u h => ?_, ?_⟩
  · have h1 : sp_e k 0 + sp_e k 1 + sp_e k 2 + sp_e k 3 = 1 := sp_te hk
    have h2 : t 0 + t 1 + t 2 + t 3 = c := ht
    show sp_e k 0 + t 0 + (sp_e k 1 + t 1) + (sp_e k 2 + t 2) + (sp_e k 3 + t 3) = c + 1
    omega
  · exact sp_cg (hS q _ (sp_st G hk hx h)) (fun _ _ => rfl) (fun _ _ => rfl) (fun i _ => Nat.add_assoc _ _ _)
  · have h1 := sp_pt G hk hx
    have h2 := (G.2.2 k hk).1
    omega
theorem sp_Zt {w : Nat → Nat → Bool} {s : Nat → Nat} {p0 p : Nat → Nat} {c : Nat} (h : sp_Z w s p0 p c) : sp_t p + c ≤ sp_t p0 := by
  obtain ⟨t, _, _, h⟩ := h
  exact h
theorem sp_Ze {w : Nat → Nat → Bool} {s : Nat → Nat} (G : sp_ok w s) {p0 p : Nat → Nat} {c : Nat} (h : sp_Z w s p0 p c) (hp : ∀ i, i < 4 → p i < sp_d w s i) :
    c = sp_t (sp_u w s p0) ∧ ∀ i, i < 4 → p i = sp_y w s p0 i := by
  obtain ⟨t, ht, hS, _⟩ := h
  have h1 := sp_un (hS p _ (sp_z hp)) (sp_yu G p0)
  refine ⟨?_, fun i hi => (h1 i hi).2⟩
  have a0 : 0 + t 0 = sp_u w s p0 0 := (h1 0 (by decide)).1
  have a1 : 0 + t 1 = sp_u w s p0 1 := (h1 1 (by decide)).1
  have a2 : 0 + t 2 = sp_u w s p0 2 := (h1 2 (by decide)).1
  have a3 : 0 + t 3 = sp_u w s p0 3 := (h1 3 (by decide)).1
  have h2 : t 0 + t 1 + t 2 + t 3 = c := ht
  show c = sp_u w s p0 0 + sp_u w s p0 1 + sp_u w s p0 2 + sp_u w s p0 3
  omega
theorem sp_yc {w : Nat → Nat → Bool} {s : Nat → Nat} (G : sp_ok w s) {p q : Nat → Nat} (h : ∀ i, i < 4 → p i = q i) :
    sp_t (sp_u w s p) = sp_t (sp_u w s q) ∧ ∀ i, i < 4 → sp_y w s p i = sp_y w s q i := by
  have h1 := sp_un (sp_yu G p) (sp_cg (sp_yu G q) (fun i hi => (h i hi).symm) (fun _ _ => rfl) (fun _ _ => rfl))
  refine ⟨?_, fun i hi => (h1 i hi).2⟩
  have a0 := (h1 0 (by decide)).1
  have a1 := (h1 1 (by decide)).1
  have a2 := (h1 2 (by decide)).1
  have a3 := (h1 3 (by decide)).1
  show sp_u w s p 0 + sp_u w s p 1 + sp_u w s p 2 + sp_u w s p 3 = sp_u w s q 0 + sp_u w s q 1 + sp_u w s q 2 + sp_u w s q 3
  omega
/-! Int32 against Nat -/
/-- the array's first four cells -/
def sp_A (a : Nat → Int32) (p : Nat → Nat) : Prop := ∀ i, i < 4 → a i = nI (p i)
theorem sp_Au {a : Nat → Int32} {p q : Nat → Nat} {k x : Nat} (h : sp_A a p) (hq : ∀ i, i < 4 → q i = if i = k then x else p i) : sp_A (upd a k (nI x)) q := by
  intro i hi
  rw [hq i hi]
  by_cases e : i = k
  · rw [if_pos e, e, pk_us]
  · rw [if_neg e, pk_un e, h i hi]
theorem hw_shX {n i : Nat} (hn : n < 2 ^ 31) (hi : i < 4) : (nI n >>> ((3 * (3 - nI i)) &&& 31)) &&& 7 = nI (sp_g n i) := by
  rcases sp_4 hi with rfl | rfl | rfl | rfl
  · rw [pk_shrN hn _ 9 (by decide), pk_andN (Nat.lt_of_le_of_lt (Nat.div_le_self _ _) (by omega)) 3 (by decide)]; rfl
  · rw [pk_shrN hn _ 6 (by decide), pk_andN (Nat.lt_of_le_of_lt (Nat.div_le_self _ _) (by omega)) 3 (by decide)]; rfl
  · rw [pk_shrN hn _ 3 (by decide), pk_andN (Nat.lt_of_le_of_lt (Nat.div_le_self _ _) (by omega)) 3 (by decide)]; rfl
  · rw [pk_shrN hn _ 0 (by decide), pk_andN (Nat.lt_of_le_of_lt (Nat.div_le_self _ _) (by omega)) 3 (by decide), Nat.pow_zero, Nat.div_one]; rfl
theorem hw_shY {n i : Nat} (hn : n < 2 ^ 31) (hi : i < 4) : (nI n >>> ((9 - 3 * nI i) &&& 31)) &&& 7 = nI (sp_g n i) := by
  rcases sp_4 hi with rfl | rfl | rfl | rfl
  · rw [pk_shrN hn _ 9 (by decide), pk_andN (Nat.lt_of_le_of_lt (Nat.div_le_self _ _) (by omega)) 3 (by decide)]; rfl
  · rw [pk_shrN hn _ 6 (by decide), pk_andN (Nat.lt_of_le_of_lt (Nat.div_le_self _ _) (by omega)) 3 (by decide)]; rfl
  · rw [pk_shrN hn _ 3 (by decide), pk_andN (Nat.lt_of_le_of_lt (Nat.div_le_self _ _) (by omega)) 3 (by decide)]; rfl
  · rw [pk_shrN hn _ 0 (by decide), pk_andN (Nat.lt_of_le_of_lt (Nat.div_le_self _ _) (by omega)) 3 (by decide), Nat.pow_zero, Nat.div_one]; rfl
/-- the neighbours as bits -/
def sp_M4 (w : Nat → Nat → Bool) (i : Nat) : Nat := sp_b (w i 0) + 2 * sp_b (w i 1) + 4 * sp_b (w i 2) + 8 * sp_b (w i 3)
theorem hw_bits : ∀ b0 b1 b2 b3 : Bool, ∀ j : Nat, j < 4 → (nI (sp_b b0 + 2 * sp_b b1 + 4 * sp_b b2 + 8 * sp_b b3) >>> (nI j &&& 31)) &&& 1 = nI (sp_b (if j = 0 then b0 else if j = 1 then b1 else if j = 2 then b2 else b3)) := by
  intro b0 b1 b2 b3 j hj
  rcases sp_4 hj with rfl | rfl | rfl | rfl <;> cases b0 <;> cases b1 <;> cases b2 <;> cases b3 <;> decide
theorem hw_in (w : Nat → Nat → Bool) (i : Nat) {j : Nat} (hj : j < 4) : (nI (sp_M4 w i) >>> (nI j &&& 31)) &&& 1 = nI (sp_b (w i j)) := by
  have h := hw_bits (w i 0) (w i 1) (w i 2) (w i 3) j hj
  unfold sp_M4
  rw [h]
  rcases sp_4 hj with rfl | rfl | rfl | rfl <;> rfl
theorem hw_or : ∀ b0 b1 b2 b3 : Bool, ∀ j : Nat, j < 4 → nI (sp_b b0 + 2 * sp_b b1 + 4 * sp_b b2 + 8 * sp_b b3) ||| (1 <<< (nI j &&& 31)) =
    nI (sp_b (if j = 0 then true else b0) + 2 * sp_b (if j = 1 then true else b1) + 4 * sp_b (if j = 2 then true else b2) + 8 * sp_b (if j = 3 then true else b3)) := by
  intro b0 b1 b2 b3 j hj
  rcases sp_4 hj with rfl | rfl | rfl | rfl <;> cases b0 <;> cases b1 <;> cases b2 <;> cases b3 <;> decide
theorem hw_an : ∀ b0 b1 b2 b3 : Bool, ∀ j : Nat, j < 4 → nI (sp_b b0 + 2 * sp_b b1 + 4 * sp_b b2 + 8 * sp_b b3) &&& ((1 <<< (nI j &&& 31)) ^^^ (-1)) =
    nI (sp_b (if j = 0 then false else b0) + 2 * sp_b (if j = 1 then false else b1) + 4 * sp_b (if j = 2 then false else b2) + 8 * sp_b (if j = 3 then false else b3)) := by
  intro b0 b1 b2 b3 j hj
  rcases sp_4 hj with rfl | rfl | rfl | rfl <;> cases b0 <;> cases b1 <;> cases b2 <;> cases b3 <;> decide
