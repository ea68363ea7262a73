/-! The component's private methods, each against the pure picture -/
def sp_B (a f : Nat → Int32) (g : Nat → Nat) (k : Nat) : Prop := ∀ i, i < 4 → a i = if i < k then nI (g i) else f i
theorem sp_B0 (a : Nat → Int32) (g : Nat → Nat) : sp_B a a g 0 := fun i _ => (if_neg (Nat.not_lt_zero i)).symm
theorem sp_Bk {a f : Nat → Int32} {g : Nat → Nat} {k : Nat} (h : sp_B a f g k) (hk : k < 4) : a k = f k := (h k hk).trans (if_neg (Nat.lt_irrefl k))
theorem sp_B1 {a f : Nat → Int32} {g : Nat → Nat} {k : Nat} (h : sp_B a f g k) : sp_B (upd a k (nI (g k))) f g (k + 1) := by
  intro i hi
  by_cases e : i = k
  · rw [e, pk_us, if_pos (Nat.lt_succ_self k)]
  · rw [pk_un e, h i hi]
    by_cases l : i < k
    · rw [if_pos l, if_pos (by omega)]
    · rw [if_neg l, if_neg (by omega)]
theorem sp_Bn {a f : Nat → Int32} {g : Nat → Nat} {k : Nat} (h : sp_B a f g k) (he : f k = nI (g k)) : sp_B a f g (k + 1) := by
  intro i hi
  rw [h i hi]
  by_cases e : i = k
  · rw [e, if_neg (Nat.lt_irrefl k), if_pos (Nat.lt_succ_self k), he]
  · by_cases l : i < k
    · rw [if_pos l, if_pos (by omega)]
    · rw [if_neg l, if_neg (by omega)]
theorem sp_B4 {a f : Nat → Int32} {g : Nat → Nat} (h : sp_B a f g 4) : sp_A a g := fun i hi => (h i hi).trans (if_pos hi)
theorem hx_c4 {k : Nat} (h : k < 4) : ¬ (4 : Int32) ≤ nI k := nI_ge (b := 4) h (by decide)
theorem hx_e4 : (4 : Int32) ≤ nI 4 := nI_le (Nat.le_refl 4) (by decide)
theorem hx_in {k : Nat} (h : k < 4) : vp_in (nI k) 4 := vp_in_nI h (by decide)
theorem hx_cl {k : Nat} (h : k < 4) : (nI k).toNatClampNeg = k := nI_clamp (by omega)
theorem hx_ix (p k : Nat) : nI p * 4 + nI k = nI (p * 4 + k) := by
  show nI p * nI 4 + nI k = _
  rw [pk_mul, nI_add]
theorem hx_ic {p k : Nat} (hp : p < 4) (hk : k < 4) : (nI p * 4 + nI k).toNatClampNeg = p * 4 + k := by rw [hx_ix, nI_clamp (by omega)]
theorem hx_ii {p k : Nat} (hp : p < 4) (hk : k < 4) : vp_in (nI p * 4 + nI k) 16 := by
  rw [hx_ix]
  exact vp_in_nI (by omega) (by decide)
def sp_J (aj : Nat → Int32) (w : Nat → Nat → Bool) : Prop := ∀ i j, i < 4 → j < 4 → aj (i * 4 + j) = nI (sp_b (w i j))
def sp_D (w : Nat → Nat → Bool) (s : Nat → Nat) (p : Nat) : Nat → Nat
  | 0 => s p
  | k + 1 => sp_D w s p k + sp_b (w p k)
theorem hx_01 : ¬ (1 : Int32) = 0 := by decide
section
variable {w : Nat → Nat → Bool} {s : Nat → Nat} {c : Int32} {aj sk ap : Nat → Int32}
theorem xw_clear {post : SX → Prop} (h : ∀ a, sp_A a (fun _ => 0) → post (c, aj, sk, a)) : wpX_clearPile post (c, aj, sk, ap) := by
  refine loop_0 (σ := Nat → Int32) (fun n i a => wX_clearPile_2 post c n (nI i) aj sk a) (fun i a => sp_B a ap (fun _ => 0) i) 4 ap (sp_B0 _ _) ?_ ?_
  · intro n a hI
    exact br_t hx_e4 (h a (sp_B4 hI))
  · intro n i a hi hI hk
    exact br_f (hx_c4 hi) ⟨hx_in hi, nm_r (e' := upd a i (nI 0)) (by rw [hx_cl hi]; rfl) (nm_r (nI_1 i) (hk _ (sp_B1 hI)))⟩
theorem xw_addp {post : SX → Prop} {p : Nat → Nat} {n0 : Nat} (A : sp_A ap p) (hn : n0 < 4096) (h : ∀ a, sp_A a (fun i => p i + sp_g n0 i) → post (c, aj, sk, a)) :
    wpX_addToPile post (c, aj, sk, ap) (nI n0) := by
  refine loop_0 (σ := Nat → Int32) (fun n i a => wX_addToPile_2 post (nI n0) c n (nI i) aj sk a) (fun i a => sp_B a ap (fun i => p i + sp_g n0 i) i) 4 ap (sp_B0 _ _) ?_ ?_
  · intro n a hI
    exact br_t hx_e4 (h a (sp_B4 hI))
  · intro n i a hi hI hk
    refine br_f (hx_c4 hi) ⟨hx_in hi, And.intro (hx_in hi) (nm_r (e' := upd a i (nI (p i + sp_g n0 i))) ?_ (nm_r (nI_1 i) (hk _ (sp_B1 hI))))⟩
    rw [hx_cl hi, hw_shX (by omega) hi, sp_Bk hI hi, A i hi, nI_add]
theorem xw_deg {post : Int32 → Prop} {p : Nat} (J : sp_J aj w) (S : sp_A sk s) (hp : p < 4) (h : post (nI (sp_d w s p))) : wpX_countEdges post (c, aj, sk, ap) (nI p) := by
  refine And.intro (hx_in hp) (nm_r (e' := nI (s p)) (by rw [hx_cl hp, S p hp]) ?_)
  refine loop_0 (σ := Int32) (fun n i x => wX_countEdges_9 post (nI p) c aj sk ap n x (nI i)) (fun i x => x = nI (sp_D w s p i)) 4 (nI (s p)) rfl ?_ ?_
  · intro n x hx
    exact br_t hx_e4 (by rw [hx]; exact h)
  · intro n i x hi hx hk
    refine br_f (hx_c4 hi) ⟨hx_ii hp hi, ?_⟩
    cases b : w p i with
    | true =>
      have hj : aj (p * 4 + i) = 1 := by rw [J p i hp hi, b]; rfl
      refine br_f (by rw [hx_ic hp hi, hj]; exact hx_01) (nm_r (e' := nI (sp_D w s p (i + 1))) ?_ (nm_r (nI_1 i) (hk _ rfl)))
      rw [hx]
      show nI (sp_D w s p i) + 1 = nI (sp_D w s p i + sp_b (w p i))
      rw [b, nI_1]
      rfl
    | false =>
      have hj : aj (p * 4 + i) = 0 := by rw [J p i hp hi, b]; rfl
      refine br_t (by rw [hx_ic hp hi, hj]) (nm_r (nI_1 i) (hk _ ?_))
      rw [hx]
      show nI (sp_D w s p i) = nI (sp_D w s p i + sp_b (w p i))
      rw [b]
      rfl
theorem xw_topple {post : SX → Prop} {p : Nat → Nat} {k : Nat} (G : sp_ok w s) (J : sp_J aj w) (A : sp_A ap p) (hk : k < 4) (hx : sp_d w s k ≤ p k)
    (h : ∀ a, sp_A a (sp_p w s k p) → post (c, aj, sk, a)) : wpX_topple post (c, aj, sk, ap) (nI k) (nI (sp_d w s k)) := by
  refine And.intro (hx_in hk) (And.intro (hx_in hk) (nm_r (e' := upd ap k (nI (p k - sp_d w s k))) (by rw [hx_cl hk, A k hk, pk_sub hx]) ?_))
  refine loop_0 (σ := Nat → Int32) (fun n i a => wX_topple_12 post (nI k) c n (nI i) aj sk a) (fun i a => sp_B a (upd ap k (nI (p k - sp_d w s k))) (sp_p w s k p) i) 4 _ (sp_B0 _ _) ?_ ?_
  · intro n a hI
    exact br_t hx_e4 (h a (sp_B4 hI))
  · intro n i a hi hI hn
    refine br_f (hx_c4 hi) ⟨hx_ii hk hi, ?_⟩
    cases b : w k i with
    | true =>
      have hj : aj (k * 4 + i) = 1 := by rw [J k i hk hi, b]; rfl
      have hne : i ≠ k := by
        intro e
        rw [e, G.2.1 k hk] at b
        exact Bool.noConfusion b
      refine br_f (by rw [hx_ic hk hi, hj]; exact hx_01) ⟨hx_in hi, hx_in hi, nm_r (e' := upd a i (nI (sp_p w s k p i))) ?_ (nm_r (nI_1 i) (hn _ (sp_B1 hI)))⟩
      rw [hx_cl hi, sp_Bk hI hi, pk_un hne, A i hi, nI_1]
      unfold sp_p
      rw [if_neg hne, b]
      rfl
    | false =>
      have hj : aj (k * 4 + i) = 0 := by rw [J k i hk hi, b]; rfl
      refine br_t (by rw [hx_ic hk hi, hj]) (nm_r (nI_1 i) (hn _ (sp_Bn hI ?_)))
      unfold sp_p
      by_cases e : i = k
      · rw [if_pos e, e, pk_us]
      · rw [if_neg e, pk_un e, A i hi, b]
        rfl
theorem xw_num {post : Int32 → Prop} {p : Nat → Nat} (A : sp_A ap p) (hp : ∀ i, i < 4 → p i < 8) (h : post (nI (sp_n p))) : wpX_pileNumber post (c, aj, sk, ap) := by
  refine loop_0 (σ := Int32) (fun n i x => wX_pileNumber_4 post c aj sk ap n x (nI i))
    (fun i x => x = nI (if i = 0 then 0 else if i = 1 then p 0 else if i = 2 then 8 * p 0 + p 1 else if i = 3 then 64 * p 0 + 8 * p 1 + p 2 else sp_n p)) 4 0 rfl ?_ ?_
  · intro n x hx
    exact br_t hx_e4 (by rw [hx]; exact h)
  · intro n i x hi hx hk
    refine br_f (hx_c4 hi) ⟨hx_in hi, nm_r rfl (nm_r (nI_1 i) (hk _ ?_))⟩
    have h0 := hp 0 (by decide)
    have h1 := hp 1 (by decide)
    have h2 := hp 2 (by decide)
    rw [hx, hx_cl hi, A i hi]
    rcases sp_4 hi with rfl | rfl | rfl | rfl
    · show nI 0 <<< ((3 : Int32) &&& 31) + nI (p 0) = nI (p 0)
      rw [pk_shlN _ 3 (by decide) (by decide), nI_add]
      exact congrArg nI (by omega)
    · show nI (p 0) <<< ((3 : Int32) &&& 31) + nI (p 1) = nI (8 * p 0 + p 1)
      rw [pk_shlN _ 3 (by decide) (by omega), nI_add]
      exact congrArg nI (by omega)
    · show nI (8 * p 0 + p 1) <<< ((3 : Int32) &&& 31) + nI (p 2) = nI (64 * p 0 + 8 * p 1 + p 2)
      rw [pk_shlN _ 3 (by decide) (by omega), nI_add]
      exact congrArg nI (by omega)
    · show nI (64 * p 0 + 8 * p 1 + p 2) <<< ((3 : Int32) &&& 31) + nI (p 3) = nI (sp_n p)
      rw [pk_shlN _ 3 (by decide) (by omega), nI_add]
      exact congrArg nI (by unfold sp_n; omega)
end
