/-! Changing the graph -/
def sp_w (w : Nat → Nat → Bool) (a b : Nat) (t : Bool) (i j : Nat) : Bool := if (i = a ∧ j = b) ∨ (i = b ∧ j = a) then t else w i j
theorem sp_wa (w : Nat → Nat → Bool) {a b : Nat} (t : Bool) (h : a ≠ b) (j : Nat) : sp_w w a b t a j = if b = j then t else w a j := by
  unfold sp_w
  by_cases e : b = j
  · rw [if_pos e, if_pos (Or.inl ⟨rfl, e.symm⟩)]
  · rw [if_neg e, if_neg (by omega)]
theorem sp_wb (w : Nat → Nat → Bool) {a b : Nat} (t : Bool) (h : a ≠ b) (j : Nat) : sp_w w a b t b j = if a = j then t else w b j := by
  unfold sp_w
  by_cases e : a = j
  · rw [if_pos e, if_pos (Or.inr ⟨rfl, e.symm⟩)]
  · rw [if_neg e, if_neg (by omega)]
theorem sp_wc (w : Nat → Nat → Bool) {a b i : Nat} (t : Bool) (ha : i ≠ a) (hb : i ≠ b) (j : Nat) : sp_w w a b t i j = w i j := by
  unfold sp_w
  rw [if_neg (by omega)]
theorem sp_wok {w : Nat → Nat → Bool} {s : Nat → Nat} (G : sp_ok w s) {a b : Nat} (t : Bool) (h : a ≠ b) : sp_ok (sp_w w a b t) s := by
  refine ⟨fun i j hi hj => ?_, fun i hi => ?_, G.2.2⟩
  · unfold sp_w
    by_cases e : (i = a ∧ j = b) ∨ (i = b ∧ j = a)
    · rw [if_pos e, if_pos (by omega)]
    · rw [if_neg e, if_neg (by omega)]
      exact G.1 i j hi hj
  · unfold sp_w
    rw [if_neg (by omega)]
    exact G.2.1 i hi
theorem sp_wJ {aj : Nat → Int32} {w : Nat → Nat → Bool} (J : sp_J aj w) {a b : Nat} (t : Bool) (ha : a < 4) (hb : b < 4) :
    sp_J (upd (upd aj (a * 4 + b) (nI (sp_b t))) (b * 4 + a) (nI (sp_b t))) (sp_w w a b t) := by
  intro i j hi hj
  unfold sp_w
  by_cases e1 : i * 4 + j = b * 4 + a
  · rw [e1, pk_us, if_pos (by omega)]
  · rw [pk_un e1]
    by_cases e2 : i * 4 + j = a * 4 + b
    · rw [e2, pk_us, if_pos (by omega)]
    · rw [pk_un e2, J i j hi hj, if_neg (by omega)]
/-- row i of the neighbours with j set to t -/
def sp_m1 (w : Nat → Nat → Bool) (i j : Nat) (t : Bool) : Nat :=
  sp_b (if j = 0 then t else w i 0) + 2 * sp_b (if j = 1 then t else w i 1) + 4 * sp_b (if j = 2 then t else w i 2) + 8 * sp_b (if j = 3 then t else w i 3)
theorem sp_or1 (w : Nat → Nat → Bool) (i : Nat) {j : Nat} (hj : j < 4) : nI (sp_M4 w i) ||| ((1 : Int32) <<< (nI j &&& 31)) = nI (sp_m1 w i j true) := hw_or (w i 0) (w i 1) (w i 2) (w i 3) j hj
theorem sp_an1 (w : Nat → Nat → Bool) (i : Nat) {j : Nat} (hj : j < 4) : nI (sp_M4 w i) &&& (((1 : Int32) <<< (nI j &&& 31)) ^^^ (-1)) = nI (sp_m1 w i j false) := hw_an (w i 0) (w i 1) (w i 2) (w i 3) j hj
theorem sp_wN {nr : Nat → Int32} {w : Nat → Nat → Bool} (N : sp_Nb nr w) {a b : Nat} (t : Bool) (h : a ≠ b) :
    sp_Nb (upd (upd nr a (nI (sp_m1 w a b t))) b (nI (sp_m1 w b a t))) (sp_w w a b t) := by
  intro i hi
  by_cases eb : i = b
  · subst eb
    rw [pk_us]
    unfold sp_m1 sp_M4
    rw [sp_wb w t h, sp_wb w t h, sp_wb w t h, sp_wb w t h]
  · rw [pk_un eb]
    by_cases ea : i = a
    · subst ea
      rw [pk_us]
      unfold sp_m1 sp_M4
      rw [sp_wa w t h, sp_wa w t h, sp_wa w t h, sp_wa w t h]
    · rw [pk_un ea, N i hi]
      unfold sp_M4
      rw [sp_wc w t ea eb, sp_wc w t ea eb, sp_wc w t ea eb, sp_wc w t ea eb]
def sp_s (s : Nat → Nat) (a k i : Nat) : Nat := if i = a then k else s i
theorem sp_sok {w : Nat → Nat → Bool} {s : Nat → Nat} (G : sp_ok w s) {a k : Nat} (h1 : 1 ≤ k) (h2 : k ≤ 2) : sp_ok w (sp_s s a k) := by
  refine ⟨G.1, G.2.1, fun i hi => ?_⟩
  unfold sp_s
  split
  · exact ⟨h1, h2⟩
  · exact G.2.2 i hi
theorem sp_sA {sk : Nat → Int32} {s : Nat → Nat} (S : sp_A sk s) (a k : Nat) : sp_A (upd sk a (nI k)) (sp_s s a k) := sp_Au S (fun _ _ => rfl)
theorem sp_bz (v : Int32) : ∃ t : Bool, lw_bz v = nI (sp_b t) := by
  rcases lw_bz_01 v with h | h
  · exact ⟨false, h⟩
  · exact ⟨true, h⟩
theorem sp_nb (t : Bool) : vp_nar .boolean (nI (sp_b t)) = nI (sp_b t) := by
  cases t
  · exact hx_nb0
  · exact hx_nb1
