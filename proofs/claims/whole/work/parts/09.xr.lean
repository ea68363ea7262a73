/-! The component's test of recurrent states, its neutral state, its walk along the multiples -/
section
variable {w : Nat → Nat → Bool} {s : Nat → Nat} {c : Int32} {aj sk ap : Nat → Int32}
theorem sp_burn {w : Nat → Nat → Bool} {s : Nat → Nat} (G : sp_ok w s) {n : Nat} (hk : sp_k w s n) : sp_n (sp_y w s (fun i => sp_g n i + s i)) = n ↔ sp_r w s n := by
  constructor
  · intro e
    refine ⟨hk.1, sp_Rb G (u := sp_u w s (fun i => sp_g n i + s i)) ?_⟩
    have h := sp_yu G (fun i => sp_g n i + s i)
    refine sp_cg h (fun _ _ => rfl) (fun i hi => ?_) (fun _ _ => rfl)
    rw [← sp_gn (sp_y8 G _) i hi, e]
  · intro h
    have h1 := sp_yn G (sp_Rs G h.2)
    rw [← h1, sp_ng h.1]
theorem xw_rec {post : Int32 → SX → Prop} {x : Int32} (G : sp_ok w s) (J : sp_J aj w) (S : sp_A sk s) (h1 : ∀ n a, x = nI n → sp_r w s n → post 1 (c, aj, sk, a))
    (h0 : ∀ a, (∀ n, x = nI n → ¬ sp_r w s n) → post 0 (c, aj, sk, a)) : wpX_isRecurrent post (c, aj, sk, ap) x := by
  unfold wpX_isRecurrent
  refine xw_stab G J S (fun n e k => ?_) (fun hn => br_t rfl (h0 ap fun n e r => hn n e (sp_rk r)))
  subst e
  refine br_f hx_01 (xw_clear fun a1 A1 => xw_addp A1 k.1 fun a2 A2 => ?_)
  refine loop_0 (σ := Nat → Int32) (fun q i a => wX_isRecurrent_21 post (nI n) c q (nI i) aj sk a) (fun i a => sp_B a a2 (fun i => sp_g n i + s i) i) 4 a2 (sp_B0 _ _) ?_ ?_
  · intro q a hI
    have hA := sp_B4 hI
    refine br_t hx_e4 (xw_settle G J S hA ?_ fun a4 A4 => xw_num A4 (sp_y8 G _) ?_)
    · refine Nat.le_trans (hx_t8 (m := 9) fun i hi => ?_) (by decide)
      have h1 := sp_g8 n i
      have h2 := (G.2.2 i hi).2
      omega
    · have hl := sp_nl (sp_y8 G (fun i => sp_g n i + s i))
      by_cases e : sp_n (sp_y w s (fun i => sp_g n i + s i)) = n
      · exact br_t (by rw [e]) (h1 n a4 rfl ((sp_burn G k).mp e))
      · refine br_f (fun z => e ((nI_eq (by omega) (by have := k.1; omega)).mp z)) (h0 a4 fun n' e' r => e ?_)
        have e2 : n' = n := (nI_eq (by have := r.1; omega) (by have := k.1; omega)).mp e'.symm
        exact (sp_burn G k).mpr (e2 ▸ r)
  · intro q i a hi hI hq
    refine br_f (hx_c4 hi) ⟨hx_in hi, hx_in hi, hx_in hi, nm_r (e' := upd a i (nI (sp_g n i + s i))) ?_ (nm_r (nI_1 i) (hq _ (sp_B1 hI)))⟩
    rw [hx_cl hi, sp_Bk hI hi, A2 i hi, S i hi, nI_add]
    show upd a i (nI (0 + sp_g n i + s i)) = upd a i (nI (sp_g n i + s i))
    rw [Nat.zero_add]
theorem hx_2f {G : sp_ok w s} {i : Nat} (hi : i < 4) : 2 * (nI (sp_d w s i) - 1) = nI (2 * sp_f w s i) := by
  have h1 := (sp_d1 G hi).1
  show nI 2 * (nI (sp_d w s i) - nI 1) = _
  rw [pk_sub h1, pk_mul]
  rfl
theorem xw_neu {post : Int32 → SX → Prop} (G : sp_ok w s) (J : sp_J aj w) (S : sp_A sk s) (h : ∀ a, post (nI (sp_o w s)) (c, aj, sk, a)) : wpX_findNeutral post (c, aj, sk, ap) := by
  have h5 : ∀ i, i < 4 → sp_f w s i ≤ 4 := fun i hi => by
    have h2 := (sp_d1 G hi).2
    unfold sp_f
    omega
  refine loop_0 (σ := Nat → Int32) (fun q i a => wX_findNeutral_2 post c q (nI i) aj sk a) (fun i a => sp_B a ap (fun i => 2 * sp_f w s i) i) 4 ap (sp_B0 _ _) ?_ ?_
  · intro q a hI
    refine br_t hx_e4 (xw_settle G J S (sp_B4 hI) ?_ fun a1 A1 => ?_)
    · refine Nat.le_trans (hx_t8 (m := 8) fun i hi => ?_) (by decide)
      have h1 := h5 i hi
      omega
    refine loop_0 (σ := Nat → Int32) (fun q i a => wX_findNeutral_35 post c q (nI i) aj sk a) (fun i a => sp_B a a1 (sp_v w s) i) 4 a1 (sp_B0 _ _) ?_ ?_
    · intro q a hI
      refine br_t hx_e4 (xw_settle G J S (sp_B4 hI) ?_ fun a2 A2 => xw_num A2 (sp_y8 G _) (h a2))
      refine Nat.le_trans (hx_t8 (m := 8) fun i hi => ?_) (by decide)
      have h1 := h5 i hi
      unfold sp_v
      omega
    · intro q i a hi hI hq
      refine br_f (hx_c4 hi) (xw_deg J S hi (And.intro (hx_in hi) (And.intro (hx_in hi) (nm_r (e' := upd a i (nI (sp_v w s i))) ?_ (nm_r (nI_1 i) (hq _ (sp_B1 hI)))))))
      have hv := sp_vf G i hi
      rw [hx_cl hi, sp_Bk hI hi, A1 i hi, hx_2f (G := G) hi, pk_sub (by omega)]
      rfl
  · intro q i a hi hI hq
    refine br_f (hx_c4 hi) (xw_deg J S hi (And.intro (hx_in hi) (nm_r (e' := upd a i (nI (2 * sp_f w s i))) ?_ (nm_r (nI_1 i) (hq _ (sp_B1 hI))))))
    rw [hx_cl hi, hx_2f (G := G) hi]
end
