/-! The calls that ask about recurrent states -/
theorem i_vc_recurrent {k : Nat} {u : SX} {v : SY} (I : i_Rel k u v) (hk : k + 4 ≤ 2048) (v1 : Int32) : wpX_recurrent (fun r u' => wpY_recurrent (fun r' v' => r' = r ∧ i_Rel (k + 4) u' v') v v1) u v1 := by
  obtain ⟨w, s, g, aj, sx, ap, kn, tp, nr, sy, gr, wk, fd, rfl, rfl, G, J, S, N, T, A, hg, K⟩ := I
  unfold wpX_recurrent wpY_recurrent
  dsimp only
  refine xw_rec G J S (fun n a e r => And.intro rfl ?_) (fun a hz => And.intro rfl ?_)
  · exact yw_rec G N T K (fun n' t a' d F e' r' => And.intro rfl ⟨rfl, ir_mk G J S N T A hg (Or.inr ⟨rfl, F⟩) rfl⟩) (fun t a' d F z => absurd r (z n e))
  · exact yw_rec G N T K (fun n' t a' d F e' r' => absurd r' (hz n' e')) (fun t a' d F z => And.intro rfl ⟨rfl, ir_mk G J S N T A hg (Or.inr ⟨rfl, F⟩) rfl⟩)
theorem i_vc_order {k : Nat} {u : SX} {v : SY} (I : i_Rel k u v) (hk : k + 4 ≤ 2048) : wpX_order (fun r u' => wpY_order (fun r' v' => r' = r ∧ i_Rel (k + 4) u' v') v) u := by
  obtain ⟨w, s, g, aj, sx, ap, kn, tp, nr, sy, gr, wk, fd, rfl, rfl, G, J, S, N, T, A, hg, K⟩ := I
  refine xw_cnt G J S fun a => ?_
  unfold wpY_order
  exact yw_find G N T K fun t a' d F => yw_cnt F ⟨rfl, ir_mk G J S N T A hg (Or.inr ⟨rfl, F⟩) rfl⟩
theorem i_vc_neutral {k : Nat} {u : SX} {v : SY} (I : i_Rel k u v) (hk : k + 4 ≤ 2048) : wpX_neutral (fun r u' => wpY_neutral (fun r' v' => r' = r ∧ i_Rel (k + 4) u' v') v) u := by
  obtain ⟨w, s, g, aj, sx, ap, kn, tp, nr, sy, gr, wk, fd, rfl, rfl, G, J, S, N, T, A, hg, K⟩ := I
  unfold wpX_neutral wpY_neutral
  dsimp only
  exact xw_neu G J S fun a => yw_neu G N T K fun t a' d F => ⟨rfl, ir_mk G J S N T A hg (Or.inr ⟨rfl, F⟩) rfl⟩
theorem i_vc_opposite {k : Nat} {u : SX} {v : SY} (I : i_Rel k u v) (hk : k + 4 ≤ 2048) (v1 : Int32) : wpX_opposite (fun r u' => wpY_opposite (fun r' v' => r' = r ∧ i_Rel (k + 4) u' v') v v1) u v1 := by
  obtain ⟨w, s, g, aj, sx, ap, kn, tp, nr, sy, gr, wk, fd, rfl, rfl, G, J, S, N, T, A, hg, K⟩ := I
  unfold wpX_opposite wpY_opposite
  dsimp only
  refine xw_rec G J S (fun n a e r => br_f hx_01 (xw_neu G J S fun a1 => ?_)) (fun a hz => br_t rfl ?_)
  · subst e
    obtain ⟨k0, hk0, e0, hm, hb, eb⟩ := sp_mk G r
    refine Exists.intro (k0 + 1) (xw_opp G J S r hk0 e0 hm (fun a2 => ?_) (k0 + 1) 0 a1 (by omega) (Nat.zero_le _))
    refine yw_rec G N T K (fun n' t a' d F e' r' => br_f hx_01 (yw_neu G N T (Or.inr ⟨rfl, F⟩) fun t3 a3 d3 F3 => ?_)) (fun t a' d F z => absurd r (z n rfl))
    exact Exists.intro (sp_bf w s n k0 + 1) (yw_opp G N T r.1 hb eb (fun t4 a4 d4 F4 => ⟨rfl, ir_mk G J S N T A hg (Or.inr ⟨rfl, F4⟩) rfl⟩) (sp_bf w s n k0 + 1) 0 1 t3 a3 d3 (by omega) (Nat.zero_le _) (Or.inr ⟨rfl, F3⟩))
  · exact yw_rec G N T K (fun n' t a' d F e' r' => absurd r' (hz n' e')) (fun t a' d F z => br_t rfl ⟨rfl, ir_mk G J S N T A hg (Or.inr ⟨rfl, F⟩) rfl⟩)
theorem i_vc_groupSum {k : Nat} {u : SX} {v : SY} (I : i_Rel k u v) (hk : k + 4 ≤ 2048) (v1 : Int32) (v2 : Int32) : wpX_groupSum (fun r u' => wpY_groupSum (fun r' v' => r' = r ∧ i_Rel (k + 4) u' v') v v1 v2) u v1 v2 := by
  have I0 := I
  obtain ⟨w, s, g, aj, sx, ap, kn, tp, nr, sy, gr, wk, fd, rfl, rfl, G, J, S, N, T, A, hg, K⟩ := I
  unfold wpX_groupSum wpY_groupSum
  dsimp only
  refine xw_stab G J S (fun n e kn1 => br_f hx_01 (xw_stab G J S (fun m e2 km => br_f hx_01 ?_) (fun hz2 => br_t rfl ?_))) (fun hz => br_t rfl ?_)
  · subst e e2
    refine xw_add G J S kn1.1 km.1 fun a => ?_
    exact yw_stab G N T (fun _ _ _ => br_f hx_01 (yw_stab G N T (fun _ _ _ => br_f hx_01 (yw_sum G N T kn1.1 km.1 fun t a' => ⟨rfl, ir_mk G J S N T A hg K rfl⟩)) (fun z => absurd km (z m rfl)))) (fun z => absurd kn1 (z n rfl))
  · exact yw_stab G N T (fun _ _ _ => br_f hx_01 (yw_stab G N T (fun m e2 km => absurd km (hz2 m e2)) (fun z => br_t rfl ⟨rfl, I0⟩))) (fun z => absurd kn1 (z n e))
  · exact yw_stab G N T (fun n e kk => absurd kk (hz n e)) (fun _ => br_t rfl ⟨rfl, I0⟩)
theorem i_vc_orderOf {k : Nat} {u : SX} {v : SY} (I : i_Rel k u v) (hk : k + 4 ≤ 2048) (v1 : Int32) : wpX_orderOf (fun r u' => wpY_orderOf (fun r' v' => r' = r ∧ i_Rel (k + 4) u' v') v v1) u v1 := by
  obtain ⟨w, s, g, aj, sx, ap, kn, tp, nr, sy, gr, wk, fd, rfl, rfl, G, J, S, N, T, A, hg, K⟩ := I
  unfold wpX_orderOf wpY_orderOf
  dsimp only
  refine xw_rec G J S (fun n a e r => br_f hx_01 (xw_neu G J S fun a1 => ?_)) (fun a hz => br_t rfl ?_)
  · subst e
    obtain ⟨k0, hk0, e0, hm, hb, eb⟩ := sp_mk G r
    refine Exists.intro (k0 + 1) (xw_ord G J S r hk0 e0 hm (fun a2 => ?_) (k0 + 1) 0 a1 (by omega) (Nat.zero_le _))
    refine yw_rec G N T K (fun n' t a' d F e' r' => br_f hx_01 (yw_neu G N T (Or.inr ⟨rfl, F⟩) fun t3 a3 d3 F3 => ?_)) (fun t a' d F z => absurd r (z n rfl))
    exact Exists.intro (k0 + 1) (yw_ord G N T r hk0 e0 hm (fun t4 a4 => ⟨rfl, ir_mk G J S N T A hg (Or.inr ⟨rfl, F3⟩) rfl⟩) (k0 + 1) 0 t3 a3 (by omega) (Nat.zero_le _))
  · exact yw_rec G N T K (fun n' t a' d F e' r' => absurd r' (hz n' e')) (fun t a' d F z => br_t rfl ⟨rfl, ir_mk G J S N T A hg (Or.inr ⟨rfl, F⟩) rfl⟩)
theorem i_vc_recurrentOf {k : Nat} {u : SX} {v : SY} (I : i_Rel k u v) (hk : k + 4 ≤ 2048) (v1 : Int32) : wpX_recurrentOf (fun r u' => wpY_recurrentOf (fun r' v' => r' = r ∧ i_Rel (k + 4) u' v') v v1) u v1 := by
  have I0 := I
  obtain ⟨w, s, g, aj, sx, ap, kn, tp, nr, sy, gr, wk, fd, rfl, rfl, G, J, S, N, T, A, hg, K⟩ := I
  unfold wpX_recurrentOf wpY_recurrentOf
  dsimp only
  refine xw_stab G J S (fun n e kk => br_f hx_01 (xw_neu G J S fun a1 => ?_)) (fun hz => br_t rfl ?_)
  · subst e
    have ho := (sp_or G).1
    refine xw_add G J S ho kk.1 fun a => ?_
    exact yw_stab G N T (fun _ _ _ => br_f hx_01 (yw_neu G N T K fun t2 a2 d2 F2 => yw_sum G N T ho kk.1 fun t3 a3 => ⟨rfl, ir_mk G J S N T A hg (Or.inr ⟨rfl, F2⟩) rfl⟩)) (fun z => absurd kk (z n rfl))
  · exact yw_stab G N T (fun n e kk => absurd kk (hz n e)) (fun _ => br_t rfl ⟨rfl, I0⟩)
