/-! The relation, the start, the calls that change the graph or the grains -/
/-- one graph, one state; the scratch arrays are free; what the reference has found, if it is known, are the recurrent states -/
def i_Rel (k : Nat) (u : SX) (v : SY) : Prop :=
  ∃ (w : Nat → Nat → Bool) (s g : Nat → Nat) (aj sx ap : Nat → Int32) (kn tp : Int32) (nr sy gr wk fd : Nat → Int32),
    u = (nI (sp_n g), aj, sx, ap) ∧ v = (kn, tp, nr, sy, gr, wk, fd) ∧ sp_ok w s ∧ sp_J aj w ∧ sp_A sx s ∧ sp_Nb nr w ∧ sp_A sy s ∧ sp_A gr g ∧ (∀ i, i < 4 → g i < sp_d w s i) ∧
    (kn = 0 ∨ (kn = 1 ∧ sp_Fd fd (sp_rb w s)))
theorem i_up {k : Nat} {u : SX} {v : SY} (h : i_Rel k u v) : i_Rel (k + 4) u v := h
theorem ir_mk {k : Nat} {w : Nat → Nat → Bool} {s g : Nat → Nat} {aj sx ap : Nat → Int32} {kn tp : Int32} {nr sy gr wk fd : Nat → Int32} {x : Int32}
    (G : sp_ok w s) (J : sp_J aj w) (S : sp_A sx s) (N : sp_Nb nr w) (T : sp_A sy s) (A : sp_A gr g) (hg : ∀ i, i < 4 → g i < sp_d w s i) (K : kn = 0 ∨ (kn = 1 ∧ sp_Fd fd (sp_rb w s))) (hx : x = nI (sp_n g)) :
    i_Rel k (x, aj, sx, ap) (kn, tp, nr, sy, gr, wk, fd) := by
  subst hx
  exact ⟨w, s, g, aj, sx, ap, kn, tp, nr, sy, gr, wk, fd, rfl, rfl, G, J, S, N, T, A, hg, K⟩
theorem ir_0 {k : Nat} {w : Nat → Nat → Bool} {s : Nat → Nat} {aj sx ap : Nat → Int32} {tp : Int32} {nr sy gr wk fd : Nat → Int32}
    (G : sp_ok w s) (J : sp_J aj w) (S : sp_A sx s) (N : sp_Nb nr w) (T : sp_A sy s) (A : sp_A gr (fun _ => 0)) : i_Rel k (0, aj, sx, ap) (0, tp, nr, sy, gr, wk, fd) :=
  ir_mk (g := fun _ => 0) G J S N T A (fun i hi => (sp_d1 G hi).1) (Or.inl rfl) rfl
theorem i_vc0 : wpX_init (fun u => wpY_init (fun v => i_Rel 0 u v)) := by
  refine loop_0 (σ := Nat → Int32) (fun n i a => wX_init_28 (fun u => wpY_init (fun v => i_Rel 0 u v)) 0 n (nI i) (fun _ => 0) a (fun _ => 0)) (fun i a => sp_B a (fun _ => 0) (fun _ => 1) i) 4 _ (sp_B0 _ _) ?_ ?_
  · intro n a hI
    refine br_t hx_e4 ?_
    refine loop_0 (σ := Nat → Int32) (fun n i b => wY_init_48 (fun v => i_Rel 0 (0, fun _ => 0, a, fun _ => 0) v) 0 0 n (nI i) (fun _ => 0) b (fun _ => 0) (fun _ => 0) (fun _ => 0)) (fun i b => sp_B b (fun _ => 0) (fun _ => 1) i) 4 _ (sp_B0 _ _) ?_ ?_
    · intro n b hJ
      refine br_t hx_e4 (ir_0 (w := fun _ _ => false) (s := fun _ => 1) ?_ ?_ (sp_B4 hI) ?_ (sp_B4 hJ) ?_)
      · exact ⟨fun _ _ _ _ => rfl, fun _ _ => rfl, fun _ _ => ⟨Nat.le_refl 1, Nat.le_succ 1⟩⟩
      · exact fun _ _ _ _ => rfl
      · exact fun _ _ => rfl
      · exact fun _ _ => rfl
    · intro n i b hi hJ hk
      exact br_f (hx_c4 hi) ⟨hx_in hi, nm_r (e' := upd b i (nI 1)) (by rw [hx_cl hi]; rfl) (nm_r (nI_1 i) (hk _ (sp_B1 hJ)))⟩
  · intro n i a hi hI hk
    exact br_f (hx_c4 hi) ⟨hx_in hi, nm_r (e' := upd a i (nI 1)) (by rw [hx_cl hi]; rfl) (nm_r (nI_1 i) (hk _ (sp_B1 hI)))⟩
theorem i_vc_edge {k : Nat} {u : SX} {v : SY} (I : i_Rel k u v) (hk : k + 4 ≤ 2048) (v1 : Int32) (v2 : Int32) (v3 : Int32) : wpX_edge (fun r u' => wpY_edge (fun r' v' => r' = r ∧ i_Rel (k + 4) u' v') v v1 v2 (lw_bz v3)) u v1 v2 (lw_bz v3) := by
  have I0 := I
  obtain ⟨w, s, g, aj, sx, ap, kn, tp, nr, sy, gr, wk, fd, rfl, rfl, G, J, S, N, T, A, hg, K⟩ := I
  unfold wpX_edge wpY_edge
  dsimp only
  by_cases ha : ∃ n, n < 4 ∧ v1 = nI n
  · by_cases hb : ∃ n, n < 4 ∧ v2 = nI n
    · obtain ⟨a, ha, rfl⟩ := ha
      obtain ⟨b, hb, rfl⟩ := hb
      refine xw_pl1 ha (br_f hx_01 (xw_pl1 hb (br_f hx_01 ?_)))
      by_cases e : a = b
      · subst e
        exact br_t rfl (yw_pl1 ha (br_f hx_01 (yw_pl1 ha (br_f hx_01 (br_t rfl ⟨rfl, I0⟩)))))
      · have hne : ¬ nI a = nI b := fun z => e ((nI_eq (by omega) (by omega)).mp z)
        obtain ⟨t, ht⟩ := sp_bz v3
        rw [ht]
        refine br_f hne ⟨hx_ii ha hb, nm_r (e' := upd aj (a * 4 + b) (nI (sp_b t))) (by rw [hx_ic ha hb, sp_nb]) ⟨hx_ii hb ha, nm_r (e' := upd (upd aj (a * 4 + b) (nI (sp_b t))) (b * 4 + a) (nI (sp_b t))) (by rw [hx_ic hb ha, sp_nb]) ?_⟩⟩
        refine yw_pl1 ha (br_f hx_01 (yw_pl1 hb (br_f hx_01 (br_f hne ?_))))
        have hba : ¬ b = a := fun z => e z.symm
        have H : ∀ q : Nat → Int32, q = upd (upd nr a (nI (sp_m1 w a b t))) b (nI (sp_m1 w b a t)) → ∀ gr', sp_A gr' (fun _ => 0) →
            i_Rel (k + 4) (0, upd (upd aj (a * 4 + b) (nI (sp_b t))) (b * 4 + a) (nI (sp_b t)), sx, ap) (0, tp, q, sy, gr', wk, fd) := by
          intro q eq gr' A'
          subst eq
          exact ir_0 (sp_wok G t e) (sp_wJ J t ha hb) S (sp_wN N t e) T A'
        cases t with
        | false =>
          refine br_t rfl ⟨hx_in ha, And.intro (hx_in ha) (nm_r (e' := upd nr a (nI (sp_m1 w a b false))) (by rw [hx_cl ha, N a ha, sp_an1 w a hb]) (br_t rfl ⟨hx_in hb, And.intro (hx_in hb) (nm_r rfl (yw_van fun gr' A' => ⟨rfl, H _ ?_ gr' A'⟩))⟩))⟩
          rw [hx_cl hb, pk_un hba, N b hb, sp_an1 w b ha]
        | true =>
          refine br_f hx_01 ⟨hx_in ha, And.intro (hx_in ha) (nm_r (e' := upd nr a (nI (sp_m1 w a b true))) (by rw [hx_cl ha, N a ha, sp_or1 w a hb]) (br_f hx_01 ⟨hx_in hb, And.intro (hx_in hb) (nm_r rfl (yw_van fun gr' A' => ⟨rfl, H _ ?_ gr' A'⟩))⟩))⟩
          rw [hx_cl hb, pk_un hba, N b hb, sp_or1 w b ha]
    · obtain ⟨a, ha, rfl⟩ := ha
      exact xw_pl1 ha (br_f hx_01 (xw_pl0 hb (br_t rfl (yw_pl1 ha (br_f hx_01 (yw_pl0 hb (br_t rfl ⟨rfl, I0⟩)))))))
  · exact xw_pl0 ha (br_t rfl (yw_pl0 ha (br_t rfl ⟨rfl, I0⟩)))
theorem i_vc_sink {k : Nat} {u : SX} {v : SY} (I : i_Rel k u v) (hk : k + 4 ≤ 2048) (v1 : Int32) (v2 : Int32) : wpX_sink (fun r u' => wpY_sink (fun r' v' => r' = r ∧ i_Rel (k + 4) u' v') v v1 v2) u v1 v2 := by
  have I0 := I
  obtain ⟨w, s, g, aj, sx, ap, kn, tp, nr, sy, gr, wk, fd, rfl, rfl, G, J, S, N, T, A, hg, K⟩ := I
  unfold wpX_sink wpY_sink
  dsimp only
  by_cases ha : ∃ n, n < 4 ∧ v1 = nI n
  · obtain ⟨a, ha, rfl⟩ := ha
    refine xw_pl1 ha (br_f hx_01 ?_)
    by_cases h1 : v2 < 1
    · exact br_t h1 (yw_pl1 ha (br_f hx_01 (br_t h1 ⟨rfl, I0⟩)))
    · by_cases h2 : v2 ≤ 2
      · have h0 : ¬ v2 < 0 := fun z => h1 (Int32.lt_trans z (by decide))
        obtain ⟨m, hm, rfl⟩ := nI_of2 (n := 2) (by decide) h0 h2
        have hm1 : 1 ≤ m := by
          apply Classical.byContradiction
          intro z
          exact h1 (nI_lt (b := 1) (by omega) (by decide))
        refine br_f h1 (br_t h2 ⟨hx_in ha, nm_r (e' := upd sx a (nI m)) (by rw [hx_cl ha]) ?_⟩)
        refine yw_pl1 ha (br_f hx_01 (br_f h1 (br_t h2 ⟨hx_in ha, nm_r (e' := upd sy a (nI m)) (by rw [hx_cl ha]) (yw_van fun gr' A' => ⟨rfl, ?_⟩)⟩)))
        exact ir_0 (sp_sok G hm1 hm) J (sp_sA S a m) N (sp_sA T a m) A'
      · exact br_f h1 (br_f h2 (yw_pl1 ha (br_f hx_01 (br_f h1 (br_f h2 ⟨rfl, I0⟩)))))
  · exact xw_pl0 ha (br_t rfl (yw_pl0 ha (br_t rfl ⟨rfl, I0⟩)))
theorem i_vc_drop {k : Nat} {u : SX} {v : SY} (I : i_Rel k u v) (hk : k + 4 ≤ 2048) (v1 : Int32) (v2 : Int32) : wpX_drop (fun r u' => wpY_drop (fun r' v' => r' = r ∧ i_Rel (k + 4) u' v') v v1 v2) u v1 v2 := by
  have I0 := I
  obtain ⟨w, s, g, aj, sx, ap, kn, tp, nr, sy, gr, wk, fd, rfl, rfl, G, J, S, N, T, A, hg, K⟩ := I
  unfold wpX_drop wpY_drop
  dsimp only
  have g5 : ∀ i, i < 4 → g i ≤ 4 := fun i hi => by
    have h1 := hg i hi
    have h2 := (sp_d1 G hi).2
    omega
  have g8 : ∀ i, i < 4 → g i < 8 := fun i hi => by
    have h1 := g5 i hi
    omega
  by_cases ha : ∃ n, n < 4 ∧ v1 = nI n
  · obtain ⟨a, ha, rfl⟩ := ha
    refine xw_pl1 ha (br_f hx_01 ?_)
    by_cases h1 : v2 < 0
    · exact br_t h1 (yw_pl1 ha (br_f hx_01 (br_t h1 ⟨rfl, I0⟩)))
    · by_cases h2 : v2 ≤ 1000
      · obtain ⟨m, hm, rfl⟩ := nI_of2 (n := 1000) (by decide) h1 h2
        have hb : sp_t (fun i => if i = a then g i + m else g i) ≤ 1050 := by
          have a0 := g5 0 (by decide)
          have a1 := g5 1 (by decide)
          have a2 := g5 2 (by decide)
          have a3 := g5 3 (by decide)
          unfold sp_t
          rcases sp_4 ha with rfl | rfl | rfl | rfl <;> simp <;> omega
        refine br_f h1 (br_t h2 (xw_clear fun a1 A1 => xw_addp A1 (sp_nl g8) fun a2 A2 => And.intro (hx_in ha) (And.intro (hx_in ha) (nm_r (e' := upd a2 a (nI (g a + m))) ?_ (xw_settle G J S (p0 := fun i => if i = a then g i + m else g i) ?_ hb fun a3 A3 => xw_num A3 (sp_y8 G _) ?_)))))
        · dsimp only
          rw [hx_cl ha, A2 a ha]
          show upd a2 a (nI (0 + sp_g (sp_n g) a) + nI m) = _
          rw [sp_gn g8 a ha, nI_add, Nat.zero_add]
        · refine sp_Au A2 fun i hi => ?_
          by_cases e : i = a
          · rw [if_pos e, if_pos e, e]
          · rw [if_neg e, if_neg e, sp_gn g8 i hi, Nat.zero_add]
        refine yw_pl1 ha (br_f hx_01 (br_f h1 (br_t h2 ?_)))
        refine loop_0 (σ := Nat → Int32) (fun n i b => wY_drop_23 _ (nI a) (nI m) kn tp n (nI i) nr sy gr b fd) (fun i b => sp_B b wk g i) 4 _ (sp_B0 _ _) ?_ ?_
        · intro n b hI
          have hB := sp_B4 hI
          refine br_t hx_e4 ⟨hx_in ha, hx_in ha, nm_r (e' := upd b a (nI (g a + m))) (by rw [hx_cl ha, hB a ha, nI_add]) (yw_settle G N T (p0 := fun i => if i = a then g i + m else g i) ?_ hb fun b2 B2 => ?_)⟩
          · refine sp_Au hB fun i hi => ?_
            by_cases e : i = a
            · rw [if_pos e, if_pos e, e]
            · rw [if_neg e, if_neg e]
          refine loop_0 (σ := Nat → Int32) (fun n i d => wY_drop_62 _ kn _ n (nI i) nr sy d b2 fd) (fun i d => sp_B d gr (sp_y w s (fun i => if i = a then g i + m else g i)) i) 4 _ (sp_B0 _ _) ?_ ?_
          · intro n d hI
            refine br_t hx_e4 ⟨rfl, ir_mk G J S N T (sp_B4 hI) (fun i hi => ((sp_yu G _).1 i hi).2) K rfl⟩
          · intro n i d hi hI hn
            exact br_f (hx_c4 hi) ⟨hx_in hi, hx_in hi, nm_r (e' := upd d i (nI (sp_y w s (fun i => if i = a then g i + m else g i) i))) (by rw [hx_cl hi, B2 i hi]) (nm_r (nI_1 i) (hn _ (sp_B1 hI)))⟩
        · intro n i b hi hI hn
          exact br_f (hx_c4 hi) ⟨hx_in hi, hx_in hi, nm_r (e' := upd b i (nI (g i))) (by rw [hx_cl hi, A i hi]) (nm_r (nI_1 i) (hn _ (sp_B1 hI)))⟩
      · exact br_f h1 (br_f h2 (yw_pl1 ha (br_f hx_01 (br_f h1 (br_f h2 ⟨rfl, I0⟩)))))
  · exact xw_pl0 ha (br_t rfl (yw_pl0 ha (br_t rfl ⟨rfl, I0⟩)))
theorem i_vc_state {k : Nat} {u : SX} {v : SY} (I : i_Rel k u v) (hk : k + 4 ≤ 2048) : wpX_state (fun r => wpY_state (fun r' => r' = r ∧ i_Rel (k + 4) u v) v) u := by
  have I0 := I
  obtain ⟨w, s, g, aj, sx, ap, kn, tp, nr, sy, gr, wk, fd, rfl, rfl, G, J, S, N, T, A, hg, K⟩ := I
  exact And.intro (hx_wr A) I0
theorem i_vc_set {k : Nat} {u : SX} {v : SY} (I : i_Rel k u v) (hk : k + 4 ≤ 2048) (v1 : Int32) : wpX_set (fun r u' => wpY_set (fun r' v' => r' = r ∧ i_Rel (k + 4) u' v') v v1) u v1 := by
  have I0 := I
  obtain ⟨w, s, g, aj, sx, ap, kn, tp, nr, sy, gr, wk, fd, rfl, rfl, G, J, S, N, T, A, hg, K⟩ := I
  unfold wpX_set wpY_set
  dsimp only
  by_cases h : ∃ n, v1 = nI n ∧ sp_k w s n
  · obtain ⟨n, rfl, hn⟩ := h
    refine xw_stab G J S (fun n' e k' => br_f hx_01 (yw_stab G N T (fun n2 e2 k2 => br_f hx_01 ?_) (fun z => absurd hn (z n rfl)))) (fun z => absurd hn (z n rfl))
    refine loop_0 (σ := Nat → Int32) (fun q i d => wY_set_12 _ (nI n) kn tp q (nI i) nr sy d wk fd) (fun i d => sp_B d gr (sp_g n) i) 4 _ (sp_B0 _ _) ?_ ?_
    · intro q d hI
      exact br_t hx_e4 ⟨rfl, ir_mk G J S N T (sp_B4 hI) hn.2 K (by rw [sp_ng hn.1])⟩
    · intro q i d hi hI hq
      have hl := hn.1
      refine br_f (hx_c4 hi) (And.intro (hx_in hi) (nm_r (e' := upd d i (nI (sp_g n i))) ?_ (nm_r (nI_1 i) (hq _ (sp_B1 hI)))))
      rw [hx_cl hi, hw_shY (by omega) hi]
  · have hz : ∀ n, v1 = nI n → ¬ sp_k w s n := fun n e kk => h ⟨n, e, kk⟩
    exact xw_stab G J S (fun n e kk => absurd kk (hz n e)) (fun _ => br_t rfl (yw_stab G N T (fun n e kk => absurd kk (hz n e)) (fun _ => br_t rfl ⟨rfl, I0⟩)))
theorem i_vc_degree {k : Nat} {u : SX} {v : SY} (I : i_Rel k u v) (hk : k + 4 ≤ 2048) (v1 : Int32) : wpX_degree (fun r => wpY_degree (fun r' => r' = r ∧ i_Rel (k + 4) u v) v v1) u v1 := by
  have I0 := I
  obtain ⟨w, s, g, aj, sx, ap, kn, tp, nr, sy, gr, wk, fd, rfl, rfl, G, J, S, N, T, A, hg, K⟩ := I
  unfold wpX_degree wpY_degree
  dsimp only
  by_cases ha : ∃ n, n < 4 ∧ v1 = nI n
  · obtain ⟨a, ha, rfl⟩ := ha
    exact xw_pl1 ha (br_f hx_01 (xw_deg J S ha (yw_pl1 ha (br_f hx_01 (yw_deg N T ha ⟨rfl, I0⟩)))))
  · exact xw_pl0 ha (br_t rfl (yw_pl0 ha (br_t rfl ⟨rfl, I0⟩)))
