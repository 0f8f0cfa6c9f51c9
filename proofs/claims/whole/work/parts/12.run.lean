theorem i_vc_run {k : Nat} {u : SX} {v : SY} (I : i_Rel k u v) (hk : k + 5 ≤ 2560) (v1 : Int32) : wpX_run (fun r u' => wpY_run (fun r' v' => r' = r ∧ i_Rel (k + 5) u' v') v v1) u v1 := by
  obtain ⟨c, q, R, C, op, tg, lf, rt, nm, pl, tn, rd, wr, dn, yt, yf, ys, rfl, rfl, hc, hq, hB⟩ := I
  unfold wpX_run wpY_run
  dsimp only
  by_cases h0 : v1 < 0
  · exact br_t h0 (br_t h0 ⟨rfl, qz_rel hc hq hB⟩)
  by_cases h12 : v1 ≤ 12
  · obtain ⟨n, hn, rfl⟩ := nI_of2 (M := 12) (n := 12) (by decide) h0 h12
    have hb : qz_body op tg lf rt c := fun p hp => ⟨qz_ok_op (hB p hp), (hB p hp).1, (hB p hp).2.1, (hB p hp).2.2.1⟩
    have hT : n * c ≤ 120 := Nat.le_trans (Nat.mul_le_mul hn hc) (by decide)
    refine br_f h0 (br_t h12 (nm_e ?_))
    unfold wpX_laySteps
    dsimp only
    have e0 : nI (0 * c) = 0 := by rw [Nat.zero_mul]; rfl
    refine ⟨n + 1, ?_⟩
    have L := qz_xlay2 (R := R) (C := C) (q := nI q) (post := fun u => match u with | (f_count, f_order, a_registers, a_cells, a_ops, a_targets, a_lefts, a_rights, a_numbers, a_stepPlace, a_stepTurn, a_stepReads, a_stepWrites, a_stepDone) => (wpX_performSteps (fun u => match u with | (f_count, f_order, a_registers, a_cells, a_ops, a_targets, a_lefts, a_rights, a_numbers, a_stepPlace, a_stepTurn, a_stepReads, a_stepWrites, a_stepDone) => (wpY_run (fun r' v' => r' = nI n * nI c ∧ i_Rel (k + 5) (f_count, f_order, a_registers, a_cells, a_ops, a_targets, a_lefts, a_rights, a_numbers, a_stepPlace, a_stepTurn, a_stepReads, a_stepWrites, a_stepDone) v') (nI c, op, yt, yf, ys, R, C) (nI n))) (f_count, f_order, a_registers, a_cells, a_ops, a_targets, a_lefts, a_rights, a_numbers, a_stepPlace, a_stepTurn, a_stepReads, a_stepWrites, a_stepDone) (nI n * nI c))) (nm := nm) hc hn hb ?_ n 0 (by omega) pl tn rd wr dn (fun j hj => absurd hj (by rw [Nat.zero_mul]; exact Nat.not_lt_zero j))
    · rw [e0] at L
      exact L
    · intro pl tn rd wr dn hL
      dsimp only
      unfold wpX_performSteps
      dsimp only
      refine nm_r (pk_mul q c) ?_
      rw [pk_mul n c]
      have hA : q * c ≤ 30 := Nat.le_trans (Nat.mul_le_mul hq hc) (by decide)
      have hcn : qz_cn dn (n * c) = n * c := qz_cn_full _ (fun i hi => (hL i hi).2)
      have hex : qz_ex (qz_stp op tg lf rt nm c) dn (n * c) (R, C) = qz_sq op tg lf rt nm c (R, C) (n * c) := qz_ex_congr _ (fun i hi => (hL i hi).2)
      refine ⟨n * c + 1, qz_x15 hc (fun z => Nat.pos_of_mul_pos_left z) hT hA hb (fun j hj => (hL j hj).1) (fun dn' => ?_) (n * c) 0 0 R C dn (by omega) (fun z => z) (fun i hi => absurd hi (Nat.not_lt_zero i)) hcn hex⟩
      dsimp only
      unfold wpY_run
      dsimp only
      refine br_f h0 (br_t h12 ⟨n + 1, ?_⟩)
      have Y := qz_y14 (m := (R, C)) (post := fun r' v' => r' = nI (n * c) ∧ i_Rel (k + 5) (nI c, nI q, (qz_sq op tg lf rt nm c (R, C) (n * c)).1, (qz_sq op tg lf rt nm c (R, C) (n * c)).2, op, tg, lf, rt, nm, pl, tn, rd, wr, dn') v') hc hn hB ⟨pk_mul n c, qz_rel hc hq hB⟩ n 0 (by omega)
      rw [Nat.zero_mul] at Y
      exact Y
  · exact br_f h0 (br_f h12 (br_f h0 (br_f h12 ⟨rfl, qz_rel hc hq hB⟩)))
