theorem i_vc_load {k : Nat} {u : SX} {v : SY} (I : i_Rel k u v) (hk : k + 5 ≤ 2560) (v1 : Int32) (v2 : Int32) : wpX_load (fun r u' => wpY_load (fun r' v' => r' = r ∧ i_Rel (k + 5) u' v') v v1 v2) u v1 v2 := by
  obtain ⟨c, q, R, C, op, tg, lf, rt, nm, pl, tn, rd, wr, dn, yt, yf, ys, rfl, rfl, hc, hq, hB⟩ := I
  unfold wpX_load
  dsimp only
  refine qz_xreg v1 (fun h1 => br_f (by decide) (qz_xnb v2 (fun h2 => br_f (by decide) (qz_xapp 0 v1 0 0 v2 hc (fun hf => ?_) (fun hl => ?_))) (fun h2 => br_t rfl ?_))) (fun h1 => br_t rfl ?_)
  · dsimp only
    unfold wpY_load
    dsimp only
    exact qz_yreg v1 (fun _ => br_f (by decide) (qz_ynb v2 (fun _ => br_f (by decide) (qz_yapp 0 v1 v2 0 hc (fun _ => ⟨rfl, qz_rel hc hq hB⟩) (fun z => absurd z (by omega)))) (fun z => absurd h2 z))) (fun z => absurd h1 z)
  · dsimp only
    unfold wpY_load
    dsimp only
    exact qz_yreg v1 (fun _ => br_f (by decide) (qz_ynb v2 (fun _ => br_f (by decide) (qz_yapp 0 v1 v2 0 hc (fun z => absurd z (by omega)) (fun _ => ⟨rfl, qz_rel (by omega) hq (qz_Bup hB ⟨h1, qz_rg0, qz_rg0, Or.inl ⟨rfl, rfl, rfl⟩⟩)⟩))) (fun z => absurd h2 z))) (fun z => absurd h1 z)
  · unfold wpY_load
    dsimp only
    exact qz_yreg v1 (fun _ => br_f (by decide) (qz_ynb v2 (fun z => absurd z h2) (fun _ => br_t rfl ⟨rfl, qz_rel hc hq hB⟩))) (fun z => absurd h1 z)
  · unfold wpY_load
    dsimp only
    exact qz_yreg v1 (fun z => absurd z h1) (fun _ => br_t rfl ⟨rfl, qz_rel hc hq hB⟩)
theorem i_vc_store {k : Nat} {u : SX} {v : SY} (I : i_Rel k u v) (hk : k + 5 ≤ 2560) (v1 : Int32) (v2 : Int32) : wpX_store (fun r u' => wpY_store (fun r' v' => r' = r ∧ i_Rel (k + 5) u' v') v v1 v2) u v1 v2 := by
  obtain ⟨c, q, R, C, op, tg, lf, rt, nm, pl, tn, rd, wr, dn, yt, yf, ys, rfl, rfl, hc, hq, hB⟩ := I
  unfold wpX_store
  dsimp only
  refine qz_xreg v1 (fun h1 => br_f (by decide) (qz_xnb v2 (fun h2 => br_f (by decide) (qz_xapp 1 0 v1 0 v2 hc (fun hf => ?_) (fun hl => ?_))) (fun h2 => br_t rfl ?_))) (fun h1 => br_t rfl ?_)
  · dsimp only
    unfold wpY_store
    dsimp only
    exact qz_yreg v1 (fun _ => br_f (by decide) (qz_ynb v2 (fun _ => br_f (by decide) (qz_yapp 1 v1 v2 0 hc (fun _ => ⟨rfl, qz_rel hc hq hB⟩) (fun z => absurd z (by omega)))) (fun z => absurd h2 z))) (fun z => absurd h1 z)
  · dsimp only
    unfold wpY_store
    dsimp only
    exact qz_yreg v1 (fun _ => br_f (by decide) (qz_ynb v2 (fun _ => br_f (by decide) (qz_yapp 1 v1 v2 0 hc (fun z => absurd z (by omega)) (fun _ => ⟨rfl, qz_rel (by omega) hq (qz_Bup hB ⟨qz_rg0, h1, qz_rg0, Or.inr (Or.inl ⟨rfl, rfl, rfl⟩)⟩)⟩))) (fun z => absurd h2 z))) (fun z => absurd h1 z)
  · unfold wpY_store
    dsimp only
    exact qz_yreg v1 (fun _ => br_f (by decide) (qz_ynb v2 (fun z => absurd z h2) (fun _ => br_t rfl ⟨rfl, qz_rel hc hq hB⟩))) (fun z => absurd h1 z)
  · unfold wpY_store
    dsimp only
    exact qz_yreg v1 (fun z => absurd z h1) (fun _ => br_t rfl ⟨rfl, qz_rel hc hq hB⟩)
theorem i_vc_constant {k : Nat} {u : SX} {v : SY} (I : i_Rel k u v) (hk : k + 5 ≤ 2560) (v1 : Int32) (v2 : Int32) : wpX_constant (fun r u' => wpY_constant (fun r' v' => r' = r ∧ i_Rel (k + 5) u' v') v v1 v2) u v1 v2 := by
  obtain ⟨c, q, R, C, op, tg, lf, rt, nm, pl, tn, rd, wr, dn, yt, yf, ys, rfl, rfl, hc, hq, hB⟩ := I
  unfold wpX_constant
  dsimp only
  refine qz_xreg v1 (fun h1 => br_f (by decide) (qz_xnb v2 (fun h2 => br_f (by decide) (qz_xapp 6 v1 0 0 v2 hc (fun hf => ?_) (fun hl => ?_))) (fun h2 => br_t rfl ?_))) (fun h1 => br_t rfl ?_)
  · dsimp only
    unfold wpY_constant
    dsimp only
    exact qz_yreg v1 (fun _ => br_f (by decide) (qz_ynb v2 (fun _ => br_f (by decide) (qz_yapp 6 v1 v2 0 hc (fun _ => ⟨rfl, qz_rel hc hq hB⟩) (fun z => absurd z (by omega)))) (fun z => absurd h2 z))) (fun z => absurd h1 z)
  · dsimp only
    unfold wpY_constant
    dsimp only
    exact qz_yreg v1 (fun _ => br_f (by decide) (qz_ynb v2 (fun _ => br_f (by decide) (qz_yapp 6 v1 v2 0 hc (fun z => absurd z (by omega)) (fun _ => ⟨rfl, qz_rel (by omega) hq (qz_Bup hB ⟨h1, qz_rg0, qz_rg0, Or.inr (Or.inr (Or.inl ⟨rfl, rfl, rfl⟩))⟩)⟩))) (fun z => absurd h2 z))) (fun z => absurd h1 z)
  · unfold wpY_constant
    dsimp only
    exact qz_yreg v1 (fun _ => br_f (by decide) (qz_ynb v2 (fun z => absurd z h2) (fun _ => br_t rfl ⟨rfl, qz_rel hc hq hB⟩))) (fun z => absurd h1 z)
  · unfold wpY_constant
    dsimp only
    exact qz_yreg v1 (fun z => absurd z h1) (fun _ => br_t rfl ⟨rfl, qz_rel hc hq hB⟩)
