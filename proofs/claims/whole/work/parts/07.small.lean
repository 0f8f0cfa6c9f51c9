variable {R C op tg lf rt nm pl tn rd wr dn yt yf ys : Nat → Int32}
def qz_ap (x : Int32) : Prop := x = 2 ∨ x = 3 ∨ x = 4 ∨ x = 5 ∨ x = 7
theorem qz_xapl {post : Int32 → Prop} (x : Int32) (t : qz_ap x → post 1) (f : ¬ qz_ap x → post 0) : wpX_isApplied post x := by
  unfold wpX_isApplied
  refine br_c (fun h => t (Or.inl h)) (fun h2 => br_c (fun h => t (Or.inr (Or.inl h))) (fun h3 => br_c (fun h => t (Or.inr (Or.inr (Or.inl h)))) (fun h4 => br_c (fun h => t (Or.inr (Or.inr (Or.inr (Or.inl h))))) (fun h5 => br_c (fun h => t (Or.inr (Or.inr (Or.inr (Or.inr h))))) (fun h7 => f ?_)))))
  rintro (h | h | h | h | h)
  · exact h2 h
  · exact h3 h
  · exact h4 h
  · exact h5 h
  · exact h7 h
theorem qz_2to5 {x : Int32} (h2 : ¬ x < 2) (h5 : x ≤ 5) : qz_ap x := by
  have h0 : ¬ x < 0 := fun z => h2 (Int32.lt_trans z (by decide))
  obtain ⟨j, hj, rfl⟩ := nI_of2 (M := 5) (n := 5) (by decide) h0 h5
  have g : ¬ j < 2 := fun z => h2 (nI_lt (b := 2) z (by decide))
  have e : j = 2 ∨ j = 3 ∨ j = 4 ∨ j = 5 := by omega
  rcases e with e | e | e | e <;> subst e
  · exact Or.inl rfl
  · exact Or.inr (Or.inl rfl)
  · exact Or.inr (Or.inr (Or.inl rfl))
  · exact Or.inr (Or.inr (Or.inr (Or.inl rfl)))
theorem qz_yapl {post : Int32 → SY → Prop} {c : Int32} (x a b d : Int32) (t : qz_ap x → wY_apply_21 post x a b d 1 c op yt yf ys R C) (f : ¬ qz_ap x → wY_apply_21 post x a b d 0 c op yt yf ys R C) : wpY_apply post (c, op, yt, yf, ys, R, C) x a b d := by
  unfold wpY_apply
  dsimp only
  by_cases h2 : x < 2
  · refine br_t h2 ?_
    unfold wY_apply_10
    have h7 : ¬ x = 7 := fun z => by rw [z] at h2; exact absurd h2 (by decide)
    refine br_f h7 (f ?_)
    rintro (h | h | h | h | h) <;> rw [h] at h2 <;> exact absurd h2 (by decide)
  · refine br_f h2 ?_
    by_cases h5 : x ≤ 5
    · exact br_t h5 (t (qz_2to5 h2 h5))
    · refine br_f h5 ?_
      unfold wY_apply_10
      by_cases h7 : x = 7
      · exact br_t h7 (t (Or.inr (Or.inr (Or.inr (Or.inr h7)))))
      · refine br_f h7 (f ?_)
        rintro (h | h | h | h | h)
        · rw [h] at h5; exact absurd (by decide) h5
        · rw [h] at h5; exact absurd (by decide) h5
        · rw [h] at h5; exact absurd (by decide) h5
        · rw [h] at h5; exact absurd (by decide) h5
        · exact h7 h
theorem qz_yapl0 {post : Int32 → SY → Prop} {c : Int32} (x a b d : Int32) (h : post (-1) (c, op, yt, yf, ys, R, C)) : wY_apply_21 post x a b d 0 c op yt yf ys R C := by
  unfold wY_apply_21
  exact br_t rfl h
theorem qz_yapl1 {post : Int32 → SY → Prop} {c : Nat} (x a b d : Int32) (hc : c ≤ 10)
    (bad : ¬ (qz_rg a ∧ qz_rg b ∧ qz_rg d) → post (-1) (nI c, op, yt, yf, ys, R, C))
    (full : qz_rg a → qz_rg b → qz_rg d → c = 10 → post (-2) (nI c, op, yt, yf, ys, R, C))
    (room : qz_rg a → qz_rg b → qz_rg d → c < 10 → post (nI c) (nI (c + 1), upd op c x, upd yt c a, upd yf c b, upd ys c d, R, C)) :
    wY_apply_21 post x a b d 1 (nI c) op yt yf ys R C := by
  unfold wY_apply_21
  refine br_f (by decide) (qz_yreg a (fun h1 => br_f (by decide) (qz_yreg b (fun h2 => br_f (by decide) (qz_yreg d (fun h3 => br_f (by decide) (qz_yapp x a b d hc (fun z => ?_) (fun z => ?_))) (fun h => br_t rfl (bad (fun z => h z.2.2))))) (fun h => br_t rfl (bad (fun z => h z.2.1))))) (fun h => br_t rfl (bad (fun z => h z.1))))
  · exact full h1 h2 h3 z
  · exact room h1 h2 h3 z
theorem i_vc_apply {k : Nat} {u : SX} {v : SY} (I : i_Rel k u v) (hk : k + 5 ≤ 2560) (v1 : Int32) (v2 : Int32) (v3 : Int32) (v4 : Int32) : wpX_apply (fun r u' => wpY_apply (fun r' v' => r' = r ∧ i_Rel (k + 5) u' v') v v1 v2 v3 v4) u v1 v2 v3 v4 := by
  obtain ⟨c, q, R, C, op, tg, lf, rt, nm, pl, tn, rd, wr, dn, yt, yf, ys, rfl, rfl, hc, hq, hB⟩ := I
  unfold wpX_apply
  dsimp only
  have bad : qz_ap v1 → ¬ (qz_rg v2 ∧ qz_rg v3 ∧ qz_rg v4) → wpY_apply (fun r' v' => r' = -1 ∧ i_Rel (k + 5) (nI c, nI q, R, C, op, tg, lf, rt, nm, pl, tn, rd, wr, dn) v') (nI c, op, yt, yf, ys, R, C) v1 v2 v3 v4 := fun h0 h =>
    qz_yapl v1 v2 v3 v4 (fun _ => qz_yapl1 v1 v2 v3 v4 hc (fun _ => ⟨rfl, qz_rel hc hq hB⟩) (fun a b d => absurd ⟨a, b, d⟩ h) (fun a b d => absurd ⟨a, b, d⟩ h)) (fun z => absurd h0 z)
  refine qz_xapl v1 (fun h0 => br_f (by decide) (qz_xreg v2 (fun h1 => br_f (by decide) (qz_xreg v3 (fun h2 => br_f (by decide) (qz_xreg v4 (fun h3 => br_f (by decide) (qz_xapp v1 v2 v3 v4 0 hc (fun hf => ?_) (fun hl => ?_))) (fun h => br_t rfl (bad h0 (fun z => h z.2.2))))) (fun h => br_t rfl (bad h0 (fun z => h z.2.1))))) (fun h => br_t rfl (bad h0 (fun z => h z.1))))) (fun h0 => br_t rfl ?_)
  · dsimp only
    exact qz_yapl v1 v2 v3 v4 (fun _ => qz_yapl1 v1 v2 v3 v4 hc (fun z => absurd ⟨h1, h2, h3⟩ z) (fun _ _ _ _ => ⟨rfl, qz_rel hc hq hB⟩) (fun _ _ _ z => absurd z (by omega))) (fun z => absurd h0 z)
  · dsimp only
    exact qz_yapl v1 v2 v3 v4 (fun _ => qz_yapl1 v1 v2 v3 v4 hc (fun z => absurd ⟨h1, h2, h3⟩ z) (fun _ _ _ z => absurd z (by omega)) (fun _ _ _ _ => ⟨rfl, qz_rel (by omega) hq (qz_Bup hB ⟨h1, h2, h3, Or.inr (Or.inr (Or.inr ⟨h0, rfl, rfl, rfl⟩))⟩)⟩)) (fun z => absurd h0 z)
  · exact qz_yapl v1 v2 v3 v4 (fun z => absurd z h0) (fun _ => qz_yapl0 v1 v2 v3 v4 ⟨rfl, qz_rel hc hq hB⟩)
theorem i_vc_unappend {k : Nat} {u : SX} {v : SY} (I : i_Rel k u v) (hk : k + 5 ≤ 2560) : wpX_unappend (fun r u' => wpY_unappend (fun r' v' => r' = r ∧ i_Rel (k + 5) u' v') v) u := by
  obtain ⟨c, q, R, C, op, tg, lf, rt, nm, pl, tn, rd, wr, dn, yt, yf, ys, rfl, rfl, hc, hq, hB⟩ := I
  unfold wpX_unappend wpY_unappend
  dsimp only
  rcases Nat.eq_zero_or_pos c with e | e
  · subst e
    exact br_t rfl (br_t rfl ⟨rfl, qz_rel hc hq hB⟩)
  · obtain ⟨d, rfl⟩ : ∃ d, c = d + 1 := ⟨c - 1, by omega⟩
    have h : ¬ nI (d + 1) = 0 := nI_ne0 (by omega) (by omega)
    exact br_f h (nm_r (nI_pred d) (br_f h (nm_r (nI_pred d) ⟨rfl, qz_rel (by omega) hq (fun p hp => hB p (by omega))⟩)))
theorem i_vc_clear {k : Nat} {u : SX} {v : SY} (I : i_Rel k u v) (hk : k + 5 ≤ 2560) : wpX_clear (fun u' => wpY_clear (fun v' => i_Rel (k + 5) u' v') v) u := by
  obtain ⟨c, q, R, C, op, tg, lf, rt, nm, pl, tn, rd, wr, dn, yt, yf, ys, rfl, rfl, hc, hq, hB⟩ := I
  unfold wpX_clear wpY_clear
  dsimp only
  exact qz_rel (c := 0) (by omega) hq (fun p hp => absurd hp (Nat.not_lt_zero p))
theorem i_vc_size {k : Nat} {u : SX} {v : SY} (I : i_Rel k u v) (hk : k + 5 ≤ 2560) : wpX_size (fun r => wpY_size (fun r' => r' = r ∧ i_Rel (k + 5) u v) v) u := by
  obtain ⟨c, q, R, C, op, tg, lf, rt, nm, pl, tn, rd, wr, dn, yt, yf, ys, rfl, rfl, hc, hq, hB⟩ := I
  unfold wpX_size wpY_size
  dsimp only
  exact ⟨rfl, qz_rel hc hq hB⟩
theorem i_vc_set {k : Nat} {u : SX} {v : SY} (I : i_Rel k u v) (hk : k + 5 ≤ 2560) (v1 : Int32) (v2 : Int32) : wpX_set (fun r u' => wpY_set (fun r' v' => r' = r ∧ i_Rel (k + 5) u' v') v v1 v2) u v1 v2 := by
  obtain ⟨c, q, R, C, op, tg, lf, rt, nm, pl, tn, rd, wr, dn, yt, yf, ys, rfl, rfl, hc, hq, hB⟩ := I
  unfold wpX_set wpY_set
  dsimp only
  refine qz_xreg v1 (fun h => br_f (by decide) ⟨qz_rg_in h, nm_e (qz_yreg v1 (fun _ => br_f (by decide) ⟨qz_rg_in h, nm_e ⟨rfl, qz_rel hc hq hB⟩⟩) (fun z => absurd h z))⟩) (fun h => br_t rfl (qz_yreg v1 (fun z => absurd z h) (fun _ => br_t rfl ⟨rfl, qz_rel hc hq hB⟩)))
theorem i_vc_get {k : Nat} {u : SX} {v : SY} (I : i_Rel k u v) (hk : k + 5 ≤ 2560) (v1 : Int32) : wpX_get (fun r => wpY_get (fun r' => r' = r ∧ i_Rel (k + 5) u v) v v1) u v1 := by
  obtain ⟨c, q, R, C, op, tg, lf, rt, nm, pl, tn, rd, wr, dn, yt, yf, ys, rfl, rfl, hc, hq, hB⟩ := I
  unfold wpX_get wpY_get
  dsimp only
  refine qz_xreg v1 (fun h => br_f (by decide) ⟨qz_rg_in h, qz_yreg v1 (fun _ => br_f (by decide) ⟨qz_rg_in h, rfl, qz_rel hc hq hB⟩) (fun z => absurd h z)⟩) (fun h => br_t rfl (qz_yreg v1 (fun z => absurd z h) (fun _ => br_t rfl ⟨rfl, qz_rel hc hq hB⟩)))
theorem i_vc_put {k : Nat} {u : SX} {v : SY} (I : i_Rel k u v) (hk : k + 5 ≤ 2560) (v1 : Int32) (v2 : Int32) : wpX_put (fun r u' => wpY_put (fun r' v' => r' = r ∧ i_Rel (k + 5) u' v') v v1 v2) u v1 v2 := by
  obtain ⟨c, q, R, C, op, tg, lf, rt, nm, pl, tn, rd, wr, dn, yt, yf, ys, rfl, rfl, hc, hq, hB⟩ := I
  unfold wpX_put wpY_put
  dsimp only
  refine qz_xcel v1 (fun j hj e => ?_) (fun h => br_t rfl ?_)
  · have h0 : ¬ v1 < 0 := by rw [e]; exact nI_pos (by omega)
    have h15 : v1 ≤ 15 := by rw [e]; exact nI_le (b := 15) (by omega) (by decide)
    have hin : vp_in v1 16 := by rw [e]; exact vp_in_nI hj (by omega)
    exact br_f (by decide) ⟨hin, nm_e (br_f h0 (br_t h15 ⟨hin, nm_e ⟨rfl, qz_rel hc hq hB⟩⟩))⟩
  · by_cases h0 : v1 < 0
    · exact br_t h0 ⟨rfl, qz_rel hc hq hB⟩
    · exact br_f h0 (br_f (h.resolve_left h0) ⟨rfl, qz_rel hc hq hB⟩)
theorem i_vc_cell {k : Nat} {u : SX} {v : SY} (I : i_Rel k u v) (hk : k + 5 ≤ 2560) (v1 : Int32) : wpX_cell (fun r => wpY_cell (fun r' => r' = r ∧ i_Rel (k + 5) u v) v v1) u v1 := by
  obtain ⟨c, q, R, C, op, tg, lf, rt, nm, pl, tn, rd, wr, dn, yt, yf, ys, rfl, rfl, hc, hq, hB⟩ := I
  unfold wpX_cell wpY_cell
  dsimp only
  refine qz_xcel v1 (fun j hj e => ?_) (fun h => br_t rfl ?_)
  · have h0 : ¬ v1 < 0 := by rw [e]; exact nI_pos (by omega)
    have h15 : v1 ≤ 15 := by rw [e]; exact nI_le (b := 15) (by omega) (by decide)
    have hin : vp_in v1 16 := by rw [e]; exact vp_in_nI hj (by omega)
    exact br_f (by decide) ⟨hin, br_f h0 (br_t h15 ⟨hin, rfl, qz_rel hc hq hB⟩)⟩
  · by_cases h0 : v1 < 0
    · exact br_t h0 ⟨rfl, qz_rel hc hq hB⟩
    · exact br_f h0 (br_f (h.resolve_left h0) ⟨rfl, qz_rel hc hq hB⟩)
theorem i_vc_mode {k : Nat} {u : SX} {v : SY} (I : i_Rel k u v) (hk : k + 5 ≤ 2560) (v1 : Int32) : wpX_mode (fun r u' => wpY_mode (fun r' => r' = r ∧ i_Rel (k + 5) u' v) v v1) u v1 := by
  obtain ⟨c, q, R, C, op, tg, lf, rt, nm, pl, tn, rd, wr, dn, yt, yf, ys, rfl, rfl, hc, hq, hB⟩ := I
  unfold wpX_mode wpY_mode
  dsimp only
  by_cases h0 : v1 < 0
  · exact br_t h0 (br_t h0 ⟨rfl, qz_rel hc hq hB⟩)
  · by_cases h3 : v1 ≤ 3
    · refine br_f h0 (br_t h3 (br_f h0 (br_t h3 ⟨rfl, ?_⟩)))
      obtain ⟨j, hj, rfl⟩ := nI_of2 (M := 3) (n := 3) (by decide) h0 h3
      exact qz_rel hc hj hB
    · exact br_f h0 (br_f h3 (br_f h0 (br_f h3 ⟨rfl, qz_rel hc hq hB⟩)))
