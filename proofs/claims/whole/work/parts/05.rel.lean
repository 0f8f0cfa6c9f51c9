variable {R C op tg lf rt nm pl tn rd wr dn yt yf ys : Nat → Int32}
/-- one instruction as both hold it -/
def qz_ok (o d a b k y f s : Int32) : Prop := qz_rg d ∧ qz_rg a ∧ qz_rg b ∧ ((o = 0 ∧ y = d ∧ f = k) ∨ (o = 1 ∧ y = a ∧ f = k) ∨ (o = 6 ∧ y = d ∧ f = k) ∨ ((o = 2 ∨ o = 3 ∨ o = 4 ∨ o = 5 ∨ o = 7) ∧ y = d ∧ f = a ∧ s = b))
/-- the same registers, cells and numbers of instructions; instruction by instruction the same -/
def i_Rel (_ : Nat) (u : SX) (v : SY) : Prop := ∃ (c q : Nat) (R C op tg lf rt nm pl tn rd wr dn yt yf ys : Nat → Int32), u = (nI c, nI q, R, C, op, tg, lf, rt, nm, pl, tn, rd, wr, dn) ∧ v = (nI c, op, yt, yf, ys, R, C) ∧ c ≤ 10 ∧ q ≤ 3 ∧ ∀ p, p < c → qz_ok (op p) (tg p) (lf p) (rt p) (nm p) (yt p) (yf p) (ys p)
theorem i_up {k : Nat} {u : SX} {v : SY} (h : i_Rel k u v) : i_Rel (k + 5) u v := h
theorem qz_rel {k c q : Nat} (hc : c ≤ 10) (hq : q ≤ 3) (hB : ∀ p, p < c → qz_ok (op p) (tg p) (lf p) (rt p) (nm p) (yt p) (yf p) (ys p)) : i_Rel k (nI c, nI q, R, C, op, tg, lf, rt, nm, pl, tn, rd, wr, dn) (nI c, op, yt, yf, ys, R, C) :=
  ⟨c, q, R, C, op, tg, lf, rt, nm, pl, tn, rd, wr, dn, yt, yf, ys, rfl, rfl, hc, hq, hB⟩
theorem i_vc0 : wpX_init (fun u => wpY_init (fun v => i_Rel 0 u v)) :=
  ⟨0, 0, _, _, _, _, _, _, _, _, _, _, _, _, _, _, _, rfl, rfl, Nat.zero_le _, Nat.zero_le _, fun p hp => absurd hp (Nat.not_lt_zero p)⟩
/-! the tests of arguments -/
theorem qz_xreg {post : Int32 → Prop} (x : Int32) (t : qz_rg x → post 1) (f : ¬ qz_rg x → post 0) : wpX_isRegister post x := by
  unfold wpX_isRegister
  by_cases h0 : x < 0
  · refine br_t h0 (f ?_)
    rintro ⟨j, hj, rfl⟩
    exact nI_pos (by omega) h0
  · obtain ⟨j, hj, rfl⟩ := nI_of h0
    rcases Nat.lt_or_ge j 6 with h | h
    · exact br_f h0 (br_f (nI_ge (b := 6) h (by decide)) (t ⟨j, h, rfl⟩))
    · refine br_f h0 (br_t (nI_le (a := 6) h hj) (f ?_))
      rintro ⟨i, hi, e⟩
      rw [nI_eq hj (by omega)] at e
      omega
theorem qz_yreg {post : Int32 → Prop} {v : SY} (x : Int32) (t : qz_rg x → post 1) (f : ¬ qz_rg x → post 0) : wpY_isRegister post v x := by
  obtain ⟨a0, a1, a2, a3, a4, a5, a6⟩ := v
  unfold wpY_isRegister
  dsimp only
  by_cases h0 : x < 0
  · refine br_t h0 (f ?_)
    rintro ⟨j, hj, rfl⟩
    exact nI_pos (by omega) h0
  · obtain ⟨j, hj, rfl⟩ := nI_of h0
    rcases Nat.lt_or_ge j 6 with h | h
    · exact br_f h0 (br_f (nI_nlt (a := 5) (b := j) (by omega) (by decide)) (t ⟨j, h, rfl⟩))
    · refine br_f h0 (br_t (nI_lt (a := 5) (b := j) (by omega) hj) (f ?_))
      rintro ⟨i, hi, e⟩
      rw [nI_eq hj (by omega)] at e
      omega
theorem qz_xcel {post : Int32 → Prop} (x : Int32) (t : ∀ j, j < 16 → x = nI j → post 1) (f : x < 0 ∨ ¬ x ≤ 15 → post 0) : wpX_isCell post x := by
  unfold wpX_isCell
  by_cases h0 : x < 0
  · exact br_t h0 (f (Or.inl h0))
  · obtain ⟨j, hj, rfl⟩ := nI_of h0
    rcases Nat.lt_or_ge j 16 with h | h
    · exact br_f h0 (br_f (nI_ge (b := 16) h (by decide)) (t j h rfl))
    · exact br_f h0 (br_t (nI_le (a := 16) h hj) (f (Or.inr (nI_ge (a := 15) (b := j) (by omega) hj))))
def qz_nb (x : Int32) : Prop := ¬ x < (-8) ∧ ¬ 8 < x
theorem qz_xnb {post : Int32 → Prop} (x : Int32) (t : qz_nb x → post 1) (f : ¬ qz_nb x → post 0) : wpX_isInReach post x :=
  br_c (fun h => f (fun z => z.1 h)) (fun h => br_c (fun h2 => f (fun z => z.2 h2)) (fun h2 => t ⟨h, h2⟩))
theorem qz_ynb {post : Int32 → Prop} {v : SY} (x : Int32) (t : qz_nb x → post 1) (f : ¬ qz_nb x → post 0) : wpY_isNumber post v x := by
  obtain ⟨a0, a1, a2, a3, a4, a5, a6⟩ := v
  unfold wpY_isNumber
  dsimp only
  exact br_c (fun h => f (fun z => z.1 h)) (fun h => br_c (fun h2 => f (fun z => z.2 h2)) (fun h2 => t ⟨h, h2⟩))
/-! append -/
theorem qz_c10 {c : Nat} (h : c < 10) : ¬ nI c = 10 := fun z => by
  have := (nI_eq (a := c) (b := 10) (by omega) (by omega)).mp z
  omega
theorem qz_xapp {post : Int32 → SX → Prop} {c : Nat} {q : Int32} (o d a b n : Int32) (hc : c ≤ 10)
    (full : c = 10 → post (-2) (nI c, q, R, C, op, tg, lf, rt, nm, pl, tn, rd, wr, dn))
    (room : c < 10 → post (nI c) (nI (c + 1), q, R, C, upd op c o, upd tg c d, upd lf c a, upd rt c b, upd nm c n, pl, tn, rd, wr, dn)) :
    wpX_append post (nI c, q, R, C, op, tg, lf, rt, nm, pl, tn, rd, wr, dn) o d a b n := by
  unfold wpX_append
  dsimp only
  have hcl : (nI c).toNatClampNeg = c := nI_clamp (by omega)
  rcases Nat.lt_or_ge c 10 with h | h
  · have hin : vp_in (nI c) 10 := vp_in_nI h (by omega)
    refine br_f (qz_c10 h) ⟨hin, nm_r (e' := upd op c o) (by rw [hcl]) ⟨hin, nm_r (e' := upd tg c d) (by rw [hcl]) ⟨hin, nm_r (e' := upd lf c a) (by rw [hcl]) ⟨hin, nm_r (e' := upd rt c b) (by rw [hcl]) ⟨hin, nm_r (e' := upd nm c n) (by rw [hcl]) (nm_r (nI_1 c) ?_)⟩⟩⟩⟩⟩
    rw [nI_pred]
    exact room h
  · have e : c = 10 := by omega
    subst e
    exact br_t rfl (full rfl)
theorem qz_yapp {post : Int32 → SY → Prop} {c : Nat} (o d a b : Int32) (hc : c ≤ 10)
    (full : c = 10 → post (-2) (nI c, op, yt, yf, ys, R, C))
    (room : c < 10 → post (nI c) (nI (c + 1), upd op c o, upd yt c d, upd yf c a, upd ys c b, R, C)) :
    wpY_append post (nI c, op, yt, yf, ys, R, C) o d a b := by
  unfold wpY_append
  dsimp only
  have hcl : (nI c).toNatClampNeg = c := nI_clamp (by omega)
  rcases Nat.lt_or_ge c 10 with h | h
  · have hin : vp_in (nI c) 10 := vp_in_nI h (by omega)
    refine br_f (qz_c10 h) ⟨hin, nm_r (e' := upd op c o) (by rw [hcl]) ⟨hin, nm_r (e' := upd yt c d) (by rw [hcl]) ⟨hin, nm_r (e' := upd yf c a) (by rw [hcl]) ⟨hin, nm_r (e' := upd ys c b) (by rw [hcl]) (nm_r (nI_1 c) ?_)⟩⟩⟩⟩
    rw [nI_pred]
    exact room h
  · have e : c = 10 := by omega
    subst e
    exact br_t rfl (full rfl)
theorem qz_Bup {c : Nat} {o d a b n y f s : Int32} (hB : ∀ p, p < c → qz_ok (op p) (tg p) (lf p) (rt p) (nm p) (yt p) (yf p) (ys p)) (h : qz_ok o d a b n y f s) :
    ∀ p, p < c + 1 → qz_ok (upd op c o p) (upd tg c d p) (upd lf c a p) (upd rt c b p) (upd nm c n p) (upd yt c y p) (upd yf c f p) (upd ys c s p) := by
  intro p hp
  by_cases e : p = c
  · subst e
    rw [pk_us, pk_us, pk_us, pk_us, pk_us, pk_us, pk_us, pk_us]; exact h
  · rw [pk_un e, pk_un e, pk_un e, pk_un e, pk_un e, pk_un e, pk_un e, pk_un e]; exact hB p (by omega)
theorem qz_rg0 : qz_rg 0 := ⟨0, by omega, rfl⟩
