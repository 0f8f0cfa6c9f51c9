variable {R C op tg lf rt nm pl tn rd wr dn yt yf ys : Nat → Int32}
/-- the cells after j writes of ramp -/
def qz_rp (a b : Int32) (C : Nat → Int32) : Nat → Nat → Int32
  | 0 => C
  | j + 1 => upd (qz_rp a b C j) j (a + b * nI j)
theorem qz_xramp {post : Int32 → SX → Prop} {c q a b : Int32} (hp : post 0 (c, q, R, qz_rp a b C 16, op, tg, lf, rt, nm, pl, tn, rd, wr, dn)) : ∀ d j : Nat, j + d = 16 → wX_ramp_2 post a b c q (d + 1) (nI j) R (qz_rp a b C j) op tg lf rt nm pl tn rd wr dn := by
  intro d
  induction d with
  | zero =>
    intro j hj
    have e : j = 16 := by omega
    subst e
    exact br_t (nI_le (a := 16) (b := 16) (by omega) (by decide)) hp
  | succ d ih =>
    intro j hj
    have hcl : (nI j).toNatClampNeg = j := nI_clamp (by omega)
    exact br_f (nI_ge (b := 16) (by omega) (by decide)) ⟨vp_in_nI (by omega) (by omega), nm_r (e' := qz_rp a b C (j + 1)) (by rw [hcl]; rfl) (nm_r (nI_1 j) (ih (j + 1) (by omega)))⟩
theorem qz_yramp {post : Int32 → SY → Prop} {c a b : Int32} (hp : post 0 (c, op, yt, yf, ys, R, qz_rp a b C 16)) : ∀ d j : Nat, j + d = 16 → wY_ramp_2 post a b c (d + 1) (nI j) op yt yf ys R (qz_rp a b C j) := by
  intro d
  induction d with
  | zero =>
    intro j hj
    have e : j = 16 := by omega
    subst e
    exact br_t (nI_le (a := 16) (b := 16) (by omega) (by decide)) hp
  | succ d ih =>
    intro j hj
    have hcl : (nI j).toNatClampNeg = j := nI_clamp (by omega)
    exact br_f (nI_ge (b := 16) (by omega) (by decide)) ⟨vp_in_nI (by omega) (by omega), nm_r (e' := qz_rp a b C (j + 1)) (by rw [hcl]; rfl) (nm_r (nI_1 j) (ih (j + 1) (by omega)))⟩
theorem i_vc_ramp {k : Nat} {u : SX} {v : SY} (I : i_Rel k u v) (hk : k + 5 ≤ 2560) (v1 : Int32) (v2 : Int32) : wpX_ramp (fun r u' => wpY_ramp (fun r' v' => r' = r ∧ i_Rel (k + 5) u' v') v v1 v2) u v1 v2 := by
  obtain ⟨c, q, R, C, op, tg, lf, rt, nm, pl, tn, rd, wr, dn, yt, yf, ys, rfl, rfl, hc, hq, hB⟩ := I
  unfold wpX_ramp wpY_ramp
  dsimp only
  refine ⟨17, qz_xramp (C := C) ?_ 16 0 rfl⟩
  exact ⟨17, qz_yramp (C := C) ⟨rfl, qz_rel hc hq hB⟩ 16 0 rfl⟩
theorem qz_dgc {c q c' : Int32} : ∀ d j : Nat, ∀ s : Int32, j + d = 16 → ∃ r : Int32, (∀ post : Int32 → Prop, post r → wX_digest_31 post c q R C op tg lf rt nm pl tn rd wr dn (d + 1) s (nI j)) ∧ (∀ post : Int32 → Prop, post r → wY_digest_31 post c' op yt yf ys R C (d + 1) s (nI j)) := by
  intro d
  induction d with
  | zero =>
    intro j s hj
    have e : j = 16 := by omega
    subst e
    have h := nI_le (a := 16) (b := 16) (by omega) (by decide)
    exact ⟨s, fun _ hp => br_t h hp, fun _ hp => br_t h hp⟩
  | succ d ih =>
    intro j s hj
    have h := nI_ge (a := j) (b := 16) (by omega) (by decide)
    have hi : vp_in (nI j) 16 := vp_in_nI (by omega) (by omega)
    obtain ⟨r, hX, hY⟩ := ih (j + 1) (s + (nI j + 7) * C (nI j).toNatClampNeg) (by omega)
    exact ⟨r, fun post hp => br_f h ⟨hi, nm_e (nm_r (nI_1 j) (hX post hp))⟩, fun post hp => br_f h ⟨hi, nm_e (nm_r (nI_1 j) (hY post hp))⟩⟩
theorem qz_dgr {c q c' : Int32} : ∀ d j : Nat, ∀ s : Int32, j + d = 6 → ∃ r : Int32, (∀ post : Int32 → Prop, post r → wX_digest_4 post c q R C op tg lf rt nm pl tn rd wr dn (d + 1) s (nI j)) ∧ (∀ post : Int32 → Prop, post r → wY_digest_4 post c' op yt yf ys R C (d + 1) s (nI j)) := by
  intro d
  induction d with
  | zero =>
    intro j s hj
    have e : j = 6 := by omega
    subst e
    have h := nI_le (a := 6) (b := 6) (by omega) (by decide)
    obtain ⟨r, hX, hY⟩ := qz_dgc (R := R) (C := C) (op := op) (tg := tg) (lf := lf) (rt := rt) (nm := nm) (pl := pl) (tn := tn) (rd := rd) (wr := wr) (dn := dn) (yt := yt) (yf := yf) (ys := ys) (c := c) (q := q) (c' := c') 16 0 s rfl
    exact ⟨r, fun post hp => br_t h ⟨17, hX post hp⟩, fun post hp => br_t h ⟨17, hY post hp⟩⟩
  | succ d ih =>
    intro j s hj
    have h := nI_ge (a := j) (b := 6) (by omega) (by decide)
    have hi : vp_in (nI j) 6 := vp_in_nI (by omega) (by omega)
    obtain ⟨r, hX, hY⟩ := ih (j + 1) (s + (nI j + 1) * R (nI j).toNatClampNeg) (by omega)
    exact ⟨r, fun post hp => br_f h ⟨hi, nm_e (nm_r (nI_1 j) (hX post hp))⟩, fun post hp => br_f h ⟨hi, nm_e (nm_r (nI_1 j) (hY post hp))⟩⟩
theorem i_vc_digest {k : Nat} {u : SX} {v : SY} (I : i_Rel k u v) (hk : k + 5 ≤ 2560) : wpX_digest (fun r => wpY_digest (fun r' => r' = r ∧ i_Rel (k + 5) u v) v) u := by
  obtain ⟨c, q, R, C, op, tg, lf, rt, nm, pl, tn, rd, wr, dn, yt, yf, ys, rfl, rfl, hc, hq, hB⟩ := I
  unfold wpX_digest wpY_digest
  dsimp only
  obtain ⟨r, hX, hY⟩ := qz_dgr (R := R) (C := C) (op := op) (tg := tg) (lf := lf) (rt := rt) (nm := nm) (pl := pl) (tn := tn) (rd := rd) (wr := wr) (dn := dn) (yt := yt) (yf := yf) (ys := ys) (c := nI c) (q := nI q) (c' := nI c) 6 0 0 rfl
  exact ⟨7, hX _ ⟨7, hY _ ⟨rfl, qz_rel hc hq hB⟩⟩⟩
