variable {R C op tg lf rt nm pl tn rd wr dn yt yf ys : Nat → Int32}
theorem qz_b_e {x : Int32} (h : qz_rg x) : (1 : Int32) <<< (x &&& 31) = qz_b x.toNatClampNeg := by
  unfold qz_b
  rw [← qz_rg_e h]
theorem qz_xrb {post : Int32 → Prop} {x : Int32} (h : qz_rg x) (hp : post (qz_b x.toNatClampNeg)) : wpX_registerBit post x := by
  unfold wpX_registerBit
  rw [qz_b_e h]
  exact hp
theorem qz_xca {post : Int32 → Prop} {c q : Int32} {p t : Nat} (hp : p < 10) (h : post (nI (qz_c (nm p) t))) : wpX_cellAt post (c, q, R, C, op, tg, lf, rt, nm, pl, tn, rd, wr, dn) (nI p) (nI t) := by
  unfold wpX_cellAt
  dsimp only
  refine ⟨vp_in_nI hp (by omega), ?_⟩
  rw [nI_clamp (by omega), qz_c_e]
  exact h
theorem qz_xcb {post : Int32 → Prop} {c q : Int32} {p t : Nat} (hp : p < 10) (h : post (qz_b (6 + qz_c (nm p) t))) : wpX_cellBit post (c, q, R, C, op, tg, lf, rt, nm, pl, tn, rd, wr, dn) (nI p) (nI t) := by
  unfold wpX_cellBit
  dsimp only
  refine qz_xca hp ?_
  have e : (6 : Int32) + nI (qz_c (nm p) t) = nI (6 + qz_c (nm p) t) := nI_add 6 _
  rw [e]
  exact h
theorem qz_xrd {post : Int32 → Prop} {c q : Int32} {p t : Nat} (hp : p < 10) (ho : qz_op (op p)) (hd : qz_rg (tg p)) (ha : qz_rg (lf p)) (hb : qz_rg (rt p)) (h : post (qz_rd (op p) (tg p) (lf p) (rt p) (nm p) t)) :
    wpX_readsOf post (c, q, R, C, op, tg, lf, rt, nm, pl, tn, rd, wr, dn) (nI p) (nI t) := by
  unfold wpX_readsOf
  dsimp only
  have hcl : (nI p).toNatClampNeg = p := nI_clamp (by omega)
  have hin : vp_in (nI p) 10 := vp_in_nI hp (by omega)
  rw [hcl]
  refine ⟨hin, qz_xrb ha ⟨hin, qz_xrb hb (nm_e ⟨hin, nm_e ?_⟩)⟩⟩
  rcases ho with e | e | e | e | e | e | e | e <;> rw [e] at h ⊢
  · rw [qz_rd0] at h
    exact br_f (by decide) (br_f (by decide) (br_t rfl (qz_xcb hp h)))
  · rw [qz_rd1] at h
    exact br_f (by decide) (br_f (by decide) (br_f (by decide) (br_t rfl ⟨hin, qz_xrb ha h⟩)))
  · rw [qz_rd2] at h
    exact br_f (by decide) (br_f (by decide) (br_f (by decide) (br_f (by decide) (br_t rfl h))))
  · rw [qz_rd3] at h
    exact br_f (by decide) (br_f (by decide) (br_f (by decide) (br_f (by decide) (br_f (by decide) (br_t rfl h)))))
  · rw [qz_rd4] at h
    exact br_f (by decide) (br_f (by decide) (br_f (by decide) (br_f (by decide) (br_f (by decide) (br_f (by decide) (br_t rfl h))))))
  · rw [qz_rd5] at h
    exact br_f (by decide) (br_f (by decide) (br_f (by decide) (br_f (by decide) (br_f (by decide) (br_f (by decide) (br_f (by decide) (br_t rfl h)))))))
  · rw [qz_rd6] at h
    exact br_f (by decide) (br_f (by decide) (br_f (by decide) (br_f (by decide) (br_f (by decide) (br_f (by decide) (br_f (by decide) (br_f (by decide) (br_t rfl h))))))))
  · rw [qz_rd7] at h
    exact br_f (by decide) (br_f (by decide) (br_f (by decide) (br_f (by decide) (br_f (by decide) (br_f (by decide) (br_f (by decide) (br_f (by decide) (br_f (by decide) (br_t rfl ⟨hin, qz_xrb hd h⟩)))))))))
theorem qz_xwr {post : Int32 → Prop} {c q : Int32} {p t : Nat} (hp : p < 10) (hd : qz_rg (tg p)) (h : post (qz_wr (op p) (tg p) (nm p) t)) :
    wpX_writesOf post (c, q, R, C, op, tg, lf, rt, nm, pl, tn, rd, wr, dn) (nI p) (nI t) := by
  unfold wpX_writesOf
  dsimp only
  have hcl : (nI p).toNatClampNeg = p := nI_clamp (by omega)
  have hin : vp_in (nI p) 10 := vp_in_nI hp (by omega)
  rw [hcl]
  by_cases e : op p = 1
  · rw [e, qz_wr1] at h
    exact ⟨hin, br_t e (qz_xcb hp h)⟩
  · rw [qz_wrn e] at h
    exact ⟨hin, br_f e ⟨hin, qz_xrb hd h⟩⟩
/-! laySteps -/
def qz_L (op tg lf rt nm : Nat → Int32) (c : Nat) (pl tn rd wr dn : Nat → Int32) (m : Nat) : Prop := ∀ j, j < m → qz_laid op tg lf rt nm c pl tn rd wr j ∧ dn j = 0
theorem qz_Lup {c t p : Nat} (hp : p < c) (h : qz_L op tg lf rt nm c pl tn rd wr dn (t * c + p)) :
    qz_L op tg lf rt nm c (upd pl (t * c + p) (nI p)) (upd tn (t * c + p) (nI t)) (upd rd (t * c + p) (qz_rd (op p) (tg p) (lf p) (rt p) (nm p) t)) (upd wr (t * c + p) (qz_wr (op p) (tg p) (nm p) t)) (upd dn (t * c + p) 0) (t * c + (p + 1)) := by
  intro j hj
  by_cases e : j = t * c + p
  · obtain ⟨e1, e2⟩ := qz_num (t := t) hp
    subst e
    unfold qz_laid
    rw [pk_us, pk_us, pk_us, pk_us, pk_us, e1, e2]
    exact ⟨⟨rfl, rfl, rfl, rfl⟩, rfl⟩
  · unfold qz_laid
    rw [pk_un e, pk_un e, pk_un e, pk_un e, pk_un e]
    exact h j (by omega)
theorem qz_vb0 : vp_nar .boolean 0 = 0 := by decide
theorem qz_vb1 : vp_nar .boolean 1 = 1 := by decide
theorem qz_xlay1 {post : SX → Prop} {J : Int32 → Int32 → (Nat → Int32) → (Nat → Int32) → (Nat → Int32) → (Nat → Int32) → (Nat → Int32) → (Nat → Int32) → (Nat → Int32) → (Nat → Int32) → (Nat → Int32) → (Nat → Int32) → (Nat → Int32) → (Nat → Int32) → Prop} {x1 q : Int32} {c t : Nat} (hc : c ≤ 10) (hT : t * c + c ≤ 120) (hb : qz_body op tg lf rt c)
    (hJ : ∀ pl tn rd wr dn, qz_L op tg lf rt nm c pl tn rd wr dn (t * c + c) → J (nI (t * c + c)) (nI (t + 1)) R C op tg lf rt nm pl tn rd wr dn) :
    ∀ d p : Nat, p + d = c → ∀ pl tn rd wr dn, qz_L op tg lf rt nm c pl tn rd wr dn (t * c + p) → wX_laySteps_12 post J x1 (nI t) (nI c) q (d + 1) (nI (t * c + p)) (nI p) R C op tg lf rt nm pl tn rd wr dn := by
  intro d
  induction d with
  | zero =>
    intro p hp pl tn rd wr dn hL
    have e : p = c := by omega
    subst e
    exact br_t (nI_le (Nat.le_refl _) (by omega)) (nm_r (nI_1 t) (hJ _ _ _ _ _ hL))
  | succ d ih =>
    intro p hp pl tn rd wr dn hL
    have hpc : p < c := by omega
    obtain ⟨b1, b2, b3, b4⟩ := hb p hpc
    have hcl : (nI (t * c + p)).toNatClampNeg = t * c + p := nI_clamp (by omega)
    have hin : vp_in (nI (t * c + p)) 120 := vp_in_nI (by omega) (by omega)
    refine br_f (nI_ge hpc (by omega)) ⟨hin, nm_r (e' := upd pl (t * c + p) (nI p)) (by rw [hcl]) ⟨hin, nm_r (e' := upd tn (t * c + p) (nI t)) (by rw [hcl]) ?_⟩⟩
    refine qz_xrd (by omega) b1 b2 b3 b4 ⟨hin, nm_r (e' := upd rd (t * c + p) (qz_rd (op p) (tg p) (lf p) (rt p) (nm p) t)) (by rw [hcl]) ?_⟩
    refine qz_xwr (by omega) b2 ⟨hin, nm_r (e' := upd wr (t * c + p) (qz_wr (op p) (tg p) (nm p) t)) (by rw [hcl]) ⟨hin, nm_r (e' := upd dn (t * c + p) 0) (by rw [hcl, qz_vb0]) (nm_r (nI_1 _) (nm_r (nI_1 _) ?_))⟩⟩
    exact ih (p + 1) (by omega) _ _ _ _ _ (qz_Lup hpc hL)
theorem qz_xlay2 {post : SX → Prop} {q : Int32} {c n : Nat} (hc : c ≤ 10) (hn : n ≤ 12) (hb : qz_body op tg lf rt c)
    (hp : ∀ pl tn rd wr dn, qz_L op tg lf rt nm c pl tn rd wr dn (n * c) → post (nI c, q, R, C, op, tg, lf, rt, nm, pl, tn, rd, wr, dn)) :
    ∀ d t : Nat, t + d = n → ∀ pl tn rd wr dn, qz_L op tg lf rt nm c pl tn rd wr dn (t * c) → wX_laySteps_4 post (nI n) (nI c) q (d + 1) (nI (t * c)) (nI t) R C op tg lf rt nm pl tn rd wr dn := by
  intro d
  induction d with
  | zero =>
    intro t ht pl tn rd wr dn hL
    have e : t = n := by omega
    subst e
    exact br_t (nI_le (Nat.le_refl _) (by omega)) (hp _ _ _ _ _ hL)
  | succ d ih =>
    intro t ht pl tn rd wr dn hL
    have hT : t * c + c ≤ 120 := by
      have h1 : (t + 1) * c ≤ 12 * 10 := Nat.mul_le_mul (by omega) hc
      rw [Nat.succ_mul] at h1
      exact h1
    refine br_f (nI_ge (by omega) (by omega)) ⟨c + 1, qz_xlay1 hc hT hb (fun pl tn rd wr dn h => ?_) c 0 (by omega) pl tn rd wr dn hL⟩
    have e : t * c + c = (t + 1) * c := (Nat.succ_mul t c).symm
    rw [e] at h ⊢
    exact ih (t + 1) (by omega) _ _ _ _ _ h
/-! chooseStep -/
theorem qz_xch1 {post : Int32 → Prop} {c q : Int32} {o en : Nat} (hen : en ≤ 120) (h0 : dn o = 0) (hlt : o < en) (hp : ∀ e, o ≤ e → e < en → qz_ch dn rd wr o e → post (nI e)) :
    ∀ d j e : Nat, ∀ A B : Int32, j + d = en → qz_sc dn rd wr o j e A B → wX_chooseStep_11 post (nI en) c q R C op tg lf rt nm pl tn rd wr dn (d + 1) (nI e) A B (nI j) := by
  intro d
  induction d with
  | zero =>
    intro j e A B hj hs
    have z : j = en := by omega
    subst z
    obtain ⟨h1, h2, h3⟩ := hs.2.1 hlt
    exact br_t (nI_le (Nat.le_refl _) (by omega)) (hp e h1 h2 h3)
  | succ d ih =>
    intro j e A B hj hs
    have hcl : (nI j).toNatClampNeg = j := nI_clamp (by omega)
    have hin : vp_in (nI j) 120 := vp_in_nI (by omega) (by omega)
    refine br_f (nI_ge (by omega) (by omega)) ⟨hin, ?_⟩
    by_cases hd : dn j = 0
    · have hd' : dn (nI j).toNatClampNeg = 0 := by rw [hcl]; exact hd
      refine br_t hd' ⟨hin, hin, nm_r (e' := (rd j &&& B) ||| (wr j &&& (A ||| B))) (by rw [hcl]) ?_⟩
      by_cases hz : (rd j &&& B) ||| (wr j &&& (A ||| B)) = 0
      · exact br_t hz ⟨hin, nm_r (e' := A ||| rd j) (by rw [hcl]) ⟨hin, nm_r (e' := B ||| wr j) (by rw [hcl]) (nm_r (nI_1 j) (ih (j + 1) j _ _ (by omega) (qz_sc_take hs hd hz)))⟩⟩
      · exact br_f hz ⟨hin, nm_r (e' := A ||| rd j) (by rw [hcl]) ⟨hin, nm_r (e' := B ||| wr j) (by rw [hcl]) (nm_r (nI_1 j) (ih (j + 1) e _ _ (by omega) (qz_sc_leave hs hz)))⟩⟩
    · have hd' : ¬ dn (nI j).toNatClampNeg = 0 := by rw [hcl]; exact hd
      exact br_f hd' (nm_r (nI_1 j) (ih (j + 1) e A B (by omega) (qz_sc_skip h0 hs hd)))
theorem qz_xch {post : Int32 → Prop} {c q : Int32} {o en : Nat} (hen : en ≤ 120) (h0 : dn o = 0) (hlt : o < en) (hp : ∀ e, o ≤ e → e < en → qz_ch dn rd wr o e → post (nI e)) :
    wpX_chooseStep post (c, q, R, C, op, tg, lf, rt, nm, pl, tn, rd, wr, dn) (nI o) (nI en) := by
  unfold wpX_chooseStep
  dsimp only
  exact ⟨en - o + 1, qz_xch1 hen h0 hlt hp (en - o) o o 0 0 (by omega) qz_sc0⟩
