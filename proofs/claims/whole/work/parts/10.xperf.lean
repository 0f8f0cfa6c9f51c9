variable {R C op tg lf rt nm pl tn rd wr dn yt yf ys : Nat → Int32}
theorem qz_xrs {post : Int32 → Prop} {c q : Int32} {p t : Nat} (hp : p < 10) (ho : qz_op (op p)) (h1 : ¬ op p = 1) (hd : qz_rg (tg p)) (ha : qz_rg (lf p)) (hb : qz_rg (rt p)) (h : post (qz_v (op p) (tg p) (lf p) (rt p) (nm p) t (R, C))) :
    wpX_resultOf post (c, q, R, C, op, tg, lf, rt, nm, pl, tn, rd, wr, dn) (nI p) (nI t) := by
  unfold wpX_resultOf
  dsimp only
  have hcl : (nI p).toNatClampNeg = p := nI_clamp (by omega)
  have hin : vp_in (nI p) 10 := vp_in_nI hp (by omega)
  rw [hcl]
  refine ⟨hin, qz_rg_in ha, nm_e ⟨hin, qz_rg_in hb, nm_e (qz_xca hp ⟨hin, nm_e ?_⟩)⟩⟩
  rcases ho with e | e | e | e | e | e | e | e
  · rw [e] at h ⊢
    rw [qz_v0] at h
    have hc16 := qz_c_lt (nm p) t
    refine br_f (by decide) (br_f (by decide) (br_t rfl ⟨vp_in_nI hc16 (by omega), ?_⟩))
    rw [nI_clamp (by omega)]
    exact h
  · exact absurd e h1
  · rw [e] at h ⊢
    rw [qz_v2] at h
    exact br_f (by decide) (br_f (by decide) (br_f (by decide) (br_f (by decide) (br_t rfl h))))
  · rw [e] at h ⊢
    rw [qz_v3] at h
    exact br_f (by decide) (br_f (by decide) (br_f (by decide) (br_f (by decide) (br_f (by decide) (br_t rfl h)))))
  · rw [e] at h ⊢
    rw [qz_v4] at h
    exact br_f (by decide) (br_f (by decide) (br_f (by decide) (br_f (by decide) (br_f (by decide) (br_f (by decide) (br_t rfl h))))))
  · rw [e] at h ⊢
    rw [qz_v5] at h
    refine br_f (by decide) (br_f (by decide) (br_f (by decide) (br_f (by decide) (br_f (by decide) (br_f (by decide) (br_f (by decide) (br_t rfl ?_)))))))
    by_cases hle : R (rt p).toNatClampNeg ≤ R (lf p).toNatClampNeg
    · have hn : ¬ R (lf p).toNatClampNeg < R (rt p).toNatClampNeg := Int32.not_lt.mpr hle
      rw [if_neg hn] at h
      exact br_t hle h
    · have hn : R (lf p).toNatClampNeg < R (rt p).toNatClampNeg := Int32.not_le.mp hle
      rw [if_pos hn] at h
      exact br_f hle h
  · rw [e] at h ⊢
    rw [qz_v6] at h
    exact br_f (by decide) (br_f (by decide) (br_f (by decide) (br_f (by decide) (br_f (by decide) (br_f (by decide) (br_f (by decide) (br_f (by decide) (br_t rfl ⟨hin, h⟩))))))))
  · rw [e] at h ⊢
    rw [qz_v7] at h
    refine br_f (by decide) (br_t (by decide) ?_)
    unfold wX_resultOf_122
    rw [hcl]
    refine ⟨hin, qz_rg_in hd, ?_⟩
    by_cases hz : R (tg p).toNatClampNeg = 0
    · rw [if_pos hz] at h
      exact br_t hz h
    · rw [if_neg hz] at h
      exact br_f hz h
theorem qz_xpf {post : SX → Prop} {c q : Int32} {p t : Nat} (hp : p < 10) (ho : qz_op (op p)) (hd : qz_rg (tg p)) (ha : qz_rg (lf p)) (hb : qz_rg (rt p))
    (h : post (c, q, (qz_st (op p) (tg p) (lf p) (rt p) (nm p) t (R, C)).1, (qz_st (op p) (tg p) (lf p) (rt p) (nm p) t (R, C)).2, op, tg, lf, rt, nm, pl, tn, rd, wr, dn)) :
    wpX_perform post (c, q, R, C, op, tg, lf, rt, nm, pl, tn, rd, wr, dn) (nI p) (nI t) := by
  unfold wpX_perform
  dsimp only
  have hcl : (nI p).toNatClampNeg = p := nI_clamp (by omega)
  have hin : vp_in (nI p) 10 := vp_in_nI hp (by omega)
  rw [hcl]
  by_cases e : op p = 1
  · rw [e, qz_st1] at h
    have hc16 := qz_c_lt (nm p) t
    refine ⟨hin, br_t e (qz_xca hp ⟨hin, qz_rg_in ha, vp_in_nI hc16 (by omega), nm_r (e' := upd C (qz_c (nm p) t) (R (lf p).toNatClampNeg)) (by rw [nI_clamp (by omega)]) h⟩)⟩
  · rw [qz_stn e] at h
    exact ⟨hin, br_f e (qz_xrs hp ho e hd ha hb ⟨hin, qz_rg_in hd, nm_e h⟩)⟩
/-! performSteps -/
theorem qz_xold {post : SX → Prop} {J : Int32 → Int32 → Int32 → Int32 → (Nat → Int32) → (Nat → Int32) → (Nat → Int32) → (Nat → Int32) → (Nat → Int32) → (Nat → Int32) → (Nat → Int32) → (Nat → Int32) → (Nat → Int32) → (Nat → Int32) → (Nat → Int32) → (Nat → Int32) → Prop} {x2 x4 c q : Int32} {T : Nat} (hT : T ≤ 120)
    (K : ∀ o, o < T → (∀ i, i < o → ¬ dn i = 0) → (¬ o < T - 1 ∨ dn o = 0) → wX_performSteps_43 post J (nI T) x2 (nI o) x4 c q R C op tg lf rt nm pl tn rd wr dn) :
    ∀ g o : Nat, o + g + 1 = T → (∀ i, i < o → ¬ dn i = 0) → wX_performSteps_21 post J (nI T) x2 x4 c q R C op tg lf rt nm pl tn rd wr dn (g + 1) (nI o) := by
  intro g
  induction g with
  | zero =>
    intro o ho hd
    have e : nI T - 1 = nI (T - 1) := by
      have z : T = (T - 1) + 1 := by omega
      rw [z, nI_pred]; rfl
    refine br_t ?_ (K o (by omega) hd (Or.inl (by omega)))
    rw [e]
    exact nI_le (by omega) (by omega)
  | succ g ih =>
    intro o ho hd
    have e : nI T - 1 = nI (T - 1) := by
      have z : T = (T - 1) + 1 := by omega
      rw [z, nI_pred]; rfl
    have hcl : (nI o).toNatClampNeg = o := nI_clamp (by omega)
    have hn : ¬ nI T - 1 ≤ nI o := by
      rw [e]
      exact nI_ge (by omega) (by omega)
    refine br_f hn ⟨vp_in_nI (by omega) (by omega), ?_⟩
    by_cases hz : dn o = 0
    · exact br_t (by rw [hcl]; exact hz) (K o (by omega) hd (Or.inr hz))
    · refine br_f (by rw [hcl]; exact hz) (nm_r (nI_1 o) (ih (o + 1) (by omega) (fun i hi => ?_)))
      rcases Nat.lt_or_ge i o with h | h
      · exact hd i h
      · have : i = o := by omega
        subst this; exact hz
theorem qz_x64 {post : SX → Prop} {J : Int32 → Int32 → Int32 → Int32 → (Nat → Int32) → (Nat → Int32) → (Nat → Int32) → (Nat → Int32) → (Nat → Int32) → (Nat → Int32) → (Nat → Int32) → (Nat → Int32) → (Nat → Int32) → (Nat → Int32) → (Nat → Int32) → (Nat → Int32) → Prop} {x1 x2 q : Int32} {c T o en w : Nat} (hc : c ≤ 10) (hc0 : 0 < c) (hT : T ≤ 120) (hen : en ≤ T) (hlt : o < en) (h0 : dn o = 0)
    (hb : qz_body op tg lf rt c) (hl : ∀ j, j < T → qz_laid op tg lf rt nm c pl tn rd wr j)
    (K : ∀ e, e < T → qz_ch dn rd wr o e → J (nI o) (nI (w + 1)) (nI c) q (qz_stp op tg lf rt nm c e (R, C)).1 (qz_stp op tg lf rt nm c e (R, C)).2 op tg lf rt nm pl tn rd wr (upd dn e 1)) :
    wX_performSteps_64 post J x1 x2 (nI o) (nI w) (nI en) (nI o) (nI c) q R C op tg lf rt nm pl tn rd wr dn := by
  unfold wX_performSteps_64
  refine qz_xch (by omega) h0 hlt (fun e he1 he2 hch => ?_)
  have hcl : (nI e).toNatClampNeg = e := nI_clamp (by omega)
  have hin : vp_in (nI e) 120 := vp_in_nI (by omega) (by omega)
  obtain ⟨l1, l2, _, _⟩ := hl e (by omega)
  have hm : e % c < c := Nat.mod_lt _ hc0
  obtain ⟨b1, b2, b3, b4⟩ := hb (e % c) hm
  refine ⟨hin, hin, ?_⟩
  rw [hcl, l1, l2]
  refine qz_xpf (by omega) b1 b2 b3 b4 ?_
  dsimp only
  exact ⟨hin, nm_r (e' := upd dn e 1) (by rw [qz_vb1]) (nm_r (nI_1 w) (K e (by omega) hch))⟩
theorem qz_x15 {post : SX → Prop} {q : Int32} {c T A : Nat} {fin : qz_S} (hc : c ≤ 10) (hc0 : 0 < T → 0 < c) (hT : T ≤ 120) (hA : A ≤ 30) (hb : qz_body op tg lf rt c) (hl : ∀ j, j < T → qz_laid op tg lf rt nm c pl tn rd wr j)
    (hp : ∀ dn, post (nI c, q, fin.1, fin.2, op, tg, lf, rt, nm, pl, tn, rd, wr, dn)) :
    ∀ d w o : Nat, ∀ R C dn, w + d = T → (0 < T → o < T) → (∀ i, i < o → ¬ dn i = 0) → qz_cn dn T = d → qz_ex (qz_stp op tg lf rt nm c) dn T (R, C) = fin →
      wX_performSteps_15 post (nI T) (nI A) (d + 1) (nI o) (nI w) (nI c) q R C op tg lf rt nm pl tn rd wr dn := by
  intro d
  induction d with
  | zero =>
    intro w o R C dn hw ho hd hn hx
    rw [qz_ex_done T (qz_cn_all T hn)] at hx
    subst hx
    have e : w = T := by omega
    subst e
    exact br_t (nI_le (Nat.le_refl _) (by omega)) (hp dn)
  | succ d ih =>
    intro w o R C dn hw ho hd hn hx
    have ho' := ho (by omega)
    have hc1 := hc0 (by omega)
    refine br_f (nI_ge (by omega) (by omega)) ⟨T - o - 1 + 1, qz_xold hT (fun o2 h1 h2 h3 => ?_) (T - o - 1) o (by omega) hd⟩
    have hz : dn o2 = 0 := qz_old h2 h1 h3 (by omega)
    have K : ∀ e, e < T → qz_ch dn rd wr o2 e → wX_performSteps_15 post (nI T) (nI A) (d + 1) (nI o2) (nI (w + 1)) (nI c) q (qz_stp op tg lf rt nm c e (R, C)).1 (qz_stp op tg lf rt nm c e (R, C)).2 op tg lf rt nm pl tn rd wr (upd dn e 1) := by
      intro e he hch
      obtain ⟨n1, n2⟩ := qz_next hc1 hb hl he h2 hch (R, C)
      refine ih (w + 1) o2 _ _ _ (by omega) (fun _ => h1) (fun i hi => ?_) (by omega) (n1.trans hx)
      by_cases z : i = e
      · subst z
        rw [pk_us]
        decide
      · rw [pk_un z]
        exact h2 i hi
    unfold wX_performSteps_43
    refine nm_r (e' := nI (o2 + A + 1)) (by rw [nI_add, nI_1]) ?_
    rcases Nat.lt_or_ge (o2 + A + 1) T with hlt | hge
    · exact br_f (nI_ge hlt (by omega)) (qz_x64 hc hc1 hT (by omega) (by omega) hz hb hl K)
    · exact br_t (nI_le hge (by omega)) (qz_x64 hc hc1 hT (Nat.le_refl _) h1 hz hb hl K)
