variable {R C op tg lf rt nm pl tn rd wr dn yt yf ys : Nat → Int32}
theorem qz_ok_op {o d a b k y f s : Int32} (h : qz_ok o d a b k y f s) : qz_op o := by
  rcases h.2.2.2 with e | e | e | e
  · exact Or.inl e.1
  · exact Or.inr (Or.inl e.1)
  · exact Or.inr (Or.inr (Or.inr (Or.inr (Or.inr (Or.inr (Or.inl e.1))))))
  · rcases e.1 with e | e | e | e | e
    · exact Or.inr (Or.inr (Or.inl e))
    · exact Or.inr (Or.inr (Or.inr (Or.inl e)))
    · exact Or.inr (Or.inr (Or.inr (Or.inr (Or.inl e))))
    · exact Or.inr (Or.inr (Or.inr (Or.inr (Or.inr (Or.inl e)))))
    · exact Or.inr (Or.inr (Or.inr (Or.inr (Or.inr (Or.inr (Or.inr e))))))
theorem qz_yrs {post : Int32 → Prop} {v : SY} {o d a b k : Int32} {t : Nat} {m : qz_S} (ho : o = 2 ∨ o = 3 ∨ o = 4 ∨ o = 5 ∨ o = 7) (h : post (qz_v o d a b k t m)) : wpY_result post v o (m.1 d.toNatClampNeg) (m.1 a.toNatClampNeg) (m.1 b.toNatClampNeg) := by
  obtain ⟨a0, a1, a2, a3, a4, a5, a6⟩ := v
  unfold wpY_result
  dsimp only
  rcases ho with e | e | e | e | e <;> subst e
  · rw [qz_v2] at h
    exact br_t rfl h
  · rw [qz_v3] at h
    exact br_f (by decide) (br_t rfl h)
  · rw [qz_v4] at h
    exact br_f (by decide) (br_f (by decide) (br_t rfl h))
  · rw [qz_v5] at h
    refine br_f (by decide) (br_f (by decide) (br_f (by decide) (br_t rfl ?_)))
    by_cases hle : m.1 b.toNatClampNeg ≤ m.1 a.toNatClampNeg
    · have hn : ¬ m.1 a.toNatClampNeg < m.1 b.toNatClampNeg := Int32.not_lt.mpr hle
      rw [if_neg hn] at h
      exact br_t hle h
    · have hn : m.1 a.toNatClampNeg < m.1 b.toNatClampNeg := Int32.not_le.mp hle
      rw [if_pos hn] at h
      exact br_f hle h
  · rw [qz_v7] at h
    refine br_f (by decide) (br_f (by decide) (br_f (by decide) (br_f (by decide) ?_)))
    by_cases hz : m.1 d.toNatClampNeg = 0
    · rw [if_pos hz] at h
      exact br_t hz h
    · rw [if_neg hz] at h
      exact br_f hz h
theorem qz_ywk {post : SY → Prop} {c : Int32} {p t : Nat} (hp : p < 10) (hok : qz_ok (op p) (tg p) (lf p) (rt p) (nm p) (yt p) (yf p) (ys p))
    (h : post (c, op, yt, yf, ys, (qz_st (op p) (tg p) (lf p) (rt p) (nm p) t (R, C)).1, (qz_st (op p) (tg p) (lf p) (rt p) (nm p) t (R, C)).2)) :
    wpY_work post (c, op, yt, yf, ys, R, C) (nI p) (nI t) := by
  unfold wpY_work
  dsimp only
  have hcl : (nI p).toNatClampNeg = p := nI_clamp (by omega)
  have hin : vp_in (nI p) 10 := vp_in_nI hp (by omega)
  have hc16 := qz_c_lt (nm p) t
  have hi16 : vp_in (nI (qz_c (nm p) t)) 16 := vp_in_nI hc16 (by omega)
  have hc16' : (nI (qz_c (nm p) t)).toNatClampNeg = qz_c (nm p) t := nI_clamp (by omega)
  rw [hcl]
  obtain ⟨hd, ha, hb, hk⟩ := hok
  rcases hk with ⟨e, e1, e2⟩ | ⟨e, e1, e2⟩ | ⟨e, e1, e2⟩ | ⟨e, e1, e2, e3⟩
  · rw [e1, e2, qz_c_e, hc16']
    rw [e] at h
    rw [qz_stn (by decide), qz_v0] at h
    exact ⟨hin, nm_e ⟨hin, br_t e ⟨hin, hi16, qz_rg_in hd, nm_e h⟩⟩⟩
  · rw [e1, e2, qz_c_e, hc16']
    have n0 : ¬ op p = 0 := by rw [e]; decide
    rw [e, qz_st1] at h
    exact ⟨hin, nm_e ⟨hin, br_f n0 ⟨hin, br_t e ⟨hin, qz_rg_in ha, hi16, nm_e h⟩⟩⟩⟩
  · rw [e1, e2]
    have n0 : ¬ op p = 0 := by rw [e]; decide
    have n1 : ¬ op p = 1 := by rw [e]; decide
    rw [qz_stn n1] at h
    rw [e, qz_v6] at h
    exact ⟨hin, nm_e ⟨hin, br_f n0 ⟨hin, br_f n1 ⟨hin, br_t e ⟨hin, qz_rg_in hd, nm_e h⟩⟩⟩⟩⟩
  · rw [e1, e2, e3]
    have n0 : ¬ op p = 0 := by rcases e with e | e | e | e | e <;> rw [e] <;> decide
    have n1 : ¬ op p = 1 := by rcases e with e | e | e | e | e <;> rw [e] <;> decide
    have n6 : ¬ op p = 6 := by rcases e with e | e | e | e | e <;> rw [e] <;> decide
    rw [qz_stn n1] at h
    exact ⟨hin, nm_e ⟨hin, br_f n0 ⟨hin, br_f n1 ⟨hin, br_f n6 ⟨hin, qz_rg_in hd, hin, qz_rg_in ha, hin, qz_rg_in hb, qz_yrs (m := (R, C)) (k := nm p) (t := t) e ⟨qz_rg_in hd, nm_e h⟩⟩⟩⟩⟩⟩
/-- the state after the first j steps in order -/
def qz_sq (op tg lf rt nm : Nat → Int32) (c : Nat) (m : qz_S) (j : Nat) : qz_S := qz_ex (qz_stp op tg lf rt nm c) (fun _ => 0) j m
theorem qz_sq_s {c : Nat} {m : qz_S} {t p : Nat} (hp : p < c) : qz_sq op tg lf rt nm c m (t * c + (p + 1)) = qz_st (op p) (tg p) (lf p) (rt p) (nm p) t (qz_sq op tg lf rt nm c m (t * c + p)) := by
  show qz_ex (qz_stp op tg lf rt nm c) (fun _ => 0) ((t * c + p) + 1) m = _
  rw [qz_ex_s, if_pos rfl]
  unfold qz_stp
  obtain ⟨e1, e2⟩ := qz_num (t := t) hp
  rw [e1, e2]
  rfl
theorem qz_y21 {post : Int32 → SY → Prop} {J : Int32 → Int32 → (Nat → Int32) → (Nat → Int32) → (Nat → Int32) → (Nat → Int32) → (Nat → Int32) → (Nat → Int32) → Prop} {x1 : Int32} {c t : Nat} {m : qz_S} (hc : c ≤ 10) (hB : ∀ p, p < c → qz_ok (op p) (tg p) (lf p) (rt p) (nm p) (yt p) (yf p) (ys p))
    (hJ : J (nI (t + 1)) (nI c) op yt yf ys (qz_sq op tg lf rt nm c m (t * c + c)).1 (qz_sq op tg lf rt nm c m (t * c + c)).2) :
    ∀ d p : Nat, p + d = c → wY_run_21 post J x1 (nI t) (d + 1) (nI p) (nI c) op yt yf ys (qz_sq op tg lf rt nm c m (t * c + p)).1 (qz_sq op tg lf rt nm c m (t * c + p)).2 := by
  intro d
  induction d with
  | zero =>
    intro p hp
    have e : p = c := by omega
    subst e
    exact br_t (nI_le (Nat.le_refl _) (by omega)) (nm_r (nI_1 t) hJ)
  | succ d ih =>
    intro p hp
    have hpc : p < c := by omega
    refine br_f (nI_ge hpc (by omega)) (qz_ywk (by omega) (hB p hpc) ?_)
    dsimp only
    refine nm_r (nI_1 p) ?_
    have z := ih (p + 1) (by omega)
    rw [qz_sq_s hpc] at z
    exact z
theorem qz_y14 {post : Int32 → SY → Prop} {c n : Nat} {m : qz_S} (hc : c ≤ 10) (hn : n ≤ 12) (hB : ∀ p, p < c → qz_ok (op p) (tg p) (lf p) (rt p) (nm p) (yt p) (yf p) (ys p))
    (hp : post (nI n * nI c) (nI c, op, yt, yf, ys, (qz_sq op tg lf rt nm c m (n * c)).1, (qz_sq op tg lf rt nm c m (n * c)).2)) :
    ∀ d t : Nat, t + d = n → wY_run_14 post (nI n) (d + 1) (nI t) (nI c) op yt yf ys (qz_sq op tg lf rt nm c m (t * c)).1 (qz_sq op tg lf rt nm c m (t * c)).2 := by
  intro d
  induction d with
  | zero =>
    intro t ht
    have e : t = n := by omega
    subst e
    exact br_t (nI_le (Nat.le_refl _) (by omega)) hp
  | succ d ih =>
    intro t ht
    refine br_f (nI_ge (by omega) (by omega)) ⟨c + 1, qz_y21 hc hB ?_ c 0 (by omega)⟩
    have e : t * c + c = (t + 1) * c := (Nat.succ_mul t c).symm
    rw [e]
    exact ih (t + 1) (by omega)
