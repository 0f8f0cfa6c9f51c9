theorem qz_un {f : Nat → Int32} {k j : Nat} {x : Int32} (h : k ≠ j) : upd f k x j = f j := pk_un (fun z => h z.symm)
/-- a register that isn't read doesn't matter -/
theorem qz_vR {o d a b k : Int32} {t : Nat} {R C : Nat → Int32} {r : Nat} {x : Int32} (ho : qz_op o) (h1 : ¬ o = 1) (hd : qz_rg d) (ha : qz_rg a) (hb : qz_rg b) (h : bt (qz_rd o d a b k t) r = false) : qz_v o d a b k t (upd R r x, C) = qz_v o d a b k t (R, C) := by
  have hd' := qz_rg_c hd
  have ha' := qz_rg_c ha
  have hb' := qz_rg_c hb
  have two : bt (qz_b a.toNatClampNeg ||| qz_b b.toNatClampNeg) r = false → upd R r x a.toNatClampNeg = R a.toNatClampNeg ∧ upd R r x b.toNatClampNeg = R b.toNatClampNeg := fun z =>
    ⟨qz_un (qz_bt_n (by omega) (qz_or_f z).1), qz_un (qz_bt_n (by omega) (qz_or_f z).2)⟩
  rcases ho with e | e | e | e | e | e | e | e <;> subst e
  · rw [qz_v0, qz_v0]
  · exact absurd rfl h1
  · rw [qz_rd2] at h
    obtain ⟨p, q⟩ := two h
    rw [qz_v2, qz_v2]
    dsimp only
    rw [p, q]
  · rw [qz_rd3] at h
    obtain ⟨p, q⟩ := two h
    rw [qz_v3, qz_v3]
    dsimp only
    rw [p, q]
  · rw [qz_rd4] at h
    obtain ⟨p, q⟩ := two h
    rw [qz_v4, qz_v4]
    dsimp only
    rw [p, q]
  · rw [qz_rd5] at h
    obtain ⟨p, q⟩ := two h
    rw [qz_v5, qz_v5]
    simp only [p, q]
  · rw [qz_v6, qz_v6]
  · rw [qz_rd7] at h
    obtain ⟨p, q⟩ := two (qz_or_f h).1
    have s : upd R r x d.toNatClampNeg = R d.toNatClampNeg := qz_un (qz_bt_n (by omega) (qz_or_f h).2)
    rw [qz_v7, qz_v7]
    simp only [p, q, s]
/-- a cell that isn't read doesn't matter -/
theorem qz_vC {o d a b k : Int32} {t : Nat} {R C : Nat → Int32} {c : Nat} {x : Int32} (ho : qz_op o) (h1 : ¬ o = 1) (h : bt (qz_rd o d a b k t) (6 + c) = false) : qz_v o d a b k t (R, upd C c x) = qz_v o d a b k t (R, C) := by
  have hc := qz_c_lt k t
  rcases ho with e | e | e | e | e | e | e | e <;> subst e
  · rw [qz_rd0] at h
    have n := qz_bt_n (by omega) h
    rw [qz_v0, qz_v0]
    exact qz_un (by omega)
  · exact absurd rfl h1
  · rw [qz_v2, qz_v2]
  · rw [qz_v3, qz_v3]
  · rw [qz_v4, qz_v4]
  · rw [qz_v5, qz_v5]
  · rw [qz_v6, qz_v6]
  · rw [qz_v7, qz_v7]
/-- a register that a store doesn't read doesn't matter -/
theorem qz_aR {d a b k : Int32} {t : Nat} {R : Nat → Int32} {r : Nat} {x : Int32} (ha : qz_rg a) (h : bt (qz_rd 1 d a b k t) r = false) : upd R r x a.toNatClampNeg = R a.toNatClampNeg := by
  have ha' := qz_rg_c ha
  rw [qz_rd1] at h
  exact qz_un (qz_bt_n (by omega) h)
theorem qz_st1 {d a b k : Int32} {t : Nat} {R C : Nat → Int32} : qz_st 1 d a b k t (R, C) = (R, upd C (qz_c k t) (R a.toNatClampNeg)) := by
  unfold qz_st
  rw [if_pos rfl]
theorem qz_stn {o d a b k : Int32} {t : Nat} {R C : Nat → Int32} (h : ¬ o = 1) : qz_st o d a b k t (R, C) = (upd R d.toNatClampNeg (qz_v o d a b k t (R, C)), C) := by
  unfold qz_st
  rw [if_neg h]
/-- neither writes what the other reads or writes: rd, wr of the later one; rd', wr' of the earlier one -/
def qz_ind (rd wr rd' wr' : Int32) : Prop := ∀ l, (bt wr' l = true → bt rd l = false ∧ bt wr l = false) ∧ (bt rd' l = true → bt wr l = false)
theorem qz_comm {o d a b k o' d' a' b' k' : Int32} {t t' : Nat} (ho : qz_op o) (ho' : qz_op o') (hd : qz_rg d) (ha : qz_rg a) (hb : qz_rg b) (hd' : qz_rg d') (ha' : qz_rg a') (hb' : qz_rg b')
    (hi : qz_ind (qz_rd o d a b k t) (qz_wr o d k t) (qz_rd o' d' a' b' k' t') (qz_wr o' d' k' t')) (m : qz_S) :
    qz_st o' d' a' b' k' t' (qz_st o d a b k t m) = qz_st o d a b k t (qz_st o' d' a' b' k' t' m) := by
  obtain ⟨R, C⟩ := m
  have hcd := qz_rg_c hd
  have hcd' := qz_rg_c hd'
  have hcc := qz_c_lt k t
  have hcc' := qz_c_lt k' t'
  have B : ∀ l, bt (qz_wr o d k t) l = true → bt (qz_rd o' d' a' b' k' t') l = false := by
    intro l hl
    cases z : bt (qz_rd o' d' a' b' k' t') l
    · rfl
    · rw [(hi l).2 z] at hl; exact Bool.noConfusion hl
  by_cases h1 : o = 1
  · subst h1
    have w : bt (qz_wr 1 d k t) (6 + qz_c k t) = true := by rw [qz_wr1]; exact qz_bt_s (by omega)
    by_cases h1' : o' = 1
    · subst h1'
      have w' : bt (qz_wr 1 d' k' t') (6 + qz_c k' t') = true := by rw [qz_wr1]; exact qz_bt_s (by omega)
      have n : bt (qz_b (6 + qz_c k t)) (6 + qz_c k' t') = false := by rw [← qz_wr1 (d := d)]; exact ((hi _).1 w').2
      have n' := qz_bt_n (by omega) n
      simp only [qz_st1]
      rw [qz_updc (by omega)]
    · have e' : qz_wr o' d' k' t' = qz_b d'.toNatClampNeg := qz_wrn h1'
      have w' : bt (qz_wr o' d' k' t') d'.toNatClampNeg = true := by rw [e']; exact qz_bt_s (by omega)
      simp only [qz_st1, qz_stn h1']
      rw [qz_vC ho' h1' (B _ w), qz_aR ha ((hi _).1 w').1]
  · have e : qz_wr o d k t = qz_b d.toNatClampNeg := qz_wrn h1
    have w : bt (qz_wr o d k t) d.toNatClampNeg = true := by rw [e]; exact qz_bt_s (by omega)
    by_cases h1' : o' = 1
    · subst h1'
      have w' : bt (qz_wr 1 d' k' t') (6 + qz_c k' t') = true := by rw [qz_wr1]; exact qz_bt_s (by omega)
      simp only [qz_st1, qz_stn h1]
      rw [qz_vC ho h1 ((hi _).1 w').1, qz_aR ha' (B _ w)]
    · have e' : qz_wr o' d' k' t' = qz_b d'.toNatClampNeg := qz_wrn h1'
      have w' : bt (qz_wr o' d' k' t') d'.toNatClampNeg = true := by rw [e']; exact qz_bt_s (by omega)
      have n := ((hi _).1 w').2
      rw [e] at n
      have n' := qz_bt_n (by omega) n
      simp only [qz_stn h1, qz_stn h1']
      rw [qz_vR ho h1 hd ha hb ((hi _).1 w').1, qz_vR ho' h1' hd' ha' hb' (B _ w), qz_updc (fun z => n' z.symm)]
/-- what no clash means -/
theorem qz_clash {rd wr R W : Int32} (h : (rd &&& W) ||| (wr &&& (R ||| W)) = 0) (l : Nat) : (bt W l = true → bt rd l = false ∧ bt wr l = false) ∧ (bt R l = true → bt wr l = false) := by
  have z : bt ((rd &&& W) ||| (wr &&& (R ||| W))) l = false := by rw [h]; exact b_0 l
  rw [b_or, b_and, b_and, b_or] at z
  cases h1 : bt W l <;> cases h2 : bt rd l <;> cases h3 : bt wr l <;> cases h4 : bt R l <;> simp_all
