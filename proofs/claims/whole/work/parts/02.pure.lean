abbrev qz_S : Type := (Nat → Int32) × (Nat → Int32)
/-- the first j steps in turn, but for those that are done -/
def qz_ex (st : Nat → qz_S → qz_S) (dn : Nat → Int32) : Nat → qz_S → qz_S
  | 0 => fun m => m
  | j + 1 => fun m => if dn j = 0 then st j (qz_ex st dn j m) else qz_ex st dn j m
theorem qz_ex_s (st : Nat → qz_S → qz_S) (dn : Nat → Int32) (j : Nat) (m : qz_S) : qz_ex st dn (j + 1) m = if dn j = 0 then st j (qz_ex st dn j m) else qz_ex st dn j m := rfl
theorem qz_ex_congr {st : Nat → qz_S → qz_S} {dn dn' : Nat → Int32} {m : qz_S} : ∀ j, (∀ i, i < j → dn i = dn' i) → qz_ex st dn j m = qz_ex st dn' j m := by
  intro j
  induction j with
  | zero => intro _; rfl
  | succ j ih =>
    intro h
    rw [qz_ex_s, qz_ex_s, h j (by omega), ih (fun i hi => h i (by omega))]
theorem qz_ex_done {st : Nat → qz_S → qz_S} {dn : Nat → Int32} {m : qz_S} : ∀ j, (∀ i, i < j → ¬ dn i = 0) → qz_ex st dn j m = m := by
  intro j
  induction j with
  | zero => intro _; rfl
  | succ j ih =>
    intro h
    rw [qz_ex_s, if_neg (h j (by omega)), ih (fun i hi => h i (by omega))]
theorem qz_swap {st : Nat → qz_S → qz_S} {dn : Nat → Int32} {e : Nat} (hc : ∀ i, i < e → dn i = 0 → ∀ m, st i (st e m) = st e (st i m)) : ∀ j, j ≤ e → ∀ m, qz_ex st dn j (st e m) = st e (qz_ex st dn j m) := by
  intro j
  induction j with
  | zero => intro _ m; rfl
  | succ j ih =>
    intro hj m
    rw [qz_ex_s, qz_ex_s, ih (by omega)]
    by_cases h : dn j = 0
    · rw [if_pos h, if_pos h]; exact hc j (by omega) h _
    · rw [if_neg h, if_neg h]
theorem qz_take {st : Nat → qz_S → qz_S} {dn : Nat → Int32} {e : Nat} (h0 : dn e = 0) (hc : ∀ i, i < e → dn i = 0 → ∀ m, st i (st e m) = st e (st i m)) (m : qz_S) : ∀ d, qz_ex st (upd dn e 1) (e + 1 + d) (st e m) = qz_ex st dn (e + 1 + d) m := by
  intro d
  induction d with
  | zero =>
    show qz_ex st (upd dn e 1) (e + 1) (st e m) = qz_ex st dn (e + 1) m
    rw [qz_ex_s, qz_ex_s, if_neg (by rw [pk_us]; decide), if_pos h0, qz_ex_congr (dn' := dn) e (fun i hi => pk_un (by omega)), qz_swap hc e (Nat.le_refl e)]
  | succ d ih =>
    show qz_ex st (upd dn e 1) ((e + 1 + d) + 1) (st e m) = qz_ex st dn ((e + 1 + d) + 1) m
    rw [qz_ex_s, qz_ex_s, ih, pk_un (by omega)]
/-- how many of the first j steps are left -/
def qz_cn (dn : Nat → Int32) : Nat → Nat
  | 0 => 0
  | j + 1 => (if dn j = 0 then 1 else 0) + qz_cn dn j
theorem qz_cn_s (dn : Nat → Int32) (j : Nat) : qz_cn dn (j + 1) = (if dn j = 0 then 1 else 0) + qz_cn dn j := rfl
theorem qz_cn_0 {dn : Nat → Int32} : ∀ j, (∀ i, i < j → ¬ dn i = 0) → qz_cn dn j = 0 := by
  intro j
  induction j with
  | zero => intro _; rfl
  | succ j ih =>
    intro h
    rw [qz_cn_s, if_neg (h j (by omega)), ih (fun i hi => h i (by omega))]
theorem qz_cn_all {dn : Nat → Int32} : ∀ j, qz_cn dn j = 0 → ∀ i, i < j → ¬ dn i = 0 := by
  intro j
  induction j with
  | zero => intro _ i hi; omega
  | succ j ih =>
    intro h i hi
    rw [qz_cn_s] at h
    by_cases hj : dn j = 0
    · rw [if_pos hj] at h; omega
    · rcases Nat.lt_or_ge i j with hl | hl
      · exact ih (by omega) i hl
      · have e : i = j := by omega
        rw [e]; exact hj
theorem qz_cn_full {dn : Nat → Int32} : ∀ j, (∀ i, i < j → dn i = 0) → qz_cn dn j = j := by
  intro j
  induction j with
  | zero => intro _; rfl
  | succ j ih =>
    intro h
    rw [qz_cn_s, if_pos (h j (by omega)), ih (fun i hi => h i (by omega))]; omega
theorem qz_cn_congr {dn dn' : Nat → Int32} : ∀ j, (∀ i, i < j → dn i = dn' i) → qz_cn dn j = qz_cn dn' j := by
  intro j
  induction j with
  | zero => intro _; rfl
  | succ j ih =>
    intro h
    rw [qz_cn_s, qz_cn_s, h j (by omega), ih (fun i hi => h i (by omega))]
theorem qz_cn_upd {dn : Nat → Int32} {e : Nat} (h0 : dn e = 0) : ∀ d, qz_cn (upd dn e 1) (e + 1 + d) + 1 = qz_cn dn (e + 1 + d) := by
  intro d
  induction d with
  | zero =>
    show qz_cn (upd dn e 1) (e + 1) + 1 = qz_cn dn (e + 1)
    rw [qz_cn_s, qz_cn_s, if_neg (by rw [pk_us]; decide), if_pos h0, qz_cn_congr (dn' := dn) e (fun i hi => pk_un (by omega))]; omega
  | succ d ih =>
    show qz_cn (upd dn e 1) ((e + 1 + d) + 1) + 1 = qz_cn dn ((e + 1 + d) + 1)
    rw [qz_cn_s, qz_cn_s, pk_un (by omega)]; omega
/-! one step: its cell, its result, what it does, what it reads and writes as bits -/
def qz_c (k : Int32) (t : Nat) : Nat := ((nI t + k) &&& 15).toNatClampNeg
def qz_v (o d a b k : Int32) (t : Nat) (m : qz_S) : Int32 :=
  if o = 0 then m.2 (qz_c k t)
  else if o = 2 then m.1 a.toNatClampNeg + m.1 b.toNatClampNeg
  else if o = 3 then m.1 a.toNatClampNeg - m.1 b.toNatClampNeg
  else if o = 4 then m.1 a.toNatClampNeg * m.1 b.toNatClampNeg
  else if o = 5 then (if m.1 a.toNatClampNeg < m.1 b.toNatClampNeg then 1 else 0)
  else if o = 6 then k
  else (if m.1 d.toNatClampNeg = 0 then m.1 b.toNatClampNeg else m.1 a.toNatClampNeg)
def qz_st (o d a b k : Int32) (t : Nat) (m : qz_S) : qz_S :=
  if o = 1 then (m.1, upd m.2 (qz_c k t) (m.1 a.toNatClampNeg)) else (upd m.1 d.toNatClampNeg (qz_v o d a b k t m), m.2)
def qz_b (l : Nat) : Int32 := (1 : Int32) <<< (nI l &&& 31)
def qz_rd (o d a b k : Int32) (t : Nat) : Int32 :=
  if o = 0 then qz_b (6 + qz_c k t)
  else if o = 1 then qz_b a.toNatClampNeg
  else if o = 6 then 0
  else if o = 7 then (qz_b a.toNatClampNeg ||| qz_b b.toNatClampNeg) ||| qz_b d.toNatClampNeg
  else qz_b a.toNatClampNeg ||| qz_b b.toNatClampNeg
def qz_wr (o d k : Int32) (t : Nat) : Int32 := if o = 1 then qz_b (6 + qz_c k t) else qz_b d.toNatClampNeg
/-- an instruction's number -/
def qz_op (o : Int32) : Prop := o = 0 ∨ o = 1 ∨ o = 2 ∨ o = 3 ∨ o = 4 ∨ o = 5 ∨ o = 6 ∨ o = 7
def qz_rg (x : Int32) : Prop := ∃ j : Nat, j < 6 ∧ x = nI j
theorem qz_rg_c {x : Int32} (h : qz_rg x) : x.toNatClampNeg < 6 := by
  obtain ⟨j, hj, rfl⟩ := h
  rw [nI_clamp (by omega)]; exact hj
theorem qz_rg_e {x : Int32} (h : qz_rg x) : x = nI x.toNatClampNeg := by
  obtain ⟨j, hj, rfl⟩ := h
  rw [nI_clamp (by omega)]
theorem qz_rg_in {x : Int32} (h : qz_rg x) : vp_in x 6 := by
  obtain ⟨j, hj, rfl⟩ := h
  exact vp_in_nI hj (by omega)
theorem qz_c_lt (k : Int32) (t : Nat) : qz_c k t < 16 := by
  obtain ⟨j, hj, e⟩ := pk_andE (nI t + k) (m := 15) 4 (by decide)
  unfold qz_c
  rw [e, nI_clamp (by omega)]; omega
theorem qz_c_e (k : Int32) (t : Nat) : (nI t + k) &&& 15 = nI (qz_c k t) := by
  obtain ⟨j, hj, e⟩ := pk_andE (nI t + k) (m := 15) 4 (by decide)
  unfold qz_c
  rw [e, nI_clamp (by omega)]
theorem qz_bt {l : Nat} (hl : l < 32) (i : Nat) : bt (qz_b l) i = decide (i = l) := by
  unfold bt qz_b
  rw [nf_sh l hl, BitVec.getLsbD_twoPow]
  by_cases h : i = l
  · subst h; simp [hl]
  · have h2 : ¬ l = i := fun z => h z.symm
    simp [h, h2]
theorem qz_bt_s {l : Nat} (hl : l < 32) : bt (qz_b l) l = true := by rw [qz_bt hl]; simp
theorem qz_bt_n {l i : Nat} (hl : l < 32) (h : bt (qz_b l) i = false) : i ≠ l := by
  intro e
  rw [e, qz_bt_s hl] at h
  exact Bool.noConfusion h
theorem qz_updc {f : Nat → Int32} {i j : Nat} {x y : Int32} (h : i ≠ j) : upd (upd f i x) j y = upd (upd f j y) i x := by
  funext l
  unfold upd
  by_cases h1 : l = j
  · have h2 : ¬ l = i := by omega
    simp only [if_pos h1, if_neg h2]
  · simp only [if_neg h1]
theorem qz_or_f {x y : Int32} {i : Nat} (h : bt (x ||| y) i = false) : bt x i = false ∧ bt y i = false := by
  rw [b_or] at h
  exact Bool.or_eq_false_iff.mp h
theorem qz_v0 {d a b k : Int32} {t : Nat} {m : qz_S} : qz_v 0 d a b k t m = m.2 (qz_c k t) := by
  unfold qz_v
  rw [if_pos rfl]
theorem qz_v2 {d a b k : Int32} {t : Nat} {m : qz_S} : qz_v 2 d a b k t m = m.1 a.toNatClampNeg + m.1 b.toNatClampNeg := by
  unfold qz_v
  rw [if_neg (show ¬ (2 : Int32) = 0 by decide), if_pos rfl]
theorem qz_v3 {d a b k : Int32} {t : Nat} {m : qz_S} : qz_v 3 d a b k t m = m.1 a.toNatClampNeg - m.1 b.toNatClampNeg := by
  unfold qz_v
  rw [if_neg (show ¬ (3 : Int32) = 0 by decide), if_neg (show ¬ (3 : Int32) = 2 by decide), if_pos rfl]
theorem qz_v4 {d a b k : Int32} {t : Nat} {m : qz_S} : qz_v 4 d a b k t m = m.1 a.toNatClampNeg * m.1 b.toNatClampNeg := by
  unfold qz_v
  rw [if_neg (show ¬ (4 : Int32) = 0 by decide), if_neg (show ¬ (4 : Int32) = 2 by decide), if_neg (show ¬ (4 : Int32) = 3 by decide), if_pos rfl]
theorem qz_v5 {d a b k : Int32} {t : Nat} {m : qz_S} : qz_v 5 d a b k t m = if m.1 a.toNatClampNeg < m.1 b.toNatClampNeg then 1 else 0 := by
  unfold qz_v
  rw [if_neg (show ¬ (5 : Int32) = 0 by decide), if_neg (show ¬ (5 : Int32) = 2 by decide), if_neg (show ¬ (5 : Int32) = 3 by decide), if_neg (show ¬ (5 : Int32) = 4 by decide), if_pos rfl]
theorem qz_v6 {d a b k : Int32} {t : Nat} {m : qz_S} : qz_v 6 d a b k t m = k := by
  unfold qz_v
  rw [if_neg (show ¬ (6 : Int32) = 0 by decide), if_neg (show ¬ (6 : Int32) = 2 by decide), if_neg (show ¬ (6 : Int32) = 3 by decide), if_neg (show ¬ (6 : Int32) = 4 by decide), if_neg (show ¬ (6 : Int32) = 5 by decide), if_pos rfl]
theorem qz_v7 {d a b k : Int32} {t : Nat} {m : qz_S} : qz_v 7 d a b k t m = if m.1 d.toNatClampNeg = 0 then m.1 b.toNatClampNeg else m.1 a.toNatClampNeg := by
  unfold qz_v
  rw [if_neg (show ¬ (7 : Int32) = 0 by decide), if_neg (show ¬ (7 : Int32) = 2 by decide), if_neg (show ¬ (7 : Int32) = 3 by decide), if_neg (show ¬ (7 : Int32) = 4 by decide), if_neg (show ¬ (7 : Int32) = 5 by decide), if_neg (show ¬ (7 : Int32) = 6 by decide)]
theorem qz_rd0 {d a b k : Int32} {t : Nat} : qz_rd 0 d a b k t = qz_b (6 + qz_c k t) := by
  unfold qz_rd
  rw [if_pos rfl]
theorem qz_rd1 {d a b k : Int32} {t : Nat} : qz_rd 1 d a b k t = qz_b a.toNatClampNeg := by
  unfold qz_rd
  rw [if_neg (show ¬ (1 : Int32) = 0 by decide), if_pos rfl]
theorem qz_rd2 {d a b k : Int32} {t : Nat} : qz_rd 2 d a b k t = qz_b a.toNatClampNeg ||| qz_b b.toNatClampNeg := by
  unfold qz_rd
  rw [if_neg (show ¬ (2 : Int32) = 0 by decide), if_neg (show ¬ (2 : Int32) = 1 by decide), if_neg (show ¬ (2 : Int32) = 6 by decide), if_neg (show ¬ (2 : Int32) = 7 by decide)]
theorem qz_rd3 {d a b k : Int32} {t : Nat} : qz_rd 3 d a b k t = qz_b a.toNatClampNeg ||| qz_b b.toNatClampNeg := by
  unfold qz_rd
  rw [if_neg (show ¬ (3 : Int32) = 0 by decide), if_neg (show ¬ (3 : Int32) = 1 by decide), if_neg (show ¬ (3 : Int32) = 6 by decide), if_neg (show ¬ (3 : Int32) = 7 by decide)]
theorem qz_rd4 {d a b k : Int32} {t : Nat} : qz_rd 4 d a b k t = qz_b a.toNatClampNeg ||| qz_b b.toNatClampNeg := by
  unfold qz_rd
  rw [if_neg (show ¬ (4 : Int32) = 0 by decide), if_neg (show ¬ (4 : Int32) = 1 by decide), if_neg (show ¬ (4 : Int32) = 6 by decide), if_neg (show ¬ (4 : Int32) = 7 by decide)]
theorem qz_rd5 {d a b k : Int32} {t : Nat} : qz_rd 5 d a b k t = qz_b a.toNatClampNeg ||| qz_b b.toNatClampNeg := by
  unfold qz_rd
  rw [if_neg (show ¬ (5 : Int32) = 0 by decide), if_neg (show ¬ (5 : Int32) = 1 by decide), if_neg (show ¬ (5 : Int32) = 6 by decide), if_neg (show ¬ (5 : Int32) = 7 by decide)]
theorem qz_rd6 {d a b k : Int32} {t : Nat} : qz_rd 6 d a b k t = 0 := by
  unfold qz_rd
  rw [if_neg (show ¬ (6 : Int32) = 0 by decide), if_neg (show ¬ (6 : Int32) = 1 by decide), if_pos rfl]
theorem qz_rd7 {d a b k : Int32} {t : Nat} : qz_rd 7 d a b k t = (qz_b a.toNatClampNeg ||| qz_b b.toNatClampNeg) ||| qz_b d.toNatClampNeg := by
  unfold qz_rd
  rw [if_neg (show ¬ (7 : Int32) = 0 by decide), if_neg (show ¬ (7 : Int32) = 1 by decide), if_neg (show ¬ (7 : Int32) = 6 by decide), if_pos rfl]
theorem qz_wr1 {d k : Int32} {t : Nat} : qz_wr 1 d k t = qz_b (6 + qz_c k t) := if_pos rfl
theorem qz_wrn {o d k : Int32} {t : Nat} (h : ¬ o = 1) : qz_wr o d k t = qz_b d.toNatClampNeg := if_neg h
