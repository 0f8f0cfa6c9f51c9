/-- the step numbered j of a body of c instructions -/
def qz_stp (op tg lf rt nm : Nat → Int32) (c j : Nat) (m : qz_S) : qz_S := qz_st (op (j % c)) (tg (j % c)) (lf (j % c)) (rt (j % c)) (nm (j % c)) (j / c) m
def qz_body (op tg lf rt : Nat → Int32) (c : Nat) : Prop := ∀ p, p < c → qz_op (op p) ∧ qz_rg (tg p) ∧ qz_rg (lf p) ∧ qz_rg (rt p)
def qz_laid (op tg lf rt nm : Nat → Int32) (c : Nat) (pl tn rd wr : Nat → Int32) (j : Nat) : Prop :=
  pl j = nI (j % c) ∧ tn j = nI (j / c) ∧ rd j = qz_rd (op (j % c)) (tg (j % c)) (lf (j % c)) (rt (j % c)) (nm (j % c)) (j / c) ∧ wr j = qz_wr (op (j % c)) (tg (j % c)) (nm (j % c)) (j / c)
/-- e is left, and clashes with none of those from o on that are left before it -/
def qz_ch (dn rd wr : Nat → Int32) (o e : Nat) : Prop := dn e = 0 ∧ ∀ i, o ≤ i → i < e → dn i = 0 → qz_ind (rd e) (wr e) (rd i) (wr i)
theorem qz_next {op tg lf rt nm : Nat → Int32} {c : Nat} {pl tn rd wr dn : Nat → Int32} {T o e : Nat} (hc : 0 < c) (hb : qz_body op tg lf rt c) (hl : ∀ j, j < T → qz_laid op tg lf rt nm c pl tn rd wr j) (he : e < T) (ho : ∀ i, i < o → ¬ dn i = 0) (h : qz_ch dn rd wr o e) (m : qz_S) :
    qz_ex (qz_stp op tg lf rt nm c) (upd dn e 1) T (qz_stp op tg lf rt nm c e m) = qz_ex (qz_stp op tg lf rt nm c) dn T m ∧ qz_cn (upd dn e 1) T + 1 = qz_cn dn T := by
  obtain ⟨d, rfl⟩ : ∃ d, T = e + 1 + d := ⟨T - (e + 1), by omega⟩
  refine ⟨qz_take h.1 (fun i hi h0 m => ?_) m d, qz_cn_upd h.1 d⟩
  have hoi : o ≤ i := by
    rcases Nat.lt_or_ge i o with z | z
    · exact absurd h0 (ho i z)
    · exact z
  have hind := h.2 i hoi hi h0
  obtain ⟨_, _, r1, w1⟩ := hl e he
  obtain ⟨_, _, r2, w2⟩ := hl i (by omega)
  rw [r1, w1, r2, w2] at hind
  obtain ⟨a1, a2, a3, a4⟩ := hb (e % c) (Nat.mod_lt _ hc)
  obtain ⟨b1, b2, b3, b4⟩ := hb (i % c) (Nat.mod_lt _ hc)
  exact qz_comm a1 b1 a2 a3 a4 b2 b3 b4 hind m
/-- what the scan holds at step j: e is chosen, R and W cover what the steps left from o to j read and write -/
def qz_sc (dn rd wr : Nat → Int32) (o j e : Nat) (R W : Int32) : Prop :=
  (j = o → e = o ∧ R = 0 ∧ W = 0) ∧ (o < j → o ≤ e ∧ e < j ∧ qz_ch dn rd wr o e) ∧ o ≤ j ∧
  ∀ i, o ≤ i → i < j → dn i = 0 → ∀ l, (bt (rd i) l = true → bt R l = true) ∧ (bt (wr i) l = true → bt W l = true)
theorem qz_sc0 {dn rd wr : Nat → Int32} {o : Nat} : qz_sc dn rd wr o o o 0 0 :=
  ⟨fun _ => ⟨rfl, rfl, rfl⟩, fun h => absurd h (Nat.lt_irrefl o), Nat.le_refl o, fun i h1 h2 => by omega⟩
theorem qz_sc_skip {dn rd wr : Nat → Int32} {o j e : Nat} {R W : Int32} (h0 : dn o = 0) (h : qz_sc dn rd wr o j e R W) (hj : ¬ dn j = 0) : qz_sc dn rd wr o (j + 1) e R W := by
  obtain ⟨h1, h2, h3, h4⟩ := h
  have hlt : o < j := by
    rcases Nat.lt_or_ge o j with z | z
    · exact z
    · have : j = o := by omega
      subst this; exact absurd h0 hj
  obtain ⟨a, b, c⟩ := h2 hlt
  refine ⟨fun z => by omega, fun _ => ⟨a, by omega, c⟩, by omega, fun i hi hi2 hd l => ?_⟩
  rcases Nat.lt_or_ge i j with z | z
  · exact h4 i hi z hd l
  · have : i = j := by omega
    subst this; exact absurd hd hj
theorem qz_cov {dn rd wr : Nat → Int32} {o j : Nat} {R W : Int32} (h4 : ∀ i, o ≤ i → i < j → dn i = 0 → ∀ l, (bt (rd i) l = true → bt R l = true) ∧ (bt (wr i) l = true → bt W l = true)) :
    ∀ i, o ≤ i → i < j + 1 → dn i = 0 → ∀ l, (bt (rd i) l = true → bt (R ||| rd j) l = true) ∧ (bt (wr i) l = true → bt (W ||| wr j) l = true) := by
  intro i hi hi2 hd l
  rw [b_or, b_or]
  rcases Nat.lt_or_ge i j with z | z
  · exact ⟨fun q => by rw [(h4 i hi z hd l).1 q]; rfl, fun q => by rw [(h4 i hi z hd l).2 q]; rfl⟩
  · have : i = j := by omega
    subst this
    exact ⟨fun q => by rw [q, Bool.or_true], fun q => by rw [q, Bool.or_true]⟩
theorem qz_sc_take {dn rd wr : Nat → Int32} {o j e : Nat} {R W : Int32} (h : qz_sc dn rd wr o j e R W) (hj : dn j = 0) (hcl : (rd j &&& W) ||| (wr j &&& (R ||| W)) = 0) : qz_sc dn rd wr o (j + 1) j (R ||| rd j) (W ||| wr j) := by
  obtain ⟨h1, h2, h3, h4⟩ := h
  refine ⟨fun z => by omega, fun _ => ⟨h3, by omega, hj, fun i hi hi2 hd l => ?_⟩, by omega, qz_cov h4⟩
  have q := qz_clash hcl l
  have p := h4 i hi hi2 hd l
  exact ⟨fun z => q.1 (p.2 z), fun z => q.2 (p.1 z)⟩
theorem qz_sc_leave {dn rd wr : Nat → Int32} {o j e : Nat} {R W : Int32} (h : qz_sc dn rd wr o j e R W) (hcl : ¬ (rd j &&& W) ||| (wr j &&& (R ||| W)) = 0) : qz_sc dn rd wr o (j + 1) e (R ||| rd j) (W ||| wr j) := by
  obtain ⟨h1, h2, h3, h4⟩ := h
  have hlt : o < j := by
    rcases Nat.lt_or_ge o j with z | z
    · exact z
    · have z2 : j = o := by omega
      obtain ⟨_, e1, e2⟩ := h1 z2
      rw [e1, e2] at hcl
      exact absurd (by simp) hcl
  obtain ⟨a, b, c⟩ := h2 hlt
  exact ⟨fun z => by omega, fun _ => ⟨a, by omega, c⟩, by omega, qz_cov h4⟩
/-- the oldest step left -/
theorem qz_old {dn : Nat → Int32} {T o : Nat} (ho : ∀ i, i < o → ¬ dn i = 0) (hoT : o < T) (hw : ¬ o < T - 1 ∨ dn o = 0) (hcn : 0 < qz_cn dn T) : dn o = 0 := by
  rcases hw with z | z
  · have e : T = o + 1 := by omega
    subst e
    rw [qz_cn_s, qz_cn_0 o ho] at hcn
    by_cases h : dn o = 0
    · exact h
    · rw [if_neg h] at hcn; omega
  · exact z
/-- how a turn's step is numbered -/
theorem qz_num {c t p : Nat} (h : p < c) : (t * c + p) % c = p ∧ (t * c + p) / c = t := by
  have hc : 0 < c := by omega
  constructor
  · rw [Nat.add_comm, Nat.add_mul_mod_self_right, Nat.mod_eq_of_lt h]
  · rw [Nat.add_comm, Nat.add_mul_div_right _ _ hc, Nat.div_eq_of_lt h, Nat.zero_add]
