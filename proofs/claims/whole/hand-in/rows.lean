section
theorem pk_us {f : Nat → Int32} {k : Nat} {x : Int32} : upd f k x k = x := if_pos rfl
theorem pk_un {f : Nat → Int32} {k j : Nat} {x : Int32} (h : j ≠ k) : upd f k x j = f j := if_neg h
theorem pk_sub {a b : Nat} (h : b ≤ a) : nI a - nI b = nI (a - b) := by
  obtain ⟨c, rfl⟩ : ∃ c, a = c + b := ⟨a - b, by omega⟩
  rw [← nI_add, Int32.add_sub_cancel, Nat.add_sub_cancel]
theorem pk_m1 (n : Nat) : nI (n + 1) + (-1) = nI n := by
  rw [← nI_1, Int32.add_assoc, show (1 : Int32) + (-1) = 0 from rfl, Int32.add_zero]
theorem pk_mul (a b : Nat) : nI a * nI b = nI (a * b) := (Int32.ofNat_mul a b).symm
theorem pk_ix (x : Int32) {n : Nat} (hn : n < 2 ^ 31) : x < 0 ∨ nI n ≤ x ∨ ∃ j : Nat, j < n ∧ x = nI j := by
  by_cases h : x < 0
  · exact Or.inl h
  · obtain ⟨j, hj, rfl⟩ := nI_of h
    by_cases h2 : j < n
    · exact Or.inr (Or.inr ⟨j, h2, rfl⟩)
    · exact Or.inr (Or.inl (nI_le (by omega) hj))
theorem pk_le {x y : Int32} {A B : Prop} (a b : Nat) (f : a ≤ b → A) (g : b < a → B) (hx : x = nI a := by rfl) (hy : y = nI b := by rfl) (ha : a < 2 ^ 31 := by omega) (hb : b < 2 ^ 31 := by omega) : (x ≤ y → A) ∧ (¬ x ≤ y → B) := by
  subst hx hy
  rw [nI_leI ha hb]
  exact ⟨f, fun z => g (by omega)⟩
theorem pk_lt {x y : Int32} {A B : Prop} (a b : Nat) (f : a < b → A) (g : b ≤ a → B) (hx : x = nI a := by rfl) (hy : y = nI b := by rfl) (ha : a < 2 ^ 31 := by omega) (hb : b < 2 ^ 31 := by omega) : (x < y → A) ∧ (¬ x < y → B) := by
  subst hx hy
  rw [nI_ltI ha hb]
  exact ⟨f, fun z => g (by omega)⟩
theorem pk_eq {x y : Int32} {A B : Prop} (a b : Nat) (f : a = b → A) (g : a ≠ b → B) (hx : x = nI a := by rfl) (hy : y = nI b := by rfl) (ha : a < 2 ^ 31 := by omega) (hb : b < 2 ^ 31 := by omega) : (x = y → A) ∧ (¬ x = y → B) := by
  subst hx hy
  rw [nI_eq ha hb]
  exact ⟨f, g⟩
theorem pk_in {x : Int32} (n N : Nat) (h : n < N) (hx : x = nI n := by rfl) (hN : N < 2 ^ 31 := by omega) : vp_in x N := by
  subst hx
  exact vp_in_nI h hN
theorem pk_cl {x : Int32} (n : Nat) (hx : x = nI n := by rfl) (h : n < 2 ^ 31 := by omega) : x.toNatClampNeg = n := by
  subst hx
  exact nI_clamp h
theorem pk_tn {n : Nat} (h : n < 2 ^ 32) : (nI n).toBitVec.toNat = n := Nat.mod_eq_of_lt h
theorem pk_and (x : Int32) {m : Int32} (k : Nat) (hm : m.toBitVec.toNat = 2 ^ k - 1) : x &&& m = nI (x.toBitVec.toNat % 2 ^ k) := by
  apply Int32.toBitVec_inj.mp
  apply BitVec.eq_of_toNat_eq
  rw [Int32.toBitVec_and, BitVec.toNat_and, hm, Nat.and_two_pow_sub_one_eq_mod]
  show _ = (BitVec.ofNat 32 _).toNat
  rw [BitVec.toNat_ofNat]
  exact (Nat.mod_eq_of_lt (Nat.lt_of_le_of_lt (Nat.mod_le _ _) x.toBitVec.isLt)).symm
theorem pk_andN {n : Nat} (h : n < 2 ^ 32) {m : Int32} (k : Nat) (hm : m.toBitVec.toNat = 2 ^ k - 1) : nI n &&& m = nI (n % 2 ^ k) := by
  rw [pk_and _ k hm, pk_tn h]
theorem pk_andE (x : Int32) {m : Int32} (k : Nat) (hm : m.toBitVec.toNat = 2 ^ k - 1) : ∃ j : Nat, j < 2 ^ k ∧ x &&& m = nI j := ⟨_, Nat.mod_lt _ (Nat.two_pow_pos k), pk_and x k hm⟩
theorem pk_andIn (x : Int32) {m : Int32} (k : Nat) (hm : m.toBitVec.toNat = 2 ^ k - 1) (hk : k ≤ 30) : vp_in (x &&& m) (2 ^ k) := by
  obtain ⟨j, hj, e⟩ := pk_andE x k hm
  rw [e]
  exact vp_in_nI hj (Nat.lt_of_le_of_lt (Nat.pow_le_pow_right (by decide) hk) (by decide))
theorem pk_loop {σ : Type} (W : Nat → Nat → σ → Prop) (I : Nat → σ → Prop) (e i0 : Nat) (s : σ) (hi : i0 ≤ e) (h0 : I i0 s) (hx : ∀ n s, I e s → W (n + 1) e s)
    (hs : ∀ n i s, i < e → I i s → (∀ s', I (i + 1) s' → W n (i + 1) s') → W (n + 1) i s) : ∃ n, W n i0 s :=
  ⟨e + 1, loop_i W I e hx hs (e + 1) i0 s hi (by omega) h0⟩
def bt (x : Int32) (i : Nat) : Bool := x.toBitVec.getLsbD i
theorem b_ext {x y : Int32} (h : ∀ i, i < 32 → bt x i = bt y i) : x = y := Int32.toBitVec_inj.mp (BitVec.eq_of_getLsbD_eq (fun i hi => h i hi))
theorem b_or (x y : Int32) (i : Nat) : bt (x ||| y) i = (bt x i || bt y i) := by unfold bt; rw [Int32.toBitVec_or, BitVec.getLsbD_or]
theorem b_and (x y : Int32) (i : Nat) : bt (x &&& y) i = (bt x i && bt y i) := by unfold bt; rw [Int32.toBitVec_and, BitVec.getLsbD_and]
theorem b_big {x : Int32} {i : Nat} (h : 32 ≤ i) : bt x i = false := BitVec.getLsbD_of_ge _ _ h
theorem b_0 (i : Nat) : bt 0 i = false := BitVec.getLsbD_zero
theorem nf_sh : ∀ l, l < 32 → ((1 : Int32) <<< (nI l &&& 31)).toBitVec = BitVec.twoPow 32 l := by decide +kernel
end
section
abbrev qz_S : Type := (Nat → Int32) × (Nat → Int32)
/-- the first j steps in turn, but for those that are done -/
def qz_ex (st : Nat → qz_S → qz_S) (dn : Nat → Int32) : Nat → qz_S → qz_S
  | 0 => fun m => m
  | j + 1 => fun m => if dn j = 0 then st j (qz_ex st dn j m) else qz_ex st dn j m
theorem qz_ex_s (st : Nat → qz_S → qz_S) (dn : Nat → Int32) (j : Nat) (m : qz_S) : qz_ex st dn (j + 1) m = if dn j = 0 then st j (qz_ex st dn j m) else qz_ex st dn j m := rfl
theorem qz_ex_congr {st : Nat → qz_S → qz_S} {dn dn' : Nat → Int32} {m : qz_S} : ∀ j, (∀ i, i < j → dn i = dn' i) → qz_ex st dn j m = qz_ex st dn' j m := by
  intro j
  induction j with
  | zero => intro _; rfl
  | succ j ih =>
    intro h
    rw [qz_ex_s, qz_ex_s, h j (by omega), ih (fun i hi => h i (by omega))]
theorem qz_ex_done {st : Nat → qz_S → qz_S} {dn : Nat → Int32} {m : qz_S} : ∀ j, (∀ i, i < j → ¬ dn i = 0) → qz_ex st dn j m = m := by
  intro j
  induction j with
  | zero => intro _; rfl
  | succ j ih =>
    intro h
    rw [qz_ex_s, if_neg (h j (by omega)), ih (fun i hi => h i (by omega))]
theorem qz_swap {st : Nat → qz_S → qz_S} {dn : Nat → Int32} {e : Nat} (hc : ∀ i, i < e → dn i = 0 → ∀ m, st i (st e m) = st e (st i m)) : ∀ j, j ≤ e → ∀ m, qz_ex st dn j (st e m) = st e (qz_ex st dn j m) := by
  intro j
  induction j with
  | zero => intro _ m; rfl
  | succ j ih =>
    intro hj m
    rw [qz_ex_s, qz_ex_s, ih (by omega)]
    by_cases h : dn j = 0
    · rw [if_pos h, if_pos h]; exact hc j (by omega) h _
    · rw [if_neg h, if_neg h]
theorem qz_take {st : Nat → qz_S → qz_S} {dn : Nat → Int32} {e : Nat} (h0 : dn e = 0) (hc : ∀ i, i < e → dn i = 0 → ∀ m, st i (st e m) = st e (st i m)) (m : qz_S) : ∀ d, qz_ex st (upd dn e 1) (e + 1 + d) (st e m) = qz_ex st dn (e + 1 + d) m := by
  intro d
  induction d with
  | zero =>
    show qz_ex st (upd dn e 1) (e + 1) (st e m) = qz_ex st dn (e + 1) m
    rw [qz_ex_s, qz_ex_s, if_neg (by rw [pk_us]; decide), if_pos h0, qz_ex_congr (dn' := dn) e (fun i hi => pk_un (by omega)), qz_swap hc e (Nat.le_refl e)]
  | succ d ih =>
    show qz_ex st (upd dn e 1) ((e + 1 + d) + 1) (st e m) = qz_ex st dn ((e + 1 + d) + 1) m
    rw [qz_ex_s, qz_ex_s, ih, pk_un (by omega)]
/-- how many of the first j steps are left -/
def qz_cn (dn : Nat → Int32) : Nat → Nat
  | 0 => 0
  | j + 1 => (if dn j = 0 then 1 else 0) + qz_cn dn j
theorem qz_cn_s (dn : Nat → Int32) (j : Nat) : qz_cn dn (j + 1) = (if dn j = 0 then 1 else 0) + qz_cn dn j := rfl
theorem qz_cn_0 {dn : Nat → Int32} : ∀ j, (∀ i, i < j → ¬ dn i = 0) → qz_cn dn j = 0 := by
  intro j
  induction j with
  | zero => intro _; rfl
  | succ j ih =>
    intro h
    rw [qz_cn_s, if_neg (h j (by omega)), ih (fun i hi => h i (by omega))]
theorem qz_cn_all {dn : Nat → Int32} : ∀ j, qz_cn dn j = 0 → ∀ i, i < j → ¬ dn i = 0 := by
  intro j
  induction j with
  | zero => intro _ i hi; omega
  | succ j ih =>
    intro h i hi
    rw [qz_cn_s] at h
    by_cases hj : dn j = 0
    · rw [if_pos hj] at h; omega
    · rcases Nat.lt_or_ge i j with hl | hl
      · exact ih (by omega) i hl
      · have e : i = j := by omega
        rw [e]; exact hj
theorem qz_cn_full {dn : Nat → Int32} : ∀ j, (∀ i, i < j → dn i = 0) → qz_cn dn j = j := by
  intro j
  induction j with
  | zero => intro _; rfl
  | succ j ih =>
    intro h
    rw [qz_cn_s, if_pos (h j (by omega)), ih (fun i hi => h i (by omega))]; omega
theorem qz_cn_congr {dn dn' : Nat → Int32} : ∀ j, (∀ i, i < j → dn i = dn' i) → qz_cn dn j = qz_cn dn' j := by
  intro j
  induction j with
  | zero => intro _; rfl
  | succ j ih =>
    intro h
    rw [qz_cn_s, qz_cn_s, h j (by omega), ih (fun i hi => h i (by omega))]
theorem qz_cn_upd {dn : Nat → Int32} {e : Nat} (h0 : dn e = 0) : ∀ d, qz_cn (upd dn e 1) (e + 1 + d) + 1 = qz_cn dn (e + 1 + d) := by
  intro d
  induction d with
  | zero =>
    show qz_cn (upd dn e 1) (e + 1) + 1 = qz_cn dn (e + 1)
    rw [qz_cn_s, qz_cn_s, if_neg (by rw [pk_us]; decide), if_pos h0, qz_cn_congr (dn' := dn) e (fun i hi => pk_un (by omega))]; omega
  | succ d ih =>
    show qz_cn (upd dn e 1) ((e + 1 + d) + 1) + 1 = qz_cn dn ((e + 1 + d) + 1)
    rw [qz_cn_s, qz_cn_s, pk_un (by omega)]; omega
/-! one step: its cell, its result, what it does, what it reads and writes as bits -/
def qz_c (k : Int32) (t : Nat) : Nat := ((nI t + k) &&& 15).toNatClampNeg
def qz_v (o d a b k : Int32) (t : Nat) (m : qz_S) : Int32 :=
  if o = 0 then m.2 (qz_c k t)
  else if o = 2 then m.1 a.toNatClampNeg + m.1 b.toNatClampNeg
  else if o = 3 then m.1 a.toNatClampNeg - m.1 b.toNatClampNeg
  else if o = 4 then m.1 a.toNatClampNeg * m.1 b.toNatClampNeg
  else if o = 5 then (if m.1 a.toNatClampNeg < m.1 b.toNatClampNeg then 1 else 0)
  else if o = 6 then k
  else (if m.1 d.toNatClampNeg = 0 then m.1 b.toNatClampNeg else m.1 a.toNatClampNeg)
def qz_st (o d a b k : Int32) (t : Nat) (m : qz_S) : qz_S :=
  if o = 1 then (m.1, upd m.2 (qz_c k t) (m.1 a.toNatClampNeg)) else (upd m.1 d.toNatClampNeg (qz_v o d a b k t m), m.2)
def qz_b (l : Nat) : Int32 := (1 : Int32) <<< (nI l &&& 31)
def qz_rd (o d a b k : Int32) (t : Nat) : Int32 :=
  if o = 0 then qz_b (6 + qz_c k t)
  else if o = 1 then qz_b a.toNatClampNeg
  else if o = 6 then 0
  else if o = 7 then (qz_b a.toNatClampNeg ||| qz_b b.toNatClampNeg) ||| qz_b d.toNatClampNeg
  else qz_b a.toNatClampNeg ||| qz_b b.toNatClampNeg
def qz_wr (o d k : Int32) (t : Nat) : Int32 := if o = 1 then qz_b (6 + qz_c k t) else qz_b d.toNatClampNeg
/-- an instruction's number -/
def qz_op (o : Int32) : Prop := o = 0 ∨ o = 1 ∨ o = 2 ∨ o = 3 ∨ o = 4 ∨ o = 5 ∨ o = 6 ∨ o = 7
def qz_rg (x : Int32) : Prop := ∃ j : Nat, j < 6 ∧ x = nI j
theorem qz_rg_c {x : Int32} (h : qz_rg x) : x.toNatClampNeg < 6 := by
  obtain ⟨j, hj, rfl⟩ := h
  rw [nI_clamp (by omega)]; exact hj
theorem qz_rg_e {x : Int32} (h : qz_rg x) : x = nI x.toNatClampNeg := by
  obtain ⟨j, hj, rfl⟩ := h
  rw [nI_clamp (by omega)]
theorem qz_rg_in {x : Int32} (h : qz_rg x) : vp_in x 6 := by
  obtain ⟨j, hj, rfl⟩ := h
  exact vp_in_nI hj (by omega)
theorem qz_c_lt (k : Int32) (t : Nat) : qz_c k t < 16 := by
  obtain ⟨j, hj, e⟩ := pk_andE (nI t + k) (m := 15) 4 (by decide)
  unfold qz_c
  rw [e, nI_clamp (by omega)]; omega
theorem qz_c_e (k : Int32) (t : Nat) : (nI t + k) &&& 15 = nI (qz_c k t) := by
  obtain ⟨j, hj, e⟩ := pk_andE (nI t + k) (m := 15) 4 (by decide)
  unfold qz_c
  rw [e, nI_clamp (by omega)]
theorem qz_bt {l : Nat} (hl : l < 32) (i : Nat) : bt (qz_b l) i = decide (i = l) := by
  unfold bt qz_b
  rw [nf_sh l hl, BitVec.getLsbD_twoPow]
  by_cases h : i = l
  · subst h; simp [hl]
  · have h2 : ¬ l = i := fun z => h z.symm
    simp [h, h2]
theorem qz_bt_s {l : Nat} (hl : l < 32) : bt (qz_b l) l = true := by rw [qz_bt hl]; simp
theorem qz_bt_n {l i : Nat} (hl : l < 32) (h : bt (qz_b l) i = false) : i ≠ l := by
  intro e
  rw [e, qz_bt_s hl] at h
  exact Bool.noConfusion h
theorem qz_updc {f : Nat → Int32} {i j : Nat} {x y : Int32} (h : i ≠ j) : upd (upd f i x) j y = upd (upd f j y) i x := by
  funext l
  unfold upd
  by_cases h1 : l = j
  · have h2 : ¬ l = i := by omega
    simp only [if_pos h1, if_neg h2]
  · simp only [if_neg h1]
theorem qz_or_f {x y : Int32} {i : Nat} (h : bt (x ||| y) i = false) : bt x i = false ∧ bt y i = false := by
  rw [b_or] at h
  exact Bool.or_eq_false_iff.mp h
theorem qz_v0 {d a b k : Int32} {t : Nat} {m : qz_S} : qz_v 0 d a b k t m = m.2 (qz_c k t) := by
  unfold qz_v
  rw [if_pos rfl]
theorem qz_v2 {d a b k : Int32} {t : Nat} {m : qz_S} : qz_v 2 d a b k t m = m.1 a.toNatClampNeg + m.1 b.toNatClampNeg := by
  unfold qz_v
  rw [if_neg (show ¬ (2 : Int32) = 0 by decide), if_pos rfl]
theorem qz_v3 {d a b k : Int32} {t : Nat} {m : qz_S} : qz_v 3 d a b k t m = m.1 a.toNatClampNeg - m.1 b.toNatClampNeg := by
  unfold qz_v
  rw [if_neg (show ¬ (3 : Int32) = 0 by decide), if_neg (show ¬ (3 : Int32) = 2 by decide), if_pos rfl]
theorem qz_v4 {d a b k : Int32} {t : Nat} {m : qz_S} : qz_v 4 d a b k t m = m.1 a.toNatClampNeg * m.1 b.toNatClampNeg := by
  unfold qz_v
  rw [if_neg (show ¬ (4 : Int32) = 0 by decide), if_neg (show ¬ (4 : Int32) = 2 by decide), if_neg (show ¬ (4 : Int32) = 3 by decide), if_pos rfl]
theorem qz_v5 {d a b k : Int32} {t : Nat} {m : qz_S} : qz_v 5 d a b k t m = if m.1 a.toNatClampNeg < m.1 b.toNatClampNeg then 1 else 0 := by
  unfold qz_v
  rw [if_neg (show ¬ (5 : Int32) = 0 by decide), if_neg (show ¬ (5 : Int32) = 2 by decide), if_neg (show ¬ (5 : Int32) = 3 by decide), if_neg (show ¬ (5 : Int32) = 4 by decide), if_pos rfl]
theorem qz_v6 {d a b k : Int32} {t : Nat} {m : qz_S} : qz_v 6 d a b k t m = k := by
  unfold qz_v
  rw [if_neg (show ¬ (6 : Int32) = 0 by decide), if_neg (show ¬ (6 : Int32) = 2 by decide), if_neg (show ¬ (6 : Int32) = 3 by decide), if_neg (show ¬ (6 : Int32) = 4 by decide), if_neg (show ¬ (6 : Int32) = 5 by decide), if_pos rfl]
theorem qz_v7 {d a b k : Int32} {t : Nat} {m : qz_S} : qz_v 7 d a b k t m = if m.1 d.toNatClampNeg = 0 then m.1 b.toNatClampNeg else m.1 a.toNatClampNeg := by
  unfold qz_v
  rw [if_neg (show ¬ (7 : Int32) = 0 by decide), if_neg (show ¬ (7 : Int32) = 2 by decide), if_neg (show ¬ (7 : Int32) = 3 by decide), if_neg (show ¬ (7 : Int32) = 4 by decide), if_neg (show ¬ (7 : Int32) = 5 by decide), if_neg (show ¬ (7 : Int32) = 6 by decide)]
theorem qz_rd0 {d a b k : Int32} {t : Nat} : qz_rd 0 d a b k t = qz_b (6 + qz_c k t) := by
  unfold qz_rd
  rw [if_pos rfl]
theorem qz_rd1 {d a b k : Int32} {t : Nat} : qz_rd 1 d a b k t = qz_b a.toNatClampNeg := by
  unfold qz_rd
  rw [if_neg (show ¬ (1 : Int32) = 0 by decide), if_pos rfl]
theorem qz_rd2 {d a b k : Int32} {t : Nat} : qz_rd 2 d a b k t = qz_b a.toNatClampNeg ||| qz_b b.toNatClampNeg := by
  unfold qz_rd
  rw [if_neg (show ¬ (2 : Int32) = 0 by decide), if_neg (show ¬ (2 : Int32) = 1 by decide), if_neg (show ¬ (2 : Int32) = 6 by decide), if_neg (show ¬ (2 : Int32) = 7 by decide)]
theorem qz_rd3 {d a b k : Int32} {t : Nat} : qz_rd 3 d a b k t = qz_b a.toNatClampNeg ||| qz_b b.toNatClampNeg := by
  unfold qz_rd
  rw [if_neg (show ¬ (3 : Int32) = 0 by decide), if_neg (show ¬ (3 : Int32) = 1 by decide), if_neg (show ¬ (3 : Int32) = 6 by decide), if_neg (show ¬ (3 : Int32) = 7 by decide)]
theorem qz_rd4 {d a b k : Int32} {t : Nat} : qz_rd 4 d a b k t = qz_b a.toNatClampNeg ||| qz_b b.toNatClampNeg := by
  unfold qz_rd
  rw [if_neg (show ¬ (4 : Int32) = 0 by decide), if_neg (show ¬ (4 : Int32) = 1 by decide), if_neg (show ¬ (4 : Int32) = 6 by decide), if_neg (show ¬ (4 : Int32) = 7 by decide)]
theorem qz_rd5 {d a b k : Int32} {t : Nat} : qz_rd 5 d a b k t = qz_b a.toNatClampNeg ||| qz_b b.toNatClampNeg := by
  unfold qz_rd
  rw [if_neg (show ¬ (5 : Int32) = 0 by decide), if_neg (show ¬ (5 : Int32) = 1 by decide), if_neg (show ¬ (5 : Int32) = 6 by decide), if_neg (show ¬ (5 : Int32) = 7 by decide)]
theorem qz_rd6 {d a b k : Int32} {t : Nat} : qz_rd 6 d a b k t = 0 := by
  unfold qz_rd
  rw [if_neg (show ¬ (6 : Int32) = 0 by decide), if_neg (show ¬ (6 : Int32) = 1 by decide), if_pos rfl]
theorem qz_rd7 {d a b k : Int32} {t : Nat} : qz_rd 7 d a b k t = (qz_b a.toNatClampNeg ||| qz_b b.toNatClampNeg) ||| qz_b d.toNatClampNeg := by
  unfold qz_rd
  rw [if_neg (show ¬ (7 : Int32) = 0 by decide), if_neg (show ¬ (7 : Int32) = 1 by decide), if_neg (show ¬ (7 : Int32) = 6 by decide), if_pos rfl]
theorem qz_wr1 {d k : Int32} {t : Nat} : qz_wr 1 d k t = qz_b (6 + qz_c k t) := if_pos rfl
theorem qz_wrn {o d k : Int32} {t : Nat} (h : ¬ o = 1) : qz_wr o d k t = qz_b d.toNatClampNeg := if_neg h
end
section
theorem qz_un {f : Nat → Int32} {k j : Nat} {x : Int32} (h : k ≠ j) : upd f k x j = f j := pk_un (fun z => h z.symm)
/-- a register that isn't read doesn't matter -/
theorem qz_vR {o d a b k : Int32} {t : Nat} {R C : Nat → Int32} {r : Nat} {x : Int32} (ho : qz_op o) (h1 : ¬ o = 1) (hd : qz_rg d) (ha : qz_rg a) (hb : qz_rg b) (h : bt (qz_rd o d a b k t) r = false) : qz_v o d a b k t (upd R r x, C) = qz_v o d a b k t (R, C) := by
  have hd' := qz_rg_c hd
  have ha' := qz_rg_c ha
  have hb' := qz_rg_c hb
  have two : bt (qz_b a.toNatClampNeg ||| qz_b b.toNatClampNeg) r = false → upd R r x a.toNatClampNeg = R a.toNatClampNeg ∧ upd R r x b.toNatClampNeg = R b.toNatClampNeg := fun z =>
    ⟨qz_un (qz_bt_n (by omega) (qz_or_f z).1), qz_un (qz_bt_n (by omega) (qz_or_f z).2)⟩
  rcases ho with e | e | e | e | e | e | e | e <;> subst e
  · rw [qz_v0, qz_v0]
  · exact absurd rfl h1
  · rw [qz_rd2] at h
    obtain ⟨p, q⟩ := two h
    rw [qz_v2, qz_v2]
    dsimp only
    rw [p, q]
  · rw [qz_rd3] at h
    obtain ⟨p, q⟩ := two h
    rw [qz_v3, qz_v3]
    dsimp only
    rw [p, q]
  · rw [qz_rd4] at h
    obtain ⟨p, q⟩ := two h
    rw [qz_v4, qz_v4]
    dsimp only
    rw [p, q]
  · rw [qz_rd5] at h
    obtain ⟨p, q⟩ := two h
    rw [qz_v5, qz_v5]
    simp only [p, q]
  · rw [qz_v6, qz_v6]
  · rw [qz_rd7] at h
    obtain ⟨p, q⟩ := two (qz_or_f h).1
    have s : upd R r x d.toNatClampNeg = R d.toNatClampNeg := qz_un (qz_bt_n (by omega) (qz_or_f h).2)
    rw [qz_v7, qz_v7]
    simp only [p, q, s]
/-- a cell that isn't read doesn't matter -/
theorem qz_vC {o d a b k : Int32} {t : Nat} {R C : Nat → Int32} {c : Nat} {x : Int32} (ho : qz_op o) (h1 : ¬ o = 1) (h : bt (qz_rd o d a b k t) (6 + c) = false) : qz_v o d a b k t (R, upd C c x) = qz_v o d a b k t (R, C) := by
  have hc := qz_c_lt k t
  rcases ho with e | e | e | e | e | e | e | e <;> subst e
  · rw [qz_rd0] at h
    have n := qz_bt_n (by omega) h
    rw [qz_v0, qz_v0]
    exact qz_un (by omega)
  · exact absurd rfl h1
  · rw [qz_v2, qz_v2]
  · rw [qz_v3, qz_v3]
  · rw [qz_v4, qz_v4]
  · rw [qz_v5, qz_v5]
  · rw [qz_v6, qz_v6]
  · rw [qz_v7, qz_v7]
/-- a register that a store doesn't read doesn't matter -/
theorem qz_aR {d a b k : Int32} {t : Nat} {R : Nat → Int32} {r : Nat} {x : Int32} (ha : qz_rg a) (h : bt (qz_rd 1 d a b k t) r = false) : upd R r x a.toNatClampNeg = R a.toNatClampNeg := by
  have ha' := qz_rg_c ha
  rw [qz_rd1] at h
  exact qz_un (qz_bt_n (by omega) h)
theorem qz_st1 {d a b k : Int32} {t : Nat} {R C : Nat → Int32} : qz_st 1 d a b k t (R, C) = (R, upd C (qz_c k t) (R a.toNatClampNeg)) := by
  unfold qz_st
  rw [if_pos rfl]
theorem qz_stn {o d a b k : Int32} {t : Nat} {R C : Nat → Int32} (h : ¬ o = 1) : qz_st o d a b k t (R, C) = (upd R d.toNatClampNeg (qz_v o d a b k t (R, C)), C) := by
  unfold qz_st
  rw [if_neg h]
/-- neither writes what the other reads or writes: rd, wr of the later one; rd', wr' of the earlier one -/
def qz_ind (rd wr rd' wr' : Int32) : Prop := ∀ l, (bt wr' l = true → bt rd l = false ∧ bt wr l = false) ∧ (bt rd' l = true → bt wr l = false)
theorem qz_comm {o d a b k o' d' a' b' k' : Int32} {t t' : Nat} (ho : qz_op o) (ho' : qz_op o') (hd : qz_rg d) (ha : qz_rg a) (hb : qz_rg b) (hd' : qz_rg d') (ha' : qz_rg a') (hb' : qz_rg b')
    (hi : qz_ind (qz_rd o d a b k t) (qz_wr o d k t) (qz_rd o' d' a' b' k' t') (qz_wr o' d' k' t')) (m : qz_S) :
    qz_st o' d' a' b' k' t' (qz_st o d a b k t m) = qz_st o d a b k t (qz_st o' d' a' b' k' t' m) := by
  obtain ⟨R, C⟩ := m
  have hcd := qz_rg_c hd
  have hcd' := qz_rg_c hd'
  have hcc := qz_c_lt k t
  have hcc' := qz_c_lt k' t'
  have B : ∀ l, bt (qz_wr o d k t) l = true → bt (qz_rd o' d' a' b' k' t') l = false := by
    intro l hl
    cases z : bt (qz_rd o' d' a' b' k' t') l
    · rfl
    · rw [(hi l).2 z] at hl; exact Bool.noConfusion hl
  by_cases h1 : o = 1
  · subst h1
    have w : bt (qz_wr 1 d k t) (6 + qz_c k t) = true := by rw [qz_wr1]; exact qz_bt_s (by omega)
    by_cases h1' : o' = 1
    · subst h1'
      have w' : bt (qz_wr 1 d' k' t') (6 + qz_c k' t') = true := by rw [qz_wr1]; exact qz_bt_s (by omega)
      have n : bt (qz_b (6 + qz_c k t)) (6 + qz_c k' t') = false := by rw [← qz_wr1 (d := d)]; exact ((hi _).1 w').2
      have n' := qz_bt_n (by omega) n
      simp only [qz_st1]
      rw [qz_updc (by omega)]
    · have e' : qz_wr o' d' k' t' = qz_b d'.toNatClampNeg := qz_wrn h1'
      have w' : bt (qz_wr o' d' k' t') d'.toNatClampNeg = true := by rw [e']; exact qz_bt_s (by omega)
      simp only [qz_st1, qz_stn h1']
      rw [qz_vC ho' h1' (B _ w), qz_aR ha ((hi _).1 w').1]
  · have e : qz_wr o d k t = qz_b d.toNatClampNeg := qz_wrn h1
    have w : bt (qz_wr o d k t) d.toNatClampNeg = true := by rw [e]; exact qz_bt_s (by omega)
    by_cases h1' : o' = 1
    · subst h1'
      have w' : bt (qz_wr 1 d' k' t') (6 + qz_c k' t') = true := by rw [qz_wr1]; exact qz_bt_s (by omega)
      simp only [qz_st1, qz_stn h1]
      rw [qz_vC ho h1 ((hi _).1 w').1, qz_aR ha' (B _ w)]
    · have e' : qz_wr o' d' k' t' = qz_b d'.toNatClampNeg := qz_wrn h1'
      have w' : bt (qz_wr o' d' k' t') d'.toNatClampNeg = true := by rw [e']; exact qz_bt_s (by omega)
      have n := ((hi _).1 w').2
      rw [e] at n
      have n' := qz_bt_n (by omega) n
      simp only [qz_stn h1, qz_stn h1']
      rw [qz_vR ho h1 hd ha hb ((hi _).1 w').1, qz_vR ho' h1' hd' ha' hb' (B _ w), qz_updc (fun z => n' z.symm)]
/-- what no clash means -/
theorem qz_clash {rd wr R W : Int32} (h : (rd &&& W) ||| (wr &&& (R ||| W)) = 0) (l : Nat) : (bt W l = true → bt rd l = false ∧ bt wr l = false) ∧ (bt R l = true → bt wr l = false) := by
  have z : bt ((rd &&& W) ||| (wr &&& (R ||| W))) l = false := by rw [h]; exact b_0 l
  rw [b_or, b_and, b_and, b_or] at z
  cases h1 : bt W l <;> cases h2 : bt rd l <;> cases h3 : bt wr l <;> cases h4 : bt R l <;> simp_all
end
section
/-- the step numbered j of a body of c instructions -/
def qz_stp (op tg lf rt nm : Nat → Int32) (c j : Nat) (m : qz_S) : qz_S := qz_st (op (j % c)) (tg (j % c)) (lf (j % c)) (rt (j % c)) (nm (j % c)) (j / c) m
def qz_body (op tg lf rt : Nat → Int32) (c : Nat) : Prop := ∀ p, p < c → qz_op (op p) ∧ qz_rg (tg p) ∧ qz_rg (lf p) ∧ qz_rg (rt p)
def qz_laid (op tg lf rt nm : Nat → Int32) (c : Nat) (pl tn rd wr : Nat → Int32) (j : Nat) : Prop :=
  pl j = nI (j % c) ∧ tn j = nI (j / c) ∧ rd j = qz_rd (op (j % c)) (tg (j % c)) (lf (j % c)) (rt (j % c)) (nm (j % c)) (j / c) ∧ wr j = qz_wr (op (j % c)) (tg (j % c)) (nm (j % c)) (j / c)
/-- e is left, and clashes with none of those from o on that are left before it -/
def qz_ch (dn rd wr : Nat → Int32) (o e : Nat) : Prop := dn e = 0 ∧ ∀ i, o ≤ i → i < e → dn i = 0 → qz_ind (rd e) (wr e) (rd i) (wr i)
theorem qz_next {op tg lf rt nm : Nat → Int32} {c : Nat} {pl tn rd wr dn : Nat → Int32} {T o e : Nat} (hc : 0 < c) (hb : qz_body op tg lf rt c) (hl : ∀ j, j < T → qz_laid op tg lf rt nm c pl tn rd wr j) (he : e < T) (ho : ∀ i, i < o → ¬ dn i = 0) (h : qz_ch dn rd wr o e) (m : qz_S) :
    qz_ex (qz_stp op tg lf rt nm c) (upd dn e 1) T (qz_stp op tg lf rt nm c e m) = qz_ex (qz_stp op tg lf rt nm c) dn T m ∧ qz_cn (upd dn e 1) T + 1 = qz_cn dn T := by
  obtain ⟨d, rfl⟩ : ∃ d, T = e + 1 + d := ⟨T - (e + 1), by omega⟩
  refine ⟨qz_take h.1 (fun i hi h0 m => ?_) m d, qz_cn_upd h.1 d⟩
  have hoi : o ≤ i := by
    rcases Nat.lt_or_ge i o with z | z
    · exact absurd h0 (ho i z)
    · exact z
  have hind := h.2 i hoi hi h0
  obtain ⟨_, _, r1, w1⟩ := hl e he
  obtain ⟨_, _, r2, w2⟩ := hl i (by omega)
  rw [r1, w1, r2, w2] at hind
  obtain ⟨a1, a2, a3, a4⟩ := hb (e % c) (Nat.mod_lt _ hc)
  obtain ⟨b1, b2, b3, b4⟩ := hb (i % c) (Nat.mod_lt _ hc)
  exact qz_comm a1 b1 a2 a3 a4 b2 b3 b4 hind m
/-- what the scan holds at step j: e is chosen, R and W cover what the steps left from o to j read and write -/
def qz_sc (dn rd wr : Nat → Int32) (o j e : Nat) (R W : Int32) : Prop :=
  (j = o → e = o ∧ R = 0 ∧ W = 0) ∧ (o < j → o ≤ e ∧ e < j ∧ qz_ch dn rd wr o e) ∧ o ≤ j ∧
  ∀ i, o ≤ i → i < j → dn i = 0 → ∀ l, (bt (rd i) l = true → bt R l = true) ∧ (bt (wr i) l = true → bt W l = true)
theorem qz_sc0 {dn rd wr : Nat → Int32} {o : Nat} : qz_sc dn rd wr o o o 0 0 :=
  ⟨fun _ => ⟨rfl, rfl, rfl⟩, fun h => absurd h (Nat.lt_irrefl o), Nat.le_refl o, fun i h1 h2 => by omega⟩
theorem qz_sc_skip {dn rd wr : Nat → Int32} {o j e : Nat} {R W : Int32} (h0 : dn o = 0) (h : qz_sc dn rd wr o j e R W) (hj : ¬ dn j = 0) : qz_sc dn rd wr o (j + 1) e R W := by
  obtain ⟨h1, h2, h3, h4⟩ := h
  have hlt : o < j := by
    rcases Nat.lt_or_ge o j with z | z
    · exact z
    · have : j = o := by omega
      subst this; exact absurd h0 hj
  obtain ⟨a, b, c⟩ := h2 hlt
  refine ⟨fun z => by omega, fun _ => ⟨a, by omega, c⟩, by omega, fun i hi hi2 hd l => ?_⟩
  rcases Nat.lt_or_ge i j with z | z
  · exact h4 i hi z hd l
  · have : i = j := by omega
    subst this; exact absurd hd hj
theorem qz_cov {dn rd wr : Nat → Int32} {o j : Nat} {R W : Int32} (h4 : ∀ i, o ≤ i → i < j → dn i = 0 → ∀ l, (bt (rd i) l = true → bt R l = true) ∧ (bt (wr i) l = true → bt W l = true)) :
    ∀ i, o ≤ i → i < j + 1 → dn i = 0 → ∀ l, (bt (rd i) l = true → bt (R ||| rd j) l = true) ∧ (bt (wr i) l = true → bt (W ||| wr j) l = true) := by
  intro i hi hi2 hd l
  rw [b_or, b_or]
  rcases Nat.lt_or_ge i j with z | z
  · exact ⟨fun q => by rw [(h4 i hi z hd l).1 q]; rfl, fun q => by rw [(h4 i hi z hd l).2 q]; rfl⟩
  · have : i = j := by omega
    subst this
    exact ⟨fun q => by rw [q, Bool.or_true], fun q => by rw [q, Bool.or_true]⟩
theorem qz_sc_take {dn rd wr : Nat → Int32} {o j e : Nat} {R W : Int32} (h : qz_sc dn rd wr o j e R W) (hj : dn j = 0) (hcl : (rd j &&& W) ||| (wr j &&& (R ||| W)) = 0) : qz_sc dn rd wr o (j + 1) j (R ||| rd j) (W ||| wr j) := by
  obtain ⟨h1, h2, h3, h4⟩ := h
  refine ⟨fun z => by omega, fun _ => ⟨h3, by omega, hj, fun i hi hi2 hd l => ?_⟩, by omega, qz_cov h4⟩
  have q := qz_clash hcl l
  have p := h4 i hi hi2 hd l
  exact ⟨fun z => q.1 (p.2 z), fun z => q.2 (p.1 z)⟩
theorem qz_sc_leave {dn rd wr : Nat → Int32} {o j e : Nat} {R W : Int32} (h : qz_sc dn rd wr o j e R W) (hcl : ¬ (rd j &&& W) ||| (wr j &&& (R ||| W)) = 0) : qz_sc dn rd wr o (j + 1) e (R ||| rd j) (W ||| wr j) := by
  obtain ⟨h1, h2, h3, h4⟩ := h
  have hlt : o < j := by
    rcases Nat.lt_or_ge o j with z | z
    · exact z
    · have z2 : j = o := by omega
      obtain ⟨_, e1, e2⟩ := h1 z2
      rw [e1, e2] at hcl
      exact absurd (by simp) hcl
  obtain ⟨a, b, c⟩ := h2 hlt
  exact ⟨fun z => by omega, fun _ => ⟨a, by omega, c⟩, by omega, qz_cov h4⟩
/-- the oldest step left -/
theorem qz_old {dn : Nat → Int32} {T o : Nat} (ho : ∀ i, i < o → ¬ dn i = 0) (hoT : o < T) (hw : ¬ o < T - 1 ∨ dn o = 0) (hcn : 0 < qz_cn dn T) : dn o = 0 := by
  rcases hw with z | z
  · have e : T = o + 1 := by omega
    subst e
    rw [qz_cn_s, qz_cn_0 o ho] at hcn
    by_cases h : dn o = 0
    · exact h
    · rw [if_neg h] at hcn; omega
  · exact z
/-- how a turn's step is numbered -/
theorem qz_num {c t p : Nat} (h : p < c) : (t * c + p) % c = p ∧ (t * c + p) / c = t := by
  have hc : 0 < c := by omega
  constructor
  · rw [Nat.add_comm, Nat.add_mul_mod_self_right, Nat.mod_eq_of_lt h]
  · rw [Nat.add_comm, Nat.add_mul_div_right _ _ hc, Nat.div_eq_of_lt h, Nat.zero_add]
end
section
variable {R C op tg lf rt nm pl tn rd wr dn yt yf ys : Nat → Int32}
/-- one instruction as both hold it -/
def qz_ok (o d a b k y f s : Int32) : Prop := qz_rg d ∧ qz_rg a ∧ qz_rg b ∧ ((o = 0 ∧ y = d ∧ f = k) ∨ (o = 1 ∧ y = a ∧ f = k) ∨ (o = 6 ∧ y = d ∧ f = k) ∨ ((o = 2 ∨ o = 3 ∨ o = 4 ∨ o = 5 ∨ o = 7) ∧ y = d ∧ f = a ∧ s = b))
/-- the same registers, cells and numbers of instructions; instruction by instruction the same -/
def i_Rel (_ : Nat) (u : SX) (v : SY) : Prop := ∃ (c q : Nat) (R C op tg lf rt nm pl tn rd wr dn yt yf ys : Nat → Int32), u = (nI c, nI q, R, C, op, tg, lf, rt, nm, pl, tn, rd, wr, dn) ∧ v = (nI c, op, yt, yf, ys, R, C) ∧ c ≤ 10 ∧ q ≤ 3 ∧ ∀ p, p < c → qz_ok (op p) (tg p) (lf p) (rt p) (nm p) (yt p) (yf p) (ys p)
theorem i_up {k : Nat} {u : SX} {v : SY} (h : i_Rel k u v) : i_Rel (k + 5) u v := h
theorem qz_rel {k c q : Nat} (hc : c ≤ 10) (hq : q ≤ 3) (hB : ∀ p, p < c → qz_ok (op p) (tg p) (lf p) (rt p) (nm p) (yt p) (yf p) (ys p)) : i_Rel k (nI c, nI q, R, C, op, tg, lf, rt, nm, pl, tn, rd, wr, dn) (nI c, op, yt, yf, ys, R, C) :=
  ⟨c, q, R, C, op, tg, lf, rt, nm, pl, tn, rd, wr, dn, yt, yf, ys, rfl, rfl, hc, hq, hB⟩
theorem i_vc0 : wpX_init (fun u => wpY_init (fun v => i_Rel 0 u v)) :=
  ⟨0, 0, _, _, _, _, _, _, _, _, _, _, _, _, _, _, _, rfl, rfl, Nat.zero_le _, Nat.zero_le _, fun p hp => absurd hp (Nat.not_lt_zero p)⟩
/-! the tests of arguments -/
theorem qz_xreg {post : Int32 → Prop} (x : Int32) (t : qz_rg x → post 1) (f : ¬ qz_rg x → post 0) : wpX_isRegister post x := by
  unfold wpX_isRegister
  by_cases h0 : x < 0
  · refine br_t h0 (f ?_)
    rintro ⟨j, hj, rfl⟩
    exact nI_pos (by omega) h0
  · obtain ⟨j, hj, rfl⟩ := nI_of h0
    rcases Nat.lt_or_ge j 6 with h | h
    · exact br_f h0 (br_f (nI_ge (b := 6) h (by decide)) (t ⟨j, h, rfl⟩))
    · refine br_f h0 (br_t (nI_le (a := 6) h hj) (f ?_))
      rintro ⟨i, hi, e⟩
      rw [nI_eq hj (by omega)] at e
      omega
theorem qz_yreg {post : Int32 → Prop} {v : SY} (x : Int32) (t : qz_rg x → post 1) (f : ¬ qz_rg x → post 0) : wpY_isRegister post v x := by
  obtain ⟨a0, a1, a2, a3, a4, a5, a6⟩ := v
  unfold wpY_isRegister
  dsimp only
  by_cases h0 : x < 0
  · refine br_t h0 (f ?_)
    rintro ⟨j, hj, rfl⟩
    exact nI_pos (by omega) h0
  · obtain ⟨j, hj, rfl⟩ := nI_of h0
    rcases Nat.lt_or_ge j 6 with h | h
    · exact br_f h0 (br_f (nI_nlt (a := 5) (b := j) (by omega) (by decide)) (t ⟨j, h, rfl⟩))
    · refine br_f h0 (br_t (nI_lt (a := 5) (b := j) (by omega) hj) (f ?_))
      rintro ⟨i, hi, e⟩
      rw [nI_eq hj (by omega)] at e
      omega
theorem qz_xcel {post : Int32 → Prop} (x : Int32) (t : ∀ j, j < 16 → x = nI j → post 1) (f : x < 0 ∨ ¬ x ≤ 15 → post 0) : wpX_isCell post x := by
  unfold wpX_isCell
  by_cases h0 : x < 0
  · exact br_t h0 (f (Or.inl h0))
  · obtain ⟨j, hj, rfl⟩ := nI_of h0
    rcases Nat.lt_or_ge j 16 with h | h
    · exact br_f h0 (br_f (nI_ge (b := 16) h (by decide)) (t j h rfl))
    · exact br_f h0 (br_t (nI_le (a := 16) h hj) (f (Or.inr (nI_ge (a := 15) (b := j) (by omega) hj))))
def qz_nb (x : Int32) : Prop := ¬ x < (-8) ∧ ¬ 8 < x
theorem qz_xnb {post : Int32 → Prop} (x : Int32) (t : qz_nb x → post 1) (f : ¬ qz_nb x → post 0) : wpX_isInReach post x :=
  br_c (fun h => f (fun z => z.1 h)) (fun h => br_c (fun h2 => f (fun z => z.2 h2)) (fun h2 => t ⟨h, h2⟩))
theorem qz_ynb {post : Int32 → Prop} {v : SY} (x : Int32) (t : qz_nb x → post 1) (f : ¬ qz_nb x → post 0) : wpY_isNumber post v x := by
  obtain ⟨a0, a1, a2, a3, a4, a5, a6⟩ := v
  unfold wpY_isNumber
  dsimp only
  exact br_c (fun h => f (fun z => z.1 h)) (fun h => br_c (fun h2 => f (fun z => z.2 h2)) (fun h2 => t ⟨h, h2⟩))
/-! append -/
theorem qz_c10 {c : Nat} (h : c < 10) : ¬ nI c = 10 := fun z => by
  have := (nI_eq (a := c) (b := 10) (by omega) (by omega)).mp z
  omega
theorem qz_xapp {post : Int32 → SX → Prop} {c : Nat} {q : Int32} (o d a b n : Int32) (hc : c ≤ 10)
    (full : c = 10 → post (-2) (nI c, q, R, C, op, tg, lf, rt, nm, pl, tn, rd, wr, dn))
    (room : c < 10 → post (nI c) (nI (c + 1), q, R, C, upd op c o, upd tg c d, upd lf c a, upd rt c b, upd nm c n, pl, tn, rd, wr, dn)) :
    wpX_append post (nI c, q, R, C, op, tg, lf, rt, nm, pl, tn, rd, wr, dn) o d a b n := by
  unfold wpX_append
  dsimp only
  have hcl : (nI c).toNatClampNeg = c := nI_clamp (by omega)
  rcases Nat.lt_or_ge c 10 with h | h
  · have hin : vp_in (nI c) 10 := vp_in_nI h (by omega)
    refine br_f (qz_c10 h) ⟨hin, nm_r (e' := upd op c o) (by rw [hcl]) ⟨hin, nm_r (e' := upd tg c d) (by rw [hcl]) ⟨hin, nm_r (e' := upd lf c a) (by rw [hcl]) ⟨hin, nm_r (e' := upd rt c b) (by rw [hcl]) ⟨hin, nm_r (e' := upd nm c n) (by rw [hcl]) (nm_r (nI_1 c) ?_)⟩⟩⟩⟩⟩
    rw [nI_pred]
    exact room h
  · have e : c = 10 := by omega
    subst e
    exact br_t rfl (full rfl)
theorem qz_yapp {post : Int32 → SY → Prop} {c : Nat} (o d a b : Int32) (hc : c ≤ 10)
    (full : c = 10 → post (-2) (nI c, op, yt, yf, ys, R, C))
    (room : c < 10 → post (nI c) (nI (c + 1), upd op c o, upd yt c d, upd yf c a, upd ys c b, R, C)) :
    wpY_append post (nI c, op, yt, yf, ys, R, C) o d a b := by
  unfold wpY_append
  dsimp only
  have hcl : (nI c).toNatClampNeg = c := nI_clamp (by omega)
  rcases Nat.lt_or_ge c 10 with h | h
  · have hin : vp_in (nI c) 10 := vp_in_nI h (by omega)
    refine br_f (qz_c10 h) ⟨hin, nm_r (e' := upd op c o) (by rw [hcl]) ⟨hin, nm_r (e' := upd yt c d) (by rw [hcl]) ⟨hin, nm_r (e' := upd yf c a) (by rw [hcl]) ⟨hin, nm_r (e' := upd ys c b) (by rw [hcl]) (nm_r (nI_1 c) ?_)⟩⟩⟩⟩
    rw [nI_pred]
    exact room h
  · have e : c = 10 := by omega
    subst e
    exact br_t rfl (full rfl)
theorem qz_Bup {c : Nat} {o d a b n y f s : Int32} (hB : ∀ p, p < c → qz_ok (op p) (tg p) (lf p) (rt p) (nm p) (yt p) (yf p) (ys p)) (h : qz_ok o d a b n y f s) :
    ∀ p, p < c + 1 → qz_ok (upd op c o p) (upd tg c d p) (upd lf c a p) (upd rt c b p) (upd nm c n p) (upd yt c y p) (upd yf c f p) (upd ys c s p) := by
  intro p hp
  by_cases e : p = c
  · subst e
    rw [pk_us, pk_us, pk_us, pk_us, pk_us, pk_us, pk_us, pk_us]; exact h
  · rw [pk_un e, pk_un e, pk_un e, pk_un e, pk_un e, pk_un e, pk_un e, pk_un e]; exact hB p (by omega)
theorem qz_rg0 : qz_rg 0 := ⟨0, by omega, rfl⟩
end
section
theorem i_vc_load {k : Nat} {u : SX} {v : SY} (I : i_Rel k u v) (hk : k + 5 ≤ 2560) (v1 : Int32) (v2 : Int32) : wpX_load (fun r u' => wpY_load (fun r' v' => r' = r ∧ i_Rel (k + 5) u' v') v v1 v2) u v1 v2 := by
  obtain ⟨c, q, R, C, op, tg, lf, rt, nm, pl, tn, rd, wr, dn, yt, yf, ys, rfl, rfl, hc, hq, hB⟩ := I
  unfold wpX_load
  dsimp only
  refine qz_xreg v1 (fun h1 => br_f (by decide) (qz_xnb v2 (fun h2 => br_f (by decide) (qz_xapp 0 v1 0 0 v2 hc (fun hf => ?_) (fun hl => ?_))) (fun h2 => br_t rfl ?_))) (fun h1 => br_t rfl ?_)
  · dsimp only
    unfold wpY_load
    dsimp only
    exact qz_yreg v1 (fun _ => br_f (by decide) (qz_ynb v2 (fun _ => br_f (by decide) (qz_yapp 0 v1 v2 0 hc (fun _ => ⟨rfl, qz_rel hc hq hB⟩) (fun z => absurd z (by omega)))) (fun z => absurd h2 z))) (fun z => absurd h1 z)
  · dsimp only
    unfold wpY_load
    dsimp only
    exact qz_yreg v1 (fun _ => br_f (by decide) (qz_ynb v2 (fun _ => br_f (by decide) (qz_yapp 0 v1 v2 0 hc (fun z => absurd z (by omega)) (fun _ => ⟨rfl, qz_rel (by omega) hq (qz_Bup hB ⟨h1, qz_rg0, qz_rg0, Or.inl ⟨rfl, rfl, rfl⟩⟩)⟩))) (fun z => absurd h2 z))) (fun z => absurd h1 z)
  · unfold wpY_load
    dsimp only
    exact qz_yreg v1 (fun _ => br_f (by decide) (qz_ynb v2 (fun z => absurd z h2) (fun _ => br_t rfl ⟨rfl, qz_rel hc hq hB⟩))) (fun z => absurd h1 z)
  · unfold wpY_load
    dsimp only
    exact qz_yreg v1 (fun z => absurd z h1) (fun _ => br_t rfl ⟨rfl, qz_rel hc hq hB⟩)
theorem i_vc_store {k : Nat} {u : SX} {v : SY} (I : i_Rel k u v) (hk : k + 5 ≤ 2560) (v1 : Int32) (v2 : Int32) : wpX_store (fun r u' => wpY_store (fun r' v' => r' = r ∧ i_Rel (k + 5) u' v') v v1 v2) u v1 v2 := by
  obtain ⟨c, q, R, C, op, tg, lf, rt, nm, pl, tn, rd, wr, dn, yt, yf, ys, rfl, rfl, hc, hq, hB⟩ := I
  unfold wpX_store
  dsimp only
  refine qz_xreg v1 (fun h1 => br_f (by decide) (qz_xnb v2 (fun h2 => br_f (by decide) (qz_xapp 1 0 v1 0 v2 hc (fun hf => ?_) (fun hl => ?_))) (fun h2 => br_t rfl ?_))) (fun h1 => br_t rfl ?_)
  · dsimp only
    unfold wpY_store
    dsimp only
    exact qz_yreg v1 (fun _ => br_f (by decide) (qz_ynb v2 (fun _ => br_f (by decide) (qz_yapp 1 v1 v2 0 hc (fun _ => ⟨rfl, qz_rel hc hq hB⟩) (fun z => absurd z (by omega)))) (fun z => absurd h2 z))) (fun z => absurd h1 z)
  · dsimp only
    unfold wpY_store
    dsimp only
    exact qz_yreg v1 (fun _ => br_f (by decide) (qz_ynb v2 (fun _ => br_f (by decide) (qz_yapp 1 v1 v2 0 hc (fun z => absurd z (by omega)) (fun _ => ⟨rfl, qz_rel (by omega) hq (qz_Bup hB ⟨qz_rg0, h1, qz_rg0, Or.inr (Or.inl ⟨rfl, rfl, rfl⟩)⟩)⟩))) (fun z => absurd h2 z))) (fun z => absurd h1 z)
  · unfold wpY_store
    dsimp only
    exact qz_yreg v1 (fun _ => br_f (by decide) (qz_ynb v2 (fun z => absurd z h2) (fun _ => br_t rfl ⟨rfl, qz_rel hc hq hB⟩))) (fun z => absurd h1 z)
  · unfold wpY_store
    dsimp only
    exact qz_yreg v1 (fun z => absurd z h1) (fun _ => br_t rfl ⟨rfl, qz_rel hc hq hB⟩)
theorem i_vc_constant {k : Nat} {u : SX} {v : SY} (I : i_Rel k u v) (hk : k + 5 ≤ 2560) (v1 : Int32) (v2 : Int32) : wpX_constant (fun r u' => wpY_constant (fun r' v' => r' = r ∧ i_Rel (k + 5) u' v') v v1 v2) u v1 v2 := by
  obtain ⟨c, q, R, C, op, tg, lf, rt, nm, pl, tn, rd, wr, dn, yt, yf, ys, rfl, rfl, hc, hq, hB⟩ := I
  unfold wpX_constant
  dsimp only
  refine qz_xreg v1 (fun h1 => br_f (by decide) (qz_xnb v2 (fun h2 => br_f (by decide) (qz_xapp 6 v1 0 0 v2 hc (fun hf => ?_) (fun hl => ?_))) (fun h2 => br_t rfl ?_))) (fun h1 => br_t rfl ?_)
  · dsimp only
    unfold wpY_constant
    dsimp only
    exact qz_yreg v1 (fun _ => br_f (by decide) (qz_ynb v2 (fun _ => br_f (by decide) (qz_yapp 6 v1 v2 0 hc (fun _ => ⟨rfl, qz_rel hc hq hB⟩) (fun z => absurd z (by omega)))) (fun z => absurd h2 z))) (fun z => absurd h1 z)
  · dsimp only
    unfold wpY_constant
    dsimp only
    exact qz_yreg v1 (fun _ => br_f (by decide) (qz_ynb v2 (fun _ => br_f (by decide) (qz_yapp 6 v1 v2 0 hc (fun z => absurd z (by omega)) (fun _ => ⟨rfl, qz_rel (by omega) hq (qz_Bup hB ⟨h1, qz_rg0, qz_rg0, Or.inr (Or.inr (Or.inl ⟨rfl, rfl, rfl⟩))⟩)⟩))) (fun z => absurd h2 z))) (fun z => absurd h1 z)
  · unfold wpY_constant
    dsimp only
    exact qz_yreg v1 (fun _ => br_f (by decide) (qz_ynb v2 (fun z => absurd z h2) (fun _ => br_t rfl ⟨rfl, qz_rel hc hq hB⟩))) (fun z => absurd h1 z)
  · unfold wpY_constant
    dsimp only
    exact qz_yreg v1 (fun z => absurd z h1) (fun _ => br_t rfl ⟨rfl, qz_rel hc hq hB⟩)
end
section
variable {R C op tg lf rt nm pl tn rd wr dn yt yf ys : Nat → Int32}
def qz_ap (x : Int32) : Prop := x = 2 ∨ x = 3 ∨ x = 4 ∨ x = 5 ∨ x = 7
theorem qz_xapl {post : Int32 → Prop} (x : Int32) (t : qz_ap x → post 1) (f : ¬ qz_ap x → post 0) : wpX_isApplied post x := by
  unfold wpX_isApplied
  refine br_c (fun h => t (Or.inl h)) (fun h2 => br_c (fun h => t (Or.inr (Or.inl h))) (fun h3 => br_c (fun h => t (Or.inr (Or.inr (Or.inl h)))) (fun h4 => br_c (fun h => t (Or.inr (Or.inr (Or.inr (Or.inl h))))) (fun h5 => br_c (fun h => t (Or.inr (Or.inr (Or.inr (Or.inr h))))) (fun h7 => f ?_)))))
  rintro (h | h | h | h | h)
  · exact h2 h
  · exact h3 h
  · exact h4 h
  · exact h5 h
  · exact h7 h
theorem qz_2to5 {x : Int32} (h2 : ¬ x < 2) (h5 : x ≤ 5) : qz_ap x := by
  have h0 : ¬ x < 0 := fun z => h2 (Int32.lt_trans z (by decide))
  obtain ⟨j, hj, rfl⟩ := nI_of2 (M := 5) (n := 5) (by decide) h0 h5
  have g : ¬ j < 2 := fun z => h2 (nI_lt (b := 2) z (by decide))
  have e : j = 2 ∨ j = 3 ∨ j = 4 ∨ j = 5 := by omega
  rcases e with e | e | e | e <;> subst e
  · exact Or.inl rfl
  · exact Or.inr (Or.inl rfl)
  · exact Or.inr (Or.inr (Or.inl rfl))
  · exact Or.inr (Or.inr (Or.inr (Or.inl rfl)))
theorem qz_yapl {post : Int32 → SY → Prop} {c : Int32} (x a b d : Int32) (t : qz_ap x → wY_apply_21 post x a b d 1 c op yt yf ys R C) (f : ¬ qz_ap x → wY_apply_21 post x a b d 0 c op yt yf ys R C) : wpY_apply post (c, op, yt, yf, ys, R, C) x a b d := by
  unfold wpY_apply
  dsimp only
  by_cases h2 : x < 2
  · refine br_t h2 ?_
    unfold wY_apply_10
    have h7 : ¬ x = 7 := fun z => by rw [z] at h2; exact absurd h2 (by decide)
    refine br_f h7 (f ?_)
    rintro (h | h | h | h | h) <;> rw [h] at h2 <;> exact absurd h2 (by decide)
  · refine br_f h2 ?_
    by_cases h5 : x ≤ 5
    · exact br_t h5 (t (qz_2to5 h2 h5))
    · refine br_f h5 ?_
      unfold wY_apply_10
      by_cases h7 : x = 7
      · exact br_t h7 (t (Or.inr (Or.inr (Or.inr (Or.inr h7)))))
      · refine br_f h7 (f ?_)
        rintro (h | h | h | h | h)
        · rw [h] at h5; exact absurd (by decide) h5
        · rw [h] at h5; exact absurd (by decide) h5
        · rw [h] at h5; exact absurd (by decide) h5
        · rw [h] at h5; exact absurd (by decide) h5
        · exact h7 h
theorem qz_yapl0 {post : Int32 → SY → Prop} {c : Int32} (x a b d : Int32) (h : post (-1) (c, op, yt, yf, ys, R, C)) : wY_apply_21 post x a b d 0 c op yt yf ys R C := by
  unfold wY_apply_21
  exact br_t rfl h
theorem qz_yapl1 {post : Int32 → SY → Prop} {c : Nat} (x a b d : Int32) (hc : c ≤ 10)
    (bad : ¬ (qz_rg a ∧ qz_rg b ∧ qz_rg d) → post (-1) (nI c, op, yt, yf, ys, R, C))
    (full : qz_rg a → qz_rg b → qz_rg d → c = 10 → post (-2) (nI c, op, yt, yf, ys, R, C))
    (room : qz_rg a → qz_rg b → qz_rg d → c < 10 → post (nI c) (nI (c + 1), upd op c x, upd yt c a, upd yf c b, upd ys c d, R, C)) :
    wY_apply_21 post x a b d 1 (nI c) op yt yf ys R C := by
  unfold wY_apply_21
  refine br_f (by decide) (qz_yreg a (fun h1 => br_f (by decide) (qz_yreg b (fun h2 => br_f (by decide) (qz_yreg d (fun h3 => br_f (by decide) (qz_yapp x a b d hc (fun z => ?_) (fun z => ?_))) (fun h => br_t rfl (bad (fun z => h z.2.2))))) (fun h => br_t rfl (bad (fun z => h z.2.1))))) (fun h => br_t rfl (bad (fun z => h z.1))))
  · exact full h1 h2 h3 z
  · exact room h1 h2 h3 z
theorem i_vc_apply {k : Nat} {u : SX} {v : SY} (I : i_Rel k u v) (hk : k + 5 ≤ 2560) (v1 : Int32) (v2 : Int32) (v3 : Int32) (v4 : Int32) : wpX_apply (fun r u' => wpY_apply (fun r' v' => r' = r ∧ i_Rel (k + 5) u' v') v v1 v2 v3 v4) u v1 v2 v3 v4 := by
  obtain ⟨c, q, R, C, op, tg, lf, rt, nm, pl, tn, rd, wr, dn, yt, yf, ys, rfl, rfl, hc, hq, hB⟩ := I
  unfold wpX_apply
  dsimp only
  have bad : qz_ap v1 → ¬ (qz_rg v2 ∧ qz_rg v3 ∧ qz_rg v4) → wpY_apply (fun r' v' => r' = -1 ∧ i_Rel (k + 5) (nI c, nI q, R, C, op, tg, lf, rt, nm, pl, tn, rd, wr, dn) v') (nI c, op, yt, yf, ys, R, C) v1 v2 v3 v4 := fun h0 h =>
    qz_yapl v1 v2 v3 v4 (fun _ => qz_yapl1 v1 v2 v3 v4 hc (fun _ => ⟨rfl, qz_rel hc hq hB⟩) (fun a b d => absurd ⟨a, b, d⟩ h) (fun a b d => absurd ⟨a, b, d⟩ h)) (fun z => absurd h0 z)
  refine qz_xapl v1 (fun h0 => br_f (by decide) (qz_xreg v2 (fun h1 => br_f (by decide) (qz_xreg v3 (fun h2 => br_f (by decide) (qz_xreg v4 (fun h3 => br_f (by decide) (qz_xapp v1 v2 v3 v4 0 hc (fun hf => ?_) (fun hl => ?_))) (fun h => br_t rfl (bad h0 (fun z => h z.2.2))))) (fun h => br_t rfl (bad h0 (fun z => h z.2.1))))) (fun h => br_t rfl (bad h0 (fun z => h z.1))))) (fun h0 => br_t rfl ?_)
  · dsimp only
    exact qz_yapl v1 v2 v3 v4 (fun _ => qz_yapl1 v1 v2 v3 v4 hc (fun z => absurd ⟨h1, h2, h3⟩ z) (fun _ _ _ _ => ⟨rfl, qz_rel hc hq hB⟩) (fun _ _ _ z => absurd z (by omega))) (fun z => absurd h0 z)
  · dsimp only
    exact qz_yapl v1 v2 v3 v4 (fun _ => qz_yapl1 v1 v2 v3 v4 hc (fun z => absurd ⟨h1, h2, h3⟩ z) (fun _ _ _ z => absurd z (by omega)) (fun _ _ _ _ => ⟨rfl, qz_rel (by omega) hq (qz_Bup hB ⟨h1, h2, h3, Or.inr (Or.inr (Or.inr ⟨h0, rfl, rfl, rfl⟩))⟩)⟩)) (fun z => absurd h0 z)
  · exact qz_yapl v1 v2 v3 v4 (fun z => absurd z h0) (fun _ => qz_yapl0 v1 v2 v3 v4 ⟨rfl, qz_rel hc hq hB⟩)
theorem i_vc_unappend {k : Nat} {u : SX} {v : SY} (I : i_Rel k u v) (hk : k + 5 ≤ 2560) : wpX_unappend (fun r u' => wpY_unappend (fun r' v' => r' = r ∧ i_Rel (k + 5) u' v') v) u := by
  obtain ⟨c, q, R, C, op, tg, lf, rt, nm, pl, tn, rd, wr, dn, yt, yf, ys, rfl, rfl, hc, hq, hB⟩ := I
  unfold wpX_unappend wpY_unappend
  dsimp only
  rcases Nat.eq_zero_or_pos c with e | e
  · subst e
    exact br_t rfl (br_t rfl ⟨rfl, qz_rel hc hq hB⟩)
  · obtain ⟨d, rfl⟩ : ∃ d, c = d + 1 := ⟨c - 1, by omega⟩
    have h : ¬ nI (d + 1) = 0 := nI_ne0 (by omega) (by omega)
    exact br_f h (nm_r (nI_pred d) (br_f h (nm_r (nI_pred d) ⟨rfl, qz_rel (by omega) hq (fun p hp => hB p (by omega))⟩)))
theorem i_vc_clear {k : Nat} {u : SX} {v : SY} (I : i_Rel k u v) (hk : k + 5 ≤ 2560) : wpX_clear (fun u' => wpY_clear (fun v' => i_Rel (k + 5) u' v') v) u := by
  obtain ⟨c, q, R, C, op, tg, lf, rt, nm, pl, tn, rd, wr, dn, yt, yf, ys, rfl, rfl, hc, hq, hB⟩ := I
  unfold wpX_clear wpY_clear
  dsimp only
  exact qz_rel (c := 0) (by omega) hq (fun p hp => absurd hp (Nat.not_lt_zero p))
theorem i_vc_size {k : Nat} {u : SX} {v : SY} (I : i_Rel k u v) (hk : k + 5 ≤ 2560) : wpX_size (fun r => wpY_size (fun r' => r' = r ∧ i_Rel (k + 5) u v) v) u := by
  obtain ⟨c, q, R, C, op, tg, lf, rt, nm, pl, tn, rd, wr, dn, yt, yf, ys, rfl, rfl, hc, hq, hB⟩ := I
  unfold wpX_size wpY_size
  dsimp only
  exact ⟨rfl, qz_rel hc hq hB⟩
theorem i_vc_set {k : Nat} {u : SX} {v : SY} (I : i_Rel k u v) (hk : k + 5 ≤ 2560) (v1 : Int32) (v2 : Int32) : wpX_set (fun r u' => wpY_set (fun r' v' => r' = r ∧ i_Rel (k + 5) u' v') v v1 v2) u v1 v2 := by
  obtain ⟨c, q, R, C, op, tg, lf, rt, nm, pl, tn, rd, wr, dn, yt, yf, ys, rfl, rfl, hc, hq, hB⟩ := I
  unfold wpX_set wpY_set
  dsimp only
  refine qz_xreg v1 (fun h => br_f (by decide) ⟨qz_rg_in h, nm_e (qz_yreg v1 (fun _ => br_f (by decide) ⟨qz_rg_in h, nm_e ⟨rfl, qz_rel hc hq hB⟩⟩) (fun z => absurd h z))⟩) (fun h => br_t rfl (qz_yreg v1 (fun z => absurd z h) (fun _ => br_t rfl ⟨rfl, qz_rel hc hq hB⟩)))
theorem i_vc_get {k : Nat} {u : SX} {v : SY} (I : i_Rel k u v) (hk : k + 5 ≤ 2560) (v1 : Int32) : wpX_get (fun r => wpY_get (fun r' => r' = r ∧ i_Rel (k + 5) u v) v v1) u v1 := by
  obtain ⟨c, q, R, C, op, tg, lf, rt, nm, pl, tn, rd, wr, dn, yt, yf, ys, rfl, rfl, hc, hq, hB⟩ := I
  unfold wpX_get wpY_get
  dsimp only
  refine qz_xreg v1 (fun h => br_f (by decide) ⟨qz_rg_in h, qz_yreg v1 (fun _ => br_f (by decide) ⟨qz_rg_in h, rfl, qz_rel hc hq hB⟩) (fun z => absurd h z)⟩) (fun h => br_t rfl (qz_yreg v1 (fun z => absurd z h) (fun _ => br_t rfl ⟨rfl, qz_rel hc hq hB⟩)))
theorem i_vc_put {k : Nat} {u : SX} {v : SY} (I : i_Rel k u v) (hk : k + 5 ≤ 2560) (v1 : Int32) (v2 : Int32) : wpX_put (fun r u' => wpY_put (fun r' v' => r' = r ∧ i_Rel (k + 5) u' v') v v1 v2) u v1 v2 := by
  obtain ⟨c, q, R, C, op, tg, lf, rt, nm, pl, tn, rd, wr, dn, yt, yf, ys, rfl, rfl, hc, hq, hB⟩ := I
  unfold wpX_put wpY_put
  dsimp only
  refine qz_xcel v1 (fun j hj e => ?_) (fun h => br_t rfl ?_)
  · have h0 : ¬ v1 < 0 := by rw [e]; exact nI_pos (by omega)
    have h15 : v1 ≤ 15 := by rw [e]; exact nI_le (b := 15) (by omega) (by decide)
    have hin : vp_in v1 16 := by rw [e]; exact vp_in_nI hj (by omega)
    exact br_f (by decide) ⟨hin, nm_e (br_f h0 (br_t h15 ⟨hin, nm_e ⟨rfl, qz_rel hc hq hB⟩⟩))⟩
  · by_cases h0 : v1 < 0
    · exact br_t h0 ⟨rfl, qz_rel hc hq hB⟩
    · exact br_f h0 (br_f (h.resolve_left h0) ⟨rfl, qz_rel hc hq hB⟩)
theorem i_vc_cell {k : Nat} {u : SX} {v : SY} (I : i_Rel k u v) (hk : k + 5 ≤ 2560) (v1 : Int32) : wpX_cell (fun r => wpY_cell (fun r' => r' = r ∧ i_Rel (k + 5) u v) v v1) u v1 := by
  obtain ⟨c, q, R, C, op, tg, lf, rt, nm, pl, tn, rd, wr, dn, yt, yf, ys, rfl, rfl, hc, hq, hB⟩ := I
  unfold wpX_cell wpY_cell
  dsimp only
  refine qz_xcel v1 (fun j hj e => ?_) (fun h => br_t rfl ?_)
  · have h0 : ¬ v1 < 0 := by rw [e]; exact nI_pos (by omega)
    have h15 : v1 ≤ 15 := by rw [e]; exact nI_le (b := 15) (by omega) (by decide)
    have hin : vp_in v1 16 := by rw [e]; exact vp_in_nI hj (by omega)
    exact br_f (by decide) ⟨hin, br_f h0 (br_t h15 ⟨hin, rfl, qz_rel hc hq hB⟩)⟩
  · by_cases h0 : v1 < 0
    · exact br_t h0 ⟨rfl, qz_rel hc hq hB⟩
    · exact br_f h0 (br_f (h.resolve_left h0) ⟨rfl, qz_rel hc hq hB⟩)
theorem i_vc_mode {k : Nat} {u : SX} {v : SY} (I : i_Rel k u v) (hk : k + 5 ≤ 2560) (v1 : Int32) : wpX_mode (fun r u' => wpY_mode (fun r' => r' = r ∧ i_Rel (k + 5) u' v) v v1) u v1 := by
  obtain ⟨c, q, R, C, op, tg, lf, rt, nm, pl, tn, rd, wr, dn, yt, yf, ys, rfl, rfl, hc, hq, hB⟩ := I
  unfold wpX_mode wpY_mode
  dsimp only
  by_cases h0 : v1 < 0
  · exact br_t h0 (br_t h0 ⟨rfl, qz_rel hc hq hB⟩)
  · by_cases h3 : v1 ≤ 3
    · refine br_f h0 (br_t h3 (br_f h0 (br_t h3 ⟨rfl, ?_⟩)))
      obtain ⟨j, hj, rfl⟩ := nI_of2 (M := 3) (n := 3) (by decide) h0 h3
      exact qz_rel hc hj hB
    · exact br_f h0 (br_f h3 (br_f h0 (br_f h3 ⟨rfl, qz_rel hc hq hB⟩)))
end
section
variable {R C op tg lf rt nm pl tn rd wr dn yt yf ys : Nat → Int32}
/-- the cells after j writes of ramp -/
def qz_rp (a b : Int32) (C : Nat → Int32) : Nat → Nat → Int32
  | 0 => C
  | j + 1 => upd (qz_rp a b C j) j (a + b * nI j)
theorem qz_xramp {post : Int32 → SX → Prop} {c q a b : Int32} (hp : post 0 (c, q, R, qz_rp a b C 16, op, tg, lf, rt, nm, pl, tn, rd, wr, dn)) : ∀ d j : Nat, j + d = 16 → wX_ramp_2 post a b c q (d + 1) (nI j) R (qz_rp a b C j) op tg lf rt nm pl tn rd wr dn := by
  intro d
  induction d with
  | zero =>
    intro j hj
    have e : j = 16 := by omega
    subst e
    exact br_t (nI_le (a := 16) (b := 16) (by omega) (by decide)) hp
  | succ d ih =>
    intro j hj
    have hcl : (nI j).toNatClampNeg = j := nI_clamp (by omega)
    exact br_f (nI_ge (b := 16) (by omega) (by decide)) ⟨vp_in_nI (by omega) (by omega), nm_r (e' := qz_rp a b C (j + 1)) (by rw [hcl]; rfl) (nm_r (nI_1 j) (ih (j + 1) (by omega)))⟩
theorem qz_yramp {post : Int32 → SY → Prop} {c a b : Int32} (hp : post 0 (c, op, yt, yf, ys, R, qz_rp a b C 16)) : ∀ d j : Nat, j + d = 16 → wY_ramp_2 post a b c (d + 1) (nI j) op yt yf ys R (qz_rp a b C j) := by
  intro d
  induction d with
  | zero =>
    intro j hj
    have e : j = 16 := by omega
    subst e
    exact br_t (nI_le (a := 16) (b := 16) (by omega) (by decide)) hp
  | succ d ih =>
    intro j hj
    have hcl : (nI j).toNatClampNeg = j := nI_clamp (by omega)
    exact br_f (nI_ge (b := 16) (by omega) (by decide)) ⟨vp_in_nI (by omega) (by omega), nm_r (e' := qz_rp a b C (j + 1)) (by rw [hcl]; rfl) (nm_r (nI_1 j) (ih (j + 1) (by omega)))⟩
theorem i_vc_ramp {k : Nat} {u : SX} {v : SY} (I : i_Rel k u v) (hk : k + 5 ≤ 2560) (v1 : Int32) (v2 : Int32) : wpX_ramp (fun r u' => wpY_ramp (fun r' v' => r' = r ∧ i_Rel (k + 5) u' v') v v1 v2) u v1 v2 := by
  obtain ⟨c, q, R, C, op, tg, lf, rt, nm, pl, tn, rd, wr, dn, yt, yf, ys, rfl, rfl, hc, hq, hB⟩ := I
  unfold wpX_ramp wpY_ramp
  dsimp only
  refine ⟨17, qz_xramp (C := C) ?_ 16 0 rfl⟩
  exact ⟨17, qz_yramp (C := C) ⟨rfl, qz_rel hc hq hB⟩ 16 0 rfl⟩
theorem qz_dgc {c q c' : Int32} : ∀ d j : Nat, ∀ s : Int32, j + d = 16 → ∃ r : Int32, (∀ post : Int32 → Prop, post r → wX_digest_31 post c q R C op tg lf rt nm pl tn rd wr dn (d + 1) s (nI j)) ∧ (∀ post : Int32 → Prop, post r → wY_digest_31 post c' op yt yf ys R C (d + 1) s (nI j)) := by
  intro d
  induction d with
  | zero =>
    intro j s hj
    have e : j = 16 := by omega
    subst e
    have h := nI_le (a := 16) (b := 16) (by omega) (by decide)
    exact ⟨s, fun _ hp => br_t h hp, fun _ hp => br_t h hp⟩
  | succ d ih =>
    intro j s hj
    have h := nI_ge (a := j) (b := 16) (by omega) (by decide)
    have hi : vp_in (nI j) 16 := vp_in_nI (by omega) (by omega)
    obtain ⟨r, hX, hY⟩ := ih (j + 1) (s + (nI j + 7) * C (nI j).toNatClampNeg) (by omega)
    exact ⟨r, fun post hp => br_f h ⟨hi, nm_e (nm_r (nI_1 j) (hX post hp))⟩, fun post hp => br_f h ⟨hi, nm_e (nm_r (nI_1 j) (hY post hp))⟩⟩
theorem qz_dgr {c q c' : Int32} : ∀ d j : Nat, ∀ s : Int32, j + d = 6 → ∃ r : Int32, (∀ post : Int32 → Prop, post r → wX_digest_4 post c q R C op tg lf rt nm pl tn rd wr dn (d + 1) s (nI j)) ∧ (∀ post : Int32 → Prop, post r → wY_digest_4 post c' op yt yf ys R C (d + 1) s (nI j)) := by
  intro d
  induction d with
  | zero =>
    intro j s hj
    have e : j = 6 := by omega
    subst e
    have h := nI_le (a := 6) (b := 6) (by omega) (by decide)
    obtain ⟨r, hX, hY⟩ := qz_dgc (R := R) (C := C) (op := op) (tg := tg) (lf := lf) (rt := rt) (nm := nm) (pl := pl) (tn := tn) (rd := rd) (wr := wr) (dn := dn) (yt := yt) (yf := yf) (ys := ys) (c := c) (q := q) (c' := c') 16 0 s rfl
    exact ⟨r, fun post hp => br_t h ⟨17, hX post hp⟩, fun post hp => br_t h ⟨17, hY post hp⟩⟩
  | succ d ih =>
    intro j s hj
    have h := nI_ge (a := j) (b := 6) (by omega) (by decide)
    have hi : vp_in (nI j) 6 := vp_in_nI (by omega) (by omega)
    obtain ⟨r, hX, hY⟩ := ih (j + 1) (s + (nI j + 1) * R (nI j).toNatClampNeg) (by omega)
    exact ⟨r, fun post hp => br_f h ⟨hi, nm_e (nm_r (nI_1 j) (hX post hp))⟩, fun post hp => br_f h ⟨hi, nm_e (nm_r (nI_1 j) (hY post hp))⟩⟩
theorem i_vc_digest {k : Nat} {u : SX} {v : SY} (I : i_Rel k u v) (hk : k + 5 ≤ 2560) : wpX_digest (fun r => wpY_digest (fun r' => r' = r ∧ i_Rel (k + 5) u v) v) u := by
  obtain ⟨c, q, R, C, op, tg, lf, rt, nm, pl, tn, rd, wr, dn, yt, yf, ys, rfl, rfl, hc, hq, hB⟩ := I
  unfold wpX_digest wpY_digest
  dsimp only
  obtain ⟨r, hX, hY⟩ := qz_dgr (R := R) (C := C) (op := op) (tg := tg) (lf := lf) (rt := rt) (nm := nm) (pl := pl) (tn := tn) (rd := rd) (wr := wr) (dn := dn) (yt := yt) (yf := yf) (ys := ys) (c := nI c) (q := nI q) (c' := nI c) 6 0 0 rfl
  exact ⟨7, hX _ ⟨7, hY _ ⟨rfl, qz_rel hc hq hB⟩⟩⟩
end
section
variable {R C op tg lf rt nm pl tn rd wr dn yt yf ys : Nat → Int32}
theorem qz_b_e {x : Int32} (h : qz_rg x) : (1 : Int32) <<< (x &&& 31) = qz_b x.toNatClampNeg := by
  unfold qz_b
  rw [← qz_rg_e h]
theorem qz_xrb {post : Int32 → Prop} {x : Int32} (h : qz_rg x) (hp : post (qz_b x.toNatClampNeg)) : wpX_registerBit post x := by
  unfold wpX_registerBit
  rw [qz_b_e h]
  exact hp
theorem qz_xca {post : Int32 → Prop} {c q : Int32} {p t : Nat} (hp : p < 10) (h : post (nI (qz_c (nm p) t))) : wpX_cellAt post (c, q, R, C, op, tg, lf, rt, nm, pl, tn, rd, wr, dn) (nI p) (nI t) := by
  unfold wpX_cellAt
  dsimp only
  refine ⟨vp_in_nI hp (by omega), ?_⟩
  rw [nI_clamp (by omega), qz_c_e]
  exact h
theorem qz_xcb {post : Int32 → Prop} {c q : Int32} {p t : Nat} (hp : p < 10) (h : post (qz_b (6 + qz_c (nm p) t))) : wpX_cellBit post (c, q, R, C, op, tg, lf, rt, nm, pl, tn, rd, wr, dn) (nI p) (nI t) := by
  unfold wpX_cellBit
  dsimp only
  refine qz_xca hp ?_
  have e : (6 : Int32) + nI (qz_c (nm p) t) = nI (6 + qz_c (nm p) t) := nI_add 6 _
  rw [e]
  exact h
theorem qz_xrd {post : Int32 → Prop} {c q : Int32} {p t : Nat} (hp : p < 10) (ho : qz_op (op p)) (hd : qz_rg (tg p)) (ha : qz_rg (lf p)) (hb : qz_rg (rt p)) (h : post (qz_rd (op p) (tg p) (lf p) (rt p) (nm p) t)) :
    wpX_readsOf post (c, q, R, C, op, tg, lf, rt, nm, pl, tn, rd, wr, dn) (nI p) (nI t) := by
  unfold wpX_readsOf
  dsimp only
  have hcl : (nI p).toNatClampNeg = p := nI_clamp (by omega)
  have hin : vp_in (nI p) 10 := vp_in_nI hp (by omega)
  rw [hcl]
  refine ⟨hin, qz_xrb ha ⟨hin, qz_xrb hb (nm_e ⟨hin, nm_e ?_⟩)⟩⟩
  rcases ho with e | e | e | e | e | e | e | e <;> rw [e] at h ⊢
  · rw [qz_rd0] at h
    exact br_f (by decide) (br_f (by decide) (br_t rfl (qz_xcb hp h)))
  · rw [qz_rd1] at h
    exact br_f (by decide) (br_f (by decide) (br_f (by decide) (br_t rfl ⟨hin, qz_xrb ha h⟩)))
  · rw [qz_rd2] at h
    exact br_f (by decide) (br_f (by decide) (br_f (by decide) (br_f (by decide) (br_t rfl h))))
  · rw [qz_rd3] at h
    exact br_f (by decide) (br_f (by decide) (br_f (by decide) (br_f (by decide) (br_f (by decide) (br_t rfl h)))))
  · rw [qz_rd4] at h
    exact br_f (by decide) (br_f (by decide) (br_f (by decide) (br_f (by decide) (br_f (by decide) (br_f (by decide) (br_t rfl h))))))
  · rw [qz_rd5] at h
    exact br_f (by decide) (br_f (by decide) (br_f (by decide) (br_f (by decide) (br_f (by decide) (br_f (by decide) (br_f (by decide) (br_t rfl h)))))))
  · rw [qz_rd6] at h
    exact br_f (by decide) (br_f (by decide) (br_f (by decide) (br_f (by decide) (br_f (by decide) (br_f (by decide) (br_f (by decide) (br_f (by decide) (br_t rfl h))))))))
  · rw [qz_rd7] at h
    exact br_f (by decide) (br_f (by decide) (br_f (by decide) (br_f (by decide) (br_f (by decide) (br_f (by decide) (br_f (by decide) (br_f (by decide) (br_f (by decide) (br_t rfl ⟨hin, qz_xrb hd h⟩)))))))))
theorem qz_xwr {post : Int32 → Prop} {c q : Int32} {p t : Nat} (hp : p < 10) (hd : qz_rg (tg p)) (h : post (qz_wr (op p) (tg p) (nm p) t)) :
    wpX_writesOf post (c, q, R, C, op, tg, lf, rt, nm, pl, tn, rd, wr, dn) (nI p) (nI t) := by
  unfold wpX_writesOf
  dsimp only
  have hcl : (nI p).toNatClampNeg = p := nI_clamp (by omega)
  have hin : vp_in (nI p) 10 := vp_in_nI hp (by omega)
  rw [hcl]
  by_cases e : op p = 1
  · rw [e, qz_wr1] at h
    exact ⟨hin, br_t e (qz_xcb hp h)⟩
  · rw [qz_wrn e] at h
    exact ⟨hin, br_f e ⟨hin, qz_xrb hd h⟩⟩
/-! laySteps -/
def qz_L (op tg lf rt nm : Nat → Int32) (c : Nat) (pl tn rd wr dn : Nat → Int32) (m : Nat) : Prop := ∀ j, j < m → qz_laid op tg lf rt nm c pl tn rd wr j ∧ dn j = 0
theorem qz_Lup {c t p : Nat} (hp : p < c) (h : qz_L op tg lf rt nm c pl tn rd wr dn (t * c + p)) :
    qz_L op tg lf rt nm c (upd pl (t * c + p) (nI p)) (upd tn (t * c + p) (nI t)) (upd rd (t * c + p) (qz_rd (op p) (tg p) (lf p) (rt p) (nm p) t)) (upd wr (t * c + p) (qz_wr (op p) (tg p) (nm p) t)) (upd dn (t * c + p) 0) (t * c + (p + 1)) := by
  intro j hj
  by_cases e : j = t * c + p
  · obtain ⟨e1, e2⟩ := qz_num (t := t) hp
    subst e
    unfold qz_laid
    rw [pk_us, pk_us, pk_us, pk_us, pk_us, e1, e2]
    exact ⟨⟨rfl, rfl, rfl, rfl⟩, rfl⟩
  · unfold qz_laid
    rw [pk_un e, pk_un e, pk_un e, pk_un e, pk_un e]
    exact h j (by omega)
theorem qz_vb0 : vp_nar .boolean 0 = 0 := by decide
theorem qz_vb1 : vp_nar .boolean 1 = 1 := by decide
theorem qz_xlay1 {post : SX → Prop} {J : Int32 → Int32 → (Nat → Int32) → (Nat → Int32) → (Nat → Int32) → (Nat → Int32) → (Nat → Int32) → (Nat → Int32) → (Nat → Int32) → (Nat → Int32) → (Nat → Int32) → (Nat → Int32) → (Nat → Int32) → (Nat → Int32) → Prop} {x1 q : Int32} {c t : Nat} (hc : c ≤ 10) (hT : t * c + c ≤ 120) (hb : qz_body op tg lf rt c)
    (hJ : ∀ pl tn rd wr dn, qz_L op tg lf rt nm c pl tn rd wr dn (t * c + c) → J (nI (t * c + c)) (nI (t + 1)) R C op tg lf rt nm pl tn rd wr dn) :
    ∀ d p : Nat, p + d = c → ∀ pl tn rd wr dn, qz_L op tg lf rt nm c pl tn rd wr dn (t * c + p) → wX_laySteps_12 post J x1 (nI t) (nI c) q (d + 1) (nI (t * c + p)) (nI p) R C op tg lf rt nm pl tn rd wr dn := by
  intro d
  induction d with
  | zero =>
    intro p hp pl tn rd wr dn hL
    have e : p = c := by omega
    subst e
    exact br_t (nI_le (Nat.le_refl _) (by omega)) (nm_r (nI_1 t) (hJ _ _ _ _ _ hL))
  | succ d ih =>
    intro p hp pl tn rd wr dn hL
    have hpc : p < c := by omega
    obtain ⟨b1, b2, b3, b4⟩ := hb p hpc
    have hcl : (nI (t * c + p)).toNatClampNeg = t * c + p := nI_clamp (by omega)
    have hin : vp_in (nI (t * c + p)) 120 := vp_in_nI (by omega) (by omega)
    refine br_f (nI_ge hpc (by omega)) ⟨hin, nm_r (e' := upd pl (t * c + p) (nI p)) (by rw [hcl]) ⟨hin, nm_r (e' := upd tn (t * c + p) (nI t)) (by rw [hcl]) ?_⟩⟩
    refine qz_xrd (by omega) b1 b2 b3 b4 ⟨hin, nm_r (e' := upd rd (t * c + p) (qz_rd (op p) (tg p) (lf p) (rt p) (nm p) t)) (by rw [hcl]) ?_⟩
    refine qz_xwr (by omega) b2 ⟨hin, nm_r (e' := upd wr (t * c + p) (qz_wr (op p) (tg p) (nm p) t)) (by rw [hcl]) ⟨hin, nm_r (e' := upd dn (t * c + p) 0) (by rw [hcl, qz_vb0]) (nm_r (nI_1 _) (nm_r (nI_1 _) ?_))⟩⟩
    exact ih (p + 1) (by omega) _ _ _ _ _ (qz_Lup hpc hL)
theorem qz_xlay2 {post : SX → Prop} {q : Int32} {c n : Nat} (hc : c ≤ 10) (hn : n ≤ 12) (hb : qz_body op tg lf rt c)
    (hp : ∀ pl tn rd wr dn, qz_L op tg lf rt nm c pl tn rd wr dn (n * c) → post (nI c, q, R, C, op, tg, lf, rt, nm, pl, tn, rd, wr, dn)) :
    ∀ d t : Nat, t + d = n → ∀ pl tn rd wr dn, qz_L op tg lf rt nm c pl tn rd wr dn (t * c) → wX_laySteps_4 post (nI n) (nI c) q (d + 1) (nI (t * c)) (nI t) R C op tg lf rt nm pl tn rd wr dn := by
  intro d
  induction d with
  | zero =>
    intro t ht pl tn rd wr dn hL
    have e : t = n := by omega
    subst e
    exact br_t (nI_le (Nat.le_refl _) (by omega)) (hp _ _ _ _ _ hL)
  | succ d ih =>
    intro t ht pl tn rd wr dn hL
    have hT : t * c + c ≤ 120 := by
      have h1 : (t + 1) * c ≤ 12 * 10 := Nat.mul_le_mul (by omega) hc
      rw [Nat.succ_mul] at h1
      exact h1
    refine br_f (nI_ge (by omega) (by omega)) ⟨c + 1, qz_xlay1 hc hT hb (fun pl tn rd wr dn h => ?_) c 0 (by omega) pl tn rd wr dn hL⟩
    have e : t * c + c = (t + 1) * c := (Nat.succ_mul t c).symm
    rw [e] at h ⊢
    exact ih (t + 1) (by omega) _ _ _ _ _ h
/-! chooseStep -/
theorem qz_xch1 {post : Int32 → Prop} {c q : Int32} {o en : Nat} (hen : en ≤ 120) (h0 : dn o = 0) (hlt : o < en) (hp : ∀ e, o ≤ e → e < en → qz_ch dn rd wr o e → post (nI e)) :
    ∀ d j e : Nat, ∀ A B : Int32, j + d = en → qz_sc dn rd wr o j e A B → wX_chooseStep_11 post (nI en) c q R C op tg lf rt nm pl tn rd wr dn (d + 1) (nI e) A B (nI j) := by
  intro d
  induction d with
  | zero =>
    intro j e A B hj hs
    have z : j = en := by omega
    subst z
    obtain ⟨h1, h2, h3⟩ := hs.2.1 hlt
    exact br_t (nI_le (Nat.le_refl _) (by omega)) (hp e h1 h2 h3)
  | succ d ih =>
    intro j e A B hj hs
    have hcl : (nI j).toNatClampNeg = j := nI_clamp (by omega)
    have hin : vp_in (nI j) 120 := vp_in_nI (by omega) (by omega)
    refine br_f (nI_ge (by omega) (by omega)) ⟨hin, ?_⟩
    by_cases hd : dn j = 0
    · have hd' : dn (nI j).toNatClampNeg = 0 := by rw [hcl]; exact hd
      refine br_t hd' ⟨hin, hin, nm_r (e' := (rd j &&& B) ||| (wr j &&& (A ||| B))) (by rw [hcl]) ?_⟩
      by_cases hz : (rd j &&& B) ||| (wr j &&& (A ||| B)) = 0
      · exact br_t hz ⟨hin, nm_r (e' := A ||| rd j) (by rw [hcl]) ⟨hin, nm_r (e' := B ||| wr j) (by rw [hcl]) (nm_r (nI_1 j) (ih (j + 1) j _ _ (by omega) (qz_sc_take hs hd hz)))⟩⟩
      · exact br_f hz ⟨hin, nm_r (e' := A ||| rd j) (by rw [hcl]) ⟨hin, nm_r (e' := B ||| wr j) (by rw [hcl]) (nm_r (nI_1 j) (ih (j + 1) e _ _ (by omega) (qz_sc_leave hs hz)))⟩⟩
    · have hd' : ¬ dn (nI j).toNatClampNeg = 0 := by rw [hcl]; exact hd
      exact br_f hd' (nm_r (nI_1 j) (ih (j + 1) e A B (by omega) (qz_sc_skip h0 hs hd)))
theorem qz_xch {post : Int32 → Prop} {c q : Int32} {o en : Nat} (hen : en ≤ 120) (h0 : dn o = 0) (hlt : o < en) (hp : ∀ e, o ≤ e → e < en → qz_ch dn rd wr o e → post (nI e)) :
    wpX_chooseStep post (c, q, R, C, op, tg, lf, rt, nm, pl, tn, rd, wr, dn) (nI o) (nI en) := by
  unfold wpX_chooseStep
  dsimp only
  exact ⟨en - o + 1, qz_xch1 hen h0 hlt hp (en - o) o o 0 0 (by omega) qz_sc0⟩
end
section
variable {R C op tg lf rt nm pl tn rd wr dn yt yf ys : Nat → Int32}
theorem qz_xrs {post : Int32 → Prop} {c q : Int32} {p t : Nat} (hp : p < 10) (ho : qz_op (op p)) (h1 : ¬ op p = 1) (hd : qz_rg (tg p)) (ha : qz_rg (lf p)) (hb : qz_rg (rt p)) (h : post (qz_v (op p) (tg p) (lf p) (rt p) (nm p) t (R, C))) :
    wpX_resultOf post (c, q, R, C, op, tg, lf, rt, nm, pl, tn, rd, wr, dn) (nI p) (nI t) := by
  unfold wpX_resultOf
  dsimp only
  have hcl : (nI p).toNatClampNeg = p := nI_clamp (by omega)
  have hin : vp_in (nI p) 10 := vp_in_nI hp (by omega)
  rw [hcl]
  refine ⟨hin, qz_rg_in ha, nm_e ⟨hin, qz_rg_in hb, nm_e (qz_xca hp ⟨hin, nm_e ?_⟩)⟩⟩
  rcases ho with e | e | e | e | e | e | e | e
  · rw [e] at h ⊢
    rw [qz_v0] at h
    have hc16 := qz_c_lt (nm p) t
    refine br_f (by decide) (br_f (by decide) (br_t rfl ⟨vp_in_nI hc16 (by omega), ?_⟩))
    rw [nI_clamp (by omega)]
    exact h
  · exact absurd e h1
  · rw [e] at h ⊢
    rw [qz_v2] at h
    exact br_f (by decide) (br_f (by decide) (br_f (by decide) (br_f (by decide) (br_t rfl h))))
  · rw [e] at h ⊢
    rw [qz_v3] at h
    exact br_f (by decide) (br_f (by decide) (br_f (by decide) (br_f (by decide) (br_f (by decide) (br_t rfl h)))))
  · rw [e] at h ⊢
    rw [qz_v4] at h
    exact br_f (by decide) (br_f (by decide) (br_f (by decide) (br_f (by decide) (br_f (by decide) (br_f (by decide) (br_t rfl h))))))
  · rw [e] at h ⊢
    rw [qz_v5] at h
    refine br_f (by decide) (br_f (by decide) (br_f (by decide) (br_f (by decide) (br_f (by decide) (br_f (by decide) (br_f (by decide) (br_t rfl ?_)))))))
    by_cases hle : R (rt p).toNatClampNeg ≤ R (lf p).toNatClampNeg
    · have hn : ¬ R (lf p).toNatClampNeg < R (rt p).toNatClampNeg := Int32.not_lt.mpr hle
      rw [if_neg hn] at h
      exact br_t hle h
    · have hn : R (lf p).toNatClampNeg < R (rt p).toNatClampNeg := Int32.not_le.mp hle
      rw [if_pos hn] at h
      exact br_f hle h
  · rw [e] at h ⊢
    rw [qz_v6] at h
    exact br_f (by decide) (br_f (by decide) (br_f (by decide) (br_f (by decide) (br_f (by decide) (br_f (by decide) (br_f (by decide) (br_f (by decide) (br_t rfl ⟨hin, h⟩))))))))
  · rw [e] at h ⊢
    rw [qz_v7] at h
    refine br_f (by decide) (br_t (by decide) ?_)
    unfold wX_resultOf_122
    rw [hcl]
    refine ⟨hin, qz_rg_in hd, ?_⟩
    by_cases hz : R (tg p).toNatClampNeg = 0
    · rw [if_pos hz] at h
      exact br_t hz h
    · rw [if_neg hz] at h
      exact br_f hz h
theorem qz_xpf {post : SX → Prop} {c q : Int32} {p t : Nat} (hp : p < 10) (ho : qz_op (op p)) (hd : qz_rg (tg p)) (ha : qz_rg (lf p)) (hb : qz_rg (rt p))
    (h : post (c, q, (qz_st (op p) (tg p) (lf p) (rt p) (nm p) t (R, C)).1, (qz_st (op p) (tg p) (lf p) (rt p) (nm p) t (R, C)).2, op, tg, lf, rt, nm, pl, tn, rd, wr, dn)) :
    wpX_perform post (c, q, R, C, op, tg, lf, rt, nm, pl, tn, rd, wr, dn) (nI p) (nI t) := by
  unfold wpX_perform
  dsimp only
  have hcl : (nI p).toNatClampNeg = p := nI_clamp (by omega)
  have hin : vp_in (nI p) 10 := vp_in_nI hp (by omega)
  rw [hcl]
  by_cases e : op p = 1
  · rw [e, qz_st1] at h
    have hc16 := qz_c_lt (nm p) t
    refine ⟨hin, br_t e (qz_xca hp ⟨hin, qz_rg_in ha, vp_in_nI hc16 (by omega), nm_r (e' := upd C (qz_c (nm p) t) (R (lf p).toNatClampNeg)) (by rw [nI_clamp (by omega)]) h⟩)⟩
  · rw [qz_stn e] at h
    exact ⟨hin, br_f e (qz_xrs hp ho e hd ha hb ⟨hin, qz_rg_in hd, nm_e h⟩)⟩
/-! performSteps -/
theorem qz_xold {post : SX → Prop} {J : Int32 → Int32 → Int32 → Int32 → (Nat → Int32) → (Nat → Int32) → (Nat → Int32) → (Nat → Int32) → (Nat → Int32) → (Nat → Int32) → (Nat → Int32) → (Nat → Int32) → (Nat → Int32) → (Nat → Int32) → (Nat → Int32) → (Nat → Int32) → Prop} {x2 x4 c q : Int32} {T : Nat} (hT : T ≤ 120)
    (K : ∀ o, o < T → (∀ i, i < o → ¬ dn i = 0) → (¬ o < T - 1 ∨ dn o = 0) → wX_performSteps_43 post J (nI T) x2 (nI o) x4 c q R C op tg lf rt nm pl tn rd wr dn) :
    ∀ g o : Nat, o + g + 1 = T → (∀ i, i < o → ¬ dn i = 0) → wX_performSteps_21 post J (nI T) x2 x4 c q R C op tg lf rt nm pl tn rd wr dn (g + 1) (nI o) := by
  intro g
  induction g with
  | zero =>
    intro o ho hd
    have e : nI T - 1 = nI (T - 1) := by
      have z : T = (T - 1) + 1 := by omega
      rw [z, nI_pred]; rfl
    refine br_t ?_ (K o (by omega) hd (Or.inl (by omega)))
    rw [e]
    exact nI_le (by omega) (by omega)
  | succ g ih =>
    intro o ho hd
    have e : nI T - 1 = nI (T - 1) := by
      have z : T = (T - 1) + 1 := by omega
      rw [z, nI_pred]; rfl
    have hcl : (nI o).toNatClampNeg = o := nI_clamp (by omega)
    have hn : ¬ nI T - 1 ≤ nI o := by
      rw [e]
      exact nI_ge (by omega) (by omega)
    refine br_f hn ⟨vp_in_nI (by omega) (by omega), ?_⟩
    by_cases hz : dn o = 0
    · exact br_t (by rw [hcl]; exact hz) (K o (by omega) hd (Or.inr hz))
    · refine br_f (by rw [hcl]; exact hz) (nm_r (nI_1 o) (ih (o + 1) (by omega) (fun i hi => ?_)))
      rcases Nat.lt_or_ge i o with h | h
      · exact hd i h
      · have : i = o := by omega
        subst this; exact hz
theorem qz_x64 {post : SX → Prop} {J : Int32 → Int32 → Int32 → Int32 → (Nat → Int32) → (Nat → Int32) → (Nat → Int32) → (Nat → Int32) → (Nat → Int32) → (Nat → Int32) → (Nat → Int32) → (Nat → Int32) → (Nat → Int32) → (Nat → Int32) → (Nat → Int32) → (Nat → Int32) → Prop} {x1 x2 q : Int32} {c T o en w : Nat} (hc : c ≤ 10) (hc0 : 0 < c) (hT : T ≤ 120) (hen : en ≤ T) (hlt : o < en) (h0 : dn o = 0)
    (hb : qz_body op tg lf rt c) (hl : ∀ j, j < T → qz_laid op tg lf rt nm c pl tn rd wr j)
    (K : ∀ e, e < T → qz_ch dn rd wr o e → J (nI o) (nI (w + 1)) (nI c) q (qz_stp op tg lf rt nm c e (R, C)).1 (qz_stp op tg lf rt nm c e (R, C)).2 op tg lf rt nm pl tn rd wr (upd dn e 1)) :
    wX_performSteps_64 post J x1 x2 (nI o) (nI w) (nI en) (nI o) (nI c) q R C op tg lf rt nm pl tn rd wr dn := by
  unfold wX_performSteps_64
  refine qz_xch (by omega) h0 hlt (fun e he1 he2 hch => ?_)
  have hcl : (nI e).toNatClampNeg = e := nI_clamp (by omega)
  have hin : vp_in (nI e) 120 := vp_in_nI (by omega) (by omega)
  obtain ⟨l1, l2, _, _⟩ := hl e (by omega)
  have hm : e % c < c := Nat.mod_lt _ hc0
  obtain ⟨b1, b2, b3, b4⟩ := hb (e % c) hm
  refine ⟨hin, hin, ?_⟩
  rw [hcl, l1, l2]
  refine qz_xpf (by omega) b1 b2 b3 b4 ?_
  dsimp only
  exact ⟨hin, nm_r (e' := upd dn e 1) (by rw [qz_vb1]) (nm_r (nI_1 w) (K e (by omega) hch))⟩
theorem qz_x15 {post : SX → Prop} {q : Int32} {c T A : Nat} {fin : qz_S} (hc : c ≤ 10) (hc0 : 0 < T → 0 < c) (hT : T ≤ 120) (hA : A ≤ 30) (hb : qz_body op tg lf rt c) (hl : ∀ j, j < T → qz_laid op tg lf rt nm c pl tn rd wr j)
    (hp : ∀ dn, post (nI c, q, fin.1, fin.2, op, tg, lf, rt, nm, pl, tn, rd, wr, dn)) :
    ∀ d w o : Nat, ∀ R C dn, w + d = T → (0 < T → o < T) → (∀ i, i < o → ¬ dn i = 0) → qz_cn dn T = d → qz_ex (qz_stp op tg lf rt nm c) dn T (R, C) = fin →
      wX_performSteps_15 post (nI T) (nI A) (d + 1) (nI o) (nI w) (nI c) q R C op tg lf rt nm pl tn rd wr dn := by
  intro d
  induction d with
  | zero =>
    intro w o R C dn hw ho hd hn hx
    rw [qz_ex_done T (qz_cn_all T hn)] at hx
    subst hx
    have e : w = T := by omega
    subst e
    exact br_t (nI_le (Nat.le_refl _) (by omega)) (hp dn)
  | succ d ih =>
    intro w o R C dn hw ho hd hn hx
    have ho' := ho (by omega)
    have hc1 := hc0 (by omega)
    refine br_f (nI_ge (by omega) (by omega)) ⟨T - o - 1 + 1, qz_xold hT (fun o2 h1 h2 h3 => ?_) (T - o - 1) o (by omega) hd⟩
    have hz : dn o2 = 0 := qz_old h2 h1 h3 (by omega)
    have K : ∀ e, e < T → qz_ch dn rd wr o2 e → wX_performSteps_15 post (nI T) (nI A) (d + 1) (nI o2) (nI (w + 1)) (nI c) q (qz_stp op tg lf rt nm c e (R, C)).1 (qz_stp op tg lf rt nm c e (R, C)).2 op tg lf rt nm pl tn rd wr (upd dn e 1) := by
      intro e he hch
      obtain ⟨n1, n2⟩ := qz_next hc1 hb hl he h2 hch (R, C)
      refine ih (w + 1) o2 _ _ _ (by omega) (fun _ => h1) (fun i hi => ?_) (by omega) (n1.trans hx)
      by_cases z : i = e
      · subst z
        rw [pk_us]
        decide
      · rw [pk_un z]
        exact h2 i hi
    unfold wX_performSteps_43
    refine nm_r (e' := nI (o2 + A + 1)) (by rw [nI_add, nI_1]) ?_
    rcases Nat.lt_or_ge (o2 + A + 1) T with hlt | hge
    · exact br_f (nI_ge hlt (by omega)) (qz_x64 hc hc1 hT (by omega) (by omega) hz hb hl K)
    · exact br_t (nI_le hge (by omega)) (qz_x64 hc hc1 hT (Nat.le_refl _) h1 hz hb hl K)
end
section
variable {R C op tg lf rt nm pl tn rd wr dn yt yf ys : Nat → Int32}
theorem qz_ok_op {o d a b k y f s : Int32} (h : qz_ok o d a b k y f s) : qz_op o := by
  rcases h.2.2.2 with e | e | e | e
  · exact Or.inl e.1
  · exact Or.inr (Or.inl e.1)
  · exact Or.inr (Or.inr (Or.inr (Or.inr (Or.inr (Or.inr (Or.inl e.1))))))
  · rcases e.1 with e | e | e | e | e
    · exact Or.inr (Or.inr (Or.inl e))
    · exact Or.inr (Or.inr (Or.inr (Or.inl e)))
    · exact Or.inr (Or.inr (Or.inr (Or.inr (Or.inl e))))
    · exact Or.inr (Or.inr (Or.inr (Or.inr (Or.inr (Or.inl e)))))
    · exact Or.inr (Or.inr (Or.inr (Or.inr (Or.inr (Or.inr (Or.inr e))))))
theorem qz_yrs {post : Int32 → Prop} {v : SY} {o d a b k : Int32} {t : Nat} {m : qz_S} (ho : o = 2 ∨ o = 3 ∨ o = 4 ∨ o = 5 ∨ o = 7) (h : post (qz_v o d a b k t m)) : wpY_result post v o (m.1 d.toNatClampNeg) (m.1 a.toNatClampNeg) (m.1 b.toNatClampNeg) := by
  obtain ⟨a0, a1, a2, a3, a4, a5, a6⟩ := v
  unfold wpY_result
  dsimp only
  rcases ho with e | e | e | e | e <;> subst e
  · rw [qz_v2] at h
    exact br_t rfl h
  · rw [qz_v3] at h
    exact br_f (by decide) (br_t rfl h)
  · rw [qz_v4] at h
    exact br_f (by decide) (br_f (by decide) (br_t rfl h))
  · rw [qz_v5] at h
    refine br_f (by decide) (br_f (by decide) (br_f (by decide) (br_t rfl ?_)))
    by_cases hle : m.1 b.toNatClampNeg ≤ m.1 a.toNatClampNeg
    · have hn : ¬ m.1 a.toNatClampNeg < m.1 b.toNatClampNeg := Int32.not_lt.mpr hle
      rw [if_neg hn] at h
      exact br_t hle h
    · have hn : m.1 a.toNatClampNeg < m.1 b.toNatClampNeg := Int32.not_le.mp hle
      rw [if_pos hn] at h
      exact br_f hle h
  · rw [qz_v7] at h
    refine br_f (by decide) (br_f (by decide) (br_f (by decide) (br_f (by decide) ?_)))
    by_cases hz : m.1 d.toNatClampNeg = 0
    · rw [if_pos hz] at h
      exact br_t hz h
    · rw [if_neg hz] at h
      exact br_f hz h
theorem qz_ywk {post : SY → Prop} {c : Int32} {p t : Nat} (hp : p < 10) (hok : qz_ok (op p) (tg p) (lf p) (rt p) (nm p) (yt p) (yf p) (ys p))
    (h : post (c, op, yt, yf, ys, (qz_st (op p) (tg p) (lf p) (rt p) (nm p) t (R, C)).1, (qz_st (op p) (tg p) (lf p) (rt p) (nm p) t (R, C)).2)) :
    wpY_work post (c, op, yt, yf, ys, R, C) (nI p) (nI t) := by
  unfold wpY_work
  dsimp only
  have hcl : (nI p).toNatClampNeg = p := nI_clamp (by omega)
  have hin : vp_in (nI p) 10 := vp_in_nI hp (by omega)
  have hc16 := qz_c_lt (nm p) t
  have hi16 : vp_in (nI (qz_c (nm p) t)) 16 := vp_in_nI hc16 (by omega)
  have hc16' : (nI (qz_c (nm p) t)).toNatClampNeg = qz_c (nm p) t := nI_clamp (by omega)
  rw [hcl]
  obtain ⟨hd, ha, hb, hk⟩ := hok
  rcases hk with ⟨e, e1, e2⟩ | ⟨e, e1, e2⟩ | ⟨e, e1, e2⟩ | ⟨e, e1, e2, e3⟩
  · rw [e1, e2, qz_c_e, hc16']
    rw [e] at h
    rw [qz_stn (by decide), qz_v0] at h
    exact ⟨hin, nm_e ⟨hin, br_t e ⟨hin, hi16, qz_rg_in hd, nm_e h⟩⟩⟩
  · rw [e1, e2, qz_c_e, hc16']
    have n0 : ¬ op p = 0 := by rw [e]; decide
    rw [e, qz_st1] at h
    exact ⟨hin, nm_e ⟨hin, br_f n0 ⟨hin, br_t e ⟨hin, qz_rg_in ha, hi16, nm_e h⟩⟩⟩⟩
  · rw [e1, e2]
    have n0 : ¬ op p = 0 := by rw [e]; decide
    have n1 : ¬ op p = 1 := by rw [e]; decide
    rw [qz_stn n1] at h
    rw [e, qz_v6] at h
    exact ⟨hin, nm_e ⟨hin, br_f n0 ⟨hin, br_f n1 ⟨hin, br_t e ⟨hin, qz_rg_in hd, nm_e h⟩⟩⟩⟩⟩
  · rw [e1, e2, e3]
    have n0 : ¬ op p = 0 := by rcases e with e | e | e | e | e <;> rw [e] <;> decide
    have n1 : ¬ op p = 1 := by rcases e with e | e | e | e | e <;> rw [e] <;> decide
    have n6 : ¬ op p = 6 := by rcases e with e | e | e | e | e <;> rw [e] <;> decide
    rw [qz_stn n1] at h
    exact ⟨hin, nm_e ⟨hin, br_f n0 ⟨hin, br_f n1 ⟨hin, br_f n6 ⟨hin, qz_rg_in hd, hin, qz_rg_in ha, hin, qz_rg_in hb, qz_yrs (m := (R, C)) (k := nm p) (t := t) e ⟨qz_rg_in hd, nm_e h⟩⟩⟩⟩⟩⟩
/-- the state after the first j steps in order -/
def qz_sq (op tg lf rt nm : Nat → Int32) (c : Nat) (m : qz_S) (j : Nat) : qz_S := qz_ex (qz_stp op tg lf rt nm c) (fun _ => 0) j m
theorem qz_sq_s {c : Nat} {m : qz_S} {t p : Nat} (hp : p < c) : qz_sq op tg lf rt nm c m (t * c + (p + 1)) = qz_st (op p) (tg p) (lf p) (rt p) (nm p) t (qz_sq op tg lf rt nm c m (t * c + p)) := by
  show qz_ex (qz_stp op tg lf rt nm c) (fun _ => 0) ((t * c + p) + 1) m = _
  rw [qz_ex_s, if_pos rfl]
  unfold qz_stp
  obtain ⟨e1, e2⟩ := qz_num (t := t) hp
  rw [e1, e2]
  rfl
theorem qz_y21 {post : Int32 → SY → Prop} {J : Int32 → Int32 → (Nat → Int32) → (Nat → Int32) → (Nat → Int32) → (Nat → Int32) → (Nat → Int32) → (Nat → Int32) → Prop} {x1 : Int32} {c t : Nat} {m : qz_S} (hc : c ≤ 10) (hB : ∀ p, p < c → qz_ok (op p) (tg p) (lf p) (rt p) (nm p) (yt p) (yf p) (ys p))
    (hJ : J (nI (t + 1)) (nI c) op yt yf ys (qz_sq op tg lf rt nm c m (t * c + c)).1 (qz_sq op tg lf rt nm c m (t * c + c)).2) :
    ∀ d p : Nat, p + d = c → wY_run_21 post J x1 (nI t) (d + 1) (nI p) (nI c) op yt yf ys (qz_sq op tg lf rt nm c m (t * c + p)).1 (qz_sq op tg lf rt nm c m (t * c + p)).2 := by
  intro d
  induction d with
  | zero =>
    intro p hp
    have e : p = c := by omega
    subst e
    exact br_t (nI_le (Nat.le_refl _) (by omega)) (nm_r (nI_1 t) hJ)
  | succ d ih =>
    intro p hp
    have hpc : p < c := by omega
    refine br_f (nI_ge hpc (by omega)) (qz_ywk (by omega) (hB p hpc) ?_)
    dsimp only
    refine nm_r (nI_1 p) ?_
    have z := ih (p + 1) (by omega)
    rw [qz_sq_s hpc] at z
    exact z
theorem qz_y14 {post : Int32 → SY → Prop} {c n : Nat} {m : qz_S} (hc : c ≤ 10) (hn : n ≤ 12) (hB : ∀ p, p < c → qz_ok (op p) (tg p) (lf p) (rt p) (nm p) (yt p) (yf p) (ys p))
    (hp : post (nI n * nI c) (nI c, op, yt, yf, ys, (qz_sq op tg lf rt nm c m (n * c)).1, (qz_sq op tg lf rt nm c m (n * c)).2)) :
    ∀ d t : Nat, t + d = n → wY_run_14 post (nI n) (d + 1) (nI t) (nI c) op yt yf ys (qz_sq op tg lf rt nm c m (t * c)).1 (qz_sq op tg lf rt nm c m (t * c)).2 := by
  intro d
  induction d with
  | zero =>
    intro t ht
    have e : t = n := by omega
    subst e
    exact br_t (nI_le (Nat.le_refl _) (by omega)) hp
  | succ d ih =>
    intro t ht
    refine br_f (nI_ge (by omega) (by omega)) ⟨c + 1, qz_y21 hc hB ?_ c 0 (by omega)⟩
    have e : t * c + c = (t + 1) * c := (Nat.succ_mul t c).symm
    rw [e]
    exact ih (t + 1) (by omega)
end
section
theorem i_vc_run {k : Nat} {u : SX} {v : SY} (I : i_Rel k u v) (hk : k + 5 ≤ 2560) (v1 : Int32) : wpX_run (fun r u' => wpY_run (fun r' v' => r' = r ∧ i_Rel (k + 5) u' v') v v1) u v1 := by
  obtain ⟨c, q, R, C, op, tg, lf, rt, nm, pl, tn, rd, wr, dn, yt, yf, ys, rfl, rfl, hc, hq, hB⟩ := I
  unfold wpX_run wpY_run
  dsimp only
  by_cases h0 : v1 < 0
  · exact br_t h0 (br_t h0 ⟨rfl, qz_rel hc hq hB⟩)
  by_cases h12 : v1 ≤ 12
  · obtain ⟨n, hn, rfl⟩ := nI_of2 (M := 12) (n := 12) (by decide) h0 h12
    have hb : qz_body op tg lf rt c := fun p hp => ⟨qz_ok_op (hB p hp), (hB p hp).1, (hB p hp).2.1, (hB p hp).2.2.1⟩
    have hT : n * c ≤ 120 := Nat.le_trans (Nat.mul_le_mul hn hc) (by decide)
    refine br_f h0 (br_t h12 (nm_e ?_))
    unfold wpX_laySteps
    dsimp only
    have e0 : nI (0 * c) = 0 := by rw [Nat.zero_mul]; rfl
    refine ⟨n + 1, ?_⟩
    have L := qz_xlay2 (R := R) (C := C) (q := nI q) (post := fun u => match u with | (f_count, f_order, a_registers, a_cells, a_ops, a_targets, a_lefts, a_rights, a_numbers, a_stepPlace, a_stepTurn, a_stepReads, a_stepWrites, a_stepDone) => (wpX_performSteps (fun u => match u with | (f_count, f_order, a_registers, a_cells, a_ops, a_targets, a_lefts, a_rights, a_numbers, a_stepPlace, a_stepTurn, a_stepReads, a_stepWrites, a_stepDone) => (wpY_run (fun r' v' => r' = nI n * nI c ∧ i_Rel (k + 5) (f_count, f_order, a_registers, a_cells, a_ops, a_targets, a_lefts, a_rights, a_numbers, a_stepPlace, a_stepTurn, a_stepReads, a_stepWrites, a_stepDone) v') (nI c, op, yt, yf, ys, R, C) (nI n))) (f_count, f_order, a_registers, a_cells, a_ops, a_targets, a_lefts, a_rights, a_numbers, a_stepPlace, a_stepTurn, a_stepReads, a_stepWrites, a_stepDone) (nI n * nI c))) (nm := nm) hc hn hb ?_ n 0 (by omega) pl tn rd wr dn (fun j hj => absurd hj (by rw [Nat.zero_mul]; exact Nat.not_lt_zero j))
    · rw [e0] at L
      exact L
    · intro pl tn rd wr dn hL
      dsimp only
      unfold wpX_performSteps
      dsimp only
      refine nm_r (pk_mul q c) ?_
      rw [pk_mul n c]
      have hA : q * c ≤ 30 := Nat.le_trans (Nat.mul_le_mul hq hc) (by decide)
      have hcn : qz_cn dn (n * c) = n * c := qz_cn_full _ (fun i hi => (hL i hi).2)
      have hex : qz_ex (qz_stp op tg lf rt nm c) dn (n * c) (R, C) = qz_sq op tg lf rt nm c (R, C) (n * c) := qz_ex_congr _ (fun i hi => (hL i hi).2)
      refine ⟨n * c + 1, qz_x15 hc (fun z => Nat.pos_of_mul_pos_left z) hT hA hb (fun j hj => (hL j hj).1) (fun dn' => ?_) (n * c) 0 0 R C dn (by omega) (fun z => z) (fun i hi => absurd hi (Nat.not_lt_zero i)) hcn hex⟩
      dsimp only
      unfold wpY_run
      dsimp only
      refine br_f h0 (br_t h12 ⟨n + 1, ?_⟩)
      have Y := qz_y14 (m := (R, C)) (post := fun r' v' => r' = nI (n * c) ∧ i_Rel (k + 5) (nI c, nI q, (qz_sq op tg lf rt nm c (R, C) (n * c)).1, (qz_sq op tg lf rt nm c (R, C) (n * c)).2, op, tg, lf, rt, nm, pl, tn, rd, wr, dn') v') hc hn hB ⟨pk_mul n c, qz_rel hc hq hB⟩ n 0 (by omega)
      rw [Nat.zero_mul] at Y
      exact Y
  · exact br_f h0 (br_f h12 (br_f h0 (br_f h12 ⟨rfl, qz_rel hc hq hB⟩)))
end
