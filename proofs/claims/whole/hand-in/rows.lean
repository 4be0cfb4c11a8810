section
section LMA
/-! A: stores, small numbers -/
theorem lm_us {f : Nat → Int32} {k : Nat} {x : Int32} : upd f k x k = x := if_pos rfl
theorem lm_un {f : Nat → Int32} {k j : Nat} {x : Int32} (h : j ≠ k) : upd f k x j = f j := if_neg h
theorem lm_ux {f : Nat → Int32} {k j : Nat} {x : Int32} : upd f k x j = if j = k then x else f j := rfl
theorem lm_m1 (n : Nat) : nI (n + 1) + (-1) = nI n := by
  rw [← nI_1, Int32.add_assoc, show (1 : Int32) + (-1) = 0 from rfl, Int32.add_zero]
theorem lm_s1 (n : Nat) : nI (n + 1) - 1 = nI n := nI_pred n
theorem lm_0le {a : Nat} (h : a < 2 ^ 31) : 0 ≤ nI a := nI_pos' h
theorem lm_ne5 {a : Nat} (h : a < 2 ^ 31) : ¬ nI a = -5 := by
  intro e
  have := nI_pos (n := a) h
  rw [e] at this
  exact this (by decide)
/-- an int within 0 .. n - 1, by its two tests -/
theorem lm_rg {x : Int32} {n : Nat} (hn : n < 2 ^ 31) (h0 : ¬ x < 0) (h1 : x < nI n) : ∃ j : Nat, j < n ∧ x = nI j := by
  obtain ⟨j, hj, rfl⟩ := nI_of h0
  rw [nI_ltI hj hn] at h1
  exact ⟨j, h1, rfl⟩

/-! B: counts -/
def lm_cnt (P : Nat → Bool) : Nat → Nat
  | 0 => 0
  | n + 1 => if P n = true then lm_cnt P n + 1 else lm_cnt P n
theorem lm_ct {P : Nat → Bool} {n : Nat} (h : P n = true) : lm_cnt P (n + 1) = lm_cnt P n + 1 := if_pos h
theorem lm_cf {P : Nat → Bool} {n : Nat} (h : ¬ P n = true) : lm_cnt P (n + 1) = lm_cnt P n := if_neg h
theorem lm_cb {P : Nat → Bool} : ∀ n : Nat, lm_cnt P n ≤ n := by
  intro n
  induction n with
  | zero => exact Nat.le_refl 0
  | succ n ih =>
    by_cases h : P n = true
    · rw [lm_ct h]; omega
    · rw [lm_cf h]; omega
theorem lm_cle {P Q : Nat → Bool} : ∀ n : Nat, (∀ j, j < n → P j = true → Q j = true) → lm_cnt P n ≤ lm_cnt Q n := by
  intro n
  induction n with
  | zero => intro _; exact Nat.le_refl 0
  | succ n ih =>
    intro H
    have h1 := ih (fun j hj => H j (by omega))
    by_cases h : P n = true
    · rw [lm_ct h, lm_ct (H n (by omega) h)]; omega
    · rw [lm_cf h]
      by_cases g : Q n = true
      · rw [lm_ct g]; omega
      · rw [lm_cf g]; omega
theorem lm_ceq {P Q : Nat → Bool} (n : Nat) (H : ∀ j, j < n → (P j = true ↔ Q j = true)) : lm_cnt P n = lm_cnt Q n :=
  Nat.le_antisymm (lm_cle n fun j hj => (H j hj).mp) (lm_cle n fun j hj => (H j hj).mpr)
theorem lm_c0 {P : Nat → Bool} : ∀ n : Nat, (∀ j, j < n → ¬ P j = true) → lm_cnt P n = 0 := by
  intro n
  induction n with
  | zero => intro _; rfl
  | succ n ih =>
    intro H
    rw [lm_cf (H n (by omega))]
    exact ih (fun j hj => H j (by omega))
theorem lm_cup {P Q : Nat → Bool} {i : Nat} : ∀ n : Nat, i < n → (∀ j, j < n → j ≠ i → (P j = true ↔ Q j = true)) → ¬ P i = true → Q i = true → lm_cnt Q n = lm_cnt P n + 1 := by
  intro n
  induction n with
  | zero => intro h; omega
  | succ n ih =>
    intro hi H hp hq
    by_cases e : i = n
    · subst e
      rw [lm_ct hq, lm_cf hp, lm_ceq i (fun j hj => H j (by omega) (by omega))]
    · have h1 := ih (by omega) (fun j hj => H j (by omega)) hp hq
      have h2 := H n (by omega) (fun z => e z.symm)
      by_cases h : P n = true
      · rw [lm_ct h, lm_ct (h2.mp h)]; omega
      · rw [lm_cf h, lm_cf (fun z => h (h2.mpr z))]; omega
theorem lm_clt {P Q : Nat → Bool} {i n : Nat} (hi : i < n) (H : ∀ j, j < n → P j = true → Q j = true) (hp : ¬ P i = true) (hq : Q i = true) : lm_cnt P n < lm_cnt Q n := by
  have h1 : lm_cnt (fun j => P j || decide (j = i)) n = lm_cnt P n + 1 :=
    lm_cup n hi (fun j _ hj => by simp [hj]) hp (by simp)
  have h2 : lm_cnt (fun j => P j || decide (j = i)) n ≤ lm_cnt Q n := lm_cle n (fun j hj h => by
    have h3 : P j = true ∨ j = i := by simpa using h
    rcases h3 with h3 | h3
    · exact H j hj h3
    · rw [h3]; exact hq)
  omega
theorem lm_cle1 {P Q : Nat → Bool} {i : Nat} : ∀ n : Nat, (∀ j, j < n → j ≠ i → Q j = true → P j = true) → lm_cnt Q n ≤ lm_cnt P n + 1 := by
  intro n
  induction n with
  | zero => intro _; exact Nat.zero_le _
  | succ n ih =>
    intro H
    by_cases e : n = i
    · have h1 : lm_cnt Q n ≤ lm_cnt P n := lm_cle n (fun j hj => H j (by omega) (by omega))
      by_cases h : Q n = true
      · rw [lm_ct h]
        by_cases g : P n = true
        · rw [lm_ct g]; omega
        · rw [lm_cf g]; omega
      · rw [lm_cf h]
        by_cases g : P n = true
        · rw [lm_ct g]; omega
        · rw [lm_cf g]; omega
    · have h1 := ih (fun j hj => H j (by omega))
      have h2 := H n (by omega) e
      by_cases h : Q n = true
      · rw [lm_ct h, lm_ct (h2 h)]; omega
      · rw [lm_cf h]
        by_cases g : P n = true
        · rw [lm_ct g]; omega
        · rw [lm_cf g]; omega

/-! C: a loop that stores v j at each j with P j -/
def lm_fd (P : Nat → Bool) (v st : Nat → Int32) (i : Nat) : Nat → Int32 := fun j => if j < i ∧ P j = true then v j else st j
theorem lm_fd0 {P : Nat → Bool} {v st : Nat → Int32} : lm_fd P v st 0 = st := funext fun j => if_neg (fun h => absurd h.1 (Nat.not_lt_zero j))
theorem lm_fdi {P : Nat → Bool} {v st : Nat → Int32} {i : Nat} : lm_fd P v st i i = st i := if_neg (fun h => Nat.lt_irrefl i h.1)
theorem lm_fdt {P : Nat → Bool} {v st : Nat → Int32} {i : Nat} (h : P i = true) : upd (lm_fd P v st i) i (v i) = lm_fd P v st (i + 1) := by
  funext j
  by_cases e : j = i
  · subst e
    rw [lm_us]
    exact (if_pos ⟨Nat.lt_succ_self j, h⟩).symm
  · rw [lm_un e]
    unfold lm_fd
    by_cases g : j < i ∧ P j = true
    · rw [if_pos g, if_pos ⟨Nat.lt_succ_of_lt g.1, g.2⟩]
    · rw [if_neg g, if_neg (fun z => g ⟨by have := z.1; omega, z.2⟩)]
theorem lm_fdf {P : Nat → Bool} {v st : Nat → Int32} {i : Nat} (h : ¬ P i = true) : lm_fd P v st (i + 1) = lm_fd P v st i := by
  funext j
  unfold lm_fd
  by_cases g : j < i ∧ P j = true
  · rw [if_pos g, if_pos ⟨Nat.lt_succ_of_lt g.1, g.2⟩]
  · rw [if_neg g, if_neg (fun z => g ⟨by
      have h1 := z.1
      have h2 : j ≠ i := fun e => h (e ▸ z.2)
      omega, z.2⟩)]
end LMA
end
section
section LMB
/-! D: READY in a queue, OUT with a consumer, and the place in the order -/
def lm_rd (st qu : Nat → Int32) (q : Int32) (j : Nat) : Bool := decide (qu j = q ∧ st j = 0)
def lm_ou (st ho : Nat → Int32) (c : Int32) (j : Nat) : Bool := decide (st j = 1 ∧ ho j = c)
theorem lm_rdt {st qu : Nat → Int32} {q : Int32} {j : Nat} : lm_rd st qu q j = true ↔ qu j = q ∧ st j = 0 := decide_eq_true_iff
theorem lm_out {st ho : Nat → Int32} {c : Int32} {j : Nat} : lm_ou st ho c j = true ↔ st j = 1 ∧ ho j = c := decide_eq_true_iff
def lm_bf (R : Nat → Bool) (g : Nat → Nat) (c i j : Nat) : Bool := R j && decide (c < g j ∨ (g j = c ∧ j < i))
theorem lm_bft {R : Nat → Bool} {g : Nat → Nat} {c i j : Nat} : lm_bf R g c i j = true ↔ R j = true ∧ (c < g j ∨ (g j = c ∧ j < i)) := by
  unfold lm_bf
  rw [Bool.and_eq_true, decide_eq_true_iff]
/-- how many stand ahead of place i of priority c -/
def lm_B (R : Nat → Bool) (g : Nat → Nat) (p c i : Nat) : Nat := lm_cnt (lm_bf R g c i) p
theorem lm_Bb {R : Nat → Bool} {g : Nat → Nat} {p c i : Nat} : lm_B R g p c i ≤ p := lm_cb p
theorem lm_Bst {R : Nat → Bool} {g : Nat → Nat} {p c i : Nat} (hi : i < p) (hr : R i = true) (hg : g i = c) : lm_B R g p c (i + 1) = lm_B R g p c i + 1 := by
  refine lm_cup p hi (fun j _ hj => ?_) ?_ ?_
  · rw [lm_bft, lm_bft]
    constructor
    · intro z; exact ⟨z.1, by have := z.2; omega⟩
    · intro z; exact ⟨z.1, by have := z.2; omega⟩
  · rw [lm_bft]
    intro z
    have := z.2
    omega
  · rw [lm_bft]
    exact ⟨hr, Or.inr ⟨hg, Nat.lt_succ_self i⟩⟩
theorem lm_Bsf {R : Nat → Bool} {g : Nat → Nat} {p c i : Nat} (h : ¬ (g i = c ∧ R i = true)) : lm_B R g p c (i + 1) = lm_B R g p c i := by
  refine lm_ceq p (fun j _ => ?_)
  rw [lm_bft, lm_bft]
  constructor
  · intro z
    refine ⟨z.1, ?_⟩
    have h2 : j = i → ¬ g j = c := fun e k => h ⟨e ▸ k, e ▸ z.1⟩
    have := z.2
    omega
  · intro z; exact ⟨z.1, by have := z.2; omega⟩
theorem lm_Bn {R : Nat → Bool} {g : Nat → Nat} {p c : Nat} : lm_B R g p (c + 1) p = lm_B R g p c 0 := by
  refine lm_ceq p (fun j hj => ?_)
  rw [lm_bft, lm_bft]
  constructor
  · intro z; exact ⟨z.1, by have := z.2; omega⟩
  · intro z; exact ⟨z.1, by have := z.2; omega⟩
theorem lm_B0 {R : Nat → Bool} {g : Nat → Nat} {p c : Nat} (h : ∀ j, j < p → g j ≤ c) : lm_B R g p c 0 = 0 := by
  refine lm_c0 p (fun j hj => ?_)
  rw [lm_bft]
  intro z
  have h1 := z.2
  have h2 := h j hj
  omega
def lm_rk (R : Nat → Bool) (g : Nat → Nat) (p m : Nat) : Nat := lm_B R g p (g m) m
theorem lm_rlt {R : Nat → Bool} {g : Nat → Nat} {p a b : Nat} (ha : a < p) (ra : R a = true) (h : g b < g a ∨ (g a = g b ∧ a < b)) : lm_rk R g p a < lm_rk R g p b := by
  refine lm_clt ha (fun j _ z => ?_) ?_ ?_
  · rw [lm_bft] at z ⊢
    exact ⟨z.1, by have := z.2; omega⟩
  · rw [lm_bft]
    intro z
    have := z.2
    omega
  · rw [lm_bft]
    exact ⟨ra, h⟩
theorem lm_rin {R : Nat → Bool} {g : Nat → Nat} {p a b : Nat} (ha : a < p) (hb : b < p) (ra : R a = true) (rb : R b = true) (e : lm_rk R g p a = lm_rk R g p b) : a = b := by
  by_cases h1 : g b < g a ∨ (g a = g b ∧ a < b)
  · have := lm_rlt ha ra h1
    omega
  · by_cases h2 : g a < g b ∨ (g b = g a ∧ b < a)
    · have := lm_rlt hb rb h2
      omega
    · omega
/-- the answer r to the place x: the message that stands there, or EMPTY -/
def lm_Sp (R : Nat → Bool) (g : Nat → Nat) (p : Nat) (x r : Int32) : Prop :=
  (∃ m : Nat, m < p ∧ R m = true ∧ nI (lm_rk R g p m) = x ∧ r = nI m) ∨ ((∀ m : Nat, m < p → R m = true → ¬ nI (lm_rk R g p m) = x) ∧ r = -5)
theorem lm_Spu {R : Nat → Bool} {g : Nat → Nat} {p : Nat} {x r s : Int32} (hp : p ≤ 40) (h : lm_Sp R g p x r) (h' : lm_Sp R g p x s) : s = r := by
  rcases h with ⟨m, hm, rm, em, rfl⟩ | ⟨h, rfl⟩
  · rcases h' with ⟨m', hm', rm', em', rfl⟩ | ⟨h', _⟩
    · have b1 : lm_rk R g p m ≤ p := lm_Bb
      have b2 : lm_rk R g p m' ≤ p := lm_Bb
      have e : lm_rk R g p m' = lm_rk R g p m := (nI_eq (by omega) (by omega)).mp (em'.trans em.symm)
      rw [lm_rin hm' hm rm' rm e]
    · exact absurd em (h' m hm rm)
  · rcases h' with ⟨m', hm', rm', em', rfl⟩ | ⟨_, rfl⟩
    · exact absurd em' (h m' hm' rm')
    · rfl

/-! E: what holds between two calls -/
def lm_M (t : Nat) (q r l b e : Int32) : Prop :=
  (∃ a : Nat, a < 3 ∧ q = nI a) ∧ (∃ a : Nat, a < 4 ∧ r = nI a) ∧ ∃ l' b' : Nat, l' ≤ 50 ∧ b' ≤ t ∧ l = nI l' ∧ b = nI b' ∧ e = if l' = 0 then -1 else nI (b' + l')
def lm_Ok (k p t : Nat) (qu pr lv bi en st ho : Nat → Int32) : Prop :=
  p ≤ 40 ∧ t ≤ 20 * k ∧ (∀ j, j < p → lm_M t (qu j) (pr j) (lv j) (bi j) (en j)) ∧ ∀ c : Int32, lm_cnt (lm_ou st ho c) p ≤ 2
theorem lm_Mt {t t' : Nat} {q r l b e : Int32} (h : lm_M t q r l b e) (ht : t ≤ t') : lm_M t' q r l b e := by
  obtain ⟨h1, h2, l', b', h3, h4, h5, h6, h7⟩ := h
  exact ⟨h1, h2, l', b', h3, by omega, h5, h6, h7⟩
theorem lm_Oup {k p t : Nat} {qu pr lv bi en st ho : Nat → Int32} (h : lm_Ok k p t qu pr lv bi en st ho) : lm_Ok (k + 5) p t qu pr lv bi en st ho :=
  ⟨h.1, by have := h.2.1; omega, h.2.2⟩
/-- fewer are OUT -/
theorem lm_Ost {k p t : Nat} {qu pr lv bi en st st' ho : Nat → Int32} (h : lm_Ok k p t qu pr lv bi en st ho) (H : ∀ (c : Int32) (j : Nat), lm_ou st' ho c j = true → lm_ou st ho c j = true) : lm_Ok (k + 5) p t qu pr lv bi en st' ho :=
  ⟨h.1, by have := h.2.1; omega, h.2.2.1, fun c => Nat.le_trans (lm_cle p fun j _ => H c j) (h.2.2.2 c)⟩
theorem lm_Ost1 {k p t m : Nat} {x : Int32} {qu pr lv bi en st ho : Nat → Int32} (h : lm_Ok k p t qu pr lv bi en st ho) (hx : ¬ x = 1) : lm_Ok (k + 5) p t qu pr lv bi en (upd st m x) ho := by
  refine lm_Ost h (fun c j z => ?_)
  rw [lm_out] at z ⊢
  by_cases e : j = m
  · subst e
    rw [lm_us] at z
    exact absurd z.1 hx
  · rw [lm_un e] at z
    exact z
theorem lm_Ostf {k p t i : Nat} {P : Nat → Bool} {v qu pr lv bi en st ho : Nat → Int32} (h : lm_Ok k p t qu pr lv bi en st ho) (hv : ∀ j, ¬ v j = 1) : lm_Ok (k + 5) p t qu pr lv bi en (lm_fd P v st i) ho := by
  refine lm_Ost h (fun c j z => ?_)
  rw [lm_out] at z ⊢
  unfold lm_fd at z
  by_cases e : j < i ∧ P j = true
  · rw [if_pos e] at z
    exact absurd z.1 (hv j)
  · rw [if_neg e] at z
    exact z
/-- the time goes on -/
theorem lm_Ot {k p t n i : Nat} {P P' : Nat → Bool} {v v' qu pr lv bi en st ho : Nat → Int32} (h : lm_Ok k p t qu pr lv bi en st ho) (hn : n ≤ 100) (hv : ∀ j, ¬ v j = 1) (hv' : ∀ j, ¬ v' j = 1) : lm_Ok (k + 5) p (t + n) qu pr lv bi en (lm_fd P' v' (lm_fd P v st i) i) ho := by
  have h1 := (lm_Ostf (P := P') (i := i) (lm_Ostf (P := P) (i := i) h hv) hv').2.2.2
  exact ⟨h.1, by have := h.2.1; omega, fun j hj => lm_Mt (h.2.2.1 j hj) (by omega), h1⟩
/-- publish -/
theorem lm_Opub {k p t : Nat} {q r l e : Int32} {qu pr lv bi en st ho : Nat → Int32} (h : lm_Ok k p t qu pr lv bi en st ho) (hp : p < 40) (hm : lm_M t q r l (nI t) e) : lm_Ok (k + 5) (p + 1) t (upd qu p q) (upd pr p r) (upd lv p l) (upd bi p (nI t)) (upd en p e) (upd st p 0) ho := by
  refine ⟨by omega, by have := h.2.1; omega, fun j hj => ?_, fun c => ?_⟩
  · by_cases z : j = p
    · subst z
      rw [lm_us, lm_us, lm_us, lm_us, lm_us]
      exact hm
    · rw [lm_un z, lm_un z, lm_un z, lm_un z, lm_un z]
      exact h.2.2.1 j (by omega)
  · rw [lm_cf (by rw [lm_out, lm_us]; intro z; exact absurd z.1 (by decide))]
    refine Nat.le_trans (lm_cle p fun j hj z => ?_) (h.2.2.2 c)
    rw [lm_out, lm_un (by omega)] at z
    exact lm_out.mpr z
/-- take -/
theorem lm_Otk {k p t m : Nat} {c : Int32} {qu pr lv bi en st ho : Nat → Int32} (h : lm_Ok k p t qu pr lv bi en st ho) (hm : st m = 0) (hc : ¬ 2 ≤ lm_cnt (lm_ou st ho c) p) : lm_Ok (k + 5) p t qu pr lv bi en (upd st m 1) (upd ho m c) := by
  refine ⟨h.1, by have := h.2.1; omega, h.2.2.1, fun d => ?_⟩
  by_cases e : d = c
  · subst e
    have h1 : lm_cnt (lm_ou (upd st m 1) (upd ho m d) d) p ≤ lm_cnt (lm_ou st ho d) p + 1 := lm_cle1 (i := m) p (fun j _ hj z => by
      rw [lm_out, lm_un hj, lm_un hj] at z
      exact lm_out.mpr z)
    omega
  · refine Nat.le_trans (lm_cle p fun j hj z => ?_) (h.2.2.2 d)
    rw [lm_out] at z ⊢
    by_cases f : j = m
    · subst f
      rw [lm_us, lm_us] at z
      exact absurd z.2.symm e
    · rw [lm_un f, lm_un f] at z
      exact z
/-! F: what the loops reckon -/
def lm_sum (x : Int32) (st bo : Nat → Int32) : Nat → Int32
  | 0 => 0
  | n + 1 => if st n = x then lm_sum x st bo n + bo n else lm_sum x st bo n
theorem lm_smt {x : Int32} {st bo : Nat → Int32} {n : Nat} (h : st n = x) : lm_sum x st bo (n + 1) = lm_sum x st bo n + bo n := if_pos h
theorem lm_smf {x : Int32} {st bo : Nat → Int32} {n : Nat} (h : ¬ st n = x) : lm_sum x st bo (n + 1) = lm_sum x st bo n := if_neg h
def lm_nd (st dl : Nat → Int32) : Nat → Int32
  | 0 => -5
  | n + 1 => if st n = 1 ∧ (lm_nd st dl n = -5 ∨ dl n < lm_nd st dl n) then dl n else lm_nd st dl n
theorem lm_ndt {st dl : Nat → Int32} {n : Nat} (h : st n = 1 ∧ (lm_nd st dl n = -5 ∨ dl n < lm_nd st dl n)) : lm_nd st dl (n + 1) = dl n := if_pos h
theorem lm_ndf {st dl : Nat → Int32} {n : Nat} (h : ¬ (st n = 1 ∧ (lm_nd st dl n = -5 ∨ dl n < lm_nd st dl n))) : lm_nd st dl (n + 1) = lm_nd st dl n := if_neg h
/-- the state in which a message comes back -/
def lm_cv (de li qu : Nat → Int32) (j : Nat) : Int32 := if li (qu j).toNatClampNeg ≤ de j then 3 else 0
theorem lm_cv1 {de li qu : Nat → Int32} (j : Nat) : ¬ lm_cv de li qu j = 1 := by
  unfold lm_cv
  split
  · decide
  · decide
theorem lm_cvt {de li qu : Nat → Int32} {j : Nat} (h : li (qu j).toNatClampNeg ≤ de j) : lm_cv de li qu j = 3 := if_pos h
theorem lm_cvf {de li qu : Nat → Int32} {j : Nat} (h : ¬ li (qu j).toNatClampNeg ≤ de j) : lm_cv de li qu j = 0 := if_neg h
/-- overdue; expired, by X and by Y -/
def lm_ov (st dl : Nat → Int32) (t : Int32) (j : Nat) : Bool := decide (st j = 1 ∧ dl j ≤ t)
theorem lm_ovt {st dl : Nat → Int32} {t : Int32} {j : Nat} : lm_ov st dl t j = true ↔ st j = 1 ∧ dl j ≤ t := decide_eq_true_iff
def lm_ex (lv bi st : Nat → Int32) (t : Int32) (j : Nat) : Bool := decide (0 < lv j ∧ st j = 0 ∧ bi j + lv j ≤ t)
theorem lm_ext {lv bi st : Nat → Int32} {t : Int32} {j : Nat} : lm_ex lv bi st t j = true ↔ 0 < lv j ∧ st j = 0 ∧ bi j + lv j ≤ t := decide_eq_true_iff
def lm_ey (en st : Nat → Int32) (t : Int32) (j : Nat) : Bool := decide (st j = 0 ∧ 0 ≤ en j ∧ en j ≤ t)
theorem lm_eyt {en st : Nat → Int32} {t : Int32} {j : Nat} : lm_ey en st t j = true ↔ st j = 0 ∧ 0 ≤ en j ∧ en j ≤ t := decide_eq_true_iff
theorem lm_exy {t : Nat} {lv bi en st : Nat → Int32} {q r x : Int32} {j : Nat} (h : lm_M t q r (lv j) (bi j) (en j)) (ht : t ≤ 60000) : lm_ex lv bi st x j = true ↔ lm_ey en st x j = true := by
  obtain ⟨_, _, l, b, hl, hb, e1, e2, e3⟩ := h
  rw [lm_ext, lm_eyt, e1, e2, e3]
  by_cases z : l = 0
  · rw [if_pos z, z]
    constructor
    · intro h
      exact absurd h.1 (by decide)
    · intro h
      exact absurd h.2.1 (by decide)
  · rw [if_neg z, nI_add]
    have h1 : (0 : Int32) < nI l := by
      rw [← nI_0]
      exact nI_lt (by omega) (by omega)
    have h2 : (0 : Int32) ≤ nI (b + l) := nI_pos' (by omega)
    constructor
    · intro h
      exact ⟨h.2.1, h2, h.2.2⟩
    · intro h
      exact ⟨h1, h.1, h.2.2⟩
theorem lm_fdc {P Q : Nat → Bool} {v st : Nat → Int32} {i : Nat} (H : ∀ j, j < i → (P j = true ↔ Q j = true)) : lm_fd P v st i = lm_fd Q v st i := by
  funext j
  unfold lm_fd
  by_cases g : j < i ∧ P j = true
  · rw [if_pos g, if_pos ⟨g.1, (H j g.1).mp g.2⟩]
  · rw [if_neg g, if_neg (fun z => g ⟨z.1, (H j z.1).mpr z.2⟩)]
/-- dead in a queue -/
def lm_dd (st qu : Nat → Int32) (q : Int32) (j : Nat) : Bool := decide (qu j = q ∧ st j = 3)
theorem lm_ddt {st qu : Nat → Int32} {q : Int32} {j : Nat} : lm_dd st qu q j = true ↔ qu j = q ∧ st j = 3 := decide_eq_true_iff
/-- the message x is OUT with c -/
def lm_has (p : Nat) (st ho : Nat → Int32) (c x : Int32) : Prop := ∃ j : Nat, j < p ∧ x = nI j ∧ st j = 1 ∧ ho j = c
/-- x is one of 0 .. n - 1 -/
def lm_in (n : Nat) (x : Int32) : Prop := ∃ j : Nat, j < n ∧ x = nI j
theorem lm_ina {n : Nat} {x : Int32} (hn : n ≤ 40) (h : x < 0) : ¬ lm_in n x := by
  rintro ⟨j, hj, rfl⟩
  exact nI_pos (by omega) h
theorem lm_inb {n : Nat} {x : Int32} (hn : n ≤ 40) (h : nI n ≤ x) : ¬ lm_in n x := by
  rintro ⟨j, hj, rfl⟩
  exact nI_ge hj (by omega) h
theorem lm_inc {n : Nat} {x : Int32} (hn : n ≤ 40) (h0 : ¬ x < 0) (h : ¬ nI n ≤ x) : lm_in n x :=
  lm_rg (by omega) h0 (Int32.not_le.mp h)
theorem lm_inv {n : Nat} {x : Int32} (hn : n ≤ 40) (h : lm_in n x) : vp_in x n := by
  obtain ⟨j, hj, rfl⟩ := h
  exact vp_in_nI hj (by omega)
theorem lm_oui {P : Nat → Bool} {v st ho : Nat → Int32} {c : Int32} {i : Nat} : lm_ou (lm_fd P v st i) ho c i = lm_ou st ho c i := by
  unfold lm_ou
  rw [lm_fdi]
end LMB
end
section
section LMX
variable {p : Nat} {ti : Int32} {pa li qu bo pr lv bi de st ho dl en : Nat → Int32}
theorem lm_n1 : ¬ (1 : Int32) = 0 := by decide
/-! X: the small methods -/
theorem lx_q1 {post : Int32 → Prop} {x : Int32} (h : lm_in 3 x) (f : post 1) : wpX_isQueue post (nI p, ti, pa, li, qu, bo, pr, lv, bi, de, st, ho, dl) x := by
  unfold wpX_isQueue
  refine br_c (fun z => absurd h (lm_ina (by decide) z)) (fun z => br_c (fun y => absurd h (lm_inb (by decide) y)) (fun _ => f))
theorem lx_q0 {post : Int32 → Prop} {x : Int32} (h : ¬ lm_in 3 x) (f : post 0) : wpX_isQueue post (nI p, ti, pa, li, qu, bo, pr, lv, bi, de, st, ho, dl) x := by
  unfold wpX_isQueue
  refine br_c (fun _ => f) (fun z => br_c (fun _ => f) (fun y => absurd (lm_inc (by decide) z y) h))
theorem lx_k1 {post : Int32 → Prop} {x : Int32} (h : lm_in 3 x) (f : post 1) : wpX_isConsumer post (nI p, ti, pa, li, qu, bo, pr, lv, bi, de, st, ho, dl) x := by
  unfold wpX_isConsumer
  refine br_c (fun z => absurd h (lm_ina (by decide) z)) (fun z => br_c (fun y => absurd h (lm_inb (by decide) y)) (fun _ => f))
theorem lx_k0 {post : Int32 → Prop} {x : Int32} (h : ¬ lm_in 3 x) (f : post 0) : wpX_isConsumer post (nI p, ti, pa, li, qu, bo, pr, lv, bi, de, st, ho, dl) x := by
  unfold wpX_isConsumer
  refine br_c (fun _ => f) (fun z => br_c (fun _ => f) (fun y => absurd (lm_inc (by decide) z y) h))
theorem lx_m1 {post : Int32 → Prop} {x : Int32} (hp : p ≤ 40) (h : lm_in p x) (f : post 1) : wpX_isMessage post (nI p, ti, pa, li, qu, bo, pr, lv, bi, de, st, ho, dl) x := by
  unfold wpX_isMessage
  refine br_c (fun z => absurd h (lm_ina hp z)) (fun z => br_c (fun y => absurd h (lm_inb hp y)) (fun _ => f))
theorem lx_m0 {post : Int32 → Prop} {x : Int32} (hp : p ≤ 40) (h : ¬ lm_in p x) (f : post 0) : wpX_isMessage post (nI p, ti, pa, li, qu, bo, pr, lv, bi, de, st, ho, dl) x := by
  unfold wpX_isMessage
  refine br_c (fun _ => f) (fun z => br_c (fun _ => f) (fun y => absurd (lm_inc hp z y) h))
theorem lx_o1 {post : Int32 → Prop} {c : Int32} {j : Nat} (hp : p ≤ 40) (hj : j < p) (hs : st j = 1) (hh : ho j = c) (f : post 1) : wpX_isOutWith post (nI p, ti, pa, li, qu, bo, pr, lv, bi, de, st, ho, dl) c (nI j) := by
  have ci : (nI j).toNatClampNeg = j := nI_clamp (by omega)
  have vi : vp_in (nI j) 40 := vp_in_nI (by omega) (by omega)
  unfold wpX_isOutWith
  dsimp only
  refine lx_m1 hp ⟨j, hj, rfl⟩ (br_f lm_n1 ⟨vi, ?_⟩)
  rw [ci]
  exact br_t hs ⟨vi, br_t hh f⟩
theorem lx_o0 {post : Int32 → Prop} {c x : Int32} (hp : p ≤ 40) (h : ¬ lm_has p st ho c x) (f : post 0) : wpX_isOutWith post (nI p, ti, pa, li, qu, bo, pr, lv, bi, de, st, ho, dl) c x := by
  unfold wpX_isOutWith
  dsimp only
  by_cases z : lm_in p x
  · obtain ⟨j, hj, rfl⟩ := z
    have ci : (nI j).toNatClampNeg = j := nI_clamp (by omega)
    have vi : vp_in (nI j) 40 := vp_in_nI (by omega) (by omega)
    refine lx_m1 hp ⟨j, hj, rfl⟩ (br_f lm_n1 ⟨vi, ?_⟩)
    rw [ci]
    exact br_c (fun h1 => ⟨vi, br_c (fun h2 => absurd ⟨j, hj, rfl, h1, h2⟩ h) (fun _ => f)⟩) (fun _ => f)
  · exact lx_m0 hp z (br_t rfl f)
theorem lx_oi {post : Int32 → Prop} {c : Int32} {i : Nat} (hp : p ≤ 40) (hi : i < p) (f : lm_ou st ho c i = true → post 1) (g : ¬ lm_ou st ho c i = true → post 0) : wpX_isOutWith post (nI p, ti, pa, li, qu, bo, pr, lv, bi, de, st, ho, dl) c (nI i) := by
  by_cases z : lm_ou st ho c i = true
  · exact lx_o1 hp hi (lm_out.mp z).1 (lm_out.mp z).2 (f z)
  · refine lx_o0 hp ?_ (g z)
    rintro ⟨j, hj, e, h1, h2⟩
    have e2 : i = j := (nI_eq (by omega) (by omega)).mp e
    subst e2
    exact z (lm_out.mpr ⟨h1, h2⟩)
theorem lx_ri {post : Int32 → Prop} {q : Int32} {i : Nat} (hp : p ≤ 40) (hi : i < p) (f : lm_rd st qu q i = true → post 1) (g : ¬ lm_rd st qu q i = true → post 0) : wpX_isReadyIn post (nI p, ti, pa, li, qu, bo, pr, lv, bi, de, st, ho, dl) q (nI i) := by
  have ci : (nI i).toNatClampNeg = i := nI_clamp (by omega)
  have vi : vp_in (nI i) 40 := vp_in_nI (by omega) (by omega)
  unfold wpX_isReadyIn
  dsimp only
  refine lx_m1 hp ⟨i, hi, rfl⟩ (br_f lm_n1 ⟨vi, ?_⟩)
  rw [ci]
  exact br_c (fun h1 => ⟨vi, br_c (fun h2 => f (lm_rdt.mpr ⟨h2, h1⟩)) (fun h2 => g (fun z => h2 (lm_rdt.mp z).1))⟩) (fun h1 => g (fun z => h1 (lm_rdt.mp z).2))
theorem lx_c {post : Int32 → Prop} {c : Int32} (hp : p ≤ 40) (h : post (nI (lm_cnt (lm_ou st ho c) p))) : wpX_countOut post (nI p, ti, pa, li, qu, bo, pr, lv, bi, de, st, ho, dl) c := by
  unfold wpX_countOut
  dsimp only
  refine loop_0 (fun n i s => wX_countOut_4 post c (nI p) ti pa li qu bo pr lv bi de st ho dl n s (nI i)) (fun i s => s = nI (lm_cnt (lm_ou st ho c) i)) p 0 rfl ?_ ?_
  · intro n s hs
    obtain rfl : s = _ := hs
    exact br_t (nI_le (Nat.le_refl p) (by omega)) h
  · intro n i s hi hs ih
    obtain rfl : s = _ := hs
    refine br_f (nI_ge hi (by omega)) (lx_oi hp hi (fun z => ?_) (fun z => ?_))
    · exact br_f lm_n1 (nm_r (nI_1 _) (nm_r (nI_1 _) (ih _ (congrArg nI (lm_ct z).symm))))
    · exact br_t rfl (nm_r (nI_1 _) (ih _ (congrArg nI (lm_cf z).symm)))
/-! X: the order -/
theorem lx_f13 {post : Int32 → Prop} {J : Int32 → Int32 → Prop} {q x : Int32} {c : Nat} {g : Nat → Nat} (hp : p ≤ 40) (hc3 : c ≤ 3) (hpr : ∀ j, j < p → pr j = nI (g j) ∧ g j ≤ 3)
    (hf : ∀ m, m < p → lm_rd st qu q m = true → nI (lm_rk (lm_rd st qu q) g p m) = x → post (nI m))
    (h0 : ∀ m, m < p → lm_rd st qu q m = true → c < g m → ¬ nI (lm_rk (lm_rd st qu q) g p m) = x)
    (hJ : (∀ m, m < p → lm_rd st qu q m = true → c ≤ g m → ¬ nI (lm_rk (lm_rd st qu q) g p m) = x) → J (nI (lm_B (lm_rd st qu q) g p c p)) (nI c + (-1))) :
    ∃ n, wX_findReady_13 post J q x (nI c) (nI p) ti pa li qu bo pr lv bi de st ho dl n (nI (lm_B (lm_rd st qu q) g p c 0)) 0 := by
  refine loop_0 (fun n i s => wX_findReady_13 post J q x (nI c) (nI p) ti pa li qu bo pr lv bi de st ho dl n s (nI i)) (fun i s => s = nI (lm_B (lm_rd st qu q) g p c i) ∧ ∀ m, m < p → lm_rd st qu q m = true → (c < g m ∨ (g m = c ∧ m < i)) → ¬ nI (lm_rk (lm_rd st qu q) g p m) = x) p _ ⟨rfl, fun m hm hr hc => h0 m hm hr (by omega)⟩ ?_ ?_
  · rintro n s ⟨rfl, H⟩
    exact br_t (nI_le (Nat.le_refl p) (by omega)) (nm_e (hJ fun m hm hr hc => H m hm hr (by omega)))
  · rintro n i s hi ⟨rfl, H⟩ ih
    have ci : (nI i).toNatClampNeg = i := nI_clamp (by omega)
    have gi := (hpr i hi).2
    refine br_f (nI_ge hi (by omega)) ⟨vp_in_nI (by omega) (by omega), ?_⟩
    rw [ci, (hpr i hi).1]
    by_cases hc : g i = c
    · refine br_t (congrArg nI hc) (lx_ri hp hi (fun z => ?_) (fun z => ?_))
      · refine br_f lm_n1 ?_
        have er : lm_rk (lm_rd st qu q) g p i = lm_B (lm_rd st qu q) g p c i := by unfold lm_rk; rw [hc]
        by_cases e : nI (lm_B (lm_rd st qu q) g p c i) = x
        · exact br_t e (hf i hi z (by rw [er]; exact e))
        · refine br_f e (nm_r (nI_1 _) (nm_r (nI_1 _) (ih _ ⟨congrArg nI (lm_Bst hi z hc).symm, fun m hm hr hm2 => ?_⟩)))
          by_cases e2 : m = i
          · rw [e2, er]; exact e
          · exact H m hm hr (by omega)
      · refine br_t rfl (nm_r (nI_1 _) (ih _ ⟨congrArg nI (lm_Bsf (fun k => z k.2)).symm, fun m hm hr hm2 => ?_⟩))
        by_cases e2 : m = i
        · rw [e2] at hr; exact absurd hr z
        · exact H m hm hr (by omega)
    · refine br_f (fun e => hc ((nI_eq (by omega) (by omega)).mp e)) (nm_r (nI_1 _) (ih _ ⟨congrArg nI (lm_Bsf (fun k => hc k.1)).symm, fun m hm hr hm2 => ?_⟩))
      by_cases e2 : m = i
      · rw [e2] at hm2
        exact H m hm hr (by rw [e2]; omega)
      · exact H m hm hr (by omega)
theorem lx_f {post : Int32 → Prop} {q x : Int32} {g : Nat → Nat} (hp : p ≤ 40) (hpr : ∀ j, j < p → pr j = nI (g j) ∧ g j ≤ 3) (H : ∀ r, lm_Sp (lm_rd st qu q) g p x r → post r) : wpX_findReady post (nI p, ti, pa, li, qu, bo, pr, lv, bi, de, st, ho, dl) q x := by
  have key : ∀ c : Nat, c ≤ 3 → (∀ m, m < p → lm_rd st qu q m = true → c < g m → ¬ nI (lm_rk (lm_rd st qu q) g p m) = x) → wX_findReady_5 post q x (nI p) ti pa li qu bo pr lv bi de st ho dl (c + 2) (nI (lm_B (lm_rd st qu q) g p c 0)) (nI c) := by
    intro c
    induction c with
    | zero =>
      intro hc h0
      refine br_f (nI_pos (by omega)) (lx_f13 hp hc hpr (fun m hm hr e => H _ (Or.inl ⟨m, hm, hr, e, rfl⟩)) h0 (fun k => ?_))
      exact br_t (by decide) (H _ (Or.inr ⟨fun m hm hr => k m hm hr (Nat.zero_le _), rfl⟩))
    | succ c ih =>
      intro hc h0
      refine br_f (nI_pos (by omega)) (lx_f13 hp hc hpr (fun m hm hr e => H _ (Or.inl ⟨m, hm, hr, e, rfl⟩)) h0 (fun k => ?_))
      rw [lm_m1, lm_Bn]
      exact ih (by omega) (fun m hm hr hg => k m hm hr hg)
  have h3 := key 3 (Nat.le_refl 3) (fun m hm hr hg => absurd hg (by have := (hpr m hm).2; omega))
  rw [lm_B0 (fun j hj => (hpr j hj).2)] at h3
  exact ⟨_, h3⟩
/-! X: a message comes back -/
theorem lx_b {post : SX → Prop} {i : Nat} (hp : p ≤ 40) (hi : i < p) (hq : lm_in 3 (qu i)) (h : post (nI p, ti, pa, li, qu, bo, pr, lv, bi, de, upd st i (lm_cv de li qu i), ho, dl)) : wpX_comeBack post (nI p, ti, pa, li, qu, bo, pr, lv, bi, de, st, ho, dl) (nI i) := by
  have ci : (nI i).toNatClampNeg = i := nI_clamp (by omega)
  have vi : vp_in (nI i) 40 := vp_in_nI (by omega) (by omega)
  unfold wpX_comeBack wX_comeBack_25
  dsimp only
  rw [ci]
  refine ⟨vi, vi, lm_inv (by decide) hq, ?_⟩
  by_cases z : de i < li (qu i).toNatClampNeg
  · rw [lm_cvf (Int32.not_le.mpr z)] at h
    exact br_t z (br_t rfl ⟨vi, nm_e h⟩)
  · rw [lm_cvt (Int32.not_lt.mp z)] at h
    exact br_f z (br_f lm_n1 ⟨vi, nm_e h⟩)
end LMX
end
section
section LMY
variable {p : Nat} {ti : Int32} {pa li qu bo pr lv bi de st ho dl en : Nat → Int32}
/-! Y: the small methods -/
theorem ly_31 {post : Int32 → Prop} {x : Int32} (h : lm_in 3 x) (f : post 1) : wpY_three post (nI p, ti, qu, bo, pr, st, de, ho, dl, en, pa, li) x := by
  unfold wpY_three
  refine br_c (fun z => absurd h (lm_ina (by decide) z)) (fun z => br_c (fun y => absurd h (lm_inb (by decide) y)) (fun _ => f))
theorem ly_30 {post : Int32 → Prop} {x : Int32} (h : ¬ lm_in 3 x) (f : post 0) : wpY_three post (nI p, ti, qu, bo, pr, st, de, ho, dl, en, pa, li) x := by
  unfold wpY_three
  refine br_c (fun _ => f) (fun z => br_c (fun _ => f) (fun y => absurd (lm_inc (by decide) z y) h))
theorem ly_c {post : Int32 → Prop} {c : Int32} (hp : p ≤ 40) (h : post (nI (lm_cnt (lm_ou st ho c) p))) : wpY_out post (nI p, ti, qu, bo, pr, st, de, ho, dl, en, pa, li) c := by
  unfold wpY_out
  dsimp only
  refine loop_0 (fun n i s => wY_out_4 post c (nI p) ti qu bo pr st de ho dl en pa li n s (nI i)) (fun i s => s = nI (lm_cnt (lm_ou st ho c) i)) p 0 rfl ?_ ?_
  · intro n s hs
    obtain rfl : s = _ := hs
    exact br_t (nI_le (Nat.le_refl p) (by omega)) h
  · intro n i s hi hs ih
    obtain rfl : s = _ := hs
    have ci : (nI i).toNatClampNeg = i := nI_clamp (by omega)
    have vi : vp_in (nI i) 40 := vp_in_nI (by omega) (by omega)
    refine br_f (nI_ge hi (by omega)) ⟨vi, ?_⟩
    rw [ci]
    refine br_c (fun h1 => ⟨vi, br_c (fun h2 => ?_) (fun h2 => ?_)⟩) (fun h1 => ?_)
    · exact nm_r (nI_1 _) (nm_r (nI_1 _) (ih _ (congrArg nI (lm_ct (lm_out.mpr ⟨h1, h2⟩)).symm)))
    · exact nm_r (nI_1 _) (ih _ (congrArg nI (lm_cf (fun z => h2 (lm_out.mp z).2)).symm))
    · exact nm_r (nI_1 _) (ih _ (congrArg nI (lm_cf (fun z => h1 (lm_out.mp z).1)).symm))
theorem ly_ri {post : Int32 → Prop} {q : Int32} {i : Nat} (hp : p ≤ 40) (hi : i < p) (f : lm_rd st qu q i = true → post 1) (g : ¬ lm_rd st qu q i = true → post 0) : wpY_isReady post (nI p, ti, qu, bo, pr, st, de, ho, dl, en, pa, li) (nI i) q := by
  have ci : (nI i).toNatClampNeg = i := nI_clamp (by omega)
  have vi : vp_in (nI i) 40 := vp_in_nI (by omega) (by omega)
  unfold wpY_isReady
  dsimp only
  refine ⟨vi, ?_⟩
  rw [ci]
  exact br_c (fun h2 => ⟨vi, br_c (fun h1 => f (lm_rdt.mpr ⟨h2, h1⟩)) (fun h1 => g (fun z => h1 (lm_rdt.mp z).2))⟩) (fun h2 => g (fun z => h2 (lm_rdt.mp z).1))
/-! Y: the order -/
theorem ly_b57 {post : Int32 → Prop} {J : Int32 → Int32 → Prop} {q x2 x3 z0 : Int32} {i : Nat} (hp : p ≤ 40) (hi : i < p) (f : lm_rd st qu q i = true → ¬ z0 = 0 → J (x3 + 1) (nI (i + 1))) (g : ¬ (lm_rd st qu q i = true ∧ ¬ z0 = 0) → J x3 (nI (i + 1))) : wY_before_57 post J q x2 x3 (nI i) z0 (nI p) ti qu bo pr st de ho dl en pa li := by
  unfold wY_before_57
  exact ly_ri hp hi (fun z => br_f lm_n1 (br_c (fun h => nm_r (nI_1 _) (g (fun k => k.2 h))) (fun h => nm_e (nm_r (nI_1 _) (f z h))))) (fun z => br_t rfl (nm_r (nI_1 _) (g (fun k => z k.1))))
theorem ly_b1 {post : Int32 → Prop} {J : Int32 → Int32 → Prop} {q x2 : Int32} {i a : Nat} {g : Nat → Nat} {m : Nat} (hp : p ≤ 40) (hi : i < p) (hb : g m < g i ∨ (g i = g m ∧ i < m)) (ha : a = lm_cnt (lm_bf (lm_rd st qu q) g (g m) m) i)
    (f : J (nI (lm_cnt (lm_bf (lm_rd st qu q) g (g m) m) (i + 1))) (nI (i + 1))) : wY_before_52 post J q x2 (nI a) (nI i) (nI p) ti qu bo pr st de ho dl en pa li := by
  unfold wY_before_52
  refine ly_b57 hp hi (fun z _ => ?_) (fun z => ?_)
  · rw [lm_ct (lm_bft.mpr ⟨z, hb⟩), ← ha] at f
    rw [nI_1]
    exact f
  · rw [lm_cf (fun k => z ⟨(lm_bft.mp k).1, lm_n1⟩), ← ha] at f
    exact f
theorem ly_b0 {post : Int32 → Prop} {J : Int32 → Int32 → Prop} {q x2 : Int32} {i a : Nat} {g : Nat → Nat} {m : Nat} (hp : p ≤ 40) (hi : i < p) (hb : ¬ (g m < g i ∨ (g i = g m ∧ i < m))) (ha : a = lm_cnt (lm_bf (lm_rd st qu q) g (g m) m) i)
    (f : J (nI (lm_cnt (lm_bf (lm_rd st qu q) g (g m) m) (i + 1))) (nI (i + 1))) : wY_before_56 post J q x2 (nI a) (nI i) (nI p) ti qu bo pr st de ho dl en pa li := by
  unfold wY_before_56
  rw [lm_cf (fun k => hb (lm_bft.mp k).2), ← ha] at f
  exact ly_b57 hp hi (fun z h => absurd rfl h) (fun _ => f)
theorem ly_before {post : Int32 → Prop} {q : Int32} {g : Nat → Nat} {m : Nat} (hp : p ≤ 40) (hm : m < p) (hpr : ∀ j, j < p → pr j = nI (g j) ∧ g j ≤ 3) (h : post (nI (lm_rk (lm_rd st qu q) g p m))) : wpY_before post (nI p, ti, qu, bo, pr, st, de, ho, dl, en, pa, li) q (nI m) := by
  unfold wpY_before
  dsimp only
  have cm : (nI m).toNatClampNeg = m := nI_clamp (by omega)
  have vm : vp_in (nI m) 40 := vp_in_nI (by omega) (by omega)
  have gm := hpr m hm
  refine loop_0 (fun n i s => wY_before_5 post q (nI m) (nI p) ti qu bo pr st de ho dl en pa li n s (nI i)) (fun i s => s = nI (lm_cnt (lm_bf (lm_rd st qu q) g (g m) m) i)) p 0 rfl ?_ ?_
  · intro n s hs
    obtain rfl : s = _ := hs
    exact br_t (nI_le (Nat.le_refl p) (by omega)) h
  · intro n i s hi hs ih
    obtain rfl : s = _ := hs
    have ci : (nI i).toNatClampNeg = i := nI_clamp (by omega)
    have vi : vp_in (nI i) 40 := vp_in_nI (by omega) (by omega)
    have gi := hpr i hi
    have F := ih _ rfl
    refine br_f (nI_ge hi (by omega)) ⟨vi, vm, ?_⟩
    rw [ci, cm, gi.1, gm.1]
    by_cases h1 : g m < g i
    · exact br_t (nI_lt h1 (by omega)) (ly_b1 hp hi (Or.inl h1) rfl F)
    · refine br_f (nI_nlt (by omega) (by omega)) ⟨vi, vm, ?_⟩
      by_cases h2 : g i = g m
      · refine br_t (congrArg nI h2) ?_
        by_cases h3 : m ≤ i
        · exact br_t (nI_le h3 (by omega)) (ly_b0 hp hi (by omega) rfl F)
        · exact br_f (nI_ge (by omega) (by omega)) (ly_b1 hp hi (Or.inr ⟨h2, by omega⟩) rfl F)
      · exact br_f (fun e => h2 ((nI_eq (by omega) (by omega)).mp e)) (ly_b0 hp hi (by omega) rfl F)
theorem ly_p12 {post : Int32 → Prop} {q x : Int32} {g : Nat → Nat} (hp : p ≤ 40) (hpr : ∀ j, j < p → pr j = nI (g j) ∧ g j ≤ 3) (H : ∀ r, lm_Sp (lm_rd st qu q) g p x r → post r) : ∃ n, wY_peek_12 post q x (nI p) ti qu bo pr st de ho dl en pa li n 0 := by
  refine loop_0 (σ := Unit) (fun n i _ => wY_peek_12 post q x (nI p) ti qu bo pr st de ho dl en pa li n (nI i)) (fun i _ => ∀ m, m < i → lm_rd st qu q m = true → ¬ nI (lm_rk (lm_rd st qu q) g p m) = x) p () (fun m hm => absurd hm (Nat.not_lt_zero m)) ?_ ?_
  · intro n s hs
    exact br_t (nI_le (Nat.le_refl p) (by omega)) (H _ (Or.inr ⟨hs, rfl⟩))
  · intro n i s hi hs ih
    refine br_f (nI_ge hi (by omega)) (ly_ri hp hi (fun z => ?_) (fun z => ?_))
    · refine br_f lm_n1 (ly_before hp hi hpr ?_)
      refine br_c (fun e => H _ (Or.inl ⟨i, hi, z, e, rfl⟩)) (fun e => nm_r (nI_1 _) (ih () (fun m hm hr => ?_)))
      by_cases e2 : m = i
      · rw [e2]; exact e
      · exact hs m (by omega) hr
    · refine br_t rfl (nm_r (nI_1 _) (ih () (fun m hm hr => ?_)))
      by_cases e2 : m = i
      · rw [e2] at hr; exact absurd hr z
      · exact hs m (by omega) hr
theorem ly_peek {post : Int32 → Prop} {q x : Int32} {g : Nat → Nat} (hp : p ≤ 40) (hq : lm_in 3 q) (hpr : ∀ j, j < p → pr j = nI (g j) ∧ g j ≤ 3) (H : ∀ r, lm_Sp (lm_rd st qu q) g p x r → post r) : wpY_peek post (nI p, ti, qu, bo, pr, st, de, ho, dl, en, pa, li) q x := by
  unfold wpY_peek
  dsimp only
  exact ly_31 hq (br_f lm_n1 (ly_p12 hp hpr H))
/-! Y: refusal, comeBack -/
theorem ly_rf3 {post : Int32 → Prop} {c x : Int32} (h : ¬ lm_in 3 c) (f : post (-2)) : wpY_refusal post (nI p, ti, qu, bo, pr, st, de, ho, dl, en, pa, li) c x := by
  unfold wpY_refusal
  dsimp only
  exact ly_30 h (br_t rfl f)
theorem ly_rf1 {post : Int32 → Prop} {c : Int32} {j : Nat} (hp : p ≤ 40) (h : lm_in 3 c) (hj : j < p) (hs : st j = 1) (hh : ho j = c) (f : post 0) : wpY_refusal post (nI p, ti, qu, bo, pr, st, de, ho, dl, en, pa, li) c (nI j) := by
  have ci : (nI j).toNatClampNeg = j := nI_clamp (by omega)
  have vi : vp_in (nI j) 40 := vp_in_nI (by omega) (by omega)
  unfold wpY_refusal wY_refusal_47 wY_refusal_48
  dsimp only
  refine ly_31 h (br_f lm_n1 (br_f (nI_pos (by omega)) (br_f (nI_ge hj (by omega)) ⟨vi, ?_⟩)))
  rw [ci]
  exact br_t hs ⟨vi, br_t hh (br_f lm_n1 f)⟩
theorem ly_rf0 {post : Int32 → Prop} {c x : Int32} (hp : p ≤ 40) (h : lm_in 3 c) (hn : ¬ lm_has p st ho c x) (f : post (-6)) : wpY_refusal post (nI p, ti, qu, bo, pr, st, de, ho, dl, en, pa, li) c x := by
  unfold wpY_refusal wY_refusal_47 wY_refusal_48
  dsimp only
  refine ly_31 h (br_f lm_n1 (br_c (fun _ => br_t rfl f) (fun z => br_c (fun _ => br_t rfl f) (fun y => ?_))))
  obtain ⟨j, hj, rfl⟩ := lm_inc hp z y
  have ci : (nI j).toNatClampNeg = j := nI_clamp (by omega)
  have vi : vp_in (nI j) 40 := vp_in_nI (by omega) (by omega)
  refine ⟨vi, ?_⟩
  rw [ci]
  exact br_c (fun h1 => ⟨vi, br_c (fun h2 => absurd ⟨j, hj, rfl, h1, h2⟩ hn) (fun _ => br_t rfl f)⟩) (fun _ => br_t rfl f)
theorem ly_b {post : SY → Prop} {i : Nat} (hp : p ≤ 40) (hi : i < p) (hq : lm_in 3 (qu i)) (h : post (nI p, ti, qu, bo, pr, upd st i (lm_cv de li qu i), de, ho, dl, en, pa, li)) : wpY_comeBack post (nI p, ti, qu, bo, pr, st, de, ho, dl, en, pa, li) (nI i) := by
  have ci : (nI i).toNatClampNeg = i := nI_clamp (by omega)
  have vi : vp_in (nI i) 40 := vp_in_nI (by omega) (by omega)
  unfold wpY_comeBack
  dsimp only
  rw [ci]
  refine ⟨vi, vi, lm_inv (by decide) hq, ?_⟩
  by_cases z : de i < li (qu i).toNatClampNeg
  · rw [lm_cvf (Int32.not_le.mpr z)] at h
    exact br_t z ⟨vi, nm_e h⟩
  · rw [lm_cvt (Int32.not_lt.mp z)] at h
    exact br_f z ⟨vi, nm_e h⟩
end LMY
end
section
section LML
variable {p : Nat} {ti : Int32} {pa li qu bo pr lv bi de st ho dl en : Nat → Int32}
/-! lose -/
theorem lx_lose {post : Int32 → SX → Prop} {c : Int32} (hp : p ≤ 40) (hq : ∀ j, j < p → lm_in 3 (qu j)) (h : post (nI (lm_cnt (lm_ou st ho c) p)) (nI p, ti, pa, li, qu, bo, pr, lv, bi, de, lm_fd (lm_ou st ho c) (lm_cv de li qu) st p, ho, dl)) : ∃ n, wX_lose_15 post c n 0 0 (nI p) ti pa li qu bo pr lv bi de st ho dl := by
  refine loop_0 (σ := Int32 × (Nat → Int32)) (fun n i s => wX_lose_15 post c n s.1 (nI i) (nI p) ti pa li qu bo pr lv bi de s.2 ho dl) (fun i s => s = (nI (lm_cnt (lm_ou st ho c) i), lm_fd (lm_ou st ho c) (lm_cv de li qu) st i)) p (0, st) ?_ ?_ ?_
  · show (0, st) = (_, _)
    rw [lm_fd0]
    rfl
  · intro n s hs
    obtain rfl : s = _ := hs
    exact br_t (nI_le (Nat.le_refl p) (by omega)) h
  · intro n i s hi hs ih
    obtain rfl : s = _ := hs
    refine br_f (nI_ge hi (by omega)) (lx_oi hp hi (fun z => ?_) (fun z => ?_))
    · rw [lm_oui] at z
      refine br_f lm_n1 (lx_b hp hi (hq i hi) ?_)
      rw [lm_fdt z]
      have F := ih _ rfl
      dsimp only at F
      rw [lm_ct z] at F
      exact nm_r (nI_1 _) (nm_r (nI_1 _) F)
    · rw [lm_oui] at z
      have F := ih _ rfl
      dsimp only at F
      rw [lm_cf z, lm_fdf z] at F
      exact br_t rfl (nm_r (nI_1 _) F)
theorem ly_lose {post : Int32 → SY → Prop} {c r : Int32} (hp : p ≤ 40) (hq : ∀ j, j < p → lm_in 3 (qu j)) (h : post r (nI p, ti, qu, bo, pr, lm_fd (lm_ou st ho c) (lm_cv de li qu) st p, de, ho, dl, en, pa, li)) : ∃ n, wY_lose_19 post c r n 0 (nI p) ti qu bo pr st de ho dl en pa li := by
  refine loop_0 (σ := Nat → Int32) (fun n i s => wY_lose_19 post c r n (nI i) (nI p) ti qu bo pr s de ho dl en pa li) (fun i s => s = lm_fd (lm_ou st ho c) (lm_cv de li qu) st i) p st lm_fd0.symm ?_ ?_
  · intro n s hs
    obtain rfl : s = _ := hs
    exact br_t (nI_le (Nat.le_refl p) (by omega)) h
  · intro n i s hi hs ih
    obtain rfl : s = _ := hs
    have ci : (nI i).toNatClampNeg = i := nI_clamp (by omega)
    have vi : vp_in (nI i) 40 := vp_in_nI (by omega) (by omega)
    refine br_f (nI_ge hi (by omega)) ⟨vi, ?_⟩
    rw [ci, lm_fdi]
    refine br_c (fun h1 => ⟨vi, br_c (fun h2 => ?_) (fun h2 => ?_)⟩) (fun h1 => ?_)
    · refine ly_b hp hi (hq i hi) ?_
      rw [lm_fdt (lm_out.mpr ⟨h1, h2⟩)]
      exact nm_r (nI_1 _) (ih _ rfl)
    · exact nm_r (nI_1 _) (ih _ (lm_fdf (fun z => h2 (lm_out.mp z).2)).symm)
    · exact nm_r (nI_1 _) (ih _ (lm_fdf (fun z => h1 (lm_out.mp z).1)).symm)
/-! pass -/
theorem lx_ro {post : Int32 → SX → Prop} (hp : p ≤ 40) (hq : ∀ j, j < p → lm_in 3 (qu j)) (h : post (nI (lm_cnt (lm_ov st dl ti) p)) (nI p, ti, pa, li, qu, bo, pr, lv, bi, de, lm_fd (lm_ov st dl ti) (lm_cv de li qu) st p, ho, dl)) : wpX_returnOverdue post (nI p, ti, pa, li, qu, bo, pr, lv, bi, de, st, ho, dl) := by
  unfold wpX_returnOverdue
  dsimp only
  refine loop_0 (σ := Int32 × (Nat → Int32)) (fun n i s => wX_returnOverdue_4 post n s.1 (nI i) (nI p) ti pa li qu bo pr lv bi de s.2 ho dl) (fun i s => s = (nI (lm_cnt (lm_ov st dl ti) i), lm_fd (lm_ov st dl ti) (lm_cv de li qu) st i)) p (0, st) ?_ ?_ ?_
  · show (0, st) = (_, _)
    rw [lm_fd0]
    rfl
  · intro n s hs
    obtain rfl : s = _ := hs
    exact br_t (nI_le (Nat.le_refl p) (by omega)) h
  · intro n i s hi hs ih
    obtain rfl : s = _ := hs
    have ci : (nI i).toNatClampNeg = i := nI_clamp (by omega)
    have vi : vp_in (nI i) 40 := vp_in_nI (by omega) (by omega)
    refine br_f (nI_ge hi (by omega)) ⟨vi, ?_⟩
    dsimp only
    rw [ci, lm_fdi]
    refine br_c (fun h1 => ⟨vi, br_c (fun h2 => ?_) (fun h2 => ?_)⟩) (fun h1 => ?_)
    · have z : ¬ lm_ov st dl ti i = true := fun z => absurd h2 (Int32.not_lt.mpr (lm_ovt.mp z).2)
      have F := ih _ rfl
      dsimp only at F
      rw [lm_cf z, lm_fdf z] at F
      exact nm_r (nI_1 _) F
    · have z : lm_ov st dl ti i = true := lm_ovt.mpr ⟨h1, Int32.not_lt.mp h2⟩
      refine lx_b hp hi (hq i hi) ?_
      rw [lm_fdt z]
      have F := ih _ rfl
      dsimp only at F
      rw [lm_ct z] at F
      exact nm_r (nI_1 _) (nm_r (nI_1 _) F)
    · have z : ¬ lm_ov st dl ti i = true := fun z => h1 (lm_ovt.mp z).1
      have F := ih _ rfl
      dsimp only at F
      rw [lm_cf z, lm_fdf z] at F
      exact nm_r (nI_1 _) F
theorem lx_er {post : SX → Prop} (hp : p ≤ 40) (h : post (nI p, ti, pa, li, qu, bo, pr, lv, bi, de, lm_fd (lm_ex lv bi st ti) (fun _ => 2) st p, ho, dl)) : wpX_expireReady post (nI p, ti, pa, li, qu, bo, pr, lv, bi, de, st, ho, dl) := by
  unfold wpX_expireReady
  dsimp only
  refine loop_0 (σ := Nat → Int32) (fun n i s => wX_expireReady_2 post (nI p) ti n (nI i) pa li qu bo pr lv bi de s ho dl) (fun i s => s = lm_fd (lm_ex lv bi st ti) (fun _ => 2) st i) p st lm_fd0.symm ?_ ?_
  · intro n s hs
    obtain rfl : s = _ := hs
    exact br_t (nI_le (Nat.le_refl p) (by omega)) h
  · intro n i s hi hs ih
    obtain rfl : s = _ := hs
    have ci : (nI i).toNatClampNeg = i := nI_clamp (by omega)
    have vi : vp_in (nI i) 40 := vp_in_nI (by omega) (by omega)
    refine br_f (nI_ge hi (by omega)) ⟨vi, ?_⟩
    unfold wX_expireReady_24
    rw [ci, lm_fdi]
    refine br_c (fun h1 => br_t rfl ?_) (fun h1 => br_f lm_n1 ⟨vi, br_c (fun h2 => ⟨vi, vi, br_c (fun h3 => ?_) (fun h3 => ⟨vi, ?_⟩)⟩) (fun h2 => ?_)⟩)
    · exact nm_r (nI_1 _) (ih _ (lm_fdf (fun z => absurd h1 (Int32.not_le.mpr (lm_ext.mp z).1))).symm)
    · exact nm_r (nI_1 _) (ih _ (lm_fdf (fun z => absurd h3 (Int32.not_lt.mpr (lm_ext.mp z).2.2))).symm)
    · exact nm_r (lm_fdt (lm_ext.mpr ⟨Int32.not_le.mp h1, h2, Int32.not_lt.mp h3⟩)) (nm_r (nI_1 _) (ih _ rfl))
    · exact nm_r (nI_1 _) (ih _ (lm_fdf (fun z => h2 (lm_ext.mp z).2.1)).symm)
theorem ly_p74 {post : Int32 → SY → Prop} {r : Int32} (hp : p ≤ 40) (h : post r (nI p, ti, qu, bo, pr, lm_fd (lm_ey en st ti) (fun _ => 2) st p, de, ho, dl, en, pa, li)) : ∃ n, wY_pass_74 post r (nI p) ti n 0 qu bo pr st de ho dl en pa li := by
  refine loop_0 (σ := Nat → Int32) (fun n i s => wY_pass_74 post r (nI p) ti n (nI i) qu bo pr s de ho dl en pa li) (fun i s => s = lm_fd (lm_ey en st ti) (fun _ => 2) st i) p st lm_fd0.symm ?_ ?_
  · intro n s hs
    obtain rfl : s = _ := hs
    exact br_t (nI_le (Nat.le_refl p) (by omega)) h
  · intro n i s hi hs ih
    obtain rfl : s = _ := hs
    have ci : (nI i).toNatClampNeg = i := nI_clamp (by omega)
    have vi : vp_in (nI i) 40 := vp_in_nI (by omega) (by omega)
    refine br_f (nI_ge hi (by omega)) ⟨vi, ?_⟩
    rw [ci, lm_fdi]
    refine br_c (fun h1 => ⟨vi, br_c (fun h2 => ?_) (fun h2 => ⟨vi, br_c (fun h3 => ?_) (fun h3 => ⟨vi, ?_⟩)⟩)⟩) (fun h1 => ?_)
    · exact nm_r (nI_1 _) (ih _ (lm_fdf (fun z => absurd h2 (Int32.not_lt.mpr (lm_eyt.mp z).2.1))).symm)
    · exact nm_r (nI_1 _) (ih _ (lm_fdf (fun z => absurd h3 (Int32.not_lt.mpr (lm_eyt.mp z).2.2))).symm)
    · exact nm_r (lm_fdt (lm_eyt.mpr ⟨h1, Int32.not_lt.mp h2, Int32.not_lt.mp h3⟩)) (nm_r (nI_1 _) (ih _ rfl))
    · exact nm_r (nI_1 _) (ih _ (lm_fdf (fun z => h1 (lm_eyt.mp z).1)).symm)
theorem ly_p27 {post : Int32 → SY → Prop} (hp : p ≤ 40) (hq : ∀ j, j < p → lm_in 3 (qu j)) (h : ∃ n, wY_pass_74 post (nI (lm_cnt (lm_ov st dl ti) p)) (nI p) ti n 0 qu bo pr (lm_fd (lm_ov st dl ti) (lm_cv de li qu) st p) de ho dl en pa li) : ∃ n, wY_pass_27 post n 0 0 (nI p) ti qu bo pr st de ho dl en pa li := by
  refine loop_0 (σ := Int32 × (Nat → Int32)) (fun n i s => wY_pass_27 post n s.1 (nI i) (nI p) ti qu bo pr s.2 de ho dl en pa li) (fun i s => s = (nI (lm_cnt (lm_ov st dl ti) i), lm_fd (lm_ov st dl ti) (lm_cv de li qu) st i)) p (0, st) ?_ ?_ ?_
  · show (0, st) = (_, _)
    rw [lm_fd0]
    rfl
  · intro n s hs
    obtain rfl : s = _ := hs
    exact br_t (nI_le (Nat.le_refl p) (by omega)) h
  · intro n i s hi hs ih
    obtain rfl : s = _ := hs
    have ci : (nI i).toNatClampNeg = i := nI_clamp (by omega)
    have vi : vp_in (nI i) 40 := vp_in_nI (by omega) (by omega)
    refine br_f (nI_ge hi (by omega)) ⟨vi, ?_⟩
    dsimp only
    rw [ci, lm_fdi]
    refine br_c (fun h1 => ⟨vi, br_c (fun h2 => ?_) (fun h2 => ?_)⟩) (fun h1 => ?_)
    · have z : ¬ lm_ov st dl ti i = true := fun z => absurd h2 (Int32.not_lt.mpr (lm_ovt.mp z).2)
      have F := ih _ rfl
      dsimp only at F
      rw [lm_cf z, lm_fdf z] at F
      exact nm_r (nI_1 _) F
    · have z : lm_ov st dl ti i = true := lm_ovt.mpr ⟨h1, Int32.not_lt.mp h2⟩
      refine ly_b hp hi (hq i hi) ?_
      rw [lm_fdt z]
      have F := ih _ rfl
      dsimp only at F
      rw [lm_ct z] at F
      exact nm_r (nI_1 _) (nm_r (nI_1 _) F)
    · have z : ¬ lm_ov st dl ti i = true := fun z => h1 (lm_ovt.mp z).1
      have F := ih _ rfl
      dsimp only at F
      rw [lm_cf z, lm_fdf z] at F
      exact nm_r (nI_1 _) F
/-! revive, ready, nextDeadline, sum: X -/
theorem lx_rv {post : Int32 → SX → Prop} {q : Int32} (hp : p ≤ 40) (h : post (nI (lm_cnt (lm_dd st qu q) p)) (nI p, ti, pa, li, qu, bo, pr, lv, bi, lm_fd (lm_dd st qu q) (fun _ => 0) de p, lm_fd (lm_dd st qu q) (fun _ => 0) st p, ho, dl)) : ∃ n, wX_revive_14 post q (nI p) ti n 0 0 pa li qu bo pr lv bi de st ho dl := by
  refine loop_0 (σ := Int32 × (Nat → Int32) × (Nat → Int32)) (fun n i s => wX_revive_14 post q (nI p) ti n s.1 (nI i) pa li qu bo pr lv bi s.2.1 s.2.2 ho dl) (fun i s => s = (nI (lm_cnt (lm_dd st qu q) i), lm_fd (lm_dd st qu q) (fun _ => 0) de i, lm_fd (lm_dd st qu q) (fun _ => 0) st i)) p (0, de, st) ?_ ?_ ?_
  · show (0, de, st) = (_, _, _)
    rw [lm_fd0, lm_fd0]
    rfl
  · intro n s hs
    obtain rfl : s = _ := hs
    exact br_t (nI_le (Nat.le_refl p) (by omega)) h
  · intro n i s hi hs ih
    obtain rfl : s = _ := hs
    have ci : (nI i).toNatClampNeg = i := nI_clamp (by omega)
    have vi : vp_in (nI i) 40 := vp_in_nI (by omega) (by omega)
    refine br_f (nI_ge hi (by omega)) ⟨vi, ?_⟩
    dsimp only
    rw [ci, lm_fdi]
    refine br_c (fun h1 => ⟨vi, br_c (fun h2 => ⟨vi, ?_⟩) (fun h2 => ?_)⟩) (fun h1 => ?_)
    · have z : lm_dd st qu q i = true := lm_ddt.mpr ⟨h1, h2⟩
      have F := ih _ rfl
      dsimp only at F
      rw [lm_ct z] at F
      exact nm_r (lm_fdt z) ⟨vi, nm_r (lm_fdt z) (nm_r (nI_1 _) (nm_r (nI_1 _) F))⟩
    · have z : ¬ lm_dd st qu q i = true := fun z => h2 (lm_ddt.mp z).2
      have F := ih _ rfl
      dsimp only at F
      rw [lm_cf z, lm_fdf z, lm_fdf z] at F
      exact nm_r (nI_1 _) F
    · have z : ¬ lm_dd st qu q i = true := fun z => h1 (lm_ddt.mp z).1
      have F := ih _ rfl
      dsimp only at F
      rw [lm_cf z, lm_fdf z, lm_fdf z] at F
      exact nm_r (nI_1 _) F
theorem lx_rd {post : Int32 → Prop} {q : Int32} (hp : p ≤ 40) (h : post (nI (lm_cnt (lm_rd st qu q) p))) : ∃ n, wX_ready_14 post q (nI p) ti pa li qu bo pr lv bi de st ho dl n 0 0 := by
  refine loop_0 (fun n i s => wX_ready_14 post q (nI p) ti pa li qu bo pr lv bi de st ho dl n s (nI i)) (fun i s => s = nI (lm_cnt (lm_rd st qu q) i)) p 0 rfl ?_ ?_
  · intro n s hs
    obtain rfl : s = _ := hs
    exact br_t (nI_le (Nat.le_refl p) (by omega)) h
  · intro n i s hi hs ih
    obtain rfl : s = _ := hs
    refine br_f (nI_ge hi (by omega)) (lx_ri hp hi (fun z => ?_) (fun z => ?_))
    · exact br_f lm_n1 (nm_r (nI_1 _) (nm_r (nI_1 _) (ih _ (congrArg nI (lm_ct z).symm))))
    · exact br_t rfl (nm_r (nI_1 _) (ih _ (congrArg nI (lm_cf z).symm)))
theorem lx_nd {post : Int32 → Prop} (hp : p ≤ 40) (h : post (lm_nd st dl p)) : wpX_nextDeadline post (nI p, ti, pa, li, qu, bo, pr, lv, bi, de, st, ho, dl) := by
  unfold wpX_nextDeadline
  dsimp only
  refine loop_0 (fun n i s => wX_nextDeadline_5 post (nI p) ti pa li qu bo pr lv bi de st ho dl n s (nI i)) (fun i s => s = lm_nd st dl i) p (-5) rfl ?_ ?_
  · intro n s hs
    obtain rfl : s = _ := hs
    exact br_t (nI_le (Nat.le_refl p) (by omega)) h
  · intro n i s hi hs ih
    obtain rfl : s = _ := hs
    have ci : (nI i).toNatClampNeg = i := nI_clamp (by omega)
    have vi : vp_in (nI i) 40 := vp_in_nI (by omega) (by omega)
    refine br_f (nI_ge hi (by omega)) ⟨vi, ?_⟩
    rw [ci]
    refine br_c (fun h1 => br_c (fun h2 => ⟨vi, ?_⟩) (fun h2 => ⟨vi, br_c (fun h3 => ?_) (fun h3 => ⟨vi, ?_⟩)⟩)) (fun h1 => ?_)
    · exact nm_e (nm_r (nI_1 _) (ih _ (lm_ndt ⟨h1, Or.inl h2⟩).symm))
    · refine nm_r (nI_1 _) (ih _ (lm_ndf (fun z => ?_)).symm)
      rcases z.2 with z | z
      · exact h2 z
      · exact absurd z (Int32.not_lt.mpr h3)
    · exact nm_e (nm_r (nI_1 _) (ih _ (lm_ndt ⟨h1, Or.inr (Int32.not_le.mp h3)⟩).symm))
    · exact nm_r (nI_1 _) (ih _ (lm_ndf (fun z => h1 z.1)).symm)
theorem lx_sm {post : Int32 → Prop} {x : Int32} (hp : p ≤ 40) (h : post (lm_sum x st bo p)) : wpX_sum post (nI p, ti, pa, li, qu, bo, pr, lv, bi, de, st, ho, dl) x := by
  unfold wpX_sum
  dsimp only
  refine loop_0 (fun n i s => wX_sum_4 post x (nI p) ti pa li qu bo pr lv bi de st ho dl n s (nI i)) (fun i s => s = lm_sum x st bo i) p 0 rfl ?_ ?_
  · intro n s hs
    obtain rfl : s = _ := hs
    exact br_t (nI_le (Nat.le_refl p) (by omega)) h
  · intro n i s hi hs ih
    obtain rfl : s = _ := hs
    have ci : (nI i).toNatClampNeg = i := nI_clamp (by omega)
    have vi : vp_in (nI i) 40 := vp_in_nI (by omega) (by omega)
    refine br_f (nI_ge hi (by omega)) ⟨vi, ?_⟩
    rw [ci]
    refine br_c (fun h1 => ⟨vi, ?_⟩) (fun h1 => ?_)
    · exact nm_e (nm_r (nI_1 _) (ih _ (lm_smt h1).symm))
    · exact nm_r (nI_1 _) (ih _ (lm_smf h1).symm)
/-! revive, ready, nextDeadline, sum: Y -/
theorem ly_rv {post : Int32 → SY → Prop} {q : Int32} (hp : p ≤ 40) (h : post (nI (lm_cnt (lm_dd st qu q) p)) (nI p, ti, qu, bo, pr, lm_fd (lm_dd st qu q) (fun _ => 0) st p, lm_fd (lm_dd st qu q) (fun _ => 0) de p, ho, dl, en, pa, li)) : ∃ n, wY_revive_14 post q (nI p) ti n 0 0 qu bo pr st de ho dl en pa li := by
  refine loop_0 (σ := Int32 × (Nat → Int32) × (Nat → Int32)) (fun n i s => wY_revive_14 post q (nI p) ti n s.1 (nI i) qu bo pr s.2.2 s.2.1 ho dl en pa li) (fun i s => s = (nI (lm_cnt (lm_dd st qu q) i), lm_fd (lm_dd st qu q) (fun _ => 0) de i, lm_fd (lm_dd st qu q) (fun _ => 0) st i)) p (0, de, st) ?_ ?_ ?_
  · show (0, de, st) = (_, _, _)
    rw [lm_fd0, lm_fd0]
    rfl
  · intro n s hs
    obtain rfl : s = _ := hs
    exact br_t (nI_le (Nat.le_refl p) (by omega)) h
  · intro n i s hi hs ih
    obtain rfl : s = _ := hs
    have ci : (nI i).toNatClampNeg = i := nI_clamp (by omega)
    have vi : vp_in (nI i) 40 := vp_in_nI (by omega) (by omega)
    refine br_f (nI_ge hi (by omega)) ⟨vi, ?_⟩
    dsimp only
    rw [ci, lm_fdi]
    refine br_c (fun h1 => ⟨vi, br_c (fun h2 => ⟨vi, ?_⟩) (fun h2 => ?_)⟩) (fun h1 => ?_)
    · have z : lm_dd st qu q i = true := lm_ddt.mpr ⟨h1, h2⟩
      have F := ih _ rfl
      dsimp only at F
      rw [lm_ct z] at F
      exact nm_r (lm_fdt z) ⟨vi, nm_r (lm_fdt z) (nm_r (nI_1 _) (nm_r (nI_1 _) F))⟩
    · have z : ¬ lm_dd st qu q i = true := fun z => h2 (lm_ddt.mp z).2
      have F := ih _ rfl
      dsimp only at F
      rw [lm_cf z, lm_fdf z, lm_fdf z] at F
      exact nm_r (nI_1 _) F
    · have z : ¬ lm_dd st qu q i = true := fun z => h1 (lm_ddt.mp z).1
      have F := ih _ rfl
      dsimp only at F
      rw [lm_cf z, lm_fdf z, lm_fdf z] at F
      exact nm_r (nI_1 _) F
theorem ly_rd {post : Int32 → Prop} {q : Int32} (hp : p ≤ 40) (h : post (nI (lm_cnt (lm_rd st qu q) p))) : ∃ n, wY_ready_14 post q (nI p) ti qu bo pr st de ho dl en pa li n 0 0 := by
  refine loop_0 (fun n i s => wY_ready_14 post q (nI p) ti qu bo pr st de ho dl en pa li n s (nI i)) (fun i s => s = nI (lm_cnt (lm_rd st qu q) i)) p 0 rfl ?_ ?_
  · intro n s hs
    obtain rfl : s = _ := hs
    exact br_t (nI_le (Nat.le_refl p) (by omega)) h
  · intro n i s hi hs ih
    obtain rfl : s = _ := hs
    refine br_f (nI_ge hi (by omega)) (ly_ri hp hi (fun z => ?_) (fun z => ?_))
    · exact br_f lm_n1 (nm_r (nI_1 _) (nm_r (nI_1 _) (ih _ (congrArg nI (lm_ct z).symm))))
    · exact br_t rfl (nm_r (nI_1 _) (ih _ (congrArg nI (lm_cf z).symm)))
theorem ly_nd {post : Int32 → Prop} (hp : p ≤ 40) (h : post (lm_nd st dl p)) : wpY_nextDeadline post (nI p, ti, qu, bo, pr, st, de, ho, dl, en, pa, li) := by
  unfold wpY_nextDeadline
  dsimp only
  refine loop_0 (fun n i s => wY_nextDeadline_5 post (nI p) ti qu bo pr st de ho dl en pa li n s (nI i)) (fun i s => s = lm_nd st dl i) p (-5) rfl ?_ ?_
  · intro n s hs
    obtain rfl : s = _ := hs
    exact br_t (nI_le (Nat.le_refl p) (by omega)) h
  · intro n i s hi hs ih
    obtain rfl : s = _ := hs
    have ci : (nI i).toNatClampNeg = i := nI_clamp (by omega)
    have vi : vp_in (nI i) 40 := vp_in_nI (by omega) (by omega)
    refine br_f (nI_ge hi (by omega)) ⟨vi, ?_⟩
    rw [ci]
    refine br_c (fun h1 => br_c (fun h2 => ⟨vi, ?_⟩) (fun h2 => ⟨vi, br_c (fun h3 => ?_) (fun h3 => ⟨vi, ?_⟩)⟩)) (fun h1 => ?_)
    · exact nm_e (nm_r (nI_1 _) (ih _ (lm_ndt ⟨h1, Or.inl h2⟩).symm))
    · refine nm_r (nI_1 _) (ih _ (lm_ndf (fun z => ?_)).symm)
      rcases z.2 with z | z
      · exact h2 z
      · exact absurd z (Int32.not_lt.mpr h3)
    · exact nm_e (nm_r (nI_1 _) (ih _ (lm_ndt ⟨h1, Or.inr (Int32.not_le.mp h3)⟩).symm))
    · exact nm_r (nI_1 _) (ih _ (lm_ndf (fun z => h1 z.1)).symm)
theorem ly_sm {post : Int32 → Prop} {x : Int32} (hp : p ≤ 40) (h : post (lm_sum x st bo p)) : wpY_sum post (nI p, ti, qu, bo, pr, st, de, ho, dl, en, pa, li) x := by
  unfold wpY_sum
  dsimp only
  refine loop_0 (fun n i s => wY_sum_4 post x (nI p) ti qu bo pr st de ho dl en pa li n s (nI i)) (fun i s => s = lm_sum x st bo i) p 0 rfl ?_ ?_
  · intro n s hs
    obtain rfl : s = _ := hs
    exact br_t (nI_le (Nat.le_refl p) (by omega)) h
  · intro n i s hi hs ih
    obtain rfl : s = _ := hs
    have ci : (nI i).toNatClampNeg = i := nI_clamp (by omega)
    have vi : vp_in (nI i) 40 := vp_in_nI (by omega) (by omega)
    refine br_f (nI_ge hi (by omega)) ⟨vi, ?_⟩
    rw [ci]
    refine br_c (fun h1 => ⟨vi, ?_⟩) (fun h1 => ?_)
    · exact nm_e (nm_r (nI_1 _) (ih _ (lm_smt h1).symm))
    · exact nm_r (nI_1 _) (ih _ (lm_smf h1).symm)
end LML
end
section
section LMO
/-- both hold the same; what X keeps as life and birth Y keeps as end -/
def i_Rel (k : Nat) (u : SX) (v : SY) : Prop := ∃ (p t : Nat) (pa li qu bo pr lv bi de st ho dl en : Nat → Int32), u = (nI p, nI t, pa, li, qu, bo, pr, lv, bi, de, st, ho, dl) ∧ v = (nI p, nI t, qu, bo, pr, st, de, ho, dl, en, pa, li) ∧ lm_Ok k p t qu pr lv bi en st ho
theorem lm_Rl {k p t : Nat} {pa li qu bo pr lv bi de st ho dl en : Nat → Int32} (K : lm_Ok k p t qu pr lv bi en st ho) : i_Rel k (nI p, nI t, pa, li, qu, bo, pr, lv, bi, de, st, ho, dl) (nI p, nI t, qu, bo, pr, st, de, ho, dl, en, pa, li) := ⟨p, t, pa, li, qu, bo, pr, lv, bi, de, st, ho, dl, en, rfl, rfl, K⟩
def lm_g (pr : Nat → Int32) (j : Nat) : Nat := (pr j).toNatClampNeg
theorem lm_Opr {k p t : Nat} {qu pr lv bi st ho en : Nat → Int32} (K : lm_Ok k p t qu pr lv bi en st ho) : ∀ j, j < p → pr j = nI (lm_g pr j) ∧ lm_g pr j ≤ 3 := by
  intro j hj
  obtain ⟨_, ⟨a, ha, e⟩, _⟩ := K.2.2.1 j hj
  unfold lm_g
  rw [e, nI_clamp (by omega)]
  exact ⟨rfl, by omega⟩
theorem lm_Oqu {k p t : Nat} {qu pr lv bi st ho en : Nat → Int32} (K : lm_Ok k p t qu pr lv bi en st ho) : ∀ j, j < p → lm_in 3 (qu j) := fun j hj => (K.2.2.1 j hj).1
theorem ly_peek0 {post : Int32 → Prop} {q x : Int32} {p : Nat} {ti : Int32} {pa li qu bo pr de st ho dl en : Nat → Int32} (h : ¬ lm_in 3 q) (f : post (-1)) : wpY_peek post (nI p, ti, qu, bo, pr, st, de, ho, dl, en, pa, li) q x := by
  unfold wpY_peek
  dsimp only
  exact ly_30 h (br_t rfl f)
theorem i_up {k : Nat} {u : SX} {v : SY} (h : i_Rel k u v) : i_Rel (k + 5) u v := by
  obtain ⟨p, t, pa, li, qu, bo, pr, lv, bi, de, st, ho, dl, en, rfl, rfl, K⟩ := h
  exact lm_Rl (lm_Oup K)
theorem i_vc0 : wpX_init (fun u => wpY_init (fun v => i_Rel 0 u v)) := by
  have w0 : vp_in 0 3 := vp_in_iff.mpr (by decide)
  have w1 : vp_in (0 + 1) 3 := vp_in_iff.mpr (by decide)
  have w2 : vp_in (0 + 1 + 1) 3 := vp_in_iff.mpr (by decide)
  refine ⟨4, br_f (by decide) ⟨w0, nm_e ⟨w0, nm_e (nm_e (br_f (by decide) ⟨w1, nm_e ⟨w1, nm_e (nm_e (br_f (by decide) ⟨w2, nm_e ⟨w2, nm_e (nm_e (br_t (by decide) ?_))⟩⟩))⟩⟩))⟩⟩⟩
  refine ⟨4, br_f (by decide) ⟨w0, nm_e ⟨w0, nm_e (nm_e (br_f (by decide) ⟨w1, nm_e ⟨w1, nm_e (nm_e (br_f (by decide) ⟨w2, nm_e ⟨w2, nm_e (nm_e (br_t (by decide) ?_))⟩⟩))⟩⟩))⟩⟩⟩
  exact lm_Rl (p := 0) (t := 0) (lv := fun _ => 0) (bi := fun _ => 0) ⟨by omega, by omega, fun j hj => absurd hj (Nat.not_lt_zero j), fun c => Nat.zero_le 2⟩
theorem i_vc_publish {k : Nat} {u : SX} {v : SY} (I : i_Rel k u v) (hk : k + 5 ≤ 2560) (v1 : Int32) (v2 : Int32) (v3 : Int32) (v4 : Int32) : wpX_publish (fun r u' => wpY_publish (fun r' v' => r' = r ∧ i_Rel (k + 5) u' v') v v1 v2 v3 v4) u v1 v2 v3 v4 := by
  obtain ⟨p, t, pa, li, qu, bo, pr, lv, bi, de, st, ho, dl, en, rfl, rfl, K⟩ := I
  have hp := K.1
  have R : i_Rel (k + 5) (nI p, nI t, pa, li, qu, bo, pr, lv, bi, de, st, ho, dl) (nI p, nI t, qu, bo, pr, st, de, ho, dl, en, pa, li) := lm_Rl (lm_Oup K)
  unfold wpX_publish wpY_publish wY_publish_120
  dsimp only
  by_cases h1 : lm_in 3 v1
  · refine lx_q1 h1 (br_f lm_n1 ?_)
    by_cases h2 : v3 < 0
    · exact br_t h2 (ly_31 h1 (br_f lm_n1 (br_t h2 ⟨rfl, R⟩)))
    · refine br_f h2 ?_
      by_cases h3 : 3 < v3
      · exact br_t h3 (ly_31 h1 (br_f lm_n1 (br_f h2 (br_t h3 ⟨rfl, R⟩))))
      · refine br_f h3 ?_
        by_cases h4 : v4 < 0
        · exact br_t h4 (ly_31 h1 (br_f lm_n1 (br_f h2 (br_f h3 (br_t h4 ⟨rfl, R⟩)))))
        · refine br_f h4 ?_
          by_cases h5 : v4 ≤ 50
          · refine br_t h5 ?_
            by_cases h6 : p < 40
            · have w : vp_in (nI p) 40 := vp_in_nI h6 (by omega)
              have cp : (nI p).toNatClampNeg = p := nI_clamp (by omega)
              have hne : ¬ nI p = 40 := fun e => by
                have := (nI_eq (b := 40) (by omega) (by omega)).mp e
                omega
              obtain ⟨l, hl, rfl⟩ := nI_of2 (n := 50) (by decide) h4 h5
              obtain ⟨r, hr, rfl⟩ := nI_of2 (n := 3) (M := 3) (by decide) h2 (Int32.not_lt.mp h3)
              refine br_t (nI_lt (b := 40) h6 (by decide)) ⟨w, nm_e ⟨w, nm_e ⟨w, nm_e ⟨w, nm_e ⟨w, nm_e ⟨w, nm_e ⟨w, nm_e (nm_r (nI_1 p) (ly_31 h1 (br_f lm_n1 (br_f h2 (br_f h3 (br_f h4 (br_t h5 (br_f hne ⟨w, nm_e ⟨w, nm_e ⟨w, nm_e ⟨w, nm_e ⟨w, nm_e ?_⟩⟩⟩⟩⟩))))))))⟩⟩⟩⟩⟩⟩⟩
              by_cases h7 : nI l ≤ 0
              · refine br_t h7 ⟨w, nm_e (nm_r (nI_1 p) ⟨lm_s1 p, ?_⟩)⟩
                have hl0 : l = 0 := by
                  have := (nI_leI (b := 0) (by omega) (by omega)).mp h7
                  omega
                rw [cp]
                exact lm_Rl (lm_Opub K h6 ⟨h1, ⟨r, by omega, rfl⟩, l, t, hl, Nat.le_refl t, rfl, rfl, (if_pos hl0).symm⟩)
              · refine br_f h7 ⟨w, nm_e (nm_r (nI_1 p) ⟨lm_s1 p, ?_⟩)⟩
                have hl0 : ¬ l = 0 := fun e => h7 (by rw [e]; decide)
                rw [cp, nI_add]
                exact lm_Rl (lm_Opub K h6 ⟨h1, ⟨r, by omega, rfl⟩, l, t, hl, Nat.le_refl t, rfl, rfl, (if_neg hl0).symm⟩)
            · have e : p = 40 := by omega
              exact br_f (nI_nlt (b := 40) (by omega) (by omega)) (ly_31 h1 (br_f lm_n1 (br_f h2 (br_f h3 (br_f h4 (br_t h5 (br_t (congrArg nI e) ⟨rfl, R⟩)))))))
          · exact br_f h5 (ly_31 h1 (br_f lm_n1 (br_f h2 (br_f h3 (br_f h4 (br_f h5 ⟨rfl, R⟩))))))
  · exact lx_q0 h1 (br_t rfl (ly_30 h1 (br_t rfl ⟨rfl, R⟩)))
theorem i_vc_take {k : Nat} {u : SX} {v : SY} (I : i_Rel k u v) (hk : k + 5 ≤ 2560) (v1 : Int32) (v2 : Int32) : wpX_take (fun r u' => wpY_take (fun r' v' => r' = r ∧ i_Rel (k + 5) u' v') v v1 v2) u v1 v2 := by
  obtain ⟨p, t, pa, li, qu, bo, pr, lv, bi, de, st, ho, dl, en, rfl, rfl, K⟩ := I
  have hp := K.1
  have R : i_Rel (k + 5) (nI p, nI t, pa, li, qu, bo, pr, lv, bi, de, st, ho, dl) (nI p, nI t, qu, bo, pr, st, de, ho, dl, en, pa, li) := lm_Rl (lm_Oup K)
  unfold wpX_take wpY_take
  dsimp only
  by_cases h1 : lm_in 3 v1
  · refine lx_q1 h1 (br_f lm_n1 ?_)
    by_cases h2 : lm_in 3 v2
    · refine lx_k1 h2 (br_f lm_n1 (lx_c hp ?_))
      have hc2 := K.2.2.2 v2
      by_cases hc : 2 ≤ lm_cnt (lm_ou st ho v2) p
      · have e : lm_cnt (lm_ou st ho v2) p = 2 := by omega
        exact br_f (nI_nlt (b := 2) hc (by omega)) (ly_31 h1 (br_f lm_n1 (ly_31 h2 (br_f lm_n1 (ly_c hp (br_t (congrArg nI e) ⟨rfl, R⟩))))))
      · have hn2 : ¬ nI (lm_cnt (lm_ou st ho v2) p) = 2 := fun e => by
          have := (nI_eq (b := 2) (by omega) (by omega)).mp e
          omega
        refine br_t (nI_lt (b := 2) (by omega) (by decide)) (lx_f hp (lm_Opr K) (fun r hr => ?_))
        rcases hr with ⟨m, hm, rm, em, rfl⟩ | ⟨hn, rfl⟩
        · have w : vp_in (nI m) 40 := vp_in_nI (by omega) (by omega)
          have cm : (nI m).toNatClampNeg = m := nI_clamp (by omega)
          have w3 : vp_in v1 3 := lm_inv (by decide) h1
          refine br_f (lm_ne5 (by omega)) ⟨w, nm_e ⟨w, nm_e ⟨w, w, nm_e ⟨w3, w, nm_e (ly_31 h1 (br_f lm_n1 (ly_31 h2 (br_f lm_n1 (ly_c hp (br_f hn2 (ly_peek hp h1 (lm_Opr K) (fun r' hr' => ?_))))))))⟩⟩⟩⟩
          have e := lm_Spu hp (Or.inl ⟨m, hm, rm, em, rfl⟩) hr'
          subst e
          refine br_t (nI_pos' (by omega)) ⟨w, nm_e ⟨w, w, nm_e ⟨w, nm_e ⟨w3, w, nm_e ⟨rfl, ?_⟩⟩⟩⟩⟩
          refine lm_Rl ?_
          rw [cm]
          exact lm_Otk K (lm_rdt.mp rm).2 hc
        · refine br_t rfl (ly_31 h1 (br_f lm_n1 (ly_31 h2 (br_f lm_n1 (ly_c hp (br_f hn2 (ly_peek hp h1 (lm_Opr K) (fun r' hr' => ?_))))))))
          have e := lm_Spu hp (Or.inr ⟨hn, rfl⟩) hr'
          subst e
          exact br_f (by decide) ⟨rfl, R⟩
    · exact lx_k0 h2 (br_t rfl (ly_31 h1 (br_f lm_n1 (ly_30 h2 (br_t rfl ⟨rfl, R⟩)))))
  · exact lx_q0 h1 (br_t rfl (ly_30 h1 (br_t rfl ⟨rfl, R⟩)))
theorem i_vc_acknowledge {k : Nat} {u : SX} {v : SY} (I : i_Rel k u v) (hk : k + 5 ≤ 2560) (v1 : Int32) (v2 : Int32) : wpX_acknowledge (fun r u' => wpY_acknowledge (fun r' v' => r' = r ∧ i_Rel (k + 5) u' v') v v1 v2) u v1 v2 := by
  obtain ⟨p, t, pa, li, qu, bo, pr, lv, bi, de, st, ho, dl, en, rfl, rfl, K⟩ := I
  have hp := K.1
  have R : i_Rel (k + 5) (nI p, nI t, pa, li, qu, bo, pr, lv, bi, de, st, ho, dl) (nI p, nI t, qu, bo, pr, st, de, ho, dl, en, pa, li) := lm_Rl (lm_Oup K)
  unfold wpX_acknowledge wpY_acknowledge
  dsimp only
  by_cases h1 : lm_in 3 v1
  · refine lx_k1 h1 (br_f lm_n1 ?_)
    by_cases hh : lm_has p st ho v1 v2
    · obtain ⟨j, hj, rfl, hs, hh⟩ := hh
      have w : vp_in (nI j) 40 := vp_in_nI (by omega) (by omega)
      exact lx_o1 hp hj hs hh (br_f lm_n1 ⟨w, nm_e (lx_c hp (ly_rf1 hp h1 hj hs hh (br_t (by decide) ⟨w, nm_e (ly_c hp ⟨rfl, lm_Rl (lm_Ost1 K (by decide))⟩)⟩)))⟩)
    · exact lx_o0 hp hh (br_t rfl (ly_rf0 hp h1 hh (br_f (by decide) ⟨rfl, R⟩)))
  · exact lx_k0 h1 (br_t rfl (ly_rf3 h1 (br_f (by decide) ⟨rfl, R⟩)))
theorem i_vc_refuse {k : Nat} {u : SX} {v : SY} (I : i_Rel k u v) (hk : k + 5 ≤ 2560) (v1 : Int32) (v2 : Int32) : wpX_refuse (fun r u' => wpY_refuse (fun r' v' => r' = r ∧ i_Rel (k + 5) u' v') v v1 v2) u v1 v2 := by
  obtain ⟨p, t, pa, li, qu, bo, pr, lv, bi, de, st, ho, dl, en, rfl, rfl, K⟩ := I
  have hp := K.1
  have R : i_Rel (k + 5) (nI p, nI t, pa, li, qu, bo, pr, lv, bi, de, st, ho, dl) (nI p, nI t, qu, bo, pr, st, de, ho, dl, en, pa, li) := lm_Rl (lm_Oup K)
  unfold wpX_refuse wpY_refuse
  dsimp only
  by_cases h1 : lm_in 3 v1
  · refine lx_k1 h1 (br_f lm_n1 ?_)
    by_cases hh : lm_has p st ho v1 v2
    · obtain ⟨j, hj, rfl, hs, hh⟩ := hh
      have w : vp_in (nI j) 40 := vp_in_nI (by omega) (by omega)
      exact lx_o1 hp hj hs hh (br_f lm_n1 (lx_b hp hj (lm_Oqu K j hj) (And.intro w (ly_rf1 hp h1 hj hs hh (br_t (by decide) (ly_b hp hj (lm_Oqu K j hj) (And.intro w ⟨rfl, lm_Rl (lm_Ost1 K (lm_cv1 j))⟩)))))))
    · exact lx_o0 hp hh (br_t rfl (ly_rf0 hp h1 hh (br_f (by decide) ⟨rfl, R⟩)))
  · exact lx_k0 h1 (br_t rfl (ly_rf3 h1 (br_f (by decide) ⟨rfl, R⟩)))
theorem i_vc_lose {k : Nat} {u : SX} {v : SY} (I : i_Rel k u v) (hk : k + 5 ≤ 2560) (v1 : Int32) : wpX_lose (fun r u' => wpY_lose (fun r' v' => r' = r ∧ i_Rel (k + 5) u' v') v v1) u v1 := by
  obtain ⟨p, t, pa, li, qu, bo, pr, lv, bi, de, st, ho, dl, en, rfl, rfl, K⟩ := I
  have hp := K.1
  have R : i_Rel (k + 5) (nI p, nI t, pa, li, qu, bo, pr, lv, bi, de, st, ho, dl) (nI p, nI t, qu, bo, pr, st, de, ho, dl, en, pa, li) := lm_Rl (lm_Oup K)
  unfold wpX_lose wpY_lose
  dsimp only
  by_cases h1 : lm_in 3 v1
  · exact lx_k1 h1 (br_f lm_n1 (lx_lose hp (lm_Oqu K) (ly_31 h1 (br_f lm_n1 (ly_c hp (ly_lose hp (lm_Oqu K) ⟨rfl, lm_Rl (lm_Ostf K lm_cv1)⟩))))))
  · exact lx_k0 h1 (br_t rfl (ly_30 h1 (br_t rfl ⟨rfl, R⟩)))
theorem i_vc_renew {k : Nat} {u : SX} {v : SY} (I : i_Rel k u v) (hk : k + 5 ≤ 2560) (v1 : Int32) (v2 : Int32) : wpX_renew (fun r u' => wpY_renew (fun r' v' => r' = r ∧ i_Rel (k + 5) u' v') v v1 v2) u v1 v2 := by
  obtain ⟨p, t, pa, li, qu, bo, pr, lv, bi, de, st, ho, dl, en, rfl, rfl, K⟩ := I
  have hp := K.1
  have R : i_Rel (k + 5) (nI p, nI t, pa, li, qu, bo, pr, lv, bi, de, st, ho, dl) (nI p, nI t, qu, bo, pr, st, de, ho, dl, en, pa, li) := lm_Rl (lm_Oup K)
  unfold wpX_renew wpY_renew
  dsimp only
  by_cases h1 : lm_in 3 v1
  · refine lx_k1 h1 (br_f lm_n1 ?_)
    by_cases hh : lm_has p st ho v1 v2
    · obtain ⟨j, hj, rfl, hs, hh⟩ := hh
      have w : vp_in (nI j) 40 := vp_in_nI (by omega) (by omega)
      have w3 : vp_in (qu (nI j).toNatClampNeg) 3 := by
        rw [nI_clamp (by omega)]
        exact lm_inv (by decide) (lm_Oqu K j hj)
      exact lx_o1 hp hj hs hh (br_f lm_n1 ⟨w, w3, w, nm_e ⟨w, ly_rf1 hp h1 hj hs hh (br_t (by decide) ⟨w, w3, w, nm_e ⟨w, rfl, lm_Rl (lm_Oup K)⟩⟩)⟩⟩)
    · exact lx_o0 hp hh (br_t rfl (ly_rf0 hp h1 hh (br_f (by decide) ⟨rfl, R⟩)))
  · exact lx_k0 h1 (br_t rfl (ly_rf3 h1 (br_f (by decide) ⟨rfl, R⟩)))
theorem i_vc_pass {k : Nat} {u : SX} {v : SY} (I : i_Rel k u v) (hk : k + 5 ≤ 2560) (v1 : Int32) : wpX_pass (fun r u' => wpY_pass (fun r' v' => r' = r ∧ i_Rel (k + 5) u' v') v v1) u v1 := by
  obtain ⟨p, t, pa, li, qu, bo, pr, lv, bi, de, st, ho, dl, en, rfl, rfl, K⟩ := I
  have hp := K.1
  have R : i_Rel (k + 5) (nI p, nI t, pa, li, qu, bo, pr, lv, bi, de, st, ho, dl) (nI p, nI t, qu, bo, pr, st, de, ho, dl, en, pa, li) := lm_Rl (lm_Oup K)
  unfold wpX_pass wpY_pass
  dsimp only
  by_cases h1 : v1 < 0
  · exact br_t h1 (br_t h1 ⟨rfl, R⟩)
  · by_cases h2 : v1 ≤ 100
    · obtain ⟨n, hn, rfl⟩ := nI_of2 (n := 100) (by decide) h1 h2
      have ht : t ≤ 60000 := by
        have := K.2.1
        omega
      refine br_f h1 (br_t h2 (nm_r (nI_add t n) (lx_ro hp (lm_Oqu K) (lx_er hp (br_f h1 (br_t h2 (nm_r (nI_add t n) (ly_p27 hp (lm_Oqu K) (ly_p74 hp ⟨rfl, ?_⟩)))))))))
      rw [lm_fdc (P := lm_ey en _ _) (fun j hj => (lm_exy (K.2.2.1 j hj) ht).symm)]
      exact lm_Rl (lm_Ot K hn lm_cv1 (fun _ => by decide))
    · exact br_f h1 (br_f h2 (br_f h1 (br_f h2 ⟨rfl, R⟩)))
theorem i_vc_tune {k : Nat} {u : SX} {v : SY} (I : i_Rel k u v) (hk : k + 5 ≤ 2560) (v1 : Int32) (v2 : Int32) (v3 : Int32) : wpX_tune (fun r u' => wpY_tune (fun r' v' => r' = r ∧ i_Rel (k + 5) u' v') v v1 v2 v3) u v1 v2 v3 := by
  obtain ⟨p, t, pa, li, qu, bo, pr, lv, bi, de, st, ho, dl, en, rfl, rfl, K⟩ := I
  have hp := K.1
  have R : i_Rel (k + 5) (nI p, nI t, pa, li, qu, bo, pr, lv, bi, de, st, ho, dl) (nI p, nI t, qu, bo, pr, st, de, ho, dl, en, pa, li) := lm_Rl (lm_Oup K)
  unfold wpX_tune wpY_tune
  dsimp only
  by_cases h1 : lm_in 3 v1
  · have w3 : vp_in v1 3 := lm_inv (by decide) h1
    refine lx_q1 h1 (br_f lm_n1 (br_c (fun h2 => ?_) (fun h2 => br_c (fun h3 => ?_) (fun h3 => br_c (fun h4 => ?_) (fun h4 => br_c (fun h5 => ?_) (fun h5 => ?_))))))
    · exact ly_31 h1 (br_f lm_n1 (br_t h2 ⟨rfl, R⟩))
    · exact ly_31 h1 (br_f lm_n1 (br_f h2 (br_t h3 ⟨rfl, R⟩)))
    · exact ly_31 h1 (br_f lm_n1 (br_f h2 (br_f h3 (br_t h4 ⟨rfl, R⟩))))
    · exact ⟨w3, nm_e ⟨w3, nm_e (ly_31 h1 (br_f lm_n1 (br_f h2 (br_f h3 (br_f h4 (br_t h5 ⟨w3, nm_e ⟨w3, nm_e ⟨rfl, lm_Rl (lm_Oup K)⟩⟩⟩))))))⟩⟩
    · exact ly_31 h1 (br_f lm_n1 (br_f h2 (br_f h3 (br_f h4 (br_f h5 ⟨rfl, R⟩)))))
  · exact lx_q0 h1 (br_t rfl (ly_30 h1 (br_t rfl ⟨rfl, R⟩)))
theorem i_vc_revive {k : Nat} {u : SX} {v : SY} (I : i_Rel k u v) (hk : k + 5 ≤ 2560) (v1 : Int32) : wpX_revive (fun r u' => wpY_revive (fun r' v' => r' = r ∧ i_Rel (k + 5) u' v') v v1) u v1 := by
  obtain ⟨p, t, pa, li, qu, bo, pr, lv, bi, de, st, ho, dl, en, rfl, rfl, K⟩ := I
  have hp := K.1
  have R : i_Rel (k + 5) (nI p, nI t, pa, li, qu, bo, pr, lv, bi, de, st, ho, dl) (nI p, nI t, qu, bo, pr, st, de, ho, dl, en, pa, li) := lm_Rl (lm_Oup K)
  unfold wpX_revive wpY_revive
  dsimp only
  by_cases h1 : lm_in 3 v1
  · exact lx_q1 h1 (br_f lm_n1 (lx_rv hp (ly_31 h1 (br_f lm_n1 (ly_rv hp ⟨rfl, lm_Rl (lm_Ostf K (fun _ => by decide))⟩)))))
  · exact lx_q0 h1 (br_t rfl (ly_30 h1 (br_t rfl ⟨rfl, R⟩)))
theorem i_vc_clear {k : Nat} {u : SX} {v : SY} (I : i_Rel k u v) (hk : k + 5 ≤ 2560) : wpX_clear (fun u' => wpY_clear (fun v' => i_Rel (k + 5) u' v') v) u := by
  obtain ⟨p, t, pa, li, qu, bo, pr, lv, bi, de, st, ho, dl, en, rfl, rfl, K⟩ := I
  unfold wpX_clear wpY_clear
  dsimp only
  exact lm_Rl (p := 0) (lv := lv) (bi := bi) ⟨by omega, by have := K.2.1; omega, fun j hj => absurd hj (Nat.not_lt_zero j), fun c => Nat.zero_le 2⟩
theorem i_vc_state {k : Nat} {u : SX} {v : SY} (I : i_Rel k u v) (hk : k + 5 ≤ 2560) (v1 : Int32) : wpX_state (fun r => wpY_state (fun r' => r' = r ∧ i_Rel (k + 5) u v) v v1) u v1 := by
  obtain ⟨p, t, pa, li, qu, bo, pr, lv, bi, de, st, ho, dl, en, rfl, rfl, K⟩ := I
  have hp := K.1
  have R : i_Rel (k + 5) (nI p, nI t, pa, li, qu, bo, pr, lv, bi, de, st, ho, dl) (nI p, nI t, qu, bo, pr, st, de, ho, dl, en, pa, li) := lm_Rl (lm_Oup K)
  unfold wpX_state wpY_state
  dsimp only
  by_cases h : lm_in p v1
  · obtain ⟨j, hj, rfl⟩ := h
    have w : vp_in (nI j) 40 := vp_in_nI (by omega) (by omega)
    exact lx_m1 hp ⟨j, hj, rfl⟩ (br_f lm_n1 ⟨w, br_f (nI_pos (by omega)) (br_f (nI_ge hj (by omega)) ⟨w, rfl, R⟩)⟩)
  · exact lx_m0 hp h (br_t rfl (br_c (fun _ => ⟨rfl, R⟩) (fun z => br_c (fun _ => ⟨rfl, R⟩) (fun y => absurd (lm_inc hp z y) h))))
theorem i_vc_ready {k : Nat} {u : SX} {v : SY} (I : i_Rel k u v) (hk : k + 5 ≤ 2560) (v1 : Int32) : wpX_ready (fun r => wpY_ready (fun r' => r' = r ∧ i_Rel (k + 5) u v) v v1) u v1 := by
  obtain ⟨p, t, pa, li, qu, bo, pr, lv, bi, de, st, ho, dl, en, rfl, rfl, K⟩ := I
  have hp := K.1
  have R : i_Rel (k + 5) (nI p, nI t, pa, li, qu, bo, pr, lv, bi, de, st, ho, dl) (nI p, nI t, qu, bo, pr, st, de, ho, dl, en, pa, li) := lm_Rl (lm_Oup K)
  unfold wpX_ready wpY_ready
  dsimp only
  by_cases h1 : lm_in 3 v1
  · exact lx_q1 h1 (br_f lm_n1 (lx_rd hp (ly_31 h1 (br_f lm_n1 (ly_rd hp ⟨rfl, R⟩)))))
  · exact lx_q0 h1 (br_t rfl (ly_30 h1 (br_t rfl ⟨rfl, R⟩)))
theorem i_vc_peek {k : Nat} {u : SX} {v : SY} (I : i_Rel k u v) (hk : k + 5 ≤ 2560) (v1 : Int32) (v2 : Int32) : wpX_peek (fun r => wpY_peek (fun r' => r' = r ∧ i_Rel (k + 5) u v) v v1 v2) u v1 v2 := by
  obtain ⟨p, t, pa, li, qu, bo, pr, lv, bi, de, st, ho, dl, en, rfl, rfl, K⟩ := I
  have hp := K.1
  have R : i_Rel (k + 5) (nI p, nI t, pa, li, qu, bo, pr, lv, bi, de, st, ho, dl) (nI p, nI t, qu, bo, pr, st, de, ho, dl, en, pa, li) := lm_Rl (lm_Oup K)
  unfold wpX_peek
  dsimp only
  by_cases h1 : lm_in 3 v1
  · exact lx_q1 h1 (br_f lm_n1 (lx_f hp (lm_Opr K) (fun r hr => ly_peek hp h1 (lm_Opr K) (fun r' hr' => ⟨lm_Spu hp hr hr', R⟩))))
  · exact lx_q0 h1 (br_t rfl (ly_peek0 h1 ⟨rfl, R⟩))
theorem i_vc_nextDeadline {k : Nat} {u : SX} {v : SY} (I : i_Rel k u v) (hk : k + 5 ≤ 2560) : wpX_nextDeadline (fun r => wpY_nextDeadline (fun r' => r' = r ∧ i_Rel (k + 5) u v) v) u := by
  obtain ⟨p, t, pa, li, qu, bo, pr, lv, bi, de, st, ho, dl, en, rfl, rfl, K⟩ := I
  exact lx_nd K.1 (ly_nd K.1 ⟨rfl, lm_Rl (lm_Oup K)⟩)
theorem i_vc_sum {k : Nat} {u : SX} {v : SY} (I : i_Rel k u v) (hk : k + 5 ≤ 2560) (v1 : Int32) : wpX_sum (fun r => wpY_sum (fun r' => r' = r ∧ i_Rel (k + 5) u v) v v1) u v1 := by
  obtain ⟨p, t, pa, li, qu, bo, pr, lv, bi, de, st, ho, dl, en, rfl, rfl, K⟩ := I
  exact lx_sm K.1 (ly_sm K.1 ⟨rfl, lm_Rl (lm_Oup K)⟩)
end LMO
end
