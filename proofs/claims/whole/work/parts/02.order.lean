section LMB
/-! D: READY in a queue, OUT with a consumer, and the place in the order -/
def lm_rd (st qu : Nat → Int32) (q : Int32) (j : Nat) : Bool := decide (qu j = q ∧ st j = 0)
def lm_ou (st ho : Nat → Int32) (c : Int32) (j : Nat) : Bool := decide (st j = 1 ∧ ho j = c)
theorem lm_rdt {st qu : Nat → Int32} {q : Int32} {j : Nat} : lm_rd st qu q j = true ↔ qu j = q ∧ st j = 0 := decide_eq_true_iff
theorem lm_out {st ho : Nat → Int32} {c : Int32} {j : Nat} : lm_ou st ho c j = true ↔ st j = 1 ∧ ho j = c := decide_eq_true_iff
def lm_bf (R : Nat → Bool) (g : Nat → Nat) (c i j : Nat) : Bool := R j && decide (c < g j ∨ (g j = c ∧ j < i))
theorem lm_bft {R : Nat → Bool} {g : Nat → Nat} {c i j : Nat} : lm_bf R g c i j = true ↔ R j = true ∧ (c < g j ∨ (g j = c ∧ j < i)) := by
  unfold lm_bf
  rw [Bool.and_eq_true, decide_eq_true_iff]
/-- how many stand ahead of place i of priority c -/
def lm_B (R : Nat → Bool) (g : Nat → Nat) (p c i : Nat) : Nat := lm_cnt (lm_bf R g c i) p
theorem lm_Bb {R : Nat → Bool} {g : Nat → Nat} {p c i : Nat} : lm_B R g p c i ≤ p := lm_cb p
theorem lm_Bst {R : Nat → Bool} {g : Nat → Nat} {p c i : Nat} (hi : i < p) (hr : R i = true) (hg : g i = c) : lm_B R g p c (i + 1) = lm_B R g p c i + 1 := by
  refine lm_cup p hi (fun j _ hj => ?_) ?_ ?_
  · rw [lm_bft, lm_bft]
    constructor
    · intro z; exact ⟨z.1, by have := z.2; omega⟩
    · intro z; exact ⟨z.1, by have := z.2; omega⟩
  · rw [lm_bft]
    intro z
    have := z.2
    omega
  · rw [lm_bft]
    exact ⟨hr, Or.inr ⟨hg, Nat.lt_succ_self i⟩⟩
theorem lm_Bsf {R : Nat → Bool} {g : Nat → Nat} {p c i : Nat} (h : ¬ (g i = c ∧ R i = true)) : lm_B R g p c (i + 1) = lm_B R g p c i := by
  refine lm_ceq p (fun j _ => ?_)
  rw [lm_bft, lm_bft]
  constructor
  · intro z
    refine ⟨z.1, ?_⟩
    have h2 : j = i → ¬ g j = c := fun e k => h ⟨e ▸ k, e ▸ z.1⟩
    have := z.2
    omega
  · intro z; exact ⟨z.1, by have := z.2; omega⟩
theorem lm_Bn {R : Nat → Bool} {g : Nat → Nat} {p c : Nat} : lm_B R g p (c + 1) p = lm_B R g p c 0 := by
  refine lm_ceq p (fun j hj => ?_)
  rw [lm_bft, lm_bft]
  constructor
  · intro z; exact ⟨z.1, by have := z.2; omega⟩
  · intro z; exact ⟨z.1, by have := z.2; omega⟩
theorem lm_B0 {R : Nat → Bool} {g : Nat → Nat} {p c : Nat} (h : ∀ j, j < p → g j ≤ c) : lm_B R g p c 0 = 0 := by
  refine lm_c0 p (fun j hj => ?_)
  rw [lm_bft]
  intro z
  have h1 := z.2
  have h2 := h j hj
  omega
def lm_rk (R : Nat → Bool) (g : Nat → Nat) (p m : Nat) : Nat := lm_B R g p (g m) m
theorem lm_rlt {R : Nat → Bool} {g : Nat → Nat} {p a b : Nat} (ha : a < p) (ra : R a = true) (h : g b < g a ∨ (g a = g b ∧ a < b)) : lm_rk R g p a < lm_rk R g p b := by
  refine lm_clt ha (fun j _ z => ?_) ?_ ?_
  · rw [lm_bft] at z ⊢
    exact ⟨z.1, by have := z.2; omega⟩
  · rw [lm_bft]
    intro z
    have := z.2
    omega
  · rw [lm_bft]
    exact ⟨ra, h⟩
theorem lm_rin {R : Nat → Bool} {g : Nat → Nat} {p a b : Nat} (ha : a < p) (hb : b < p) (ra : R a = true) (rb : R b = true) (e : lm_rk R g p a = lm_rk R g p b) : a = b := by
  by_cases h1 : g b < g a ∨ (g a = g b ∧ a < b)
  · have := lm_rlt ha ra h1
    omega
  · by_cases h2 : g a < g b ∨ (g b = g a ∧ b < a)
    · have := lm_rlt hb rb h2
      omega
    · omega
/-- the answer r to the place x: the message that stands there, or EMPTY -/
def lm_Sp (R : Nat → Bool) (g : Nat → Nat) (p : Nat) (x r : Int32) : Prop :=
  (∃ m : Nat, m < p ∧ R m = true ∧ nI (lm_rk R g p m) = x ∧ r = nI m) ∨ ((∀ m : Nat, m < p → R m = true → ¬ nI (lm_rk R g p m) = x) ∧ r = -5)
theorem lm_Spu {R : Nat → Bool} {g : Nat → Nat} {p : Nat} {x r s : Int32} (hp : p ≤ 40) (h : lm_Sp R g p x r) (h' : lm_Sp R g p x s) : s = r := by
  rcases h with ⟨m, hm, rm, em, rfl⟩ | ⟨h, rfl⟩
  · rcases h' with ⟨m', hm', rm', em', rfl⟩ | ⟨h', _⟩
    · have b1 : lm_rk R g p m ≤ p := lm_Bb
      have b2 : lm_rk R g p m' ≤ p := lm_Bb
      have e : lm_rk R g p m' = lm_rk R g p m := (nI_eq (by omega) (by omega)).mp (em'.trans em.symm)
      rw [lm_rin hm' hm rm' rm e]
    · exact absurd em (h' m hm rm)
  · rcases h' with ⟨m', hm', rm', em', rfl⟩ | ⟨_, rfl⟩
    · exact absurd em' (h m' hm' rm')
    · rfl

/-! E: what holds between two calls -/
def lm_M (t : Nat) (q r l b e : Int32) : Prop :=
  (∃ a : Nat, a < 3 ∧ q = nI a) ∧ (∃ a : Nat, a < 4 ∧ r = nI a) ∧ ∃ l' b' : Nat, l' ≤ 50 ∧ b' ≤ t ∧ l = nI l' ∧ b = nI b' ∧ e = if l' = 0 then -1 else nI (b' + l')
def lm_Ok (k p t : Nat) (qu pr lv bi en st ho : Nat → Int32) : Prop :=
  p ≤ 40 ∧ t ≤ 20 * k ∧ (∀ j, j < p → lm_M t (qu j) (pr j) (lv j) (bi j) (en j)) ∧ ∀ c : Int32, lm_cnt (lm_ou st ho c) p ≤ 2
theorem lm_Mt {t t' : Nat} {q r l b e : Int32} (h : lm_M t q r l b e) (ht : t ≤ t') : lm_M t' q r l b e := by
  obtain ⟨h1, h2, l', b', h3, h4, h5, h6, h7⟩ := h
  exact ⟨h1, h2, l', b', h3, by omega, h5, h6, h7⟩
theorem lm_Oup {k p t : Nat} {qu pr lv bi en st ho : Nat → Int32} (h : lm_Ok k p t qu pr lv bi en st ho) : lm_Ok (k + 5) p t qu pr lv bi en st ho :=
  ⟨h.1, by have := h.2.1; omega, h.2.2⟩
/-- fewer are OUT -/
theorem lm_Ost {k p t : Nat} {qu pr lv bi en st st' ho : Nat → Int32} (h : lm_Ok k p t qu pr lv bi en st ho) (H : ∀ (c : Int32) (j : Nat), lm_ou st' ho c j = true → lm_ou st ho c j = true) : lm_Ok (k + 5) p t qu pr lv bi en st' ho :=
  ⟨h.1, by have := h.2.1; omega, h.2.2.1, fun c => Nat.le_trans (lm_cle p fun j _ => H c j) (h.2.2.2 c)⟩
theorem lm_Ost1 {k p t m : Nat} {x : Int32} {qu pr lv bi en st ho : Nat → Int32} (h : lm_Ok k p t qu pr lv bi en st ho) (hx : ¬ x = 1) : lm_Ok (k + 5) p t qu pr lv bi en (upd st m x) ho := by
  refine lm_Ost h (fun c j z => ?_)
  rw [lm_out] at z ⊢
  by_cases e : j = m
  · subst e
    rw [lm_us] at z
    exact absurd z.1 hx
  · rw [lm_un e] at z
    exact z
theorem lm_Ostf {k p t i : Nat} {P : Nat → Bool} {v qu pr lv bi en st ho : Nat → Int32} (h : lm_Ok k p t qu pr lv bi en st ho) (hv : ∀ j, ¬ v j = 1) : lm_Ok (k + 5) p t qu pr lv bi en (lm_fd P v st i) ho := by
  refine lm_Ost h (fun c j z => ?_)
  rw [lm_out] at z ⊢
  unfold lm_fd at z
  by_cases e : j < i ∧ P j = true
  · rw [if_pos e] at z
    exact absurd z.1 (hv j)
  · rw [if_neg e] at z
    exact z
/-- the time goes on -/
theorem lm_Ot {k p t n i : Nat} {P P' : Nat → Bool} {v v' qu pr lv bi en st ho : Nat → Int32} (h : lm_Ok k p t qu pr lv bi en st ho) (hn : n ≤ 100) (hv : ∀ j, ¬ v j = 1) (hv' : ∀ j, ¬ v' j = 1) : lm_Ok (k + 5) p (t + n) qu pr lv bi en (lm_fd P' v' (lm_fd P v st i) i) ho := by
  have h1 := (lm_Ostf (P := P') (i := i) (lm_Ostf (P := P) (i := i) h hv) hv').2.2.2
  exact ⟨h.1, by have := h.2.1; omega, fun j hj => lm_Mt (h.2.2.1 j hj) (by omega), h1⟩
/-- publish -/
theorem lm_Opub {k p t : Nat} {q r l e : Int32} {qu pr lv bi en st ho : Nat → Int32} (h : lm_Ok k p t qu pr lv bi en st ho) (hp : p < 40) (hm : lm_M t q r l (nI t) e) : lm_Ok (k + 5) (p + 1) t (upd qu p q) (upd pr p r) (upd lv p l) (upd bi p (nI t)) (upd en p e) (upd st p 0) ho := by
  refine ⟨by omega, by have := h.2.1; omega, fun j hj => ?_, fun c => ?_⟩
  · by_cases z : j = p
    · subst z
      rw [lm_us, lm_us, lm_us, lm_us, lm_us]
      exact hm
    · rw [lm_un z, lm_un z, lm_un z, lm_un z, lm_un z]
      exact h.2.2.1 j (by omega)
  · rw [lm_cf (by rw [lm_out, lm_us]; intro z; exact absurd z.1 (by decide))]
    refine Nat.le_trans (lm_cle p fun j hj z => ?_) (h.2.2.2 c)
    rw [lm_out, lm_un (by omega)] at z
    exact lm_out.mpr z
/-- take -/
theorem lm_Otk {k p t m : Nat} {c : Int32} {qu pr lv bi en st ho : Nat → Int32} (h : lm_Ok k p t qu pr lv bi en st ho) (hm : st m = 0) (hc : ¬ 2 ≤ lm_cnt (lm_ou st ho c) p) : lm_Ok (k + 5) p t qu pr lv bi en (upd st m 1) (upd ho m c) := by
  refine ⟨h.1, by have := h.2.1; omega, h.2.2.1, fun d => ?_⟩
  by_cases e : d = c
  · subst e
    have h1 : lm_cnt (lm_ou (upd st m 1) (upd ho m d) d) p ≤ lm_cnt (lm_ou st ho d) p + 1 := lm_cle1 (i := m) p (fun j _ hj z => by
      rw [lm_out, lm_un hj, lm_un hj] at z
      exact lm_out.mpr z)
    omega
  · refine Nat.le_trans (lm_cle p fun j hj z => ?_) (h.2.2.2 d)
    rw [lm_out] at z ⊢
    by_cases f : j = m
    · subst f
      rw [lm_us, lm_us] at z
      exact absurd z.2.symm e
    · rw [lm_un f, lm_un f] at z
      exact z
/-! F: what the loops reckon -/
def lm_sum (x : Int32) (st bo : Nat → Int32) : Nat → Int32
  | 0 => 0
  | n + 1 => if st n = x then lm_sum x st bo n + bo n else lm_sum x st bo n
theorem lm_smt {x : Int32} {st bo : Nat → Int32} {n : Nat} (h : st n = x) : lm_sum x st bo (n + 1) = lm_sum x st bo n + bo n := if_pos h
theorem lm_smf {x : Int32} {st bo : Nat → Int32} {n : Nat} (h : ¬ st n = x) : lm_sum x st bo (n + 1) = lm_sum x st bo n := if_neg h
def lm_nd (st dl : Nat → Int32) : Nat → Int32
  | 0 => -5
  | n + 1 => if st n = 1 ∧ (lm_nd st dl n = -5 ∨ dl n < lm_nd st dl n) then dl n else lm_nd st dl n
theorem lm_ndt {st dl : Nat → Int32} {n : Nat} (h : st n = 1 ∧ (lm_nd st dl n = -5 ∨ dl n < lm_nd st dl n)) : lm_nd st dl (n + 1) = dl n := if_pos h
theorem lm_ndf {st dl : Nat → Int32} {n : Nat} (h : ¬ (st n = 1 ∧ (lm_nd st dl n = -5 ∨ dl n < lm_nd st dl n))) : lm_nd st dl (n + 1) = lm_nd st dl n := if_neg h
/-- the state in which a message comes back -/
def lm_cv (de li qu : Nat → Int32) (j : Nat) : Int32 := if li (qu j).toNatClampNeg ≤ de j then 3 else 0
theorem lm_cv1 {de li qu : Nat → Int32} (j : Nat) : ¬ lm_cv de li qu j = 1 := by
  unfold lm_cv
  split
  · decide
  · decide
theorem lm_cvt {de li qu : Nat → Int32} {j : Nat} (h : li (qu j).toNatClampNeg ≤ de j) : lm_cv de li qu j = 3 := if_pos h
theorem lm_cvf {de li qu : Nat → Int32} {j : Nat} (h : ¬ li (qu j).toNatClampNeg ≤ de j) : lm_cv de li qu j = 0 := if_neg h
/-- overdue; expired, by X and by Y -/
def lm_ov (st dl : Nat → Int32) (t : Int32) (j : Nat) : Bool := decide (st j = 1 ∧ dl j ≤ t)
theorem lm_ovt {st dl : Nat → Int32} {t : Int32} {j : Nat} : lm_ov st dl t j = true ↔ st j = 1 ∧ dl j ≤ t := decide_eq_true_iff
def lm_ex (lv bi st : Nat → Int32) (t : Int32) (j : Nat) : Bool := decide (0 < lv j ∧ st j = 0 ∧ bi j + lv j ≤ t)
theorem lm_ext {lv bi st : Nat → Int32} {t : Int32} {j : Nat} : lm_ex lv bi st t j = true ↔ 0 < lv j ∧ st j = 0 ∧ bi j + lv j ≤ t := decide_eq_true_iff
def lm_ey (en st : Nat → Int32) (t : Int32) (j : Nat) : Bool := decide (st j = 0 ∧ 0 ≤ en j ∧ en j ≤ t)
theorem lm_eyt {en st : Nat → Int32} {t : Int32} {j : Nat} : lm_ey en st t j = true ↔ st j = 0 ∧ 0 ≤ en j ∧ en j ≤ t := decide_eq_true_iff
theorem lm_exy {t : Nat} {lv bi en st : Nat → Int32} {q r x : Int32} {j : Nat} (h : lm_M t q r (lv j) (bi j) (en j)) (ht : t ≤ 60000) : lm_ex lv bi st x j = true ↔ lm_ey en st x j = true := by
  obtain ⟨_, _, l, b, hl, hb, e1, e2, e3⟩ := h
  rw [lm_ext, lm_eyt, e1, e2, e3]
  by_cases z : l = 0
  · rw [if_pos z, z]
    constructor
    · intro h
      exact absurd h.1 (by decide)
    · intro h
      exact absurd h.2.1 (by decide)
  · rw [if_neg z, nI_add]
    have h1 : (0 : Int32) < nI l := by
      rw [← nI_0]
      exact nI_lt (by omega) (by omega)
    have h2 : (0 : Int32) ≤ nI (b + l) := nI_pos' (by omega)
    constructor
    · intro h
      exact ⟨h.2.1, h2, h.2.2⟩
    · intro h
      exact ⟨h1, h.1, h.2.2⟩
theorem lm_fdc {P Q : Nat → Bool} {v st : Nat → Int32} {i : Nat} (H : ∀ j, j < i → (P j = true ↔ Q j = true)) : lm_fd P v st i = lm_fd Q v st i := by
  funext j
  unfold lm_fd
  by_cases g : j < i ∧ P j = true
  · rw [if_pos g, if_pos ⟨g.1, (H j g.1).mp g.2⟩]
  · rw [if_neg g, if_neg (fun z => g ⟨z.1, (H j z.1).mpr z.2⟩)]
/-- dead in a queue -/
def lm_dd (st qu : Nat → Int32) (q : Int32) (j : Nat) : Bool := decide (qu j = q ∧ st j = 3)
theorem lm_ddt {st qu : Nat → Int32} {q : Int32} {j : Nat} : lm_dd st qu q j = true ↔ qu j = q ∧ st j = 3 := decide_eq_true_iff
/-- the message x is OUT with c -/
def lm_has (p : Nat) (st ho : Nat → Int32) (c x : Int32) : Prop := ∃ j : Nat, j < p ∧ x = nI j ∧ st j = 1 ∧ ho j = c
/-- x is one of 0 .. n - 1 -/
def lm_in (n : Nat) (x : Int32) : Prop := ∃ j : Nat, j < n ∧ x = nI j
theorem lm_ina {n : Nat} {x : Int32} (hn : n ≤ 40) (h : x < 0) : ¬ lm_in n x := by
  rintro ⟨j, hj, rfl⟩
  exact nI_pos (by omega) h
theorem lm_inb {n : Nat} {x : Int32} (hn : n ≤ 40) (h : nI n ≤ x) : ¬ lm_in n x := by
  rintro ⟨j, hj, rfl⟩
  exact nI_ge hj (by omega) h
theorem lm_inc {n : Nat} {x : Int32} (hn : n ≤ 40) (h0 : ¬ x < 0) (h : ¬ nI n ≤ x) : lm_in n x :=
  lm_rg (by omega) h0 (Int32.not_le.mp h)
theorem lm_inv {n : Nat} {x : Int32} (hn : n ≤ 40) (h : lm_in n x) : vp_in x n := by
  obtain ⟨j, hj, rfl⟩ := h
  exact vp_in_nI hj (by omega)
theorem lm_oui {P : Nat → Bool} {v st ho : Nat → Int32} {c : Int32} {i : Nat} : lm_ou (lm_fd P v st i) ho c i = lm_ou st ho c i := by
  unfold lm_ou
  rw [lm_fdi]
end LMB
