section LMA
/-! A: stores, small numbers -/
theorem lm_us {f : Nat → Int32} {k : Nat} {x : Int32} : upd f k x k = x := if_pos rfl
theorem lm_un {f : Nat → Int32} {k j : Nat} {x : Int32} (h : j ≠ k) : upd f k x j = f j := if_neg h
theorem lm_ux {f : Nat → Int32} {k j : Nat} {x : Int32} : upd f k x j = if j = k then x else f j := rfl
theorem lm_m1 (n : Nat) : nI (n + 1) + (-1) = nI n := by
  rw [← nI_1, Int32.add_assoc, show (1 : Int32) + (-1) = 0 from rfl, Int32.add_zero]
theorem lm_s1 (n : Nat) : nI (n + 1) - 1 = nI n := nI_pred n
theorem lm_0le {a : Nat} (h : a < 2 ^ 31) : 0 ≤ nI a := nI_pos' h
theorem lm_ne5 {a : Nat} (h : a < 2 ^ 31) : ¬ nI a = -5 := by
  intro e
  have := nI_pos (n := a) h
  rw [e] at this
  exact this (by decide)
/-- an int within 0 .. n - 1, by its two tests -/
theorem lm_rg {x : Int32} {n : Nat} (hn : n < 2 ^ 31) (h0 : ¬ x < 0) (h1 : x < nI n) : ∃ j : Nat, j < n ∧ x = nI j := by
  obtain ⟨j, hj, rfl⟩ := nI_of h0
  rw [nI_ltI hj hn] at h1
  exact ⟨j, h1, rfl⟩

/-! B: counts -/
def lm_cnt (P : Nat → Bool) : Nat → Nat
  | 0 => 0
  | n + 1 => if P n = true then lm_cnt P n + 1 else lm_cnt P n
theorem lm_ct {P : Nat → Bool} {n : Nat} (h : P n = true) : lm_cnt P (n + 1) = lm_cnt P n + 1 := if_pos h
theorem lm_cf {P : Nat → Bool} {n : Nat} (h : ¬ P n = true) : lm_cnt P (n + 1) = lm_cnt P n := if_neg h
theorem lm_cb {P : Nat → Bool} : ∀ n : Nat, lm_cnt P n ≤ n := by
  intro n
  induction n with
  | zero => exact Nat.le_refl 0
  | succ n ih =>
    by_cases h : P n = true
    · rw [lm_ct h]; omega
    · rw [lm_cf h]; omega
theorem lm_cle {P Q : Nat → Bool} : ∀ n : Nat, (∀ j, j < n → P j = true → Q j = true) → lm_cnt P n ≤ lm_cnt Q n := by
  intro n
  induction n with
  | zero => intro _; exact Nat.le_refl 0
  | succ n ih =>
    intro H
    have h1 := ih (fun j hj => H j (by omega))
    by_cases h : P n = true
    · rw [lm_ct h, lm_ct (H n (by omega) h)]; omega
    · rw [lm_cf h]
      by_cases g : Q n = true
      · rw [lm_ct g]; omega
      · rw [lm_cf g]; omega
theorem lm_ceq {P Q : Nat → Bool} (n : Nat) (H : ∀ j, j < n → (P j = true ↔ Q j = true)) : lm_cnt P n = lm_cnt Q n :=
  Nat.le_antisymm (lm_cle n fun j hj => (H j hj).mp) (lm_cle n fun j hj => (H j hj).mpr)
theorem lm_c0 {P : Nat → Bool} : ∀ n : Nat, (∀ j, j < n → ¬ P j = true) → lm_cnt P n = 0 := by
  intro n
  induction n with
  | zero => intro _; rfl
  | succ n ih =>
    intro H
    rw [lm_cf (H n (by omega))]
    exact ih (fun j hj => H j (by omega))
theorem lm_cup {P Q : Nat → Bool} {i : Nat} : ∀ n : Nat, i < n → (∀ j, j < n → j ≠ i → (P j = true ↔ Q j = true)) → ¬ P i = true → Q i = true → lm_cnt Q n = lm_cnt P n + 1 := by
  intro n
  induction n with
  | zero => intro h; omega
  | succ n ih =>
    intro hi H hp hq
    by_cases e : i = n
    · subst e
      rw [lm_ct hq, lm_cf hp, lm_ceq i (fun j hj => H j (by omega) (by omega))]
    · have h1 := ih (by omega) (fun j hj => H j (by omega)) hp hq
      have h2 := H n (by omega) (fun z => e z.symm)
      by_cases h : P n = true
      · rw [lm_ct h, lm_ct (h2.mp h)]; omega
      · rw [lm_cf h, lm_cf (fun z => h (h2.mpr z))]; omega
theorem lm_clt {P Q : Nat → Bool} {i n : Nat} (hi : i < n) (H : ∀ j, j < n → P j = true → Q j = true) (hp : ¬ P i = true) (hq : Q i = true) : lm_cnt P n < lm_cnt Q n := by
  have h1 : lm_cnt (fun j => P j || decide (j = i)) n = lm_cnt P n + 1 :=
    lm_cup n hi (fun j _ hj => by simp [hj]) hp (by simp)
  have h2 : lm_cnt (fun j => P j || decide (j = i)) n ≤ lm_cnt Q n := lm_cle n (fun j hj h => by
    have h3 : P j = true ∨ j = i := by simpa using h
    rcases h3 with h3 | h3
    · exact H j hj h3
    · rw [h3]; exact hq)
  omega
theorem lm_cle1 {P Q : Nat → Bool} {i : Nat} : ∀ n : Nat, (∀ j, j < n → j ≠ i → Q j = true → P j = true) → lm_cnt Q n ≤ lm_cnt P n + 1 := by
  intro n
  induction n with
  | zero => intro _; exact Nat.zero_le _
  | succ n ih =>
    intro H
    by_cases e : n = i
    · have h1 : lm_cnt Q n ≤ lm_cnt P n := lm_cle n (fun j hj => H j (by omega) (by omega))
      by_cases h : Q n = true
      · rw [lm_ct h]
        by_cases g : P n = true
        · rw [lm_ct g]; omega
        · rw [lm_cf g]; omega
      · rw [lm_cf h]
        by_cases g : P n = true
        · rw [lm_ct g]; omega
        · rw [lm_cf g]; omega
    · have h1 := ih (fun j hj => H j (by omega))
      have h2 := H n (by omega) e
      by_cases h : Q n = true
      · rw [lm_ct h, lm_ct (h2 h)]; omega
      · rw [lm_cf h]
        by_cases g : P n = true
        · rw [lm_ct g]; omega
        · rw [lm_cf g]; omega

/-! C: a loop that stores v j at each j with P j -/
def lm_fd (P : Nat → Bool) (v st : Nat → Int32) (i : Nat) : Nat → Int32 := fun j => if j < i ∧ P j = true then v j else st j
theorem lm_fd0 {P : Nat → Bool} {v st : Nat → Int32} : lm_fd P v st 0 = st := funext fun j => if_neg (fun h => absurd h.1 (Nat.not_lt_zero j))
theorem lm_fdi {P : Nat → Bool} {v st : Nat → Int32} {i : Nat} : lm_fd P v st i i = st i := if_neg (fun h => Nat.lt_irrefl i h.1)
theorem lm_fdt {P : Nat → Bool} {v st : Nat → Int32} {i : Nat} (h : P i = true) : upd (lm_fd P v st i) i (v i) = lm_fd P v st (i + 1) := by
  funext j
  by_cases e : j = i
  · subst e
    rw [lm_us]
    exact (if_pos ⟨Nat.lt_succ_self j, h⟩).symm
  · rw [lm_un e]
    unfold lm_fd
    by_cases g : j < i ∧ P j = true
    · rw [if_pos g, if_pos ⟨Nat.lt_succ_of_lt g.1, g.2⟩]
    · rw [if_neg g, if_neg (fun z => g ⟨by have := z.1; omega, z.2⟩)]
theorem lm_fdf {P : Nat → Bool} {v st : Nat → Int32} {i : Nat} (h : ¬ P i = true) : lm_fd P v st (i + 1) = lm_fd P v st i := by
  funext j
  unfold lm_fd
  by_cases g : j < i ∧ P j = true
  · rw [if_pos g, if_pos ⟨Nat.lt_succ_of_lt g.1, g.2⟩]
  · rw [if_neg g, if_neg (fun z => g ⟨by
      have h1 := z.1
      have h2 : j ≠ i := fun e => h (e ▸ z.2)
      omega, z.2⟩)]
end LMA
