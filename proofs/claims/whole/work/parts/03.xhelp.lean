section LMX
variable {p : Nat} {ti : Int32} {pa li qu bo pr lv bi de st ho dl en : Nat → Int32}
theorem lm_n1 : ¬ (1 : Int32) = 0 := by decide
/-! X: the small methods -/
theorem lx_q1 {post : Int32 → Prop} {x : Int32} (h : lm_in 3 x) (f : post 1) : wpX_isQueue post (nI p, ti, pa, li, qu, bo, pr, lv, bi, de, st, ho, dl) x := by
  unfold wpX_isQueue
  refine br_c (fun z => absurd h (lm_ina (by decide) z)) (fun z => br_c (fun y => absurd h (lm_inb (by decide) y)) (fun _ => f))
theorem lx_q0 {post : Int32 → Prop} {x : Int32} (h : ¬ lm_in 3 x) (f : post 0) : wpX_isQueue post (nI p, ti, pa, li, qu, bo, pr, lv, bi, de, st, ho, dl) x := by
  unfold wpX_isQueue
  refine br_c (fun _ => f) (fun z => br_c (fun _ => f) (fun y => absurd (lm_inc (by decide) z y) h))
theorem lx_k1 {post : Int32 → Prop} {x : Int32} (h : lm_in 3 x) (f : post 1) : wpX_isConsumer post (nI p, ti, pa, li, qu, bo, pr, lv, bi, de, st, ho, dl) x := by
  unfold wpX_isConsumer
  refine br_c (fun z => absurd h (lm_ina (by decide) z)) (fun z => br_c (fun y => absurd h (lm_inb (by decide) y)) (fun _ => f))
theorem lx_k0 {post : Int32 → Prop} {x : Int32} (h : ¬ lm_in 3 x) (f : post 0) : wpX_isConsumer post (nI p, ti, pa, li, qu, bo, pr, lv, bi, de, st, ho, dl) x := by
  unfold wpX_isConsumer
  refine br_c (fun _ => f) (fun z => br_c (fun _ => f) (fun y => absurd (lm_inc (by decide) z y) h))
theorem lx_m1 {post : Int32 → Prop} {x : Int32} (hp : p ≤ 40) (h : lm_in p x) (f : post 1) : wpX_isMessage post (nI p, ti, pa, li, qu, bo, pr, lv, bi, de, st, ho, dl) x := by
  unfold wpX_isMessage
  refine br_c (fun z => absurd h (lm_ina hp z)) (fun z => br_c (fun y => absurd h (lm_inb hp y)) (fun _ => f))
theorem lx_m0 {post : Int32 → Prop} {x : Int32} (hp : p ≤ 40) (h : ¬ lm_in p x) (f : post 0) : wpX_isMessage post (nI p, ti, pa, li, qu, bo, pr, lv, bi, de, st, ho, dl) x := by
  unfold wpX_isMessage
  refine br_c (fun _ => f) (fun z => br_c (fun _ => f) (fun y => absurd (lm_inc hp z y) h))
theorem lx_o1 {post : Int32 → Prop} {c : Int32} {j : Nat} (hp : p ≤ 40) (hj : j < p) (hs : st j = 1) (hh : ho j = c) (f : post 1) : wpX_isOutWith post (nI p, ti, pa, li, qu, bo, pr, lv, bi, de, st, ho, dl) c (nI j) := by
  have ci : (nI j).toNatClampNeg = j := nI_clamp (by omega)
  have vi : vp_in (nI j) 40 := vp_in_nI (by omega) (by omega)
  unfold wpX_isOutWith
  dsimp only
  refine lx_m1 hp ⟨j, hj, rfl⟩ (br_f lm_n1 ⟨vi, ?_⟩)
  rw [ci]
  exact br_t hs ⟨vi, br_t hh f⟩
theorem lx_o0 {post : Int32 → Prop} {c x : Int32} (hp : p ≤ 40) (h : ¬ lm_has p st ho c x) (f : post 0) : wpX_isOutWith post (nI p, ti, pa, li, qu, bo, pr, lv, bi, de, st, ho, dl) c x := by
  unfold wpX_isOutWith
  dsimp only
  by_cases z : lm_in p x
  · obtain ⟨j, hj, rfl⟩ := z
    have ci : (nI j).toNatClampNeg = j := nI_clamp (by omega)
    have vi : vp_in (nI j) 40 := vp_in_nI (by omega) (by omega)
    refine lx_m1 hp ⟨j, hj, rfl⟩ (br_f lm_n1 ⟨vi, ?_⟩)
    rw [ci]
    exact br_c (fun h1 => ⟨vi, br_c (fun h2 => absurd ⟨j, hj, rfl, h1, h2⟩ h) (fun _ => f)⟩) (fun _ => f)
  · exact lx_m0 hp z (br_t rfl f)
theorem lx_oi {post : Int32 → Prop} {c : Int32} {i : Nat} (hp : p ≤ 40) (hi : i < p) (f : lm_ou st ho c i = true → post 1) (g : ¬ lm_ou st ho c i = true → post 0) : wpX_isOutWith post (nI p, ti, pa, li, qu, bo, pr, lv, bi, de, st, ho, dl) c (nI i) := by
  by_cases z : lm_ou st ho c i = true
  · exact lx_o1 hp hi (lm_out.mp z).1 (lm_out.mp z).2 (f z)
  · refine lx_o0 hp ?_ (g z)
    rintro ⟨j, hj, e, h1, h2⟩
    have e2 : i = j := (nI_eq (by omega) (by omega)).mp e
    subst e2
    exact z (lm_out.mpr ⟨h1, h2⟩)
theorem lx_ri {post : Int32 → Prop} {q : Int32} {i : Nat} (hp : p ≤ 40) (hi : i < p) (f : lm_rd st qu q i = true → post 1) (g : ¬ lm_rd st qu q i = true → post 0) : wpX_isReadyIn post (nI p, ti, pa, li, qu, bo, pr, lv, bi, de, st, ho, dl) q (nI i) := by
  have ci : (nI i).toNatClampNeg = i := nI_clamp (by omega)
  have vi : vp_in (nI i) 40 := vp_in_nI (by omega) (by omega)
  unfold wpX_isReadyIn
  dsimp only
  refine lx_m1 hp ⟨i, hi, rfl⟩ (br_f lm_n1 ⟨vi, ?_⟩)
  rw [ci]
  exact br_c (fun h1 => ⟨vi, br_c (fun h2 => f (lm_rdt.mpr ⟨h2, h1⟩)) (fun h2 => g (fun z => h2 (lm_rdt.mp z).1))⟩) (fun h1 => g (fun z => h1 (lm_rdt.mp z).2))
theorem lx_c {post : Int32 → Prop} {c : Int32} (hp : p ≤ 40) (h : post (nI (lm_cnt (lm_ou st ho c) p))) : wpX_countOut post (nI p, ti, pa, li, qu, bo, pr, lv, bi, de, st, ho, dl) c := by
  unfold wpX_countOut
  dsimp only
  refine loop_0 (fun n i s => wX_countOut_4 post c (nI p) ti pa li qu bo pr lv bi de st ho dl n s (nI i)) (fun i s => s = nI (lm_cnt (lm_ou st ho c) i)) p 0 rfl ?_ ?_
  · intro n s hs
    obtain rfl : s = _ := hs
    exact br_t (nI_le (Nat.le_refl p) (by omega)) h
  · intro n i s hi hs ih
    obtain rfl : s = _ := hs
    refine br_f (nI_ge hi (by omega)) (lx_oi hp hi (fun z => ?_) (fun z => ?_))
    · exact br_f lm_n1 (nm_r (nI_1 _) (nm_r (nI_1 _) (ih _ (congrArg nI (lm_ct z).symm))))
    · exact br_t rfl (nm_r (nI_1 _) (ih _ (congrArg nI (lm_cf z).symm)))
/-! X: the order -/
theorem lx_f13 {post : Int32 → Prop} {J : Int32 → Int32 → Prop} {q x : Int32} {c : Nat} {g : Nat → Nat} (hp : p ≤ 40) (hc3 : c ≤ 3) (hpr : ∀ j, j < p → pr j = nI (g j) ∧ g j ≤ 3)
    (hf : ∀ m, m < p → lm_rd st qu q m = true → nI (lm_rk (lm_rd st qu q) g p m) = x → post (nI m))
    (h0 : ∀ m, m < p → lm_rd st qu q m = true → c < g m → ¬ nI (lm_rk (lm_rd st qu q) g p m) = x)
    (hJ : (∀ m, m < p → lm_rd st qu q m = true → c ≤ g m → ¬ nI (lm_rk (lm_rd st qu q) g p m) = x) → J (nI (lm_B (lm_rd st qu q) g p c p)) (nI c + (-1))) :
    ∃ n, wX_findReady_13 post J q x (nI c) (nI p) ti pa li qu bo pr lv bi de st ho dl n (nI (lm_B (lm_rd st qu q) g p c 0)) 0 := by
  refine loop_0 (fun n i s => wX_findReady_13 post J q x (nI c) (nI p) ti pa li qu bo pr lv bi de st ho dl n s (nI i)) (fun i s => s = nI (lm_B (lm_rd st qu q) g p c i) ∧ ∀ m, m < p → lm_rd st qu q m = true → (c < g m ∨ (g m = c ∧ m < i)) → ¬ nI (lm_rk (lm_rd st qu q) g p m) = x) p _ ⟨rfl, fun m hm hr hc => h0 m hm hr (by omega)⟩ ?_ ?_
  · rintro n s ⟨rfl, H⟩
    exact br_t (nI_le (Nat.le_refl p) (by omega)) (nm_e (hJ fun m hm hr hc => H m hm hr (by omega)))
  · rintro n i s hi ⟨rfl, H⟩ ih
    have ci : (nI i).toNatClampNeg = i := nI_clamp (by omega)
    have gi := (hpr i hi).2
    refine br_f (nI_ge hi (by omega)) ⟨vp_in_nI (by omega) (by omega), ?_⟩
    rw [ci, (hpr i hi).1]
    by_cases hc : g i = c
    · refine br_t (congrArg nI hc) (lx_ri hp hi (fun z => ?_) (fun z => ?_))
      · refine br_f lm_n1 ?_
        have er : lm_rk (lm_rd st qu q) g p i = lm_B (lm_rd st qu q) g p c i := by unfold lm_rk; rw [hc]
        by_cases e : nI (lm_B (lm_rd st qu q) g p c i) = x
        · exact br_t e (hf i hi z (by rw [er]; exact e))
        · refine br_f e (nm_r (nI_1 _) (nm_r (nI_1 _) (ih _ ⟨congrArg nI (lm_Bst hi z hc).symm, fun m hm hr hm2 => ?_⟩)))
          by_cases e2 : m = i
          · rw [e2, er]; exact e
          · exact H m hm hr (by omega)
      · refine br_t rfl (nm_r (nI_1 _) (ih _ ⟨congrArg nI (lm_Bsf (fun k => z k.2)).symm, fun m hm hr hm2 => ?_⟩))
        by_cases e2 : m = i
        · rw [e2] at hr; exact absurd hr z
        · exact H m hm hr (by omega)
    · refine br_f (fun e => hc ((nI_eq (by omega) (by omega)).mp e)) (nm_r (nI_1 _) (ih _ ⟨congrArg nI (lm_Bsf (fun k => hc k.1)).symm, fun m hm hr hm2 => ?_⟩))
      by_cases e2 : m = i
      · rw [e2] at hm2
        exact H m hm hr (by rw [e2]; omega)
      · exact H m hm hr (by omega)
theorem lx_f {post : Int32 → Prop} {q x : Int32} {g : Nat → Nat} (hp : p ≤ 40) (hpr : ∀ j, j < p → pr j = nI (g j) ∧ g j ≤ 3) (H : ∀ r, lm_Sp (lm_rd st qu q) g p x r → post r) : wpX_findReady post (nI p, ti, pa, li, qu, bo, pr, lv, bi, de, st, ho, dl) q x := by
  have key : ∀ c : Nat, c ≤ 3 → (∀ m, m < p → lm_rd st qu q m = true → c < g m → ¬ nI (lm_rk (lm_rd st qu q) g p m) = x) → wX_findReady_5 post q x (nI p) ti pa li qu bo pr lv bi de st ho dl (c + 2) (nI (lm_B (lm_rd st qu q) g p c 0)) (nI c) := by
    intro c
    induction c with
    | zero =>
      intro hc h0
      refine br_f (nI_pos (by omega)) (lx_f13 hp hc hpr (fun m hm hr e => H _ (Or.inl ⟨m, hm, hr, e, rfl⟩)) h0 (fun k => ?_))
      exact br_t (by decide) (H _ (Or.inr ⟨fun m hm hr => k m hm hr (Nat.zero_le _), rfl⟩))
    | succ c ih =>
      intro hc h0
      refine br_f (nI_pos (by omega)) (lx_f13 hp hc hpr (fun m hm hr e => H _ (Or.inl ⟨m, hm, hr, e, rfl⟩)) h0 (fun k => ?_))
      rw [lm_m1, lm_Bn]
      exact ih (by omega) (fun m hm hr hg => k m hm hr hg)
  have h3 := key 3 (Nat.le_refl 3) (fun m hm hr hg => absurd hg (by have := (hpr m hm).2; omega))
  rw [lm_B0 (fun j hj => (hpr j hj).2)] at h3
  exact ⟨_, h3⟩
/-! X: a message comes back -/
theorem lx_b {post : SX → Prop} {i : Nat} (hp : p ≤ 40) (hi : i < p) (hq : lm_in 3 (qu i)) (h : post (nI p, ti, pa, li, qu, bo, pr, lv, bi, de, upd st i (lm_cv de li qu i), ho, dl)) : wpX_comeBack post (nI p, ti, pa, li, qu, bo, pr, lv, bi, de, st, ho, dl) (nI i) := by
  have ci : (nI i).toNatClampNeg = i := nI_clamp (by omega)
  have vi : vp_in (nI i) 40 := vp_in_nI (by omega) (by omega)
  unfold wpX_comeBack wX_comeBack_25
  dsimp only
  rw [ci]
  refine ⟨vi, vi, lm_inv (by decide) hq, ?_⟩
  by_cases z : de i < li (qu i).toNatClampNeg
  · rw [lm_cvf (Int32.not_le.mpr z)] at h
    exact br_t z (br_t rfl ⟨vi, nm_e h⟩)
  · rw [lm_cvt (Int32.not_lt.mp z)] at h
    exact br_f z (br_f lm_n1 ⟨vi, nm_e h⟩)
end LMX
