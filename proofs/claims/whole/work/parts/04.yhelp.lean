section LMY
variable {p : Nat} {ti : Int32} {pa li qu bo pr lv bi de st ho dl en : Nat → Int32}
/-! Y: the small methods -/
theorem ly_31 {post : Int32 → Prop} {x : Int32} (h : lm_in 3 x) (f : post 1) : wpY_three post (nI p, ti, qu, bo, pr, st, de, ho, dl, en, pa, li) x := by
  unfold wpY_three
  refine br_c (fun z => absurd h (lm_ina (by decide) z)) (fun z => br_c (fun y => absurd h (lm_inb (by decide) y)) (fun _ => f))
theorem ly_30 {post : Int32 → Prop} {x : Int32} (h : ¬ lm_in 3 x) (f : post 0) : wpY_three post (nI p, ti, qu, bo, pr, st, de, ho, dl, en, pa, li) x := by
  unfold wpY_three
  refine br_c (fun _ => f) (fun z => br_c (fun _ => f) (fun y => absurd (lm_inc (by decide) z y) h))
theorem ly_c {post : Int32 → Prop} {c : Int32} (hp : p ≤ 40) (h : post (nI (lm_cnt (lm_ou st ho c) p))) : wpY_out post (nI p, ti, qu, bo, pr, st, de, ho, dl, en, pa, li) c := by
  unfold wpY_out
  dsimp only
  refine loop_0 (fun n i s => wY_out_4 post c (nI p) ti qu bo pr st de ho dl en pa li n s (nI i)) (fun i s => s = nI (lm_cnt (lm_ou st ho c) i)) p 0 rfl ?_ ?_
  · intro n s hs
    obtain rfl : s = _ := hs
    exact br_t (nI_le (Nat.le_refl p) (by omega)) h
  · intro n i s hi hs ih
    obtain rfl : s = _ := hs
    have ci : (nI i).toNatClampNeg = i := nI_clamp (by omega)
    have vi : vp_in (nI i) 40 := vp_in_nI (by omega) (by omega)
    refine br_f (nI_ge hi (by omega)) ⟨vi, ?_⟩
    rw [ci]
    refine br_c (fun h1 => ⟨vi, br_c (fun h2 => ?_) (fun h2 => ?_)⟩) (fun h1 => ?_)
    · exact nm_r (nI_1 _) (nm_r (nI_1 _) (ih _ (congrArg nI (lm_ct (lm_out.mpr ⟨h1, h2⟩)).symm)))
    · exact nm_r (nI_1 _) (ih _ (congrArg nI (lm_cf (fun z => h2 (lm_out.mp z).2)).symm))
    · exact nm_r (nI_1 _) (ih _ (congrArg nI (lm_cf (fun z => h1 (lm_out.mp z).1)).symm))
theorem ly_ri {post : Int32 → Prop} {q : Int32} {i : Nat} (hp : p ≤ 40) (hi : i < p) (f : lm_rd st qu q i = true → post 1) (g : ¬ lm_rd st qu q i = true → post 0) : wpY_isReady post (nI p, ti, qu, bo, pr, st, de, ho, dl, en, pa, li) (nI i) q := by
  have ci : (nI i).toNatClampNeg = i := nI_clamp (by omega)
  have vi : vp_in (nI i) 40 := vp_in_nI (by omega) (by omega)
  unfold wpY_isReady
  dsimp only
  refine ⟨vi, ?_⟩
  rw [ci]
  exact br_c (fun h2 => ⟨vi, br_c (fun h1 => f (lm_rdt.mpr ⟨h2, h1⟩)) (fun h1 => g (fun z => h1 (lm_rdt.mp z).2))⟩) (fun h2 => g (fun z => h2 (lm_rdt.mp z).1))
/-! Y: the order -/
theorem ly_b57 {post : Int32 → Prop} {J : Int32 → Int32 → Prop} {q x2 x3 z0 : Int32} {i : Nat} (hp : p ≤ 40) (hi : i < p) (f : lm_rd st qu q i = true → ¬ z0 = 0 → J (x3 + 1) (nI (i + 1))) (g : ¬ (lm_rd st qu q i = true ∧ ¬ z0 = 0) → J x3 (nI (i + 1))) : wY_before_57 post J q x2 x3 (nI i) z0 (nI p) ti qu bo pr st de ho dl en pa li := by
  unfold wY_before_57
  exact ly_ri hp hi (fun z => br_f lm_n1 (br_c (fun h => nm_r (nI_1 _) (g (fun k => k.2 h))) (fun h => nm_e (nm_r (nI_1 _) (f z h))))) (fun z => br_t rfl (nm_r (nI_1 _) (g (fun k => z k.1))))
theorem ly_b1 {post : Int32 → Prop} {J : Int32 → Int32 → Prop} {q x2 : Int32} {i a : Nat} {g : Nat → Nat} {m : Nat} (hp : p ≤ 40) (hi : i < p) (hb : g m < g i ∨ (g i = g m ∧ i < m)) (ha : a = lm_cnt (lm_bf (lm_rd st qu q) g (g m) m) i)
    (f : J (nI (lm_cnt (lm_bf (lm_rd st qu q) g (g m) m) (i + 1))) (nI (i + 1))) : wY_before_52 post J q x2 (nI a) (nI i) (nI p) ti qu bo pr st de ho dl en pa li := by
  unfold wY_before_52
  refine ly_b57 hp hi (fun z _ => ?_) (fun z => ?_)
  · rw [lm_ct (lm_bft.mpr ⟨z, hb⟩), ← ha] at f
    rw [nI_1]
    exact f
  · rw [lm_cf (fun k => z ⟨(lm_bft.mp k).1, lm_n1⟩), ← ha] at f
    exact f
theorem ly_b0 {post : Int32 → Prop} {J : Int32 → Int32 → Prop} {q x2 : Int32} {i a : Nat} {g : Nat → Nat} {m : Nat} (hp : p ≤ 40) (hi : i < p) (hb : ¬ (g m < g i ∨ (g i = g m ∧ i < m))) (ha : a = lm_cnt (lm_bf (lm_rd st qu q) g (g m) m) i)
    (f : J (nI (lm_cnt (lm_bf (lm_rd st qu q) g (g m) m) (i + 1))) (nI (i + 1))) : wY_before_56 post J q x2 (nI a) (nI i) (nI p) ti qu bo pr st de ho dl en pa li := by
  unfold wY_before_56
  rw [lm_cf (fun k => hb (lm_bft.mp k).2), ← ha] at f
  exact ly_b57 hp hi (fun z h => absurd rfl h) (fun _ => f)
theorem ly_before {post : Int32 → Prop} {q : Int32} {g : Nat → Nat} {m : Nat} (hp : p ≤ 40) (hm : m < p) (hpr : ∀ j, j < p → pr j = nI (g j) ∧ g j ≤ 3) (h : post (nI (lm_rk (lm_rd st qu q) g p m))) : wpY_before post (nI p, ti, qu, bo, pr, st, de, ho, dl, en, pa, li) q (nI m) := by
  unfold wpY_before
  dsimp only
  have cm : (nI m).toNatClampNeg = m := nI_clamp (by omega)
  have vm : vp_in (nI m) 40 := vp_in_nI (by omega) (by omega)
  have gm := hpr m hm
  refine loop_0 (fun n i s => wY_before_5 post q (nI m) (nI p) ti qu bo pr st de ho dl en pa li n s (nI i)) (fun i s => s = nI (lm_cnt (lm_bf (lm_rd st qu q) g (g m) m) i)) p 0 rfl ?_ ?_
  · intro n s hs
    obtain rfl : s = _ := hs
    exact br_t (nI_le (Nat.le_refl p) (by omega)) h
  · intro n i s hi hs ih
    obtain rfl : s = _ := hs
    have ci : (nI i).toNatClampNeg = i := nI_clamp (by omega)
    have vi : vp_in (nI i) 40 := vp_in_nI (by omega) (by omega)
    have gi := hpr i hi
    have F := ih _ rfl
    refine br_f (nI_ge hi (by omega)) ⟨vi, vm, ?_⟩
    rw [ci, cm, gi.1, gm.1]
    by_cases h1 : g m < g i
    · exact br_t (nI_lt h1 (by omega)) (ly_b1 hp hi (Or.inl h1) rfl F)
    · refine br_f (nI_nlt (by omega) (by omega)) ⟨vi, vm, ?_⟩
      by_cases h2 : g i = g m
      · refine br_t (congrArg nI h2) ?_
        by_cases h3 : m ≤ i
        · exact br_t (nI_le h3 (by omega)) (ly_b0 hp hi (by omega) rfl F)
        · exact br_f (nI_ge (by omega) (by omega)) (ly_b1 hp hi (Or.inr ⟨h2, by omega⟩) rfl F)
      · exact br_f (fun e => h2 ((nI_eq (by omega) (by omega)).mp e)) (ly_b0 hp hi (by omega) rfl F)
theorem ly_p12 {post : Int32 → Prop} {q x : Int32} {g : Nat → Nat} (hp : p ≤ 40) (hpr : ∀ j, j < p → pr j = nI (g j) ∧ g j ≤ 3) (H : ∀ r, lm_Sp (lm_rd st qu q) g p x r → post r) : ∃ n, wY_peek_12 post q x (nI p) ti qu bo pr st de ho dl en pa li n 0 := by
  refine loop_0 (σ := Unit) (fun n i _ => wY_peek_12 post q x (nI p) ti qu bo pr st de ho dl en pa li n (nI i)) (fun i _ => ∀ m, m < i → lm_rd st qu q m = true → ¬ nI (lm_rk (lm_rd st qu q) g p m) = x) p () (fun m hm => absurd hm (Nat.not_lt_zero m)) ?_ ?_
  · intro n s hs
    exact br_t (nI_le (Nat.le_refl p) (by omega)) (H _ (Or.inr ⟨hs, rfl⟩))
  · intro n i s hi hs ih
    refine br_f (nI_ge hi (by omega)) (ly_ri hp hi (fun z => ?_) (fun z => ?_))
    · refine br_f lm_n1 (ly_before hp hi hpr ?_)
      refine br_c (fun e => H _ (Or.inl ⟨i, hi, z, e, rfl⟩)) (fun e => nm_r (nI_1 _) (ih () (fun m hm hr => ?_)))
      by_cases e2 : m = i
      · rw [e2]; exact e
      · exact hs m (by omega) hr
    · refine br_t rfl (nm_r (nI_1 _) (ih () (fun m hm hr => ?_)))
      by_cases e2 : m = i
      · rw [e2] at hr; exact absurd hr z
      · exact hs m (by omega) hr
theorem ly_peek {post : Int32 → Prop} {q x : Int32} {g : Nat → Nat} (hp : p ≤ 40) (hq : lm_in 3 q) (hpr : ∀ j, j < p → pr j = nI (g j) ∧ g j ≤ 3) (H : ∀ r, lm_Sp (lm_rd st qu q) g p x r → post r) : wpY_peek post (nI p, ti, qu, bo, pr, st, de, ho, dl, en, pa, li) q x := by
  unfold wpY_peek
  dsimp only
  exact ly_31 hq (br_f lm_n1 (ly_p12 hp hpr H))
/-! Y: refusal, comeBack -/
theorem ly_rf3 {post : Int32 → Prop} {c x : Int32} (h : ¬ lm_in 3 c) (f : post (-2)) : wpY_refusal post (nI p, ti, qu, bo, pr, st, de, ho, dl, en, pa, li) c x := by
  unfold wpY_refusal
  dsimp only
  exact ly_30 h (br_t rfl f)
theorem ly_rf1 {post : Int32 → Prop} {c : Int32} {j : Nat} (hp : p ≤ 40) (h : lm_in 3 c) (hj : j < p) (hs : st j = 1) (hh : ho j = c) (f : post 0) : wpY_refusal post (nI p, ti, qu, bo, pr, st, de, ho, dl, en, pa, li) c (nI j) := by
  have ci : (nI j).toNatClampNeg = j := nI_clamp (by omega)
  have vi : vp_in (nI j) 40 := vp_in_nI (by omega) (by omega)
  unfold wpY_refusal wY_refusal_47 wY_refusal_48
  dsimp only
  refine ly_31 h (br_f lm_n1 (br_f (nI_pos (by omega)) (br_f (nI_ge hj (by omega)) ⟨vi, ?_⟩)))
  rw [ci]
  exact br_t hs ⟨vi, br_t hh (br_f lm_n1 f)⟩
theorem ly_rf0 {post : Int32 → Prop} {c x : Int32} (hp : p ≤ 40) (h : lm_in 3 c) (hn : ¬ lm_has p st ho c x) (f : post (-6)) : wpY_refusal post (nI p, ti, qu, bo, pr, st, de, ho, dl, en, pa, li) c x := by
  unfold wpY_refusal wY_refusal_47 wY_refusal_48
  dsimp only
  refine ly_31 h (br_f lm_n1 (br_c (fun _ => br_t rfl f) (fun z => br_c (fun _ => br_t rfl f) (fun y => ?_))))
  obtain ⟨j, hj, rfl⟩ := lm_inc hp z y
  have ci : (nI j).toNatClampNeg = j := nI_clamp (by omega)
  have vi : vp_in (nI j) 40 := vp_in_nI (by omega) (by omega)
  refine ⟨vi, ?_⟩
  rw [ci]
  exact br_c (fun h1 => ⟨vi, br_c (fun h2 => absurd ⟨j, hj, rfl, h1, h2⟩ hn) (fun _ => br_t rfl f)⟩) (fun _ => br_t rfl f)
theorem ly_b {post : SY → Prop} {i : Nat} (hp : p ≤ 40) (hi : i < p) (hq : lm_in 3 (qu i)) (h : post (nI p, ti, qu, bo, pr, upd st i (lm_cv de li qu i), de, ho, dl, en, pa, li)) : wpY_comeBack post (nI p, ti, qu, bo, pr, st, de, ho, dl, en, pa, li) (nI i) := by
  have ci : (nI i).toNatClampNeg = i := nI_clamp (by omega)
  have vi : vp_in (nI i) 40 := vp_in_nI (by omega) (by omega)
  unfold wpY_comeBack
  dsimp only
  rw [ci]
  refine ⟨vi, vi, lm_inv (by decide) hq, ?_⟩
  by_cases z : de i < li (qu i).toNatClampNeg
  · rw [lm_cvf (Int32.not_le.mpr z)] at h
    exact br_t z ⟨vi, nm_e h⟩
  · rw [lm_cvt (Int32.not_lt.mp z)] at h
    exact br_f z ⟨vi, nm_e h⟩
end LMY
