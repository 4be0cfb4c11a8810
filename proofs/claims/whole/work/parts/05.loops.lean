section LML
variable {p : Nat} {ti : Int32} {pa li qu bo pr lv bi de st ho dl en : Nat → Int32}
/-! lose -/
theorem lx_lose {post : Int32 → SX → Prop} {c : Int32} (hp : p ≤ 40) (hq : ∀ j, j < p → lm_in 3 (qu j)) (h : post (nI (lm_cnt (lm_ou st ho c) p)) (nI p, ti, pa, li, qu, bo, pr, lv, bi, de, lm_fd (lm_ou st ho c) (lm_cv de li qu) st p, ho, dl)) : ∃ n, wX_lose_15 post c n 0 0 (nI p) ti pa li qu bo pr lv bi de st ho dl := by
  refine loop_0 (σ := Int32 × (Nat → Int32)) (fun n i s => wX_lose_15 post c n s.1 (nI i) (nI p) ti pa li qu bo pr lv bi de s.2 ho dl) (fun i s => s = (nI (lm_cnt (lm_ou st ho c) i), lm_fd (lm_ou st ho c) (lm_cv de li qu) st i)) p (0, st) ?_ ?_ ?_
  · show (0, st) = (_, _)
    rw [lm_fd0]
    rfl
  · intro n s hs
    obtain rfl : s = _ := hs
    exact br_t (nI_le (Nat.le_refl p) (by omega)) h
  · intro n i s hi hs ih
    obtain rfl : s = _ := hs
    refine br_f (nI_ge hi (by omega)) (lx_oi hp hi (fun z => ?_) (fun z => ?_))
    · rw [lm_oui] at z
      refine br_f lm_n1 (lx_b hp hi (hq i hi) ?_)
      rw [lm_fdt z]
      have F := ih _ rfl
      dsimp only at F
      rw [lm_ct z] at F
      exact nm_r (nI_1 _) (nm_r (nI_1 _) F)
    · rw [lm_oui] at z
      have F := ih _ rfl
      dsimp only at F
      rw [lm_cf z, lm_fdf z] at F
      exact br_t rfl (nm_r (nI_1 _) F)
theorem ly_lose {post : Int32 → SY → Prop} {c r : Int32} (hp : p ≤ 40) (hq : ∀ j, j < p → lm_in 3 (qu j)) (h : post r (nI p, ti, qu, bo, pr, lm_fd (lm_ou st ho c) (lm_cv de li qu) st p, de, ho, dl, en, pa, li)) : ∃ n, wY_lose_19 post c r n 0 (nI p) ti qu bo pr st de ho dl en pa li := by
  refine loop_0 (σ := Nat → Int32) (fun n i s => wY_lose_19 post c r n (nI i) (nI p) ti qu bo pr s de ho dl en pa li) (fun i s => s = lm_fd (lm_ou st ho c) (lm_cv de li qu) st i) p st lm_fd0.symm ?_ ?_
  · intro n s hs
    obtain rfl : s = _ := hs
    exact br_t (nI_le (Nat.le_refl p) (by omega)) h
  · intro n i s hi hs ih
    obtain rfl : s = _ := hs
    have ci : (nI i).toNatClampNeg = i := nI_clamp (by omega)
    have vi : vp_in (nI i) 40 := vp_in_nI (by omega) (by omega)
    refine br_f (nI_ge hi (by omega)) ⟨vi, ?_⟩
    rw [ci, lm_fdi]
    refine br_c (fun h1 => ⟨vi, br_c (fun h2 => ?_) (fun h2 => ?_)⟩) (fun h1 => ?_)
    · refine ly_b hp hi (hq i hi) ?_
      rw [lm_fdt (lm_out.mpr ⟨h1, h2⟩)]
      exact nm_r (nI_1 _) (ih _ rfl)
    · exact nm_r (nI_1 _) (ih _ (lm_fdf (fun z => h2 (lm_out.mp z).2)).symm)
    · exact nm_r (nI_1 _) (ih _ (lm_fdf (fun z => h1 (lm_out.mp z).1)).symm)
/-! pass -/
theorem lx_ro {post : Int32 → SX → Prop} (hp : p ≤ 40) (hq : ∀ j, j < p → lm_in 3 (qu j)) (h : post (nI (lm_cnt (lm_ov st dl ti) p)) (nI p, ti, pa, li, qu, bo, pr, lv, bi, de, lm_fd (lm_ov st dl ti) (lm_cv de li qu) st p, ho, dl)) : wpX_returnOverdue post (nI p, ti, pa, li, qu, bo, pr, lv, bi, de, st, ho, dl) := by
  unfold wpX_returnOverdue
  dsimp only
  refine loop_0 (σ := Int32 × (Nat → Int32)) (fun n i s => wX_returnOverdue_4 post n s.1 (nI i) (nI p) ti pa li qu bo pr lv bi de s.2 ho dl) (fun i s => s = (nI (lm_cnt (lm_ov st dl ti) i), lm_fd (lm_ov st dl ti) (lm_cv de li qu) st i)) p (0, st) ?_ ?_ ?_
  · show (0, st) = (_, _)
    rw [lm_fd0]
    rfl
  · intro n s hs
    obtain rfl : s = _ := hs
    exact br_t (nI_le (Nat.le_refl p) (by omega)) h
  · intro n i s hi hs ih
    obtain rfl : s = _ := hs
    have ci : (nI i).toNatClampNeg = i := nI_clamp (by omega)
    have vi : vp_in (nI i) 40 := vp_in_nI (by omega) (by omega)
    refine br_f (nI_ge hi (by omega)) ⟨vi, ?_⟩
    dsimp only
    rw [ci, lm_fdi]
    refine br_c (fun h1 => ⟨vi, br_c (fun h2 => ?_) (fun h2 => ?_)⟩) (fun h1 => ?_)
    · have z : ¬ lm_ov st dl ti i = true := fun z => absurd h2 (Int32.not_lt.mpr (lm_ovt.mp z).2)
      have F := ih _ rfl
      dsimp only at F
      rw [lm_cf z, lm_fdf z] at F
      exact nm_r (nI_1 _) F
    · have z : lm_ov st dl ti i = true := lm_ovt.mpr ⟨h1, Int32.not_lt.mp h2⟩
      refine lx_b hp hi (hq i hi) ?_
      rw [lm_fdt z]
      have F := ih _ rfl
      dsimp only at F
      rw [lm_ct z] at F
      exact nm_r (nI_1 _) (nm_r (nI_1 _) F)
    · have z : ¬ lm_ov st dl ti i = true := fun z => h1 (lm_ovt.mp z).1
      have F := ih _ rfl
      dsimp only at F
      rw [lm_cf z, lm_fdf z] at F
      exact nm_r (nI_1 _) F
theorem lx_er {post : SX → Prop} (hp : p ≤ 40) (h : post (nI p, ti, pa, li, qu, bo, pr, lv, bi, de, lm_fd (lm_ex lv bi st ti) (fun _ => 2) st p, ho, dl)) : wpX_expireReady post (nI p, ti, pa, li, qu, bo, pr, lv, bi, de, st, ho, dl) := by
  unfold wpX_expireReady
  dsimp only
  refine loop_0 (σ := Nat → Int32) (fun n i s => wX_expireReady_2 post (nI p) ti n (nI i) pa li qu bo pr lv bi de s ho dl) (fun i s => s = lm_fd (lm_ex lv bi st ti) (fun _ => 2) st i) p st lm_fd0.symm ?_ ?_
  · intro n s hs
    obtain rfl : s = _ := hs
    exact br_t (nI_le (Nat.le_refl p) (by omega)) h
  · intro n i s hi hs ih
    obtain rfl : s = _ := hs
    have ci : (nI i).toNatClampNeg = i := nI_clamp (by omega)
    have vi : vp_in (nI i) 40 := vp_in_nI (by omega) (by omega)
    refine br_f (nI_ge hi (by omega)) ⟨vi, ?_⟩
    unfold wX_expireReady_24
    rw [ci, lm_fdi]
    refine br_c (fun h1 => br_t rfl ?_) (fun h1 => br_f lm_n1 ⟨vi, br_c (fun h2 => ⟨vi, vi, br_c (fun h3 => ?_) (fun h3 => ⟨vi, ?_⟩)⟩) (fun h2 => ?_)⟩)
    · exact nm_r (nI_1 _) (ih _ (lm_fdf (fun z => absurd h1 (Int32.not_le.mpr (lm_ext.mp z).1))).symm)
    · exact nm_r (nI_1 _) (ih _ (lm_fdf (fun z => absurd h3 (Int32.not_lt.mpr (lm_ext.mp z).2.2))).symm)
    · exact nm_r (lm_fdt (lm_ext.mpr ⟨Int32.not_le.mp h1, h2, Int32.not_lt.mp h3⟩)) (nm_r (nI_1 _) (ih _ rfl))
    · exact nm_r (nI_1 _) (ih _ (lm_fdf (fun z => h2 (lm_ext.mp z).2.1)).symm)
theorem ly_p74 {post : Int32 → SY → Prop} {r : Int32} (hp : p ≤ 40) (h : post r (nI p, ti, qu, bo, pr, lm_fd (lm_ey en st ti) (fun _ => 2) st p, de, ho, dl, en, pa, li)) : ∃ n, wY_pass_74 post r (nI p) ti n 0 qu bo pr st de ho dl en pa li := by
  refine loop_0 (σ := Nat → Int32) (fun n i s => wY_pass_74 post r (nI p) ti n (nI i) qu bo pr s de ho dl en pa li) (fun i s => s = lm_fd (lm_ey en st ti) (fun _ => 2) st i) p st lm_fd0.symm ?_ ?_
  · intro n s hs
    obtain rfl : s = _ := hs
    exact br_t (nI_le (Nat.le_refl p) (by omega)) h
  · intro n i s hi hs ih
    obtain rfl : s = _ := hs
    have ci : (nI i).toNatClampNeg = i := nI_clamp (by omega)
    have vi : vp_in (nI i) 40 := vp_in_nI (by omega) (by omega)
    refine br_f (nI_ge hi (by omega)) ⟨vi, ?_⟩
    rw [ci, lm_fdi]
    refine br_c (fun h1 => ⟨vi, br_c (fun h2 => ?_) (fun h2 => ⟨vi, br_c (fun h3 => ?_) (fun h3 => ⟨vi, ?_⟩)⟩)⟩) (fun h1 => ?_)
    · exact nm_r (nI_1 _) (ih _ (lm_fdf (fun z => absurd h2 (Int32.not_lt.mpr (lm_eyt.mp z).2.1))).symm)
    · exact nm_r (nI_1 _) (ih _ (lm_fdf (fun z => absurd h3 (Int32.not_lt.mpr (lm_eyt.mp z).2.2))).symm)
    · exact nm_r (lm_fdt (lm_eyt.mpr ⟨h1, Int32.not_lt.mp h2, Int32.not_lt.mp h3⟩)) (nm_r (nI_1 _) (ih _ rfl))
    · exact nm_r (nI_1 _) (ih _ (lm_fdf (fun z => h1 (lm_eyt.mp z).1)).symm)
theorem ly_p27 {post : Int32 → SY → Prop} (hp : p ≤ 40) (hq : ∀ j, j < p → lm_in 3 (qu j)) (h : ∃ n, wY_pass_74 post (nI (lm_cnt (lm_ov st dl ti) p)) (nI p) ti n 0 qu bo pr (lm_fd (lm_ov st dl ti) (lm_cv de li qu) st p) de ho dl en pa li) : ∃ n, wY_pass_27 post n 0 0 (nI p) ti qu bo pr st de ho dl en pa li := by
  refine loop_0 (σ := Int32 × (Nat → Int32)) (fun n i s => wY_pass_27 post n s.1 (nI i) (nI p) ti qu bo pr s.2 de ho dl en pa li) (fun i s => s = (nI (lm_cnt (lm_ov st dl ti) i), lm_fd (lm_ov st dl ti) (lm_cv de li qu) st i)) p (0, st) ?_ ?_ ?_
  · show (0, st) = (_, _)
    rw [lm_fd0]
    rfl
  · intro n s hs
    obtain rfl : s = _ := hs
    exact br_t (nI_le (Nat.le_refl p) (by omega)) h
  · intro n i s hi hs ih
    obtain rfl : s = _ := hs
    have ci : (nI i).toNatClampNeg = i := nI_clamp (by omega)
    have vi : vp_in (nI i) 40 := vp_in_nI (by omega) (by omega)
    refine br_f (nI_ge hi (by omega)) ⟨vi, ?_⟩
    dsimp only
    rw [ci, lm_fdi]
    refine br_c (fun h1 => ⟨vi, br_c (fun h2 => ?_) (fun h2 => ?_)⟩) (fun h1 => ?_)
    · have z : ¬ lm_ov st dl ti i = true := fun z => absurd h2 (Int32.not_lt.mpr (lm_ovt.mp z).2)
      have F := ih _ rfl
      dsimp only at F
      rw [lm_cf z, lm_fdf z] at F
      exact nm_r (nI_1 _) F
    · have z : lm_ov st dl ti i = true := lm_ovt.mpr ⟨h1, Int32.not_lt.mp h2⟩
      refine ly_b hp hi (hq i hi) ?_
      rw [lm_fdt z]
      have F := ih _ rfl
      dsimp only at F
      rw [lm_ct z] at F
      exact nm_r (nI_1 _) (nm_r (nI_1 _) F)
    · have z : ¬ lm_ov st dl ti i = true := fun z => h1 (lm_ovt.mp z).1
      have F := ih _ rfl
      dsimp only at F
      rw [lm_cf z, lm_fdf z] at F
      exact nm_r (nI_1 _) F
/-! revive, ready, nextDeadline, sum: X -/
theorem lx_rv {post : Int32 → SX → Prop} {q : Int32} (hp : p ≤ 40) (h : post (nI (lm_cnt (lm_dd st qu q) p)) (nI p, ti, pa, li, qu, bo, pr, lv, bi, lm_fd (lm_dd st qu q) (fun _ => 0) de p, lm_fd (lm_dd st qu q) (fun _ => 0) st p, ho, dl)) : ∃ n, wX_revive_14 post q (nI p) ti n 0 0 pa li qu bo pr lv bi de st ho dl := by
  refine loop_0 (σ := Int32 × (Nat → Int32) × (Nat → Int32)) (fun n i s => wX_revive_14 post q (nI p) ti n s.1 (nI i) pa li qu bo pr lv bi s.2.1 s.2.2 ho dl) (fun i s => s = (nI (lm_cnt (lm_dd st qu q) i), lm_fd (lm_dd st qu q) (fun _ => 0) de i, lm_fd (lm_dd st qu q) (fun _ => 0) st i)) p (0, de, st) ?_ ?_ ?_
  · show (0, de, st) = (_, _, _)
    rw [lm_fd0, lm_fd0]
    rfl
  · intro n s hs
    obtain rfl : s = _ := hs
    exact br_t (nI_le (Nat.le_refl p) (by omega)) h
  · intro n i s hi hs ih
    obtain rfl : s = _ := hs
    have ci : (nI i).toNatClampNeg = i := nI_clamp (by omega)
    have vi : vp_in (nI i) 40 := vp_in_nI (by omega) (by omega)
    refine br_f (nI_ge hi (by omega)) ⟨vi, ?_⟩
    dsimp only
    rw [ci, lm_fdi]
    refine br_c (fun h1 => ⟨vi, br_c (fun h2 => ⟨vi, ?_⟩) (fun h2 => ?_)⟩) (fun h1 => ?_)
    · have z : lm_dd st qu q i = true := lm_ddt.mpr ⟨h1, h2⟩
      have F := ih _ rfl
      dsimp only at F
      rw [lm_ct z] at F
      exact nm_r (lm_fdt z) ⟨vi, nm_r (lm_fdt z) (nm_r (nI_1 _) (nm_r (nI_1 _) F))⟩
    · have z : ¬ lm_dd st qu q i = true := fun z => h2 (lm_ddt.mp z).2
      have F := ih _ rfl
      dsimp only at F
      rw [lm_cf z, lm_fdf z, lm_fdf z] at F
      exact nm_r (nI_1 _) F
    · have z : ¬ lm_dd st qu q i = true := fun z => h1 (lm_ddt.mp z).1
      have F := ih _ rfl
      dsimp only at F
      rw [lm_cf z, lm_fdf z, lm_fdf z] at F
      exact nm_r (nI_1 _) F
theorem lx_rd {post : Int32 → Prop} {q : Int32} (hp : p ≤ 40) (h : post (nI (lm_cnt (lm_rd st qu q) p))) : ∃ n, wX_ready_14 post q (nI p) ti pa li qu bo pr lv bi de st ho dl n 0 0 := by
  refine loop_0 (fun n i s => wX_ready_14 post q (nI p) ti pa li qu bo pr lv bi de st ho dl n s (nI i)) (fun i s => s = nI (lm_cnt (lm_rd st qu q) i)) p 0 rfl ?_ ?_
  · intro n s hs
    obtain rfl : s = _ := hs
    exact br_t (nI_le (Nat.le_refl p) (by omega)) h
  · intro n i s hi hs ih
    obtain rfl : s = _ := hs
    refine br_f (nI_ge hi (by omega)) (lx_ri hp hi (fun z => ?_) (fun z => ?_))
    · exact br_f lm_n1 (nm_r (nI_1 _) (nm_r (nI_1 _) (ih _ (congrArg nI (lm_ct z).symm))))
    · exact br_t rfl (nm_r (nI_1 _) (ih _ (congrArg nI (lm_cf z).symm)))
theorem lx_nd {post : Int32 → Prop} (hp : p ≤ 40) (h : post (lm_nd st dl p)) : wpX_nextDeadline post (nI p, ti, pa, li, qu, bo, pr, lv, bi, de, st, ho, dl) := by
  unfold wpX_nextDeadline
  dsimp only
  refine loop_0 (fun n i s => wX_nextDeadline_5 post (nI p) ti pa li qu bo pr lv bi de st ho dl n s (nI i)) (fun i s => s = lm_nd st dl i) p (-5) rfl ?_ ?_
  · intro n s hs
    obtain rfl : s = _ := hs
    exact br_t (nI_le (Nat.le_refl p) (by omega)) h
  · intro n i s hi hs ih
    obtain rfl : s = _ := hs
    have ci : (nI i).toNatClampNeg = i := nI_clamp (by omega)
    have vi : vp_in (nI i) 40 := vp_in_nI (by omega) (by omega)
    refine br_f (nI_ge hi (by omega)) ⟨vi, ?_⟩
    rw [ci]
    refine br_c (fun h1 => br_c (fun h2 => ⟨vi, ?_⟩) (fun h2 => ⟨vi, br_c (fun h3 => ?_) (fun h3 => ⟨vi, ?_⟩)⟩)) (fun h1 => ?_)
    · exact nm_e (nm_r (nI_1 _) (ih _ (lm_ndt ⟨h1, Or.inl h2⟩).symm))
    · refine nm_r (nI_1 _) (ih _ (lm_ndf (fun z => ?_)).symm)
      rcases z.2 with z | z
      · exact h2 z
      · exact absurd z (Int32.not_lt.mpr h3)
    · exact nm_e (nm_r (nI_1 _) (ih _ (lm_ndt ⟨h1, Or.inr (Int32.not_le.mp h3)⟩).symm))
    · exact nm_r (nI_1 _) (ih _ (lm_ndf (fun z => h1 z.1)).symm)
theorem lx_sm {post : Int32 → Prop} {x : Int32} (hp : p ≤ 40) (h : post (lm_sum x st bo p)) : wpX_sum post (nI p, ti, pa, li, qu, bo, pr, lv, bi, de, st, ho, dl) x := by
  unfold wpX_sum
  dsimp only
  refine loop_0 (fun n i s => wX_sum_4 post x (nI p) ti pa li qu bo pr lv bi de st ho dl n s (nI i)) (fun i s => s = lm_sum x st bo i) p 0 rfl ?_ ?_
  · intro n s hs
    obtain rfl : s = _ := hs
    exact br_t (nI_le (Nat.le_refl p) (by omega)) h
  · intro n i s hi hs ih
    obtain rfl : s = _ := hs
    have ci : (nI i).toNatClampNeg = i := nI_clamp (by omega)
    have vi : vp_in (nI i) 40 := vp_in_nI (by omega) (by omega)
    refine br_f (nI_ge hi (by omega)) ⟨vi, ?_⟩
    rw [ci]
    refine br_c (fun h1 => ⟨vi, ?_⟩) (fun h1 => ?_)
    · exact nm_e (nm_r (nI_1 _) (ih _ (lm_smt h1).symm))
    · exact nm_r (nI_1 _) (ih _ (lm_smf h1).symm)
/-! revive, ready, nextDeadline, sum: Y -/
theorem ly_rv {post : Int32 → SY → Prop} {q : Int32} (hp : p ≤ 40) (h : post (nI (lm_cnt (lm_dd st qu q) p)) (nI p, ti, qu, bo, pr, lm_fd (lm_dd st qu q) (fun _ => 0) st p, lm_fd (lm_dd st qu q) (fun _ => 0) de p, ho, dl, en, pa, li)) : ∃ n, wY_revive_14 post q (nI p) ti n 0 0 qu bo pr st de ho dl en pa li := by
  refine loop_0 (σ := Int32 × (Nat → Int32) × (Nat → Int32)) (fun n i s => wY_revive_14 post q (nI p) ti n s.1 (nI i) qu bo pr s.2.2 s.2.1 ho dl en pa li) (fun i s => s = (nI (lm_cnt (lm_dd st qu q) i), lm_fd (lm_dd st qu q) (fun _ => 0) de i, lm_fd (lm_dd st qu q) (fun _ => 0) st i)) p (0, de, st) ?_ ?_ ?_
  · show (0, de, st) = (_, _, _)
    rw [lm_fd0, lm_fd0]
    rfl
  · intro n s hs
    obtain rfl : s = _ := hs
    exact br_t (nI_le (Nat.le_refl p) (by omega)) h
  · intro n i s hi hs ih
    obtain rfl : s = _ := hs
    have ci : (nI i).toNatClampNeg = i := nI_clamp (by omega)
    have vi : vp_in (nI i) 40 := vp_in_nI (by omega) (by omega)
    refine br_f (nI_ge hi (by omega)) ⟨vi, ?_⟩
    dsimp only
    rw [ci, lm_fdi]
    refine br_c (fun h1 => ⟨vi, br_c (fun h2 => ⟨vi, ?_⟩) (fun h2 => ?_)⟩) (fun h1 => ?_)
    · have z : lm_dd st qu q i = true := lm_ddt.mpr ⟨h1, h2⟩
      have F := ih _ rfl
      dsimp only at F
      rw [lm_ct z] at F
      exact nm_r (lm_fdt z) ⟨vi, nm_r (lm_fdt z) (nm_r (nI_1 _) (nm_r (nI_1 _) F))⟩
    · have z : ¬ lm_dd st qu q i = true := fun z => h2 (lm_ddt.mp z).2
      have F := ih _ rfl
      dsimp only at F
      rw [lm_cf z, lm_fdf z, lm_fdf z] at F
      exact nm_r (nI_1 _) F
    · have z : ¬ lm_dd st qu q i = true := fun z => h1 (lm_ddt.mp z).1
      have F := ih _ rfl
      dsimp only at F
      rw [lm_cf z, lm_fdf z, lm_fdf z] at F
      exact nm_r (nI_1 _) F
theorem ly_rd {post : Int32 → Prop} {q : Int32} (hp : p ≤ 40) (h : post (nI (lm_cnt (lm_rd st qu q) p))) : ∃ n, wY_ready_14 post q (nI p) ti qu bo pr st de ho dl en pa li n 0 0 := by
  refine loop_0 (fun n i s => wY_ready_14 post q (nI p) ti qu bo pr st de ho dl en pa li n s (nI i)) (fun i s => s = nI (lm_cnt (lm_rd st qu q) i)) p 0 rfl ?_ ?_
  · intro n s hs
    obtain rfl : s = _ := hs
    exact br_t (nI_le (Nat.le_refl p) (by omega)) h
  · intro n i s hi hs ih
    obtain rfl : s = _ := hs
    refine br_f (nI_ge hi (by omega)) (ly_ri hp hi (fun z => ?_) (fun z => ?_))
    · exact br_f lm_n1 (nm_r (nI_1 _) (nm_r (nI_1 _) (ih _ (congrArg nI (lm_ct z).symm))))
    · exact br_t rfl (nm_r (nI_1 _) (ih _ (congrArg nI (lm_cf z).symm)))
theorem ly_nd {post : Int32 → Prop} (hp : p ≤ 40) (h : post (lm_nd st dl p)) : wpY_nextDeadline post (nI p, ti, qu, bo, pr, st, de, ho, dl, en, pa, li) := by
  unfold wpY_nextDeadline
  dsimp only
  refine loop_0 (fun n i s => wY_nextDeadline_5 post (nI p) ti qu bo pr st de ho dl en pa li n s (nI i)) (fun i s => s = lm_nd st dl i) p (-5) rfl ?_ ?_
  · intro n s hs
    obtain rfl : s = _ := hs
    exact br_t (nI_le (Nat.le_refl p) (by omega)) h
  · intro n i s hi hs ih
    obtain rfl : s = _ := hs
    have ci : (nI i).toNatClampNeg = i := nI_clamp (by omega)
    have vi : vp_in (nI i) 40 := vp_in_nI (by omega) (by omega)
    refine br_f (nI_ge hi (by omega)) ⟨vi, ?_⟩
    rw [ci]
    refine br_c (fun h1 => br_c (fun h2 => ⟨vi, ?_⟩) (fun h2 => ⟨vi, br_c (fun h3 => ?_) (fun h3 => ⟨vi, ?_⟩)⟩)) (fun h1 => ?_)
    · exact nm_e (nm_r (nI_1 _) (ih _ (lm_ndt ⟨h1, Or.inl h2⟩).symm))
    · refine nm_r (nI_1 _) (ih _ (lm_ndf (fun z => ?_)).symm)
      rcases z.2 with z | z
      · exact h2 z
      · exact absurd z (Int32.not_lt.mpr h3)
    · exact nm_e (nm_r (nI_1 _) (ih _ (lm_ndt ⟨h1, Or.inr (Int32.not_le.mp h3)⟩).symm))
    · exact nm_r (nI_1 _) (ih _ (lm_ndf (fun z => h1 z.1)).symm)
theorem ly_sm {post : Int32 → Prop} {x : Int32} (hp : p ≤ 40) (h : post (lm_sum x st bo p)) : wpY_sum post (nI p, ti, qu, bo, pr, st, de, ho, dl, en, pa, li) x := by
  unfold wpY_sum
  dsimp only
  refine loop_0 (fun n i s => wY_sum_4 post x (nI p) ti qu bo pr st de ho dl en pa li n s (nI i)) (fun i s => s = lm_sum x st bo i) p 0 rfl ?_ ?_
  · intro n s hs
    obtain rfl : s = _ := hs
    exact br_t (nI_le (Nat.le_refl p) (by omega)) h
  · intro n i s hi hs ih
    obtain rfl : s = _ := hs
    have ci : (nI i).toNatClampNeg = i := nI_clamp (by omega)
    have vi : vp_in (nI i) 40 := vp_in_nI (by omega) (by omega)
    refine br_f (nI_ge hi (by omega)) ⟨vi, ?_⟩
    rw [ci]
    refine br_c (fun h1 => ⟨vi, ?_⟩) (fun h1 => ?_)
    · exact nm_e (nm_r (nI_1 _) (ih _ (lm_smt h1).symm))
    · exact nm_r (nI_1 _) (ih _ (lm_smf h1).symm)
end LML
