section LMO
/-- both hold the same; what X keeps as life and birth Y keeps as end -/
def i_Rel (k : Nat) (u : SX) (v : SY) : Prop := ∃ (p t : Nat) (pa li qu bo pr lv bi de st ho dl en : Nat → Int32), u = (nI p, nI t, pa, li, qu, bo, pr, lv, bi, de, st, ho, dl) ∧ v = (nI p, nI t, qu, bo, pr, st, de, ho, dl, en, pa, li) ∧ lm_Ok k p t qu pr lv bi en st ho
theorem lm_Rl {k p t : Nat} {pa li qu bo pr lv bi de st ho dl en : Nat → Int32} (K : lm_Ok k p t qu pr lv bi en st ho) : i_Rel k (nI p, nI t, pa, li, qu, bo, pr, lv, bi, de, st, ho, dl) (nI p, nI t, qu, bo, pr, st, de, ho, dl, en, pa, li) := ⟨p, t, pa, li, qu, bo, pr, lv, bi, de, st, ho, dl, en, rfl, rfl, K⟩
def lm_g (pr : Nat → Int32) (j : Nat) : Nat := (pr j).toNatClampNeg
theorem lm_Opr {k p t : Nat} {qu pr lv bi st ho en : Nat → Int32} (K : lm_Ok k p t qu pr lv bi en st ho) : ∀ j, j < p → pr j = nI (lm_g pr j) ∧ lm_g pr j ≤ 3 := by
  intro j hj
  obtain ⟨_, ⟨a, ha, e⟩, _⟩ := K.2.2.1 j hj
  unfold lm_g
  rw [e, nI_clamp (by omega)]
  exact ⟨rfl, by omega⟩
theorem lm_Oqu {k p t : Nat} {qu pr lv bi st ho en : Nat → Int32} (K : lm_Ok k p t qu pr lv bi en st ho) : ∀ j, j < p → lm_in 3 (qu j) := fun j hj => (K.2.2.1 j hj).1
theorem ly_peek0 {post : Int32 → Prop} {q x : Int32} {p : Nat} {ti : Int32} {pa li qu bo pr de st ho dl en : Nat → Int32} (h : ¬ lm_in 3 q) (f : post (-1)) : wpY_peek post (nI p, ti, qu, bo, pr, st, de, ho, dl, en, pa, li) q x := by
  unfold wpY_peek
  dsimp only
  exact ly_30 h (br_t rfl f)
theorem i_up {k : Nat} {u : SX} {v : SY} (h : i_Rel k u v) : i_Rel (k + 5) u v := by
  obtain ⟨p, t, pa, li, qu, bo, pr, lv, bi, de, st, ho, dl, en, rfl, rfl, K⟩ := h
  exact lm_Rl (lm_Oup K)
theorem i_vc0 : wpX_init (fun u => wpY_init (fun v => i_Rel 0 u v)) := by
  have w0 : vp_in 0 3 := vp_in_iff.mpr (by decide)
  have w1 : vp_in (0 + 1) 3 := vp_in_iff.mpr (by decide)
  have w2 : vp_in (0 + 1 + 1) 3 := vp_in_iff.mpr (by decide)
  refine ⟨4, br_f (by decide) ⟨w0, nm_e ⟨w0, nm_e (nm_e (br_f (by decide) ⟨w1, nm_e ⟨w1, nm_e (nm_e (br_f (by decide) ⟨w2, nm_e ⟨w2, nm_e (nm_e (br_t (by decide) ?_))⟩⟩))⟩⟩))⟩⟩⟩
  refine ⟨4, br_f (by decide) ⟨w0, nm_e ⟨w0, nm_e (nm_e (br_f (by decide) ⟨w1, nm_e ⟨w1, nm_e (nm_e (br_f (by decide) ⟨w2, nm_e ⟨w2, nm_e (nm_e (br_t (by decide) ?_))⟩⟩))⟩⟩))⟩⟩⟩
  exact lm_Rl (p := 0) (t := 0) (lv := fun _ => 0) (bi := fun _ => 0) ⟨by omega, by omega, fun j hj => absurd hj (Nat.not_lt_zero j), fun c => Nat.zero_le 2⟩
theorem i_vc_publish {k : Nat} {u : SX} {v : SY} (I : i_Rel k u v) (hk : k + 5 ≤ 2560) (v1 : Int32) (v2 : Int32) (v3 : Int32) (v4 : Int32) : wpX_publish (fun r u' => wpY_publish (fun r' v' => r' = r ∧ i_Rel (k + 5) u' v') v v1 v2 v3 v4) u v1 v2 v3 v4 := by
  obtain ⟨p, t, pa, li, qu, bo, pr, lv, bi, de, st, ho, dl, en, rfl, rfl, K⟩ := I
  have hp := K.1
  have R : i_Rel (k + 5) (nI p, nI t, pa, li, qu, bo, pr, lv, bi, de, st, ho, dl) (nI p, nI t, qu, bo, pr, st, de, ho, dl, en, pa, li) := lm_Rl (lm_Oup K)
  unfold wpX_publish wpY_publish wY_publish_120
  dsimp only
  by_cases h1 : lm_in 3 v1
  · refine lx_q1 h1 (br_f lm_n1 ?_)
    by_cases h2 : v3 < 0
    · exact br_t h2 (ly_31 h1 (br_f lm_n1 (br_t h2 ⟨rfl, R⟩)))
    · refine br_f h2 ?_
      by_cases h3 : 3 < v3
      · exact br_t h3 (ly_31 h1 (br_f lm_n1 (br_f h2 (br_t h3 ⟨rfl, R⟩))))
      · refine br_f h3 ?_
        by_cases h4 : v4 < 0
        · exact br_t h4 (ly_31 h1 (br_f lm_n1 (br_f h2 (br_f h3 (br_t h4 ⟨rfl, R⟩)))))
        · refine br_f h4 ?_
          by_cases h5 : v4 ≤ 50
          · refine br_t h5 ?_
            by_cases h6 : p < 40
            · have w : vp_in (nI p) 40 := vp_in_nI h6 (by omega)
              have cp : (nI p).toNatClampNeg = p := nI_clamp (by omega)
              have hne : ¬ nI p = 40 := fun e => by
                have := (nI_eq (b := 40) (by omega) (by omega)).mp e
                omega
              obtain ⟨l, hl, rfl⟩ := nI_of2 (n := 50) (by decide) h4 h5
              obtain ⟨r, hr, rfl⟩ := nI_of2 (n := 3) (M := 3) (by decide) h2 (Int32.not_lt.mp h3)
              refine br_t (nI_lt (b := 40) h6 (by decide)) ⟨w, nm_e ⟨w, nm_e ⟨w, nm_e ⟨w, nm_e ⟨w, nm_e ⟨w, nm_e ⟨w, nm_e (nm_r (nI_1 p) (ly_31 h1 (br_f lm_n1 (br_f h2 (br_f h3 (br_f h4 (br_t h5 (br_f hne ⟨w, nm_e ⟨w, nm_e ⟨w, nm_e ⟨w, nm_e ⟨w, nm_e ?_⟩⟩⟩⟩⟩))))))))⟩⟩⟩⟩⟩⟩⟩
              by_cases h7 : nI l ≤ 0
              · refine br_t h7 ⟨w, nm_e (nm_r (nI_1 p) ⟨lm_s1 p, ?_⟩)⟩
                have hl0 : l = 0 := by
                  have := (nI_leI (b := 0) (by omega) (by omega)).mp h7
                  omega
                rw [cp]
                exact lm_Rl (lm_Opub K h6 ⟨h1, ⟨r, by omega, rfl⟩, l, t, hl, Nat.le_refl t, rfl, rfl, (if_pos hl0).symm⟩)
              · refine br_f h7 ⟨w, nm_e (nm_r (nI_1 p) ⟨lm_s1 p, ?_⟩)⟩
                have hl0 : ¬ l = 0 := fun e => h7 (by rw [e]; decide)
                rw [cp, nI_add]
                exact lm_Rl (lm_Opub K h6 ⟨h1, ⟨r, by omega, rfl⟩, l, t, hl, Nat.le_refl t, rfl, rfl, (if_neg hl0).symm⟩)
            · have e : p = 40 := by omega
              exact br_f (nI_nlt (b := 40) (by omega) (by omega)) (ly_31 h1 (br_f lm_n1 (br_f h2 (br_f h3 (br_f h4 (br_t h5 (br_t (congrArg nI e) ⟨rfl, R⟩)))))))
          · exact br_f h5 (ly_31 h1 (br_f lm_n1 (br_f h2 (br_f h3 (br_f h4 (br_f h5 ⟨rfl, R⟩))))))
  · exact lx_q0 h1 (br_t rfl (ly_30 h1 (br_t rfl ⟨rfl, R⟩)))
theorem i_vc_take {k : Nat} {u : SX} {v : SY} (I : i_Rel k u v) (hk : k + 5 ≤ 2560) (v1 : Int32) (v2 : Int32) : wpX_take (fun r u' => wpY_take (fun r' v' => r' = r ∧ i_Rel (k + 5) u' v') v v1 v2) u v1 v2 := by
  obtain ⟨p, t, pa, li, qu, bo, pr, lv, bi, de, st, ho, dl, en, rfl, rfl, K⟩ := I
  have hp := K.1
  have R : i_Rel (k + 5) (nI p, nI t, pa, li, qu, bo, pr, lv, bi, de, st, ho, dl) (nI p, nI t, qu, bo, pr, st, de, ho, dl, en, pa, li) := lm_Rl (lm_Oup K)
  unfold wpX_take wpY_take
  dsimp only
  by_cases h1 : lm_in 3 v1
  · refine lx_q1 h1 (br_f lm_n1 ?_)
    by_cases h2 : lm_in 3 v2
    · refine lx_k1 h2 (br_f lm_n1 (lx_c hp ?_))
      have hc2 := K.2.2.2 v2
      by_cases hc : 2 ≤ lm_cnt (lm_ou st ho v2) p
      · have e : lm_cnt (lm_ou st ho v2) p = 2 := by omega
        exact br_f (nI_nlt (b := 2) hc (by omega)) (ly_31 h1 (br_f lm_n1 (ly_31 h2 (br_f lm_n1 (ly_c hp (br_t (congrArg nI e) ⟨rfl, R⟩))))))
      · have hn2 : ¬ nI (lm_cnt (lm_ou st ho v2) p) = 2 := fun e => by
          have := (nI_eq (b := 2) (by omega) (by omega)).mp e
          omega
        refine br_t (nI_lt (b := 2) (by omega) (by decide)) (lx_f hp (lm_Opr K) (fun r hr => ?_))
        rcases hr with ⟨m, hm, rm, em, rfl⟩ | ⟨hn, rfl⟩
        · have w : vp_in (nI m) 40 := vp_in_nI (by omega) (by omega)
          have cm : (nI m).toNatClampNeg = m := nI_clamp (by omega)
          have w3 : vp_in v1 3 := lm_inv (by decide) h1
          refine br_f (lm_ne5 (by omega)) ⟨w, nm_e ⟨w, nm_e ⟨w, w, nm_e ⟨w3, w, nm_e (ly_31 h1 (br_f lm_n1 (ly_31 h2 (br_f lm_n1 (ly_c hp (br_f hn2 (ly_peek hp h1 (lm_Opr K) (fun r' hr' => ?_))))))))⟩⟩⟩⟩
          have e := lm_Spu hp (Or.inl ⟨m, hm, rm, em, rfl⟩) hr'
          subst e
          refine br_t (nI_pos' (by omega)) ⟨w, nm_e ⟨w, w, nm_e ⟨w, nm_e ⟨w3, w, nm_e ⟨rfl, ?_⟩⟩⟩⟩⟩
          refine lm_Rl ?_
          rw [cm]
          exact lm_Otk K (lm_rdt.mp rm).2 hc
        · refine br_t rfl (ly_31 h1 (br_f lm_n1 (ly_31 h2 (br_f lm_n1 (ly_c hp (br_f hn2 (ly_peek hp h1 (lm_Opr K) (fun r' hr' => ?_))))))))
          have e := lm_Spu hp (Or.inr ⟨hn, rfl⟩) hr'
          subst e
          exact br_f (by decide) ⟨rfl, R⟩
    · exact lx_k0 h2 (br_t rfl (ly_31 h1 (br_f lm_n1 (ly_30 h2 (br_t rfl ⟨rfl, R⟩)))))
  · exact lx_q0 h1 (br_t rfl (ly_30 h1 (br_t rfl ⟨rfl, R⟩)))
theorem i_vc_acknowledge {k : Nat} {u : SX} {v : SY} (I : i_Rel k u v) (hk : k + 5 ≤ 2560) (v1 : Int32) (v2 : Int32) : wpX_acknowledge (fun r u' => wpY_acknowledge (fun r' v' => r' = r ∧ i_Rel (k + 5) u' v') v v1 v2) u v1 v2 := by
  obtain ⟨p, t, pa, li, qu, bo, pr, lv, bi, de, st, ho, dl, en, rfl, rfl, K⟩ := I
  have hp := K.1
  have R : i_Rel (k + 5) (nI p, nI t, pa, li, qu, bo, pr, lv, bi, de, st, ho, dl) (nI p, nI t, qu, bo, pr, st, de, ho, dl, en, pa, li) := lm_Rl (lm_Oup K)
  unfold wpX_acknowledge wpY_acknowledge
  dsimp only
  by_cases h1 : lm_in 3 v1
  · refine lx_k1 h1 (br_f lm_n1 ?_)
    by_cases hh : lm_has p st ho v1 v2
    · obtain ⟨j, hj, rfl, hs, hh⟩ := hh
      have w : vp_in (nI j) 40 := vp_in_nI (by omega) (by omega)
      exact lx_o1 hp hj hs hh (br_f lm_n1 ⟨w, nm_e (lx_c hp (ly_rf1 hp h1 hj hs hh (br_t (by decide) ⟨w, nm_e (ly_c hp ⟨rfl, lm_Rl (lm_Ost1 K (by decide))⟩)⟩)))⟩)
    · exact lx_o0 hp hh (br_t rfl (ly_rf0 hp h1 hh (br_f (by decide) ⟨rfl, R⟩)))
  · exact lx_k0 h1 (br_t rfl (ly_rf3 h1 (br_f (by decide) ⟨rfl, R⟩)))
theorem i_vc_refuse {k : Nat} {u : SX} {v : SY} (I : i_Rel k u v) (hk : k + 5 ≤ 2560) (v1 : Int32) (v2 : Int32) : wpX_refuse (fun r u' => wpY_refuse (fun r' v' => r' = r ∧ i_Rel (k + 5) u' v') v v1 v2) u v1 v2 := by
  obtain ⟨p, t, pa, li, qu, bo, pr, lv, bi, de, st, ho, dl, en, rfl, rfl, K⟩ := I
  have hp := K.1
  have R : i_Rel (k + 5) (nI p, nI t, pa, li, qu, bo, pr, lv, bi, de, st, ho, dl) (nI p, nI t, qu, bo, pr, st, de, ho, dl, en, pa, li) := lm_Rl (lm_Oup K)
  unfold wpX_refuse wpY_refuse
  dsimp only
  by_cases h1 : lm_in 3 v1
  · refine lx_k1 h1 (br_f lm_n1 ?_)
    by_cases hh : lm_has p st ho v1 v2
    · obtain ⟨j, hj, rfl, hs, hh⟩ := hh
      have w : vp_in (nI j) 40 := vp_in_nI (by omega) (by omega)
      exact lx_o1 hp hj hs hh (br_f lm_n1 (lx_b hp hj (lm_Oqu K j hj) (And.intro w (ly_rf1 hp h1 hj hs hh (br_t (by decide) (ly_b hp hj (lm_Oqu K j hj) (And.intro w ⟨rfl, lm_Rl (lm_Ost1 K (lm_cv1 j))⟩)))))))
    · exact lx_o0 hp hh (br_t rfl (ly_rf0 hp h1 hh (br_f (by decide) ⟨rfl, R⟩)))
  · exact lx_k0 h1 (br_t rfl (ly_rf3 h1 (br_f (by decide) ⟨rfl, R⟩)))
theorem i_vc_lose {k : Nat} {u : SX} {v : SY} (I : i_Rel k u v) (hk : k + 5 ≤ 2560) (v1 : Int32) : wpX_lose (fun r u' => wpY_lose (fun r' v' => r' = r ∧ i_Rel (k + 5) u' v') v v1) u v1 := by
  obtain ⟨p, t, pa, li, qu, bo, pr, lv, bi, de, st, ho, dl, en, rfl, rfl, K⟩ := I
  have hp := K.1
  have R : i_Rel (k + 5) (nI p, nI t, pa, li, qu, bo, pr, lv, bi, de, st, ho, dl) (nI p, nI t, qu, bo, pr, st, de, ho, dl, en, pa, li) := lm_Rl (lm_Oup K)
  unfold wpX_lose wpY_lose
  dsimp only
  by_cases h1 : lm_in 3 v1
  · exact lx_k1 h1 (br_f lm_n1 (lx_lose hp (lm_Oqu K) (ly_31 h1 (br_f lm_n1 (ly_c hp (ly_lose hp (lm_Oqu K) ⟨rfl, lm_Rl (lm_Ostf K lm_cv1)⟩))))))
  · exact lx_k0 h1 (br_t rfl (ly_30 h1 (br_t rfl ⟨rfl, R⟩)))
theorem i_vc_renew {k : Nat} {u : SX} {v : SY} (I : i_Rel k u v) (hk : k + 5 ≤ 2560) (v1 : Int32) (v2 : Int32) : wpX_renew (fun r u' => wpY_renew (fun r' v' => r' = r ∧ i_Rel (k + 5) u' v') v v1 v2) u v1 v2 := by
  obtain ⟨p, t, pa, li, qu, bo, pr, lv, bi, de, st, ho, dl, en, rfl, rfl, K⟩ := I
  have hp := K.1
  have R : i_Rel (k + 5) (nI p, nI t, pa, li, qu, bo, pr, lv, bi, de, st, ho, dl) (nI p, nI t, qu, bo, pr, st, de, ho, dl, en, pa, li) := lm_Rl (lm_Oup K)
  unfold wpX_renew wpY_renew
  dsimp only
  by_cases h1 : lm_in 3 v1
  · refine lx_k1 h1 (br_f lm_n1 ?_)
    by_cases hh : lm_has p st ho v1 v2
    · obtain ⟨j, hj, rfl, hs, hh⟩ := hh
      have w : vp_in (nI j) 40 := vp_in_nI (by omega) (by omega)
      have w3 : vp_in (qu (nI j).toNatClampNeg) 3 := by
        rw [nI_clamp (by omega)]
        exact lm_inv (by decide) (lm_Oqu K j hj)
      exact lx_o1 hp hj hs hh (br_f lm_n1 ⟨w, w3, w, nm_e ⟨w, ly_rf1 hp h1 hj hs hh (br_t (by decide) ⟨w, w3, w, nm_e ⟨w, rfl, lm_Rl (lm_Oup K)⟩⟩)⟩⟩)
    · exact lx_o0 hp hh (br_t rfl (ly_rf0 hp h1 hh (br_f (by decide) ⟨rfl, R⟩)))
  · exact lx_k0 h1 (br_t rfl (ly_rf3 h1 (br_f (by decide) ⟨rfl, R⟩)))
theorem i_vc_pass {k : Nat} {u : SX} {v : SY} (I : i_Rel k u v) (hk : k + 5 ≤ 2560) (v1 : Int32) : wpX_pass (fun r u' => wpY_pass (fun r' v' => r' = r ∧ i_Rel (k + 5) u' v') v v1) u v1 := by
  obtain ⟨p, t, pa, li, qu, bo, pr, lv, bi, de, st, ho, dl, en, rfl, rfl, K⟩ := I
  have hp := K.1
  have R : i_Rel (k + 5) (nI p, nI t, pa, li, qu, bo, pr, lv, bi, de, st, ho, dl) (nI p, nI t, qu, bo, pr, st, de, ho, dl, en, pa, li) := lm_Rl (lm_Oup K)
  unfold wpX_pass wpY_pass
  dsimp only
  by_cases h1 : v1 < 0
  · exact br_t h1 (br_t h1 ⟨rfl, R⟩)
  · by_cases h2 : v1 ≤ 100
    · obtain ⟨n, hn, rfl⟩ := nI_of2 (n := 100) (by decide) h1 h2
      have ht : t ≤ 60000 := by
        have := K.2.1
        omega
      refine br_f h1 (br_t h2 (nm_r (nI_add t n) (lx_ro hp (lm_Oqu K) (lx_er hp (br_f h1 (br_t h2 (nm_r (nI_add t n) (ly_p27 hp (lm_Oqu K) (ly_p74 hp ⟨rfl, ?_⟩)))))))))
      rw [lm_fdc (P := lm_ey en _ _) (fun j hj => (lm_exy (K.2.2.1 j hj) ht).symm)]
      exact lm_Rl (lm_Ot K hn lm_cv1 (fun _ => by decide))
    · exact br_f h1 (br_f h2 (br_f h1 (br_f h2 ⟨rfl, R⟩)))
theorem i_vc_tune {k : Nat} {u : SX} {v : SY} (I : i_Rel k u v) (hk : k + 5 ≤ 2560) (v1 : Int32) (v2 : Int32) (v3 : Int32) : wpX_tune (fun r u' => wpY_tune (fun r' v' => r' = r ∧ i_Rel (k + 5) u' v') v v1 v2 v3) u v1 v2 v3 := by
  obtain ⟨p, t, pa, li, qu, bo, pr, lv, bi, de, st, ho, dl, en, rfl, rfl, K⟩ := I
  have hp := K.1
  have R : i_Rel (k + 5) (nI p, nI t, pa, li, qu, bo, pr, lv, bi, de, st, ho, dl) (nI p, nI t, qu, bo, pr, st, de, ho, dl, en, pa, li) := lm_Rl (lm_Oup K)
  unfold wpX_tune wpY_tune
  dsimp only
  by_cases h1 : lm_in 3 v1
  · have w3 : vp_in v1 3 := lm_inv (by decide) h1
    refine lx_q1 h1 (br_f lm_n1 (br_c (fun h2 => ?_) (fun h2 => br_c (fun h3 => ?_) (fun h3 => br_c (fun h4 => ?_) (fun h4 => br_c (fun h5 => ?_) (fun h5 => ?_))))))
    · exact ly_31 h1 (br_f lm_n1 (br_t h2 ⟨rfl, R⟩))
    · exact ly_31 h1 (br_f lm_n1 (br_f h2 (br_t h3 ⟨rfl, R⟩)))
    · exact ly_31 h1 (br_f lm_n1 (br_f h2 (br_f h3 (br_t h4 ⟨rfl, R⟩))))
    · exact ⟨w3, nm_e ⟨w3, nm_e (ly_31 h1 (br_f lm_n1 (br_f h2 (br_f h3 (br_f h4 (br_t h5 ⟨w3, nm_e ⟨w3, nm_e ⟨rfl, lm_Rl (lm_Oup K)⟩⟩⟩))))))⟩⟩
    · exact ly_31 h1 (br_f lm_n1 (br_f h2 (br_f h3 (br_f h4 (br_f h5 ⟨rfl, R⟩)))))
  · exact lx_q0 h1 (br_t rfl (ly_30 h1 (br_t rfl ⟨rfl, R⟩)))
theorem i_vc_revive {k : Nat} {u : SX} {v : SY} (I : i_Rel k u v) (hk : k + 5 ≤ 2560) (v1 : Int32) : wpX_revive (fun r u' => wpY_revive (fun r' v' => r' = r ∧ i_Rel (k + 5) u' v') v v1) u v1 := by
  obtain ⟨p, t, pa, li, qu, bo, pr, lv, bi, de, st, ho, dl, en, rfl, rfl, K⟩ := I
  have hp := K.1
  have R : i_Rel (k + 5) (nI p, nI t, pa, li, qu, bo, pr, lv, bi, de, st, ho, dl) (nI p, nI t, qu, bo, pr, st, de, ho, dl, en, pa, li) := lm_Rl (lm_Oup K)
  unfold wpX_revive wpY_revive
  dsimp only
  by_cases h1 : lm_in 3 v1
  · exact lx_q1 h1 (br_f lm_n1 (lx_rv hp (ly_31 h1 (br_f lm_n1 (ly_rv hp ⟨rfl, lm_Rl (lm_Ostf K (fun _ => by decide))⟩)))))
  · exact lx_q0 h1 (br_t rfl (ly_30 h1 (br_t rfl ⟨rfl, R⟩)))
theorem i_vc_clear {k : Nat} {u : SX} {v : SY} (I : i_Rel k u v) (hk : k + 5 ≤ 2560) : wpX_clear (fun u' => wpY_clear (fun v' => i_Rel (k + 5) u' v') v) u := by
  obtain ⟨p, t, pa, li, qu, bo, pr, lv, bi, de, st, ho, dl, en, rfl, rfl, K⟩ := I
  unfold wpX_clear wpY_clear
  dsimp only
  exact lm_Rl (p := 0) (lv := lv) (bi := bi) ⟨by omega, by have := K.2.1; omega, fun j hj => absurd hj (Nat.not_lt_zero j), fun c => Nat.zero_le 2⟩
theorem i_vc_state {k : Nat} {u : SX} {v : SY} (I : i_Rel k u v) (hk : k + 5 ≤ 2560) (v1 : Int32) : wpX_state (fun r => wpY_state (fun r' => r' = r ∧ i_Rel (k + 5) u v) v v1) u v1 := by
  obtain ⟨p, t, pa, li, qu, bo, pr, lv, bi, de, st, ho, dl, en, rfl, rfl, K⟩ := I
  have hp := K.1
  have R : i_Rel (k + 5) (nI p, nI t, pa, li, qu, bo, pr, lv, bi, de, st, ho, dl) (nI p, nI t, qu, bo, pr, st, de, ho, dl, en, pa, li) := lm_Rl (lm_Oup K)
  unfold wpX_state wpY_state
  dsimp only
  by_cases h : lm_in p v1
  · obtain ⟨j, hj, rfl⟩ := h
    have w : vp_in (nI j) 40 := vp_in_nI (by omega) (by omega)
    exact lx_m1 hp ⟨j, hj, rfl⟩ (br_f lm_n1 ⟨w, br_f (nI_pos (by omega)) (br_f (nI_ge hj (by omega)) ⟨w, rfl, R⟩)⟩)
  · exact lx_m0 hp h (br_t rfl (br_c (fun _ => ⟨rfl, R⟩) (fun z => br_c (fun _ => ⟨rfl, R⟩) (fun y => absurd (lm_inc hp z y) h))))
theorem i_vc_ready {k : Nat} {u : SX} {v : SY} (I : i_Rel k u v) (hk : k + 5 ≤ 2560) (v1 : Int32) : wpX_ready (fun r => wpY_ready (fun r' => r' = r ∧ i_Rel (k + 5) u v) v v1) u v1 := by
  obtain ⟨p, t, pa, li, qu, bo, pr, lv, bi, de, st, ho, dl, en, rfl, rfl, K⟩ := I
  have hp := K.1
  have R : i_Rel (k + 5) (nI p, nI t, pa, li, qu, bo, pr, lv, bi, de, st, ho, dl) (nI p, nI t, qu, bo, pr, st, de, ho, dl, en, pa, li) := lm_Rl (lm_Oup K)
  unfold wpX_ready wpY_ready
  dsimp only
  by_cases h1 : lm_in 3 v1
  · exact lx_q1 h1 (br_f lm_n1 (lx_rd hp (ly_31 h1 (br_f lm_n1 (ly_rd hp ⟨rfl, R⟩)))))
  · exact lx_q0 h1 (br_t rfl (ly_30 h1 (br_t rfl ⟨rfl, R⟩)))
theorem i_vc_peek {k : Nat} {u : SX} {v : SY} (I : i_Rel k u v) (hk : k + 5 ≤ 2560) (v1 : Int32) (v2 : Int32) : wpX_peek (fun r => wpY_peek (fun r' => r' = r ∧ i_Rel (k + 5) u v) v v1 v2) u v1 v2 := by
  obtain ⟨p, t, pa, li, qu, bo, pr, lv, bi, de, st, ho, dl, en, rfl, rfl, K⟩ := I
  have hp := K.1
  have R : i_Rel (k + 5) (nI p, nI t, pa, li, qu, bo, pr, lv, bi, de, st, ho, dl) (nI p, nI t, qu, bo, pr, st, de, ho, dl, en, pa, li) := lm_Rl (lm_Oup K)
  unfold wpX_peek
  dsimp only
  by_cases h1 : lm_in 3 v1
  · exact lx_q1 h1 (br_f lm_n1 (lx_f hp (lm_Opr K) (fun r hr => ly_peek hp h1 (lm_Opr K) (fun r' hr' => ⟨lm_Spu hp hr hr', R⟩))))
  · exact lx_q0 h1 (br_t rfl (ly_peek0 h1 ⟨rfl, R⟩))
theorem i_vc_nextDeadline {k : Nat} {u : SX} {v : SY} (I : i_Rel k u v) (hk : k + 5 ≤ 2560) : wpX_nextDeadline (fun r => wpY_nextDeadline (fun r' => r' = r ∧ i_Rel (k + 5) u v) v) u := by
  obtain ⟨p, t, pa, li, qu, bo, pr, lv, bi, de, st, ho, dl, en, rfl, rfl, K⟩ := I
  exact lx_nd K.1 (ly_nd K.1 ⟨rfl, lm_Rl (lm_Oup K)⟩)
theorem i_vc_sum {k : Nat} {u : SX} {v : SY} (I : i_Rel k u v) (hk : k + 5 ≤ 2560) (v1 : Int32) : wpX_sum (fun r => wpY_sum (fun r' => r' = r ∧ i_Rel (k + 5) u v) v v1) u v1 := by
  obtain ⟨p, t, pa, li, qu, bo, pr, lv, bi, de, st, ho, dl, en, rfl, rfl, K⟩ := I
  exact lx_sm K.1 (ly_sm K.1 ⟨rfl, lm_Rl (lm_Oup K)⟩)
end LMO
