/-! the relation: the same test on both sides -/
def i_Rel (k : Nat) (u : SX) (v : SY) : Prop := ∃ (N : Nat) (D C O e : Nat → Int32) (M Q V A : Int32), mt_T D C O N ∧ u = (nI N, D, C, O, e) ∧ v = (nI N, M, Q, V, A, D, C, O)
theorem mv_rel {k N : Nat} {D C O e : Nat → Int32} {M Q V A : Int32} (hT : mt_T D C O N) : i_Rel k (nI N, D, C, O, e) (nI N, M, Q, V, A, D, C, O) := ⟨N, D, C, O, e, M, Q, V, A, hT, rfl, rfl⟩
theorem i_up {k : Nat} {u : SX} {v : SY} (h : i_Rel k u v) : i_Rel (k + 4) u v := h
theorem i_vc0 : wpX_init (fun u => wpY_init (fun v => i_Rel 0 u v)) := mv_rel (k := 0) (N := 0) ⟨by decide, fun _ => Or.inl rfl, fun _ => ⟨0, by decide, rfl⟩, fun _ => ⟨0, by decide, rfl⟩⟩
theorem mv_D {D : Nat → Int32} {k : Nat} {x : Int32} (h : ∀ j, D j = 0 ∨ D j = 1) (hx : x = 0 ∨ x = 1) : ∀ j, upd D k x j = 0 ∨ upd D k x j = 1 := by
  intro j
  unfold upd
  by_cases z : j = k
  · rw [if_pos z]; exact hx
  · rw [if_neg z]; exact h j
theorem mv_C {C : Nat → Int32} {k c : Nat} {b : Nat} (h : ∀ j, ∃ i, i ≤ b ∧ C j = nI i) (hc : c ≤ b) : ∀ j, ∃ i, i ≤ b ∧ upd C k (nI c) j = nI i := by
  intro j
  unfold upd
  by_cases z : j = k
  · rw [if_pos z]; exact ⟨c, hc, rfl⟩
  · rw [if_neg z]; exact h j
theorem mv_O {C : Nat → Int32} {k c : Nat} (h : ∀ j, ∃ i, i < 4 ∧ C j = nI i) (hc : c < 4) : ∀ j, ∃ i, i < 4 ∧ upd C k (nI c) j = nI i := by
  intro j
  unfold upd
  by_cases z : j = k
  · rw [if_pos z]; exact ⟨c, hc, rfl⟩
  · rw [if_neg z]; exact h j
theorem mv_march {k N : Nat} {D C O e : Nat → Int32} {M Q V A x : Int32} (hT : mt_T D C O N) (hx : x = 0 ∨ x = 1) (Y : ∀ {post : Int32 → SY → Prop}, wY_march_11 post x (nI N) M Q V A D C O → wpY_march post (nI N, M, Q, V, A, D, C, O) x) : wX_march_11 (fun r u' => wpY_march (fun r' v' => r' = r ∧ i_Rel (k + 4) u' v') (nI N, M, Q, V, A, D, C, O) x) x (nI N) D C O e := by
  have hN := hT.1
  refine pk_lt N 6 (fun z => ?_) (fun z => ?_)
  · have hin : vp_in (nI N) 6 := vp_in_nI z (by decide)
    have hT' : mt_T (upd D (nI N).toNatClampNeg x) (upd C (nI N).toNatClampNeg 0) O (N + 1) := ⟨by omega, mv_D hT.2.1 hx, mv_C (c := 0) hT.2.2.1 (by omega), hT.2.2.2⟩
    refine ⟨hin, nm_e ⟨hin, nm_e (nm_r (nI_1 N) (Y ?_))⟩⟩
    exact pk_lt N 6 (fun _ => ⟨hin, nm_e ⟨hin, nm_e (nm_r (nI_1 N) ⟨rfl, mv_rel hT'⟩)⟩⟩) (fun g => absurd g (by omega))
  · refine Y ?_
    exact pk_lt N 6 (fun g => absurd g (by omega)) (fun _ => ⟨rfl, mv_rel hT⟩)
theorem i_vc_march {k : Nat} {u : SX} {v : SY} (I : i_Rel k u v) (hk : k + 4 ≤ 2048) (v1 : Int32) : wpX_march (fun r u' => wpY_march (fun r' v' => r' = r ∧ i_Rel (k + 4) u' v') v v1) u v1 := by
  obtain ⟨N, D, C, O, e, M, Q, V, A, hT, rfl, rfl⟩ := I
  by_cases h0 : v1 = 0
  · exact br_t h0 (mv_march hT (Or.inl h0) (fun h => br_t h0 h))
  · by_cases h1 : v1 = 1
    · exact br_f h0 (br_t h1 (mv_march hT (Or.inr h1) (fun h => br_f h0 (br_t h1 h))))
    · exact br_f h0 (br_f h1 (br_f h0 (br_f h1 ⟨rfl, mv_rel hT⟩)))
theorem i_vc_op {k : Nat} {u : SX} {v : SY} (I : i_Rel k u v) (hk : k + 4 ≤ 2048) (v1 : Int32) : wpX_op (fun r u' => wpY_op (fun r' v' => r' = r ∧ i_Rel (k + 4) u' v') v v1) u v1 := by
  obtain ⟨N, D, C, O, e, M, Q, V, A, hT, rfl, rfl⟩ := I
  have hN := hT.1
  have R : i_Rel (k + 4) (nI N, D, C, O, e) (nI N, M, Q, V, A, D, C, O) := mv_rel hT
  by_cases h : v1 < 0
  · exact br_t h (br_t h ⟨rfl, R⟩)
  · obtain ⟨o, ho, rfl⟩ := nI_of h
    refine br_f h (pk_le 4 o (fun z => br_f h (pk_lt 3 o (fun _ => ⟨rfl, R⟩) (fun g => absurd g (by omega)))) (fun z => ?_))
    refine pk_eq N 0 (fun z0 => br_f h (pk_lt 3 o (fun g => absurd g (by omega)) (fun _ => pk_eq N 0 (fun _ => ⟨rfl, R⟩) (fun g => absurd z0 g)))) (fun z0 => ?_)
    obtain ⟨n, rfl⟩ : ∃ n, N = n + 1 := ⟨N - 1, by omega⟩
    obtain ⟨c, hc, ec⟩ := hT.2.2.1 n
    have e1 : C (nI n).toNatClampNeg = nI c := by rw [nI_clamp (by omega), ec]
    have hin : vp_in (nI n) 6 := vp_in_nI (by omega) (by decide)
    refine nm_r (nI_pred n) ⟨hin, pk_lt c 4 (fun q => ?_) (fun q => ?_) e1 rfl⟩
    · have ix : nI n * 4 + C (nI n).toNatClampNeg = nI (4 * n + c) := by rw [e1, mt_ix]
      have iy : 4 * nI n + C (nI n).toNatClampNeg = nI (4 * n + c) := by rw [e1, show (4 : Int32) = nI 4 from rfl, pk_mul, nI_add]
      have hix : vp_in (nI n * 4 + C (nI n).toNatClampNeg) 24 := by rw [ix]; exact vp_in_nI (by omega) (by decide)
      have hiy : vp_in (4 * nI n + C (nI n).toNatClampNeg) 24 := by rw [iy]; exact vp_in_nI (by omega) (by decide)
      have ex : upd O (nI n * 4 + C (nI n).toNatClampNeg).toNatClampNeg (nI o) = upd O (4 * n + c) (nI o) := by rw [ix, nI_clamp (by omega)]
      have ey : upd O (4 * nI n + C (nI n).toNatClampNeg).toNatClampNeg (nI o) = upd O (4 * n + c) (nI o) := by rw [iy, nI_clamp (by omega)]
      have eC : upd C (nI n).toNatClampNeg (C (nI n).toNatClampNeg + 1) = upd C n (nI (c + 1)) := by rw [e1, nI_1, nI_clamp (by omega)]
      have hT' : mt_T D (upd C n (nI (c + 1))) (upd O (4 * n + c) (nI o)) (n + 1) := ⟨hN, hT.2.1, mv_C hT.2.2.1 (by omega), mv_O hT.2.2.2 z⟩
      refine ⟨hin, hix, nm_r ex ⟨hin, hin, nm_r eC ⟨hin, ?_⟩⟩⟩
      refine br_f h (pk_lt 3 o (fun g => absurd g (by omega)) (fun _ => pk_eq (n + 1) 0 (fun g => absurd g z0) (fun _ => nm_r (nI_pred n) ⟨hin, pk_lt c 4 (fun _ => ?_) (fun g => absurd g (by omega)) e1 rfl⟩)))
      exact ⟨hin, hiy, nm_r ey ⟨hin, hin, nm_r eC ⟨hin, rfl, mv_rel hT'⟩⟩⟩
    · exact br_f h (pk_lt 3 o (fun g => absurd g (by omega)) (fun _ => pk_eq (n + 1) 0 (fun g => absurd g z0) (fun _ => nm_r (nI_pred n) ⟨hin, pk_lt c 4 (fun g => absurd g (by omega)) (fun _ => ⟨rfl, R⟩) e1 rfl⟩)))
theorem i_vc_drop {k : Nat} {u : SX} {v : SY} (I : i_Rel k u v) (hk : k + 4 ≤ 2048) : wpX_drop (fun r u' => wpY_drop (fun r' v' => r' = r ∧ i_Rel (k + 4) u' v') v) u := by
  obtain ⟨N, D, C, O, e, M, Q, V, A, hT, rfl, rfl⟩ := I
  have hN := hT.1
  refine pk_eq N 0 (fun z0 => pk_eq N 0 (fun _ => ⟨rfl, mv_rel hT⟩) (fun g => absurd z0 g)) (fun z0 => ?_)
  obtain ⟨n, rfl⟩ : ∃ n, N = n + 1 := ⟨N - 1, by omega⟩
  obtain ⟨c, hc, ec⟩ := hT.2.2.1 n
  have e1 : C (nI n).toNatClampNeg = nI c := by rw [nI_clamp (by omega), ec]
  have e2 : C (nI (n + 1) - 1).toNatClampNeg = nI c := by rw [nI_pred, e1]
  have hin : vp_in (nI n) 6 := vp_in_nI (by omega) (by decide)
  have hin2 : vp_in (nI (n + 1) - 1) 6 := by rw [nI_pred]; exact hin
  refine nm_r (nI_pred n) ⟨hin, pk_le c 0 (fun q => nm_r (nI_pred n) ?_) (fun q => ?_) e1 rfl⟩
  · have hT' : mt_T D C O n := ⟨by omega, hT.2.1, hT.2.2.1, hT.2.2.2⟩
    exact pk_eq (n + 1) 0 (fun g => absurd g z0) (fun _ => ⟨hin2, pk_le c 0 (fun _ => nm_r (nI_pred n) ⟨rfl, mv_rel hT'⟩) (fun g => absurd g (by omega)) e2 rfl⟩)
  · obtain ⟨d, rfl⟩ : ∃ d, c = d + 1 := ⟨c - 1, by omega⟩
    have eC : upd C (nI n).toNatClampNeg (C (nI n).toNatClampNeg - 1) = upd C n (nI d) := by rw [e1, nI_pred, nI_clamp (by omega)]
    have eC2 : upd C (nI (n + 1) - 1).toNatClampNeg (C (nI (n + 1) - 1).toNatClampNeg - 1) = upd C n (nI d) := by rw [e2, nI_pred, nI_pred, nI_clamp (by omega)]
    have hT' : mt_T D (upd C n (nI d)) O (n + 1) := ⟨hN, hT.2.1, mv_C hT.2.2.1 (by omega), hT.2.2.2⟩
    refine ⟨hin, hin, nm_r eC ?_⟩
    exact pk_eq (n + 1) 0 (fun g => absurd g z0) (fun _ => ⟨hin2, pk_le (d + 1) 0 (fun g => absurd g (by omega)) (fun _ => ⟨hin2, hin2, nm_r eC2 ⟨rfl, mv_rel hT'⟩⟩) e2 rfl⟩)
theorem i_vc_turn {k : Nat} {u : SX} {v : SY} (I : i_Rel k u v) (hk : k + 4 ≤ 2048) (v1 : Int32) : wpX_turn (fun r u' => wpY_turn (fun r' v' => r' = r ∧ i_Rel (k + 4) u' v') v v1) u v1 := by
  obtain ⟨N, D, C, O, e, M, Q, V, A, hT, rfl, rfl⟩ := I
  have hN := hT.1
  have R : i_Rel (k + 4) (nI N, D, C, O, e) (nI N, M, Q, V, A, D, C, O) := mv_rel hT
  by_cases h : v1 < 0
  · exact br_t h (br_t h ⟨rfl, R⟩)
  · obtain ⟨j, hj, rfl⟩ := nI_of h
    refine br_f h (pk_lt j N (fun z => ?_) (fun z => br_f h (pk_lt j N (fun g => absurd g (by omega)) (fun _ => ⟨rfl, R⟩))))
    have hin : vp_in (nI j) 6 := vp_in_nI (by omega) (by decide)
    have hx : 1 - D (nI j).toNatClampNeg = 0 ∨ 1 - D (nI j).toNatClampNeg = 1 := by
      rcases hT.2.1 (nI j).toNatClampNeg with g | g
      · rw [g]; exact Or.inr (by decide)
      · rw [g]; exact Or.inl (by decide)
    have hT' : mt_T (upd D (nI j).toNatClampNeg (1 - D (nI j).toNatClampNeg)) C O N := ⟨hN, mv_D hT.2.1 hx, hT.2.2.1, hT.2.2.2⟩
    exact ⟨hin, hin, nm_e (br_f h (pk_lt j N (fun _ => ⟨hin, hin, nm_e ⟨rfl, mv_rel hT'⟩⟩) (fun g => absurd g (by omega))))⟩
theorem i_vc_marches {k : Nat} {u : SX} {v : SY} (I : i_Rel k u v) (hk : k + 4 ≤ 2048) : wpX_marches (fun r => wpY_marches (fun r' => r' = r ∧ i_Rel (k + 4) u v) v) u := by
  obtain ⟨N, D, C, O, e, M, Q, V, A, hT, rfl, rfl⟩ := I
  exact ⟨rfl, mv_rel hT⟩
theorem i_vc_sound {k : Nat} {u : SX} {v : SY} (I : i_Rel k u v) (hk : k + 4 ≤ 2048) : wpX_sound (fun r u' => wpY_sound (fun r' v' => r' = r ∧ i_Rel (k + 4) u' v') v) u := by
  obtain ⟨N, D, C, O, e, M, Q, V, A, hT, rfl, rfl⟩ := I
  unfold wpX_sound
  dsimp only
  refine mx_alarms (K := 14) (v := 0) (a := 0) (-1) hT (by decide) (by decide) ⟨by decide, fun _ g => absurd g (by decide)⟩ (fun r e' h => ?_)
  have hl := mt_cnt_le (mt_R 14 0 0 D C O (-1) N) 32
  have key : r = 0 ↔ nI (mt_cnt (mt_R 14 0 0 D C O (-1) N) 32) = 0 := (mx_z h).trans (nI_eq (b := 0) (by omega) (by decide)).symm
  refine br_c (fun z => ?_) (fun z => ?_)
  · unfold wpY_sound
    dsimp only
    exact my_count (K := 14) (v := 0) (a := 0) (-1) hT (by decide) (by decide) (by decide) (by decide) rfl rfl (fun M' => br_t (key.mp z) ⟨rfl, mv_rel hT⟩)
  · unfold wpY_sound
    dsimp only
    exact my_count (K := 14) (v := 0) (a := 0) (-1) hT (by decide) (by decide) (by decide) (by decide) rfl rfl (fun M' => br_f (fun g => z (key.mpr g)) ⟨rfl, mv_rel hT⟩)
theorem i_vc_steps {k : Nat} {u : SX} {v : SY} (I : i_Rel k u v) (hk : k + 4 ≤ 2048) : wpX_steps (fun r => wpY_steps (fun r' => r' = r ∧ i_Rel (k + 4) u v) v) u := by
  obtain ⟨N, D, C, O, e, M, Q, V, A, hT, rfl, rfl⟩ := I
  exact mx_steps hT (my_steps hT ⟨rfl, mv_rel hT⟩)
theorem i_vc_finds {k : Nat} {u : SX} {v : SY} (I : i_Rel k u v) (hk : k + 4 ≤ 2048) (v1 : Int32) (v2 : Int32) (v3 : Int32) : wpX_finds (fun r u' => wpY_finds (fun r' v' => r' = r ∧ i_Rel (k + 4) u' v') v v1 v2 v3) u v1 v2 v3 := by
  obtain ⟨N, D, C, O, e, M, Q, V, A, hT, rfl, rfl⟩ := I
  unfold wpX_finds
  dsimp only
  by_cases hV : mt_V v1 v2 v3
  · obtain ⟨K, v, a, rfl, rfl, hVa⟩ := hV
    refine mx_isFault (fun _ => br_f (by decide) ?_) (fun n => absurd ⟨K, v, a, rfl, rfl, hVa⟩ n)
    refine mx_full hT (-1) (show K ≤ 14 by have := hVa.1; omega) hVa.2.1 (mt_VaA hVa) (fun f e' => ?_) (fun f e' => ?_)
    · refine my_finds1 hT rfl rfl hVa (fun M' Q' V' A' => ⟨?_, mv_rel hT⟩)
      rw [f]; rfl
    · refine my_finds1 hT rfl rfl hVa (fun M' Q' V' A' => ⟨?_, mv_rel hT⟩)
      rw [f]; rfl
  · exact mx_isFault (fun g => absurd g hV) (fun _ => br_t rfl (my_finds0 hV ⟨rfl, mv_rel hT⟩))
theorem i_vc_found {k : Nat} {u : SX} {v : SY} (I : i_Rel k u v) (hk : k + 4 ≤ 2048) (v1 : Int32) : wpX_found (fun r u' => wpY_found (fun r' v' => r' = r ∧ i_Rel (k + 4) u' v') v v1) u v1 := by
  obtain ⟨N, D, C, O, e, M, Q, V, A, hT, rfl, rfl⟩ := I
  by_cases h : v1 < 0
  · exact br_t h (br_t rfl (br_t h ⟨rfl, mv_rel hT⟩))
  · obtain ⟨j, hj, rfl⟩ := nI_of h
    refine br_f h (pk_le 14 j (fun z => ?_) (fun z => ?_))
    · exact br_t rfl (br_f h (pk_le j 13 (fun g => absurd g (by omega)) (fun _ => ⟨rfl, mv_rel hT⟩)))
    · exact br_f (by decide) (mx_countFound hT z (fun e' => my_found hT z (fun M' Q' V' A' => ⟨rfl, mv_rel hT⟩)))
theorem i_vc_covered {k : Nat} {u : SX} {v : SY} (I : i_Rel k u v) (hk : k + 4 ≤ 2048) : wpX_covered (fun r u' => wpY_covered (fun r' v' => r' = r ∧ i_Rel (k + 4) u' v') v) u := by
  obtain ⟨N, D, C, O, e, M, Q, V, A, hT, rfl, rfl⟩ := I
  exact mx_covered hT (fun e' => my_covered hT (fun M' Q' V' A' => ⟨rfl, mv_rel hT⟩))
theorem i_vc_foundFrom {k : Nat} {u : SX} {v : SY} (I : i_Rel k u v) (hk : k + 4 ≤ 2048) (v1 : Int32) (v2 : Int32) (v3 : Int32) : wpX_foundFrom (fun r u' => wpY_foundFrom (fun r' v' => r' = r ∧ i_Rel (k + 4) u' v') v v1 v2 v3) u v1 v2 v3 := by
  obtain ⟨N, D, C, O, e, M, Q, V, A, hT, rfl, rfl⟩ := I
  unfold wpX_foundFrom
  dsimp only
  by_cases hV : mt_V v1 v2 v3
  · obtain ⟨K, v, a, rfl, rfl, hVa⟩ := hV
    refine mx_isFault (fun _ => br_f (by decide) ?_) (fun n => absurd ⟨K, v, a, rfl, rfl, hVa⟩ n)
    refine mx_alarms (-1) hT (show K ≤ 14 by have := hVa.1; omega) hVa.2.1 (mt_VaA hVa) (fun r e' h => ?_)
    exact mx_27 h (my_foundFrom1 hT rfl rfl hVa (fun M' Q' V' A' => ⟨rfl, mv_rel hT⟩))
  · refine mx_isFault (fun g => absurd g hV) (fun _ => br_t rfl ?_)
    unfold wpY_foundFrom
    dsimp only
    exact my_fault (fun g => absurd g hV) (fun _ => br_t rfl ⟨rfl, mv_rel hT⟩)
theorem i_vc_spare {k : Nat} {u : SX} {v : SY} (I : i_Rel k u v) (hk : k + 4 ≤ 2048) : wpX_spare (fun r u' => wpY_spare (fun r' v' => r' = r ∧ i_Rel (k + 4) u' v') v) u := by
  obtain ⟨N, D, C, O, e, M, Q, V, A, hT, rfl, rfl⟩ := I
  exact mx_spare hT (fun e' => my_spare hT (fun M' Q' V' A' => ⟨rfl, mv_rel hT⟩))
