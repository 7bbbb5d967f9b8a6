/-! foundFrom -/
theorem mx_one (x : Int32) {i : Nat} (hi : i < 32) : ((x.toUInt32 >>> ((nI i).toUInt32 &&& Int32.toUInt32 31)).toInt32) &&& 1 = mt_bI (bt x i) := by
  apply b_ext
  intro j hj
  rw [b_and, b_ushr i hi, mt_b1 j hj]
  by_cases z : j = 0
  · subst z
    rw [decide_eq_true rfl, Bool.and_true, Nat.add_zero]
    cases bt x i <;> rfl
  · rw [decide_eq_false z, Bool.and_false]
    cases bt x i
    · exact (b_0 j).symm
    · show false = bt 1 j
      rw [mt_b1 j hj, decide_eq_false z]
theorem mx_27 {post : Int32 → SX → Prop} {x Z : Int32} {D C O e : Nat → Int32} {p : Nat → Bool} (h : ∀ f, f < 32 → bt x f = p f) (hp : post (nI (mt_cnt p 32)) (Z, D, C, O, e)) : ∃ n, wX_foundFrom_27 post x Z D C O e n 0 0 := by
  refine loop_0 (σ := Unit) (fun n i _ => wX_foundFrom_27 post x Z D C O e n (nI (mt_cnt p i)) (nI i)) (fun _ _ => True) 32 () trivial ?_ ?_
  · intro n s _
    exact pk_le 32 32 (fun _ => hp) (fun g => absurd g (by omega))
  · intro n i s hi _ next
    have hn := next () trivial
    have ee : nI (mt_cnt p i) + (((x.toUInt32 >>> ((nI i).toUInt32 &&& Int32.toUInt32 31)).toInt32) &&& 1) = nI (mt_cnt p (i + 1)) := by
      rw [mx_one x hi, h i hi]
      cases q : p i
      · rw [mt_cnt_f q]; exact Int32.add_zero _
      · rw [mt_cnt_t q]; exact nI_1 _
    exact pk_le 32 i (fun g => absurd g (by omega)) (fun _ => nm_r ee (nm_r (nI_1 i) hn))
theorem my_ff {post : Int32 → SY → Prop} {D C O : Nat → Int32} {N : Nat} (hT : mt_T D C O N) {M Q V A : Int32} {P0 P1 P2 : Int32} {K v a : Nat} (hK : K < 14) (hv : v < 5) (ha : a < 5) (e0 : P0 = nI K) (e1 : P1 = nI v) (e2 : P2 = nI a) (hp : ∀ M' Q' V' A', post (nI (mt_cnt (mt_R K v a D C O (-1) N) 32)) (nI N, M', Q', V', A', D, C, O)) : wY_foundFrom_23 post P2 P1 P0 (nI N) M Q V A D C O := by
  unfold wY_foundFrom_23
  have eq : P0 = mt_q K := by rw [e0]; unfold mt_q; rw [if_neg (by omega)]
  exact my_count (-1) hT (show K ≤ 14 by omega) hv ha eq e1 e2 (fun M' => hp _ _ _ _)
theorem my_foundFrom1 {post : Int32 → SY → Prop} {D C O : Nat → Int32} {N : Nat} (hT : mt_T D C O N) {M Q V A : Int32} {P0 P1 P2 : Int32} {K v a : Nat} (e0 : P0 = nI K) (e1 : P1 = nI v) (hV : mt_Va K v a P2) (hp : ∀ M' Q' V' A', post (nI (mt_cnt (mt_R K v a D C O (-1) N) 32)) (nI N, M', Q', V', A', D, C, O)) : wpY_foundFrom post (nI N, M, Q, V, A, D, C, O) P0 P1 P2 := by
  unfold wpY_foundFrom
  dsimp only
  refine my_fault (fun _ => br_f (by decide) ?_) (fun nV => absurd ⟨K, v, a, e0, e1, hV⟩ nV)
  obtain ⟨h1, h2, h3, h4⟩ := hV
  refine pk_le 4 K (fun z => my_ff hT h1 h2 h3 e0 e1 ?_ hp) (fun z => my_ff hT h1 h2 h3 e0 e1 ?_ hp) rfl e0
  · rcases h4 with g | g
    · omega
    · exact g.2.2
  · rcases h4 with g | g
    · rw [g.2]; rfl
    · omega
/-! spare -/
def mt_L (K v j : Nat) (D C O : Nat → Int32) (N m : Nat) : Bool := mt_ok K v j && (mt_F K v (mt_ad K j) D C O (-1) N && !mt_F K v (mt_ad K j) D C O (nI m) N)
def mt_W (K : Nat) (D C O : Nat → Int32) (N m c : Nat) : Bool := !mt_L K (c / 5) (c % 5) D C O N m
def mt_S (D C O : Nat → Int32) (N m K : Nat) : Bool := mt_all (mt_W K D C O N m) 25
theorem mt_all_t {p : Nat → Bool} {n : Nat} (h : mt_all p n = true) (hn : p n = true) : mt_all p (n + 1) = true := by
  show (mt_all p n && p n) = true
  rw [h, hn]; rfl
theorem mt_all_no {p : Nat → Bool} {n c : Nat} (hc : c < n) (h : p c = false) : mt_all p n = false := by
  cases q : mt_all p n
  · rfl
  · rw [(mt_all_iff p n).mp q c hc] at h
    cases h
theorem mt_all_mono {p : Nat → Bool} {c n : Nat} (hc : c ≤ n) (h : mt_all p c = false) : mt_all p n = false := by
  cases q : mt_all p n
  · rfl
  · rw [(mt_all_iff p c).mpr (fun f hf => (mt_all_iff p n).mp q f (by omega))] at h
    cases h
theorem mt_W_at (K : Nat) (D C O : Nat → Int32) (N m v j : Nat) (hj : j < 5) : mt_W K D C O N m (5 * v + j) = !mt_L K v j D C O N m := by
  unfold mt_W
  rw [(mt_c5 hj).1, (mt_c5 hj).2]
theorem mt_W_row (K : Nat) (D C O : Nat → Int32) (N m v : Nat) (h : mt_all (mt_W K D C O N m) (5 * v + mt_oth K) = true) : mt_all (mt_W K D C O N m) (5 * (v + 1)) = true := by
  unfold mt_oth at h
  by_cases z : K < 4
  · rw [if_pos z] at h
    rw [mt_all_iff] at h ⊢
    intro f hf
    rcases Nat.lt_or_ge f (5 * v + 1) with g | g
    · exact h f g
    · obtain ⟨j, hj, rfl⟩ : ∃ j, j < 5 ∧ f = 5 * v + j := ⟨f - 5 * v, by omega, by omega⟩
      have h0 := h (5 * v + 0) (by omega)
      rw [mt_W_at K D C O N m v 0 (by decide)] at h0
      rw [mt_W_at K D C O N m v j hj]
      have e : mt_L K v j D C O N m = mt_L K v 0 D C O N m := by
        unfold mt_L mt_ok mt_ad
        rw [decide_eq_true z, if_pos z, if_pos z]
        rfl
      rw [e]; exact h0
  · rw [if_neg z] at h
    exact h
theorem mx_25 {post : Int32 → SX → Prop} {J2 J16 : Int32 → Int32 → (Nat → Int32) → (Nat → Int32) → (Nat → Int32) → (Nat → Int32) → Prop} {D C O : Nat → Int32} {N : Nat} (hT : mt_T D C O N) {e : Nat → Int32} {K v m : Nat} (hK : K < 14) (hv : v < 5) (h0 : mt_S D C O N m K = false → ∀ e', post 0 (nI N, D, C, O, e')) (hI : mt_all (mt_W K D C O N m) (5 * v) = true) (hJ : mt_all (mt_W K D C O N m) (5 * (v + 1)) = true → ∀ e', J16 (nI (v + 1)) (nI N) D C O e') : ∃ n, wX_losesNothingWithout_25 post J2 J16 (nI m) (nI K) (nI (mt_oth K)) (nI v) n 0 (nI N) D C O e := by
  have ho := mt_oth_le K
  refine loop_0 (σ := Nat → Int32) (fun n i s => wX_losesNothingWithout_25 post J2 J16 (nI m) (nI K) (nI (mt_oth K)) (nI v) n (nI i) (nI N) D C O s) (fun i _ => mt_all (mt_W K D C O N m) (5 * v + i) = true) (mt_oth K) e hI ?_ ?_
  · intro n s hs
    exact pk_le (mt_oth K) (mt_oth K) (fun _ => nm_r (nI_1 v) (hJ (mt_W_row K D C O N m v hs) s)) (fun g => absurd g (by omega))
  · intro n i s hi hs next
    have eg := mt_W_at K D C O N m v i (by omega)
    have A := mt_okA (K := K) (v := v) (show i < 5 by omega)
    refine pk_le (mt_oth K) i (fun g => absurd g (by omega)) (fun _ => mx_ok hK hv (by omega) ?_)
    have hn : mt_L K v i D C O N m = false → ∀ e', wX_losesNothingWithout_25 post J2 J16 (nI m) (nI K) (nI (mt_oth K)) (nI v) n (nI (i + 1)) (nI N) D C O e' := by
      intro hl e'
      rw [hl] at eg
      exact next e' (mt_all_t hs eg)
    unfold mt_L at hn eg
    cases ok : mt_ok K v i
    · exact br_t rfl (nm_r (nI_1 i) (hn (by rw [ok]; rfl) s))
    · refine br_f (by decide) (mx_full hT (-1) (show K ≤ 14 by omega) hv A (fun f e' => ?_) (fun f e' => ?_))
      · refine mx_full hT (nI m) (show K ≤ 14 by omega) hv A (fun f2 e2 => ?_) (fun f2 e2 => ?_)
        · exact nm_r (nI_1 i) (hn (by rw [ok, f, f2]; rfl) e2)
        · refine h0 ?_ e2
          rw [ok, f, f2] at eg
          exact mt_all_no (show 5 * v + i < 25 by omega) eg
      · exact nm_r (nI_1 i) (hn (by rw [ok, f]; rfl) e')
theorem mx_16 {post : Int32 → SX → Prop} {J2 : Int32 → Int32 → (Nat → Int32) → (Nat → Int32) → (Nat → Int32) → (Nat → Int32) → Prop} {D C O : Nat → Int32} {N : Nat} (hT : mt_T D C O N) {e : Nat → Int32} {K m : Nat} (hK : K < 14) (h0 : mt_S D C O N m K = false → ∀ e', post 0 (nI N, D, C, O, e')) (hJ : mt_S D C O N m K = true → ∀ e', J2 (nI (K + 1)) (nI N) D C O e') : ∃ n, wX_losesNothingWithout_16 post J2 (nI m) (nI K) (nI (mt_oth K)) n 0 (nI N) D C O e := by
  refine loop_0 (σ := Nat → Int32) (fun n i s => wX_losesNothingWithout_16 post J2 (nI m) (nI K) (nI (mt_oth K)) n (nI i) (nI N) D C O s) (fun i _ => mt_all (mt_W K D C O N m) (5 * i) = true) 5 e rfl ?_ ?_
  · intro n s hs
    exact pk_le 5 5 (fun _ => nm_r (nI_1 K) (hJ hs s)) (fun g => absurd g (by omega))
  · intro n i s hi hs next
    exact pk_le 5 i (fun g => absurd g (by omega)) (fun _ => mx_25 hT hK hi h0 hs (fun h e' => next e' h))
theorem mx_loses {post : Int32 → SX → Prop} {D C O : Nat → Int32} {N : Nat} (hT : mt_T D C O N) {e : Nat → Int32} {m : Nat} (hp : ∀ e', post (mt_bI (mt_all (mt_S D C O N m) 14)) (nI N, D, C, O, e')) : wpX_losesNothingWithout post (nI N, D, C, O, e) (nI m) := by
  refine loop_0 (σ := Nat → Int32) (fun n i s => wX_losesNothingWithout_2 post (nI m) n (nI i) (nI N) D C O s) (fun i _ => mt_all (mt_S D C O N m) i = true) 14 e rfl ?_ ?_
  · intro n s hs
    rw [hs] at hp
    exact pk_le 14 14 (fun _ => hp s) (fun g => absurd g (by omega))
  · intro n i s hi hs next
    refine pk_le 14 i (fun g => absurd g (by omega)) (fun _ => ?_)
    have main := mx_16 (post := post) (J2 := wX_losesNothingWithout_2 post (nI m) n) (e := s) (m := m) hT hi (fun h e' => by
      have hh := hp e'
      rw [mt_all_no (show i < 14 by omega) h] at hh
      exact hh) (fun h e' => next e' (mt_all_t hs h))
    unfold wpX_choicesOfA
    refine pk_le 4 i (fun z => ?_) (fun z => ?_)
    · have e5 : mt_oth i = 5 := if_neg (by omega)
      rw [e5] at main
      exact main
    · have e5 : mt_oth i = 1 := if_pos z
      rw [e5] at main
      exact main
theorem my_65 {post : Int32 → SY → Prop} {J5 : Int32 → Int32 → Int32 → Int32 → Int32 → Int32 → Int32 → (Nat → Int32) → (Nat → Int32) → (Nat → Int32) → Prop} {Z M Q V A x1 x2 : Int32} {D C O : Nat → Int32} {c : Nat} (l : Bool) (hJ : J5 (mt_bI (!l)) (nI (c + 1)) Z M Q V A D C O) : wY_without_65 post J5 x1 x2 (nI c) (mt_bI l) Z M Q V A D C O := by
  cases l
  · exact br_t (by decide) (nm_r (nI_1 c) hJ)
  · exact br_f (by decide) (nm_r (nI_1 c) hJ)
theorem my_51 {post : Int32 → SY → Prop} {J5 : Int32 → Int32 → Int32 → Int32 → Int32 → Int32 → Int32 → (Nat → Int32) → (Nat → Int32) → (Nat → Int32) → Prop} {D C O : Nat → Int32} {N : Nat} (hT : mt_T D C O N) {M Q V A : Int32} {P0 P1 P2 x2 : Int32} {K v a c m : Nat} (hK : K < 14) (hv : v < 5) (ha : a < 5) (e0 : P0 = nI K) (e1 : P1 = nI v) (e2 : P2 = nI a) (hJ : ∀ M' Q' V' A', J5 (mt_bI (mt_F K v a D C O (nI m) N)) (nI (c + 1)) (nI N) M' Q' V' A' D C O) : wY_without_51 post J5 (nI m) x2 (nI c) P2 P1 P0 (nI N) M Q V A D C O := by
  unfold wY_without_51
  have eq : P0 = mt_q K := by rw [e0]; unfold mt_q; rw [if_neg (by omega)]
  have hl := mt_cnt_le (mt_R K v a D C O (nI m) N) 32
  refine my_count (nI m) hT (show K ≤ 14 by omega) hv ha eq e1 e2 (fun M' => pk_le 32 (mt_cnt (mt_R K v a D C O (nI m) N) 32) (fun z => ?_) (fun z => ?_))
  · have hj := hJ M' (mt_q K) (nI v) (nI a)
    have ef : mt_F K v a D C O (nI m) N = true := decide_eq_true (by omega)
    rw [ef] at hj
    exact my_65 false hj
  · have hj := hJ M' (mt_q K) (nI v) (nI a)
    have ef : mt_F K v a D C O (nI m) N = false := decide_eq_false (by omega)
    rw [ef] at hj
    exact my_65 true hj
theorem my_without {post : Int32 → SY → Prop} {D C O : Nat → Int32} {N : Nat} (hT : mt_T D C O N) {M Q V A : Int32} {K m : Nat} (hK : K < 14) (hp : ∀ M' Q' V' A', post (mt_bI (mt_S D C O N m K)) (nI N, M', Q', V', A', D, C, O)) : wpY_without post (nI N, M, Q, V, A, D, C, O) (nI m) (nI K) := by
  refine loop_0 (σ := Bool × Int32 × Int32 × Int32 × Int32) (fun n i s => wY_without_5 post (nI m) (nI K) n (mt_bI s.1) (nI i) (nI N) s.2.1 s.2.2.1 s.2.2.2.1 s.2.2.2.2 D C O) (fun i s => s.1 = mt_all (mt_W K D C O N m) i) 25 (true, M, Q, V, A) rfl ?_ ?_
  · intro n s hs
    have hh := hp s.2.1 s.2.2.1 s.2.2.2.1 s.2.2.2.2
    unfold mt_S at hh
    rw [← hs] at hh
    exact pk_le 25 25 (fun _ => ⟨by cases s.1 <;> rfl, hh⟩) (fun g => absurd g (by omega))
  · intro n i s hi hs next
    refine pk_le 25 i (fun g => absurd g (by omega)) (fun _ => ?_)
    cases b : s.1
    · rw [b] at hs
      have hh := hp s.2.1 s.2.2.1 s.2.2.2.1 s.2.2.2.2
      unfold mt_S at hh
      rw [mt_all_mono (show i ≤ 25 by omega) hs.symm] at hh
      exact br_t rfl ⟨rfl, hh⟩
    · rw [b] at hs
      have hv : i / 5 < 5 := by omega
      have hj : i % 5 < 5 := by omega
      have d1 : nI i / 5 = nI (i / 5) := pk_div (d := 5) (by omega) (by decide) (by decide)
      have d2 : nI i - nI i / 5 * 5 = nI (i % 5) := pk_rem (d := 5) (by omega) (by decide) (by decide)
      have hn : ∀ M' Q' V' A', wY_without_5 post (nI m) (nI K) n (mt_bI (!mt_L K (i / 5) (i % 5) D C O N m)) (nI (i + 1)) (nI N) M' Q' V' A' D C O := by
        intro M' Q' V' A'
        refine next (!mt_L K (i / 5) (i % 5) D C O N m, M', Q', V', A') ?_
        show (!mt_L K (i / 5) (i % 5) D C O N m) = (mt_all (mt_W K D C O N m) i && mt_W K D C O N m i)
        rw [← hs, Bool.true_and]
        rfl
      unfold mt_L at hn
      refine br_f (by decide) ⟨by decide, by decide, my_ok hT hK hv hj d1 d2 (fun M' Q' V' A' => ?_)⟩
      cases g : (mt_ok K (i / 5) (i % 5) && mt_F K (i / 5) (mt_ad K (i % 5)) D C O (-1) N)
      · rw [← Bool.and_assoc, g] at hn
        exact br_t rfl (my_65 false (hn M' Q' V' A'))
      · rw [← Bool.and_assoc, g, Bool.true_and, Bool.not_not] at hn
        refine br_f (by decide) ⟨by decide, pk_le 4 K (fun z => ⟨by decide, ?_⟩) (fun z => ?_)⟩
        · rw [show mt_ad K (i % 5) = i % 5 from if_neg (by omega)] at hn
          exact my_51 hT hK hv hj rfl d1 d2 hn
        · rw [show mt_ad K (i % 5) = 0 from if_pos z] at hn
          exact my_51 hT hK hv (by decide) rfl d1 rfl hn
def mt_spr (D C O : Nat → Int32) (N : Nat) : Nat → Int32
  | 0 => 0
  | m + 1 => if mt_all (mt_S D C O N m) 14 = true then mt_spr D C O N m ||| ((1 : Int32) <<< (nI m &&& 31)) else mt_spr D C O N m
theorem mx_spare {post : Int32 → SX → Prop} {D C O : Nat → Int32} {N : Nat} (hT : mt_T D C O N) {e : Nat → Int32} (hp : ∀ e', post (mt_spr D C O N N) (nI N, D, C, O, e')) : wpX_spare post (nI N, D, C, O, e) := by
  have hN := hT.1
  refine loop_0 (σ := Nat → Int32) (fun n i s => wX_spare_4 post n (mt_spr D C O N i) (nI i) (nI N) D C O s) (fun _ _ => True) N e trivial ?_ ?_
  · intro n s _
    exact pk_le N N (fun _ => hp s) (fun g => absurd g (by omega))
  · intro n i s hi _ next
    have hn : ∀ e', wX_spare_4 post n (if mt_all (mt_S D C O N i) 14 = true then mt_spr D C O N i ||| ((1 : Int32) <<< (nI i &&& 31)) else mt_spr D C O N i) (nI (i + 1)) (nI N) D C O e' := fun e' => next e' trivial
    refine pk_le N i (fun g => absurd g (by omega)) (fun _ => mx_loses hT (fun e' => ?_))
    cases b : mt_all (mt_S D C O N i) 14
    · rw [b, if_neg (by decide)] at hn
      exact br_t rfl (nm_r (nI_1 i) (hn e'))
    · rw [b, if_pos rfl] at hn
      exact br_f (by decide) (nm_e (nm_r (nI_1 i) (hn e')))
theorem my_17 {post : Int32 → SY → Prop} {J4 : Int32 → Int32 → Int32 → Int32 → Int32 → Int32 → Int32 → (Nat → Int32) → (Nat → Int32) → (Nat → Int32) → Prop} {D C O : Nat → Int32} {N : Nat} (hT : mt_T D C O N) {M Q V A : Int32} {x1 : Int32} {m : Nat} (hJ : ∀ M' Q' V' A', wY_spare_42 post J4 x1 (nI m) (mt_bI (mt_all (mt_S D C O N m) 14)) (nI N) M' Q' V' A' D C O) : ∃ n, wY_spare_17 post J4 x1 (nI m) n 1 0 (nI N) M Q V A D C O := by
  refine loop_0 (σ := Bool × Int32 × Int32 × Int32 × Int32) (fun n i s => wY_spare_17 post J4 x1 (nI m) n (mt_bI s.1) (nI i) (nI N) s.2.1 s.2.2.1 s.2.2.2.1 s.2.2.2.2 D C O) (fun i s => s.1 = mt_all (mt_S D C O N m) i) 14 (true, M, Q, V, A) rfl ?_ ?_
  · intro n s hs
    have hh := hJ s.2.1 s.2.2.1 s.2.2.2.1 s.2.2.2.2
    rw [← hs] at hh
    exact pk_le 14 14 (fun _ => hh) (fun g => absurd g (by omega))
  · intro n i s hi hs next
    refine pk_le 14 i (fun g => absurd g (by omega)) (fun _ => ?_)
    cases b : s.1
    · rw [b] at hs
      have hh := hJ s.2.1 s.2.2.1 s.2.2.2.1 s.2.2.2.2
      rw [mt_all_mono (show i ≤ 14 by omega) hs.symm] at hh
      exact br_t rfl hh
    · rw [b] at hs
      refine br_f (by decide) (my_without hT hi (fun M' Q' V' A' => nm_r (nI_1 i) (next (_, M', Q', V', A') ?_)))
      show mt_S D C O N m i = (mt_all (mt_S D C O N m) i && mt_S D C O N m i)
      rw [← hs, Bool.true_and]
theorem my_spare {post : Int32 → SY → Prop} {D C O : Nat → Int32} {N : Nat} (hT : mt_T D C O N) {M Q V A : Int32} (hp : ∀ M' Q' V' A', post (mt_spr D C O N N) (nI N, M', Q', V', A', D, C, O)) : wpY_spare post (nI N, M, Q, V, A, D, C, O) := by
  have hN := hT.1
  refine loop_0 (σ := Int32 × Int32 × Int32 × Int32) (fun n i s => wY_spare_4 post n (mt_spr D C O N i) (nI i) (nI N) s.1 s.2.1 s.2.2.1 s.2.2.2 D C O) (fun _ _ => True) N (M, Q, V, A) trivial ?_ ?_
  · intro n s _
    exact pk_le N N (fun _ => hp _ _ _ _) (fun g => absurd g (by omega))
  · intro n i s hi _ next
    have hn : ∀ M' Q' V' A', wY_spare_4 post n (if mt_all (mt_S D C O N i) 14 = true then mt_spr D C O N i ||| ((1 : Int32) <<< (nI i &&& 31)) else mt_spr D C O N i) (nI (i + 1)) (nI N) M' Q' V' A' D C O := fun M' Q' V' A' => next (M', Q', V', A') trivial
    refine pk_le N i (fun g => absurd g (by omega)) (fun _ => my_17 hT (fun M' Q' V' A' => ?_))
    cases b : mt_all (mt_S D C O N i) 14
    · rw [b, if_neg (by decide)] at hn
      exact br_t rfl (nm_r (nI_1 i) (hn M' Q' V' A'))
    · rw [b, if_pos rfl] at hn
      exact br_f (by decide) (nm_e (nm_r (nI_1 i) (hn M' Q' V' A')))
/-! steps -/
def mt_sum (C : Nat → Int32) : Nat → Nat
  | 0 => 0
  | m + 1 => mt_sum C m + (C m).toNatClampNeg
theorem mx_steps {post : Int32 → Prop} {D C O : Nat → Int32} {N : Nat} (hT : mt_T D C O N) {e : Nat → Int32} (hp : post (nI (mt_sum C N * 5))) : wpX_steps post (nI N, D, C, O, e) := by
  have hN := hT.1
  refine loop_0 (σ := Unit) (fun n i _ => wX_steps_4 post (nI N) D C O e n (nI (mt_sum C i)) (nI i)) (fun _ _ => True) N () trivial ?_ ?_
  · intro n s _
    refine pk_le N N (fun _ => ?_) (fun g => absurd g (by omega))
    rw [show (5 : Int32) = nI 5 from rfl, pk_mul]
    exact hp
  · intro n i s hi _ next
    have hn := next () trivial
    obtain ⟨c, hc, ec⟩ := hT.2.2.1 i
    have e1 : nI (mt_sum C i) + C (nI i).toNatClampNeg = nI (mt_sum C (i + 1)) := by
      show _ = nI (mt_sum C i + (C i).toNatClampNeg)
      rw [nI_clamp (by omega), ec, nI_clamp (by omega), nI_add]
    exact pk_le N i (fun g => absurd g (by omega)) (fun _ => ⟨vp_in_nI (by omega) (by decide), nm_r e1 (nm_r (nI_1 i) hn)⟩)
theorem my_steps {post : Int32 → Prop} {D C O : Nat → Int32} {N : Nat} (hT : mt_T D C O N) {M Q V A : Int32} (hp : post (nI (mt_sum C N * 5))) : wpY_steps post (nI N, M, Q, V, A, D, C, O) := by
  have hN := hT.1
  refine loop_0 (σ := Unit) (fun n i _ => wY_steps_4 post (nI N) M Q V A D C O n (nI (mt_sum C i * 5)) (nI i)) (fun _ _ => True) N () trivial ?_ ?_
  · intro n s _
    exact pk_le N N (fun _ => hp) (fun g => absurd g (by omega))
  · intro n i s hi _ next
    have hn := next () trivial
    obtain ⟨c, hc, ec⟩ := hT.2.2.1 i
    have e1 : nI (mt_sum C i * 5) + 5 * C (nI i).toNatClampNeg = nI (mt_sum C (i + 1) * 5) := by
      show _ = nI ((mt_sum C i + (C i).toNatClampNeg) * 5)
      rw [nI_clamp (by omega), ec, nI_clamp (by omega), show (5 : Int32) = nI 5 from rfl, pk_mul, nI_add]
      exact congrArg nI (by omega)
    exact pk_le N i (fun g => absurd g (by omega)) (fun _ => ⟨vp_in_nI (by omega) (by decide), nm_r e1 (nm_r (nI_1 i) hn)⟩)
