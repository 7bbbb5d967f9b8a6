/-! faults, and the questions over them -/
theorem mt_r1 {A B : Prop} {P E : Int32} (L : Nat) (hL : L < 100) (hE : E = nI L) (hA : (∀ j, j < L → P ≠ nI j) → A) (hB : ∀ j, j < L → P = nI j → B) : (P < 0 → A) ∧ (¬ P < 0 → ((E ≤ P → A) ∧ (¬ E ≤ P → B))) := by
  by_cases h : P < 0
  · refine br_t h (hA (fun j hj e => ?_))
    rw [e] at h
    exact absurd h (nI_pos (by omega))
  · obtain ⟨j, hj, rfl⟩ := nI_of h
    refine br_f h (pk_le L j (fun z => hA (fun i hi e => ?_)) (fun z => hB j z rfl) hE rfl)
    rw [nI_eq (by omega) (by omega)] at e
    omega
theorem mt_r2 {A B : Prop} {P E : Int32} (L : Nat) (hL : L < 100) (hE : E = nI L) (hA : (∀ j, j < L + 1 → P ≠ nI j) → A) (hB : ∀ j, j < L + 1 → P = nI j → B) : (P < 0 → A) ∧ (¬ P < 0 → ((E < P → A) ∧ (¬ E < P → B))) := by
  by_cases h : P < 0
  · refine br_t h (hA (fun j hj e => ?_))
    rw [e] at h
    exact absurd h (nI_pos (by omega))
  · obtain ⟨j, hj, rfl⟩ := nI_of h
    refine br_f h (pk_lt L j (fun z => hA (fun i hi e => ?_)) (fun z => hB j (by omega) rfl) hE rfl)
    rw [nI_eq (by omega) (by omega)] at e
    omega
/-- a fault: K, v, and a (0 where the kind has none) -/
def mt_Va (K v a : Nat) (P : Int32) : Prop := K < 14 ∧ v < 5 ∧ a < 5 ∧ ((K < 4 ∧ a = 0) ∨ (4 ≤ K ∧ a ≠ v ∧ P = nI a))
def mt_V (P0 P1 P2 : Int32) : Prop := ∃ K v a, P0 = nI K ∧ P1 = nI v ∧ mt_Va K v a P2
theorem mt_VK {P0 P1 P2 : Int32} {K : Nat} (hK : K < 14) (e : P0 = nI K) (h : mt_V P0 P1 P2) : ∃ v, v < 5 ∧ P1 = nI v ∧ (K < 4 ∨ ∃ a, a < 5 ∧ a ≠ v ∧ P2 = nI a) := by
  obtain ⟨K', v, a, e0, e1, h1, h2, h3, h4⟩ := h
  have ek : K' = K := by
    rw [e, nI_eq (by omega) (by omega)] at e0
    exact e0.symm
  subst ek
  refine ⟨v, h2, e1, ?_⟩
  rcases h4 with g | g
  · exact Or.inl g.1
  · exact Or.inr ⟨a, h3, g.2.1, g.2.2⟩
theorem mx_isFault {post : Int32 → Prop} {P0 P1 P2 : Int32} (h1 : mt_V P0 P1 P2 → post 1) (h0 : ¬ mt_V P0 P1 P2 → post 0) : wpX_isFault post P0 P1 P2 := by
  unfold wpX_isFault
  refine mt_r1 14 (by decide) rfl (fun no => br_t rfl (h0 (fun V => ?_))) (fun K hK eK => br_f (by decide) ?_)
  · obtain ⟨K, v, a, e0, _, g, _⟩ := V
    exact no K g e0
  · refine mt_r1 5 (by decide) rfl (fun no => br_t rfl (h0 (fun V => ?_))) (fun v hv ev => br_f (by decide) ?_)
    · obtain ⟨v, hv, e, _⟩ := mt_VK hK eK V
      exact no v hv e
    · refine pk_lt K 4 (fun z => h1 ⟨K, v, 0, eK, ev, hK, hv, by decide, Or.inl ⟨z, rfl⟩⟩) (fun z => ?_) eK rfl
      refine mt_r1 5 (by decide) rfl (fun no => br_t rfl (h0 (fun V => ?_))) (fun a ha ea => br_f (by decide) ?_)
      · obtain ⟨v', hv', e, g⟩ := mt_VK hK eK V
        rcases g with g | ⟨a, ha, _, e2⟩
        · omega
        · exact no a ha e2
      · refine pk_eq a v (fun q => h0 (fun V => ?_)) (fun q => h1 ⟨K, v, a, eK, ev, hK, hv, ha, Or.inr ⟨z, q, ea⟩⟩) ea ev
        obtain ⟨v', hv', e, g⟩ := mt_VK hK eK V
        rcases g with g | ⟨a', ha', ne, e2⟩
        · omega
        · rw [ea, nI_eq (by omega) (by omega)] at e2
          rw [ev, nI_eq (by omega) (by omega)] at e
          omega
theorem my_19 {post : Int32 → Prop} {P0 P1 P2 z0 : Int32} {Z M Q V A : Int32} {D C O : Nat → Int32} {pr : Bool} (hz : z0 = mt_bI pr) (hp1 : pr = true → ∃ a, a < 5 ∧ P2 = nI a ∧ P2 ≠ P1) (hp0 : pr = false → ¬ ∃ a, a < 5 ∧ P2 = nI a ∧ P2 ≠ P1) (h1 : mt_V P0 P1 P2 → post 1) (h0 : ¬ mt_V P0 P1 P2 → post 0) : wY_fault_19 post P0 P1 z0 Z M Q V A D C O := by
  subst hz
  refine mt_r2 13 (by decide) rfl (fun no => h0 (fun V => ?_)) (fun K hK eK => ?_)
  · obtain ⟨K, v, a, e0, _, g, _⟩ := V
    exact no K g e0
  · refine mt_r2 4 (by decide) rfl (fun no => h0 (fun V => ?_)) (fun v hv ev => ?_)
    · obtain ⟨v, hv, e, _⟩ := mt_VK hK eK V
      exact no v hv e
    · refine pk_lt K 4 (fun z => h1 ⟨K, v, 0, eK, ev, hK, hv, by decide, Or.inl ⟨z, rfl⟩⟩) (fun z => ?_) eK rfl
      cases pr
      · refine br_t rfl (h0 (fun V => hp0 rfl ?_))
        obtain ⟨v', hv', e, g⟩ := mt_VK hK eK V
        rcases g with g | ⟨a', ha', ne, e2⟩
        · omega
        · refine ⟨a', ha', e2, fun e3 => ne ?_⟩
          rw [e2, e, nI_eq (by omega) (by omega)] at e3
          exact e3
      · refine br_f (by decide) (h1 ?_)
        obtain ⟨a, ha, ea, ne⟩ := hp1 rfl
        refine ⟨K, v, a, eK, ev, hK, hv, ha, Or.inr ⟨z, fun e3 => ne ?_, ea⟩⟩
        rw [ea, ev, e3]
theorem my_fault {post : Int32 → Prop} {P0 P1 P2 : Int32} {Z M Q V A : Int32} {D C O : Nat → Int32} (h1 : mt_V P0 P1 P2 → post 1) (h0 : ¬ mt_V P0 P1 P2 → post 0) : wpY_fault post (Z, M, Q, V, A, D, C, O) P0 P1 P2 := by
  refine mt_r2 4 (by decide) rfl (fun no => ?_) (fun a ha ea => br_c (fun z => ?_) (fun z => ?_))
  · exact my_19 (pr := false) (P2 := P2) rfl (fun h => absurd h (by decide)) (fun _ ⟨a, ha, e, _⟩ => no a ha e) h1 h0
  · exact my_19 (pr := false) (P2 := P2) rfl (fun h => absurd h (by decide)) (fun _ ⟨a, ha, e, ne⟩ => ne z) h1 h0
  · exact my_19 (pr := true) (P2 := P2) rfl (fun _ => ⟨a, ha, ea, z⟩) (fun h => absurd h (by decide)) h1 h0
def mt_F (K v a : Nat) (D C O : Nat → Int32) (sk : Int32) (N : Nat) : Bool := decide (mt_cnt (mt_R K v a D C O sk N) 32 = 32)
theorem mx_m1 {A : Int32} {p : Nat → Bool} (h : ∀ f, f < 32 → bt A f = p f) : A = -1 ↔ mt_cnt p 32 = 32 := by
  rw [mt_cnt_full]
  constructor
  · intro e f hf
    rw [← h f hf, e]; exact b_m1 f hf
  · intro g
    apply b_ext
    intro f hf
    rw [h f hf, g f hf, b_m1 f hf]
theorem mx_z {A : Int32} {p : Nat → Bool} (h : ∀ f, f < 32 → bt A f = p f) : A = 0 ↔ mt_cnt p 32 = 0 := by
  rw [mt_cnt_none]
  constructor
  · intro e f hf
    rw [← h f hf, e]; exact b_0 f
  · intro g
    apply b_ext
    intro f hf
    rw [h f hf, g f hf, b_0 f]
theorem mt_VaA {K v a : Nat} {P : Int32} (h : mt_Va K v a P) : mx_A K a P := by
  obtain ⟨h1, h2, h3, h4⟩ := h
  refine ⟨h3, fun g _ => ?_⟩
  rcases h4 with z | z
  · omega
  · exact z.2.2
theorem mx_full {P1 P0 : SX → Prop} {D C O : Nat → Int32} {N : Nat} (hT : mt_T D C O N) {e : Nat → Int32} {P3 : Int32} (SK : Int32) {K v a : Nat} (hK : K ≤ 14) (hv : v < 5) (hA : mx_A K a P3) (h1 : mt_F K v a D C O SK N = true → ∀ e', P1 (nI N, D, C, O, e')) (h0 : mt_F K v a D C O SK N = false → ∀ e', P0 (nI N, D, C, O, e')) : wpX_alarms (fun r u => (r = (-1) → P1 u) ∧ (¬ r = (-1) → P0 u)) (nI N, D, C, O, e) (nI K) (nI v) P3 SK := by
  refine mx_alarms SK hT hK hv hA (fun A e' h => br_c (fun z => h1 ?_ e') (fun z => h0 ?_ e'))
  · exact decide_eq_true ((mx_m1 h).mp z)
  · exact decide_eq_false (fun g => z ((mx_m1 h).mpr g))
theorem mt_32 (p : Nat → Bool) : nI (mt_cnt p 32) = 32 ↔ mt_cnt p 32 = 32 := by
  have := mt_cnt_le p 32
  exact nI_eq (b := 32) (by omega) (by decide)
theorem my_23 {post : Int32 → SY → Prop} {D C O : Nat → Int32} {N : Nat} (hT : mt_T D C O N) {M Q V A : Int32} {P0 P1 P2 : Int32} {K v a : Nat} (hK : K < 14) (hv : v < 5) (ha : a < 5) (e0 : P0 = nI K) (e1 : P1 = nI v) (e2 : P2 = nI a) (hp : ∀ M' Q' V' A', post (mt_bI (mt_F K v a D C O (-1) N)) (nI N, M', Q', V', A', D, C, O)) : wY_finds_23 post P2 P1 P0 (nI N) M Q V A D C O := by
  unfold wY_finds_23
  have eq : P0 = mt_q K := by rw [e0]; unfold mt_q; rw [if_neg (by omega)]
  refine my_count (-1) hT (show K ≤ 14 by omega) hv ha eq e1 e2 (fun M' => br_c (fun z => ?_) (fun z => ?_))
  · have hh := hp M' (mt_q K) (nI v) (nI a)
    unfold mt_F at hh
    rw [decide_eq_true ((mt_32 _).mp z)] at hh
    exact hh
  · have hh := hp M' (mt_q K) (nI v) (nI a)
    unfold mt_F at hh
    rw [decide_eq_false (fun g => z ((mt_32 _).mpr g))] at hh
    exact hh
theorem my_finds1 {post : Int32 → SY → Prop} {D C O : Nat → Int32} {N : Nat} (hT : mt_T D C O N) {M Q V A : Int32} {P0 P1 P2 : Int32} {K v a : Nat} (e0 : P0 = nI K) (e1 : P1 = nI v) (hV : mt_Va K v a P2) (hp : ∀ M' Q' V' A', post (mt_bI (mt_F K v a D C O (-1) N)) (nI N, M', Q', V', A', D, C, O)) : wpY_finds post (nI N, M, Q, V, A, D, C, O) P0 P1 P2 := by
  unfold wpY_finds
  dsimp only
  refine my_fault (fun _ => br_f (by decide) ?_) (fun nV => absurd ⟨K, v, a, e0, e1, hV⟩ nV)
  obtain ⟨h1, h2, h3, h4⟩ := hV
  refine pk_le 4 K (fun z => my_23 hT h1 h2 h3 e0 e1 ?_ hp) (fun z => my_23 hT h1 h2 h3 e0 e1 ?_ hp) rfl e0
  · rcases h4 with g | g
    · omega
    · exact g.2.2
  · rcases h4 with g | g
    · rw [g.2]; rfl
    · omega
theorem my_finds0 {post : Int32 → SY → Prop} {Z M Q V A : Int32} {D C O : Nat → Int32} {P0 P1 P2 : Int32} (hV : ¬ mt_V P0 P1 P2) (hp : post 0 (Z, M, Q, V, A, D, C, O)) : wpY_finds post (Z, M, Q, V, A, D, C, O) P0 P1 P2 := by
  unfold wpY_finds
  dsimp only
  exact my_fault (fun g => absurd g hV) (fun _ => br_t rfl hp)
/-! by natural numbers -/
def mt_ad (K j : Nat) : Nat := if K < 4 then 0 else j
def mt_ok (K v j : Nat) : Bool := decide (K < 4) || decide (j ≠ v)
theorem mt_ok1 {K v j : Nat} (hK : K < 14) (hv : v < 5) (hj : j < 5) (h : mt_ok K v j = true) : mt_Va K v (mt_ad K j) (nI j) := by
  unfold mt_ok at h
  unfold mt_ad mt_Va
  by_cases z : K < 4
  · rw [if_pos z]
    exact ⟨hK, hv, by decide, Or.inl ⟨z, rfl⟩⟩
  · rw [if_neg z]
    rw [decide_eq_false z, Bool.false_or, decide_eq_true_eq] at h
    exact ⟨hK, hv, hj, Or.inr ⟨by omega, h, rfl⟩⟩
theorem mt_ok0 {K v j : Nat} (hK : K < 14) (hv : v < 5) (hj : j < 5) (h : mt_ok K v j = false) : ¬ mt_V (nI K) (nI v) (nI j) := by
  intro V
  obtain ⟨v', hv', e, g⟩ := mt_VK hK rfl V
  unfold mt_ok at h
  rw [Bool.or_eq_false_iff, decide_eq_false_iff_not, decide_eq_false_iff_not] at h
  rw [nI_eq (by omega) (by omega)] at e
  rcases g with g | ⟨a, ha, ne, e2⟩
  · exact h.1 g
  · rw [nI_eq (by omega) (by omega)] at e2
    exact h.2 (fun q => ne (by omega))
theorem mx_ok {post : Int32 → Prop} {K v j : Nat} (hK : K < 14) (hv : v < 5) (hj : j < 5) (hp : post (mt_bI (mt_ok K v j))) : wpX_isFault post (nI K) (nI v) (nI j) := by
  cases h : mt_ok K v j
  · rw [h] at hp
    exact mx_isFault (fun V => absurd V (mt_ok0 hK hv hj h)) (fun _ => hp)
  · rw [h] at hp
    exact mx_isFault (fun _ => hp) (fun nV => absurd ⟨K, v, _, rfl, rfl, mt_ok1 hK hv hj h⟩ nV)
theorem my_ok {post : Int32 → SY → Prop} {D C O : Nat → Int32} {N : Nat} (hT : mt_T D C O N) {M Q V A : Int32} {P1 P2 : Int32} {K v j : Nat} (hK : K < 14) (hv : v < 5) (hj : j < 5) (e1 : P1 = nI v) (e2 : P2 = nI j) (hp : ∀ M' Q' V' A', post (mt_bI (mt_ok K v j && mt_F K v (mt_ad K j) D C O (-1) N)) (nI N, M', Q', V', A', D, C, O)) : wpY_finds post (nI N, M, Q, V, A, D, C, O) (nI K) P1 P2 := by
  subst e1 e2
  cases h : mt_ok K v j
  · rw [h] at hp
    exact my_finds0 (mt_ok0 hK hv hj h) (hp M Q V A)
  · rw [h] at hp
    exact my_finds1 hT rfl rfl (mt_ok1 hK hv hj h) hp
theorem mt_okA {K v j : Nat} (hj : j < 5) : mx_A K (mt_ad K j) (nI j) := by
  unfold mt_ad mx_A
  by_cases z : K < 4
  · rw [if_pos z]; exact ⟨by decide, fun g _ => absurd z (by omega)⟩
  · rw [if_neg z]; exact ⟨hj, fun _ _ => rfl⟩
/-! found -/
def mt_G (K : Nat) (D C O : Nat → Int32) (N c : Nat) : Bool := (decide (4 ≤ K) || decide (c % 5 = 0)) && (mt_ok K (c / 5) (c % 5) && mt_F K (c / 5) (mt_ad K (c % 5)) D C O (-1) N)
def mt_oth (K : Nat) : Nat := if K < 4 then 1 else 5
theorem mt_c5 {v j : Nat} (hj : j < 5) : (5 * v + j) / 5 = v ∧ (5 * v + j) % 5 = j := by omega
theorem mt_cnt_skip (p : Nat → Bool) (b : Nat) : ∀ d, (∀ i, i < d → p (b + i) = false) → mt_cnt p (b + d) = mt_cnt p b := by
  intro d
  induction d with
  | zero => intro _; rfl
  | succ d ih =>
    intro h
    have e : mt_cnt p (b + (d + 1)) = mt_cnt p (b + d) := if_neg (fun g => absurd ((h d (by omega)).symm.trans g) (by decide))
    rw [e, ih (fun i hi => h i (by omega))]
theorem mt_cnt_t {p : Nat → Bool} {n : Nat} (h : p n = true) : mt_cnt p (n + 1) = mt_cnt p n + 1 := if_pos h
theorem mt_cnt_f {p : Nat → Bool} {n : Nat} (h : p n = false) : mt_cnt p (n + 1) = mt_cnt p n := if_neg (by rw [h]; decide)
theorem mt_G_at (K : Nat) (D C O : Nat → Int32) (N v j : Nat) (hj : j < mt_oth K) : mt_G K D C O N (5 * v + j) = (mt_ok K v j && mt_F K v (mt_ad K j) D C O (-1) N) := by
  unfold mt_oth at hj
  have h5 : j < 5 := by
    revert hj; split <;> omega
  unfold mt_G
  rw [(mt_c5 h5).1, (mt_c5 h5).2]
  by_cases z : K < 4
  · rw [if_pos z] at hj
    rw [decide_eq_true (show j = 0 by omega), Bool.or_true, Bool.true_and]
  · rw [decide_eq_true (show 4 ≤ K by omega), Bool.true_or, Bool.true_and]
theorem mt_G_row (K : Nat) (D C O : Nat → Int32) (N v : Nat) : mt_cnt (mt_G K D C O N) (5 * v + mt_oth K) = mt_cnt (mt_G K D C O N) (5 * (v + 1)) := by
  unfold mt_oth
  by_cases z : K < 4
  · rw [if_pos z, show 5 * (v + 1) = 5 * v + 1 + 4 by omega]
    refine (mt_cnt_skip _ (5 * v + 1) 4 (fun i hi => ?_)).symm
    unfold mt_G
    rw [decide_eq_false (show ¬ 4 ≤ K by omega), decide_eq_false (show ¬ (5 * v + 1 + i) % 5 = 0 by omega)]
    rfl
  · rw [if_neg z]
    rfl
theorem mt_oth_le (K : Nat) : mt_oth K ≤ 5 := by
  unfold mt_oth; split <;> omega
theorem mx_19 {post : Int32 → SX → Prop} {J10 : Int32 → Int32 → Int32 → (Nat → Int32) → (Nat → Int32) → (Nat → Int32) → (Nat → Int32) → Prop} {D C O : Nat → Int32} {N : Nat} (hT : mt_T D C O N) {e : Nat → Int32} {K v : Nat} (hK : K < 14) (hv : v < 5) (hJ : ∀ e', J10 (nI (mt_cnt (mt_G K D C O N) (5 * (v + 1)))) (nI (v + 1)) (nI N) D C O e') : ∃ n, wX_countFound_19 post J10 (nI K) (nI (mt_oth K)) (nI v) n (nI (mt_cnt (mt_G K D C O N) (5 * v))) 0 (nI N) D C O e := by
  have ho := mt_oth_le K
  refine loop_0 (σ := Nat → Int32) (fun n i s => wX_countFound_19 post J10 (nI K) (nI (mt_oth K)) (nI v) n (nI (mt_cnt (mt_G K D C O N) (5 * v + i))) (nI i) (nI N) D C O s) (fun _ _ => True) (mt_oth K) e trivial ?_ ?_
  · intro n s _
    have hj := hJ s
    rw [← mt_G_row] at hj
    exact pk_le (mt_oth K) (mt_oth K) (fun _ => nm_r (nI_1 v) hj) (fun g => absurd g (by omega))
  · intro n i s hi _ next
    have eg := mt_G_at K D C O N v i hi
    refine pk_le (mt_oth K) i (fun g => absurd g (by omega)) (fun _ => mx_ok hK hv (by omega) ?_)
    have hn : ∀ e', wX_countFound_19 post J10 (nI K) (nI (mt_oth K)) (nI v) n (nI (mt_cnt (mt_G K D C O N) (5 * v + i + 1))) (nI (i + 1)) (nI N) D C O e' := fun e' => next e' trivial
    cases ok : mt_ok K v i
    · rw [ok, Bool.false_and] at eg
      rw [mt_cnt_f eg] at hn
      exact br_t rfl (nm_r (nI_1 i) (hn s))
    · rw [ok, Bool.true_and] at eg
      refine br_f (by decide) (mx_full hT (-1) (show K ≤ 14 by omega) hv (mt_okA (v := v) (show i < 5 by omega)) (fun f e' => ?_) (fun f e' => ?_))
      · rw [f] at eg
        rw [mt_cnt_t eg] at hn
        exact nm_r (nI_1 _) (nm_r (nI_1 i) (hn e'))
      · rw [f] at eg
        rw [mt_cnt_f eg] at hn
        exact nm_r (nI_1 i) (hn e')
theorem mx_countFound {post : Int32 → SX → Prop} {D C O : Nat → Int32} {N : Nat} (hT : mt_T D C O N) {e : Nat → Int32} {K : Nat} (hK : K < 14) (hp : ∀ e', post (nI (mt_cnt (mt_G K D C O N) 25)) (nI N, D, C, O, e')) : wpX_countFound post (nI N, D, C, O, e) (nI K) := by
  have main : ∃ n10, wX_countFound_10 post (nI K) (nI (mt_oth K)) n10 0 0 (nI N) D C O e := by
    refine loop_0 (σ := Nat → Int32) (fun n i s => wX_countFound_10 post (nI K) (nI (mt_oth K)) n (nI (mt_cnt (mt_G K D C O N) (5 * i))) (nI i) (nI N) D C O s) (fun _ _ => True) 5 e trivial ?_ ?_
    · intro n s _
      exact pk_le 5 5 (fun _ => hp s) (fun g => absurd g (by omega))
    · intro n i s hi _ next
      exact pk_le 5 i (fun g => absurd g (by omega)) (fun _ => mx_19 hT hK hi (fun e' => next e' trivial))
  unfold wpX_countFound
  dsimp only
  unfold wpX_choicesOfA
  refine pk_le 4 K (fun z => ?_) (fun z => ?_)
  · have e5 : mt_oth K = 5 := if_neg (by omega)
    rw [e5] at main
    exact main
  · have e5 : mt_oth K = 1 := if_pos z
    rw [e5] at main
    exact main
theorem my_38 {post : Int32 → SY → Prop} {J16 : Int32 → Int32 → Int32 → Int32 → Int32 → Int32 → Int32 → (Nat → Int32) → (Nat → Int32) → (Nat → Int32) → Prop} {D C O : Nat → Int32} {N : Nat} (hT : mt_T D C O N) {M Q V A : Int32} {K c : Nat} (hK : K < 14) (hc : c < 25) (hg : (decide (4 ≤ K) || decide (c % 5 = 0)) = true) (hJ : ∀ M' Q' V' A', J16 (nI (mt_cnt (mt_G K D C O N) (c + 1))) (nI (c + 1)) (nI N) M' Q' V' A' D C O) : wY_found_33 post J16 (nI K) (nI (mt_cnt (mt_G K D C O N) c)) (nI c) (nI N) M Q V A D C O := by
  have eg : mt_G K D C O N c = (mt_ok K (c / 5) (c % 5) && mt_F K (c / 5) (mt_ad K (c % 5)) D C O (-1) N) := by
    unfold mt_G; rw [hg, Bool.true_and]
  refine br_f (by decide) ⟨by decide, by decide, ?_⟩
  refine my_ok hT hK (show c / 5 < 5 by omega) (show c % 5 < 5 by omega) (pk_div (d := 5) (by omega) (by decide) (by decide)) (pk_rem (d := 5) (by omega) (by decide) (by decide)) (fun M' Q' V' A' => ?_)
  rw [← eg]
  have hj := hJ M' Q' V' A'
  cases h : mt_G K D C O N c
  · rw [mt_cnt_f h] at hj
    exact br_t rfl (nm_r (nI_1 c) hj)
  · rw [mt_cnt_t h] at hj
    exact br_f (by decide) (nm_r (nI_1 _) (nm_r (nI_1 c) hj))
theorem my_found {post : Int32 → SY → Prop} {D C O : Nat → Int32} {N : Nat} (hT : mt_T D C O N) {M Q V A : Int32} {K : Nat} (hK : K < 14) (hp : ∀ M' Q' V' A', post (nI (mt_cnt (mt_G K D C O N) 25)) (nI N, M', Q', V', A', D, C, O)) : wpY_found post (nI N, M, Q, V, A, D, C, O) (nI K) := by
  have main : ∃ n16, wY_found_16 post (nI K) n16 0 0 (nI N) M Q V A D C O := by
    refine loop_0 (σ := Int32 × Int32 × Int32 × Int32) (fun n i s => wY_found_16 post (nI K) n (nI (mt_cnt (mt_G K D C O N) i)) (nI i) (nI N) s.1 s.2.1 s.2.2.1 s.2.2.2 D C O) (fun _ _ => True) 25 (M, Q, V, A) trivial ?_ ?_
    · intro n s _
      exact pk_le 25 25 (fun _ => hp _ _ _ _) (fun g => absurd g (by omega))
    · intro n i s hi _ next
      refine pk_le 25 i (fun g => absurd g (by omega)) (fun _ => pk_le 4 K (fun z => ?_) (fun z => ⟨by decide, ?_⟩))
      · exact my_38 hT hK hi (by rw [decide_eq_true z]; rfl) (fun M' Q' V' A' => next (M', Q', V', A') trivial)
      · refine pk_eq (i % 5) 0 (fun q => ?_) (fun q => ?_) (pk_rem (d := 5) (by omega) (by decide) (by decide)) rfl
        · exact my_38 hT hK hi (by rw [decide_eq_true q, Bool.or_true]) (fun M' Q' V' A' => next (M', Q', V', A') trivial)
        · have hn := next s trivial
          have eg : mt_G K D C O N i = false := by
            unfold mt_G
            rw [decide_eq_false (show ¬ 4 ≤ K by omega), decide_eq_false q]
            rfl
          rw [mt_cnt_f eg] at hn
          exact br_t rfl (nm_r (nI_1 i) hn)
  exact br_f (nI_pos (by omega)) (pk_le K 13 (fun _ => main) (fun g => absurd g (by omega)))
/-! covered -/
def mt_cov (D C O : Nat → Int32) (N : Nat) : Nat → Int32
  | 0 => 0
  | k + 1 => if nI (mt_cnt (mt_G k D C O N) 25) = (if k < 4 then 5 else 20) then mt_cov D C O N k ||| ((1 : Int32) <<< (nI k &&& 31)) else mt_cov D C O N k
theorem mx_covered {post : Int32 → SX → Prop} {D C O : Nat → Int32} {N : Nat} (hT : mt_T D C O N) {e : Nat → Int32} (hp : ∀ e', post (mt_cov D C O N 14) (nI N, D, C, O, e')) : wpX_covered post (nI N, D, C, O, e) := by
  refine loop_0 (σ := Nat → Int32) (fun n i s => wX_covered_4 post n (mt_cov D C O N i) (nI i) (nI N) D C O s) (fun _ _ => True) 14 e trivial ?_ ?_
  · intro n s _
    exact pk_le 14 14 (fun _ => hp s) (fun g => absurd g (by omega))
  · intro n i s hi _ next
    have hn : ∀ e', wX_covered_4 post n (if nI (mt_cnt (mt_G i D C O N) 25) = (if i < 4 then 5 else 20) then mt_cov D C O N i ||| ((1 : Int32) <<< (nI i &&& 31)) else mt_cov D C O N i) (nI (i + 1)) (nI N) D C O e' := fun e' => next e' trivial
    refine pk_le 14 i (fun g => absurd g (by omega)) (fun _ => pk_le 4 i (fun z => ?_) (fun z => ?_))
    · rw [if_neg (show ¬ i < 4 by omega)] at hn
      unfold wX_covered_21
      refine mx_countFound hT hi (fun e' => br_c (fun q => ?_) (fun q => ?_))
      · rw [if_pos q] at hn
        exact nm_e (nm_r (nI_1 i) (hn e'))
      · rw [if_neg q] at hn
        exact nm_r (nI_1 i) (hn e')
    · rw [if_pos z] at hn
      unfold wX_covered_21
      refine mx_countFound hT hi (fun e' => br_c (fun q => ?_) (fun q => ?_))
      · rw [if_pos q] at hn
        exact nm_e (nm_r (nI_1 i) (hn e'))
      · rw [if_neg q] at hn
        exact nm_r (nI_1 i) (hn e')
theorem my_covered {post : Int32 → SY → Prop} {D C O : Nat → Int32} {N : Nat} (hT : mt_T D C O N) {M Q V A : Int32} (hp : ∀ M' Q' V' A', post (mt_cov D C O N 14) (nI N, M', Q', V', A', D, C, O)) : wpY_covered post (nI N, M, Q, V, A, D, C, O) := by
  refine loop_0 (σ := Int32 × Int32 × Int32 × Int32) (fun n i s => wY_covered_4 post n (mt_cov D C O N i) (nI i) (nI N) s.1 s.2.1 s.2.2.1 s.2.2.2 D C O) (fun _ _ => True) 14 (M, Q, V, A) trivial ?_ ?_
  · intro n s _
    exact pk_le 14 14 (fun _ => hp _ _ _ _) (fun g => absurd g (by omega))
  · intro n i s hi _ next
    have hn : ∀ M' Q' V' A', wY_covered_4 post n (if nI (mt_cnt (mt_G i D C O N) 25) = (if i < 4 then 5 else 20) then mt_cov D C O N i ||| ((1 : Int32) <<< (nI i &&& 31)) else mt_cov D C O N i) (nI (i + 1)) (nI N) M' Q' V' A' D C O := fun M' Q' V' A' => next (M', Q', V', A') trivial
    refine pk_le 14 i (fun g => absurd g (by omega)) (fun _ => my_found hT hi (fun M' Q' V' A' => pk_le 4 i (fun z => ?_) (fun z => ?_)))
    · rw [if_neg (show ¬ i < 4 by omega)] at hn
      refine br_c (fun q => ?_) (fun q => ?_)
      · rw [if_pos q] at hn
        exact nm_e (nm_r (nI_1 i) (hn M' Q' V' A'))
      · rw [if_neg q] at hn
        exact nm_r (nI_1 i) (hn M' Q' V' A')
    · rw [if_pos z] at hn
      refine br_c (fun q => ?_) (fun q => ?_)
      · rw [if_pos q] at hn
        exact nm_e (nm_r (nI_1 i) (hn M' Q' V' A'))
      · rw [if_neg q] at hn
        exact nm_r (nI_1 i) (hn M' Q' V' A')
