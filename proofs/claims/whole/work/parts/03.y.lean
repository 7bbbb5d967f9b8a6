/-! the reference: bit c of its memory is cell c -/
def my_R (M : Int32) (s : Nat → Bool) : Prop := ∀ c, c < 5 → bt M c = s c
def mt_q (K : Nat) : Int32 := if K = 14 then -1 else nI K
theorem mt_set_self {s : Nat → Bool} {v : Nat} : mt_set s v (s v) = s := by
  funext j
  show (if j = v then s v else s j) = s j
  by_cases z : j = v
  · rw [if_pos z, z]
  · rw [if_neg z]
theorem my_bit {M : Int32} {s : Nat → Bool} {c : Nat} (hs : my_R M s) (hc : c < 5) : (M >>> (nI c &&& 31)) &&& 1 = mt_bI (s c) := by
  apply b_ext
  intro i hi
  rw [b_and, b_sshr c (by omega) M hi, mt_b1 i hi]
  by_cases z : i = 0
  · subst z
    rw [decide_eq_true rfl, Bool.and_true, if_pos (by omega), Nat.add_zero, hs c hc]
    cases s c <;> rfl
  · rw [decide_eq_false z, Bool.and_false]
    cases s c
    · exact (b_0 i).symm
    · show false = bt 1 i
      rw [mt_b1 i hi, decide_eq_false z]
theorem my_set {M P : Int32} {s : Nat → Bool} {v : Nat} (b : Bool) (hs : my_R M s) (hv : v < 5) (hP : P = mt_bI b) : my_R ((M &&& (((1 : Int32) <<< (nI v &&& 31)) ^^^ (-1))) ||| (P <<< (nI v &&& 31))) (mt_set s v b) := by
  subst hP
  intro c hc
  have hb : ∀ i, i < 32 → bt (mt_bI b) i = (decide (i = 0) && b) := by
    intro i hi
    cases b
    · show bt 0 i = _
      rw [b_0, Bool.and_false]
    · show bt 1 i = _
      rw [mt_b1 i hi, Bool.and_true]
  rw [b_or, b_and, b_xor, b_shl v (by omega) _ (by omega), b_shl v (by omega) _ (by omega), b_m1 c (by omega), mt_b1 (c - v) (by omega), hb (c - v) (by omega), hs c hc]
  show _ = (if c = v then b else s c)
  by_cases z : c = v
  · subst z
    rw [if_pos rfl, Nat.sub_self, decide_eq_true (Nat.le_refl c), decide_eq_true rfl]
    cases s c <;> cases b <;> rfl
  · rw [if_neg z]
    rcases Nat.lt_or_ge c v with g | g
    · rw [decide_eq_false (show ¬ v ≤ c by omega)]
      cases s c <;> rfl
    · rw [decide_eq_false (show ¬ c - v = 0 by omega)]
      cases s c <;> cases decide (v ≤ c) <;> rfl
theorem my_bitp {post : Int32 → Prop} {Z M Q V A : Int32} {D C O : Nat → Int32} {s : Nat → Bool} {c : Nat} (hs : my_R M s) (hc : c < 5) (hp : post (mt_bI (s c))) : wpY_bit post (Z, M, Q, V, A, D, C, O) (nI c) := by
  show post ((M >>> (nI c &&& 31)) &&& 1)
  rw [my_bit hs hc]
  exact hp
theorem my_settle {post : SY → Prop} {Z M : Int32} {D C O : Nat → Int32} {K v a : Nat} {s : Nat → Bool} (hK : K ≤ 14) (hv : v < 5) (ha : a < 5) (hs : my_R M s) (hp : ∀ M', my_R M' (mt_hold K v a s) → post (Z, M', mt_q K, nI v, nI a, D, C, O)) : wpY_settle post (Z, M, mt_q K, nI v, nI a, D, C, O) := by
  have hc : K = 0 ∨ K = 1 ∨ K = 2 ∨ K = 3 ∨ K = 4 ∨ K = 5 ∨ K = 6 ∨ K = 7 ∨ K = 8 ∨ K = 9 ∨ K = 10 ∨ K = 11 ∨ K = 12 ∨ K = 13 ∨ K = 14 := by omega
  rcases hc with rfl | rfl | rfl | rfl | rfl | rfl | rfl | rfl | rfl | rfl | rfl | rfl | rfl | rfl | rfl
  · exact br_t (by decide) (nm_e (br_t (by decide) (hp _ (my_set false hs hv (by decide)))))
  · exact br_f (by decide) (br_t (by decide) (nm_e (br_t (by decide) (hp _ (my_set true hs hv (by decide))))))
  · exact br_f (by decide) (br_f (by decide) (br_t (by decide) (hp M hs)))
  · exact br_f (by decide) (br_f (by decide) (br_t (by decide) (hp M hs)))
  · exact br_f (by decide) (br_f (by decide) (br_t (by decide) (hp M hs)))
  · exact br_f (by decide) (br_f (by decide) (br_t (by decide) (hp M hs)))
  · exact br_f (by decide) (br_f (by decide) (br_t (by decide) (hp M hs)))
  · exact br_f (by decide) (br_f (by decide) (br_t (by decide) (hp M hs)))
  · exact br_f (by decide) (br_f (by decide) (br_t (by decide) (hp M hs)))
  · exact br_f (by decide) (br_f (by decide) (br_t (by decide) (hp M hs)))
  · cases h : s a
    · have hb : (M >>> (nI a &&& 31)) &&& 1 = mt_bI false := by rw [← h]; exact my_bit hs ha
      have e : mt_hold 10 v a s = mt_set s v false := by
        show mt_set s v (s v && s a) = _
        rw [h]; cases s v <;> rfl
      rw [e] at hp
      exact br_f (by decide) (br_f (by decide) (br_f (by decide) ⟨by decide, br_t (hb.trans (by decide)) ⟨by decide, nm_e (hp _ (my_set false hs hv (by decide)))⟩⟩))
    · have hb : (M >>> (nI a &&& 31)) &&& 1 = mt_bI true := by rw [← h]; exact my_bit hs ha
      have e : mt_hold 10 v a s = s := by
        refine Eq.trans ?_ (mt_set_self (s := s) (v := v))
        show mt_set s v (s v && s a) = _
        rw [h]; cases s v <;> rfl
      rw [e] at hp
      exact br_f (by decide) (br_f (by decide) (br_f (by decide) ⟨by decide, br_f (fun z => absurd (hb.symm.trans z) (by decide)) (hp M hs)⟩))
  · cases h : s a
    · have hb : (M >>> (nI a &&& 31)) &&& 1 = mt_bI false := by rw [← h]; exact my_bit hs ha
      have e : mt_hold 11 v a s = mt_set s v true := by
        show mt_set s v (s v || !s a) = _
        rw [h]; cases s v <;> rfl
      rw [e] at hp
      exact br_f (by decide) (br_f (by decide) (br_f (by decide) ⟨by decide, br_t (hb.trans (by decide)) ⟨by decide, nm_e (hp _ (my_set true hs hv (by decide)))⟩⟩))
    · have hb : (M >>> (nI a &&& 31)) &&& 1 = mt_bI true := by rw [← h]; exact my_bit hs ha
      have e : mt_hold 11 v a s = s := by
        refine Eq.trans ?_ (mt_set_self (s := s) (v := v))
        show mt_set s v (s v || !s a) = _
        rw [h]; cases s v <;> rfl
      rw [e] at hp
      exact br_f (by decide) (br_f (by decide) (br_f (by decide) ⟨by decide, br_f (fun z => absurd (hb.symm.trans z) (by decide)) (hp M hs)⟩))
  · cases h : s a
    · have hb : (M >>> (nI a &&& 31)) &&& 1 = mt_bI false := by rw [← h]; exact my_bit hs ha
      have e : mt_hold 12 v a s = s := by
        refine Eq.trans ?_ (mt_set_self (s := s) (v := v))
        show mt_set s v (s v && !s a) = _
        rw [h]; cases s v <;> rfl
      rw [e] at hp
      exact br_f (by decide) (br_f (by decide) (br_f (by decide) ⟨by decide, br_f (fun z => absurd (hb.symm.trans z) (by decide)) (hp M hs)⟩))
    · have hb : (M >>> (nI a &&& 31)) &&& 1 = mt_bI true := by rw [← h]; exact my_bit hs ha
      have e : mt_hold 12 v a s = mt_set s v false := by
        show mt_set s v (s v && !s a) = _
        rw [h]; cases s v <;> rfl
      rw [e] at hp
      exact br_f (by decide) (br_f (by decide) (br_f (by decide) ⟨by decide, br_t (hb.trans (by decide)) ⟨by decide, nm_e (hp _ (my_set false hs hv (by decide)))⟩⟩))
  · cases h : s a
    · have hb : (M >>> (nI a &&& 31)) &&& 1 = mt_bI false := by rw [← h]; exact my_bit hs ha
      have e : mt_hold 13 v a s = s := by
        refine Eq.trans ?_ (mt_set_self (s := s) (v := v))
        show mt_set s v (s v || s a) = _
        rw [h]; cases s v <;> rfl
      rw [e] at hp
      exact br_f (by decide) (br_f (by decide) (br_f (by decide) ⟨by decide, br_f (fun z => absurd (hb.symm.trans z) (by decide)) (hp M hs)⟩))
    · have hb : (M >>> (nI a &&& 31)) &&& 1 = mt_bI true := by rw [← h]; exact my_bit hs ha
      have e : mt_hold 13 v a s = mt_set s v true := by
        show mt_set s v (s v || s a) = _
        rw [h]; cases s v <;> rfl
      rw [e] at hp
      exact br_f (by decide) (br_f (by decide) (br_f (by decide) ⟨by decide, br_t (hb.trans (by decide)) ⟨by decide, nm_e (hp _ (my_set true hs hv (by decide)))⟩⟩))
  · exact br_f (by decide) (br_f (by decide) (br_t (by decide) (hp M hs)))
theorem my_195 {post : SY → Prop} {Z M : Int32} {D C O : Nat → Int32} {K v a : Nat} {s : Nat → Bool} (hK : K ≤ 14) (hv : v < 5) (ha : a < 5) (hs : my_R M s) (hp : ∀ M', my_R M' (mt_hold K v a s) → post (Z, M', mt_q K, nI v, nI a, D, C, O)) : wY_write_195 post Z M (mt_q K) (nI v) (nI a) D C O := by
  unfold wY_write_195
  exact my_settle hK hv ha hs hp
theorem my_178 {post : SY → Prop} {Z M : Int32} {D C O : Nat → Int32} {K v a : Nat} {s : Nat → Bool} {P : Int32} {r w : Bool} (hK : K ≤ 14) (hv : v < 5) (ha : a < 5) (hs : my_R M s) (hP : P = mt_bI w) (hp : ∀ M', my_R M' (mt_hold K v a (if r then mt_set s v w else s)) → post (Z, M', mt_q K, nI v, nI a, D, C, O)) : wY_write_178 post (mt_bI r) P Z M (mt_q K) (nI v) (nI a) D C O := by
  cases r
  · exact br_t (by decide) (my_195 hK hv ha hs hp)
  · exact br_f (by decide) (nm_e (my_195 hK hv ha (my_set w hs hv hP) hp))
theorem my_148 {post : SY → Prop} {Z M : Int32} {D C O : Nat → Int32} {K v a : Nat} {s : Nat → Bool} {r : Bool} (hK : K ≤ 14) (hv : v < 5) (ha : a < 5) (hs : my_R M s) (w : Bool) (hw : if K < 6 then w = !s v else (6 ≤ K ∧ K ≤ 9 ∧ w = decide (K % 2 = 1))) (hp : ∀ M', my_R M' (mt_hold K v a (if r then mt_set s v w else s)) → post (Z, M', mt_q K, nI v, nI a, D, C, O)) : wY_write_148 post (mt_bI r) Z M (mt_q K) (nI v) (nI a) D C O := by
  by_cases z : K < 6
  · rw [if_pos z] at hw
    have h6 : ¬ (6 : Int32) ≤ mt_q K := by
      unfold mt_q; rw [if_neg (by omega)]
      exact nI_ge (b := 6) z (by decide)
    refine br_f h6 (my_bitp hs hv (my_178 hK hv ha hs ?_ hp))
    rw [hw]; cases s v <;> rfl
  · rw [if_neg z] at hw
    obtain ⟨g1, g2, hw⟩ := hw
    have hc : K = 6 ∨ K = 7 ∨ K = 8 ∨ K = 9 := by omega
    rcases hc with rfl | rfl | rfl | rfl
    · exact br_t (by decide) ⟨by decide, my_178 hK hv ha hs (by rw [hw]; decide) hp⟩
    · exact br_t (by decide) ⟨by decide, my_178 hK hv ha hs (by rw [hw]; decide) hp⟩
    · exact br_t (by decide) ⟨by decide, my_178 hK hv ha hs (by rw [hw]; decide) hp⟩
    · exact br_t (by decide) ⟨by decide, my_178 hK hv ha hs (by rw [hw]; decide) hp⟩
theorem my_88 {post : SY → Prop} {Z M : Int32} {D C O : Nat → Int32} {K v a : Nat} {s : Nat → Bool} {c : Nat} {r q : Bool} (hK : K ≤ 14) (hv : v < 5) (ha : a < 5) (hs : my_R M s) (hc : c < 5) (hp : ∀ M', my_R M' (mt_hold K v a (if c = a then mt_dist K v s r q else s)) → post (Z, M', mt_q K, nI v, nI a, D, C, O)) : wY_write_88 post (nI c) (mt_bI r) (mt_bI q) Z M (mt_q K) (nI v) (nI a) D C O := by
  have hk : K = 0 ∨ K = 1 ∨ K = 2 ∨ K = 3 ∨ K = 4 ∨ K = 5 ∨ K = 6 ∨ K = 7 ∨ K = 8 ∨ K = 9 ∨ K = 10 ∨ K = 11 ∨ K = 12 ∨ K = 13 ∨ K = 14 := by omega
  rcases hk with rfl | rfl | rfl | rfl | rfl | rfl | rfl | rfl | rfl | rfl | rfl | rfl | rfl | rfl | rfl
  · rw [mt_dist_id (by omega), ite_self] at hp
    exact br_t (by decide) (my_195 hK hv ha hs hp)
  · rw [mt_dist_id (by omega), ite_self] at hp
    exact br_t (by decide) (my_195 hK hv ha hs hp)
  · rw [mt_dist_id (by omega), ite_self] at hp
    exact br_t (by decide) (my_195 hK hv ha hs hp)
  · rw [mt_dist_id (by omega), ite_self] at hp
    exact br_t (by decide) (my_195 hK hv ha hs hp)
  · refine br_f (by decide) (br_f (by decide) (pk_eq c a (fun z => ?_) (fun z => ?_)))
    · rw [if_pos z] at hp
      have e : mt_dist 4 v s r q = (if r then mt_set s v (!s v) else s) := by
        show mt_set s v (s v ^^ r) = _
        cases r
        · refine Eq.trans ?_ (mt_set_self (s := s) (v := v))
          cases s v <;> rfl
        · cases s v <;> rfl
      rw [e] at hp
      exact br_t (by decide) (my_148 (r := r) hK hv ha hs (!s v) (rfl) hp)
    · rw [if_neg z] at hp
      exact my_195 hK hv ha hs hp
  · refine br_f (by decide) (br_f (by decide) (pk_eq c a (fun z => ?_) (fun z => ?_)))
    · rw [if_pos z] at hp
      have e : mt_dist 5 v s r q = (if q then mt_set s v (!s v) else s) := by
        show mt_set s v (s v ^^ q) = _
        cases q
        · refine Eq.trans ?_ (mt_set_self (s := s) (v := v))
          cases s v <;> rfl
        · cases s v <;> rfl
      rw [e] at hp
      exact br_f (by decide) (br_f (by decide) (br_f (by decide) (my_148 (r := q) hK hv ha hs (!s v) (rfl) hp)))
    · rw [if_neg z] at hp
      exact my_195 hK hv ha hs hp
  · refine br_f (by decide) (br_f (by decide) (pk_eq c a (fun z => ?_) (fun z => ?_)))
    · rw [if_pos z] at hp
      have e : mt_dist 6 v s r q = (if r then mt_set s v (false) else s) := by
        show mt_set s v (s v && !r) = _
        cases r
        · refine Eq.trans ?_ (mt_set_self (s := s) (v := v))
          cases s v <;> rfl
        · cases s v <;> rfl
      rw [e] at hp
      exact br_f (by decide) (br_t (by decide) (my_148 (r := r) hK hv ha hs (false) (⟨by decide, by decide, rfl⟩) hp))
    · rw [if_neg z] at hp
      exact my_195 hK hv ha hs hp
  · refine br_f (by decide) (br_f (by decide) (pk_eq c a (fun z => ?_) (fun z => ?_)))
    · rw [if_pos z] at hp
      have e : mt_dist 7 v s r q = (if r then mt_set s v (true) else s) := by
        show mt_set s v (s v || r) = _
        cases r
        · refine Eq.trans ?_ (mt_set_self (s := s) (v := v))
          cases s v <;> rfl
        · cases s v <;> rfl
      rw [e] at hp
      exact br_f (by decide) (br_f (by decide) (br_t (by decide) (my_148 (r := r) hK hv ha hs (true) (⟨by decide, by decide, rfl⟩) hp)))
    · rw [if_neg z] at hp
      exact my_195 hK hv ha hs hp
  · refine br_f (by decide) (br_f (by decide) (pk_eq c a (fun z => ?_) (fun z => ?_)))
    · rw [if_pos z] at hp
      have e : mt_dist 8 v s r q = (if q then mt_set s v (false) else s) := by
        show mt_set s v (s v && !q) = _
        cases q
        · refine Eq.trans ?_ (mt_set_self (s := s) (v := v))
          cases s v <;> rfl
        · cases s v <;> rfl
      rw [e] at hp
      exact br_f (by decide) (br_f (by decide) (br_f (by decide) (my_148 (r := q) hK hv ha hs (false) (⟨by decide, by decide, rfl⟩) hp)))
    · rw [if_neg z] at hp
      exact my_195 hK hv ha hs hp
  · refine br_f (by decide) (br_f (by decide) (pk_eq c a (fun z => ?_) (fun z => ?_)))
    · rw [if_pos z] at hp
      have e : mt_dist 9 v s r q = (if q then mt_set s v (true) else s) := by
        show mt_set s v (s v || q) = _
        cases q
        · refine Eq.trans ?_ (mt_set_self (s := s) (v := v))
          cases s v <;> rfl
        · cases s v <;> rfl
      rw [e] at hp
      exact br_f (by decide) (br_f (by decide) (br_f (by decide) (my_148 (r := q) hK hv ha hs (true) (⟨by decide, by decide, rfl⟩) hp)))
    · rw [if_neg z] at hp
      exact my_195 hK hv ha hs hp
  · have e : mt_dist 10 v s r q = s := rfl
    rw [e, ite_self] at hp
    exact br_f (by decide) (br_t (by decide) (my_195 hK hv ha hs hp))
  · have e : mt_dist 11 v s r q = s := rfl
    rw [e, ite_self] at hp
    exact br_f (by decide) (br_t (by decide) (my_195 hK hv ha hs hp))
  · have e : mt_dist 12 v s r q = s := rfl
    rw [e, ite_self] at hp
    exact br_f (by decide) (br_t (by decide) (my_195 hK hv ha hs hp))
  · have e : mt_dist 13 v s r q = s := rfl
    rw [e, ite_self] at hp
    exact br_f (by decide) (br_t (by decide) (my_195 hK hv ha hs hp))
  · rw [mt_dist_id (by omega), ite_self] at hp
    exact br_t (by decide) (my_195 hK hv ha hs hp)
theorem my_58 {post : SY → Prop} {Z M Q V A : Int32} {D C O : Nat → Int32} {c : Nat} (x b : Bool) (h : wY_write_88 post (nI c) (mt_bI (!x && b)) (mt_bI (x && !b)) Z M Q V A D C O) : wY_write_58 post (nI c) (mt_bI b) (mt_bI x) Z M Q V A D C O := by
  cases x <;> cases b
  · exact br_t (by decide) (br_f (by decide) (br_f (by decide) h))
  · exact br_t (by decide) (br_t (by decide) (br_f (by decide) h))
  · exact br_f (by decide) (br_t (by decide) (br_t (by decide) h))
  · exact br_f (by decide) (br_t (by decide) (br_f (by decide) h))
theorem my_put {post : SY → Prop} {Z M : Int32} {D C O : Nat → Int32} {K v a : Nat} {s : Nat → Bool} {c : Nat} {b : Bool} (hK : K ≤ 14) (hv : v < 5) (ha : a < 5) (hs : my_R M s) (hc : c < 5) (e : mt_put K v c b s = mt_set s c b) (hp : ∀ M', my_R M' (mt_write K v a c b s) → post (Z, M', mt_q K, nI v, nI a, D, C, O)) : wY_write_44 post (nI c) (mt_bI b) (mt_bI (s c)) Z M (mt_q K) (nI v) (nI a) D C O := by
  refine br_t (by decide) (nm_e ?_)
  have h1 : my_R ((M &&& (((1 : Int32) <<< (nI c &&& 31)) ^^^ (-1))) ||| (mt_bI b <<< (nI c &&& 31))) (mt_put K v c b s) := by
    rw [e]; exact my_set b hs hc rfl
  exact my_58 (s c) b (my_88 hK hv ha h1 hc hp)
theorem my_stuck {post : SY → Prop} {Z M : Int32} {D C O : Nat → Int32} {K v a : Nat} {s : Nat → Bool} {c : Nat} {b : Bool} (hK : K ≤ 14) (hv : v < 5) (ha : a < 5) (hs : my_R M s) (hc : c < 5) (e : mt_put K v c b s = s) (hp : ∀ M', my_R M' (mt_write K v a c b s) → post (Z, M', mt_q K, nI v, nI a, D, C, O)) : wY_write_45 post (nI c) (mt_bI b) (mt_bI (s c)) 1 Z M (mt_q K) (nI v) (nI a) D C O := by
  refine br_f (by decide) ?_
  have h1 : my_R M (mt_put K v c b s) := by
    rw [e]; exact hs
  exact my_58 (s c) b (my_88 hK hv ha h1 hc hp)
theorem my_write {post : SY → Prop} {Z M : Int32} {D C O : Nat → Int32} {K v a : Nat} {s : Nat → Bool} {c : Nat} {b : Bool} (hK : K ≤ 14) (hv : v < 5) (ha : a < 5) (hs : my_R M s) (hc : c < 5) (hp : ∀ M', my_R M' (mt_write K v a c b s) → post (Z, M', mt_q K, nI v, nI a, D, C, O)) : wpY_write post (Z, M, mt_q K, nI v, nI a, D, C, O) (nI c) (mt_bI b) := by
  unfold wpY_write
  dsimp only
  refine my_bitp hs hc ?_
  by_cases k2 : K = 2
  · subst k2
    refine br_t (by decide) (pk_eq c v (fun z => ?_) (fun z => my_put hK hv ha hs hc (by unfold mt_put; rw [if_neg z]) hp))
    cases h : s c
    · refine br_t (by decide) ?_
      rw [← h]
      refine my_stuck hK hv ha hs hc ?_ hp
      unfold mt_put
      rw [if_pos z]
      refine Eq.trans ?_ (mt_set_self (s := s) (v := c))
      rw [h]; rfl
    · refine br_f (by decide) ?_
      rw [← h]
      refine my_put hK hv ha hs hc ?_ hp
      unfold mt_put
      rw [if_pos z, h]; cases b <;> rfl
  · by_cases k3 : K = 3
    · subst k3
      refine br_f (by decide) (br_t (by decide) (pk_eq c v (fun z => ?_) (fun z => my_put hK hv ha hs hc (by unfold mt_put; rw [if_neg z]) hp)))
      cases h : s c
      · refine br_f (by decide) ?_
        rw [← h]
        refine my_put hK hv ha hs hc ?_ hp
        unfold mt_put
        rw [if_pos z, h]; cases b <;> rfl
      · refine br_t (by decide) ?_
        rw [← h]
        refine my_stuck hK hv ha hs hc ?_ hp
        unfold mt_put
        rw [if_pos z]
        refine Eq.trans ?_ (mt_set_self (s := s) (v := c))
        rw [h]; cases b <;> rfl
    · have q2 : ¬ mt_q K = 2 := by
        unfold mt_q
        split
        · decide
        · intro h; exact k2 ((nI_eq (b := 2) (by omega) (by decide)).mp h)
      have q3 : ¬ mt_q K = 3 := by
        unfold mt_q
        split
        · decide
        · intro h; exact k3 ((nI_eq (b := 3) (by omega) (by decide)).mp h)
      refine br_f q2 (br_f q3 (my_put hK hv ha hs hc ?_ hp))
      unfold mt_put mt_take
      rw [if_neg k2, if_neg k3, ite_self]
theorem my_fails {post : Int32 → SY → Prop} {Z M : Int32} {D C O : Nat → Int32} {K v a : Nat} {s : Nat → Bool} {c o : Nat} {al : Bool} (hK : K ≤ 14) (hv : v < 5) (ha : a < 5) (hs : my_R M s) (hc : c < 5) (ho : o < 4) (hp : ∀ M' fl, my_R M' (mt_step K v a o c (s, al)).1 → (al || fl) = (mt_step K v a o c (s, al)).2 → post (mt_bI fl) (Z, M', mt_q K, nI v, nI a, D, C, O)) : wpY_fails post (Z, M, mt_q K, nI v, nI a, D, C, O) (nI o) (nI c) := by
  refine pk_le 2 o (fun z => ?_) (fun z => ?_)
  · have e : mt_step K v a o c (s, al) = (s, al || (s c != decide (o = 3))) := if_neg (by omega)
    rw [e] at hp
    refine my_bitp hs hc ?_
    have e2 : nI o - 2 = mt_bI (decide (o = 3)) := by
      have h4 : o = 2 ∨ o = 3 := by omega
      rcases h4 with rfl | rfl <;> decide
    refine br_c (fun h => hp M false hs ?_) (fun h => hp M true hs ?_)
    · rw [e2] at h
      have h' : s c = decide (o = 3) := by
        revert h
        cases s c <;> cases decide (o = 3) <;> decide
      show (al || false) = (al || (s c != decide (o = 3)))
      rw [h']; cases decide (o = 3) <;> rfl
    · rw [e2] at h
      have h' : s c = !decide (o = 3) := by
        revert h
        cases s c <;> cases decide (o = 3) <;> decide
      show (al || true) = (al || (s c != decide (o = 3)))
      rw [h']; cases decide (o = 3) <;> rfl
  · have e : mt_step K v a o c (s, al) = (mt_write K v a c (decide (o = 1)) s, al) := if_pos z
    rw [e] at hp
    have e2 : nI o = mt_bI (decide (o = 1)) := by
      have h4 : o = 0 ∨ o = 1 := by omega
      rcases h4 with rfl | rfl <;> decide
    rw [e2]
    exact my_write hK hv ha hs hc (fun M' h' => hp M' false h' (Bool.or_false _))
theorem my_82 {post : Int32 → SY → Prop} {J14 J26 : Int32 → Int32 → Int32 → Int32 → Int32 → Int32 → Int32 → (Nat → Int32) → (Nat → Int32) → (Nat → Int32) → Prop} {Z M SK z0 : Int32} {D C O : Nat → Int32} {K v a m k cc : Nat} {p : mt_P} (hK : K ≤ 14) (hv : v < 5) (ha : a < 5) (hs : my_R M p.1) (hm : m < 6) (hcc : cc ≤ 4) (hC : C m = nI cc) (hk : k < 5 * cc) (hO : ∀ j, ∃ o, o < 4 ∧ O j = nI o) (hz : z0 = nI (mt_at D m (k / cc))) (hJ : ∀ M', my_R M' (mt_k K v a D C O m k p).1 → J26 (mt_bI (mt_k K v a D C O m k p).2) (nI (k + 1)) Z M' (mt_q K) (nI v) (nI a) D C O) : wY_run_82 post J14 J26 SK (mt_bI p.2) (nI m) (nI k) z0 Z M (mt_q K) (nI v) (nI a) D C O := by
  have hc0 : 0 < cc := by omega
  have e1 : C (nI m).toNatClampNeg = nI cc := by rw [nI_clamp (by omega), hC]
  have ecl : (C m).toNatClampNeg = cc := by rw [hC, nI_clamp (by omega)]
  have hmod : k % cc < cc := Nat.mod_lt _ hc0
  have ei : 4 * nI m + (nI k - nI k / C (nI m).toNatClampNeg * C (nI m).toNatClampNeg) = nI (4 * m + k % cc) := by
    rw [e1, pk_rem (by omega) hc0 (by omega), show (4 : Int32) = nI 4 from rfl, pk_mul, nI_add]
  obtain ⟨o, ho, eo⟩ := hO (4 * m + k % cc)
  have eop : O (4 * nI m + (nI k - nI k / C (nI m).toNatClampNeg * C (nI m).toNatClampNeg)).toNatClampNeg = nI o := by
    rw [ei, nI_clamp (by omega), eo]
  have hq : k / cc < 5 := (Nat.div_lt_iff_lt_mul hc0).mpr hk
  have eg : mt_k K v a D C O m k p = mt_step K v a o (mt_at D m (k / cc)) (p.1, p.2) := by
    unfold mt_k mt_cell
    rw [ecl, eo, nI_clamp (by omega)]
  subst hz
  refine ⟨vp_in_nI hm (by decide), ?_, ?_, ?_⟩
  · rw [e1]; exact nI_ne0 hc0 (by omega)
  · rw [ei]; exact vp_in_nI (by omega) (by decide)
  · rw [eop]
    refine my_fails (al := p.2) hK hv ha hs (mt_at_lt hq) ho (fun M' fl h1 h2 => ?_)
    rw [← eg] at h1 h2
    have hj := hJ M' h1
    rw [← h2] at hj
    cases fl
    · refine br_t (by decide) ?_
      cases h : p.2
      · rw [h] at hj
        exact br_t (by decide) (nm_r (nI_1 k) hj)
      · rw [h] at hj
        exact br_f (by decide) (nm_r (nI_1 k) hj)
    · rw [Bool.or_true] at hj
      exact br_f (by decide) (nm_r (nI_1 k) hj)
theorem my_26 {post : Int32 → SY → Prop} {J14 : Int32 → Int32 → Int32 → Int32 → Int32 → Int32 → Int32 → (Nat → Int32) → (Nat → Int32) → (Nat → Int32) → Prop} {Z M SK : Int32} {D C O : Nat → Int32} {K v a m : Nat} {p : mt_P} (hK : K ≤ 14) (hv : v < 5) (ha : a < 5) (hs : my_R M p.1) (hm : m < 6) (hD : ∀ j, D j = 0 ∨ D j = 1) (hC : ∀ j, ∃ c, c ≤ 4 ∧ C j = nI c) (hO : ∀ j, ∃ o, o < 4 ∧ O j = nI o) (hJ : ∀ M', my_R M' (mt_m K v a D C O SK m p).1 → J14 (mt_bI (mt_m K v a D C O SK m p).2) (nI (m + 1)) Z M' (mt_q K) (nI v) (nI a) D C O) : ∃ n, wY_run_26 post J14 SK (nI m) n (mt_bI p.2) 0 Z M (mt_q K) (nI v) (nI a) D C O := by
  obtain ⟨cc, hcc, ec⟩ := hC m
  have e1 : C (nI m).toNatClampNeg = nI cc := by rw [nI_clamp (by omega), ec]
  have ecl : (C m).toNatClampNeg = cc := by rw [ec, nI_clamp (by omega)]
  have e5 : 5 * C (nI m).toNatClampNeg = nI (5 * cc) := by
    rw [e1, show (5 : Int32) = nI 5 from rfl, pk_mul]
  by_cases z : nI m = SK
  · have em : mt_m K v a D C O SK m p = p := if_pos z
    rw [em] at hJ
    exact ⟨1, vp_in_nI hm (by decide), br_c (fun _ => nm_r (nI_1 m) (hJ M hs)) (fun _ => br_t z (nm_r (nI_1 m) (hJ M hs)))⟩
  · have em : mt_m K v a D C O SK m p = mt_it (mt_k K v a D C O m) (5 * cc) p := by
      unfold mt_m
      rw [if_neg z, ← mt_k_rows K v a D C O m p 5, ecl]
    rw [em] at hJ
    refine loop_0 (σ := Bool × Int32) (fun n i s => wY_run_26 post J14 SK (nI m) n (mt_bI s.1) (nI i) Z s.2 (mt_q K) (nI v) (nI a) D C O) (fun i s => my_R s.2 (mt_it (mt_k K v a D C O m) i p).1 ∧ s.1 = (mt_it (mt_k K v a D C O m) i p).2) (5 * cc) (p.2, M) ⟨hs, rfl⟩ ?_ ?_
    · intro n s hI
      have hj := hJ s.2 hI.1
      rw [← hI.2] at hj
      exact ⟨vp_in_nI hm (by decide), pk_le (5 * cc) (5 * cc) (fun _ => nm_r (nI_1 m) hj) (fun g => absurd g (by omega)) e5⟩
    · intro n i s hi hI next
      have hc0 : 0 < cc := by omega
      have hne : ¬ C (nI m).toNatClampNeg = 0 := by rw [e1]; exact nI_ne0 hc0 (by omega)
      have hin : vp_in (nI m) 6 := vp_in_nI hm (by decide)
      have hq : i / cc < 5 := (Nat.div_lt_iff_lt_mul hc0).mpr hi
      have ed : nI i / C (nI m).toNatClampNeg = nI (i / cc) := by rw [e1, pk_div (by omega) hc0 (by omega)]
      have go : ∀ z0, z0 = nI (mt_at D m (i / cc)) → wY_run_82 post J14 (wY_run_26 post J14 SK (nI m) n) SK (mt_bI s.1) (nI m) (nI i) z0 Z s.2 (mt_q K) (nI v) (nI a) D C O := by
        intro z0 hz
        have h82 := my_82 (post := post) (J14 := J14) (J26 := wY_run_26 post J14 SK (nI m) n) (Z := Z) (SK := SK) (D := D) hK hv ha hI.1 hm hcc ec hi hO hz (fun M' h' => next (_, M') ⟨h', rfl⟩)
        rw [← hI.2] at h82
        exact h82
      refine ⟨hin, pk_le (5 * cc) i (fun g => absurd g (by omega)) (fun _ => br_f z ⟨hin, br_c (fun d => ⟨hin, hne, go _ ?_⟩) (fun d => ⟨hin, hne, go _ ?_⟩)⟩) e5⟩
      · rw [nI_clamp (by omega)] at d
        have ea : mt_at D m (i / cc) = 4 - i / cc := by
          refine if_neg ?_
          rw [d]; decide
        rw [ed, ea, show (4 : Int32) = nI 4 from rfl, pk_sub (by omega)]
      · rw [nI_clamp (by omega)] at d
        have ea : mt_at D m (i / cc) = i / cc := if_pos ((hD m).resolve_right d)
        rw [ed, ea]
theorem my_14 {post : Int32 → SY → Prop} {M SK : Int32} {D C O : Nat → Int32} {K v a N : Nat} {p : mt_P} (hT : mt_T D C O N) (hK : K ≤ 14) (hv : v < 5) (ha : a < 5) (hs : my_R M p.1) (hp : ∀ M', my_R M' (mt_it (mt_m K v a D C O SK) N p).1 → post (mt_bI (mt_it (mt_m K v a D C O SK) N p).2) (nI N, M', mt_q K, nI v, nI a, D, C, O)) : ∃ n, wY_run_14 post SK n (mt_bI p.2) 0 (nI N) M (mt_q K) (nI v) (nI a) D C O := by
  obtain ⟨hN, hD, hC, hO⟩ := hT
  refine loop_0 (σ := Bool × Int32) (fun n i s => wY_run_14 post SK n (mt_bI s.1) (nI i) (nI N) s.2 (mt_q K) (nI v) (nI a) D C O) (fun i s => my_R s.2 (mt_it (mt_m K v a D C O SK) i p).1 ∧ s.1 = (mt_it (mt_m K v a D C O SK) i p).2) N (p.2, M) ⟨hs, rfl⟩ ?_ ?_
  · intro n s hI
    have hj := hp s.2 hI.1
    rw [← hI.2] at hj
    exact pk_le N N (fun _ => ⟨by cases s.1 <;> rfl, hj⟩) (fun g => absurd g (by omega))
  · intro n i s hi hI next
    refine pk_le N i (fun g => absurd g (by omega)) (fun _ => ?_)
    have h26 := my_26 (post := post) (J14 := wY_run_14 post SK n) (Z := nI N) (SK := SK) hK hv ha hI.1 (show i < 6 by omega) hD hC hO (fun M' h' => next (_, M') ⟨h', rfl⟩)
    rw [← hI.2] at h26
    exact h26
theorem my_run {post : Int32 → SY → Prop} {M SK : Int32} {D C O : Nat → Int32} {K v a N f : Nat} (hT : mt_T D C O N) (hK : K ≤ 14) (hv : v < 5) (ha : a < 5) (hp : ∀ M', post (mt_bI (mt_R K v a D C O SK N f)) (nI N, M', mt_q K, nI v, nI a, D, C, O)) : wpY_run post (nI N, M, mt_q K, nI v, nI a, D, C, O) (nI f) SK := by
  unfold wpY_run
  dsimp only
  refine my_settle (s := fun c => bt (nI f) c) hK hv ha (fun c _ => rfl) (fun M' h' => ?_)
  exact my_14 (p := (mt_hold K v a (fun c => bt (nI f) c), false)) hT hK hv ha h' (fun M2 _ => hp M2)
theorem my_count {post : Int32 → SY → Prop} {M Q V A Q' V' A' : Int32} (SK : Int32) {D C O : Nat → Int32} {K v a N : Nat} (hT : mt_T D C O N) (hK : K ≤ 14) (hv : v < 5) (ha : a < 5) (eQ : Q' = mt_q K) (eV : V' = nI v) (eA : A' = nI a) (hp : ∀ M', post (nI (mt_cnt (mt_R K v a D C O SK N) 32)) (nI N, M', mt_q K, nI v, nI a, D, C, O)) : wpY_count post (nI N, M, Q, V, A, D, C, O) Q' V' A' SK := by
  subst eQ eV eA
  refine loop_0 (σ := Int32) (fun n i s => wY_count_21 post SK n (nI (mt_cnt (mt_R K v a D C O SK N) i)) (nI i) (nI N) s (mt_q K) (nI v) (nI a) D C O) (fun _ _ => True) 32 M trivial ?_ ?_
  · intro n s _
    exact pk_le 32 32 (fun _ => hp s) (fun g => absurd g (by omega))
  · intro n i s hi _ next
    refine pk_le 32 i (fun g => absurd g (by omega)) (fun _ => my_run hT hK hv ha (fun M' => ?_))
    have hn := next M' trivial
    cases h : mt_R K v a D C O SK N i
    · have e : mt_cnt (mt_R K v a D C O SK N) (i + 1) = mt_cnt (mt_R K v a D C O SK N) i := if_neg (by rw [h]; decide)
      rw [e] at hn
      exact br_t (by decide) (nm_r (nI_1 i) hn)
    · have e : mt_cnt (mt_R K v a D C O SK N) (i + 1) = mt_cnt (mt_R K v a D C O SK N) i + 1 := if_pos h
      rw [e] at hn
      exact br_f (by decide) (nm_r (nI_1 _) (nm_r (nI_1 i) hn))
