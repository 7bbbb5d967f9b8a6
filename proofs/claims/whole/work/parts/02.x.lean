/-! the class: bit f of e c is cell c of the memory that began with filling f -/
def mx_R (e : Nat → Int32) (S : Nat → Nat → Bool) : Prop := ∀ c, c < 5 → ∀ f, f < 32 → bt (e c) f = S f c
def mx_A (K a : Nat) (P : Int32) : Prop := a < 5 ∧ (4 ≤ K → K ≤ 13 → P = nI a)
theorem mx_upd {e : Nat → Int32} {S : Nat → Nat → Bool} {v : Nat} {x : Int32} (b : Nat → Bool) (h : mx_R e S) (hv : v < 5) (hx : ∀ f, f < 32 → bt x f = b f) : mx_R (upd e (nI v).toNatClampNeg x) (fun f => mt_set (S f) v (b f)) := by
  intro c hc f hf
  rw [nI_clamp (by omega)]
  show bt (if c = v then x else e c) f = (if c = v then b f else S f c)
  by_cases z : c = v
  · rw [if_pos z, if_pos z]; exact hx f hf
  · rw [if_neg z, if_neg z]; exact h c hc f hf
theorem mx_get {e : Nat → Int32} {S : Nat → Nat → Bool} {v : Nat} (h : mx_R e S) (hv : v < 5) {f : Nat} (hf : f < 32) : bt (e (nI v).toNatClampNeg) f = S f v := by
  rw [nI_clamp (by omega)]; exact h v hv f hf
theorem mx_not (x : Int32) {f : Nat} (hf : f < 32) : bt (x ^^^ (-1)) f = !bt x f := by
  rw [b_xor, b_m1 f hf, Bool.xor_true]
theorem mx_hold {post : SX → Prop} {M : Int32} {D C O e : Nat → Int32} {P2 : Int32} {K v a : Nat} {S : Nat → Nat → Bool} (hK : K ≤ 14) (hv : v < 5) (hA : mx_A K a P2) (hS : mx_R e S) (hp : ∀ e', mx_R e' (fun f => mt_hold K v a (S f)) → post (M, D, C, O, e')) : wpX_hold post (M, D, C, O, e) (nI K) (nI v) P2 := by
  have iv : vp_in (nI v) 5 := vp_in_nI hv (by decide)
  have ia : vp_in (nI a) 5 := vp_in_nI hA.1 (by decide)
  have hc : K = 0 ∨ K = 1 ∨ K = 2 ∨ K = 3 ∨ K = 4 ∨ K = 5 ∨ K = 6 ∨ K = 7 ∨ K = 8 ∨ K = 9 ∨ K = 10 ∨ K = 11 ∨ K = 12 ∨ K = 13 ∨ K = 14 := by omega
  rcases hc with rfl | rfl | rfl | rfl | rfl | rfl | rfl | rfl | rfl | rfl | rfl | rfl | rfl | rfl | rfl
  · exact br_f (by decide) (br_f (by decide) (br_t (by decide) (⟨iv, nm_e (hp _ (mx_upd (fun _ => false) hS hv (fun f _ => b_0 f)))⟩)))
  · exact br_f (by decide) (br_f (by decide) (br_f (by decide) (br_t (by decide) (⟨iv, nm_e (hp _ (mx_upd (fun _ => true) hS hv (fun f hf => b_m1 f hf)))⟩))))
  · exact br_f (by decide) (br_f (by decide) (br_f (by decide) (br_f (by decide) (br_t (by decide) (hp e hS)))))
  · exact br_f (by decide) (br_f (by decide) (br_f (by decide) (br_f (by decide) (br_f (by decide) (br_t (by decide) (hp e hS))))))
  · exact br_f (by decide) (br_f (by decide) (br_f (by decide) (br_f (by decide) (br_f (by decide) (br_f (by decide) (br_t (by decide) (hp e hS)))))))
  · exact br_f (by decide) (br_f (by decide) (br_f (by decide) (br_f (by decide) (br_f (by decide) (br_f (by decide) (br_f (by decide) (br_t (by decide) (hp e hS))))))))
  · exact br_f (by decide) (br_f (by decide) (br_f (by decide) (br_f (by decide) (br_f (by decide) (br_f (by decide) (br_f (by decide) (br_f (by decide) (br_t (by decide) (hp e hS)))))))))
  · exact br_f (by decide) (br_f (by decide) (br_f (by decide) (br_f (by decide) (br_f (by decide) (br_f (by decide) (br_f (by decide) (br_f (by decide) (br_f (by decide) (br_t (by decide) (hp e hS))))))))))
  · exact br_f (by decide) (br_f (by decide) (br_f (by decide) (br_f (by decide) (br_f (by decide) (br_f (by decide) (br_f (by decide) (br_f (by decide) (br_f (by decide) (br_f (by decide) (br_t (by decide) (hp e hS)))))))))))
  · exact br_f (by decide) (br_f (by decide) (br_f (by decide) (br_f (by decide) (br_f (by decide) (br_f (by decide) (br_f (by decide) (br_f (by decide) (br_f (by decide) (br_f (by decide) (br_f (by decide) (br_t (by decide) (hp e hS))))))))))))
  · obtain rfl := hA.2 (by omega) (by omega)
    exact br_f (by decide) (br_f (by decide) (br_f (by decide) (br_f (by decide) (br_f (by decide) (br_f (by decide) (br_f (by decide) (br_f (by decide) (br_f (by decide) (br_f (by decide) (br_f (by decide) (br_f (by decide) (br_t (by decide) (⟨iv, ia, iv, nm_e (hp _ (mx_upd (fun f => S f v && S f a) hS hv (fun f hf => by rw [b_and, mx_get hS hv hf, mx_get hS hA.1 hf])))⟩)))))))))))))
  · obtain rfl := hA.2 (by omega) (by omega)
    exact br_f (by decide) (br_f (by decide) (br_f (by decide) (br_f (by decide) (br_f (by decide) (br_f (by decide) (br_f (by decide) (br_f (by decide) (br_f (by decide) (br_f (by decide) (br_f (by decide) (br_f (by decide) (br_f (by decide) (br_t (by decide) (⟨iv, ia, iv, nm_e (hp _ (mx_upd (fun f => S f v || !S f a) hS hv (fun f hf => by rw [b_or, mx_not _ hf, mx_get hS hv hf, mx_get hS hA.1 hf])))⟩))))))))))))))
  · obtain rfl := hA.2 (by omega) (by omega)
    exact br_f (by decide) (br_f (by decide) (br_f (by decide) (br_f (by decide) (br_f (by decide) (br_f (by decide) (br_f (by decide) (br_f (by decide) (br_f (by decide) (br_f (by decide) (br_f (by decide) (br_f (by decide) (br_f (by decide) (br_f (by decide) (br_t (by decide) (⟨iv, ia, iv, nm_e (hp _ (mx_upd (fun f => S f v && !S f a) hS hv (fun f hf => by rw [b_and, mx_not _ hf, mx_get hS hv hf, mx_get hS hA.1 hf])))⟩)))))))))))))))
  · obtain rfl := hA.2 (by omega) (by omega)
    exact br_f (by decide) (br_f (by decide) (br_f (by decide) (br_f (by decide) (br_f (by decide) (br_f (by decide) (br_f (by decide) (br_f (by decide) (br_f (by decide) (br_f (by decide) (br_f (by decide) (br_f (by decide) (br_f (by decide) (br_f (by decide) (br_f (by decide) (br_t (by decide) (⟨iv, ia, iv, nm_e (hp _ (mx_upd (fun f => S f v || S f a) hS hv (fun f hf => by rw [b_or, mx_get hS hv hf, mx_get hS hA.1 hf])))⟩))))))))))))))))
  · exact br_f (by decide) (br_t (by decide) (hp e hS))
theorem mx_dist {post : SX → Prop} {M : Int32} {D C O e : Nat → Int32} {P2 P3 : Int32} {K v : Nat} {S : Nat → Nat → Bool} {r q : Nat → Bool} (hK : K ≤ 14) (hv : v < 5) (hS : mx_R e S) (hr : ∀ f, f < 32 → bt P2 f = r f) (hq : ∀ f, f < 32 → bt P3 f = q f) (hp : ∀ e', mx_R e' (fun f => mt_dist K v (S f) (r f) (q f)) → post (M, D, C, O, e')) : wpX_disturb post (M, D, C, O, e) (nI K) (nI v) P2 P3 := by
  have iv : vp_in (nI v) 5 := vp_in_nI hv (by decide)
  have hc : K = 0 ∨ K = 1 ∨ K = 2 ∨ K = 3 ∨ K = 4 ∨ K = 5 ∨ K = 6 ∨ K = 7 ∨ K = 8 ∨ K = 9 ∨ K = 10 ∨ K = 11 ∨ K = 12 ∨ K = 13 ∨ K = 14 := by omega
  rcases hc with rfl | rfl | rfl | rfl | rfl | rfl | rfl | rfl | rfl | rfl | rfl | rfl | rfl | rfl | rfl
  · exact br_t (by decide) (hp e hS)
  · exact br_t (by decide) (hp e hS)
  · exact br_t (by decide) (hp e hS)
  · exact br_t (by decide) (hp e hS)
  · exact br_f (by decide) (br_f (by decide) (br_t (by decide) (⟨iv, iv, nm_e (hp _ (mx_upd (fun f => S f v ^^ r f) hS hv (fun f hf => by rw [b_xor, mx_get hS hv hf, hr f hf])))⟩)))
  · exact br_f (by decide) (br_f (by decide) (br_f (by decide) (br_t (by decide) (⟨iv, iv, nm_e (hp _ (mx_upd (fun f => S f v ^^ q f) hS hv (fun f hf => by rw [b_xor, mx_get hS hv hf, hq f hf])))⟩))))
  · exact br_f (by decide) (br_f (by decide) (br_f (by decide) (br_f (by decide) (br_t (by decide) (⟨iv, iv, nm_e (hp _ (mx_upd (fun f => S f v && !r f) hS hv (fun f hf => by rw [b_and, mx_not _ hf, mx_get hS hv hf, hr f hf])))⟩)))))
  · exact br_f (by decide) (br_f (by decide) (br_f (by decide) (br_f (by decide) (br_f (by decide) (br_t (by decide) (⟨iv, iv, nm_e (hp _ (mx_upd (fun f => S f v || r f) hS hv (fun f hf => by rw [b_or, mx_get hS hv hf, hr f hf])))⟩))))))
  · exact br_f (by decide) (br_f (by decide) (br_f (by decide) (br_f (by decide) (br_f (by decide) (br_f (by decide) (br_t (by decide) (⟨iv, iv, nm_e (hp _ (mx_upd (fun f => S f v && !q f) hS hv (fun f hf => by rw [b_and, mx_not _ hf, mx_get hS hv hf, hq f hf])))⟩)))))))
  · exact br_f (by decide) (br_f (by decide) (br_f (by decide) (br_f (by decide) (br_f (by decide) (br_f (by decide) (br_f (by decide) (br_t (by decide) (⟨iv, iv, nm_e (hp _ (mx_upd (fun f => S f v || q f) hS hv (fun f hf => by rw [b_or, mx_get hS hv hf, hq f hf])))⟩))))))))
  · exact br_f (by decide) (br_t (by decide) (hp e hS))
  · exact br_f (by decide) (br_t (by decide) (hp e hS))
  · exact br_f (by decide) (br_t (by decide) (hp e hS))
  · exact br_f (by decide) (br_t (by decide) (hp e hS))
  · exact br_f (by decide) (br_t (by decide) (hp e hS))
theorem mt_dist_id {K v : Nat} {s : Nat → Bool} {r q : Bool} (h : K < 4 ∨ 13 < K) : mt_dist K v s r q = s := by
  unfold mt_dist
  rw [if_neg (by omega), if_neg (by omega), if_neg (by omega), if_neg (by omega), if_neg (by omega), if_neg (by omega)]
theorem mx_taken {post : Int32 → Prop} {x P1 : Int32} {K : Nat} {X : Nat → Bool} {b : Bool} (hK : K ≤ 14) (hx : ∀ f, f < 32 → bt x f = X f) (hb : ∀ f, f < 32 → bt P1 f = b) (hp : ∀ y, (∀ f, f < 32 → bt y f = mt_take K (X f) b) → post y) : wpX_taken post (nI K) x P1 := by
  refine pk_eq K 2 (fun z => hp _ (fun f hf => ?_)) (fun z => pk_eq K 3 (fun z3 => hp _ (fun f hf => ?_)) (fun z3 => hp _ (fun f hf => ?_)))
  · unfold mt_take; rw [if_pos z, b_and, hx f hf, hb f hf]
  · unfold mt_take; rw [if_neg z, if_pos z3, b_or, hx f hf, hb f hf]
  · unfold mt_take; rw [if_neg z, if_neg z3, hb f hf]
theorem mx_56 {post : SX → Prop} {M : Int32} {D C O e : Nat → Int32} {P2 : Int32} {K v a : Nat} {S : Nat → Nat → Bool} (hK : K ≤ 14) (hv : v < 5) (hA : mx_A K a P2) (hS : mx_R e S) (hp : ∀ e', mx_R e' (fun f => mt_hold K v a (S f)) → post (M, D, C, O, e')) : wX_write_56 post (nI K) (nI v) P2 M D C O e := by
  unfold wX_write_56
  exact mx_hold hK hv hA hS hp
theorem mx_30 {post : SX → Prop} {M : Int32} {D C O e : Nat → Int32} {P1 P4 x : Int32} {K v a c : Nat} {S : Nat → Nat → Bool} {b : Bool} (hK : K ≤ 14) (hv : v < 5) (hA : mx_A K a P4) (hc : c < 5) (hS : mx_R e S) (hb : ∀ f, f < 32 → bt P1 f = b) (hx : ∀ f, f < 32 → bt x f = (if c = v then mt_take K (S f c) b else b)) (hp : ∀ e', mx_R e' (fun f => mt_write K v a c b (S f)) → post (M, D, C, O, e')) : wX_write_30 post (nI c) P1 (nI K) (nI v) P4 (e (nI c).toNatClampNeg) x (nI c) M D C O e := by
  have h1 : mx_R (upd e (nI c).toNatClampNeg x) (fun f => mt_put K v c b (S f)) := mx_upd (fun f => if c = v then mt_take K (S f c) b else b) hS hc hx
  refine ⟨vp_in_nI hc (by decide), nm_e (br_c (fun z => ?_) (fun z => ?_))⟩
  · refine mx_dist (r := fun f => !S f c && b) (q := fun f => S f c && !b) hK hv h1 (fun f hf => ?_) (fun f hf => ?_) (fun e' h' => ?_)
    · rw [b_and, mx_not _ hf, mx_get hS hc hf, hb f hf]
    · rw [b_and, mx_not _ hf, mx_get hS hc hf, hb f hf]
    · refine mx_56 hK hv hA h' (fun e2 h2 => hp e2 ?_)
      have ee : (fun f => mt_write K v a c b (S f)) = (fun f => mt_hold K v a (mt_dist K v (mt_put K v c b (S f)) (!S f c && b) (S f c && !b))) := by
        funext f
        unfold mt_write
        by_cases ca : c = a
        · rw [if_pos ca]
        · rw [if_neg ca]
          have hh : K < 4 ∨ 13 < K := by
            rcases Nat.lt_or_ge K 4 with g | g
            · exact Or.inl g
            · rcases Nat.lt_or_ge 13 K with g2 | g2
              · exact Or.inr g2
              · have e4 := hA.2 g g2
                rw [e4, nI_eq (by omega) (by have := hA.1; omega)] at z
                exact absurd z ca
          rw [mt_dist_id hh]
      rw [ee]
      exact h2
  · refine mx_56 hK hv hA h1 (fun e2 h2 => hp e2 ?_)
    have ee : (fun f => mt_write K v a c b (S f)) = (fun f => mt_hold K v a (mt_put K v c b (S f))) := by
      funext f
      unfold mt_write
      by_cases ca : c = a
      · rw [if_pos ca]
        have hh : K < 4 ∨ 13 < K := by
          rcases Nat.lt_or_ge K 4 with g | g
          · exact Or.inl g
          · rcases Nat.lt_or_ge 13 K with g2 | g2
            · exact Or.inr g2
            · have e4 := hA.2 g g2
              rw [e4, ca] at z
              exact absurd rfl z
        rw [mt_dist_id hh]
      · rw [if_neg ca]
    rw [ee]
    exact h2
theorem mx_write {post : SX → Prop} {M : Int32} {D C O e : Nat → Int32} {P1 P4 : Int32} {K v a c : Nat} {S : Nat → Nat → Bool} {b : Bool} (hK : K ≤ 14) (hv : v < 5) (hA : mx_A K a P4) (hc : c < 5) (hS : mx_R e S) (hb : ∀ f, f < 32 → bt P1 f = b) (hp : ∀ e', mx_R e' (fun f => mt_write K v a c b (S f)) → post (M, D, C, O, e')) : wpX_write post (M, D, C, O, e) (nI c) P1 (nI K) (nI v) P4 := by
  refine ⟨vp_in_nI hc (by decide), nm_e (pk_eq c v (fun z => ?_) (fun z => ?_))⟩
  · refine mx_taken (X := fun f => S f c) (b := b) hK (fun f hf => mx_get hS hc hf) hb (fun y hy => ?_)
    refine mx_30 hK hv hA hc hS hb (fun f hf => ?_) hp
    rw [if_pos z]; exact hy f hf
  · refine mx_30 hK hv hA hc hS hb (fun f hf => ?_) hp
    rw [if_neg z]; exact hb f hf
def mx_RA (e : Nat → Int32) (A : Int32) (S : Nat → mt_P) : Prop := mx_R e (fun f => (S f).1) ∧ ∀ f, f < 32 → bt A f = (S f).2
theorem mt_ix (m i : Nat) : nI m * 4 + nI i = nI (4 * m + i) := by
  rw [show (4 : Int32) = nI 4 from rfl, pk_mul, nI_add, Nat.mul_comm]
theorem mx_79 {post : Int32 → SX → Prop} {J17 J49 : Int32 → Int32 → Int32 → (Nat → Int32) → (Nat → Int32) → (Nat → Int32) → (Nat → Int32) → Prop} {M A P3 SK : Int32} {D C O e : Nat → Int32} {K v a m cc j c : Nat} {S : Nat → mt_P} (hK : K ≤ 14) (hv : v < 5) (hA : mx_A K a P3) (hm : m < 6) (hcc : cc ≤ 4) (hO : ∀ j, ∃ o, o < 4 ∧ O j = nI o) (hc : c < 5) (h0 : mx_RA e A S) (hJ : ∀ e' A', mx_RA e' A' (fun f => mt_it (mt_cell K v a O m c) cc (S f)) → J49 A' (nI (j + 1)) M D C O e') : ∃ n, wX_alarms_79 post J17 J49 (nI K) (nI v) P3 SK (nI m) (nI cc) (nI j) (nI c) n A 0 M D C O e := by
  refine loop_0 (σ := Int32 × (Nat → Int32)) (fun n i s => wX_alarms_79 post J17 J49 (nI K) (nI v) P3 SK (nI m) (nI cc) (nI j) (nI c) n s.1 (nI i) M D C O s.2) (fun i s => mx_RA s.2 s.1 (fun f => mt_it (mt_cell K v a O m c) i (S f))) cc (A, e) h0 ?_ ?_
  · intro n s hs
    exact pk_le cc cc (fun _ => nm_r (nI_1 j) (hJ _ _ hs)) (fun z => absurd z (by omega))
  · intro n i s hi hs next
    obtain ⟨o, ho, eo⟩ := hO (4 * m + i)
    have e1 : O (nI m * 4 + nI i).toNatClampNeg = nI o := by rw [mt_ix, nI_clamp (by omega), eo]
    have e2 : ∀ f, mt_it (mt_cell K v a O m c) (i + 1) (S f) = mt_step K v a o c (mt_it (mt_cell K v a O m c) i (S f)) := by
      intro f
      show mt_step K v a (O (4 * m + i)).toNatClampNeg c _ = _
      rw [eo, nI_clamp (by omega)]
    refine pk_le cc i (fun z => absurd z (by omega)) (fun _ => ⟨?_, nm_r e1 (nm_e (pk_lt o 2 (fun z => ?_) (fun z => ?_)))⟩)
    · rw [mt_ix]; exact vp_in_nI (by omega) (by decide)
    · refine mx_write (b := decide (o = 1)) hK hv hA hc hs.1 (fun f hf => ?_) (fun e' h' => nm_r (nI_1 i) (next (s.1, e') ⟨?_, fun f hf => ?_⟩))
      · rw [mt_bits o ho f hf]
        exact decide_eq_decide.mpr (by omega)
      · have ee : (fun f => (mt_it (mt_cell K v a O m c) (i + 1) (S f)).1) = (fun f => mt_write K v a c (decide (o = 1)) (mt_it (mt_cell K v a O m c) i (S f)).1) := by
          funext f
          rw [e2 f]; unfold mt_step; rw [if_pos z]
        show mx_R e' (fun f => (mt_it (mt_cell K v a O m c) (i + 1) (S f)).1)
        rw [ee]; exact h'
      · show bt s.1 f = (mt_it (mt_cell K v a O m c) (i + 1) (S f)).2
        rw [e2 f]; unfold mt_step; rw [if_pos z]
        exact hs.2 f hf
    · refine ⟨vp_in_nI hc (by decide), nm_e (nm_r (nI_1 i) (next (_, s.2) ⟨?_, fun f hf => ?_⟩))⟩
      · have ee : (fun f => (mt_it (mt_cell K v a O m c) (i + 1) (S f)).1) = (fun f => (mt_it (mt_cell K v a O m c) i (S f)).1) := by
          funext f
          rw [e2 f]; unfold mt_step; rw [if_neg (by omega)]
        show mx_R s.2 (fun f => (mt_it (mt_cell K v a O m c) (i + 1) (S f)).1)
        rw [ee]; exact hs.1
      · show bt (s.1 ||| (s.2 (nI c).toNatClampNeg ^^^ -(nI o &&& 1))) f = (mt_it (mt_cell K v a O m c) (i + 1) (S f)).2
        rw [e2 f]; unfold mt_step; rw [if_neg (by omega), b_or, b_xor, hs.2 f hf, mx_get hs.1 hc hf, mt_bits o ho f hf, show decide (o % 2 = 1) = decide (o = 3) from decide_eq_decide.mpr (by omega)]
theorem mt_at_lt {D : Nat → Int32} {m j : Nat} (h : j < 5) : mt_at D m j < 5 := by
  unfold mt_at
  split <;> omega
theorem mx_49 {post : Int32 → SX → Prop} {J17 : Int32 → Int32 → Int32 → (Nat → Int32) → (Nat → Int32) → (Nat → Int32) → (Nat → Int32) → Prop} {M A P3 SK : Int32} {D C O e : Nat → Int32} {K v a m cc : Nat} {S : Nat → mt_P} (hK : K ≤ 14) (hv : v < 5) (hA : mx_A K a P3) (hm : m < 6) (hcc : cc ≤ 4) (hO : ∀ j, ∃ o, o < 4 ∧ O j = nI o) (h0 : mx_RA e A S) (hJ : ∀ e' A', mx_RA e' A' (fun f => mt_it (mt_row K v a D O m cc) 5 (S f)) → J17 A' (nI (m + 1)) M D C O e') : ∃ n, wX_alarms_49 post J17 (nI K) (nI v) P3 SK (nI m) (nI cc) n A 0 M D C O e := by
  refine loop_0 (σ := Int32 × (Nat → Int32)) (fun n i s => wX_alarms_49 post J17 (nI K) (nI v) P3 SK (nI m) (nI cc) n s.1 (nI i) M D C O s.2) (fun i s => mx_RA s.2 s.1 (fun f => mt_it (mt_row K v a D O m cc) i (S f))) 5 (A, e) h0 ?_ ?_
  · intro n s hs
    exact pk_le 5 5 (fun _ => nm_r (nI_1 m) (hJ _ _ hs)) (fun z => absurd z (by omega))
  · intro n i s hi hs next
    have hD : D (nI m).toNatClampNeg = D m := by rw [nI_clamp (by omega)]
    refine pk_le 5 i (fun z => absurd z (by omega)) (fun _ => ⟨vp_in_nI hm (by decide), br_c (fun z => ?_) (fun z => nm_r (e' := nI (4 - i)) (pk_sub (a := 4) (b := i) (by omega)) ?_)⟩)
    · rw [hD] at z
      have ec : mt_at D m i = i := if_pos z
      exact mx_79 (c := i) (j := i) hK hv hA hm hcc hO hi hs (fun e' A' h' => next (A', e') (by
        show mx_RA e' A' (fun f => mt_it (mt_cell K v a O m (mt_at D m i)) cc (mt_it (mt_row K v a D O m cc) i (S f)))
        rw [ec]; exact h'))
    · rw [hD] at z
      have ec : mt_at D m i = 4 - i := if_neg z
      exact mx_79 (c := 4 - i) (j := i) hK hv hA hm hcc hO (by omega) hs (fun e' A' h' => next (A', e') (by
        show mx_RA e' A' (fun f => mt_it (mt_cell K v a O m (mt_at D m i)) cc (mt_it (mt_row K v a D O m cc) i (S f)))
        rw [ec]; exact h'))
theorem mx_17 {post : Int32 → SX → Prop} {A P3 SK : Int32} {D C O e : Nat → Int32} {K v a N : Nat} {S : Nat → mt_P} (hT : mt_T D C O N) (hK : K ≤ 14) (hv : v < 5) (hA : mx_A K a P3) (h0 : mx_RA e A S) (hp : ∀ e' A', mx_RA e' A' (fun f => mt_it (mt_m K v a D C O SK) N (S f)) → post A' (nI N, D, C, O, e')) : ∃ n, wX_alarms_17 post (nI K) (nI v) P3 SK n A 0 (nI N) D C O e := by
  obtain ⟨hN, _, hC, hO⟩ := hT
  refine loop_0 (σ := Int32 × (Nat → Int32)) (fun n i s => wX_alarms_17 post (nI K) (nI v) P3 SK n s.1 (nI i) (nI N) D C O s.2) (fun i s => mx_RA s.2 s.1 (fun f => mt_it (mt_m K v a D C O SK) i (S f))) N (A, e) h0 ?_ ?_
  · intro n s hs
    exact pk_le N N (fun _ => hp _ _ hs) (fun z => absurd z (by omega))
  · intro n i s hi hs next
    refine pk_le N i (fun z => absurd z (by omega)) (fun _ => br_c (fun z => ?_) (fun z => ⟨vp_in_nI (by omega) (by decide), ?_⟩))
    · refine mx_49 (cc := 0) hK hv hA (by omega) (by omega) hO hs (fun e' A' h' => next (A', e') ?_)
      have ee : (fun f => mt_it (mt_m K v a D C O SK) (i + 1) (S f)) = (fun f => mt_it (mt_row K v a D O i 0) 5 (mt_it (mt_m K v a D C O SK) i (S f))) := by
        funext f
        show mt_m K v a D C O SK i _ = _
        unfold mt_m
        rw [if_pos z, mt_it_id (g := mt_row K v a D O i 0) (fun _ _ => rfl)]
      show mx_RA e' A' (fun f => mt_it (mt_m K v a D C O SK) (i + 1) (S f))
      rw [ee]; exact h'
    · obtain ⟨cc, hcc, ec⟩ := hC i
      have e1 : C (nI i).toNatClampNeg = nI cc := by rw [nI_clamp (by omega), ec]
      refine nm_r e1 ?_
      refine mx_49 (cc := cc) hK hv hA (by omega) hcc hO hs (fun e' A' h' => next (A', e') ?_)
      have ee : (fun f => mt_it (mt_m K v a D C O SK) (i + 1) (S f)) = (fun f => mt_it (mt_row K v a D O i cc) 5 (mt_it (mt_m K v a D C O SK) i (S f))) := by
        funext f
        show mt_m K v a D C O SK i _ = _
        unfold mt_m
        rw [if_neg z, ec, nI_clamp (by omega)]
      show mx_RA e' A' (fun f => mt_it (mt_m K v a D C O SK) (i + 1) (S f))
      rw [ee]; exact h'
theorem mx_f11 {post : SX → Prop} {J2 : Int32 → (Nat → Int32) → (Nat → Int32) → (Nat → Int32) → (Nat → Int32) → Prop} {M : Int32} {D C O e : Nat → Int32} {c : Nat} (hc : c < 5) (hJ : ∀ x, (∀ f, f < 32 → bt x f = bt (nI f) c) → J2 (nI (c + 1)) D C O (upd e (nI c).toNatClampNeg x)) : ∃ n, wX_fillAllWays_11 post J2 (nI c) M D C O e n 0 0 := by
  refine loop_0 (σ := Int32) (fun n i s => wX_fillAllWays_11 post J2 (nI c) M D C O e n s (nI i)) (fun i s => ∀ f, f < 32 → bt s f = (decide (f < i) && bt (nI f) c)) 32 0 (fun f hf => by rw [b_0]; rfl) ?_ ?_
  · intro n s hs
    refine pk_le 32 32 (fun _ => ⟨vp_in_nI hc (by decide), nm_e (nm_r (nI_1 c) (hJ s (fun f hf => ?_)))⟩) (fun z => absurd z (by omega))
    rw [hs f hf, decide_eq_true hf, Bool.true_and]
  · intro n i s hi hs next
    refine pk_le 32 i (fun z => absurd z (by omega)) (fun _ => nm_e (nm_r (nI_1 i) (next _ (fun f hf => ?_))))
    rw [b_or, hs f hf, b_shl i hi _ hf, b_and, b_ushr c (by omega), mt_b1 (f - i) (by omega)]
    rcases Nat.lt_trichotomy f i with g | g | g
    · rw [decide_eq_true g, decide_eq_true (show f < i + 1 by omega), decide_eq_false (show ¬ i ≤ f by omega), Bool.false_and, Bool.or_false]
    · subst g
      rw [decide_eq_false (show ¬ f < f by omega), decide_eq_true (show f < f + 1 by omega), decide_eq_true (Nat.le_refl f), Nat.sub_self, Nat.add_zero, decide_eq_true rfl, Bool.false_and, Bool.false_or, Bool.and_true]
    · rw [decide_eq_false (show ¬ f < i by omega), decide_eq_false (show ¬ f < i + 1 by omega), decide_eq_false (show ¬ f - i = 0 by omega), Bool.and_false, Bool.and_false, Bool.false_and, Bool.or_false]
theorem mx_fill {post : SX → Prop} {M : Int32} {D C O e : Nat → Int32} (hp : ∀ e', mx_R e' (fun f c => bt (nI f) c) → post (M, D, C, O, e')) : wpX_fillAllWays post (M, D, C, O, e) := by
  refine loop_0 (σ := Nat → Int32) (fun n i s => wX_fillAllWays_2 post M n (nI i) D C O s) (fun i s => ∀ c, c < i → ∀ f, f < 32 → bt (s c) f = bt (nI f) c) 5 e (fun c hc => absurd hc (by omega)) ?_ ?_
  · intro n s hs
    exact pk_le 5 5 (fun _ => hp s hs) (fun z => absurd z (by omega))
  · intro n i s hi hs next
    refine pk_le 5 i (fun z => absurd z (by omega)) (fun _ => mx_f11 hi (fun x hx => next _ (fun c hc f hf => ?_)))
    rw [nI_clamp (by omega)]
    show bt (if c = i then x else s c) f = _
    by_cases z : c = i
    · rw [if_pos z, z]; exact hx f hf
    · rw [if_neg z]; exact hs c (by omega) f hf
theorem mx_alarms {post : Int32 → SX → Prop} {P3 : Int32} (SK : Int32) {D C O e : Nat → Int32} {K v a N : Nat} (hT : mt_T D C O N) (hK : K ≤ 14) (hv : v < 5) (hA : mx_A K a P3) (hp : ∀ A e', (∀ f, f < 32 → bt A f = mt_R K v a D C O SK N f) → post A (nI N, D, C, O, e')) : wpX_alarms post (nI N, D, C, O, e) (nI K) (nI v) P3 SK := by
  unfold wpX_alarms
  dsimp only
  refine mx_fill (fun e1 h1 => ?_)
  refine mx_hold hK hv hA h1 (fun e2 h2 => ?_)
  exact mx_17 (S := fun f => (mt_hold K v a (fun c => bt (nI f) c), false)) hT hK hv hA ⟨h2, fun f hf => b_0 f⟩ (fun e' A' h' => hp A' e' h'.2)
