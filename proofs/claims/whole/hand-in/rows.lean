section
/-! rows pasted from kit/rows (PURE-ROWS, BITS) -/
theorem pk_us {f : Nat → Int32} {k : Nat} {x : Int32} : upd f k x k = x := if_pos rfl
theorem pk_un {f : Nat → Int32} {k j : Nat} {x : Int32} (h : j ≠ k) : upd f k x j = f j := if_neg h
theorem pk_sub {a b : Nat} (h : b ≤ a) : nI a - nI b = nI (a - b) := by
  obtain ⟨c, rfl⟩ : ∃ c, a = c + b := ⟨a - b, by omega⟩
  rw [← nI_add, Int32.add_sub_cancel, Nat.add_sub_cancel]
theorem pk_mul (a b : Nat) : nI a * nI b = nI (a * b) := (Int32.ofNat_mul a b).symm
theorem pk_div {a d : Nat} (ha : a < 2 ^ 31) (h0 : 0 < d) (hd : d < 2 ^ 31) : nI a / nI d = nI (a / d) := by
  apply Int32.toInt_inj.mp
  rw [lg_idiv_nonneg (by rw [nI_toInt ha]; omega) (by rw [nI_toInt hd]; omega), nI_toInt ha, nI_toInt hd, nI_toInt (Nat.lt_of_le_of_lt (Nat.div_le_self a d) ha)]
  first | rfl | exact (Int.natCast_ediv _ _).symm
theorem pk_rem {a d : Nat} (ha : a < 2 ^ 31) (h0 : 0 < d) (hd : d < 2 ^ 31) : nI a - nI a / nI d * nI d = nI (a % d) := by
  rw [pk_div ha h0 hd, pk_mul, pk_sub (Nat.div_mul_le_self a d)]
  exact congrArg nI (by have := Nat.div_add_mod' a d; omega)
theorem pk_ix (x : Int32) {n : Nat} (hn : n < 2 ^ 31) : x < 0 ∨ nI n ≤ x ∨ ∃ j : Nat, j < n ∧ x = nI j := by
  by_cases h : x < 0
  · exact Or.inl h
  · obtain ⟨j, hj, rfl⟩ := nI_of h
    by_cases h2 : j < n
    · exact Or.inr (Or.inr ⟨j, h2, rfl⟩)
    · exact Or.inr (Or.inl (nI_le (by omega) hj))
theorem pk_le {x y : Int32} {A B : Prop} (a b : Nat) (f : a ≤ b → A) (g : b < a → B) (hx : x = nI a := by rfl) (hy : y = nI b := by rfl) (ha : a < 2 ^ 31 := by omega) (hb : b < 2 ^ 31 := by omega) : (x ≤ y → A) ∧ (¬ x ≤ y → B) := by
  subst hx hy
  rw [nI_leI ha hb]
  exact ⟨f, fun z => g (by omega)⟩
theorem pk_lt {x y : Int32} {A B : Prop} (a b : Nat) (f : a < b → A) (g : b ≤ a → B) (hx : x = nI a := by rfl) (hy : y = nI b := by rfl) (ha : a < 2 ^ 31 := by omega) (hb : b < 2 ^ 31 := by omega) : (x < y → A) ∧ (¬ x < y → B) := by
  subst hx hy
  rw [nI_ltI ha hb]
  exact ⟨f, fun z => g (by omega)⟩
theorem pk_eq {x y : Int32} {A B : Prop} (a b : Nat) (f : a = b → A) (g : a ≠ b → B) (hx : x = nI a := by rfl) (hy : y = nI b := by rfl) (ha : a < 2 ^ 31 := by omega) (hb : b < 2 ^ 31 := by omega) : (x = y → A) ∧ (¬ x = y → B) := by
  subst hx hy
  rw [nI_eq ha hb]
  exact ⟨f, g⟩
theorem pk_in {x : Int32} (n N : Nat) (h : n < N) (hx : x = nI n := by rfl) (hN : N < 2 ^ 31 := by omega) : vp_in x N := by
  subst hx
  exact vp_in_nI h hN
theorem pk_cl {x : Int32} (n : Nat) (hx : x = nI n := by rfl) (h : n < 2 ^ 31 := by omega) : x.toNatClampNeg = n := by
  subst hx
  exact nI_clamp h
theorem pk_loop {σ : Type} (W : Nat → Nat → σ → Prop) (I : Nat → σ → Prop) (e i0 : Nat) (s : σ) (hi : i0 ≤ e) (h0 : I i0 s) (hx : ∀ n s, I e s → W (n + 1) e s)
    (hs : ∀ n i s, i < e → I i s → (∀ s', I (i + 1) s' → W n (i + 1) s') → W (n + 1) i s) : ∃ n, W n i0 s :=
  ⟨e + 1, loop_i W I e hx hs (e + 1) i0 s hi (by omega) h0⟩
def bt (x : Int32) (i : Nat) : Bool := x.toBitVec.getLsbD i
theorem b_ext {x y : Int32} (h : ∀ i, i < 32 → bt x i = bt y i) : x = y := Int32.toBitVec_inj.mp (BitVec.eq_of_getLsbD_eq (fun i hi => h i hi))
theorem b_or (x y : Int32) (i : Nat) : bt (x ||| y) i = (bt x i || bt y i) := by unfold bt; rw [Int32.toBitVec_or, BitVec.getLsbD_or]
theorem b_and (x y : Int32) (i : Nat) : bt (x &&& y) i = (bt x i && bt y i) := by unfold bt; rw [Int32.toBitVec_and, BitVec.getLsbD_and]
theorem b_xor (x y : Int32) (i : Nat) : bt (x ^^^ y) i = (bt x i ^^ bt y i) := by unfold bt; rw [Int32.toBitVec_xor, BitVec.getLsbD_xor]
theorem b_big {x : Int32} {i : Nat} (h : 32 ≤ i) : bt x i = false := BitVec.getLsbD_of_ge _ _ h
theorem b_m1 : ∀ i, i < 32 → bt (-1) i = true := by decide +kernel
theorem b_0 (i : Nat) : bt 0 i = false := BitVec.getLsbD_zero
theorem s_l : ∀ n, n < 32 → ((nI n &&& 31).toBitVec.smod 32).toNat = n := by decide +kernel
theorem s_u : ∀ n, n < 32 → (((nI n).toUInt32 &&& Int32.toUInt32 31).toBitVec % 32).toNat = n := by decide +kernel
theorem b_shl (n : Nat) (hn : n < 32) (x : Int32) {i : Nat} (hi : i < 32) : bt (x <<< (nI n &&& 31)) i = (decide (n ≤ i) && bt x (i - n)) := by
  unfold bt
  rw [Int32.toBitVec_shiftLeft]
  show (x.toBitVec <<< ((nI n &&& 31).toBitVec.smod 32).toNat).getLsbD i = _
  rw [s_l n hn, BitVec.getLsbD_shiftLeft]
  rcases Nat.lt_or_ge i n with h | h
  · simp [h, Nat.not_le.mpr h]
  · simp [hi, h, Nat.not_lt.mpr h]
theorem b_ushr (n : Nat) (hn : n < 32) (x : Int32) (i : Nat) : bt ((x.toUInt32 >>> ((nI n).toUInt32 &&& Int32.toUInt32 31)).toInt32) i = bt x (n + i) := by
  show (x.toUInt32 >>> ((nI n).toUInt32 &&& Int32.toUInt32 31)).toBitVec.getLsbD i = x.toUInt32.toBitVec.getLsbD (n + i)
  rw [UInt32.toBitVec_shiftRight]
  show (x.toUInt32.toBitVec >>> (((nI n).toUInt32 &&& Int32.toUInt32 31).toBitVec % 32).toNat).getLsbD i = _
  rw [s_u n hn, BitVec.getLsbD_ushiftRight]
theorem b_sshr (n : Nat) (hn : n < 32) (x : Int32) {i : Nat} (hi : i < 32) : bt (x >>> (nI n &&& 31)) i = if n + i < 32 then bt x (n + i) else bt x 31 := by
  unfold bt
  rw [Int32.toBitVec_shiftRight]
  show (x.toBitVec.sshiftRight ((nI n &&& 31).toBitVec.smod 32).toNat).getLsbD i = _
  rw [s_l n hn, BitVec.getLsbD_sshiftRight, BitVec.msb_eq_getLsbD_last]
  simp [hi]
/-! the pure picture: one memory of five cells, a fault (K, v, a), a test (D, C, O) -/
def mt_set (s : Nat → Bool) (v : Nat) (b : Bool) : Nat → Bool := fun j => if j = v then b else s j
def mt_hold (K v a : Nat) (s : Nat → Bool) : Nat → Bool :=
  if K = 0 then mt_set s v false else if K = 1 then mt_set s v true
  else if K = 10 then mt_set s v (s v && s a) else if K = 11 then mt_set s v (s v || !s a)
  else if K = 12 then mt_set s v (s v && !s a) else if K = 13 then mt_set s v (s v || s a) else s
def mt_take (K : Nat) (x b : Bool) : Bool := if K = 2 then x && b else if K = 3 then x || b else b
def mt_dist (K v : Nat) (s : Nat → Bool) (r q : Bool) : Nat → Bool :=
  if K = 4 then mt_set s v (s v ^^ r) else if K = 5 then mt_set s v (s v ^^ q)
  else if K = 6 then mt_set s v (s v && !r) else if K = 7 then mt_set s v (s v || r)
  else if K = 8 then mt_set s v (s v && !q) else if K = 9 then mt_set s v (s v || q) else s
def mt_put (K v c : Nat) (b : Bool) (s : Nat → Bool) : Nat → Bool := mt_set s c (if c = v then mt_take K (s c) b else b)
def mt_write (K v a c : Nat) (b : Bool) (s : Nat → Bool) : Nat → Bool :=
  mt_hold K v a (if c = a then mt_dist K v (mt_put K v c b s) (!s c && b) (s c && !b) else mt_put K v c b s)
abbrev mt_P : Type := (Nat → Bool) × Bool
def mt_step (K v a q c : Nat) (p : mt_P) : mt_P :=
  if q < 2 then (mt_write K v a c (decide (q = 1)) p.1, p.2) else (p.1, p.2 || (p.1 c != decide (q = 3)))
def mt_it (g : Nat → mt_P → mt_P) : Nat → mt_P → mt_P
  | 0, p => p
  | n + 1, p => g n (mt_it g n p)
def mt_at (D : Nat → Int32) (m j : Nat) : Nat := if D m = 0 then j else 4 - j
def mt_cell (K v a : Nat) (O : Nat → Int32) (m c : Nat) (i : Nat) (p : mt_P) : mt_P := mt_step K v a (O (4 * m + i)).toNatClampNeg c p
def mt_row (K v a : Nat) (D O : Nat → Int32) (m cc : Nat) (j : Nat) (p : mt_P) : mt_P := mt_it (mt_cell K v a O m (mt_at D m j)) cc p
def mt_m (K v a : Nat) (D C O : Nat → Int32) (sk : Int32) (m : Nat) (p : mt_P) : mt_P :=
  if nI m = sk then p else mt_it (mt_row K v a D O m (C m).toNatClampNeg) 5 p
def mt_run (K v a : Nat) (D C O : Nat → Int32) (sk : Int32) (n f : Nat) : mt_P :=
  mt_it (mt_m K v a D C O sk) n (mt_hold K v a (fun c => bt (nI f) c), false)
def mt_R (K v a : Nat) (D C O : Nat → Int32) (sk : Int32) (n f : Nat) : Bool := (mt_run K v a D C O sk n f).2
def mt_cnt (p : Nat → Bool) : Nat → Nat
  | 0 => 0
  | n + 1 => if p n then mt_cnt p n + 1 else mt_cnt p n
def mt_all (p : Nat → Bool) : Nat → Bool
  | 0 => true
  | n + 1 => mt_all p n && p n
/-- a test: at most six marches, directions 0 and 1, at most four operations each, operations 0 to 3 -/
def mt_T (D C O : Nat → Int32) (n : Nat) : Prop :=
  n ≤ 6 ∧ (∀ j, D j = 0 ∨ D j = 1) ∧ (∀ j, ∃ c, c ≤ 4 ∧ C j = nI c) ∧ (∀ j, ∃ o, o < 4 ∧ O j = nI o)
theorem mt_cnt_le (p : Nat → Bool) : ∀ n, mt_cnt p n ≤ n := by
  intro n
  induction n with
  | zero => exact Nat.le_refl _
  | succ n ih =>
    show (if p n then mt_cnt p n + 1 else mt_cnt p n) ≤ n + 1
    split <;> omega
theorem mt_cnt_full (p : Nat → Bool) : ∀ n, mt_cnt p n = n ↔ ∀ f, f < n → p f = true := by
  intro n
  induction n with
  | zero => exact ⟨fun _ f hf => absurd hf (by omega), fun _ => rfl⟩
  | succ n ih =>
    have hl := mt_cnt_le p n
    by_cases z : p n = true
    · have e : mt_cnt p (n + 1) = mt_cnt p n + 1 := if_pos z
      rw [e]
      constructor
      · intro h f hf
        rcases Nat.lt_or_ge f n with g | g
        · exact ih.mp (by omega) f g
        · rw [show f = n from by omega]; exact z
      · intro h
        rw [ih.mpr (fun f hf => h f (by omega))]
    · have e : mt_cnt p (n + 1) = mt_cnt p n := if_neg z
      rw [e]
      constructor
      · intro h
        omega
      · intro h
        exact absurd (h n (by omega)) z
theorem mt_cnt_none (p : Nat → Bool) : ∀ n, mt_cnt p n = 0 ↔ ∀ f, f < n → p f = false := by
  intro n
  induction n with
  | zero => exact ⟨fun _ f hf => absurd hf (by omega), fun _ => rfl⟩
  | succ n ih =>
    by_cases z : p n = true
    · have e : mt_cnt p (n + 1) = mt_cnt p n + 1 := if_pos z
      rw [e]
      constructor
      · intro h
        omega
      · intro h
        have := h n (by omega)
        rw [z] at this
        cases this
    · have e : mt_cnt p (n + 1) = mt_cnt p n := if_neg z
      have z' : p n = false := by cases h : p n with | true => exact absurd h z | false => rfl
      rw [e]
      constructor
      · intro h f hf
        rcases Nat.lt_or_ge f n with g | g
        · exact ih.mp h f g
        · rw [show f = n from by omega]; exact z'
      · intro h
        exact ih.mpr (fun f hf => h f (by omega))
theorem mt_all_iff (p : Nat → Bool) : ∀ n, mt_all p n = true ↔ ∀ f, f < n → p f = true := by
  intro n
  induction n with
  | zero => exact ⟨fun _ f hf => absurd hf (by omega), fun _ => rfl⟩
  | succ n ih =>
    show (mt_all p n && p n) = true ↔ _
    rw [Bool.and_eq_true, ih]
    constructor
    · intro h f hf
      rcases Nat.lt_or_ge f n with g | g
      · exact h.1 f g
      · rw [show f = n from by omega]; exact h.2
    · intro h
      exact ⟨fun f hf => h f (by omega), h n (by omega)⟩
theorem mt_it_id {g : Nat → mt_P → mt_P} (h : ∀ j p, g j p = p) : ∀ n p, mt_it g n p = p := by
  intro n
  induction n with
  | zero => intro p; rfl
  | succ n ih => intro p; show g n (mt_it g n p) = p; rw [h, ih]
theorem mt_it_split {G G' : Nat → mt_P → mt_P} (b : Nat) (p : mt_P) : ∀ c, (∀ i, i < c → ∀ q, G (b + i) q = G' i q) → mt_it G (b + c) p = mt_it G' c (mt_it G b p) := by
  intro c
  induction c with
  | zero => intro _; rfl
  | succ c ih =>
    intro h
    show G (b + c) (mt_it G (b + c) p) = G' c (mt_it G' c (mt_it G b p))
    rw [ih (fun i hi => h i (by omega)), h c (by omega)]
/-- the march walked by one counter k, as the reference does -/
def mt_k (K v a : Nat) (D C O : Nat → Int32) (m k : Nat) (p : mt_P) : mt_P :=
  mt_cell K v a O m (mt_at D m (k / (C m).toNatClampNeg)) (k % (C m).toNatClampNeg) p
theorem mt_k_rows (K v a : Nat) (D C O : Nat → Int32) (m : Nat) (p : mt_P) : ∀ j, mt_it (mt_k K v a D C O m) (j * (C m).toNatClampNeg) p = mt_it (mt_row K v a D O m (C m).toNatClampNeg) j p := by
  intro j
  induction j with
  | zero => rw [Nat.zero_mul]; rfl
  | succ j ih =>
    rw [Nat.succ_mul, mt_it_split (G' := mt_cell K v a O m (mt_at D m j)) (j * (C m).toNatClampNeg) p (C m).toNatClampNeg, ih]
    · rfl
    · intro i hi q
      have hc : 0 < (C m).toNatClampNeg := by omega
      show mt_cell K v a O m (mt_at D m ((j * (C m).toNatClampNeg + i) / (C m).toNatClampNeg)) ((j * (C m).toNatClampNeg + i) % (C m).toNatClampNeg) q = _
      rw [Nat.add_comm, Nat.add_mul_div_right _ _ hc, Nat.div_eq_of_lt hi, Nat.zero_add, Nat.add_mul_mod_self_right, Nat.mod_eq_of_lt hi]
theorem mt_b1 : ∀ i, i < 32 → bt 1 i = decide (i = 0) := by decide +kernel
theorem mt_bits : ∀ o, o < 4 → ∀ f, f < 32 → bt (-(nI o &&& 1)) f = decide (o % 2 = 1) := by decide +kernel
theorem mt_lit0 : (0 : Int32) = nI 0 := rfl
def mt_bI (b : Bool) : Int32 := if b then 1 else 0
end
section
/-! the class: bit f of e c is cell c of the memory that began with filling f -/
def mx_R (e : Nat → Int32) (S : Nat → Nat → Bool) : Prop := ∀ c, c < 5 → ∀ f, f < 32 → bt (e c) f = S f c
def mx_A (K a : Nat) (P : Int32) : Prop := a < 5 ∧ (4 ≤ K → K ≤ 13 → P = nI a)
theorem mx_upd {e : Nat → Int32} {S : Nat → Nat → Bool} {v : Nat} {x : Int32} (b : Nat → Bool) (h : mx_R e S) (hv : v < 5) (hx : ∀ f, f < 32 → bt x f = b f) : mx_R (upd e (nI v).toNatClampNeg x) (fun f => mt_set (S f) v (b f)) := by
  intro c hc f hf
  rw [nI_clamp (by omega)]
  show bt (if c = v then x else e c) f = (if c = v then b f else S f c)
  by_cases z : c = v
  · rw [if_pos z, if_pos z]; exact hx f hf
  · rw [if_neg z, if_neg z]; exact h c hc f hf
theorem mx_get {e : Nat → Int32} {S : Nat → Nat → Bool} {v : Nat} (h : mx_R e S) (hv : v < 5) {f : Nat} (hf : f < 32) : bt (e (nI v).toNatClampNeg) f = S f v := by
  rw [nI_clamp (by omega)]; exact h v hv f hf
theorem mx_not (x : Int32) {f : Nat} (hf : f < 32) : bt (x ^^^ (-1)) f = !bt x f := by
  rw [b_xor, b_m1 f hf, Bool.xor_true]
theorem mx_hold {post : SX → Prop} {M : Int32} {D C O e : Nat → Int32} {P2 : Int32} {K v a : Nat} {S : Nat → Nat → Bool} (hK : K ≤ 14) (hv : v < 5) (hA : mx_A K a P2) (hS : mx_R e S) (hp : ∀ e', mx_R e' (fun f => mt_hold K v a (S f)) → post (M, D, C, O, e')) : wpX_hold post (M, D, C, O, e) (nI K) (nI v) P2 := by
  have iv : vp_in (nI v) 5 := vp_in_nI hv (by decide)
  have ia : vp_in (nI a) 5 := vp_in_nI hA.1 (by decide)
  have hc : K = 0 ∨ K = 1 ∨ K = 2 ∨ K = 3 ∨ K = 4 ∨ K = 5 ∨ K = 6 ∨ K = 7 ∨ K = 8 ∨ K = 9 ∨ K = 10 ∨ K = 11 ∨ K = 12 ∨ K = 13 ∨ K = 14 := by omega
  rcases hc with rfl | rfl | rfl | rfl | rfl | rfl | rfl | rfl | rfl | rfl | rfl | rfl | rfl | rfl | rfl
  · exact br_f (by decide) (br_f (by decide) (br_t (by decide) (⟨iv, nm_e (hp _ (mx_upd (fun _ => false) hS hv (fun f _ => b_0 f)))⟩)))
  · exact br_f (by decide) (br_f (by decide) (br_f (by decide) (br_t (by decide) (⟨iv, nm_e (hp _ (mx_upd (fun _ => true) hS hv (fun f hf => b_m1 f hf)))⟩))))
  · exact br_f (by decide) (br_f (by decide) (br_f (by decide) (br_f (by decide) (br_t (by decide) (hp e hS)))))
  · exact br_f (by decide) (br_f (by decide) (br_f (by decide) (br_f (by decide) (br_f (by decide) (br_t (by decide) (hp e hS))))))
  · exact br_f (by decide) (br_f (by decide) (br_f (by decide) (br_f (by decide) (br_f (by decide) (br_f (by decide) (br_t (by decide) (hp e hS)))))))
  · exact br_f (by decide) (br_f (by decide) (br_f (by decide) (br_f (by decide) (br_f (by decide) (br_f (by decide) (br_f (by decide) (br_t (by decide) (hp e hS))))))))
  · exact br_f (by decide) (br_f (by decide) (br_f (by decide) (br_f (by decide) (br_f (by decide) (br_f (by decide) (br_f (by decide) (br_f (by decide) (br_t (by decide) (hp e hS)))))))))
  · exact br_f (by decide) (br_f (by decide) (br_f (by decide) (br_f (by decide) (br_f (by decide) (br_f (by decide) (br_f (by decide) (br_f (by decide) (br_f (by decide) (br_t (by decide) (hp e hS))))))))))
  · exact br_f (by decide) (br_f (by decide) (br_f (by decide) (br_f (by decide) (br_f (by decide) (br_f (by decide) (br_f (by decide) (br_f (by decide) (br_f (by decide) (br_f (by decide) (br_t (by decide) (hp e hS)))))))))))
  · exact br_f (by decide) (br_f (by decide) (br_f (by decide) (br_f (by decide) (br_f (by decide) (br_f (by decide) (br_f (by decide) (br_f (by decide) (br_f (by decide) (br_f (by decide) (br_f (by decide) (br_t (by decide) (hp e hS))))))))))))
  · obtain rfl := hA.2 (by omega) (by omega)
    exact br_f (by decide) (br_f (by decide) (br_f (by decide) (br_f (by decide) (br_f (by decide) (br_f (by decide) (br_f (by decide) (br_f (by decide) (br_f (by decide) (br_f (by decide) (br_f (by decide) (br_f (by decide) (br_t (by decide) (⟨iv, ia, iv, nm_e (hp _ (mx_upd (fun f => S f v && S f a) hS hv (fun f hf => by rw [b_and, mx_get hS hv hf, mx_get hS hA.1 hf])))⟩)))))))))))))
  · obtain rfl := hA.2 (by omega) (by omega)
    exact br_f (by decide) (br_f (by decide) (br_f (by decide) (br_f (by decide) (br_f (by decide) (br_f (by decide) (br_f (by decide) (br_f (by decide) (br_f (by decide) (br_f (by decide) (br_f (by decide) (br_f (by decide) (br_f (by decide) (br_t (by decide) (⟨iv, ia, iv, nm_e (hp _ (mx_upd (fun f => S f v || !S f a) hS hv (fun f hf => by rw [b_or, mx_not _ hf, mx_get hS hv hf, mx_get hS hA.1 hf])))⟩))))))))))))))
  · obtain rfl := hA.2 (by omega) (by omega)
    exact br_f (by decide) (br_f (by decide) (br_f (by decide) (br_f (by decide) (br_f (by decide) (br_f (by decide) (br_f (by decide) (br_f (by decide) (br_f (by decide) (br_f (by decide) (br_f (by decide) (br_f (by decide) (br_f (by decide) (br_f (by decide) (br_t (by decide) (⟨iv, ia, iv, nm_e (hp _ (mx_upd (fun f => S f v && !S f a) hS hv (fun f hf => by rw [b_and, mx_not _ hf, mx_get hS hv hf, mx_get hS hA.1 hf])))⟩)))))))))))))))
  · obtain rfl := hA.2 (by omega) (by omega)
    exact br_f (by decide) (br_f (by decide) (br_f (by decide) (br_f (by decide) (br_f (by decide) (br_f (by decide) (br_f (by decide) (br_f (by decide) (br_f (by decide) (br_f (by decide) (br_f (by decide) (br_f (by decide) (br_f (by decide) (br_f (by decide) (br_f (by decide) (br_t (by decide) (⟨iv, ia, iv, nm_e (hp _ (mx_upd (fun f => S f v || S f a) hS hv (fun f hf => by rw [b_or, mx_get hS hv hf, mx_get hS hA.1 hf])))⟩))))))))))))))))
  · exact br_f (by decide) (br_t (by decide) (hp e hS))
theorem mx_dist {post : SX → Prop} {M : Int32} {D C O e : Nat → Int32} {P2 P3 : Int32} {K v : Nat} {S : Nat → Nat → Bool} {r q : Nat → Bool} (hK : K ≤ 14) (hv : v < 5) (hS : mx_R e S) (hr : ∀ f, f < 32 → bt P2 f = r f) (hq : ∀ f, f < 32 → bt P3 f = q f) (hp : ∀ e', mx_R e' (fun f => mt_dist K v (S f) (r f) (q f)) → post (M, D, C, O, e')) : wpX_disturb post (M, D, C, O, e) (nI K) (nI v) P2 P3 := by
  have iv : vp_in (nI v) 5 := vp_in_nI hv (by decide)
  have hc : K = 0 ∨ K = 1 ∨ K = 2 ∨ K = 3 ∨ K = 4 ∨ K = 5 ∨ K = 6 ∨ K = 7 ∨ K = 8 ∨ K = 9 ∨ K = 10 ∨ K = 11 ∨ K = 12 ∨ K = 13 ∨ K = 14 := by omega
  rcases hc with rfl | rfl | rfl | rfl | rfl | rfl | rfl | rfl | rfl | rfl | rfl | rfl | rfl | rfl | rfl
  · exact br_t (by decide) (hp e hS)
  · exact br_t (by decide) (hp e hS)
  · exact br_t (by decide) (hp e hS)
  · exact br_t (by decide) (hp e hS)
  · exact br_f (by decide) (br_f (by decide) (br_t (by decide) (⟨iv, iv, nm_e (hp _ (mx_upd (fun f => S f v ^^ r f) hS hv (fun f hf => by rw [b_xor, mx_get hS hv hf, hr f hf])))⟩)))
  · exact br_f (by decide) (br_f (by decide) (br_f (by decide) (br_t (by decide) (⟨iv, iv, nm_e (hp _ (mx_upd (fun f => S f v ^^ q f) hS hv (fun f hf => by rw [b_xor, mx_get hS hv hf, hq f hf])))⟩))))
  · exact br_f (by decide) (br_f (by decide) (br_f (by decide) (br_f (by decide) (br_t (by decide) (⟨iv, iv, nm_e (hp _ (mx_upd (fun f => S f v && !r f) hS hv (fun f hf => by rw [b_and, mx_not _ hf, mx_get hS hv hf, hr f hf])))⟩)))))
  · exact br_f (by decide) (br_f (by decide) (br_f (by decide) (br_f (by decide) (br_f (by decide) (br_t (by decide) (⟨iv, iv, nm_e (hp _ (mx_upd (fun f => S f v || r f) hS hv (fun f hf => by rw [b_or, mx_get hS hv hf, hr f hf])))⟩))))))
  · exact br_f (by decide) (br_f (by decide) (br_f (by decide) (br_f (by decide) (br_f (by decide) (br_f (by decide) (br_t (by decide) (⟨iv, iv, nm_e (hp _ (mx_upd (fun f => S f v && !q f) hS hv (fun f hf => by rw [b_and, mx_not _ hf, mx_get hS hv hf, hq f hf])))⟩)))))))
  · exact br_f (by decide) (br_f (by decide) (br_f (by decide) (br_f (by decide) (br_f (by decide) (br_f (by decide) (br_f (by decide) (br_t (by decide) (⟨iv, iv, nm_e (hp _ (mx_upd (fun f => S f v || q f) hS hv (fun f hf => by rw [b_or, mx_get hS hv hf, hq f hf])))⟩))))))))
  · exact br_f (by decide) (br_t (by decide) (hp e hS))
  · exact br_f (by decide) (br_t (by decide) (hp e hS))
  · exact br_f (by decide) (br_t (by decide) (hp e hS))
  · exact br_f (by decide) (br_t (by decide) (hp e hS))
  · exact br_f (by decide) (br_t (by decide) (hp e hS))
theorem mt_dist_id {K v : Nat} {s : Nat → Bool} {r q : Bool} (h : K < 4 ∨ 13 < K) : mt_dist K v s r q = s := by
  unfold mt_dist
  rw [if_neg (by omega), if_neg (by omega), if_neg (by omega), if_neg (by omega), if_neg (by omega), if_neg (by omega)]
theorem mx_taken {post : Int32 → Prop} {x P1 : Int32} {K : Nat} {X : Nat → Bool} {b : Bool} (hK : K ≤ 14) (hx : ∀ f, f < 32 → bt x f = X f) (hb : ∀ f, f < 32 → bt P1 f = b) (hp : ∀ y, (∀ f, f < 32 → bt y f = mt_take K (X f) b) → post y) : wpX_taken post (nI K) x P1 := by
  refine pk_eq K 2 (fun z => hp _ (fun f hf => ?_)) (fun z => pk_eq K 3 (fun z3 => hp _ (fun f hf => ?_)) (fun z3 => hp _ (fun f hf => ?_)))
  · unfold mt_take; rw [if_pos z, b_and, hx f hf, hb f hf]
  · unfold mt_take; rw [if_neg z, if_pos z3, b_or, hx f hf, hb f hf]
  · unfold mt_take; rw [if_neg z, if_neg z3, hb f hf]
theorem mx_56 {post : SX → Prop} {M : Int32} {D C O e : Nat → Int32} {P2 : Int32} {K v a : Nat} {S : Nat → Nat → Bool} (hK : K ≤ 14) (hv : v < 5) (hA : mx_A K a P2) (hS : mx_R e S) (hp : ∀ e', mx_R e' (fun f => mt_hold K v a (S f)) → post (M, D, C, O, e')) : wX_write_56 post (nI K) (nI v) P2 M D C O e := by
  unfold wX_write_56
  exact mx_hold hK hv hA hS hp
theorem mx_30 {post : SX → Prop} {M : Int32} {D C O e : Nat → Int32} {P1 P4 x : Int32} {K v a c : Nat} {S : Nat → Nat → Bool} {b : Bool} (hK : K ≤ 14) (hv : v < 5) (hA : mx_A K a P4) (hc : c < 5) (hS : mx_R e S) (hb : ∀ f, f < 32 → bt P1 f = b) (hx : ∀ f, f < 32 → bt x f = (if c = v then mt_take K (S f c) b else b)) (hp : ∀ e', mx_R e' (fun f => mt_write K v a c b (S f)) → post (M, D, C, O, e')) : wX_write_30 post (nI c) P1 (nI K) (nI v) P4 (e (nI c).toNatClampNeg) x (nI c) M D C O e := by
  have h1 : mx_R (upd e (nI c).toNatClampNeg x) (fun f => mt_put K v c b (S f)) := mx_upd (fun f => if c = v then mt_take K (S f c) b else b) hS hc hx
  refine ⟨vp_in_nI hc (by decide), nm_e (br_c (fun z => ?_) (fun z => ?_))⟩
  · refine mx_dist (r := fun f => !S f c && b) (q := fun f => S f c && !b) hK hv h1 (fun f hf => ?_) (fun f hf => ?_) (fun e' h' => ?_)
    · rw [b_and, mx_not _ hf, mx_get hS hc hf, hb f hf]
    · rw [b_and, mx_not _ hf, mx_get hS hc hf, hb f hf]
    · refine mx_56 hK hv hA h' (fun e2 h2 => hp e2 ?_)
      have ee : (fun f => mt_write K v a c b (S f)) = (fun f => mt_hold K v a (mt_dist K v (mt_put K v c b (S f)) (!S f c && b) (S f c && !b))) := by
        funext f
        unfold mt_write
        by_cases ca : c = a
        · rw [if_pos ca]
        · rw [if_neg ca]
          have hh : K < 4 ∨ 13 < K := by
            rcases Nat.lt_or_ge K 4 with g | g
            · exact Or.inl g
            · rcases Nat.lt_or_ge 13 K with g2 | g2
              · exact Or.inr g2
              · have e4 := hA.2 g g2
                rw [e4, nI_eq (by omega) (by have := hA.1; omega)] at z
                exact absurd z ca
          rw [mt_dist_id hh]
      rw [ee]
      exact h2
  · refine mx_56 hK hv hA h1 (fun e2 h2 => hp e2 ?_)
    have ee : (fun f => mt_write K v a c b (S f)) = (fun f => mt_hold K v a (mt_put K v c b (S f))) := by
      funext f
      unfold mt_write
      by_cases ca : c = a
      · rw [if_pos ca]
        have hh : K < 4 ∨ 13 < K := by
          rcases Nat.lt_or_ge K 4 with g | g
          · exact Or.inl g
          · rcases Nat.lt_or_ge 13 K with g2 | g2
            · exact Or.inr g2
            · have e4 := hA.2 g g2
              rw [e4, ca] at z
              exact absurd rfl z
        rw [mt_dist_id hh]
      · rw [if_neg ca]
    rw [ee]
    exact h2
theorem mx_write {post : SX → Prop} {M : Int32} {D C O e : Nat → Int32} {P1 P4 : Int32} {K v a c : Nat} {S : Nat → Nat → Bool} {b : Bool} (hK : K ≤ 14) (hv : v < 5) (hA : mx_A K a P4) (hc : c < 5) (hS : mx_R e S) (hb : ∀ f, f < 32 → bt P1 f = b) (hp : ∀ e', mx_R e' (fun f => mt_write K v a c b (S f)) → post (M, D, C, O, e')) : wpX_write post (M, D, C, O, e) (nI c) P1 (nI K) (nI v) P4 := by
  refine ⟨vp_in_nI hc (by decide), nm_e (pk_eq c v (fun z => ?_) (fun z => ?_))⟩
  · refine mx_taken (X := fun f => S f c) (b := b) hK (fun f hf => mx_get hS hc hf) hb (fun y hy => ?_)
    refine mx_30 hK hv hA hc hS hb (fun f hf => ?_) hp
    rw [if_pos z]; exact hy f hf
  · refine mx_30 hK hv hA hc hS hb (fun f hf => ?_) hp
    rw [if_neg z]; exact hb f hf
def mx_RA (e : Nat → Int32) (A : Int32) (S : Nat → mt_P) : Prop := mx_R e (fun f => (S f).1) ∧ ∀ f, f < 32 → bt A f = (S f).2
theorem mt_ix (m i : Nat) : nI m * 4 + nI i = nI (4 * m + i) := by
  rw [show (4 : Int32) = nI 4 from rfl, pk_mul, nI_add, Nat.mul_comm]
theorem mx_79 {post : Int32 → SX → Prop} {J17 J49 : Int32 → Int32 → Int32 → (Nat → Int32) → (Nat → Int32) → (Nat → Int32) → (Nat → Int32) → Prop} {M A P3 SK : Int32} {D C O e : Nat → Int32} {K v a m cc j c : Nat} {S : Nat → mt_P} (hK : K ≤ 14) (hv : v < 5) (hA : mx_A K a P3) (hm : m < 6) (hcc : cc ≤ 4) (hO : ∀ j, ∃ o, o < 4 ∧ O j = nI o) (hc : c < 5) (h0 : mx_RA e A S) (hJ : ∀ e' A', mx_RA e' A' (fun f => mt_it (mt_cell K v a O m c) cc (S f)) → J49 A' (nI (j + 1)) M D C O e') : ∃ n, wX_alarms_79 post J17 J49 (nI K) (nI v) P3 SK (nI m) (nI cc) (nI j) (nI c) n A 0 M D C O e := by
  refine loop_0 (σ := Int32 × (Nat → Int32)) (fun n i s => wX_alarms_79 post J17 J49 (nI K) (nI v) P3 SK (nI m) (nI cc) (nI j) (nI c) n s.1 (nI i) M D C O s.2) (fun i s => mx_RA s.2 s.1 (fun f => mt_it (mt_cell K v a O m c) i (S f))) cc (A, e) h0 ?_ ?_
  · intro n s hs
    exact pk_le cc cc (fun _ => nm_r (nI_1 j) (hJ _ _ hs)) (fun z => absurd z (by omega))
  · intro n i s hi hs next
    obtain ⟨o, ho, eo⟩ := hO (4 * m + i)
    have e1 : O (nI m * 4 + nI i).toNatClampNeg = nI o := by rw [mt_ix, nI_clamp (by omega), eo]
    have e2 : ∀ f, mt_it (mt_cell K v a O m c) (i + 1) (S f) = mt_step K v a o c (mt_it (mt_cell K v a O m c) i (S f)) := by
      intro f
      show mt_step K v a (O (4 * m + i)).toNatClampNeg c _ = _
      rw [eo, nI_clamp (by omega)]
    refine pk_le cc i (fun z => absurd z (by omega)) (fun _ => ⟨?_, nm_r e1 (nm_e (pk_lt o 2 (fun z => ?_) (fun z => ?_)))⟩)
    · rw [mt_ix]; exact vp_in_nI (by omega) (by decide)
    · refine mx_write (b := decide (o = 1)) hK hv hA hc hs.1 (fun f hf => ?_) (fun e' h' => nm_r (nI_1 i) (next (s.1, e') ⟨?_, fun f hf => ?_⟩))
      · rw [mt_bits o ho f hf]
        exact decide_eq_decide.mpr (by omega)
      · have ee : (fun f => (mt_it (mt_cell K v a O m c) (i + 1) (S f)).1) = (fun f => mt_write K v a c (decide (o = 1)) (mt_it (mt_cell K v a O m c) i (S f)).1) := by
          funext f
          rw [e2 f]; unfold mt_step; rw [if_pos z]
        show mx_R e' (fun f => (mt_it (mt_cell K v a O m c) (i + 1) (S f)).1)
        rw [ee]; exact h'
      · show bt s.1 f = (mt_it (mt_cell K v a O m c) (i + 1) (S f)).2
        rw [e2 f]; unfold mt_step; rw [if_pos z]
        exact hs.2 f hf
    · refine ⟨vp_in_nI hc (by decide), nm_e (nm_r (nI_1 i) (next (_, s.2) ⟨?_, fun f hf => ?_⟩))⟩
      · have ee : (fun f => (mt_it (mt_cell K v a O m c) (i + 1) (S f)).1) = (fun f => (mt_it (mt_cell K v a O m c) i (S f)).1) := by
          funext f
          rw [e2 f]; unfold mt_step; rw [if_neg (by omega)]
        show mx_R s.2 (fun f => (mt_it (mt_cell K v a O m c) (i + 1) (S f)).1)
        rw [ee]; exact hs.1
      · show bt (s.1 ||| (s.2 (nI c).toNatClampNeg ^^^ -(nI o &&& 1))) f = (mt_it (mt_cell K v a O m c) (i + 1) (S f)).2
        rw [e2 f]; unfold mt_step; rw [if_neg (by omega), b_or, b_xor, hs.2 f hf, mx_get hs.1 hc hf, mt_bits o ho f hf, show decide (o % 2 = 1) = decide (o = 3) from decide_eq_decide.mpr (by omega)]
theorem mt_at_lt {D : Nat → Int32} {m j : Nat} (h : j < 5) : mt_at D m j < 5 := by
  unfold mt_at
  split <;> omega
theorem mx_49 {post : Int32 → SX → Prop} {J17 : Int32 → Int32 → Int32 → (Nat → Int32) → (Nat → Int32) → (Nat → Int32) → (Nat → Int32) → Prop} {M A P3 SK : Int32} {D C O e : Nat → Int32} {K v a m cc : Nat} {S : Nat → mt_P} (hK : K ≤ 14) (hv : v < 5) (hA : mx_A K a P3) (hm : m < 6) (hcc : cc ≤ 4) (hO : ∀ j, ∃ o, o < 4 ∧ O j = nI o) (h0 : mx_RA e A S) (hJ : ∀ e' A', mx_RA e' A' (fun f => mt_it (mt_row K v a D O m cc) 5 (S f)) → J17 A' (nI (m + 1)) M D C O e') : ∃ n, wX_alarms_49 post J17 (nI K) (nI v) P3 SK (nI m) (nI cc) n A 0 M D C O e := by
  refine loop_0 (σ := Int32 × (Nat → Int32)) (fun n i s => wX_alarms_49 post J17 (nI K) (nI v) P3 SK (nI m) (nI cc) n s.1 (nI i) M D C O s.2) (fun i s => mx_RA s.2 s.1 (fun f => mt_it (mt_row K v a D O m cc) i (S f))) 5 (A, e) h0 ?_ ?_
  · intro n s hs
    exact pk_le 5 5 (fun _ => nm_r (nI_1 m) (hJ _ _ hs)) (fun z => absurd z (by omega))
  · intro n i s hi hs next
    have hD : D (nI m).toNatClampNeg = D m := by rw [nI_clamp (by omega)]
    refine pk_le 5 i (fun z => absurd z (by omega)) (fun _ => ⟨vp_in_nI hm (by decide), br_c (fun z => ?_) (fun z => nm_r (e' := nI (4 - i)) (pk_sub (a := 4) (b := i) (by omega)) ?_)⟩)
    · rw [hD] at z
      have ec : mt_at D m i = i := if_pos z
      exact mx_79 (c := i) (j := i) hK hv hA hm hcc hO hi hs (fun e' A' h' => next (A', e') (by
        show mx_RA e' A' (fun f => mt_it (mt_cell K v a O m (mt_at D m i)) cc (mt_it (mt_row K v a D O m cc) i (S f)))
        rw [ec]; exact h'))
    · rw [hD] at z
      have ec : mt_at D m i = 4 - i := if_neg z
      exact mx_79 (c := 4 - i) (j := i) hK hv hA hm hcc hO (by omega) hs (fun e' A' h' => next (A', e') (by
        show mx_RA e' A' (fun f => mt_it (mt_cell K v a O m (mt_at D m i)) cc (mt_it (mt_row K v a D O m cc) i (S f)))
        rw [ec]; exact h'))
theorem mx_17 {post : Int32 → SX → Prop} {A P3 SK : Int32} {D C O e : Nat → Int32} {K v a N : Nat} {S : Nat → mt_P} (hT : mt_T D C O N) (hK : K ≤ 14) (hv : v < 5) (hA : mx_A K a P3) (h0 : mx_RA e A S) (hp : ∀ e' A', mx_RA e' A' (fun f => mt_it (mt_m K v a D C O SK) N (S f)) → post A' (nI N, D, C, O, e')) : ∃ n, wX_alarms_17 post (nI K) (nI v) P3 SK n A 0 (nI N) D C O e := by
  obtain ⟨hN, _, hC, hO⟩ := hT
  refine loop_0 (σ := Int32 × (Nat → Int32)) (fun n i s => wX_alarms_17 post (nI K) (nI v) P3 SK n s.1 (nI i) (nI N) D C O s.2) (fun i s => mx_RA s.2 s.1 (fun f => mt_it (mt_m K v a D C O SK) i (S f))) N (A, e) h0 ?_ ?_
  · intro n s hs
    exact pk_le N N (fun _ => hp _ _ hs) (fun z => absurd z (by omega))
  · intro n i s hi hs next
    refine pk_le N i (fun z => absurd z (by omega)) (fun _ => br_c (fun z => ?_) (fun z => ⟨vp_in_nI (by omega) (by decide), ?_⟩))
    · refine mx_49 (cc := 0) hK hv hA (by omega) (by omega) hO hs (fun e' A' h' => next (A', e') ?_)
      have ee : (fun f => mt_it (mt_m K v a D C O SK) (i + 1) (S f)) = (fun f => mt_it (mt_row K v a D O i 0) 5 (mt_it (mt_m K v a D C O SK) i (S f))) := by
        funext f
        show mt_m K v a D C O SK i _ = _
        unfold mt_m
        rw [if_pos z, mt_it_id (g := mt_row K v a D O i 0) (fun _ _ => rfl)]
      show mx_RA e' A' (fun f => mt_it (mt_m K v a D C O SK) (i + 1) (S f))
      rw [ee]; exact h'
    · obtain ⟨cc, hcc, ec⟩ := hC i
      have e1 : C (nI i).toNatClampNeg = nI cc := by rw [nI_clamp (by omega), ec]
      refine nm_r e1 ?_
      refine mx_49 (cc := cc) hK hv hA (by omega) hcc hO hs (fun e' A' h' => next (A', e') ?_)
      have ee : (fun f => mt_it (mt_m K v a D C O SK) (i + 1) (S f)) = (fun f => mt_it (mt_row K v a D O i cc) 5 (mt_it (mt_m K v a D C O SK) i (S f))) := by
        funext f
        show mt_m K v a D C O SK i _ = _
        unfold mt_m
        rw [if_neg z, ec, nI_clamp (by omega)]
      show mx_RA e' A' (fun f => mt_it (mt_m K v a D C O SK) (i + 1) (S f))
      rw [ee]; exact h'
theorem mx_f11 {post : SX → Prop} {J2 : Int32 → (Nat → Int32) → (Nat → Int32) → (Nat → Int32) → (Nat → Int32) → Prop} {M : Int32} {D C O e : Nat → Int32} {c : Nat} (hc : c < 5) (hJ : ∀ x, (∀ f, f < 32 → bt x f = bt (nI f) c) → J2 (nI (c + 1)) D C O (upd e (nI c).toNatClampNeg x)) : ∃ n, wX_fillAllWays_11 post J2 (nI c) M D C O e n 0 0 := by
  refine loop_0 (σ := Int32) (fun n i s => wX_fillAllWays_11 post J2 (nI c) M D C O e n s (nI i)) (fun i s => ∀ f, f < 32 → bt s f = (decide (f < i) && bt (nI f) c)) 32 0 (fun f hf => by rw [b_0]; rfl) ?_ ?_
  · intro n s hs
    refine pk_le 32 32 (fun _ => ⟨vp_in_nI hc (by decide), nm_e (nm_r (nI_1 c) (hJ s (fun f hf => ?_)))⟩) (fun z => absurd z (by omega))
    rw [hs f hf, decide_eq_true hf, Bool.true_and]
  · intro n i s hi hs next
    refine pk_le 32 i (fun z => absurd z (by omega)) (fun _ => nm_e (nm_r (nI_1 i) (next _ (fun f hf => ?_))))
    rw [b_or, hs f hf, b_shl i hi _ hf, b_and, b_ushr c (by omega), mt_b1 (f - i) (by omega)]
    rcases Nat.lt_trichotomy f i with g | g | g
    · rw [decide_eq_true g, decide_eq_true (show f < i + 1 by omega), decide_eq_false (show ¬ i ≤ f by omega), Bool.false_and, Bool.or_false]
    · subst g
      rw [decide_eq_false (show ¬ f < f by omega), decide_eq_true (show f < f + 1 by omega), decide_eq_true (Nat.le_refl f), Nat.sub_self, Nat.add_zero, decide_eq_true rfl, Bool.false_and, Bool.false_or, Bool.and_true]
    · rw [decide_eq_false (show ¬ f < i by omega), decide_eq_false (show ¬ f < i + 1 by omega), decide_eq_false (show ¬ f - i = 0 by omega), Bool.and_false, Bool.and_false, Bool.false_and, Bool.or_false]
theorem mx_fill {post : SX → Prop} {M : Int32} {D C O e : Nat → Int32} (hp : ∀ e', mx_R e' (fun f c => bt (nI f) c) → post (M, D, C, O, e')) : wpX_fillAllWays post (M, D, C, O, e) := by
  refine loop_0 (σ := Nat → Int32) (fun n i s => wX_fillAllWays_2 post M n (nI i) D C O s) (fun i s => ∀ c, c < i → ∀ f, f < 32 → bt (s c) f = bt (nI f) c) 5 e (fun c hc => absurd hc (by omega)) ?_ ?_
  · intro n s hs
    exact pk_le 5 5 (fun _ => hp s hs) (fun z => absurd z (by omega))
  · intro n i s hi hs next
    refine pk_le 5 i (fun z => absurd z (by omega)) (fun _ => mx_f11 hi (fun x hx => next _ (fun c hc f hf => ?_)))
    rw [nI_clamp (by omega)]
    show bt (if c = i then x else s c) f = _
    by_cases z : c = i
    · rw [if_pos z, z]; exact hx f hf
    · rw [if_neg z]; exact hs c (by omega) f hf
theorem mx_alarms {post : Int32 → SX → Prop} {P3 : Int32} (SK : Int32) {D C O e : Nat → Int32} {K v a N : Nat} (hT : mt_T D C O N) (hK : K ≤ 14) (hv : v < 5) (hA : mx_A K a P3) (hp : ∀ A e', (∀ f, f < 32 → bt A f = mt_R K v a D C O SK N f) → post A (nI N, D, C, O, e')) : wpX_alarms post (nI N, D, C, O, e) (nI K) (nI v) P3 SK := by
  unfold wpX_alarms
  dsimp only
  refine mx_fill (fun e1 h1 => ?_)
  refine mx_hold hK hv hA h1 (fun e2 h2 => ?_)
  exact mx_17 (S := fun f => (mt_hold K v a (fun c => bt (nI f) c), false)) hT hK hv hA ⟨h2, fun f hf => b_0 f⟩ (fun e' A' h' => hp A' e' h'.2)
end
section
/-! the reference: bit c of its memory is cell c -/
def my_R (M : Int32) (s : Nat → Bool) : Prop := ∀ c, c < 5 → bt M c = s c
def mt_q (K : Nat) : Int32 := if K = 14 then -1 else nI K
theorem mt_set_self {s : Nat → Bool} {v : Nat} : mt_set s v (s v) = s := by
  funext j
  show (if j = v then s v else s j) = s j
  by_cases z : j = v
  · rw [if_pos z, z]
  · rw [if_neg z]
theorem my_bit {M : Int32} {s : Nat → Bool} {c : Nat} (hs : my_R M s) (hc : c < 5) : (M >>> (nI c &&& 31)) &&& 1 = mt_bI (s c) := by
  apply b_ext
  intro i hi
  rw [b_and, b_sshr c (by omega) M hi, mt_b1 i hi]
  by_cases z : i = 0
  · subst z
    rw [decide_eq_true rfl, Bool.and_true, if_pos (by omega), Nat.add_zero, hs c hc]
    cases s c <;> rfl
  · rw [decide_eq_false z, Bool.and_false]
    cases s c
    · exact (b_0 i).symm
    · show false = bt 1 i
      rw [mt_b1 i hi, decide_eq_false z]
theorem my_set {M P : Int32} {s : Nat → Bool} {v : Nat} (b : Bool) (hs : my_R M s) (hv : v < 5) (hP : P = mt_bI b) : my_R ((M &&& (((1 : Int32) <<< (nI v &&& 31)) ^^^ (-1))) ||| (P <<< (nI v &&& 31))) (mt_set s v b) := by
  subst hP
  intro c hc
  have hb : ∀ i, i < 32 → bt (mt_bI b) i = (decide (i = 0) && b) := by
    intro i hi
    cases b
    · show bt 0 i = _
      rw [b_0, Bool.and_false]
    · show bt 1 i = _
      rw [mt_b1 i hi, Bool.and_true]
  rw [b_or, b_and, b_xor, b_shl v (by omega) _ (by omega), b_shl v (by omega) _ (by omega), b_m1 c (by omega), mt_b1 (c - v) (by omega), hb (c - v) (by omega), hs c hc]
  show _ = (if c = v then b else s c)
  by_cases z : c = v
  · subst z
    rw [if_pos rfl, Nat.sub_self, decide_eq_true (Nat.le_refl c), decide_eq_true rfl]
    cases s c <;> cases b <;> rfl
  · rw [if_neg z]
    rcases Nat.lt_or_ge c v with g | g
    · rw [decide_eq_false (show ¬ v ≤ c by omega)]
      cases s c <;> rfl
    · rw [decide_eq_false (show ¬ c - v = 0 by omega)]
      cases s c <;> cases decide (v ≤ c) <;> rfl
theorem my_bitp {post : Int32 → Prop} {Z M Q V A : Int32} {D C O : Nat → Int32} {s : Nat → Bool} {c : Nat} (hs : my_R M s) (hc : c < 5) (hp : post (mt_bI (s c))) : wpY_bit post (Z, M, Q, V, A, D, C, O) (nI c) := by
  show post ((M >>> (nI c &&& 31)) &&& 1)
  rw [my_bit hs hc]
  exact hp
theorem my_settle {post : SY → Prop} {Z M : Int32} {D C O : Nat → Int32} {K v a : Nat} {s : Nat → Bool} (hK : K ≤ 14) (hv : v < 5) (ha : a < 5) (hs : my_R M s) (hp : ∀ M', my_R M' (mt_hold K v a s) → post (Z, M', mt_q K, nI v, nI a, D, C, O)) : wpY_settle post (Z, M, mt_q K, nI v, nI a, D, C, O) := by
  have hc : K = 0 ∨ K = 1 ∨ K = 2 ∨ K = 3 ∨ K = 4 ∨ K = 5 ∨ K = 6 ∨ K = 7 ∨ K = 8 ∨ K = 9 ∨ K = 10 ∨ K = 11 ∨ K = 12 ∨ K = 13 ∨ K = 14 := by omega
  rcases hc with rfl | rfl | rfl | rfl | rfl | rfl | rfl | rfl | rfl | rfl | rfl | rfl | rfl | rfl | rfl
  · exact br_t (by decide) (nm_e (br_t (by decide) (hp _ (my_set false hs hv (by decide)))))
  · exact br_f (by decide) (br_t (by decide) (nm_e (br_t (by decide) (hp _ (my_set true hs hv (by decide))))))
  · exact br_f (by decide) (br_f (by decide) (br_t (by decide) (hp M hs)))
  · exact br_f (by decide) (br_f (by decide) (br_t (by decide) (hp M hs)))
  · exact br_f (by decide) (br_f (by decide) (br_t (by decide) (hp M hs)))
  · exact br_f (by decide) (br_f (by decide) (br_t (by decide) (hp M hs)))
  · exact br_f (by decide) (br_f (by decide) (br_t (by decide) (hp M hs)))
  · exact br_f (by decide) (br_f (by decide) (br_t (by decide) (hp M hs)))
  · exact br_f (by decide) (br_f (by decide) (br_t (by decide) (hp M hs)))
  · exact br_f (by decide) (br_f (by decide) (br_t (by decide) (hp M hs)))
  · cases h : s a
    · have hb : (M >>> (nI a &&& 31)) &&& 1 = mt_bI false := by rw [← h]; exact my_bit hs ha
      have e : mt_hold 10 v a s = mt_set s v false := by
        show mt_set s v (s v && s a) = _
        rw [h]; cases s v <;> rfl
      rw [e] at hp
      exact br_f (by decide) (br_f (by decide) (br_f (by decide) ⟨by decide, br_t (hb.trans (by decide)) ⟨by decide, nm_e (hp _ (my_set false hs hv (by decide)))⟩⟩))
    · have hb : (M >>> (nI a &&& 31)) &&& 1 = mt_bI true := by rw [← h]; exact my_bit hs ha
      have e : mt_hold 10 v a s = s := by
        refine Eq.trans ?_ (mt_set_self (s := s) (v := v))
        show mt_set s v (s v && s a) = _
        rw [h]; cases s v <;> rfl
      rw [e] at hp
      exact br_f (by decide) (br_f (by decide) (br_f (by decide) ⟨by decide, br_f (fun z => absurd (hb.symm.trans z) (by decide)) (hp M hs)⟩))
  · cases h : s a
    · have hb : (M >>> (nI a &&& 31)) &&& 1 = mt_bI false := by rw [← h]; exact my_bit hs ha
      have e : mt_hold 11 v a s = mt_set s v true := by
        show mt_set s v (s v || !s a) = _
        rw [h]; cases s v <;> rfl
      rw [e] at hp
      exact br_f (by decide) (br_f (by decide) (br_f (by decide) ⟨by decide, br_t (hb.trans (by decide)) ⟨by decide, nm_e (hp _ (my_set true hs hv (by decide)))⟩⟩))
    · have hb : (M >>> (nI a &&& 31)) &&& 1 = mt_bI true := by rw [← h]; exact my_bit hs ha
      have e : mt_hold 11 v a s = s := by
        refine Eq.trans ?_ (mt_set_self (s := s) (v := v))
        show mt_set s v (s v || !s a) = _
        rw [h]; cases s v <;> rfl
      rw [e] at hp
      exact br_f (by decide) (br_f (by decide) (br_f (by decide) ⟨by decide, br_f (fun z => absurd (hb.symm.trans z) (by decide)) (hp M hs)⟩))
  · cases h : s a
    · have hb : (M >>> (nI a &&& 31)) &&& 1 = mt_bI false := by rw [← h]; exact my_bit hs ha
      have e : mt_hold 12 v a s = s := by
        refine Eq.trans ?_ (mt_set_self (s := s) (v := v))
        show mt_set s v (s v && !s a) = _
        rw [h]; cases s v <;> rfl
      rw [e] at hp
      exact br_f (by decide) (br_f (by decide) (br_f (by decide) ⟨by decide, br_f (fun z => absurd (hb.symm.trans z) (by decide)) (hp M hs)⟩))
    · have hb : (M >>> (nI a &&& 31)) &&& 1 = mt_bI true := by rw [← h]; exact my_bit hs ha
      have e : mt_hold 12 v a s = mt_set s v false := by
        show mt_set s v (s v && !s a) = _
        rw [h]; cases s v <;> rfl
      rw [e] at hp
      exact br_f (by decide) (br_f (by decide) (br_f (by decide) ⟨by decide, br_t (hb.trans (by decide)) ⟨by decide, nm_e (hp _ (my_set false hs hv (by decide)))⟩⟩))
  · cases h : s a
    · have hb : (M >>> (nI a &&& 31)) &&& 1 = mt_bI false := by rw [← h]; exact my_bit hs ha
      have e : mt_hold 13 v a s = s := by
        refine Eq.trans ?_ (mt_set_self (s := s) (v := v))
        show mt_set s v (s v || s a) = _
        rw [h]; cases s v <;> rfl
      rw [e] at hp
      exact br_f (by decide) (br_f (by decide) (br_f (by decide) ⟨by decide, br_f (fun z => absurd (hb.symm.trans z) (by decide)) (hp M hs)⟩))
    · have hb : (M >>> (nI a &&& 31)) &&& 1 = mt_bI true := by rw [← h]; exact my_bit hs ha
      have e : mt_hold 13 v a s = mt_set s v true := by
        show mt_set s v (s v || s a) = _
        rw [h]; cases s v <;> rfl
      rw [e] at hp
      exact br_f (by decide) (br_f (by decide) (br_f (by decide) ⟨by decide, br_t (hb.trans (by decide)) ⟨by decide, nm_e (hp _ (my_set true hs hv (by decide)))⟩⟩))
  · exact br_f (by decide) (br_f (by decide) (br_t (by decide) (hp M hs)))
theorem my_195 {post : SY → Prop} {Z M : Int32} {D C O : Nat → Int32} {K v a : Nat} {s : Nat → Bool} (hK : K ≤ 14) (hv : v < 5) (ha : a < 5) (hs : my_R M s) (hp : ∀ M', my_R M' (mt_hold K v a s) → post (Z, M', mt_q K, nI v, nI a, D, C, O)) : wY_write_195 post Z M (mt_q K) (nI v) (nI a) D C O := by
  unfold wY_write_195
  exact my_settle hK hv ha hs hp
theorem my_178 {post : SY → Prop} {Z M : Int32} {D C O : Nat → Int32} {K v a : Nat} {s : Nat → Bool} {P : Int32} {r w : Bool} (hK : K ≤ 14) (hv : v < 5) (ha : a < 5) (hs : my_R M s) (hP : P = mt_bI w) (hp : ∀ M', my_R M' (mt_hold K v a (if r then mt_set s v w else s)) → post (Z, M', mt_q K, nI v, nI a, D, C, O)) : wY_write_178 post (mt_bI r) P Z M (mt_q K) (nI v) (nI a) D C O := by
  cases r
  · exact br_t (by decide) (my_195 hK hv ha hs hp)
  · exact br_f (by decide) (nm_e (my_195 hK hv ha (my_set w hs hv hP) hp))
theorem my_148 {post : SY → Prop} {Z M : Int32} {D C O : Nat → Int32} {K v a : Nat} {s : Nat → Bool} {r : Bool} (hK : K ≤ 14) (hv : v < 5) (ha : a < 5) (hs : my_R M s) (w : Bool) (hw : if K < 6 then w = !s v else (6 ≤ K ∧ K ≤ 9 ∧ w = decide (K % 2 = 1))) (hp : ∀ M', my_R M' (mt_hold K v a (if r then mt_set s v w else s)) → post (Z, M', mt_q K, nI v, nI a, D, C, O)) : wY_write_148 post (mt_bI r) Z M (mt_q K) (nI v) (nI a) D C O := by
  by_cases z : K < 6
  · rw [if_pos z] at hw
    have h6 : ¬ (6 : Int32) ≤ mt_q K := by
      unfold mt_q; rw [if_neg (by omega)]
      exact nI_ge (b := 6) z (by decide)
    refine br_f h6 (my_bitp hs hv (my_178 hK hv ha hs ?_ hp))
    rw [hw]; cases s v <;> rfl
  · rw [if_neg z] at hw
    obtain ⟨g1, g2, hw⟩ := hw
    have hc : K = 6 ∨ K = 7 ∨ K = 8 ∨ K = 9 := by omega
    rcases hc with rfl | rfl | rfl | rfl
    · exact br_t (by decide) ⟨by decide, my_178 hK hv ha hs (by rw [hw]; decide) hp⟩
    · exact br_t (by decide) ⟨by decide, my_178 hK hv ha hs (by rw [hw]; decide) hp⟩
    · exact br_t (by decide) ⟨by decide, my_178 hK hv ha hs (by rw [hw]; decide) hp⟩
    · exact br_t (by decide) ⟨by decide, my_178 hK hv ha hs (by rw [hw]; decide) hp⟩
theorem my_88 {post : SY → Prop} {Z M : Int32} {D C O : Nat → Int32} {K v a : Nat} {s : Nat → Bool} {c : Nat} {r q : Bool} (hK : K ≤ 14) (hv : v < 5) (ha : a < 5) (hs : my_R M s) (hc : c < 5) (hp : ∀ M', my_R M' (mt_hold K v a (if c = a then mt_dist K v s r q else s)) → post (Z, M', mt_q K, nI v, nI a, D, C, O)) : wY_write_88 post (nI c) (mt_bI r) (mt_bI q) Z M (mt_q K) (nI v) (nI a) D C O := by
  have hk : K = 0 ∨ K = 1 ∨ K = 2 ∨ K = 3 ∨ K = 4 ∨ K = 5 ∨ K = 6 ∨ K = 7 ∨ K = 8 ∨ K = 9 ∨ K = 10 ∨ K = 11 ∨ K = 12 ∨ K = 13 ∨ K = 14 := by omega
  rcases hk with rfl | rfl | rfl | rfl | rfl | rfl | rfl | rfl | rfl | rfl | rfl | rfl | rfl | rfl | rfl
  · rw [mt_dist_id (by omega), ite_self] at hp
    exact br_t (by decide) (my_195 hK hv ha hs hp)
  · rw [mt_dist_id (by omega), ite_self] at hp
    exact br_t (by decide) (my_195 hK hv ha hs hp)
  · rw [mt_dist_id (by omega), ite_self] at hp
    exact br_t (by decide) (my_195 hK hv ha hs hp)
  · rw [mt_dist_id (by omega), ite_self] at hp
    exact br_t (by decide) (my_195 hK hv ha hs hp)
  · refine br_f (by decide) (br_f (by decide) (pk_eq c a (fun z => ?_) (fun z => ?_)))
    · rw [if_pos z] at hp
      have e : mt_dist 4 v s r q = (if r then mt_set s v (!s v) else s) := by
        show mt_set s v (s v ^^ r) = _
        cases r
        · refine Eq.trans ?_ (mt_set_self (s := s) (v := v))
          cases s v <;> rfl
        · cases s v <;> rfl
      rw [e] at hp
      exact br_t (by decide) (my_148 (r := r) hK hv ha hs (!s v) (rfl) hp)
    · rw [if_neg z] at hp
      exact my_195 hK hv ha hs hp
  · refine br_f (by decide) (br_f (by decide) (pk_eq c a (fun z => ?_) (fun z => ?_)))
    · rw [if_pos z] at hp
      have e : mt_dist 5 v s r q = (if q then mt_set s v (!s v) else s) := by
        show mt_set s v (s v ^^ q) = _
        cases q
        · refine Eq.trans ?_ (mt_set_self (s := s) (v := v))
          cases s v <;> rfl
        · cases s v <;> rfl
      rw [e] at hp
      exact br_f (by decide) (br_f (by decide) (br_f (by decide) (my_148 (r := q) hK hv ha hs (!s v) (rfl) hp)))
    · rw [if_neg z] at hp
      exact my_195 hK hv ha hs hp
  · refine br_f (by decide) (br_f (by decide) (pk_eq c a (fun z => ?_) (fun z => ?_)))
    · rw [if_pos z] at hp
      have e : mt_dist 6 v s r q = (if r then mt_set s v (false) else s) := by
        show mt_set s v (s v && !r) = _
        cases r
        · refine Eq.trans ?_ (mt_set_self (s := s) (v := v))
          cases s v <;> rfl
        · cases s v <;> rfl
      rw [e] at hp
      exact br_f (by decide) (br_t (by decide) (my_148 (r := r) hK hv ha hs (false) (⟨by decide, by decide, rfl⟩) hp))
    · rw [if_neg z] at hp
      exact my_195 hK hv ha hs hp
  · refine br_f (by decide) (br_f (by decide) (pk_eq c a (fun z => ?_) (fun z => ?_)))
    · rw [if_pos z] at hp
      have e : mt_dist 7 v s r q = (if r then mt_set s v (true) else s) := by
        show mt_set s v (s v || r) = _
        cases r
        · refine Eq.trans ?_ (mt_set_self (s := s) (v := v))
          cases s v <;> rfl
        · cases s v <;> rfl
      rw [e] at hp
      exact br_f (by decide) (br_f (by decide) (br_t (by decide) (my_148 (r := r) hK hv ha hs (true) (⟨by decide, by decide, rfl⟩) hp)))
    · rw [if_neg z] at hp
      exact my_195 hK hv ha hs hp
  · refine br_f (by decide) (br_f (by decide) (pk_eq c a (fun z => ?_) (fun z => ?_)))
    · rw [if_pos z] at hp
      have e : mt_dist 8 v s r q = (if q then mt_set s v (false) else s) := by
        show mt_set s v (s v && !q) = _
        cases q
        · refine Eq.trans ?_ (mt_set_self (s := s) (v := v))
          cases s v <;> rfl
        · cases s v <;> rfl
      rw [e] at hp
      exact br_f (by decide) (br_f (by decide) (br_f (by decide) (my_148 (r := q) hK hv ha hs (false) (⟨by decide, by decide, rfl⟩) hp)))
    · rw [if_neg z] at hp
      exact my_195 hK hv ha hs hp
  · refine br_f (by decide) (br_f (by decide) (pk_eq c a (fun z => ?_) (fun z => ?_)))
    · rw [if_pos z] at hp
      have e : mt_dist 9 v s r q = (if q then mt_set s v (true) else s) := by
        show mt_set s v (s v || q) = _
        cases q
        · refine Eq.trans ?_ (mt_set_self (s := s) (v := v))
          cases s v <;> rfl
        · cases s v <;> rfl
      rw [e] at hp
      exact br_f (by decide) (br_f (by decide) (br_f (by decide) (my_148 (r := q) hK hv ha hs (true) (⟨by decide, by decide, rfl⟩) hp)))
    · rw [if_neg z] at hp
      exact my_195 hK hv ha hs hp
  · have e : mt_dist 10 v s r q = s := rfl
    rw [e, ite_self] at hp
    exact br_f (by decide) (br_t (by decide) (my_195 hK hv ha hs hp))
  · have e : mt_dist 11 v s r q = s := rfl
    rw [e, ite_self] at hp
    exact br_f (by decide) (br_t (by decide) (my_195 hK hv ha hs hp))
  · have e : mt_dist 12 v s r q = s := rfl
    rw [e, ite_self] at hp
    exact br_f (by decide) (br_t (by decide) (my_195 hK hv ha hs hp))
  · have e : mt_dist 13 v s r q = s := rfl
    rw [e, ite_self] at hp
    exact br_f (by decide) (br_t (by decide) (my_195 hK hv ha hs hp))
  · rw [mt_dist_id (by omega), ite_self] at hp
    exact br_t (by decide) (my_195 hK hv ha hs hp)
theorem my_58 {post : SY → Prop} {Z M Q V A : Int32} {D C O : Nat → Int32} {c : Nat} (x b : Bool) (h : wY_write_88 post (nI c) (mt_bI (!x && b)) (mt_bI (x && !b)) Z M Q V A D C O) : wY_write_58 post (nI c) (mt_bI b) (mt_bI x) Z M Q V A D C O := by
  cases x <;> cases b
  · exact br_t (by decide) (br_f (by decide) (br_f (by decide) h))
  · exact br_t (by decide) (br_t (by decide) (br_f (by decide) h))
  · exact br_f (by decide) (br_t (by decide) (br_t (by decide) h))
  · exact br_f (by decide) (br_t (by decide) (br_f (by decide) h))
theorem my_put {post : SY → Prop} {Z M : Int32} {D C O : Nat → Int32} {K v a : Nat} {s : Nat → Bool} {c : Nat} {b : Bool} (hK : K ≤ 14) (hv : v < 5) (ha : a < 5) (hs : my_R M s) (hc : c < 5) (e : mt_put K v c b s = mt_set s c b) (hp : ∀ M', my_R M' (mt_write K v a c b s) → post (Z, M', mt_q K, nI v, nI a, D, C, O)) : wY_write_44 post (nI c) (mt_bI b) (mt_bI (s c)) Z M (mt_q K) (nI v) (nI a) D C O := by
  refine br_t (by decide) (nm_e ?_)
  have h1 : my_R ((M &&& (((1 : Int32) <<< (nI c &&& 31)) ^^^ (-1))) ||| (mt_bI b <<< (nI c &&& 31))) (mt_put K v c b s) := by
    rw [e]; exact my_set b hs hc rfl
  exact my_58 (s c) b (my_88 hK hv ha h1 hc hp)
theorem my_stuck {post : SY → Prop} {Z M : Int32} {D C O : Nat → Int32} {K v a : Nat} {s : Nat → Bool} {c : Nat} {b : Bool} (hK : K ≤ 14) (hv : v < 5) (ha : a < 5) (hs : my_R M s) (hc : c < 5) (e : mt_put K v c b s = s) (hp : ∀ M', my_R M' (mt_write K v a c b s) → post (Z, M', mt_q K, nI v, nI a, D, C, O)) : wY_write_45 post (nI c) (mt_bI b) (mt_bI (s c)) 1 Z M (mt_q K) (nI v) (nI a) D C O := by
  refine br_f (by decide) ?_
  have h1 : my_R M (mt_put K v c b s) := by
    rw [e]; exact hs
  exact my_58 (s c) b (my_88 hK hv ha h1 hc hp)
theorem my_write {post : SY → Prop} {Z M : Int32} {D C O : Nat → Int32} {K v a : Nat} {s : Nat → Bool} {c : Nat} {b : Bool} (hK : K ≤ 14) (hv : v < 5) (ha : a < 5) (hs : my_R M s) (hc : c < 5) (hp : ∀ M', my_R M' (mt_write K v a c b s) → post (Z, M', mt_q K, nI v, nI a, D, C, O)) : wpY_write post (Z, M, mt_q K, nI v, nI a, D, C, O) (nI c) (mt_bI b) := by
  unfold wpY_write
  dsimp only
  refine my_bitp hs hc ?_
  by_cases k2 : K = 2
  · subst k2
    refine br_t (by decide) (pk_eq c v (fun z => ?_) (fun z => my_put hK hv ha hs hc (by unfold mt_put; rw [if_neg z]) hp))
    cases h : s c
    · refine br_t (by decide) ?_
      rw [← h]
      refine my_stuck hK hv ha hs hc ?_ hp
      unfold mt_put
      rw [if_pos z]
      refine Eq.trans ?_ (mt_set_self (s := s) (v := c))
      rw [h]; rfl
    · refine br_f (by decide) ?_
      rw [← h]
      refine my_put hK hv ha hs hc ?_ hp
      unfold mt_put
      rw [if_pos z, h]; cases b <;> rfl
  · by_cases k3 : K = 3
    · subst k3
      refine br_f (by decide) (br_t (by decide) (pk_eq c v (fun z => ?_) (fun z => my_put hK hv ha hs hc (by unfold mt_put; rw [if_neg z]) hp)))
      cases h : s c
      · refine br_f (by decide) ?_
        rw [← h]
        refine my_put hK hv ha hs hc ?_ hp
        unfold mt_put
        rw [if_pos z, h]; cases b <;> rfl
      · refine br_t (by decide) ?_
        rw [← h]
        refine my_stuck hK hv ha hs hc ?_ hp
        unfold mt_put
        rw [if_pos z]
        refine Eq.trans ?_ (mt_set_self (s := s) (v := c))
        rw [h]; cases b <;> rfl
    · have q2 : ¬ mt_q K = 2 := by
        unfold mt_q
        split
        · decide
        · intro h; exact k2 ((nI_eq (b := 2) (by omega) (by decide)).mp h)
      have q3 : ¬ mt_q K = 3 := by
        unfold mt_q
        split
        · decide
        · intro h; exact k3 ((nI_eq (b := 3) (by omega) (by decide)).mp h)
      refine br_f q2 (br_f q3 (my_put hK hv ha hs hc ?_ hp))
      unfold mt_put mt_take
      rw [if_neg k2, if_neg k3, ite_self]
theorem my_fails {post : Int32 → SY → Prop} {Z M : Int32} {D C O : Nat → Int32} {K v a : Nat} {s : Nat → Bool} {c o : Nat} {al : Bool} (hK : K ≤ 14) (hv : v < 5) (ha : a < 5) (hs : my_R M s) (hc : c < 5) (ho : o < 4) (hp : ∀ M' fl, my_R M' (mt_step K v a o c (s, al)).1 → (al || fl) = (mt_step K v a o c (s, al)).2 → post (mt_bI fl) (Z, M', mt_q K, nI v, nI a, D, C, O)) : wpY_fails post (Z, M, mt_q K, nI v, nI a, D, C, O) (nI o) (nI c) := by
  refine pk_le 2 o (fun z => ?_) (fun z => ?_)
  · have e : mt_step K v a o c (s, al) = (s, al || (s c != decide (o = 3))) := if_neg (by omega)
    rw [e] at hp
    refine my_bitp hs hc ?_
    have e2 : nI o - 2 = mt_bI (decide (o = 3)) := by
      have h4 : o = 2 ∨ o = 3 := by omega
      rcases h4 with rfl | rfl <;> decide
    refine br_c (fun h => hp M false hs ?_) (fun h => hp M true hs ?_)
    · rw [e2] at h
      have h' : s c = decide (o = 3) := by
        revert h
        cases s c <;> cases decide (o = 3) <;> decide
      show (al || false) = (al || (s c != decide (o = 3)))
      rw [h']; cases decide (o = 3) <;> rfl
    · rw [e2] at h
      have h' : s c = !decide (o = 3) := by
        revert h
        cases s c <;> cases decide (o = 3) <;> decide
      show (al || true) = (al || (s c != decide (o = 3)))
      rw [h']; cases decide (o = 3) <;> rfl
  · have e : mt_step K v a o c (s, al) = (mt_write K v a c (decide (o = 1)) s, al) := if_pos z
    rw [e] at hp
    have e2 : nI o = mt_bI (decide (o = 1)) := by
      have h4 : o = 0 ∨ o = 1 := by omega
      rcases h4 with rfl | rfl <;> decide
    rw [e2]
    exact my_write hK hv ha hs hc (fun M' h' => hp M' false h' (Bool.or_false _))
theorem my_82 {post : Int32 → SY → Prop} {J14 J26 : Int32 → Int32 → Int32 → Int32 → Int32 → Int32 → Int32 → (Nat → Int32) → (Nat → Int32) → (Nat → Int32) → Prop} {Z M SK z0 : Int32} {D C O : Nat → Int32} {K v a m k cc : Nat} {p : mt_P} (hK : K ≤ 14) (hv : v < 5) (ha : a < 5) (hs : my_R M p.1) (hm : m < 6) (hcc : cc ≤ 4) (hC : C m = nI cc) (hk : k < 5 * cc) (hO : ∀ j, ∃ o, o < 4 ∧ O j = nI o) (hz : z0 = nI (mt_at D m (k / cc))) (hJ : ∀ M', my_R M' (mt_k K v a D C O m k p).1 → J26 (mt_bI (mt_k K v a D C O m k p).2) (nI (k + 1)) Z M' (mt_q K) (nI v) (nI a) D C O) : wY_run_82 post J14 J26 SK (mt_bI p.2) (nI m) (nI k) z0 Z M (mt_q K) (nI v) (nI a) D C O := by
  have hc0 : 0 < cc := by omega
  have e1 : C (nI m).toNatClampNeg = nI cc := by rw [nI_clamp (by omega), hC]
  have ecl : (C m).toNatClampNeg = cc := by rw [hC, nI_clamp (by omega)]
  have hmod : k % cc < cc := Nat.mod_lt _ hc0
  have ei : 4 * nI m + (nI k - nI k / C (nI m).toNatClampNeg * C (nI m).toNatClampNeg) = nI (4 * m + k % cc) := by
    rw [e1, pk_rem (by omega) hc0 (by omega), show (4 : Int32) = nI 4 from rfl, pk_mul, nI_add]
  obtain ⟨o, ho, eo⟩ := hO (4 * m + k % cc)
  have eop : O (4 * nI m + (nI k - nI k / C (nI m).toNatClampNeg * C (nI m).toNatClampNeg)).toNatClampNeg = nI o := by
    rw [ei, nI_clamp (by omega), eo]
  have hq : k / cc < 5 := (Nat.div_lt_iff_lt_mul hc0).mpr hk
  have eg : mt_k K v a D C O m k p = mt_step K v a o (mt_at D m (k / cc)) (p.1, p.2) := by
    unfold mt_k mt_cell
    rw [ecl, eo, nI_clamp (by omega)]
  subst hz
  refine ⟨vp_in_nI hm (by decide), ?_, ?_, ?_⟩
  · rw [e1]; exact nI_ne0 hc0 (by omega)
  · rw [ei]; exact vp_in_nI (by omega) (by decide)
  · rw [eop]
    refine my_fails (al := p.2) hK hv ha hs (mt_at_lt hq) ho (fun M' fl h1 h2 => ?_)
    rw [← eg] at h1 h2
    have hj := hJ M' h1
    rw [← h2] at hj
    cases fl
    · refine br_t (by decide) ?_
      cases h : p.2
      · rw [h] at hj
        exact br_t (by decide) (nm_r (nI_1 k) hj)
      · rw [h] at hj
        exact br_f (by decide) (nm_r (nI_1 k) hj)
    · rw [Bool.or_true] at hj
      exact br_f (by decide) (nm_r (nI_1 k) hj)
theorem my_26 {post : Int32 → SY → Prop} {J14 : Int32 → Int32 → Int32 → Int32 → Int32 → Int32 → Int32 → (Nat → Int32) → (Nat → Int32) → (Nat → Int32) → Prop} {Z M SK : Int32} {D C O : Nat → Int32} {K v a m : Nat} {p : mt_P} (hK : K ≤ 14) (hv : v < 5) (ha : a < 5) (hs : my_R M p.1) (hm : m < 6) (hD : ∀ j, D j = 0 ∨ D j = 1) (hC : ∀ j, ∃ c, c ≤ 4 ∧ C j = nI c) (hO : ∀ j, ∃ o, o < 4 ∧ O j = nI o) (hJ : ∀ M', my_R M' (mt_m K v a D C O SK m p).1 → J14 (mt_bI (mt_m K v a D C O SK m p).2) (nI (m + 1)) Z M' (mt_q K) (nI v) (nI a) D C O) : ∃ n, wY_run_26 post J14 SK (nI m) n (mt_bI p.2) 0 Z M (mt_q K) (nI v) (nI a) D C O := by
  obtain ⟨cc, hcc, ec⟩ := hC m
  have e1 : C (nI m).toNatClampNeg = nI cc := by rw [nI_clamp (by omega), ec]
  have ecl : (C m).toNatClampNeg = cc := by rw [ec, nI_clamp (by omega)]
  have e5 : 5 * C (nI m).toNatClampNeg = nI (5 * cc) := by
    rw [e1, show (5 : Int32) = nI 5 from rfl, pk_mul]
  by_cases z : nI m = SK
  · have em : mt_m K v a D C O SK m p = p := if_pos z
    rw [em] at hJ
    exact ⟨1, vp_in_nI hm (by decide), br_c (fun _ => nm_r (nI_1 m) (hJ M hs)) (fun _ => br_t z (nm_r (nI_1 m) (hJ M hs)))⟩
  · have em : mt_m K v a D C O SK m p = mt_it (mt_k K v a D C O m) (5 * cc) p := by
      unfold mt_m
      rw [if_neg z, ← mt_k_rows K v a D C O m p 5, ecl]
    rw [em] at hJ
    refine loop_0 (σ := Bool × Int32) (fun n i s => wY_run_26 post J14 SK (nI m) n (mt_bI s.1) (nI i) Z s.2 (mt_q K) (nI v) (nI a) D C O) (fun i s => my_R s.2 (mt_it (mt_k K v a D C O m) i p).1 ∧ s.1 = (mt_it (mt_k K v a D C O m) i p).2) (5 * cc) (p.2, M) ⟨hs, rfl⟩ ?_ ?_
    · intro n s hI
      have hj := hJ s.2 hI.1
      rw [← hI.2] at hj
      exact ⟨vp_in_nI hm (by decide), pk_le (5 * cc) (5 * cc) (fun _ => nm_r (nI_1 m) hj) (fun g => absurd g (by omega)) e5⟩
    · intro n i s hi hI next
      have hc0 : 0 < cc := by omega
      have hne : ¬ C (nI m).toNatClampNeg = 0 := by rw [e1]; exact nI_ne0 hc0 (by omega)
      have hin : vp_in (nI m) 6 := vp_in_nI hm (by decide)
      have hq : i / cc < 5 := (Nat.div_lt_iff_lt_mul hc0).mpr hi
      have ed : nI i / C (nI m).toNatClampNeg = nI (i / cc) := by rw [e1, pk_div (by omega) hc0 (by omega)]
      have go : ∀ z0, z0 = nI (mt_at D m (i / cc)) → wY_run_82 post J14 (wY_run_26 post J14 SK (nI m) n) SK (mt_bI s.1) (nI m) (nI i) z0 Z s.2 (mt_q K) (nI v) (nI a) D C O := by
        intro z0 hz
        have h82 := my_82 (post := post) (J14 := J14) (J26 := wY_run_26 post J14 SK (nI m) n) (Z := Z) (SK := SK) (D := D) hK hv ha hI.1 hm hcc ec hi hO hz (fun M' h' => next (_, M') ⟨h', rfl⟩)
        rw [← hI.2] at h82
        exact h82
      refine ⟨hin, pk_le (5 * cc) i (fun g => absurd g (by omega)) (fun _ => br_f z ⟨hin, br_c (fun d => ⟨hin, hne, go _ ?_⟩) (fun d => ⟨hin, hne, go _ ?_⟩)⟩) e5⟩
      · rw [nI_clamp (by omega)] at d
        have ea : mt_at D m (i / cc) = 4 - i / cc := by
          refine if_neg ?_
          rw [d]; decide
        rw [ed, ea, show (4 : Int32) = nI 4 from rfl, pk_sub (by omega)]
      · rw [nI_clamp (by omega)] at d
        have ea : mt_at D m (i / cc) = i / cc := if_pos ((hD m).resolve_right d)
        rw [ed, ea]
theorem my_14 {post : Int32 → SY → Prop} {M SK : Int32} {D C O : Nat → Int32} {K v a N : Nat} {p : mt_P} (hT : mt_T D C O N) (hK : K ≤ 14) (hv : v < 5) (ha : a < 5) (hs : my_R M p.1) (hp : ∀ M', my_R M' (mt_it (mt_m K v a D C O SK) N p).1 → post (mt_bI (mt_it (mt_m K v a D C O SK) N p).2) (nI N, M', mt_q K, nI v, nI a, D, C, O)) : ∃ n, wY_run_14 post SK n (mt_bI p.2) 0 (nI N) M (mt_q K) (nI v) (nI a) D C O := by
  obtain ⟨hN, hD, hC, hO⟩ := hT
  refine loop_0 (σ := Bool × Int32) (fun n i s => wY_run_14 post SK n (mt_bI s.1) (nI i) (nI N) s.2 (mt_q K) (nI v) (nI a) D C O) (fun i s => my_R s.2 (mt_it (mt_m K v a D C O SK) i p).1 ∧ s.1 = (mt_it (mt_m K v a D C O SK) i p).2) N (p.2, M) ⟨hs, rfl⟩ ?_ ?_
  · intro n s hI
    have hj := hp s.2 hI.1
    rw [← hI.2] at hj
    exact pk_le N N (fun _ => ⟨by cases s.1 <;> rfl, hj⟩) (fun g => absurd g (by omega))
  · intro n i s hi hI next
    refine pk_le N i (fun g => absurd g (by omega)) (fun _ => ?_)
    have h26 := my_26 (post := post) (J14 := wY_run_14 post SK n) (Z := nI N) (SK := SK) hK hv ha hI.1 (show i < 6 by omega) hD hC hO (fun M' h' => next (_, M') ⟨h', rfl⟩)
    rw [← hI.2] at h26
    exact h26
theorem my_run {post : Int32 → SY → Prop} {M SK : Int32} {D C O : Nat → Int32} {K v a N f : Nat} (hT : mt_T D C O N) (hK : K ≤ 14) (hv : v < 5) (ha : a < 5) (hp : ∀ M', post (mt_bI (mt_R K v a D C O SK N f)) (nI N, M', mt_q K, nI v, nI a, D, C, O)) : wpY_run post (nI N, M, mt_q K, nI v, nI a, D, C, O) (nI f) SK := by
  unfold wpY_run
  dsimp only
  refine my_settle (s := fun c => bt (nI f) c) hK hv ha (fun c _ => rfl) (fun M' h' => ?_)
  exact my_14 (p := (mt_hold K v a (fun c => bt (nI f) c), false)) hT hK hv ha h' (fun M2 _ => hp M2)
theorem my_count {post : Int32 → SY → Prop} {M Q V A Q' V' A' : Int32} (SK : Int32) {D C O : Nat → Int32} {K v a N : Nat} (hT : mt_T D C O N) (hK : K ≤ 14) (hv : v < 5) (ha : a < 5) (eQ : Q' = mt_q K) (eV : V' = nI v) (eA : A' = nI a) (hp : ∀ M', post (nI (mt_cnt (mt_R K v a D C O SK N) 32)) (nI N, M', mt_q K, nI v, nI a, D, C, O)) : wpY_count post (nI N, M, Q, V, A, D, C, O) Q' V' A' SK := by
  subst eQ eV eA
  refine loop_0 (σ := Int32) (fun n i s => wY_count_21 post SK n (nI (mt_cnt (mt_R K v a D C O SK N) i)) (nI i) (nI N) s (mt_q K) (nI v) (nI a) D C O) (fun _ _ => True) 32 M trivial ?_ ?_
  · intro n s _
    exact pk_le 32 32 (fun _ => hp s) (fun g => absurd g (by omega))
  · intro n i s hi _ next
    refine pk_le 32 i (fun g => absurd g (by omega)) (fun _ => my_run hT hK hv ha (fun M' => ?_))
    have hn := next M' trivial
    cases h : mt_R K v a D C O SK N i
    · have e : mt_cnt (mt_R K v a D C O SK N) (i + 1) = mt_cnt (mt_R K v a D C O SK N) i := if_neg (by rw [h]; decide)
      rw [e] at hn
      exact br_t (by decide) (nm_r (nI_1 i) hn)
    · have e : mt_cnt (mt_R K v a D C O SK N) (i + 1) = mt_cnt (mt_R K v a D C O SK N) i + 1 := if_pos h
      rw [e] at hn
      exact br_f (by decide) (nm_r (nI_1 _) (nm_r (nI_1 i) hn))
end
section
/-! faults, and the questions over them -/
theorem mt_r1 {A B : Prop} {P E : Int32} (L : Nat) (hL : L < 100) (hE : E = nI L) (hA : (∀ j, j < L → P ≠ nI j) → A) (hB : ∀ j, j < L → P = nI j → B) : (P < 0 → A) ∧ (¬ P < 0 → ((E ≤ P → A) ∧ (¬ E ≤ P → B))) := by
  by_cases h : P < 0
  · refine br_t h (hA (fun j hj e => ?_))
    rw [e] at h
    exact absurd h (nI_pos (by omega))
  · obtain ⟨j, hj, rfl⟩ := nI_of h
    refine br_f h (pk_le L j (fun z => hA (fun i hi e => ?_)) (fun z => hB j z rfl) hE rfl)
    rw [nI_eq (by omega) (by omega)] at e
    omega
theorem mt_r2 {A B : Prop} {P E : Int32} (L : Nat) (hL : L < 100) (hE : E = nI L) (hA : (∀ j, j < L + 1 → P ≠ nI j) → A) (hB : ∀ j, j < L + 1 → P = nI j → B) : (P < 0 → A) ∧ (¬ P < 0 → ((E < P → A) ∧ (¬ E < P → B))) := by
  by_cases h : P < 0
  · refine br_t h (hA (fun j hj e => ?_))
    rw [e] at h
    exact absurd h (nI_pos (by omega))
  · obtain ⟨j, hj, rfl⟩ := nI_of h
    refine br_f h (pk_lt L j (fun z => hA (fun i hi e => ?_)) (fun z => hB j (by omega) rfl) hE rfl)
    rw [nI_eq (by omega) (by omega)] at e
    omega
/-- a fault: K, v, and a (0 where the kind has none) -/
def mt_Va (K v a : Nat) (P : Int32) : Prop := K < 14 ∧ v < 5 ∧ a < 5 ∧ ((K < 4 ∧ a = 0) ∨ (4 ≤ K ∧ a ≠ v ∧ P = nI a))
def mt_V (P0 P1 P2 : Int32) : Prop := ∃ K v a, P0 = nI K ∧ P1 = nI v ∧ mt_Va K v a P2
theorem mt_VK {P0 P1 P2 : Int32} {K : Nat} (hK : K < 14) (e : P0 = nI K) (h : mt_V P0 P1 P2) : ∃ v, v < 5 ∧ P1 = nI v ∧ (K < 4 ∨ ∃ a, a < 5 ∧ a ≠ v ∧ P2 = nI a) := by
  obtain ⟨K', v, a, e0, e1, h1, h2, h3, h4⟩ := h
  have ek : K' = K := by
    rw [e, nI_eq (by omega) (by omega)] at e0
    exact e0.symm
  subst ek
  refine ⟨v, h2, e1, ?_⟩
  rcases h4 with g | g
  · exact Or.inl g.1
  · exact Or.inr ⟨a, h3, g.2.1, g.2.2⟩
theorem mx_isFault {post : Int32 → Prop} {P0 P1 P2 : Int32} (h1 : mt_V P0 P1 P2 → post 1) (h0 : ¬ mt_V P0 P1 P2 → post 0) : wpX_isFault post P0 P1 P2 := by
  unfold wpX_isFault
  refine mt_r1 14 (by decide) rfl (fun no => br_t rfl (h0 (fun V => ?_))) (fun K hK eK => br_f (by decide) ?_)
  · obtain ⟨K, v, a, e0, _, g, _⟩ := V
    exact no K g e0
  · refine mt_r1 5 (by decide) rfl (fun no => br_t rfl (h0 (fun V => ?_))) (fun v hv ev => br_f (by decide) ?_)
    · obtain ⟨v, hv, e, _⟩ := mt_VK hK eK V
      exact no v hv e
    · refine pk_lt K 4 (fun z => h1 ⟨K, v, 0, eK, ev, hK, hv, by decide, Or.inl ⟨z, rfl⟩⟩) (fun z => ?_) eK rfl
      refine mt_r1 5 (by decide) rfl (fun no => br_t rfl (h0 (fun V => ?_))) (fun a ha ea => br_f (by decide) ?_)
      · obtain ⟨v', hv', e, g⟩ := mt_VK hK eK V
        rcases g with g | ⟨a, ha, _, e2⟩
        · omega
        · exact no a ha e2
      · refine pk_eq a v (fun q => h0 (fun V => ?_)) (fun q => h1 ⟨K, v, a, eK, ev, hK, hv, ha, Or.inr ⟨z, q, ea⟩⟩) ea ev
        obtain ⟨v', hv', e, g⟩ := mt_VK hK eK V
        rcases g with g | ⟨a', ha', ne, e2⟩
        · omega
        · rw [ea, nI_eq (by omega) (by omega)] at e2
          rw [ev, nI_eq (by omega) (by omega)] at e
          omega
theorem my_19 {post : Int32 → Prop} {P0 P1 P2 z0 : Int32} {Z M Q V A : Int32} {D C O : Nat → Int32} {pr : Bool} (hz : z0 = mt_bI pr) (hp1 : pr = true → ∃ a, a < 5 ∧ P2 = nI a ∧ P2 ≠ P1) (hp0 : pr = false → ¬ ∃ a, a < 5 ∧ P2 = nI a ∧ P2 ≠ P1) (h1 : mt_V P0 P1 P2 → post 1) (h0 : ¬ mt_V P0 P1 P2 → post 0) : wY_fault_19 post P0 P1 z0 Z M Q V A D C O := by
  subst hz
  refine mt_r2 13 (by decide) rfl (fun no => h0 (fun V => ?_)) (fun K hK eK => ?_)
  · obtain ⟨K, v, a, e0, _, g, _⟩ := V
    exact no K g e0
  · refine mt_r2 4 (by decide) rfl (fun no => h0 (fun V => ?_)) (fun v hv ev => ?_)
    · obtain ⟨v, hv, e, _⟩ := mt_VK hK eK V
      exact no v hv e
    · refine pk_lt K 4 (fun z => h1 ⟨K, v, 0, eK, ev, hK, hv, by decide, Or.inl ⟨z, rfl⟩⟩) (fun z => ?_) eK rfl
      cases pr
      · refine br_t rfl (h0 (fun V => hp0 rfl ?_))
        obtain ⟨v', hv', e, g⟩ := mt_VK hK eK V
        rcases g with g | ⟨a', ha', ne, e2⟩
        · omega
        · refine ⟨a', ha', e2, fun e3 => ne ?_⟩
          rw [e2, e, nI_eq (by omega) (by omega)] at e3
          exact e3
      · refine br_f (by decide) (h1 ?_)
        obtain ⟨a, ha, ea, ne⟩ := hp1 rfl
        refine ⟨K, v, a, eK, ev, hK, hv, ha, Or.inr ⟨z, fun e3 => ne ?_, ea⟩⟩
        rw [ea, ev, e3]
theorem my_fault {post : Int32 → Prop} {P0 P1 P2 : Int32} {Z M Q V A : Int32} {D C O : Nat → Int32} (h1 : mt_V P0 P1 P2 → post 1) (h0 : ¬ mt_V P0 P1 P2 → post 0) : wpY_fault post (Z, M, Q, V, A, D, C, O) P0 P1 P2 := by
  refine mt_r2 4 (by decide) rfl (fun no => ?_) (fun a ha ea => br_c (fun z => ?_) (fun z => ?_))
  · exact my_19 (pr := false) (P2 := P2) rfl (fun h => absurd h (by decide)) (fun _ ⟨a, ha, e, _⟩ => no a ha e) h1 h0
  · exact my_19 (pr := false) (P2 := P2) rfl (fun h => absurd h (by decide)) (fun _ ⟨a, ha, e, ne⟩ => ne z) h1 h0
  · exact my_19 (pr := true) (P2 := P2) rfl (fun _ => ⟨a, ha, ea, z⟩) (fun h => absurd h (by decide)) h1 h0
def mt_F (K v a : Nat) (D C O : Nat → Int32) (sk : Int32) (N : Nat) : Bool := decide (mt_cnt (mt_R K v a D C O sk N) 32 = 32)
theorem mx_m1 {A : Int32} {p : Nat → Bool} (h : ∀ f, f < 32 → bt A f = p f) : A = -1 ↔ mt_cnt p 32 = 32 := by
  rw [mt_cnt_full]
  constructor
  · intro e f hf
    rw [← h f hf, e]; exact b_m1 f hf
  · intro g
    apply b_ext
    intro f hf
    rw [h f hf, g f hf, b_m1 f hf]
theorem mx_z {A : Int32} {p : Nat → Bool} (h : ∀ f, f < 32 → bt A f = p f) : A = 0 ↔ mt_cnt p 32 = 0 := by
  rw [mt_cnt_none]
  constructor
  · intro e f hf
    rw [← h f hf, e]; exact b_0 f
  · intro g
    apply b_ext
    intro f hf
    rw [h f hf, g f hf, b_0 f]
theorem mt_VaA {K v a : Nat} {P : Int32} (h : mt_Va K v a P) : mx_A K a P := by
  obtain ⟨h1, h2, h3, h4⟩ := h
  refine ⟨h3, fun g _ => ?_⟩
  rcases h4 with z | z
  · omega
  · exact z.2.2
theorem mx_full {P1 P0 : SX → Prop} {D C O : Nat → Int32} {N : Nat} (hT : mt_T D C O N) {e : Nat → Int32} {P3 : Int32} (SK : Int32) {K v a : Nat} (hK : K ≤ 14) (hv : v < 5) (hA : mx_A K a P3) (h1 : mt_F K v a D C O SK N = true → ∀ e', P1 (nI N, D, C, O, e')) (h0 : mt_F K v a D C O SK N = false → ∀ e', P0 (nI N, D, C, O, e')) : wpX_alarms (fun r u => (r = (-1) → P1 u) ∧ (¬ r = (-1) → P0 u)) (nI N, D, C, O, e) (nI K) (nI v) P3 SK := by
  refine mx_alarms SK hT hK hv hA (fun A e' h => br_c (fun z => h1 ?_ e') (fun z => h0 ?_ e'))
  · exact decide_eq_true ((mx_m1 h).mp z)
  · exact decide_eq_false (fun g => z ((mx_m1 h).mpr g))
theorem mt_32 (p : Nat → Bool) : nI (mt_cnt p 32) = 32 ↔ mt_cnt p 32 = 32 := by
  have := mt_cnt_le p 32
  exact nI_eq (b := 32) (by omega) (by decide)
theorem my_23 {post : Int32 → SY → Prop} {D C O : Nat → Int32} {N : Nat} (hT : mt_T D C O N) {M Q V A : Int32} {P0 P1 P2 : Int32} {K v a : Nat} (hK : K < 14) (hv : v < 5) (ha : a < 5) (e0 : P0 = nI K) (e1 : P1 = nI v) (e2 : P2 = nI a) (hp : ∀ M' Q' V' A', post (mt_bI (mt_F K v a D C O (-1) N)) (nI N, M', Q', V', A', D, C, O)) : wY_finds_23 post P2 P1 P0 (nI N) M Q V A D C O := by
  unfold wY_finds_23
  have eq : P0 = mt_q K := by rw [e0]; unfold mt_q; rw [if_neg (by omega)]
  refine my_count (-1) hT (show K ≤ 14 by omega) hv ha eq e1 e2 (fun M' => br_c (fun z => ?_) (fun z => ?_))
  · have hh := hp M' (mt_q K) (nI v) (nI a)
    unfold mt_F at hh
    rw [decide_eq_true ((mt_32 _).mp z)] at hh
    exact hh
  · have hh := hp M' (mt_q K) (nI v) (nI a)
    unfold mt_F at hh
    rw [decide_eq_false (fun g => z ((mt_32 _).mpr g))] at hh
    exact hh
theorem my_finds1 {post : Int32 → SY → Prop} {D C O : Nat → Int32} {N : Nat} (hT : mt_T D C O N) {M Q V A : Int32} {P0 P1 P2 : Int32} {K v a : Nat} (e0 : P0 = nI K) (e1 : P1 = nI v) (hV : mt_Va K v a P2) (hp : ∀ M' Q' V' A', post (mt_bI (mt_F K v a D C O (-1) N)) (nI N, M', Q', V', A', D, C, O)) : wpY_finds post (nI N, M, Q, V, A, D, C, O) P0 P1 P2 := by
  unfold wpY_finds
  dsimp only
  refine my_fault (fun _ => br_f (by decide) ?_) (fun nV => absurd ⟨K, v, a, e0, e1, hV⟩ nV)
  obtain ⟨h1, h2, h3, h4⟩ := hV
  refine pk_le 4 K (fun z => my_23 hT h1 h2 h3 e0 e1 ?_ hp) (fun z => my_23 hT h1 h2 h3 e0 e1 ?_ hp) rfl e0
  · rcases h4 with g | g
    · omega
    · exact g.2.2
  · rcases h4 with g | g
    · rw [g.2]; rfl
    · omega
theorem my_finds0 {post : Int32 → SY → Prop} {Z M Q V A : Int32} {D C O : Nat → Int32} {P0 P1 P2 : Int32} (hV : ¬ mt_V P0 P1 P2) (hp : post 0 (Z, M, Q, V, A, D, C, O)) : wpY_finds post (Z, M, Q, V, A, D, C, O) P0 P1 P2 := by
  unfold wpY_finds
  dsimp only
  exact my_fault (fun g => absurd g hV) (fun _ => br_t rfl hp)
/-! by natural numbers -/
def mt_ad (K j : Nat) : Nat := if K < 4 then 0 else j
def mt_ok (K v j : Nat) : Bool := decide (K < 4) || decide (j ≠ v)
theorem mt_ok1 {K v j : Nat} (hK : K < 14) (hv : v < 5) (hj : j < 5) (h : mt_ok K v j = true) : mt_Va K v (mt_ad K j) (nI j) := by
  unfold mt_ok at h
  unfold mt_ad mt_Va
  by_cases z : K < 4
  · rw [if_pos z]
    exact ⟨hK, hv, by decide, Or.inl ⟨z, rfl⟩⟩
  · rw [if_neg z]
    rw [decide_eq_false z, Bool.false_or, decide_eq_true_eq] at h
    exact ⟨hK, hv, hj, Or.inr ⟨by omega, h, rfl⟩⟩
theorem mt_ok0 {K v j : Nat} (hK : K < 14) (hv : v < 5) (hj : j < 5) (h : mt_ok K v j = false) : ¬ mt_V (nI K) (nI v) (nI j) := by
  intro V
  obtain ⟨v', hv', e, g⟩ := mt_VK hK rfl V
  unfold mt_ok at h
  rw [Bool.or_eq_false_iff, decide_eq_false_iff_not, decide_eq_false_iff_not] at h
  rw [nI_eq (by omega) (by omega)] at e
  rcases g with g | ⟨a, ha, ne, e2⟩
  · exact h.1 g
  · rw [nI_eq (by omega) (by omega)] at e2
    exact h.2 (fun q => ne (by omega))
theorem mx_ok {post : Int32 → Prop} {K v j : Nat} (hK : K < 14) (hv : v < 5) (hj : j < 5) (hp : post (mt_bI (mt_ok K v j))) : wpX_isFault post (nI K) (nI v) (nI j) := by
  cases h : mt_ok K v j
  · rw [h] at hp
    exact mx_isFault (fun V => absurd V (mt_ok0 hK hv hj h)) (fun _ => hp)
  · rw [h] at hp
    exact mx_isFault (fun _ => hp) (fun nV => absurd ⟨K, v, _, rfl, rfl, mt_ok1 hK hv hj h⟩ nV)
theorem my_ok {post : Int32 → SY → Prop} {D C O : Nat → Int32} {N : Nat} (hT : mt_T D C O N) {M Q V A : Int32} {P1 P2 : Int32} {K v j : Nat} (hK : K < 14) (hv : v < 5) (hj : j < 5) (e1 : P1 = nI v) (e2 : P2 = nI j) (hp : ∀ M' Q' V' A', post (mt_bI (mt_ok K v j && mt_F K v (mt_ad K j) D C O (-1) N)) (nI N, M', Q', V', A', D, C, O)) : wpY_finds post (nI N, M, Q, V, A, D, C, O) (nI K) P1 P2 := by
  subst e1 e2
  cases h : mt_ok K v j
  · rw [h] at hp
    exact my_finds0 (mt_ok0 hK hv hj h) (hp M Q V A)
  · rw [h] at hp
    exact my_finds1 hT rfl rfl (mt_ok1 hK hv hj h) hp
theorem mt_okA {K v j : Nat} (hj : j < 5) : mx_A K (mt_ad K j) (nI j) := by
  unfold mt_ad mx_A
  by_cases z : K < 4
  · rw [if_pos z]; exact ⟨by decide, fun g _ => absurd z (by omega)⟩
  · rw [if_neg z]; exact ⟨hj, fun _ _ => rfl⟩
/-! found -/
def mt_G (K : Nat) (D C O : Nat → Int32) (N c : Nat) : Bool := (decide (4 ≤ K) || decide (c % 5 = 0)) && (mt_ok K (c / 5) (c % 5) && mt_F K (c / 5) (mt_ad K (c % 5)) D C O (-1) N)
def mt_oth (K : Nat) : Nat := if K < 4 then 1 else 5
theorem mt_c5 {v j : Nat} (hj : j < 5) : (5 * v + j) / 5 = v ∧ (5 * v + j) % 5 = j := by omega
theorem mt_cnt_skip (p : Nat → Bool) (b : Nat) : ∀ d, (∀ i, i < d → p (b + i) = false) → mt_cnt p (b + d) = mt_cnt p b := by
  intro d
  induction d with
  | zero => intro _; rfl
  | succ d ih =>
    intro h
    have e : mt_cnt p (b + (d + 1)) = mt_cnt p (b + d) := if_neg (fun g => absurd ((h d (by omega)).symm.trans g) (by decide))
    rw [e, ih (fun i hi => h i (by omega))]
theorem mt_cnt_t {p : Nat → Bool} {n : Nat} (h : p n = true) : mt_cnt p (n + 1) = mt_cnt p n + 1 := if_pos h
theorem mt_cnt_f {p : Nat → Bool} {n : Nat} (h : p n = false) : mt_cnt p (n + 1) = mt_cnt p n := if_neg (by rw [h]; decide)
theorem mt_G_at (K : Nat) (D C O : Nat → Int32) (N v j : Nat) (hj : j < mt_oth K) : mt_G K D C O N (5 * v + j) = (mt_ok K v j && mt_F K v (mt_ad K j) D C O (-1) N) := by
  unfold mt_oth at hj
  have h5 : j < 5 := by
    revert hj; split <;> omega
  unfold mt_G
  rw [(mt_c5 h5).1, (mt_c5 h5).2]
  by_cases z : K < 4
  · rw [if_pos z] at hj
    rw [decide_eq_true (show j = 0 by omega), Bool.or_true, Bool.true_and]
  · rw [decide_eq_true (show 4 ≤ K by omega), Bool.true_or, Bool.true_and]
theorem mt_G_row (K : Nat) (D C O : Nat → Int32) (N v : Nat) : mt_cnt (mt_G K D C O N) (5 * v + mt_oth K) = mt_cnt (mt_G K D C O N) (5 * (v + 1)) := by
  unfold mt_oth
  by_cases z : K < 4
  · rw [if_pos z, show 5 * (v + 1) = 5 * v + 1 + 4 by omega]
    refine (mt_cnt_skip _ (5 * v + 1) 4 (fun i hi => ?_)).symm
    unfold mt_G
    rw [decide_eq_false (show ¬ 4 ≤ K by omega), decide_eq_false (show ¬ (5 * v + 1 + i) % 5 = 0 by omega)]
    rfl
  · rw [if_neg z]
    rfl
theorem mt_oth_le (K : Nat) : mt_oth K ≤ 5 := by
  unfold mt_oth; split <;> omega
theorem mx_19 {post : Int32 → SX → Prop} {J10 : Int32 → Int32 → Int32 → (Nat → Int32) → (Nat → Int32) → (Nat → Int32) → (Nat → Int32) → Prop} {D C O : Nat → Int32} {N : Nat} (hT : mt_T D C O N) {e : Nat → Int32} {K v : Nat} (hK : K < 14) (hv : v < 5) (hJ : ∀ e', J10 (nI (mt_cnt (mt_G K D C O N) (5 * (v + 1)))) (nI (v + 1)) (nI N) D C O e') : ∃ n, wX_countFound_19 post J10 (nI K) (nI (mt_oth K)) (nI v) n (nI (mt_cnt (mt_G K D C O N) (5 * v))) 0 (nI N) D C O e := by
  have ho := mt_oth_le K
  refine loop_0 (σ := Nat → Int32) (fun n i s => wX_countFound_19 post J10 (nI K) (nI (mt_oth K)) (nI v) n (nI (mt_cnt (mt_G K D C O N) (5 * v + i))) (nI i) (nI N) D C O s) (fun _ _ => True) (mt_oth K) e trivial ?_ ?_
  · intro n s _
    have hj := hJ s
    rw [← mt_G_row] at hj
    exact pk_le (mt_oth K) (mt_oth K) (fun _ => nm_r (nI_1 v) hj) (fun g => absurd g (by omega))
  · intro n i s hi _ next
    have eg := mt_G_at K D C O N v i hi
    refine pk_le (mt_oth K) i (fun g => absurd g (by omega)) (fun _ => mx_ok hK hv (by omega) ?_)
    have hn : ∀ e', wX_countFound_19 post J10 (nI K) (nI (mt_oth K)) (nI v) n (nI (mt_cnt (mt_G K D C O N) (5 * v + i + 1))) (nI (i + 1)) (nI N) D C O e' := fun e' => next e' trivial
    cases ok : mt_ok K v i
    · rw [ok, Bool.false_and] at eg
      rw [mt_cnt_f eg] at hn
      exact br_t rfl (nm_r (nI_1 i) (hn s))
    · rw [ok, Bool.true_and] at eg
      refine br_f (by decide) (mx_full hT (-1) (show K ≤ 14 by omega) hv (mt_okA (v := v) (show i < 5 by omega)) (fun f e' => ?_) (fun f e' => ?_))
      · rw [f] at eg
        rw [mt_cnt_t eg] at hn
        exact nm_r (nI_1 _) (nm_r (nI_1 i) (hn e'))
      · rw [f] at eg
        rw [mt_cnt_f eg] at hn
        exact nm_r (nI_1 i) (hn e')
theorem mx_countFound {post : Int32 → SX → Prop} {D C O : Nat → Int32} {N : Nat} (hT : mt_T D C O N) {e : Nat → Int32} {K : Nat} (hK : K < 14) (hp : ∀ e', post (nI (mt_cnt (mt_G K D C O N) 25)) (nI N, D, C, O, e')) : wpX_countFound post (nI N, D, C, O, e) (nI K) := by
  have main : ∃ n10, wX_countFound_10 post (nI K) (nI (mt_oth K)) n10 0 0 (nI N) D C O e := by
    refine loop_0 (σ := Nat → Int32) (fun n i s => wX_countFound_10 post (nI K) (nI (mt_oth K)) n (nI (mt_cnt (mt_G K D C O N) (5 * i))) (nI i) (nI N) D C O s) (fun _ _ => True) 5 e trivial ?_ ?_
    · intro n s _
      exact pk_le 5 5 (fun _ => hp s) (fun g => absurd g (by omega))
    · intro n i s hi _ next
      exact pk_le 5 i (fun g => absurd g (by omega)) (fun _ => mx_19 hT hK hi (fun e' => next e' trivial))
  unfold wpX_countFound
  dsimp only
  unfold wpX_choicesOfA
  refine pk_le 4 K (fun z => ?_) (fun z => ?_)
  · have e5 : mt_oth K = 5 := if_neg (by omega)
    rw [e5] at main
    exact main
  · have e5 : mt_oth K = 1 := if_pos z
    rw [e5] at main
    exact main
theorem my_38 {post : Int32 → SY → Prop} {J16 : Int32 → Int32 → Int32 → Int32 → Int32 → Int32 → Int32 → (Nat → Int32) → (Nat → Int32) → (Nat → Int32) → Prop} {D C O : Nat → Int32} {N : Nat} (hT : mt_T D C O N) {M Q V A : Int32} {K c : Nat} (hK : K < 14) (hc : c < 25) (hg : (decide (4 ≤ K) || decide (c % 5 = 0)) = true) (hJ : ∀ M' Q' V' A', J16 (nI (mt_cnt (mt_G K D C O N) (c + 1))) (nI (c + 1)) (nI N) M' Q' V' A' D C O) : wY_found_33 post J16 (nI K) (nI (mt_cnt (mt_G K D C O N) c)) (nI c) (nI N) M Q V A D C O := by
  have eg : mt_G K D C O N c = (mt_ok K (c / 5) (c % 5) && mt_F K (c / 5) (mt_ad K (c % 5)) D C O (-1) N) := by
    unfold mt_G; rw [hg, Bool.true_and]
  refine br_f (by decide) ⟨by decide, by decide, ?_⟩
  refine my_ok hT hK (show c / 5 < 5 by omega) (show c % 5 < 5 by omega) (pk_div (d := 5) (by omega) (by decide) (by decide)) (pk_rem (d := 5) (by omega) (by decide) (by decide)) (fun M' Q' V' A' => ?_)
  rw [← eg]
  have hj := hJ M' Q' V' A'
  cases h : mt_G K D C O N c
  · rw [mt_cnt_f h] at hj
    exact br_t rfl (nm_r (nI_1 c) hj)
  · rw [mt_cnt_t h] at hj
    exact br_f (by decide) (nm_r (nI_1 _) (nm_r (nI_1 c) hj))
theorem my_found {post : Int32 → SY → Prop} {D C O : Nat → Int32} {N : Nat} (hT : mt_T D C O N) {M Q V A : Int32} {K : Nat} (hK : K < 14) (hp : ∀ M' Q' V' A', post (nI (mt_cnt (mt_G K D C O N) 25)) (nI N, M', Q', V', A', D, C, O)) : wpY_found post (nI N, M, Q, V, A, D, C, O) (nI K) := by
  have main : ∃ n16, wY_found_16 post (nI K) n16 0 0 (nI N) M Q V A D C O := by
    refine loop_0 (σ := Int32 × Int32 × Int32 × Int32) (fun n i s => wY_found_16 post (nI K) n (nI (mt_cnt (mt_G K D C O N) i)) (nI i) (nI N) s.1 s.2.1 s.2.2.1 s.2.2.2 D C O) (fun _ _ => True) 25 (M, Q, V, A) trivial ?_ ?_
    · intro n s _
      exact pk_le 25 25 (fun _ => hp _ _ _ _) (fun g => absurd g (by omega))
    · intro n i s hi _ next
      refine pk_le 25 i (fun g => absurd g (by omega)) (fun _ => pk_le 4 K (fun z => ?_) (fun z => ⟨by decide, ?_⟩))
      · exact my_38 hT hK hi (by rw [decide_eq_true z]; rfl) (fun M' Q' V' A' => next (M', Q', V', A') trivial)
      · refine pk_eq (i % 5) 0 (fun q => ?_) (fun q => ?_) (pk_rem (d := 5) (by omega) (by decide) (by decide)) rfl
        · exact my_38 hT hK hi (by rw [decide_eq_true q, Bool.or_true]) (fun M' Q' V' A' => next (M', Q', V', A') trivial)
        · have hn := next s trivial
          have eg : mt_G K D C O N i = false := by
            unfold mt_G
            rw [decide_eq_false (show ¬ 4 ≤ K by omega), decide_eq_false q]
            rfl
          rw [mt_cnt_f eg] at hn
          exact br_t rfl (nm_r (nI_1 i) hn)
  exact br_f (nI_pos (by omega)) (pk_le K 13 (fun _ => main) (fun g => absurd g (by omega)))
/-! covered -/
def mt_cov (D C O : Nat → Int32) (N : Nat) : Nat → Int32
  | 0 => 0
  | k + 1 => if nI (mt_cnt (mt_G k D C O N) 25) = (if k < 4 then 5 else 20) then mt_cov D C O N k ||| ((1 : Int32) <<< (nI k &&& 31)) else mt_cov D C O N k
theorem mx_covered {post : Int32 → SX → Prop} {D C O : Nat → Int32} {N : Nat} (hT : mt_T D C O N) {e : Nat → Int32} (hp : ∀ e', post (mt_cov D C O N 14) (nI N, D, C, O, e')) : wpX_covered post (nI N, D, C, O, e) := by
  refine loop_0 (σ := Nat → Int32) (fun n i s => wX_covered_4 post n (mt_cov D C O N i) (nI i) (nI N) D C O s) (fun _ _ => True) 14 e trivial ?_ ?_
  · intro n s _
    exact pk_le 14 14 (fun _ => hp s) (fun g => absurd g (by omega))
  · intro n i s hi _ next
    have hn : ∀ e', wX_covered_4 post n (if nI (mt_cnt (mt_G i D C O N) 25) = (if i < 4 then 5 else 20) then mt_cov D C O N i ||| ((1 : Int32) <<< (nI i &&& 31)) else mt_cov D C O N i) (nI (i + 1)) (nI N) D C O e' := fun e' => next e' trivial
    refine pk_le 14 i (fun g => absurd g (by omega)) (fun _ => pk_le 4 i (fun z => ?_) (fun z => ?_))
    · rw [if_neg (show ¬ i < 4 by omega)] at hn
      unfold wX_covered_21
      refine mx_countFound hT hi (fun e' => br_c (fun q => ?_) (fun q => ?_))
      · rw [if_pos q] at hn
        exact nm_e (nm_r (nI_1 i) (hn e'))
      · rw [if_neg q] at hn
        exact nm_r (nI_1 i) (hn e')
    · rw [if_pos z] at hn
      unfold wX_covered_21
      refine mx_countFound hT hi (fun e' => br_c (fun q => ?_) (fun q => ?_))
      · rw [if_pos q] at hn
        exact nm_e (nm_r (nI_1 i) (hn e'))
      · rw [if_neg q] at hn
        exact nm_r (nI_1 i) (hn e')
theorem my_covered {post : Int32 → SY → Prop} {D C O : Nat → Int32} {N : Nat} (hT : mt_T D C O N) {M Q V A : Int32} (hp : ∀ M' Q' V' A', post (mt_cov D C O N 14) (nI N, M', Q', V', A', D, C, O)) : wpY_covered post (nI N, M, Q, V, A, D, C, O) := by
  refine loop_0 (σ := Int32 × Int32 × Int32 × Int32) (fun n i s => wY_covered_4 post n (mt_cov D C O N i) (nI i) (nI N) s.1 s.2.1 s.2.2.1 s.2.2.2 D C O) (fun _ _ => True) 14 (M, Q, V, A) trivial ?_ ?_
  · intro n s _
    exact pk_le 14 14 (fun _ => hp _ _ _ _) (fun g => absurd g (by omega))
  · intro n i s hi _ next
    have hn : ∀ M' Q' V' A', wY_covered_4 post n (if nI (mt_cnt (mt_G i D C O N) 25) = (if i < 4 then 5 else 20) then mt_cov D C O N i ||| ((1 : Int32) <<< (nI i &&& 31)) else mt_cov D C O N i) (nI (i + 1)) (nI N) M' Q' V' A' D C O := fun M' Q' V' A' => next (M', Q', V', A') trivial
    refine pk_le 14 i (fun g => absurd g (by omega)) (fun _ => my_found hT hi (fun M' Q' V' A' => pk_le 4 i (fun z => ?_) (fun z => ?_)))
    · rw [if_neg (show ¬ i < 4 by omega)] at hn
      refine br_c (fun q => ?_) (fun q => ?_)
      · rw [if_pos q] at hn
        exact nm_e (nm_r (nI_1 i) (hn M' Q' V' A'))
      · rw [if_neg q] at hn
        exact nm_r (nI_1 i) (hn M' Q' V' A')
    · rw [if_pos z] at hn
      refine br_c (fun q => ?_) (fun q => ?_)
      · rw [if_pos q] at hn
        exact nm_e (nm_r (nI_1 i) (hn M' Q' V' A'))
      · rw [if_neg q] at hn
        exact nm_r (nI_1 i) (hn M' Q' V' A')
end
section
/-! foundFrom -/
theorem mx_one (x : Int32) {i : Nat} (hi : i < 32) : ((x.toUInt32 >>> ((nI i).toUInt32 &&& Int32.toUInt32 31)).toInt32) &&& 1 = mt_bI (bt x i) := by
  apply b_ext
  intro j hj
  rw [b_and, b_ushr i hi, mt_b1 j hj]
  by_cases z : j = 0
  · subst z
    rw [decide_eq_true rfl, Bool.and_true, Nat.add_zero]
    cases bt x i <;> rfl
  · rw [decide_eq_false z, Bool.and_false]
    cases bt x i
    · exact (b_0 j).symm
    · show false = bt 1 j
      rw [mt_b1 j hj, decide_eq_false z]
theorem mx_27 {post : Int32 → SX → Prop} {x Z : Int32} {D C O e : Nat → Int32} {p : Nat → Bool} (h : ∀ f, f < 32 → bt x f = p f) (hp : post (nI (mt_cnt p 32)) (Z, D, C, O, e)) : ∃ n, wX_foundFrom_27 post x Z D C O e n 0 0 := by
  refine loop_0 (σ := Unit) (fun n i _ => wX_foundFrom_27 post x Z D C O e n (nI (mt_cnt p i)) (nI i)) (fun _ _ => True) 32 () trivial ?_ ?_
  · intro n s _
    exact pk_le 32 32 (fun _ => hp) (fun g => absurd g (by omega))
  · intro n i s hi _ next
    have hn := next () trivial
    have ee : nI (mt_cnt p i) + (((x.toUInt32 >>> ((nI i).toUInt32 &&& Int32.toUInt32 31)).toInt32) &&& 1) = nI (mt_cnt p (i + 1)) := by
      rw [mx_one x hi, h i hi]
      cases q : p i
      · rw [mt_cnt_f q]; exact Int32.add_zero _
      · rw [mt_cnt_t q]; exact nI_1 _
    exact pk_le 32 i (fun g => absurd g (by omega)) (fun _ => nm_r ee (nm_r (nI_1 i) hn))
theorem my_ff {post : Int32 → SY → Prop} {D C O : Nat → Int32} {N : Nat} (hT : mt_T D C O N) {M Q V A : Int32} {P0 P1 P2 : Int32} {K v a : Nat} (hK : K < 14) (hv : v < 5) (ha : a < 5) (e0 : P0 = nI K) (e1 : P1 = nI v) (e2 : P2 = nI a) (hp : ∀ M' Q' V' A', post (nI (mt_cnt (mt_R K v a D C O (-1) N) 32)) (nI N, M', Q', V', A', D, C, O)) : wY_foundFrom_23 post P2 P1 P0 (nI N) M Q V A D C O := by
  unfold wY_foundFrom_23
  have eq : P0 = mt_q K := by rw [e0]; unfold mt_q; rw [if_neg (by omega)]
  exact my_count (-1) hT (show K ≤ 14 by omega) hv ha eq e1 e2 (fun M' => hp _ _ _ _)
theorem my_foundFrom1 {post : Int32 → SY → Prop} {D C O : Nat → Int32} {N : Nat} (hT : mt_T D C O N) {M Q V A : Int32} {P0 P1 P2 : Int32} {K v a : Nat} (e0 : P0 = nI K) (e1 : P1 = nI v) (hV : mt_Va K v a P2) (hp : ∀ M' Q' V' A', post (nI (mt_cnt (mt_R K v a D C O (-1) N) 32)) (nI N, M', Q', V', A', D, C, O)) : wpY_foundFrom post (nI N, M, Q, V, A, D, C, O) P0 P1 P2 := by
  unfold wpY_foundFrom
  dsimp only
  refine my_fault (fun _ => br_f (by decide) ?_) (fun nV => absurd ⟨K, v, a, e0, e1, hV⟩ nV)
  obtain ⟨h1, h2, h3, h4⟩ := hV
  refine pk_le 4 K (fun z => my_ff hT h1 h2 h3 e0 e1 ?_ hp) (fun z => my_ff hT h1 h2 h3 e0 e1 ?_ hp) rfl e0
  · rcases h4 with g | g
    · omega
    · exact g.2.2
  · rcases h4 with g | g
    · rw [g.2]; rfl
    · omega
/-! spare -/
def mt_L (K v j : Nat) (D C O : Nat → Int32) (N m : Nat) : Bool := mt_ok K v j && (mt_F K v (mt_ad K j) D C O (-1) N && !mt_F K v (mt_ad K j) D C O (nI m) N)
def mt_W (K : Nat) (D C O : Nat → Int32) (N m c : Nat) : Bool := !mt_L K (c / 5) (c % 5) D C O N m
def mt_S (D C O : Nat → Int32) (N m K : Nat) : Bool := mt_all (mt_W K D C O N m) 25
theorem mt_all_t {p : Nat → Bool} {n : Nat} (h : mt_all p n = true) (hn : p n = true) : mt_all p (n + 1) = true := by
  show (mt_all p n && p n) = true
  rw [h, hn]; rfl
theorem mt_all_no {p : Nat → Bool} {n c : Nat} (hc : c < n) (h : p c = false) : mt_all p n = false := by
  cases q : mt_all p n
  · rfl
  · rw [(mt_all_iff p n).mp q c hc] at h
    cases h
theorem mt_all_mono {p : Nat → Bool} {c n : Nat} (hc : c ≤ n) (h : mt_all p c = false) : mt_all p n = false := by
  cases q : mt_all p n
  · rfl
  · rw [(mt_all_iff p c).mpr (fun f hf => (mt_all_iff p n).mp q f (by omega))] at h
    cases h
theorem mt_W_at (K : Nat) (D C O : Nat → Int32) (N m v j : Nat) (hj : j < 5) : mt_W K D C O N m (5 * v + j) = !mt_L K v j D C O N m := by
  unfold mt_W
  rw [(mt_c5 hj).1, (mt_c5 hj).2]
theorem mt_W_row (K : Nat) (D C O : Nat → Int32) (N m v : Nat) (h : mt_all (mt_W K D C O N m) (5 * v + mt_oth K) = true) : mt_all (mt_W K D C O N m) (5 * (v + 1)) = true := by
  unfold mt_oth at h
  by_cases z : K < 4
  · rw [if_pos z] at h
    rw [mt_all_iff] at h ⊢
    intro f hf
    rcases Nat.lt_or_ge f (5 * v + 1) with g | g
    · exact h f g
    · obtain ⟨j, hj, rfl⟩ : ∃ j, j < 5 ∧ f = 5 * v + j := ⟨f - 5 * v, by omega, by omega⟩
      have h0 := h (5 * v + 0) (by omega)
      rw [mt_W_at K D C O N m v 0 (by decide)] at h0
      rw [mt_W_at K D C O N m v j hj]
      have e : mt_L K v j D C O N m = mt_L K v 0 D C O N m := by
        unfold mt_L mt_ok mt_ad
        rw [decide_eq_true z, if_pos z, if_pos z]
        rfl
      rw [e]; exact h0
  · rw [if_neg z] at h
    exact h
theorem mx_25 {post : Int32 → SX → Prop} {J2 J16 : Int32 → Int32 → (Nat → Int32) → (Nat → Int32) → (Nat → Int32) → (Nat → Int32) → Prop} {D C O : Nat → Int32} {N : Nat} (hT : mt_T D C O N) {e : Nat → Int32} {K v m : Nat} (hK : K < 14) (hv : v < 5) (h0 : mt_S D C O N m K = false → ∀ e', post 0 (nI N, D, C, O, e')) (hI : mt_all (mt_W K D C O N m) (5 * v) = true) (hJ : mt_all (mt_W K D C O N m) (5 * (v + 1)) = true → ∀ e', J16 (nI (v + 1)) (nI N) D C O e') : ∃ n, wX_losesNothingWithout_25 post J2 J16 (nI m) (nI K) (nI (mt_oth K)) (nI v) n 0 (nI N) D C O e := by
  have ho := mt_oth_le K
  refine loop_0 (σ := Nat → Int32) (fun n i s => wX_losesNothingWithout_25 post J2 J16 (nI m) (nI K) (nI (mt_oth K)) (nI v) n (nI i) (nI N) D C O s) (fun i _ => mt_all (mt_W K D C O N m) (5 * v + i) = true) (mt_oth K) e hI ?_ ?_
  · intro n s hs
    exact pk_le (mt_oth K) (mt_oth K) (fun _ => nm_r (nI_1 v) (hJ (mt_W_row K D C O N m v hs) s)) (fun g => absurd g (by omega))
  · intro n i s hi hs next
    have eg := mt_W_at K D C O N m v i (by omega)
    have A := mt_okA (K := K) (v := v) (show i < 5 by omega)
    refine pk_le (mt_oth K) i (fun g => absurd g (by omega)) (fun _ => mx_ok hK hv (by omega) ?_)
    have hn : mt_L K v i D C O N m = false → ∀ e', wX_losesNothingWithout_25 post J2 J16 (nI m) (nI K) (nI (mt_oth K)) (nI v) n (nI (i + 1)) (nI N) D C O e' := by
      intro hl e'
      rw [hl] at eg
      exact next e' (mt_all_t hs eg)
    unfold mt_L at hn eg
    cases ok : mt_ok K v i
    · exact br_t rfl (nm_r (nI_1 i) (hn (by rw [ok]; rfl) s))
    · refine br_f (by decide) (mx_full hT (-1) (show K ≤ 14 by omega) hv A (fun f e' => ?_) (fun f e' => ?_))
      · refine mx_full hT (nI m) (show K ≤ 14 by omega) hv A (fun f2 e2 => ?_) (fun f2 e2 => ?_)
        · exact nm_r (nI_1 i) (hn (by rw [ok, f, f2]; rfl) e2)
        · refine h0 ?_ e2
          rw [ok, f, f2] at eg
          exact mt_all_no (show 5 * v + i < 25 by omega) eg
      · exact nm_r (nI_1 i) (hn (by rw [ok, f]; rfl) e')
theorem mx_16 {post : Int32 → SX → Prop} {J2 : Int32 → Int32 → (Nat → Int32) → (Nat → Int32) → (Nat → Int32) → (Nat → Int32) → Prop} {D C O : Nat → Int32} {N : Nat} (hT : mt_T D C O N) {e : Nat → Int32} {K m : Nat} (hK : K < 14) (h0 : mt_S D C O N m K = false → ∀ e', post 0 (nI N, D, C, O, e')) (hJ : mt_S D C O N m K = true → ∀ e', J2 (nI (K + 1)) (nI N) D C O e') : ∃ n, wX_losesNothingWithout_16 post J2 (nI m) (nI K) (nI (mt_oth K)) n 0 (nI N) D C O e := by
  refine loop_0 (σ := Nat → Int32) (fun n i s => wX_losesNothingWithout_16 post J2 (nI m) (nI K) (nI (mt_oth K)) n (nI i) (nI N) D C O s) (fun i _ => mt_all (mt_W K D C O N m) (5 * i) = true) 5 e rfl ?_ ?_
  · intro n s hs
    exact pk_le 5 5 (fun _ => nm_r (nI_1 K) (hJ hs s)) (fun g => absurd g (by omega))
  · intro n i s hi hs next
    exact pk_le 5 i (fun g => absurd g (by omega)) (fun _ => mx_25 hT hK hi h0 hs (fun h e' => next e' h))
theorem mx_loses {post : Int32 → SX → Prop} {D C O : Nat → Int32} {N : Nat} (hT : mt_T D C O N) {e : Nat → Int32} {m : Nat} (hp : ∀ e', post (mt_bI (mt_all (mt_S D C O N m) 14)) (nI N, D, C, O, e')) : wpX_losesNothingWithout post (nI N, D, C, O, e) (nI m) := by
  refine loop_0 (σ := Nat → Int32) (fun n i s => wX_losesNothingWithout_2 post (nI m) n (nI i) (nI N) D C O s) (fun i _ => mt_all (mt_S D C O N m) i = true) 14 e rfl ?_ ?_
  · intro n s hs
    rw [hs] at hp
    exact pk_le 14 14 (fun _ => hp s) (fun g => absurd g (by omega))
  · intro n i s hi hs next
    refine pk_le 14 i (fun g => absurd g (by omega)) (fun _ => ?_)
    have main := mx_16 (post := post) (J2 := wX_losesNothingWithout_2 post (nI m) n) (e := s) (m := m) hT hi (fun h e' => by
      have hh := hp e'
      rw [mt_all_no (show i < 14 by omega) h] at hh
      exact hh) (fun h e' => next e' (mt_all_t hs h))
    unfold wpX_choicesOfA
    refine pk_le 4 i (fun z => ?_) (fun z => ?_)
    · have e5 : mt_oth i = 5 := if_neg (by omega)
      rw [e5] at main
      exact main
    · have e5 : mt_oth i = 1 := if_pos z
      rw [e5] at main
      exact main
theorem my_65 {post : Int32 → SY → Prop} {J5 : Int32 → Int32 → Int32 → Int32 → Int32 → Int32 → Int32 → (Nat → Int32) → (Nat → Int32) → (Nat → Int32) → Prop} {Z M Q V A x1 x2 : Int32} {D C O : Nat → Int32} {c : Nat} (l : Bool) (hJ : J5 (mt_bI (!l)) (nI (c + 1)) Z M Q V A D C O) : wY_without_65 post J5 x1 x2 (nI c) (mt_bI l) Z M Q V A D C O := by
  cases l
  · exact br_t (by decide) (nm_r (nI_1 c) hJ)
  · exact br_f (by decide) (nm_r (nI_1 c) hJ)
theorem my_51 {post : Int32 → SY → Prop} {J5 : Int32 → Int32 → Int32 → Int32 → Int32 → Int32 → Int32 → (Nat → Int32) → (Nat → Int32) → (Nat → Int32) → Prop} {D C O : Nat → Int32} {N : Nat} (hT : mt_T D C O N) {M Q V A : Int32} {P0 P1 P2 x2 : Int32} {K v a c m : Nat} (hK : K < 14) (hv : v < 5) (ha : a < 5) (e0 : P0 = nI K) (e1 : P1 = nI v) (e2 : P2 = nI a) (hJ : ∀ M' Q' V' A', J5 (mt_bI (mt_F K v a D C O (nI m) N)) (nI (c + 1)) (nI N) M' Q' V' A' D C O) : wY_without_51 post J5 (nI m) x2 (nI c) P2 P1 P0 (nI N) M Q V A D C O := by
  unfold wY_without_51
  have eq : P0 = mt_q K := by rw [e0]; unfold mt_q; rw [if_neg (by omega)]
  have hl := mt_cnt_le (mt_R K v a D C O (nI m) N) 32
  refine my_count (nI m) hT (show K ≤ 14 by omega) hv ha eq e1 e2 (fun M' => pk_le 32 (mt_cnt (mt_R K v a D C O (nI m) N) 32) (fun z => ?_) (fun z => ?_))
  · have hj := hJ M' (mt_q K) (nI v) (nI a)
    have ef : mt_F K v a D C O (nI m) N = true := decide_eq_true (by omega)
    rw [ef] at hj
    exact my_65 false hj
  · have hj := hJ M' (mt_q K) (nI v) (nI a)
    have ef : mt_F K v a D C O (nI m) N = false := decide_eq_false (by omega)
    rw [ef] at hj
    exact my_65 true hj
theorem my_without {post : Int32 → SY → Prop} {D C O : Nat → Int32} {N : Nat} (hT : mt_T D C O N) {M Q V A : Int32} {K m : Nat} (hK : K < 14) (hp : ∀ M' Q' V' A', post (mt_bI (mt_S D C O N m K)) (nI N, M', Q', V', A', D, C, O)) : wpY_without post (nI N, M, Q, V, A, D, C, O) (nI m) (nI K) := by
  refine loop_0 (σ := Bool × Int32 × Int32 × Int32 × Int32) (fun n i s => wY_without_5 post (nI m) (nI K) n (mt_bI s.1) (nI i) (nI N) s.2.1 s.2.2.1 s.2.2.2.1 s.2.2.2.2 D C O) (fun i s => s.1 = mt_all (mt_W K D C O N m) i) 25 (true, M, Q, V, A) rfl ?_ ?_
  · intro n s hs
    have hh := hp s.2.1 s.2.2.1 s.2.2.2.1 s.2.2.2.2
    unfold mt_S at hh
    rw [← hs] at hh
    exact pk_le 25 25 (fun _ => ⟨by cases s.1 <;> rfl, hh⟩) (fun g => absurd g (by omega))
  · intro n i s hi hs next
    refine pk_le 25 i (fun g => absurd g (by omega)) (fun _ => ?_)
    cases b : s.1
    · rw [b] at hs
      have hh := hp s.2.1 s.2.2.1 s.2.2.2.1 s.2.2.2.2
      unfold mt_S at hh
      rw [mt_all_mono (show i ≤ 25 by omega) hs.symm] at hh
      exact br_t rfl ⟨rfl, hh⟩
    · rw [b] at hs
      have hv : i / 5 < 5 := by omega
      have hj : i % 5 < 5 := by omega
      have d1 : nI i / 5 = nI (i / 5) := pk_div (d := 5) (by omega) (by decide) (by decide)
      have d2 : nI i - nI i / 5 * 5 = nI (i % 5) := pk_rem (d := 5) (by omega) (by decide) (by decide)
      have hn : ∀ M' Q' V' A', wY_without_5 post (nI m) (nI K) n (mt_bI (!mt_L K (i / 5) (i % 5) D C O N m)) (nI (i + 1)) (nI N) M' Q' V' A' D C O := by
        intro M' Q' V' A'
        refine next (!mt_L K (i / 5) (i % 5) D C O N m, M', Q', V', A') ?_
        show (!mt_L K (i / 5) (i % 5) D C O N m) = (mt_all (mt_W K D C O N m) i && mt_W K D C O N m i)
        rw [← hs, Bool.true_and]
        rfl
      unfold mt_L at hn
      refine br_f (by decide) ⟨by decide, by decide, my_ok hT hK hv hj d1 d2 (fun M' Q' V' A' => ?_)⟩
      cases g : (mt_ok K (i / 5) (i % 5) && mt_F K (i / 5) (mt_ad K (i % 5)) D C O (-1) N)
      · rw [← Bool.and_assoc, g] at hn
        exact br_t rfl (my_65 false (hn M' Q' V' A'))
      · rw [← Bool.and_assoc, g, Bool.true_and, Bool.not_not] at hn
        refine br_f (by decide) ⟨by decide, pk_le 4 K (fun z => ⟨by decide, ?_⟩) (fun z => ?_)⟩
        · rw [show mt_ad K (i % 5) = i % 5 from if_neg (by omega)] at hn
          exact my_51 hT hK hv hj rfl d1 d2 hn
        · rw [show mt_ad K (i % 5) = 0 from if_pos z] at hn
          exact my_51 hT hK hv (by decide) rfl d1 rfl hn
def mt_spr (D C O : Nat → Int32) (N : Nat) : Nat → Int32
  | 0 => 0
  | m + 1 => if mt_all (mt_S D C O N m) 14 = true then mt_spr D C O N m ||| ((1 : Int32) <<< (nI m &&& 31)) else mt_spr D C O N m
theorem mx_spare {post : Int32 → SX → Prop} {D C O : Nat → Int32} {N : Nat} (hT : mt_T D C O N) {e : Nat → Int32} (hp : ∀ e', post (mt_spr D C O N N) (nI N, D, C, O, e')) : wpX_spare post (nI N, D, C, O, e) := by
  have hN := hT.1
  refine loop_0 (σ := Nat → Int32) (fun n i s => wX_spare_4 post n (mt_spr D C O N i) (nI i) (nI N) D C O s) (fun _ _ => True) N e trivial ?_ ?_
  · intro n s _
    exact pk_le N N (fun _ => hp s) (fun g => absurd g (by omega))
  · intro n i s hi _ next
    have hn : ∀ e', wX_spare_4 post n (if mt_all (mt_S D C O N i) 14 = true then mt_spr D C O N i ||| ((1 : Int32) <<< (nI i &&& 31)) else mt_spr D C O N i) (nI (i + 1)) (nI N) D C O e' := fun e' => next e' trivial
    refine pk_le N i (fun g => absurd g (by omega)) (fun _ => mx_loses hT (fun e' => ?_))
    cases b : mt_all (mt_S D C O N i) 14
    · rw [b, if_neg (by decide)] at hn
      exact br_t rfl (nm_r (nI_1 i) (hn e'))
    · rw [b, if_pos rfl] at hn
      exact br_f (by decide) (nm_e (nm_r (nI_1 i) (hn e')))
theorem my_17 {post : Int32 → SY → Prop} {J4 : Int32 → Int32 → Int32 → Int32 → Int32 → Int32 → Int32 → (Nat → Int32) → (Nat → Int32) → (Nat → Int32) → Prop} {D C O : Nat → Int32} {N : Nat} (hT : mt_T D C O N) {M Q V A : Int32} {x1 : Int32} {m : Nat} (hJ : ∀ M' Q' V' A', wY_spare_42 post J4 x1 (nI m) (mt_bI (mt_all (mt_S D C O N m) 14)) (nI N) M' Q' V' A' D C O) : ∃ n, wY_spare_17 post J4 x1 (nI m) n 1 0 (nI N) M Q V A D C O := by
  refine loop_0 (σ := Bool × Int32 × Int32 × Int32 × Int32) (fun n i s => wY_spare_17 post J4 x1 (nI m) n (mt_bI s.1) (nI i) (nI N) s.2.1 s.2.2.1 s.2.2.2.1 s.2.2.2.2 D C O) (fun i s => s.1 = mt_all (mt_S D C O N m) i) 14 (true, M, Q, V, A) rfl ?_ ?_
  · intro n s hs
    have hh := hJ s.2.1 s.2.2.1 s.2.2.2.1 s.2.2.2.2
    rw [← hs] at hh
    exact pk_le 14 14 (fun _ => hh) (fun g => absurd g (by omega))
  · intro n i s hi hs next
    refine pk_le 14 i (fun g => absurd g (by omega)) (fun _ => ?_)
    cases b : s.1
    · rw [b] at hs
      have hh := hJ s.2.1 s.2.2.1 s.2.2.2.1 s.2.2.2.2
      rw [mt_all_mono (show i ≤ 14 by omega) hs.symm] at hh
      exact br_t rfl hh
    · rw [b] at hs
      refine br_f (by decide) (my_without hT hi (fun M' Q' V' A' => nm_r (nI_1 i) (next (_, M', Q', V', A') ?_)))
      show mt_S D C O N m i = (mt_all (mt_S D C O N m) i && mt_S D C O N m i)
      rw [← hs, Bool.true_and]
theorem my_spare {post : Int32 → SY → Prop} {D C O : Nat → Int32} {N : Nat} (hT : mt_T D C O N) {M Q V A : Int32} (hp : ∀ M' Q' V' A', post (mt_spr D C O N N) (nI N, M', Q', V', A', D, C, O)) : wpY_spare post (nI N, M, Q, V, A, D, C, O) := by
  have hN := hT.1
  refine loop_0 (σ := Int32 × Int32 × Int32 × Int32) (fun n i s => wY_spare_4 post n (mt_spr D C O N i) (nI i) (nI N) s.1 s.2.1 s.2.2.1 s.2.2.2 D C O) (fun _ _ => True) N (M, Q, V, A) trivial ?_ ?_
  · intro n s _
    exact pk_le N N (fun _ => hp _ _ _ _) (fun g => absurd g (by omega))
  · intro n i s hi _ next
    have hn : ∀ M' Q' V' A', wY_spare_4 post n (if mt_all (mt_S D C O N i) 14 = true then mt_spr D C O N i ||| ((1 : Int32) <<< (nI i &&& 31)) else mt_spr D C O N i) (nI (i + 1)) (nI N) M' Q' V' A' D C O := fun M' Q' V' A' => next (M', Q', V', A') trivial
    refine pk_le N i (fun g => absurd g (by omega)) (fun _ => my_17 hT (fun M' Q' V' A' => ?_))
    cases b : mt_all (mt_S D C O N i) 14
    · rw [b, if_neg (by decide)] at hn
      exact br_t rfl (nm_r (nI_1 i) (hn M' Q' V' A'))
    · rw [b, if_pos rfl] at hn
      exact br_f (by decide) (nm_e (nm_r (nI_1 i) (hn M' Q' V' A')))
/-! steps -/
def mt_sum (C : Nat → Int32) : Nat → Nat
  | 0 => 0
  | m + 1 => mt_sum C m + (C m).toNatClampNeg
theorem mx_steps {post : Int32 → Prop} {D C O : Nat → Int32} {N : Nat} (hT : mt_T D C O N) {e : Nat → Int32} (hp : post (nI (mt_sum C N * 5))) : wpX_steps post (nI N, D, C, O, e) := by
  have hN := hT.1
  refine loop_0 (σ := Unit) (fun n i _ => wX_steps_4 post (nI N) D C O e n (nI (mt_sum C i)) (nI i)) (fun _ _ => True) N () trivial ?_ ?_
  · intro n s _
    refine pk_le N N (fun _ => ?_) (fun g => absurd g (by omega))
    rw [show (5 : Int32) = nI 5 from rfl, pk_mul]
    exact hp
  · intro n i s hi _ next
    have hn := next () trivial
    obtain ⟨c, hc, ec⟩ := hT.2.2.1 i
    have e1 : nI (mt_sum C i) + C (nI i).toNatClampNeg = nI (mt_sum C (i + 1)) := by
      show _ = nI (mt_sum C i + (C i).toNatClampNeg)
      rw [nI_clamp (by omega), ec, nI_clamp (by omega), nI_add]
    exact pk_le N i (fun g => absurd g (by omega)) (fun _ => ⟨vp_in_nI (by omega) (by decide), nm_r e1 (nm_r (nI_1 i) hn)⟩)
theorem my_steps {post : Int32 → Prop} {D C O : Nat → Int32} {N : Nat} (hT : mt_T D C O N) {M Q V A : Int32} (hp : post (nI (mt_sum C N * 5))) : wpY_steps post (nI N, M, Q, V, A, D, C, O) := by
  have hN := hT.1
  refine loop_0 (σ := Unit) (fun n i _ => wY_steps_4 post (nI N) M Q V A D C O n (nI (mt_sum C i * 5)) (nI i)) (fun _ _ => True) N () trivial ?_ ?_
  · intro n s _
    exact pk_le N N (fun _ => hp) (fun g => absurd g (by omega))
  · intro n i s hi _ next
    have hn := next () trivial
    obtain ⟨c, hc, ec⟩ := hT.2.2.1 i
    have e1 : nI (mt_sum C i * 5) + 5 * C (nI i).toNatClampNeg = nI (mt_sum C (i + 1) * 5) := by
      show _ = nI ((mt_sum C i + (C i).toNatClampNeg) * 5)
      rw [nI_clamp (by omega), ec, nI_clamp (by omega), show (5 : Int32) = nI 5 from rfl, pk_mul, nI_add]
      exact congrArg nI (by omega)
    exact pk_le N i (fun g => absurd g (by omega)) (fun _ => ⟨vp_in_nI (by omega) (by decide), nm_r e1 (nm_r (nI_1 i) hn)⟩)
end
section
/-! the relation: the same test on both sides -/
def i_Rel (k : Nat) (u : SX) (v : SY) : Prop := ∃ (N : Nat) (D C O e : Nat → Int32) (M Q V A : Int32), mt_T D C O N ∧ u = (nI N, D, C, O, e) ∧ v = (nI N, M, Q, V, A, D, C, O)
theorem mv_rel {k N : Nat} {D C O e : Nat → Int32} {M Q V A : Int32} (hT : mt_T D C O N) : i_Rel k (nI N, D, C, O, e) (nI N, M, Q, V, A, D, C, O) := ⟨N, D, C, O, e, M, Q, V, A, hT, rfl, rfl⟩
theorem i_up {k : Nat} {u : SX} {v : SY} (h : i_Rel k u v) : i_Rel (k + 4) u v := h
theorem i_vc0 : wpX_init (fun u => wpY_init (fun v => i_Rel 0 u v)) := mv_rel (k := 0) (N := 0) ⟨by decide, fun _ => Or.inl rfl, fun _ => ⟨0, by decide, rfl⟩, fun _ => ⟨0, by decide, rfl⟩⟩
theorem mv_D {D : Nat → Int32} {k : Nat} {x : Int32} (h : ∀ j, D j = 0 ∨ D j = 1) (hx : x = 0 ∨ x = 1) : ∀ j, upd D k x j = 0 ∨ upd D k x j = 1 := by
  intro j
  unfold upd
  by_cases z : j = k
  · rw [if_pos z]; exact hx
  · rw [if_neg z]; exact h j
theorem mv_C {C : Nat → Int32} {k c : Nat} {b : Nat} (h : ∀ j, ∃ i, i ≤ b ∧ C j = nI i) (hc : c ≤ b) : ∀ j, ∃ i, i ≤ b ∧ upd C k (nI c) j = nI i := by
  intro j
  unfold upd
  by_cases z : j = k
  · rw [if_pos z]; exact ⟨c, hc, rfl⟩
  · rw [if_neg z]; exact h j
theorem mv_O {C : Nat → Int32} {k c : Nat} (h : ∀ j, ∃ i, i < 4 ∧ C j = nI i) (hc : c < 4) : ∀ j, ∃ i, i < 4 ∧ upd C k (nI c) j = nI i := by
  intro j
  unfold upd
  by_cases z : j = k
  · rw [if_pos z]; exact ⟨c, hc, rfl⟩
  · rw [if_neg z]; exact h j
theorem mv_march {k N : Nat} {D C O e : Nat → Int32} {M Q V A x : Int32} (hT : mt_T D C O N) (hx : x = 0 ∨ x = 1) (Y : ∀ {post : Int32 → SY → Prop}, wY_march_11 post x (nI N) M Q V A D C O → wpY_march post (nI N, M, Q, V, A, D, C, O) x) : wX_march_11 (fun r u' => wpY_march (fun r' v' => r' = r ∧ i_Rel (k + 4) u' v') (nI N, M, Q, V, A, D, C, O) x) x (nI N) D C O e := by
  have hN := hT.1
  refine pk_lt N 6 (fun z => ?_) (fun z => ?_)
  · have hin : vp_in (nI N) 6 := vp_in_nI z (by decide)
    have hT' : mt_T (upd D (nI N).toNatClampNeg x) (upd C (nI N).toNatClampNeg 0) O (N + 1) := ⟨by omega, mv_D hT.2.1 hx, mv_C (c := 0) hT.2.2.1 (by omega), hT.2.2.2⟩
    refine ⟨hin, nm_e ⟨hin, nm_e (nm_r (nI_1 N) (Y ?_))⟩⟩
    exact pk_lt N 6 (fun _ => ⟨hin, nm_e ⟨hin, nm_e (nm_r (nI_1 N) ⟨rfl, mv_rel hT'⟩)⟩⟩) (fun g => absurd g (by omega))
  · refine Y ?_
    exact pk_lt N 6 (fun g => absurd g (by omega)) (fun _ => ⟨rfl, mv_rel hT⟩)
theorem i_vc_march {k : Nat} {u : SX} {v : SY} (I : i_Rel k u v) (hk : k + 4 ≤ 2048) (v1 : Int32) : wpX_march (fun r u' => wpY_march (fun r' v' => r' = r ∧ i_Rel (k + 4) u' v') v v1) u v1 := by
  obtain ⟨N, D, C, O, e, M, Q, V, A, hT, rfl, rfl⟩ := I
  by_cases h0 : v1 = 0
  · exact br_t h0 (mv_march hT (Or.inl h0) (fun h => br_t h0 h))
  · by_cases h1 : v1 = 1
    · exact br_f h0 (br_t h1 (mv_march hT (Or.inr h1) (fun h => br_f h0 (br_t h1 h))))
    · exact br_f h0 (br_f h1 (br_f h0 (br_f h1 ⟨rfl, mv_rel hT⟩)))
theorem i_vc_op {k : Nat} {u : SX} {v : SY} (I : i_Rel k u v) (hk : k + 4 ≤ 2048) (v1 : Int32) : wpX_op (fun r u' => wpY_op (fun r' v' => r' = r ∧ i_Rel (k + 4) u' v') v v1) u v1 := by
  obtain ⟨N, D, C, O, e, M, Q, V, A, hT, rfl, rfl⟩ := I
  have hN := hT.1
  have R : i_Rel (k + 4) (nI N, D, C, O, e) (nI N, M, Q, V, A, D, C, O) := mv_rel hT
  by_cases h : v1 < 0
  · exact br_t h (br_t h ⟨rfl, R⟩)
  · obtain ⟨o, ho, rfl⟩ := nI_of h
    refine br_f h (pk_le 4 o (fun z => br_f h (pk_lt 3 o (fun _ => ⟨rfl, R⟩) (fun g => absurd g (by omega)))) (fun z => ?_))
    refine pk_eq N 0 (fun z0 => br_f h (pk_lt 3 o (fun g => absurd g (by omega)) (fun _ => pk_eq N 0 (fun _ => ⟨rfl, R⟩) (fun g => absurd z0 g)))) (fun z0 => ?_)
    obtain ⟨n, rfl⟩ : ∃ n, N = n + 1 := ⟨N - 1, by omega⟩
    obtain ⟨c, hc, ec⟩ := hT.2.2.1 n
    have e1 : C (nI n).toNatClampNeg = nI c := by rw [nI_clamp (by omega), ec]
    have hin : vp_in (nI n) 6 := vp_in_nI (by omega) (by decide)
    refine nm_r (nI_pred n) ⟨hin, pk_lt c 4 (fun q => ?_) (fun q => ?_) e1 rfl⟩
    · have ix : nI n * 4 + C (nI n).toNatClampNeg = nI (4 * n + c) := by rw [e1, mt_ix]
      have iy : 4 * nI n + C (nI n).toNatClampNeg = nI (4 * n + c) := by rw [e1, show (4 : Int32) = nI 4 from rfl, pk_mul, nI_add]
      have hix : vp_in (nI n * 4 + C (nI n).toNatClampNeg) 24 := by rw [ix]; exact vp_in_nI (by omega) (by decide)
      have hiy : vp_in (4 * nI n + C (nI n).toNatClampNeg) 24 := by rw [iy]; exact vp_in_nI (by omega) (by decide)
      have ex : upd O (nI n * 4 + C (nI n).toNatClampNeg).toNatClampNeg (nI o) = upd O (4 * n + c) (nI o) := by rw [ix, nI_clamp (by omega)]
      have ey : upd O (4 * nI n + C (nI n).toNatClampNeg).toNatClampNeg (nI o) = upd O (4 * n + c) (nI o) := by rw [iy, nI_clamp (by omega)]
      have eC : upd C (nI n).toNatClampNeg (C (nI n).toNatClampNeg + 1) = upd C n (nI (c + 1)) := by rw [e1, nI_1, nI_clamp (by omega)]
      have hT' : mt_T D (upd C n (nI (c + 1))) (upd O (4 * n + c) (nI o)) (n + 1) := ⟨hN, hT.2.1, mv_C hT.2.2.1 (by omega), mv_O hT.2.2.2 z⟩
      refine ⟨hin, hix, nm_r ex ⟨hin, hin, nm_r eC ⟨hin, ?_⟩⟩⟩
      refine br_f h (pk_lt 3 o (fun g => absurd g (by omega)) (fun _ => pk_eq (n + 1) 0 (fun g => absurd g z0) (fun _ => nm_r (nI_pred n) ⟨hin, pk_lt c 4 (fun _ => ?_) (fun g => absurd g (by omega)) e1 rfl⟩)))
      exact ⟨hin, hiy, nm_r ey ⟨hin, hin, nm_r eC ⟨hin, rfl, mv_rel hT'⟩⟩⟩
    · exact br_f h (pk_lt 3 o (fun g => absurd g (by omega)) (fun _ => pk_eq (n + 1) 0 (fun g => absurd g z0) (fun _ => nm_r (nI_pred n) ⟨hin, pk_lt c 4 (fun g => absurd g (by omega)) (fun _ => ⟨rfl, R⟩) e1 rfl⟩)))
theorem i_vc_drop {k : Nat} {u : SX} {v : SY} (I : i_Rel k u v) (hk : k + 4 ≤ 2048) : wpX_drop (fun r u' => wpY_drop (fun r' v' => r' = r ∧ i_Rel (k + 4) u' v') v) u := by
  obtain ⟨N, D, C, O, e, M, Q, V, A, hT, rfl, rfl⟩ := I
  have hN := hT.1
  refine pk_eq N 0 (fun z0 => pk_eq N 0 (fun _ => ⟨rfl, mv_rel hT⟩) (fun g => absurd z0 g)) (fun z0 => ?_)
  obtain ⟨n, rfl⟩ : ∃ n, N = n + 1 := ⟨N - 1, by omega⟩
  obtain ⟨c, hc, ec⟩ := hT.2.2.1 n
  have e1 : C (nI n).toNatClampNeg = nI c := by rw [nI_clamp (by omega), ec]
  have e2 : C (nI (n + 1) - 1).toNatClampNeg = nI c := by rw [nI_pred, e1]
  have hin : vp_in (nI n) 6 := vp_in_nI (by omega) (by decide)
  have hin2 : vp_in (nI (n + 1) - 1) 6 := by rw [nI_pred]; exact hin
  refine nm_r (nI_pred n) ⟨hin, pk_le c 0 (fun q => nm_r (nI_pred n) ?_) (fun q => ?_) e1 rfl⟩
  · have hT' : mt_T D C O n := ⟨by omega, hT.2.1, hT.2.2.1, hT.2.2.2⟩
    exact pk_eq (n + 1) 0 (fun g => absurd g z0) (fun _ => ⟨hin2, pk_le c 0 (fun _ => nm_r (nI_pred n) ⟨rfl, mv_rel hT'⟩) (fun g => absurd g (by omega)) e2 rfl⟩)
  · obtain ⟨d, rfl⟩ : ∃ d, c = d + 1 := ⟨c - 1, by omega⟩
    have eC : upd C (nI n).toNatClampNeg (C (nI n).toNatClampNeg - 1) = upd C n (nI d) := by rw [e1, nI_pred, nI_clamp (by omega)]
    have eC2 : upd C (nI (n + 1) - 1).toNatClampNeg (C (nI (n + 1) - 1).toNatClampNeg - 1) = upd C n (nI d) := by rw [e2, nI_pred, nI_pred, nI_clamp (by omega)]
    have hT' : mt_T D (upd C n (nI d)) O (n + 1) := ⟨hN, hT.2.1, mv_C hT.2.2.1 (by omega), hT.2.2.2⟩
    refine ⟨hin, hin, nm_r eC ?_⟩
    exact pk_eq (n + 1) 0 (fun g => absurd g z0) (fun _ => ⟨hin2, pk_le (d + 1) 0 (fun g => absurd g (by omega)) (fun _ => ⟨hin2, hin2, nm_r eC2 ⟨rfl, mv_rel hT'⟩⟩) e2 rfl⟩)
theorem i_vc_turn {k : Nat} {u : SX} {v : SY} (I : i_Rel k u v) (hk : k + 4 ≤ 2048) (v1 : Int32) : wpX_turn (fun r u' => wpY_turn (fun r' v' => r' = r ∧ i_Rel (k + 4) u' v') v v1) u v1 := by
  obtain ⟨N, D, C, O, e, M, Q, V, A, hT, rfl, rfl⟩ := I
  have hN := hT.1
  have R : i_Rel (k + 4) (nI N, D, C, O, e) (nI N, M, Q, V, A, D, C, O) := mv_rel hT
  by_cases h : v1 < 0
  · exact br_t h (br_t h ⟨rfl, R⟩)
  · obtain ⟨j, hj, rfl⟩ := nI_of h
    refine br_f h (pk_lt j N (fun z => ?_) (fun z => br_f h (pk_lt j N (fun g => absurd g (by omega)) (fun _ => ⟨rfl, R⟩))))
    have hin : vp_in (nI j) 6 := vp_in_nI (by omega) (by decide)
    have hx : 1 - D (nI j).toNatClampNeg = 0 ∨ 1 - D (nI j).toNatClampNeg = 1 := by
      rcases hT.2.1 (nI j).toNatClampNeg with g | g
      · rw [g]; exact Or.inr (by decide)
      · rw [g]; exact Or.inl (by decide)
    have hT' : mt_T (upd D (nI j).toNatClampNeg (1 - D (nI j).toNatClampNeg)) C O N := ⟨hN, mv_D hT.2.1 hx, hT.2.2.1, hT.2.2.2⟩
    exact ⟨hin, hin, nm_e (br_f h (pk_lt j N (fun _ => ⟨hin, hin, nm_e ⟨rfl, mv_rel hT'⟩⟩) (fun g => absurd g (by omega))))⟩
theorem i_vc_marches {k : Nat} {u : SX} {v : SY} (I : i_Rel k u v) (hk : k + 4 ≤ 2048) : wpX_marches (fun r => wpY_marches (fun r' => r' = r ∧ i_Rel (k + 4) u v) v) u := by
  obtain ⟨N, D, C, O, e, M, Q, V, A, hT, rfl, rfl⟩ := I
  exact ⟨rfl, mv_rel hT⟩
theorem i_vc_sound {k : Nat} {u : SX} {v : SY} (I : i_Rel k u v) (hk : k + 4 ≤ 2048) : wpX_sound (fun r u' => wpY_sound (fun r' v' => r' = r ∧ i_Rel (k + 4) u' v') v) u := by
  obtain ⟨N, D, C, O, e, M, Q, V, A, hT, rfl, rfl⟩ := I
  unfold wpX_sound
  dsimp only
  refine mx_alarms (K := 14) (v := 0) (a := 0) (-1) hT (by decide) (by decide) ⟨by decide, fun _ g => absurd g (by decide)⟩ (fun r e' h => ?_)
  have hl := mt_cnt_le (mt_R 14 0 0 D C O (-1) N) 32
  have key : r = 0 ↔ nI (mt_cnt (mt_R 14 0 0 D C O (-1) N) 32) = 0 := (mx_z h).trans (nI_eq (b := 0) (by omega) (by decide)).symm
  refine br_c (fun z => ?_) (fun z => ?_)
  · unfold wpY_sound
    dsimp only
    exact my_count (K := 14) (v := 0) (a := 0) (-1) hT (by decide) (by decide) (by decide) (by decide) rfl rfl (fun M' => br_t (key.mp z) ⟨rfl, mv_rel hT⟩)
  · unfold wpY_sound
    dsimp only
    exact my_count (K := 14) (v := 0) (a := 0) (-1) hT (by decide) (by decide) (by decide) (by decide) rfl rfl (fun M' => br_f (fun g => z (key.mpr g)) ⟨rfl, mv_rel hT⟩)
theorem i_vc_steps {k : Nat} {u : SX} {v : SY} (I : i_Rel k u v) (hk : k + 4 ≤ 2048) : wpX_steps (fun r => wpY_steps (fun r' => r' = r ∧ i_Rel (k + 4) u v) v) u := by
  obtain ⟨N, D, C, O, e, M, Q, V, A, hT, rfl, rfl⟩ := I
  exact mx_steps hT (my_steps hT ⟨rfl, mv_rel hT⟩)
theorem i_vc_finds {k : Nat} {u : SX} {v : SY} (I : i_Rel k u v) (hk : k + 4 ≤ 2048) (v1 : Int32) (v2 : Int32) (v3 : Int32) : wpX_finds (fun r u' => wpY_finds (fun r' v' => r' = r ∧ i_Rel (k + 4) u' v') v v1 v2 v3) u v1 v2 v3 := by
  obtain ⟨N, D, C, O, e, M, Q, V, A, hT, rfl, rfl⟩ := I
  unfold wpX_finds
  dsimp only
  by_cases hV : mt_V v1 v2 v3
  · obtain ⟨K, v, a, rfl, rfl, hVa⟩ := hV
    refine mx_isFault (fun _ => br_f (by decide) ?_) (fun n => absurd ⟨K, v, a, rfl, rfl, hVa⟩ n)
    refine mx_full hT (-1) (show K ≤ 14 by have := hVa.1; omega) hVa.2.1 (mt_VaA hVa) (fun f e' => ?_) (fun f e' => ?_)
    · refine my_finds1 hT rfl rfl hVa (fun M' Q' V' A' => ⟨?_, mv_rel hT⟩)
      rw [f]; rfl
    · refine my_finds1 hT rfl rfl hVa (fun M' Q' V' A' => ⟨?_, mv_rel hT⟩)
      rw [f]; rfl
  · exact mx_isFault (fun g => absurd g hV) (fun _ => br_t rfl (my_finds0 hV ⟨rfl, mv_rel hT⟩))
theorem i_vc_found {k : Nat} {u : SX} {v : SY} (I : i_Rel k u v) (hk : k + 4 ≤ 2048) (v1 : Int32) : wpX_found (fun r u' => wpY_found (fun r' v' => r' = r ∧ i_Rel (k + 4) u' v') v v1) u v1 := by
  obtain ⟨N, D, C, O, e, M, Q, V, A, hT, rfl, rfl⟩ := I
  by_cases h : v1 < 0
  · exact br_t h (br_t rfl (br_t h ⟨rfl, mv_rel hT⟩))
  · obtain ⟨j, hj, rfl⟩ := nI_of h
    refine br_f h (pk_le 14 j (fun z => ?_) (fun z => ?_))
    · exact br_t rfl (br_f h (pk_le j 13 (fun g => absurd g (by omega)) (fun _ => ⟨rfl, mv_rel hT⟩)))
    · exact br_f (by decide) (mx_countFound hT z (fun e' => my_found hT z (fun M' Q' V' A' => ⟨rfl, mv_rel hT⟩)))
theorem i_vc_covered {k : Nat} {u : SX} {v : SY} (I : i_Rel k u v) (hk : k + 4 ≤ 2048) : wpX_covered (fun r u' => wpY_covered (fun r' v' => r' = r ∧ i_Rel (k + 4) u' v') v) u := by
  obtain ⟨N, D, C, O, e, M, Q, V, A, hT, rfl, rfl⟩ := I
  exact mx_covered hT (fun e' => my_covered hT (fun M' Q' V' A' => ⟨rfl, mv_rel hT⟩))
theorem i_vc_foundFrom {k : Nat} {u : SX} {v : SY} (I : i_Rel k u v) (hk : k + 4 ≤ 2048) (v1 : Int32) (v2 : Int32) (v3 : Int32) : wpX_foundFrom (fun r u' => wpY_foundFrom (fun r' v' => r' = r ∧ i_Rel (k + 4) u' v') v v1 v2 v3) u v1 v2 v3 := by
  obtain ⟨N, D, C, O, e, M, Q, V, A, hT, rfl, rfl⟩ := I
  unfold wpX_foundFrom
  dsimp only
  by_cases hV : mt_V v1 v2 v3
  · obtain ⟨K, v, a, rfl, rfl, hVa⟩ := hV
    refine mx_isFault (fun _ => br_f (by decide) ?_) (fun n => absurd ⟨K, v, a, rfl, rfl, hVa⟩ n)
    refine mx_alarms (-1) hT (show K ≤ 14 by have := hVa.1; omega) hVa.2.1 (mt_VaA hVa) (fun r e' h => ?_)
    exact mx_27 h (my_foundFrom1 hT rfl rfl hVa (fun M' Q' V' A' => ⟨rfl, mv_rel hT⟩))
  · refine mx_isFault (fun g => absurd g hV) (fun _ => br_t rfl ?_)
    unfold wpY_foundFrom
    dsimp only
    exact my_fault (fun g => absurd g hV) (fun _ => br_t rfl ⟨rfl, mv_rel hT⟩)
theorem i_vc_spare {k : Nat} {u : SX} {v : SY} (I : i_Rel k u v) (hk : k + 4 ≤ 2048) : wpX_spare (fun r u' => wpY_spare (fun r' v' => r' = r ∧ i_Rel (k + 4) u' v') v) u := by
  obtain ⟨N, D, C, O, e, M, Q, V, A, hT, rfl, rfl⟩ := I
  exact mx_spare hT (fun e' => my_spare hT (fun M' Q' V' A' => ⟨rfl, mv_rel hT⟩))
end
