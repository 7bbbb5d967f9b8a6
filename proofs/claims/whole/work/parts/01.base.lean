/-! rows pasted from kit/rows (PURE-ROWS, BITS) -/
theorem pk_us {f : Nat → Int32} {k : Nat} {x : Int32} : upd f k x k = x := if_pos rfl
theorem pk_un {f : Nat → Int32} {k j : Nat} {x : Int32} (h : j ≠ k) : upd f k x j = f j := if_neg h
theorem pk_sub {a b : Nat} (h : b ≤ a) : nI a - nI b = nI (a - b) := by
  obtain ⟨c, rfl⟩ : ∃ c, a = c + b := ⟨a - b, by omega⟩
  rw [← nI_add, Int32.add_sub_cancel, Nat.add_sub_cancel]
theorem pk_mul (a b : Nat) : nI a * nI b = nI (a * b) := (Int32.ofNat_mul a b).symm
theorem pk_div {a d : Nat} (ha : a < 2 ^ 31) (h0 : 0 < d) (hd : d < 2 ^ 31) : nI a / nI d = nI (a / d) := by
  apply Int32.toInt_inj.mp
  rw [lg_idiv_nonneg (by rw [nI_toInt ha]; omega) (by rw [nI_toInt hd]; omega), nI_toInt ha, nI_toInt hd, nI_toInt (Nat.lt_of_le_of_lt (Nat.div_le_self a d) ha)]
  first | rfl | exact (Int.natCast_ediv _ _).symm
theorem pk_rem {a d : Nat} (ha : a < 2 ^ 31) (h0 : 0 < d) (hd : d < 2 ^ 31) : nI a - nI a / nI d * nI d = nI (a % d) := by
  rw [pk_div ha h0 hd, pk_mul, pk_sub (Nat.div_mul_le_self a d)]
  exact congrArg nI (by have := Nat.div_add_mod' a d; omega)
theorem pk_ix (x : Int32) {n : Nat} (hn : n < 2 ^ 31) : x < 0 ∨ nI n ≤ x ∨ ∃ j : Nat, j < n ∧ x = nI j := by
  by_cases h : x < 0
  · exact Or.inl h
  · obtain ⟨j, hj, rfl⟩ := nI_of h
    by_cases h2 : j < n
    · exact Or.inr (Or.inr ⟨j, h2, rfl⟩)
    · exact Or.inr (Or.inl (nI_le (by omega) hj))
theorem pk_le {x y : Int32} {A B : Prop} (a b : Nat) (f : a ≤ b → A) (g : b < a → B) (hx : x = nI a := by rfl) (hy : y = nI b := by rfl) (ha : a < 2 ^ 31 := by omega) (hb : b < 2 ^ 31 := by omega) : (x ≤ y → A) ∧ (¬ x ≤ y → B) := by
  subst hx hy
  rw [nI_leI ha hb]
  exact ⟨f, fun z => g (by omega)⟩
theorem pk_lt {x y : Int32} {A B : Prop} (a b : Nat) (f : a < b → A) (g : b ≤ a → B) (hx : x = nI a := by rfl) (hy : y = nI b := by rfl) (ha : a < 2 ^ 31 := by omega) (hb : b < 2 ^ 31 := by omega) : (x < y → A) ∧ (¬ x < y → B) := by
  subst hx hy
  rw [nI_ltI ha hb]
  exact ⟨f, fun z => g (by omega)⟩
theorem pk_eq {x y : Int32} {A B : Prop} (a b : Nat) (f : a = b → A) (g : a ≠ b → B) (hx : x = nI a := by rfl) (hy : y = nI b := by rfl) (ha : a < 2 ^ 31 := by omega) (hb : b < 2 ^ 31 := by omega) : (x = y → A) ∧ (¬ x = y → B) := by
  subst hx hy
  rw [nI_eq ha hb]
  exact ⟨f, g⟩
theorem pk_in {x : Int32} (n N : Nat) (h : n < N) (hx : x = nI n := by rfl) (hN : N < 2 ^ 31 := by omega) : vp_in x N := by
  subst hx
  exact vp_in_nI h hN
theorem pk_cl {x : Int32} (n : Nat) (hx : x = nI n := by rfl) (h : n < 2 ^ 31 := by omega) : x.toNatClampNeg = n := by
  subst hx
  exact nI_clamp h
theorem pk_loop {σ : Type} (W : Nat → Nat → σ → Prop) (I : Nat → σ → Prop) (e i0 : Nat) (s : σ) (hi : i0 ≤ e) (h0 : I i0 s) (hx : ∀ n s, I e s → W (n + 1) e s)
    (hs : ∀ n i s, i < e → I i s → (∀ s', I (i + 1) s' → W n (i + 1) s') → W (n + 1) i s) : ∃ n, W n i0 s :=
  ⟨e + 1, loop_i W I e hx hs (e + 1) i0 s hi (by omega) h0⟩
def bt (x : Int32) (i : Nat) : Bool := x.toBitVec.getLsbD i
theorem b_ext {x y : Int32} (h : ∀ i, i < 32 → bt x i = bt y i) : x = y := Int32.toBitVec_inj.mp (BitVec.eq_of_getLsbD_eq (fun i hi => h i hi))
theorem b_or (x y : Int32) (i : Nat) : bt (x ||| y) i = (bt x i || bt y i) := by unfold bt; rw [Int32.toBitVec_or, BitVec.getLsbD_or]
theorem b_and (x y : Int32) (i : Nat) : bt (x &&& y) i = (bt x i && bt y i) := by unfold bt; rw [Int32.toBitVec_and, BitVec.getLsbD_and]
theorem b_xor (x y : Int32) (i : Nat) : bt (x ^^^ y) i = (bt x i ^^ bt y i) := by unfold bt; rw [Int32.toBitVec_xor, BitVec.getLsbD_xor]
theorem b_big {x : Int32} {i : Nat} (h : 32 ≤ i) : bt x i = false := BitVec.getLsbD_of_ge _ _ h
theorem b_m1 : ∀ i, i < 32 → bt (-1) i = true := by decide +kernel
theorem b_0 (i : Nat) : bt 0 i = false := BitVec.getLsbD_zero
theorem s_l : ∀ n, n < 32 → ((nI n &&& 31).toBitVec.smod 32).toNat = n := by decide +kernel
theorem s_u : ∀ n, n < 32 → (((nI n).toUInt32 &&& Int32.toUInt32 31).toBitVec % 32).toNat = n := by decide +kernel
theorem b_shl (n : Nat) (hn : n < 32) (x : Int32) {i : Nat} (hi : i < 32) : bt (x <<< (nI n &&& 31)) i = (decide (n ≤ i) && bt x (i - n)) := by
  unfold bt
  rw [Int32.toBitVec_shiftLeft]
  show (x.toBitVec <<< ((nI n &&& 31).toBitVec.smod 32).toNat).getLsbD i = _
  rw [s_l n hn, BitVec.getLsbD_shiftLeft]
  rcases Nat.lt_or_ge i n with h | h
  · simp [h, Nat.not_le.mpr h]
  · simp [hi, h, Nat.not_lt.mpr h]
theorem b_ushr (n : Nat) (hn : n < 32) (x : Int32) (i : Nat) : bt ((x.toUInt32 >>> ((nI n).toUInt32 &&& Int32.toUInt32 31)).toInt32) i = bt x (n + i) := by
  show (x.toUInt32 >>> ((nI n).toUInt32 &&& Int32.toUInt32 31)).toBitVec.getLsbD i = x.toUInt32.toBitVec.getLsbD (n + i)
  rw [UInt32.toBitVec_shiftRight]
  show (x.toUInt32.toBitVec >>> (((nI n).toUInt32 &&& Int32.toUInt32 31).toBitVec % 32).toNat).getLsbD i = _
  rw [s_u n hn, BitVec.getLsbD_ushiftRight]
theorem b_sshr (n : Nat) (hn : n < 32) (x : Int32) {i : Nat} (hi : i < 32) : bt (x >>> (nI n &&& 31)) i = if n + i < 32 then bt x (n + i) else bt x 31 := by
  unfold bt
  rw [Int32.toBitVec_shiftRight]
  show (x.toBitVec.sshiftRight ((nI n &&& 31).toBitVec.smod 32).toNat).getLsbD i = _
  rw [s_l n hn, BitVec.getLsbD_sshiftRight, BitVec.msb_eq_getLsbD_last]
  simp [hi]
/-! the pure picture: one memory of five cells, a fault (K, v, a), a test (D, C, O) -/
def mt_set (s : Nat → Bool) (v : Nat) (b : Bool) : Nat → Bool := fun j => if j = v then b else s j
def mt_hold (K v a : Nat) (s : Nat → Bool) : Nat → Bool :=
  if K = 0 then mt_set s v false else if K = 1 then mt_set s v true
  else if K = 10 then mt_set s v (s v && s a) else if K = 11 then mt_set s v (s v || !s a)
  else if K = 12 then mt_set s v (s v && !s a) else if K = 13 then mt_set s v (s v || s a) else s
def mt_take (K : Nat) (x b : Bool) : Bool := if K = 2 then x && b else if K = 3 then x || b else b
def mt_dist (K v : Nat) (s : Nat → Bool) (r q : Bool) : Nat → Bool :=
  if K = 4 then mt_set s v (s v ^^ r) else if K = 5 then mt_set s v (s v ^^ q)
  else if K = 6 then mt_set s v (s v && !r) else if K = 7 then mt_set s v (s v || r)
  else if K = 8 then mt_set s v (s v && !q) else if K = 9 then mt_set s v (s v || q) else s
def mt_put (K v c : Nat) (b : Bool) (s : Nat → Bool) : Nat → Bool := mt_set s c (if c = v then mt_take K (s c) b else b)
def mt_write (K v a c : Nat) (b : Bool) (s : Nat → Bool) : Nat → Bool :=
  mt_hold K v a (if c = a then mt_dist K v (mt_put K v c b s) (!s c && b) (s c && !b) else mt_put K v c b s)
abbrev mt_P : Type := (Nat → Bool) × Bool
def mt_step (K v a q c : Nat) (p : mt_P) : mt_P :=
  if q < 2 then (mt_write K v a c (decide (q = 1)) p.1, p.2) else (p.1, p.2 || (p.1 c != decide (q = 3)))
def mt_it (g : Nat → mt_P → mt_P) : Nat → mt_P → mt_P
  | 0, p => p
  | n + 1, p => g n (mt_it g n p)
def mt_at (D : Nat → Int32) (m j : Nat) : Nat := if D m = 0 then j else 4 - j
def mt_cell (K v a : Nat) (O : Nat → Int32) (m c : Nat) (i : Nat) (p : mt_P) : mt_P := mt_step K v a (O (4 * m + i)).toNatClampNeg c p
def mt_row (K v a : Nat) (D O : Nat → Int32) (m cc : Nat) (j : Nat) (p : mt_P) : mt_P := mt_it (mt_cell K v a O m (mt_at D m j)) cc p
def mt_m (K v a : Nat) (D C O : Nat → Int32) (sk : Int32) (m : Nat) (p : mt_P) : mt_P :=
  if nI m = sk then p else mt_it (mt_row K v a D O m (C m).toNatClampNeg) 5 p
def mt_run (K v a : Nat) (D C O : Nat → Int32) (sk : Int32) (n f : Nat) : mt_P :=
  mt_it (mt_m K v a D C O sk) n (mt_hold K v a (fun c => bt (nI f) c), false)
def mt_R (K v a : Nat) (D C O : Nat → Int32) (sk : Int32) (n f : Nat) : Bool := (mt_run K v a D C O sk n f).2
def mt_cnt (p : Nat → Bool) : Nat → Nat
  | 0 => 0
  | n + 1 => if p n then mt_cnt p n + 1 else mt_cnt p n
def mt_all (p : Nat → Bool) : Nat → Bool
  | 0 => true
  | n + 1 => mt_all p n && p n
/-- a test: at most six marches, directions 0 and 1, at most four operations each, operations 0 to 3 -/
def mt_T (D C O : Nat → Int32) (n : Nat) : Prop :=
  n ≤ 6 ∧ (∀ j, D j = 0 ∨ D j = 1) ∧ (∀ j, ∃ c, c ≤ 4 ∧ C j = nI c) ∧ (∀ j, ∃ o, o < 4 ∧ O j = nI o)
theorem mt_cnt_le (p : Nat → Bool) : ∀ n, mt_cnt p n ≤ n := by
  intro n
  induction n with
  | zero => exact Nat.le_refl _
  | succ n ih =>
    show (if p n then mt_cnt p n + 1 else mt_cnt p n) ≤ n + 1
    split <;> omega
theorem mt_cnt_full (p : Nat → Bool) : ∀ n, mt_cnt p n = n ↔ ∀ f, f < n → p f = true := by
  intro n
  induction n with
  | zero => exact ⟨fun _ f hf => absurd hf (by omega), fun _ => rfl⟩
  | succ n ih =>
    have hl := mt_cnt_le p n
    by_cases z : p n = true
    · have e : mt_cnt p (n + 1) = mt_cnt p n + 1 := if_pos z
      rw [e]
      constructor
      · intro h f hf
        rcases Nat.lt_or_ge f n with g | g
        · exact ih.mp (by omega) f g
        · rw [show f = n from by omega]; exact z
      · intro h
        rw [ih.mpr (fun f hf => h f (by omega))]
    · have e : mt_cnt p (n + 1) = mt_cnt p n := if_neg z
      rw [e]
      constructor
      · intro h
        omega
      · intro h
        exact absurd (h n (by omega)) z
theorem mt_cnt_none (p : Nat → Bool) : ∀ n, mt_cnt p n = 0 ↔ ∀ f, f < n → p f = false := by
  intro n
  induction n with
  | zero => exact ⟨fun _ f hf => absurd hf (by omega), fun _ => rfl⟩
  | succ n ih =>
    by_cases z : p n = true
    · have e : mt_cnt p (n + 1) = mt_cnt p n + 1 := if_pos z
      rw [e]
      constructor
      · intro h
        omega
      · intro h
        have := h n (by omega)
        rw [z] at this
        cases this
    · have e : mt_cnt p (n + 1) = mt_cnt p n := if_neg z
      have z' : p n = false := by cases h : p n with | true => exact absurd h z | false => rfl
      rw [e]
      constructor
      · intro h f hf
        rcases Nat.lt_or_ge f n with g | g
        · exact ih.mp h f g
        · rw [show f = n from by omega]; exact z'
      · intro h
        exact ih.mpr (fun f hf => h f (by omega))
theorem mt_all_iff (p : Nat → Bool) : ∀ n, mt_all p n = true ↔ ∀ f, f < n → p f = true := by
  intro n
  induction n with
  | zero => exact ⟨fun _ f hf => absurd hf (by omega), fun _ => rfl⟩
  | succ n ih =>
    show (mt_all p n && p n) = true ↔ _
    rw [Bool.and_eq_true, ih]
    constructor
    · intro h f hf
      rcases Nat.lt_or_ge f n with g | g
      · exact h.1 f g
      · rw [show f = n from by omega]; exact h.2
    · intro h
      exact ⟨fun f hf => h f (by omega), h n (by omega)⟩
theorem mt_it_id {g : Nat → mt_P → mt_P} (h : ∀ j p, g j p = p) : ∀ n p, mt_it g n p = p := by
  intro n
  induction n with
  | zero => intro p; rfl
  | succ n ih => intro p; show g n (mt_it g n p) = p; rw [h, ih]
theorem mt_it_split {G G' : Nat → mt_P → mt_P} (b : Nat) (p : mt_P) : ∀ c, (∀ i, i < c → ∀ q, G (b + i) q = G' i q) → mt_it G (b + c) p = mt_it G' c (mt_it G b p) := by
  intro c
  induction c with
  | zero => intro _; rfl
  | succ c ih =>
    intro h
    show G (b + c) (mt_it G (b + c) p) = G' c (mt_it G' c (mt_it G b p))
    rw [ih (fun i hi => h i (by omega)), h c (by omega)]
/-- the march walked by one counter k, as the reference does -/
def mt_k (K v a : Nat) (D C O : Nat → Int32) (m k : Nat) (p : mt_P) : mt_P :=
  mt_cell K v a O m (mt_at D m (k / (C m).toNatClampNeg)) (k % (C m).toNatClampNeg) p
theorem mt_k_rows (K v a : Nat) (D C O : Nat → Int32) (m : Nat) (p : mt_P) : ∀ j, mt_it (mt_k K v a D C O m) (j * (C m).toNatClampNeg) p = mt_it (mt_row K v a D O m (C m).toNatClampNeg) j p := by
  intro j
  induction j with
  | zero => rw [Nat.zero_mul]; rfl
  | succ j ih =>
    rw [Nat.succ_mul, mt_it_split (G' := mt_cell K v a O m (mt_at D m j)) (j * (C m).toNatClampNeg) p (C m).toNatClampNeg, ih]
    · rfl
    · intro i hi q
      have hc : 0 < (C m).toNatClampNeg := by omega
      show mt_cell K v a O m (mt_at D m ((j * (C m).toNatClampNeg + i) / (C m).toNatClampNeg)) ((j * (C m).toNatClampNeg + i) % (C m).toNatClampNeg) q = _
      rw [Nat.add_comm, Nat.add_mul_div_right _ _ hc, Nat.div_eq_of_lt hi, Nat.zero_add, Nat.add_mul_mod_self_right, Nat.mod_eq_of_lt hi]
theorem mt_b1 : ∀ i, i < 32 → bt 1 i = decide (i = 0) := by decide +kernel
theorem mt_bits : ∀ o, o < 4 → ∀ f, f < 32 → bt (-(nI o &&& 1)) f = decide (o % 2 = 1) := by decide +kernel
theorem mt_lit0 : (0 : Int32) = nI 0 := rfl
def mt_bI (b : Bool) : Int32 := if b then 1 else 0
