/-! rows of the given starting texts, pasted: stores, numbers, branches by naturals, bits -/
theorem pk_us {f : Nat → Int32} {k : Nat} {x : Int32} : upd f k x k = x := if_pos rfl
theorem pk_un {f : Nat → Int32} {k j : Nat} {x : Int32} (h : j ≠ k) : upd f k x j = f j := if_neg h
theorem pk_sub {a b : Nat} (h : b ≤ a) : nI a - nI b = nI (a - b) := by
  obtain ⟨c, rfl⟩ : ∃ c, a = c + b := ⟨a - b, by omega⟩
  rw [← nI_add, Int32.add_sub_cancel, Nat.add_sub_cancel]
theorem pk_m1 (n : Nat) : nI (n + 1) + (-1) = nI n := by
  rw [← nI_1, Int32.add_assoc, show (1 : Int32) + (-1) = 0 from rfl, Int32.add_zero]
theorem pk_mul (a b : Nat) : nI a * nI b = nI (a * b) := (Int32.ofNat_mul a b).symm
theorem pk_div {a d : Nat} (ha : a < 2 ^ 31) (h0 : 0 < d) (hd : d < 2 ^ 31) : nI a / nI d = nI (a / d) := by
  apply Int32.toInt_inj.mp
  rw [lg_idiv_nonneg (by rw [nI_toInt ha]; omega) (by rw [nI_toInt hd]; omega), nI_toInt ha, nI_toInt hd, nI_toInt (Nat.lt_of_le_of_lt (Nat.div_le_self a d) ha)]
  first | rfl | exact (Int.natCast_ediv _ _).symm
theorem pk_rem {a d : Nat} (ha : a < 2 ^ 31) (h0 : 0 < d) (hd : d < 2 ^ 31) : nI a - nI a / nI d * nI d = nI (a % d) := by
  rw [pk_div ha h0 hd, pk_mul, pk_sub (Nat.div_mul_le_self a d)]
  exact congrArg nI (by have := Nat.div_add_mod' a d; omega)
theorem pk_ix (x : Int32) {n : Nat} (hn : n < 2 ^ 31) : x < 0 ∨ nI n ≤ x ∨ ∃ j : Nat, j < n ∧ x = nI j := by
  by_cases h : x < 0
  · exact Or.inl h
  · obtain ⟨j, hj, rfl⟩ := nI_of h
    by_cases h2 : j < n
    · exact Or.inr (Or.inr ⟨j, h2, rfl⟩)
    · exact Or.inr (Or.inl (nI_le (by omega) hj))
theorem pk_le {x y : Int32} {A B : Prop} (a b : Nat) (f : a ≤ b → A) (g : b < a → B) (hx : x = nI a := by rfl) (hy : y = nI b := by rfl) (ha : a < 2 ^ 31 := by omega) (hb : b < 2 ^ 31 := by omega) : (x ≤ y → A) ∧ (¬ x ≤ y → B) := by
  subst hx hy
  rw [nI_leI ha hb]
  exact ⟨f, fun z => g (by omega)⟩
theorem pk_lt {x y : Int32} {A B : Prop} (a b : Nat) (f : a < b → A) (g : b ≤ a → B) (hx : x = nI a := by rfl) (hy : y = nI b := by rfl) (ha : a < 2 ^ 31 := by omega) (hb : b < 2 ^ 31 := by omega) : (x < y → A) ∧ (¬ x < y → B) := by
  subst hx hy
  rw [nI_ltI ha hb]
  exact ⟨f, fun z => g (by omega)⟩
theorem pk_eq {x y : Int32} {A B : Prop} (a b : Nat) (f : a = b → A) (g : a ≠ b → B) (hx : x = nI a := by rfl) (hy : y = nI b := by rfl) (ha : a < 2 ^ 31 := by omega) (hb : b < 2 ^ 31 := by omega) : (x = y → A) ∧ (¬ x = y → B) := by
  subst hx hy
  rw [nI_eq ha hb]
  exact ⟨f, g⟩
theorem pk_in {x : Int32} (n N : Nat) (h : n < N) (hx : x = nI n := by rfl) (hN : N < 2 ^ 31 := by omega) : vp_in x N := by
  subst hx
  exact vp_in_nI h hN
theorem pk_cl {x : Int32} (n : Nat) (hx : x = nI n := by rfl) (h : n < 2 ^ 31 := by omega) : x.toNatClampNeg = n := by
  subst hx
  exact nI_clamp h
def bt (x : Int32) (i : Nat) : Bool := x.toBitVec.getLsbD i
theorem b_ext {x y : Int32} (h : ∀ i, i < 32 → bt x i = bt y i) : x = y := Int32.toBitVec_inj.mp (BitVec.eq_of_getLsbD_eq (fun i hi => h i hi))
theorem b_or (x y : Int32) (i : Nat) : bt (x ||| y) i = (bt x i || bt y i) := by unfold bt; rw [Int32.toBitVec_or, BitVec.getLsbD_or]
theorem b_and (x y : Int32) (i : Nat) : bt (x &&& y) i = (bt x i && bt y i) := by unfold bt; rw [Int32.toBitVec_and, BitVec.getLsbD_and]
theorem b_xor (x y : Int32) (i : Nat) : bt (x ^^^ y) i = (bt x i ^^ bt y i) := by unfold bt; rw [Int32.toBitVec_xor, BitVec.getLsbD_xor]
theorem b_big {x : Int32} {i : Nat} (h : 32 ≤ i) : bt x i = false := BitVec.getLsbD_of_ge _ _ h
theorem b_m1 : ∀ i, i < 32 → bt (-1) i = true := by decide +kernel
theorem b_0 (i : Nat) : bt 0 i = false := BitVec.getLsbD_zero
theorem s_l : ∀ n, n < 32 → ((nI n &&& 31).toBitVec.smod 32).toNat = n := by decide +kernel
theorem b_shl (n : Nat) (hn : n < 32) (x : Int32) {i : Nat} (hi : i < 32) : bt (x <<< (nI n &&& 31)) i = (decide (n ≤ i) && bt x (i - n)) := by
  unfold bt
  rw [Int32.toBitVec_shiftLeft]
  show (x.toBitVec <<< ((nI n &&& 31).toBitVec.smod 32).toNat).getLsbD i = _
  rw [s_l n hn, BitVec.getLsbD_shiftLeft]
  rcases Nat.lt_or_ge i n with h | h
  · simp [h, Nat.not_le.mpr h]
  · simp [hi, h, Nat.not_lt.mpr h]
theorem b_sshr (n : Nat) (hn : n < 32) (x : Int32) {i : Nat} (hi : i < 32) : bt (x >>> (nI n &&& 31)) i = if n + i < 32 then bt x (n + i) else bt x 31 := by
  unfold bt
  rw [Int32.toBitVec_shiftRight]
  show (x.toBitVec.sshiftRight ((nI n &&& 31).toBitVec.smod 32).toNat).getLsbD i = _
  rw [s_l n hn, BitVec.getLsbD_sshiftRight, BitVec.msb_eq_getLsbD_last]
  simp [hi]
/-! sets of bits -/
theorem nr_b1 : ∀ i, i < 32 → bt 1 i = decide (i = 0) := by decide +kernel
def nr_bi (B : Nat → Bool) : Nat → Int32
  | 0 => 0
  | x + 1 => if B x = true then nr_bi B x ||| ((1 : Int32) <<< (nI x &&& 31)) else nr_bi B x
theorem nr_bi_t {B : Nat → Bool} {x : Nat} (h : B x = true) : nr_bi B (x + 1) = nr_bi B x ||| ((1 : Int32) <<< (nI x &&& 31)) := by
  show (if B x = true then _ else _) = _
  rw [if_pos h]
theorem nr_bi_f {B : Nat → Bool} {x : Nat} (h : ¬ B x = true) : nr_bi B (x + 1) = nr_bi B x := by
  show (if B x = true then _ else _) = _
  rw [if_neg h]
theorem nr_sh {m i : Nat} (hm : m < 32) (hi : i < 32) : bt ((1 : Int32) <<< (nI m &&& 31)) i = decide (i = m) := by
  rw [b_shl m hm 1 hi, nr_b1 (i - m) (by omega), Bool.eq_iff_iff]
  simp only [Bool.and_eq_true, decide_eq_true_eq]
  omega
theorem nr_bi_bt (B : Nat → Bool) : ∀ m, m ≤ 32 → ∀ i, i < 32 → bt (nr_bi B m) i = (decide (i < m) && B i) := by
  intro m
  induction m with
  | zero =>
    intro _ i _
    rw [Bool.eq_iff_iff, Bool.and_eq_true, decide_eq_true_eq]
    constructor
    · intro h
      have h2 : bt 0 i = true := h
      rw [b_0] at h2
      exact absurd h2 (by decide)
    · intro h
      exact absurd h.1 (by omega)
  | succ m ih =>
    intro hm i hi
    have IH := ih (by omega) i hi
    by_cases h : B m = true
    · rw [nr_bi_t h, b_or, IH, nr_sh (m := m) (by omega) hi, Bool.eq_iff_iff]
      simp only [Bool.or_eq_true, Bool.and_eq_true, decide_eq_true_eq]
      constructor
      · rintro (⟨a, b⟩ | e)
        · exact ⟨by omega, b⟩
        · exact ⟨by omega, by rw [e]; exact h⟩
      · rintro ⟨a, b⟩
        by_cases e : i = m
        · right; exact e
        · left; exact ⟨by omega, b⟩
    · rw [nr_bi_f h, IH, Bool.eq_iff_iff]
      simp only [Bool.and_eq_true, decide_eq_true_eq]
      constructor
      · rintro ⟨a, b⟩
        exact ⟨by omega, b⟩
      · rintro ⟨a, b⟩
        by_cases e : i = m
        · rw [e] at b; exact absurd b h
        · exact ⟨by omega, b⟩
theorem nr_and1 (x : Int32) : x &&& 1 = 1 ↔ bt x 0 = true := by
  constructor
  · intro h
    have h2 : bt (x &&& 1) 0 = bt 1 0 := by rw [h]
    rw [b_and, nr_b1 0 (by omega), Bool.eq_iff_iff] at h2
    simp only [Bool.and_eq_true, decide_eq_true_eq] at h2
    exact (h2.mpr trivial).1
  · intro h
    apply b_ext
    intro i hi
    rw [b_and, nr_b1 i hi, Bool.eq_iff_iff]
    simp only [Bool.and_eq_true, decide_eq_true_eq]
    constructor
    · exact fun z => z.2
    · exact fun z => ⟨by rw [z]; exact h, z⟩
theorem nr_held (B : Nat → Bool) {m i : Nat} (hm : m ≤ 31) (hi : i < m) : (nr_bi B m >>> (nI i &&& 31)) &&& 1 = 1 ↔ B i = true := by
  rw [nr_and1, b_sshr i (by omega) (nr_bi B m) (i := 0) (by omega), if_pos (show i + 0 < 32 by omega), Nat.add_zero, nr_bi_bt B m (by omega) i (by omega), Bool.and_eq_true, decide_eq_true_eq]
  exact ⟨fun z => z.2, fun z => ⟨hi, z⟩⟩
theorem nr_bi_on (B : Nat → Bool) {m i : Nat} (hm : m ≤ 31) (hi : i < m) : nr_bi B m ||| ((1 : Int32) <<< (nI i &&& 31)) = nr_bi (nr_se B i true) m := by
  apply b_ext
  intro j hj
  rw [b_or, nr_bi_bt B m (by omega) j hj, nr_bi_bt _ m (by omega) j hj, nr_sh (m := i) (by omega) hj, Bool.eq_iff_iff]
  unfold nr_se
  simp only [Bool.or_eq_true, Bool.and_eq_true, decide_eq_true_eq]
  by_cases e : j = i
  · rw [if_pos e]
    exact ⟨fun _ => ⟨by omega, rfl⟩, fun _ => Or.inr e⟩
  · rw [if_neg e]
    exact ⟨fun z => z.elim id (fun w => absurd w e), fun z => Or.inl z⟩
theorem nr_bi_off (B : Nat → Bool) {m i : Nat} (hm : m ≤ 31) (hi : i < m) : nr_bi B m &&& (((1 : Int32) <<< (nI i &&& 31)) ^^^ (-1)) = nr_bi (nr_se B i false) m := by
  apply b_ext
  intro j hj
  rw [b_and, b_xor, nr_bi_bt B m (by omega) j hj, nr_bi_bt _ m (by omega) j hj, nr_sh (m := i) (by omega) hj, b_m1 j hj, Bool.xor_true]
  unfold nr_se
  by_cases e : j = i
  · rw [if_pos e, decide_eq_true e, Bool.not_true, Bool.and_false, Bool.and_false]
  · rw [if_neg e, decide_eq_false e, Bool.not_false, Bool.and_true]
theorem nr_bi_cg {B C : Nat → Bool} : ∀ m, (∀ i, i < m → B i = C i) → nr_bi B m = nr_bi C m := by
  intro m
  induction m with
  | zero => intro _; rfl
  | succ m ih =>
    intro h
    have IH := ih (fun i hi => h i (by omega))
    have e := h m (by omega)
    by_cases hb : B m = true
    · rw [nr_bi_t hb, nr_bi_t (e ▸ hb), IH]
    · rw [nr_bi_f hb, nr_bi_f (e ▸ hb), IH]
theorem nr_bi_no {B : Nat → Bool} : ∀ m, (∀ i, i < m → ¬ B i = true) → nr_bi B m = 0 := by
  intro m
  induction m with
  | zero => intro _; rfl
  | succ m ih =>
    intro h
    rw [nr_bi_f (h m (by omega))]
    exact ih (fun i hi => h i (by omega))
theorem nr_or0 (x : Int32) : x ||| 0 = x := by
  apply b_ext
  intro i _
  rw [b_or, b_0, Bool.or_false]
/-! flags and arrays as both sides keep them -/
def nr_hb (t : Nat → Int32) : Nat → Bool := fun i => decide (¬ t i = 0)
def nr_cz (a : Nat → Int32) : Nat → Nat := fun i => (a i).toNatClampNeg
def nr_ok (a : Nat → Int32) (k n : Nat) : Prop := ∀ i, i < k → nr_cz a i < n ∧ a i = nI (nr_cz a i)
def nr_R (a : Nat → Int32) (k : Nat) (T : Nat → Nat) : Prop := ∀ i, i < k → a i = nI (T i)
theorem nr_hb_t {t : Nat → Int32} {i : Nat} : nr_hb t i = true ↔ ¬ t i = 0 := by
  unfold nr_hb; exact decide_eq_true_iff
theorem nr_hb_u1 (t : Nat → Int32) (i : Nat) : nr_hb (upd t i 1) = nr_se (nr_hb t) i true := by
  funext j
  unfold nr_hb nr_se upd
  by_cases e : j = i
  · rw [if_pos e, if_pos e]; exact decide_eq_true (by decide)
  · rw [if_neg e, if_neg e]
theorem nr_hb_u0 (t : Nat → Int32) (i : Nat) : nr_hb (upd t i 0) = nr_se (nr_hb t) i false := by
  funext j
  unfold nr_hb nr_se upd
  by_cases e : j = i
  · rw [if_pos e, if_pos e]; exact decide_eq_false (by decide)
  · rw [if_neg e, if_neg e]
theorem nr_ok_u {a : Nat → Int32} {k n i x : Nat} (h : nr_ok a k n) (hx : x < n) (hn : n < 2 ^ 31) : nr_ok (upd a i (nI x)) k n := by
  intro j hj
  by_cases e : j = i
  · have e1 : upd a i (nI x) j = nI x := by rw [e]; exact pk_us
    have e2 : nr_cz (upd a i (nI x)) j = x := by unfold nr_cz; rw [e1]; exact nI_clamp (by omega)
    rw [e1, e2]; exact ⟨hx, rfl⟩
  · have e1 : upd a i (nI x) j = a j := pk_un e
    have e2 : nr_cz (upd a i (nI x)) j = nr_cz a j := by unfold nr_cz; rw [e1]
    rw [e1, e2]; exact h j hj
theorem nr_ok_0 {k n : Nat} (hn : 0 < n) : nr_ok (fun _ => 0) k n := by
  intro i _
  have e : nr_cz (fun _ => (0 : Int32)) i = 0 := (show (0 : Int32).toNatClampNeg = 0 by decide)
  rw [e]; exact ⟨hn, nI_0.symm⟩
theorem nr_R_u {a : Nat → Int32} {k : Nat} {T : Nat → Nat} {i w : Nat} (h : nr_R a k T) (hw : w < T i) : nr_R (upd a i (nI w)) k (nr_rx T i w) := by
  intro j hj
  unfold nr_rx
  by_cases e : j = i
  · rw [if_pos ⟨e, hw⟩, e]; exact pk_us
  · rw [if_neg (fun z => e z.1), pk_un e]; exact h j hj
theorem nr_R_n {a : Nat → Int32} {k : Nat} {T : Nat → Nat} {i w : Nat} (h : nr_R a k T) (hw : ¬ w < T i) : nr_R a k (nr_rx T i w) := by
  rw [nr_rx_no hw]; exact h
theorem nr_R_m {a : Nat → Int32} {k : Nat} {T : Nat → Nat} {i w : Nat} (h : nr_R a k T) (hi : i < k) : nr_R (upd a i (if w < T i then nI w else a i)) k (nr_rx T i w) := by
  by_cases hw : w < T i
  · rw [if_pos hw]; exact nr_R_u h hw
  · rw [if_neg hw, nr_rx_no hw]
    intro j hj
    by_cases e : j = i
    · rw [e, pk_us]; exact h i hi
    · rw [pk_un e]; exact h j hj
