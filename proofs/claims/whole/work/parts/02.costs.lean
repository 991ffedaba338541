/-! the costs: memberships, subjects, rows of grants -/
def nr_at (o m x : Nat) : Nat := (o * 3 + m) * 6 + x
def nr_mn (T : Nat → Nat) (p a b x : Nat) : Nat → Nat
  | 0 => 1000
  | q + 1 => if T (nr_at p a q) + T (nr_at q b x) < nr_mn T p a b x q then T (nr_at p a q) + T (nr_at q b x) else nr_mn T p a b x q
def nr_dn (n : Nat) (T : Nat → Nat) (p q x : Nat) : Nat :=
  if q < 1 then (if p = x then 0 else 1000) else if q < 4 then T (nr_at p (q - 1) x) else nr_mn T p ((q - 4) / 3) ((q - 4) % 3) x n
theorem nr_mn_s (T : Nat → Nat) (p a b x q : Nat) : nr_mn T p a b x (q + 1) = if T (nr_at p a q) + T (nr_at q b x) < nr_mn T p a b x q then T (nr_at p a q) + T (nr_at q b x) else nr_mn T p a b x q := rfl
theorem nr_mn_le (T : Nat → Nat) (p a b x : Nat) : ∀ m, nr_mn T p a b x m ≤ 1000 := by
  intro m
  induction m with
  | zero => exact Nat.le_refl _
  | succ m ih =>
    rw [nr_mn_s]
    by_cases h : T (nr_at p a m) + T (nr_at m b x) < nr_mn T p a b x m
    · rw [if_pos h]; omega
    · rw [if_neg h]; exact ih
theorem nr_mn_mo {S T : Nat → Nat} (H : ∀ b, S b ≤ T b) (p a b x : Nat) : ∀ m, nr_mn S p a b x m ≤ nr_mn T p a b x m := by
  intro m
  induction m with
  | zero => exact Nat.le_refl _
  | succ m ih =>
    rw [nr_mn_s, nr_mn_s]
    have h1 := H (nr_at p a m)
    have h2 := H (nr_at m b x)
    split <;> split <;> omega
theorem nr_mn_cu {S T : Nat → Nat} {c : Nat} (H : ∀ b, S b = T b ∨ c ≤ S b) (p a b x : Nat) : ∀ m, nr_mn T p a b x m ≤ nr_mn S p a b x m ∨ c ≤ nr_mn S p a b x m := by
  intro m
  induction m with
  | zero => left; exact Nat.le_refl _
  | succ m ih =>
    rw [nr_mn_s, nr_mn_s]
    have h1 := H (nr_at p a m)
    have h2 := H (nr_at m b x)
    split <;> split <;> omega
theorem nr_dn_0 {n : Nat} {T : Nat → Nat} {p q x : Nat} (h : q < 1) : nr_dn n T p q x = if p = x then 0 else 1000 := by unfold nr_dn; rw [if_pos h]
theorem nr_dn_1 {n : Nat} {T : Nat → Nat} {p q x : Nat} (h : ¬ q < 1) (h4 : q < 4) : nr_dn n T p q x = T (nr_at p (q - 1) x) := by unfold nr_dn; rw [if_neg h, if_pos h4]
theorem nr_dn_2 {n : Nat} {T : Nat → Nat} {p q x : Nat} (h4 : ¬ q < 4) : nr_dn n T p q x = nr_mn T p ((q - 4) / 3) ((q - 4) % 3) x n := by unfold nr_dn; rw [if_neg (by omega), if_neg h4]
theorem nr_dn_le {T : Nat → Nat} (H : ∀ b, T b ≤ 1000) (n p q x : Nat) : nr_dn n T p q x ≤ 1000 := by
  by_cases h1 : q < 1
  · rw [nr_dn_0 h1]; split <;> omega
  · by_cases h4 : q < 4
    · rw [nr_dn_1 h1 h4]; exact H _
    · rw [nr_dn_2 h4]; exact nr_mn_le _ _ _ _ _ _
theorem nr_dn_mo {S T : Nat → Nat} (H : ∀ b, S b ≤ T b) (n p q x : Nat) : nr_dn n S p q x ≤ nr_dn n T p q x := by
  by_cases h1 : q < 1
  · rw [nr_dn_0 h1, nr_dn_0 h1]; exact Nat.le_refl _
  · by_cases h4 : q < 4
    · rw [nr_dn_1 h1 h4, nr_dn_1 h1 h4]; exact H _
    · rw [nr_dn_2 h4, nr_dn_2 h4]; exact nr_mn_mo H _ _ _ _ _
theorem nr_dn_cu {S T : Nat → Nat} {c : Nat} (H : ∀ b, S b = T b ∨ c ≤ S b) (n p q x : Nat) : nr_dn n T p q x ≤ nr_dn n S p q x ∨ c ≤ nr_dn n S p q x := by
  by_cases h1 : q < 1
  · rw [nr_dn_0 h1, nr_dn_0 h1]; left; exact Nat.le_refl _
  · by_cases h4 : q < 4
    · rw [nr_dn_1 h1 h4, nr_dn_1 h1 h4]
      rcases H (nr_at p (q - 1) x) with h | h
      · left; omega
      · right; exact h
    · rw [nr_dn_2 h4, nr_dn_2 h4]; exact nr_mn_cu H _ _ _ _ _
/-! certificates -/
def nr_cA (n : Nat) (H : Nat → Bool) : Nat → Bool := fun j => H (j / 6) && decide (j % 6 < n)
def nr_cf (o m : Nat → Nat) : Nat → Nat := fun j => nr_at (o (j / 6)) (m (j / 6)) (j % 6)
def nr_cv (n : Nat) (p q : Nat → Nat) : Nat → (Nat → Nat) → Nat := fun j S => 1 + nr_dn n S (p (j / 6)) (q (j / 6)) (j % 6)
def nr_cs (n : Nat) (H : Nat → Bool) (o m p q : Nat → Nat) (T : Nat → Nat) (j : Nat) : Nat → Nat := nr_st (nr_cA n H) (nr_cf o m) (nr_cv n p q) T j
def nr_K (n : Nat) (H : Nat → Bool) (o m p q : Nat → Nat) (r : Nat) : Nat → Nat := nr_it (nr_cA n H) (nr_cf o m) (nr_cv n p q) 60 (fun _ => 1000) r
def nr_M (n : Nat) (H : Nat → Bool) (o m p q : Nat → Nat) : Nat → Nat := nr_K n H o m p q 108
theorem nr_cmo (n : Nat) (p q : Nat → Nat) : nr_mo (nr_cv n p q) := by
  intro j S T h
  have := nr_dn_mo h n (p (j / 6)) (q (j / 6)) (j % 6)
  show 1 + nr_dn n S (p (j / 6)) (q (j / 6)) (j % 6) ≤ 1 + nr_dn n T (p (j / 6)) (q (j / 6)) (j % 6)
  omega
theorem nr_ccu (n : Nat) (p q : Nat → Nat) : nr_cu (nr_cv n p q) := by
  intro j S T c h
  have := nr_dn_cu h n (p (j / 6)) (q (j / 6)) (j % 6)
  show 1 + nr_dn n T (p (j / 6)) (q (j / 6)) (j % 6) ≤ 1 + nr_dn n S (p (j / 6)) (q (j / 6)) (j % 6) ∨ c < 1 + nr_dn n S (p (j / 6)) (q (j / 6)) (j % 6)
  omega
theorem nr_at_lt {o m x : Nat} (ho : o < 6) (hm : m < 3) (hx : x < 6) : nr_at o m x < 108 := by unfold nr_at; omega
theorem nr_cfl {n : Nat} {H : Nat → Bool} {o m : Nat → Nat} (ho : ∀ i, i < 10 → o i < 6) (hm : ∀ i, i < 10 → m i < 3) :
    ∀ j, j < 60 → nr_cA n H j = true → nr_cf o m j < 108 := by
  intro j hj _
  exact nr_at_lt (ho _ (by omega)) (hm _ (by omega)) (by omega)
theorem nr_Kfx {n : Nat} {H : Nat → Bool} {o m p q : Nat → Nat} (ho : ∀ i, i < 10 → o i < 6) (hm : ∀ i, i < 10 → m i < 3) :
    nr_cs n H o m p q (nr_M n H o m p q) 60 = nr_M n H o m p q := by
  refine nr_fix (A := nr_cA n H) (f := nr_cf o m) (v := nr_cv n p q) (J := 60) (T := fun _ => 1000) (r := 108) (P := 108) (c := 0) (s := 0) (nr_cmo n p q) (nr_ccu n p q) (nr_cfl ho hm) ?_ (Nat.zero_le _) (by omega)
  intro j _ _ _
  show 0 < 1 + nr_dn n _ (p (j / 6)) (q (j / 6)) (j % 6)
  omega
theorem nr_K_s (n : Nat) (H : Nat → Bool) (o m p q : Nat → Nat) (r : Nat) : nr_K n H o m p q (r + 1) = nr_cs n H o m p q (nr_K n H o m p q r) 60 := rfl
theorem nr_K_0 (n : Nat) (H : Nat → Bool) (o m p q : Nat → Nat) : nr_K n H o m p q 0 = fun _ => 1000 := rfl
theorem nr_K_st {n : Nat} {H : Nat → Bool} {o m p q : Nat → Nat} {r : Nat} (h : nr_cs n H o m p q (nr_K n H o m p q r) 60 = nr_K n H o m p q r) (t : Nat) (ht : r ≤ t) :
    nr_K n H o m p q t = nr_K n H o m p q r := by
  obtain ⟨d, rfl⟩ : ∃ d, t = r + d := ⟨t - r, by omega⟩
  exact nr_stay h d
theorem nr_K_up {n : Nat} {H : Nat → Bool} {o m p q : Nat → Nat} (ho : ∀ i, i < 10 → o i < 6) (hm : ∀ i, i < 10 → m i < 3) (t : Nat) (ht : 108 ≤ t) :
    nr_K n H o m p q t = nr_M n H o m p q := nr_K_st (nr_Kfx ho hm) t ht
theorem nr_K_dn {n : Nat} {H : Nat → Bool} {o m p q : Nat → Nat} {r : Nat} (h : nr_cs n H o m p q (nr_K n H o m p q r) 60 = nr_K n H o m p q r) (ho : ∀ i, i < 10 → o i < 6) (hm : ∀ i, i < 10 → m i < 3) :
    nr_K n H o m p q r = nr_M n H o m p q := by
  rw [← nr_K_up ho hm (108 + r) (by omega)]
  exact (nr_K_st h (108 + r) (by omega)).symm
theorem nr_K_le (n : Nat) (H : Nat → Bool) (o m p q : Nat → Nat) (r b : Nat) : nr_K n H o m p q r b ≤ 1000 := nr_it_le (nr_cA n H) (nr_cf o m) (nr_cv n p q) 60 (fun _ => 1000) r b
theorem nr_cs_le (n : Nat) (H : Nat → Bool) (o m p q : Nat → Nat) {T : Nat → Nat} (h : ∀ b, T b ≤ 1000) (j b : Nat) : nr_cs n H o m p q T j b ≤ 1000 := Nat.le_trans (nr_st_le _ _ _ T j b) (h b)
theorem nr_cs_t {n : Nat} {H : Nat → Bool} {o m p q : Nat → Nat} {T : Nat → Nat} {i x : Nat} (hn : n ≤ 6) (hx : x < n) (hH : H i = true) :
    nr_cs n H o m p q T (6 * i + (x + 1)) = nr_rx (nr_cs n H o m p q T (6 * i + x)) (nr_at (o i) (m i) x) (1 + nr_dn n (nr_cs n H o m p q T (6 * i + x)) (p i) (q i) x) := by
  have e1 : (6 * i + x) / 6 = i := by omega
  have e2 : (6 * i + x) % 6 = x := by omega
  have hA : nr_cA n H (6 * i + x) = true := by
    unfold nr_cA
    rw [e1, e2, hH, decide_eq_true hx]
    rfl
  have h := nr_st_t (f := nr_cf o m) (v := nr_cv n p q) (T := T) hA
  unfold nr_cs
  rw [← Nat.add_assoc, h]
  show nr_rx _ (nr_at (o ((6 * i + x) / 6)) (m ((6 * i + x) / 6)) ((6 * i + x) % 6)) (1 + nr_dn n _ (p ((6 * i + x) / 6)) (q ((6 * i + x) / 6)) ((6 * i + x) % 6)) = _
  rw [e1, e2]
theorem nr_cs_k {n : Nat} {H : Nat → Bool} {o m p q : Nat → Nat} {T : Nat → Nat} {i x : Nat} (hx6 : x < 6) (h : H i = true → ¬ x < n) :
    nr_cs n H o m p q T (6 * i + (x + 1)) = nr_cs n H o m p q T (6 * i + x) := by
  have e1 : (6 * i + x) / 6 = i := by omega
  have e2 : (6 * i + x) % 6 = x := by omega
  have hA : ¬ nr_cA n H (6 * i + x) = true := by
    unfold nr_cA
    rw [e1, e2]
    intro z
    rw [Bool.and_eq_true] at z
    exact h z.1 (of_decide_eq_true z.2)
  unfold nr_cs
  rw [← Nat.add_assoc]
  exact nr_st_f hA
theorem nr_cs_ks {n : Nat} {H : Nat → Bool} {o m p q : Nat → Nat} {T : Nat → Nat} {i x : Nat} (h : ∀ y, x ≤ y → H i = true → ¬ y < n) :
    ∀ d, x + d ≤ 6 → nr_cs n H o m p q T (6 * i + (x + d)) = nr_cs n H o m p q T (6 * i + x) := by
  intro d
  induction d with
  | zero => intro _; rfl
  | succ d ih =>
    intro hd
    rw [← ih (by omega), ← Nat.add_assoc x d 1]
    exact nr_cs_k (by omega) (h (x + d) (by omega))
theorem nr_cs_e {n : Nat} {H : Nat → Bool} {o m p q : Nat → Nat} {T : Nat → Nat} {i : Nat} (hn : n ≤ 6) :
    nr_cs n H o m p q T (6 * (i + 1)) = nr_cs n H o m p q T (6 * i + n) := by
  have h := nr_cs_ks (H := H) (o := o) (m := m) (p := p) (q := q) (T := T) (i := i) (x := n) (n := n) (fun y hy _ => by omega) (6 - n) (by omega)
  rw [← h]
  congr 1
  omega
theorem nr_cs_f {n : Nat} {H : Nat → Bool} {o m p q : Nat → Nat} {T : Nat → Nat} {i : Nat} (hH : ¬ H i = true) :
    nr_cs n H o m p q T (6 * (i + 1)) = nr_cs n H o m p q T (6 * i) := by
  have h := nr_cs_ks (n := n) (o := o) (m := m) (p := p) (q := q) (T := T) (i := i) (x := 0) (fun y _ z => absurd z hH) 6 (by omega)
  rw [show 6 * (i + 1) = 6 * i + (0 + 6) by omega]
  exact h
/-! one certificate less -/
def nr_se (B : Nat → Bool) (i : Nat) (b : Bool) : Nat → Bool := fun j => if j = i then b else B j
theorem nr_M_mo {n : Nat} {H : Nat → Bool} {o m p q : Nat → Nat} (ho : ∀ i, i < 10 → o i < 6) (hm : ∀ i, i < 10 → m i < 3) (id b : Nat) :
    nr_M n H o m p q b ≤ nr_M n (nr_se H id false) o m p q b := by
  refine nr_lowi (A := nr_cA n H) (B := nr_cA n (nr_se H id false)) (f := nr_cf o m) (v := nr_cv n p q) (J := 60) (T := fun _ => 1000) (U := nr_M n H o m p q) (nr_cmo n p q) ?_ (nr_st_xf (nr_cmo n p q) (nr_Kfx ho hm)) (fun b => nr_K_le n H o m p q 108 b) 108 b
  intro j _ h
  unfold nr_cA at h ⊢
  rw [Bool.and_eq_true] at h ⊢
  refine ⟨?_, h.2⟩
  have h1 := h.1
  unfold nr_se at h1
  by_cases e : j / 6 = id
  · rw [if_pos e] at h1; exact absurd h1 (by decide)
  · rw [if_neg e] at h1; exact h1
theorem nr_none {n : Nat} {H : Nat → Bool} {o m p q : Nat → Nat} (hH : ∀ i, i < 10 → ¬ H i = true) : nr_M n H o m p q = fun _ => 1000 := by
  have h : nr_cs n H o m p q (nr_K n H o m p q 0) 60 = nr_K n H o m p q 0 := by
    refine nr_st_fx ?_ 60 (Nat.le_refl _)
    intro j hj hA _
    unfold nr_cA at hA
    rw [Bool.and_eq_true] at hA
    exact hH (j / 6) (by omega) hA.1
  exact nr_K_st h 108 (by omega)
theorem nr_miss {S T : Nat → Nat} (h : ∀ b, S b ≤ T b) (m : Nat) : nr_ct T 999 m < nr_ct S 999 m ↔ ∃ a, a < m ∧ S a < 1000 ∧ ¬ T a < 1000 := by
  constructor
  · intro hl
    by_cases he : ∃ a, a < m ∧ S a < 1000 ∧ ¬ T a < 1000
    · exact he
    · have e : nr_ct T 999 m = nr_ct S 999 m := by
        refine nr_ct_eq m (fun a ha => ?_)
        have h1 := h a
        have h2 : ¬ (S a < 1000 ∧ ¬ T a < 1000) := fun z => he ⟨a, ha, z⟩
        omega
      omega
  · rintro ⟨a, ha, h1, h2⟩
    exact nr_ct_st (a := a) (fun b hb => by have := h b; omega) (by omega) (by omega) m ha
/-! grants -/
def nr_gA (n : Nat) (G O : Nat → Bool) : Nat → Bool := fun j => (G (j / 6) && O (j / 6)) && decide (j % 6 < n)
def nr_gf : Nat → Nat := fun j => j % 6
def nr_gv (n : Nat) (M : Nat → Nat) (g p q : Nat → Nat) : Nat → (Nat → Nat) → Nat := fun j S => S (g (j / 6)) + 1 + nr_dn n M (p (j / 6)) (q (j / 6)) (j % 6)
def nr_gs (n : Nat) (G O : Nat → Bool) (M : Nat → Nat) (g p q : Nat → Nat) (S : Nat → Nat) (j : Nat) : Nat → Nat := nr_st (nr_gA n G O) nr_gf (nr_gv n M g p q) S j
def nr_n0 (k : Nat) : Nat → Nat := fun y => if y = k then 0 else 1000
def nr_N (n : Nat) (G O : Nat → Bool) (M : Nat → Nat) (g p q : Nat → Nat) (k r : Nat) : Nat → Nat := nr_it (nr_gA n G O) nr_gf (nr_gv n M g p q) 36 (nr_n0 k) r
def nr_la (n : Nat) (G : Nat → Bool) (M : Nat → Nat) (g p q : Nat → Nat) (S : Nat → Nat) (x : Nat) : Nat → Nat
  | 0 => 1000
  | i + 1 => if G i = true then (if S (g i) + 1 + nr_dn n M (p i) (q i) x < nr_la n G M g p q S x i then S (g i) + 1 + nr_dn n M (p i) (q i) x else nr_la n G M g p q S x i) else nr_la n G M g p q S x i
theorem nr_gmo (n : Nat) (M : Nat → Nat) (g p q : Nat → Nat) : nr_mo (nr_gv n M g p q) := by
  intro j S T h
  have := h (g (j / 6))
  show S (g (j / 6)) + 1 + nr_dn n M (p (j / 6)) (q (j / 6)) (j % 6) ≤ T (g (j / 6)) + 1 + nr_dn n M (p (j / 6)) (q (j / 6)) (j % 6)
  omega
theorem nr_gcu (n : Nat) (M : Nat → Nat) (g p q : Nat → Nat) : nr_cu (nr_gv n M g p q) := by
  intro j S T c h
  have := h (g (j / 6))
  show T (g (j / 6)) + 1 + nr_dn n M (p (j / 6)) (q (j / 6)) (j % 6) ≤ S (g (j / 6)) + 1 + nr_dn n M (p (j / 6)) (q (j / 6)) (j % 6) ∨ c < S (g (j / 6)) + 1 + nr_dn n M (p (j / 6)) (q (j / 6)) (j % 6)
  omega
theorem nr_n0_c {k n : Nat} (hk : k < n) : 1 ≤ nr_ct (nr_n0 k) 0 n := by
  have h := nr_ct_st (T := fun _ => 1) (c := 0) (T' := nr_n0 k) (c' := 0) (a := k) (fun b hb => absurd (show (1 : Nat) ≤ 0 from hb) (by decide)) (show ¬ (1 : Nat) ≤ 0 by decide) (show nr_n0 k k ≤ 0 by unfold nr_n0; rw [if_pos rfl]; exact Nat.le_refl _) n hk
  omega
theorem nr_Nfx {n : Nat} {G O : Nat → Bool} {M : Nat → Nat} {g p q : Nat → Nat} {k : Nat} (hk : k < n) (t : Nat) (ht : n - 1 ≤ t) :
    nr_N n G O M g p q k t = nr_N n G O M g p q k (n - 1) := by
  obtain ⟨d, rfl⟩ : ∃ d, t = (n - 1) + d := ⟨t - (n - 1), by omega⟩
  refine nr_stay ?_ d
  refine nr_fix (P := n) (c := 0) (s := 1) (nr_gmo n M g p q) (nr_gcu n M g p q) ?_ ?_ (nr_n0_c hk) (by omega)
  · intro j _ h
    unfold nr_gA at h
    rw [Bool.and_eq_true] at h
    exact of_decide_eq_true h.2
  · intro j _ _ _
    show 0 < nr_n0 k (g (j / 6)) + 1 + nr_dn n M (p (j / 6)) (q (j / 6)) (j % 6)
    omega
theorem nr_N_s (n : Nat) (G O : Nat → Bool) (M : Nat → Nat) (g p q : Nat → Nat) (k r : Nat) : nr_N n G O M g p q k (r + 1) = nr_gs n G O M g p q (nr_N n G O M g p q k r) 36 := rfl
theorem nr_n0_le (k b : Nat) : nr_n0 k b ≤ 1000 := by unfold nr_n0; split <;> omega
theorem nr_N_le (n : Nat) (G O : Nat → Bool) (M : Nat → Nat) (g p q : Nat → Nat) (k r b : Nat) : nr_N n G O M g p q k r b ≤ 1000 := Nat.le_trans (nr_it_le _ _ _ 36 (nr_n0 k) r b) (nr_n0_le k b)
theorem nr_gs_le (n : Nat) (G O : Nat → Bool) (M : Nat → Nat) (g p q : Nat → Nat) {S : Nat → Nat} (h : ∀ b, S b ≤ 1000) (j b : Nat) : nr_gs n G O M g p q S j b ≤ 1000 := Nat.le_trans (nr_st_le _ _ _ S j b) (h b)
theorem nr_gs_t {n : Nat} {G O : Nat → Bool} {M : Nat → Nat} {g p q : Nat → Nat} {S : Nat → Nat} {i x : Nat} (hn : n ≤ 6) (hx : x < n) (hG : G i = true) (hO : O i = true) :
    nr_gs n G O M g p q S (6 * i + (x + 1)) = nr_rx (nr_gs n G O M g p q S (6 * i + x)) x (nr_gs n G O M g p q S (6 * i + x) (g i) + 1 + nr_dn n M (p i) (q i) x) := by
  have e1 : (6 * i + x) / 6 = i := by omega
  have e2 : (6 * i + x) % 6 = x := by omega
  have hA : nr_gA n G O (6 * i + x) = true := by
    unfold nr_gA
    rw [e1, e2, hG, hO, decide_eq_true hx]
    rfl
  have h := nr_st_t (f := nr_gf) (v := nr_gv n M g p q) (T := S) hA
  unfold nr_gs
  rw [← Nat.add_assoc, h]
  show nr_rx _ ((6 * i + x) % 6) (_ + 1 + nr_dn n M (p ((6 * i + x) / 6)) (q ((6 * i + x) / 6)) ((6 * i + x) % 6)) = _
  rw [e2]
  show nr_rx _ x (nr_st (nr_gA n G O) nr_gf (nr_gv n M g p q) S (6 * i + x) (g ((6 * i + x) / 6)) + 1 + nr_dn n M (p ((6 * i + x) / 6)) (q ((6 * i + x) / 6)) x) = _
  rw [e1]
theorem nr_gs_k {n : Nat} {G O : Nat → Bool} {M : Nat → Nat} {g p q : Nat → Nat} {S : Nat → Nat} {i x : Nat} (hx6 : x < 6) (h : G i = true → O i = true → ¬ x < n) :
    nr_gs n G O M g p q S (6 * i + (x + 1)) = nr_gs n G O M g p q S (6 * i + x) := by
  have e1 : (6 * i + x) / 6 = i := by omega
  have e2 : (6 * i + x) % 6 = x := by omega
  have hA : ¬ nr_gA n G O (6 * i + x) = true := by
    unfold nr_gA
    rw [e1, e2]
    intro z
    rw [Bool.and_eq_true, Bool.and_eq_true] at z
    exact h z.1.1 z.1.2 (of_decide_eq_true z.2)
  unfold nr_gs
  rw [← Nat.add_assoc]
  exact nr_st_f hA
theorem nr_gs_ks {n : Nat} {G O : Nat → Bool} {M : Nat → Nat} {g p q : Nat → Nat} {S : Nat → Nat} {i x : Nat} (h : ∀ y, x ≤ y → G i = true → O i = true → ¬ y < n) :
    ∀ d, x + d ≤ 6 → nr_gs n G O M g p q S (6 * i + (x + d)) = nr_gs n G O M g p q S (6 * i + x) := by
  intro d
  induction d with
  | zero => intro _; rfl
  | succ d ih =>
    intro hd
    rw [← ih (by omega), ← Nat.add_assoc x d 1]
    exact nr_gs_k (by omega) (h (x + d) (by omega))
theorem nr_gs_e {n : Nat} {G O : Nat → Bool} {M : Nat → Nat} {g p q : Nat → Nat} {S : Nat → Nat} {i : Nat} (hn : n ≤ 6) :
    nr_gs n G O M g p q S (6 * (i + 1)) = nr_gs n G O M g p q S (6 * i + n) := by
  have h := nr_gs_ks (G := G) (O := O) (M := M) (g := g) (p := p) (q := q) (S := S) (i := i) (x := n) (n := n) (fun y hy _ _ => by omega) (6 - n) (by omega)
  rw [← h]
  congr 1
  omega
theorem nr_gs_f {n : Nat} {G O : Nat → Bool} {M : Nat → Nat} {g p q : Nat → Nat} {S : Nat → Nat} {i : Nat} (hG : G i = true → ¬ O i = true) :
    nr_gs n G O M g p q S (6 * (i + 1)) = nr_gs n G O M g p q S (6 * i) := by
  have h := nr_gs_ks (n := n) (G := G) (O := O) (M := M) (g := g) (p := p) (q := q) (S := S) (i := i) (x := 0) (fun y _ z w => absurd w (hG z)) 6 (by omega)
  rw [show 6 * (i + 1) = 6 * i + (0 + 6) by omega]
  exact h
theorem nr_la_t {n : Nat} {G : Nat → Bool} {M : Nat → Nat} {g p q : Nat → Nat} {S : Nat → Nat} {x i : Nat} (h : G i = true) :
    nr_la n G M g p q S x (i + 1) = if S (g i) + 1 + nr_dn n M (p i) (q i) x < nr_la n G M g p q S x i then S (g i) + 1 + nr_dn n M (p i) (q i) x else nr_la n G M g p q S x i := by
  show (if G i = true then _ else _) = _
  rw [if_pos h]
theorem nr_la_f {n : Nat} {G : Nat → Bool} {M : Nat → Nat} {g p q : Nat → Nat} {S : Nat → Nat} {x i : Nat} (h : ¬ G i = true) :
    nr_la n G M g p q S x (i + 1) = nr_la n G M g p q S x i := by
  show (if G i = true then _ else _) = _
  rw [if_neg h]
theorem nr_la_le (n : Nat) (G : Nat → Bool) (M : Nat → Nat) (g p q : Nat → Nat) (S : Nat → Nat) (x : Nat) : ∀ i, nr_la n G M g p q S x i ≤ 1000 := by
  intro i
  induction i with
  | zero => exact Nat.le_refl _
  | succ i ih =>
    by_cases h : G i = true
    · rw [nr_la_t h]; split <;> omega
    · rw [nr_la_f h]; exact ih
