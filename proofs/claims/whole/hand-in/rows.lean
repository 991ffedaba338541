section
/-! relaxation by rounds: a table of naturals, rules one behind the other, each may lower one place -/
def nr_rx (S : Nat → Nat) (a w : Nat) : Nat → Nat := fun b => if b = a ∧ w < S a then w else S b
def nr_st (A : Nat → Bool) (f : Nat → Nat) (v : Nat → (Nat → Nat) → Nat) (T : Nat → Nat) : Nat → (Nat → Nat)
  | 0 => T
  | j + 1 => if A j = true then nr_rx (nr_st A f v T j) (f j) (v j (nr_st A f v T j)) else nr_st A f v T j
def nr_it (A : Nat → Bool) (f : Nat → Nat) (v : Nat → (Nat → Nat) → Nat) (J : Nat) (T : Nat → Nat) : Nat → (Nat → Nat)
  | 0 => T
  | r + 1 => nr_st A f v (nr_it A f v J T r) J
def nr_mo (v : Nat → (Nat → Nat) → Nat) : Prop := ∀ (j : Nat) (S T : Nat → Nat), (∀ b, S b ≤ T b) → v j S ≤ v j T
def nr_cu (v : Nat → (Nat → Nat) → Nat) : Prop := ∀ (j : Nat) (S T : Nat → Nat) (c : Nat), (∀ b, S b = T b ∨ c ≤ S b) → v j T ≤ v j S ∨ c < v j S
def nr_cl (A : Nat → Bool) (f : Nat → Nat) (v : Nat → (Nat → Nat) → Nat) (J : Nat) (T : Nat → Nat) (c : Nat) : Prop :=
  ∀ j, j < J → A j = true → v j T < T (f j) → c < v j T
def nr_ct (T : Nat → Nat) (c : Nat) : Nat → Nat
  | 0 => 0
  | m + 1 => nr_ct T c m + (if T m ≤ c then 1 else 0)
theorem nr_rx_le (S : Nat → Nat) (a w b : Nat) : nr_rx S a w b ≤ S b := by
  unfold nr_rx
  by_cases h : b = a ∧ w < S a
  · rw [if_pos h]; obtain ⟨rfl, h2⟩ := h; omega
  · rw [if_neg h]; exact Nat.le_refl _
theorem nr_rx_at (S : Nat → Nat) (a w : Nat) : nr_rx S a w a ≤ w := by
  unfold nr_rx
  by_cases h : a = a ∧ w < S a
  · rw [if_pos h]; exact Nat.le_refl _
  · rw [if_neg h]
    have : ¬ w < S a := fun z => h ⟨rfl, z⟩
    omega
theorem nr_rx_no {S : Nat → Nat} {a w : Nat} (h : ¬ w < S a) : nr_rx S a w = S := by
  funext b
  unfold nr_rx
  rw [if_neg (fun z => h z.2)]
theorem nr_rx_or (S : Nat → Nat) (a w b : Nat) : nr_rx S a w b = S b ∨ (b = a ∧ w < S a ∧ nr_rx S a w b = w) := by
  unfold nr_rx
  by_cases h : b = a ∧ w < S a
  · right; rw [if_pos h]; exact ⟨h.1, h.2, rfl⟩
  · left; rw [if_neg h]
theorem nr_st_t {A : Nat → Bool} {f : Nat → Nat} {v : Nat → (Nat → Nat) → Nat} {T : Nat → Nat} {j : Nat} (h : A j = true) :
    nr_st A f v T (j + 1) = nr_rx (nr_st A f v T j) (f j) (v j (nr_st A f v T j)) := by
  show (if A j = true then _ else _) = _
  rw [if_pos h]
theorem nr_st_f {A : Nat → Bool} {f : Nat → Nat} {v : Nat → (Nat → Nat) → Nat} {T : Nat → Nat} {j : Nat} (h : ¬ A j = true) :
    nr_st A f v T (j + 1) = nr_st A f v T j := by
  show (if A j = true then _ else _) = _
  rw [if_neg h]
theorem nr_st_dn (A : Nat → Bool) (f : Nat → Nat) (v : Nat → (Nat → Nat) → Nat) (T : Nat → Nat) (j b : Nat) :
    nr_st A f v T (j + 1) b ≤ nr_st A f v T j b := by
  by_cases h : A j = true
  · rw [nr_st_t h]; exact nr_rx_le _ _ _ _
  · rw [nr_st_f h]; exact Nat.le_refl _
theorem nr_st_an (A : Nat → Bool) (f : Nat → Nat) (v : Nat → (Nat → Nat) → Nat) (T : Nat → Nat) (b j : Nat) :
    ∀ d, nr_st A f v T (j + d) b ≤ nr_st A f v T j b := by
  intro d
  induction d with
  | zero => exact Nat.le_refl _
  | succ d ih => exact Nat.le_trans (nr_st_dn A f v T (j + d) b) ih
theorem nr_st_le (A : Nat → Bool) (f : Nat → Nat) (v : Nat → (Nat → Nat) → Nat) (T : Nat → Nat) (j b : Nat) :
    nr_st A f v T j b ≤ T b := by
  have h := nr_st_an A f v T b 0 j
  rw [Nat.zero_add] at h
  exact h
theorem nr_st_at {A : Nat → Bool} {f : Nat → Nat} {v : Nat → (Nat → Nat) → Nat} (hm : nr_mo v) (T : Nat → Nat) {j J : Nat} (hj : j < J) (hA : A j = true) :
    nr_st A f v T J (f j) ≤ v j T := by
  obtain ⟨d, rfl⟩ : ∃ d, J = (j + 1) + d := ⟨J - (j + 1), by omega⟩
  refine Nat.le_trans (nr_st_an A f v T (f j) (j + 1) d) ?_
  rw [nr_st_t hA]
  exact Nat.le_trans (nr_rx_at _ _ _) (hm j _ _ (fun b => nr_st_le A f v T j b))
theorem nr_st_kp {A : Nat → Bool} {f : Nat → Nat} {v : Nat → (Nat → Nat) → Nat} (hc : nr_cu v) {T : Nat → Nat} {J c : Nat}
    (H : ∀ j, j < J → A j = true → v j T < T (f j) → c ≤ v j T) :
    ∀ j, j ≤ J → ∀ b, nr_st A f v T j b = T b ∨ c ≤ nr_st A f v T j b := by
  intro j
  induction j with
  | zero => intro _ b; left; rfl
  | succ j ih =>
    intro hj b
    have IH := ih (by omega)
    by_cases hA : A j = true
    · rw [nr_st_t hA]
      rcases nr_rx_or (nr_st A f v T j) (f j) (v j (nr_st A f v T j)) b with h | ⟨_, h2, h3⟩
      · rw [h]; exact IH b
      · right
        rw [h3]
        rcases hc j (nr_st A f v T j) T c IH with h4 | h4
        · have h5 := nr_st_le A f v T j (f j)
          have h6 := H j (by omega) hA (by omega)
          omega
        · omega
    · rw [nr_st_f hA]; exact IH b
theorem nr_st_fx {A : Nat → Bool} {f : Nat → Nat} {v : Nat → (Nat → Nat) → Nat} {T : Nat → Nat} {J : Nat}
    (H : ∀ j, j < J → A j = true → ¬ v j T < T (f j)) : ∀ j, j ≤ J → nr_st A f v T j = T := by
  intro j
  induction j with
  | zero => intro _; rfl
  | succ j ih =>
    intro hj
    have IH := ih (by omega)
    by_cases hA : A j = true
    · rw [nr_st_t hA, IH]; exact nr_rx_no (H j (by omega) hA)
    · rw [nr_st_f hA, IH]
theorem nr_st_xf {A : Nat → Bool} {f : Nat → Nat} {v : Nat → (Nat → Nat) → Nat} (hm : nr_mo v) {T : Nat → Nat} {J : Nat}
    (H : nr_st A f v T J = T) : ∀ j, j < J → A j = true → T (f j) ≤ v j T := by
  intro j hj hA
  have h := nr_st_at (f := f) hm T hj hA
  rw [H] at h
  exact h
theorem nr_ct_le (T : Nat → Nat) (c : Nat) : ∀ m, nr_ct T c m ≤ m := by
  intro m
  induction m with
  | zero => exact Nat.le_refl _
  | succ m ih =>
    show nr_ct T c m + (if T m ≤ c then 1 else 0) ≤ m + 1
    by_cases h : T m ≤ c
    · rw [if_pos h]; omega
    · rw [if_neg h]; omega
theorem nr_ct_al (T : Nat → Nat) (c : Nat) : ∀ m, m ≤ nr_ct T c m → ∀ a, a < m → T a ≤ c := by
  intro m
  induction m with
  | zero => intro _ a ha; omega
  | succ m ih =>
    intro h a ha
    have h1 : m + 1 ≤ nr_ct T c m + (if T m ≤ c then 1 else 0) := h
    have h2 := nr_ct_le T c m
    by_cases h3 : T m ≤ c
    · rw [if_pos h3] at h1
      by_cases h4 : a = m
      · rw [h4]; exact h3
      · exact ih (by omega) a (by omega)
    · rw [if_neg h3] at h1; omega
theorem nr_ct_mo {T T' : Nat → Nat} {c c' : Nat} (H : ∀ b, T b ≤ c → T' b ≤ c') : ∀ m, nr_ct T c m ≤ nr_ct T' c' m := by
  intro m
  induction m with
  | zero => exact Nat.le_refl _
  | succ m ih =>
    show nr_ct T c m + (if T m ≤ c then 1 else 0) ≤ nr_ct T' c' m + (if T' m ≤ c' then 1 else 0)
    by_cases h : T m ≤ c
    · rw [if_pos h, if_pos (H m h)]; omega
    · rw [if_neg h]; omega
theorem nr_ct_st {T T' : Nat → Nat} {c c' : Nat} (H : ∀ b, T b ≤ c → T' b ≤ c') {a : Nat} (h1 : ¬ T a ≤ c) (h2 : T' a ≤ c') :
    ∀ m, a < m → nr_ct T c m < nr_ct T' c' m := by
  intro m
  induction m with
  | zero => intro h; omega
  | succ m ih =>
    intro hm
    show nr_ct T c m + (if T m ≤ c then 1 else 0) < nr_ct T' c' m + (if T' m ≤ c' then 1 else 0)
    by_cases e : a = m
    · rw [← e, if_neg h1, if_pos h2]
      have := nr_ct_mo H a
      omega
    · have h3 := ih (by omega)
      by_cases h : T m ≤ c
      · rw [if_pos h, if_pos (H m h)]; omega
      · rw [if_neg h]; omega
theorem nr_ct_eq {T T' : Nat → Nat} {c c' : Nat} : ∀ m, (∀ a, a < m → (T a ≤ c ↔ T' a ≤ c')) → nr_ct T c m = nr_ct T' c' m := by
  intro m
  induction m with
  | zero => intro _; rfl
  | succ m ih =>
    intro H
    show nr_ct T c m + (if T m ≤ c then 1 else 0) = nr_ct T' c' m + (if T' m ≤ c' then 1 else 0)
    rw [ih (fun a ha => H a (by omega))]
    by_cases h : T m ≤ c
    · rw [if_pos h, if_pos ((H m (by omega)).mp h)]
    · rw [if_neg h, if_neg (fun z => h ((H m (by omega)).mpr z))]
theorem nr_least (P : Nat → Prop) (h : ∃ k, P k) : ∃ k, P k ∧ ∀ j, P j → k ≤ j := by
  obtain ⟨k, hk⟩ := h
  induction k using Nat.strongRecOn with
  | _ k ih =>
    by_cases h : ∃ j, j < k ∧ P j
    · obtain ⟨j, hj, pj⟩ := h
      exact ih j hj pj
    · refine ⟨k, hk, fun j pj => ?_⟩
      by_cases hl : j < k
      · exact absurd ⟨j, hl, pj⟩ h
      · omega
/-- a round that lowers something settles one place more -/
theorem nr_round {A : Nat → Bool} {f : Nat → Nat} {v : Nat → (Nat → Nat) → Nat} (hm : nr_mo v) (hc : nr_cu v) {T : Nat → Nat} {J P c : Nat}
    (hf : ∀ j, j < J → A j = true → f j < P) (hcl : nr_cl A f v J T c) (hl : ∃ j, j < J ∧ A j = true ∧ v j T < T (f j)) :
    ∃ c', nr_cl A f v J (nr_st A f v T J) c' ∧ nr_ct T c P < nr_ct (nr_st A f v T J) c' P := by
  obtain ⟨j0, h1, h2, h3⟩ := hl
  obtain ⟨c', ⟨j1, hj1, hA1, hv1, e1⟩, hmin⟩ := nr_least (fun w => ∃ j, j < J ∧ A j = true ∧ v j T < T (f j) ∧ v j T = w) ⟨v j0 T, j0, h1, h2, h3, rfl⟩
  have hmin' : ∀ j, j < J → A j = true → v j T < T (f j) → c' ≤ v j T := fun j a b d => hmin _ ⟨j, a, b, d, rfl⟩
  have hk := nr_st_kp hc hmin' J (Nat.le_refl _)
  have hcc := hcl j1 hj1 hA1 hv1
  refine ⟨c', ?_, ?_⟩
  · intro j hj hA hv
    rcases hc j (nr_st A f v T J) T c' hk with h4 | h4
    · have h5 := nr_st_at (f := f) hm T hj hA
      omega
    · exact h4
  · have h6 := nr_st_at (f := f) hm T hj1 hA1
    exact nr_ct_st (a := f j1) (fun b hb => by have := nr_st_le A f v T J b; omega) (by omega) (by omega) P (hf j1 hj1 hA1)
theorem nr_grow {A : Nat → Bool} {f : Nat → Nat} {v : Nat → (Nat → Nat) → Nat} (hm : nr_mo v) (hc : nr_cu v) {T : Nat → Nat} {J P c s : Nat}
    (hf : ∀ j, j < J → A j = true → f j < P) (hcl : nr_cl A f v J T c) (hs : s ≤ nr_ct T c P) :
    ∀ r, (∃ c', nr_cl A f v J (nr_it A f v J T r) c' ∧ s + r ≤ nr_ct (nr_it A f v J T r) c' P) ∨ nr_st A f v (nr_it A f v J T r) J = nr_it A f v J T r := by
  intro r
  induction r with
  | zero => left; exact ⟨c, hcl, hs⟩
  | succ r ih =>
    rcases ih with ⟨c1, h1, h2⟩ | h
    · by_cases hl : ∃ j, j < J ∧ A j = true ∧ v j (nr_it A f v J T r) < (nr_it A f v J T r) (f j)
      · left
        obtain ⟨c2, h3, h4⟩ := nr_round hm hc hf h1 hl
        refine ⟨c2, h3, ?_⟩
        show s + (r + 1) ≤ nr_ct (nr_st A f v (nr_it A f v J T r) J) c2 P
        omega
      · right
        have h5 := nr_st_fx (A := A) (f := f) (v := v) (T := nr_it A f v J T r) (J := J) (fun j hj hA hv => hl ⟨j, hj, hA, hv⟩) J (Nat.le_refl _)
        show nr_st A f v (nr_st A f v (nr_it A f v J T r) J) J = nr_st A f v (nr_it A f v J T r) J
        rw [h5, h5]
    · right
      show nr_st A f v (nr_st A f v (nr_it A f v J T r) J) J = nr_st A f v (nr_it A f v J T r) J
      rw [h, h]
/-- after as many rounds as places are left the table stands -/
theorem nr_fix {A : Nat → Bool} {f : Nat → Nat} {v : Nat → (Nat → Nat) → Nat} (hm : nr_mo v) (hc : nr_cu v) {T : Nat → Nat} {J P c s : Nat}
    (hf : ∀ j, j < J → A j = true → f j < P) (hcl : nr_cl A f v J T c) (hs : s ≤ nr_ct T c P) {r : Nat} (hr : P ≤ s + r) :
    nr_st A f v (nr_it A f v J T r) J = nr_it A f v J T r := by
  rcases nr_grow hm hc hf hcl hs r with ⟨c1, h1, h2⟩ | h
  · refine nr_st_fx (fun j hj hA hv => ?_) J (Nat.le_refl _)
    have h3 := nr_ct_al (nr_it A f v J T r) c1 P (by omega) (f j) (hf j hj hA)
    have h4 := h1 j hj hA hv
    omega
  · exact h
theorem nr_stay {A : Nat → Bool} {f : Nat → Nat} {v : Nat → (Nat → Nat) → Nat} {T : Nat → Nat} {J r : Nat}
    (h : nr_st A f v (nr_it A f v J T r) J = nr_it A f v J T r) : ∀ m, nr_it A f v J T (r + m) = nr_it A f v J T r := by
  intro m
  induction m with
  | zero => rfl
  | succ m ih =>
    show nr_st A f v (nr_it A f v J T (r + m)) J = nr_it A f v J T r
    rw [ih, h]
/-- fewer rules: nothing lower -/
theorem nr_low {A B : Nat → Bool} {f : Nat → Nat} {v : Nat → (Nat → Nat) → Nat} (hm : nr_mo v) {T U : Nat → Nat} {J : Nat}
    (hAB : ∀ j, j < J → B j = true → A j = true) (hU : ∀ j, j < J → A j = true → U (f j) ≤ v j U) (hT : ∀ b, U b ≤ T b) :
    ∀ j, j ≤ J → ∀ b, U b ≤ nr_st B f v T j b := by
  intro j
  induction j with
  | zero => intro _ b; exact hT b
  | succ j ih =>
    intro hj b
    have IH := ih (by omega)
    by_cases hB : B j = true
    · rw [nr_st_t hB]
      rcases nr_rx_or (nr_st B f v T j) (f j) (v j (nr_st B f v T j)) b with h | ⟨h1, _, h3⟩
      · rw [h]; exact IH b
      · rw [h3, h1]
        exact Nat.le_trans (hU j (by omega) (hAB j (by omega) hB)) (hm j _ _ IH)
    · rw [nr_st_f hB]; exact IH b
theorem nr_lowi {A B : Nat → Bool} {f : Nat → Nat} {v : Nat → (Nat → Nat) → Nat} (hm : nr_mo v) {T U : Nat → Nat} {J : Nat}
    (hAB : ∀ j, j < J → B j = true → A j = true) (hU : ∀ j, j < J → A j = true → U (f j) ≤ v j U) (hT : ∀ b, U b ≤ T b) :
    ∀ r b, U b ≤ nr_it B f v J T r b := by
  intro r
  induction r with
  | zero => exact hT
  | succ r ih => exact fun b => nr_low hm hAB hU ih J (Nat.le_refl _) b
theorem nr_it_le (A : Nat → Bool) (f : Nat → Nat) (v : Nat → (Nat → Nat) → Nat) (J : Nat) (T : Nat → Nat) : ∀ r b, nr_it A f v J T r b ≤ T b := by
  intro r
  induction r with
  | zero => exact fun b => Nat.le_refl _
  | succ r ih => exact fun b => Nat.le_trans (nr_st_le A f v (nr_it A f v J T r) J b) (ih b)
end
section
/-! the costs: memberships, subjects, rows of grants -/
def nr_at (o m x : Nat) : Nat := (o * 3 + m) * 6 + x
def nr_mn (T : Nat → Nat) (p a b x : Nat) : Nat → Nat
  | 0 => 1000
  | q + 1 => if T (nr_at p a q) + T (nr_at q b x) < nr_mn T p a b x q then T (nr_at p a q) + T (nr_at q b x) else nr_mn T p a b x q
def nr_dn (n : Nat) (T : Nat → Nat) (p q x : Nat) : Nat :=
  if q < 1 then (if p = x then 0 else 1000) else if q < 4 then T (nr_at p (q - 1) x) else nr_mn T p ((q - 4) / 3) ((q - 4) % 3) x n
theorem nr_mn_s (T : Nat → Nat) (p a b x q : Nat) : nr_mn T p a b x (q + 1) = if T (nr_at p a q) + T (nr_at q b x) < nr_mn T p a b x q then T (nr_at p a q) + T (nr_at q b x) else nr_mn T p a b x q := rfl
theorem nr_mn_le (T : Nat → Nat) (p a b x : Nat) : ∀ m, nr_mn T p a b x m ≤ 1000 := by
  intro m
  induction m with
  | zero => exact Nat.le_refl _
  | succ m ih =>
    rw [nr_mn_s]
    by_cases h : T (nr_at p a m) + T (nr_at m b x) < nr_mn T p a b x m
    · rw [if_pos h]; omega
    · rw [if_neg h]; exact ih
theorem nr_mn_mo {S T : Nat → Nat} (H : ∀ b, S b ≤ T b) (p a b x : Nat) : ∀ m, nr_mn S p a b x m ≤ nr_mn T p a b x m := by
  intro m
  induction m with
  | zero => exact Nat.le_refl _
  | succ m ih =>
    rw [nr_mn_s, nr_mn_s]
    have h1 := H (nr_at p a m)
    have h2 := H (nr_at m b x)
    split <;> split <;> omega
theorem nr_mn_cu {S T : Nat → Nat} {c : Nat} (H : ∀ b, S b = T b ∨ c ≤ S b) (p a b x : Nat) : ∀ m, nr_mn T p a b x m ≤ nr_mn S p a b x m ∨ c ≤ nr_mn S p a b x m := by
  intro m
  induction m with
  | zero => left; exact Nat.le_refl _
  | succ m ih =>
    rw [nr_mn_s, nr_mn_s]
    have h1 := H (nr_at p a m)
    have h2 := H (nr_at m b x)
    split <;> split <;> omega
theorem nr_dn_0 {n : Nat} {T : Nat → Nat} {p q x : Nat} (h : q < 1) : nr_dn n T p q x = if p = x then 0 else 1000 := by unfold nr_dn; rw [if_pos h]
theorem nr_dn_1 {n : Nat} {T : Nat → Nat} {p q x : Nat} (h : ¬ q < 1) (h4 : q < 4) : nr_dn n T p q x = T (nr_at p (q - 1) x) := by unfold nr_dn; rw [if_neg h, if_pos h4]
theorem nr_dn_2 {n : Nat} {T : Nat → Nat} {p q x : Nat} (h4 : ¬ q < 4) : nr_dn n T p q x = nr_mn T p ((q - 4) / 3) ((q - 4) % 3) x n := by unfold nr_dn; rw [if_neg (by omega), if_neg h4]
theorem nr_dn_le {T : Nat → Nat} (H : ∀ b, T b ≤ 1000) (n p q x : Nat) : nr_dn n T p q x ≤ 1000 := by
  by_cases h1 : q < 1
  · rw [nr_dn_0 h1]; split <;> omega
  · by_cases h4 : q < 4
    · rw [nr_dn_1 h1 h4]; exact H _
    · rw [nr_dn_2 h4]; exact nr_mn_le _ _ _ _ _ _
theorem nr_dn_mo {S T : Nat → Nat} (H : ∀ b, S b ≤ T b) (n p q x : Nat) : nr_dn n S p q x ≤ nr_dn n T p q x := by
  by_cases h1 : q < 1
  · rw [nr_dn_0 h1, nr_dn_0 h1]; exact Nat.le_refl _
  · by_cases h4 : q < 4
    · rw [nr_dn_1 h1 h4, nr_dn_1 h1 h4]; exact H _
    · rw [nr_dn_2 h4, nr_dn_2 h4]; exact nr_mn_mo H _ _ _ _ _
theorem nr_dn_cu {S T : Nat → Nat} {c : Nat} (H : ∀ b, S b = T b ∨ c ≤ S b) (n p q x : Nat) : nr_dn n T p q x ≤ nr_dn n S p q x ∨ c ≤ nr_dn n S p q x := by
  by_cases h1 : q < 1
  · rw [nr_dn_0 h1, nr_dn_0 h1]; left; exact Nat.le_refl _
  · by_cases h4 : q < 4
    · rw [nr_dn_1 h1 h4, nr_dn_1 h1 h4]
      rcases H (nr_at p (q - 1) x) with h | h
      · left; omega
      · right; exact h
    · rw [nr_dn_2 h4, nr_dn_2 h4]; exact nr_mn_cu H _ _ _ _ _
/-! certificates -/
def nr_cA (n : Nat) (H : Nat → Bool) : Nat → Bool := fun j => H (j / 6) && decide (j % 6 < n)
def nr_cf (o m : Nat → Nat) : Nat → Nat := fun j => nr_at (o (j / 6)) (m (j / 6)) (j % 6)
def nr_cv (n : Nat) (p q : Nat → Nat) : Nat → (Nat → Nat) → Nat := fun j S => 1 + nr_dn n S (p (j / 6)) (q (j / 6)) (j % 6)
def nr_cs (n : Nat) (H : Nat → Bool) (o m p q : Nat → Nat) (T : Nat → Nat) (j : Nat) : Nat → Nat := nr_st (nr_cA n H) (nr_cf o m) (nr_cv n p q) T j
def nr_K (n : Nat) (H : Nat → Bool) (o m p q : Nat → Nat) (r : Nat) : Nat → Nat := nr_it (nr_cA n H) (nr_cf o m) (nr_cv n p q) 60 (fun _ => 1000) r
def nr_M (n : Nat) (H : Nat → Bool) (o m p q : Nat → Nat) : Nat → Nat := nr_K n H o m p q 108
theorem nr_cmo (n : Nat) (p q : Nat → Nat) : nr_mo (nr_cv n p q) := by
  intro j S T h
  have := nr_dn_mo h n (p (j / 6)) (q (j / 6)) (j % 6)
  show 1 + nr_dn n S (p (j / 6)) (q (j / 6)) (j % 6) ≤ 1 + nr_dn n T (p (j / 6)) (q (j / 6)) (j % 6)
  omega
theorem nr_ccu (n : Nat) (p q : Nat → Nat) : nr_cu (nr_cv n p q) := by
  intro j S T c h
  have := nr_dn_cu h n (p (j / 6)) (q (j / 6)) (j % 6)
  show 1 + nr_dn n T (p (j / 6)) (q (j / 6)) (j % 6) ≤ 1 + nr_dn n S (p (j / 6)) (q (j / 6)) (j % 6) ∨ c < 1 + nr_dn n S (p (j / 6)) (q (j / 6)) (j % 6)
  omega
theorem nr_at_lt {o m x : Nat} (ho : o < 6) (hm : m < 3) (hx : x < 6) : nr_at o m x < 108 := by unfold nr_at; omega
theorem nr_cfl {n : Nat} {H : Nat → Bool} {o m : Nat → Nat} (ho : ∀ i, i < 10 → o i < 6) (hm : ∀ i, i < 10 → m i < 3) :
    ∀ j, j < 60 → nr_cA n H j = true → nr_cf o m j < 108 := by
  intro j hj _
  exact nr_at_lt (ho _ (by omega)) (hm _ (by omega)) (by omega)
theorem nr_Kfx {n : Nat} {H : Nat → Bool} {o m p q : Nat → Nat} (ho : ∀ i, i < 10 → o i < 6) (hm : ∀ i, i < 10 → m i < 3) :
    nr_cs n H o m p q (nr_M n H o m p q) 60 = nr_M n H o m p q := by
  refine nr_fix (A := nr_cA n H) (f := nr_cf o m) (v := nr_cv n p q) (J := 60) (T := fun _ => 1000) (r := 108) (P := 108) (c := 0) (s := 0) (nr_cmo n p q) (nr_ccu n p q) (nr_cfl ho hm) ?_ (Nat.zero_le _) (by omega)
  intro j _ _ _
  show 0 < 1 + nr_dn n _ (p (j / 6)) (q (j / 6)) (j % 6)
  omega
theorem nr_K_s (n : Nat) (H : Nat → Bool) (o m p q : Nat → Nat) (r : Nat) : nr_K n H o m p q (r + 1) = nr_cs n H o m p q (nr_K n H o m p q r) 60 := rfl
theorem nr_K_0 (n : Nat) (H : Nat → Bool) (o m p q : Nat → Nat) : nr_K n H o m p q 0 = fun _ => 1000 := rfl
theorem nr_K_st {n : Nat} {H : Nat → Bool} {o m p q : Nat → Nat} {r : Nat} (h : nr_cs n H o m p q (nr_K n H o m p q r) 60 = nr_K n H o m p q r) (t : Nat) (ht : r ≤ t) :
    nr_K n H o m p q t = nr_K n H o m p q r := by
  obtain ⟨d, rfl⟩ : ∃ d, t = r + d := ⟨t - r, by omega⟩
  exact nr_stay h d
theorem nr_K_up {n : Nat} {H : Nat → Bool} {o m p q : Nat → Nat} (ho : ∀ i, i < 10 → o i < 6) (hm : ∀ i, i < 10 → m i < 3) (t : Nat) (ht : 108 ≤ t) :
    nr_K n H o m p q t = nr_M n H o m p q := nr_K_st (nr_Kfx ho hm) t ht
theorem nr_K_dn {n : Nat} {H : Nat → Bool} {o m p q : Nat → Nat} {r : Nat} (h : nr_cs n H o m p q (nr_K n H o m p q r) 60 = nr_K n H o m p q r) (ho : ∀ i, i < 10 → o i < 6) (hm : ∀ i, i < 10 → m i < 3) :
    nr_K n H o m p q r = nr_M n H o m p q := by
  rw [← nr_K_up ho hm (108 + r) (by omega)]
  exact (nr_K_st h (108 + r) (by omega)).symm
theorem nr_K_le (n : Nat) (H : Nat → Bool) (o m p q : Nat → Nat) (r b : Nat) : nr_K n H o m p q r b ≤ 1000 := nr_it_le (nr_cA n H) (nr_cf o m) (nr_cv n p q) 60 (fun _ => 1000) r b
theorem nr_cs_le (n : Nat) (H : Nat → Bool) (o m p q : Nat → Nat) {T : Nat → Nat} (h : ∀ b, T b ≤ 1000) (j b : Nat) : nr_cs n H o m p q T j b ≤ 1000 := Nat.le_trans (nr_st_le _ _ _ T j b) (h b)
theorem nr_cs_t {n : Nat} {H : Nat → Bool} {o m p q : Nat → Nat} {T : Nat → Nat} {i x : Nat} (hn : n ≤ 6) (hx : x < n) (hH : H i = true) :
    nr_cs n H o m p q T (6 * i + (x + 1)) = nr_rx (nr_cs n H o m p q T (6 * i + x)) (nr_at (o i) (m i) x) (1 + nr_dn n (nr_cs n H o m p q T (6 * i + x)) (p i) (q i) x) := by
  have e1 : (6 * i + x) / 6 = i := by omega
  have e2 : (6 * i + x) % 6 = x := by omega
  have hA : nr_cA n H (6 * i + x) = true := by
    unfold nr_cA
    rw [e1, e2, hH, decide_eq_true hx]
    rfl
  have h := nr_st_t (f := nr_cf o m) (v := nr_cv n p q) (T := T) hA
  unfold nr_cs
  rw [← Nat.add_assoc, h]
  show nr_rx _ (nr_at (o ((6 * i + x) / 6)) (m ((6 * i + x) / 6)) ((6 * i + x) % 6)) (1 + nr_dn n _ (p ((6 * i + x) / 6)) (q ((6 * i + x) / 6)) ((6 * i + x) % 6)) = _
  rw [e1, e2]
theorem nr_cs_k {n : Nat} {H : Nat → Bool} {o m p q : Nat → Nat} {T : Nat → Nat} {i x : Nat} (hx6 : x < 6) (h : H i = true → ¬ x < n) :
    nr_cs n H o m p q T (6 * i + (x + 1)) = nr_cs n H o m p q T (6 * i + x) := by
  have e1 : (6 * i + x) / 6 = i := by omega
  have e2 : (6 * i + x) % 6 = x := by omega
  have hA : ¬ nr_cA n H (6 * i + x) = true := by
    unfold nr_cA
    rw [e1, e2]
    intro z
    rw [Bool.and_eq_true] at z
    exact h z.1 (of_decide_eq_true z.2)
  unfold nr_cs
  rw [← Nat.add_assoc]
  exact nr_st_f hA
theorem nr_cs_ks {n : Nat} {H : Nat → Bool} {o m p q : Nat → Nat} {T : Nat → Nat} {i x : Nat} (h : ∀ y, x ≤ y → H i = true → ¬ y < n) :
    ∀ d, x + d ≤ 6 → nr_cs n H o m p q T (6 * i + (x + d)) = nr_cs n H o m p q T (6 * i + x) := by
  intro d
  induction d with
  | zero => intro _; rfl
  | succ d ih =>
    intro hd
    rw [← ih (by omega), ← Nat.add_assoc x d 1]
    exact nr_cs_k (by omega) (h (x + d) (by omega))
theorem nr_cs_e {n : Nat} {H : Nat → Bool} {o m p q : Nat → Nat} {T : Nat → Nat} {i : Nat} (hn : n ≤ 6) :
    nr_cs n H o m p q T (6 * (i + 1)) = nr_cs n H o m p q T (6 * i + n) := by
  have h := nr_cs_ks (H := H) (o := o) (m := m) (p := p) (q := q) (T := T) (i := i) (x := n) (n := n) (fun y hy _ => by omega) (6 - n) (by omega)
  rw [← h]
  congr 1
  omega
theorem nr_cs_f {n : Nat} {H : Nat → Bool} {o m p q : Nat → Nat} {T : Nat → Nat} {i : Nat} (hH : ¬ H i = true) :
    nr_cs n H o m p q T (6 * (i + 1)) = nr_cs n H o m p q T (6 * i) := by
  have h := nr_cs_ks (n := n) (o := o) (m := m) (p := p) (q := q) (T := T) (i := i) (x := 0) (fun y _ z => absurd z hH) 6 (by omega)
  rw [show 6 * (i + 1) = 6 * i + (0 + 6) by omega]
  exact h
/-! one certificate less -/
def nr_se (B : Nat → Bool) (i : Nat) (b : Bool) : Nat → Bool := fun j => if j = i then b else B j
theorem nr_M_mo {n : Nat} {H : Nat → Bool} {o m p q : Nat → Nat} (ho : ∀ i, i < 10 → o i < 6) (hm : ∀ i, i < 10 → m i < 3) (id b : Nat) :
    nr_M n H o m p q b ≤ nr_M n (nr_se H id false) o m p q b := by
  refine nr_lowi (A := nr_cA n H) (B := nr_cA n (nr_se H id false)) (f := nr_cf o m) (v := nr_cv n p q) (J := 60) (T := fun _ => 1000) (U := nr_M n H o m p q) (nr_cmo n p q) ?_ (nr_st_xf (nr_cmo n p q) (nr_Kfx ho hm)) (fun b => nr_K_le n H o m p q 108 b) 108 b
  intro j _ h
  unfold nr_cA at h ⊢
  rw [Bool.and_eq_true] at h ⊢
  refine ⟨?_, h.2⟩
  have h1 := h.1
  unfold nr_se at h1
  by_cases e : j / 6 = id
  · rw [if_pos e] at h1; exact absurd h1 (by decide)
  · rw [if_neg e] at h1; exact h1
theorem nr_none {n : Nat} {H : Nat → Bool} {o m p q : Nat → Nat} (hH : ∀ i, i < 10 → ¬ H i = true) : nr_M n H o m p q = fun _ => 1000 := by
  have h : nr_cs n H o m p q (nr_K n H o m p q 0) 60 = nr_K n H o m p q 0 := by
    refine nr_st_fx ?_ 60 (Nat.le_refl _)
    intro j hj hA _
    unfold nr_cA at hA
    rw [Bool.and_eq_true] at hA
    exact hH (j / 6) (by omega) hA.1
  exact nr_K_st h 108 (by omega)
theorem nr_miss {S T : Nat → Nat} (h : ∀ b, S b ≤ T b) (m : Nat) : nr_ct T 999 m < nr_ct S 999 m ↔ ∃ a, a < m ∧ S a < 1000 ∧ ¬ T a < 1000 := by
  constructor
  · intro hl
    by_cases he : ∃ a, a < m ∧ S a < 1000 ∧ ¬ T a < 1000
    · exact he
    · have e : nr_ct T 999 m = nr_ct S 999 m := by
        refine nr_ct_eq m (fun a ha => ?_)
        have h1 := h a
        have h2 : ¬ (S a < 1000 ∧ ¬ T a < 1000) := fun z => he ⟨a, ha, z⟩
        omega
      omega
  · rintro ⟨a, ha, h1, h2⟩
    exact nr_ct_st (a := a) (fun b hb => by have := h b; omega) (by omega) (by omega) m ha
/-! grants -/
def nr_gA (n : Nat) (G O : Nat → Bool) : Nat → Bool := fun j => (G (j / 6) && O (j / 6)) && decide (j % 6 < n)
def nr_gf : Nat → Nat := fun j => j % 6
def nr_gv (n : Nat) (M : Nat → Nat) (g p q : Nat → Nat) : Nat → (Nat → Nat) → Nat := fun j S => S (g (j / 6)) + 1 + nr_dn n M (p (j / 6)) (q (j / 6)) (j % 6)
def nr_gs (n : Nat) (G O : Nat → Bool) (M : Nat → Nat) (g p q : Nat → Nat) (S : Nat → Nat) (j : Nat) : Nat → Nat := nr_st (nr_gA n G O) nr_gf (nr_gv n M g p q) S j
def nr_n0 (k : Nat) : Nat → Nat := fun y => if y = k then 0 else 1000
def nr_N (n : Nat) (G O : Nat → Bool) (M : Nat → Nat) (g p q : Nat → Nat) (k r : Nat) : Nat → Nat := nr_it (nr_gA n G O) nr_gf (nr_gv n M g p q) 36 (nr_n0 k) r
def nr_la (n : Nat) (G : Nat → Bool) (M : Nat → Nat) (g p q : Nat → Nat) (S : Nat → Nat) (x : Nat) : Nat → Nat
  | 0 => 1000
  | i + 1 => if G i = true then (if S (g i) + 1 + nr_dn n M (p i) (q i) x < nr_la n G M g p q S x i then S (g i) + 1 + nr_dn n M (p i) (q i) x else nr_la n G M g p q S x i) else nr_la n G M g p q S x i
theorem nr_gmo (n : Nat) (M : Nat → Nat) (g p q : Nat → Nat) : nr_mo (nr_gv n M g p q) := by
  intro j S T h
  have := h (g (j / 6))
  show S (g (j / 6)) + 1 + nr_dn n M (p (j / 6)) (q (j / 6)) (j % 6) ≤ T (g (j / 6)) + 1 + nr_dn n M (p (j / 6)) (q (j / 6)) (j % 6)
  omega
theorem nr_gcu (n : Nat) (M : Nat → Nat) (g p q : Nat → Nat) : nr_cu (nr_gv n M g p q) := by
  intro j S T c h
  have := h (g (j / 6))
  show T (g (j / 6)) + 1 + nr_dn n M (p (j / 6)) (q (j / 6)) (j % 6) ≤ S (g (j / 6)) + 1 + nr_dn n M (p (j / 6)) (q (j / 6)) (j % 6) ∨ c < S (g (j / 6)) + 1 + nr_dn n M (p (j / 6)) (q (j / 6)) (j % 6)
  omega
theorem nr_n0_c {k n : Nat} (hk : k < n) : 1 ≤ nr_ct (nr_n0 k) 0 n := by
  have h := nr_ct_st (T := fun _ => 1) (c := 0) (T' := nr_n0 k) (c' := 0) (a := k) (fun b hb => absurd (show (1 : Nat) ≤ 0 from hb) (by decide)) (show ¬ (1 : Nat) ≤ 0 by decide) (show nr_n0 k k ≤ 0 by unfold nr_n0; rw [if_pos rfl]; exact Nat.le_refl _) n hk
  omega
theorem nr_Nfx {n : Nat} {G O : Nat → Bool} {M : Nat → Nat} {g p q : Nat → Nat} {k : Nat} (hk : k < n) (t : Nat) (ht : n - 1 ≤ t) :
    nr_N n G O M g p q k t = nr_N n G O M g p q k (n - 1) := by
  obtain ⟨d, rfl⟩ : ∃ d, t = (n - 1) + d := ⟨t - (n - 1), by omega⟩
  refine nr_stay ?_ d
  refine nr_fix (P := n) (c := 0) (s := 1) (nr_gmo n M g p q) (nr_gcu n M g p q) ?_ ?_ (nr_n0_c hk) (by omega)
  · intro j _ h
    unfold nr_gA at h
    rw [Bool.and_eq_true] at h
    exact of_decide_eq_true h.2
  · intro j _ _ _
    show 0 < nr_n0 k (g (j / 6)) + 1 + nr_dn n M (p (j / 6)) (q (j / 6)) (j % 6)
    omega
theorem nr_N_s (n : Nat) (G O : Nat → Bool) (M : Nat → Nat) (g p q : Nat → Nat) (k r : Nat) : nr_N n G O M g p q k (r + 1) = nr_gs n G O M g p q (nr_N n G O M g p q k r) 36 := rfl
theorem nr_n0_le (k b : Nat) : nr_n0 k b ≤ 1000 := by unfold nr_n0; split <;> omega
theorem nr_N_le (n : Nat) (G O : Nat → Bool) (M : Nat → Nat) (g p q : Nat → Nat) (k r b : Nat) : nr_N n G O M g p q k r b ≤ 1000 := Nat.le_trans (nr_it_le _ _ _ 36 (nr_n0 k) r b) (nr_n0_le k b)
theorem nr_gs_le (n : Nat) (G O : Nat → Bool) (M : Nat → Nat) (g p q : Nat → Nat) {S : Nat → Nat} (h : ∀ b, S b ≤ 1000) (j b : Nat) : nr_gs n G O M g p q S j b ≤ 1000 := Nat.le_trans (nr_st_le _ _ _ S j b) (h b)
theorem nr_gs_t {n : Nat} {G O : Nat → Bool} {M : Nat → Nat} {g p q : Nat → Nat} {S : Nat → Nat} {i x : Nat} (hn : n ≤ 6) (hx : x < n) (hG : G i = true) (hO : O i = true) :
    nr_gs n G O M g p q S (6 * i + (x + 1)) = nr_rx (nr_gs n G O M g p q S (6 * i + x)) x (nr_gs n G O M g p q S (6 * i + x) (g i) + 1 + nr_dn n M (p i) (q i) x) := by
  have e1 : (6 * i + x) / 6 = i := by omega
  have e2 : (6 * i + x) % 6 = x := by omega
  have hA : nr_gA n G O (6 * i + x) = true := by
    unfold nr_gA
    rw [e1, e2, hG, hO, decide_eq_true hx]
    rfl
  have h := nr_st_t (f := nr_gf) (v := nr_gv n M g p q) (T := S) hA
  unfold nr_gs
  rw [← Nat.add_assoc, h]
  show nr_rx _ ((6 * i + x) % 6) (_ + 1 + nr_dn n M (p ((6 * i + x) / 6)) (q ((6 * i + x) / 6)) ((6 * i + x) % 6)) = _
  rw [e2]
  show nr_rx _ x (nr_st (nr_gA n G O) nr_gf (nr_gv n M g p q) S (6 * i + x) (g ((6 * i + x) / 6)) + 1 + nr_dn n M (p ((6 * i + x) / 6)) (q ((6 * i + x) / 6)) x) = _
  rw [e1]
theorem nr_gs_k {n : Nat} {G O : Nat → Bool} {M : Nat → Nat} {g p q : Nat → Nat} {S : Nat → Nat} {i x : Nat} (hx6 : x < 6) (h : G i = true → O i = true → ¬ x < n) :
    nr_gs n G O M g p q S (6 * i + (x + 1)) = nr_gs n G O M g p q S (6 * i + x) := by
  have e1 : (6 * i + x) / 6 = i := by omega
  have e2 : (6 * i + x) % 6 = x := by omega
  have hA : ¬ nr_gA n G O (6 * i + x) = true := by
    unfold nr_gA
    rw [e1, e2]
    intro z
    rw [Bool.and_eq_true, Bool.and_eq_true] at z
    exact h z.1.1 z.1.2 (of_decide_eq_true z.2)
  unfold nr_gs
  rw [← Nat.add_assoc]
  exact nr_st_f hA
theorem nr_gs_ks {n : Nat} {G O : Nat → Bool} {M : Nat → Nat} {g p q : Nat → Nat} {S : Nat → Nat} {i x : Nat} (h : ∀ y, x ≤ y → G i = true → O i = true → ¬ y < n) :
    ∀ d, x + d ≤ 6 → nr_gs n G O M g p q S (6 * i + (x + d)) = nr_gs n G O M g p q S (6 * i + x) := by
  intro d
  induction d with
  | zero => intro _; rfl
  | succ d ih =>
    intro hd
    rw [← ih (by omega), ← Nat.add_assoc x d 1]
    exact nr_gs_k (by omega) (h (x + d) (by omega))
theorem nr_gs_e {n : Nat} {G O : Nat → Bool} {M : Nat → Nat} {g p q : Nat → Nat} {S : Nat → Nat} {i : Nat} (hn : n ≤ 6) :
    nr_gs n G O M g p q S (6 * (i + 1)) = nr_gs n G O M g p q S (6 * i + n) := by
  have h := nr_gs_ks (G := G) (O := O) (M := M) (g := g) (p := p) (q := q) (S := S) (i := i) (x := n) (n := n) (fun y hy _ _ => by omega) (6 - n) (by omega)
  rw [← h]
  congr 1
  omega
theorem nr_gs_f {n : Nat} {G O : Nat → Bool} {M : Nat → Nat} {g p q : Nat → Nat} {S : Nat → Nat} {i : Nat} (hG : G i = true → ¬ O i = true) :
    nr_gs n G O M g p q S (6 * (i + 1)) = nr_gs n G O M g p q S (6 * i) := by
  have h := nr_gs_ks (n := n) (G := G) (O := O) (M := M) (g := g) (p := p) (q := q) (S := S) (i := i) (x := 0) (fun y _ z w => absurd w (hG z)) 6 (by omega)
  rw [show 6 * (i + 1) = 6 * i + (0 + 6) by omega]
  exact h
theorem nr_la_t {n : Nat} {G : Nat → Bool} {M : Nat → Nat} {g p q : Nat → Nat} {S : Nat → Nat} {x i : Nat} (h : G i = true) :
    nr_la n G M g p q S x (i + 1) = if S (g i) + 1 + nr_dn n M (p i) (q i) x < nr_la n G M g p q S x i then S (g i) + 1 + nr_dn n M (p i) (q i) x else nr_la n G M g p q S x i := by
  show (if G i = true then _ else _) = _
  rw [if_pos h]
theorem nr_la_f {n : Nat} {G : Nat → Bool} {M : Nat → Nat} {g p q : Nat → Nat} {S : Nat → Nat} {x i : Nat} (h : ¬ G i = true) :
    nr_la n G M g p q S x (i + 1) = nr_la n G M g p q S x i := by
  show (if G i = true then _ else _) = _
  rw [if_neg h]
theorem nr_la_le (n : Nat) (G : Nat → Bool) (M : Nat → Nat) (g p q : Nat → Nat) (S : Nat → Nat) (x : Nat) : ∀ i, nr_la n G M g p q S x i ≤ 1000 := by
  intro i
  induction i with
  | zero => exact Nat.le_refl _
  | succ i ih =>
    by_cases h : G i = true
    · rw [nr_la_t h]; split <;> omega
    · rw [nr_la_f h]; exact ih
end
section
/-! rows of the given starting texts, pasted: stores, numbers, branches by naturals, bits -/
theorem pk_us {f : Nat → Int32} {k : Nat} {x : Int32} : upd f k x k = x := if_pos rfl
theorem pk_un {f : Nat → Int32} {k j : Nat} {x : Int32} (h : j ≠ k) : upd f k x j = f j := if_neg h
theorem pk_sub {a b : Nat} (h : b ≤ a) : nI a - nI b = nI (a - b) := by
  obtain ⟨c, rfl⟩ : ∃ c, a = c + b := ⟨a - b, by omega⟩
  rw [← nI_add, Int32.add_sub_cancel, Nat.add_sub_cancel]
theorem pk_m1 (n : Nat) : nI (n + 1) + (-1) = nI n := by
  rw [← nI_1, Int32.add_assoc, show (1 : Int32) + (-1) = 0 from rfl, Int32.add_zero]
theorem pk_mul (a b : Nat) : nI a * nI b = nI (a * b) := (Int32.ofNat_mul a b).symm
theorem pk_div {a d : Nat} (ha : a < 2 ^ 31) (h0 : 0 < d) (hd : d < 2 ^ 31) : nI a / nI d = nI (a / d) := by
  apply Int32.toInt_inj.mp
  rw [lg_idiv_nonneg (by rw [nI_toInt ha]; omega) (by rw [nI_toInt hd]; omega), nI_toInt ha, nI_toInt hd, nI_toInt (Nat.lt_of_le_of_lt (Nat.div_le_self a d) ha)]
  first | rfl | exact (Int.natCast_ediv _ _).symm
theorem pk_rem {a d : Nat} (ha : a < 2 ^ 31) (h0 : 0 < d) (hd : d < 2 ^ 31) : nI a - nI a / nI d * nI d = nI (a % d) := by
  rw [pk_div ha h0 hd, pk_mul, pk_sub (Nat.div_mul_le_self a d)]
  exact congrArg nI (by have := Nat.div_add_mod' a d; omega)
theorem pk_ix (x : Int32) {n : Nat} (hn : n < 2 ^ 31) : x < 0 ∨ nI n ≤ x ∨ ∃ j : Nat, j < n ∧ x = nI j := by
  by_cases h : x < 0
  · exact Or.inl h
  · obtain ⟨j, hj, rfl⟩ := nI_of h
    by_cases h2 : j < n
    · exact Or.inr (Or.inr ⟨j, h2, rfl⟩)
    · exact Or.inr (Or.inl (nI_le (by omega) hj))
theorem pk_le {x y : Int32} {A B : Prop} (a b : Nat) (f : a ≤ b → A) (g : b < a → B) (hx : x = nI a := by rfl) (hy : y = nI b := by rfl) (ha : a < 2 ^ 31 := by omega) (hb : b < 2 ^ 31 := by omega) : (x ≤ y → A) ∧ (¬ x ≤ y → B) := by
  subst hx hy
  rw [nI_leI ha hb]
  exact ⟨f, fun z => g (by omega)⟩
theorem pk_lt {x y : Int32} {A B : Prop} (a b : Nat) (f : a < b → A) (g : b ≤ a → B) (hx : x = nI a := by rfl) (hy : y = nI b := by rfl) (ha : a < 2 ^ 31 := by omega) (hb : b < 2 ^ 31 := by omega) : (x < y → A) ∧ (¬ x < y → B) := by
  subst hx hy
  rw [nI_ltI ha hb]
  exact ⟨f, fun z => g (by omega)⟩
theorem pk_eq {x y : Int32} {A B : Prop} (a b : Nat) (f : a = b → A) (g : a ≠ b → B) (hx : x = nI a := by rfl) (hy : y = nI b := by rfl) (ha : a < 2 ^ 31 := by omega) (hb : b < 2 ^ 31 := by omega) : (x = y → A) ∧ (¬ x = y → B) := by
  subst hx hy
  rw [nI_eq ha hb]
  exact ⟨f, g⟩
theorem pk_in {x : Int32} (n N : Nat) (h : n < N) (hx : x = nI n := by rfl) (hN : N < 2 ^ 31 := by omega) : vp_in x N := by
  subst hx
  exact vp_in_nI h hN
theorem pk_cl {x : Int32} (n : Nat) (hx : x = nI n := by rfl) (h : n < 2 ^ 31 := by omega) : x.toNatClampNeg = n := by
  subst hx
  exact nI_clamp h
def bt (x : Int32) (i : Nat) : Bool := x.toBitVec.getLsbD i
theorem b_ext {x y : Int32} (h : ∀ i, i < 32 → bt x i = bt y i) : x = y := Int32.toBitVec_inj.mp (BitVec.eq_of_getLsbD_eq (fun i hi => h i hi))
theorem b_or (x y : Int32) (i : Nat) : bt (x ||| y) i = (bt x i || bt y i) := by unfold bt; rw [Int32.toBitVec_or, BitVec.getLsbD_or]
theorem b_and (x y : Int32) (i : Nat) : bt (x &&& y) i = (bt x i && bt y i) := by unfold bt; rw [Int32.toBitVec_and, BitVec.getLsbD_and]
theorem b_xor (x y : Int32) (i : Nat) : bt (x ^^^ y) i = (bt x i ^^ bt y i) := by unfold bt; rw [Int32.toBitVec_xor, BitVec.getLsbD_xor]
theorem b_big {x : Int32} {i : Nat} (h : 32 ≤ i) : bt x i = false := BitVec.getLsbD_of_ge _ _ h
theorem b_m1 : ∀ i, i < 32 → bt (-1) i = true := by decide +kernel
theorem b_0 (i : Nat) : bt 0 i = false := BitVec.getLsbD_zero
theorem s_l : ∀ n, n < 32 → ((nI n &&& 31).toBitVec.smod 32).toNat = n := by decide +kernel
theorem b_shl (n : Nat) (hn : n < 32) (x : Int32) {i : Nat} (hi : i < 32) : bt (x <<< (nI n &&& 31)) i = (decide (n ≤ i) && bt x (i - n)) := by
  unfold bt
  rw [Int32.toBitVec_shiftLeft]
  show (x.toBitVec <<< ((nI n &&& 31).toBitVec.smod 32).toNat).getLsbD i = _
  rw [s_l n hn, BitVec.getLsbD_shiftLeft]
  rcases Nat.lt_or_ge i n with h | h
  · simp [h, Nat.not_le.mpr h]
  · simp [hi, h, Nat.not_lt.mpr h]
theorem b_sshr (n : Nat) (hn : n < 32) (x : Int32) {i : Nat} (hi : i < 32) : bt (x >>> (nI n &&& 31)) i = if n + i < 32 then bt x (n + i) else bt x 31 := by
  unfold bt
  rw [Int32.toBitVec_shiftRight]
  show (x.toBitVec.sshiftRight ((nI n &&& 31).toBitVec.smod 32).toNat).getLsbD i = _
  rw [s_l n hn, BitVec.getLsbD_sshiftRight, BitVec.msb_eq_getLsbD_last]
  simp [hi]
/-! sets of bits -/
theorem nr_b1 : ∀ i, i < 32 → bt 1 i = decide (i = 0) := by decide +kernel
def nr_bi (B : Nat → Bool) : Nat → Int32
  | 0 => 0
  | x + 1 => if B x = true then nr_bi B x ||| ((1 : Int32) <<< (nI x &&& 31)) else nr_bi B x
theorem nr_bi_t {B : Nat → Bool} {x : Nat} (h : B x = true) : nr_bi B (x + 1) = nr_bi B x ||| ((1 : Int32) <<< (nI x &&& 31)) := by
  show (if B x = true then _ else _) = _
  rw [if_pos h]
theorem nr_bi_f {B : Nat → Bool} {x : Nat} (h : ¬ B x = true) : nr_bi B (x + 1) = nr_bi B x := by
  show (if B x = true then _ else _) = _
  rw [if_neg h]
theorem nr_sh {m i : Nat} (hm : m < 32) (hi : i < 32) : bt ((1 : Int32) <<< (nI m &&& 31)) i = decide (i = m) := by
  rw [b_shl m hm 1 hi, nr_b1 (i - m) (by omega), Bool.eq_iff_iff]
  simp only [Bool.and_eq_true, decide_eq_true_eq]
  omega
theorem nr_bi_bt (B : Nat → Bool) : ∀ m, m ≤ 32 → ∀ i, i < 32 → bt (nr_bi B m) i = (decide (i < m) && B i) := by
  intro m
  induction m with
  | zero =>
    intro _ i _
    rw [Bool.eq_iff_iff, Bool.and_eq_true, decide_eq_true_eq]
    constructor
    · intro h
      have h2 : bt 0 i = true := h
      rw [b_0] at h2
      exact absurd h2 (by decide)
    · intro h
      exact absurd h.1 (by omega)
  | succ m ih =>
    intro hm i hi
    have IH := ih (by omega) i hi
    by_cases h : B m = true
    · rw [nr_bi_t h, b_or, IH, nr_sh (m := m) (by omega) hi, Bool.eq_iff_iff]
      simp only [Bool.or_eq_true, Bool.and_eq_true, decide_eq_true_eq]
      constructor
      · rintro (⟨a, b⟩ | e)
        · exact ⟨by omega, b⟩
        · exact ⟨by omega, by rw [e]; exact h⟩
      · rintro ⟨a, b⟩
        by_cases e : i = m
        · right; exact e
        · left; exact ⟨by omega, b⟩
    · rw [nr_bi_f h, IH, Bool.eq_iff_iff]
      simp only [Bool.and_eq_true, decide_eq_true_eq]
      constructor
      · rintro ⟨a, b⟩
        exact ⟨by omega, b⟩
      · rintro ⟨a, b⟩
        by_cases e : i = m
        · rw [e] at b; exact absurd b h
        · exact ⟨by omega, b⟩
theorem nr_and1 (x : Int32) : x &&& 1 = 1 ↔ bt x 0 = true := by
  constructor
  · intro h
    have h2 : bt (x &&& 1) 0 = bt 1 0 := by rw [h]
    rw [b_and, nr_b1 0 (by omega), Bool.eq_iff_iff] at h2
    simp only [Bool.and_eq_true, decide_eq_true_eq] at h2
    exact (h2.mpr trivial).1
  · intro h
    apply b_ext
    intro i hi
    rw [b_and, nr_b1 i hi, Bool.eq_iff_iff]
    simp only [Bool.and_eq_true, decide_eq_true_eq]
    constructor
    · exact fun z => z.2
    · exact fun z => ⟨by rw [z]; exact h, z⟩
theorem nr_held (B : Nat → Bool) {m i : Nat} (hm : m ≤ 31) (hi : i < m) : (nr_bi B m >>> (nI i &&& 31)) &&& 1 = 1 ↔ B i = true := by
  rw [nr_and1, b_sshr i (by omega) (nr_bi B m) (i := 0) (by omega), if_pos (show i + 0 < 32 by omega), Nat.add_zero, nr_bi_bt B m (by omega) i (by omega), Bool.and_eq_true, decide_eq_true_eq]
  exact ⟨fun z => z.2, fun z => ⟨hi, z⟩⟩
theorem nr_bi_on (B : Nat → Bool) {m i : Nat} (hm : m ≤ 31) (hi : i < m) : nr_bi B m ||| ((1 : Int32) <<< (nI i &&& 31)) = nr_bi (nr_se B i true) m := by
  apply b_ext
  intro j hj
  rw [b_or, nr_bi_bt B m (by omega) j hj, nr_bi_bt _ m (by omega) j hj, nr_sh (m := i) (by omega) hj, Bool.eq_iff_iff]
  unfold nr_se
  simp only [Bool.or_eq_true, Bool.and_eq_true, decide_eq_true_eq]
  by_cases e : j = i
  · rw [if_pos e]
    exact ⟨fun _ => ⟨by omega, rfl⟩, fun _ => Or.inr e⟩
  · rw [if_neg e]
    exact ⟨fun z => z.elim id (fun w => absurd w e), fun z => Or.inl z⟩
theorem nr_bi_off (B : Nat → Bool) {m i : Nat} (hm : m ≤ 31) (hi : i < m) : nr_bi B m &&& (((1 : Int32) <<< (nI i &&& 31)) ^^^ (-1)) = nr_bi (nr_se B i false) m := by
  apply b_ext
  intro j hj
  rw [b_and, b_xor, nr_bi_bt B m (by omega) j hj, nr_bi_bt _ m (by omega) j hj, nr_sh (m := i) (by omega) hj, b_m1 j hj, Bool.xor_true]
  unfold nr_se
  by_cases e : j = i
  · rw [if_pos e, decide_eq_true e, Bool.not_true, Bool.and_false, Bool.and_false]
  · rw [if_neg e, decide_eq_false e, Bool.not_false, Bool.and_true]
theorem nr_bi_cg {B C : Nat → Bool} : ∀ m, (∀ i, i < m → B i = C i) → nr_bi B m = nr_bi C m := by
  intro m
  induction m with
  | zero => intro _; rfl
  | succ m ih =>
    intro h
    have IH := ih (fun i hi => h i (by omega))
    have e := h m (by omega)
    by_cases hb : B m = true
    · rw [nr_bi_t hb, nr_bi_t (e ▸ hb), IH]
    · rw [nr_bi_f hb, nr_bi_f (e ▸ hb), IH]
theorem nr_bi_no {B : Nat → Bool} : ∀ m, (∀ i, i < m → ¬ B i = true) → nr_bi B m = 0 := by
  intro m
  induction m with
  | zero => intro _; rfl
  | succ m ih =>
    intro h
    rw [nr_bi_f (h m (by omega))]
    exact ih (fun i hi => h i (by omega))
theorem nr_or0 (x : Int32) : x ||| 0 = x := by
  apply b_ext
  intro i _
  rw [b_or, b_0, Bool.or_false]
/-! flags and arrays as both sides keep them -/
def nr_hb (t : Nat → Int32) : Nat → Bool := fun i => decide (¬ t i = 0)
def nr_cz (a : Nat → Int32) : Nat → Nat := fun i => (a i).toNatClampNeg
def nr_ok (a : Nat → Int32) (k n : Nat) : Prop := ∀ i, i < k → nr_cz a i < n ∧ a i = nI (nr_cz a i)
def nr_R (a : Nat → Int32) (k : Nat) (T : Nat → Nat) : Prop := ∀ i, i < k → a i = nI (T i)
theorem nr_hb_t {t : Nat → Int32} {i : Nat} : nr_hb t i = true ↔ ¬ t i = 0 := by
  unfold nr_hb; exact decide_eq_true_iff
theorem nr_hb_u1 (t : Nat → Int32) (i : Nat) : nr_hb (upd t i 1) = nr_se (nr_hb t) i true := by
  funext j
  unfold nr_hb nr_se upd
  by_cases e : j = i
  · rw [if_pos e, if_pos e]; exact decide_eq_true (by decide)
  · rw [if_neg e, if_neg e]
theorem nr_hb_u0 (t : Nat → Int32) (i : Nat) : nr_hb (upd t i 0) = nr_se (nr_hb t) i false := by
  funext j
  unfold nr_hb nr_se upd
  by_cases e : j = i
  · rw [if_pos e, if_pos e]; exact decide_eq_false (by decide)
  · rw [if_neg e, if_neg e]
theorem nr_ok_u {a : Nat → Int32} {k n i x : Nat} (h : nr_ok a k n) (hx : x < n) (hn : n < 2 ^ 31) : nr_ok (upd a i (nI x)) k n := by
  intro j hj
  by_cases e : j = i
  · have e1 : upd a i (nI x) j = nI x := by rw [e]; exact pk_us
    have e2 : nr_cz (upd a i (nI x)) j = x := by unfold nr_cz; rw [e1]; exact nI_clamp (by omega)
    rw [e1, e2]; exact ⟨hx, rfl⟩
  · have e1 : upd a i (nI x) j = a j := pk_un e
    have e2 : nr_cz (upd a i (nI x)) j = nr_cz a j := by unfold nr_cz; rw [e1]
    rw [e1, e2]; exact h j hj
theorem nr_ok_0 {k n : Nat} (hn : 0 < n) : nr_ok (fun _ => 0) k n := by
  intro i _
  have e : nr_cz (fun _ => (0 : Int32)) i = 0 := (show (0 : Int32).toNatClampNeg = 0 by decide)
  rw [e]; exact ⟨hn, nI_0.symm⟩
theorem nr_R_u {a : Nat → Int32} {k : Nat} {T : Nat → Nat} {i w : Nat} (h : nr_R a k T) (hw : w < T i) : nr_R (upd a i (nI w)) k (nr_rx T i w) := by
  intro j hj
  unfold nr_rx
  by_cases e : j = i
  · rw [if_pos ⟨e, hw⟩, e]; exact pk_us
  · rw [if_neg (fun z => e z.1), pk_un e]; exact h j hj
theorem nr_R_n {a : Nat → Int32} {k : Nat} {T : Nat → Nat} {i w : Nat} (h : nr_R a k T) (hw : ¬ w < T i) : nr_R a k (nr_rx T i w) := by
  rw [nr_rx_no hw]; exact h
theorem nr_R_m {a : Nat → Int32} {k : Nat} {T : Nat → Nat} {i w : Nat} (h : nr_R a k T) (hi : i < k) : nr_R (upd a i (if w < T i then nI w else a i)) k (nr_rx T i w) := by
  by_cases hw : w < T i
  · rw [if_pos hw]; exact nr_R_u h hw
  · rw [if_neg hw, nr_rx_no hw]
    intro j hj
    by_cases e : j = i
    · rw [e, pk_us]; exact h i hi
    · rw [pk_un e]; exact h j hj
end
section
/-! ranges -/
def nr_pr (n : Nat) (x : Int32) : Prop := ∃ j : Nat, j < n ∧ x = nI j
theorem nr_pr_n {n j : Nat} (hn : n < 2 ^ 31) (hj : j < 2 ^ 31) (h : nr_pr n (nI j)) : j < n := by
  obtain ⟨i, hi, e⟩ := h
  have := (nI_eq hj (by omega)).mp e
  omega
theorem nr_rng {n : Nat} (hn : n < 2 ^ 31) {x : Int32} {A B : Prop} (h1 : nr_pr n x → B) (h0 : ¬ nr_pr n x → A) :
    (x < 0 → A) ∧ (¬ x < 0 → ((nI n ≤ x → A) ∧ (¬ nI n ≤ x → B))) := by
  by_cases hx : x < 0
  · refine br_t hx (h0 ?_)
    rintro ⟨j, hj, rfl⟩
    exact nI_pos (by omega) hx
  · refine br_f hx ?_
    obtain ⟨j, hj, rfl⟩ := nI_of hx
    by_cases h : j < n
    · exact br_f (nI_ge h hn) (h1 ⟨j, h, rfl⟩)
    · exact br_t (nI_le (by omega) hj) (h0 (fun z => h (nr_pr_n hn hj z)))
theorem nr_rng2 {n : Nat} (hn : n + 1 < 2 ^ 31) {x : Int32} {A B : Prop} (h1 : nr_pr (n + 1) x → B) (h0 : ¬ nr_pr (n + 1) x → A) :
    (x < 0 → A) ∧ (¬ x < 0 → ((nI n < x → A) ∧ (¬ nI n < x → B))) := by
  by_cases hx : x < 0
  · refine br_t hx (h0 ?_)
    rintro ⟨j, hj, rfl⟩
    exact nI_pos (by omega) hx
  · refine br_f hx ?_
    obtain ⟨j, hj, rfl⟩ := nI_of hx
    by_cases h : j < n + 1
    · exact br_f (nI_nlt (by omega) (by omega)) (h1 ⟨j, h, rfl⟩)
    · exact br_t (nI_lt (by omega) hj) (h0 (fun z => h (nr_pr_n hn hj z)))
theorem nr_rng3 {n : Nat} (hn : n + 1 < 2 ^ 31) {x : Int32} {A B : Prop} (h1 : nr_pr (n + 1) x → B) (h0 : ¬ nr_pr (n + 1) x → A) :
    (x < 0 → A) ∧ (¬ x < 0 → ((x ≤ nI n → B) ∧ (¬ x ≤ nI n → A))) := by
  by_cases hx : x < 0
  · refine br_t hx (h0 ?_)
    rintro ⟨j, hj, rfl⟩
    exact nI_pos (by omega) hx
  · refine br_f hx ?_
    obtain ⟨j, hj, rfl⟩ := nI_of hx
    by_cases h : j < n + 1
    · exact br_t (nI_le (by omega) (by omega)) (h1 ⟨j, h, rfl⟩)
    · exact br_f (nI_ge (by omega) hj) (h0 (fun z => h (nr_pr_n hn hj z)))
theorem nr_pl (o m x : Nat) : ((nI o * 3 + nI m) * 6) + nI x = nI (nr_at o m x) := by
  show ((nI o * nI 3 + nI m) * nI 6) + nI x = nI ((o * 3 + m) * 6 + x)
  rw [pk_mul, nI_add, pk_mul, nI_add]
theorem nr_rd {a : Nat → Int32} {k : Nat} {T : Nat → Nat} {i : Nat} (h : nr_R a k T) (hi : i < k) (hk : k < 2 ^ 31) : a (nI i).toNatClampNeg = nI (T i) := by
  rw [nI_clamp (by omega)]; exact h i hi
theorem nr_ro {a : Nat → Int32} {k n : Nat} {i : Nat} (h : nr_ok a k n) (hi : i < k) (hk : k < 2 ^ 31) : a (nI i).toNatClampNeg = nI (nr_cz a i) := by
  rw [nI_clamp (by omega)]; exact (h i hi).2
theorem nr_10 : ¬ (1 : Int32) = 0 := by decide
theorem nr_nb {b : Int32} (h : b = 0 ∨ b = 1) : narrow .boolean (.int b) = .int b := by
  rcases h with rfl | rfl <;> rfl
theorem nr_R_s {a : Nat → Int32} {i : Nat} {T : Nat → Nat} {x : Int32} (h : nr_R a i T) (hx : x = nI (T i)) (hi : i < 2 ^ 31) : nr_R (upd a (nI i).toNatClampNeg x) (i + 1) T := by
  intro j hj
  rw [nI_clamp hi]
  by_cases e : j = i
  · rw [e, pk_us]; exact hx
  · rw [pk_un e]; exact h j (by omega)
theorem nr_R_0 {a : Nat → Int32} {T : Nat → Nat} : nr_R a 0 T := fun j hj => absurd hj (by omega)
section
variable {bc bg : Int32} {ao am ap aq gg gp gq go lc cw oc : Nat → Int32} {n : Nat}
theorem xi_pr {post : Int32 → Prop} {x : Int32} (hn : n ≤ 6) (h1 : nr_pr n x → post 1) (h0 : ¬ nr_pr n x → post 0) : wpX_isPrincipal post (nI n, bc, bg, ao, am, ap, aq, gg, gp, gq, go, lc, cw, oc) x :=
  nr_rng (by omega) h1 h0
theorem xi_nm {post : Int32 → Prop} {x : Int32} (h1 : nr_pr 3 x → post 1) (h0 : ¬ nr_pr 3 x → post 0) : wpX_isName post x :=
  nr_rng (n := 3) (by omega) h1 h0
theorem xi_su {post : Int32 → Prop} {x y : Int32} (hn : n ≤ 6) (h1 : nr_pr n x → nr_pr 13 y → post 1) (h0 : ¬ (nr_pr n x ∧ nr_pr 13 y) → post 0) : wpX_isSubject post (nI n, bc, bg, ao, am, ap, aq, gg, gp, gq, go, lc, cw, oc) x y := by
  unfold wpX_isSubject
  dsimp only
  refine xi_pr hn (fun hx => br_f (by decide) ?_) (fun hx => br_t rfl (h0 (fun z => hx z.1)))
  exact nr_rng (n := 13) (by omega) (h1 hx) (fun hy => h0 (fun z => hy z.2))
theorem xi_hj {B : Nat → Bool} {m j : Nat} {post : Int32 → Prop} (hm : m ≤ 31) (hj : j < m) (h1 : B j = true → post 1) (h0 : ¬ B j = true → post 0) : wpX_isHeld post (nr_bi B m) (nI m) (nI j) := by
  refine br_f (nI_pos (by omega)) (br_f (nI_ge hj (by omega)) ?_)
  by_cases hB : B j = true
  · exact br_t ((nr_held B hm hj).mpr hB) (h1 hB)
  · exact br_f (fun z => hB ((nr_held B hm hj).mp z)) (h0 hB)
theorem xi_he {B : Nat → Bool} {m : Nat} {x : Int32} {post : Int32 → Prop} (hm : m ≤ 31) (h1 : ∀ j, j < m → x = nI j → B j = true → post 1) (h0 : (∀ j, j < m → x = nI j → ¬ B j = true) → post 0) : wpX_isHeld post (nr_bi B m) (nI m) x := by
  by_cases hp : nr_pr m x
  · obtain ⟨j, hj, rfl⟩ := hp
    refine xi_hj hm hj (fun hB => h1 j hj rfl hB) (fun hB => h0 ?_)
    intro i hi e
    have := (nI_eq (by omega) (by omega)).mp e
    subst this
    exact hB
  · exact nr_rng (by omega) (fun z => absurd z hp) (fun _ => h0 (fun j hj e => absurd ⟨j, hj, e⟩ hp))
theorem xi_lf {B : Nat → Bool} {m : Nat} {post : Int32 → Prop} (hm : m ≤ 31) (hf : ∀ i, i < m → ¬ B i = true → (∀ j, j < i → B j = true) → post (nI i)) (hF : (∀ j, j < m → B j = true) → post (-2)) : wpX_leastFree post (nr_bi B m) (nI m) := by
  refine loop_0 (fun f i (_ : Unit) => wX_leastFree_2 post (nr_bi B m) (nI m) f (nI i)) (fun i _ => ∀ j, j < i → B j = true) m () lt_0 ?_ ?_
  · intro f s hI
    exact br_t (nI_le (Nat.le_refl _) (by omega)) (hF hI)
  · intro f i s hi hI ih
    exact br_f (nI_ge hi (by omega)) (xi_hj hm hi (fun hb => br_f (by decide) (nm_r (nI_1 i) (ih () (lt_s hI hb)))) (fun hb => br_t rfl (hf i hi hb hI)))
theorem xi_pl {post : Int32 → Prop} {a b c : Int32} {o m x : Nat} (ha : a = nI o) (hb : b = nI m) (hc : c = nI x) (h : post (nI (nr_at o m x))) : wpX_place post a b c := by
  subst ha hb hc
  unfold wpX_place
  rw [nr_pl]
  exact h
theorem xi_cn {post : Int32 → Prop} {c : Nat} (hc : c ≤ 1000) (h1 : c < 1000 → post (nI c)) (h0 : ¬ c < 1000 → post (-1)) : wpX_costOrNone post (nI c) :=
  pk_le 1000 c (fun h => h0 (by omega)) (fun h => h1 (by omega))
theorem xi_tb {post : SX → Prop} (h : ∀ t, nr_R t 108 (fun _ => 1000) → post (nI n, 0, 0, ao, am, ap, aq, gg, gp, gq, go, t, cw, oc)) : wpX_takeAllBack post (nI n, bc, bg, ao, am, ap, aq, gg, gp, gq, go, lc, cw, oc) := by
  refine loop_0 (fun f i s => wX_takeAllBack_12 post (nI n) 0 0 f (nI i) ao am ap aq gg gp gq go s cw oc) (fun i s => nr_R s i (fun _ => 1000)) 108 lc nr_R_0 ?_ ?_
  · intro f s hI
    exact br_t (nI_le (b := 108) (Nat.le_refl _) (by omega)) (h s hI)
  · intro f i s hi hI ih
    exact br_f (nI_ge (b := 108) hi (by omega)) ⟨vp_in_nI hi (by omega), nm_e (nm_r (nI_1 i) (ih _ (nr_R_s hI rfl (by omega))))⟩
theorem xi_d6 {post : Int32 → Prop} {T : Nat → Nat} {p x a b : Nat} (hn : n ≤ 6) (hR : nr_R lc 108 T) (hT : ∀ b, T b ≤ 1000) (hp : p < 6) (ha : a < 3) (hb : b < 3) (hx : x < 6) (h : post (nI (nr_mn T p a b x n))) :
    ∃ f, wX_denotingCost__leastCost_62 post (nI p) (nI x) (nI a) (nI b) (nI n) bc bg ao am ap aq gg gp gq go lc cw oc f 1000 0 := by
  refine loop_0 (fun f i s => wX_denotingCost__leastCost_62 post (nI p) (nI x) (nI a) (nI b) (nI n) bc bg ao am ap aq gg gp gq go lc cw oc f s (nI i)) (fun i s => s = nI (nr_mn T p a b x i)) n (nI 1000) rfl ?_ ?_
  · intro f s hI
    subst hI
    exact br_t (nI_le (Nat.le_refl _) (by omega)) h
  · intro f i s hi hI ih
    subst hI
    have l1 : nr_at p a i < 108 := nr_at_lt hp ha (by omega)
    have l2 : nr_at i b x < 108 := nr_at_lt (by omega) hb hx
    have e : lc (nI (nr_at p a i)).toNatClampNeg + lc (nI (nr_at i b x)).toNatClampNeg = nI (T (nr_at p a i) + T (nr_at i b x)) := by
      rw [nr_rd hR l1 (by omega), nr_rd hR l2 (by omega), nI_add]
    have b1 := hT (nr_at p a i)
    have b2 := hT (nr_at i b x)
    have b3 := nr_mn_le T p a b x i
    refine br_f (nI_ge hi (by omega)) (xi_pl rfl rfl rfl (xi_pl rfl rfl rfl ⟨vp_in_nI l1 (by omega), vp_in_nI l2 (by omega), nm_r e ?_⟩))
    refine pk_le (nr_mn T p a b x i) (T (nr_at p a i) + T (nr_at i b x)) (fun z => nm_r (nI_1 i) (ih _ ?_)) (fun z => nm_r (nI_1 i) (ih _ ?_))
    · rw [nr_mn_s, if_neg (by omega)]
    · rw [nr_mn_s, if_pos (by omega)]
theorem xi_dn {post : Int32 → Prop} {T : Nat → Nat} {p q x : Nat} {P Q X : Int32} (hn : n ≤ 6) (hR : nr_R lc 108 T) (hT : ∀ b, T b ≤ 1000) (hp : p < 6) (hq : q < 13) (hx : x < 6) (eP : P = nI p) (eQ : Q = nI q) (eX : X = nI x) (h : post (nI (nr_dn n T p q x))) :
    wpX_denotingCost__leastCost post (nI n, bc, bg, ao, am, ap, aq, gg, gp, gq, go, lc, cw, oc) P Q X := by
  subst eP eQ eX
  refine pk_le 1 q (fun h1 => pk_le 4 q (fun h4 => ?_) (fun h4 => ?_)) (fun h1 => ?_)
  · rw [nr_dn_2 (by omega)] at h
    have e0 : nI q - 4 = nI (q - 4) := pk_sub h4
    have e1 : (nI q - 4) / 3 = nI ((q - 4) / 3) := by rw [e0]; exact pk_div (d := 3) (by omega) (by omega) (by omega)
    have e2 : (nI q - 4) - (nI q - 4) / 3 * 3 = nI ((q - 4) % 3) := by rw [e0]; exact pk_rem (d := 3) (by omega) (by omega) (by omega)
    exact ⟨by decide, nm_r e1 ⟨by decide, nm_r e2 (xi_d6 hn hR hT hp (by omega) (by omega) hx h)⟩⟩
  · rw [nr_dn_1 (by omega) (by omega)] at h
    have l1 : nr_at p (q - 1) x < 108 := nr_at_lt hp (by omega) hx
    refine xi_pl rfl (pk_sub h1) rfl ⟨vp_in_nI l1 (by omega), ?_⟩
    rw [nr_rd hR l1 (by omega)]
    exact h
  · rw [nr_dn_0 (by omega)] at h
    refine pk_eq p x (fun e => ?_) (fun e => ?_)
    · rw [if_pos e] at h; exact h
    · rw [if_neg e] at h; exact h
theorem xi_ap {post : Int32 → SX → Prop} {H : Nat → Bool} {T : Nat → Nat} {i : Nat} (hn : n ≤ 6) (ho : nr_ok ao 10 n) (hm : nr_ok am 10 3) (hp : nr_ok ap 10 n) (hq : nr_ok aq 10 13) (hi : i < 10) (hH : H i = true) (hT : ∀ b, T b ≤ 1000)
    (hR : nr_R lc 108 (nr_cs n H (nr_cz ao) (nr_cz am) (nr_cz ap) (nr_cz aq) T (6 * i)))
    (h : ∀ b t, (b = 0 ∨ b = 1) → nr_R t 108 (nr_cs n H (nr_cz ao) (nr_cz am) (nr_cz ap) (nr_cz aq) T (6 * (i + 1))) → (b = 0 → nr_cs n H (nr_cz ao) (nr_cz am) (nr_cz ap) (nr_cz aq) T (6 * (i + 1)) = nr_cs n H (nr_cz ao) (nr_cz am) (nr_cz ap) (nr_cz aq) T (6 * i)) → post b (nI n, bc, bg, ao, am, ap, aq, gg, gp, gq, go, t, cw, oc)) :
    wpX_applyCertificate__leastCost post (nI n, bc, bg, ao, am, ap, aq, gg, gp, gq, go, lc, cw, oc) (nI i) := by
  refine loop_0 (fun f x (s : Int32 × (Nat → Int32)) => wX_applyCertificate__leastCost_5 post (nI i) (nI n) bc bg f s.1 (nI x) ao am ap aq gg gp gq go s.2 cw oc) (fun x s => (s.1 = 0 ∨ s.1 = 1) ∧ nr_R s.2 108 (nr_cs n H (nr_cz ao) (nr_cz am) (nr_cz ap) (nr_cz aq) T (6 * i + x)) ∧ (s.1 = 0 → nr_cs n H (nr_cz ao) (nr_cz am) (nr_cz ap) (nr_cz aq) T (6 * i + x) = nr_cs n H (nr_cz ao) (nr_cz am) (nr_cz ap) (nr_cz aq) T (6 * i))) n (0, lc) ⟨Or.inl rfl, hR, fun _ => rfl⟩ ?_ ?_
  · rintro f ⟨b, t⟩ ⟨h1, h2, h3⟩
    dsimp only at h1 h2 h3
    rw [← nr_cs_e (i := i) hn] at h2 h3
    exact br_t (nI_le (Nat.le_refl _) (by omega)) ⟨nr_nb h1, h b t h1 h2 h3⟩
  · rintro f x ⟨b, t⟩ hx ⟨h1, h2, h3⟩ ih
    dsimp only at h1 h2 h3
    dsimp only
    have vi : vp_in (nI i) 10 := vp_in_nI hi (by omega)
    have la : nr_at (nr_cz ao i) (nr_cz am i) x < 108 := nr_at_lt (by have := (ho i hi).1; omega) (hm i hi).1 (by omega)
    have hT' := nr_cs_le n H (nr_cz ao) (nr_cz am) (nr_cz ap) (nr_cz aq) hT (6 * i + x)
    have es := nr_cs_t (o := nr_cz ao) (m := nr_cz am) (p := nr_cz ap) (q := nr_cz aq) (T := T) hn hx hH
    generalize hS : nr_cs n H (nr_cz ao) (nr_cz am) (nr_cz ap) (nr_cz aq) T (6 * i + x) = S at h2 h3 hT' es
    have bd := nr_dn_le hT' n (nr_cz ap i) (nr_cz aq i) x
    have bt := hT' (nr_at (nr_cz ao i) (nr_cz am i) x)
    refine br_f (nI_ge hx (by omega)) ⟨vi, vi, xi_dn hn h2 hT' (by have := (hp i hi).1; omega) (hq i hi).1 (by omega) (nr_ro hp hi (by omega)) (nr_ro hq hi (by omega)) rfl (nm_r (nI_add 1 _) ⟨vi, vi, xi_pl (nr_ro ho hi (by omega)) (nr_ro hm hi (by omega)) rfl ⟨vp_in_nI la (by omega), ?_⟩⟩)⟩
    rw [nr_rd h2 la (by omega)]
    refine pk_le (S (nr_at (nr_cz ao i) (nr_cz am i) x)) (1 + nr_dn n S (nr_cz ap i) (nr_cz aq i) x) (fun z => nm_r (nI_1 x) (ih (b, t) ?_)) (fun z => ⟨vp_in_nI la (by omega), nm_e (nm_r (nI_1 x) (ih (1, _) ?_))⟩)
    · have e2 := es.trans (nr_rx_no (by omega))
      refine ⟨h1, ?_, fun hb => ?_⟩
      · rw [e2]; exact h2
      · rw [e2]; exact h3 hb
    · refine ⟨Or.inr rfl, ?_, fun hb => absurd hb nr_10⟩
      rw [es, nI_clamp (by omega)]
      exact nr_R_u h2 z
theorem xi_r41 {post : SX → Prop} {J : Int32 → Int32 → Int32 → Int32 → Int32 → (Nat → Int32) → (Nat → Int32) → (Nat → Int32) → (Nat → Int32) → (Nat → Int32) → (Nat → Int32) → (Nat → Int32) → (Nat → Int32) → (Nat → Int32) → (Nat → Int32) → (Nat → Int32) → Prop} {B : Nat → Bool} {T : Nat → Nat} {r : Nat} (hn : n ≤ 6) (ho : nr_ok ao 10 n) (hm : nr_ok am 10 3) (hp : nr_ok ap 10 n) (hq : nr_ok aq 10 13) (hT : ∀ b, T b ≤ 1000) (hR : nr_R lc 108 T)
    (h : ∀ b t, (b = 0 ∨ b = 1) → nr_R t 108 (nr_cs n B (nr_cz ao) (nr_cz am) (nr_cz ap) (nr_cz aq) T 60) → (b = 0 → nr_cs n B (nr_cz ao) (nr_cz am) (nr_cz ap) (nr_cz aq) T 60 = T) → J b (nI (r + 1)) (nI n) bc bg ao am ap aq gg gp gq go t cw oc) :
    ∃ f, wX_resolve__leastCost_41 post J (nr_bi B 10) (nI r) f 0 0 (nI n) bc bg ao am ap aq gg gp gq go lc cw oc := by
  refine loop_0 (fun f i (s : Int32 × (Nat → Int32)) => wX_resolve__leastCost_41 post J (nr_bi B 10) (nI r) f s.1 (nI i) (nI n) bc bg ao am ap aq gg gp gq go s.2 cw oc) (fun i s => (s.1 = 0 ∨ s.1 = 1) ∧ nr_R s.2 108 (nr_cs n B (nr_cz ao) (nr_cz am) (nr_cz ap) (nr_cz aq) T (6 * i)) ∧ (s.1 = 0 → nr_cs n B (nr_cz ao) (nr_cz am) (nr_cz ap) (nr_cz aq) T (6 * i) = T)) 10 (0, lc) ⟨Or.inl rfl, hR, fun _ => rfl⟩ ?_ ?_
  · rintro f ⟨b, t⟩ ⟨h1, h2, h3⟩
    exact br_t (nI_le (b := 10) (Nat.le_refl _) (by omega)) (nm_r (nI_1 r) (h b t h1 h2 h3))
  · rintro f i ⟨b, t⟩ hi ⟨h1, h2, h3⟩ ih
    dsimp only at h1 h2 h3
    refine br_f (nI_ge (b := 10) hi (by omega)) (xi_hj (m := 10) (by omega) hi (fun hB => br_f (by decide) ?_) (fun hB => br_t rfl (nm_r (nI_1 i) (ih (b, t) ⟨h1, ?_, ?_⟩))))
    · refine xi_ap hn ho hm hp hq hi hB hT h2 (fun b' t' g1 g2 g3 => ?_)
      refine br_c (fun z => nm_r (nI_1 i) (ih (b, t') ⟨h1, g2, fun hb => ?_⟩)) (fun z => nm_r (nI_1 i) (ih (1, t') ⟨Or.inr rfl, g2, fun hb => absurd hb nr_10⟩))
      exact (g3 z).trans (h3 hb)
    · show nr_R t 108 _
      rw [nr_cs_f hB]; exact h2
    · intro hb
      rw [nr_cs_f hB]; exact h3 hb
theorem xi_r25 {post : SX → Prop} {B : Nat → Bool} (hn : n ≤ 6) (ho : nr_ok ao 10 n) (hm : nr_ok am 10 3) (hp : nr_ok ap 10 n) (hq : nr_ok aq 10 13) (hR : nr_R lc 108 (fun _ => 1000))
    (h : ∀ t, nr_R t 108 (nr_M n B (nr_cz ao) (nr_cz am) (nr_cz ap) (nr_cz aq)) → post (nI n, bc, bg, ao, am, ap, aq, gg, gp, gq, go, t, cw, oc)) :
    ∃ f, wX_resolve__leastCost_25 post (nr_bi B 10) f 1 0 (nI n) bc bg ao am ap aq gg gp gq go lc cw oc := by
  have ho6 : ∀ i, i < 10 → nr_cz ao i < 6 := fun i hi => by have := (ho i hi).1; omega
  have hm3 : ∀ i, i < 10 → nr_cz am i < 3 := fun i hi => (hm i hi).1
  refine loop_0 (fun f r (s : Int32 × (Nat → Int32)) => wX_resolve__leastCost_25 post (nr_bi B 10) f s.1 (nI r) (nI n) bc bg ao am ap aq gg gp gq go s.2 cw oc) (fun r s => (s.1 = 0 ∨ s.1 = 1) ∧ nr_R s.2 108 (nr_K n B (nr_cz ao) (nr_cz am) (nr_cz ap) (nr_cz aq) r) ∧ (s.1 = 0 → nr_cs n B (nr_cz ao) (nr_cz am) (nr_cz ap) (nr_cz aq) (nr_K n B (nr_cz ao) (nr_cz am) (nr_cz ap) (nr_cz aq) r) 60 = nr_K n B (nr_cz ao) (nr_cz am) (nr_cz ap) (nr_cz aq) r)) 108 (1, lc) ⟨Or.inr rfl, hR, fun z => absurd z nr_10⟩ ?_ ?_
  · rintro f ⟨b, t⟩ ⟨h1, h2, h3⟩
    exact br_t (nI_le (b := 108) (Nat.le_refl _) (by omega)) (h t h2)
  · rintro f r ⟨b, t⟩ hr ⟨h1, h2, h3⟩ ih
    dsimp only at h1 h2 h3
    refine br_f (nI_ge (b := 108) hr (by omega)) (br_c (fun z => h t ?_) (fun z => ?_))
    · rw [← nr_K_dn (h3 z) ho6 hm3]; exact h2
    · refine xi_r41 (r := r) hn ho hm hp hq (nr_K_le _ _ _ _ _ _ r) h2 (fun b' t' g1 g2 g3 => ih (b', t') ⟨g1, g2, fun hb => ?_⟩)
      rw [nr_K_s, g3 hb, g3 hb]
theorem xi_re {post : SX → Prop} {B : Nat → Bool} (hn : n ≤ 6) (ho : nr_ok ao 10 n) (hm : nr_ok am 10 3) (hp : nr_ok ap 10 n) (hq : nr_ok aq 10 13)
    (h : ∀ t, nr_R t 108 (nr_M n B (nr_cz ao) (nr_cz am) (nr_cz ap) (nr_cz aq)) → post (nI n, bc, bg, ao, am, ap, aq, gg, gp, gq, go, t, cw, oc)) :
    wpX_resolve__leastCost post (nI n, bc, bg, ao, am, ap, aq, gg, gp, gq, go, lc, cw, oc) (nr_bi B 10) := by
  refine loop_0 (fun f i s => wX_resolve__leastCost_2 post (nr_bi B 10) (nI n) bc bg f (nI i) ao am ap aq gg gp gq go s cw oc) (fun i s => nr_R s i (fun _ => 1000)) 108 lc nr_R_0 ?_ ?_
  · intro f s hI
    exact br_t (nI_le (b := 108) (Nat.le_refl _) (by omega)) (xi_r25 hn ho hm hp hq hI h)
  · intro f i s hi hI ih
    exact br_f (nI_ge (b := 108) hi (by omega)) ⟨vp_in_nI hi (by omega), nm_e (nm_r (nI_1 i) (ih _ (nr_R_s hI rfl (by omega))))⟩
theorem xi_d6w {post : Int32 → Prop} {T : Nat → Nat} {p x a b : Nat} (hn : n ≤ 6) (hR : nr_R cw 108 T) (hT : ∀ b, T b ≤ 1000) (hp : p < 6) (ha : a < 3) (hb : b < 3) (hx : x < 6) (h : post (nI (nr_mn T p a b x n))) :
    ∃ f, wX_denotingCost__costWithoutOne_62 post (nI p) (nI x) (nI a) (nI b) (nI n) bc bg ao am ap aq gg gp gq go lc cw oc f 1000 0 := by
  refine loop_0 (fun f i s => wX_denotingCost__costWithoutOne_62 post (nI p) (nI x) (nI a) (nI b) (nI n) bc bg ao am ap aq gg gp gq go lc cw oc f s (nI i)) (fun i s => s = nI (nr_mn T p a b x i)) n (nI 1000) rfl ?_ ?_
  · intro f s hI
    subst hI
    exact br_t (nI_le (Nat.le_refl _) (by omega)) h
  · intro f i s hi hI ih
    subst hI
    have l1 : nr_at p a i < 108 := nr_at_lt hp ha (by omega)
    have l2 : nr_at i b x < 108 := nr_at_lt (by omega) hb hx
    have e : cw (nI (nr_at p a i)).toNatClampNeg + cw (nI (nr_at i b x)).toNatClampNeg = nI (T (nr_at p a i) + T (nr_at i b x)) := by
      rw [nr_rd hR l1 (by omega), nr_rd hR l2 (by omega), nI_add]
    have b1 := hT (nr_at p a i)
    have b2 := hT (nr_at i b x)
    have b3 := nr_mn_le T p a b x i
    refine br_f (nI_ge hi (by omega)) (xi_pl rfl rfl rfl (xi_pl rfl rfl rfl ⟨vp_in_nI l1 (by omega), vp_in_nI l2 (by omega), nm_r e ?_⟩))
    refine pk_le (nr_mn T p a b x i) (T (nr_at p a i) + T (nr_at i b x)) (fun z => nm_r (nI_1 i) (ih _ ?_)) (fun z => nm_r (nI_1 i) (ih _ ?_))
    · rw [nr_mn_s, if_neg (by omega)]
    · rw [nr_mn_s, if_pos (by omega)]
theorem xi_dnw {post : Int32 → Prop} {T : Nat → Nat} {p q x : Nat} {P Q X : Int32} (hn : n ≤ 6) (hR : nr_R cw 108 T) (hT : ∀ b, T b ≤ 1000) (hp : p < 6) (hq : q < 13) (hx : x < 6) (eP : P = nI p) (eQ : Q = nI q) (eX : X = nI x) (h : post (nI (nr_dn n T p q x))) :
    wpX_denotingCost__costWithoutOne post (nI n, bc, bg, ao, am, ap, aq, gg, gp, gq, go, lc, cw, oc) P Q X := by
  subst eP eQ eX
  refine pk_le 1 q (fun h1 => pk_le 4 q (fun h4 => ?_) (fun h4 => ?_)) (fun h1 => ?_)
  · rw [nr_dn_2 (by omega)] at h
    have e0 : nI q - 4 = nI (q - 4) := pk_sub h4
    have e1 : (nI q - 4) / 3 = nI ((q - 4) / 3) := by rw [e0]; exact pk_div (d := 3) (by omega) (by omega) (by omega)
    have e2 : (nI q - 4) - (nI q - 4) / 3 * 3 = nI ((q - 4) % 3) := by rw [e0]; exact pk_rem (d := 3) (by omega) (by omega) (by omega)
    exact ⟨by decide, nm_r e1 ⟨by decide, nm_r e2 (xi_d6w hn hR hT hp (by omega) (by omega) hx h)⟩⟩
  · rw [nr_dn_1 (by omega) (by omega)] at h
    have l1 : nr_at p (q - 1) x < 108 := nr_at_lt hp (by omega) hx
    refine xi_pl rfl (pk_sub h1) rfl ⟨vp_in_nI l1 (by omega), ?_⟩
    rw [nr_rd hR l1 (by omega)]
    exact h
  · rw [nr_dn_0 (by omega)] at h
    refine pk_eq p x (fun e => ?_) (fun e => ?_)
    · rw [if_pos e] at h; exact h
    · rw [if_neg e] at h; exact h
theorem xi_apw {post : Int32 → SX → Prop} {H : Nat → Bool} {T : Nat → Nat} {i : Nat} (hn : n ≤ 6) (ho : nr_ok ao 10 n) (hm : nr_ok am 10 3) (hp : nr_ok ap 10 n) (hq : nr_ok aq 10 13) (hi : i < 10) (hH : H i = true) (hT : ∀ b, T b ≤ 1000)
    (hR : nr_R cw 108 (nr_cs n H (nr_cz ao) (nr_cz am) (nr_cz ap) (nr_cz aq) T (6 * i)))
    (h : ∀ b t, (b = 0 ∨ b = 1) → nr_R t 108 (nr_cs n H (nr_cz ao) (nr_cz am) (nr_cz ap) (nr_cz aq) T (6 * (i + 1))) → (b = 0 → nr_cs n H (nr_cz ao) (nr_cz am) (nr_cz ap) (nr_cz aq) T (6 * (i + 1)) = nr_cs n H (nr_cz ao) (nr_cz am) (nr_cz ap) (nr_cz aq) T (6 * i)) → post b (nI n, bc, bg, ao, am, ap, aq, gg, gp, gq, go, lc, t, oc)) :
    wpX_applyCertificate__costWithoutOne post (nI n, bc, bg, ao, am, ap, aq, gg, gp, gq, go, lc, cw, oc) (nI i) := by
  refine loop_0 (fun f x (s : Int32 × (Nat → Int32)) => wX_applyCertificate__costWithoutOne_5 post (nI i) (nI n) bc bg f s.1 (nI x) ao am ap aq gg gp gq go lc s.2 oc) (fun x s => (s.1 = 0 ∨ s.1 = 1) ∧ nr_R s.2 108 (nr_cs n H (nr_cz ao) (nr_cz am) (nr_cz ap) (nr_cz aq) T (6 * i + x)) ∧ (s.1 = 0 → nr_cs n H (nr_cz ao) (nr_cz am) (nr_cz ap) (nr_cz aq) T (6 * i + x) = nr_cs n H (nr_cz ao) (nr_cz am) (nr_cz ap) (nr_cz aq) T (6 * i))) n (0, cw) ⟨Or.inl rfl, hR, fun _ => rfl⟩ ?_ ?_
  · rintro f ⟨b, t⟩ ⟨h1, h2, h3⟩
    dsimp only at h1 h2 h3
    rw [← nr_cs_e (i := i) hn] at h2 h3
    exact br_t (nI_le (Nat.le_refl _) (by omega)) ⟨nr_nb h1, h b t h1 h2 h3⟩
  · rintro f x ⟨b, t⟩ hx ⟨h1, h2, h3⟩ ih
    dsimp only at h1 h2 h3
    dsimp only
    have vi : vp_in (nI i) 10 := vp_in_nI hi (by omega)
    have la : nr_at (nr_cz ao i) (nr_cz am i) x < 108 := nr_at_lt (by have := (ho i hi).1; omega) (hm i hi).1 (by omega)
    have hT' := nr_cs_le n H (nr_cz ao) (nr_cz am) (nr_cz ap) (nr_cz aq) hT (6 * i + x)
    have es := nr_cs_t (o := nr_cz ao) (m := nr_cz am) (p := nr_cz ap) (q := nr_cz aq) (T := T) hn hx hH
    generalize hS : nr_cs n H (nr_cz ao) (nr_cz am) (nr_cz ap) (nr_cz aq) T (6 * i + x) = S at h2 h3 hT' es
    have bd := nr_dn_le hT' n (nr_cz ap i) (nr_cz aq i) x
    have bt := hT' (nr_at (nr_cz ao i) (nr_cz am i) x)
    refine br_f (nI_ge hx (by omega)) ⟨vi, vi, xi_dnw hn h2 hT' (by have := (hp i hi).1; omega) (hq i hi).1 (by omega) (nr_ro hp hi (by omega)) (nr_ro hq hi (by omega)) rfl (nm_r (nI_add 1 _) ⟨vi, vi, xi_pl (nr_ro ho hi (by omega)) (nr_ro hm hi (by omega)) rfl ⟨vp_in_nI la (by omega), ?_⟩⟩)⟩
    rw [nr_rd h2 la (by omega)]
    refine pk_le (S (nr_at (nr_cz ao i) (nr_cz am i) x)) (1 + nr_dn n S (nr_cz ap i) (nr_cz aq i) x) (fun z => nm_r (nI_1 x) (ih (b, t) ?_)) (fun z => ⟨vp_in_nI la (by omega), nm_e (nm_r (nI_1 x) (ih (1, _) ?_))⟩)
    · have e2 := es.trans (nr_rx_no (by omega))
      refine ⟨h1, ?_, fun hb => ?_⟩
      · rw [e2]; exact h2
      · rw [e2]; exact h3 hb
    · refine ⟨Or.inr rfl, ?_, fun hb => absurd hb nr_10⟩
      rw [es, nI_clamp (by omega)]
      exact nr_R_u h2 z
theorem xi_r41w {post : SX → Prop} {J : Int32 → Int32 → Int32 → Int32 → Int32 → (Nat → Int32) → (Nat → Int32) → (Nat → Int32) → (Nat → Int32) → (Nat → Int32) → (Nat → Int32) → (Nat → Int32) → (Nat → Int32) → (Nat → Int32) → (Nat → Int32) → (Nat → Int32) → Prop} {B : Nat → Bool} {T : Nat → Nat} {r : Nat} (hn : n ≤ 6) (ho : nr_ok ao 10 n) (hm : nr_ok am 10 3) (hp : nr_ok ap 10 n) (hq : nr_ok aq 10 13) (hT : ∀ b, T b ≤ 1000) (hR : nr_R cw 108 T)
    (h : ∀ b t, (b = 0 ∨ b = 1) → nr_R t 108 (nr_cs n B (nr_cz ao) (nr_cz am) (nr_cz ap) (nr_cz aq) T 60) → (b = 0 → nr_cs n B (nr_cz ao) (nr_cz am) (nr_cz ap) (nr_cz aq) T 60 = T) → J b (nI (r + 1)) (nI n) bc bg ao am ap aq gg gp gq go lc t oc) :
    ∃ f, wX_resolve__costWithoutOne_41 post J (nr_bi B 10) (nI r) f 0 0 (nI n) bc bg ao am ap aq gg gp gq go lc cw oc := by
  refine loop_0 (fun f i (s : Int32 × (Nat → Int32)) => wX_resolve__costWithoutOne_41 post J (nr_bi B 10) (nI r) f s.1 (nI i) (nI n) bc bg ao am ap aq gg gp gq go lc s.2 oc) (fun i s => (s.1 = 0 ∨ s.1 = 1) ∧ nr_R s.2 108 (nr_cs n B (nr_cz ao) (nr_cz am) (nr_cz ap) (nr_cz aq) T (6 * i)) ∧ (s.1 = 0 → nr_cs n B (nr_cz ao) (nr_cz am) (nr_cz ap) (nr_cz aq) T (6 * i) = T)) 10 (0, cw) ⟨Or.inl rfl, hR, fun _ => rfl⟩ ?_ ?_
  · rintro f ⟨b, t⟩ ⟨h1, h2, h3⟩
    exact br_t (nI_le (b := 10) (Nat.le_refl _) (by omega)) (nm_r (nI_1 r) (h b t h1 h2 h3))
  · rintro f i ⟨b, t⟩ hi ⟨h1, h2, h3⟩ ih
    dsimp only at h1 h2 h3
    refine br_f (nI_ge (b := 10) hi (by omega)) (xi_hj (m := 10) (by omega) hi (fun hB => br_f (by decide) ?_) (fun hB => br_t rfl (nm_r (nI_1 i) (ih (b, t) ⟨h1, ?_, ?_⟩))))
    · refine xi_apw hn ho hm hp hq hi hB hT h2 (fun b' t' g1 g2 g3 => ?_)
      refine br_c (fun z => nm_r (nI_1 i) (ih (b, t') ⟨h1, g2, fun hb => ?_⟩)) (fun z => nm_r (nI_1 i) (ih (1, t') ⟨Or.inr rfl, g2, fun hb => absurd hb nr_10⟩))
      exact (g3 z).trans (h3 hb)
    · show nr_R t 108 _
      rw [nr_cs_f hB]; exact h2
    · intro hb
      rw [nr_cs_f hB]; exact h3 hb
theorem xi_r25w {post : SX → Prop} {B : Nat → Bool} (hn : n ≤ 6) (ho : nr_ok ao 10 n) (hm : nr_ok am 10 3) (hp : nr_ok ap 10 n) (hq : nr_ok aq 10 13) (hR : nr_R cw 108 (fun _ => 1000))
    (h : ∀ t, nr_R t 108 (nr_M n B (nr_cz ao) (nr_cz am) (nr_cz ap) (nr_cz aq)) → post (nI n, bc, bg, ao, am, ap, aq, gg, gp, gq, go, lc, t, oc)) :
    ∃ f, wX_resolve__costWithoutOne_25 post (nr_bi B 10) f 1 0 (nI n) bc bg ao am ap aq gg gp gq go lc cw oc := by
  have ho6 : ∀ i, i < 10 → nr_cz ao i < 6 := fun i hi => by have := (ho i hi).1; omega
  have hm3 : ∀ i, i < 10 → nr_cz am i < 3 := fun i hi => (hm i hi).1
  refine loop_0 (fun f r (s : Int32 × (Nat → Int32)) => wX_resolve__costWithoutOne_25 post (nr_bi B 10) f s.1 (nI r) (nI n) bc bg ao am ap aq gg gp gq go lc s.2 oc) (fun r s => (s.1 = 0 ∨ s.1 = 1) ∧ nr_R s.2 108 (nr_K n B (nr_cz ao) (nr_cz am) (nr_cz ap) (nr_cz aq) r) ∧ (s.1 = 0 → nr_cs n B (nr_cz ao) (nr_cz am) (nr_cz ap) (nr_cz aq) (nr_K n B (nr_cz ao) (nr_cz am) (nr_cz ap) (nr_cz aq) r) 60 = nr_K n B (nr_cz ao) (nr_cz am) (nr_cz ap) (nr_cz aq) r)) 108 (1, cw) ⟨Or.inr rfl, hR, fun z => absurd z nr_10⟩ ?_ ?_
  · rintro f ⟨b, t⟩ ⟨h1, h2, h3⟩
    exact br_t (nI_le (b := 108) (Nat.le_refl _) (by omega)) (h t h2)
  · rintro f r ⟨b, t⟩ hr ⟨h1, h2, h3⟩ ih
    dsimp only at h1 h2 h3
    refine br_f (nI_ge (b := 108) hr (by omega)) (br_c (fun z => h t ?_) (fun z => ?_))
    · rw [← nr_K_dn (h3 z) ho6 hm3]; exact h2
    · refine xi_r41w (r := r) hn ho hm hp hq (nr_K_le _ _ _ _ _ _ r) h2 (fun b' t' g1 g2 g3 => ih (b', t') ⟨g1, g2, fun hb => ?_⟩)
      rw [nr_K_s, g3 hb, g3 hb]
theorem xi_rew {post : SX → Prop} {B : Nat → Bool} (hn : n ≤ 6) (ho : nr_ok ao 10 n) (hm : nr_ok am 10 3) (hp : nr_ok ap 10 n) (hq : nr_ok aq 10 13)
    (h : ∀ t, nr_R t 108 (nr_M n B (nr_cz ao) (nr_cz am) (nr_cz ap) (nr_cz aq)) → post (nI n, bc, bg, ao, am, ap, aq, gg, gp, gq, go, lc, t, oc)) :
    wpX_resolve__costWithoutOne post (nI n, bc, bg, ao, am, ap, aq, gg, gp, gq, go, lc, cw, oc) (nr_bi B 10) := by
  refine loop_0 (fun f i s => wX_resolve__costWithoutOne_2 post (nr_bi B 10) (nI n) bc bg f (nI i) ao am ap aq gg gp gq go lc s oc) (fun i s => nr_R s i (fun _ => 1000)) 108 cw nr_R_0 ?_ ?_
  · intro f s hI
    exact br_t (nI_le (b := 108) (Nat.le_refl _) (by omega)) (xi_r25w hn ho hm hp hq hI h)
  · intro f i s hi hI ih
    exact br_f (nI_ge (b := 108) hi (by omega)) ⟨vp_in_nI hi (by omega), nm_e (nm_r (nI_1 i) (ih _ (nr_R_s hI rfl (by omega))))⟩
end
end
section
theorem nr_R_same {a : Nat → Int32} {k : Nat} {T : Nat → Nat} {i : Nat} (h : nr_R a k T) : nr_R (upd a i (a i)) k T := by
  intro j hj
  by_cases e : j = i
  · rw [e, pk_us]; rw [← e]; exact h j hj
  · rw [pk_un e]; exact h j hj
def nr_Q (n : Nat) (B : Nat → Bool) (ao am ap aq : Nat → Int32) (M : Nat → Nat) (K N C : Int32) (x i : Nat) : Prop :=
  B i = true ∧ ao i = K ∧ am i = N ∧ nI (nr_dn n M (nr_cz ap i) (nr_cz aq i) x) = C - 1
section
variable {bc bg : Int32} {ao am ap aq gg gp gq go lc cw oc : Nat → Int32} {n : Nat}
theorem xi_ct {post : Int32 → Prop} {M S : Nat → Nat} {g x : Nat} (hn : n ≤ 6) (hg : nr_ok gg 6 n) (hp : nr_ok gp 6 n) (hq : nr_ok gq 6 13) (hM : nr_R lc 108 M) (hM1 : ∀ b, M b ≤ 1000) (hS : nr_R oc 6 S) (hi : g < 6) (hx : x < 6) (h : post (nI (S (nr_cz gg g) + 1 + nr_dn n M (nr_cz gp g) (nr_cz gq g) x))) : wpX_costThroughGrant post (nI n, bc, bg, ao, am, ap, aq, gg, gp, gq, go, lc, cw, oc) (nI g) (nI x) := by
  have vi : vp_in (nI g) 6 := vp_in_nI hi (by omega)
  have lg : nr_cz gg g < 6 := by have := (hg g hi).1; omega
  refine ⟨vi, nm_r (nr_ro hg hi (by omega)) ⟨vp_in_nI lg (by omega), vi, vi, xi_dn hn hM hM1 (by have := (hp g hi).1; omega) (hq g hi).1 hx (nr_ro hp hi (by omega)) (nr_ro hq hi (by omega)) rfl ?_⟩⟩
  rw [nr_rd hS lg (by omega), nI_1, nI_add]
  exact h
theorem xi_f80 {post : SX → Prop} {J32 J42 : Int32 → (Nat → Int32) → (Nat → Int32) → (Nat → Int32) → (Nat → Int32) → (Nat → Int32) → (Nat → Int32) → (Nat → Int32) → (Nat → Int32) → (Nat → Int32) → (Nat → Int32) → (Nat → Int32) → Prop} {G : Nat → Bool} {M S : Nat → Nat} {r g : Nat} (hn : n ≤ 6) (hg : nr_ok gg 6 n) (hp : nr_ok gp 6 n) (hq : nr_ok gq 6 13) (hM : nr_R lc 108 M) (hM1 : ∀ b, M b ≤ 1000) (hi : g < 6) (hG : G g = true) (hO : nr_hb go g = true) (hS : ∀ b, S b ≤ 1000) (hR : nr_R oc 6 (nr_gs n G (nr_hb go) M (nr_cz gg) (nr_cz gp) (nr_cz gq) S (6 * g)))
    (h : ∀ t, nr_R t 6 (nr_gs n G (nr_hb go) M (nr_cz gg) (nr_cz gp) (nr_cz gq) S (6 * (g + 1))) → J42 (nI (g + 1)) ao am ap aq gg gp gq go lc cw t) :
    ∃ f, wX_followOpenGrants_80 post J32 J42 (nI r) (nI g) 1 (nI n) bc bg f 0 ao am ap aq gg gp gq go lc cw oc := by
  refine loop_0 (fun f x s => wX_followOpenGrants_80 post J32 J42 (nI r) (nI g) 1 (nI n) bc bg f (nI x) ao am ap aq gg gp gq go lc cw s) (fun x s => nr_R s 6 (nr_gs n G (nr_hb go) M (nr_cz gg) (nr_cz gp) (nr_cz gq) S (6 * g + x))) n oc hR ?_ ?_
  · intro f s hI
    rw [← nr_gs_e (i := g) hn] at hI
    exact br_t (nI_le (Nat.le_refl _) (by omega)) (nm_r (nI_1 g) (h s hI))
  · intro f x s hx hI ih
    have vx : vp_in (nI x) 6 := vp_in_nI (by omega) (by omega)
    have hS' := nr_gs_le n G (nr_hb go) M (nr_cz gg) (nr_cz gp) (nr_cz gq) hS (6 * g + x)
    have es := nr_gs_t (M := M) (g := nr_cz gg) (p := nr_cz gp) (q := nr_cz gq) (S := S) hn hx hG hO
    generalize hE : nr_gs n G (nr_hb go) M (nr_cz gg) (nr_cz gp) (nr_cz gq) S (6 * g + x) = E at hI hS' es
    have b1 := hS' x
    have b2 := hS' (nr_cz gg g)
    have b3 := nr_dn_le hM1 n (nr_cz gp g) (nr_cz gq g) x
    refine br_f (nI_ge hx (by omega)) (br_f nr_10 (xi_ct hn hg hp hq hM hM1 hI hi (by omega) ⟨vx, ?_⟩))
    refine pk_le (E x) (E (nr_cz gg g) + 1 + nr_dn n M (nr_cz gp g) (nr_cz gq g) x) (fun z => ⟨vx, vx, nm_e (nm_r (nI_1 x) (ih _ ?_))⟩) (fun z => ⟨vx, nm_e (nm_r (nI_1 x) (ih _ ?_))⟩) (nr_rd hI (by omega) (by omega))
    · rw [es, nr_rx_no (by omega)]
      exact nr_R_same hI
    · rw [es, nI_clamp (by omega)]
      exact nr_R_u hI z
theorem xi_f42 {post : SX → Prop} {J : Int32 → (Nat → Int32) → (Nat → Int32) → (Nat → Int32) → (Nat → Int32) → (Nat → Int32) → (Nat → Int32) → (Nat → Int32) → (Nat → Int32) → (Nat → Int32) → (Nat → Int32) → (Nat → Int32) → Prop} {G : Nat → Bool} {M S : Nat → Nat} {r : Nat} (hn : n ≤ 6) (hg : nr_ok gg 6 n) (hp : nr_ok gp 6 n) (hq : nr_ok gq 6 13) (hM : nr_R lc 108 M) (hM1 : ∀ b, M b ≤ 1000) (hS : ∀ b, S b ≤ 1000) (hR : nr_R oc 6 S)
    (h : ∀ t, nr_R t 6 (nr_gs n G (nr_hb go) M (nr_cz gg) (nr_cz gp) (nr_cz gq) S 36) → J (nI (r + 1)) ao am ap aq gg gp gq go lc cw t) :
    ∃ f, wX_followOpenGrants_42 post J (nI r) (nI n) bc (nr_bi G 6) f 0 ao am ap aq gg gp gq go lc cw oc := by
  refine loop_0 (fun f i s => wX_followOpenGrants_42 post J (nI r) (nI n) bc (nr_bi G 6) f (nI i) ao am ap aq gg gp gq go lc cw s) (fun i s => nr_R s 6 (nr_gs n G (nr_hb go) M (nr_cz gg) (nr_cz gp) (nr_cz gq) S (6 * i))) 6 oc hR ?_ ?_
  · intro f s hI
    exact br_t (nI_le (b := 6) (Nat.le_refl _) (by omega)) (nm_r (nI_1 r) (h s hI))
  · intro f i s hi hI ih
    have ec : (nI i).toNatClampNeg = i := nI_clamp (by omega)
    have z0 : (G i = true → ¬ nr_hb go i = true) → ∃ n80, wX_followOpenGrants_80 post J (wX_followOpenGrants_42 post J (nI r) (nI n) bc (nr_bi G 6) f) (nI r) (nI i) 0 (nI n) bc (nr_bi G 6) n80 0 ao am ap aq gg gp gq go lc cw s := by
      intro hz
      have hI' : nr_R s 6 (nr_gs n G (nr_hb go) M (nr_cz gg) (nr_cz gp) (nr_cz gq) S (6 * (i + 1))) := by rw [nr_gs_f hz]; exact hI
      exact ⟨1, br_c (fun _ => nm_r (nI_1 i) (ih s hI')) (fun _ => br_t rfl (nm_r (nI_1 i) (ih s hI')))⟩
    refine br_f (nI_ge (b := 6) hi (by omega)) (xi_hj (m := 6) (by omega) hi (fun hB => br_f nr_10 ⟨vp_in_nI hi (by omega), br_c (fun z => z0 (fun _ w => ?_)) (fun z => ?_)⟩) (fun hB => br_t rfl (z0 (fun w => absurd w hB))))
    · rw [ec] at z
      exact (nr_hb_t.mp w) z
    · rw [ec] at z
      exact xi_f80 hn hg hp hq hM hM1 hi hB (nr_hb_t.mpr z) hS hI ih
theorem xi_f32 {post : SX → Prop} {G : Nat → Bool} {M : Nat → Nat} {k : Nat} (hn : n ≤ 6) (hg : nr_ok gg 6 n) (hp : nr_ok gp 6 n) (hq : nr_ok gq 6 13) (hM : nr_R lc 108 M) (hM1 : ∀ b, M b ≤ 1000) (hn1 : 1 ≤ n) (hR : nr_R oc 6 (nr_n0 k))
    (h : ∀ t, nr_R t 6 (nr_N n G (nr_hb go) M (nr_cz gg) (nr_cz gp) (nr_cz gq) k (n - 1)) → post (nI n, bc, nr_bi G 6, ao, am, ap, aq, gg, gp, gq, go, lc, cw, t)) :
    ∃ f, wX_followOpenGrants_32 post (nI n) bc (nr_bi G 6) f 1 ao am ap aq gg gp gq go lc cw oc := by
  refine ⟨n + 1, loop_i (fun f r s => wX_followOpenGrants_32 post (nI n) bc (nr_bi G 6) f (nI r) ao am ap aq gg gp gq go lc cw s) (fun r s => 1 ≤ r ∧ nr_R s 6 (nr_N n G (nr_hb go) M (nr_cz gg) (nr_cz gp) (nr_cz gq) k (r - 1))) n ?_ ?_ (n + 1) 1 oc (by omega) (by omega) ⟨Nat.le_refl _, hR⟩⟩
  · intro f s hI
    exact br_t (nI_le (Nat.le_refl _) (by omega)) (h s hI.2)
  · intro f r s hr hI ih
    obtain ⟨r', rfl⟩ : ∃ r', r = r' + 1 := ⟨r - 1, by omega⟩
    exact br_f (nI_ge hr (by omega)) (xi_f42 hn hg hp hq hM hM1 (nr_N_le _ _ _ _ _ _ _ k r') hI.2 (fun t ht => ih t ⟨by omega, ht⟩))
theorem xi_fo {post : SX → Prop} {G : Nat → Bool} {M : Nat → Nat} {k : Nat} (hn : n ≤ 6) (hg : nr_ok gg 6 n) (hp : nr_ok gp 6 n) (hq : nr_ok gq 6 13) (hM : nr_R lc 108 M) (hM1 : ∀ b, M b ≤ 1000) (hn1 : 1 ≤ n) (hk : k < 6)
    (h : ∀ t, nr_R t 6 (nr_N n G (nr_hb go) M (nr_cz gg) (nr_cz gp) (nr_cz gq) k (n - 1)) → post (nI n, bc, nr_bi G 6, ao, am, ap, aq, gg, gp, gq, go, lc, cw, t)) :
    wpX_followOpenGrants post (nI n, bc, nr_bi G 6, ao, am, ap, aq, gg, gp, gq, go, lc, cw, oc) (nI k) := by
  refine loop_0 (fun f i s => wX_followOpenGrants_2 post (nI k) (nI n) bc (nr_bi G 6) f (nI i) ao am ap aq gg gp gq go lc cw s) (fun i s => nr_R s i (fun _ => 1000)) 6 oc nr_R_0 ?_ ?_
  · intro f s hI
    refine br_t (nI_le (b := 6) (Nat.le_refl _) (by omega)) ⟨vp_in_nI hk (by omega), nm_e (xi_f32 hn hg hp hq hM hM1 hn1 ?_ h)⟩
    intro j hj
    rw [nI_clamp (by omega)]
    unfold nr_n0
    by_cases e : j = k
    · rw [if_pos e, e, pk_us]; exact nI_0.symm
    · rw [if_neg e, pk_un e]; exact hI j hj
  · intro f i s hi hI ih
    exact br_f (nI_ge (b := 6) hi (by omega)) ⟨vp_in_nI hi (by omega), nm_e (nm_r (nI_1 i) (ih _ (nr_R_s hI rfl (by omega))))⟩
theorem xi_la {post : Int32 → Prop} {G : Nat → Bool} {M S : Nat → Nat} {x : Nat} (hn : n ≤ 6) (hg : nr_ok gg 6 n) (hp : nr_ok gp 6 n) (hq : nr_ok gq 6 13) (hM : nr_R lc 108 M) (hM1 : ∀ b, M b ≤ 1000) (hS : nr_R oc 6 S) (hS1 : ∀ b, S b ≤ 1000) (hx : x < 6) (h : post (nI (nr_la n G M (nr_cz gg) (nr_cz gp) (nr_cz gq) S x 6))) :
    wpX_costOfLastGrant post (nI n, bc, nr_bi G 6, ao, am, ap, aq, gg, gp, gq, go, lc, cw, oc) (nI x) := by
  refine loop_0 (fun f i s => wX_costOfLastGrant_6 post (nI x) (nI n) bc (nr_bi G 6) ao am ap aq gg gp gq go lc cw oc f s (nI i)) (fun i s => s = nI (nr_la n G M (nr_cz gg) (nr_cz gp) (nr_cz gq) S x i)) 6 (nI 1000) rfl ?_ ?_
  · intro f s hI
    subst hI
    exact br_t (nI_le (b := 6) (Nat.le_refl _) (by omega)) h
  · intro f i s hi hI ih
    subst hI
    have b1 := hS1 (nr_cz gg i)
    have b2 := nr_dn_le hM1 n (nr_cz gp i) (nr_cz gq i) x
    have b3 := nr_la_le n G M (nr_cz gg) (nr_cz gp) (nr_cz gq) S x i
    refine br_f (nI_ge (b := 6) hi (by omega)) (xi_hj (m := 6) (by omega) hi (fun hB => br_f nr_10 (xi_ct hn hg hp hq hM hM1 hS hi hx ?_)) (fun hB => br_t rfl (nm_r (nI_1 i) (ih _ ?_))))
    · refine pk_le (nr_la n G M (nr_cz gg) (nr_cz gp) (nr_cz gq) S x i) (S (nr_cz gg i) + 1 + nr_dn n M (nr_cz gp i) (nr_cz gq i) x) (fun z => nm_r (nI_1 i) (ih _ ?_)) (fun z => nm_r (nI_1 i) (ih _ ?_))
      · rw [nr_la_t hB, if_neg (by omega)]
      · rw [nr_la_t hB, if_pos (by omega)]
    · rw [nr_la_f hB]
theorem xi_t19 {post : Int32 → SX → Prop} {G : Nat → Bool} {M S : Nat → Nat} (hn : n ≤ 6) (hg : nr_ok gg 6 n) (hp : nr_ok gp 6 n) (hq : nr_ok gq 6 13) (hM : nr_R lc 108 M) (hM1 : ∀ b, M b ≤ 1000) (hS : nr_R oc 6 S) (hS1 : ∀ b, S b ≤ 1000) (h : post (nr_bi (fun x => decide (nr_la n G M (nr_cz gg) (nr_cz gp) (nr_cz gq) S x 6 < 1000)) n) (nI n, bc, nr_bi G 6, ao, am, ap, aq, gg, gp, gq, go, lc, cw, oc)) :
    ∃ f, wX_trusted_19 post (nI n) bc (nr_bi G 6) ao am ap aq gg gp gq go lc cw oc f 0 0 := by
  refine loop_0 (fun f i s => wX_trusted_19 post (nI n) bc (nr_bi G 6) ao am ap aq gg gp gq go lc cw oc f s (nI i)) (fun i s => s = nr_bi (fun x => decide (nr_la n G M (nr_cz gg) (nr_cz gp) (nr_cz gq) S x 6 < 1000)) i) n 0 rfl ?_ ?_
  · intro f s hI
    subst hI
    exact br_t (nI_le (Nat.le_refl _) (by omega)) h
  · intro f i s hi hI ih
    subst hI
    have b3 := nr_la_le n G M (nr_cz gg) (nr_cz gp) (nr_cz gq) S i 6
    refine br_f (nI_ge hi (by omega)) (xi_la hn hg hp hq hM hM1 hS hS1 (by omega) ?_)
    refine pk_le 1000 (nr_la n G M (nr_cz gg) (nr_cz gp) (nr_cz gq) S i 6) (fun z => nm_r (nI_1 i) (ih _ ?_)) (fun z => nm_e (nm_r (nI_1 i) (ih _ ?_)))
    · exact (nr_bi_f (fun w => absurd (of_decide_eq_true w) (by omega))).symm
    · exact (nr_bi_t (decide_eq_true z)).symm
theorem xi_m22 {post : Int32 → Prop} {M : Nat → Nat} {k m : Nat} (hn : n ≤ 6) (hM : nr_R lc 108 M) (hM1 : ∀ b, M b ≤ 1000) (hk : k < 6) (hm : m < 3) (h : post (nr_bi (fun x => decide (M (nr_at k m x) < 1000)) n)) :
    ∃ f, wX_members_22 post (nI k) (nI m) (nI n) bc bg ao am ap aq gg gp gq go lc cw oc f 0 0 := by
  refine loop_0 (fun f i s => wX_members_22 post (nI k) (nI m) (nI n) bc bg ao am ap aq gg gp gq go lc cw oc f s (nI i)) (fun i s => s = nr_bi (fun x => decide (M (nr_at k m x) < 1000)) i) n 0 rfl ?_ ?_
  · intro f s hI
    subst hI
    exact br_t (nI_le (Nat.le_refl _) (by omega)) h
  · intro f i s hi hI ih
    subst hI
    have la : nr_at k m i < 108 := nr_at_lt hk hm (by omega)
    have b3 := hM1 (nr_at k m i)
    refine br_f (nI_ge hi (by omega)) (xi_pl rfl rfl rfl ⟨vp_in_nI la (by omega), ?_⟩)
    refine pk_le 1000 (M (nr_at k m i)) (fun z => nm_r (nI_1 i) (ih _ ?_)) (fun z => nm_e (nm_r (nI_1 i) (ih _ ?_))) rfl (nr_rd hM la (by omega))
    · exact (nr_bi_f (fun w => absurd (of_decide_eq_true w) (by omega))).symm
    · exact (nr_bi_t (decide_eq_true z)).symm
theorem xi_w20 {post : Int32 → Prop} {B : Nat → Bool} {M : Nat → Nat} {K N C : Int32} {x : Nat} (hn : n ≤ 6) (hp : nr_ok ap 10 n) (hq : nr_ok aq 10 13) (hM : nr_R lc 108 M) (hM1 : ∀ b, M b ≤ 1000) (hx : x < 6)
    (hf : ∀ i, i < 10 → nr_Q n B ao am ap aq M K N C x i → (∀ j, j < i → ¬ nr_Q n B ao am ap aq M K N C x j) → post (nI i)) (hF : (∀ j, j < 10 → ¬ nr_Q n B ao am ap aq M K N C x j) → post (-1)) :
    ∃ f, wX_witness_20 post K N (nI x) C (nI n) (nr_bi B 10) bg ao am ap aq gg gp gq go lc cw oc f 0 := by
  refine loop_0 (fun f i (_ : Unit) => wX_witness_20 post K N (nI x) C (nI n) (nr_bi B 10) bg ao am ap aq gg gp gq go lc cw oc f (nI i)) (fun i _ => ∀ j, j < i → ¬ nr_Q n B ao am ap aq M K N C x j) 10 () lt_0 ?_ ?_
  · intro f s hI
    exact br_t (nI_le (b := 10) (Nat.le_refl _) (by omega)) (hF hI)
  · intro f i s hi hI ih
    have vi : vp_in (nI i) 10 := vp_in_nI hi (by omega)
    have ec : (nI i).toNatClampNeg = i := nI_clamp (by omega)
    have go1 : ¬ nr_Q n B ao am ap aq M K N C x i → ∀ y, y = nI i + 1 → wX_witness_20 post K N (nI x) C (nI n) (nr_bi B 10) bg ao am ap aq gg gp gq go lc cw oc f y := fun z => nm_r (nI_1 i) (ih () (lt_s hI z))
    refine br_f (nI_ge (b := 10) hi (by omega)) (xi_hj (m := 10) (by omega) hi (fun hB => br_f nr_10 ⟨vi, br_c (fun z1 => ⟨vi, br_c (fun z2 => ⟨vi, vi, xi_dn hn hM hM1 (by have := (hp i hi).1; omega) (hq i hi).1 hx (nr_ro hp hi (by omega)) (nr_ro hq hi (by omega)) rfl (br_c (fun z3 => ?_) (fun z3 => ?_))⟩) (fun z2 => ?_)⟩) (fun z1 => ?_)⟩) (fun hB => br_t rfl ?_))
    · rw [ec] at z1 z2
      exact hf i hi ⟨hB, z1, z2, z3⟩ hI
    · exact go1 (fun w => z3 w.2.2.2)
    · exact go1 (fun w => z2 (by rw [ec]; exact w.2.2.1))
    · exact go1 (fun w => z1 (by rw [ec]; exact w.2.1))
    · exact go1 (fun w => hB w.1)
theorem xi_m35 {post : Int32 → SX → Prop} {T1 T2 : Nat → Nat} (h1 : nr_R lc 108 T1) (h2 : nr_R cw 108 T2) (l1 : ∀ b, T1 b ≤ 1000) (l2 : ∀ b, T2 b ≤ 1000)
    (hy : (∃ a, a < 108 ∧ T1 a < 1000 ∧ ¬ T2 a < 1000) → post 1 (nI n, bc, bg, ao, am, ap, aq, gg, gp, gq, go, lc, cw, oc)) (hz : ¬ (∃ a, a < 108 ∧ T1 a < 1000 ∧ ¬ T2 a < 1000) → post 0 (nI n, bc, bg, ao, am, ap, aq, gg, gp, gq, go, lc, cw, oc)) :
    ∃ f, wX_matters_35 post (nI n) bc bg ao am ap aq gg gp gq go lc cw oc f 0 := by
  refine loop_0 (fun f i (_ : Unit) => wX_matters_35 post (nI n) bc bg ao am ap aq gg gp gq go lc cw oc f (nI i)) (fun i _ => ∀ j, j < i → ¬ (T1 j < 1000 ∧ ¬ T2 j < 1000)) 108 () lt_0 ?_ ?_
  · intro f s hI
    exact br_t (nI_le (b := 108) (Nat.le_refl _) (by omega)) (hz (fun ⟨a, ha, z⟩ => hI a ha z))
  · intro f i s hi hI ih
    have vi : vp_in (nI i) 108 := vp_in_nI hi (by omega)
    have b1 := l1 i
    have b2 := l2 i
    refine br_f (nI_ge (b := 108) hi (by omega)) ⟨vi, pk_le 1000 (T1 i) (fun z => nm_r (nI_1 i) (ih () (lt_s hI (fun w => ?_)))) (fun z => ⟨vi, pk_eq (T2 i) 1000 (fun z2 => hy ⟨i, hi, z, by omega⟩) (fun z2 => nm_r (nI_1 i) (ih () (lt_s hI (fun w => ?_)))) (nr_rd h2 hi (by omega))⟩) rfl (nr_rd h1 hi (by omega))⟩
    · omega
    · omega
end
end
section
theorem nr_v0 : vp_nar .boolean 0 = 0 := by decide
theorem nr_v1 : vp_nar .boolean 1 = 1 := by decide
def nr_fo (c : Nat) : Int32 := if c < 1000 then nI c else -1
theorem nr_fo_t {c : Nat} (h : c < 1000) : nr_fo c = nI c := by unfold nr_fo; rw [if_pos h]
theorem nr_fo_f {c : Nat} (h : ¬ c < 1000) : nr_fo c = -1 := by unfold nr_fo; rw [if_neg h]
theorem nr_m1 : (-1 : Int32) < 0 := by decide
theorem nr_pl1 {p q x : Nat} (h : 1 ≤ q) : (((nI p * 3 + nI q) - 1) * 6) + nI x = nI (nr_at p (q - 1) x) := by
  show (((nI p * nI 3 + nI q) - nI 1) * nI 6) + nI x = nI ((p * 3 + (q - 1)) * 6 + x)
  rw [pk_mul, nI_add, pk_sub (by omega), pk_mul, nI_add, show p * 3 + q - 1 = p * 3 + (q - 1) by omega]
theorem xi_fo2 {post : Int32 → Prop} {c : Nat} (hc : c ≤ 1000) (h : post (nr_fo c)) : wpX_costOrNone post (nI c) :=
  xi_cn hc (fun z => by rw [nr_fo_t z] at h; exact h) (fun z => by rw [nr_fo_f z] at h; exact h)
section
variable {th ao am ap aq tg gg gp gq go mb ne : Nat → Int32} {n : Nat}
theorem yi_pr {post : Int32 → Prop} {x : Int32} (hn : n ≤ 6) (h1 : nr_pr n x → post 1) (h0 : ¬ nr_pr n x → post 0) : wpY_principal post (nI n, th, ao, am, ap, aq, tg, gg, gp, gq, go, mb, ne) x :=
  nr_rng (by omega) h1 h0
theorem yi_fd {post : Int32 → Prop} {c : Nat} (hc : c ≤ 1000) (h : post (nr_fo c)) : wpY_found post (nI n, th, ao, am, ap, aq, tg, gg, gp, gq, go, mb, ne) (nI c) :=
  pk_le 1000 c (fun z => by rw [nr_fo_f (by omega)] at h; exact h) (fun z => by rw [nr_fo_t z] at h; exact h)
theorem yi_s62 {post : Int32 → Prop} {T : Nat → Nat} {p x a b : Nat} (hn : n ≤ 6) (hR : nr_R mb 108 T) (hT : ∀ b, T b ≤ 1000) (hp : p < 6) (ha : a < 3) (hb : b < 3) (hx : x < 6) (h : post (nI (nr_mn T p a b x n))) :
    ∃ f, wY_shown_62 post (nI p) (nI x) (nI a) (nI b) (nI n) th ao am ap aq tg gg gp gq go mb ne f 1000 0 := by
  refine loop_0 (fun f i s => wY_shown_62 post (nI p) (nI x) (nI a) (nI b) (nI n) th ao am ap aq tg gg gp gq go mb ne f s (nI i)) (fun i s => s = nI (nr_mn T p a b x i)) n (nI 1000) rfl ?_ ?_
  · intro f s hI
    subst hI
    exact br_t (nI_le (Nat.le_refl _) (by omega)) h
  · intro f i s hi hI ih
    subst hI
    have l1 : nr_at p a i < 108 := nr_at_lt hp ha (by omega)
    have l2 : nr_at i b x < 108 := nr_at_lt (by omega) hb hx
    have e : mb (nI (nr_at p a i)).toNatClampNeg + mb (nI (nr_at i b x)).toNatClampNeg = nI (T (nr_at p a i) + T (nr_at i b x)) := by
      rw [nr_rd hR l1 (by omega), nr_rd hR l2 (by omega), nI_add]
    have b1 := hT (nr_at p a i)
    have b2 := hT (nr_at i b x)
    have b3 := nr_mn_le T p a b x i
    refine br_f (nI_ge hi (by omega)) ?_
    rw [nr_pl p a i, nr_pl i b x]
    refine ⟨vp_in_nI l1 (by omega), vp_in_nI l2 (by omega), nm_r e ?_⟩
    refine pk_le (nr_mn T p a b x i) (T (nr_at p a i) + T (nr_at i b x)) (fun z => nm_r (nI_1 i) (ih _ ?_)) (fun z => nm_r (nI_1 i) (ih _ ?_))
    · rw [nr_mn_s, if_neg (by omega)]
    · rw [nr_mn_s, if_pos (by omega)]
theorem yi_sh {post : Int32 → Prop} {T : Nat → Nat} {p q x : Nat} {P Q X : Int32} (hn : n ≤ 6) (hR : nr_R mb 108 T) (hT : ∀ b, T b ≤ 1000) (hp : p < 6) (hq : q < 13) (hx : x < 6) (eP : P = nI p) (eQ : Q = nI q) (eX : X = nI x) (h : post (nI (nr_dn n T p q x))) :
    wpY_shown post (nI n, th, ao, am, ap, aq, tg, gg, gp, gq, go, mb, ne) P Q X := by
  subst eP eQ eX
  refine pk_eq q 0 (fun h1 => ?_) (fun h1 => pk_le 4 q (fun h4 => ?_) (fun h4 => ?_))
  · rw [nr_dn_0 (by omega)] at h
    refine pk_eq p x (fun e => ?_) (fun e => ?_)
    · rw [if_pos e] at h; exact h
    · rw [if_neg e] at h; exact h
  · rw [nr_dn_2 (by omega)] at h
    have e0 : nI q - 4 = nI (q - 4) := pk_sub h4
    have e1 : (nI q - 4) / 3 = nI ((q - 4) / 3) := by rw [e0]; exact pk_div (d := 3) (by omega) (by omega) (by omega)
    have e2 : (nI q - 4) - (nI q - 4) / 3 * 3 = nI ((q - 4) % 3) := by rw [e0]; exact pk_rem (d := 3) (by omega) (by omega) (by omega)
    exact ⟨by decide, nm_r e1 ⟨by decide, nm_r e2 (yi_s62 hn hR hT hp (by omega) (by omega) hx h)⟩⟩
  · rw [nr_dn_1 (by omega) (by omega)] at h
    have l1 : nr_at p (q - 1) x < 108 := nr_at_lt hp (by omega) hx
    rw [nr_pl1 (by omega), nr_rd hR l1 (by omega)]
    exact ⟨vp_in_nI l1 (by omega), h⟩
theorem yi_lo {post : Int32 → SY → Prop} {T : Nat → Nat} {i : Nat} (hn : n ≤ 6) (ho : nr_ok ao 10 n) (hm : nr_ok am 10 3) (hp : nr_ok ap 10 n) (hq : nr_ok aq 10 13) (hi : i < 10) (hH : nr_hb th i = true) (hT : ∀ b, T b ≤ 1000)
    (hR : nr_R mb 108 (nr_cs n (nr_hb th) (nr_cz ao) (nr_cz am) (nr_cz ap) (nr_cz aq) T (6 * i)))
    (h : ∀ b t, (b = 0 ∨ b = 1) → nr_R t 108 (nr_cs n (nr_hb th) (nr_cz ao) (nr_cz am) (nr_cz ap) (nr_cz aq) T (6 * (i + 1))) → (b = 0 → nr_cs n (nr_hb th) (nr_cz ao) (nr_cz am) (nr_cz ap) (nr_cz aq) T (6 * (i + 1)) = nr_cs n (nr_hb th) (nr_cz ao) (nr_cz am) (nr_cz ap) (nr_cz aq) T (6 * i)) → post b (nI n, th, ao, am, ap, aq, tg, gg, gp, gq, go, t, ne)) :
    wpY_lower post (nI n, th, ao, am, ap, aq, tg, gg, gp, gq, go, mb, ne) (nI i) := by
  refine loop_0 (fun f x (s : Int32 × (Nat → Int32)) => wY_lower_4 post (nI i) (nI n) f s.1 (nI x) th ao am ap aq tg gg gp gq go s.2 ne) (fun x s => (s.1 = 0 ∨ s.1 = 1) ∧ nr_R s.2 108 (nr_cs n (nr_hb th) (nr_cz ao) (nr_cz am) (nr_cz ap) (nr_cz aq) T (6 * i + x)) ∧ (s.1 = 0 → nr_cs n (nr_hb th) (nr_cz ao) (nr_cz am) (nr_cz ap) (nr_cz aq) T (6 * i + x) = nr_cs n (nr_hb th) (nr_cz ao) (nr_cz am) (nr_cz ap) (nr_cz aq) T (6 * i))) n (0, mb) ⟨Or.inl rfl, hR, fun _ => rfl⟩ ?_ ?_
  · rintro f ⟨b, t⟩ ⟨h1, h2, h3⟩
    dsimp only at h1 h2 h3
    rw [← nr_cs_e (i := i) hn] at h2 h3
    exact br_t (nI_le (Nat.le_refl _) (by omega)) ⟨nr_nb h1, h b t h1 h2 h3⟩
  · rintro f x ⟨b, t⟩ hx ⟨h1, h2, h3⟩ ih
    dsimp only at h1 h2 h3
    dsimp only
    have vi : vp_in (nI i) 10 := vp_in_nI hi (by omega)
    have la : nr_at (nr_cz ao i) (nr_cz am i) x < 108 := nr_at_lt (by have := (ho i hi).1; omega) (hm i hi).1 (by omega)
    have ea : ((ao (nI i).toNatClampNeg * 3 + am (nI i).toNatClampNeg) * 6) + nI x = nI (nr_at (nr_cz ao i) (nr_cz am i) x) := by
      rw [nr_ro ho hi (by omega), nr_ro hm hi (by omega), nr_pl]
    have hT' := nr_cs_le n (nr_hb th) (nr_cz ao) (nr_cz am) (nr_cz ap) (nr_cz aq) hT (6 * i + x)
    have es := nr_cs_t (o := nr_cz ao) (m := nr_cz am) (p := nr_cz ap) (q := nr_cz aq) (T := T) hn hx hH
    generalize hS : nr_cs n (nr_hb th) (nr_cz ao) (nr_cz am) (nr_cz ap) (nr_cz aq) T (6 * i + x) = S at h2 h3 hT' es
    have bd := nr_dn_le hT' n (nr_cz ap i) (nr_cz aq i) x
    have bt := hT' (nr_at (nr_cz ao i) (nr_cz am i) x)
    refine br_f (nI_ge hx (by omega)) ⟨vi, vi, yi_sh hn h2 hT' (by have := (hp i hi).1; omega) (hq i hi).1 (by omega) (nr_ro hp hi (by omega)) (nr_ro hq hi (by omega)) rfl (nm_r (nI_add 1 _) ⟨vi, vi, nm_r ea ⟨vp_in_nI la (by omega), ?_⟩⟩)⟩
    rw [nr_rd h2 la (by omega)]
    refine pk_le (S (nr_at (nr_cz ao i) (nr_cz am i) x)) (1 + nr_dn n S (nr_cz ap i) (nr_cz aq i) x) (fun z => nm_r (nI_1 x) (ih (b, t) ?_)) (fun z => ⟨vp_in_nI la (by omega), nm_e (nm_r (nI_1 x) (ih (1, _) ?_))⟩)
    · have e2 := es.trans (nr_rx_no (by omega))
      refine ⟨h1, ?_, fun hb => ?_⟩
      · rw [e2]; exact h2
      · rw [e2]; exact h3 hb
    · refine ⟨Or.inr rfl, ?_, fun hb => absurd hb nr_10⟩
      rw [es, nI_clamp (by omega)]
      exact nr_R_u h2 z
theorem yi_w41 {post : SY → Prop} {J : Int32 → Int32 → Int32 → (Nat → Int32) → (Nat → Int32) → (Nat → Int32) → (Nat → Int32) → (Nat → Int32) → (Nat → Int32) → (Nat → Int32) → (Nat → Int32) → (Nat → Int32) → (Nat → Int32) → (Nat → Int32) → (Nat → Int32) → Prop} {T : Nat → Nat} {r : Nat} (hn : n ≤ 6) (ho : nr_ok ao 10 n) (hm : nr_ok am 10 3) (hp : nr_ok ap 10 n) (hq : nr_ok aq 10 13) (hT : ∀ b, T b ≤ 1000) (hR : nr_R mb 108 T)
    (h : ∀ b t, (b = 0 ∨ b = 1) → nr_R t 108 (nr_cs n (nr_hb th) (nr_cz ao) (nr_cz am) (nr_cz ap) (nr_cz aq) T 60) → (b = 0 → nr_cs n (nr_hb th) (nr_cz ao) (nr_cz am) (nr_cz ap) (nr_cz aq) T 60 = T) → J b (nI (r + 1)) (nI n) th ao am ap aq tg gg gp gq go t ne) :
    ∃ f, wY_work_41 post J (nI r) f 0 0 (nI n) th ao am ap aq tg gg gp gq go mb ne := by
  refine loop_0 (fun f i (s : Int32 × (Nat → Int32)) => wY_work_41 post J (nI r) f s.1 (nI i) (nI n) th ao am ap aq tg gg gp gq go s.2 ne) (fun i s => (s.1 = 0 ∨ s.1 = 1) ∧ nr_R s.2 108 (nr_cs n (nr_hb th) (nr_cz ao) (nr_cz am) (nr_cz ap) (nr_cz aq) T (6 * i)) ∧ (s.1 = 0 → nr_cs n (nr_hb th) (nr_cz ao) (nr_cz am) (nr_cz ap) (nr_cz aq) T (6 * i) = T)) 10 (0, mb) ⟨Or.inl rfl, hR, fun _ => rfl⟩ ?_ ?_
  · rintro f ⟨b, t⟩ ⟨h1, h2, h3⟩
    exact br_t (nI_le (b := 10) (Nat.le_refl _) (by omega)) (nm_r (nI_1 r) (h b t h1 h2 h3))
  · rintro f i ⟨b, t⟩ hi ⟨h1, h2, h3⟩ ih
    dsimp only at h1 h2 h3
    have ec : (nI i).toNatClampNeg = i := nI_clamp (by omega)
    have w64 : ∀ t', nr_R t' 108 (nr_cs n (nr_hb th) (nr_cz ao) (nr_cz am) (nr_cz ap) (nr_cz aq) T (6 * (i + 1))) → (b = 0 → nr_cs n (nr_hb th) (nr_cz ao) (nr_cz am) (nr_cz ap) (nr_cz aq) T (6 * (i + 1)) = T) → wY_work_64 post J (wY_work_41 post J (nI r) f) b (nI r) (nI i) (nI n) th ao am ap aq tg gg gp gq go t' ne := by
      intro t' g2 g3
      have w := ih (b, t') ⟨h1, g2, g3⟩
      rcases h1 with rfl | rfl
      · exact br_t rfl (nm_r (nI_1 i) w)
      · exact br_f nr_10 (nm_r (nI_1 i) w)
    refine br_f (nI_ge (b := 10) hi (by omega)) ⟨vp_in_nI hi (by omega), br_c (fun z => ?_) (fun z => ?_)⟩
    · rw [ec] at z
      have hB : ¬ nr_hb th i = true := fun w => nr_hb_t.mp w z
      refine w64 t ?_ ?_
      · rw [nr_cs_f hB]; exact h2
      · rw [nr_cs_f hB]; exact h3
    · rw [ec] at z
      refine yi_lo hn ho hm hp hq hi (nr_hb_t.mpr z) hT h2 (fun b' t' g1 g2 g3 => ?_)
      refine br_c (fun z2 => w64 t' g2 (fun hb => (g3 z2).trans (h3 hb))) (fun z2 => nm_r (nI_1 i) (ih (1, t') ⟨Or.inr rfl, g2, fun hb => absurd hb nr_10⟩))
theorem yi_w27 {post : SY → Prop} (hn : n ≤ 6) (ho : nr_ok ao 10 n) (hm : nr_ok am 10 3) (hp : nr_ok ap 10 n) (hq : nr_ok aq 10 13) (hR : nr_R mb 108 (fun _ => 1000)) (h : ∀ t, nr_R t 108 (nr_M n (nr_hb th) (nr_cz ao) (nr_cz am) (nr_cz ap) (nr_cz aq)) → post (nI n, th, ao, am, ap, aq, tg, gg, gp, gq, go, t, ne)) :
    ∃ f, wY_work_27 post f 1 0 (nI n) th ao am ap aq tg gg gp gq go mb ne := by
  have ho6 : ∀ i, i < 10 → nr_cz ao i < 6 := fun i hi => by have := (ho i hi).1; omega
  have hm3 : ∀ i, i < 10 → nr_cz am i < 3 := fun i hi => (hm i hi).1
  refine loop_0 (fun f r (s : Int32 × (Nat → Int32)) => wY_work_27 post f s.1 (nI r) (nI n) th ao am ap aq tg gg gp gq go s.2 ne) (fun r s => (s.1 = 0 ∨ s.1 = 1) ∧ nr_R s.2 108 (nr_K n (nr_hb th) (nr_cz ao) (nr_cz am) (nr_cz ap) (nr_cz aq) r) ∧ (s.1 = 0 → nr_cs n (nr_hb th) (nr_cz ao) (nr_cz am) (nr_cz ap) (nr_cz aq) (nr_K n (nr_hb th) (nr_cz ao) (nr_cz am) (nr_cz ap) (nr_cz aq) r) 60 = nr_K n (nr_hb th) (nr_cz ao) (nr_cz am) (nr_cz ap) (nr_cz aq) r)) 110 (1, mb) ⟨Or.inr rfl, hR, fun z => absurd z nr_10⟩ ?_ ?_
  · rintro f ⟨b, t⟩ ⟨h1, h2, h3⟩
    dsimp only at h2
    rw [nr_K_up ho6 hm3 110 (by omega)] at h2
    exact br_t (nI_le (b := 110) (Nat.le_refl _) (by omega)) (h t h2)
  · rintro f r ⟨b, t⟩ hr ⟨h1, h2, h3⟩ ih
    dsimp only at h1 h2 h3
    refine br_f (nI_ge (b := 110) hr (by omega)) (br_c (fun z => h t ?_) (fun z => ?_))
    · rw [← nr_K_dn (h3 z) ho6 hm3]; exact h2
    · refine yi_w41 (r := r) hn ho hm hp hq (nr_K_le _ _ _ _ _ _ r) h2 (fun b' t' g1 g2 g3 => ih (b', t') ⟨g1, g2, fun hb => ?_⟩)
      rw [nr_K_s, g3 hb, g3 hb]
theorem yi_wo {post : SY → Prop} (hn : n ≤ 6) (ho : nr_ok ao 10 n) (hm : nr_ok am 10 3) (hp : nr_ok ap 10 n) (hq : nr_ok aq 10 13) (h : ∀ t, nr_R t 108 (nr_M n (nr_hb th) (nr_cz ao) (nr_cz am) (nr_cz ap) (nr_cz aq)) → post (nI n, th, ao, am, ap, aq, tg, gg, gp, gq, go, t, ne)) : wpY_work post (nI n, th, ao, am, ap, aq, tg, gg, gp, gq, go, mb, ne) := by
  refine loop_0 (fun f i s => wY_work_2 post (nI n) f (nI i) th ao am ap aq tg gg gp gq go s ne) (fun i s => nr_R s i (fun _ => 1000)) 108 mb nr_R_0 ?_ ?_
  · intro f s hI
    exact br_t (nI_le (b := 108) (Nat.le_refl _) (by omega)) (yi_w27 hn ho hm hp hq hI h)
  · intro f i s hi hI ih
    exact br_f (nI_ge (b := 108) hi (by omega)) ⟨vp_in_nI hi (by omega), nm_e (nm_r (nI_1 i) (ih _ (nr_R_s hI rfl (by omega))))⟩
/-! answers that only read -/
theorem yi_cost {post : Int32 → SY → Prop} {k m x : Int32} (hn : n ≤ 6) (ho : nr_ok ao 10 n) (hm : nr_ok am 10 3) (hp : nr_ok ap 10 n) (hq : nr_ok aq 10 13) (hb : ¬ (nr_pr n k ∧ nr_pr n x ∧ nr_pr 3 m) → post (-1) (nI n, th, ao, am, ap, aq, tg, gg, gp, gq, go, mb, ne))
    (h : ∀ j i a t, j < n → i < n → a < 3 → k = nI j → x = nI i → m = nI a → nr_R t 108 (nr_M n (nr_hb th) (nr_cz ao) (nr_cz am) (nr_cz ap) (nr_cz aq)) → post (nr_fo ((nr_M n (nr_hb th) (nr_cz ao) (nr_cz am) (nr_cz ap) (nr_cz aq)) (nr_at j a i))) (nI n, th, ao, am, ap, aq, tg, gg, gp, gq, go, t, ne)) : wpY_cost post (nI n, th, ao, am, ap, aq, tg, gg, gp, gq, go, mb, ne) k m x := by
  unfold wpY_cost
  dsimp only
  refine yi_pr hn (fun hk => br_f nr_10 ?_) (fun hk => br_t rfl (hb (fun z => hk z.1)))
  refine yi_pr hn (fun hx => br_f nr_10 ?_) (fun hx => br_t rfl (hb (fun z => hx z.2.1)))
  refine nr_rng3 (n := 2) (by omega) (fun hc => ?_) (fun hc => hb (fun z => hc z.2.2))
  obtain ⟨j, hj, rfl⟩ := hk
  obtain ⟨i, hi, rfl⟩ := hx
  obtain ⟨a, ha, rfl⟩ := hc
  refine yi_wo hn ho hm hp hq (fun t ht => ?_)
  dsimp only
  have l1 : nr_at j a i < 108 := nr_at_lt (by omega) ha (by omega)
  have hp' := h j i a t hj hi ha rfl rfl rfl ht
  rw [nr_pl]
  refine ⟨vp_in_nI l1 (by omega), ?_⟩
  rw [nr_rd ht l1 (by omega)]
  exact yi_fd (nr_K_le _ _ _ _ _ _ 108 _) hp'
theorem yi_den {post : Int32 → SY → Prop} {p q x : Int32} (hn : n ≤ 6) (ho : nr_ok ao 10 n) (hm : nr_ok am 10 3) (hp : nr_ok ap 10 n) (hq : nr_ok aq 10 13) (hb : ¬ (nr_pr n p ∧ nr_pr n x ∧ nr_pr 13 q) → post (-1) (nI n, th, ao, am, ap, aq, tg, gg, gp, gq, go, mb, ne))
    (h : ∀ j i a t, j < n → i < n → a < 13 → p = nI j → x = nI i → q = nI a → nr_R t 108 (nr_M n (nr_hb th) (nr_cz ao) (nr_cz am) (nr_cz ap) (nr_cz aq)) → post (nr_fo (nr_dn n (nr_M n (nr_hb th) (nr_cz ao) (nr_cz am) (nr_cz ap) (nr_cz aq)) j a i)) (nI n, th, ao, am, ap, aq, tg, gg, gp, gq, go, t, ne)) : wpY_denotes post (nI n, th, ao, am, ap, aq, tg, gg, gp, gq, go, mb, ne) p q x := by
  unfold wpY_denotes
  dsimp only
  refine yi_pr hn (fun hk => br_f nr_10 ?_) (fun hk => br_t rfl (hb (fun z => hk z.1)))
  refine yi_pr hn (fun hx => br_f nr_10 ?_) (fun hx => br_t rfl (hb (fun z => hx z.2.1)))
  refine nr_rng3 (n := 12) (by omega) (fun hc => ?_) (fun hc => hb (fun z => hc z.2.2))
  obtain ⟨j, hj, rfl⟩ := hk
  obtain ⟨i, hi, rfl⟩ := hx
  obtain ⟨a, ha, rfl⟩ := hc
  refine yi_wo hn ho hm hp hq (fun t ht => ?_)
  have hM1 : ∀ b, (nr_M n (nr_hb th) (nr_cz ao) (nr_cz am) (nr_cz ap) (nr_cz aq)) b ≤ 1000 := nr_K_le _ _ _ _ _ _ 108
  refine yi_sh hn ht hM1 (by omega) ha (by omega) rfl rfl rfl ?_
  exact yi_fd (nr_dn_le hM1 _ _ _ _) (h j i a t hj hi ha rfl rfl rfl ht)
theorem yi_mem {post : Int32 → SY → Prop} {k m : Int32} (hn : n ≤ 6) (ho : nr_ok ao 10 n) (hm : nr_ok am 10 3) (hp : nr_ok ap 10 n) (hq : nr_ok aq 10 13) (hn1 : 1 ≤ n) (hb : ¬ (nr_pr n k ∧ nr_pr 3 m) → ∀ t, post 0 (nI n, th, ao, am, ap, aq, tg, gg, gp, gq, go, t, ne))
    (h : ∀ j a t, j < n → a < 3 → k = nI j → m = nI a → nr_R t 108 (nr_M n (nr_hb th) (nr_cz ao) (nr_cz am) (nr_cz ap) (nr_cz aq)) → post (nr_bi (fun x => decide ((nr_M n (nr_hb th) (nr_cz ao) (nr_cz am) (nr_cz ap) (nr_cz aq)) (nr_at j a x) < 1000)) n) (nI n, th, ao, am, ap, aq, tg, gg, gp, gq, go, t, ne)) : wpY_members post (nI n, th, ao, am, ap, aq, tg, gg, gp, gq, go, mb, ne) k m := by
  unfold wpY_members
  dsimp only
  refine yi_wo hn ho hm hp hq (fun t ht => ?_)
  dsimp only
  have hM1 : ∀ b, (nr_M n (nr_hb th) (nr_cz ao) (nr_cz am) (nr_cz ap) (nr_cz aq)) b ≤ 1000 := nr_K_le _ _ _ _ _ _ 108
  by_cases hg : nr_pr n k ∧ nr_pr 3 m
  · obtain ⟨⟨j, hj, rfl⟩, ⟨a, ha, rfl⟩⟩ := hg
    refine loop_0 (fun f i s => wY_members_9 post (nI j) (nI a) (nI n) th ao am ap aq tg gg gp gq go t ne f s (nI i)) (fun i s => s = nr_bi (fun x => decide ((nr_M n (nr_hb th) (nr_cz ao) (nr_cz am) (nr_cz ap) (nr_cz aq)) (nr_at j a x) < 1000)) i) n 0 rfl ?_ ?_
    · intro f s hI
      subst hI
      exact br_t (nI_le (Nat.le_refl _) (by omega)) (h j a t hj ha rfl rfl ht)
    · intro f i s hi hI ih
      subst hI
      have la : nr_at j a i < 108 := nr_at_lt (by omega) ha (by omega)
      have b3 := hM1 (nr_at j a i)
      refine br_f (nI_ge hi (by omega)) (yi_pr hn (fun _ => br_f nr_10 (nr_rng2 (n := 2) (by omega) (fun _ => ?_) (fun z => absurd ⟨a, ha, rfl⟩ z))) (fun z => absurd ⟨j, hj, rfl⟩ z))
      rw [nr_pl]
      refine ⟨vp_in_nI la (by omega), pk_le 1000 ((nr_M n (nr_hb th) (nr_cz ao) (nr_cz am) (nr_cz ap) (nr_cz aq)) (nr_at j a i)) (fun z => nm_r (nr_or0 _) (nm_r (nI_1 i) (ih _ ?_))) (fun z => nm_e (nm_r (nI_1 i) (ih _ ?_))) rfl (nr_rd ht la (by omega))⟩
      · exact (nr_bi_f (fun w => absurd (of_decide_eq_true w) (by omega))).symm
      · exact (nr_bi_t (decide_eq_true z)).symm
  · have hp0 := hb hg t
    refine ⟨1, br_f (nI_ge (a := 0) (b := n) (by omega) (by omega)) (yi_pr hn (fun z1 => br_f nr_10 (nr_rng2 (n := 2) (by omega) (fun z2 => absurd ⟨z1, z2⟩ hg) (fun _ => hp0))) (fun _ => br_t rfl hp0))⟩
theorem yi_w12 {post : Int32 → SY → Prop} {M : Nat → Nat} {K N C : Int32} {x : Nat} (hn : n ≤ 6) (hp : nr_ok ap 10 n) (hq : nr_ok aq 10 13) (hM : nr_R mb 108 M) (hM1 : ∀ b, M b ≤ 1000) (hx : x < 6) (hC : ¬ C < 0)
    (hf : ∀ i, i < 10 → nr_Q n (nr_hb th) ao am ap aq M K N C x i → (∀ j, j < i → ¬ nr_Q n (nr_hb th) ao am ap aq M K N C x j) → post (nI i) (nI n, th, ao, am, ap, aq, tg, gg, gp, gq, go, mb, ne)) (hF : (∀ j, j < 10 → ¬ nr_Q n (nr_hb th) ao am ap aq M K N C x j) → post (-1) (nI n, th, ao, am, ap, aq, tg, gg, gp, gq, go, mb, ne)) :
    ∃ f, wY_witness_12 post K N (nI x) C (nI n) th ao am ap aq tg gg gp gq go mb ne f 0 := by
  refine loop_0 (fun f i (_ : Unit) => wY_witness_12 post K N (nI x) C (nI n) th ao am ap aq tg gg gp gq go mb ne f (nI i)) (fun i _ => ∀ j, j < i → ¬ nr_Q n (nr_hb th) ao am ap aq M K N C x j) 10 () lt_0 ?_ ?_
  · intro f s hI
    exact br_t (nI_le (b := 10) (Nat.le_refl _) (by omega)) (hF hI)
  · intro f i s hi hI ih
    have vi : vp_in (nI i) 10 := vp_in_nI hi (by omega)
    have ec : (nI i).toNatClampNeg = i := nI_clamp (by omega)
    have go1 : ¬ nr_Q n (nr_hb th) ao am ap aq M K N C x i → ∀ y, y = nI i + 1 → wY_witness_12 post K N (nI x) C (nI n) th ao am ap aq tg gg gp gq go mb ne f y := fun z => nm_r (nI_1 i) (ih () (lt_s hI z))
    refine br_f (nI_ge (b := 10) hi (by omega)) (br_f hC ⟨vi, br_c (fun z0 => ?_) (fun z0 => ⟨vi, br_c (fun z1 => ⟨vi, br_c (fun z2 => ⟨vi, vi, yi_sh hn hM hM1 (by have := (hp i hi).1; omega) (hq i hi).1 hx (nr_ro hp hi (by omega)) (nr_ro hq hi (by omega)) rfl (br_c (fun z3 => ?_) (fun z3 => ?_))⟩) (fun z2 => ?_)⟩) (fun z1 => ?_)⟩)⟩)
    · exact go1 (fun w => (nr_hb_t.mp w.1) (by rw [ec] at z0; exact z0))
    · rw [ec] at z0 z1 z2
      exact hf i hi ⟨nr_hb_t.mpr z0, z1, z2, z3⟩ hI
    · exact go1 (fun w => z3 w.2.2.2)
    · exact go1 (fun w => z2 (by rw [ec]; exact w.2.2.1))
    · exact go1 (fun w => z1 (by rw [ec]; exact w.2.1))
theorem yi_cm {post : Int32 → SY → Prop} (hn : n ≤ 6) (ho : nr_ok ao 10 n) (hm : nr_ok am 10 3) (hp : nr_ok ap 10 n) (hq : nr_ok aq 10 13) (h : ∀ t, nr_R t 108 (nr_M n (nr_hb th) (nr_cz ao) (nr_cz am) (nr_cz ap) (nr_cz aq)) → post (nI (nr_ct (nr_M n (nr_hb th) (nr_cz ao) (nr_cz am) (nr_cz ap) (nr_cz aq)) 999 108)) (nI n, th, ao, am, ap, aq, tg, gg, gp, gq, go, t, ne)) : wpY_countMembers post (nI n, th, ao, am, ap, aq, tg, gg, gp, gq, go, mb, ne) := by
  unfold wpY_countMembers
  dsimp only
  refine yi_wo hn ho hm hp hq (fun t ht => ?_)
  dsimp only
  have hM1 : ∀ b, (nr_M n (nr_hb th) (nr_cz ao) (nr_cz am) (nr_cz ap) (nr_cz aq)) b ≤ 1000 := nr_K_le _ _ _ _ _ _ 108
  refine loop_0 (fun f i s => wY_countMembers_8 post (nI n) th ao am ap aq tg gg gp gq go t ne f s (nI i)) (fun i s => s = nI (nr_ct (nr_M n (nr_hb th) (nr_cz ao) (nr_cz am) (nr_cz ap) (nr_cz aq)) 999 i)) 108 0 rfl ?_ ?_
  · intro f s hI
    subst hI
    exact br_t (nI_le (b := 108) (Nat.le_refl _) (by omega)) (h t ht)
  · intro f i s hi hI ih
    subst hI
    have b3 := hM1 i
    refine br_f (nI_ge (b := 108) hi (by omega)) ⟨vp_in_nI hi (by omega), pk_le 1000 ((nr_M n (nr_hb th) (nr_cz ao) (nr_cz am) (nr_cz ap) (nr_cz aq)) i) (fun z => nm_r (Int32.add_zero _) (nm_r (nI_1 i) (ih _ ?_))) (fun z => nm_r (nI_1 _) (nm_r (nI_1 i) (ih _ ?_))) rfl (nr_rd ht hi (by omega))⟩
    · show nI (nr_ct (nr_M n (nr_hb th) (nr_cz ao) (nr_cz am) (nr_cz ap) (nr_cz aq)) 999 i) = nI (nr_ct (nr_M n (nr_hb th) (nr_cz ao) (nr_cz am) (nr_cz ap) (nr_cz aq)) 999 i + (if (nr_M n (nr_hb th) (nr_cz ao) (nr_cz am) (nr_cz ap) (nr_cz aq)) i ≤ 999 then 1 else 0))
      rw [if_neg (by omega)]
      rfl
    · show nI (nr_ct (nr_M n (nr_hb th) (nr_cz ao) (nr_cz am) (nr_cz ap) (nr_cz aq)) 999 i + 1) = nI (nr_ct (nr_M n (nr_hb th) (nr_cz ao) (nr_cz am) (nr_cz ap) (nr_cz aq)) 999 i + (if (nr_M n (nr_hb th) (nr_cz ao) (nr_cz am) (nr_cz ap) (nr_cz aq)) i ≤ 999 then 1 else 0))
      rw [if_pos (by omega)]
theorem yi_cer {post : Int32 → Prop} (h : post (nr_bi (nr_hb th) 10)) : wpY_certificates post (nI n, th, ao, am, ap, aq, tg, gg, gp, gq, go, mb, ne) := by
  refine loop_0 (fun f i s => wY_certificates_4 post (nI n) th ao am ap aq tg gg gp gq go mb ne f s (nI i)) (fun i s => s = nr_bi (nr_hb th) i) 10 0 rfl ?_ ?_
  · intro f s hI
    subst hI
    exact br_t (nI_le (b := 10) (Nat.le_refl _) (by omega)) h
  · intro f i s hi hI ih
    subst hI
    have ec : (nI i).toNatClampNeg = i := nI_clamp (by omega)
    refine br_f (nI_ge (b := 10) hi (by omega)) ⟨vp_in_nI hi (by omega), br_c (fun z => nm_r (nr_or0 _) (nm_r (nI_1 i) (ih _ ?_))) (fun z => nm_e (nm_r (nI_1 i) (ih _ ?_)))⟩
    · exact (nr_bi_f (fun w => nr_hb_t.mp w (by rw [ec] at z; exact z))).symm
    · exact (nr_bi_t (nr_hb_t.mpr (by rw [ec] at z; exact z))).symm
theorem yi_gra {post : Int32 → Prop} (h : post (nr_bi (nr_hb tg) 6)) : wpY_grants post (nI n, th, ao, am, ap, aq, tg, gg, gp, gq, go, mb, ne) := by
  refine loop_0 (fun f i s => wY_grants_4 post (nI n) th ao am ap aq tg gg gp gq go mb ne f s (nI i)) (fun i s => s = nr_bi (nr_hb tg) i) 6 0 rfl ?_ ?_
  · intro f s hI
    subst hI
    exact br_t (nI_le (b := 6) (Nat.le_refl _) (by omega)) h
  · intro f i s hi hI ih
    subst hI
    have ec : (nI i).toNatClampNeg = i := nI_clamp (by omega)
    refine br_f (nI_ge (b := 6) hi (by omega)) ⟨vp_in_nI hi (by omega), br_c (fun z => nm_r (nr_or0 _) (nm_r (nI_1 i) (ih _ ?_))) (fun z => nm_e (nm_r (nI_1 i) (ih _ ?_)))⟩
    · exact (nr_bi_f (fun w => nr_hb_t.mp w (by rw [ec] at z; exact z))).symm
    · exact (nr_bi_t (nr_hb_t.mpr (by rw [ec] at z; exact z))).symm
/-! rows of grants -/
theorem yi_s46 {post : SY → Prop} {J : Int32 → (Nat → Int32) → (Nat → Int32) → (Nat → Int32) → (Nat → Int32) → (Nat → Int32) → (Nat → Int32) → (Nat → Int32) → (Nat → Int32) → (Nat → Int32) → (Nat → Int32) → (Nat → Int32) → (Nat → Int32) → Prop} {M S : Nat → Nat} {r : Nat} (hn : n ≤ 6) (hg : nr_ok gg 6 n) (hp2 : nr_ok gp 6 n) (hq2 : nr_ok gq 6 13) (hM : nr_R mb 108 M) (hM1 : ∀ b, M b ≤ 1000) (hS : ∀ b, S b ≤ 1000) (hR : nr_R ne 6 S)
    (h : ∀ t, nr_R t 6 (nr_gs n (nr_hb tg) (nr_hb go) M (nr_cz gg) (nr_cz gp) (nr_cz gq) S 36) → J (nI (r + 1)) th ao am ap aq tg gg gp gq go mb t) :
    ∃ f, wY_spread_46 post J (nI r) (nI n) f 0 th ao am ap aq tg gg gp gq go mb ne := by
  refine loop_0 (fun f c s => wY_spread_46 post J (nI r) (nI n) f (nI c) th ao am ap aq tg gg gp gq go mb s) (fun c s => nr_R s 6 (nr_gs n (nr_hb tg) (nr_hb go) M (nr_cz gg) (nr_cz gp) (nr_cz gq) S c)) 36 ne hR ?_ ?_
  · intro f s hI
    exact br_t (nI_le (b := 36) (Nat.le_refl _) (by omega)) (nm_r (nI_1 r) (h s hI))
  · intro f c s hc hI ih
    obtain ⟨g, x, hx, rfl⟩ : ∃ g x, x < 6 ∧ c = 6 * g + x := ⟨c / 6, c % 6, by omega, by omega⟩
    have hi : g < 6 := by omega
    have e1 : nI (6 * g + x) / 6 = nI g := by
      have e := pk_div (a := 6 * g + x) (d := 6) (by omega) (by omega) (by omega)
      rw [show (6 * g + x) / 6 = g by omega] at e
      exact e
    have e2 : nI (6 * g + x) - nI (6 * g + x) / 6 * 6 = nI x := by
      have e := pk_rem (a := 6 * g + x) (d := 6) (by omega) (by omega) (by omega)
      rw [show (6 * g + x) % 6 = x by omega] at e
      exact e
    have ec : (nI g).toNatClampNeg = g := nI_clamp (by omega)
    have vg : vp_in (nI g) 6 := vp_in_nI hi (by omega)
    have vx : vp_in (nI x) 6 := vp_in_nI hx (by omega)
    have lg : nr_cz gg g < 6 := by have := (hg g hi).1; omega
    have skip : (nr_hb tg g = true → nr_hb go g = true → ¬ x < n) → ∀ y, y = nI (6 * g + x) + 1 → wY_spread_46 post J (nI r) (nI n) f y th ao am ap aq tg gg gp gq go mb s := by
      intro hz
      refine nm_r (nI_1 (6 * g + x)) (ih s ?_)
      have k1 := nr_gs_k (M := M) (g := nr_cz gg) (p := nr_cz gp) (q := nr_cz gq) (S := S) hx hz
      show nr_R s 6 (nr_gs n (nr_hb tg) (nr_hb go) M (nr_cz gg) (nr_cz gp) (nr_cz gq) S (6 * g + (x + 1)))
      rw [k1]
      exact hI
    refine br_f (nI_ge (b := 36) hc (by omega)) ⟨by decide, nm_r e1 ⟨by decide, nm_r e2 (pk_le n x (fun z => skip (fun _ _ => by omega)) (fun z => ⟨vg, br_c (fun z1 => ?_) (fun z1 => ⟨vg, br_c (fun z2 => ?_) (fun z2 => ?_)⟩)⟩))⟩⟩
    · rw [ec] at z1
      exact skip (fun w => absurd z1 (nr_hb_t.mp w))
    · rw [ec] at z2
      exact skip (fun _ w => absurd z2 (nr_hb_t.mp w))
    · rw [ec] at z1 z2
      have hS' := nr_gs_le n (nr_hb tg) (nr_hb go) M (nr_cz gg) (nr_cz gp) (nr_cz gq) hS (6 * g + x)
      have es := nr_gs_t (M := M) (g := nr_cz gg) (p := nr_cz gp) (q := nr_cz gq) (S := S) hn z (nr_hb_t.mpr z1) (nr_hb_t.mpr z2)
      generalize hE : nr_gs n (nr_hb tg) (nr_hb go) M (nr_cz gg) (nr_cz gp) (nr_cz gq) S (6 * g + x) = E at hI hS' es
      have b1 := hS' x
      have b2 := hS' (nr_cz gg g)
      have b3 := nr_dn_le hM1 n (nr_cz gp g) (nr_cz gq g) x
      rw [nr_ro hg hi (by omega)]
      refine ⟨vg, vp_in_nI lg (by omega), vg, vg, yi_sh hn hM hM1 (by have := (hp2 g hi).1; omega) (hq2 g hi).1 hx (nr_ro hp2 hi (by omega)) (nr_ro hq2 hi (by omega)) rfl ?_⟩
      have ew : (s (nI (nr_cz gg g)).toNatClampNeg + 1) + nI (nr_dn n M (nr_cz gp g) (nr_cz gq g) x) = nI (E (nr_cz gg g) + 1 + nr_dn n M (nr_cz gp g) (nr_cz gq g) x) := by
        rw [nr_rd hI lg (by omega), nI_1, nI_add]
      refine nm_r ew ⟨vx, pk_le (E x) (E (nr_cz gg g) + 1 + nr_dn n M (nr_cz gp g) (nr_cz gq g) x) (fun y => ⟨vx, vx, nm_e (nm_r (nI_1 (6 * g + x)) (ih _ ?_))⟩) (fun y => ⟨vx, nm_e (nm_r (nI_1 (6 * g + x)) (ih _ ?_))⟩) (nr_rd hI hx (by omega))⟩
      · show nr_R _ 6 (nr_gs n (nr_hb tg) (nr_hb go) M (nr_cz gg) (nr_cz gp) (nr_cz gq) S (6 * g + (x + 1)))
        rw [es, nr_rx_no (by omega)]
        exact nr_R_same hI
      · show nr_R _ 6 (nr_gs n (nr_hb tg) (nr_hb go) M (nr_cz gg) (nr_cz gp) (nr_cz gq) S (6 * g + (x + 1)))
        rw [es, nI_clamp (by omega)]
        exact nr_R_u hI y
theorem yi_s38 {post : SY → Prop} {M : Nat → Nat} {k : Nat} (hn : n ≤ 6) (hg : nr_ok gg 6 n) (hp2 : nr_ok gp 6 n) (hq2 : nr_ok gq 6 13) (hM : nr_R mb 108 M) (hM1 : ∀ b, M b ≤ 1000) (hk : k < n) (hR : nr_R ne 6 (nr_n0 k))
    (h : ∀ t, nr_R t 6 (nr_N n (nr_hb tg) (nr_hb go) M (nr_cz gg) (nr_cz gp) (nr_cz gq) k (n - 1)) → post (nI n, th, ao, am, ap, aq, tg, gg, gp, gq, go, mb, t)) : ∃ f, wY_spread_38 post (nI n) f 0 th ao am ap aq tg gg gp gq go mb ne := by
  refine loop_0 (fun f r s => wY_spread_38 post (nI n) f (nI r) th ao am ap aq tg gg gp gq go mb s) (fun r s => nr_R s 6 (nr_N n (nr_hb tg) (nr_hb go) M (nr_cz gg) (nr_cz gp) (nr_cz gq) k r)) 6 ne hR ?_ ?_
  · intro f s hI
    rw [nr_Nfx hk 6 (by omega)] at hI
    exact br_t (nI_le (b := 6) (Nat.le_refl _) (by omega)) (h s hI)
  · intro f r s hr hI ih
    exact br_f (nI_ge (b := 6) hr (by omega)) (yi_s46 hn hg hp2 hq2 hM hM1 (nr_N_le _ _ _ _ _ _ _ k r) hI ih)
theorem yi_s6 {post : SY → Prop} {M : Nat → Nat} {k : Nat} (hn : n ≤ 6) (hg : nr_ok gg 6 n) (hp2 : nr_ok gp 6 n) (hq2 : nr_ok gq 6 13) (hM : nr_R mb 108 M) (hM1 : ∀ b, M b ≤ 1000) (hk : k < n)
    (h : ∀ t, nr_R t 6 (nr_N n (nr_hb tg) (nr_hb go) M (nr_cz gg) (nr_cz gp) (nr_cz gq) k (n - 1)) → post (nI n, th, ao, am, ap, aq, tg, gg, gp, gq, go, mb, t)) : ∃ f, wY_spread_6 post (nI k) (nI n) f 0 th ao am ap aq tg gg gp gq go mb ne := by
  refine loop_0 (fun f i s => wY_spread_6 post (nI k) (nI n) f (nI i) th ao am ap aq tg gg gp gq go mb s) (fun i s => nr_R s i (nr_n0 k)) 6 ne nr_R_0 ?_ ?_
  · intro f s hI
    exact br_t (nI_le (b := 6) (Nat.le_refl _) (by omega)) (yi_s38 hn hg hp2 hq2 hM hM1 hk hI h)
  · intro f i s hi hI ih
    have vi : vp_in (nI i) 6 := vp_in_nI hi (by omega)
    refine br_f (nI_ge (b := 6) hi (by omega)) (pk_eq i k (fun z => ⟨vi, nm_e (nm_r (nI_1 i) (ih _ (nr_R_s hI ?_ (by omega))))⟩) (fun z => ⟨vi, nm_e (nm_r (nI_1 i) (ih _ (nr_R_s hI ?_ (by omega))))⟩))
    · unfold nr_n0; rw [if_pos z]; rfl
    · unfold nr_n0; rw [if_neg z]; rfl
theorem yi_sp {post : SY → Prop} {k : Nat} (hn : n ≤ 6) (ho : nr_ok ao 10 n) (hm : nr_ok am 10 3) (hp : nr_ok ap 10 n) (hq : nr_ok aq 10 13) (hg : nr_ok gg 6 n) (hp2 : nr_ok gp 6 n) (hq2 : nr_ok gq 6 13) (hk : k < n)
    (h : ∀ t t2, nr_R t 108 (nr_M n (nr_hb th) (nr_cz ao) (nr_cz am) (nr_cz ap) (nr_cz aq)) → nr_R t2 6 (nr_N n (nr_hb tg) (nr_hb go) (nr_M n (nr_hb th) (nr_cz ao) (nr_cz am) (nr_cz ap) (nr_cz aq)) (nr_cz gg) (nr_cz gp) (nr_cz gq) k (n - 1)) → post (nI n, th, ao, am, ap, aq, tg, gg, gp, gq, go, t, t2)) : wpY_spread post (nI n, th, ao, am, ap, aq, tg, gg, gp, gq, go, mb, ne) (nI k) := by
  unfold wpY_spread
  dsimp only
  refine yi_wo hn ho hm hp hq (fun t ht => ?_)
  dsimp only
  exact yi_s6 hn hg hp2 hq2 ht (nr_K_le _ _ _ _ _ _ 108) hk (fun t2 h2 => h t t2 ht h2)
theorem yi_t30 {post : Int32 → SY → Prop} {M S : Nat → Nat} {x : Nat} (hn : n ≤ 6) (hg : nr_ok gg 6 n) (hp2 : nr_ok gp 6 n) (hq2 : nr_ok gq 6 13) (hM : nr_R mb 108 M) (hM1 : ∀ b, M b ≤ 1000) (hS : nr_R ne 6 S) (hS1 : ∀ b, S b ≤ 1000) (hx : x < 6) (h : post (nr_fo (nr_la n (nr_hb tg) M (nr_cz gg) (nr_cz gp) (nr_cz gq) S x 6)) (nI n, th, ao, am, ap, aq, tg, gg, gp, gq, go, mb, ne)) :
    ∃ f, wY_trustCost_30 post (nI x) (nI n) th ao am ap aq tg gg gp gq go mb ne f 1000 0 := by
  refine loop_0 (fun f i s => wY_trustCost_30 post (nI x) (nI n) th ao am ap aq tg gg gp gq go mb ne f s (nI i)) (fun i s => s = nI (nr_la n (nr_hb tg) M (nr_cz gg) (nr_cz gp) (nr_cz gq) S x i)) 6 (nI 1000) rfl ?_ ?_
  · intro f s hI
    subst hI
    exact br_t (nI_le (b := 6) (Nat.le_refl _) (by omega)) (yi_fd (nr_la_le _ _ _ _ _ _ _ _ _) h)
  · intro f i s hi hI ih
    subst hI
    have vi : vp_in (nI i) 6 := vp_in_nI hi (by omega)
    have ec : (nI i).toNatClampNeg = i := nI_clamp (by omega)
    have lg : nr_cz gg i < 6 := by have := (hg i hi).1; omega
    have b1 := hS1 (nr_cz gg i)
    have b2 := nr_dn_le hM1 n (nr_cz gp i) (nr_cz gq i) x
    have b3 := nr_la_le n (nr_hb tg) M (nr_cz gg) (nr_cz gp) (nr_cz gq) S x i
    refine br_f (nI_ge (b := 6) hi (by omega)) ⟨vi, br_c (fun z => nm_r (nI_1 i) (ih _ ?_)) (fun z => ?_)⟩
    · rw [ec] at z
      rw [nr_la_f (fun w => nr_hb_t.mp w z)]
    · rw [ec] at z
      rw [nr_ro hg hi (by omega)]
      refine ⟨vi, vp_in_nI lg (by omega), vi, vi, yi_sh hn hM hM1 (by have := (hp2 i hi).1; omega) (hq2 i hi).1 hx (nr_ro hp2 hi (by omega)) (nr_ro hq2 hi (by omega)) rfl ?_⟩
      have ew : (ne (nI (nr_cz gg i)).toNatClampNeg + 1) + nI (nr_dn n M (nr_cz gp i) (nr_cz gq i) x) = nI (S (nr_cz gg i) + 1 + nr_dn n M (nr_cz gp i) (nr_cz gq i) x) := by
        rw [nr_rd hS lg (by omega), nI_1, nI_add]
      refine nm_r ew (pk_le (nr_la n (nr_hb tg) M (nr_cz gg) (nr_cz gp) (nr_cz gq) S x i) (S (nr_cz gg i) + 1 + nr_dn n M (nr_cz gp i) (nr_cz gq i) x) (fun y => nm_r (nI_1 i) (ih _ ?_)) (fun y => nm_r (nI_1 i) (ih _ ?_)))
      · rw [nr_la_t (nr_hb_t.mpr z), if_neg (by omega)]
      · rw [nr_la_t (nr_hb_t.mpr z), if_pos (by omega)]
theorem yi_tc {post : Int32 → SY → Prop} {k x : Int32} (hn : n ≤ 6) (ho : nr_ok ao 10 n) (hm : nr_ok am 10 3) (hp : nr_ok ap 10 n) (hq : nr_ok aq 10 13) (hg : nr_ok gg 6 n) (hp2 : nr_ok gp 6 n) (hq2 : nr_ok gq 6 13) (hb : ¬ (nr_pr n k ∧ nr_pr n x) → post (-1) (nI n, th, ao, am, ap, aq, tg, gg, gp, gq, go, mb, ne))
    (h : ∀ j i t t2, j < n → i < n → k = nI j → x = nI i → post (nr_fo (nr_la n (nr_hb tg) (nr_M n (nr_hb th) (nr_cz ao) (nr_cz am) (nr_cz ap) (nr_cz aq)) (nr_cz gg) (nr_cz gp) (nr_cz gq) (nr_N n (nr_hb tg) (nr_hb go) (nr_M n (nr_hb th) (nr_cz ao) (nr_cz am) (nr_cz ap) (nr_cz aq)) (nr_cz gg) (nr_cz gp) (nr_cz gq) j (n - 1)) i 6)) (nI n, th, ao, am, ap, aq, tg, gg, gp, gq, go, t, t2)) : wpY_trustCost post (nI n, th, ao, am, ap, aq, tg, gg, gp, gq, go, mb, ne) k x := by
  unfold wpY_trustCost
  dsimp only
  refine yi_pr hn (fun hk => br_f nr_10 ?_) (fun hk => br_t rfl (hb (fun z => hk z.1)))
  refine yi_pr hn (fun hx => br_f nr_10 ?_) (fun hx => br_t rfl (hb (fun z => hx z.2)))
  obtain ⟨j, hj, rfl⟩ := hk
  obtain ⟨i, hi, rfl⟩ := hx
  refine yi_sp hn ho hm hp hq hg hp2 hq2 hj (fun t t2 ht ht2 => ?_)
  dsimp only
  exact yi_t30 hn hg hp2 hq2 ht (nr_K_le _ _ _ _ _ _ 108) ht2 (nr_N_le _ _ _ _ _ _ _ _ _) (by omega) (h j i t t2 hj hi rfl rfl)
theorem yi_tr {post : Int32 → SY → Prop} {k : Int32} (hn : n ≤ 6) (ho : nr_ok ao 10 n) (hm : nr_ok am 10 3) (hp : nr_ok ap 10 n) (hq : nr_ok aq 10 13) (hg : nr_ok gg 6 n) (hp2 : nr_ok gp 6 n) (hq2 : nr_ok gq 6 13) (hb : ¬ nr_pr n k → ∀ t t2, post 0 (nI n, th, ao, am, ap, aq, tg, gg, gp, gq, go, t, t2))
    (h : ∀ j t t2, j < n → k = nI j → post (nr_bi (fun x => decide (nr_la n (nr_hb tg) (nr_M n (nr_hb th) (nr_cz ao) (nr_cz am) (nr_cz ap) (nr_cz aq)) (nr_cz gg) (nr_cz gp) (nr_cz gq) (nr_N n (nr_hb tg) (nr_hb go) (nr_M n (nr_hb th) (nr_cz ao) (nr_cz am) (nr_cz ap) (nr_cz aq)) (nr_cz gg) (nr_cz gp) (nr_cz gq) j (n - 1)) x 6 < 1000)) n) (nI n, th, ao, am, ap, aq, tg, gg, gp, gq, go, t, t2)) : wpY_trusted post (nI n, th, ao, am, ap, aq, tg, gg, gp, gq, go, mb, ne) k := by
  by_cases hk : nr_pr n k
  · obtain ⟨j, hj, rfl⟩ := hk
    refine loop_0 (fun f i (s : Int32 × (Nat → Int32) × (Nat → Int32)) => wY_trusted_4 post (nI j) f s.1 (nI i) (nI n) th ao am ap aq tg gg gp gq go s.2.1 s.2.2) (fun i s => s.1 = nr_bi (fun x => decide (nr_la n (nr_hb tg) (nr_M n (nr_hb th) (nr_cz ao) (nr_cz am) (nr_cz ap) (nr_cz aq)) (nr_cz gg) (nr_cz gp) (nr_cz gq) (nr_N n (nr_hb tg) (nr_hb go) (nr_M n (nr_hb th) (nr_cz ao) (nr_cz am) (nr_cz ap) (nr_cz aq)) (nr_cz gg) (nr_cz gp) (nr_cz gq) j (n - 1)) x 6 < 1000)) i) n (0, mb, ne) rfl ?_ ?_
    · rintro f ⟨b, t, t2⟩ hI
      dsimp only at hI
      subst hI
      exact br_t (nI_le (Nat.le_refl _) (by omega)) (h j t t2 hj rfl)
    · rintro f i ⟨b, t, t2⟩ hi hI ih
      dsimp only at hI
      subst hI
      refine br_f (nI_ge hi (by omega)) (yi_tc hn ho hm hp hq hg hp2 hq2 (fun z => absurd ⟨⟨j, hj, rfl⟩, ⟨i, hi, rfl⟩⟩ z) (fun j' i' t' t2' hj' hi' ej ei => ?_))
      have ej' := (nI_eq (by omega) (by omega)).mp ej
      have ei' := (nI_eq (by omega) (by omega)).mp ei
      subst ej' ei'
      by_cases hl : nr_la n (nr_hb tg) (nr_M n (nr_hb th) (nr_cz ao) (nr_cz am) (nr_cz ap) (nr_cz aq)) (nr_cz gg) (nr_cz gp) (nr_cz gq) (nr_N n (nr_hb tg) (nr_hb go) (nr_M n (nr_hb th) (nr_cz ao) (nr_cz am) (nr_cz ap) (nr_cz aq)) (nr_cz gg) (nr_cz gp) (nr_cz gq) j (n - 1)) i 6 < 1000
      · rw [nr_fo_t hl]
        exact br_f (nI_pos (by omega)) (nm_e (nm_r (nI_1 i) (ih (_, t', t2') (nr_bi_t (decide_eq_true hl)).symm)))
      · rw [nr_fo_f hl]
        exact br_t nr_m1 (nm_r (nr_or0 _) (nm_r (nI_1 i) (ih (_, t', t2') (nr_bi_f (fun w => hl (of_decide_eq_true w))).symm)))
  · refine loop_0 (fun f i (s : Int32 × (Nat → Int32) × (Nat → Int32)) => wY_trusted_4 post k f s.1 (nI i) (nI n) th ao am ap aq tg gg gp gq go s.2.1 s.2.2) (fun i s => s.1 = 0) n (0, mb, ne) rfl ?_ ?_
    · rintro f ⟨b, t, t2⟩ hI
      dsimp only at hI
      subst hI
      exact br_t (nI_le (Nat.le_refl _) (by omega)) (hb hk t t2)
    · rintro f i ⟨b, t, t2⟩ hi hI ih
      dsimp only at hI
      subst hI
      exact br_f (nI_ge hi (by omega)) (yi_tc hn ho hm hp hq hg hp2 hq2 (fun _ => br_t nr_m1 (nm_r (nr_or0 _) (nm_r (nI_1 i) (ih (_, t, t2) rfl)))) (fun j' i' t' t2' hj' hi' ej ei => absurd ⟨j', hj', ej⟩ hk))
/-! answers that store -/
theorem yi_c42 {post : Int32 → SY → Prop} {k m p q : Int32} (hf : ∀ i, i < 10 → ¬ nr_hb th i = true → (∀ j, j < i → nr_hb th j = true) → post (nI i) (nI n, upd th i 1, upd ao i k, upd am i m, upd ap i p, upd aq i q, tg, gg, gp, gq, go, mb, ne)) (hF : (∀ j, j < 10 → nr_hb th j = true) → post (-2) (nI n, th, ao, am, ap, aq, tg, gg, gp, gq, go, mb, ne)) :
    ∃ f, wY_certify_42 post k m p q (nI n) th ao am ap aq tg gg gp gq go mb ne f 0 := by
  refine loop_0 (fun f i (_ : Unit) => wY_certify_42 post k m p q (nI n) th ao am ap aq tg gg gp gq go mb ne f (nI i)) (fun i _ => ∀ j, j < i → nr_hb th j = true) 10 () lt_0 ?_ ?_
  · intro f s hI
    exact br_t (nI_le (b := 10) (Nat.le_refl _) (by omega)) (hF hI)
  · intro f i s hi hI ih
    have vi : vp_in (nI i) 10 := vp_in_nI hi (by omega)
    have ec : (nI i).toNatClampNeg = i := nI_clamp (by omega)
    have e1 : upd th (nI i).toNatClampNeg (vp_nar .boolean 1) = upd th i 1 := by rw [ec, nr_v1]
    have eu : ∀ (a : Nat → Int32) (y : Int32), upd a (nI i).toNatClampNeg y = upd a i y := fun a y => by rw [ec]
    refine br_f (nI_ge (b := 10) hi (by omega)) ⟨vi, br_c (fun z => ⟨vi, nm_r e1 ⟨vi, nm_r (eu _ _) ⟨vi, nm_r (eu _ _) ⟨vi, nm_r (eu _ _) ⟨vi, nm_r (eu _ _) (hf i hi (fun w => nr_hb_t.mp w ?_) hI)⟩⟩⟩⟩⟩) (fun z => nm_r (nI_1 i) (ih () (lt_s hI (nr_hb_t.mpr ?_))))⟩
    · rw [ec] at z; exact z
    · rw [ec] at z; exact z
theorem yi_certify {post : Int32 → SY → Prop} {k m p q : Int32} (hn : n ≤ 6) (hb : ¬ (nr_pr n k ∧ nr_pr n p ∧ nr_pr 3 m ∧ nr_pr 13 q) → post (-1) (nI n, th, ao, am, ap, aq, tg, gg, gp, gq, go, mb, ne))
    (hg : nr_pr n k → nr_pr n p → nr_pr 3 m → nr_pr 13 q → ∃ f, wY_certify_42 post k m p q (nI n) th ao am ap aq tg gg gp gq go mb ne f 0) : wpY_certify post (nI n, th, ao, am, ap, aq, tg, gg, gp, gq, go, mb, ne) k m p q := by
  unfold wpY_certify
  dsimp only
  refine yi_pr hn (fun h1 => br_f nr_10 ?_) (fun h1 => br_t rfl (hb (fun z => h1 z.1)))
  refine yi_pr hn (fun h2 => br_f nr_10 ?_) (fun h2 => br_t rfl (hb (fun z => h2 z.2.1)))
  refine nr_rng2 (n := 2) (by omega) (fun h3 => ?_) (fun h3 => hb (fun z => h3 z.2.2.1))
  exact nr_rng3 (n := 12) (by omega) (fun h4 => hg h1 h2 h3 h4) (fun h4 => hb (fun z => h4 z.2.2.2))
theorem yi_g31 {post : Int32 → SY → Prop} {k p q o : Int32} (hf : ∀ i, i < 6 → ¬ nr_hb tg i = true → (∀ j, j < i → nr_hb tg j = true) → post (nI i) (nI n, th, ao, am, ap, aq, upd tg i 1, upd gg i k, upd gp i p, upd gq i q, upd go i (vp_nar .boolean o), mb, ne)) (hF : (∀ j, j < 6 → nr_hb tg j = true) → post (-2) (nI n, th, ao, am, ap, aq, tg, gg, gp, gq, go, mb, ne)) :
    ∃ f, wY_grant_31 post k p q o (nI n) th ao am ap aq tg gg gp gq go mb ne f 0 := by
  refine loop_0 (fun f i (_ : Unit) => wY_grant_31 post k p q o (nI n) th ao am ap aq tg gg gp gq go mb ne f (nI i)) (fun i _ => ∀ j, j < i → nr_hb tg j = true) 6 () lt_0 ?_ ?_
  · intro f s hI
    exact br_t (nI_le (b := 6) (Nat.le_refl _) (by omega)) (hF hI)
  · intro f i s hi hI ih
    have vi : vp_in (nI i) 6 := vp_in_nI hi (by omega)
    have ec : (nI i).toNatClampNeg = i := nI_clamp (by omega)
    have e1 : upd tg (nI i).toNatClampNeg (vp_nar .boolean 1) = upd tg i 1 := by rw [ec, nr_v1]
    have eu : ∀ (a : Nat → Int32) (y : Int32), upd a (nI i).toNatClampNeg y = upd a i y := fun a y => by rw [ec]
    refine br_f (nI_ge (b := 6) hi (by omega)) ⟨vi, br_c (fun z => ⟨vi, nm_r e1 ⟨vi, nm_r (eu _ _) ⟨vi, nm_r (eu _ _) ⟨vi, nm_r (eu _ _) ⟨vi, nm_r (eu _ _) (hf i hi (fun w => nr_hb_t.mp w ?_) hI)⟩⟩⟩⟩⟩) (fun z => nm_r (nI_1 i) (ih () (lt_s hI (nr_hb_t.mpr ?_))))⟩
    · rw [ec] at z; exact z
    · rw [ec] at z; exact z
theorem yi_grant {post : Int32 → SY → Prop} {k p q o : Int32} (hn : n ≤ 6) (hb : ¬ (nr_pr n k ∧ nr_pr n p ∧ nr_pr 13 q) → post (-1) (nI n, th, ao, am, ap, aq, tg, gg, gp, gq, go, mb, ne))
    (hg : nr_pr n k → nr_pr n p → nr_pr 13 q → ∃ f, wY_grant_31 post k p q o (nI n) th ao am ap aq tg gg gp gq go mb ne f 0) : wpY_grant post (nI n, th, ao, am, ap, aq, tg, gg, gp, gq, go, mb, ne) k p q o := by
  unfold wpY_grant
  dsimp only
  refine yi_pr hn (fun h1 => br_f nr_10 ?_) (fun h1 => br_t rfl (hb (fun z => h1 z.1)))
  refine yi_pr hn (fun h2 => br_f nr_10 ?_) (fun h2 => br_t rfl (hb (fun z => h2 z.2.1)))
  exact nr_rng3 (n := 12) (by omega) (fun h4 => hg h1 h2 h4) (fun h4 => hb (fun z => h4 z.2.2))
theorem yi_revoke {post : Int32 → SY → Prop} {x : Int32} (hb : (∀ j, j < 10 → x = nI j → ¬ nr_hb th j = true) → post 0 (nI n, th, ao, am, ap, aq, tg, gg, gp, gq, go, mb, ne)) (h : ∀ j, j < 10 → x = nI j → nr_hb th j = true → post 1 (nI n, upd th j 0, ao, am, ap, aq, tg, gg, gp, gq, go, mb, ne)) : wpY_revoke post (nI n, th, ao, am, ap, aq, tg, gg, gp, gq, go, mb, ne) x := by
  refine nr_rng2 (n := 9) (by omega) (fun hp => ?_) (fun hp => hb (fun j hj e => absurd ⟨j, hj, e⟩ hp))
  obtain ⟨j, hj, rfl⟩ := hp
  have vi : vp_in (nI j) 10 := vp_in_nI hj (by omega)
  have ec : (nI j).toNatClampNeg = j := nI_clamp (by omega)
  refine ⟨vi, br_c (fun z => hb (fun i hi e w => ?_)) (fun z => ⟨vi, nm_r (e' := upd th j 0) (by rw [ec, nr_v0]) (h j hj rfl (nr_hb_t.mpr ?_))⟩)⟩
  · have := (nI_eq (by omega) (by omega)).mp e
    subst this
    rw [ec] at z
    exact nr_hb_t.mp w z
  · rw [ec] at z; exact z
theorem yi_withdraw {post : Int32 → SY → Prop} {x : Int32} (hb : (∀ j, j < 6 → x = nI j → ¬ nr_hb tg j = true) → post 0 (nI n, th, ao, am, ap, aq, tg, gg, gp, gq, go, mb, ne)) (h : ∀ j, j < 6 → x = nI j → nr_hb tg j = true → post 1 (nI n, th, ao, am, ap, aq, upd tg j 0, gg, gp, gq, go, mb, ne)) : wpY_withdraw post (nI n, th, ao, am, ap, aq, tg, gg, gp, gq, go, mb, ne) x := by
  refine nr_rng2 (n := 5) (by omega) (fun hp => ?_) (fun hp => hb (fun j hj e => absurd ⟨j, hj, e⟩ hp))
  obtain ⟨j, hj, rfl⟩ := hp
  have vi : vp_in (nI j) 6 := vp_in_nI hj (by omega)
  have ec : (nI j).toNatClampNeg = j := nI_clamp (by omega)
  refine ⟨vi, br_c (fun z => hb (fun i hi e w => ?_)) (fun z => ⟨vi, nm_r (e' := upd tg j 0) (by rw [ec, nr_v0]) (h j hj rfl (nr_hb_t.mpr ?_))⟩)⟩
  · have := (nI_eq (by omega) (by omega)).mp e
    subst this
    rw [ec] at z
    exact nr_hb_t.mp w z
  · rw [ec] at z; exact z
theorem yi_c23 {post : SY → Prop} (h : ∀ s, nr_R s 6 (fun _ => 0) → post (nI n, th, ao, am, ap, aq, s, gg, gp, gq, go, mb, ne)) : ∃ f, wY_clear_23 post (nI n) f 0 th ao am ap aq tg gg gp gq go mb ne := by
  refine loop_0 (fun f i s => wY_clear_23 post (nI n) f (nI i) th ao am ap aq s gg gp gq go mb ne) (fun i s => nr_R s i (fun _ => 0)) 6 tg nr_R_0 ?_ ?_
  · intro f s hI
    exact br_t (nI_le (b := 6) (Nat.le_refl _) (by omega)) (h s hI)
  · intro f i s hi hI ih
    exact br_f (nI_ge (b := 6) hi (by omega)) ⟨vp_in_nI hi (by omega), nm_e (nm_r (nI_1 i) (ih _ (nr_R_s hI nr_v0 (by omega))))⟩
theorem yi_clear {post : SY → Prop} (h : ∀ s s2, nr_R s 10 (fun _ => 0) → nr_R s2 6 (fun _ => 0) → post (nI n, s, ao, am, ap, aq, s2, gg, gp, gq, go, mb, ne)) : wpY_clear post (nI n, th, ao, am, ap, aq, tg, gg, gp, gq, go, mb, ne) := by
  refine loop_0 (fun f i s => wY_clear_2 post (nI n) f (nI i) s ao am ap aq tg gg gp gq go mb ne) (fun i s => nr_R s i (fun _ => 0)) 10 th nr_R_0 ?_ ?_
  · intro f s hI
    exact br_t (nI_le (b := 10) (Nat.le_refl _) (by omega)) (yi_c23 (fun s2 h2 => h s s2 hI h2))
  · intro f i s hi hI ih
    exact br_f (nI_ge (b := 10) hi (by omega)) ⟨vp_in_nI hi (by omega), nm_e (nm_r (nI_1 i) (ih _ (nr_R_s hI nr_v0 (by omega))))⟩
end
end
section
theorem nr_n2 {i : Nat} (hi : i < 2 ^ 31) : ¬ nI i = -2 := by
  intro e
  have h := nI_pos hi
  rw [e] at h
  exact h (by decide)
theorem nr_nm1 {i : Nat} (hi : i < 2 ^ 31) : ¬ nI i = -1 := by
  intro e
  have h := nI_pos hi
  rw [e] at h
  exact h (by decide)
section
variable {bc bg : Int32} {ao am ap aq gg gp gq go lc cw oc : Nat → Int32} {n : Nat}
theorem xi_cost {post : Int32 → Prop} {M : Nat → Nat} {k m x : Int32} (hn : n ≤ 6) (hM : nr_R lc 108 M) (hM1 : ∀ b, M b ≤ 1000) (hb : ¬ (nr_pr n k ∧ nr_pr n x ∧ nr_pr 3 m) → post (-1))
    (h : ∀ j i a, j < n → i < n → a < 3 → k = nI j → x = nI i → m = nI a → post (nr_fo (M (nr_at j a i)))) : wpX_cost post (nI n, bc, bg, ao, am, ap, aq, gg, gp, gq, go, lc, cw, oc) k m x := by
  unfold wpX_cost
  dsimp only
  refine xi_pr hn (fun hk => br_f nr_10 ?_) (fun hk => br_t rfl (hb (fun z => hk z.1)))
  refine xi_nm (fun hc => br_f nr_10 ?_) (fun hc => br_t rfl (hb (fun z => hc z.2.2)))
  refine xi_pr hn (fun hx => br_f nr_10 ?_) (fun hx => br_t rfl (hb (fun z => hx z.2.1)))
  obtain ⟨j, hj, rfl⟩ := hk
  obtain ⟨i, hi, rfl⟩ := hx
  obtain ⟨a, ha, rfl⟩ := hc
  have l1 : nr_at j a i < 108 := nr_at_lt (by omega) ha (by omega)
  refine xi_pl rfl rfl rfl ⟨vp_in_nI l1 (by omega), ?_⟩
  rw [nr_rd hM l1 (by omega)]
  exact xi_fo2 (hM1 _) (h j i a hj hi ha rfl rfl rfl)
theorem xi_den {post : Int32 → Prop} {M : Nat → Nat} {p q x : Int32} (hn : n ≤ 6) (hM : nr_R lc 108 M) (hM1 : ∀ b, M b ≤ 1000) (hb : ¬ (nr_pr n p ∧ nr_pr n x ∧ nr_pr 13 q) → post (-1))
    (h : ∀ j i a, j < n → i < n → a < 13 → p = nI j → x = nI i → q = nI a → post (nr_fo (nr_dn n M j a i))) : wpX_denotes post (nI n, bc, bg, ao, am, ap, aq, gg, gp, gq, go, lc, cw, oc) p q x := by
  unfold wpX_denotes
  dsimp only
  refine xi_su hn (fun hk hc => br_f nr_10 ?_) (fun hk => br_t rfl (hb (fun z => hk ⟨z.1, z.2.2⟩)))
  refine xi_pr hn (fun hx => br_f nr_10 ?_) (fun hx => br_t rfl (hb (fun z => hx z.2.1)))
  obtain ⟨j, hj, rfl⟩ := hk
  obtain ⟨i, hi, rfl⟩ := hx
  obtain ⟨a, ha, rfl⟩ := hc
  refine xi_dn hn hM hM1 (by omega) ha (by omega) rfl rfl rfl ?_
  exact xi_fo2 (nr_dn_le hM1 _ _ _ _) (h j i a hj hi ha rfl rfl rfl)
theorem xi_mem {post : Int32 → Prop} {M : Nat → Nat} {k m : Int32} (hn : n ≤ 6) (hM : nr_R lc 108 M) (hM1 : ∀ b, M b ≤ 1000) (hb : ¬ (nr_pr n k ∧ nr_pr 3 m) → post 0)
    (h : ∀ j a, j < n → a < 3 → k = nI j → m = nI a → post (nr_bi (fun x => decide (M (nr_at j a x) < 1000)) n)) : wpX_members post (nI n, bc, bg, ao, am, ap, aq, gg, gp, gq, go, lc, cw, oc) k m := by
  unfold wpX_members
  dsimp only
  refine xi_pr hn (fun hk => br_f nr_10 ?_) (fun hk => br_t rfl (hb (fun z => hk z.1)))
  refine xi_nm (fun hc => br_f nr_10 ?_) (fun hc => br_t rfl (hb (fun z => hc z.2)))
  obtain ⟨j, hj, rfl⟩ := hk
  obtain ⟨a, ha, rfl⟩ := hc
  exact xi_m22 hn hM hM1 (by omega) ha (h j a hj ha rfl rfl)
theorem xi_certify {post : Int32 → SX → Prop} {B : Nat → Bool} {k m p q : Int32} (hn : n ≤ 6) (ho : nr_ok ao 10 n) (hm : nr_ok am 10 3) (hp : nr_ok ap 10 n) (hq : nr_ok aq 10 13) (hb : ¬ (nr_pr n k ∧ nr_pr n p ∧ nr_pr 3 m ∧ nr_pr 13 q) → post (-1) (nI n, nr_bi B 10, bg, ao, am, ap, aq, gg, gp, gq, go, lc, cw, oc))
    (hF : nr_pr n k → nr_pr n p → nr_pr 3 m → nr_pr 13 q → (∀ j, j < 10 → B j = true) → post (-2) (nI n, nr_bi B 10, bg, ao, am, ap, aq, gg, gp, gq, go, lc, cw, oc))
    (hf : ∀ i t, nr_pr n k → nr_pr n p → nr_pr 3 m → nr_pr 13 q → i < 10 → ¬ B i = true → (∀ j, j < i → B j = true) → nr_ok (upd ao i k) 10 n → nr_ok (upd am i m) 10 3 → nr_ok (upd ap i p) 10 n → nr_ok (upd aq i q) 10 13 →
      nr_R t 108 (nr_M n (nr_se B i true) (nr_cz (upd ao i k)) (nr_cz (upd am i m)) (nr_cz (upd ap i p)) (nr_cz (upd aq i q))) → post (nI i) (nI n, nr_bi (nr_se B i true) 10, bg, upd ao i k, upd am i m, upd ap i p, upd aq i q, gg, gp, gq, go, t, cw, oc)) : wpX_certify post (nI n, nr_bi B 10, bg, ao, am, ap, aq, gg, gp, gq, go, lc, cw, oc) k m p q := by
  unfold wpX_certify
  dsimp only
  refine xi_pr hn (fun h1 => br_f nr_10 ?_) (fun h1 => br_t rfl (hb (fun z => h1 z.1)))
  refine xi_nm (fun h3 => br_f nr_10 ?_) (fun h3 => br_t rfl (hb (fun z => h3 z.2.2.1)))
  refine xi_su hn (fun h2 h4 => br_f nr_10 ?_) (fun h2 => br_t rfl (hb (fun z => h2 ⟨z.2.1, z.2.2.2⟩)))
  refine xi_lf (m := 10) (by omega) (fun i hi hB hl => br_f (nr_n2 (by omega)) ?_) (fun hall => br_t rfl (hF h1 h2 h3 h4 hall))
  have vi : vp_in (nI i) 10 := vp_in_nI hi (by omega)
  have ec : (nI i).toNatClampNeg = i := nI_clamp (by omega)
  have eu : ∀ (a : Nat → Int32) (y : Int32), upd a (nI i).toNatClampNeg y = upd a i y := fun a y => by rw [ec]
  have o1 : nr_ok (upd ao i k) 10 n := by obtain ⟨j, hj, rfl⟩ := h1; exact nr_ok_u ho hj (by omega)
  have o2 : nr_ok (upd ap i p) 10 n := by obtain ⟨j, hj, rfl⟩ := h2; exact nr_ok_u hp hj (by omega)
  have o3 : nr_ok (upd am i m) 10 3 := by obtain ⟨j, hj, rfl⟩ := h3; exact nr_ok_u hm hj (by omega)
  have o4 : nr_ok (upd aq i q) 10 13 := by obtain ⟨j, hj, rfl⟩ := h4; exact nr_ok_u hq hj (by omega)
  refine ⟨vi, nm_r (eu _ _) ⟨vi, nm_r (eu _ _) ⟨vi, nm_r (eu _ _) ⟨vi, nm_r (eu _ _) (nm_r (nr_bi_on B (by omega) hi) ?_)⟩⟩⟩⟩
  exact xi_re hn o1 o3 o2 o4 (fun t ht => hf i t h1 h2 h3 h4 hi hB hl o1 o3 o2 o4 ht)
theorem xi_revoke {post : Int32 → SX → Prop} {B : Nat → Bool} {x : Int32} (hn : n ≤ 6) (ho : nr_ok ao 10 n) (hm : nr_ok am 10 3) (hp : nr_ok ap 10 n) (hq : nr_ok aq 10 13) (hb : (∀ j, j < 10 → x = nI j → ¬ B j = true) → post 0 (nI n, nr_bi B 10, bg, ao, am, ap, aq, gg, gp, gq, go, lc, cw, oc))
    (hf : ∀ j t, j < 10 → x = nI j → B j = true → nr_R t 108 (nr_M n (nr_se B j false) (nr_cz ao) (nr_cz am) (nr_cz ap) (nr_cz aq)) → post 1 (nI n, nr_bi (nr_se B j false) 10, bg, ao, am, ap, aq, gg, gp, gq, go, t, cw, oc)) : wpX_revoke post (nI n, nr_bi B 10, bg, ao, am, ap, aq, gg, gp, gq, go, lc, cw, oc) x := by
  unfold wpX_revoke
  dsimp only
  refine xi_he (m := 10) (by omega) (fun j hj e hB => br_f nr_10 ?_) (fun z => br_t rfl (hb z))
  subst e
  exact nm_r (nr_bi_off B (by omega) hj) (xi_re hn ho hm hp hq (fun t ht => hf j t hj rfl hB ht))
theorem xi_matters {post : Int32 → SX → Prop} {B : Nat → Bool} {x : Int32} {T : Nat → Nat} (hn : n ≤ 6) (ho : nr_ok ao 10 n) (hm : nr_ok am 10 3) (hp : nr_ok ap 10 n) (hq : nr_ok aq 10 13) (hL : nr_R lc 108 T) (hT : ∀ b, T b ≤ 1000) (hb : (∀ j, j < 10 → x = nI j → ¬ B j = true) → post 0 (nI n, nr_bi B 10, bg, ao, am, ap, aq, gg, gp, gq, go, lc, cw, oc))
    (hf : ∀ j t, j < 10 → x = nI j → B j = true → (∃ a, a < 108 ∧ T a < 1000 ∧ ¬ nr_M n (nr_se B j false) (nr_cz ao) (nr_cz am) (nr_cz ap) (nr_cz aq) a < 1000) → post 1 (nI n, nr_bi B 10, bg, ao, am, ap, aq, gg, gp, gq, go, lc, t, oc))
    (hz : ∀ j t, j < 10 → x = nI j → B j = true → ¬ (∃ a, a < 108 ∧ T a < 1000 ∧ ¬ nr_M n (nr_se B j false) (nr_cz ao) (nr_cz am) (nr_cz ap) (nr_cz aq) a < 1000) → post 0 (nI n, nr_bi B 10, bg, ao, am, ap, aq, gg, gp, gq, go, lc, t, oc)) : wpX_matters post (nI n, nr_bi B 10, bg, ao, am, ap, aq, gg, gp, gq, go, lc, cw, oc) x := by
  unfold wpX_matters
  dsimp only
  refine xi_he (m := 10) (by omega) (fun j hj e hB => br_f nr_10 ?_) (fun z => br_t rfl (hb z))
  subst e
  rw [nr_bi_off B (by omega) hj]
  refine xi_rew hn ho hm hp hq (fun t ht => ?_)
  exact xi_m35 hL ht hT (nr_K_le _ _ _ _ _ _ 108) (hf j t hj rfl hB) (hz j t hj rfl hB)
theorem xi_grant {post : Int32 → SX → Prop} {G : Nat → Bool} {k p q o : Int32} (hn : n ≤ 6) (hb : ¬ (nr_pr n k ∧ nr_pr n p ∧ nr_pr 13 q) → post (-1) (nI n, bc, nr_bi G 6, ao, am, ap, aq, gg, gp, gq, go, lc, cw, oc))
    (hF : nr_pr n k → nr_pr n p → nr_pr 13 q → (∀ j, j < 6 → G j = true) → post (-2) (nI n, bc, nr_bi G 6, ao, am, ap, aq, gg, gp, gq, go, lc, cw, oc))
    (hf : ∀ i, nr_pr n k → nr_pr n p → nr_pr 13 q → i < 6 → ¬ G i = true → (∀ j, j < i → G j = true) → post (nI i) (nI n, bc, nr_bi (nr_se G i true) 6, ao, am, ap, aq, upd gg i k, upd gp i p, upd gq i q, upd go i (vp_nar .boolean o), lc, cw, oc)) : wpX_grant post (nI n, bc, nr_bi G 6, ao, am, ap, aq, gg, gp, gq, go, lc, cw, oc) k p q o := by
  unfold wpX_grant
  dsimp only
  refine xi_pr hn (fun h1 => br_f nr_10 ?_) (fun h1 => br_t rfl (hb (fun z => h1 z.1)))
  refine xi_su hn (fun h2 h4 => br_f nr_10 ?_) (fun h2 => br_t rfl (hb (fun z => h2 ⟨z.2.1, z.2.2⟩)))
  refine xi_lf (m := 6) (by omega) (fun i hi hB hl => br_f (nr_n2 (by omega)) ?_) (fun hall => br_t rfl (hF h1 h2 h4 hall))
  have vi : vp_in (nI i) 6 := vp_in_nI hi (by omega)
  have ec : (nI i).toNatClampNeg = i := nI_clamp (by omega)
  have eu : ∀ (a : Nat → Int32) (y : Int32), upd a (nI i).toNatClampNeg y = upd a i y := fun a y => by rw [ec]
  exact ⟨vi, nm_r (eu _ _) ⟨vi, nm_r (eu _ _) ⟨vi, nm_r (eu _ _) ⟨vi, nm_r (eu _ _) (nm_r (nr_bi_on G (by omega) hi) (hf i h1 h2 h4 hi hB hl))⟩⟩⟩⟩
theorem xi_withdraw {post : Int32 → SX → Prop} {G : Nat → Bool} {x : Int32} (hb : (∀ j, j < 6 → x = nI j → ¬ G j = true) → post 0 (nI n, bc, nr_bi G 6, ao, am, ap, aq, gg, gp, gq, go, lc, cw, oc))
    (hf : ∀ j, j < 6 → x = nI j → G j = true → post 1 (nI n, bc, nr_bi (nr_se G j false) 6, ao, am, ap, aq, gg, gp, gq, go, lc, cw, oc)) : wpX_withdraw post (nI n, bc, nr_bi G 6, ao, am, ap, aq, gg, gp, gq, go, lc, cw, oc) x := by
  unfold wpX_withdraw
  dsimp only
  refine xi_he (m := 6) (by omega) (fun j hj e hB => br_f nr_10 ?_) (fun z => br_t rfl (hb z))
  subst e
  exact nm_r (nr_bi_off G (by omega) hj) (hf j hj rfl hB)
theorem xi_trusted {post : Int32 → SX → Prop} {G : Nat → Bool} {M : Nat → Nat} {k : Int32} (hn : n ≤ 6) (hg : nr_ok gg 6 n) (hp : nr_ok gp 6 n) (hq : nr_ok gq 6 13) (hM : nr_R lc 108 M) (hM1 : ∀ b, M b ≤ 1000) (hn1 : 1 ≤ n) (hb : ¬ nr_pr n k → post 0 (nI n, bc, nr_bi G 6, ao, am, ap, aq, gg, gp, gq, go, lc, cw, oc))
    (h : ∀ j t, j < n → k = nI j → post (nr_bi (fun x => decide (nr_la n G M (nr_cz gg) (nr_cz gp) (nr_cz gq) (nr_N n G (nr_hb go) M (nr_cz gg) (nr_cz gp) (nr_cz gq) j (n - 1)) x 6 < 1000)) n) (nI n, bc, nr_bi G 6, ao, am, ap, aq, gg, gp, gq, go, lc, cw, t)) : wpX_trusted post (nI n, bc, nr_bi G 6, ao, am, ap, aq, gg, gp, gq, go, lc, cw, oc) k := by
  unfold wpX_trusted
  dsimp only
  refine xi_pr hn (fun h1 => br_f nr_10 ?_) (fun h1 => br_t rfl (hb h1))
  obtain ⟨j, hj, rfl⟩ := h1
  refine xi_fo hn hg hp hq hM hM1 hn1 (by omega) (fun t ht => ?_)
  exact xi_t19 hn hg hp hq hM hM1 ht (nr_N_le _ _ _ _ _ _ _ _ _) (h j t hj rfl)
theorem xi_trustCost {post : Int32 → SX → Prop} {G : Nat → Bool} {M : Nat → Nat} {k x : Int32} (hn : n ≤ 6) (hg : nr_ok gg 6 n) (hp : nr_ok gp 6 n) (hq : nr_ok gq 6 13) (hM : nr_R lc 108 M) (hM1 : ∀ b, M b ≤ 1000) (hn1 : 1 ≤ n) (hb : ¬ (nr_pr n k ∧ nr_pr n x) → post (-1) (nI n, bc, nr_bi G 6, ao, am, ap, aq, gg, gp, gq, go, lc, cw, oc))
    (h : ∀ j i t, j < n → i < n → k = nI j → x = nI i → post (nr_fo (nr_la n G M (nr_cz gg) (nr_cz gp) (nr_cz gq) (nr_N n G (nr_hb go) M (nr_cz gg) (nr_cz gp) (nr_cz gq) j (n - 1)) i 6)) (nI n, bc, nr_bi G 6, ao, am, ap, aq, gg, gp, gq, go, lc, cw, t)) : wpX_trustCost post (nI n, bc, nr_bi G 6, ao, am, ap, aq, gg, gp, gq, go, lc, cw, oc) k x := by
  unfold wpX_trustCost
  dsimp only
  refine xi_pr hn (fun h1 => br_f nr_10 ?_) (fun h1 => br_t rfl (hb (fun z => h1 z.1)))
  refine xi_pr hn (fun h2 => br_f nr_10 ?_) (fun h2 => br_t rfl (hb (fun z => h2 z.2)))
  obtain ⟨j, hj, rfl⟩ := h1
  obtain ⟨i, hi, rfl⟩ := h2
  refine xi_fo hn hg hp hq hM hM1 hn1 (by omega) (fun t ht => ?_)
  refine xi_la hn hg hp hq hM hM1 ht (nr_N_le _ _ _ _ _ _ _ _ _) (by omega) ?_
  exact xi_fo2 (nr_la_le _ _ _ _ _ _ _ _ _) (h j i t hj hi rfl rfl)
end
end
section
def nr_ST (n : Nat) (th ao am ap aq gg gp gq lc : Nat → Int32) : Prop :=
  1 ≤ n ∧ n ≤ 6 ∧ nr_ok ao 10 n ∧ nr_ok am 10 3 ∧ nr_ok ap 10 n ∧ nr_ok aq 10 13 ∧ nr_ok gg 6 n ∧ nr_ok gp 6 n ∧ nr_ok gq 6 13 ∧ nr_R lc 108 (nr_M n (nr_hb th) (nr_cz ao) (nr_cz am) (nr_cz ap) (nr_cz aq))
/-- both keep the same certificates and grants; the class's sets of bits are the reference's flags, and its table holds the least costs -/
def i_Rel (k : Nat) (u : SX) (v : SY) : Prop :=
  ∃ (n : Nat) (th ao am ap aq tg gg gp gq go lc cw oc mb ne : Nat → Int32), u = (nI n, nr_bi (nr_hb th) 10, nr_bi (nr_hb tg) 6, ao, am, ap, aq, gg, gp, gq, go, lc, cw, oc) ∧ v = (nI n, th, ao, am, ap, aq, tg, gg, gp, gq, go, mb, ne) ∧ nr_ST n th ao am ap aq gg gp gq lc
theorem i_up {k : Nat} {u : SX} {v : SY} (h : i_Rel k u v) : i_Rel (k + 5) u v := h
theorem nr_hb_no {s : Nat → Int32} {k : Nat} (h : nr_R s k (fun _ => 0)) : ∀ i, i < k → ¬ nr_hb s i = true := by
  intro i hi w
  exact nr_hb_t.mp w (h i hi)
theorem nr_rel0 {k n : Nat} {th ao am ap aq tg gg gp gq go lc cw oc mb ne : Nat → Int32} (hn1 : 1 ≤ n) (hn : n ≤ 6) (ho : nr_ok ao 10 n) (hm : nr_ok am 10 3) (hp : nr_ok ap 10 n) (hq : nr_ok aq 10 13) (hg : nr_ok gg 6 n) (hp2 : nr_ok gp 6 n) (hq2 : nr_ok gq 6 13)
    (h1 : nr_R th 10 (fun _ => 0)) (h2 : nr_R tg 6 (fun _ => 0)) (h3 : nr_R lc 108 (fun _ => 1000)) : i_Rel k (nI n, 0, 0, ao, am, ap, aq, gg, gp, gq, go, lc, cw, oc) (nI n, th, ao, am, ap, aq, tg, gg, gp, gq, go, mb, ne) := by
  refine ⟨n, th, ao, am, ap, aq, tg, gg, gp, gq, go, lc, cw, oc, mb, ne, ?_, rfl, hn1, hn, ho, hm, hp, hq, hg, hp2, hq2, ?_⟩
  · rw [nr_bi_no 10 (nr_hb_no h1), nr_bi_no 6 (nr_hb_no h2)]
  · rw [nr_none (nr_hb_no h1)]; exact h3
theorem nr_same {B : Nat → Bool} {i j : Nat} (h1 : ¬ B i = true) (h2 : ∀ l, l < i → B l = true) (h3 : ¬ B j = true) (h4 : ∀ l, l < j → B l = true) : j = i := by
  rcases Nat.lt_trichotomy i j with h | h | h
  · exact absurd (h4 i h) h1
  · exact h.symm
  · exact absurd (h2 j h) h3
theorem nr_samq {Q : Nat → Prop} {i j : Nat} (h1 : Q i) (h2 : ∀ l, l < i → ¬ Q l) (h3 : Q j) (h4 : ∀ l, l < j → ¬ Q l) : j = i := by
  rcases Nat.lt_trichotomy i j with h | h | h
  · exact absurd h1 (h4 i h)
  · exact h.symm
  · exact absurd h3 (h2 j h)
theorem xi_114 {post : SX → Prop} {n : Nat} (h : ∀ t, nr_R t 108 (fun _ => 1000) → post (nI n, 0, 0, (fun _ => 0), (fun _ => 0), (fun _ => 0), (fun _ => 0), (fun _ => 0), (fun _ => 0), (fun _ => 0), (fun _ => 0), t, (fun _ => 0), (fun _ => 0))) :
    wX_init_114 post (nI n) 0 0 0 (fun _ => 0) (fun _ => 0) (fun _ => 0) (fun _ => 0) (fun _ => 0) (fun _ => 0) (fun _ => 0) (fun _ => 0) (fun _ => 0) (fun _ => 0) (fun _ => 0) := by
  unfold wX_init_114
  exact xi_tb h
theorem nr_z0 {k : Nat} : nr_R (fun _ => 0) k (fun _ => 0) := fun _ _ => nI_0.symm
theorem nr_new {n : Nat} (k : Nat) (hn1 : 1 ≤ n) (hn : n ≤ 6) {t : Nat → Int32} (ht : nr_R t 108 (fun _ => 1000)) :
    i_Rel k (nI n, 0, 0, (fun _ => 0), (fun _ => 0), (fun _ => 0), (fun _ => 0), (fun _ => 0), (fun _ => 0), (fun _ => 0), (fun _ => 0), t, (fun _ => 0), (fun _ => 0)) (nI n, (fun _ => 0), (fun _ => 0), (fun _ => 0), (fun _ => 0), (fun _ => 0), (fun _ => 0), (fun _ => 0), (fun _ => 0), (fun _ => 0), (fun _ => 0), (fun _ => 0), (fun _ => 0)) :=
  nr_rel0 hn1 hn (nr_ok_0 (by omega)) (nr_ok_0 (by omega)) (nr_ok_0 (by omega)) (nr_ok_0 (by omega)) (nr_ok_0 (by omega)) (nr_ok_0 (by omega)) (nr_ok_0 (by omega)) nr_z0 nr_z0 ht
end
section
theorem i_vc0 (k0 : Int32) : wpX_init (fun u => wpY_init (fun v => i_Rel 1 u v) k0) k0 := by
  by_cases h1 : 1 ≤ k0
  · have hp : ¬ k0 < 0 := fun z => absurd (Int32.lt_of_le_of_lt h1 z) (by decide)
    obtain ⟨j, hj, rfl⟩ := nI_of hp
    have h1' : 1 ≤ j := (nI_leI (a := 1) (by omega) hj).mp h1
    by_cases h6 : nI j ≤ 6
    · have h6' : j ≤ 6 := (nI_leI (b := 6) hj (by omega)).mp h6
      exact br_t h1 (br_t h6 (xi_114 (fun t ht => br_t h1 (br_t h6 (nr_new 1 h1' h6' ht)))))
    · exact br_t h1 (br_f h6 (xi_114 (n := 6) (fun t ht => br_t h1 (br_f h6 (nr_new (n := 6) 1 (by omega) (by omega) ht)))))
  · exact br_f h1 (xi_114 (n := 1) (fun t ht => br_f h1 (nr_new (n := 1) 1 (by omega) (by omega) ht)))
theorem i_vc_certify {k : Nat} {u : SX} {v : SY} (I : i_Rel k u v) (hk : k + 5 ≤ 2561) (v1 : Int32) (v2 : Int32) (v3 : Int32) (v4 : Int32) : wpX_certify (fun r u' => wpY_certify (fun r' v' => r' = r ∧ i_Rel (k + 5) u' v') v v1 v2 v3 v4) u v1 v2 v3 v4 := by
  have I0 := I
  obtain ⟨n, th, ao, am, ap, aq, tg, gg, gp, gq, go, lc, cw, oc, mb, ne, rfl, rfl, hn1, hn, ho, hm, hp, hq, hg, hp2, hq2, hL⟩ := I
  refine xi_certify hn ho hm hp hq (fun hb => ?_) (fun a1 a2 a3 a4 hall => ?_) (fun i t a1 a2 a3 a4 hi hB hl o1 o2 o3 o4 ht => ?_)
  · exact yi_certify hn (fun _ => ⟨rfl, I0⟩) (fun a1 a2 a3 a4 => absurd ⟨a1, a2, a3, a4⟩ hb)
  · exact yi_certify hn (fun z => absurd ⟨a1, a2, a3, a4⟩ z) (fun _ _ _ _ => yi_c42 (fun i hi hB _ => absurd (hall i hi) hB) (fun _ => ⟨rfl, I0⟩))
  · refine yi_certify hn (fun z => absurd ⟨a1, a2, a3, a4⟩ z) (fun _ _ _ _ => yi_c42 (fun j hj hB2 hl2 => ?_) (fun hall => absurd (hall i hi) hB))
    have e := nr_same hB hl hB2 hl2
    subst e
    refine ⟨rfl, n, upd th j 1, upd ao j v1, upd am j v2, upd ap j v3, upd aq j v4, tg, gg, gp, gq, go, t, cw, oc, mb, ne, ?_, rfl, hn1, hn, o1, o2, o3, o4, hg, hp2, hq2, ?_⟩
    · rw [nr_hb_u1]
    · rw [nr_hb_u1]; exact ht
theorem i_vc_revoke {k : Nat} {u : SX} {v : SY} (I : i_Rel k u v) (hk : k + 5 ≤ 2561) (v1 : Int32) : wpX_revoke (fun r u' => wpY_revoke (fun r' v' => r' = r ∧ i_Rel (k + 5) u' v') v v1) u v1 := by
  have I0 := I
  obtain ⟨n, th, ao, am, ap, aq, tg, gg, gp, gq, go, lc, cw, oc, mb, ne, rfl, rfl, hn1, hn, ho, hm, hp, hq, hg, hp2, hq2, hL⟩ := I
  refine xi_revoke hn ho hm hp hq (fun hb => ?_) (fun j t hj e hB ht => ?_)
  · exact yi_revoke (fun _ => ⟨rfl, I0⟩) (fun j hj e hB => absurd hB (hb j hj e))
  · refine yi_revoke (fun z => absurd hB (z j hj e)) (fun j2 hj2 e2 hB2 => ?_)
    have ej : j2 = j := (nI_eq (by omega) (by omega)).mp (e2.symm.trans e)
    subst ej
    refine ⟨rfl, n, upd th j2 0, ao, am, ap, aq, tg, gg, gp, gq, go, t, cw, oc, mb, ne, ?_, rfl, hn1, hn, ho, hm, hp, hq, hg, hp2, hq2, ?_⟩
    · rw [nr_hb_u0]
    · rw [nr_hb_u0]; exact ht
theorem i_vc_grant {k : Nat} {u : SX} {v : SY} (I : i_Rel k u v) (hk : k + 5 ≤ 2561) (v1 : Int32) (v2 : Int32) (v3 : Int32) (v4 : Int32) : wpX_grant (fun r u' => wpY_grant (fun r' v' => r' = r ∧ i_Rel (k + 5) u' v') v v1 v2 v3 (lw_bz v4)) u v1 v2 v3 (lw_bz v4) := by
  have I0 := I
  obtain ⟨n, th, ao, am, ap, aq, tg, gg, gp, gq, go, lc, cw, oc, mb, ne, rfl, rfl, hn1, hn, ho, hm, hp, hq, hg, hp2, hq2, hL⟩ := I
  refine xi_grant hn (fun hb => ?_) (fun a1 a2 a4 hall => ?_) (fun i a1 a2 a4 hi hB hl => ?_)
  · exact yi_grant hn (fun _ => ⟨rfl, I0⟩) (fun a1 a2 a4 => absurd ⟨a1, a2, a4⟩ hb)
  · exact yi_grant hn (fun z => absurd ⟨a1, a2, a4⟩ z) (fun _ _ _ => yi_g31 (fun i hi hB _ => absurd (hall i hi) hB) (fun _ => ⟨rfl, I0⟩))
  · refine yi_grant hn (fun z => absurd ⟨a1, a2, a4⟩ z) (fun _ _ _ => yi_g31 (fun j hj hB2 hl2 => ?_) (fun hall => absurd (hall i hi) hB))
    have e := nr_same hB hl hB2 hl2
    subst e
    have o1 : nr_ok (upd gg j v1) 6 n := by obtain ⟨l, h, rfl⟩ := a1; exact nr_ok_u hg h (by omega)
    have o2 : nr_ok (upd gp j v2) 6 n := by obtain ⟨l, h, rfl⟩ := a2; exact nr_ok_u hp2 h (by omega)
    have o4 : nr_ok (upd gq j v3) 6 13 := by obtain ⟨l, h, rfl⟩ := a4; exact nr_ok_u hq2 h (by omega)
    refine ⟨rfl, n, th, ao, am, ap, aq, upd tg j 1, upd gg j v1, upd gp j v2, upd gq j v3, upd go j (vp_nar .boolean (lw_bz v4)), lc, cw, oc, mb, ne, ?_, rfl, hn1, hn, ho, hm, hp, hq, o1, o2, o4, hL⟩
    rw [nr_hb_u1]
theorem i_vc_withdraw {k : Nat} {u : SX} {v : SY} (I : i_Rel k u v) (hk : k + 5 ≤ 2561) (v1 : Int32) : wpX_withdraw (fun r u' => wpY_withdraw (fun r' v' => r' = r ∧ i_Rel (k + 5) u' v') v v1) u v1 := by
  have I0 := I
  obtain ⟨n, th, ao, am, ap, aq, tg, gg, gp, gq, go, lc, cw, oc, mb, ne, rfl, rfl, hn1, hn, ho, hm, hp, hq, hg, hp2, hq2, hL⟩ := I
  refine xi_withdraw (fun hb => ?_) (fun j hj e hB => ?_)
  · exact yi_withdraw (fun _ => ⟨rfl, I0⟩) (fun j hj e hB => absurd hB (hb j hj e))
  · refine yi_withdraw (fun z => absurd hB (z j hj e)) (fun j2 hj2 e2 hB2 => ?_)
    have ej : j2 = j := (nI_eq (by omega) (by omega)).mp (e2.symm.trans e)
    subst ej
    refine ⟨rfl, n, th, ao, am, ap, aq, upd tg j2 0, gg, gp, gq, go, lc, cw, oc, mb, ne, ?_, rfl, hn1, hn, ho, hm, hp, hq, hg, hp2, hq2, hL⟩
    rw [nr_hb_u0]
theorem i_vc_certificates {k : Nat} {u : SX} {v : SY} (I : i_Rel k u v) (hk : k + 5 ≤ 2561) : wpX_certificates (fun r => wpY_certificates (fun r' => r' = r ∧ i_Rel (k + 5) u v) v) u := by
  have I0 := I
  obtain ⟨n, th, ao, am, ap, aq, tg, gg, gp, gq, go, lc, cw, oc, mb, ne, rfl, rfl, hn1, hn, ho, hm, hp, hq, hg, hp2, hq2, hL⟩ := I
  exact yi_cer ⟨rfl, I0⟩
theorem i_vc_grants {k : Nat} {u : SX} {v : SY} (I : i_Rel k u v) (hk : k + 5 ≤ 2561) : wpX_grants (fun r => wpY_grants (fun r' => r' = r ∧ i_Rel (k + 5) u v) v) u := by
  have I0 := I
  obtain ⟨n, th, ao, am, ap, aq, tg, gg, gp, gq, go, lc, cw, oc, mb, ne, rfl, rfl, hn1, hn, ho, hm, hp, hq, hg, hp2, hq2, hL⟩ := I
  exact yi_gra ⟨rfl, I0⟩
theorem i_vc_members {k : Nat} {u : SX} {v : SY} (I : i_Rel k u v) (hk : k + 5 ≤ 2561) (v1 : Int32) (v2 : Int32) : wpX_members (fun r => wpY_members (fun r' v' => r' = r ∧ i_Rel (k + 5) u v') v v1 v2) u v1 v2 := by
  obtain ⟨n, th, ao, am, ap, aq, tg, gg, gp, gq, go, lc, cw, oc, mb, ne, rfl, rfl, hn1, hn, ho, hm, hp, hq, hg, hp2, hq2, hL⟩ := I
  have J : ∀ t, i_Rel (k + 5) (nI n, nr_bi (nr_hb th) 10, nr_bi (nr_hb tg) 6, ao, am, ap, aq, gg, gp, gq, go, lc, cw, oc) (nI n, th, ao, am, ap, aq, tg, gg, gp, gq, go, t, ne) := fun t => ⟨n, th, ao, am, ap, aq, tg, gg, gp, gq, go, lc, cw, oc, t, ne, rfl, rfl, hn1, hn, ho, hm, hp, hq, hg, hp2, hq2, hL⟩
  refine xi_mem hn hL (nr_K_le _ _ _ _ _ _ 108) (fun hb => ?_) (fun j a hj ha e1 e2 => ?_)
  · exact yi_mem hn ho hm hp hq hn1 (fun _ t => ⟨rfl, J t⟩) (fun j a t hj ha e1 e2 _ => absurd ⟨⟨j, hj, e1⟩, ⟨a, ha, e2⟩⟩ hb)
  · refine yi_mem hn ho hm hp hq hn1 (fun z => absurd ⟨⟨j, hj, e1⟩, ⟨a, ha, e2⟩⟩ z) (fun j' a' t hj' ha' e1' e2' _ => ?_)
    have q1 : j' = j := (nI_eq (by omega) (by omega)).mp (e1'.symm.trans e1)
    have q2 : a' = a := (nI_eq (by omega) (by omega)).mp (e2'.symm.trans e2)
    subst q1 q2
    exact ⟨rfl, J t⟩
theorem i_vc_cost {k : Nat} {u : SX} {v : SY} (I : i_Rel k u v) (hk : k + 5 ≤ 2561) (v1 : Int32) (v2 : Int32) (v3 : Int32) : wpX_cost (fun r => wpY_cost (fun r' v' => r' = r ∧ i_Rel (k + 5) u v') v v1 v2 v3) u v1 v2 v3 := by
  obtain ⟨n, th, ao, am, ap, aq, tg, gg, gp, gq, go, lc, cw, oc, mb, ne, rfl, rfl, hn1, hn, ho, hm, hp, hq, hg, hp2, hq2, hL⟩ := I
  have J : ∀ t, i_Rel (k + 5) (nI n, nr_bi (nr_hb th) 10, nr_bi (nr_hb tg) 6, ao, am, ap, aq, gg, gp, gq, go, lc, cw, oc) (nI n, th, ao, am, ap, aq, tg, gg, gp, gq, go, t, ne) := fun t => ⟨n, th, ao, am, ap, aq, tg, gg, gp, gq, go, lc, cw, oc, t, ne, rfl, rfl, hn1, hn, ho, hm, hp, hq, hg, hp2, hq2, hL⟩
  refine xi_cost hn hL (nr_K_le _ _ _ _ _ _ 108) (fun hb => ?_) (fun j i a hj hi ha e1 e2 e3 => ?_)
  · exact yi_cost hn ho hm hp hq (fun _ => ⟨rfl, J mb⟩) (fun j i a t hj hi ha e1 e2 e3 _ => absurd ⟨⟨j, hj, e1⟩, ⟨i, hi, e2⟩, ⟨a, ha, e3⟩⟩ hb)
  · refine yi_cost hn ho hm hp hq (fun z => absurd ⟨⟨j, hj, e1⟩, ⟨i, hi, e2⟩, ⟨a, ha, e3⟩⟩ z) (fun j' i' a' t hj' hi' ha' e1' e2' e3' _ => ?_)
    have q1 : j' = j := (nI_eq (by omega) (by omega)).mp (e1'.symm.trans e1)
    have q2 : i' = i := (nI_eq (by omega) (by omega)).mp (e2'.symm.trans e2)
    have q3 : a' = a := (nI_eq (by omega) (by omega)).mp (e3'.symm.trans e3)
    subst q1 q2 q3
    exact ⟨rfl, J t⟩
theorem i_vc_denotes {k : Nat} {u : SX} {v : SY} (I : i_Rel k u v) (hk : k + 5 ≤ 2561) (v1 : Int32) (v2 : Int32) (v3 : Int32) : wpX_denotes (fun r => wpY_denotes (fun r' v' => r' = r ∧ i_Rel (k + 5) u v') v v1 v2 v3) u v1 v2 v3 := by
  obtain ⟨n, th, ao, am, ap, aq, tg, gg, gp, gq, go, lc, cw, oc, mb, ne, rfl, rfl, hn1, hn, ho, hm, hp, hq, hg, hp2, hq2, hL⟩ := I
  have J : ∀ t, i_Rel (k + 5) (nI n, nr_bi (nr_hb th) 10, nr_bi (nr_hb tg) 6, ao, am, ap, aq, gg, gp, gq, go, lc, cw, oc) (nI n, th, ao, am, ap, aq, tg, gg, gp, gq, go, t, ne) := fun t => ⟨n, th, ao, am, ap, aq, tg, gg, gp, gq, go, lc, cw, oc, t, ne, rfl, rfl, hn1, hn, ho, hm, hp, hq, hg, hp2, hq2, hL⟩
  refine xi_den hn hL (nr_K_le _ _ _ _ _ _ 108) (fun hb => ?_) (fun j i a hj hi ha e1 e2 e3 => ?_)
  · exact yi_den hn ho hm hp hq (fun _ => ⟨rfl, J mb⟩) (fun j i a t hj hi ha e1 e2 e3 _ => absurd ⟨⟨j, hj, e1⟩, ⟨i, hi, e2⟩, ⟨a, ha, e3⟩⟩ hb)
  · refine yi_den hn ho hm hp hq (fun z => absurd ⟨⟨j, hj, e1⟩, ⟨i, hi, e2⟩, ⟨a, ha, e3⟩⟩ z) (fun j' i' a' t hj' hi' ha' e1' e2' e3' _ => ?_)
    have q1 : j' = j := (nI_eq (by omega) (by omega)).mp (e1'.symm.trans e1)
    have q2 : i' = i := (nI_eq (by omega) (by omega)).mp (e2'.symm.trans e2)
    have q3 : a' = a := (nI_eq (by omega) (by omega)).mp (e3'.symm.trans e3)
    subst q1 q2 q3
    exact ⟨rfl, J t⟩
theorem i_vc_witness {k : Nat} {u : SX} {v : SY} (I : i_Rel k u v) (hk : k + 5 ≤ 2561) (v1 : Int32) (v2 : Int32) (v3 : Int32) : wpX_witness (fun r => wpY_witness (fun r' v' => r' = r ∧ i_Rel (k + 5) u v') v v1 v2 v3) u v1 v2 v3 := by
  obtain ⟨n, th, ao, am, ap, aq, tg, gg, gp, gq, go, lc, cw, oc, mb, ne, rfl, rfl, hn1, hn, ho, hm, hp, hq, hg, hp2, hq2, hL⟩ := I
  have J : ∀ t, i_Rel (k + 5) (nI n, nr_bi (nr_hb th) 10, nr_bi (nr_hb tg) 6, ao, am, ap, aq, gg, gp, gq, go, lc, cw, oc) (nI n, th, ao, am, ap, aq, tg, gg, gp, gq, go, t, ne) := fun t => ⟨n, th, ao, am, ap, aq, tg, gg, gp, gq, go, lc, cw, oc, t, ne, rfl, rfl, hn1, hn, ho, hm, hp, hq, hg, hp2, hq2, hL⟩
  have hM1 : ∀ b, (nr_M n (nr_hb th) (nr_cz ao) (nr_cz am) (nr_cz ap) (nr_cz aq)) b ≤ 1000 := nr_K_le _ _ _ _ _ _ 108
  unfold wpX_witness
  dsimp only
  refine xi_cost hn hL hM1 (fun hb => br_t rfl ?_) (fun j i a hj hi ha e1 e2 e3 => ?_)
  · unfold wpY_witness
    dsimp only
    refine yi_cost hn ho hm hp hq (fun _ => ⟨1, br_f (nI_ge (a := 0) (b := 10) (by omega) (by omega)) (br_t nr_m1 ⟨rfl, J mb⟩)⟩) (fun j i a t hj hi ha e1 e2 e3 _ => absurd ⟨⟨j, hj, e1⟩, ⟨i, hi, e2⟩, ⟨a, ha, e3⟩⟩ hb)
  · subst e1 e2 e3
    by_cases hl : (nr_M n (nr_hb th) (nr_cz ao) (nr_cz am) (nr_cz ap) (nr_cz aq)) (nr_at j a i) < 1000
    · rw [nr_fo_t hl]
      have hC : ¬ nI ((nr_M n (nr_hb th) (nr_cz ao) (nr_cz am) (nr_cz ap) (nr_cz aq)) (nr_at j a i)) < 0 := nI_pos (by omega)
      have yc : ∀ (post : Int32 → SY → Prop), (∀ t, nr_R t 108 (nr_M n (nr_hb th) (nr_cz ao) (nr_cz am) (nr_cz ap) (nr_cz aq)) → ∃ f, wY_witness_12 post (nI j) (nI a) (nI i) (nI ((nr_M n (nr_hb th) (nr_cz ao) (nr_cz am) (nr_cz ap) (nr_cz aq)) (nr_at j a i))) (nI n) th ao am ap aq tg gg gp gq go t ne f 0) → wpY_witness post (nI n, th, ao, am, ap, aq, tg, gg, gp, gq, go, mb, ne) (nI j) (nI a) (nI i) := by
        intro post h
        unfold wpY_witness
        dsimp only
        refine yi_cost hn ho hm hp hq (fun z => absurd ⟨⟨j, hj, rfl⟩, ⟨i, hi, rfl⟩, ⟨a, ha, rfl⟩⟩ z) (fun j' i' a' t hj' hi' ha' e1' e2' e3' ht => ?_)
        have q1 : j = j' := (nI_eq (by omega) (by omega)).mp e1'
        have q2 : i = i' := (nI_eq (by omega) (by omega)).mp e2'
        have q3 : a = a' := (nI_eq (by omega) (by omega)).mp e3'
        subst q1 q2 q3
        rw [nr_fo_t hl]
        exact h t ht
      refine br_f (nr_nm1 (by omega)) (xi_w20 hn hp hq hL hM1 (by omega) (fun l hl1 hQ hlt => ?_) (fun hall => ?_))
      · refine yc _ (fun t ht => yi_w12 hn hp hq ht hM1 (by omega) hC (fun l2 hl2 hQ2 hlt2 => ?_) (fun hall => absurd hQ (hall l hl1)))
        have e := nr_samq hQ hlt hQ2 hlt2
        subst e
        exact ⟨rfl, J t⟩
      · exact yc _ (fun t ht => yi_w12 hn hp hq ht hM1 (by omega) hC (fun l2 hl2 hQ2 _ => absurd hQ2 (hall l2 hl2)) (fun _ => ⟨rfl, J t⟩))
    · rw [nr_fo_f hl]
      refine br_t rfl ?_
      unfold wpY_witness
      dsimp only
      refine yi_cost hn ho hm hp hq (fun z => absurd ⟨⟨j, hj, rfl⟩, ⟨i, hi, rfl⟩, ⟨a, ha, rfl⟩⟩ z) (fun j' i' a' t hj' hi' ha' e1' e2' e3' ht => ?_)
      have q1 : j = j' := (nI_eq (by omega) (by omega)).mp e1'
      have q2 : i = i' := (nI_eq (by omega) (by omega)).mp e2'
      have q3 : a = a' := (nI_eq (by omega) (by omega)).mp e3'
      subst q1 q2 q3
      rw [nr_fo_f hl]
      exact ⟨1, br_f (nI_ge (a := 0) (b := 10) (by omega) (by omega)) (br_t nr_m1 ⟨rfl, J t⟩)⟩
theorem i_vc_matters {k : Nat} {u : SX} {v : SY} (I : i_Rel k u v) (hk : k + 5 ≤ 2561) (v1 : Int32) : wpX_matters (fun r u' => wpY_matters (fun r' v' => r' = r ∧ i_Rel (k + 5) u' v') v v1) u v1 := by
  have I0 := I
  obtain ⟨n, th, ao, am, ap, aq, tg, gg, gp, gq, go, lc, cw, oc, mb, ne, rfl, rfl, hn1, hn, ho, hm, hp, hq, hg, hp2, hq2, hL⟩ := I
  have hM1 : ∀ b, (nr_M n (nr_hb th) (nr_cz ao) (nr_cz am) (nr_cz ap) (nr_cz aq)) b ≤ 1000 := nr_K_le _ _ _ _ _ _ 108
  have ho6 : ∀ i, i < 10 → nr_cz ao i < 6 := fun i hi => by have := (ho i hi).1; omega
  have hm3 : ∀ i, i < 10 → nr_cz am i < 3 := fun i hi => (hm i hi).1
  have yb : ∀ (post : Int32 → SY → Prop), (∀ j, j < 10 → v1 = nI j → ¬ nr_hb th j = true) → post 0 (nI n, th, ao, am, ap, aq, tg, gg, gp, gq, go, mb, ne) → wpY_matters post (nI n, th, ao, am, ap, aq, tg, gg, gp, gq, go, mb, ne) v1 := by
    intro post hb h
    refine nr_rng2 (n := 9) (by omega) (fun hp => ?_) (fun _ => h)
    obtain ⟨j, hj, rfl⟩ := hp
    refine ⟨vp_in_nI hj (by omega), br_c (fun _ => h) (fun z => absurd (nr_hb_t.mpr ?_) (hb j hj rfl))⟩
    rw [nI_clamp (by omega)] at z
    exact z
  have yg : ∀ (post : Int32 → SY → Prop) (j : Nat), j < 10 → v1 = nI j → nr_hb th j = true → (∀ t, (nr_ct (nr_M n (nr_se (nr_hb th) j false) (nr_cz ao) (nr_cz am) (nr_cz ap) (nr_cz aq)) 999 108 < nr_ct (nr_M n (nr_hb th) (nr_cz ao) (nr_cz am) (nr_cz ap) (nr_cz aq)) 999 108 → post 1 (nI n, upd (upd th j 0) j 1, ao, am, ap, aq, tg, gg, gp, gq, go, t, ne)) ∧ (¬ nr_ct (nr_M n (nr_se (nr_hb th) j false) (nr_cz ao) (nr_cz am) (nr_cz ap) (nr_cz aq)) 999 108 < nr_ct (nr_M n (nr_hb th) (nr_cz ao) (nr_cz am) (nr_cz ap) (nr_cz aq)) 999 108 → post 0 (nI n, upd (upd th j 0) j 1, ao, am, ap, aq, tg, gg, gp, gq, go, t, ne))) → wpY_matters post (nI n, th, ao, am, ap, aq, tg, gg, gp, gq, go, mb, ne) v1 := by
    intro post j hj e hB h
    subst e
    have vi : vp_in (nI j) 10 := vp_in_nI hj (by omega)
    have ec : (nI j).toNatClampNeg = j := nI_clamp (by omega)
    refine nr_rng2 (n := 9) (by omega) (fun _ => ?_) (fun z => absurd ⟨j, hj, rfl⟩ z)
    refine ⟨vi, br_f (by rw [ec]; exact nr_hb_t.mp hB) ?_⟩
    refine yi_cm hn ho hm hp hq (fun t ht => ⟨vi, nm_r (e' := upd th j 0) (by rw [ec, nr_v0]) ?_⟩)
    refine yi_cm hn ho hm hp hq (fun t2 ht2 => ⟨vi, nm_r (e' := upd (upd th j 0) j 1) (by rw [ec, nr_v1]) ?_⟩)
    have b1 := nr_ct_le (nr_M n (nr_hb th) (nr_cz ao) (nr_cz am) (nr_cz ap) (nr_cz aq)) 999 108
    rw [nr_hb_u0]
    have b2 := nr_ct_le (nr_M n (nr_se (nr_hb th) j false) (nr_cz ao) (nr_cz am) (nr_cz ap) (nr_cz aq)) 999 108
    exact pk_le _ _ (fun z => (h t2).2 (by omega)) (fun z => (h t2).1 z)
  have J : ∀ (j : Nat) (t t2 : Nat → Int32), nr_hb th j = true → i_Rel (k + 5) (nI n, nr_bi (nr_hb th) 10, nr_bi (nr_hb tg) 6, ao, am, ap, aq, gg, gp, gq, go, lc, t, oc) (nI n, upd (upd th j 0) j 1, ao, am, ap, aq, tg, gg, gp, gq, go, t2, ne) := by
    intro j t t2 hB
    have e : nr_hb (upd (upd th j 0) j 1) = nr_hb th := by
      rw [nr_hb_u1, nr_hb_u0]
      funext l
      unfold nr_se
      by_cases el : l = j
      · rw [if_pos el, el]; exact hB.symm
      · rw [if_neg el, if_neg el]
    refine ⟨n, upd (upd th j 0) j 1, ao, am, ap, aq, tg, gg, gp, gq, go, lc, t, oc, t2, ne, ?_, rfl, hn1, hn, ho, hm, hp, hq, hg, hp2, hq2, ?_⟩
    · rw [e]
    · rw [e]; exact hL
  refine xi_matters hn ho hm hp hq hL hM1 (fun hb => yb _ hb ⟨rfl, I0⟩) (fun j t hj e hB hex => ?_) (fun j t hj e hB hex => ?_)
  · refine yg _ j hj e hB (fun t2 => ⟨fun _ => ⟨rfl, J j t t2 hB⟩, fun z => absurd ((nr_miss (nr_M_mo ho6 hm3 j) 108).mpr hex) z⟩)
  · refine yg _ j hj e hB (fun t2 => ⟨fun z => absurd ((nr_miss (nr_M_mo ho6 hm3 j) 108).mp z) hex, fun _ => ⟨rfl, J j t t2 hB⟩⟩)
theorem i_vc_trusted {k : Nat} {u : SX} {v : SY} (I : i_Rel k u v) (hk : k + 5 ≤ 2561) (v1 : Int32) : wpX_trusted (fun r u' => wpY_trusted (fun r' v' => r' = r ∧ i_Rel (k + 5) u' v') v v1) u v1 := by
  obtain ⟨n, th, ao, am, ap, aq, tg, gg, gp, gq, go, lc, cw, oc, mb, ne, rfl, rfl, hn1, hn, ho, hm, hp, hq, hg, hp2, hq2, hL⟩ := I
  have J : ∀ (t t2 t3 : Nat → Int32), i_Rel (k + 5) (nI n, nr_bi (nr_hb th) 10, nr_bi (nr_hb tg) 6, ao, am, ap, aq, gg, gp, gq, go, lc, cw, t) (nI n, th, ao, am, ap, aq, tg, gg, gp, gq, go, t2, t3) := fun t t2 t3 => ⟨n, th, ao, am, ap, aq, tg, gg, gp, gq, go, lc, cw, t, t2, t3, rfl, rfl, hn1, hn, ho, hm, hp, hq, hg, hp2, hq2, hL⟩
  refine xi_trusted hn hg hp2 hq2 hL (nr_K_le _ _ _ _ _ _ 108) hn1 (fun hb => ?_) (fun j t hj e => ?_)
  · exact yi_tr hn ho hm hp hq hg hp2 hq2 (fun _ t2 t3 => ⟨rfl, J oc t2 t3⟩) (fun j t2 t3 hj e => absurd ⟨j, hj, e⟩ hb)
  · refine yi_tr hn ho hm hp hq hg hp2 hq2 (fun z => absurd ⟨j, hj, e⟩ z) (fun j' t2 t3 hj' e' => ?_)
    have q1 : j' = j := (nI_eq (by omega) (by omega)).mp (e'.symm.trans e)
    subst q1
    exact ⟨rfl, J t t2 t3⟩
theorem i_vc_trustCost {k : Nat} {u : SX} {v : SY} (I : i_Rel k u v) (hk : k + 5 ≤ 2561) (v1 : Int32) (v2 : Int32) : wpX_trustCost (fun r u' => wpY_trustCost (fun r' v' => r' = r ∧ i_Rel (k + 5) u' v') v v1 v2) u v1 v2 := by
  obtain ⟨n, th, ao, am, ap, aq, tg, gg, gp, gq, go, lc, cw, oc, mb, ne, rfl, rfl, hn1, hn, ho, hm, hp, hq, hg, hp2, hq2, hL⟩ := I
  have J : ∀ (t t2 t3 : Nat → Int32), i_Rel (k + 5) (nI n, nr_bi (nr_hb th) 10, nr_bi (nr_hb tg) 6, ao, am, ap, aq, gg, gp, gq, go, lc, cw, t) (nI n, th, ao, am, ap, aq, tg, gg, gp, gq, go, t2, t3) := fun t t2 t3 => ⟨n, th, ao, am, ap, aq, tg, gg, gp, gq, go, lc, cw, t, t2, t3, rfl, rfl, hn1, hn, ho, hm, hp, hq, hg, hp2, hq2, hL⟩
  refine xi_trustCost hn hg hp2 hq2 hL (nr_K_le _ _ _ _ _ _ 108) hn1 (fun hb => ?_) (fun j i t hj hi e1 e2 => ?_)
  · exact yi_tc hn ho hm hp hq hg hp2 hq2 (fun _ => ⟨rfl, J oc mb ne⟩) (fun j i t2 t3 hj hi e1 e2 => absurd ⟨⟨j, hj, e1⟩, ⟨i, hi, e2⟩⟩ hb)
  · refine yi_tc hn ho hm hp hq hg hp2 hq2 (fun z => absurd ⟨⟨j, hj, e1⟩, ⟨i, hi, e2⟩⟩ z) (fun j' i' t2 t3 hj' hi' e1' e2' => ?_)
    have q1 : j' = j := (nI_eq (by omega) (by omega)).mp (e1'.symm.trans e1)
    have q2 : i' = i := (nI_eq (by omega) (by omega)).mp (e2'.symm.trans e2)
    subst q1 q2
    exact ⟨rfl, J t t2 t3⟩
theorem i_vc_clear {k : Nat} {u : SX} {v : SY} (I : i_Rel k u v) (hk : k + 5 ≤ 2561) : wpX_clear (fun u' => wpY_clear (fun v' => i_Rel (k + 5) u' v') v) u := by
  obtain ⟨n, th, ao, am, ap, aq, tg, gg, gp, gq, go, lc, cw, oc, mb, ne, rfl, rfl, hn1, hn, ho, hm, hp, hq, hg, hp2, hq2, hL⟩ := I
  unfold wpX_clear
  dsimp only
  refine xi_tb (fun t ht => ?_)
  dsimp only
  exact yi_clear (fun s s2 h1 h2 => nr_rel0 hn1 hn ho hm hp hq hg hp2 hq2 h1 h2 ht)
end
