/-! relaxation by rounds: a table of naturals, rules one behind the other, each may lower one place -/
def nr_rx (S : Nat → Nat) (a w : Nat) : Nat → Nat := fun b => if b = a ∧ w < S a then w else S b
def nr_st (A : Nat → Bool) (f : Nat → Nat) (v : Nat → (Nat → Nat) → Nat) (T : Nat → Nat) : Nat → (Nat → Nat)
  | 0 => T
  | j + 1 => if A j = true then nr_rx (nr_st A f v T j) (f j) (v j (nr_st A f v T j)) else nr_st A f v T j
def nr_it (A : Nat → Bool) (f : Nat → Nat) (v : Nat → (Nat → Nat) → Nat) (J : Nat) (T : Nat → Nat) : Nat → (Nat → Nat)
  | 0 => T
  | r + 1 => nr_st A f v (nr_it A f v J T r) J
def nr_mo (v : Nat → (Nat → Nat) → Nat) : Prop := ∀ (j : Nat) (S T : Nat → Nat), (∀ b, S b ≤ T b) → v j S ≤ v j T
def nr_cu (v : Nat → (Nat → Nat) → Nat) : Prop := ∀ (j : Nat) (S T : Nat → Nat) (c : Nat), (∀ b, S b = T b ∨ c ≤ S b) → v j T ≤ v j S ∨ c < v j S
def nr_cl (A : Nat → Bool) (f : Nat → Nat) (v : Nat → (Nat → Nat) → Nat) (J : Nat) (T : Nat → Nat) (c : Nat) : Prop :=
  ∀ j, j < J → A j = true → v j T < T (f j) → c < v j T
def nr_ct (T : Nat → Nat) (c : Nat) : Nat → Nat
  | 0 => 0
  | m + 1 => nr_ct T c m + (if T m ≤ c then 1 else 0)
theorem nr_rx_le (S : Nat → Nat) (a w b : Nat) : nr_rx S a w b ≤ S b := by
  unfold nr_rx
  by_cases h : b = a ∧ w < S a
  · rw [if_pos h]; obtain ⟨rfl, h2⟩ := h; omega
  · rw [if_neg h]; exact Nat.le_refl _
theorem nr_rx_at (S : Nat → Nat) (a w : Nat) : nr_rx S a w a ≤ w := by
  unfold nr_rx
  by_cases h : a = a ∧ w < S a
  · rw [if_pos h]; exact Nat.le_refl _
  · rw [if_neg h]
    have : ¬ w < S a := fun z => h ⟨rfl, z⟩
    omega
theorem nr_rx_no {S : Nat → Nat} {a w : Nat} (h : ¬ w < S a) : nr_rx S a w = S := by
  funext b
  unfold nr_rx
  rw [if_neg (fun z => h z.2)]
theorem nr_rx_or (S : Nat → Nat) (a w b : Nat) : nr_rx S a w b = S b ∨ (b = a ∧ w < S a ∧ nr_rx S a w b = w) := by
  unfold nr_rx
  by_cases h : b = a ∧ w < S a
  · right; rw [if_pos h]; exact ⟨h.1, h.2, rfl⟩
  · left; rw [if_neg h]
theorem nr_st_t {A : Nat → Bool} {f : Nat → Nat} {v : Nat → (Nat → Nat) → Nat} {T : Nat → Nat} {j : Nat} (h : A j = true) :
    nr_st A f v T (j + 1) = nr_rx (nr_st A f v T j) (f j) (v j (nr_st A f v T j)) := by
  show (if A j = true then _ else _) = _
  rw [if_pos h]
theorem nr_st_f {A : Nat → Bool} {f : Nat → Nat} {v : Nat → (Nat → Nat) → Nat} {T : Nat → Nat} {j : Nat} (h : ¬ A j = true) :
    nr_st A f v T (j + 1) = nr_st A f v T j := by
  show (if A j = true then _ else _) = _
  rw [if_neg h]
theorem nr_st_dn (A : Nat → Bool) (f : Nat → Nat) (v : Nat → (Nat → Nat) → Nat) (T : Nat → Nat) (j b : Nat) :
    nr_st A f v T (j + 1) b ≤ nr_st A f v T j b := by
  by_cases h : A j = true
  · rw [nr_st_t h]; exact nr_rx_le _ _ _ _
  · rw [nr_st_f h]; exact Nat.le_refl _
theorem nr_st_an (A : Nat → Bool) (f : Nat → Nat) (v : Nat → (Nat → Nat) → Nat) (T : Nat → Nat) (b j : Nat) :
    ∀ d, nr_st A f v T (j + d) b ≤ nr_st A f v T j b := by
  intro d
  induction d with
  | zero => exact Nat.le_refl _
  | succ d ih => exact Nat.le_trans (nr_st_dn A f v T (j + d) b) ih
theorem nr_st_le (A : Nat → Bool) (f : Nat → Nat) (v : Nat → (Nat → Nat) → Nat) (T : Nat → Nat) (j b : Nat) :
    nr_st A f v T j b ≤ T b := by
  have h := nr_st_an A f v T b 0 j
  rw [Nat.zero_add] at h
  exact h
theorem nr_st_at {A : Nat → Bool} {f : Nat → Nat} {v : Nat → (Nat → Nat) → Nat} (hm : nr_mo v) (T : Nat → Nat) {j J : Nat} (hj : j < J) (hA : A j = true) :
    nr_st A f v T J (f j) ≤ v j T := by
  obtain ⟨d, rfl⟩ : ∃ d, J = (j + 1) + d := ⟨J - (j + 1), by omega⟩
  refine Nat.le_trans (nr_st_an A f v T (f j) (j + 1) d) ?_
  rw [nr_st_t hA]
  exact Nat.le_trans (nr_rx_at _ _ _) (hm j _ _ (fun b => nr_st_le A f v T j b))
theorem nr_st_kp {A : Nat → Bool} {f : Nat → Nat} {v : Nat → (Nat → Nat) → Nat} (hc : nr_cu v) {T : Nat → Nat} {J c : Nat}
    (H : ∀ j, j < J → A j = true → v j T < T (f j) → c ≤ v j T) :
    ∀ j, j ≤ J → ∀ b, nr_st A f v T j b = T b ∨ c ≤ nr_st A f v T j b := by
  intro j
  induction j with
  | zero => intro _ b; left; rfl
  | succ j ih =>
    intro hj b
    have IH := ih (by omega)
    by_cases hA : A j = true
    · rw [nr_st_t hA]
      rcases nr_rx_or (nr_st A f v T j) (f j) (v j (nr_st A f v T j)) b with h | ⟨_, h2, h3⟩
      · rw [h]; exact IH b
      · right
        rw [h3]
        rcases hc j (nr_st A f v T j) T c IH with h4 | h4
        · have h5 := nr_st_le A f v T j (f j)
          have h6 := H j (by omega) hA (by omega)
          omega
        · omega
    · rw [nr_st_f hA]; exact IH b
theorem nr_st_fx {A : Nat → Bool} {f : Nat → Nat} {v : Nat → (Nat → Nat) → Nat} {T : Nat → Nat} {J : Nat}
    (H : ∀ j, j < J → A j = true → ¬ v j T < T (f j)) : ∀ j, j ≤ J → nr_st A f v T j = T := by
  intro j
  induction j with
  | zero => intro _; rfl
  | succ j ih =>
    intro hj
    have IH := ih (by omega)
    by_cases hA : A j = true
    · rw [nr_st_t hA, IH]; exact nr_rx_no (H j (by omega) hA)
    · rw [nr_st_f hA, IH]
theorem nr_st_xf {A : Nat → Bool} {f : Nat → Nat} {v : Nat → (Nat → Nat) → Nat} (hm : nr_mo v) {T : Nat → Nat} {J : Nat}
    (H : nr_st A f v T J = T) : ∀ j, j < J → A j = true → T (f j) ≤ v j T := by
  intro j hj hA
  have h := nr_st_at (f := f) hm T hj hA
  rw [H] at h
  exact h
theorem nr_ct_le (T : Nat → Nat) (c : Nat) : ∀ m, nr_ct T c m ≤ m := by
  intro m
  induction m with
  | zero => exact Nat.le_refl _
  | succ m ih =>
    show nr_ct T c m + (if T m ≤ c then 1 else 0) ≤ m + 1
    by_cases h : T m ≤ c
    · rw [if_pos h]; omega
    · rw [if_neg h]; omega
theorem nr_ct_al (T : Nat → Nat) (c : Nat) : ∀ m, m ≤ nr_ct T c m → ∀ a, a < m → T a ≤ c := by
  intro m
  induction m with
  | zero => intro _ a ha; omega
  | succ m ih =>
    intro h a ha
    have h1 : m + 1 ≤ nr_ct T c m + (if T m ≤ c then 1 else 0) := h
    have h2 := nr_ct_le T c m
    by_cases h3 : T m ≤ c
    · rw [if_pos h3] at h1
      by_cases h4 : a = m
      · rw [h4]; exact h3
      · exact ih (by omega) a (by omega)
    · rw [if_neg h3] at h1; omega
theorem nr_ct_mo {T T' : Nat → Nat} {c c' : Nat} (H : ∀ b, T b ≤ c → T' b ≤ c') : ∀ m, nr_ct T c m ≤ nr_ct T' c' m := by
  intro m
  induction m with
  | zero => exact Nat.le_refl _
  | succ m ih =>
    show nr_ct T c m + (if T m ≤ c then 1 else 0) ≤ nr_ct T' c' m + (if T' m ≤ c' then 1 else 0)
    by_cases h : T m ≤ c
    · rw [if_pos h, if_pos (H m h)]; omega
    · rw [if_neg h]; omega
theorem nr_ct_st {T T' : Nat → Nat} {c c' : Nat} (H : ∀ b, T b ≤ c → T' b ≤ c') {a : Nat} (h1 : ¬ T a ≤ c) (h2 : T' a ≤ c') :
    ∀ m, a < m → nr_ct T c m < nr_ct T' c' m := by
  intro m
  induction m with
  | zero => intro h; omega
  | succ m ih =>
    intro hm
    show nr_ct T c m + (if T m ≤ c then 1 else 0) < nr_ct T' c' m + (if T' m ≤ c' then 1 else 0)
    by_cases e : a = m
    · rw [← e, if_neg h1, if_pos h2]
      have := nr_ct_mo H a
      omega
    · have h3 := ih (by omega)
      by_cases h : T m ≤ c
      · rw [if_pos h, if_pos (H m h)]; omega
      · rw [if_neg h]; omega
theorem nr_ct_eq {T T' : Nat → Nat} {c c' : Nat} : ∀ m, (∀ a, a < m → (T a ≤ c ↔ T' a ≤ c')) → nr_ct T c m = nr_ct T' c' m := by
  intro m
  induction m with
  | zero => intro _; rfl
  | succ m ih =>
    intro H
    show nr_ct T c m + (if T m ≤ c then 1 else 0) = nr_ct T' c' m + (if T' m ≤ c' then 1 else 0)
    rw [ih (fun a ha => H a (by omega))]
    by_cases h : T m ≤ c
    · rw [if_pos h, if_pos ((H m (by omega)).mp h)]
    · rw [if_neg h, if_neg (fun z => h ((H m (by omega)).mpr z))]
theorem nr_least (P : Nat → Prop) (h : ∃ k, P k) : ∃ k, P k ∧ ∀ j, P j → k ≤ j := by
  obtain ⟨k, hk⟩ := h
  induction k using Nat.strongRecOn with
  | _ k ih =>
    by_cases h : ∃ j, j < k ∧ P j
    · obtain ⟨j, hj, pj⟩ := h
      exact ih j hj pj
    · refine ⟨k, hk, fun j pj => ?_⟩
      by_cases hl : j < k
      · exact absurd ⟨j, hl, pj⟩ h
      · omega
/-- a round that lowers something settles one place more -/
theorem nr_round {A : Nat → Bool} {f : Nat → Nat} {v : Nat → (Nat → Nat) → Nat} (hm : nr_mo v) (hc : nr_cu v) {T : Nat → Nat} {J P c : Nat}
    (hf : ∀ j, j < J → A j = true → f j < P) (hcl : nr_cl A f v J T c) (hl : ∃ j, j < J ∧ A j = true ∧ v j T < T (f j)) :
    ∃ c', nr_cl A f v J (nr_st A f v T J) c' ∧ nr_ct T c P < nr_ct (nr_st A f v T J) c' P := by
  obtain ⟨j0, h1, h2, h3⟩ := hl
  obtain ⟨c', ⟨j1, hj1, hA1, hv1, e1⟩, hmin⟩ := nr_least (fun w => ∃ j, j < J ∧ A j = true ∧ v j T < T (f j) ∧ v j T = w) ⟨v j0 T, j0, h1, h2, h3, rfl⟩
  have hmin' : ∀ j, j < J → A j = true → v j T < T (f j) → c' ≤ v j T := fun j a b d => hmin _ ⟨j, a, b, d, rfl⟩
  have hk := nr_st_kp hc hmin' J (Nat.le_refl _)
  have hcc := hcl j1 hj1 hA1 hv1
  refine ⟨c', ?_, ?_⟩
  · intro j hj hA hv
    rcases hc j (nr_st A f v T J) T c' hk with h4 | h4
    · have h5 := nr_st_at (f := f) hm T hj hA
      omega
    · exact h4
  · have h6 := nr_st_at (f := f) hm T hj1 hA1
    exact nr_ct_st (a := f j1) (fun b hb => by have := nr_st_le A f v T J b; omega) (by omega) (by omega) P (hf j1 hj1 hA1)
theorem nr_grow {A : Nat → Bool} {f : Nat → Nat} {v : Nat → (Nat → Nat) → Nat} (hm : nr_mo v) (hc : nr_cu v) {T : Nat → Nat} {J P c s : Nat}
    (hf : ∀ j, j < J → A j = true → f j < P) (hcl : nr_cl A f v J T c) (hs : s ≤ nr_ct T c P) :
    ∀ r, (∃ c', nr_cl A f v J (nr_it A f v J T r) c' ∧ s + r ≤ nr_ct (nr_it A f v J T r) c' P) ∨ nr_st A f v (nr_it A f v J T r) J = nr_it A f v J T r := by
  intro r
  induction r with
  | zero => left; exact ⟨c, hcl, hs⟩
  | succ r ih =>
    rcases ih with ⟨c1, h1, h2⟩ | h
    · by_cases hl : ∃ j, j < J ∧ A j = true ∧ v j (nr_it A f v J T r) < (nr_it A f v J T r) (f j)
      · left
        obtain ⟨c2, h3, h4⟩ := nr_round hm hc hf h1 hl
        refine ⟨c2, h3, ?_⟩
        show s + (r + 1) ≤ nr_ct (nr_st A f v (nr_it A f v J T r) J) c2 P
        omega
      · right
        have h5 := nr_st_fx (A := A) (f := f) (v := v) (T := nr_it A f v J T r) (J := J) (fun j hj hA hv => hl ⟨j, hj, hA, hv⟩) J (Nat.le_refl _)
        show nr_st A f v (nr_st A f v (nr_it A f v J T r) J) J = nr_st A f v (nr_it A f v J T r) J
        rw [h5, h5]
    · right
      show nr_st A f v (nr_st A f v (nr_it A f v J T r) J) J = nr_st A f v (nr_it A f v J T r) J
      rw [h, h]
/-- after as many rounds as places are left the table stands -/
theorem nr_fix {A : Nat → Bool} {f : Nat → Nat} {v : Nat → (Nat → Nat) → Nat} (hm : nr_mo v) (hc : nr_cu v) {T : Nat → Nat} {J P c s : Nat}
    (hf : ∀ j, j < J → A j = true → f j < P) (hcl : nr_cl A f v J T c) (hs : s ≤ nr_ct T c P) {r : Nat} (hr : P ≤ s + r) :
    nr_st A f v (nr_it A f v J T r) J = nr_it A f v J T r := by
  rcases nr_grow hm hc hf hcl hs r with ⟨c1, h1, h2⟩ | h
  · refine nr_st_fx (fun j hj hA hv => ?_) J (Nat.le_refl _)
    have h3 := nr_ct_al (nr_it A f v J T r) c1 P (by omega) (f j) (hf j hj hA)
    have h4 := h1 j hj hA hv
    omega
  · exact h
theorem nr_stay {A : Nat → Bool} {f : Nat → Nat} {v : Nat → (Nat → Nat) → Nat} {T : Nat → Nat} {J r : Nat}
    (h : nr_st A f v (nr_it A f v J T r) J = nr_it A f v J T r) : ∀ m, nr_it A f v J T (r + m) = nr_it A f v J T r := by
  intro m
  induction m with
  | zero => rfl
  | succ m ih =>
    show nr_st A f v (nr_it A f v J T (r + m)) J = nr_it A f v J T r
    rw [ih, h]
/-- fewer rules: nothing lower -/
theorem nr_low {A B : Nat → Bool} {f : Nat → Nat} {v : Nat → (Nat → Nat) → Nat} (hm : nr_mo v) {T U : Nat → Nat} {J : Nat}
    (hAB : ∀ j, j < J → B j = true → A j = true) (hU : ∀ j, j < J → A j = true → U (f j) ≤ v j U) (hT : ∀ b, U b ≤ T b) :
    ∀ j, j ≤ J → ∀ b, U b ≤ nr_st B f v T j b := by
  intro j
  induction j with
  | zero => intro _ b; exact hT b
  | succ j ih =>
    intro hj b
    have IH := ih (by omega)
    by_cases hB : B j = true
    · rw [nr_st_t hB]
      rcases nr_rx_or (nr_st B f v T j) (f j) (v j (nr_st B f v T j)) b with h | ⟨h1, _, h3⟩
      · rw [h]; exact IH b
      · rw [h3, h1]
        exact Nat.le_trans (hU j (by omega) (hAB j (by omega) hB)) (hm j _ _ IH)
    · rw [nr_st_f hB]; exact IH b
theorem nr_lowi {A B : Nat → Bool} {f : Nat → Nat} {v : Nat → (Nat → Nat) → Nat} (hm : nr_mo v) {T U : Nat → Nat} {J : Nat}
    (hAB : ∀ j, j < J → B j = true → A j = true) (hU : ∀ j, j < J → A j = true → U (f j) ≤ v j U) (hT : ∀ b, U b ≤ T b) :
    ∀ r b, U b ≤ nr_it B f v J T r b := by
  intro r
  induction r with
  | zero => exact hT
  | succ r ih => exact fun b => nr_low hm hAB hU ih J (Nat.le_refl _) b
theorem nr_it_le (A : Nat → Bool) (f : Nat → Nat) (v : Nat → (Nat → Nat) → Nat) (J : Nat) (T : Nat → Nat) : ∀ r b, nr_it A f v J T r b ≤ T b := by
  intro r
  induction r with
  | zero => exact fun b => Nat.le_refl _
  | succ r ih => exact fun b => Nat.le_trans (nr_st_le A f v (nr_it A f v J T r) J b) (ih b)
