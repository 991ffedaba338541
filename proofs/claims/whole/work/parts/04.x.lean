/-! ranges -/
def nr_pr (n : Nat) (x : Int32) : Prop := ∃ j : Nat, j < n ∧ x = nI j
theorem nr_pr_n {n j : Nat} (hn : n < 2 ^ 31) (hj : j < 2 ^ 31) (h : nr_pr n (nI j)) : j < n := by
  obtain ⟨i, hi, e⟩ := h
  have := (nI_eq hj (by omega)).mp e
  omega
theorem nr_rng {n : Nat} (hn : n < 2 ^ 31) {x : Int32} {A B : Prop} (h1 : nr_pr n x → B) (h0 : ¬ nr_pr n x → A) :
    (x < 0 → A) ∧ (¬ x < 0 → ((nI n ≤ x → A) ∧ (¬ nI n ≤ x → B))) := by
  by_cases hx : x < 0
  · refine br_t hx (h0 ?_)
    rintro ⟨j, hj, rfl⟩
    exact nI_pos (by omega) hx
  · refine br_f hx ?_
    obtain ⟨j, hj, rfl⟩ := nI_of hx
    by_cases h : j < n
    · exact br_f (nI_ge h hn) (h1 ⟨j, h, rfl⟩)
    · exact br_t (nI_le (by omega) hj) (h0 (fun z => h (nr_pr_n hn hj z)))
theorem nr_rng2 {n : Nat} (hn : n + 1 < 2 ^ 31) {x : Int32} {A B : Prop} (h1 : nr_pr (n + 1) x → B) (h0 : ¬ nr_pr (n + 1) x → A) :
    (x < 0 → A) ∧ (¬ x < 0 → ((nI n < x → A) ∧ (¬ nI n < x → B))) := by
  by_cases hx : x < 0
  · refine br_t hx (h0 ?_)
    rintro ⟨j, hj, rfl⟩
    exact nI_pos (by omega) hx
  · refine br_f hx ?_
    obtain ⟨j, hj, rfl⟩ := nI_of hx
    by_cases h : j < n + 1
    · exact br_f (nI_nlt (by omega) (by omega)) (h1 ⟨j, h, rfl⟩)
    · exact br_t (nI_lt (by omega) hj) (h0 (fun z => h (nr_pr_n hn hj z)))
theorem nr_rng3 {n : Nat} (hn : n + 1 < 2 ^ 31) {x : Int32} {A B : Prop} (h1 : nr_pr (n + 1) x → B) (h0 : ¬ nr_pr (n + 1) x → A) :
    (x < 0 → A) ∧ (¬ x < 0 → ((x ≤ nI n → B) ∧ (¬ x ≤ nI n → A))) := by
  by_cases hx : x < 0
  · refine br_t hx (h0 ?_)
    rintro ⟨j, hj, rfl⟩
    exact nI_pos (by omega) hx
  · refine br_f hx ?_
    obtain ⟨j, hj, rfl⟩ := nI_of hx
    by_cases h : j < n + 1
    · exact br_t (nI_le (by omega) (by omega)) (h1 ⟨j, h, rfl⟩)
    · exact br_f (nI_ge (by omega) hj) (h0 (fun z => h (nr_pr_n hn hj z)))
theorem nr_pl (o m x : Nat) : ((nI o * 3 + nI m) * 6) + nI x = nI (nr_at o m x) := by
  show ((nI o * nI 3 + nI m) * nI 6) + nI x = nI ((o * 3 + m) * 6 + x)
  rw [pk_mul, nI_add, pk_mul, nI_add]
theorem nr_rd {a : Nat → Int32} {k : Nat} {T : Nat → Nat} {i : Nat} (h : nr_R a k T) (hi : i < k) (hk : k < 2 ^ 31) : a (nI i).toNatClampNeg = nI (T i) := by
  rw [nI_clamp (by omega)]; exact h i hi
theorem nr_ro {a : Nat → Int32} {k n : Nat} {i : Nat} (h : nr_ok a k n) (hi : i < k) (hk : k < 2 ^ 31) : a (nI i).toNatClampNeg = nI (nr_cz a i) := by
  rw [nI_clamp (by omega)]; exact (h i hi).2
theorem nr_10 : ¬ (1 : Int32) = 0 := by decide
theorem nr_nb {b : Int32} (h : b = 0 ∨ b = 1) : narrow .boolean (.int b) = .int b := by
  rcases h with rfl | rfl <;> rfl
theorem nr_R_s {a : Nat → Int32} {i : Nat} {T : Nat → Nat} {x : Int32} (h : nr_R a i T) (hx : x = nI (T i)) (hi : i < 2 ^ 31) : nr_R (upd a (nI i).toNatClampNeg x) (i + 1) T := by
  intro j hj
  rw [nI_clamp hi]
  by_cases e : j = i
  · rw [e, pk_us]; exact hx
  · rw [pk_un e]; exact h j (by omega)
theorem nr_R_0 {a : Nat → Int32} {T : Nat → Nat} : nr_R a 0 T := fun j hj => absurd hj (by omega)
section
variable {bc bg : Int32} {ao am ap aq gg gp gq go lc cw oc : Nat → Int32} {n : Nat}
theorem xi_pr {post : Int32 → Prop} {x : Int32} (hn : n ≤ 6) (h1 : nr_pr n x → post 1) (h0 : ¬ nr_pr n x → post 0) : wpX_isPrincipal post (nI n, bc, bg, ao, am, ap, aq, gg, gp, gq, go, lc, cw, oc) x :=
  nr_rng (by omega) h1 h0
theorem xi_nm {post : Int32 → Prop} {x : Int32} (h1 : nr_pr 3 x → post 1) (h0 : ¬ nr_pr 3 x → post 0) : wpX_isName post x :=
  nr_rng (n := 3) (by omega) h1 h0
theorem xi_su {post : Int32 → Prop} {x y : Int32} (hn : n ≤ 6) (h1 : nr_pr n x → nr_pr 13 y → post 1) (h0 : ¬ (nr_pr n x ∧ nr_pr 13 y) → post 0) : wpX_isSubject post (nI n, bc, bg, ao, am, ap, aq, gg, gp, gq, go, lc, cw, oc) x y := by
  unfold wpX_isSubject
  dsimp only
  refine xi_pr hn (fun hx => br_f (by decide) ?_) (fun hx => br_t rfl (h0 (fun z => hx z.1)))
  exact nr_rng (n := 13) (by omega) (h1 hx) (fun hy => h0 (fun z => hy z.2))
theorem xi_hj {B : Nat → Bool} {m j : Nat} {post : Int32 → Prop} (hm : m ≤ 31) (hj : j < m) (h1 : B j = true → post 1) (h0 : ¬ B j = true → post 0) : wpX_isHeld post (nr_bi B m) (nI m) (nI j) := by
  refine br_f (nI_pos (by omega)) (br_f (nI_ge hj (by omega)) ?_)
  by_cases hB : B j = true
  · exact br_t ((nr_held B hm hj).mpr hB) (h1 hB)
  · exact br_f (fun z => hB ((nr_held B hm hj).mp z)) (h0 hB)
theorem xi_he {B : Nat → Bool} {m : Nat} {x : Int32} {post : Int32 → Prop} (hm : m ≤ 31) (h1 : ∀ j, j < m → x = nI j → B j = true → post 1) (h0 : (∀ j, j < m → x = nI j → ¬ B j = true) → post 0) : wpX_isHeld post (nr_bi B m) (nI m) x := by
  by_cases hp : nr_pr m x
  · obtain ⟨j, hj, rfl⟩ := hp
    refine xi_hj hm hj (fun hB => h1 j hj rfl hB) (fun hB => h0 ?_)
    intro i hi e
    have := (nI_eq (by omega) (by omega)).mp e
    subst this
    exact hB
  · exact nr_rng (by omega) (fun z => absurd z hp) (fun _ => h0 (fun j hj e => absurd ⟨j, hj, e⟩ hp))
theorem xi_lf {B : Nat → Bool} {m : Nat} {post : Int32 → Prop} (hm : m ≤ 31) (hf : ∀ i, i < m → ¬ B i = true → (∀ j, j < i → B j = true) → post (nI i)) (hF : (∀ j, j < m → B j = true) → post (-2)) : wpX_leastFree post (nr_bi B m) (nI m) := by
  refine loop_0 (fun f i (_ : Unit) => wX_leastFree_2 post (nr_bi B m) (nI m) f (nI i)) (fun i _ => ∀ j, j < i → B j = true) m () lt_0 ?_ ?_
  · intro f s hI
    exact br_t (nI_le (Nat.le_refl _) (by omega)) (hF hI)
  · intro f i s hi hI ih
    exact br_f (nI_ge hi (by omega)) (xi_hj hm hi (fun hb => br_f (by decide) (nm_r (nI_1 i) (ih () (lt_s hI hb)))) (fun hb => br_t rfl (hf i hi hb hI)))
theorem xi_pl {post : Int32 → Prop} {a b c : Int32} {o m x : Nat} (ha : a = nI o) (hb : b = nI m) (hc : c = nI x) (h : post (nI (nr_at o m x))) : wpX_place post a b c := by
  subst ha hb hc
  unfold wpX_place
  rw [nr_pl]
  exact h
theorem xi_cn {post : Int32 → Prop} {c : Nat} (hc : c ≤ 1000) (h1 : c < 1000 → post (nI c)) (h0 : ¬ c < 1000 → post (-1)) : wpX_costOrNone post (nI c) :=
  pk_le 1000 c (fun h => h0 (by omega)) (fun h => h1 (by omega))
theorem xi_tb {post : SX → Prop} (h : ∀ t, nr_R t 108 (fun _ => 1000) → post (nI n, 0, 0, ao, am, ap, aq, gg, gp, gq, go, t, cw, oc)) : wpX_takeAllBack post (nI n, bc, bg, ao, am, ap, aq, gg, gp, gq, go, lc, cw, oc) := by
  refine loop_0 (fun f i s => wX_takeAllBack_12 post (nI n) 0 0 f (nI i) ao am ap aq gg gp gq go s cw oc) (fun i s => nr_R s i (fun _ => 1000)) 108 lc nr_R_0 ?_ ?_
  · intro f s hI
    exact br_t (nI_le (b := 108) (Nat.le_refl _) (by omega)) (h s hI)
  · intro f i s hi hI ih
    exact br_f (nI_ge (b := 108) hi (by omega)) ⟨vp_in_nI hi (by omega), nm_e (nm_r (nI_1 i) (ih _ (nr_R_s hI rfl (by omega))))⟩
theorem xi_d6 {post : Int32 → Prop} {T : Nat → Nat} {p x a b : Nat} (hn : n ≤ 6) (hR : nr_R lc 108 T) (hT : ∀ b, T b ≤ 1000) (hp : p < 6) (ha : a < 3) (hb : b < 3) (hx : x < 6) (h : post (nI (nr_mn T p a b x n))) :
    ∃ f, wX_denotingCost__leastCost_62 post (nI p) (nI x) (nI a) (nI b) (nI n) bc bg ao am ap aq gg gp gq go lc cw oc f 1000 0 := by
  refine loop_0 (fun f i s => wX_denotingCost__leastCost_62 post (nI p) (nI x) (nI a) (nI b) (nI n) bc bg ao am ap aq gg gp gq go lc cw oc f s (nI i)) (fun i s => s = nI (nr_mn T p a b x i)) n (nI 1000) rfl ?_ ?_
  · intro f s hI
    subst hI
    exact br_t (nI_le (Nat.le_refl _) (by omega)) h
  · intro f i s hi hI ih
    subst hI
    have l1 : nr_at p a i < 108 := nr_at_lt hp ha (by omega)
    have l2 : nr_at i b x < 108 := nr_at_lt (by omega) hb hx
    have e : lc (nI (nr_at p a i)).toNatClampNeg + lc (nI (nr_at i b x)).toNatClampNeg = nI (T (nr_at p a i) + T (nr_at i b x)) := by
      rw [nr_rd hR l1 (by omega), nr_rd hR l2 (by omega), nI_add]
    have b1 := hT (nr_at p a i)
    have b2 := hT (nr_at i b x)
    have b3 := nr_mn_le T p a b x i
    refine br_f (nI_ge hi (by omega)) (xi_pl rfl rfl rfl (xi_pl rfl rfl rfl ⟨vp_in_nI l1 (by omega), vp_in_nI l2 (by omega), nm_r e ?_⟩))
    refine pk_le (nr_mn T p a b x i) (T (nr_at p a i) + T (nr_at i b x)) (fun z => nm_r (nI_1 i) (ih _ ?_)) (fun z => nm_r (nI_1 i) (ih _ ?_))
    · rw [nr_mn_s, if_neg (by omega)]
    · rw [nr_mn_s, if_pos (by omega)]
theorem xi_dn {post : Int32 → Prop} {T : Nat → Nat} {p q x : Nat} {P Q X : Int32} (hn : n ≤ 6) (hR : nr_R lc 108 T) (hT : ∀ b, T b ≤ 1000) (hp : p < 6) (hq : q < 13) (hx : x < 6) (eP : P = nI p) (eQ : Q = nI q) (eX : X = nI x) (h : post (nI (nr_dn n T p q x))) :
    wpX_denotingCost__leastCost post (nI n, bc, bg, ao, am, ap, aq, gg, gp, gq, go, lc, cw, oc) P Q X := by
  subst eP eQ eX
  refine pk_le 1 q (fun h1 => pk_le 4 q (fun h4 => ?_) (fun h4 => ?_)) (fun h1 => ?_)
  · rw [nr_dn_2 (by omega)] at h
    have e0 : nI q - 4 = nI (q - 4) := pk_sub h4
    have e1 : (nI q - 4) / 3 = nI ((q - 4) / 3) := by rw [e0]; exact pk_div (d := 3) (by omega) (by omega) (by omega)
    have e2 : (nI q - 4) - (nI q - 4) / 3 * 3 = nI ((q - 4) % 3) := by rw [e0]; exact pk_rem (d := 3) (by omega) (by omega) (by omega)
    exact ⟨by decide, nm_r e1 ⟨by decide, nm_r e2 (xi_d6 hn hR hT hp (by omega) (by omega) hx h)⟩⟩
  · rw [nr_dn_1 (by omega) (by omega)] at h
    have l1 : nr_at p (q - 1) x < 108 := nr_at_lt hp (by omega) hx
    refine xi_pl rfl (pk_sub h1) rfl ⟨vp_in_nI l1 (by omega), ?_⟩
    rw [nr_rd hR l1 (by omega)]
    exact h
  · rw [nr_dn_0 (by omega)] at h
    refine pk_eq p x (fun e => ?_) (fun e => ?_)
    · rw [if_pos e] at h; exact h
    · rw [if_neg e] at h; exact h
theorem xi_ap {post : Int32 → SX → Prop} {H : Nat → Bool} {T : Nat → Nat} {i : Nat} (hn : n ≤ 6) (ho : nr_ok ao 10 n) (hm : nr_ok am 10 3) (hp : nr_ok ap 10 n) (hq : nr_ok aq 10 13) (hi : i < 10) (hH : H i = true) (hT : ∀ b, T b ≤ 1000)
    (hR : nr_R lc 108 (nr_cs n H (nr_cz ao) (nr_cz am) (nr_cz ap) (nr_cz aq) T (6 * i)))
    (h : ∀ b t, (b = 0 ∨ b = 1) → nr_R t 108 (nr_cs n H (nr_cz ao) (nr_cz am) (nr_cz ap) (nr_cz aq) T (6 * (i + 1))) → (b = 0 → nr_cs n H (nr_cz ao) (nr_cz am) (nr_cz ap) (nr_cz aq) T (6 * (i + 1)) = nr_cs n H (nr_cz ao) (nr_cz am) (nr_cz ap) (nr_cz aq) T (6 * i)) → post b (nI n, bc, bg, ao, am, ap, aq, gg, gp, gq, go, t, cw, oc)) :
    wpX_applyCertificate__leastCost post (nI n, bc, bg, ao, am, ap, aq, gg, gp, gq, go, lc, cw, oc) (nI i) := by
  refine loop_0 (fun f x (s : Int32 × (Nat → Int32)) => wX_applyCertificate__leastCost_5 post (nI i) (nI n) bc bg f s.1 (nI x) ao am ap aq gg gp gq go s.2 cw oc) (fun x s => (s.1 = 0 ∨ s.1 = 1) ∧ nr_R s.2 108 (nr_cs n H (nr_cz ao) (nr_cz am) (nr_cz ap) (nr_cz aq) T (6 * i + x)) ∧ (s.1 = 0 → nr_cs n H (nr_cz ao) (nr_cz am) (nr_cz ap) (nr_cz aq) T (6 * i + x) = nr_cs n H (nr_cz ao) (nr_cz am) (nr_cz ap) (nr_cz aq) T (6 * i))) n (0, lc) ⟨Or.inl rfl, hR, fun _ => rfl⟩ ?_ ?_
  · rintro f ⟨b, t⟩ ⟨h1, h2, h3⟩
    dsimp only at h1 h2 h3
    rw [← nr_cs_e (i := i) hn] at h2 h3
    exact br_t (nI_le (Nat.le_refl _) (by omega)) ⟨nr_nb h1, h b t h1 h2 h3⟩
  · rintro f x ⟨b, t⟩ hx ⟨h1, h2, h3⟩ ih
    dsimp only at h1 h2 h3
    dsimp only
    have vi : vp_in (nI i) 10 := vp_in_nI hi (by omega)
    have la : nr_at (nr_cz ao i) (nr_cz am i) x < 108 := nr_at_lt (by have := (ho i hi).1; omega) (hm i hi).1 (by omega)
    have hT' := nr_cs_le n H (nr_cz ao) (nr_cz am) (nr_cz ap) (nr_cz aq) hT (6 * i + x)
    have es := nr_cs_t (o := nr_cz ao) (m := nr_cz am) (p := nr_cz ap) (q := nr_cz aq) (T := T) hn hx hH
    generalize hS : nr_cs n H (nr_cz ao) (nr_cz am) (nr_cz ap) (nr_cz aq) T (6 * i + x) = S at h2 h3 hT' es
    have bd := nr_dn_le hT' n (nr_cz ap i) (nr_cz aq i) x
    have bt := hT' (nr_at (nr_cz ao i) (nr_cz am i) x)
    refine br_f (nI_ge hx (by omega)) ⟨vi, vi, xi_dn hn h2 hT' (by have := (hp i hi).1; omega) (hq i hi).1 (by omega) (nr_ro hp hi (by omega)) (nr_ro hq hi (by omega)) rfl (nm_r (nI_add 1 _) ⟨vi, vi, xi_pl (nr_ro ho hi (by omega)) (nr_ro hm hi (by omega)) rfl ⟨vp_in_nI la (by omega), ?_⟩⟩)⟩
    rw [nr_rd h2 la (by omega)]
    refine pk_le (S (nr_at (nr_cz ao i) (nr_cz am i) x)) (1 + nr_dn n S (nr_cz ap i) (nr_cz aq i) x) (fun z => nm_r (nI_1 x) (ih (b, t) ?_)) (fun z => ⟨vp_in_nI la (by omega), nm_e (nm_r (nI_1 x) (ih (1, _) ?_))⟩)
    · have e2 := es.trans (nr_rx_no (by omega))
      refine ⟨h1, ?_, fun hb => ?_⟩
      · rw [e2]; exact h2
      · rw [e2]; exact h3 hb
    · refine ⟨Or.inr rfl, ?_, fun hb => absurd hb nr_10⟩
      rw [es, nI_clamp (by omega)]
      exact nr_R_u h2 z
theorem xi_r41 {post : SX → Prop} {J : Int32 → Int32 → Int32 → Int32 → Int32 → (Nat → Int32) → (Nat → Int32) → (Nat → Int32) → (Nat → Int32) → (Nat → Int32) → (Nat → Int32) → (Nat → Int32) → (Nat → Int32) → (Nat → Int32) → (Nat → Int32) → (Nat → Int32) → Prop} {B : Nat → Bool} {T : Nat → Nat} {r : Nat} (hn : n ≤ 6) (ho : nr_ok ao 10 n) (hm : nr_ok am 10 3) (hp : nr_ok ap 10 n) (hq : nr_ok aq 10 13) (hT : ∀ b, T b ≤ 1000) (hR : nr_R lc 108 T)
    (h : ∀ b t, (b = 0 ∨ b = 1) → nr_R t 108 (nr_cs n B (nr_cz ao) (nr_cz am) (nr_cz ap) (nr_cz aq) T 60) → (b = 0 → nr_cs n B (nr_cz ao) (nr_cz am) (nr_cz ap) (nr_cz aq) T 60 = T) → J b (nI (r + 1)) (nI n) bc bg ao am ap aq gg gp gq go t cw oc) :
    ∃ f, wX_resolve__leastCost_41 post J (nr_bi B 10) (nI r) f 0 0 (nI n) bc bg ao am ap aq gg gp gq go lc cw oc := by
  refine loop_0 (fun f i (s : Int32 × (Nat → Int32)) => wX_resolve__leastCost_41 post J (nr_bi B 10) (nI r) f s.1 (nI i) (nI n) bc bg ao am ap aq gg gp gq go s.2 cw oc) (fun i s => (s.1 = 0 ∨ s.1 = 1) ∧ nr_R s.2 108 (nr_cs n B (nr_cz ao) (nr_cz am) (nr_cz ap) (nr_cz aq) T (6 * i)) ∧ (s.1 = 0 → nr_cs n B (nr_cz ao) (nr_cz am) (nr_cz ap) (nr_cz aq) T (6 * i) = T)) 10 (0, lc) ⟨Or.inl rfl, hR, fun _ => rfl⟩ ?_ ?_
  · rintro f ⟨b, t⟩ ⟨h1, h2, h3⟩
    exact br_t (nI_le (b := 10) (Nat.le_refl _) (by omega)) (nm_r (nI_1 r) (h b t h1 h2 h3))
  · rintro f i ⟨b, t⟩ hi ⟨h1, h2, h3⟩ ih
    dsimp only at h1 h2 h3
    refine br_f (nI_ge (b := 10) hi (by omega)) (xi_hj (m := 10) (by omega) hi (fun hB => br_f (by decide) ?_) (fun hB => br_t rfl (nm_r (nI_1 i) (ih (b, t) ⟨h1, ?_, ?_⟩))))
    · refine xi_ap hn ho hm hp hq hi hB hT h2 (fun b' t' g1 g2 g3 => ?_)
      refine br_c (fun z => nm_r (nI_1 i) (ih (b, t') ⟨h1, g2, fun hb => ?_⟩)) (fun z => nm_r (nI_1 i) (ih (1, t') ⟨Or.inr rfl, g2, fun hb => absurd hb nr_10⟩))
      exact (g3 z).trans (h3 hb)
    · show nr_R t 108 _
      rw [nr_cs_f hB]; exact h2
    · intro hb
      rw [nr_cs_f hB]; exact h3 hb
theorem xi_r25 {post : SX → Prop} {B : Nat → Bool} (hn : n ≤ 6) (ho : nr_ok ao 10 n) (hm : nr_ok am 10 3) (hp : nr_ok ap 10 n) (hq : nr_ok aq 10 13) (hR : nr_R lc 108 (fun _ => 1000))
    (h : ∀ t, nr_R t 108 (nr_M n B (nr_cz ao) (nr_cz am) (nr_cz ap) (nr_cz aq)) → post (nI n, bc, bg, ao, am, ap, aq, gg, gp, gq, go, t, cw, oc)) :
    ∃ f, wX_resolve__leastCost_25 post (nr_bi B 10) f 1 0 (nI n) bc bg ao am ap aq gg gp gq go lc cw oc := by
  have ho6 : ∀ i, i < 10 → nr_cz ao i < 6 := fun i hi => by have := (ho i hi).1; omega
  have hm3 : ∀ i, i < 10 → nr_cz am i < 3 := fun i hi => (hm i hi).1
  refine loop_0 (fun f r (s : Int32 × (Nat → Int32)) => wX_resolve__leastCost_25 post (nr_bi B 10) f s.1 (nI r) (nI n) bc bg ao am ap aq gg gp gq go s.2 cw oc) (fun r s => (s.1 = 0 ∨ s.1 = 1) ∧ nr_R s.2 108 (nr_K n B (nr_cz ao) (nr_cz am) (nr_cz ap) (nr_cz aq) r) ∧ (s.1 = 0 → nr_cs n B (nr_cz ao) (nr_cz am) (nr_cz ap) (nr_cz aq) (nr_K n B (nr_cz ao) (nr_cz am) (nr_cz ap) (nr_cz aq) r) 60 = nr_K n B (nr_cz ao) (nr_cz am) (nr_cz ap) (nr_cz aq) r)) 108 (1, lc) ⟨Or.inr rfl, hR, fun z => absurd z nr_10⟩ ?_ ?_
  · rintro f ⟨b, t⟩ ⟨h1, h2, h3⟩
    exact br_t (nI_le (b := 108) (Nat.le_refl _) (by omega)) (h t h2)
  · rintro f r ⟨b, t⟩ hr ⟨h1, h2, h3⟩ ih
    dsimp only at h1 h2 h3
    refine br_f (nI_ge (b := 108) hr (by omega)) (br_c (fun z => h t ?_) (fun z => ?_))
    · rw [← nr_K_dn (h3 z) ho6 hm3]; exact h2
    · refine xi_r41 (r := r) hn ho hm hp hq (nr_K_le _ _ _ _ _ _ r) h2 (fun b' t' g1 g2 g3 => ih (b', t') ⟨g1, g2, fun hb => ?_⟩)
      rw [nr_K_s, g3 hb, g3 hb]
theorem xi_re {post : SX → Prop} {B : Nat → Bool} (hn : n ≤ 6) (ho : nr_ok ao 10 n) (hm : nr_ok am 10 3) (hp : nr_ok ap 10 n) (hq : nr_ok aq 10 13)
    (h : ∀ t, nr_R t 108 (nr_M n B (nr_cz ao) (nr_cz am) (nr_cz ap) (nr_cz aq)) → post (nI n, bc, bg, ao, am, ap, aq, gg, gp, gq, go, t, cw, oc)) :
    wpX_resolve__leastCost post (nI n, bc, bg, ao, am, ap, aq, gg, gp, gq, go, lc, cw, oc) (nr_bi B 10) := by
  refine loop_0 (fun f i s => wX_resolve__leastCost_2 post (nr_bi B 10) (nI n) bc bg f (nI i) ao am ap aq gg gp gq go s cw oc) (fun i s => nr_R s i (fun _ => 1000)) 108 lc nr_R_0 ?_ ?_
  · intro f s hI
    exact br_t (nI_le (b := 108) (Nat.le_refl _) (by omega)) (xi_r25 hn ho hm hp hq hI h)
  · intro f i s hi hI ih
    exact br_f (nI_ge (b := 108) hi (by omega)) ⟨vp_in_nI hi (by omega), nm_e (nm_r (nI_1 i) (ih _ (nr_R_s hI rfl (by omega))))⟩
theorem xi_d6w {post : Int32 → Prop} {T : Nat → Nat} {p x a b : Nat} (hn : n ≤ 6) (hR : nr_R cw 108 T) (hT : ∀ b, T b ≤ 1000) (hp : p < 6) (ha : a < 3) (hb : b < 3) (hx : x < 6) (h : post (nI (nr_mn T p a b x n))) :
    ∃ f, wX_denotingCost__costWithoutOne_62 post (nI p) (nI x) (nI a) (nI b) (nI n) bc bg ao am ap aq gg gp gq go lc cw oc f 1000 0 := by
  refine loop_0 (fun f i s => wX_denotingCost__costWithoutOne_62 post (nI p) (nI x) (nI a) (nI b) (nI n) bc bg ao am ap aq gg gp gq go lc cw oc f s (nI i)) (fun i s => s = nI (nr_mn T p a b x i)) n (nI 1000) rfl ?_ ?_
  · intro f s hI
    subst hI
    exact br_t (nI_le (Nat.le_refl _) (by omega)) h
  · intro f i s hi hI ih
    subst hI
    have l1 : nr_at p a i < 108 := nr_at_lt hp ha (by omega)
    have l2 : nr_at i b x < 108 := nr_at_lt (by omega) hb hx
    have e : cw (nI (nr_at p a i)).toNatClampNeg + cw (nI (nr_at i b x)).toNatClampNeg = nI (T (nr_at p a i) + T (nr_at i b x)) := by
      rw [nr_rd hR l1 (by omega), nr_rd hR l2 (by omega), nI_add]
    have b1 := hT (nr_at p a i)
    have b2 := hT (nr_at i b x)
    have b3 := nr_mn_le T p a b x i
    refine br_f (nI_ge hi (by omega)) (xi_pl rfl rfl rfl (xi_pl rfl rfl rfl ⟨vp_in_nI l1 (by omega), vp_in_nI l2 (by omega), nm_r e ?_⟩))
    refine pk_le (nr_mn T p a b x i) (T (nr_at p a i) + T (nr_at i b x)) (fun z => nm_r (nI_1 i) (ih _ ?_)) (fun z => nm_r (nI_1 i) (ih _ ?_))
    · rw [nr_mn_s, if_neg (by omega)]
    · rw [nr_mn_s, if_pos (by omega)]
theorem xi_dnw {post : Int32 → Prop} {T : Nat → Nat} {p q x : Nat} {P Q X : Int32} (hn : n ≤ 6) (hR : nr_R cw 108 T) (hT : ∀ b, T b ≤ 1000) (hp : p < 6) (hq : q < 13) (hx : x < 6) (eP : P = nI p) (eQ : Q = nI q) (eX : X = nI x) (h : post (nI (nr_dn n T p q x))) :
    wpX_denotingCost__costWithoutOne post (nI n, bc, bg, ao, am, ap, aq, gg, gp, gq, go, lc, cw, oc) P Q X := by
  subst eP eQ eX
  refine pk_le 1 q (fun h1 => pk_le 4 q (fun h4 => ?_) (fun h4 => ?_)) (fun h1 => ?_)
  · rw [nr_dn_2 (by omega)] at h
    have e0 : nI q - 4 = nI (q - 4) := pk_sub h4
    have e1 : (nI q - 4) / 3 = nI ((q - 4) / 3) := by rw [e0]; exact pk_div (d := 3) (by omega) (by omega) (by omega)
    have e2 : (nI q - 4) - (nI q - 4) / 3 * 3 = nI ((q - 4) % 3) := by rw [e0]; exact pk_rem (d := 3) (by omega) (by omega) (by omega)
    exact ⟨by decide, nm_r e1 ⟨by decide, nm_r e2 (xi_d6w hn hR hT hp (by omega) (by omega) hx h)⟩⟩
  · rw [nr_dn_1 (by omega) (by omega)] at h
    have l1 : nr_at p (q - 1) x < 108 := nr_at_lt hp (by omega) hx
    refine xi_pl rfl (pk_sub h1) rfl ⟨vp_in_nI l1 (by omega), ?_⟩
    rw [nr_rd hR l1 (by omega)]
    exact h
  · rw [nr_dn_0 (by omega)] at h
    refine pk_eq p x (fun e => ?_) (fun e => ?_)
    · rw [if_pos e] at h; exact h
    · rw [if_neg e] at h; exact h
theorem xi_apw {post : Int32 → SX → Prop} {H : Nat → Bool} {T : Nat → Nat} {i : Nat} (hn : n ≤ 6) (ho : nr_ok ao 10 n) (hm : nr_ok am 10 3) (hp : nr_ok ap 10 n) (hq : nr_ok aq 10 13) (hi : i < 10) (hH : H i = true) (hT : ∀ b, T b ≤ 1000)
    (hR : nr_R cw 108 (nr_cs n H (nr_cz ao) (nr_cz am) (nr_cz ap) (nr_cz aq) T (6 * i)))
    (h : ∀ b t, (b = 0 ∨ b = 1) → nr_R t 108 (nr_cs n H (nr_cz ao) (nr_cz am) (nr_cz ap) (nr_cz aq) T (6 * (i + 1))) → (b = 0 → nr_cs n H (nr_cz ao) (nr_cz am) (nr_cz ap) (nr_cz aq) T (6 * (i + 1)) = nr_cs n H (nr_cz ao) (nr_cz am) (nr_cz ap) (nr_cz aq) T (6 * i)) → post b (nI n, bc, bg, ao, am, ap, aq, gg, gp, gq, go, lc, t, oc)) :
    wpX_applyCertificate__costWithoutOne post (nI n, bc, bg, ao, am, ap, aq, gg, gp, gq, go, lc, cw, oc) (nI i) := by
  refine loop_0 (fun f x (s : Int32 × (Nat → Int32)) => wX_applyCertificate__costWithoutOne_5 post (nI i) (nI n) bc bg f s.1 (nI x) ao am ap aq gg gp gq go lc s.2 oc) (fun x s => (s.1 = 0 ∨ s.1 = 1) ∧ nr_R s.2 108 (nr_cs n H (nr_cz ao) (nr_cz am) (nr_cz ap) (nr_cz aq) T (6 * i + x)) ∧ (s.1 = 0 → nr_cs n H (nr_cz ao) (nr_cz am) (nr_cz ap) (nr_cz aq) T (6 * i + x) = nr_cs n H (nr_cz ao) (nr_cz am) (nr_cz ap) (nr_cz aq) T (6 * i))) n (0, cw) ⟨Or.inl rfl, hR, fun _ => rfl⟩ ?_ ?_
  · rintro f ⟨b, t⟩ ⟨h1, h2, h3⟩
    dsimp only at h1 h2 h3
    rw [← nr_cs_e (i := i) hn] at h2 h3
    exact br_t (nI_le (Nat.le_refl _) (by omega)) ⟨nr_nb h1, h b t h1 h2 h3⟩
  · rintro f x ⟨b, t⟩ hx ⟨h1, h2, h3⟩ ih
    dsimp only at h1 h2 h3
    dsimp only
    have vi : vp_in (nI i) 10 := vp_in_nI hi (by omega)
    have la : nr_at (nr_cz ao i) (nr_cz am i) x < 108 := nr_at_lt (by have := (ho i hi).1; omega) (hm i hi).1 (by omega)
    have hT' := nr_cs_le n H (nr_cz ao) (nr_cz am) (nr_cz ap) (nr_cz aq) hT (6 * i + x)
    have es := nr_cs_t (o := nr_cz ao) (m := nr_cz am) (p := nr_cz ap) (q := nr_cz aq) (T := T) hn hx hH
    generalize hS : nr_cs n H (nr_cz ao) (nr_cz am) (nr_cz ap) (nr_cz aq) T (6 * i + x) = S at h2 h3 hT' es
    have bd := nr_dn_le hT' n (nr_cz ap i) (nr_cz aq i) x
    have bt := hT' (nr_at (nr_cz ao i) (nr_cz am i) x)
    refine br_f (nI_ge hx (by omega)) ⟨vi, vi, xi_dnw hn h2 hT' (by have := (hp i hi).1; omega) (hq i hi).1 (by omega) (nr_ro hp hi (by omega)) (nr_ro hq hi (by omega)) rfl (nm_r (nI_add 1 _) ⟨vi, vi, xi_pl (nr_ro ho hi (by omega)) (nr_ro hm hi (by omega)) rfl ⟨vp_in_nI la (by omega), ?_⟩⟩)⟩
    rw [nr_rd h2 la (by omega)]
    refine pk_le (S (nr_at (nr_cz ao i) (nr_cz am i) x)) (1 + nr_dn n S (nr_cz ap i) (nr_cz aq i) x) (fun z => nm_r (nI_1 x) (ih (b, t) ?_)) (fun z => ⟨vp_in_nI la (by omega), nm_e (nm_r (nI_1 x) (ih (1, _) ?_))⟩)
    · have e2 := es.trans (nr_rx_no (by omega))
      refine ⟨h1, ?_, fun hb => ?_⟩
      · rw [e2]; exact h2
      · rw [e2]; exact h3 hb
    · refine ⟨Or.inr rfl, ?_, fun hb => absurd hb nr_10⟩
      rw [es, nI_clamp (by omega)]
      exact nr_R_u h2 z
theorem xi_r41w {post : SX → Prop} {J : Int32 → Int32 → Int32 → Int32 → Int32 → (Nat → Int32) → (Nat → Int32) → (Nat → Int32) → (Nat → Int32) → (Nat → Int32) → (Nat → Int32) → (Nat → Int32) → (Nat → Int32) → (Nat → Int32) → (Nat → Int32) → (Nat → Int32) → Prop} {B : Nat → Bool} {T : Nat → Nat} {r : Nat} (hn : n ≤ 6) (ho : nr_ok ao 10 n) (hm : nr_ok am 10 3) (hp : nr_ok ap 10 n) (hq : nr_ok aq 10 13) (hT : ∀ b, T b ≤ 1000) (hR : nr_R cw 108 T)
    (h : ∀ b t, (b = 0 ∨ b = 1) → nr_R t 108 (nr_cs n B (nr_cz ao) (nr_cz am) (nr_cz ap) (nr_cz aq) T 60) → (b = 0 → nr_cs n B (nr_cz ao) (nr_cz am) (nr_cz ap) (nr_cz aq) T 60 = T) → J b (nI (r + 1)) (nI n) bc bg ao am ap aq gg gp gq go lc t oc) :
    ∃ f, wX_resolve__costWithoutOne_41 post J (nr_bi B 10) (nI r) f 0 0 (nI n) bc bg ao am ap aq gg gp gq go lc cw oc := by
  refine loop_0 (fun f i (s : Int32 × (Nat → Int32)) => wX_resolve__costWithoutOne_41 post J (nr_bi B 10) (nI r) f s.1 (nI i) (nI n) bc bg ao am ap aq gg gp gq go lc s.2 oc) (fun i s => (s.1 = 0 ∨ s.1 = 1) ∧ nr_R s.2 108 (nr_cs n B (nr_cz ao) (nr_cz am) (nr_cz ap) (nr_cz aq) T (6 * i)) ∧ (s.1 = 0 → nr_cs n B (nr_cz ao) (nr_cz am) (nr_cz ap) (nr_cz aq) T (6 * i) = T)) 10 (0, cw) ⟨Or.inl rfl, hR, fun _ => rfl⟩ ?_ ?_
  · rintro f ⟨b, t⟩ ⟨h1, h2, h3⟩
    exact br_t (nI_le (b := 10) (Nat.le_refl _) (by omega)) (nm_r (nI_1 r) (h b t h1 h2 h3))
  · rintro f i ⟨b, t⟩ hi ⟨h1, h2, h3⟩ ih
    dsimp only at h1 h2 h3
    refine br_f (nI_ge (b := 10) hi (by omega)) (xi_hj (m := 10) (by omega) hi (fun hB => br_f (by decide) ?_) (fun hB => br_t rfl (nm_r (nI_1 i) (ih (b, t) ⟨h1, ?_, ?_⟩))))
    · refine xi_apw hn ho hm hp hq hi hB hT h2 (fun b' t' g1 g2 g3 => ?_)
      refine br_c (fun z => nm_r (nI_1 i) (ih (b, t') ⟨h1, g2, fun hb => ?_⟩)) (fun z => nm_r (nI_1 i) (ih (1, t') ⟨Or.inr rfl, g2, fun hb => absurd hb nr_10⟩))
      exact (g3 z).trans (h3 hb)
    · show nr_R t 108 _
      rw [nr_cs_f hB]; exact h2
    · intro hb
      rw [nr_cs_f hB]; exact h3 hb
theorem xi_r25w {post : SX → Prop} {B : Nat → Bool} (hn : n ≤ 6) (ho : nr_ok ao 10 n) (hm : nr_ok am 10 3) (hp : nr_ok ap 10 n) (hq : nr_ok aq 10 13) (hR : nr_R cw 108 (fun _ => 1000))
    (h : ∀ t, nr_R t 108 (nr_M n B (nr_cz ao) (nr_cz am) (nr_cz ap) (nr_cz aq)) → post (nI n, bc, bg, ao, am, ap, aq, gg, gp, gq, go, lc, t, oc)) :
    ∃ f, wX_resolve__costWithoutOne_25 post (nr_bi B 10) f 1 0 (nI n) bc bg ao am ap aq gg gp gq go lc cw oc := by
  have ho6 : ∀ i, i < 10 → nr_cz ao i < 6 := fun i hi => by have := (ho i hi).1; omega
  have hm3 : ∀ i, i < 10 → nr_cz am i < 3 := fun i hi => (hm i hi).1
  refine loop_0 (fun f r (s : Int32 × (Nat → Int32)) => wX_resolve__costWithoutOne_25 post (nr_bi B 10) f s.1 (nI r) (nI n) bc bg ao am ap aq gg gp gq go lc s.2 oc) (fun r s => (s.1 = 0 ∨ s.1 = 1) ∧ nr_R s.2 108 (nr_K n B (nr_cz ao) (nr_cz am) (nr_cz ap) (nr_cz aq) r) ∧ (s.1 = 0 → nr_cs n B (nr_cz ao) (nr_cz am) (nr_cz ap) (nr_cz aq) (nr_K n B (nr_cz ao) (nr_cz am) (nr_cz ap) (nr_cz aq) r) 60 = nr_K n B (nr_cz ao) (nr_cz am) (nr_cz ap) (nr_cz aq) r)) 108 (1, cw) ⟨Or.inr rfl, hR, fun z => absurd z nr_10⟩ ?_ ?_
  · rintro f ⟨b, t⟩ ⟨h1, h2, h3⟩
    exact br_t (nI_le (b := 108) (Nat.le_refl _) (by omega)) (h t h2)
  · rintro f r ⟨b, t⟩ hr ⟨h1, h2, h3⟩ ih
    dsimp only at h1 h2 h3
    refine br_f (nI_ge (b := 108) hr (by omega)) (br_c (fun z => h t ?_) (fun z => ?_))
    · rw [← nr_K_dn (h3 z) ho6 hm3]; exact h2
    · refine xi_r41w (r := r) hn ho hm hp hq (nr_K_le _ _ _ _ _ _ r) h2 (fun b' t' g1 g2 g3 => ih (b', t') ⟨g1, g2, fun hb => ?_⟩)
      rw [nr_K_s, g3 hb, g3 hb]
theorem xi_rew {post : SX → Prop} {B : Nat → Bool} (hn : n ≤ 6) (ho : nr_ok ao 10 n) (hm : nr_ok am 10 3) (hp : nr_ok ap 10 n) (hq : nr_ok aq 10 13)
    (h : ∀ t, nr_R t 108 (nr_M n B (nr_cz ao) (nr_cz am) (nr_cz ap) (nr_cz aq)) → post (nI n, bc, bg, ao, am, ap, aq, gg, gp, gq, go, lc, t, oc)) :
    wpX_resolve__costWithoutOne post (nI n, bc, bg, ao, am, ap, aq, gg, gp, gq, go, lc, cw, oc) (nr_bi B 10) := by
  refine loop_0 (fun f i s => wX_resolve__costWithoutOne_2 post (nr_bi B 10) (nI n) bc bg f (nI i) ao am ap aq gg gp gq go lc s oc) (fun i s => nr_R s i (fun _ => 1000)) 108 cw nr_R_0 ?_ ?_
  · intro f s hI
    exact br_t (nI_le (b := 108) (Nat.le_refl _) (by omega)) (xi_r25w hn ho hm hp hq hI h)
  · intro f i s hi hI ih
    exact br_f (nI_ge (b := 108) hi (by omega)) ⟨vp_in_nI hi (by omega), nm_e (nm_r (nI_1 i) (ih _ (nr_R_s hI rfl (by omega))))⟩
end
