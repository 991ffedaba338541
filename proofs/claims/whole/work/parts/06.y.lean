theorem nr_v0 : vp_nar .boolean 0 = 0 := by decide
theorem nr_v1 : vp_nar .boolean 1 = 1 := by decide
def nr_fo (c : Nat) : Int32 := if c < 1000 then nI c else -1
theorem nr_fo_t {c : Nat} (h : c < 1000) : nr_fo c = nI c := by unfold nr_fo; rw [if_pos h]
theorem nr_fo_f {c : Nat} (h : ¬ c < 1000) : nr_fo c = -1 := by unfold nr_fo; rw [if_neg h]
theorem nr_m1 : (-1 : Int32) < 0 := by decide
theorem nr_pl1 {p q x : Nat} (h : 1 ≤ q) : (((nI p * 3 + nI q) - 1) * 6) + nI x = nI (nr_at p (q - 1) x) := by
  show (((nI p * nI 3 + nI q) - nI 1) * nI 6) + nI x = nI ((p * 3 + (q - 1)) * 6 + x)
  rw [pk_mul, nI_add, pk_sub (by omega), pk_mul, nI_add, show p * 3 + q - 1 = p * 3 + (q - 1) by omega]
theorem xi_fo2 {post : Int32 → Prop} {c : Nat} (hc : c ≤ 1000) (h : post (nr_fo c)) : wpX_costOrNone post (nI c) :=
  xi_cn hc (fun z => by rw [nr_fo_t z] at h; exact h) (fun z => by rw [nr_fo_f z] at h; exact h)
section
variable {th ao am ap aq tg gg gp gq go mb ne : Nat → Int32} {n : Nat}
theorem yi_pr {post : Int32 → Prop} {x : Int32} (hn : n ≤ 6) (h1 : nr_pr n x → post 1) (h0 : ¬ nr_pr n x → post 0) : wpY_principal post (nI n, th, ao, am, ap, aq, tg, gg, gp, gq, go, mb, ne) x :=
  nr_rng (by omega) h1 h0
theorem yi_fd {post : Int32 → Prop} {c : Nat} (hc : c ≤ 1000) (h : post (nr_fo c)) : wpY_found post (nI n, th, ao, am, ap, aq, tg, gg, gp, gq, go, mb, ne) (nI c) :=
  pk_le 1000 c (fun z => by rw [nr_fo_f (by omega)] at h; exact h) (fun z => by rw [nr_fo_t z] at h; exact h)
theorem yi_s62 {post : Int32 → Prop} {T : Nat → Nat} {p x a b : Nat} (hn : n ≤ 6) (hR : nr_R mb 108 T) (hT : ∀ b, T b ≤ 1000) (hp : p < 6) (ha : a < 3) (hb : b < 3) (hx : x < 6) (h : post (nI (nr_mn T p a b x n))) :
    ∃ f, wY_shown_62 post (nI p) (nI x) (nI a) (nI b) (nI n) th ao am ap aq tg gg gp gq go mb ne f 1000 0 := by
  refine loop_0 (fun f i s => wY_shown_62 post (nI p) (nI x) (nI a) (nI b) (nI n) th ao am ap aq tg gg gp gq go mb ne f s (nI i)) (fun i s => s = nI (nr_mn T p a b x i)) n (nI 1000) rfl ?_ ?_
  · intro f s hI
    subst hI
    exact br_t (nI_le (Nat.le_refl _) (by omega)) h
  · intro f i s hi hI ih
    subst hI
    have l1 : nr_at p a i < 108 := nr_at_lt hp ha (by omega)
    have l2 : nr_at i b x < 108 := nr_at_lt (by omega) hb hx
    have e : mb (nI (nr_at p a i)).toNatClampNeg + mb (nI (nr_at i b x)).toNatClampNeg = nI (T (nr_at p a i) + T (nr_at i b x)) := by
      rw [nr_rd hR l1 (by omega), nr_rd hR l2 (by omega), nI_add]
    have b1 := hT (nr_at p a i)
    have b2 := hT (nr_at i b x)
    have b3 := nr_mn_le T p a b x i
    refine br_f (nI_ge hi (by omega)) ?_
    rw [nr_pl p a i, nr_pl i b x]
    refine ⟨vp_in_nI l1 (by omega), vp_in_nI l2 (by omega), nm_r e ?_⟩
    refine pk_le (nr_mn T p a b x i) (T (nr_at p a i) + T (nr_at i b x)) (fun z => nm_r (nI_1 i) (ih _ ?_)) (fun z => nm_r (nI_1 i) (ih _ ?_))
    · rw [nr_mn_s, if_neg (by omega)]
    · rw [nr_mn_s, if_pos (by omega)]
theorem yi_sh {post : Int32 → Prop} {T : Nat → Nat} {p q x : Nat} {P Q X : Int32} (hn : n ≤ 6) (hR : nr_R mb 108 T) (hT : ∀ b, T b ≤ 1000) (hp : p < 6) (hq : q < 13) (hx : x < 6) (eP : P = nI p) (eQ : Q = nI q) (eX : X = nI x) (h : post (nI (nr_dn n T p q x))) :
    wpY_shown post (nI n, th, ao, am, ap, aq, tg, gg, gp, gq, go, mb, ne) P Q X := by
  subst eP eQ eX
  refine pk_eq q 0 (fun h1 => ?_) (fun h1 => pk_le 4 q (fun h4 => ?_) (fun h4 => ?_))
  · rw [nr_dn_0 (by omega)] at h
    refine pk_eq p x (fun e => ?_) (fun e => ?_)
    · rw [if_pos e] at h; exact h
    · rw [if_neg e] at h; exact h
  · rw [nr_dn_2 (by omega)] at h
    have e0 : nI q - 4 = nI (q - 4) := pk_sub h4
    have e1 : (nI q - 4) / 3 = nI ((q - 4) / 3) := by rw [e0]; exact pk_div (d := 3) (by omega) (by omega) (by omega)
    have e2 : (nI q - 4) - (nI q - 4) / 3 * 3 = nI ((q - 4) % 3) := by rw [e0]; exact pk_rem (d := 3) (by omega) (by omega) (by omega)
    exact ⟨by decide, nm_r e1 ⟨by decide, nm_r e2 (yi_s62 hn hR hT hp (by omega) (by omega) hx h)⟩⟩
  · rw [nr_dn_1 (by omega) (by omega)] at h
    have l1 : nr_at p (q - 1) x < 108 := nr_at_lt hp (by omega) hx
    rw [nr_pl1 (by omega), nr_rd hR l1 (by omega)]
    exact ⟨vp_in_nI l1 (by omega), h⟩
theorem yi_lo {post : Int32 → SY → Prop} {T : Nat → Nat} {i : Nat} (hn : n ≤ 6) (ho : nr_ok ao 10 n) (hm : nr_ok am 10 3) (hp : nr_ok ap 10 n) (hq : nr_ok aq 10 13) (hi : i < 10) (hH : nr_hb th i = true) (hT : ∀ b, T b ≤ 1000)
    (hR : nr_R mb 108 (nr_cs n (nr_hb th) (nr_cz ao) (nr_cz am) (nr_cz ap) (nr_cz aq) T (6 * i)))
    (h : ∀ b t, (b = 0 ∨ b = 1) → nr_R t 108 (nr_cs n (nr_hb th) (nr_cz ao) (nr_cz am) (nr_cz ap) (nr_cz aq) T (6 * (i + 1))) → (b = 0 → nr_cs n (nr_hb th) (nr_cz ao) (nr_cz am) (nr_cz ap) (nr_cz aq) T (6 * (i + 1)) = nr_cs n (nr_hb th) (nr_cz ao) (nr_cz am) (nr_cz ap) (nr_cz aq) T (6 * i)) → post b (nI n, th, ao, am, ap, aq, tg, gg, gp, gq, go, t, ne)) :
    wpY_lower post (nI n, th, ao, am, ap, aq, tg, gg, gp, gq, go, mb, ne) (nI i) := by
  refine loop_0 (fun f x (s : Int32 × (Nat → Int32)) => wY_lower_4 post (nI i) (nI n) f s.1 (nI x) th ao am ap aq tg gg gp gq go s.2 ne) (fun x s => (s.1 = 0 ∨ s.1 = 1) ∧ nr_R s.2 108 (nr_cs n (nr_hb th) (nr_cz ao) (nr_cz am) (nr_cz ap) (nr_cz aq) T (6 * i + x)) ∧ (s.1 = 0 → nr_cs n (nr_hb th) (nr_cz ao) (nr_cz am) (nr_cz ap) (nr_cz aq) T (6 * i + x) = nr_cs n (nr_hb th) (nr_cz ao) (nr_cz am) (nr_cz ap) (nr_cz aq) T (6 * i))) n (0, mb) ⟨Or.inl rfl, hR, fun _ => rfl⟩ ?_ ?_
  · rintro f ⟨b, t⟩ ⟨h1, h2, h3⟩
    dsimp only at h1 h2 h3
    rw [← nr_cs_e (i := i) hn] at h2 h3
    exact br_t (nI_le (Nat.le_refl _) (by omega)) ⟨nr_nb h1, h b t h1 h2 h3⟩
  · rintro f x ⟨b, t⟩ hx ⟨h1, h2, h3⟩ ih
    dsimp only at h1 h2 h3
    dsimp only
    have vi : vp_in (nI i) 10 := vp_in_nI hi (by omega)
    have la : nr_at (nr_cz ao i) (nr_cz am i) x < 108 := nr_at_lt (by have := (ho i hi).1; omega) (hm i hi).1 (by omega)
    have ea : ((ao (nI i).toNatClampNeg * 3 + am (nI i).toNatClampNeg) * 6) + nI x = nI (nr_at (nr_cz ao i) (nr_cz am i) x) := by
      rw [nr_ro ho hi (by omega), nr_ro hm hi (by omega), nr_pl]
    have hT' := nr_cs_le n (nr_hb th) (nr_cz ao) (nr_cz am) (nr_cz ap) (nr_cz aq) hT (6 * i + x)
    have es := nr_cs_t (o := nr_cz ao) (m := nr_cz am) (p := nr_cz ap) (q := nr_cz aq) (T := T) hn hx hH
    generalize hS : nr_cs n (nr_hb th) (nr_cz ao) (nr_cz am) (nr_cz ap) (nr_cz aq) T (6 * i + x) = S at h2 h3 hT' es
    have bd := nr_dn_le hT' n (nr_cz ap i) (nr_cz aq i) x
    have bt := hT' (nr_at (nr_cz ao i) (nr_cz am i) x)
    refine br_f (nI_ge hx (by omega)) ⟨vi, vi, yi_sh hn h2 hT' (by have := (hp i hi).1; omega) (hq i hi).1 (by omega) (nr_ro hp hi (by omega)) (nr_ro hq hi (by omega)) rfl (nm_r (nI_add 1 _) ⟨vi, vi, nm_r ea ⟨vp_in_nI la (by omega), ?_⟩⟩)⟩
    rw [nr_rd h2 la (by omega)]
    refine pk_le (S (nr_at (nr_cz ao i) (nr_cz am i) x)) (1 + nr_dn n S (nr_cz ap i) (nr_cz aq i) x) (fun z => nm_r (nI_1 x) (ih (b, t) ?_)) (fun z => ⟨vp_in_nI la (by omega), nm_e (nm_r (nI_1 x) (ih (1, _) ?_))⟩)
    · have e2 := es.trans (nr_rx_no (by omega))
      refine ⟨h1, ?_, fun hb => ?_⟩
      · rw [e2]; exact h2
      · rw [e2]; exact h3 hb
    · refine ⟨Or.inr rfl, ?_, fun hb => absurd hb nr_10⟩
      rw [es, nI_clamp (by omega)]
      exact nr_R_u h2 z
theorem yi_w41 {post : SY → Prop} {J : Int32 → Int32 → Int32 → (Nat → Int32) → (Nat → Int32) → (Nat → Int32) → (Nat → Int32) → (Nat → Int32) → (Nat → Int32) → (Nat → Int32) → (Nat → Int32) → (Nat → Int32) → (Nat → Int32) → (Nat → Int32) → (Nat → Int32) → Prop} {T : Nat → Nat} {r : Nat} (hn : n ≤ 6) (ho : nr_ok ao 10 n) (hm : nr_ok am 10 3) (hp : nr_ok ap 10 n) (hq : nr_ok aq 10 13) (hT : ∀ b, T b ≤ 1000) (hR : nr_R mb 108 T)
    (h : ∀ b t, (b = 0 ∨ b = 1) → nr_R t 108 (nr_cs n (nr_hb th) (nr_cz ao) (nr_cz am) (nr_cz ap) (nr_cz aq) T 60) → (b = 0 → nr_cs n (nr_hb th) (nr_cz ao) (nr_cz am) (nr_cz ap) (nr_cz aq) T 60 = T) → J b (nI (r + 1)) (nI n) th ao am ap aq tg gg gp gq go t ne) :
    ∃ f, wY_work_41 post J (nI r) f 0 0 (nI n) th ao am ap aq tg gg gp gq go mb ne := by
  refine loop_0 (fun f i (s : Int32 × (Nat → Int32)) => wY_work_41 post J (nI r) f s.1 (nI i) (nI n) th ao am ap aq tg gg gp gq go s.2 ne) (fun i s => (s.1 = 0 ∨ s.1 = 1) ∧ nr_R s.2 108 (nr_cs n (nr_hb th) (nr_cz ao) (nr_cz am) (nr_cz ap) (nr_cz aq) T (6 * i)) ∧ (s.1 = 0 → nr_cs n (nr_hb th) (nr_cz ao) (nr_cz am) (nr_cz ap) (nr_cz aq) T (6 * i) = T)) 10 (0, mb) ⟨Or.inl rfl, hR, fun _ => rfl⟩ ?_ ?_
  · rintro f ⟨b, t⟩ ⟨h1, h2, h3⟩
    exact br_t (nI_le (b := 10) (Nat.le_refl _) (by omega)) (nm_r (nI_1 r) (h b t h1 h2 h3))
  · rintro f i ⟨b, t⟩ hi ⟨h1, h2, h3⟩ ih
    dsimp only at h1 h2 h3
    have ec : (nI i).toNatClampNeg = i := nI_clamp (by omega)
    have w64 : ∀ t', nr_R t' 108 (nr_cs n (nr_hb th) (nr_cz ao) (nr_cz am) (nr_cz ap) (nr_cz aq) T (6 * (i + 1))) → (b = 0 → nr_cs n (nr_hb th) (nr_cz ao) (nr_cz am) (nr_cz ap) (nr_cz aq) T (6 * (i + 1)) = T) → wY_work_64 post J (wY_work_41 post J (nI r) f) b (nI r) (nI i) (nI n) th ao am ap aq tg gg gp gq go t' ne := by
      intro t' g2 g3
      have w := ih (b, t') ⟨h1, g2, g3⟩
      rcases h1 with rfl | rfl
      · exact br_t rfl (nm_r (nI_1 i) w)
      · exact br_f nr_10 (nm_r (nI_1 i) w)
    refine br_f (nI_ge (b := 10) hi (by omega)) ⟨vp_in_nI hi (by omega), br_c (fun z => ?_) (fun z => ?_)⟩
    · rw [ec] at z
      have hB : ¬ nr_hb th i = true := fun w => nr_hb_t.mp w z
      refine w64 t ?_ ?_
      · rw [nr_cs_f hB]; exact h2
      · rw [nr_cs_f hB]; exact h3
    · rw [ec] at z
      refine yi_lo hn ho hm hp hq hi (nr_hb_t.mpr z) hT h2 (fun b' t' g1 g2 g3 => ?_)
      refine br_c (fun z2 => w64 t' g2 (fun hb => (g3 z2).trans (h3 hb))) (fun z2 => nm_r (nI_1 i) (ih (1, t') ⟨Or.inr rfl, g2, fun hb => absurd hb nr_10⟩))
theorem yi_w27 {post : SY → Prop} (hn : n ≤ 6) (ho : nr_ok ao 10 n) (hm : nr_ok am 10 3) (hp : nr_ok ap 10 n) (hq : nr_ok aq 10 13) (hR : nr_R mb 108 (fun _ => 1000)) (h : ∀ t, nr_R t 108 (nr_M n (nr_hb th) (nr_cz ao) (nr_cz am) (nr_cz ap) (nr_cz aq)) → post (nI n, th, ao, am, ap, aq, tg, gg, gp, gq, go, t, ne)) :
    ∃ f, wY_work_27 post f 1 0 (nI n) th ao am ap aq tg gg gp gq go mb ne := by
  have ho6 : ∀ i, i < 10 → nr_cz ao i < 6 := fun i hi => by have := (ho i hi).1; omega
  have hm3 : ∀ i, i < 10 → nr_cz am i < 3 := fun i hi => (hm i hi).1
  refine loop_0 (fun f r (s : Int32 × (Nat → Int32)) => wY_work_27 post f s.1 (nI r) (nI n) th ao am ap aq tg gg gp gq go s.2 ne) (fun r s => (s.1 = 0 ∨ s.1 = 1) ∧ nr_R s.2 108 (nr_K n (nr_hb th) (nr_cz ao) (nr_cz am) (nr_cz ap) (nr_cz aq) r) ∧ (s.1 = 0 → nr_cs n (nr_hb th) (nr_cz ao) (nr_cz am) (nr_cz ap) (nr_cz aq) (nr_K n (nr_hb th) (nr_cz ao) (nr_cz am) (nr_cz ap) (nr_cz aq) r) 60 = nr_K n (nr_hb th) (nr_cz ao) (nr_cz am) (nr_cz ap) (nr_cz aq) r)) 110 (1, mb) ⟨Or.inr rfl, hR, fun z => absurd z nr_10⟩ ?_ ?_
  · rintro f ⟨b, t⟩ ⟨h1, h2, h3⟩
    dsimp only at h2
    rw [nr_K_up ho6 hm3 110 (by omega)] at h2
    exact br_t (nI_le (b := 110) (Nat.le_refl _) (by omega)) (h t h2)
  · rintro f r ⟨b, t⟩ hr ⟨h1, h2, h3⟩ ih
    dsimp only at h1 h2 h3
    refine br_f (nI_ge (b := 110) hr (by omega)) (br_c (fun z => h t ?_) (fun z => ?_))
    · rw [← nr_K_dn (h3 z) ho6 hm3]; exact h2
    · refine yi_w41 (r := r) hn ho hm hp hq (nr_K_le _ _ _ _ _ _ r) h2 (fun b' t' g1 g2 g3 => ih (b', t') ⟨g1, g2, fun hb => ?_⟩)
      rw [nr_K_s, g3 hb, g3 hb]
theorem yi_wo {post : SY → Prop} (hn : n ≤ 6) (ho : nr_ok ao 10 n) (hm : nr_ok am 10 3) (hp : nr_ok ap 10 n) (hq : nr_ok aq 10 13) (h : ∀ t, nr_R t 108 (nr_M n (nr_hb th) (nr_cz ao) (nr_cz am) (nr_cz ap) (nr_cz aq)) → post (nI n, th, ao, am, ap, aq, tg, gg, gp, gq, go, t, ne)) : wpY_work post (nI n, th, ao, am, ap, aq, tg, gg, gp, gq, go, mb, ne) := by
  refine loop_0 (fun f i s => wY_work_2 post (nI n) f (nI i) th ao am ap aq tg gg gp gq go s ne) (fun i s => nr_R s i (fun _ => 1000)) 108 mb nr_R_0 ?_ ?_
  · intro f s hI
    exact br_t (nI_le (b := 108) (Nat.le_refl _) (by omega)) (yi_w27 hn ho hm hp hq hI h)
  · intro f i s hi hI ih
    exact br_f (nI_ge (b := 108) hi (by omega)) ⟨vp_in_nI hi (by omega), nm_e (nm_r (nI_1 i) (ih _ (nr_R_s hI rfl (by omega))))⟩
/-! answers that only read -/
theorem yi_cost {post : Int32 → SY → Prop} {k m x : Int32} (hn : n ≤ 6) (ho : nr_ok ao 10 n) (hm : nr_ok am 10 3) (hp : nr_ok ap 10 n) (hq : nr_ok aq 10 13) (hb : ¬ (nr_pr n k ∧ nr_pr n x ∧ nr_pr 3 m) → post (-1) (nI n, th, ao, am, ap, aq, tg, gg, gp, gq, go, mb, ne))
    (h : ∀ j i a t, j < n → i < n → a < 3 → k = nI j → x = nI i → m = nI a → nr_R t 108 (nr_M n (nr_hb th) (nr_cz ao) (nr_cz am) (nr_cz ap) (nr_cz aq)) → post (nr_fo ((nr_M n (nr_hb th) (nr_cz ao) (nr_cz am) (nr_cz ap) (nr_cz aq)) (nr_at j a i))) (nI n, th, ao, am, ap, aq, tg, gg, gp, gq, go, t, ne)) : wpY_cost post (nI n, th, ao, am, ap, aq, tg, gg, gp, gq, go, mb, ne) k m x := by
  unfold wpY_cost
  dsimp only
  refine yi_pr hn (fun hk => br_f nr_10 ?_) (fun hk => br_t rfl (hb (fun z => hk z.1)))
  refine yi_pr hn (fun hx => br_f nr_10 ?_) (fun hx => br_t rfl (hb (fun z => hx z.2.1)))
  refine nr_rng3 (n := 2) (by omega) (fun hc => ?_) (fun hc => hb (fun z => hc z.2.2))
  obtain ⟨j, hj, rfl⟩ := hk
  obtain ⟨i, hi, rfl⟩ := hx
  obtain ⟨a, ha, rfl⟩ := hc
  refine yi_wo hn ho hm hp hq (fun t ht => ?_)
  dsimp only
  have l1 : nr_at j a i < 108 := nr_at_lt (by omega) ha (by omega)
  have hp' := h j i a t hj hi ha rfl rfl rfl ht
  rw [nr_pl]
  refine ⟨vp_in_nI l1 (by omega), ?_⟩
  rw [nr_rd ht l1 (by omega)]
  exact yi_fd (nr_K_le _ _ _ _ _ _ 108 _) hp'
theorem yi_den {post : Int32 → SY → Prop} {p q x : Int32} (hn : n ≤ 6) (ho : nr_ok ao 10 n) (hm : nr_ok am 10 3) (hp : nr_ok ap 10 n) (hq : nr_ok aq 10 13) (hb : ¬ (nr_pr n p ∧ nr_pr n x ∧ nr_pr 13 q) → post (-1) (nI n, th, ao, am, ap, aq, tg, gg, gp, gq, go, mb, ne))
    (h : ∀ j i a t, j < n → i < n → a < 13 → p = nI j → x = nI i → q = nI a → nr_R t 108 (nr_M n (nr_hb th) (nr_cz ao) (nr_cz am) (nr_cz ap) (nr_cz aq)) → post (nr_fo (nr_dn n (nr_M n (nr_hb th) (nr_cz ao) (nr_cz am) (nr_cz ap) (nr_cz aq)) j a i)) (nI n, th, ao, am, ap, aq, tg, gg, gp, gq, go, t, ne)) : wpY_denotes post (nI n, th, ao, am, ap, aq, tg, gg, gp, gq, go, mb, ne) p q x := by
  unfold wpY_denotes
  dsimp only
  refine yi_pr hn (fun hk => br_f nr_10 ?_) (fun hk => br_t rfl (hb (fun z => hk z.1)))
  refine yi_pr hn (fun hx => br_f nr_10 ?_) (fun hx => br_t rfl (hb (fun z => hx z.2.1)))
  refine nr_rng3 (n := 12) (by omega) (fun hc => ?_) (fun hc => hb (fun z => hc z.2.2))
  obtain ⟨j, hj, rfl⟩ := hk
  obtain ⟨i, hi, rfl⟩ := hx
  obtain ⟨a, ha, rfl⟩ := hc
  refine yi_wo hn ho hm hp hq (fun t ht => ?_)
  have hM1 : ∀ b, (nr_M n (nr_hb th) (nr_cz ao) (nr_cz am) (nr_cz ap) (nr_cz aq)) b ≤ 1000 := nr_K_le _ _ _ _ _ _ 108
  refine yi_sh hn ht hM1 (by omega) ha (by omega) rfl rfl rfl ?_
  exact yi_fd (nr_dn_le hM1 _ _ _ _) (h j i a t hj hi ha rfl rfl rfl ht)
theorem yi_mem {post : Int32 → SY → Prop} {k m : Int32} (hn : n ≤ 6) (ho : nr_ok ao 10 n) (hm : nr_ok am 10 3) (hp : nr_ok ap 10 n) (hq : nr_ok aq 10 13) (hn1 : 1 ≤ n) (hb : ¬ (nr_pr n k ∧ nr_pr 3 m) → ∀ t, post 0 (nI n, th, ao, am, ap, aq, tg, gg, gp, gq, go, t, ne))
    (h : ∀ j a t, j < n → a < 3 → k = nI j → m = nI a → nr_R t 108 (nr_M n (nr_hb th) (nr_cz ao) (nr_cz am) (nr_cz ap) (nr_cz aq)) → post (nr_bi (fun x => decide ((nr_M n (nr_hb th) (nr_cz ao) (nr_cz am) (nr_cz ap) (nr_cz aq)) (nr_at j a x) < 1000)) n) (nI n, th, ao, am, ap, aq, tg, gg, gp, gq, go, t, ne)) : wpY_members post (nI n, th, ao, am, ap, aq, tg, gg, gp, gq, go, mb, ne) k m := by
  unfold wpY_members
  dsimp only
  refine yi_wo hn ho hm hp hq (fun t ht => ?_)
  dsimp only
  have hM1 : ∀ b, (nr_M n (nr_hb th) (nr_cz ao) (nr_cz am) (nr_cz ap) (nr_cz aq)) b ≤ 1000 := nr_K_le _ _ _ _ _ _ 108
  by_cases hg : nr_pr n k ∧ nr_pr 3 m
  · obtain ⟨⟨j, hj, rfl⟩, ⟨a, ha, rfl⟩⟩ := hg
    refine loop_0 (fun f i s => wY_members_9 post (nI j) (nI a) (nI n) th ao am ap aq tg gg gp gq go t ne f s (nI i)) (fun i s => s = nr_bi (fun x => decide ((nr_M n (nr_hb th) (nr_cz ao) (nr_cz am) (nr_cz ap) (nr_cz aq)) (nr_at j a x) < 1000)) i) n 0 rfl ?_ ?_
    · intro f s hI
      subst hI
      exact br_t (nI_le (Nat.le_refl _) (by omega)) (h j a t hj ha rfl rfl ht)
    · intro f i s hi hI ih
      subst hI
      have la : nr_at j a i < 108 := nr_at_lt (by omega) ha (by omega)
      have b3 := hM1 (nr_at j a i)
      refine br_f (nI_ge hi (by omega)) (yi_pr hn (fun _ => br_f nr_10 (nr_rng2 (n := 2) (by omega) (fun _ => ?_) (fun z => absurd ⟨a, ha, rfl⟩ z))) (fun z => absurd ⟨j, hj, rfl⟩ z))
      rw [nr_pl]
      refine ⟨vp_in_nI la (by omega), pk_le 1000 ((nr_M n (nr_hb th) (nr_cz ao) (nr_cz am) (nr_cz ap) (nr_cz aq)) (nr_at j a i)) (fun z => nm_r (nr_or0 _) (nm_r (nI_1 i) (ih _ ?_))) (fun z => nm_e (nm_r (nI_1 i) (ih _ ?_))) rfl (nr_rd ht la (by omega))⟩
      · exact (nr_bi_f (fun w => absurd (of_decide_eq_true w) (by omega))).symm
      · exact (nr_bi_t (decide_eq_true z)).symm
  · have hp0 := hb hg t
    refine ⟨1, br_f (nI_ge (a := 0) (b := n) (by omega) (by omega)) (yi_pr hn (fun z1 => br_f nr_10 (nr_rng2 (n := 2) (by omega) (fun z2 => absurd ⟨z1, z2⟩ hg) (fun _ => hp0))) (fun _ => br_t rfl hp0))⟩
theorem yi_w12 {post : Int32 → SY → Prop} {M : Nat → Nat} {K N C : Int32} {x : Nat} (hn : n ≤ 6) (hp : nr_ok ap 10 n) (hq : nr_ok aq 10 13) (hM : nr_R mb 108 M) (hM1 : ∀ b, M b ≤ 1000) (hx : x < 6) (hC : ¬ C < 0)
    (hf : ∀ i, i < 10 → nr_Q n (nr_hb th) ao am ap aq M K N C x i → (∀ j, j < i → ¬ nr_Q n (nr_hb th) ao am ap aq M K N C x j) → post (nI i) (nI n, th, ao, am, ap, aq, tg, gg, gp, gq, go, mb, ne)) (hF : (∀ j, j < 10 → ¬ nr_Q n (nr_hb th) ao am ap aq M K N C x j) → post (-1) (nI n, th, ao, am, ap, aq, tg, gg, gp, gq, go, mb, ne)) :
    ∃ f, wY_witness_12 post K N (nI x) C (nI n) th ao am ap aq tg gg gp gq go mb ne f 0 := by
  refine loop_0 (fun f i (_ : Unit) => wY_witness_12 post K N (nI x) C (nI n) th ao am ap aq tg gg gp gq go mb ne f (nI i)) (fun i _ => ∀ j, j < i → ¬ nr_Q n (nr_hb th) ao am ap aq M K N C x j) 10 () lt_0 ?_ ?_
  · intro f s hI
    exact br_t (nI_le (b := 10) (Nat.le_refl _) (by omega)) (hF hI)
  · intro f i s hi hI ih
    have vi : vp_in (nI i) 10 := vp_in_nI hi (by omega)
    have ec : (nI i).toNatClampNeg = i := nI_clamp (by omega)
    have go1 : ¬ nr_Q n (nr_hb th) ao am ap aq M K N C x i → ∀ y, y = nI i + 1 → wY_witness_12 post K N (nI x) C (nI n) th ao am ap aq tg gg gp gq go mb ne f y := fun z => nm_r (nI_1 i) (ih () (lt_s hI z))
    refine br_f (nI_ge (b := 10) hi (by omega)) (br_f hC ⟨vi, br_c (fun z0 => ?_) (fun z0 => ⟨vi, br_c (fun z1 => ⟨vi, br_c (fun z2 => ⟨vi, vi, yi_sh hn hM hM1 (by have := (hp i hi).1; omega) (hq i hi).1 hx (nr_ro hp hi (by omega)) (nr_ro hq hi (by omega)) rfl (br_c (fun z3 => ?_) (fun z3 => ?_))⟩) (fun z2 => ?_)⟩) (fun z1 => ?_)⟩)⟩)
    · exact go1 (fun w => (nr_hb_t.mp w.1) (by rw [ec] at z0; exact z0))
    · rw [ec] at z0 z1 z2
      exact hf i hi ⟨nr_hb_t.mpr z0, z1, z2, z3⟩ hI
    · exact go1 (fun w => z3 w.2.2.2)
    · exact go1 (fun w => z2 (by rw [ec]; exact w.2.2.1))
    · exact go1 (fun w => z1 (by rw [ec]; exact w.2.1))
theorem yi_cm {post : Int32 → SY → Prop} (hn : n ≤ 6) (ho : nr_ok ao 10 n) (hm : nr_ok am 10 3) (hp : nr_ok ap 10 n) (hq : nr_ok aq 10 13) (h : ∀ t, nr_R t 108 (nr_M n (nr_hb th) (nr_cz ao) (nr_cz am) (nr_cz ap) (nr_cz aq)) → post (nI (nr_ct (nr_M n (nr_hb th) (nr_cz ao) (nr_cz am) (nr_cz ap) (nr_cz aq)) 999 108)) (nI n, th, ao, am, ap, aq, tg, gg, gp, gq, go, t, ne)) : wpY_countMembers post (nI n, th, ao, am, ap, aq, tg, gg, gp, gq, go, mb, ne) := by
  unfold wpY_countMembers
  dsimp only
  refine yi_wo hn ho hm hp hq (fun t ht => ?_)
  dsimp only
  have hM1 : ∀ b, (nr_M n (nr_hb th) (nr_cz ao) (nr_cz am) (nr_cz ap) (nr_cz aq)) b ≤ 1000 := nr_K_le _ _ _ _ _ _ 108
  refine loop_0 (fun f i s => wY_countMembers_8 post (nI n) th ao am ap aq tg gg gp gq go t ne f s (nI i)) (fun i s => s = nI (nr_ct (nr_M n (nr_hb th) (nr_cz ao) (nr_cz am) (nr_cz ap) (nr_cz aq)) 999 i)) 108 0 rfl ?_ ?_
  · intro f s hI
    subst hI
    exact br_t (nI_le (b := 108) (Nat.le_refl _) (by omega)) (h t ht)
  · intro f i s hi hI ih
    subst hI
    have b3 := hM1 i
    refine br_f (nI_ge (b := 108) hi (by omega)) ⟨vp_in_nI hi (by omega), pk_le 1000 ((nr_M n (nr_hb th) (nr_cz ao) (nr_cz am) (nr_cz ap) (nr_cz aq)) i) (fun z => nm_r (Int32.add_zero _) (nm_r (nI_1 i) (ih _ ?_))) (fun z => nm_r (nI_1 _) (nm_r (nI_1 i) (ih _ ?_))) rfl (nr_rd ht hi (by omega))⟩
    · show nI (nr_ct (nr_M n (nr_hb th) (nr_cz ao) (nr_cz am) (nr_cz ap) (nr_cz aq)) 999 i) = nI (nr_ct (nr_M n (nr_hb th) (nr_cz ao) (nr_cz am) (nr_cz ap) (nr_cz aq)) 999 i + (if (nr_M n (nr_hb th) (nr_cz ao) (nr_cz am) (nr_cz ap) (nr_cz aq)) i ≤ 999 then 1 else 0))
      rw [if_neg (by omega)]
      rfl
    · show nI (nr_ct (nr_M n (nr_hb th) (nr_cz ao) (nr_cz am) (nr_cz ap) (nr_cz aq)) 999 i + 1) = nI (nr_ct (nr_M n (nr_hb th) (nr_cz ao) (nr_cz am) (nr_cz ap) (nr_cz aq)) 999 i + (if (nr_M n (nr_hb th) (nr_cz ao) (nr_cz am) (nr_cz ap) (nr_cz aq)) i ≤ 999 then 1 else 0))
      rw [if_pos (by omega)]
theorem yi_cer {post : Int32 → Prop} (h : post (nr_bi (nr_hb th) 10)) : wpY_certificates post (nI n, th, ao, am, ap, aq, tg, gg, gp, gq, go, mb, ne) := by
  refine loop_0 (fun f i s => wY_certificates_4 post (nI n) th ao am ap aq tg gg gp gq go mb ne f s (nI i)) (fun i s => s = nr_bi (nr_hb th) i) 10 0 rfl ?_ ?_
  · intro f s hI
    subst hI
    exact br_t (nI_le (b := 10) (Nat.le_refl _) (by omega)) h
  · intro f i s hi hI ih
    subst hI
    have ec : (nI i).toNatClampNeg = i := nI_clamp (by omega)
    refine br_f (nI_ge (b := 10) hi (by omega)) ⟨vp_in_nI hi (by omega), br_c (fun z => nm_r (nr_or0 _) (nm_r (nI_1 i) (ih _ ?_))) (fun z => nm_e (nm_r (nI_1 i) (ih _ ?_)))⟩
    · exact (nr_bi_f (fun w => nr_hb_t.mp w (by rw [ec] at z; exact z))).symm
    · exact (nr_bi_t (nr_hb_t.mpr (by rw [ec] at z; exact z))).symm
theorem yi_gra {post : Int32 → Prop} (h : post (nr_bi (nr_hb tg) 6)) : wpY_grants post (nI n, th, ao, am, ap, aq, tg, gg, gp, gq, go, mb, ne) := by
  refine loop_0 (fun f i s => wY_grants_4 post (nI n) th ao am ap aq tg gg gp gq go mb ne f s (nI i)) (fun i s => s = nr_bi (nr_hb tg) i) 6 0 rfl ?_ ?_
  · intro f s hI
    subst hI
    exact br_t (nI_le (b := 6) (Nat.le_refl _) (by omega)) h
  · intro f i s hi hI ih
    subst hI
    have ec : (nI i).toNatClampNeg = i := nI_clamp (by omega)
    refine br_f (nI_ge (b := 6) hi (by omega)) ⟨vp_in_nI hi (by omega), br_c (fun z => nm_r (nr_or0 _) (nm_r (nI_1 i) (ih _ ?_))) (fun z => nm_e (nm_r (nI_1 i) (ih _ ?_)))⟩
    · exact (nr_bi_f (fun w => nr_hb_t.mp w (by rw [ec] at z; exact z))).symm
    · exact (nr_bi_t (nr_hb_t.mpr (by rw [ec] at z; exact z))).symm
/-! rows of grants -/
theorem yi_s46 {post : SY → Prop} {J : Int32 → (Nat → Int32) → (Nat → Int32) → (Nat → Int32) → (Nat → Int32) → (Nat → Int32) → (Nat → Int32) → (Nat → Int32) → (Nat → Int32) → (Nat → Int32) → (Nat → Int32) → (Nat → Int32) → (Nat → Int32) → Prop} {M S : Nat → Nat} {r : Nat} (hn : n ≤ 6) (hg : nr_ok gg 6 n) (hp2 : nr_ok gp 6 n) (hq2 : nr_ok gq 6 13) (hM : nr_R mb 108 M) (hM1 : ∀ b, M b ≤ 1000) (hS : ∀ b, S b ≤ 1000) (hR : nr_R ne 6 S)
    (h : ∀ t, nr_R t 6 (nr_gs n (nr_hb tg) (nr_hb go) M (nr_cz gg) (nr_cz gp) (nr_cz gq) S 36) → J (nI (r + 1)) th ao am ap aq tg gg gp gq go mb t) :
    ∃ f, wY_spread_46 post J (nI r) (nI n) f 0 th ao am ap aq tg gg gp gq go mb ne := by
  refine loop_0 (fun f c s => wY_spread_46 post J (nI r) (nI n) f (nI c) th ao am ap aq tg gg gp gq go mb s) (fun c s => nr_R s 6 (nr_gs n (nr_hb tg) (nr_hb go) M (nr_cz gg) (nr_cz gp) (nr_cz gq) S c)) 36 ne hR ?_ ?_
  · intro f s hI
    exact br_t (nI_le (b := 36) (Nat.le_refl _) (by omega)) (nm_r (nI_1 r) (h s hI))
  · intro f c s hc hI ih
    obtain ⟨g, x, hx, rfl⟩ : ∃ g x, x < 6 ∧ c = 6 * g + x := ⟨c / 6, c % 6, by omega, by omega⟩
    have hi : g < 6 := by omega
    have e1 : nI (6 * g + x) / 6 = nI g := by
      have e := pk_div (a := 6 * g + x) (d := 6) (by omega) (by omega) (by omega)
      rw [show (6 * g + x) / 6 = g by omega] at e
      exact e
    have e2 : nI (6 * g + x) - nI (6 * g + x) / 6 * 6 = nI x := by
      have e := pk_rem (a := 6 * g + x) (d := 6) (by omega) (by omega) (by omega)
      rw [show (6 * g + x) % 6 = x by omega] at e
      exact e
    have ec : (nI g).toNatClampNeg = g := nI_clamp (by omega)
    have vg : vp_in (nI g) 6 := vp_in_nI hi (by omega)
    have vx : vp_in (nI x) 6 := vp_in_nI hx (by omega)
    have lg : nr_cz gg g < 6 := by have := (hg g hi).1; omega
    have skip : (nr_hb tg g = true → nr_hb go g = true → ¬ x < n) → ∀ y, y = nI (6 * g + x) + 1 → wY_spread_46 post J (nI r) (nI n) f y th ao am ap aq tg gg gp gq go mb s := by
      intro hz
      refine nm_r (nI_1 (6 * g + x)) (ih s ?_)
      have k1 := nr_gs_k (M := M) (g := nr_cz gg) (p := nr_cz gp) (q := nr_cz gq) (S := S) hx hz
      show nr_R s 6 (nr_gs n (nr_hb tg) (nr_hb go) M (nr_cz gg) (nr_cz gp) (nr_cz gq) S (6 * g + (x + 1)))
      rw [k1]
      exact hI
    refine br_f (nI_ge (b := 36) hc (by omega)) ⟨by decide, nm_r e1 ⟨by decide, nm_r e2 (pk_le n x (fun z => skip (fun _ _ => by omega)) (fun z => ⟨vg, br_c (fun z1 => ?_) (fun z1 => ⟨vg, br_c (fun z2 => ?_) (fun z2 => ?_)⟩)⟩))⟩⟩
    · rw [ec] at z1
      exact skip (fun w => absurd z1 (nr_hb_t.mp w))
    · rw [ec] at z2
      exact skip (fun _ w => absurd z2 (nr_hb_t.mp w))
    · rw [ec] at z1 z2
      have hS' := nr_gs_le n (nr_hb tg) (nr_hb go) M (nr_cz gg) (nr_cz gp) (nr_cz gq) hS (6 * g + x)
      have es := nr_gs_t (M := M) (g := nr_cz gg) (p := nr_cz gp) (q := nr_cz gq) (S := S) hn z (nr_hb_t.mpr z1) (nr_hb_t.mpr z2)
      generalize hE : nr_gs n (nr_hb tg) (nr_hb go) M (nr_cz gg) (nr_cz gp) (nr_cz gq) S (6 * g + x) = E at hI hS' es
      have b1 := hS' x
      have b2 := hS' (nr_cz gg g)
      have b3 := nr_dn_le hM1 n (nr_cz gp g) (nr_cz gq g) x
      rw [nr_ro hg hi (by omega)]
      refine ⟨vg, vp_in_nI lg (by omega), vg, vg, yi_sh hn hM hM1 (by have := (hp2 g hi).1; omega) (hq2 g hi).1 hx (nr_ro hp2 hi (by omega)) (nr_ro hq2 hi (by omega)) rfl ?_⟩
      have ew : (s (nI (nr_cz gg g)).toNatClampNeg + 1) + nI (nr_dn n M (nr_cz gp g) (nr_cz gq g) x) = nI (E (nr_cz gg g) + 1 + nr_dn n M (nr_cz gp g) (nr_cz gq g) x) := by
        rw [nr_rd hI lg (by omega), nI_1, nI_add]
      refine nm_r ew ⟨vx, pk_le (E x) (E (nr_cz gg g) + 1 + nr_dn n M (nr_cz gp g) (nr_cz gq g) x) (fun y => ⟨vx, vx, nm_e (nm_r (nI_1 (6 * g + x)) (ih _ ?_))⟩) (fun y => ⟨vx, nm_e (nm_r (nI_1 (6 * g + x)) (ih _ ?_))⟩) (nr_rd hI hx (by omega))⟩
      · show nr_R _ 6 (nr_gs n (nr_hb tg) (nr_hb go) M (nr_cz gg) (nr_cz gp) (nr_cz gq) S (6 * g + (x + 1)))
        rw [es, nr_rx_no (by omega)]
        exact nr_R_same hI
      · show nr_R _ 6 (nr_gs n (nr_hb tg) (nr_hb go) M (nr_cz gg) (nr_cz gp) (nr_cz gq) S (6 * g + (x + 1)))
        rw [es, nI_clamp (by omega)]
        exact nr_R_u hI y
theorem yi_s38 {post : SY → Prop} {M : Nat → Nat} {k : Nat} (hn : n ≤ 6) (hg : nr_ok gg 6 n) (hp2 : nr_ok gp 6 n) (hq2 : nr_ok gq 6 13) (hM : nr_R mb 108 M) (hM1 : ∀ b, M b ≤ 1000) (hk : k < n) (hR : nr_R ne 6 (nr_n0 k))
    (h : ∀ t, nr_R t 6 (nr_N n (nr_hb tg) (nr_hb go) M (nr_cz gg) (nr_cz gp) (nr_cz gq) k (n - 1)) → post (nI n, th, ao, am, ap, aq, tg, gg, gp, gq, go, mb, t)) : ∃ f, wY_spread_38 post (nI n) f 0 th ao am ap aq tg gg gp gq go mb ne := by
  refine loop_0 (fun f r s => wY_spread_38 post (nI n) f (nI r) th ao am ap aq tg gg gp gq go mb s) (fun r s => nr_R s 6 (nr_N n (nr_hb tg) (nr_hb go) M (nr_cz gg) (nr_cz gp) (nr_cz gq) k r)) 6 ne hR ?_ ?_
  · intro f s hI
    rw [nr_Nfx hk 6 (by omega)] at hI
    exact br_t (nI_le (b := 6) (Nat.le_refl _) (by omega)) (h s hI)
  · intro f r s hr hI ih
    exact br_f (nI_ge (b := 6) hr (by omega)) (yi_s46 hn hg hp2 hq2 hM hM1 (nr_N_le _ _ _ _ _ _ _ k r) hI ih)
theorem yi_s6 {post : SY → Prop} {M : Nat → Nat} {k : Nat} (hn : n ≤ 6) (hg : nr_ok gg 6 n) (hp2 : nr_ok gp 6 n) (hq2 : nr_ok gq 6 13) (hM : nr_R mb 108 M) (hM1 : ∀ b, M b ≤ 1000) (hk : k < n)
    (h : ∀ t, nr_R t 6 (nr_N n (nr_hb tg) (nr_hb go) M (nr_cz gg) (nr_cz gp) (nr_cz gq) k (n - 1)) → post (nI n, th, ao, am, ap, aq, tg, gg, gp, gq, go, mb, t)) : ∃ f, wY_spread_6 post (nI k) (nI n) f 0 th ao am ap aq tg gg gp gq go mb ne := by
  refine loop_0 (fun f i s => wY_spread_6 post (nI k) (nI n) f (nI i) th ao am ap aq tg gg gp gq go mb s) (fun i s => nr_R s i (nr_n0 k)) 6 ne nr_R_0 ?_ ?_
  · intro f s hI
    exact br_t (nI_le (b := 6) (Nat.le_refl _) (by omega)) (yi_s38 hn hg hp2 hq2 hM hM1 hk hI h)
  · intro f i s hi hI ih
    have vi : vp_in (nI i) 6 := vp_in_nI hi (by omega)
    refine br_f (nI_ge (b := 6) hi (by omega)) (pk_eq i k (fun z => ⟨vi, nm_e (nm_r (nI_1 i) (ih _ (nr_R_s hI ?_ (by omega))))⟩) (fun z => ⟨vi, nm_e (nm_r (nI_1 i) (ih _ (nr_R_s hI ?_ (by omega))))⟩))
    · unfold nr_n0; rw [if_pos z]; rfl
    · unfold nr_n0; rw [if_neg z]; rfl
theorem yi_sp {post : SY → Prop} {k : Nat} (hn : n ≤ 6) (ho : nr_ok ao 10 n) (hm : nr_ok am 10 3) (hp : nr_ok ap 10 n) (hq : nr_ok aq 10 13) (hg : nr_ok gg 6 n) (hp2 : nr_ok gp 6 n) (hq2 : nr_ok gq 6 13) (hk : k < n)
    (h : ∀ t t2, nr_R t 108 (nr_M n (nr_hb th) (nr_cz ao) (nr_cz am) (nr_cz ap) (nr_cz aq)) → nr_R t2 6 (nr_N n (nr_hb tg) (nr_hb go) (nr_M n (nr_hb th) (nr_cz ao) (nr_cz am) (nr_cz ap) (nr_cz aq)) (nr_cz gg) (nr_cz gp) (nr_cz gq) k (n - 1)) → post (nI n, th, ao, am, ap, aq, tg, gg, gp, gq, go, t, t2)) : wpY_spread post (nI n, th, ao, am, ap, aq, tg, gg, gp, gq, go, mb, ne) (nI k) := by
  unfold wpY_spread
  dsimp only
  refine yi_wo hn ho hm hp hq (fun t ht => ?_)
  dsimp only
  exact yi_s6 hn hg hp2 hq2 ht (nr_K_le _ _ _ _ _ _ 108) hk (fun t2 h2 => h t t2 ht h2)
theorem yi_t30 {post : Int32 → SY → Prop} {M S : Nat → Nat} {x : Nat} (hn : n ≤ 6) (hg : nr_ok gg 6 n) (hp2 : nr_ok gp 6 n) (hq2 : nr_ok gq 6 13) (hM : nr_R mb 108 M) (hM1 : ∀ b, M b ≤ 1000) (hS : nr_R ne 6 S) (hS1 : ∀ b, S b ≤ 1000) (hx : x < 6) (h : post (nr_fo (nr_la n (nr_hb tg) M (nr_cz gg) (nr_cz gp) (nr_cz gq) S x 6)) (nI n, th, ao, am, ap, aq, tg, gg, gp, gq, go, mb, ne)) :
    ∃ f, wY_trustCost_30 post (nI x) (nI n) th ao am ap aq tg gg gp gq go mb ne f 1000 0 := by
  refine loop_0 (fun f i s => wY_trustCost_30 post (nI x) (nI n) th ao am ap aq tg gg gp gq go mb ne f s (nI i)) (fun i s => s = nI (nr_la n (nr_hb tg) M (nr_cz gg) (nr_cz gp) (nr_cz gq) S x i)) 6 (nI 1000) rfl ?_ ?_
  · intro f s hI
    subst hI
    exact br_t (nI_le (b := 6) (Nat.le_refl _) (by omega)) (yi_fd (nr_la_le _ _ _ _ _ _ _ _ _) h)
  · intro f i s hi hI ih
    subst hI
    have vi : vp_in (nI i) 6 := vp_in_nI hi (by omega)
    have ec : (nI i).toNatClampNeg = i := nI_clamp (by omega)
    have lg : nr_cz gg i < 6 := by have := (hg i hi).1; omega
    have b1 := hS1 (nr_cz gg i)
    have b2 := nr_dn_le hM1 n (nr_cz gp i) (nr_cz gq i) x
    have b3 := nr_la_le n (nr_hb tg) M (nr_cz gg) (nr_cz gp) (nr_cz gq) S x i
    refine br_f (nI_ge (b := 6) hi (by omega)) ⟨vi, br_c (fun z => nm_r (nI_1 i) (ih _ ?_)) (fun z => ?_)⟩
    · rw [ec] at z
      rw [nr_la_f (fun w => nr_hb_t.mp w z)]
    · rw [ec] at z
      rw [nr_ro hg hi (by omega)]
      refine ⟨vi, vp_in_nI lg (by omega), vi, vi, yi_sh hn hM hM1 (by have := (hp2 i hi).1; omega) (hq2 i hi).1 hx (nr_ro hp2 hi (by omega)) (nr_ro hq2 hi (by omega)) rfl ?_⟩
      have ew : (ne (nI (nr_cz gg i)).toNatClampNeg + 1) + nI (nr_dn n M (nr_cz gp i) (nr_cz gq i) x) = nI (S (nr_cz gg i) + 1 + nr_dn n M (nr_cz gp i) (nr_cz gq i) x) := by
        rw [nr_rd hS lg (by omega), nI_1, nI_add]
      refine nm_r ew (pk_le (nr_la n (nr_hb tg) M (nr_cz gg) (nr_cz gp) (nr_cz gq) S x i) (S (nr_cz gg i) + 1 + nr_dn n M (nr_cz gp i) (nr_cz gq i) x) (fun y => nm_r (nI_1 i) (ih _ ?_)) (fun y => nm_r (nI_1 i) (ih _ ?_)))
      · rw [nr_la_t (nr_hb_t.mpr z), if_neg (by omega)]
      · rw [nr_la_t (nr_hb_t.mpr z), if_pos (by omega)]
theorem yi_tc {post : Int32 → SY → Prop} {k x : Int32} (hn : n ≤ 6) (ho : nr_ok ao 10 n) (hm : nr_ok am 10 3) (hp : nr_ok ap 10 n) (hq : nr_ok aq 10 13) (hg : nr_ok gg 6 n) (hp2 : nr_ok gp 6 n) (hq2 : nr_ok gq 6 13) (hb : ¬ (nr_pr n k ∧ nr_pr n x) → post (-1) (nI n, th, ao, am, ap, aq, tg, gg, gp, gq, go, mb, ne))
    (h : ∀ j i t t2, j < n → i < n → k = nI j → x = nI i → post (nr_fo (nr_la n (nr_hb tg) (nr_M n (nr_hb th) (nr_cz ao) (nr_cz am) (nr_cz ap) (nr_cz aq)) (nr_cz gg) (nr_cz gp) (nr_cz gq) (nr_N n (nr_hb tg) (nr_hb go) (nr_M n (nr_hb th) (nr_cz ao) (nr_cz am) (nr_cz ap) (nr_cz aq)) (nr_cz gg) (nr_cz gp) (nr_cz gq) j (n - 1)) i 6)) (nI n, th, ao, am, ap, aq, tg, gg, gp, gq, go, t, t2)) : wpY_trustCost post (nI n, th, ao, am, ap, aq, tg, gg, gp, gq, go, mb, ne) k x := by
  unfold wpY_trustCost
  dsimp only
  refine yi_pr hn (fun hk => br_f nr_10 ?_) (fun hk => br_t rfl (hb (fun z => hk z.1)))
  refine yi_pr hn (fun hx => br_f nr_10 ?_) (fun hx => br_t rfl (hb (fun z => hx z.2)))
  obtain ⟨j, hj, rfl⟩ := hk
  obtain ⟨i, hi, rfl⟩ := hx
  refine yi_sp hn ho hm hp hq hg hp2 hq2 hj (fun t t2 ht ht2 => ?_)
  dsimp only
  exact yi_t30 hn hg hp2 hq2 ht (nr_K_le _ _ _ _ _ _ 108) ht2 (nr_N_le _ _ _ _ _ _ _ _ _) (by omega) (h j i t t2 hj hi rfl rfl)
theorem yi_tr {post : Int32 → SY → Prop} {k : Int32} (hn : n ≤ 6) (ho : nr_ok ao 10 n) (hm : nr_ok am 10 3) (hp : nr_ok ap 10 n) (hq : nr_ok aq 10 13) (hg : nr_ok gg 6 n) (hp2 : nr_ok gp 6 n) (hq2 : nr_ok gq 6 13) (hb : ¬ nr_pr n k → ∀ t t2, post 0 (nI n, th, ao, am, ap, aq, tg, gg, gp, gq, go, t, t2))
    (h : ∀ j t t2, j < n → k = nI j → post (nr_bi (fun x => decide (nr_la n (nr_hb tg) (nr_M n (nr_hb th) (nr_cz ao) (nr_cz am) (nr_cz ap) (nr_cz aq)) (nr_cz gg) (nr_cz gp) (nr_cz gq) (nr_N n (nr_hb tg) (nr_hb go) (nr_M n (nr_hb th) (nr_cz ao) (nr_cz am) (nr_cz ap) (nr_cz aq)) (nr_cz gg) (nr_cz gp) (nr_cz gq) j (n - 1)) x 6 < 1000)) n) (nI n, th, ao, am, ap, aq, tg, gg, gp, gq, go, t, t2)) : wpY_trusted post (nI n, th, ao, am, ap, aq, tg, gg, gp, gq, go, mb, ne) k := by
  by_cases hk : nr_pr n k
  · obtain ⟨j, hj, rfl⟩ := hk
    refine loop_0 (fun f i (s : Int32 × (Nat → Int32) × (Nat → Int32)) => wY_trusted_4 post (nI j) f s.1 (nI i) (nI n) th ao am ap aq tg gg gp gq go s.2.1 s.2.2) (fun i s => s.1 = nr_bi (fun x => decide (nr_la n (nr_hb tg) (nr_M n (nr_hb th) (nr_cz ao) (nr_cz am) (nr_cz ap) (nr_cz aq)) (nr_cz gg) (nr_cz gp) (nr_cz gq) (nr_N n (nr_hb tg) (nr_hb go) (nr_M n (nr_hb th) (nr_cz ao) (nr_cz am) (nr_cz ap) (nr_cz aq)) (nr_cz gg) (nr_cz gp) (nr_cz gq) j (n - 1)) x 6 < 1000)) i) n (0, mb, ne) rfl ?_ ?_
    · rintro f ⟨b, t, t2⟩ hI
      dsimp only at hI
      subst hI
      exact br_t (nI_le (Nat.le_refl _) (by omega)) (h j t t2 hj rfl)
    · rintro f i ⟨b, t, t2⟩ hi hI ih
      dsimp only at hI
      subst hI
      refine br_f (nI_ge hi (by omega)) (yi_tc hn ho hm hp hq hg hp2 hq2 (fun z => absurd ⟨⟨j, hj, rfl⟩, ⟨i, hi, rfl⟩⟩ z) (fun j' i' t' t2' hj' hi' ej ei => ?_))
      have ej' := (nI_eq (by omega) (by omega)).mp ej
      have ei' := (nI_eq (by omega) (by omega)).mp ei
      subst ej' ei'
      by_cases hl : nr_la n (nr_hb tg) (nr_M n (nr_hb th) (nr_cz ao) (nr_cz am) (nr_cz ap) (nr_cz aq)) (nr_cz gg) (nr_cz gp) (nr_cz gq) (nr_N n (nr_hb tg) (nr_hb go) (nr_M n (nr_hb th) (nr_cz ao) (nr_cz am) (nr_cz ap) (nr_cz aq)) (nr_cz gg) (nr_cz gp) (nr_cz gq) j (n - 1)) i 6 < 1000
      · rw [nr_fo_t hl]
        exact br_f (nI_pos (by omega)) (nm_e (nm_r (nI_1 i) (ih (_, t', t2') (nr_bi_t (decide_eq_true hl)).symm)))
      · rw [nr_fo_f hl]
        exact br_t nr_m1 (nm_r (nr_or0 _) (nm_r (nI_1 i) (ih (_, t', t2') (nr_bi_f (fun w => hl (of_decide_eq_true w))).symm)))
  · refine loop_0 (fun f i (s : Int32 × (Nat → Int32) × (Nat → Int32)) => wY_trusted_4 post k f s.1 (nI i) (nI n) th ao am ap aq tg gg gp gq go s.2.1 s.2.2) (fun i s => s.1 = 0) n (0, mb, ne) rfl ?_ ?_
    · rintro f ⟨b, t, t2⟩ hI
      dsimp only at hI
      subst hI
      exact br_t (nI_le (Nat.le_refl _) (by omega)) (hb hk t t2)
    · rintro f i ⟨b, t, t2⟩ hi hI ih
      dsimp only at hI
      subst hI
      exact br_f (nI_ge hi (by omega)) (yi_tc hn ho hm hp hq hg hp2 hq2 (fun _ => br_t nr_m1 (nm_r (nr_or0 _) (nm_r (nI_1 i) (ih (_, t, t2) rfl)))) (fun j' i' t' t2' hj' hi' ej ei => absurd ⟨j', hj', ej⟩ hk))
/-! answers that store -/
theorem yi_c42 {post : Int32 → SY → Prop} {k m p q : Int32} (hf : ∀ i, i < 10 → ¬ nr_hb th i = true → (∀ j, j < i → nr_hb th j = true) → post (nI i) (nI n, upd th i 1, upd ao i k, upd am i m, upd ap i p, upd aq i q, tg, gg, gp, gq, go, mb, ne)) (hF : (∀ j, j < 10 → nr_hb th j = true) → post (-2) (nI n, th, ao, am, ap, aq, tg, gg, gp, gq, go, mb, ne)) :
    ∃ f, wY_certify_42 post k m p q (nI n) th ao am ap aq tg gg gp gq go mb ne f 0 := by
  refine loop_0 (fun f i (_ : Unit) => wY_certify_42 post k m p q (nI n) th ao am ap aq tg gg gp gq go mb ne f (nI i)) (fun i _ => ∀ j, j < i → nr_hb th j = true) 10 () lt_0 ?_ ?_
  · intro f s hI
    exact br_t (nI_le (b := 10) (Nat.le_refl _) (by omega)) (hF hI)
  · intro f i s hi hI ih
    have vi : vp_in (nI i) 10 := vp_in_nI hi (by omega)
    have ec : (nI i).toNatClampNeg = i := nI_clamp (by omega)
    have e1 : upd th (nI i).toNatClampNeg (vp_nar .boolean 1) = upd th i 1 := by rw [ec, nr_v1]
    have eu : ∀ (a : Nat → Int32) (y : Int32), upd a (nI i).toNatClampNeg y = upd a i y := fun a y => by rw [ec]
    refine br_f (nI_ge (b := 10) hi (by omega)) ⟨vi, br_c (fun z => ⟨vi, nm_r e1 ⟨vi, nm_r (eu _ _) ⟨vi, nm_r (eu _ _) ⟨vi, nm_r (eu _ _) ⟨vi, nm_r (eu _ _) (hf i hi (fun w => nr_hb_t.mp w ?_) hI)⟩⟩⟩⟩⟩) (fun z => nm_r (nI_1 i) (ih () (lt_s hI (nr_hb_t.mpr ?_))))⟩
    · rw [ec] at z; exact z
    · rw [ec] at z; exact z
theorem yi_certify {post : Int32 → SY → Prop} {k m p q : Int32} (hn : n ≤ 6) (hb : ¬ (nr_pr n k ∧ nr_pr n p ∧ nr_pr 3 m ∧ nr_pr 13 q) → post (-1) (nI n, th, ao, am, ap, aq, tg, gg, gp, gq, go, mb, ne))
    (hg : nr_pr n k → nr_pr n p → nr_pr 3 m → nr_pr 13 q → ∃ f, wY_certify_42 post k m p q (nI n) th ao am ap aq tg gg gp gq go mb ne f 0) : wpY_certify post (nI n, th, ao, am, ap, aq, tg, gg, gp, gq, go, mb, ne) k m p q := by
  unfold wpY_certify
  dsimp only
  refine yi_pr hn (fun h1 => br_f nr_10 ?_) (fun h1 => br_t rfl (hb (fun z => h1 z.1)))
  refine yi_pr hn (fun h2 => br_f nr_10 ?_) (fun h2 => br_t rfl (hb (fun z => h2 z.2.1)))
  refine nr_rng2 (n := 2) (by omega) (fun h3 => ?_) (fun h3 => hb (fun z => h3 z.2.2.1))
  exact nr_rng3 (n := 12) (by omega) (fun h4 => hg h1 h2 h3 h4) (fun h4 => hb (fun z => h4 z.2.2.2))
theorem yi_g31 {post : Int32 → SY → Prop} {k p q o : Int32} (hf : ∀ i, i < 6 → ¬ nr_hb tg i = true → (∀ j, j < i → nr_hb tg j = true) → post (nI i) (nI n, th, ao, am, ap, aq, upd tg i 1, upd gg i k, upd gp i p, upd gq i q, upd go i (vp_nar .boolean o), mb, ne)) (hF : (∀ j, j < 6 → nr_hb tg j = true) → post (-2) (nI n, th, ao, am, ap, aq, tg, gg, gp, gq, go, mb, ne)) :
    ∃ f, wY_grant_31 post k p q o (nI n) th ao am ap aq tg gg gp gq go mb ne f 0 := by
  refine loop_0 (fun f i (_ : Unit) => wY_grant_31 post k p q o (nI n) th ao am ap aq tg gg gp gq go mb ne f (nI i)) (fun i _ => ∀ j, j < i → nr_hb tg j = true) 6 () lt_0 ?_ ?_
  · intro f s hI
    exact br_t (nI_le (b := 6) (Nat.le_refl _) (by omega)) (hF hI)
  · intro f i s hi hI ih
    have vi : vp_in (nI i) 6 := vp_in_nI hi (by omega)
    have ec : (nI i).toNatClampNeg = i := nI_clamp (by omega)
    have e1 : upd tg (nI i).toNatClampNeg (vp_nar .boolean 1) = upd tg i 1 := by rw [ec, nr_v1]
    have eu : ∀ (a : Nat → Int32) (y : Int32), upd a (nI i).toNatClampNeg y = upd a i y := fun a y => by rw [ec]
    refine br_f (nI_ge (b := 6) hi (by omega)) ⟨vi, br_c (fun z => ⟨vi, nm_r e1 ⟨vi, nm_r (eu _ _) ⟨vi, nm_r (eu _ _) ⟨vi, nm_r (eu _ _) ⟨vi, nm_r (eu _ _) (hf i hi (fun w => nr_hb_t.mp w ?_) hI)⟩⟩⟩⟩⟩) (fun z => nm_r (nI_1 i) (ih () (lt_s hI (nr_hb_t.mpr ?_))))⟩
    · rw [ec] at z; exact z
    · rw [ec] at z; exact z
theorem yi_grant {post : Int32 → SY → Prop} {k p q o : Int32} (hn : n ≤ 6) (hb : ¬ (nr_pr n k ∧ nr_pr n p ∧ nr_pr 13 q) → post (-1) (nI n, th, ao, am, ap, aq, tg, gg, gp, gq, go, mb, ne))
    (hg : nr_pr n k → nr_pr n p → nr_pr 13 q → ∃ f, wY_grant_31 post k p q o (nI n) th ao am ap aq tg gg gp gq go mb ne f 0) : wpY_grant post (nI n, th, ao, am, ap, aq, tg, gg, gp, gq, go, mb, ne) k p q o := by
  unfold wpY_grant
  dsimp only
  refine yi_pr hn (fun h1 => br_f nr_10 ?_) (fun h1 => br_t rfl (hb (fun z => h1 z.1)))
  refine yi_pr hn (fun h2 => br_f nr_10 ?_) (fun h2 => br_t rfl (hb (fun z => h2 z.2.1)))
  exact nr_rng3 (n := 12) (by omega) (fun h4 => hg h1 h2 h4) (fun h4 => hb (fun z => h4 z.2.2))
theorem yi_revoke {post : Int32 → SY → Prop} {x : Int32} (hb : (∀ j, j < 10 → x = nI j → ¬ nr_hb th j = true) → post 0 (nI n, th, ao, am, ap, aq, tg, gg, gp, gq, go, mb, ne)) (h : ∀ j, j < 10 → x = nI j → nr_hb th j = true → post 1 (nI n, upd th j 0, ao, am, ap, aq, tg, gg, gp, gq, go, mb, ne)) : wpY_revoke post (nI n, th, ao, am, ap, aq, tg, gg, gp, gq, go, mb, ne) x := by
  refine nr_rng2 (n := 9) (by omega) (fun hp => ?_) (fun hp => hb (fun j hj e => absurd ⟨j, hj, e⟩ hp))
  obtain ⟨j, hj, rfl⟩ := hp
  have vi : vp_in (nI j) 10 := vp_in_nI hj (by omega)
  have ec : (nI j).toNatClampNeg = j := nI_clamp (by omega)
  refine ⟨vi, br_c (fun z => hb (fun i hi e w => ?_)) (fun z => ⟨vi, nm_r (e' := upd th j 0) (by rw [ec, nr_v0]) (h j hj rfl (nr_hb_t.mpr ?_))⟩)⟩
  · have := (nI_eq (by omega) (by omega)).mp e
    subst this
    rw [ec] at z
    exact nr_hb_t.mp w z
  · rw [ec] at z; exact z
theorem yi_withdraw {post : Int32 → SY → Prop} {x : Int32} (hb : (∀ j, j < 6 → x = nI j → ¬ nr_hb tg j = true) → post 0 (nI n, th, ao, am, ap, aq, tg, gg, gp, gq, go, mb, ne)) (h : ∀ j, j < 6 → x = nI j → nr_hb tg j = true → post 1 (nI n, th, ao, am, ap, aq, upd tg j 0, gg, gp, gq, go, mb, ne)) : wpY_withdraw post (nI n, th, ao, am, ap, aq, tg, gg, gp, gq, go, mb, ne) x := by
  refine nr_rng2 (n := 5) (by omega) (fun hp => ?_) (fun hp => hb (fun j hj e => absurd ⟨j, hj, e⟩ hp))
  obtain ⟨j, hj, rfl⟩ := hp
  have vi : vp_in (nI j) 6 := vp_in_nI hj (by omega)
  have ec : (nI j).toNatClampNeg = j := nI_clamp (by omega)
  refine ⟨vi, br_c (fun z => hb (fun i hi e w => ?_)) (fun z => ⟨vi, nm_r (e' := upd tg j 0) (by rw [ec, nr_v0]) (h j hj rfl (nr_hb_t.mpr ?_))⟩)⟩
  · have := (nI_eq (by omega) (by omega)).mp e
    subst this
    rw [ec] at z
    exact nr_hb_t.mp w z
  · rw [ec] at z; exact z
theorem yi_c23 {post : SY → Prop} (h : ∀ s, nr_R s 6 (fun _ => 0) → post (nI n, th, ao, am, ap, aq, s, gg, gp, gq, go, mb, ne)) : ∃ f, wY_clear_23 post (nI n) f 0 th ao am ap aq tg gg gp gq go mb ne := by
  refine loop_0 (fun f i s => wY_clear_23 post (nI n) f (nI i) th ao am ap aq s gg gp gq go mb ne) (fun i s => nr_R s i (fun _ => 0)) 6 tg nr_R_0 ?_ ?_
  · intro f s hI
    exact br_t (nI_le (b := 6) (Nat.le_refl _) (by omega)) (h s hI)
  · intro f i s hi hI ih
    exact br_f (nI_ge (b := 6) hi (by omega)) ⟨vp_in_nI hi (by omega), nm_e (nm_r (nI_1 i) (ih _ (nr_R_s hI nr_v0 (by omega))))⟩
theorem yi_clear {post : SY → Prop} (h : ∀ s s2, nr_R s 10 (fun _ => 0) → nr_R s2 6 (fun _ => 0) → post (nI n, s, ao, am, ap, aq, s2, gg, gp, gq, go, mb, ne)) : wpY_clear post (nI n, th, ao, am, ap, aq, tg, gg, gp, gq, go, mb, ne) := by
  refine loop_0 (fun f i s => wY_clear_2 post (nI n) f (nI i) s ao am ap aq tg gg gp gq go mb ne) (fun i s => nr_R s i (fun _ => 0)) 10 th nr_R_0 ?_ ?_
  · intro f s hI
    exact br_t (nI_le (b := 10) (Nat.le_refl _) (by omega)) (yi_c23 (fun s2 h2 => h s s2 hI h2))
  · intro f i s hi hI ih
    exact br_f (nI_ge (b := 10) hi (by omega)) ⟨vp_in_nI hi (by omega), nm_e (nm_r (nI_1 i) (ih _ (nr_R_s hI nr_v0 (by omega))))⟩
end
