theorem nr_n2 {i : Nat} (hi : i < 2 ^ 31) : ¬ nI i = -2 := by
  intro e
  have h := nI_pos hi
  rw [e] at h
  exact h (by decide)
theorem nr_nm1 {i : Nat} (hi : i < 2 ^ 31) : ¬ nI i = -1 := by
  intro e
  have h := nI_pos hi
  rw [e] at h
  exact h (by decide)
section
variable {bc bg : Int32} {ao am ap aq gg gp gq go lc cw oc : Nat → Int32} {n : Nat}
theorem xi_cost {post : Int32 → Prop} {M : Nat → Nat} {k m x : Int32} (hn : n ≤ 6) (hM : nr_R lc 108 M) (hM1 : ∀ b, M b ≤ 1000) (hb : ¬ (nr_pr n k ∧ nr_pr n x ∧ nr_pr 3 m) → post (-1))
    (h : ∀ j i a, j < n → i < n → a < 3 → k = nI j → x = nI i → m = nI a → post (nr_fo (M (nr_at j a i)))) : wpX_cost post (nI n, bc, bg, ao, am, ap, aq, gg, gp, gq, go, lc, cw, oc) k m x := by
  unfold wpX_cost
  dsimp only
  refine xi_pr hn (fun hk => br_f nr_10 ?_) (fun hk => br_t rfl (hb (fun z => hk z.1)))
  refine xi_nm (fun hc => br_f nr_10 ?_) (fun hc => br_t rfl (hb (fun z => hc z.2.2)))
  refine xi_pr hn (fun hx => br_f nr_10 ?_) (fun hx => br_t rfl (hb (fun z => hx z.2.1)))
  obtain ⟨j, hj, rfl⟩ := hk
  obtain ⟨i, hi, rfl⟩ := hx
  obtain ⟨a, ha, rfl⟩ := hc
  have l1 : nr_at j a i < 108 := nr_at_lt (by omega) ha (by omega)
  refine xi_pl rfl rfl rfl ⟨vp_in_nI l1 (by omega), ?_⟩
  rw [nr_rd hM l1 (by omega)]
  exact xi_fo2 (hM1 _) (h j i a hj hi ha rfl rfl rfl)
theorem xi_den {post : Int32 → Prop} {M : Nat → Nat} {p q x : Int32} (hn : n ≤ 6) (hM : nr_R lc 108 M) (hM1 : ∀ b, M b ≤ 1000) (hb : ¬ (nr_pr n p ∧ nr_pr n x ∧ nr_pr 13 q) → post (-1))
    (h : ∀ j i a, j < n → i < n → a < 13 → p = nI j → x = nI i → q = nI a → post (nr_fo (nr_dn n M j a i))) : wpX_denotes post (nI n, bc, bg, ao, am, ap, aq, gg, gp, gq, go, lc, cw, oc) p q x := by
  unfold wpX_denotes
  dsimp only
  refine xi_su hn (fun hk hc => br_f nr_10 ?_) (fun hk => br_t rfl (hb (fun z => hk ⟨z.1, z.2.2⟩)))
  refine xi_pr hn (fun hx => br_f nr_10 ?_) (fun hx => br_t rfl (hb (fun z => hx z.2.1)))
  obtain ⟨j, hj, rfl⟩ := hk
  obtain ⟨i, hi, rfl⟩ := hx
  obtain ⟨a, ha, rfl⟩ := hc
  refine xi_dn hn hM hM1 (by omega) ha (by omega) rfl rfl rfl ?_
  exact xi_fo2 (nr_dn_le hM1 _ _ _ _) (h j i a hj hi ha rfl rfl rfl)
theorem xi_mem {post : Int32 → Prop} {M : Nat → Nat} {k m : Int32} (hn : n ≤ 6) (hM : nr_R lc 108 M) (hM1 : ∀ b, M b ≤ 1000) (hb : ¬ (nr_pr n k ∧ nr_pr 3 m) → post 0)
    (h : ∀ j a, j < n → a < 3 → k = nI j → m = nI a → post (nr_bi (fun x => decide (M (nr_at j a x) < 1000)) n)) : wpX_members post (nI n, bc, bg, ao, am, ap, aq, gg, gp, gq, go, lc, cw, oc) k m := by
  unfold wpX_members
  dsimp only
  refine xi_pr hn (fun hk => br_f nr_10 ?_) (fun hk => br_t rfl (hb (fun z => hk z.1)))
  refine xi_nm (fun hc => br_f nr_10 ?_) (fun hc => br_t rfl (hb (fun z => hc z.2)))
  obtain ⟨j, hj, rfl⟩ := hk
  obtain ⟨a, ha, rfl⟩ := hc
  exact xi_m22 hn hM hM1 (by omega) ha (h j a hj ha rfl rfl)
theorem xi_certify {post : Int32 → SX → Prop} {B : Nat → Bool} {k m p q : Int32} (hn : n ≤ 6) (ho : nr_ok ao 10 n) (hm : nr_ok am 10 3) (hp : nr_ok ap 10 n) (hq : nr_ok aq 10 13) (hb : ¬ (nr_pr n k ∧ nr_pr n p ∧ nr_pr 3 m ∧ nr_pr 13 q) → post (-1) (nI n, nr_bi B 10, bg, ao, am, ap, aq, gg, gp, gq, go, lc, cw, oc))
    (hF : nr_pr n k → nr_pr n p → nr_pr 3 m → nr_pr 13 q → (∀ j, j < 10 → B j = true) → post (-2) (nI n, nr_bi B 10, bg, ao, am, ap, aq, gg, gp, gq, go, lc, cw, oc))
    (hf : ∀ i t, nr_pr n k → nr_pr n p → nr_pr 3 m → nr_pr 13 q → i < 10 → ¬ B i = true → (∀ j, j < i → B j = true) → nr_ok (upd ao i k) 10 n → nr_ok (upd am i m) 10 3 → nr_ok (upd ap i p) 10 n → nr_ok (upd aq i q) 10 13 →
      nr_R t 108 (nr_M n (nr_se B i true) (nr_cz (upd ao i k)) (nr_cz (upd am i m)) (nr_cz (upd ap i p)) (nr_cz (upd aq i q))) → post (nI i) (nI n, nr_bi (nr_se B i true) 10, bg, upd ao i k, upd am i m, upd ap i p, upd aq i q, gg, gp, gq, go, t, cw, oc)) : wpX_certify post (nI n, nr_bi B 10, bg, ao, am, ap, aq, gg, gp, gq, go, lc, cw, oc) k m p q := by
  unfold wpX_certify
  dsimp only
  refine xi_pr hn (fun h1 => br_f nr_10 ?_) (fun h1 => br_t rfl (hb (fun z => h1 z.1)))
  refine xi_nm (fun h3 => br_f nr_10 ?_) (fun h3 => br_t rfl (hb (fun z => h3 z.2.2.1)))
  refine xi_su hn (fun h2 h4 => br_f nr_10 ?_) (fun h2 => br_t rfl (hb (fun z => h2 ⟨z.2.1, z.2.2.2⟩)))
  refine xi_lf (m := 10) (by omega) (fun i hi hB hl => br_f (nr_n2 (by omega)) ?_) (fun hall => br_t rfl (hF h1 h2 h3 h4 hall))
  have vi : vp_in (nI i) 10 := vp_in_nI hi (by omega)
  have ec : (nI i).toNatClampNeg = i := nI_clamp (by omega)
  have eu : ∀ (a : Nat → Int32) (y : Int32), upd a (nI i).toNatClampNeg y = upd a i y := fun a y => by rw [ec]
  have o1 : nr_ok (upd ao i k) 10 n := by obtain ⟨j, hj, rfl⟩ := h1; exact nr_ok_u ho hj (by omega)
  have o2 : nr_ok (upd ap i p) 10 n := by obtain ⟨j, hj, rfl⟩ := h2; exact nr_ok_u hp hj (by omega)
  have o3 : nr_ok (upd am i m) 10 3 := by obtain ⟨j, hj, rfl⟩ := h3; exact nr_ok_u hm hj (by omega)
  have o4 : nr_ok (upd aq i q) 10 13 := by obtain ⟨j, hj, rfl⟩ := h4; exact nr_ok_u hq hj (by omega)
  refine ⟨vi, nm_r (eu _ _) ⟨vi, nm_r (eu _ _) ⟨vi, nm_r (eu _ _) ⟨vi, nm_r (eu _ _) (nm_r (nr_bi_on B (by omega) hi) ?_)⟩⟩⟩⟩
  exact xi_re hn o1 o3 o2 o4 (fun t ht => hf i t h1 h2 h3 h4 hi hB hl o1 o3 o2 o4 ht)
theorem xi_revoke {post : Int32 → SX → Prop} {B : Nat → Bool} {x : Int32} (hn : n ≤ 6) (ho : nr_ok ao 10 n) (hm : nr_ok am 10 3) (hp : nr_ok ap 10 n) (hq : nr_ok aq 10 13) (hb : (∀ j, j < 10 → x = nI j → ¬ B j = true) → post 0 (nI n, nr_bi B 10, bg, ao, am, ap, aq, gg, gp, gq, go, lc, cw, oc))
    (hf : ∀ j t, j < 10 → x = nI j → B j = true → nr_R t 108 (nr_M n (nr_se B j false) (nr_cz ao) (nr_cz am) (nr_cz ap) (nr_cz aq)) → post 1 (nI n, nr_bi (nr_se B j false) 10, bg, ao, am, ap, aq, gg, gp, gq, go, t, cw, oc)) : wpX_revoke post (nI n, nr_bi B 10, bg, ao, am, ap, aq, gg, gp, gq, go, lc, cw, oc) x := by
  unfold wpX_revoke
  dsimp only
  refine xi_he (m := 10) (by omega) (fun j hj e hB => br_f nr_10 ?_) (fun z => br_t rfl (hb z))
  subst e
  exact nm_r (nr_bi_off B (by omega) hj) (xi_re hn ho hm hp hq (fun t ht => hf j t hj rfl hB ht))
theorem xi_matters {post : Int32 → SX → Prop} {B : Nat → Bool} {x : Int32} {T : Nat → Nat} (hn : n ≤ 6) (ho : nr_ok ao 10 n) (hm : nr_ok am 10 3) (hp : nr_ok ap 10 n) (hq : nr_ok aq 10 13) (hL : nr_R lc 108 T) (hT : ∀ b, T b ≤ 1000) (hb : (∀ j, j < 10 → x = nI j → ¬ B j = true) → post 0 (nI n, nr_bi B 10, bg, ao, am, ap, aq, gg, gp, gq, go, lc, cw, oc))
    (hf : ∀ j t, j < 10 → x = nI j → B j = true → (∃ a, a < 108 ∧ T a < 1000 ∧ ¬ nr_M n (nr_se B j false) (nr_cz ao) (nr_cz am) (nr_cz ap) (nr_cz aq) a < 1000) → post 1 (nI n, nr_bi B 10, bg, ao, am, ap, aq, gg, gp, gq, go, lc, t, oc))
    (hz : ∀ j t, j < 10 → x = nI j → B j = true → ¬ (∃ a, a < 108 ∧ T a < 1000 ∧ ¬ nr_M n (nr_se B j false) (nr_cz ao) (nr_cz am) (nr_cz ap) (nr_cz aq) a < 1000) → post 0 (nI n, nr_bi B 10, bg, ao, am, ap, aq, gg, gp, gq, go, lc, t, oc)) : wpX_matters post (nI n, nr_bi B 10, bg, ao, am, ap, aq, gg, gp, gq, go, lc, cw, oc) x := by
  unfold wpX_matters
  dsimp only
  refine xi_he (m := 10) (by omega) (fun j hj e hB => br_f nr_10 ?_) (fun z => br_t rfl (hb z))
  subst e
  rw [nr_bi_off B (by omega) hj]
  refine xi_rew hn ho hm hp hq (fun t ht => ?_)
  exact xi_m35 hL ht hT (nr_K_le _ _ _ _ _ _ 108) (hf j t hj rfl hB) (hz j t hj rfl hB)
theorem xi_grant {post : Int32 → SX → Prop} {G : Nat → Bool} {k p q o : Int32} (hn : n ≤ 6) (hb : ¬ (nr_pr n k ∧ nr_pr n p ∧ nr_pr 13 q) → post (-1) (nI n, bc, nr_bi G 6, ao, am, ap, aq, gg, gp, gq, go, lc, cw, oc))
    (hF : nr_pr n k → nr_pr n p → nr_pr 13 q → (∀ j, j < 6 → G j = true) → post (-2) (nI n, bc, nr_bi G 6, ao, am, ap, aq, gg, gp, gq, go, lc, cw, oc))
    (hf : ∀ i, nr_pr n k → nr_pr n p → nr_pr 13 q → i < 6 → ¬ G i = true → (∀ j, j < i → G j = true) → post (nI i) (nI n, bc, nr_bi (nr_se G i true) 6, ao, am, ap, aq, upd gg i k, upd gp i p, upd gq i q, upd go i (vp_nar .boolean o), lc, cw, oc)) : wpX_grant post (nI n, bc, nr_bi G 6, ao, am, ap, aq, gg, gp, gq, go, lc, cw, oc) k p q o := by
  unfold wpX_grant
  dsimp only
  refine xi_pr hn (fun h1 => br_f nr_10 ?_) (fun h1 => br_t rfl (hb (fun z => h1 z.1)))
  refine xi_su hn (fun h2 h4 => br_f nr_10 ?_) (fun h2 => br_t rfl (hb (fun z => h2 ⟨z.2.1, z.2.2⟩)))
  refine xi_lf (m := 6) (by omega) (fun i hi hB hl => br_f (nr_n2 (by omega)) ?_) (fun hall => br_t rfl (hF h1 h2 h4 hall))
  have vi : vp_in (nI i) 6 := vp_in_nI hi (by omega)
  have ec : (nI i).toNatClampNeg = i := nI_clamp (by omega)
  have eu : ∀ (a : Nat → Int32) (y : Int32), upd a (nI i).toNatClampNeg y = upd a i y := fun a y => by rw [ec]
  exact ⟨vi, nm_r (eu _ _) ⟨vi, nm_r (eu _ _) ⟨vi, nm_r (eu _ _) ⟨vi, nm_r (eu _ _) (nm_r (nr_bi_on G (by omega) hi) (hf i h1 h2 h4 hi hB hl))⟩⟩⟩⟩
theorem xi_withdraw {post : Int32 → SX → Prop} {G : Nat → Bool} {x : Int32} (hb : (∀ j, j < 6 → x = nI j → ¬ G j = true) → post 0 (nI n, bc, nr_bi G 6, ao, am, ap, aq, gg, gp, gq, go, lc, cw, oc))
    (hf : ∀ j, j < 6 → x = nI j → G j = true → post 1 (nI n, bc, nr_bi (nr_se G j false) 6, ao, am, ap, aq, gg, gp, gq, go, lc, cw, oc)) : wpX_withdraw post (nI n, bc, nr_bi G 6, ao, am, ap, aq, gg, gp, gq, go, lc, cw, oc) x := by
  unfold wpX_withdraw
  dsimp only
  refine xi_he (m := 6) (by omega) (fun j hj e hB => br_f nr_10 ?_) (fun z => br_t rfl (hb z))
  subst e
  exact nm_r (nr_bi_off G (by omega) hj) (hf j hj rfl hB)
theorem xi_trusted {post : Int32 → SX → Prop} {G : Nat → Bool} {M : Nat → Nat} {k : Int32} (hn : n ≤ 6) (hg : nr_ok gg 6 n) (hp : nr_ok gp 6 n) (hq : nr_ok gq 6 13) (hM : nr_R lc 108 M) (hM1 : ∀ b, M b ≤ 1000) (hn1 : 1 ≤ n) (hb : ¬ nr_pr n k → post 0 (nI n, bc, nr_bi G 6, ao, am, ap, aq, gg, gp, gq, go, lc, cw, oc))
    (h : ∀ j t, j < n → k = nI j → post (nr_bi (fun x => decide (nr_la n G M (nr_cz gg) (nr_cz gp) (nr_cz gq) (nr_N n G (nr_hb go) M (nr_cz gg) (nr_cz gp) (nr_cz gq) j (n - 1)) x 6 < 1000)) n) (nI n, bc, nr_bi G 6, ao, am, ap, aq, gg, gp, gq, go, lc, cw, t)) : wpX_trusted post (nI n, bc, nr_bi G 6, ao, am, ap, aq, gg, gp, gq, go, lc, cw, oc) k := by
  unfold wpX_trusted
  dsimp only
  refine xi_pr hn (fun h1 => br_f nr_10 ?_) (fun h1 => br_t rfl (hb h1))
  obtain ⟨j, hj, rfl⟩ := h1
  refine xi_fo hn hg hp hq hM hM1 hn1 (by omega) (fun t ht => ?_)
  exact xi_t19 hn hg hp hq hM hM1 ht (nr_N_le _ _ _ _ _ _ _ _ _) (h j t hj rfl)
theorem xi_trustCost {post : Int32 → SX → Prop} {G : Nat → Bool} {M : Nat → Nat} {k x : Int32} (hn : n ≤ 6) (hg : nr_ok gg 6 n) (hp : nr_ok gp 6 n) (hq : nr_ok gq 6 13) (hM : nr_R lc 108 M) (hM1 : ∀ b, M b ≤ 1000) (hn1 : 1 ≤ n) (hb : ¬ (nr_pr n k ∧ nr_pr n x) → post (-1) (nI n, bc, nr_bi G 6, ao, am, ap, aq, gg, gp, gq, go, lc, cw, oc))
    (h : ∀ j i t, j < n → i < n → k = nI j → x = nI i → post (nr_fo (nr_la n G M (nr_cz gg) (nr_cz gp) (nr_cz gq) (nr_N n G (nr_hb go) M (nr_cz gg) (nr_cz gp) (nr_cz gq) j (n - 1)) i 6)) (nI n, bc, nr_bi G 6, ao, am, ap, aq, gg, gp, gq, go, lc, cw, t)) : wpX_trustCost post (nI n, bc, nr_bi G 6, ao, am, ap, aq, gg, gp, gq, go, lc, cw, oc) k x := by
  unfold wpX_trustCost
  dsimp only
  refine xi_pr hn (fun h1 => br_f nr_10 ?_) (fun h1 => br_t rfl (hb (fun z => h1 z.1)))
  refine xi_pr hn (fun h2 => br_f nr_10 ?_) (fun h2 => br_t rfl (hb (fun z => h2 z.2)))
  obtain ⟨j, hj, rfl⟩ := h1
  obtain ⟨i, hi, rfl⟩ := h2
  refine xi_fo hn hg hp hq hM hM1 hn1 (by omega) (fun t ht => ?_)
  refine xi_la hn hg hp hq hM hM1 ht (nr_N_le _ _ _ _ _ _ _ _ _) (by omega) ?_
  exact xi_fo2 (nr_la_le _ _ _ _ _ _ _ _ _) (h j i t hj hi rfl rfl)
end
