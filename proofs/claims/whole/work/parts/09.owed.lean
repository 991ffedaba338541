theorem i_vc0 (k0 : Int32) : wpX_init (fun u => wpY_init (fun v => i_Rel 1 u v) k0) k0 := by
  by_cases h1 : 1 ≤ k0
  · have hp : ¬ k0 < 0 := fun z => absurd (Int32.lt_of_le_of_lt h1 z) (by decide)
    obtain ⟨j, hj, rfl⟩ := nI_of hp
    have h1' : 1 ≤ j := (nI_leI (a := 1) (by omega) hj).mp h1
    by_cases h6 : nI j ≤ 6
    · have h6' : j ≤ 6 := (nI_leI (b := 6) hj (by omega)).mp h6
      exact br_t h1 (br_t h6 (xi_114 (fun t ht => br_t h1 (br_t h6 (nr_new 1 h1' h6' ht)))))
    · exact br_t h1 (br_f h6 (xi_114 (n := 6) (fun t ht => br_t h1 (br_f h6 (nr_new (n := 6) 1 (by omega) (by omega) ht)))))
  · exact br_f h1 (xi_114 (n := 1) (fun t ht => br_f h1 (nr_new (n := 1) 1 (by omega) (by omega) ht)))
theorem i_vc_certify {k : Nat} {u : SX} {v : SY} (I : i_Rel k u v) (hk : k + 5 ≤ 2561) (v1 : Int32) (v2 : Int32) (v3 : Int32) (v4 : Int32) : wpX_certify (fun r u' => wpY_certify (fun r' v' => r' = r ∧ i_Rel (k + 5) u' v') v v1 v2 v3 v4) u v1 v2 v3 v4 := by
  have I0 := I
  obtain ⟨n, th, ao, am, ap, aq, tg, gg, gp, gq, go, lc, cw, oc, mb, ne, rfl, rfl, hn1, hn, ho, hm, hp, hq, hg, hp2, hq2, hL⟩ := I
  refine xi_certify hn ho hm hp hq (fun hb => ?_) (fun a1 a2 a3 a4 hall => ?_) (fun i t a1 a2 a3 a4 hi hB hl o1 o2 o3 o4 ht => ?_)
  · exact yi_certify hn (fun _ => ⟨rfl, I0⟩) (fun a1 a2 a3 a4 => absurd ⟨a1, a2, a3, a4⟩ hb)
  · exact yi_certify hn (fun z => absurd ⟨a1, a2, a3, a4⟩ z) (fun _ _ _ _ => yi_c42 (fun i hi hB _ => absurd (hall i hi) hB) (fun _ => ⟨rfl, I0⟩))
  · refine yi_certify hn (fun z => absurd ⟨a1, a2, a3, a4⟩ z) (fun _ _ _ _ => yi_c42 (fun j hj hB2 hl2 => ?_) (fun hall => absurd (hall i hi) hB))
    have e := nr_same hB hl hB2 hl2
    subst e
    refine ⟨rfl, n, upd th j 1, upd ao j v1, upd am j v2, upd ap j v3, upd aq j v4, tg, gg, gp, gq, go, t, cw, oc, mb, ne, ?_, rfl, hn1, hn, o1, o2, o3, o4, hg, hp2, hq2, ?_⟩
    · rw [nr_hb_u1]
    · rw [nr_hb_u1]; exact ht
theorem i_vc_revoke {k : Nat} {u : SX} {v : SY} (I : i_Rel k u v) (hk : k + 5 ≤ 2561) (v1 : Int32) : wpX_revoke (fun r u' => wpY_revoke (fun r' v' => r' = r ∧ i_Rel (k + 5) u' v') v v1) u v1 := by
  have I0 := I
  obtain ⟨n, th, ao, am, ap, aq, tg, gg, gp, gq, go, lc, cw, oc, mb, ne, rfl, rfl, hn1, hn, ho, hm, hp, hq, hg, hp2, hq2, hL⟩ := I
  refine xi_revoke hn ho hm hp hq (fun hb => ?_) (fun j t hj e hB ht => ?_)
  · exact yi_revoke (fun _ => ⟨rfl, I0⟩) (fun j hj e hB => absurd hB (hb j hj e))
  · refine yi_revoke (fun z => absurd hB (z j hj e)) (fun j2 hj2 e2 hB2 => ?_)
    have ej : j2 = j := (nI_eq (by omega) (by omega)).mp (e2.symm.trans e)
    subst ej
    refine ⟨rfl, n, upd th j2 0, ao, am, ap, aq, tg, gg, gp, gq, go, t, cw, oc, mb, ne, ?_, rfl, hn1, hn, ho, hm, hp, hq, hg, hp2, hq2, ?_⟩
    · rw [nr_hb_u0]
    · rw [nr_hb_u0]; exact ht
theorem i_vc_grant {k : Nat} {u : SX} {v : SY} (I : i_Rel k u v) (hk : k + 5 ≤ 2561) (v1 : Int32) (v2 : Int32) (v3 : Int32) (v4 : Int32) : wpX_grant (fun r u' => wpY_grant (fun r' v' => r' = r ∧ i_Rel (k + 5) u' v') v v1 v2 v3 (lw_bz v4)) u v1 v2 v3 (lw_bz v4) := by
  have I0 := I
  obtain ⟨n, th, ao, am, ap, aq, tg, gg, gp, gq, go, lc, cw, oc, mb, ne, rfl, rfl, hn1, hn, ho, hm, hp, hq, hg, hp2, hq2, hL⟩ := I
  refine xi_grant hn (fun hb => ?_) (fun a1 a2 a4 hall => ?_) (fun i a1 a2 a4 hi hB hl => ?_)
  · exact yi_grant hn (fun _ => ⟨rfl, I0⟩) (fun a1 a2 a4 => absurd ⟨a1, a2, a4⟩ hb)
  · exact yi_grant hn (fun z => absurd ⟨a1, a2, a4⟩ z) (fun _ _ _ => yi_g31 (fun i hi hB _ => absurd (hall i hi) hB) (fun _ => ⟨rfl, I0⟩))
  · refine yi_grant hn (fun z => absurd ⟨a1, a2, a4⟩ z) (fun _ _ _ => yi_g31 (fun j hj hB2 hl2 => ?_) (fun hall => absurd (hall i hi) hB))
    have e := nr_same hB hl hB2 hl2
    subst e
    have o1 : nr_ok (upd gg j v1) 6 n := by obtain ⟨l, h, rfl⟩ := a1; exact nr_ok_u hg h (by omega)
    have o2 : nr_ok (upd gp j v2) 6 n := by obtain ⟨l, h, rfl⟩ := a2; exact nr_ok_u hp2 h (by omega)
    have o4 : nr_ok (upd gq j v3) 6 13 := by obtain ⟨l, h, rfl⟩ := a4; exact nr_ok_u hq2 h (by omega)
    refine ⟨rfl, n, th, ao, am, ap, aq, upd tg j 1, upd gg j v1, upd gp j v2, upd gq j v3, upd go j (vp_nar .boolean (lw_bz v4)), lc, cw, oc, mb, ne, ?_, rfl, hn1, hn, ho, hm, hp, hq, o1, o2, o4, hL⟩
    rw [nr_hb_u1]
theorem i_vc_withdraw {k : Nat} {u : SX} {v : SY} (I : i_Rel k u v) (hk : k + 5 ≤ 2561) (v1 : Int32) : wpX_withdraw (fun r u' => wpY_withdraw (fun r' v' => r' = r ∧ i_Rel (k + 5) u' v') v v1) u v1 := by
  have I0 := I
  obtain ⟨n, th, ao, am, ap, aq, tg, gg, gp, gq, go, lc, cw, oc, mb, ne, rfl, rfl, hn1, hn, ho, hm, hp, hq, hg, hp2, hq2, hL⟩ := I
  refine xi_withdraw (fun hb => ?_) (fun j hj e hB => ?_)
  · exact yi_withdraw (fun _ => ⟨rfl, I0⟩) (fun j hj e hB => absurd hB (hb j hj e))
  · refine yi_withdraw (fun z => absurd hB (z j hj e)) (fun j2 hj2 e2 hB2 => ?_)
    have ej : j2 = j := (nI_eq (by omega) (by omega)).mp (e2.symm.trans e)
    subst ej
    refine ⟨rfl, n, th, ao, am, ap, aq, upd tg j2 0, gg, gp, gq, go, lc, cw, oc, mb, ne, ?_, rfl, hn1, hn, ho, hm, hp, hq, hg, hp2, hq2, hL⟩
    rw [nr_hb_u0]
theorem i_vc_certificates {k : Nat} {u : SX} {v : SY} (I : i_Rel k u v) (hk : k + 5 ≤ 2561) : wpX_certificates (fun r => wpY_certificates (fun r' => r' = r ∧ i_Rel (k + 5) u v) v) u := by
  have I0 := I
  obtain ⟨n, th, ao, am, ap, aq, tg, gg, gp, gq, go, lc, cw, oc, mb, ne, rfl, rfl, hn1, hn, ho, hm, hp, hq, hg, hp2, hq2, hL⟩ := I
  exact yi_cer ⟨rfl, I0⟩
theorem i_vc_grants {k : Nat} {u : SX} {v : SY} (I : i_Rel k u v) (hk : k + 5 ≤ 2561) : wpX_grants (fun r => wpY_grants (fun r' => r' = r ∧ i_Rel (k + 5) u v) v) u := by
  have I0 := I
  obtain ⟨n, th, ao, am, ap, aq, tg, gg, gp, gq, go, lc, cw, oc, mb, ne, rfl, rfl, hn1, hn, ho, hm, hp, hq, hg, hp2, hq2, hL⟩ := I
  exact yi_gra ⟨rfl, I0⟩
theorem i_vc_members {k : Nat} {u : SX} {v : SY} (I : i_Rel k u v) (hk : k + 5 ≤ 2561) (v1 : Int32) (v2 : Int32) : wpX_members (fun r => wpY_members (fun r' v' => r' = r ∧ i_Rel (k + 5) u v') v v1 v2) u v1 v2 := by
  obtain ⟨n, th, ao, am, ap, aq, tg, gg, gp, gq, go, lc, cw, oc, mb, ne, rfl, rfl, hn1, hn, ho, hm, hp, hq, hg, hp2, hq2, hL⟩ := I
  have J : ∀ t, i_Rel (k + 5) (nI n, nr_bi (nr_hb th) 10, nr_bi (nr_hb tg) 6, ao, am, ap, aq, gg, gp, gq, go, lc, cw, oc) (nI n, th, ao, am, ap, aq, tg, gg, gp, gq, go, t, ne) := fun t => ⟨n, th, ao, am, ap, aq, tg, gg, gp, gq, go, lc, cw, oc, t, ne, rfl, rfl, hn1, hn, ho, hm, hp, hq, hg, hp2, hq2, hL⟩
  refine xi_mem hn hL (nr_K_le _ _ _ _ _ _ 108) (fun hb => ?_) (fun j a hj ha e1 e2 => ?_)
  · exact yi_mem hn ho hm hp hq hn1 (fun _ t => ⟨rfl, J t⟩) (fun j a t hj ha e1 e2 _ => absurd ⟨⟨j, hj, e1⟩, ⟨a, ha, e2⟩⟩ hb)
  · refine yi_mem hn ho hm hp hq hn1 (fun z => absurd ⟨⟨j, hj, e1⟩, ⟨a, ha, e2⟩⟩ z) (fun j' a' t hj' ha' e1' e2' _ => ?_)
    have q1 : j' = j := (nI_eq (by omega) (by omega)).mp (e1'.symm.trans e1)
    have q2 : a' = a := (nI_eq (by omega) (by omega)).mp (e2'.symm.trans e2)
    subst q1 q2
    exact ⟨rfl, J t⟩
theorem i_vc_cost {k : Nat} {u : SX} {v : SY} (I : i_Rel k u v) (hk : k + 5 ≤ 2561) (v1 : Int32) (v2 : Int32) (v3 : Int32) : wpX_cost (fun r => wpY_cost (fun r' v' => r' = r ∧ i_Rel (k + 5) u v') v v1 v2 v3) u v1 v2 v3 := by
  obtain ⟨n, th, ao, am, ap, aq, tg, gg, gp, gq, go, lc, cw, oc, mb, ne, rfl, rfl, hn1, hn, ho, hm, hp, hq, hg, hp2, hq2, hL⟩ := I
  have J : ∀ t, i_Rel (k + 5) (nI n, nr_bi (nr_hb th) 10, nr_bi (nr_hb tg) 6, ao, am, ap, aq, gg, gp, gq, go, lc, cw, oc) (nI n, th, ao, am, ap, aq, tg, gg, gp, gq, go, t, ne) := fun t => ⟨n, th, ao, am, ap, aq, tg, gg, gp, gq, go, lc, cw, oc, t, ne, rfl, rfl, hn1, hn, ho, hm, hp, hq, hg, hp2, hq2, hL⟩
  refine xi_cost hn hL (nr_K_le _ _ _ _ _ _ 108) (fun hb => ?_) (fun j i a hj hi ha e1 e2 e3 => ?_)
  · exact yi_cost hn ho hm hp hq (fun _ => ⟨rfl, J mb⟩) (fun j i a t hj hi ha e1 e2 e3 _ => absurd ⟨⟨j, hj, e1⟩, ⟨i, hi, e2⟩, ⟨a, ha, e3⟩⟩ hb)
  · refine yi_cost hn ho hm hp hq (fun z => absurd ⟨⟨j, hj, e1⟩, ⟨i, hi, e2⟩, ⟨a, ha, e3⟩⟩ z) (fun j' i' a' t hj' hi' ha' e1' e2' e3' _ => ?_)
    have q1 : j' = j := (nI_eq (by omega) (by omega)).mp (e1'.symm.trans e1)
    have q2 : i' = i := (nI_eq (by omega) (by omega)).mp (e2'.symm.trans e2)
    have q3 : a' = a := (nI_eq (by omega) (by omega)).mp (e3'.symm.trans e3)
    subst q1 q2 q3
    exact ⟨rfl, J t⟩
theorem i_vc_denotes {k : Nat} {u : SX} {v : SY} (I : i_Rel k u v) (hk : k + 5 ≤ 2561) (v1 : Int32) (v2 : Int32) (v3 : Int32) : wpX_denotes (fun r => wpY_denotes (fun r' v' => r' = r ∧ i_Rel (k + 5) u v') v v1 v2 v3) u v1 v2 v3 := by
  obtain ⟨n, th, ao, am, ap, aq, tg, gg, gp, gq, go, lc, cw, oc, mb, ne, rfl, rfl, hn1, hn, ho, hm, hp, hq, hg, hp2, hq2, hL⟩ := I
  have J : ∀ t, i_Rel (k + 5) (nI n, nr_bi (nr_hb th) 10, nr_bi (nr_hb tg) 6, ao, am, ap, aq, gg, gp, gq, go, lc, cw, oc) (nI n, th, ao, am, ap, aq, tg, gg, gp, gq, go, t, ne) := fun t => ⟨n, th, ao, am, ap, aq, tg, gg, gp, gq, go, lc, cw, oc, t, ne, rfl, rfl, hn1, hn, ho, hm, hp, hq, hg, hp2, hq2, hL⟩
  refine xi_den hn hL (nr_K_le _ _ _ _ _ _ 108) (fun hb => ?_) (fun j i a hj hi ha e1 e2 e3 => ?_)
  · exact yi_den hn ho hm hp hq (fun _ => ⟨rfl, J mb⟩) (fun j i a t hj hi ha e1 e2 e3 _ => absurd ⟨⟨j, hj, e1⟩, ⟨i, hi, e2⟩, ⟨a, ha, e3⟩⟩ hb)
  · refine yi_den hn ho hm hp hq (fun z => absurd ⟨⟨j, hj, e1⟩, ⟨i, hi, e2⟩, ⟨a, ha, e3⟩⟩ z) (fun j' i' a' t hj' hi' ha' e1' e2' e3' _ => ?_)
    have q1 : j' = j := (nI_eq (by omega) (by omega)).mp (e1'.symm.trans e1)
    have q2 : i' = i := (nI_eq (by omega) (by omega)).mp (e2'.symm.trans e2)
    have q3 : a' = a := (nI_eq (by omega) (by omega)).mp (e3'.symm.trans e3)
    subst q1 q2 q3
    exact ⟨rfl, J t⟩
theorem i_vc_witness {k : Nat} {u : SX} {v : SY} (I : i_Rel k u v) (hk : k + 5 ≤ 2561) (v1 : Int32) (v2 : Int32) (v3 : Int32) : wpX_witness (fun r => wpY_witness (fun r' v' => r' = r ∧ i_Rel (k + 5) u v') v v1 v2 v3) u v1 v2 v3 := by
  obtain ⟨n, th, ao, am, ap, aq, tg, gg, gp, gq, go, lc, cw, oc, mb, ne, rfl, rfl, hn1, hn, ho, hm, hp, hq, hg, hp2, hq2, hL⟩ := I
  have J : ∀ t, i_Rel (k + 5) (nI n, nr_bi (nr_hb th) 10, nr_bi (nr_hb tg) 6, ao, am, ap, aq, gg, gp, gq, go, lc, cw, oc) (nI n, th, ao, am, ap, aq, tg, gg, gp, gq, go, t, ne) := fun t => ⟨n, th, ao, am, ap, aq, tg, gg, gp, gq, go, lc, cw, oc, t, ne, rfl, rfl, hn1, hn, ho, hm, hp, hq, hg, hp2, hq2, hL⟩
  have hM1 : ∀ b, (nr_M n (nr_hb th) (nr_cz ao) (nr_cz am) (nr_cz ap) (nr_cz aq)) b ≤ 1000 := nr_K_le _ _ _ _ _ _ 108
  unfold wpX_witness
  dsimp only
  refine xi_cost hn hL hM1 (fun hb => br_t rfl ?_) (fun j i a hj hi ha e1 e2 e3 => ?_)
  · unfold wpY_witness
    dsimp only
    refine yi_cost hn ho hm hp hq (fun _ => ⟨1, br_f (nI_ge (a := 0) (b := 10) (by omega) (by omega)) (br_t nr_m1 ⟨rfl, J mb⟩)⟩) (fun j i a t hj hi ha e1 e2 e3 _ => absurd ⟨⟨j, hj, e1⟩, ⟨i, hi, e2⟩, ⟨a, ha, e3⟩⟩ hb)
  · subst e1 e2 e3
    by_cases hl : (nr_M n (nr_hb th) (nr_cz ao) (nr_cz am) (nr_cz ap) (nr_cz aq)) (nr_at j a i) < 1000
    · rw [nr_fo_t hl]
      have hC : ¬ nI ((nr_M n (nr_hb th) (nr_cz ao) (nr_cz am) (nr_cz ap) (nr_cz aq)) (nr_at j a i)) < 0 := nI_pos (by omega)
      have yc : ∀ (post : Int32 → SY → Prop), (∀ t, nr_R t 108 (nr_M n (nr_hb th) (nr_cz ao) (nr_cz am) (nr_cz ap) (nr_cz aq)) → ∃ f, wY_witness_12 post (nI j) (nI a) (nI i) (nI ((nr_M n (nr_hb th) (nr_cz ao) (nr_cz am) (nr_cz ap) (nr_cz aq)) (nr_at j a i))) (nI n) th ao am ap aq tg gg gp gq go t ne f 0) → wpY_witness post (nI n, th, ao, am, ap, aq, tg, gg, gp, gq, go, mb, ne) (nI j) (nI a) (nI i) := by
        intro post h
        unfold wpY_witness
        dsimp only
        refine yi_cost hn ho hm hp hq (fun z => absurd ⟨⟨j, hj, rfl⟩, ⟨i, hi, rfl⟩, ⟨a, ha, rfl⟩⟩ z) (fun j' i' a' t hj' hi' ha' e1' e2' e3' ht => ?_)
        have q1 : j = j' := (nI_eq (by omega) (by omega)).mp e1'
        have q2 : i = i' := (nI_eq (by omega) (by omega)).mp e2'
        have q3 : a = a' := (nI_eq (by omega) (by omega)).mp e3'
        subst q1 q2 q3
        rw [nr_fo_t hl]
        exact h t ht
      refine br_f (nr_nm1 (by omega)) (xi_w20 hn hp hq hL hM1 (by omega) (fun l hl1 hQ hlt => ?_) (fun hall => ?_))
      · refine yc _ (fun t ht => yi_w12 hn hp hq ht hM1 (by omega) hC (fun l2 hl2 hQ2 hlt2 => ?_) (fun hall => absurd hQ (hall l hl1)))
        have e := nr_samq hQ hlt hQ2 hlt2
        subst e
        exact ⟨rfl, J t⟩
      · exact yc _ (fun t ht => yi_w12 hn hp hq ht hM1 (by omega) hC (fun l2 hl2 hQ2 _ => absurd hQ2 (hall l2 hl2)) (fun _ => ⟨rfl, J t⟩))
    · rw [nr_fo_f hl]
      refine br_t rfl ?_
      unfold wpY_witness
      dsimp only
      refine yi_cost hn ho hm hp hq (fun z => absurd ⟨⟨j, hj, rfl⟩, ⟨i, hi, rfl⟩, ⟨a, ha, rfl⟩⟩ z) (fun j' i' a' t hj' hi' ha' e1' e2' e3' ht => ?_)
      have q1 : j = j' := (nI_eq (by omega) (by omega)).mp e1'
      have q2 : i = i' := (nI_eq (by omega) (by omega)).mp e2'
      have q3 : a = a' := (nI_eq (by omega) (by omega)).mp e3'
      subst q1 q2 q3
      rw [nr_fo_f hl]
      exact ⟨1, br_f (nI_ge (a := 0) (b := 10) (by omega) (by omega)) (br_t nr_m1 ⟨rfl, J t⟩)⟩
theorem i_vc_matters {k : Nat} {u : SX} {v : SY} (I : i_Rel k u v) (hk : k + 5 ≤ 2561) (v1 : Int32) : wpX_matters (fun r u' => wpY_matters (fun r' v' => r' = r ∧ i_Rel (k + 5) u' v') v v1) u v1 := by
  have I0 := I
  obtain ⟨n, th, ao, am, ap, aq, tg, gg, gp, gq, go, lc, cw, oc, mb, ne, rfl, rfl, hn1, hn, ho, hm, hp, hq, hg, hp2, hq2, hL⟩ := I
  have hM1 : ∀ b, (nr_M n (nr_hb th) (nr_cz ao) (nr_cz am) (nr_cz ap) (nr_cz aq)) b ≤ 1000 := nr_K_le _ _ _ _ _ _ 108
  have ho6 : ∀ i, i < 10 → nr_cz ao i < 6 := fun i hi => by have := (ho i hi).1; omega
  have hm3 : ∀ i, i < 10 → nr_cz am i < 3 := fun i hi => (hm i hi).1
  have yb : ∀ (post : Int32 → SY → Prop), (∀ j, j < 10 → v1 = nI j → ¬ nr_hb th j = true) → post 0 (nI n, th, ao, am, ap, aq, tg, gg, gp, gq, go, mb, ne) → wpY_matters post (nI n, th, ao, am, ap, aq, tg, gg, gp, gq, go, mb, ne) v1 := by
    intro post hb h
    refine nr_rng2 (n := 9) (by omega) (fun hp => ?_) (fun _ => h)
    obtain ⟨j, hj, rfl⟩ := hp
    refine ⟨vp_in_nI hj (by omega), br_c (fun _ => h) (fun z => absurd (nr_hb_t.mpr ?_) (hb j hj rfl))⟩
    rw [nI_clamp (by omega)] at z
    exact z
  have yg : ∀ (post : Int32 → SY → Prop) (j : Nat), j < 10 → v1 = nI j → nr_hb th j = true → (∀ t, (nr_ct (nr_M n (nr_se (nr_hb th) j false) (nr_cz ao) (nr_cz am) (nr_cz ap) (nr_cz aq)) 999 108 < nr_ct (nr_M n (nr_hb th) (nr_cz ao) (nr_cz am) (nr_cz ap) (nr_cz aq)) 999 108 → post 1 (nI n, upd (upd th j 0) j 1, ao, am, ap, aq, tg, gg, gp, gq, go, t, ne)) ∧ (¬ nr_ct (nr_M n (nr_se (nr_hb th) j false) (nr_cz ao) (nr_cz am) (nr_cz ap) (nr_cz aq)) 999 108 < nr_ct (nr_M n (nr_hb th) (nr_cz ao) (nr_cz am) (nr_cz ap) (nr_cz aq)) 999 108 → post 0 (nI n, upd (upd th j 0) j 1, ao, am, ap, aq, tg, gg, gp, gq, go, t, ne))) → wpY_matters post (nI n, th, ao, am, ap, aq, tg, gg, gp, gq, go, mb, ne) v1 := by
    intro post j hj e hB h
    subst e
    have vi : vp_in (nI j) 10 := vp_in_nI hj (by omega)
    have ec : (nI j).toNatClampNeg = j := nI_clamp (by omega)
    refine nr_rng2 (n := 9) (by omega) (fun _ => ?_) (fun z => absurd ⟨j, hj, rfl⟩ z)
    refine ⟨vi, br_f (by rw [ec]; exact nr_hb_t.mp hB) ?_⟩
    refine yi_cm hn ho hm hp hq (fun t ht => ⟨vi, nm_r (e' := upd th j 0) (by rw [ec, nr_v0]) ?_⟩)
    refine yi_cm hn ho hm hp hq (fun t2 ht2 => ⟨vi, nm_r (e' := upd (upd th j 0) j 1) (by rw [ec, nr_v1]) ?_⟩)
    have b1 := nr_ct_le (nr_M n (nr_hb th) (nr_cz ao) (nr_cz am) (nr_cz ap) (nr_cz aq)) 999 108
    rw [nr_hb_u0]
    have b2 := nr_ct_le (nr_M n (nr_se (nr_hb th) j false) (nr_cz ao) (nr_cz am) (nr_cz ap) (nr_cz aq)) 999 108
    exact pk_le _ _ (fun z => (h t2).2 (by omega)) (fun z => (h t2).1 z)
  have J : ∀ (j : Nat) (t t2 : Nat → Int32), nr_hb th j = true → i_Rel (k + 5) (nI n, nr_bi (nr_hb th) 10, nr_bi (nr_hb tg) 6, ao, am, ap, aq, gg, gp, gq, go, lc, t, oc) (nI n, upd (upd th j 0) j 1, ao, am, ap, aq, tg, gg, gp, gq, go, t2, ne) := by
    intro j t t2 hB
    have e : nr_hb (upd (upd th j 0) j 1) = nr_hb th := by
      rw [nr_hb_u1, nr_hb_u0]
      funext l
      unfold nr_se
      by_cases el : l = j
      · rw [if_pos el, el]; exact hB.symm
      · rw [if_neg el, if_neg el]
    refine ⟨n, upd (upd th j 0) j 1, ao, am, ap, aq, tg, gg, gp, gq, go, lc, t, oc, t2, ne, ?_, rfl, hn1, hn, ho, hm, hp, hq, hg, hp2, hq2, ?_⟩
    · rw [e]
    · rw [e]; exact hL
  refine xi_matters hn ho hm hp hq hL hM1 (fun hb => yb _ hb ⟨rfl, I0⟩) (fun j t hj e hB hex => ?_) (fun j t hj e hB hex => ?_)
  · refine yg _ j hj e hB (fun t2 => ⟨fun _ => ⟨rfl, J j t t2 hB⟩, fun z => absurd ((nr_miss (nr_M_mo ho6 hm3 j) 108).mpr hex) z⟩)
  · refine yg _ j hj e hB (fun t2 => ⟨fun z => absurd ((nr_miss (nr_M_mo ho6 hm3 j) 108).mp z) hex, fun _ => ⟨rfl, J j t t2 hB⟩⟩)
theorem i_vc_trusted {k : Nat} {u : SX} {v : SY} (I : i_Rel k u v) (hk : k + 5 ≤ 2561) (v1 : Int32) : wpX_trusted (fun r u' => wpY_trusted (fun r' v' => r' = r ∧ i_Rel (k + 5) u' v') v v1) u v1 := by
  obtain ⟨n, th, ao, am, ap, aq, tg, gg, gp, gq, go, lc, cw, oc, mb, ne, rfl, rfl, hn1, hn, ho, hm, hp, hq, hg, hp2, hq2, hL⟩ := I
  have J : ∀ (t t2 t3 : Nat → Int32), i_Rel (k + 5) (nI n, nr_bi (nr_hb th) 10, nr_bi (nr_hb tg) 6, ao, am, ap, aq, gg, gp, gq, go, lc, cw, t) (nI n, th, ao, am, ap, aq, tg, gg, gp, gq, go, t2, t3) := fun t t2 t3 => ⟨n, th, ao, am, ap, aq, tg, gg, gp, gq, go, lc, cw, t, t2, t3, rfl, rfl, hn1, hn, ho, hm, hp, hq, hg, hp2, hq2, hL⟩
  refine xi_trusted hn hg hp2 hq2 hL (nr_K_le _ _ _ _ _ _ 108) hn1 (fun hb => ?_) (fun j t hj e => ?_)
  · exact yi_tr hn ho hm hp hq hg hp2 hq2 (fun _ t2 t3 => ⟨rfl, J oc t2 t3⟩) (fun j t2 t3 hj e => absurd ⟨j, hj, e⟩ hb)
  · refine yi_tr hn ho hm hp hq hg hp2 hq2 (fun z => absurd ⟨j, hj, e⟩ z) (fun j' t2 t3 hj' e' => ?_)
    have q1 : j' = j := (nI_eq (by omega) (by omega)).mp (e'.symm.trans e)
    subst q1
    exact ⟨rfl, J t t2 t3⟩
theorem i_vc_trustCost {k : Nat} {u : SX} {v : SY} (I : i_Rel k u v) (hk : k + 5 ≤ 2561) (v1 : Int32) (v2 : Int32) : wpX_trustCost (fun r u' => wpY_trustCost (fun r' v' => r' = r ∧ i_Rel (k + 5) u' v') v v1 v2) u v1 v2 := by
  obtain ⟨n, th, ao, am, ap, aq, tg, gg, gp, gq, go, lc, cw, oc, mb, ne, rfl, rfl, hn1, hn, ho, hm, hp, hq, hg, hp2, hq2, hL⟩ := I
  have J : ∀ (t t2 t3 : Nat → Int32), i_Rel (k + 5) (nI n, nr_bi (nr_hb th) 10, nr_bi (nr_hb tg) 6, ao, am, ap, aq, gg, gp, gq, go, lc, cw, t) (nI n, th, ao, am, ap, aq, tg, gg, gp, gq, go, t2, t3) := fun t t2 t3 => ⟨n, th, ao, am, ap, aq, tg, gg, gp, gq, go, lc, cw, t, t2, t3, rfl, rfl, hn1, hn, ho, hm, hp, hq, hg, hp2, hq2, hL⟩
  refine xi_trustCost hn hg hp2 hq2 hL (nr_K_le _ _ _ _ _ _ 108) hn1 (fun hb => ?_) (fun j i t hj hi e1 e2 => ?_)
  · exact yi_tc hn ho hm hp hq hg hp2 hq2 (fun _ => ⟨rfl, J oc mb ne⟩) (fun j i t2 t3 hj hi e1 e2 => absurd ⟨⟨j, hj, e1⟩, ⟨i, hi, e2⟩⟩ hb)
  · refine yi_tc hn ho hm hp hq hg hp2 hq2 (fun z => absurd ⟨⟨j, hj, e1⟩, ⟨i, hi, e2⟩⟩ z) (fun j' i' t2 t3 hj' hi' e1' e2' => ?_)
    have q1 : j' = j := (nI_eq (by omega) (by omega)).mp (e1'.symm.trans e1)
    have q2 : i' = i := (nI_eq (by omega) (by omega)).mp (e2'.symm.trans e2)
    subst q1 q2
    exact ⟨rfl, J t t2 t3⟩
theorem i_vc_clear {k : Nat} {u : SX} {v : SY} (I : i_Rel k u v) (hk : k + 5 ≤ 2561) : wpX_clear (fun u' => wpY_clear (fun v' => i_Rel (k + 5) u' v') v) u := by
  obtain ⟨n, th, ao, am, ap, aq, tg, gg, gp, gq, go, lc, cw, oc, mb, ne, rfl, rfl, hn1, hn, ho, hm, hp, hq, hg, hp2, hq2, hL⟩ := I
  unfold wpX_clear
  dsimp only
  refine xi_tb (fun t ht => ?_)
  dsimp only
  exact yi_clear (fun s s2 h1 h2 => nr_rel0 hn1 hn ho hm hp hq hg hp2 hq2 h1 h2 ht)
