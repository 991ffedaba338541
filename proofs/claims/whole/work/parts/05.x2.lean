theorem nr_R_same {a : Nat → Int32} {k : Nat} {T : Nat → Nat} {i : Nat} (h : nr_R a k T) : nr_R (upd a i (a i)) k T := by
  intro j hj
  by_cases e : j = i
  · rw [e, pk_us]; rw [← e]; exact h j hj
  · rw [pk_un e]; exact h j hj
def nr_Q (n : Nat) (B : Nat → Bool) (ao am ap aq : Nat → Int32) (M : Nat → Nat) (K N C : Int32) (x i : Nat) : Prop :=
  B i = true ∧ ao i = K ∧ am i = N ∧ nI (nr_dn n M (nr_cz ap i) (nr_cz aq i) x) = C - 1
section
variable {bc bg : Int32} {ao am ap aq gg gp gq go lc cw oc : Nat → Int32} {n : Nat}
theorem xi_ct {post : Int32 → Prop} {M S : Nat → Nat} {g x : Nat} (hn : n ≤ 6) (hg : nr_ok gg 6 n) (hp : nr_ok gp 6 n) (hq : nr_ok gq 6 13) (hM : nr_R lc 108 M) (hM1 : ∀ b, M b ≤ 1000) (hS : nr_R oc 6 S) (hi : g < 6) (hx : x < 6) (h : post (nI (S (nr_cz gg g) + 1 + nr_dn n M (nr_cz gp g) (nr_cz gq g) x))) : wpX_costThroughGrant post (nI n, bc, bg, ao, am, ap, aq, gg, gp, gq, go, lc, cw, oc) (nI g) (nI x) := by
  have vi : vp_in (nI g) 6 := vp_in_nI hi (by omega)
  have lg : nr_cz gg g < 6 := by have := (hg g hi).1; omega
  refine ⟨vi, nm_r (nr_ro hg hi (by omega)) ⟨vp_in_nI lg (by omega), vi, vi, xi_dn hn hM hM1 (by have := (hp g hi).1; omega) (hq g hi).1 hx (nr_ro hp hi (by omega)) (nr_ro hq hi (by omega)) rfl ?_⟩⟩
  rw [nr_rd hS lg (by omega), nI_1, nI_add]
  exact h
theorem xi_f80 {post : SX → Prop} {J32 J42 : Int32 → (Nat → Int32) → (Nat → Int32) → (Nat → Int32) → (Nat → Int32) → (Nat → Int32) → (Nat → Int32) → (Nat → Int32) → (Nat → Int32) → (Nat → Int32) → (Nat → Int32) → (Nat → Int32) → Prop} {G : Nat → Bool} {M S : Nat → Nat} {r g : Nat} (hn : n ≤ 6) (hg : nr_ok gg 6 n) (hp : nr_ok gp 6 n) (hq : nr_ok gq 6 13) (hM : nr_R lc 108 M) (hM1 : ∀ b, M b ≤ 1000) (hi : g < 6) (hG : G g = true) (hO : nr_hb go g = true) (hS : ∀ b, S b ≤ 1000) (hR : nr_R oc 6 (nr_gs n G (nr_hb go) M (nr_cz gg) (nr_cz gp) (nr_cz gq) S (6 * g)))
    (h : ∀ t, nr_R t 6 (nr_gs n G (nr_hb go) M (nr_cz gg) (nr_cz gp) (nr_cz gq) S (6 * (g + 1))) → J42 (nI (g + 1)) ao am ap aq gg gp gq go lc cw t) :
    ∃ f, wX_followOpenGrants_80 post J32 J42 (nI r) (nI g) 1 (nI n) bc bg f 0 ao am ap aq gg gp gq go lc cw oc := by
  refine loop_0 (fun f x s => wX_followOpenGrants_80 post J32 J42 (nI r) (nI g) 1 (nI n) bc bg f (nI x) ao am ap aq gg gp gq go lc cw s) (fun x s => nr_R s 6 (nr_gs n G (nr_hb go) M (nr_cz gg) (nr_cz gp) (nr_cz gq) S (6 * g + x))) n oc hR ?_ ?_
  · intro f s hI
    rw [← nr_gs_e (i := g) hn] at hI
    exact br_t (nI_le (Nat.le_refl _) (by omega)) (nm_r (nI_1 g) (h s hI))
  · intro f x s hx hI ih
    have vx : vp_in (nI x) 6 := vp_in_nI (by omega) (by omega)
    have hS' := nr_gs_le n G (nr_hb go) M (nr_cz gg) (nr_cz gp) (nr_cz gq) hS (6 * g + x)
    have es := nr_gs_t (M := M) (g := nr_cz gg) (p := nr_cz gp) (q := nr_cz gq) (S := S) hn hx hG hO
    generalize hE : nr_gs n G (nr_hb go) M (nr_cz gg) (nr_cz gp) (nr_cz gq) S (6 * g + x) = E at hI hS' es
    have b1 := hS' x
    have b2 := hS' (nr_cz gg g)
    have b3 := nr_dn_le hM1 n (nr_cz gp g) (nr_cz gq g) x
    refine br_f (nI_ge hx (by omega)) (br_f nr_10 (xi_ct hn hg hp hq hM hM1 hI hi (by omega) ⟨vx, ?_⟩))
    refine pk_le (E x) (E (nr_cz gg g) + 1 + nr_dn n M (nr_cz gp g) (nr_cz gq g) x) (fun z => ⟨vx, vx, nm_e (nm_r (nI_1 x) (ih _ ?_))⟩) (fun z => ⟨vx, nm_e (nm_r (nI_1 x) (ih _ ?_))⟩) (nr_rd hI (by omega) (by omega))
    · rw [es, nr_rx_no (by omega)]
      exact nr_R_same hI
    · rw [es, nI_clamp (by omega)]
      exact nr_R_u hI z
theorem xi_f42 {post : SX → Prop} {J : Int32 → (Nat → Int32) → (Nat → Int32) → (Nat → Int32) → (Nat → Int32) → (Nat → Int32) → (Nat → Int32) → (Nat → Int32) → (Nat → Int32) → (Nat → Int32) → (Nat → Int32) → (Nat → Int32) → Prop} {G : Nat → Bool} {M S : Nat → Nat} {r : Nat} (hn : n ≤ 6) (hg : nr_ok gg 6 n) (hp : nr_ok gp 6 n) (hq : nr_ok gq 6 13) (hM : nr_R lc 108 M) (hM1 : ∀ b, M b ≤ 1000) (hS : ∀ b, S b ≤ 1000) (hR : nr_R oc 6 S)
    (h : ∀ t, nr_R t 6 (nr_gs n G (nr_hb go) M (nr_cz gg) (nr_cz gp) (nr_cz gq) S 36) → J (nI (r + 1)) ao am ap aq gg gp gq go lc cw t) :
    ∃ f, wX_followOpenGrants_42 post J (nI r) (nI n) bc (nr_bi G 6) f 0 ao am ap aq gg gp gq go lc cw oc := by
  refine loop_0 (fun f i s => wX_followOpenGrants_42 post J (nI r) (nI n) bc (nr_bi G 6) f (nI i) ao am ap aq gg gp gq go lc cw s) (fun i s => nr_R s 6 (nr_gs n G (nr_hb go) M (nr_cz gg) (nr_cz gp) (nr_cz gq) S (6 * i))) 6 oc hR ?_ ?_
  · intro f s hI
    exact br_t (nI_le (b := 6) (Nat.le_refl _) (by omega)) (nm_r (nI_1 r) (h s hI))
  · intro f i s hi hI ih
    have ec : (nI i).toNatClampNeg = i := nI_clamp (by omega)
    have z0 : (G i = true → ¬ nr_hb go i = true) → ∃ n80, wX_followOpenGrants_80 post J (wX_followOpenGrants_42 post J (nI r) (nI n) bc (nr_bi G 6) f) (nI r) (nI i) 0 (nI n) bc (nr_bi G 6) n80 0 ao am ap aq gg gp gq go lc cw s := by
      intro hz
      have hI' : nr_R s 6 (nr_gs n G (nr_hb go) M (nr_cz gg) (nr_cz gp) (nr_cz gq) S (6 * (i + 1))) := by rw [nr_gs_f hz]; exact hI
      exact ⟨1, br_c (fun _ => nm_r (nI_1 i) (ih s hI')) (fun _ => br_t rfl (nm_r (nI_1 i) (ih s hI')))⟩
    refine br_f (nI_ge (b := 6) hi (by omega)) (xi_hj (m := 6) (by omega) hi (fun hB => br_f nr_10 ⟨vp_in_nI hi (by omega), br_c (fun z => z0 (fun _ w => ?_)) (fun z => ?_)⟩) (fun hB => br_t rfl (z0 (fun w => absurd w hB))))
    · rw [ec] at z
      exact (nr_hb_t.mp w) z
    · rw [ec] at z
      exact xi_f80 hn hg hp hq hM hM1 hi hB (nr_hb_t.mpr z) hS hI ih
theorem xi_f32 {post : SX → Prop} {G : Nat → Bool} {M : Nat → Nat} {k : Nat} (hn : n ≤ 6) (hg : nr_ok gg 6 n) (hp : nr_ok gp 6 n) (hq : nr_ok gq 6 13) (hM : nr_R lc 108 M) (hM1 : ∀ b, M b ≤ 1000) (hn1 : 1 ≤ n) (hR : nr_R oc 6 (nr_n0 k))
    (h : ∀ t, nr_R t 6 (nr_N n G (nr_hb go) M (nr_cz gg) (nr_cz gp) (nr_cz gq) k (n - 1)) → post (nI n, bc, nr_bi G 6, ao, am, ap, aq, gg, gp, gq, go, lc, cw, t)) :
    ∃ f, wX_followOpenGrants_32 post (nI n) bc (nr_bi G 6) f 1 ao am ap aq gg gp gq go lc cw oc := by
  refine ⟨n + 1, loop_i (fun f r s => wX_followOpenGrants_32 post (nI n) bc (nr_bi G 6) f (nI r) ao am ap aq gg gp gq go lc cw s) (fun r s => 1 ≤ r ∧ nr_R s 6 (nr_N n G (nr_hb go) M (nr_cz gg) (nr_cz gp) (nr_cz gq) k (r - 1))) n ?_ ?_ (n + 1) 1 oc (by omega) (by omega) ⟨Nat.le_refl _, hR⟩⟩
  · intro f s hI
    exact br_t (nI_le (Nat.le_refl _) (by omega)) (h s hI.2)
  · intro f r s hr hI ih
    obtain ⟨r', rfl⟩ : ∃ r', r = r' + 1 := ⟨r - 1, by omega⟩
    exact br_f (nI_ge hr (by omega)) (xi_f42 hn hg hp hq hM hM1 (nr_N_le _ _ _ _ _ _ _ k r') hI.2 (fun t ht => ih t ⟨by omega, ht⟩))
theorem xi_fo {post : SX → Prop} {G : Nat → Bool} {M : Nat → Nat} {k : Nat} (hn : n ≤ 6) (hg : nr_ok gg 6 n) (hp : nr_ok gp 6 n) (hq : nr_ok gq 6 13) (hM : nr_R lc 108 M) (hM1 : ∀ b, M b ≤ 1000) (hn1 : 1 ≤ n) (hk : k < 6)
    (h : ∀ t, nr_R t 6 (nr_N n G (nr_hb go) M (nr_cz gg) (nr_cz gp) (nr_cz gq) k (n - 1)) → post (nI n, bc, nr_bi G 6, ao, am, ap, aq, gg, gp, gq, go, lc, cw, t)) :
    wpX_followOpenGrants post (nI n, bc, nr_bi G 6, ao, am, ap, aq, gg, gp, gq, go, lc, cw, oc) (nI k) := by
  refine loop_0 (fun f i s => wX_followOpenGrants_2 post (nI k) (nI n) bc (nr_bi G 6) f (nI i) ao am ap aq gg gp gq go lc cw s) (fun i s => nr_R s i (fun _ => 1000)) 6 oc nr_R_0 ?_ ?_
  · intro f s hI
    refine br_t (nI_le (b := 6) (Nat.le_refl _) (by omega)) ⟨vp_in_nI hk (by omega), nm_e (xi_f32 hn hg hp hq hM hM1 hn1 ?_ h)⟩
    intro j hj
    rw [nI_clamp (by omega)]
    unfold nr_n0
    by_cases e : j = k
    · rw [if_pos e, e, pk_us]; exact nI_0.symm
    · rw [if_neg e, pk_un e]; exact hI j hj
  · intro f i s hi hI ih
    exact br_f (nI_ge (b := 6) hi (by omega)) ⟨vp_in_nI hi (by omega), nm_e (nm_r (nI_1 i) (ih _ (nr_R_s hI rfl (by omega))))⟩
theorem xi_la {post : Int32 → Prop} {G : Nat → Bool} {M S : Nat → Nat} {x : Nat} (hn : n ≤ 6) (hg : nr_ok gg 6 n) (hp : nr_ok gp 6 n) (hq : nr_ok gq 6 13) (hM : nr_R lc 108 M) (hM1 : ∀ b, M b ≤ 1000) (hS : nr_R oc 6 S) (hS1 : ∀ b, S b ≤ 1000) (hx : x < 6) (h : post (nI (nr_la n G M (nr_cz gg) (nr_cz gp) (nr_cz gq) S x 6))) :
    wpX_costOfLastGrant post (nI n, bc, nr_bi G 6, ao, am, ap, aq, gg, gp, gq, go, lc, cw, oc) (nI x) := by
  refine loop_0 (fun f i s => wX_costOfLastGrant_6 post (nI x) (nI n) bc (nr_bi G 6) ao am ap aq gg gp gq go lc cw oc f s (nI i)) (fun i s => s = nI (nr_la n G M (nr_cz gg) (nr_cz gp) (nr_cz gq) S x i)) 6 (nI 1000) rfl ?_ ?_
  · intro f s hI
    subst hI
    exact br_t (nI_le (b := 6) (Nat.le_refl _) (by omega)) h
  · intro f i s hi hI ih
    subst hI
    have b1 := hS1 (nr_cz gg i)
    have b2 := nr_dn_le hM1 n (nr_cz gp i) (nr_cz gq i) x
    have b3 := nr_la_le n G M (nr_cz gg) (nr_cz gp) (nr_cz gq) S x i
    refine br_f (nI_ge (b := 6) hi (by omega)) (xi_hj (m := 6) (by omega) hi (fun hB => br_f nr_10 (xi_ct hn hg hp hq hM hM1 hS hi hx ?_)) (fun hB => br_t rfl (nm_r (nI_1 i) (ih _ ?_))))
    · refine pk_le (nr_la n G M (nr_cz gg) (nr_cz gp) (nr_cz gq) S x i) (S (nr_cz gg i) + 1 + nr_dn n M (nr_cz gp i) (nr_cz gq i) x) (fun z => nm_r (nI_1 i) (ih _ ?_)) (fun z => nm_r (nI_1 i) (ih _ ?_))
      · rw [nr_la_t hB, if_neg (by omega)]
      · rw [nr_la_t hB, if_pos (by omega)]
    · rw [nr_la_f hB]
theorem xi_t19 {post : Int32 → SX → Prop} {G : Nat → Bool} {M S : Nat → Nat} (hn : n ≤ 6) (hg : nr_ok gg 6 n) (hp : nr_ok gp 6 n) (hq : nr_ok gq 6 13) (hM : nr_R lc 108 M) (hM1 : ∀ b, M b ≤ 1000) (hS : nr_R oc 6 S) (hS1 : ∀ b, S b ≤ 1000) (h : post (nr_bi (fun x => decide (nr_la n G M (nr_cz gg) (nr_cz gp) (nr_cz gq) S x 6 < 1000)) n) (nI n, bc, nr_bi G 6, ao, am, ap, aq, gg, gp, gq, go, lc, cw, oc)) :
    ∃ f, wX_trusted_19 post (nI n) bc (nr_bi G 6) ao am ap aq gg gp gq go lc cw oc f 0 0 := by
  refine loop_0 (fun f i s => wX_trusted_19 post (nI n) bc (nr_bi G 6) ao am ap aq gg gp gq go lc cw oc f s (nI i)) (fun i s => s = nr_bi (fun x => decide (nr_la n G M (nr_cz gg) (nr_cz gp) (nr_cz gq) S x 6 < 1000)) i) n 0 rfl ?_ ?_
  · intro f s hI
    subst hI
    exact br_t (nI_le (Nat.le_refl _) (by omega)) h
  · intro f i s hi hI ih
    subst hI
    have b3 := nr_la_le n G M (nr_cz gg) (nr_cz gp) (nr_cz gq) S i 6
    refine br_f (nI_ge hi (by omega)) (xi_la hn hg hp hq hM hM1 hS hS1 (by omega) ?_)
    refine pk_le 1000 (nr_la n G M (nr_cz gg) (nr_cz gp) (nr_cz gq) S i 6) (fun z => nm_r (nI_1 i) (ih _ ?_)) (fun z => nm_e (nm_r (nI_1 i) (ih _ ?_)))
    · exact (nr_bi_f (fun w => absurd (of_decide_eq_true w) (by omega))).symm
    · exact (nr_bi_t (decide_eq_true z)).symm
theorem xi_m22 {post : Int32 → Prop} {M : Nat → Nat} {k m : Nat} (hn : n ≤ 6) (hM : nr_R lc 108 M) (hM1 : ∀ b, M b ≤ 1000) (hk : k < 6) (hm : m < 3) (h : post (nr_bi (fun x => decide (M (nr_at k m x) < 1000)) n)) :
    ∃ f, wX_members_22 post (nI k) (nI m) (nI n) bc bg ao am ap aq gg gp gq go lc cw oc f 0 0 := by
  refine loop_0 (fun f i s => wX_members_22 post (nI k) (nI m) (nI n) bc bg ao am ap aq gg gp gq go lc cw oc f s (nI i)) (fun i s => s = nr_bi (fun x => decide (M (nr_at k m x) < 1000)) i) n 0 rfl ?_ ?_
  · intro f s hI
    subst hI
    exact br_t (nI_le (Nat.le_refl _) (by omega)) h
  · intro f i s hi hI ih
    subst hI
    have la : nr_at k m i < 108 := nr_at_lt hk hm (by omega)
    have b3 := hM1 (nr_at k m i)
    refine br_f (nI_ge hi (by omega)) (xi_pl rfl rfl rfl ⟨vp_in_nI la (by omega), ?_⟩)
    refine pk_le 1000 (M (nr_at k m i)) (fun z => nm_r (nI_1 i) (ih _ ?_)) (fun z => nm_e (nm_r (nI_1 i) (ih _ ?_))) rfl (nr_rd hM la (by omega))
    · exact (nr_bi_f (fun w => absurd (of_decide_eq_true w) (by omega))).symm
    · exact (nr_bi_t (decide_eq_true z)).symm
theorem xi_w20 {post : Int32 → Prop} {B : Nat → Bool} {M : Nat → Nat} {K N C : Int32} {x : Nat} (hn : n ≤ 6) (hp : nr_ok ap 10 n) (hq : nr_ok aq 10 13) (hM : nr_R lc 108 M) (hM1 : ∀ b, M b ≤ 1000) (hx : x < 6)
    (hf : ∀ i, i < 10 → nr_Q n B ao am ap aq M K N C x i → (∀ j, j < i → ¬ nr_Q n B ao am ap aq M K N C x j) → post (nI i)) (hF : (∀ j, j < 10 → ¬ nr_Q n B ao am ap aq M K N C x j) → post (-1)) :
    ∃ f, wX_witness_20 post K N (nI x) C (nI n) (nr_bi B 10) bg ao am ap aq gg gp gq go lc cw oc f 0 := by
  refine loop_0 (fun f i (_ : Unit) => wX_witness_20 post K N (nI x) C (nI n) (nr_bi B 10) bg ao am ap aq gg gp gq go lc cw oc f (nI i)) (fun i _ => ∀ j, j < i → ¬ nr_Q n B ao am ap aq M K N C x j) 10 () lt_0 ?_ ?_
  · intro f s hI
    exact br_t (nI_le (b := 10) (Nat.le_refl _) (by omega)) (hF hI)
  · intro f i s hi hI ih
    have vi : vp_in (nI i) 10 := vp_in_nI hi (by omega)
    have ec : (nI i).toNatClampNeg = i := nI_clamp (by omega)
    have go1 : ¬ nr_Q n B ao am ap aq M K N C x i → ∀ y, y = nI i + 1 → wX_witness_20 post K N (nI x) C (nI n) (nr_bi B 10) bg ao am ap aq gg gp gq go lc cw oc f y := fun z => nm_r (nI_1 i) (ih () (lt_s hI z))
    refine br_f (nI_ge (b := 10) hi (by omega)) (xi_hj (m := 10) (by omega) hi (fun hB => br_f nr_10 ⟨vi, br_c (fun z1 => ⟨vi, br_c (fun z2 => ⟨vi, vi, xi_dn hn hM hM1 (by have := (hp i hi).1; omega) (hq i hi).1 hx (nr_ro hp hi (by omega)) (nr_ro hq hi (by omega)) rfl (br_c (fun z3 => ?_) (fun z3 => ?_))⟩) (fun z2 => ?_)⟩) (fun z1 => ?_)⟩) (fun hB => br_t rfl ?_))
    · rw [ec] at z1 z2
      exact hf i hi ⟨hB, z1, z2, z3⟩ hI
    · exact go1 (fun w => z3 w.2.2.2)
    · exact go1 (fun w => z2 (by rw [ec]; exact w.2.2.1))
    · exact go1 (fun w => z1 (by rw [ec]; exact w.2.1))
    · exact go1 (fun w => hB w.1)
theorem xi_m35 {post : Int32 → SX → Prop} {T1 T2 : Nat → Nat} (h1 : nr_R lc 108 T1) (h2 : nr_R cw 108 T2) (l1 : ∀ b, T1 b ≤ 1000) (l2 : ∀ b, T2 b ≤ 1000)
    (hy : (∃ a, a < 108 ∧ T1 a < 1000 ∧ ¬ T2 a < 1000) → post 1 (nI n, bc, bg, ao, am, ap, aq, gg, gp, gq, go, lc, cw, oc)) (hz : ¬ (∃ a, a < 108 ∧ T1 a < 1000 ∧ ¬ T2 a < 1000) → post 0 (nI n, bc, bg, ao, am, ap, aq, gg, gp, gq, go, lc, cw, oc)) :
    ∃ f, wX_matters_35 post (nI n) bc bg ao am ap aq gg gp gq go lc cw oc f 0 := by
  refine loop_0 (fun f i (_ : Unit) => wX_matters_35 post (nI n) bc bg ao am ap aq gg gp gq go lc cw oc f (nI i)) (fun i _ => ∀ j, j < i → ¬ (T1 j < 1000 ∧ ¬ T2 j < 1000)) 108 () lt_0 ?_ ?_
  · intro f s hI
    exact br_t (nI_le (b := 108) (Nat.le_refl _) (by omega)) (hz (fun ⟨a, ha, z⟩ => hI a ha z))
  · intro f i s hi hI ih
    have vi : vp_in (nI i) 108 := vp_in_nI hi (by omega)
    have b1 := l1 i
    have b2 := l2 i
    refine br_f (nI_ge (b := 108) hi (by omega)) ⟨vi, pk_le 1000 (T1 i) (fun z => nm_r (nI_1 i) (ih () (lt_s hI (fun w => ?_)))) (fun z => ⟨vi, pk_eq (T2 i) 1000 (fun z2 => hy ⟨i, hi, z, by omega⟩) (fun z2 => nm_r (nI_1 i) (ih () (lt_s hI (fun w => ?_)))) (nr_rd h2 hi (by omega))⟩) rfl (nr_rd h1 hi (by omega))⟩
    · omega
    · omega
end
