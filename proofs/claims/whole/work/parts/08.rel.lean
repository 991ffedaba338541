def nr_ST (n : Nat) (th ao am ap aq gg gp gq lc : Nat → Int32) : Prop :=
  1 ≤ n ∧ n ≤ 6 ∧ nr_ok ao 10 n ∧ nr_ok am 10 3 ∧ nr_ok ap 10 n ∧ nr_ok aq 10 13 ∧ nr_ok gg 6 n ∧ nr_ok gp 6 n ∧ nr_ok gq 6 13 ∧ nr_R lc 108 (nr_M n (nr_hb th) (nr_cz ao) (nr_cz am) (nr_cz ap) (nr_cz aq))
/-- both keep the same certificates and grants; the class's sets of bits are the reference's flags, and its table holds the least costs -/
def i_Rel (k : Nat) (u : SX) (v : SY) : Prop :=
  ∃ (n : Nat) (th ao am ap aq tg gg gp gq go lc cw oc mb ne : Nat → Int32), u = (nI n, nr_bi (nr_hb th) 10, nr_bi (nr_hb tg) 6, ao, am, ap, aq, gg, gp, gq, go, lc, cw, oc) ∧ v = (nI n, th, ao, am, ap, aq, tg, gg, gp, gq, go, mb, ne) ∧ nr_ST n th ao am ap aq gg gp gq lc
theorem i_up {k : Nat} {u : SX} {v : SY} (h : i_Rel k u v) : i_Rel (k + 5) u v := h
theorem nr_hb_no {s : Nat → Int32} {k : Nat} (h : nr_R s k (fun _ => 0)) : ∀ i, i < k → ¬ nr_hb s i = true := by
  intro i hi w
  exact nr_hb_t.mp w (h i hi)
theorem nr_rel0 {k n : Nat} {th ao am ap aq tg gg gp gq go lc cw oc mb ne : Nat → Int32} (hn1 : 1 ≤ n) (hn : n ≤ 6) (ho : nr_ok ao 10 n) (hm : nr_ok am 10 3) (hp : nr_ok ap 10 n) (hq : nr_ok aq 10 13) (hg : nr_ok gg 6 n) (hp2 : nr_ok gp 6 n) (hq2 : nr_ok gq 6 13)
    (h1 : nr_R th 10 (fun _ => 0)) (h2 : nr_R tg 6 (fun _ => 0)) (h3 : nr_R lc 108 (fun _ => 1000)) : i_Rel k (nI n, 0, 0, ao, am, ap, aq, gg, gp, gq, go, lc, cw, oc) (nI n, th, ao, am, ap, aq, tg, gg, gp, gq, go, mb, ne) := by
  refine ⟨n, th, ao, am, ap, aq, tg, gg, gp, gq, go, lc, cw, oc, mb, ne, ?_, rfl, hn1, hn, ho, hm, hp, hq, hg, hp2, hq2, ?_⟩
  · rw [nr_bi_no 10 (nr_hb_no h1), nr_bi_no 6 (nr_hb_no h2)]
  · rw [nr_none (nr_hb_no h1)]; exact h3
theorem nr_same {B : Nat → Bool} {i j : Nat} (h1 : ¬ B i = true) (h2 : ∀ l, l < i → B l = true) (h3 : ¬ B j = true) (h4 : ∀ l, l < j → B l = true) : j = i := by
  rcases Nat.lt_trichotomy i j with h | h | h
  · exact absurd (h4 i h) h1
  · exact h.symm
  · exact absurd (h2 j h) h3
theorem nr_samq {Q : Nat → Prop} {i j : Nat} (h1 : Q i) (h2 : ∀ l, l < i → ¬ Q l) (h3 : Q j) (h4 : ∀ l, l < j → ¬ Q l) : j = i := by
  rcases Nat.lt_trichotomy i j with h | h | h
  · exact absurd h1 (h4 i h)
  · exact h.symm
  · exact absurd h3 (h2 j h)
theorem xi_114 {post : SX → Prop} {n : Nat} (h : ∀ t, nr_R t 108 (fun _ => 1000) → post (nI n, 0, 0, (fun _ => 0), (fun _ => 0), (fun _ => 0), (fun _ => 0), (fun _ => 0), (fun _ => 0), (fun _ => 0), (fun _ => 0), t, (fun _ => 0), (fun _ => 0))) :
    wX_init_114 post (nI n) 0 0 0 (fun _ => 0) (fun _ => 0) (fun _ => 0) (fun _ => 0) (fun _ => 0) (fun _ => 0) (fun _ => 0) (fun _ => 0) (fun _ => 0) (fun _ => 0) (fun _ => 0) := by
  unfold wX_init_114
  exact xi_tb h
theorem nr_z0 {k : Nat} : nr_R (fun _ => 0) k (fun _ => 0) := fun _ _ => nI_0.symm
theorem nr_new {n : Nat} (k : Nat) (hn1 : 1 ≤ n) (hn : n ≤ 6) {t : Nat → Int32} (ht : nr_R t 108 (fun _ => 1000)) :
    i_Rel k (nI n, 0, 0, (fun _ => 0), (fun _ => 0), (fun _ => 0), (fun _ => 0), (fun _ => 0), (fun _ => 0), (fun _ => 0), (fun _ => 0), t, (fun _ => 0), (fun _ => 0)) (nI n, (fun _ => 0), (fun _ => 0), (fun _ => 0), (fun _ => 0), (fun _ => 0), (fun _ => 0), (fun _ => 0), (fun _ => 0), (fun _ => 0), (fun _ => 0), (fun _ => 0), (fun _ => 0)) :=
  nr_rel0 hn1 hn (nr_ok_0 (by omega)) (nr_ok_0 (by omega)) (nr_ok_0 (by omega)) (nr_ok_0 (by omega)) (nr_ok_0 (by omega)) (nr_ok_0 (by omega)) (nr_ok_0 (by omega)) nr_z0 nr_z0 ht
