/-! X: a block is connected -/
section
variable {sb qc : Int32} {tip pc : Nat} {ic so oc am hg par cn tx st po : Nat → Nat} {sl gd : Nat → Bool} {wi lk wk bw od xo ch li sp qu sk : Nat → Int32}
theorem cp_f_con {b h : Nat} (hs : st b ≠ 3) : cp_Fr ic so oc am hg par cn tx st sl wi lk ic so oc am (cp_up hg b h) par cn tx (cp_up st b 3) sl wi lk := by
  have nb : ∀ c, st c = 3 → c ≠ b := by
    intro c h e
    rw [e] at h
    exact hs h
  refine ⟨?_, ?_, ?_⟩
  · intro q hq s
    exact ⟨s, rfl, fun _ _ => ⟨rfl, rfl⟩⟩
  · intro c hc cc
    exact ⟨(cp_up_n (nb c cc)).trans cc, rfl, rfl, cp_up_n (nb c cc), fun _ _ => rfl⟩
  · intro j hj
    exact ⟨rfl, fun _ _ => ⟨rfl, rfl⟩⟩
theorem cx_c130f {post : SX → Prop} {b : Nat} {x4 : Int32} (hb : b < 24) (H : post (sb, nI tip, nI pc, qc, cp_A ic, cp_A so, wi, xo, cp_Bo sl, cp_A am, lk, cp_A st, cp_A par, wk, cp_A cn, cp_A tx, od, cp_A hg, bw, cp_Bo (cp_up gd b false), ch, cp_A po, li, sp, qu, sk)) : wX_connect_130 post (nI b) 0 x4 sb (nI tip) (nI pc) qc (cp_A ic) (cp_A so) wi xo (cp_Bo sl) (cp_A am) lk (cp_A st) (cp_A par) wk (cp_A cn) (cp_A tx) od (cp_A hg) bw (cp_Bo gd) ch (cp_A po) li sp qu sk :=
  br_t rfl (And.intro (vp_in_nI hb (by decide)) (nm_r (cp_wb gd false (by omega)) H))
theorem cx_c130t {post : SX → Prop} (B : cp_RB ic so oc am hg par cn tx st sl wi lk) {b m : Nat} (hb : b < 24) (hm : m < 2 ^ 30) (H : ∀ v, (v = true ↔ am (64 + 2 * b) ≤ m) → post (sb, nI tip, nI pc, qc, cp_A ic, cp_A so, wi, xo, cp_Bo sl, cp_A am, lk, cp_A st, cp_A par, wk, cp_A cn, cp_A tx, od, cp_A hg, bw, cp_Bo (cp_up gd b v), ch, cp_A po, li, sp, qu, sk)) : wX_connect_130 post (nI b) 1 (nI m) sb (nI tip) (nI pc) qc (cp_A ic) (cp_A so) wi xo (cp_Bo sl) (cp_A am) lk (cp_A st) (cp_A par) wk (cp_A cn) (cp_A tx) od (cp_A hg) bw (cp_Bo gd) ch (cp_A po) li sp qu sk := by
  have e : (2 : Int32) * (32 + nI b) = nI (64 + 2 * b) := by
    rw [show (32 : Int32) + nI b = nI (32 + b) from nI_add 32 b, cp_2m]
    exact congrArg nI (by omega)
  have a := cp_RB_am B (64 + 2 * b)
  refine br_f (by decide) (And.intro (pk_in (64 + 2 * b) 112 (by omega) e) (pk_lt m (am (64 + 2 * b)) (fun z => ?_) (fun z => ?_) rfl ?_))
  · exact And.intro (vp_in_nI hb (by decide)) (nm_r (cp_wb gd false (by omega)) (H false ⟨(fun y => nomatch y), fun y => by omega⟩))
  · exact And.intro (vp_in_nI hb (by decide)) (nm_r (cp_wb gd true (by omega)) (H true ⟨fun _ => z, fun _ => rfl⟩))
  · rw [e, cp_rd am (by omega)]
theorem cx_c66f {post : SX → Prop} {b n : Nat} {x4 x5 : Int32} (hb : b < 24) (H : post (sb, nI tip, nI pc, qc, cp_A ic, cp_A so, wi, xo, cp_Bo sl, cp_A am, lk, cp_A st, cp_A par, wk, cp_A cn, cp_A tx, od, cp_A hg, bw, cp_Bo (cp_up gd b false), ch, cp_A po, li, sp, qu, sk)) : wX_connect_66 post (nI b) (n + 1) 0 x4 x5 sb (nI tip) (nI pc) qc (cp_A ic) (cp_A so) wi xo (cp_Bo sl) (cp_A am) lk (cp_A st) (cp_A par) wk (cp_A cn) (cp_A tx) od (cp_A hg) bw (cp_Bo gd) ch (cp_A po) li sp qu sk :=
  And.intro (vp_in_nI hb (by decide)) (br_c (fun _ => cx_c130f hb H) (fun _ => br_t rfl (cx_c130f hb H)))
theorem cp_sd_le (B : cp_RB ic so oc am hg par cn tx st sl wi lk) (t : Nat) : cp_sd ic so am t ≤ 20000 := by
  have a1 := cp_RB_am B (so (2 * t))
  have a2 := cp_RB_am B (so (2 * t + 1))
  unfold cp_sd
  split <;> split <;> omega
theorem cp_fs_le (B : cp_RB ic so oc am hg par cn tx st sl wi lk) (b : Nat) : ∀ n, cp_fs ic so oc am tx b n ≤ 20000 * n := by
  intro n
  induction n with
  | zero => exact Nat.le_refl _
  | succ n ih =>
    have a := cp_sd_le B (tx (3 * b + n))
    have s : cp_fs ic so oc am tx b (n + 1) = cp_fs ic so oc am tx b n + (cp_sd ic so am (tx (3 * b + n)) - cp_gv oc am (tx (3 * b + n))) := rfl
    omega
/-- the loop over the block's transactions; the block is connected in the data already -/
theorem cx_c66 {post : SX → Prop} {gd1 : Nat → Bool} {bw1 : Nat → Int32} (R : cp_RR ic so oc am hg par cn tx st sl wi lk wk bw1 gd1 pc po) (hxo : ∀ t, t < 32 → xo t = nI (oc t)) {b : Nat} (hb : b < 24) (cb : st b = 3) (nb : b ≠ 0)
    (H : ∀ v li' sp' sk', (v = true ↔ cp_CK ic so oc am hg par cn tx sl wi lk b) → post (sb, nI tip, nI pc, qc, cp_A ic, cp_A so, wi, xo, cp_Bo sl, cp_A am, lk, cp_A st, cp_A par, wk, cp_A cn, cp_A tx, od, cp_A hg, bw, cp_Bo (cp_up gd b v), ch, cp_A po, li', sp', qu, sk')) : ∀ (d i : Nat) (li sp sk : Nat → Int32), i + d = cn b → cp_Rp li (cp_Lc hg par cn tx b i) 56 → cp_Rp sp (cp_Sc ic so hg par cn tx b i) 112 → cp_CKn ic so oc am hg par cn tx sl wi lk b i →
    wX_connect_66 post (nI b) (d + 1) 1 (nI (50 + cp_fs ic so oc am tx b i)) (nI i) sb (nI tip) (nI pc) qc (cp_A ic) (cp_A so) wi xo (cp_Bo sl) (cp_A am) lk (cp_A st) (cp_A par) wk (cp_A cn) (cp_A tx) od (cp_A hg) bw (cp_Bo gd) ch (cp_A po) li sp qu sk := by
  obtain ⟨B, T, q1, q2⟩ := R
  have c := cp_RB_cn B b
  have hh := cp_RT_hg T hb cb
  obtain ⟨h1, h2, h3⟩ := T.1.2.2 b hb cb nb
  intro d
  induction d with
  | zero =>
    intro i li sp sk hi hl hs hk
    have f := cp_fs_le B b i
    have ei : i = cn b := by omega
    refine And.intro (vp_in_nI hb (by decide)) (pk_le (cn b) i (fun _ => cx_c130t B hb (by omega) (fun v hv => H v _ _ _ ?_)) (fun z => False.elim (by omega)) (cp_rd cn (by omega)) rfl)
    rw [ei] at hv hk
    exact ⟨fun y => ⟨hk, hv.mp y⟩, fun y => hv.mpr y.2⟩
  | succ d ih =>
    intro i li sp sk hi hl hs hk
    have e1 : cp_A tx ((3 : Int32) * nI b + nI i).toNatClampNeg = nI (tx (3 * b + i)) := by
      rw [cp_3a, cp_rd _ (by omega)]
    refine And.intro (vp_in_nI hb (by decide)) (pk_le (cn b) i (fun z => False.elim (by omega)) (fun _ => br_f (by decide) ?_) (cp_rd cn (by omega)) rfl)
    refine And.intro (pk_in (3 * b + i) 72 (by omega) (cp_3a b i)) (nm_r e1 (And.intro (vp_in_nI hb (by decide)) ?_))
    rw [cp_rd hg (by omega)]
    have hLg : ∀ j, cp_Lc hg par cn tx b i j → 32 ≤ j → hg (j - 32) < 24 := by
      intro j z hj
      rcases cp_Lc_fz B T.1 h1 h2 (by omega) z with w | w
      · omega
      · exact cp_RT_hg T (by omega) w.2.2
    refine cx_ft B hxo (cp_RB_tx B _) (by omega) hl hs hLg (fun r sk' hr => cx_su B hxo (cp_RB_tx B _) (nm_e (cx_lt _ (cp_RB_tx B _) (cp_RB_ic B _) (cp_RB_so B) hl hs (fun li' sp' hl' hs' => nm_r (nI_1 i) ?_))))
    by_cases zF : cp_FT ic so oc am hg sl wi lk (cp_Lc hg par cn tx b i) (cp_Sc ic so hg par cn tx b i) (tx (3 * b + i)) (hg b)
    · rw [cp_TF_t hr zF, pk_sub zF.2.2.2.2.2.2, nI_add, Nat.add_assoc]
      refine ih (i + 1) li' sp' sk' (by omega) (cp_Rp_iff hl' ?_) (cp_Rp_iff hs' ?_) ?_
      · intro j _
        constructor
        · rintro ((z | ⟨k, hk, z⟩) | z)
          · exact Or.inl z
          · exact Or.inr ⟨k, by omega, z⟩
          · exact Or.inr ⟨i, by omega, z.symm⟩
        · rintro (z | ⟨k, hk, z⟩)
          · exact Or.inl (Or.inl z)
          · by_cases e : k = i
            · subst e
              exact Or.inr z.symm
            · exact Or.inl (Or.inr ⟨k, by omega, z⟩)
      · intro j _
        constructor
        · rintro ((z | ⟨k, hk, z⟩) | z)
          · exact Or.inl z
          · exact Or.inr ⟨k, by omega, z⟩
          · exact Or.inr ⟨i, by omega, z⟩
        · rintro (z | ⟨k, hk, z⟩)
          · exact Or.inl (Or.inl z)
          · by_cases e : k = i
            · subst e
              exact Or.inr z
            · exact Or.inl (Or.inr ⟨k, by omega, z⟩)
      · intro q hq
        by_cases e : q = i
        · subst e
          exact zF
        · exact hk q (by omega)
    · rw [cp_TF_f hr zF]
      exact cx_c66f hb (H false _ _ _ ⟨(fun y => nomatch y), fun y => absurd (y.1 i (by omega)) zF⟩)
theorem cx_con {post : SX → Prop} (R : cp_RR ic so oc am hg par cn tx st sl wi lk wk bw gd pc po) (hxo : ∀ t, t < 32 → xo t = nI (oc t)) {b : Nat} (hb : b < 24) (hs : st b = 2) (hp : st (par b) = 3)
    (H : ∀ v li' sp' sk', cp_RR ic so oc am (cp_up hg b (hg (par b) + 1)) par cn tx (cp_up st b 3) sl wi lk wk (cp_up bw b (bw (par b) + wk b)) (cp_up gd b v) pc po →
      post (sb, nI tip, nI pc, qc, cp_A ic, cp_A so, wi, xo, cp_Bo sl, cp_A am, lk, cp_A (cp_up st b 3), cp_A par, wk, cp_A cn, cp_A tx, od, cp_A (cp_up hg b (hg (par b) + 1)), (cp_up bw b (bw (par b) + wk b)), cp_Bo (cp_up gd b v), ch, cp_A po, li', sp', qu, sk')) : wpX_connect post (sb, nI tip, nI pc, qc, cp_A ic, cp_A so, wi, xo, cp_Bo sl, cp_A am, lk, cp_A st, cp_A par, wk, cp_A cn, cp_A tx, od, cp_A hg, bw, cp_Bo gd, ch, cp_A po, li, sp, qu, sk) (nI b) := by
  have pb := cp_RB_par R.1 b
  have hh := cp_RT_hg R.2.1 pb hp
  have nb0 : b ≠ 0 := by
    intro e
    have := R.2.1.1.1
    rw [e] at hs
    omega
  have nbp : par b ≠ b := by
    intro e
    rw [e] at hp
    omega
  have ib : vp_in (nI b) 24 := vp_in_nI hb (by decide)
  have ip : vp_in (nI (par b)) 24 := vp_in_nI pb (by decide)
  let v := @decide (gd (par b) = true ∧ cp_CK ic so oc am (cp_up hg b (hg (par b) + 1)) par cn tx sl wi lk b) (Classical.propDecidable _)
  have hv : v = true ↔ gd (par b) = true ∧ cp_CK ic so oc am (cp_up hg b (hg (par b) + 1)) par cn tx sl wi lk b := @decide_eq_true_iff _ (Classical.propDecidable _)
  have R1 := cp_s_con R hb hs hp hv
  refine And.intro ib (nm_r (cp_rd par (by omega)) (And.intro ib (nm_r (cp_wr st 3 (by omega)) (And.intro ip (And.intro ib (nm_r (e' := cp_A (cp_up hg b (hg (par b) + 1))) ?_ (And.intro ip (And.intro ib (And.intro ib (nm_r (e' := cp_up bw b (bw (par b) + wk b)) ?_ (And.intro ip (nm_r (cp_rb gd (by omega)) ?_))))))))))))
  · rw [cp_rd hg (by omega), nI_1, cp_wr hg _ (by omega)]
  · rw [cp_rw bw (by omega), cp_rw wk (by omega), cp_ww bw _ (by omega)]
  refine cx_lc _ R1.1 R1.2.1.1 pb ?_ ?_ (fun li' sp' hl hs' => ?_)
  · rw [cp_up_n nbp]
    exact hp
  · rw [cp_up_n nbp]
    exact hh
  · by_cases g : gd (par b) = true
    · rw [g]
      refine Exists.intro (cn b + 1) (cx_c66 R1 hxo hb cp_up_s nb0 (fun v' li' sp' sk' hv' => H v' li' sp' sk' (cp_s_con R hb hs hp ?_)) (cn b) 0 li' sp' sk (by omega) (cp_Rp_iff hl ?_) (cp_Rp_iff hs' ?_) (fun i hi => absurd hi (Nat.not_lt_zero _)))
      · rw [hv']
        exact ⟨fun y => ⟨g, y⟩, fun y => y.2⟩
      · intro j _
        exact ⟨Or.inl, fun z => z.elim id (fun ⟨k, hk, _⟩ => absurd hk (Nat.not_lt_zero _))⟩
      · intro j _
        exact ⟨Or.inl, fun z => z.elim id (fun ⟨k, hk, _⟩ => absurd hk (Nat.not_lt_zero _))⟩
    · have g' : gd (par b) = false := by
        cases h : gd (par b)
        · rfl
        · exact absurd h g
      rw [g']
      exact Exists.intro 1 (cx_c66f hb (H false li' sp' sk (cp_s_con R hb hs hp ⟨(fun y => nomatch y), fun y => absurd y.1 g⟩)))
theorem cx_fc2 {post : Int32 → Prop} (B : cp_RB ic so oc am hg par cn tx st sl wi lk) (H0 : (∀ b, 1 ≤ b → b < 24 → st b = 2 → st (par b) ≠ 3) → post 0) (H1 : ∀ b, 1 ≤ b → b < 24 → st b = 2 → st (par b) = 3 → post (nI b)) : ∀ (d k : Nat), k + d = 24 → 1 ≤ k → (∀ b, 1 ≤ b → b < k → st b = 2 → st (par b) ≠ 3) → wX_findConnectable_2 post sb (nI tip) (nI pc) qc (cp_A ic) (cp_A so) wi xo (cp_Bo sl) (cp_A am) lk (cp_A st) (cp_A par) wk (cp_A cn) (cp_A tx) od (cp_A hg) bw (cp_Bo gd) ch (cp_A po) li sp qu sk (d + 1) (nI k) := by
  intro d
  induction d with
  | zero =>
    intro k hk h1 h
    exact pk_le 24 k (fun _ => H0 (fun b hb hb' => h b hb (by omega))) (fun z => False.elim (by omega))
  | succ d ih =>
    intro k hk h1 h
    have s := cp_RB_st B k
    have p := cp_RB_par B k
    have s2 := cp_RB_st B (par k)
    have ik : vp_in (nI k) 24 := vp_in_nI (by omega) (by decide)
    refine pk_le 24 k (fun z => False.elim (by omega)) (fun _ => And.intro ik (pk_eq (st k) 2 (fun e => And.intro ik (And.intro (pk_in (par k) 24 p (cp_rd par (by omega))) (pk_eq (st (par k)) 3 (fun e2 => H1 k h1 (by omega) e e2) (fun e2 => nm_r (nI_1 k) (ih (k + 1) (by omega) (by omega) ?_)) ?_ rfl))) (fun e => nm_r (nI_1 k) (ih (k + 1) (by omega) (by omega) ?_)) (cp_rd st (by omega)) rfl))
    · intro b hb hb' hs
      by_cases z : b = k
      · rw [z]
        exact e2
      · exact h b hb (by omega) hs
    · rw [cp_rd par (by omega), cp_rd st (by omega)]
    · intro b hb hb' hs
      by_cases z : b = k
      · rw [z] at hs
        exact absurd hs e
      · exact h b hb (by omega) hs
theorem cx_fc {post : Int32 → Prop} (B : cp_RB ic so oc am hg par cn tx st sl wi lk) (H0 : (∀ b, 1 ≤ b → b < 24 → st b = 2 → st (par b) ≠ 3) → post 0) (H1 : ∀ b, 1 ≤ b → b < 24 → st b = 2 → st (par b) = 3 → post (nI b)) : wpX_findConnectable post (sb, nI tip, nI pc, qc, cp_A ic, cp_A so, wi, xo, cp_Bo sl, cp_A am, lk, cp_A st, cp_A par, wk, cp_A cn, cp_A tx, od, cp_A hg, bw, cp_Bo gd, ch, cp_A po, li, sp, qu, sk) :=
  Exists.intro 24 (cx_fc2 B H0 H1 23 1 (by omega) (Nat.le_refl _) (fun b h1 h2 => by omega))
end
