/-! X: does a transaction fit; the pool -/
theorem cp_ss (x y z : Int32) : x - y - z = x - (y + z) := by grind
section
variable {sb qc : Int32} {tip pc : Nat} {ic so oc am hg par cn tx st po : Nat → Nat} {sl gd : Nat → Bool} {wi lk wk bw od xo ch li sp qu sk : Nat → Int32}
theorem cp_sd_sum {t : Nat} (h : ic t ≤ 2) : cp_sum (fun k => am (so (2 * t + k))) (ic t) = cp_sd ic so am t := by
  unfold cp_sd
  have : ic t = 0 ∨ ic t = 1 ∨ ic t = 2 := by omega
  rcases this with e | e | e <;> rw [e]
  · rfl
  · show 0 + am (so (2 * t + 0)) = am (so (2 * t)) + 0
    rw [Nat.zero_add]
    rfl
  · show 0 + am (so (2 * t + 0)) + am (so (2 * t + 1)) = am (so (2 * t)) + am (so (2 * t + 1))
    rw [Nat.zero_add]
    rfl
theorem cp_gv_sum {t : Nat} (h : oc t ≤ 2) : cp_sum (fun k => am (2 * t + k)) (oc t) = cp_gv oc am t := by
  unfold cp_gv
  have : oc t = 0 ∨ oc t = 1 ∨ oc t = 2 := by omega
  rcases this with e | e | e <;> rw [e]
  · rfl
  · show 0 + am (2 * t + 0) = am (2 * t) + 0
    rw [Nat.zero_add]
    rfl
  · show 0 + am (2 * t + 0) + am (2 * t + 1) = am (2 * t) + am (2 * t + 1)
    rw [Nat.zero_add]
    rfl
theorem cx_su40 {post : Int32 → Prop} (B : cp_RB ic so oc am hg par cn tx st sl wi lk) (hxo : ∀ t, t < 32 → xo t = nI (oc t)) {t : Nat} (ht : t < 32) (s : Int32) (H : post (s - nI (cp_gv oc am t))) : ∀ (d i : Nat), i + d = oc t → wX_surplus_40 post (nI t) sb (nI tip) (nI pc) qc (cp_A ic) (cp_A so) wi xo (cp_Bo sl) (cp_A am) lk (cp_A st) (cp_A par) wk (cp_A cn) (cp_A tx) od (cp_A hg) bw (cp_Bo gd) ch (cp_A po) li sp qu sk (d + 1) (s - nI (cp_sum (fun k => am (2 * t + k)) i)) (nI i) := by
  have c := cp_RB_oc B t
  have e0 : xo (nI t).toNatClampNeg = nI (oc t) := by
    rw [nI_clamp (by omega)]
    exact hxo t ht
  intro d
  induction d with
  | zero =>
    intro i hi
    refine And.intro (vp_in_nI ht (by decide)) (pk_le (oc t) i (fun _ => ?_) (fun z => False.elim (by omega)) e0 rfl)
    rw [show i = oc t from by omega, cp_gv_sum c]
    exact H
  | succ d ih =>
    intro i hi
    refine And.intro (vp_in_nI ht (by decide)) (pk_le (oc t) i (fun z => False.elim (by omega)) (fun _ => ?_) e0 rfl)
    refine And.intro (pk_in (2 * t + i) 112 (by omega) (cp_2a t i)) (nm_r (e' := s - nI (cp_sum (fun k => am (2 * t + k)) (i + 1))) ?_ (nm_r (nI_1 i) (ih (i + 1) (by omega))))
    rw [cp_2a, cp_rd am (by omega), cp_ss, nI_add]
    rfl
theorem cx_su4 {post : Int32 → Prop} (B : cp_RB ic so oc am hg par cn tx st sl wi lk) (hxo : ∀ t, t < 32 → xo t = nI (oc t)) {t : Nat} (ht : t < 32) (H : post (nI (cp_sd ic so am t) - nI (cp_gv oc am t))) : ∀ (d i : Nat), i + d = ic t → wX_surplus_4 post (nI t) sb (nI tip) (nI pc) qc (cp_A ic) (cp_A so) wi xo (cp_Bo sl) (cp_A am) lk (cp_A st) (cp_A par) wk (cp_A cn) (cp_A tx) od (cp_A hg) bw (cp_Bo gd) ch (cp_A po) li sp qu sk (d + 1) (nI (cp_sum (fun k => am (so (2 * t + k))) i)) (nI i) := by
  have c := cp_RB_ic B t
  intro d
  induction d with
  | zero =>
    intro i hi
    refine And.intro (vp_in_nI ht (by decide)) (pk_le (ic t) i (fun _ => Exists.intro (oc t + 1) ?_) (fun z => False.elim (by omega)) (cp_rd ic (by omega)) rfl)
    rw [show i = ic t from by omega, cp_sd_sum c]
    have z := cx_su40 (sb := sb) (tip := tip) (pc := pc) (qc := qc) (ic := ic) (so := so) (wi := wi) (xo := xo) (sl := sl) (am := am) (lk := lk) (st := st) (par := par) (wk := wk) (cn := cn) (tx := tx) (od := od) (hg := hg) (bw := bw) (gd := gd) (ch := ch) (po := po) (li := li) (sp := sp) (qu := qu) (sk := sk) B hxo ht (nI (cp_sd ic so am t)) H (oc t) 0 (by omega)
    rw [show cp_sum (fun k => am (2 * t + k)) 0 = 0 from rfl, nI_0, Int32.sub_zero] at z
    exact z
  | succ d ih =>
    intro i hi
    have hs := cp_RB_so B (2 * t + i)
    have e1 : cp_A so ((2 : Int32) * nI t + nI i).toNatClampNeg = nI (so (2 * t + i)) := by
      rw [cp_2a, cp_rd _ (by omega)]
    refine And.intro (vp_in_nI ht (by decide)) (pk_le (ic t) i (fun z => False.elim (by omega)) (fun _ => ?_) (cp_rd ic (by omega)) rfl)
    refine And.intro (pk_in (2 * t + i) 64 (by omega) (cp_2a t i)) (And.intro (pk_in (so (2 * t + i)) 112 hs e1) (nm_r (e' := nI (cp_sum (fun k => am (so (2 * t + k))) (i + 1))) ?_ (nm_r (nI_1 i) (ih (i + 1) (by omega)))))
    rw [e1, cp_rd am (by omega), nI_add]
    rfl
theorem cx_su {post : Int32 → Prop} (B : cp_RB ic so oc am hg par cn tx st sl wi lk) (hxo : ∀ t, t < 32 → xo t = nI (oc t)) {t : Nat} (ht : t < 32) (H : post (nI (cp_sd ic so am t) - nI (cp_gv oc am t))) : wpX_surplus post (sb, nI tip, nI pc, qc, cp_A ic, cp_A so, wi, xo, cp_Bo sl, cp_A am, lk, cp_A st, cp_A par, wk, cp_A cn, cp_A tx, od, cp_A hg, bw, cp_Bo gd, ch, cp_A po, li, sp, qu, sk) (nI t) :=
  Exists.intro (ic t + 1) (cx_su4 B hxo ht H (ic t) 0 (by omega))
theorem cx_iu {post : Int32 → Prop} (B : cp_RB ic so oc am hg par cn tx st sl wi lk) {o : Nat} (ho : o < 112) {L S : Nat → Prop} (hl : cp_Rp li L 56) (hs : cp_Rp sp S 112) (H : ∀ r, cp_TF r (o % 2 < oc (o / 2) ∧ L (o / 2) ∧ ¬ S o) → post r) : wpX_isUnspent post (sb, nI tip, nI pc, qc, cp_A ic, cp_A so, wi, xo, cp_Bo sl, cp_A am, lk, cp_A st, cp_A par, wk, cp_A cn, cp_A tx, od, cp_A hg, bw, cp_Bo gd, ch, cp_A po, li, sp, qu, sk) (nI o) := by
  have a := cp_RB_am B o
  have ao := cp_RB_ao B o
  have e : nI o / 2 = nI (o / 2) := pk_div (d := 2) (by omega) (by decide) (by decide)
  have tl : cp_TF (li (nI o / 2).toNatClampNeg) (L (o / 2)) := by
    rw [e, nI_clamp (by omega)]
    exact hl _ (by omega)
  have ts : cp_TF (sp (nI o).toNatClampNeg) (S o) := by
    rw [nI_clamp (by omega)]
    exact hs _ ho
  refine And.intro (vp_in_nI ho (by decide)) (pk_le (am o) 0 (fun z => H 0 (cp_TF_F (fun y => by have := y.1; omega))) (fun z => ?_) (cp_rd am (by omega)) rfl)
  refine And.intro (by decide) (And.intro (pk_in (o / 2) 56 (by omega) e) (cp_TF_br tl (fun y => H 0 (cp_TF_F (fun w => y w.2.1))) (fun y => And.intro (vp_in_nI ho (by decide)) (cp_TF_br ts (fun w => H 1 (cp_TF_T ⟨ao.mp z, y, w⟩)) (fun w => H 0 (cp_TF_F (fun v => v.2.2 w)))))))
theorem cx_ir {post : Int32 → Prop} {o h : Nat} (ho : o < 112) (hh : h < 2 ^ 30) (hg2 : 32 ≤ o / 2 → hg (o / 2 - 32) < 24) (H : ∀ r, cp_TF r (o / 2 < 32 ∨ hg (o / 2 - 32) + 2 ≤ h) → post r) : wpX_isRipe post (sb, nI tip, nI pc, qc, cp_A ic, cp_A so, wi, xo, cp_Bo sl, cp_A am, lk, cp_A st, cp_A par, wk, cp_A cn, cp_A tx, od, cp_A hg, bw, cp_Bo gd, ch, cp_A po, li, sp, qu, sk) (nI o) (nI h) := by
  have e : nI o / 2 = nI (o / 2) := pk_div (d := 2) (by omega) (by decide) (by decide)
  refine And.intro (by decide) ?_
  by_cases z : o / 2 < 32
  · refine nm_r (e' := nI (o / 2) - nI 32) (by rw [e]; rfl) (br_t (pk_sneg (by decide) z) (H 1 (cp_TF_T (Or.inl z))))
  · have g := hg2 (by omega)
    refine nm_r (e' := nI (o / 2 - 32)) (by rw [e]; exact pk_sub (b := 32) (by omega)) (br_f (nI_pos (by omega)) (And.intro (vp_in_nI (by omega) (by decide)) ?_))
    refine pk_lt h (hg (o / 2 - 32) + 2) (fun y => H 0 (cp_TF_F (fun w => by omega))) (fun y => H 1 (cp_TF_T (Or.inr y))) rfl ?_
    rw [cp_rd hg (by omega)]
    exact nI_add _ 2
theorem cx_ft75 {post : Int32 → SX → Prop} (B : cp_RB ic so oc am hg par cn tx st sl wi lk) (hxo : ∀ t, t < 32 → xo t = nI (oc t)) {t h : Nat} (ht : t < 32) (hh : h < 2 ^ 30) {L S : Nat → Prop} (hl : cp_Rp li L 56) (hs : cp_Rp sp S 112) (hLg : ∀ j, L j → 32 ≤ j → hg (j - 32) < 24)
    (p1 : sl t = true) (p2 : ic t ≠ 0) (p3 : oc t ≠ 0) (p4 : ¬ L t) (p5 : ¬ (ic t = 2 ∧ so (2 * t) = so (2 * t + 1))) : ∀ (d i : Nat) (sk : Nat → Int32), i + d = ic t → (∀ k, k < i → cp_IO so oc hg wi lk L S h (2 * t + k)) →
    (∀ r sk', cp_TF r (cp_FT ic so oc am hg sl wi lk L S t h) → post r (sb, nI tip, nI pc, qc, cp_A ic, cp_A so, wi, xo, cp_Bo sl, cp_A am, lk, cp_A st, cp_A par, wk, cp_A cn, cp_A tx, od, cp_A hg, bw, cp_Bo gd, ch, cp_A po, li, sp, qu, sk')) → wX_fits_75 post (nI t) (nI h) (nI (ic t)) (nI (2 * t)) (d + 1) (nI (2 * t + i)) sb (nI tip) (nI pc) qc (cp_A ic) (cp_A so) wi xo (cp_Bo sl) (cp_A am) lk (cp_A st) (cp_A par) wk (cp_A cn) (cp_A tx) od (cp_A hg) bw (cp_Bo gd) ch (cp_A po) li sp qu sk := by
  have c := cp_RB_ic B t
  intro d
  induction d with
  | zero =>
    intro i sk hi hp H
    refine pk_le (2 * t + ic t) (2 * t + i) (fun _ => cx_su B hxo ht ?_) (fun z => False.elim (by omega)) (nI_add _ _) rfl
    have hs1 : cp_sd ic so am t ≤ 20000 := by
      have a1 := cp_RB_am B (so (2 * t))
      have a2 := cp_RB_am B (so (2 * t + 1))
      unfold cp_sd
      split <;> split <;> omega
    have hg1 : cp_gv oc am t ≤ 20000 := by
      have a1 := cp_RB_am B (2 * t)
      have a2 := cp_RB_am B (2 * t + 1)
      unfold cp_gv
      split <;> split <;> omega
    by_cases z : cp_gv oc am t ≤ cp_sd ic so am t
    · rw [pk_sub z]
      refine br_f (nI_pos (by omega)) (H 1 sk (cp_TF_T ⟨p1, p2, p3, p4, p5, fun k hk => hp k (by omega), z⟩))
    · refine br_t (pk_sneg (by omega) (by omega)) (H 0 sk (cp_TF_F (fun y => z y.2.2.2.2.2.2)))
  | succ d ih =>
    intro i sk hi hp H
    have hso := cp_RB_so B (2 * t + i)
    refine pk_le (2 * t + ic t) (2 * t + i) (fun z => False.elim (by omega)) (fun _ => And.intro (vp_in_nI (by omega) (by decide)) (nm_r (cp_rd so (by omega)) ?_)) (nI_add _ _) rfl
    refine cx_iu B hso hl hs (fun r1 h1 => cp_TF_br h1 (fun z => H 0 sk (cp_TF_F ?_)) (fun z1 => ?_))
    · intro y
      have := y.2.2.2.2.2.1 i (by omega)
      exact z ⟨this.1, this.2.1, this.2.2.1⟩
    refine cx_ir hso hh (hLg _ z1.2.1) (fun r2 h2 => cp_TF_br h2 (fun z => H 0 sk (cp_TF_F ?_)) (fun z2 => ?_))
    · intro y
      have := y.2.2.2.2.2.1 i (by omega)
      exact z this.2.2.2.1
    refine And.intro (vp_in_nI hso (by decide)) (And.intro (vp_in_nI (by omega) (by decide)) ?_)
    rw [cp_rw lk (by omega), cp_rw wi (by omega)]
    refine cx_op _ _ _ (fun r3 sk' h3 => cp_TF_br h3 (fun z => H 0 sk' (cp_TF_F ?_)) (fun z3 => nm_r (nI_1 (2 * t + i)) (ih (i + 1) sk' (by omega) ?_ H)))
    · intro y
      have := y.2.2.2.2.2.1 i (by omega)
      exact z this.2.2.2.2
    · intro k hk
      by_cases e : k = i
      · subst e
        exact ⟨z1.1, z1.2.1, z1.2.2, z2, z3⟩
      · exact hp k (by omega)
theorem cx_ft {post : Int32 → SX → Prop} (B : cp_RB ic so oc am hg par cn tx st sl wi lk) (hxo : ∀ t, t < 32 → xo t = nI (oc t)) {t h : Nat} (ht : t < 32) (hh : h < 2 ^ 30) {L S : Nat → Prop} (hl : cp_Rp li L 56) (hs : cp_Rp sp S 112) (hLg : ∀ j, L j → 32 ≤ j → hg (j - 32) < 24)
    (H : ∀ r sk', cp_TF r (cp_FT ic so oc am hg sl wi lk L S t h) → post r (sb, nI tip, nI pc, qc, cp_A ic, cp_A so, wi, xo, cp_Bo sl, cp_A am, lk, cp_A st, cp_A par, wk, cp_A cn, cp_A tx, od, cp_A hg, bw, cp_Bo gd, ch, cp_A po, li, sp, qu, sk')) : wpX_fits post (sb, nI tip, nI pc, qc, cp_A ic, cp_A so, wi, xo, cp_Bo sl, cp_A am, lk, cp_A st, cp_A par, wk, cp_A cn, cp_A tx, od, cp_A hg, bw, cp_Bo gd, ch, cp_A po, li, sp, qu, sk) (nI t) (nI h) := by
  have c := cp_RB_ic B t
  have c2 := cp_RB_oc B t
  have e0 : xo (nI t).toNatClampNeg = nI (oc t) := by
    rw [nI_clamp (by omega)]
    exact hxo t ht
  have tb : cp_TF (cp_Bo sl (nI t).toNatClampNeg) (sl t = true) := by
    rw [cp_rb sl (by omega)]
    exact cp_TF_b _
  have tl : cp_TF (li (nI t).toNatClampNeg) (L t) := by
    rw [nI_clamp (by omega)]
    exact hl _ (by omega)
  have i32 : vp_in (nI t) 32 := vp_in_nI ht (by decide)
  refine And.intro i32 (nm_r (cp_rd ic (by omega)) (And.intro i32 (cp_TF_br tb (fun z => H 0 sk (cp_TF_F (fun y => z y.1))) (fun p1 => ?_))))
  refine pk_eq (ic t) 0 (fun z => H 0 sk (cp_TF_F (fun y => y.2.1 z))) (fun p2 => And.intro i32 ?_)
  refine pk_eq (oc t) 0 (fun z => H 0 sk (cp_TF_F (fun y => y.2.2.1 z))) (fun p3 => nm_r (cp_2m t) (And.intro (vp_in_nI (by omega) (by decide)) ?_)) e0 rfl
  refine cp_TF_br tl (fun p4 => ?_) (fun z => H 0 sk (cp_TF_F (fun y => y.2.2.2.1 z)))
  have key : ¬ (ic t = 2 ∧ so (2 * t) = so (2 * t + 1)) → ∃ n, wX_fits_75 post (nI t) (nI h) (nI (ic t)) (nI (2 * t)) n (nI (2 * t)) sb (nI tip) (nI pc) qc (cp_A ic) (cp_A so) wi xo (cp_Bo sl) (cp_A am) lk (cp_A st) (cp_A par) wk (cp_A cn) (cp_A tx) od (cp_A hg) bw (cp_Bo gd) ch (cp_A po) li sp qu sk := fun p5 =>
    ⟨ic t + 1, cx_ft75 B hxo ht hh hl hs hLg p1 p2 p3 p4 p5 (ic t) 0 sk (by omega) (fun k hk => absurd hk (Nat.not_lt_zero _)) H⟩
  refine pk_eq (ic t) 2 (fun z => And.intro (vp_in_nI (by omega) (by decide)) (And.intro (pk_in (2 * t + 1) 64 (by omega) (nI_1 _)) ?_)) (fun z => key (fun y => z y.1))
  have s1 := cp_RB_so B (2 * t)
  have s2 := cp_RB_so B (2 * t + 1)
  refine pk_eq (so (2 * t)) (so (2 * t + 1)) (fun w => H 0 sk (cp_TF_F (fun y => y.2.2.2.2.1 ⟨z, w⟩))) (fun w => key (fun y => w y.2)) (cp_rd so (by omega)) ?_
  rw [nI_1, cp_rd so (by omega)]
/-- listing the pool, then the question -/
theorem cx_ap21 {post : Int32 → SX → Prop} (R : cp_RR ic so oc am hg par cn tx st sl wi lk wk bw gd pc po) (hxo : ∀ t, t < 32 → xo t = nI (oc t)) {t : Nat} (ht : t < 32) (htip : tip < 24) (gt : gd tip = true) (hp8 : pc < 8) : ∀ (d i : Nat) (li sp : Nat → Int32), i + d = pc →
    cp_Rp li (cp_La hg par cn tx po tip i) 56 → cp_Rp sp (cp_Sa ic so hg par cn tx po tip i) 112 →
    (∀ r li' sp' sk', ¬ cp_AF ic so oc am hg par cn tx sl wi lk tip pc po t → r = 0 → post r (sb, nI tip, nI pc, qc, cp_A ic, cp_A so, wi, xo, cp_Bo sl, cp_A am, lk, cp_A st, cp_A par, wk, cp_A cn, cp_A tx, od, cp_A hg, bw, cp_Bo gd, ch, cp_A po, li', sp', qu, sk')) →
    (∀ r li' sp' sk', cp_AF ic so oc am hg par cn tx sl wi lk tip pc po t → r = 1 → post r (sb, nI tip, nI (pc + 1), qc, cp_A ic, cp_A so, wi, xo, cp_Bo sl, cp_A am, lk, cp_A st, cp_A par, wk, cp_A cn, cp_A tx, od, cp_A hg, bw, cp_Bo gd, ch, cp_A (cp_up po pc t), li', sp', qu, sk')) → wX_addToPool_21 post (nI t) (d + 1) (nI i) sb (nI tip) (nI pc) qc (cp_A ic) (cp_A so) wi xo (cp_Bo sl) (cp_A am) lk (cp_A st) (cp_A par) wk (cp_A cn) (cp_A tx) od (cp_A hg) bw (cp_Bo gd) ch (cp_A po) li sp qu sk := by
  obtain ⟨B, T, q1, q2⟩ := R
  have ct := T.2.2.2.1 tip htip gt
  have hh := cp_RT_hg T htip ct
  intro d
  induction d with
  | zero =>
    intro i li sp hi hl hs H0 H1
    have ei : i = pc := by omega
    subst ei
    refine pk_le i i (fun _ => And.intro (vp_in_nI htip (by decide)) ?_) (fun z => False.elim (by omega))
    rw [cp_rd hg (by omega), nI_1]
    have hLg : ∀ j, cp_La hg par cn tx po tip i j → 32 ≤ j → hg (j - 32) < 24 := by
      rintro j (z | ⟨k, hk, z⟩) hj
      · rcases cp_LS_fz B T.1 htip ct z with w | w
        · omega
        · exact cp_RT_hg T (by omega) w.2.2
      · have := (q2 k hk).1
        omega
    refine cx_ft B hxo ht (by omega) hl hs hLg (fun r sk' hr => cp_TF_br hr (fun z => H0 0 _ _ _ (fun y => z y.2) rfl) (fun z => And.intro (vp_in_nI hp8 (by decide)) (nm_r (cp_wr po t (by omega)) (nm_r (nI_1 i) (H1 1 _ _ _ ⟨hp8, z⟩ rfl)))))
  | succ d ih =>
    intro i li sp hi hl hs H0 H1
    refine pk_le pc i (fun z => False.elim (by omega)) (fun _ => And.intro (vp_in_nI (by omega) (by decide)) ?_)
    rw [cp_rd po (by omega)]
    refine cx_lt _ (q2 i (by omega)).1 (cp_RB_ic B _) (cp_RB_so B) hl hs (fun li' sp' hl' hs' => nm_r (nI_1 i) (ih (i + 1) li' sp' (by omega) (cp_Rp_iff hl' ?_) (cp_Rp_iff hs' ?_) H0 H1))
    · intro j _
      constructor
      · rintro ((z | ⟨k, hk, z⟩) | z)
        · exact Or.inl z
        · exact Or.inr ⟨k, by omega, z⟩
        · exact Or.inr ⟨i, by omega, z.symm⟩
      · rintro (z | ⟨k, hk, z⟩)
        · exact Or.inl (Or.inl z)
        · by_cases e : k = i
          · subst e
            exact Or.inr z.symm
          · exact Or.inl (Or.inr ⟨k, by omega, z⟩)
    · intro j _
      constructor
      · rintro ((z | ⟨k, hk, z⟩) | z)
        · exact Or.inl z
        · exact Or.inr ⟨k, by omega, z⟩
        · exact Or.inr ⟨i, by omega, z⟩
      · rintro (z | ⟨k, hk, z⟩)
        · exact Or.inl (Or.inl z)
        · by_cases e : k = i
          · subst e
            exact Or.inr z
          · exact Or.inl (Or.inr ⟨k, by omega, z⟩)
theorem cx_ap {post : Int32 → SX → Prop} (R : cp_RR ic so oc am hg par cn tx st sl wi lk wk bw gd pc po) (hxo : ∀ t, t < 32 → xo t = nI (oc t)) {t : Nat} (ht : t < 32) (htip : tip < 24) (gt : gd tip = true)
    (H0 : ∀ r li' sp' sk', ¬ cp_AF ic so oc am hg par cn tx sl wi lk tip pc po t → r = 0 → post r (sb, nI tip, nI pc, qc, cp_A ic, cp_A so, wi, xo, cp_Bo sl, cp_A am, lk, cp_A st, cp_A par, wk, cp_A cn, cp_A tx, od, cp_A hg, bw, cp_Bo gd, ch, cp_A po, li', sp', qu, sk'))
    (H1 : ∀ r li' sp' sk', cp_AF ic so oc am hg par cn tx sl wi lk tip pc po t → r = 1 → post r (sb, nI tip, nI (pc + 1), qc, cp_A ic, cp_A so, wi, xo, cp_Bo sl, cp_A am, lk, cp_A st, cp_A par, wk, cp_A cn, cp_A tx, od, cp_A hg, bw, cp_Bo gd, ch, cp_A (cp_up po pc t), li', sp', qu, sk')) : wpX_addToPool post (sb, nI tip, nI pc, qc, cp_A ic, cp_A so, wi, xo, cp_Bo sl, cp_A am, lk, cp_A st, cp_A par, wk, cp_A cn, cp_A tx, od, cp_A hg, bw, cp_Bo gd, ch, cp_A po, li, sp, qu, sk) (nI t) := by
  have p8 := R.2.2.1
  have ct := R.2.1.2.2.2.1 tip htip gt
  refine pk_lt pc 8 (fun z => ?_) (fun z => H0 0 _ _ _ (fun y => by have := y.1; omega) rfl)
  refine cx_lc _ R.1 R.2.1.1 htip ct (cp_RT_hg R.2.1 htip ct) (fun li' sp' hl hs => Exists.intro (pc + 1) ?_)
  refine cx_ap21 R hxo ht htip gt z pc 0 li' sp' (by omega) (cp_Rp_iff hl ?_) (cp_Rp_iff hs ?_) H0 H1
  · intro j _
    exact ⟨Or.inl, fun z => z.elim id (fun ⟨k, hk, _⟩ => absurd hk (Nat.not_lt_zero _))⟩
  · intro j _
    exact ⟨Or.inl, fun z => z.elim id (fun ⟨k, hk, _⟩ => absurd hk (Nat.not_lt_zero _))⟩
end
