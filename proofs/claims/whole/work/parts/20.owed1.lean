/-! the relation, the first owed statements -/
def i_Rel (k : Nat) (u : SX) (v : SY) : Prop := ∃ (sb qc ys yn yw : Int32) (tip pc : Nat) (ic so oc am hg par cn tx st po : Nat → Nat) (sl gd : Nat → Bool) (wi lk wk bw od xo ch li sp qu sk yp yl yt ho yk yq yo : Nat → Int32), u = (sb, nI tip, nI pc, qc, cp_A ic, cp_A so, wi, xo, cp_Bo sl, cp_A am, lk, cp_A st, cp_A par, wk, cp_A cn, cp_A tx, od, cp_A hg, bw, cp_Bo gd, ch, cp_A po, li, sp, qu, sk) ∧ v = (ys, yn, yw, nI pc, nI tip, cp_A ic, cp_A (cp_hf so), cp_A (cp_hm so), wi, cp_A oc, cp_A am, lk, cp_Bo sl, cp_A (cp_ys st), cp_A par, wk, cp_A cn, cp_A tx, od, yp, yl, yt, ho, yk, cp_A po, yq, yo) ∧
  cp_RR ic so oc am hg par cn tx st sl wi lk wk bw gd pc po ∧ tip < 24 ∧ gd tip = true ∧ cp_RC hg par tip ch ∧ cp_RO par st ∧ sb = ys + 1 ∧ ∀ t, t < 32 → xo t = nI (oc t)
theorem i_up {k : Nat} {u : SX} {v : SY} (h : i_Rel k u v) : i_Rel (k + 5) u v := h
section
variable {sb qc ys yn yw : Int32} {tip pc : Nat} {ic so oc am hg par cn tx st po : Nat → Nat} {sl gd : Nat → Bool} {wi lk wk bw od xo ch li sp qu sk yp yl yt ho yk yq yo : Nat → Int32} {k : Nat}
theorem cp_mk (R : cp_RR ic so oc am hg par cn tx st sl wi lk wk bw gd pc po) (htip : tip < 24) (gt : gd tip = true) (RC : cp_RC hg par tip ch) (O : cp_RO par st) (hsb : sb = ys + 1) (hxo : ∀ t, t < 32 → xo t = nI (oc t)) : i_Rel k (sb, nI tip, nI pc, qc, cp_A ic, cp_A so, wi, xo, cp_Bo sl, cp_A am, lk, cp_A st, cp_A par, wk, cp_A cn, cp_A tx, od, cp_A hg, bw, cp_Bo gd, ch, cp_A po, li, sp, qu, sk) (ys, yn, yw, nI pc, nI tip, cp_A ic, cp_A (cp_hf so), cp_A (cp_hm so), wi, cp_A oc, cp_A am, lk, cp_Bo sl, cp_A (cp_ys st), cp_A par, wk, cp_A cn, cp_A tx, od, yp, yl, yt, ho, yk, cp_A po, yq, yo) :=
  ⟨sb, qc, ys, yn, yw, tip, pc, ic, so, oc, am, hg, par, cn, tx, st, po, sl, gd, wi, lk, wk, bw, od, xo, ch, li, sp, qu, sk, yp, yl, yt, ho, yk, yq, yo, rfl, rfl, R, htip, gt, RC, O, hsb, hxo⟩
theorem cp_RC_par {par' : Nat → Nat} (T : cp_Tr hg par st) (htip : tip < 24) (ct : st tip = 3) (h : ∀ c, c < 24 → st c = 3 → par' c = par c) (RC : cp_RC hg par tip ch) : cp_RC hg par' tip ch := by
  have f : cp_Fr (fun _ => 0) (fun _ => 0) (fun _ => 0) (fun _ => 0) hg par (fun _ => 0) (fun _ => 0) st (fun _ => false) (fun _ => 0) (fun _ => 0) (fun _ => 0) (fun _ => 0) (fun _ => 0) (fun _ => 0) hg par' (fun _ => 0) (fun _ => 0) st (fun _ => false) (fun _ => 0) (fun _ => 0) :=
    ⟨fun q hq s => ⟨s, rfl, fun _ _ => ⟨rfl, rfl⟩⟩, fun c hc cc => ⟨cc, h c hc cc, rfl, rfl, fun _ _ => rfl⟩, fun j _ => ⟨rfl, fun _ _ => ⟨rfl, rfl⟩⟩⟩
  intro i hi
  rw [cp_pt_fr T f (hg tip) tip htip ct rfl i hi]
  exact RC i hi
theorem cp_TFs {t : Nat} (ht : t < 32) : cp_TF (cp_Bo sl (nI t).toNatClampNeg) (sl t = true) := by
  rw [cp_rb sl (by omega)]
  exact cp_TF_b _
theorem cp_nt {b : Bool} (h : b = false) : ¬ b = true := fun e => by rw [h] at e; exact nomatch e
theorem cp_tn {b : Bool} (h : ¬ b = true) : b = false := by
  cases b
  · rfl
  · exact absurd rfl h
/-! input -/
theorem cy_in_r {post : Int32 → SY → Prop} {v1 v2 v3 v4 : Int32} (z : ¬ ((∃ t, t < 32 ∧ v1 = nI t ∧ sl t = false) ∧ (∃ f, f < 56 ∧ v2 = nI f) ∧ (∃ p, p < 2 ∧ v3 = nI p))) (H : post (-1) (ys, yn, yw, nI pc, nI tip, cp_A ic, cp_A (cp_hf so), cp_A (cp_hm so), wi, cp_A oc, cp_A am, lk, cp_Bo sl, cp_A (cp_ys st), cp_A par, wk, cp_A cn, cp_A tx, od, yp, yl, yt, ho, yk, cp_A po, yq, yo)) : wpY_input post (ys, yn, yw, nI pc, nI tip, cp_A ic, cp_A (cp_hf so), cp_A (cp_hm so), wi, cp_A oc, cp_A am, lk, cp_Bo sl, cp_A (cp_ys st), cp_A par, wk, cp_A cn, cp_A tx, od, yp, yl, yt, ho, yk, cp_A po, yq, yo) v1 v2 v3 v4 := by
  unfold wpY_input
  dsimp only
  refine cy_outb v1 0 31 (by decide) (by decide) (fun t h1 h2 e => br_t rfl (cy_outb v2 0 55 (by decide) (by decide) (fun f g1 g2 e2 => br_t rfl (cy_outb v3 0 1 (by decide) (by decide) (fun p q1 q2 e3 => br_t rfl ?_) (fun _ => br_f (by decide) H))) (fun _ => br_f (by decide) H))) (fun _ => br_f (by decide) H)
  subst e
  refine And.intro (vp_in_nI (by omega) (by decide)) (cp_TF_br (cp_TFs (by omega)) (fun w => absurd ⟨⟨t, by omega, rfl, cp_tn w⟩, ⟨f, by omega, e2⟩, ⟨p, by omega, e3⟩⟩ z) (fun _ => H))
theorem cy_in_k {post : Int32 → SY → Prop} {t f p : Nat} {w : Int32} (ht : t < 32) (ns : sl t = false) (hf : f < 56) (hp : p < 2) (hc : ic t ≤ 2) (H2 : ic t = 2 → post (-2) (ys, yn, yw, nI pc, nI tip, cp_A ic, cp_A (cp_hf so), cp_A (cp_hm so), wi, cp_A oc, cp_A am, lk, cp_Bo sl, cp_A (cp_ys st), cp_A par, wk, cp_A cn, cp_A tx, od, yp, yl, yt, ho, yk, cp_A po, yq, yo)) (H : ic t ≠ 2 → post (nI (ic t + 1)) (ys, yn, yw, nI pc, nI tip, cp_A (cp_up ic t (ic t + 1)), cp_A (cp_hf (cp_up so (2 * t + ic t) (2 * f + p))), cp_A (cp_hm (cp_up so (2 * t + ic t) (2 * f + p))), (cp_up wi (2 * t + ic t) w), cp_A oc, cp_A am, lk, cp_Bo sl, cp_A (cp_ys st), cp_A par, wk, cp_A cn, cp_A tx, od, yp, yl, yt, ho, yk, cp_A po, yq, yo)) : wpY_input post (ys, yn, yw, nI pc, nI tip, cp_A ic, cp_A (cp_hf so), cp_A (cp_hm so), wi, cp_A oc, cp_A am, lk, cp_Bo sl, cp_A (cp_ys st), cp_A par, wk, cp_A cn, cp_A tx, od, yp, yl, yt, ho, yk, cp_A po, yq, yo) (nI t) (nI f) (nI p) w := by
  have i32 : vp_in (nI t) 32 := vp_in_nI ht (by decide)
  have e : (2 : Int32) * nI t + cp_A ic (nI t).toNatClampNeg = nI (2 * t + ic t) := by
    rw [cp_rd ic (by omega), cp_2a]
  unfold wpY_input
  dsimp only
  refine cy_outb (nI t) 0 31 (by decide) (by decide) (fun _ _ _ _ => br_t rfl (cy_outb (nI f) 0 55 (by decide) (by decide) (fun _ _ _ _ => br_t rfl (cy_outb (nI p) 0 1 (by decide) (by decide) (fun _ _ _ _ => br_t rfl ?_) (fun z => absurd ⟨p, by omega, by omega, rfl⟩ z))) (fun z => absurd ⟨f, by omega, by omega, rfl⟩ z))) (fun z => absurd ⟨t, by omega, by omega, rfl⟩ z)
  refine And.intro i32 (cp_TF_br (cp_TFs ht) (fun _ => And.intro i32 (pk_eq (ic t) 2 (fun e2 => H2 e2) (fun n2 => ?_) (cp_rd ic (by omega)) rfl)) (fun w => absurd w (cp_nt ns)))
  have i64 : vp_in (nI (2 * t + ic t)) 64 := vp_in_nI (by omega) (by decide)
  refine And.intro i32 (nm_r e (And.intro i64 (nm_r (e' := cp_A (cp_hf (cp_up so (2 * t + ic t) (2 * f + p)))) ?_ (And.intro i64 (nm_r (e' := cp_A (cp_hm (cp_up so (2 * t + ic t) (2 * f + p)))) ?_ (And.intro i64 (nm_r (cp_ww wi w (by omega)) (And.intro i32 (And.intro i32 (nm_r (e' := cp_A (cp_up ic t (ic t + 1))) ?_ (And.intro i32 ?_)))))))))))
  · rw [cp_wr (cp_hf so) f (by omega), cp_hf_up so _ f p hp]
  · rw [cp_wr (cp_hm so) p (by omega), cp_hm_up so _ f p hp]
  · rw [cp_rd ic (by omega), nI_1, cp_wr ic _ (by omega)]
  · rw [cp_rd _ (by omega), cp_up_s]
    exact H n2
end
theorem i_vc_input {k : Nat} {u : SX} {v : SY} (I : i_Rel k u v) (hk : k + 5 ≤ 2560) (v1 : Int32) (v2 : Int32) (v3 : Int32) (v4 : Int32) : wpX_input (fun r u' => wpY_input (fun r' v' => r' = r ∧ i_Rel (k + 5) u' v') v v1 v2 v3 v4) u v1 v2 v3 v4 := by
  obtain ⟨sb, qc, ys, yn, yw, tip, pc, ic, so, oc, am, hg, par, cn, tx, st, po, sl, gd, wi, lk, wk, bw, od, xo, ch, li, sp, qu, sk, yp, yl, yt, ho, yk, yq, yo, rfl, rfl, R, htip, gt, RC, O, hsb, hxo⟩ := I
  have I' : i_Rel (k + 5) (sb, nI tip, nI pc, qc, cp_A ic, cp_A so, wi, xo, cp_Bo sl, cp_A am, lk, cp_A st, cp_A par, wk, cp_A cn, cp_A tx, od, cp_A hg, bw, cp_Bo gd, ch, cp_A po, li, sp, qu, sk) (ys, yn, yw, nI pc, nI tip, cp_A ic, cp_A (cp_hf so), cp_A (cp_hm so), wi, cp_A oc, cp_A am, lk, cp_Bo sl, cp_A (cp_ys st), cp_A par, wk, cp_A cn, cp_A tx, od, yp, yl, yt, ho, yk, cp_A po, yq, yo) := cp_mk R htip gt RC O hsb hxo
  unfold wpX_input
  dsimp only
  refine cx_isOp v1 (fun t ht e ns => br_f (by decide) (cx_isNm v2 v3 (fun f p hf hp e2 e3 => br_f (by decide) ?_) (fun z => br_t rfl (cy_in_r (fun w => z w.2) ⟨rfl, I'⟩)))) (fun z => br_t rfl (cy_in_r (fun w => z w.1) ⟨rfl, I'⟩))
  subst e e2 e3
  have c := cp_RB_ic R.1 t
  have i64 : ic t < 2 → vp_in ((2 : Int32) * nI t + nI (ic t)) 64 := fun z => pk_in (2 * t + ic t) 64 (by omega) (cp_2a t _)
  refine And.intro (vp_in_nI ht (by decide)) (nm_r (cp_rd ic (by omega)) (pk_lt (ic t) 2 (fun z => And.intro (i64 z) (nm_r (e' := cp_A (cp_up so (2 * t + ic t) (2 * f + p))) ?_ (And.intro (i64 z) (nm_r (e' := cp_up wi (2 * t + ic t) v4) ?_ (And.intro (vp_in_nI ht (by decide)) (nm_r (e' := cp_A (cp_up ic t (ic t + 1))) ?_ ?_)))))) (fun z => ?_)))
  · rw [cp_2a, cp_2a, cp_wr so _ (by omega)]
  · rw [cp_2a, cp_ww wi _ (by omega)]
  · rw [nI_1, cp_wr ic _ (by omega)]
  · exact cy_in_k ht ns hf hp c (fun e => by omega) (fun _ => ⟨(nI_1 _).symm, cp_mk (cp_s_in R ht ns z (by omega)) htip gt RC O hsb hxo⟩)
  · exact cy_in_k ht ns hf hp c (fun e => ⟨rfl, I'⟩) (fun n2 => by omega)
/-! output -/
section
variable {sb qc ys yn yw : Int32} {tip pc : Nat} {ic so oc am hg par cn tx st po : Nat → Nat} {sl gd : Nat → Bool} {wi lk wk bw od xo ch li sp qu sk yp yl yt ho yk yq yo : Nat → Int32} {k : Nat}
theorem cy_ou_r {post : Int32 → SY → Prop} {v1 v2 v3 : Int32} (z : ¬ ((∃ t, t < 32 ∧ v1 = nI t ∧ sl t = false) ∧ (∃ a, 1 ≤ a ∧ a ≤ 1000 ∧ v2 = nI a))) (H : post (-1) (ys, yn, yw, nI pc, nI tip, cp_A ic, cp_A (cp_hf so), cp_A (cp_hm so), wi, cp_A oc, cp_A am, lk, cp_Bo sl, cp_A (cp_ys st), cp_A par, wk, cp_A cn, cp_A tx, od, yp, yl, yt, ho, yk, cp_A po, yq, yo)) : wpY_output post (ys, yn, yw, nI pc, nI tip, cp_A ic, cp_A (cp_hf so), cp_A (cp_hm so), wi, cp_A oc, cp_A am, lk, cp_Bo sl, cp_A (cp_ys st), cp_A par, wk, cp_A cn, cp_A tx, od, yp, yl, yt, ho, yk, cp_A po, yq, yo) v1 v2 v3 := by
  unfold wpY_output
  dsimp only
  refine cy_outb v1 0 31 (by decide) (by decide) (fun t h1 h2 e => br_t rfl (cy_outb v2 1 1000 (by decide) (by decide) (fun f g1 g2 e2 => br_t rfl ?_) (fun _ => br_f (by decide) H))) (fun _ => br_f (by decide) H)
  subst e
  refine And.intro (vp_in_nI (by omega) (by decide)) (cp_TF_br (cp_TFs (by omega)) (fun w => absurd ⟨⟨t, by omega, rfl, cp_tn w⟩, ⟨f, g1, g2, e2⟩⟩ z) (fun _ => H))
theorem cy_ou_k {post : Int32 → SY → Prop} {t a : Nat} {l : Int32} (ht : t < 32) (ns : sl t = false) (h1 : 1 ≤ a) (h2 : a ≤ 1000) (hc : oc t ≤ 2) (H2 : oc t = 2 → post (-2) (ys, yn, yw, nI pc, nI tip, cp_A ic, cp_A (cp_hf so), cp_A (cp_hm so), wi, cp_A oc, cp_A am, lk, cp_Bo sl, cp_A (cp_ys st), cp_A par, wk, cp_A cn, cp_A tx, od, yp, yl, yt, ho, yk, cp_A po, yq, yo)) (H : oc t ≠ 2 → post (nI (oc t + 1)) (ys, yn, yw, nI pc, nI tip, cp_A ic, cp_A (cp_hf so), cp_A (cp_hm so), wi, cp_A (cp_up oc t (oc t + 1)), cp_A (cp_up am (2 * t + oc t) a), (cp_up lk (2 * t + oc t) l), cp_Bo sl, cp_A (cp_ys st), cp_A par, wk, cp_A cn, cp_A tx, od, yp, yl, yt, ho, yk, cp_A po, yq, yo)) : wpY_output post (ys, yn, yw, nI pc, nI tip, cp_A ic, cp_A (cp_hf so), cp_A (cp_hm so), wi, cp_A oc, cp_A am, lk, cp_Bo sl, cp_A (cp_ys st), cp_A par, wk, cp_A cn, cp_A tx, od, yp, yl, yt, ho, yk, cp_A po, yq, yo) (nI t) (nI a) l := by
  have i32 : vp_in (nI t) 32 := vp_in_nI ht (by decide)
  have i56 : vp_in (nI t) 56 := vp_in_nI (by omega) (by decide)
  have e : (2 : Int32) * nI t + cp_A oc (nI t).toNatClampNeg = nI (2 * t + oc t) := by
    rw [cp_rd oc (by omega), cp_2a]
  unfold wpY_output
  dsimp only
  refine cy_outb (nI t) 0 31 (by decide) (by decide) (fun _ _ _ _ => br_t rfl (cy_outb (nI a) 1 1000 (by decide) (by decide) (fun _ _ _ _ => br_t rfl ?_) (fun z => absurd ⟨a, h1, h2, rfl⟩ z))) (fun z => absurd ⟨t, by omega, by omega, rfl⟩ z)
  refine And.intro i32 (cp_TF_br (cp_TFs ht) (fun _ => And.intro i56 (pk_eq (oc t) 2 (fun e2 => H2 e2) (fun n2 => ?_) (cp_rd oc (by omega)) rfl)) (fun w => absurd w (cp_nt ns)))
  have i112 : vp_in (nI (2 * t + oc t)) 112 := vp_in_nI (by omega) (by decide)
  refine And.intro i56 (nm_r e (And.intro i112 (nm_r (cp_wr am a (by omega)) (And.intro i112 (nm_r (cp_ww lk l (by omega)) (And.intro i56 (And.intro i56 (nm_r (e' := cp_A (cp_up oc t (oc t + 1))) ?_ (And.intro i56 ?_)))))))))
  · rw [cp_rd oc (by omega), nI_1, cp_wr oc _ (by omega)]
  · rw [cp_rd _ (by omega), cp_up_s]
    exact H n2
end
theorem i_vc_output {k : Nat} {u : SX} {v : SY} (I : i_Rel k u v) (hk : k + 5 ≤ 2560) (v1 : Int32) (v2 : Int32) (v3 : Int32) : wpX_output (fun r u' => wpY_output (fun r' v' => r' = r ∧ i_Rel (k + 5) u' v') v v1 v2 v3) u v1 v2 v3 := by
  obtain ⟨sb, qc, ys, yn, yw, tip, pc, ic, so, oc, am, hg, par, cn, tx, st, po, sl, gd, wi, lk, wk, bw, od, xo, ch, li, sp, qu, sk, yp, yl, yt, ho, yk, yq, yo, rfl, rfl, R, htip, gt, RC, O, hsb, hxo⟩ := I
  have I' : i_Rel (k + 5) (sb, nI tip, nI pc, qc, cp_A ic, cp_A so, wi, xo, cp_Bo sl, cp_A am, lk, cp_A st, cp_A par, wk, cp_A cn, cp_A tx, od, cp_A hg, bw, cp_Bo gd, ch, cp_A po, li, sp, qu, sk) (ys, yn, yw, nI pc, nI tip, cp_A ic, cp_A (cp_hf so), cp_A (cp_hm so), wi, cp_A oc, cp_A am, lk, cp_Bo sl, cp_A (cp_ys st), cp_A par, wk, cp_A cn, cp_A tx, od, yp, yl, yt, ho, yk, cp_A po, yq, yo) := cp_mk R htip gt RC O hsb hxo
  unfold wpX_output
  dsimp only
  refine cx_isOp v1 (fun t ht e ns => br_f (by decide) (cx_isAm v2 (fun a h1 h2 e2 => br_f (by decide) ?_) (fun z => br_t rfl (cy_ou_r (fun w => z w.2) ⟨rfl, I'⟩)))) (fun z => br_t rfl (cy_ou_r (fun w => z w.1) ⟨rfl, I'⟩))
  subst e e2
  have c := cp_RB_oc R.1 t
  have e0 : xo (nI t).toNatClampNeg = nI (oc t) := by
    rw [nI_clamp (by omega)]
    exact hxo t ht
  have i112 : oc t < 2 → vp_in ((2 : Int32) * nI t + nI (oc t)) 112 := fun z => pk_in (2 * t + oc t) 112 (by omega) (cp_2a t _)
  refine And.intro (vp_in_nI ht (by decide)) (nm_r e0 (pk_lt (oc t) 2 (fun z => And.intro (i112 z) (nm_r (e' := cp_A (cp_up am (2 * t + oc t) a)) ?_ (And.intro (i112 z) (nm_r (e' := cp_up lk (2 * t + oc t) v3) ?_ (And.intro (vp_in_nI ht (by decide)) (nm_r (e' := cp_up xo t (nI (oc t + 1))) ?_ ?_)))))) (fun z => ?_)))
  · rw [cp_2a, cp_wr am _ (by omega)]
  · rw [cp_2a, cp_ww lk _ (by omega)]
  · rw [nI_1, cp_ww xo _ (by omega)]
  · refine cy_ou_k ht ns h1 h2 c (fun e => by omega) (fun _ => ⟨(nI_1 _).symm, cp_mk (cp_s_out R ht ns z h1 h2) htip gt RC O hsb ?_⟩)
    intro q hq
    by_cases e : q = t
    · rw [e, cp_up_s, cp_up_s]
    · rw [cp_up_n e, cp_up_n e]
      exact hxo q hq
  · exact cy_ou_k ht ns h1 h2 c (fun e => ⟨rfl, I'⟩) (fun n2 => by omega)
/-! seal -/
section
variable {sb qc ys yn yw : Int32} {tip pc : Nat} {ic so oc am hg par cn tx st po : Nat → Nat} {sl gd : Nat → Bool} {wi lk wk bw od xo ch li sp qu sk yp yl yt ho yk yq yo : Nat → Int32} {k : Nat}
theorem cy_se_r {post : Int32 → SY → Prop} {v1 : Int32} (z : ¬ (∃ t, t < 32 ∧ v1 = nI t ∧ sl t = false)) (H : post (-1) (ys, yn, yw, nI pc, nI tip, cp_A ic, cp_A (cp_hf so), cp_A (cp_hm so), wi, cp_A oc, cp_A am, lk, cp_Bo sl, cp_A (cp_ys st), cp_A par, wk, cp_A cn, cp_A tx, od, yp, yl, yt, ho, yk, cp_A po, yq, yo)) : wpY_seal post (ys, yn, yw, nI pc, nI tip, cp_A ic, cp_A (cp_hf so), cp_A (cp_hm so), wi, cp_A oc, cp_A am, lk, cp_Bo sl, cp_A (cp_ys st), cp_A par, wk, cp_A cn, cp_A tx, od, yp, yl, yt, ho, yk, cp_A po, yq, yo) v1 := by
  unfold wpY_seal
  dsimp only
  refine cy_outb v1 0 31 (by decide) (by decide) (fun t h1 h2 e => br_t rfl ?_) (fun _ => br_f (by decide) H)
  subst e
  refine And.intro (vp_in_nI (by omega) (by decide)) (cp_TF_br (cp_TFs (by omega)) (fun w => absurd ⟨t, by omega, rfl, cp_tn w⟩ z) (fun _ => H))
theorem cy_se_k {post : Int32 → SY → Prop} {t : Nat} (ht : t < 32) (ns : sl t = false) (H : post (nI (ic t) + nI (oc t)) (ys, yn, yw, nI pc, nI tip, cp_A ic, cp_A (cp_hf so), cp_A (cp_hm so), wi, cp_A oc, cp_A am, lk, cp_Bo (cp_up sl t true), cp_A (cp_ys st), cp_A par, wk, cp_A cn, cp_A tx, od, yp, yl, yt, ho, yk, cp_A po, yq, yo)) : wpY_seal post (ys, yn, yw, nI pc, nI tip, cp_A ic, cp_A (cp_hf so), cp_A (cp_hm so), wi, cp_A oc, cp_A am, lk, cp_Bo sl, cp_A (cp_ys st), cp_A par, wk, cp_A cn, cp_A tx, od, yp, yl, yt, ho, yk, cp_A po, yq, yo) (nI t) := by
  have i32 : vp_in (nI t) 32 := vp_in_nI ht (by decide)
  unfold wpY_seal
  dsimp only
  refine cy_outb (nI t) 0 31 (by decide) (by decide) (fun _ _ _ _ => br_t rfl ?_) (fun z => absurd ⟨t, by omega, by omega, rfl⟩ z)
  refine And.intro i32 (cp_TF_br (cp_TFs ht) (fun _ => And.intro i32 (nm_r (cp_wb sl true (by omega)) (And.intro i32 (And.intro (vp_in_nI (by omega) (by decide)) ?_)))) (fun w => absurd w (cp_nt ns)))
  rw [cp_rd ic (by omega), cp_rd oc (by omega)]
  exact H
end
theorem i_vc_seal {k : Nat} {u : SX} {v : SY} (I : i_Rel k u v) (hk : k + 5 ≤ 2560) (v1 : Int32) : wpX_seal (fun r u' => wpY_seal (fun r' v' => r' = r ∧ i_Rel (k + 5) u' v') v v1) u v1 := by
  obtain ⟨sb, qc, ys, yn, yw, tip, pc, ic, so, oc, am, hg, par, cn, tx, st, po, sl, gd, wi, lk, wk, bw, od, xo, ch, li, sp, qu, sk, yp, yl, yt, ho, yk, yq, yo, rfl, rfl, R, htip, gt, RC, O, hsb, hxo⟩ := I
  have I' : i_Rel (k + 5) (sb, nI tip, nI pc, qc, cp_A ic, cp_A so, wi, xo, cp_Bo sl, cp_A am, lk, cp_A st, cp_A par, wk, cp_A cn, cp_A tx, od, cp_A hg, bw, cp_Bo gd, ch, cp_A po, li, sp, qu, sk) (ys, yn, yw, nI pc, nI tip, cp_A ic, cp_A (cp_hf so), cp_A (cp_hm so), wi, cp_A oc, cp_A am, lk, cp_Bo sl, cp_A (cp_ys st), cp_A par, wk, cp_A cn, cp_A tx, od, yp, yl, yt, ho, yk, cp_A po, yq, yo) := cp_mk R htip gt RC O hsb hxo
  unfold wpX_seal
  dsimp only
  refine cx_isOp v1 (fun t ht e ns => br_f (by decide) ?_) (fun z => br_t rfl (cy_se_r z ⟨rfl, I'⟩))
  subst e
  have i32 : vp_in (nI t) 32 := vp_in_nI ht (by decide)
  refine And.intro i32 (nm_r (cp_wb sl true (by omega)) (And.intro i32 (And.intro i32 (cy_se_k ht ns ⟨?_, cp_mk (cp_s_seal R t) htip gt RC O hsb hxo⟩))))
  rw [cp_rd ic (by omega), nI_clamp (by omega), hxo t ht]
/-! offer -/
section
variable {sb qc ys yn yw : Int32} {tip pc : Nat} {ic so oc am hg par cn tx st po : Nat → Nat} {sl gd : Nat → Bool} {wi lk wk bw od xo ch li sp qu sk yp yl yt ho yk yq yo : Nat → Int32} {k : Nat}
theorem cy_of_r {post : Int32 → SY → Prop} {v1 : Int32} (z : ¬ (∃ t, t < 32 ∧ v1 = nI t)) (H : post 0 (ys, yn, yw, nI pc, nI tip, cp_A ic, cp_A (cp_hf so), cp_A (cp_hm so), wi, cp_A oc, cp_A am, lk, cp_Bo sl, cp_A (cp_ys st), cp_A par, wk, cp_A cn, cp_A tx, od, yp, yl, yt, ho, yk, cp_A po, yq, yo)) : wpY_offer post (ys, yn, yw, nI pc, nI tip, cp_A ic, cp_A (cp_hf so), cp_A (cp_hm so), wi, cp_A oc, cp_A am, lk, cp_Bo sl, cp_A (cp_ys st), cp_A par, wk, cp_A cn, cp_A tx, od, yp, yl, yt, ho, yk, cp_A po, yq, yo) v1 := by
  unfold wpY_offer
  dsimp only
  exact cy_outb v1 0 31 (by decide) (by decide) (fun t h1 h2 e => absurd ⟨t, by omega, e⟩ z) (fun _ => br_f (by decide) H)
end
theorem i_vc_offer {k : Nat} {u : SX} {v : SY} (I : i_Rel k u v) (hk : k + 5 ≤ 2560) (v1 : Int32) : wpX_offer (fun r u' => wpY_offer (fun r' v' => r' = r ∧ i_Rel (k + 5) u' v') v v1) u v1 := by
  obtain ⟨sb, qc, ys, yn, yw, tip, pc, ic, so, oc, am, hg, par, cn, tx, st, po, sl, gd, wi, lk, wk, bw, od, xo, ch, li, sp, qu, sk, yp, yl, yt, ho, yk, yq, yo, rfl, rfl, R, htip, gt, RC, O, hsb, hxo⟩ := I
  unfold wpX_offer
  dsimp only
  refine cx_isTb v1 (fun t ht e => br_f (by decide) ?_) (fun z => br_t rfl (cy_of_r z ⟨rfl, cp_mk R htip gt RC O hsb hxo⟩))
  subst e
  refine cx_ap R hxo ht htip gt (fun r li' sp' sk' h0 e => br_t e ?_) (fun r li' sp' sk' h1 e => br_f (by rw [e]; decide) ?_)
  · exact cy_off R ht htip gt (fun yn yw yp yl yt ho yk _ => ⟨rfl, cp_mk R htip gt RC O hsb hxo⟩) (fun yn yw yp yl yt ho yk h1 => absurd h1 h0)
  · exact cy_off R ht htip gt (fun yn yw yp yl yt ho yk h0 => absurd h1 h0) (fun yn yw yp yl yt ho yk h1 => ⟨rfl, cp_mk (cp_ad_RR R htip gt ht h1) htip gt RC O hsb hxo⟩)
