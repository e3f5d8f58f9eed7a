/-! block, include, reward -/
section
variable {sb qc ys yn yw : Int32} {tip pc : Nat} {ic so oc am hg par cn tx st po : Nat → Nat} {sl gd : Nat → Bool} {wi lk wk bw od xo ch li sp qu sk yp yl yt ho yk yq yo : Nat → Int32} {k : Nat}
theorem cp_ysE (B : cp_RB ic so oc am hg par cn tx st sl wi lk) (b : Nat) : cp_A (cp_ys st) b = nI (cp_ys st b) := rfl
theorem cp_ys2 {b : Nat} (h : st b ≤ 1) : cp_ys st b ≠ 2 := by
  rw [cp_ysn (by omega)]
  omega
theorem cp_ys2' (B : cp_RB ic so oc am hg par cn tx st sl wi lk) {b : Nat} (h : cp_ys st b ≠ 2) : st b ≤ 1 := by
  have s := cp_RB_st B b
  by_cases e : st b = 3
  · exact absurd (cp_ys3 e) h
  · rw [cp_ysn e] at h
    omega
theorem cp_ys1 {b : Nat} : cp_ys st b = 1 ↔ st b = 1 := by
  by_cases e : st b = 3
  · rw [cp_ys3 e]
    omega
  · rw [cp_ysn e]
theorem cy_bl_r {post : Int32 → SY → Prop} (B : cp_RB ic so oc am hg par cn tx st sl wi lk) {v1 v2 v3 : Int32} (z : ¬ ((∃ b, 1 ≤ b ∧ b < 24 ∧ v1 = nI b ∧ st b ≤ 1) ∧ (∃ w, 1 ≤ w ∧ w ≤ 15 ∧ v3 = nI w) ∧ (∃ p, p < 24 ∧ v2 = nI p) ∧ ¬ v2 = v1)) (H : post (-1) (ys, yn, yw, nI pc, nI tip, cp_A ic, cp_A (cp_hf so), cp_A (cp_hm so), wi, cp_A oc, cp_A am, lk, cp_Bo sl, cp_A (cp_ys st), cp_A par, wk, cp_A cn, cp_A tx, od, yp, yl, yt, ho, yk, cp_A po, yq, yo)) : wpY_block post (ys, yn, yw, nI pc, nI tip, cp_A ic, cp_A (cp_hf so), cp_A (cp_hm so), wi, cp_A oc, cp_A am, lk, cp_Bo sl, cp_A (cp_ys st), cp_A par, wk, cp_A cn, cp_A tx, od, yp, yl, yt, ho, yk, cp_A po, yq, yo) v1 v2 v3 := by
  unfold wpY_block
  dsimp only
  refine cy_outb v1 1 23 (by decide) (by decide) (fun b h1 h2 e => br_t rfl (cy_outb v2 0 23 (by decide) (by decide) (fun p g1 g2 e2 => br_t rfl (br_c (fun _ => H) (fun ne => cy_outb v3 1 15 (by decide) (by decide) (fun w q1 q2 e3 => br_t rfl ?_) (fun _ => br_f (by decide) H)))) (fun _ => br_f (by decide) H))) (fun _ => br_f (by decide) H)
  subst e
  have s := cp_ys_le B b
  exact And.intro (vp_in_nI (by omega) (by decide)) (pk_eq (cp_ys st b) 2 (fun _ => H) (fun n2 => absurd ⟨⟨b, h1, by omega, rfl, cp_ys2' B n2⟩, ⟨w, q1, q2, e3⟩, ⟨p, by omega, e2⟩, ne⟩ z) (cp_rd (cp_ys st) (by omega)) rfl)
theorem cy_bl_k {post : Int32 → SY → Prop} {b p w : Nat} (h1 : 1 ≤ b) (h2 : b < 24) (hs : st b ≤ 1) (hp : p < 24) (ne : ¬ nI p = nI b) (w1 : 1 ≤ w) (w2 : w ≤ 15) (H : post 1 (ys, yn, yw, nI pc, nI tip, cp_A ic, cp_A (cp_hf so), cp_A (cp_hm so), wi, cp_A (cp_up oc (32 + b) 1), cp_A (cp_up am (64 + 2 * b) 50), (cp_up lk (64 + 2 * b) 1), cp_Bo sl, cp_A (cp_ys (cp_up st b 1)), cp_A (cp_up par b p), (cp_up wk b (nI w)), cp_A (cp_up cn b 0), cp_A tx, od, yp, yl, yt, ho, yk, cp_A po, yq, yo)) : wpY_block post (ys, yn, yw, nI pc, nI tip, cp_A ic, cp_A (cp_hf so), cp_A (cp_hm so), wi, cp_A oc, cp_A am, lk, cp_Bo sl, cp_A (cp_ys st), cp_A par, wk, cp_A cn, cp_A tx, od, yp, yl, yt, ho, yk, cp_A po, yq, yo) (nI b) (nI p) (nI w) := by
  unfold wpY_block
  dsimp only
  refine cy_outb (nI b) 1 23 (by decide) (by decide) (fun _ _ _ _ => br_t rfl (cy_outb (nI p) 0 23 (by decide) (by decide) (fun _ _ _ _ => br_t rfl (br_f ne (cy_outb (nI w) 1 15 (by decide) (by decide) (fun _ _ _ _ => br_t rfl ?_) (fun z => absurd ⟨w, w1, w2, rfl⟩ z)))) (fun z => absurd ⟨p, by omega, by omega, rfl⟩ z))) (fun z => absurd ⟨b, h1, by omega, rfl⟩ z)
  have n2 := cp_ys2 hs
  have e2 := cp_ysn (st := st) (c := b) (by omega)
  exact And.intro (vp_in_nI h2 (by decide)) (pk_eq (cp_ys st b) 2 (fun e => absurd e n2) (fun _ => cy_dr h2 H) (cp_rd (cp_ys st) (by omega)) rfl)
theorem cp_RO_dr {b p : Nat} (O : cp_RO par st) : cp_RO (cp_up par b p) (cp_up st b 1) := by
  intro c h1 h2 hs
  by_cases e : c = b
  · rw [e, cp_up_s] at hs
    exact nomatch hs
  · rw [cp_up_n e] at hs
    rw [cp_up_n e]
    by_cases e2 : par c = b
    · rw [e2, cp_up_s]
      decide
    · rw [cp_up_n e2]
      exact O c h1 h2 hs
theorem cp_xo_dr {b : Nat} (hxo : ∀ t, t < 32 → xo t = nI (oc t)) : ∀ t, t < 32 → xo t = nI (cp_up oc (32 + b) 1 t) := by
  intro t ht
  rw [cp_up_n (by omega)]
  exact hxo t ht
theorem cp_RC_dr {b p : Nat} (T : cp_Tr hg par st) (htip : tip < 24) (ct : st tip = 3) (hs : st b ≤ 1) (RC : cp_RC hg par tip ch) : cp_RC hg (cp_up par b p) tip ch := by
  refine cp_RC_par T htip ct (fun c hc cc => cp_up_n ?_) RC
  intro e
  rw [e] at cc
  omega
theorem cy_ic_r {post : Int32 → SY → Prop} (B : cp_RB ic so oc am hg par cn tx st sl wi lk) {v1 v2 : Int32} (z : ¬ ((∃ b, 1 ≤ b ∧ b < 24 ∧ v1 = nI b ∧ st b = 1) ∧ (∃ t, t < 32 ∧ v2 = nI t ∧ sl t = true))) (H : post (-1) (ys, yn, yw, nI pc, nI tip, cp_A ic, cp_A (cp_hf so), cp_A (cp_hm so), wi, cp_A oc, cp_A am, lk, cp_Bo sl, cp_A (cp_ys st), cp_A par, wk, cp_A cn, cp_A tx, od, yp, yl, yt, ho, yk, cp_A po, yq, yo)) : wpY_include post (ys, yn, yw, nI pc, nI tip, cp_A ic, cp_A (cp_hf so), cp_A (cp_hm so), wi, cp_A oc, cp_A am, lk, cp_Bo sl, cp_A (cp_ys st), cp_A par, wk, cp_A cn, cp_A tx, od, yp, yl, yt, ho, yk, cp_A po, yq, yo) v1 v2 := by
  unfold wpY_include
  dsimp only
  refine cy_outb v1 1 23 (by decide) (by decide) (fun b h1 h2 e => br_t rfl (cy_outb v2 0 31 (by decide) (by decide) (fun t g1 g2 e2 => br_t rfl ?_) (fun _ => br_f (by decide) H))) (fun _ => br_f (by decide) H)
  subst e
  subst e2
  have s := cp_ys_le B b
  exact And.intro (vp_in_nI (by omega) (by decide)) (pk_eq (cp_ys st b) 1 (fun e => And.intro (vp_in_nI (by omega) (by decide)) (cp_TF_br (cp_TFs (by omega)) (fun _ => H) (fun w => absurd ⟨⟨b, h1, by omega, rfl, cp_ys1.mp e⟩, ⟨t, by omega, rfl, w⟩⟩ z))) (fun _ => H) (cp_rd (cp_ys st) (by omega)) rfl)
theorem cy_ic_k {post : Int32 → SY → Prop} {b t : Nat} (h1 : 1 ≤ b) (h2 : b < 24) (hs : st b = 1) (ht : t < 32) (hsl : sl t = true) (hc : cn b ≤ 3) (H3 : cn b = 3 → post (-2) (ys, yn, yw, nI pc, nI tip, cp_A ic, cp_A (cp_hf so), cp_A (cp_hm so), wi, cp_A oc, cp_A am, lk, cp_Bo sl, cp_A (cp_ys st), cp_A par, wk, cp_A cn, cp_A tx, od, yp, yl, yt, ho, yk, cp_A po, yq, yo)) (H : cn b ≠ 3 → post (nI (cn b + 1)) (ys, yn, yw, nI pc, nI tip, cp_A ic, cp_A (cp_hf so), cp_A (cp_hm so), wi, cp_A oc, cp_A am, lk, cp_Bo sl, cp_A (cp_ys st), cp_A par, wk, cp_A (cp_up cn b (cn b + 1)), cp_A (cp_up tx (3 * b + cn b) t), od, yp, yl, yt, ho, yk, cp_A po, yq, yo)) : wpY_include post (ys, yn, yw, nI pc, nI tip, cp_A ic, cp_A (cp_hf so), cp_A (cp_hm so), wi, cp_A oc, cp_A am, lk, cp_Bo sl, cp_A (cp_ys st), cp_A par, wk, cp_A cn, cp_A tx, od, yp, yl, yt, ho, yk, cp_A po, yq, yo) (nI b) (nI t) := by
  have ib : vp_in (nI b) 24 := vp_in_nI h2 (by decide)
  have e1 : cp_ys st b = 1 := cp_ys1.mpr hs
  have e : (3 : Int32) * nI b + cp_A cn (nI b).toNatClampNeg = nI (3 * b + cn b) := by
    rw [cp_rd cn (by omega), cp_3a]
  unfold wpY_include
  dsimp only
  refine cy_outb (nI b) 1 23 (by decide) (by decide) (fun _ _ _ _ => br_t rfl (cy_outb (nI t) 0 31 (by decide) (by decide) (fun _ _ _ _ => br_t rfl ?_) (fun z => absurd ⟨t, by omega, by omega, rfl⟩ z))) (fun z => absurd ⟨b, h1, by omega, rfl⟩ z)
  refine And.intro ib (pk_eq (cp_ys st b) 1 (fun _ => And.intro (vp_in_nI ht (by decide)) (cp_TF_br (cp_TFs ht) (fun w => absurd hsl w) (fun _ => And.intro ib (pk_eq (cn b) 3 (fun e3 => H3 e3) (fun n3 => ?_) (cp_rd cn (by omega)) rfl)))) (fun w => absurd e1 w) (cp_rd (cp_ys st) (by omega)) rfl)
  refine And.intro ib (And.intro (pk_in (3 * b + cn b) 72 (by omega) e) (nm_r (e' := cp_A (cp_up tx (3 * b + cn b) t)) (by rw [e, cp_wr tx t (by omega)]) (And.intro ib (And.intro ib (nm_r (e' := cp_A (cp_up cn b (cn b + 1))) (by rw [cp_rd cn (by omega), nI_1, cp_wr cn _ (by omega)]) (And.intro ib ?_))))))
  rw [cp_rd _ (by omega), cp_up_s]
  exact H n3
theorem cy_rw_r {post : Int32 → SY → Prop} (B : cp_RB ic so oc am hg par cn tx st sl wi lk) {v1 v2 v3 : Int32} (z : ¬ ((∃ b, 1 ≤ b ∧ b < 24 ∧ v1 = nI b ∧ st b = 1) ∧ (∃ a, 1 ≤ a ∧ a ≤ 1000 ∧ v2 = nI a))) (H : post (-1) (ys, yn, yw, nI pc, nI tip, cp_A ic, cp_A (cp_hf so), cp_A (cp_hm so), wi, cp_A oc, cp_A am, lk, cp_Bo sl, cp_A (cp_ys st), cp_A par, wk, cp_A cn, cp_A tx, od, yp, yl, yt, ho, yk, cp_A po, yq, yo)) : wpY_reward post (ys, yn, yw, nI pc, nI tip, cp_A ic, cp_A (cp_hf so), cp_A (cp_hm so), wi, cp_A oc, cp_A am, lk, cp_Bo sl, cp_A (cp_ys st), cp_A par, wk, cp_A cn, cp_A tx, od, yp, yl, yt, ho, yk, cp_A po, yq, yo) v1 v2 v3 := by
  unfold wpY_reward
  dsimp only
  refine cy_outb v1 1 23 (by decide) (by decide) (fun b h1 h2 e => br_t rfl (cy_outb v2 1 1000 (by decide) (by decide) (fun t g1 g2 e2 => br_t rfl ?_) (fun _ => br_f (by decide) H))) (fun _ => br_f (by decide) H)
  subst e
  subst e2
  have s := cp_ys_le B b
  exact And.intro (vp_in_nI (by omega) (by decide)) (pk_eq (cp_ys st b) 1 (fun e => absurd ⟨⟨b, h1, by omega, rfl, cp_ys1.mp e⟩, ⟨t, g1, g2, rfl⟩⟩ z) (fun _ => H) (cp_rd (cp_ys st) (by omega)) rfl)
theorem cy_rw_k {post : Int32 → SY → Prop} {b a : Nat} {l : Int32} (h1 : 1 ≤ b) (h2 : b < 24) (hs : st b = 1) (a1 : 1 ≤ a) (a2 : a ≤ 1000) (H : post 1 (ys, yn, yw, nI pc, nI tip, cp_A ic, cp_A (cp_hf so), cp_A (cp_hm so), wi, cp_A oc, cp_A (cp_up am (64 + 2 * b) a), (cp_up lk (64 + 2 * b) l), cp_Bo sl, cp_A (cp_ys st), cp_A par, wk, cp_A cn, cp_A tx, od, yp, yl, yt, ho, yk, cp_A po, yq, yo)) : wpY_reward post (ys, yn, yw, nI pc, nI tip, cp_A ic, cp_A (cp_hf so), cp_A (cp_hm so), wi, cp_A oc, cp_A am, lk, cp_Bo sl, cp_A (cp_ys st), cp_A par, wk, cp_A cn, cp_A tx, od, yp, yl, yt, ho, yk, cp_A po, yq, yo) (nI b) (nI a) l := by
  have e1 : cp_ys st b = 1 := cp_ys1.mpr hs
  have e := cp_64 b
  have i : vp_in ((64 : Int32) + (2 : Int32) * nI b) 112 := pk_in (64 + 2 * b) 112 (by omega) e
  unfold wpY_reward
  dsimp only
  refine cy_outb (nI b) 1 23 (by decide) (by decide) (fun _ _ _ _ => br_t rfl (cy_outb (nI a) 1 1000 (by decide) (by decide) (fun _ _ _ _ => br_t rfl ?_) (fun z => absurd ⟨a, a1, a2, rfl⟩ z))) (fun z => absurd ⟨b, h1, by omega, rfl⟩ z)
  exact And.intro (vp_in_nI h2 (by decide)) (pk_eq (cp_ys st b) 1 (fun _ => And.intro i (nm_r (e' := cp_A (cp_up am (64 + 2 * b) a)) (by rw [e, cp_wr am a (by omega)]) (And.intro i (nm_r (e' := cp_up lk (64 + 2 * b) l) (by rw [e, cp_ww lk l (by omega)]) H)))) (fun w => absurd e1 w) (cp_rd (cp_ys st) (by omega)) rfl)
end
theorem i_vc_block {k : Nat} {u : SX} {v : SY} (I : i_Rel k u v) (hk : k + 5 ≤ 2560) (v1 : Int32) (v2 : Int32) (v3 : Int32) : wpX_block (fun r u' => wpY_block (fun r' v' => r' = r ∧ i_Rel (k + 5) u' v') v v1 v2 v3) u v1 v2 v3 := by
  obtain ⟨sb, qc, ys, yn, yw, tip, pc, ic, so, oc, am, hg, par, cn, tx, st, po, sl, gd, wi, lk, wk, bw, od, xo, ch, li, sp, qu, sk, yp, yl, yt, ho, yk, yq, yo, rfl, rfl, R, htip, gt, RC, O, hsb, hxo⟩ := I
  have I' : i_Rel (k + 5) (sb, nI tip, nI pc, qc, cp_A ic, cp_A so, wi, xo, cp_Bo sl, cp_A am, lk, cp_A st, cp_A par, wk, cp_A cn, cp_A tx, od, cp_A hg, bw, cp_Bo gd, ch, cp_A po, li, sp, qu, sk) (ys, yn, yw, nI pc, nI tip, cp_A ic, cp_A (cp_hf so), cp_A (cp_hm so), wi, cp_A oc, cp_A am, lk, cp_Bo sl, cp_A (cp_ys st), cp_A par, wk, cp_A cn, cp_A tx, od, yp, yl, yt, ho, yk, cp_A po, yq, yo) := cp_mk R htip gt RC O hsb hxo
  have ct := R.2.1.2.2.2.1 tip htip gt
  unfold wpX_block
  dsimp only
  refine cx_isUn R.1 v1 (fun b h1 h2 e hs => br_f (by decide) (cx_isWk v3 (fun w w1 w2 e3 => br_f (by decide) ?_) (fun z => br_t rfl (cy_bl_r R.1 (fun w => z w.2.1) ⟨rfl, I'⟩)))) (fun z => br_t rfl (cy_bl_r R.1 (fun w => z w.1) ⟨rfl, I'⟩))
  rcases cp_rng v2 (n := 24) (by decide) with ⟨a, c⟩ | ⟨a, c, d⟩ | ⟨a, c, p, hp, e2⟩
  · exact br_t a (cy_bl_r R.1 (fun w => c w.2.2.1) ⟨rfl, I'⟩)
  · exact br_f a (br_t c (cy_bl_r R.1 (fun w => d w.2.2.1) ⟨rfl, I'⟩))
  · refine br_f a (br_f c (br_c (fun eq => cy_bl_r R.1 (fun w => w.2.2.2 eq) ⟨rfl, I'⟩) (fun ne => ?_)))
    subst e e2 e3
    exact cx_dr h2 (cy_bl_k h1 h2 hs hp ne w1 w2 ⟨rfl, cp_mk (cp_s_draft R h2 hs hp) htip gt (cp_RC_dr R.2.1.1 htip ct hs RC) (cp_RO_dr O) hsb (cp_xo_dr hxo)⟩)
theorem i_vc_include {k : Nat} {u : SX} {v : SY} (I : i_Rel k u v) (hk : k + 5 ≤ 2560) (v1 : Int32) (v2 : Int32) : wpX_include (fun r u' => wpY_include (fun r' v' => r' = r ∧ i_Rel (k + 5) u' v') v v1 v2) u v1 v2 := by
  obtain ⟨sb, qc, ys, yn, yw, tip, pc, ic, so, oc, am, hg, par, cn, tx, st, po, sl, gd, wi, lk, wk, bw, od, xo, ch, li, sp, qu, sk, yp, yl, yt, ho, yk, yq, yo, rfl, rfl, R, htip, gt, RC, O, hsb, hxo⟩ := I
  have I' : i_Rel (k + 5) (sb, nI tip, nI pc, qc, cp_A ic, cp_A so, wi, xo, cp_Bo sl, cp_A am, lk, cp_A st, cp_A par, wk, cp_A cn, cp_A tx, od, cp_A hg, bw, cp_Bo gd, ch, cp_A po, li, sp, qu, sk) (ys, yn, yw, nI pc, nI tip, cp_A ic, cp_A (cp_hf so), cp_A (cp_hm so), wi, cp_A oc, cp_A am, lk, cp_Bo sl, cp_A (cp_ys st), cp_A par, wk, cp_A cn, cp_A tx, od, yp, yl, yt, ho, yk, cp_A po, yq, yo) := cp_mk R htip gt RC O hsb hxo
  unfold wpX_include
  dsimp only
  refine cx_isDr R.1 v1 (fun b h1 h2 e hs => br_f (by decide) (cx_isTb v2 (fun t ht e2 => br_f (by decide) ?_) (fun z => br_t rfl (cy_ic_r R.1 (fun ⟨_, t, h1, h2, _⟩ => z ⟨t, h1, h2⟩) ⟨rfl, I'⟩)))) (fun z => br_t rfl (cy_ic_r R.1 (fun w => z w.1) ⟨rfl, I'⟩))
  subst e e2
  have c := cp_RB_cn R.1 b
  have ib : vp_in (nI b) 24 := vp_in_nI h2 (by decide)
  refine And.intro (vp_in_nI ht (by decide)) (cp_TF_br (cp_TFs ht) (fun z => cy_ic_r R.1 ?_ ⟨rfl, I'⟩) (fun hsl => And.intro ib (pk_lt (cn b) 3 (fun z => cx_apd h2 z (And.intro ib ?_)) (fun z => cy_ic_k h1 h2 hs ht hsl c (fun _ => ⟨rfl, I'⟩) (fun n3 => by omega)) (cp_rd cn (by omega)) rfl)))
  · rintro ⟨_, q, q1, q2, q3⟩
    rw [nI_eq (by omega) (by omega)] at q2
    rw [← q2] at q3
    exact z q3
  · have e : cp_A (cp_up cn b (cn b + 1)) (nI b).toNatClampNeg = nI (cn b + 1) := by
      rw [cp_rd _ (by omega), cp_up_s]
    exact cy_ic_k h1 h2 hs ht hsl c (fun e => by omega) (fun _ => ⟨e.symm, cp_mk (cp_s_app R h2 hs z ht hsl) htip gt RC O hsb hxo⟩)
theorem i_vc_reward {k : Nat} {u : SX} {v : SY} (I : i_Rel k u v) (hk : k + 5 ≤ 2560) (v1 : Int32) (v2 : Int32) (v3 : Int32) : wpX_reward (fun r u' => wpY_reward (fun r' v' => r' = r ∧ i_Rel (k + 5) u' v') v v1 v2 v3) u v1 v2 v3 := by
  obtain ⟨sb, qc, ys, yn, yw, tip, pc, ic, so, oc, am, hg, par, cn, tx, st, po, sl, gd, wi, lk, wk, bw, od, xo, ch, li, sp, qu, sk, yp, yl, yt, ho, yk, yq, yo, rfl, rfl, R, htip, gt, RC, O, hsb, hxo⟩ := I
  have I' : i_Rel (k + 5) (sb, nI tip, nI pc, qc, cp_A ic, cp_A so, wi, xo, cp_Bo sl, cp_A am, lk, cp_A st, cp_A par, wk, cp_A cn, cp_A tx, od, cp_A hg, bw, cp_Bo gd, ch, cp_A po, li, sp, qu, sk) (ys, yn, yw, nI pc, nI tip, cp_A ic, cp_A (cp_hf so), cp_A (cp_hm so), wi, cp_A oc, cp_A am, lk, cp_Bo sl, cp_A (cp_ys st), cp_A par, wk, cp_A cn, cp_A tx, od, yp, yl, yt, ho, yk, cp_A po, yq, yo) := cp_mk R htip gt RC O hsb hxo
  unfold wpX_reward
  dsimp only
  refine cx_isDr R.1 v1 (fun b h1 h2 e hs => br_f (by decide) (cx_isAm v2 (fun a a1 a2 e2 => br_f (by decide) ?_) (fun z => br_t rfl (cy_rw_r R.1 (fun w => z w.2) ⟨rfl, I'⟩)))) (fun z => br_t rfl (cy_rw_r R.1 (fun w => z w.1) ⟨rfl, I'⟩))
  subst e e2
  exact cx_scb h2 (cy_rw_k h1 h2 hs a1 a2 ⟨rfl, cp_mk (cp_s_cb R h2 hs a1 (by omega)) htip gt RC O hsb hxo⟩)
/-! submit -/
section
variable {sb qc ys yn yw : Int32} {tip pc : Nat} {ic so oc am hg par cn tx st po : Nat → Nat} {sl gd : Nat → Bool} {wi lk wk bw od xo ch li sp qu sk yp yl yt ho yk yq yo : Nat → Int32} {k : Nat}
theorem cy_su_r {post : Int32 → SY → Prop} (B : cp_RB ic so oc am hg par cn tx st sl wi lk) {v1 : Int32} (z : ¬ (∃ b, 1 ≤ b ∧ b < 24 ∧ v1 = nI b ∧ st b = 1)) (H : post (-1) (ys, yn, yw, nI pc, nI tip, cp_A ic, cp_A (cp_hf so), cp_A (cp_hm so), wi, cp_A oc, cp_A am, lk, cp_Bo sl, cp_A (cp_ys st), cp_A par, wk, cp_A cn, cp_A tx, od, yp, yl, yt, ho, yk, cp_A po, yq, yo)) : wpY_submit post (ys, yn, yw, nI pc, nI tip, cp_A ic, cp_A (cp_hf so), cp_A (cp_hm so), wi, cp_A oc, cp_A am, lk, cp_Bo sl, cp_A (cp_ys st), cp_A par, wk, cp_A cn, cp_A tx, od, yp, yl, yt, ho, yk, cp_A po, yq, yo) v1 := by
  unfold wpY_submit
  dsimp only
  refine cy_outb v1 1 23 (by decide) (by decide) (fun b h1 h2 e => br_t rfl ?_) (fun _ => br_f (by decide) H)
  subst e
  have s := cp_ys_le B b
  exact And.intro (vp_in_nI (by omega) (by decide)) (pk_eq (cp_ys st b) 1 (fun e => absurd ⟨b, h1, by omega, rfl, cp_ys1.mp e⟩ z) (fun _ => H) (cp_rd (cp_ys st) (by omega)) rfl)
end
theorem i_vc_submit {k : Nat} {u : SX} {v : SY} (I : i_Rel k u v) (hk : k + 5 ≤ 2560) (v1 : Int32) : wpX_submit (fun r u' => wpY_submit (fun r' v' => r' = r ∧ i_Rel (k + 5) u' v') v v1) u v1 := by
  obtain ⟨sb, qc, ys, yn, yw, tip, pc, ic, so, oc, am, hg, par, cn, tx, st, po, sl, gd, wi, lk, wk, bw, od, xo, ch, li, sp, qu, sk, yp, yl, yt, ho, yk, yq, yo, rfl, rfl, R, htip, gt, RC, O, hsb, hxo⟩ := I
  have I' : i_Rel (k + 5) (sb, nI tip, nI pc, qc, cp_A ic, cp_A so, wi, xo, cp_Bo sl, cp_A am, lk, cp_A st, cp_A par, wk, cp_A cn, cp_A tx, od, cp_A hg, bw, cp_Bo gd, ch, cp_A po, li, sp, qu, sk) (ys, yn, yw, nI pc, nI tip, cp_A ic, cp_A (cp_hf so), cp_A (cp_hm so), wi, cp_A oc, cp_A am, lk, cp_Bo sl, cp_A (cp_ys st), cp_A par, wk, cp_A cn, cp_A tx, od, yp, yl, yt, ho, yk, cp_A po, yq, yo) := cp_mk R htip gt RC O hsb hxo
  unfold wpX_submit
  dsimp only
  refine cx_isDr R.1 v1 (fun b h1 h2 e hs => br_f (by decide) ?_) (fun z => br_t rfl (cy_su_r R.1 z ⟨rfl, I'⟩))
  subst e
  subst hsb
  refine cx_acc R hxo htip gt RC h2 hs (fun st' hg' bw' gd' hy R' gt' O' => ⟨fun e RC' li' sp' sk' => ?_, fun best F pc' po' ch' li' sp' qu' sk' qc' eb ne hb gb K hf R2 RC' => ?_⟩)
  · refine br_t rfl (cy_sub (F := 0) h1 h2 hs hy R' O' htip gt' (fun n => absurd e n) (fun _ yn yw yp yl yt ho yk yq yo => ⟨rfl, cp_mk R' htip gt' RC' O' rfl hxo⟩) (fun n => absurd e n))
  · subst eb
    refine br_f (fun z => ne ((nI_eq (by omega) (by omega)).mp z)) (cy_sub h1 h2 hs hy R' O' htip gt' (fun _ => K) (fun e => absurd e ne) (fun _ pc2 po2 yn yw yp yl yt ho yk yq yo hf2 => ⟨rfl, ?_⟩))
    have e := hf2.trans hf.symm
    cases e
    exact cp_mk R2 hb gb RC' O' rfl hxo
theorem i_vc_tip {k : Nat} {u : SX} {v : SY} (I : i_Rel k u v) (hk : k + 5 ≤ 2560) : wpX_tip (fun r => wpY_tip (fun r' => r' = r ∧ i_Rel (k + 5) u v) v) u := by
  have I0 := I
  obtain ⟨sb, qc, ys, yn, yw, tip, pc, ic, so, oc, am, hg, par, cn, tx, st, po, sl, gd, wi, lk, wk, bw, od, xo, ch, li, sp, qu, sk, yp, yl, yt, ho, yk, yq, yo, rfl, rfl, R, htip, gt, RC, O, hsb, hxo⟩ := I
  exact ⟨rfl, I0⟩
