/-! the questions -/
def cp_no (st : Nat → Nat) (n : Nat) : Nat := cp_sum (fun b => if st b = 2 then 1 else 0) n
noncomputable def cp_us (am : Nat → Nat) (L S : Nat → Prop) (n : Nat) : Nat := cp_sum (fun o => cp_iv (L (o / 2) ∧ ¬ S o) (am o)) n
section
variable {sb qc ys yn yw : Int32} {tip pc : Nat} {ic so oc am hg par cn tx st po : Nat → Nat} {sl gd : Nat → Bool} {wi lk wk bw od xo ch li sp qu sk yp yl yt ho yk yq yo : Nat → Int32} {k : Nat}
theorem cx_co4 {post : Int32 → Prop} (B : cp_RB ic so oc am hg par cn tx st sl wi lk) (H : post (nI (cp_no st 24))) : ∀ (d i : Nat), i + d = 24 → wX_countOrphans_4 post sb (nI tip) (nI pc) qc (cp_A ic) (cp_A so) wi xo (cp_Bo sl) (cp_A am) lk (cp_A st) (cp_A par) wk (cp_A cn) (cp_A tx) od (cp_A hg) bw (cp_Bo gd) ch (cp_A po) li sp qu sk (d + 1) (nI (cp_no st i)) (nI i) := by
  intro d
  induction d with
  | zero =>
    intro i hi
    refine pk_le 24 i (fun _ => ?_) (fun z => False.elim (by omega))
    rw [show i = 24 from by omega]
    exact H
  | succ d ih =>
    intro i hi
    have s := cp_RB_st B i
    have z := ih (i + 1) (by omega)
    have es : cp_no st (i + 1) = cp_no st i + (if st i = 2 then 1 else 0) := rfl
    refine pk_le 24 i (fun z => False.elim (by omega)) (fun _ => And.intro (vp_in_nI (by omega) (by decide)) (pk_eq (st i) 2 (fun e => ?_) (fun e => ?_) (cp_rd st (by omega)) rfl))
    · rw [es, if_pos e] at z
      exact nm_r (nI_1 _) (nm_r (nI_1 i) z)
    · rw [es, if_neg e] at z
      exact nm_r (nI_1 i) z
theorem cx_co {post : Int32 → Prop} (B : cp_RB ic so oc am hg par cn tx st sl wi lk) (s0 : st 0 = 3) (H : post (nI (cp_no st 24))) : wpX_countOrphans post (sb, nI tip, nI pc, qc, cp_A ic, cp_A so, wi, xo, cp_Bo sl, cp_A am, lk, cp_A st, cp_A par, wk, cp_A cn, cp_A tx, od, cp_A hg, bw, cp_Bo gd, ch, cp_A po, li, sp, qu, sk) := by
  have z := cx_co4 (sb := sb) (tip := tip) (pc := pc) (qc := qc) (ic := ic) (so := so) (wi := wi) (xo := xo) (sl := sl) (am := am) (lk := lk) (st := st) (par := par) (wk := wk) (cn := cn) (tx := tx) (od := od) (hg := hg) (bw := bw) (gd := gd) (ch := ch) (po := po) (li := li) (sp := sp) (qu := qu) (sk := sk) B H 23 1 (by omega)
  have e : cp_no st 1 = 0 := by
    show 0 + (if st 0 = 2 then 1 else 0) = 0
    rw [if_neg (by omega)]
  rw [e] at z
  exact Exists.intro 24 z
theorem cy_co9 {post : Int32 → SY → Prop} (B : cp_RB ic so oc am hg par cn tx st sl wi lk) (R : cp_RT ic so oc am hg par cn tx st sl wi lk wk bw gd) (O : cp_RO par st) (H : ∀ yn yw yp, post (nI (cp_no st 24)) (ys, yn, yw, nI pc, nI tip, cp_A ic, cp_A (cp_hf so), cp_A (cp_hm so), wi, cp_A oc, cp_A am, lk, cp_Bo sl, cp_A (cp_ys st), cp_A par, wk, cp_A cn, cp_A tx, od, yp, yl, yt, ho, yk, cp_A po, yq, yo)) : ∀ (d i : Nat) (yn yw : Int32) (yp : Nat → Int32), i + d = 24 → wY_count_9 post (d + 1) (nI (cp_no st i)) (nI i) ys yn yw (nI pc) (nI tip) (cp_A ic) (cp_A (cp_hf so)) (cp_A (cp_hm so)) wi (cp_A oc) (cp_A am) lk (cp_Bo sl) (cp_A (cp_ys st)) (cp_A par) wk (cp_A cn) (cp_A tx) od yp yl yt ho yk (cp_A po) yq yo := by
  intro d
  induction d with
  | zero =>
    intro i yn yw yp hi
    refine pk_le 24 i (fun _ => ?_) (fun z => False.elim (by omega))
    rw [show i = 24 from by omega]
    exact H yn yw yp
  | succ d ih =>
    intro i yn yw yp hi
    have s := cp_ys_le B i
    have es : cp_no st (i + 1) = cp_no st i + (if st i = 2 then 1 else 0) := rfl
    have keep : st i ≠ 2 → ∀ (yn yw : Int32) (yp : Nat → Int32), wY_count_9 post (d + 1) (nI (cp_no st i)) (nI (i + 1)) ys yn yw (nI pc) (nI tip) (cp_A ic) (cp_A (cp_hf so)) (cp_A (cp_hm so)) wi (cp_A oc) (cp_A am) lk (cp_Bo sl) (cp_A (cp_ys st)) (cp_A par) wk (cp_A cn) (cp_A tx) od yp yl yt ho yk (cp_A po) yq yo := by
      intro e yn yw yp
      have z := ih (i + 1) yn yw yp (by omega)
      rw [es, if_neg e] at z
      exact z
    refine pk_le 24 i (fun z => False.elim (by omega)) (fun _ => And.intro (vp_in_nI (by omega) (by decide)) (pk_eq (cp_ys st i) 2 (fun e => ?_) (fun e => nm_r (cp_nz _) (nm_r (nI_1 i) (keep ?_ yn yw yp))) (cp_rd (cp_ys st) (by omega)) rfl))
    · by_cases c : st i = 3
      · exact cy_cht (yw := yw) B R (by omega) c (fun yp' _ => br_f (by decide) (nm_r (cp_nz _) (nm_r (nI_1 i) (keep (by omega) _ _ _))))
      · rw [cp_ysn c] at e
        refine cy_chf (yw := yw) B R.1.1 O (by omega) c (fun yp' yn' yw' => br_t rfl (nm_r (nI_1 _) (nm_r (nI_1 i) ?_)))
        have z := ih (i + 1) yn' yw' yp' (by omega)
        rw [es, if_pos e] at z
        exact z
    · intro e2
      exact e ((cp_ysn (by omega)).trans e2)
theorem cx_us12 {post : Int32 → SX → Prop} (B : cp_RB ic so oc am hg par cn tx st sl wi lk) {L S : Nat → Prop} (hl : cp_Rp li L 56) (hs : cp_Rp sp S 112) (H : post (nI (cp_us am L S 112)) (sb, nI tip, nI pc, qc, cp_A ic, cp_A so, wi, xo, cp_Bo sl, cp_A am, lk, cp_A st, cp_A par, wk, cp_A cn, cp_A tx, od, cp_A hg, bw, cp_Bo gd, ch, cp_A po, li, sp, qu, sk)) : ∀ (d i : Nat), i + d = 112 → wX_sumUnspent_12 post sb (nI tip) (nI pc) qc (cp_A ic) (cp_A so) wi xo (cp_Bo sl) (cp_A am) lk (cp_A st) (cp_A par) wk (cp_A cn) (cp_A tx) od (cp_A hg) bw (cp_Bo gd) ch (cp_A po) li sp qu sk (d + 1) (nI (cp_us am L S i)) (nI i) := by
  intro d
  induction d with
  | zero =>
    intro i hi
    refine pk_le 112 i (fun _ => ?_) (fun z => False.elim (by omega))
    rw [show i = 112 from by omega]
    exact H
  | succ d ih =>
    intro i hi
    have z := ih (i + 1) (by omega)
    have ao := cp_RB_ao B i
    have es : cp_us am L S (i + 1) = cp_us am L S i + cp_iv (L (i / 2) ∧ ¬ S i) (am i) := rfl
    refine pk_le 112 i (fun z => False.elim (by omega)) (fun _ => cx_iu B (by omega) hl hs (fun r hr => cp_TF_br hr (fun y => ?_) (fun y => And.intro (vp_in_nI (by omega) (by decide)) ?_)))
    · have e0 : cp_iv (L (i / 2) ∧ ¬ S i) (am i) = 0 := by
        by_cases w : L (i / 2) ∧ ¬ S i
        · rw [cp_iv_t w]
          by_cases a : i % 2 < oc (i / 2)
          · exact absurd ⟨a, w⟩ y
          · omega
        · exact cp_iv_f w
      rw [es, e0] at z
      exact nm_r (nI_1 i) z
    · rw [es, cp_iv_t y.2] at z
      exact nm_r (by rw [cp_rd am (by omega), nI_add]) (nm_r (nI_1 i) z)
theorem cx_us {post : Int32 → SX → Prop} (B : cp_RB ic so oc am hg par cn tx st sl wi lk) (R : cp_RT ic so oc am hg par cn tx st sl wi lk wk bw gd) (htip : tip < 24) (gt : gd tip = true) (H : ∀ li sp, post (nI (cp_us am (cp_LS hg par cn tx tip) (cp_SP ic so hg par cn tx tip) 112)) (sb, nI tip, nI pc, qc, cp_A ic, cp_A so, wi, xo, cp_Bo sl, cp_A am, lk, cp_A st, cp_A par, wk, cp_A cn, cp_A tx, od, cp_A hg, bw, cp_Bo gd, ch, cp_A po, li, sp, qu, sk)) : wpX_sumUnspent post (sb, nI tip, nI pc, qc, cp_A ic, cp_A so, wi, xo, cp_Bo sl, cp_A am, lk, cp_A st, cp_A par, wk, cp_A cn, cp_A tx, od, cp_A hg, bw, cp_Bo gd, ch, cp_A po, li, sp, qu, sk) := by
  have ct := R.2.2.2.1 tip htip gt
  unfold wpX_sumUnspent
  dsimp only
  refine cx_lc _ B R.1 htip ct (cp_RT_hg R htip ct) (fun li' sp' hl hs => Exists.intro 113 (cx_us12 B hl hs (H li' sp') 112 0 (by omega)))
theorem cy_iu {post : Int32 → Prop} (B : cp_RB ic so oc am hg par cn tx st sl wi lk) {o : Nat} (h112 : o < 112) {L S : Nat → Prop} (hl : cp_Rp yl L 56) (hs : cp_Rp yt S 112) (H : ∀ r, cp_TF r (o % 2 < oc (o / 2) ∧ L (o / 2) ∧ ¬ S o) → post r) : wpY_isUnspent post (ys, yn, yw, nI pc, nI tip, cp_A ic, cp_A (cp_hf so), cp_A (cp_hm so), wi, cp_A oc, cp_A am, lk, cp_Bo sl, cp_A (cp_ys st), cp_A par, wk, cp_A cn, cp_A tx, od, yp, yl, yt, ho, yk, cp_A po, yq, yo) (nI o) := by
  have c := cp_RB_oc B (o / 2)
  have e : nI o / 2 = nI (o / 2) := pk_div (d := 2) (by omega) (by decide) (by decide)
  have er : nI o - nI o / 2 * 2 = nI (o % 2) := pk_rem (d := 2) (by omega) (by decide) (by decide)
  have tl : cp_TF (yl (nI o / 2).toNatClampNeg) (L (o / 2)) := by
    rw [e, nI_clamp (by omega)]
    exact hl _ (by omega)
  have ts : cp_TF (yt (nI o).toNatClampNeg) (S o) := by
    rw [nI_clamp (by omega)]
    exact hs _ h112
  have i56 : vp_in (nI o / 2) 56 := pk_in (o / 2) 56 (by omega) e
  refine And.intro (by decide) (And.intro i56 (cp_TF_br tl (fun y => H 0 (cp_TF_F (fun w => y w.2.1))) (fun zl => And.intro (by decide) (And.intro (by decide) (And.intro i56 (pk_le (oc (o / 2)) (o % 2) (fun y => H 0 (cp_TF_F (fun w => by have := w.1; omega))) (fun zo => And.intro (vp_in_nI h112 (by decide)) (cp_TF_br ts (fun w => H 1 (cp_TF_T ⟨zo, zl, w⟩)) (fun w => H 0 (cp_TF_F (fun v => v.2.2 w))))) ?_ er))))))
  rw [e, cp_rd oc (by omega)]
theorem cy_us94 {post : Int32 → SY → Prop} (B : cp_RB ic so oc am hg par cn tx st sl wi lk) {L S : Nat → Prop} (hl : cp_Rp yl L 56) (hs : cp_Rp yt S 112) (H : post (nI (cp_us am L S 112)) (ys, yn, yw, nI pc, nI tip, cp_A ic, cp_A (cp_hf so), cp_A (cp_hm so), wi, cp_A oc, cp_A am, lk, cp_Bo sl, cp_A (cp_ys st), cp_A par, wk, cp_A cn, cp_A tx, od, yp, yl, yt, ho, yk, cp_A po, yq, yo)) : ∀ (d i : Nat), i + d = 112 → wY_count_94 post ys yn yw (nI pc) (nI tip) (cp_A ic) (cp_A (cp_hf so)) (cp_A (cp_hm so)) wi (cp_A oc) (cp_A am) lk (cp_Bo sl) (cp_A (cp_ys st)) (cp_A par) wk (cp_A cn) (cp_A tx) od yp yl yt ho yk (cp_A po) yq yo (d + 1) (nI (cp_us am L S i)) (nI i) := by
  intro d
  induction d with
  | zero =>
    intro i hi
    refine pk_le 112 i (fun _ => ?_) (fun z => False.elim (by omega))
    rw [show i = 112 from by omega]
    exact H
  | succ d ih =>
    intro i hi
    have z := ih (i + 1) (by omega)
    have ao := cp_RB_ao B i
    have es : cp_us am L S (i + 1) = cp_us am L S i + cp_iv (L (i / 2) ∧ ¬ S i) (am i) := rfl
    refine pk_le 112 i (fun z => False.elim (by omega)) (fun _ => cy_iu B (by omega) hl hs (fun r hr => cp_TF_br hr (fun y => ?_) (fun y => And.intro (vp_in_nI (by omega) (by decide)) ?_)))
    · have e0 : cp_iv (L (i / 2) ∧ ¬ S i) (am i) = 0 := by
        by_cases w : L (i / 2) ∧ ¬ S i
        · rw [cp_iv_t w]
          by_cases a : i % 2 < oc (i / 2)
          · exact absurd ⟨a, w⟩ y
          · omega
        · exact cp_iv_f w
      rw [es, e0] at z
      exact nm_r (cp_nz _) (nm_r (nI_1 i) z)
    · rw [es, cp_iv_t y.2] at z
      exact nm_r (by rw [cp_rd am (by omega), nI_add]) (nm_r (nI_1 i) z)
theorem cx_ho12 {post : Int32 → Prop} {b t : Nat} (hb : b < 24) (ht : t < 56) (hc : cn b ≤ 3) (htx : ∀ q, tx q < 32) (nb : ¬ t = 32 + b) (H : ∀ r, cp_TF r (cp_inB cn tx b t) → post r) : ∀ (d i : Nat), i + d = cn b → (∀ q, q < i → tx (3 * b + q) ≠ t) → wX_holds_12 post (nI b) (nI t) sb (nI tip) (nI pc) qc (cp_A ic) (cp_A so) wi xo (cp_Bo sl) (cp_A am) lk (cp_A st) (cp_A par) wk (cp_A cn) (cp_A tx) od (cp_A hg) bw (cp_Bo gd) ch (cp_A po) li sp qu sk (d + 1) (nI i) := by
  intro d
  induction d with
  | zero =>
    intro i hi h
    refine And.intro (vp_in_nI hb (by decide)) (pk_le (cn b) i (fun _ => H 0 (cp_TF_F ?_)) (fun z => False.elim (by omega)) (cp_rd cn (by omega)) rfl)
    rintro (z | ⟨q, hq, z⟩)
    · exact nb z
    · exact h q (by omega) z
  | succ d ih =>
    intro i hi h
    have t32 := htx (3 * b + i)
    refine And.intro (vp_in_nI hb (by decide)) (pk_le (cn b) i (fun z => False.elim (by omega)) (fun _ => And.intro (pk_in (3 * b + i) 72 (by omega) (cp_3a b i)) (pk_eq (tx (3 * b + i)) t (fun e => H 1 (cp_TF_T (Or.inr ⟨i, by omega, e⟩))) (fun e => nm_r (nI_1 i) (ih (i + 1) (by omega) ?_)) ?_ rfl)) (cp_rd cn (by omega)) rfl)
    · intro q hq
      by_cases w : q = i
      · rw [w]
        exact e
      · exact h q (by omega)
    · rw [cp_3a, cp_rd tx (by omega)]
theorem cx_ho {post : Int32 → Prop} {b t : Nat} (hb : b < 24) (ht : t < 56) (hc : cn b ≤ 3) (htx : ∀ q, tx q < 32) (H : ∀ r, cp_TF r (cp_inB cn tx b t) → post r) : wpX_holds post (sb, nI tip, nI pc, qc, cp_A ic, cp_A so, wi, xo, cp_Bo sl, cp_A am, lk, cp_A st, cp_A par, wk, cp_A cn, cp_A tx, od, cp_A hg, bw, cp_Bo gd, ch, cp_A po, li, sp, qu, sk) (nI b) (nI t) :=
  pk_eq t (32 + b) (fun e => H 1 (cp_TF_T (Or.inl e))) (fun e => Exists.intro (cn b + 1) (cx_ho12 hb ht hc htx e H (cn b) 0 (by omega) (fun q hq => absurd hq (Nat.not_lt_zero _)))) rfl (nI_add 32 b)
theorem cx_de24 {post : Int32 → Prop} (B : cp_RB ic so oc am hg par cn tx st sl wi lk) (T : cp_Tr hg par st) (htip : tip < 24) (ct : st tip = 3) (hh : hg tip < 24) (RC : cp_RC hg par tip ch) {t : Nat} (ht : t < 56)
    (H0 : (∀ i, i ≤ hg tip → ¬ cp_inB cn tx (cp_pt par hg tip i) t) → post 0) (H1 : ∀ i, i ≤ hg tip → cp_inB cn tx (cp_pt par hg tip i) t → post (nI (hg tip) - nI i + 1)) : ∀ (d i : Nat), i + d = hg tip + 1 → (∀ q, q < i → ¬ cp_inB cn tx (cp_pt par hg tip q) t) → wX_depth_24 post (nI t) (nI (hg tip)) sb (nI tip) (nI pc) qc (cp_A ic) (cp_A so) wi xo (cp_Bo sl) (cp_A am) lk (cp_A st) (cp_A par) wk (cp_A cn) (cp_A tx) od (cp_A hg) bw (cp_Bo gd) ch (cp_A po) li sp qu sk (d + 1) (nI i) := by
  intro d
  induction d with
  | zero =>
    intro i hi h
    exact pk_lt (hg tip) i (fun _ => H0 (fun q hq => h q (by omega))) (fun z => False.elim (by omega))
  | succ d ih =>
    intro i hi h
    have e : ch (nI i).toNatClampNeg = nI (cp_pt par hg tip i) := by
      rw [nI_clamp (by omega)]
      exact RC i (by omega)
    refine pk_lt (hg tip) i (fun z => False.elim (by omega)) (fun _ => And.intro (vp_in_nI (by omega) (by decide)) ?_)
    rw [e]
    refine cx_ho (cp_pt_in T htip ct (by omega)) ht (cp_RB_cn B _) (cp_RB_tx B) (fun r hr => cp_TF_br hr (fun z => nm_r (nI_1 i) (ih (i + 1) (by omega) ?_)) (fun z => H1 i (by omega) z))
    intro q hq
    by_cases w : q = i
    · rw [w]
      exact z
    · exact h q (by omega)
end
theorem i_vc_count {k : Nat} {u : SX} {v : SY} (I : i_Rel k u v) (hk : k + 5 ≤ 2560) (v1 : Int32) : wpX_count (fun r u' => wpY_count (fun r' v' => r' = r ∧ i_Rel (k + 5) u' v') v v1) u v1 := by
  obtain ⟨sb, qc, ys, yn, yw, tip, pc, ic, so, oc, am, hg, par, cn, tx, st, po, sl, gd, wi, lk, wk, bw, od, xo, ch, li, sp, qu, sk, yp, yl, yt, ho, yk, yq, yo, rfl, rfl, R, htip, gt, RC, O, hsb, hxo⟩ := I
  have ct := R.2.1.2.2.2.1 tip htip gt
  have hh := cp_RT_hg R.2.1 htip ct
  have itip : vp_in (nI tip) 24 := vp_in_nI htip (by decide)
  have bad : ¬ v1 = 0 → ¬ v1 = 1 → ¬ v1 = 2 → ¬ v1 = 3 → ¬ v1 = 4 → wpY_count (fun r' v' => r' = -1 ∧ i_Rel (k + 5) (sb, nI tip, nI pc, qc, cp_A ic, cp_A so, wi, xo, cp_Bo sl, cp_A am, lk, cp_A st, cp_A par, wk, cp_A cn, cp_A tx, od, cp_A hg, bw, cp_Bo gd, ch, cp_A po, li, sp, qu, sk) v') (ys, yn, yw, nI pc, nI tip, cp_A ic, cp_A (cp_hf so), cp_A (cp_hm so), wi, cp_A oc, cp_A am, lk, cp_Bo sl, cp_A (cp_ys st), cp_A par, wk, cp_A cn, cp_A tx, od, yp, yl, yt, ho, yk, cp_A po, yq, yo) v1 := by
    intro n0 n1 n2 n3 n4
    exact br_f n2 (br_f n3 (cy_rt0 (yn := yn) (yw := yw) R.1 R.2.1 htip gt (fun yp yl yt ho yk _ _ _ _ => br_f n0 (br_f n1 (br_f n4 ⟨rfl, cp_mk R htip gt RC O hsb hxo⟩)))))
  refine br_c (fun a => bad ?_ ?_ ?_ ?_ ?_) (fun _ => br_c (fun a => bad ?_ ?_ ?_ ?_ ?_) (fun _ => br_c (fun e => And.intro itip ?_) (fun n0 => br_c (fun e => And.intro itip ?_) (fun n1 => br_c (fun e => cx_co R.1 R.2.1.1.1 ?_) (fun n2 => br_c (fun e => ?_) (fun n3 => br_c (fun e => ?_) (fun _ => trivial)))))))
  · exact fun e => absurd (e ▸ a) (by decide)
  · exact fun e => absurd (e ▸ a) (by decide)
  · exact fun e => absurd (e ▸ a) (by decide)
  · exact fun e => absurd (e ▸ a) (by decide)
  · exact fun e => absurd (e ▸ a) (by decide)
  · exact fun e => absurd (e ▸ a) (by decide)
  · exact fun e => absurd (e ▸ a) (by decide)
  · exact fun e => absurd (e ▸ a) (by decide)
  · exact fun e => absurd (e ▸ a) (by decide)
  · exact fun e => absurd (e ▸ a) (by decide)
  · subst e
    refine br_f (by decide) (br_f (by decide) (cy_rt0 (yn := yn) (yw := yw) R.1 R.2.1 htip gt (fun yp yl yt ho yk _ _ _ _ => br_t rfl ⟨?_, cp_mk R htip gt RC O hsb hxo⟩)))
    rw [cp_rd hg (by omega), nI_pred]
  · subst e
    refine br_f (by decide) (br_f (by decide) (cy_rt0 (yn := yn) (yw := yw) R.1 R.2.1 htip gt (fun yp yl yt ho yk _ _ _ _ => br_f (by decide) (br_t rfl ⟨?_, cp_mk R htip gt RC O hsb hxo⟩))))
    rw [nI_clamp (by omega)]
  · subst e
    exact br_t rfl (Exists.intro 25 (cy_co9 R.1 R.2.1 O (fun yn yw yp => ⟨rfl, cp_mk R htip gt RC O hsb hxo⟩) 24 0 yn yw yp (by omega)))
  · subst e
    exact br_f (by decide) (br_t rfl ⟨rfl, cp_mk R htip gt RC O hsb hxo⟩)
  · subst e
    refine cx_us R.1 R.2.1 htip gt (fun li sp => ?_)
    exact br_f (by decide) (br_f (by decide) (cy_rt0 (yn := yn) (yw := yw) R.1 R.2.1 htip gt (fun yp yl yt ho yk _ hl hs _ => br_f (by decide) (br_f (by decide) (br_t rfl (Exists.intro 113 (cy_us94 R.1 hl hs ⟨rfl, cp_mk R htip gt RC O hsb hxo⟩ 112 0 (by omega))))))))
theorem i_vc_at {k : Nat} {u : SX} {v : SY} (I : i_Rel k u v) (hk : k + 5 ≤ 2560) (v1 : Int32) : wpX_at (fun r => wpY_at (fun r' v' => r' = r ∧ i_Rel (k + 5) u v') v v1) u v1 := by
  obtain ⟨sb, qc, ys, yn, yw, tip, pc, ic, so, oc, am, hg, par, cn, tx, st, po, sl, gd, wi, lk, wk, bw, od, xo, ch, li, sp, qu, sk, yp, yl, yt, ho, yk, yq, yo, rfl, rfl, R, htip, gt, RC, O, hsb, hxo⟩ := I
  have ct := R.2.1.2.2.2.1 tip htip gt
  have hh := cp_RT_hg R.2.1 htip ct
  have ref : (¬ ∃ t, 0 ≤ t ∧ t ≤ hg tip ∧ v1 = nI t) → wpY_at (fun r' v' => r' = -1 ∧ i_Rel (k + 5) (sb, nI tip, nI pc, qc, cp_A ic, cp_A so, wi, xo, cp_Bo sl, cp_A am, lk, cp_A st, cp_A par, wk, cp_A cn, cp_A tx, od, cp_A hg, bw, cp_Bo gd, ch, cp_A po, li, sp, qu, sk) v') (ys, yn, yw, nI pc, nI tip, cp_A ic, cp_A (cp_hf so), cp_A (cp_hm so), wi, cp_A oc, cp_A am, lk, cp_Bo sl, cp_A (cp_ys st), cp_A par, wk, cp_A cn, cp_A tx, od, yp, yl, yt, ho, yk, cp_A po, yq, yo) v1 := by
    intro z
    refine cy_cht (yw := yw) R.1 R.2.1 htip ct (fun yp' hyp => ?_)
    show wpY_out _ v1 0 (nI (hg tip + 1) - 1)
    rw [nI_pred]
    exact cy_outb v1 0 (hg tip) (by decide) (by omega) (fun t h1 h2 e => absurd ⟨t, h1, h2, e⟩ z) (fun _ => br_f (by decide) ⟨rfl, cp_mk R htip gt RC O hsb hxo⟩)
  refine br_c (fun a => ref ?_) (fun a => And.intro (vp_in_nI htip (by decide)) ?_)
  · rintro ⟨t, _, h, e⟩
    rw [e] at a
    exact nI_pos (by omega) a
  · obtain ⟨j, hj, e⟩ := nI_of a
    subst e
    refine pk_le j (hg tip) (fun z => And.intro (vp_in_nI (by omega) (by decide)) ?_) (fun z => ref ?_) rfl (cp_rd hg (by omega))
    · refine cy_cht (yw := yw) R.1 R.2.1 htip ct (fun yp' hyp => ?_)
      show wpY_out _ (nI j) 0 (nI (hg tip + 1) - 1)
      rw [nI_pred]
      refine cy_outb (nI j) 0 (hg tip) (by decide) (by omega) (fun t h1 h2 e => br_t rfl (And.intro (vp_in_nI (by omega) (by decide)) ⟨?_, cp_mk R htip gt RC O hsb hxo⟩)) (fun w => absurd ⟨j, Nat.zero_le _, z, rfl⟩ w)
      rw [nI_clamp (by omega), hyp j z, RC j z]
    · rintro ⟨t, _, h, e⟩
      rw [nI_eq (by omega) (by omega)] at e
      omega
section
variable {sb qc ys yn yw : Int32} {tip pc : Nat} {ic so oc am hg par cn tx st po : Nat → Nat} {sl gd : Nat → Bool} {wi lk wk bw od xo ch li sp qu sk yp yl yt ho yk yq yo : Nat → Int32} {k : Nat}
theorem cy_un_r {post : Int32 → SY → Prop} {v1 v2 : Int32} (z : ¬ ((∃ f, f < 56 ∧ v1 = nI f) ∧ (∃ p, p < 2 ∧ v2 = nI p))) (H : post (-1) (ys, yn, yw, nI pc, nI tip, cp_A ic, cp_A (cp_hf so), cp_A (cp_hm so), wi, cp_A oc, cp_A am, lk, cp_Bo sl, cp_A (cp_ys st), cp_A par, wk, cp_A cn, cp_A tx, od, yp, yl, yt, ho, yk, cp_A po, yq, yo)) : wpY_unspent post (ys, yn, yw, nI pc, nI tip, cp_A ic, cp_A (cp_hf so), cp_A (cp_hm so), wi, cp_A oc, cp_A am, lk, cp_Bo sl, cp_A (cp_ys st), cp_A par, wk, cp_A cn, cp_A tx, od, yp, yl, yt, ho, yk, cp_A po, yq, yo) v1 v2 := by
  unfold wpY_unspent
  dsimp only
  exact cy_outb v1 0 55 (by decide) (by decide) (fun t h1 h2 e => br_t rfl (cy_outb v2 0 1 (by decide) (by decide) (fun f g1 g2 e2 => absurd ⟨⟨t, by omega, e⟩, ⟨f, by omega, e2⟩⟩ z) (fun _ => br_f (by decide) H))) (fun _ => br_f (by decide) H)
theorem cy_un_k {post : Int32 → SY → Prop} (R : cp_RR ic so oc am hg par cn tx st sl wi lk wk bw gd pc po) (htip : tip < 24) (gt : gd tip = true) {f p : Nat} (hf : f < 56) (hp : p < 2)
    (H0 : ¬ ((2 * f + p) % 2 < oc ((2 * f + p) / 2) ∧ cp_LS hg par cn tx tip ((2 * f + p) / 2) ∧ ¬ cp_SP ic so hg par cn tx tip (2 * f + p)) → ∀ yn yw yp yl yt ho yk, post 0 (ys, yn, yw, nI pc, nI tip, cp_A ic, cp_A (cp_hf so), cp_A (cp_hm so), wi, cp_A oc, cp_A am, lk, cp_Bo sl, cp_A (cp_ys st), cp_A par, wk, cp_A cn, cp_A tx, od, yp, yl, yt, ho, yk, cp_A po, yq, yo))
    (H1 : ((2 * f + p) % 2 < oc ((2 * f + p) / 2) ∧ cp_LS hg par cn tx tip ((2 * f + p) / 2) ∧ ¬ cp_SP ic so hg par cn tx tip (2 * f + p)) → ∀ yn yw yp yl yt ho yk, post (nI (am (2 * f + p))) (ys, yn, yw, nI pc, nI tip, cp_A ic, cp_A (cp_hf so), cp_A (cp_hm so), wi, cp_A oc, cp_A am, lk, cp_Bo sl, cp_A (cp_ys st), cp_A par, wk, cp_A cn, cp_A tx, od, yp, yl, yt, ho, yk, cp_A po, yq, yo)) : wpY_unspent post (ys, yn, yw, nI pc, nI tip, cp_A ic, cp_A (cp_hf so), cp_A (cp_hm so), wi, cp_A oc, cp_A am, lk, cp_Bo sl, cp_A (cp_ys st), cp_A par, wk, cp_A cn, cp_A tx, od, yp, yl, yt, ho, yk, cp_A po, yq, yo) (nI f) (nI p) := by
  unfold wpY_unspent
  dsimp only
  refine cy_outb (nI f) 0 55 (by decide) (by decide) (fun _ _ _ _ => br_t rfl (cy_outb (nI p) 0 1 (by decide) (by decide) (fun _ _ _ _ => br_t rfl ?_) (fun z => absurd ⟨p, by omega, by omega, rfl⟩ z))) (fun z => absurd ⟨f, by omega, by omega, rfl⟩ z)
  refine cy_rt0 (yn := yn) (yw := yw) R.1 R.2.1 htip gt (fun yp yl yt ho yk _ hl hs _ => ?_)
  dsimp only
  rw [cp_2a, cp_rd am (by omega)]
  exact cy_iu R.1 (by omega) hl hs (fun r hr => cp_TF_br hr (fun z => H0 z _ _ _ _ _ _ _) (fun z => And.intro (vp_in_nI (by omega) (by decide)) (H1 z _ _ _ _ _ _ _)))
end
theorem i_vc_unspent {k : Nat} {u : SX} {v : SY} (I : i_Rel k u v) (hk : k + 5 ≤ 2560) (v1 : Int32) (v2 : Int32) : wpX_unspent (fun r u' => wpY_unspent (fun r' v' => r' = r ∧ i_Rel (k + 5) u' v') v v1 v2) u v1 v2 := by
  obtain ⟨sb, qc, ys, yn, yw, tip, pc, ic, so, oc, am, hg, par, cn, tx, st, po, sl, gd, wi, lk, wk, bw, od, xo, ch, li, sp, qu, sk, yp, yl, yt, ho, yk, yq, yo, rfl, rfl, R, htip, gt, RC, O, hsb, hxo⟩ := I
  have I' : i_Rel (k + 5) (sb, nI tip, nI pc, qc, cp_A ic, cp_A so, wi, xo, cp_Bo sl, cp_A am, lk, cp_A st, cp_A par, wk, cp_A cn, cp_A tx, od, cp_A hg, bw, cp_Bo gd, ch, cp_A po, li, sp, qu, sk) (ys, yn, yw, nI pc, nI tip, cp_A ic, cp_A (cp_hf so), cp_A (cp_hm so), wi, cp_A oc, cp_A am, lk, cp_Bo sl, cp_A (cp_ys st), cp_A par, wk, cp_A cn, cp_A tx, od, yp, yl, yt, ho, yk, cp_A po, yq, yo) := cp_mk R htip gt RC O hsb hxo
  have ct := R.2.1.2.2.2.1 tip htip gt
  unfold wpX_unspent
  dsimp only
  refine cx_isNm v1 v2 (fun f p hf hp e1 e2 => br_f (by decide) ?_) (fun z => br_t rfl (cy_un_r z ⟨rfl, I'⟩))
  subst e1 e2
  refine cx_lc _ R.1 R.2.1.1 htip ct (cp_RT_hg R.2.1 htip ct) (fun li' sp' hl hs => nm_r (cp_2a f p) (cx_iu R.1 (by omega) hl hs (fun r hr => cp_TF_br hr (fun z => ?_) (fun z => And.intro (vp_in_nI (by omega) (by decide)) ?_))))
  · exact cy_un_k R htip gt hf hp (fun _ yn yw yp yl yt ho yk => ⟨rfl, cp_mk R htip gt RC O hsb hxo⟩) (fun w => absurd w z)
  · exact cy_un_k R htip gt hf hp (fun w => absurd z w) (fun _ yn yw yp yl yt ho yk => ⟨(cp_rd am (by omega)).symm, cp_mk R htip gt RC O hsb hxo⟩)
theorem i_vc_pooled {k : Nat} {u : SX} {v : SY} (I : i_Rel k u v) (hk : k + 5 ≤ 2560) (v1 : Int32) : wpX_pooled (fun r => wpY_pooled (fun r' => r' = r ∧ i_Rel (k + 5) u v) v v1) u v1 := by
  have I0 := I
  obtain ⟨sb, qc, ys, yn, yw, tip, pc, ic, so, oc, am, hg, par, cn, tx, st, po, sl, gd, wi, lk, wk, bw, od, xo, ch, li, sp, qu, sk, yp, yl, yt, ho, yk, yq, yo, rfl, rfl, R, htip, gt, RC, O, hsb, hxo⟩ := I
  have p8 := R.2.2.1
  have e1 : pc ≠ 0 → nI pc - 1 = nI (pc - 1) := fun h => cp_sub1 (by omega)
  refine br_c (fun a => br_t a (br_f (by decide) ⟨rfl, I0⟩)) (fun a => ?_)
  obtain ⟨j, hj, e⟩ := nI_of a
  subst e
  refine pk_lt j pc (fun z => And.intro (vp_in_nI (by omega) (by decide)) (br_f a (pk_le j (pc - 1) (fun _ => br_t rfl (And.intro (vp_in_nI (by omega) (by decide)) ⟨rfl, I0⟩)) (fun y => False.elim (by omega)) rfl (e1 (by omega))))) (fun z => br_f a (br_f ?_ (br_f (by decide) ⟨rfl, I0⟩)))
  by_cases h0 : pc = 0
  · rw [h0]
    intro w
    have w2 : nI j < 0 := Int32.lt_of_le_of_lt w (by decide)
    exact a w2
  · rw [e1 h0, nI_leI hj (by omega)]
    omega
section
variable {sb qc ys yn yw : Int32} {tip pc : Nat} {ic so oc am hg par cn tx st po : Nat → Nat} {sl gd : Nat → Bool} {wi lk wk bw od xo ch li sp qu sk yp yl yt ho yk yq yo : Nat → Int32} {k : Nat}
theorem cy_de_r {post : Int32 → SY → Prop} {v1 : Int32} (z : ¬ (∃ f, f < 56 ∧ v1 = nI f)) (H : post (-1) (ys, yn, yw, nI pc, nI tip, cp_A ic, cp_A (cp_hf so), cp_A (cp_hm so), wi, cp_A oc, cp_A am, lk, cp_Bo sl, cp_A (cp_ys st), cp_A par, wk, cp_A cn, cp_A tx, od, yp, yl, yt, ho, yk, cp_A po, yq, yo)) : wpY_depth post (ys, yn, yw, nI pc, nI tip, cp_A ic, cp_A (cp_hf so), cp_A (cp_hm so), wi, cp_A oc, cp_A am, lk, cp_Bo sl, cp_A (cp_ys st), cp_A par, wk, cp_A cn, cp_A tx, od, yp, yl, yt, ho, yk, cp_A po, yq, yo) v1 := by
  unfold wpY_depth
  dsimp only
  exact cy_outb v1 0 55 (by decide) (by decide) (fun t h1 h2 e => absurd ⟨t, by omega, e⟩ z) (fun _ => br_f (by decide) H)
theorem cy_de_k {post : Int32 → SY → Prop} (R : cp_RR ic so oc am hg par cn tx st sl wi lk wk bw gd pc po) (htip : tip < 24) (gt : gd tip = true) {t : Nat} (ht : t < 56)
    (H0 : (¬ cp_LS hg par cn tx tip t) → ∀ yn yw yp yl yt ho yk, post 0 (ys, yn, yw, nI pc, nI tip, cp_A ic, cp_A (cp_hf so), cp_A (cp_hm so), wi, cp_A oc, cp_A am, lk, cp_Bo sl, cp_A (cp_ys st), cp_A par, wk, cp_A cn, cp_A tx, od, yp, yl, yt, ho, yk, cp_A po, yq, yo))
    (H1 : ∀ i, i ≤ hg tip → cp_inB cn tx (cp_pt par hg tip i) t → ∀ yn yw yp yl yt ho yk, post (nI (hg tip) - nI i + 1) (ys, yn, yw, nI pc, nI tip, cp_A ic, cp_A (cp_hf so), cp_A (cp_hm so), wi, cp_A oc, cp_A am, lk, cp_Bo sl, cp_A (cp_ys st), cp_A par, wk, cp_A cn, cp_A tx, od, yp, yl, yt, ho, yk, cp_A po, yq, yo)) : wpY_depth post (ys, yn, yw, nI pc, nI tip, cp_A ic, cp_A (cp_hf so), cp_A (cp_hm so), wi, cp_A oc, cp_A am, lk, cp_Bo sl, cp_A (cp_ys st), cp_A par, wk, cp_A cn, cp_A tx, od, yp, yl, yt, ho, yk, cp_A po, yq, yo) (nI t) := by
  unfold wpY_depth
  dsimp only
  refine cy_outb (nI t) 0 55 (by decide) (by decide) (fun _ _ _ _ => br_t rfl ?_) (fun z => absurd ⟨t, by omega, by omega, rfl⟩ z)
  have i56 : vp_in (nI t) 56 := vp_in_nI ht (by decide)
  refine cy_rt0 (yn := yn) (yw := yw) R.1 R.2.1 htip gt (fun yp yl yt ho yk _ hl hs hH => ?_)
  have tl : cp_TF (yl (nI t).toNatClampNeg) (cp_LS hg par cn tx tip t) := by
    rw [nI_clamp (by omega)]
    exact hl _ ht
  refine And.intro i56 (cp_TF_br tl (fun z => H0 z _ _ _ _ _ _ _) (fun z => And.intro i56 ?_))
  obtain ⟨i, hi, e, hB⟩ := hH t ht z
  have ee : nI (hg tip + 1) - 1 - ho (nI t).toNatClampNeg + 1 = nI (hg tip) - nI i + 1 := by
    rw [nI_clamp (by omega), e, nI_pred]
  have h := H1 i (by omega) hB (nI (hg tip + 1)) (bw tip) yp yl yt ho yk
  rw [← ee] at h
  exact h
end
theorem i_vc_depth {k : Nat} {u : SX} {v : SY} (I : i_Rel k u v) (hk : k + 5 ≤ 2560) (v1 : Int32) : wpX_depth (fun r => wpY_depth (fun r' v' => r' = r ∧ i_Rel (k + 5) u v') v v1) u v1 := by
  obtain ⟨sb, qc, ys, yn, yw, tip, pc, ic, so, oc, am, hg, par, cn, tx, st, po, sl, gd, wi, lk, wk, bw, od, xo, ch, li, sp, qu, sk, yp, yl, yt, ho, yk, yq, yo, rfl, rfl, R, htip, gt, RC, O, hsb, hxo⟩ := I
  have I' : i_Rel (k + 5) (sb, nI tip, nI pc, qc, cp_A ic, cp_A so, wi, xo, cp_Bo sl, cp_A am, lk, cp_A st, cp_A par, wk, cp_A cn, cp_A tx, od, cp_A hg, bw, cp_Bo gd, ch, cp_A po, li, sp, qu, sk) (ys, yn, yw, nI pc, nI tip, cp_A ic, cp_A (cp_hf so), cp_A (cp_hm so), wi, cp_A oc, cp_A am, lk, cp_Bo sl, cp_A (cp_ys st), cp_A par, wk, cp_A cn, cp_A tx, od, yp, yl, yt, ho, yk, cp_A po, yq, yo) := cp_mk R htip gt RC O hsb hxo
  have ct := R.2.1.2.2.2.1 tip htip gt
  have hh := cp_RT_hg R.2.1 htip ct
  rcases cp_rng v1 (n := 56) (by decide) with ⟨a, c⟩ | ⟨a, c, d⟩ | ⟨a, c, t, ht, e⟩
  · exact br_t a (cy_de_r c ⟨rfl, I'⟩)
  · exact br_f a (br_f (Int32.not_lt.mpr c) (cy_de_r d ⟨rfl, I'⟩))
  · subst e
    refine br_f a (br_t (Int32.not_le.mp c) (And.intro (vp_in_nI htip (by decide)) (nm_r (cp_rd hg (by omega)) (Exists.intro (hg tip + 1 + 1) (cx_de24 R.1 R.2.1.1 htip ct hh RC ht (fun h => ?_) (fun i hi h => ?_) (hg tip + 1) 0 (by omega) (fun q hq => absurd hq (Nat.not_lt_zero _)))))))
    · exact cy_de_k R htip gt ht (fun _ yn yw yp yl yt ho yk => ⟨rfl, cp_mk R htip gt RC O hsb hxo⟩) (fun i hi hB => absurd hB (h i hi))
    · refine cy_de_k R htip gt ht (fun z => absurd ⟨i, hi, h⟩ z) (fun j hj hB yn yw yp yl yt ho yk => ⟨?_, cp_mk R htip gt RC O hsb hxo⟩)
      have e : j = i := by
        by_cases l1 : j < i
        · exact absurd h (cp_once R.1 R.2.1 (hg tip) tip htip gt rfl j i t l1 hi hB)
        · by_cases l2 : i < j
          · exact absurd hB (cp_once R.1 R.2.1 (hg tip) tip htip gt rfl i j t l2 hj h)
          · omega
      rw [e]
