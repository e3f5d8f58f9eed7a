/-! Y: the best block, offers, the taking of a block -/
section
variable {ys yn yw : Int32} {tip pc : Nat} {ic so oc am hg par cn tx st po : Nat → Nat} {sl gd : Nat → Bool} {wi lk wk bw od yp yl yt ho yk yq yo : Nat → Int32}
theorem cp_bt_k {k : Nat} (h : gd k = true ∧ (bw (cp_bt gd bw od k) < bw k ∨ (bw k = bw (cp_bt gd bw od k) ∧ od k < od (cp_bt gd bw od k)))) : cp_bt gd bw od (k + 1) = k := by
  rw [cp_bt, if_pos h]
theorem cp_bt_p {k : Nat} (h : ¬ (gd k = true ∧ (bw (cp_bt gd bw od k) < bw k ∨ (bw k = bw (cp_bt gd bw od k) ∧ od k < od (cp_bt gd bw od k))))) : cp_bt gd bw od (k + 1) = cp_bt gd bw od k := by
  rw [cp_bt, if_neg h]
theorem cy_ft6 {post : SY → Prop} (B : cp_RB ic so oc am hg par cn tx st sl wi lk) (R : cp_RT ic so oc am hg par cn tx st sl wi lk wk bw gd) (O : cp_RO par st) (H : ∀ yn yw yp yl yt ho yk, post (ys, yn, yw, nI pc, nI (cp_bt gd bw od 24), cp_A ic, cp_A (cp_hf so), cp_A (cp_hm so), wi, cp_A oc, cp_A am, lk, cp_Bo sl, cp_A (cp_ys st), cp_A par, wk, cp_A cn, cp_A tx, od, yp, yl, yt, ho, yk, cp_A po, yq, yo)) : ∀ (d k : Nat) (yn yw : Int32) (yp yl yt ho yk : Nat → Int32), k + d = 24 → 1 ≤ k → wY_findTip_6 post (d + 1) (nI (cp_bt gd bw od k)) (bw (cp_bt gd bw od k)) (nI k) ys yn yw (nI pc) (nI tip) (cp_A ic) (cp_A (cp_hf so)) (cp_A (cp_hm so)) wi (cp_A oc) (cp_A am) lk (cp_Bo sl) (cp_A (cp_ys st)) (cp_A par) wk (cp_A cn) (cp_A tx) od yp yl yt ho yk (cp_A po) yq yo := by
  intro d
  induction d with
  | zero =>
    intro k yn yw yp yl yt ho yk hk h1
    refine pk_le 24 k (fun _ => ?_) (fun z => False.elim (by omega))
    rw [show k = 24 from by omega]
    exact H yn yw yp yl yt ho yk
  | succ d ih =>
    intro k yn yw yp yl yt ho yk hk h1
    have hp : cp_bt gd bw od k < 24 := by
      have := cp_bt_lt gd bw od (k - 1)
      rw [show k - 1 + 1 = k from by omega] at this
      omega
    have ik : vp_in (nI k) 24 := vp_in_nI (by omega) (by decide)
    have ip : vp_in (nI (cp_bt gd bw od k)) 24 := vp_in_nI hp (by decide)
    have sl2 := cp_ys_le B k
    have keep : ¬ (gd k = true ∧ (bw (cp_bt gd bw od k) < bw k ∨ (bw k = bw (cp_bt gd bw od k) ∧ od k < od (cp_bt gd bw od k)))) → ∀ (yn yw : Int32) (yp yl yt ho yk : Nat → Int32), wY_findTip_6 post (d + 1) (nI (cp_bt gd bw od k)) (bw (cp_bt gd bw od k)) (nI (k + 1)) ys yn yw (nI pc) (nI tip) (cp_A ic) (cp_A (cp_hf so)) (cp_A (cp_hm so)) wi (cp_A oc) (cp_A am) lk (cp_Bo sl) (cp_A (cp_ys st)) (cp_A par) wk (cp_A cn) (cp_A tx) od yp yl yt ho yk (cp_A po) yq yo := by
      intro h yn yw yp yl yt ho yk
      have z := ih (k + 1) yn yw yp yl yt ho yk (by omega) (by omega)
      rw [cp_bt_p h] at z
      exact z
    have take : (gd k = true ∧ (bw (cp_bt gd bw od k) < bw k ∨ (bw k = bw (cp_bt gd bw od k) ∧ od k < od (cp_bt gd bw od k)))) → ∀ (yn yw : Int32) (yp yl yt ho yk : Nat → Int32), wY_findTip_6 post (d + 1) (nI k) (bw k) (nI (k + 1)) ys yn yw (nI pc) (nI tip) (cp_A ic) (cp_A (cp_hf so)) (cp_A (cp_hm so)) wi (cp_A oc) (cp_A am) lk (cp_Bo sl) (cp_A (cp_ys st)) (cp_A par) wk (cp_A cn) (cp_A tx) od yp yl yt ho yk (cp_A po) yq yo := by
      intro h yn yw yp yl yt ho yk
      have z := ih (k + 1) yn yw yp yl yt ho yk (by omega) (by omega)
      rw [cp_bt_k h] at z
      exact z
    refine pk_le 24 k (fun z => False.elim (by omega)) (fun _ => And.intro ik (pk_eq (cp_ys st k) 2 (fun e => ?_) (fun e => nm_r (nI_1 k) (keep (fun y => e (cp_ys3 (R.2.2.2.1 k (by omega) y.1))) _ _ _ _ _ _ _)) (cp_rd (cp_ys st) (by omega)) rfl))
    by_cases c : st k = 3
    · refine cy_cht (yw := yw) B R (by omega) c (fun yp' hyp => br_f (by decide) (cy_rp B R (by omega) c hyp (fun yl' yt' ho' yk' ng => br_t rfl (nm_r (nI_1 k) (keep (fun y => ng y.1) _ _ _ _ _ _ _))) (fun yl' yt' ho' yk' g _ _ _ => br_f (by decide) ?_)))
      refine br_c (fun a => nm_r (nI_1 k) (take ⟨g, Or.inl a⟩ _ _ _ _ _ _ _)) (fun a => br_c (fun b => And.intro ik (And.intro ip (br_c (fun o => nm_r (nI_1 k) (keep (fun y => y.2.elim a (fun z => ?_)) _ _ _ _ _ _ _)) (fun o => nm_r (nI_1 k) (take ⟨g, Or.inr ⟨b, ?_⟩⟩ _ _ _ _ _ _ _))))) (fun b => nm_r (nI_1 k) (keep (fun y => y.2.elim a (fun z => b z.1)) _ _ _ _ _ _ _)))
      · rw [cp_rw od (by omega), cp_rw od (by omega)] at o
        exact Int32.not_lt.mpr o z.2
      · rw [cp_rw od (by omega), cp_rw od (by omega)] at o
        exact Int32.not_le.mp o
    · exact cy_chf (yw := yw) B R.1.1 O (by omega) c (fun yp' yn' yw' => br_t rfl (nm_r (nI_1 k) (keep (fun y => c (R.2.2.2.1 k (by omega) y.1)) _ _ _ _ _ _ _)))
theorem cy_find {post : SY → Prop} (B : cp_RB ic so oc am hg par cn tx st sl wi lk) (R : cp_RT ic so oc am hg par cn tx st sl wi lk wk bw gd) (O : cp_RO par st) (H : ∀ yn yw yp yl yt ho yk, post (ys, yn, yw, nI pc, nI (cp_bt gd bw od 24), cp_A ic, cp_A (cp_hf so), cp_A (cp_hm so), wi, cp_A oc, cp_A am, lk, cp_Bo sl, cp_A (cp_ys st), cp_A par, wk, cp_A cn, cp_A tx, od, yp, yl, yt, ho, yk, cp_A po, yq, yo)) : wpY_findTip post (ys, yn, yw, nI pc, nI tip, cp_A ic, cp_A (cp_hf so), cp_A (cp_hm so), wi, cp_A oc, cp_A am, lk, cp_Bo sl, cp_A (cp_ys st), cp_A par, wk, cp_A cn, cp_A tx, od, yp, yl, yt, ho, yk, cp_A po, yq, yo) := by
  have z := cy_ft6 (ys := ys) (pc := pc) (tip := tip) (ic := ic) (so := so) (wi := wi) (oc := oc) (am := am) (lk := lk) (sl := sl) (st := st) (par := par) (wk := wk) (cn := cn) (tx := tx) (od := od) (po := po) (yq := yq) (yo := yo) B R O H 23 1 yn yw yp yl yt ho yk (by omega) (Nat.le_refl _)
  rw [cp_bt_1, R.2.1.2.2.2.1] at z
  exact Exists.intro 24 z
theorem cy_on2 {post : Int32 → Prop} (T : cp_Tr hg par st) {a c : Nat} (ha : a < 24) (ca : st a = 3) (hh : hg a < 24) (hc : c < 24) (hyp : ∀ i, i ≤ hg a → yp i = nI (cp_pt par hg a i)) (H : ∀ r, cp_TF r (∃ i, i < hg a + 1 ∧ cp_pt par hg a i = c) → post r) : ∀ (d i : Nat), i + d = hg a + 1 → (∀ q, q < i → cp_pt par hg a q ≠ c) → wY_onChain_2 post (nI c) ys (nI (hg a + 1)) yw (nI pc) (nI tip) (cp_A ic) (cp_A (cp_hf so)) (cp_A (cp_hm so)) wi (cp_A oc) (cp_A am) lk (cp_Bo sl) (cp_A (cp_ys st)) (cp_A par) wk (cp_A cn) (cp_A tx) od yp yl yt ho yk (cp_A po) yq yo (d + 1) (nI i) := by
  intro d
  induction d with
  | zero =>
    intro i hi h
    exact pk_le (hg a + 1) i (fun _ => H 0 (cp_TF_F (fun ⟨q, hq, e⟩ => h q (by omega) e))) (fun z => False.elim (by omega))
  | succ d ih =>
    intro i hi h
    have pi := cp_pt_in T ha ca (i := i) (by omega)
    refine pk_le (hg a + 1) i (fun z => False.elim (by omega)) (fun _ => And.intro (vp_in_nI (by omega) (by decide)) (pk_eq (cp_pt par hg a i) c (fun e => H 1 (cp_TF_T ⟨i, by omega, e⟩)) (fun e => nm_r (nI_1 i) (ih (i + 1) (by omega) ?_)) ?_ rfl))
    · intro q hq
      by_cases z : q = i
      · rw [z]
        exact e
      · exact h q (by omega)
    · rw [nI_clamp (by omega)]
      exact hyp i (by omega)
theorem cy_on {post : Int32 → Prop} (T : cp_Tr hg par st) {a c : Nat} (ha : a < 24) (ca : st a = 3) (hh : hg a < 24) (hc : c < 24) (hyp : ∀ i, i ≤ hg a → yp i = nI (cp_pt par hg a i)) (H : ∀ r, cp_TF r (∃ i, i < hg a + 1 ∧ cp_pt par hg a i = c) → post r) : wpY_onChain post (ys, (nI (hg a + 1)), yw, nI pc, nI tip, cp_A ic, cp_A (cp_hf so), cp_A (cp_hm so), wi, cp_A oc, cp_A am, lk, cp_Bo sl, cp_A (cp_ys st), cp_A par, wk, cp_A cn, cp_A tx, od, yp, yl, yt, ho, yk, cp_A po, yq, yo) (nI c) :=
  Exists.intro (hg a + 1 + 1) (cy_on2 T ha ca hh hc hyp H (hg a + 1) 0 (by omega) (fun q hq => absurd hq (Nat.not_lt_zero _)))
theorem cy_off {post : Int32 → SY → Prop} (R : cp_RR ic so oc am hg par cn tx st sl wi lk wk bw gd pc po) {t : Nat} (ht : t < 32) (htip : tip < 24) (gt : gd tip = true)
    (H0 : ∀ yn yw yp yl yt ho yk, ¬ cp_AF ic so oc am hg par cn tx sl wi lk tip pc po t → post 0 (ys, yn, yw, nI pc, nI tip, cp_A ic, cp_A (cp_hf so), cp_A (cp_hm so), wi, cp_A oc, cp_A am, lk, cp_Bo sl, cp_A (cp_ys st), cp_A par, wk, cp_A cn, cp_A tx, od, yp, yl, yt, ho, yk, cp_A po, yq, yo))
    (H1 : ∀ yn yw yp yl yt ho yk, cp_AF ic so oc am hg par cn tx sl wi lk tip pc po t → post 1 (ys, yn, yw, nI (pc + 1), nI tip, cp_A ic, cp_A (cp_hf so), cp_A (cp_hm so), wi, cp_A oc, cp_A am, lk, cp_Bo sl, cp_A (cp_ys st), cp_A par, wk, cp_A cn, cp_A tx, od, yp, yl, yt, ho, yk, cp_A (cp_up po pc t), yq, yo)) : wpY_offer post (ys, yn, yw, nI pc, nI tip, cp_A ic, cp_A (cp_hf so), cp_A (cp_hm so), wi, cp_A oc, cp_A am, lk, cp_Bo sl, cp_A (cp_ys st), cp_A par, wk, cp_A cn, cp_A tx, od, yp, yl, yt, ho, yk, cp_A po, yq, yo) (nI t) := by
  have q1 := R.2.2.1
  have ct := R.2.1.2.2.2.1 tip htip gt
  have hh := cp_RT_hg R.2.1 htip ct
  refine cy_out (nI t) 0 31 (by decide) (by decide) (fun r hr => cp_TF_br hr (fun _ => ?_) (fun z => absurd ⟨t, Nat.zero_le _, by omega, rfl⟩ z))
  refine pk_eq pc 8 (fun e => H0 _ _ _ _ _ _ _ (fun y => by have := y.1; omega)) (fun e => ?_)
  refine cy_rt1 (yw := yw) (yn := yn) R htip gt (fun yp' yl' yt' ho' yk' hl hs hL => ?_)
  refine cy_ft R.1 ht (by omega) hl hs hL (fun r2 yk2 h2 => cp_TF_br h2 (fun z => H0 _ _ _ _ _ _ _ (fun y => z y.2)) (fun z => And.intro (vp_in_nI (by omega) (by decide)) (nm_r (cp_wr po t (by omega)) (nm_r (nI_1 pc) (H1 _ _ _ _ _ _ _ ⟨by omega, z⟩)))))
theorem cy_ob4 {post : SY → Prop} {c : Nat} (hc : c < 24) (hcn : cn c ≤ 3) (htip : tip < 24) (gt : gd tip = true) {q : Nat × (Nat → Nat)}
    (H : ∀ pc po yn yw yp yl yt ho yk, cp_RR ic so oc am hg par cn tx st sl wi lk wk bw gd pc po → (pc, po) = cp_fo ic so oc am hg par cn tx sl wi lk tip q (cp_ct tx c (cn c)) → post (ys, yn, yw, nI pc, nI tip, cp_A ic, cp_A (cp_hf so), cp_A (cp_hm so), wi, cp_A oc, cp_A am, lk, cp_Bo sl, cp_A (cp_ys st), cp_A par, wk, cp_A cn, cp_A tx, od, yp, yl, yt, ho, yk, cp_A po, yq, yo)) : ∀ (d i pc : Nat) (po : Nat → Nat) (yn yw : Int32) (yp yl yt ho yk : Nat → Int32), i + d = cn c → cp_RR ic so oc am hg par cn tx st sl wi lk wk bw gd pc po → (pc, po) = cp_fo ic so oc am hg par cn tx sl wi lk tip q (cp_ct tx c i) → wY_offerBlock_4 post (nI c) (d + 1) (nI (3 * c + i)) ys yn yw (nI pc) (nI tip) (cp_A ic) (cp_A (cp_hf so)) (cp_A (cp_hm so)) wi (cp_A oc) (cp_A am) lk (cp_Bo sl) (cp_A (cp_ys st)) (cp_A par) wk (cp_A cn) (cp_A tx) od yp yl yt ho yk (cp_A po) yq yo := by
  have e0 : (3 : Int32) * nI c + cp_A cn (nI c).toNatClampNeg = nI (3 * c + cn c) := by
    rw [cp_rd cn (by omega), cp_3a]
  intro d
  induction d with
  | zero =>
    intro i pc po yn yw yp yl yt ho yk hi R hf
    have ei : i = cn c := by omega
    rw [ei] at hf
    exact And.intro (vp_in_nI hc (by decide)) (pk_le (3 * c + cn c) (3 * c + i) (fun _ => H pc po yn yw yp yl yt ho yk R hf) (fun z => False.elim (by omega)) e0 rfl)
  | succ d ih =>
    intro i pc po yn yw yp yl yt ho yk hi R hf
    have t32 := cp_RB_tx R.1 (3 * c + i)
    refine And.intro (vp_in_nI hc (by decide)) (pk_le (3 * c + cn c) (3 * c + i) (fun z => False.elim (by omega)) (fun _ => And.intro (vp_in_nI (by omega) (by decide)) ?_) e0 rfl)
    rw [cp_rd tx (by omega)]
    have es : cp_fo ic so oc am hg par cn tx sl wi lk tip q (cp_ct tx c (i + 1)) = cp_ad ic so oc am hg par cn tx sl wi lk tip (pc, po) (tx (3 * c + i)) := by
      show cp_fo ic so oc am hg par cn tx sl wi lk tip q (cp_ct tx c i ++ [tx (3 * c + i)]) = _
      rw [cp_fo_app, ← hf, cp_fo_1]
    refine cy_off R t32 htip gt (fun yn yw yp yl yt ho yk h0 => nm_r (nI_1 _) (ih (i + 1) pc po yn yw yp yl yt ho yk (by omega) R (by rw [es, cp_ad_f h0]))) (fun yn yw yp yl yt ho yk h1 => nm_r (nI_1 _) (ih (i + 1) (pc + 1) (cp_up po pc (tx (3 * c + i))) yn yw yp yl yt ho yk (by omega) (cp_ad_RR R htip gt t32 h1) (by rw [es, cp_ad_t h1])))
theorem cy_ob {post : SY → Prop} (R : cp_RR ic so oc am hg par cn tx st sl wi lk wk bw gd pc po) {c : Nat} (hc : c < 24) (htip : tip < 24) (gt : gd tip = true)
    (H : ∀ pc' po' yn yw yp yl yt ho yk, cp_RR ic so oc am hg par cn tx st sl wi lk wk bw gd pc' po' → (pc', po') = cp_fo ic so oc am hg par cn tx sl wi lk tip (pc, po) (cp_ct tx c (cn c)) → post (ys, yn, yw, nI pc', nI tip, cp_A ic, cp_A (cp_hf so), cp_A (cp_hm so), wi, cp_A oc, cp_A am, lk, cp_Bo sl, cp_A (cp_ys st), cp_A par, wk, cp_A cn, cp_A tx, od, yp, yl, yt, ho, yk, cp_A po', yq, yo)) : wpY_offerBlock post (ys, yn, yw, nI pc, nI tip, cp_A ic, cp_A (cp_hf so), cp_A (cp_hm so), wi, cp_A oc, cp_A am, lk, cp_Bo sl, cp_A (cp_ys st), cp_A par, wk, cp_A cn, cp_A tx, od, yp, yl, yt, ho, yk, cp_A po, yq, yo) (nI c) :=
  nm_r (cp_3m c) (Exists.intro (cn c + 1) (cy_ob4 hc (cp_RB_cn R.1 c) htip gt H (cn c) 0 pc po yn yw yp yl yt ho yk (by omega) R rfl))
theorem cy_a148 {post : Int32 → SY → Prop} {pc0 : Nat} {po0 : Nat → Nat} (hp : pc0 ≤ 8) (hpo : ∀ i, i < pc0 → po0 i < 32) (hyq : ∀ i, i < 8 → yq i = nI (po0 i)) (htip : tip < 24) (gt : gd tip = true) {q : Nat × (Nat → Nat)} {l : List Nat}
    (H : ∀ pc po yn yw yp yl yt ho yk, cp_RR ic so oc am hg par cn tx st sl wi lk wk bw gd pc po → (pc, po) = cp_fo ic so oc am hg par cn tx sl wi lk tip q (l ++ cp_pl po0 pc0) → post 1 (ys, yn, yw, nI pc, nI tip, cp_A ic, cp_A (cp_hf so), cp_A (cp_hm so), wi, cp_A oc, cp_A am, lk, cp_Bo sl, cp_A (cp_ys st), cp_A par, wk, cp_A cn, cp_A tx, od, yp, yl, yt, ho, yk, cp_A po, yq, yo)) : ∀ (d i pc : Nat) (po : Nat → Nat) (yn yw : Int32) (yp yl yt ho yk : Nat → Int32), i + d = pc0 → cp_RR ic so oc am hg par cn tx st sl wi lk wk bw gd pc po → (pc, po) = cp_fo ic so oc am hg par cn tx sl wi lk tip q (l ++ cp_pl po0 i) → wY_advance_148 post (nI pc0) (d + 1) (nI i) ys yn yw (nI pc) (nI tip) (cp_A ic) (cp_A (cp_hf so)) (cp_A (cp_hm so)) wi (cp_A oc) (cp_A am) lk (cp_Bo sl) (cp_A (cp_ys st)) (cp_A par) wk (cp_A cn) (cp_A tx) od yp yl yt ho yk (cp_A po) yq yo := by
  intro d
  induction d with
  | zero =>
    intro i pc po yn yw yp yl yt ho yk hi R hf
    have ei : i = pc0 := by omega
    rw [ei] at hf
    exact pk_le pc0 i (fun _ => H pc po yn yw yp yl yt ho yk R hf) (fun z => False.elim (by omega))
  | succ d ih =>
    intro i pc po yn yw yp yl yt ho yk hi R hf
    have t32 := hpo i (by omega)
    have e : yq (nI i).toNatClampNeg = nI (po0 i) := by
      rw [nI_clamp (by omega)]
      exact hyq i (by omega)
    refine pk_le pc0 i (fun z => False.elim (by omega)) (fun _ => And.intro (vp_in_nI (by omega) (by decide)) ?_)
    rw [e]
    have es : cp_fo ic so oc am hg par cn tx sl wi lk tip q (l ++ cp_pl po0 (i + 1)) = cp_ad ic so oc am hg par cn tx sl wi lk tip (pc, po) (po0 i) := by
      show cp_fo ic so oc am hg par cn tx sl wi lk tip q (l ++ (cp_pl po0 i ++ [po0 i])) = _
      rw [← List.append_assoc, cp_fo_app, ← hf, cp_fo_1]
    refine cy_off R t32 htip gt (fun yn yw yp yl yt ho yk h0 => nm_r (nI_1 _) (ih (i + 1) pc po yn yw yp yl yt ho yk (by omega) R (by rw [es, cp_ad_f h0]))) (fun yn yw yp yl yt ho yk h1 => nm_r (nI_1 _) (ih (i + 1) (pc + 1) (cp_up po pc (po0 i)) yn yw yp yl yt ho yk (by omega) (cp_ad_RR R htip gt t32 h1) (by rw [es, cp_ad_t h1])))
/-- the blocks of the old chain (of a), in order; the tip is the new one -/
theorem cy_a99 {post : Int32 → SY → Prop} (B : cp_RB ic so oc am hg par cn tx st sl wi lk) (T : cp_RT ic so oc am hg par cn tx st sl wi lk wk bw gd) {pc0 a F : Nat} {po0 : Nat → Nat} (hp : pc0 ≤ 8) (hpo : ∀ i, i < pc0 → po0 i < 32) (hyq : ∀ i, i < 8 → yq i = nI (po0 i)) (ha : a < 24) (ca : st a = 3) (hyo : ∀ i, i ≤ hg a → yo i = nI (cp_pt par hg a i)) (htip : tip < 24) (gt : gd tip = true) (K : cp_Fk hg par tip a F)
    (H : ∀ pc po yn yw yp yl yt ho yk, cp_RR ic so oc am hg par cn tx st sl wi lk wk bw gd pc po → (pc, po) = cp_fo ic so oc am hg par cn tx sl wi lk tip (0, po0) (cp_ql hg par cn tx a F (hg a + 1) ++ cp_pl po0 pc0) → post 1 (ys, yn, yw, nI pc, nI tip, cp_A ic, cp_A (cp_hf so), cp_A (cp_hm so), wi, cp_A oc, cp_A am, lk, cp_Bo sl, cp_A (cp_ys st), cp_A par, wk, cp_A cn, cp_A tx, od, yp, yl, yt, ho, yk, cp_A po, yq, yo)) : ∀ (d i pc : Nat) (po : Nat → Nat) (yn yw : Int32) (yp yl yt ho yk : Nat → Int32), i + d = hg a + 1 → cp_RR ic so oc am hg par cn tx st sl wi lk wk bw gd pc po → (pc, po) = cp_fo ic so oc am hg par cn tx sl wi lk tip (0, po0) (cp_ql hg par cn tx a F i) → wY_advance_99 post (nI (hg a + 1)) (nI pc0) (d + 1) (nI i) ys yn yw (nI pc) (nI tip) (cp_A ic) (cp_A (cp_hf so)) (cp_A (cp_hm so)) wi (cp_A oc) (cp_A am) lk (cp_Bo sl) (cp_A (cp_ys st)) (cp_A par) wk (cp_A cn) (cp_A tx) od yp yl yt ho yk (cp_A po) yq yo := by
  have ct := T.2.2.2.1 tip htip gt
  have hh := cp_RT_hg T htip ct
  have hha := cp_RT_hg T ha ca
  intro d
  induction d with
  | zero =>
    intro i pc po yn yw yp yl yt ho yk hi R hf
    have ei : i = hg a + 1 := by omega
    rw [ei] at hf
    exact pk_le (hg a + 1) i (fun _ => Exists.intro (pc0 + 1) (cy_a148 hp hpo hyq htip gt H pc0 0 pc po yn yw yp yl yt ho yk (by omega) R (by rw [hf]; exact congrArg _ (List.append_nil _).symm))) (fun z => False.elim (by omega))
  | succ d ih =>
    intro i pc po yn yw yp yl yt ho yk hi R hf
    have pi := cp_pt_in T.1 ha ca (i := i) (by omega)
    have e : yo (nI i).toNatClampNeg = nI (cp_pt par hg a i) := by
      rw [nI_clamp (by omega)]
      exact hyo i (by omega)
    have i24 : vp_in (nI i) 24 := vp_in_nI (by omega) (by decide)
    refine pk_le (hg a + 1) i (fun z => False.elim (by omega)) (fun _ => cy_cht (yw := yw) B T htip ct (fun yp' hyp => And.intro i24 ?_))
    rw [e]
    refine cy_on T.1 htip ct hh pi hyp (fun r hr => cp_TF_br hr (fun z => And.intro i24 ?_) (fun z => nm_r (nI_1 i) (ih (i + 1) pc po _ _ _ _ _ _ _ (by omega) R ?_)))
    · have nz : F < i := by
        by_cases y : i ≤ F
        · exact absurd ((cp_Fk_on T.1 htip ct ha ca K (h := i) (by omega)).mpr y) z
        · omega
      refine cy_ob R pi htip gt (fun pc' po' yn yw yp yl yt ho yk R' hf' => nm_r (nI_1 i) (ih (i + 1) pc' po' yn yw yp yl yt ho yk (by omega) R' ?_))
      show (pc', po') = cp_fo ic so oc am hg par cn tx sl wi lk tip (0, po0) (cp_ql hg par cn tx a F i ++ (if F < i then cp_ct tx (cp_pt par hg a i) (cn (cp_pt par hg a i)) else []))
      rw [if_pos nz, cp_fo_app, ← hf]
      exact hf'
    · have y := (cp_Fk_on T.1 htip ct ha ca K (h := i) (by omega)).mp z
      show (pc, po) = cp_fo ic so oc am hg par cn tx sl wi lk tip (0, po0) (cp_ql hg par cn tx a F i ++ (if F < i then cp_ct tx (cp_pt par hg a i) (cn (cp_pt par hg a i)) else []))
      rw [if_neg (by omega), List.append_nil]
      exact hf
theorem cp_cpy {f g : Nat → Int32} {n k : Nat} (h : ∀ i, i < k → g i = f i) : ∀ i, i < k + 1 → upd g k (f k) i = f i := by
  intro i hi
  by_cases e : i = k
  · rw [e, pk_us]
  · rw [pk_un e]
    exact h i (by omega)
theorem cy_a50 {post : Int32 → SY → Prop} {x1 x2 x3 : Int32} (H : ∀ yq', (∀ i, i < 8 → yq' i = nI (po i)) → wpY_findTip (fun u => match u with | (f_submitted_2, f_length_2, f_weight_2, f_pooledCount_2, f_tipBlock_2, a_inputs_2, a_inFrom_2, a_inPlace_2, a_witness_2, a_outputs_2, a_amount_2, a_lock_2, a_sealed_2, a_state_2, a_parent_2, a_work_2, a_count_2, a_tx_2, a_order_2, a_path_2, a_listed_2, a_spent_2, a_heightOf_2, a_stack_2, a_pool_2, a_oldPool_2, a_oldPath_2) => (f_tipBlock_2 = x1 → post 0 (f_submitted_2, f_length_2, f_weight_2, f_pooledCount_2, f_tipBlock_2, a_inputs_2, a_inFrom_2, a_inPlace_2, a_witness_2, a_outputs_2, a_amount_2, a_lock_2, a_sealed_2, a_state_2, a_parent_2, a_work_2, a_count_2, a_tx_2, a_order_2, a_path_2, a_listed_2, a_spent_2, a_heightOf_2, a_stack_2, a_pool_2, a_oldPool_2, a_oldPath_2)) ∧ (¬ f_tipBlock_2 = x1 → ∃ n99 : Nat, wY_advance_99 post x2 x3 n99 0 f_submitted_2 f_length_2 f_weight_2 0 f_tipBlock_2 a_inputs_2 a_inFrom_2 a_inPlace_2 a_witness_2 a_outputs_2 a_amount_2 a_lock_2 a_sealed_2 a_state_2 a_parent_2 a_work_2 a_count_2 a_tx_2 a_order_2 a_path_2 a_listed_2 a_spent_2 a_heightOf_2 a_stack_2 a_pool_2 a_oldPool_2 a_oldPath_2)) (ys, yn, yw, nI pc, nI tip, cp_A ic, cp_A (cp_hf so), cp_A (cp_hm so), wi, cp_A oc, cp_A am, lk, cp_Bo sl, cp_A (cp_ys st), cp_A par, wk, cp_A cn, cp_A tx, od, yp, yl, yt, ho, yk, cp_A po, yq', yo)) : ∀ (d i : Nat) (yq : Nat → Int32), i + d = 8 → (∀ j, j < i → yq j = nI (po j)) → wY_advance_50 post x1 x2 x3 ys yn yw (nI pc) (nI tip) (d + 1) (nI i) (cp_A ic) (cp_A (cp_hf so)) (cp_A (cp_hm so)) wi (cp_A oc) (cp_A am) lk (cp_Bo sl) (cp_A (cp_ys st)) (cp_A par) wk (cp_A cn) (cp_A tx) od yp yl yt ho yk (cp_A po) yq yo := by
  intro d
  induction d with
  | zero =>
    intro i yq hi h
    exact pk_le 8 i (fun _ => H yq (fun j hj => h j (by omega))) (fun z => False.elim (by omega))
  | succ d ih =>
    intro i yq hi h
    have i8 : vp_in (nI i) 8 := vp_in_nI (by omega) (by decide)
    exact pk_le 8 i (fun z => False.elim (by omega)) (fun _ => And.intro i8 (And.intro i8 (nm_r (e' := upd yq i (nI (po i))) (by rw [cp_rd po (by omega), nI_clamp (by omega)]) (nm_r (nI_1 i) (ih (i + 1) _ (by omega) (cp_cpy (f := cp_A po) (n := 0) h))))))
theorem cy_a18 {post : Int32 → SY → Prop} {x1 x2 : Int32} (H : ∀ yo', (∀ i, i < 24 → yo' i = yp i) → ∃ n, wY_advance_50 post x1 x2 (nI pc) ys yn yw (nI pc) (nI tip) n 0 (cp_A ic) (cp_A (cp_hf so)) (cp_A (cp_hm so)) wi (cp_A oc) (cp_A am) lk (cp_Bo sl) (cp_A (cp_ys st)) (cp_A par) wk (cp_A cn) (cp_A tx) od yp yl yt ho yk (cp_A po) yq yo') : ∀ (d i : Nat) (yo : Nat → Int32), i + d = 24 → (∀ j, j < i → yo j = yp j) → wY_advance_18 post x1 x2 ys yn yw (nI pc) (nI tip) (d + 1) (nI i) (cp_A ic) (cp_A (cp_hf so)) (cp_A (cp_hm so)) wi (cp_A oc) (cp_A am) lk (cp_Bo sl) (cp_A (cp_ys st)) (cp_A par) wk (cp_A cn) (cp_A tx) od yp yl yt ho yk (cp_A po) yq yo := by
  intro d
  induction d with
  | zero =>
    intro i yo hi h
    exact pk_le 24 i (fun _ => H yo (fun j hj => h j (by omega))) (fun z => False.elim (by omega))
  | succ d ih =>
    intro i yo hi h
    have i8 : vp_in (nI i) 24 := vp_in_nI (by omega) (by decide)
    exact pk_le 24 i (fun z => False.elim (by omega)) (fun _ => And.intro i8 (And.intro i8 (nm_r (e' := upd yo i (yp i)) (by rw [nI_clamp (by omega)]) (nm_r (nI_1 i) (ih (i + 1) _ (by omega) (cp_cpy (n := 0) h))))))
theorem cy_adv {post : Int32 → SY → Prop} (R : cp_RR ic so oc am hg par cn tx st sl wi lk wk bw gd pc po) (O : cp_RO par st) (htip : tip < 24) (gt : gd tip = true) {F : Nat} (K : cp_bt gd bw od 24 ≠ tip → cp_Fk hg par (cp_bt gd bw od 24) tip F)
    (H0 : cp_bt gd bw od 24 = tip → ∀ yn yw yp yl yt ho yk yq yo, post 0 (ys, yn, yw, nI pc, nI tip, cp_A ic, cp_A (cp_hf so), cp_A (cp_hm so), wi, cp_A oc, cp_A am, lk, cp_Bo sl, cp_A (cp_ys st), cp_A par, wk, cp_A cn, cp_A tx, od, yp, yl, yt, ho, yk, cp_A po, yq, yo))
    (H1 : cp_bt gd bw od 24 ≠ tip → ∀ pc' po' yn yw yp yl yt ho yk yq yo, cp_RR ic so oc am hg par cn tx st sl wi lk wk bw gd pc' po' → (pc', po') = cp_fo ic so oc am hg par cn tx sl wi lk (cp_bt gd bw od 24) (0, po) (cp_ql hg par cn tx tip F (hg tip + 1) ++ cp_pl po pc) → post 1 (ys, yn, yw, nI pc', nI (cp_bt gd bw od 24), cp_A ic, cp_A (cp_hf so), cp_A (cp_hm so), wi, cp_A oc, cp_A am, lk, cp_Bo sl, cp_A (cp_ys st), cp_A par, wk, cp_A cn, cp_A tx, od, yp, yl, yt, ho, yk, cp_A po', yq, yo)) : wpY_advance post (ys, yn, yw, nI pc, nI tip, cp_A ic, cp_A (cp_hf so), cp_A (cp_hm so), wi, cp_A oc, cp_A am, lk, cp_Bo sl, cp_A (cp_ys st), cp_A par, wk, cp_A cn, cp_A tx, od, yp, yl, yt, ho, yk, cp_A po, yq, yo) := by
  obtain ⟨B, T, q1, q2⟩ := R
  have ct := T.2.2.2.1 tip htip gt
  have hh := cp_RT_hg T htip ct
  have hb : cp_bt gd bw od 24 < 24 := Nat.lt_succ_of_le (cp_bt_lt gd bw od 23)
  have gb : gd (cp_bt gd bw od 24) = true := cp_bt_gd bw od T.2.1.2.2.1 24
  refine cy_cht (yw := yw) B T htip ct (fun yp' hyp => Exists.intro 25 (cy_a18 (fun yo' hyo => Exists.intro 9 (cy_a50 (fun yq' hyq => ?_) 8 0 yq (by omega) (fun j hj => absurd hj (Nat.not_lt_zero _)))) 24 0 yo (by omega) (fun j hj => absurd hj (Nat.not_lt_zero _))))
  refine cy_find B T O (fun yn yw yp yl yt ho yk => pk_eq (cp_bt gd bw od 24) tip (fun e => ?_) (fun ne => ?_))
  · have z := H0 e yn yw yp yl yt ho yk yq' yo'
    rw [e]
    exact z
  · exact Exists.intro (hg tip + 1 + 1) (cy_a99 B T q1 (fun i hi => (q2 i hi).1) hyq htip ct (fun i hi => by rw [hyo i (by omega)]; exact hyp i hi) hb gb (K ne) (fun pc' po' yn yw yp yl yt ho yk R' hf' => H1 ne pc' po' yn yw yp yl yt ho yk yq' yo' R' hf') (hg tip + 1) 0 0 po yn yw yp yl yt ho yk (by omega) ⟨B, T, Nat.zero_le _, fun i hi => absurd hi (Nat.not_lt_zero _)⟩ rfl)
theorem cy_sub {post : Int32 → SY → Prop} {b : Nat} (hb1 : 1 ≤ b) (hb : b < 24) (hs : st b = 1) {st' hg' : Nat → Nat} {bw' : Nat → Int32} {gd' : Nat → Bool} (hy : cp_ys st' = cp_ys (cp_up st b 2)) (R : cp_RR ic so oc am hg' par cn tx st' sl wi lk wk bw' gd' pc po) (O : cp_RO par st') (htip : tip < 24) (gt : gd' tip = true) {F : Nat}
    (K : cp_bt gd' bw' (cp_up od b (ys + 1)) 24 ≠ tip → cp_Fk hg' par (cp_bt gd' bw' (cp_up od b (ys + 1)) 24) tip F)
    (H0 : cp_bt gd' bw' (cp_up od b (ys + 1)) 24 = tip → ∀ yn yw yp yl yt ho yk yq yo, post 0 ((ys + 1), yn, yw, nI pc, nI tip, cp_A ic, cp_A (cp_hf so), cp_A (cp_hm so), wi, cp_A oc, cp_A am, lk, cp_Bo sl, cp_A (cp_ys st'), cp_A par, wk, cp_A cn, cp_A tx, (cp_up od b (ys + 1)), yp, yl, yt, ho, yk, cp_A po, yq, yo))
    (H1 : cp_bt gd' bw' (cp_up od b (ys + 1)) 24 ≠ tip → ∀ pc' po' yn yw yp yl yt ho yk yq yo, (pc', po') = cp_fo ic so oc am hg' par cn tx sl wi lk (cp_bt gd' bw' (cp_up od b (ys + 1)) 24) (0, po) (cp_ql hg' par cn tx tip F (hg' tip + 1) ++ cp_pl po pc) → post 1 ((ys + 1), yn, yw, nI pc', nI (cp_bt gd' bw' (cp_up od b (ys + 1)) 24), cp_A ic, cp_A (cp_hf so), cp_A (cp_hm so), wi, cp_A oc, cp_A am, lk, cp_Bo sl, cp_A (cp_ys st'), cp_A par, wk, cp_A cn, cp_A tx, (cp_up od b (ys + 1)), yp, yl, yt, ho, yk, cp_A po', yq, yo)) : wpY_submit post (ys, yn, yw, nI pc, nI tip, cp_A ic, cp_A (cp_hf so), cp_A (cp_hm so), wi, cp_A oc, cp_A am, lk, cp_Bo sl, cp_A (cp_ys st), cp_A par, wk, cp_A cn, cp_A tx, od, yp, yl, yt, ho, yk, cp_A po, yq, yo) (nI b) := by
  have ib : vp_in (nI b) 24 := vp_in_nI hb (by decide)
  have ey : cp_ys st b = 1 := (cp_ysn (by omega)).trans hs
  refine cy_out (nI b) 1 23 (by decide) (by decide) (fun r hr => cp_TF_br hr (fun _ => ?_) (fun z => absurd ⟨b, hb1, by omega, rfl⟩ z))
  refine And.intro ib (pk_eq (cp_ys st b) 1 (fun _ => And.intro ib (nm_r (e' := cp_A (cp_ys st')) ?_ (nm_e (And.intro ib (nm_r (e' := cp_up od b (ys + 1)) ?_ ?_))))) (fun z => absurd ey z) (cp_rd (cp_ys st) (by omega)) rfl (by omega))
  · have z : upd (cp_A (cp_ys st)) (nI b).toNatClampNeg (nI 2) = cp_A (cp_up (cp_ys st) b 2) := cp_wr (cp_ys st) 2 (by omega)
    rw [← cp_ys_up st b 2 (by decide), ← hy] at z
    exact z
  · exact cp_ww od (ys + 1) (by omega)
  · exact cy_adv R O htip gt K (fun e yn yw yp yl yt ho yk yq yo => br_t rfl (H0 e yn yw yp yl yt ho yk yq yo)) (fun ne pc' po' yn yw yp yl yt ho yk yq yo _ hf => br_f (by decide) (H1 ne pc' po' yn yw yp yl yt ho yk yq yo hf))
end
