/-! mine -/
def cp_mt (tx : Nat → Nat) (b : Nat) (po : Nat → Nat) : Nat → Nat → Nat
  | 0 => tx
  | i + 1 => cp_up (cp_mt tx b po i) (3 * b + i) (po i)
def cp_mc (cn : Nat → Nat) (b : Nat) : Nat → Nat → Nat
  | 0 => cn
  | i + 1 => cp_up (cp_mc cn b i) b (i + 1)
theorem cp_mc_b {cn : Nat → Nat} {b : Nat} (h : cn b = 0) : ∀ i, cp_mc cn b i b = i
  | 0 => h
  | i + 1 => cp_up_s
def cp_m3 (pc : Nat) : Nat := if pc < 3 then pc else 3
def cp_pf (ic so oc am po : Nat → Nat) (n : Nat) : Nat := cp_sum (fun q => cp_sd ic so am (po q) - cp_gv oc am (po q)) n
section
variable {sb qc ys yn yw : Int32} {tip pc : Nat} {ic so oc am hg par cn tx st po : Nat → Nat} {sl gd : Nat → Bool} {wi lk wk bw od xo ch li sp qu sk yp yl yt ho yk yq yo : Nat → Int32} {k : Nat}
theorem cp_m3_le (pc : Nat) : cp_m3 pc ≤ 3 ∧ cp_m3 pc ≤ pc := by
  unfold cp_m3
  split <;> omega
theorem cp_m3_lt {pc i : Nat} : i < cp_m3 pc ↔ i < pc ∧ i < 3 := by
  unfold cp_m3
  split <;> omega
theorem cp_pf_le (R : cp_RR ic so oc am hg par cn tx st sl wi lk wk bw gd pc po) : ∀ n, n ≤ pc → cp_pf ic so oc am po n ≤ 2400 * n := by
  intro n
  induction n with
  | zero =>
    intro _
    exact Nat.le_refl _
  | succ n ih =>
    intro h
    have a := ih (by omega)
    have c := (R.2.2.2 n (by omega)).2.2.2.2
    have s : cp_pf ic so oc am po (n + 1) = cp_pf ic so oc am po n + (cp_sd ic so am (po n) - cp_gv oc am (po n)) := rfl
    omega
theorem cp_mn_RR (R : cp_RR ic so oc am hg par cn tx st sl wi lk wk bw gd pc po) {b : Nat} (hb : b < 24) (hs : st b = 1) (c0 : cn b = 0) : ∀ i, i ≤ cp_m3 pc → cp_RR ic so oc am hg par (cp_mc cn b i) (cp_mt tx b po i) st sl wi lk wk bw gd pc po := by
  intro i
  induction i with
  | zero =>
    intro _
    exact R
  | succ i ih =>
    intro hi
    have h3 := (cp_m3_lt (pc := pc) (i := i)).mp (by omega)
    have Ri := ih (by omega)
    have p := Ri.2.2.2 i h3.1
    have e := cp_mc_b c0 i
    have z := cp_s_app Ri (b := b) (t := po i) hb hs (by omega) p.1 p.2.1
    rw [e] at z
    exact z
theorem cx_mn34 {post : Int32 → SX → Prop} {l : Int32} (R : cp_RR ic so oc am hg par cn tx st sl wi lk wk bw gd pc po) (hxo : ∀ t, t < 32 → xo t = nI (oc t)) {b : Nat} (hb : b < 24) (hs : st b = 1) (c0 : cn b = 0)
    (H : wX_mine_83 post (nI b) l (nI (50 + cp_pf ic so oc am po (cp_m3 pc))) sb (nI tip) (nI pc) qc (cp_A ic) (cp_A so) wi xo (cp_Bo sl) (cp_A am) lk (cp_A st) (cp_A par) wk (cp_A (cp_mc cn b (cp_m3 pc))) (cp_A (cp_mt tx b po (cp_m3 pc))) od (cp_A hg) bw (cp_Bo gd) ch (cp_A po) li sp qu sk) : ∀ (d i : Nat), i + d = cp_m3 pc → wX_mine_34 post (nI b) l (d + 1) (nI (50 + cp_pf ic so oc am po i)) (nI i) sb (nI tip) (nI pc) qc (cp_A ic) (cp_A so) wi xo (cp_Bo sl) (cp_A am) lk (cp_A st) (cp_A par) wk (cp_A (cp_mc cn b i)) (cp_A (cp_mt tx b po i)) od (cp_A hg) bw (cp_Bo gd) ch (cp_A po) li sp qu sk := by
  have p8 := R.2.2.1
  intro d
  induction d with
  | zero =>
    intro i hi
    have ei : i = cp_m3 pc := by omega
    subst ei
    have h3 : ¬ (cp_m3 pc < pc ∧ cp_m3 pc < 3) := fun z => Nat.lt_irrefl _ (cp_m3_lt.mpr z)
    exact pk_le pc (cp_m3 pc) (fun _ => H) (fun z => pk_le 3 (cp_m3 pc) (fun _ => H) (fun y => absurd ⟨z, y⟩ h3) rfl rfl (by decide) (by have := (cp_m3_le pc).1; omega)) rfl rfl (by omega) (by have := (cp_m3_le pc).1; omega)
  | succ d ih =>
    intro i hi
    have h3 := (cp_m3_lt (pc := pc) (i := i)).mp (by omega)
    have e := cp_mc_b c0 i
    have p := R.2.2.2 i h3.1
    have i8 : vp_in (nI i) 8 := vp_in_nI (by omega) (by decide)
    have Ri := cp_mn_RR R hb hs c0 (i + 1) (by omega)
    refine pk_le pc i (fun z => False.elim (by omega)) (fun _ => pk_le 3 i (fun z => False.elim (by omega)) (fun _ => And.intro i8 ?_))
    rw [cp_rd po (by omega)]
    refine cx_apd hb (by omega) ?_
    rw [e]
    refine And.intro i8 ?_
    rw [cp_rd po (by omega)]
    refine cx_su Ri.1 hxo p.1 (nm_r (e' := nI (50 + cp_pf ic so oc am po (i + 1))) ?_ (nm_r (nI_1 i) (ih (i + 1) (by omega))))
    rw [pk_sub p.2.2.2.1, nI_add, Nat.add_assoc]
    rfl
theorem cx_mn {post : Int32 → SX → Prop} {l : Int32} (R : cp_RR ic so oc am hg par cn tx st sl wi lk wk bw gd pc po) (hxo : ∀ t, t < 32 → xo t = nI (oc t)) {b : Nat} (hb : b < 24) (hs : st b = 1) (c0 : cn b = 0)
    (H : wX_mine_83 post (nI b) l (nI (50 + cp_pf ic so oc am po (cp_m3 pc))) sb (nI tip) (nI pc) qc (cp_A ic) (cp_A so) wi xo (cp_Bo sl) (cp_A am) lk (cp_A st) (cp_A par) wk (cp_A (cp_mc cn b (cp_m3 pc))) (cp_A (cp_mt tx b po (cp_m3 pc))) od (cp_A hg) bw (cp_Bo gd) ch (cp_A po) li sp qu sk) : ∃ n, wX_mine_34 post (nI b) l n 50 0 sb (nI tip) (nI pc) qc (cp_A ic) (cp_A so) wi xo (cp_Bo sl) (cp_A am) lk (cp_A st) (cp_A par) wk (cp_A cn) (cp_A tx) od (cp_A hg) bw (cp_Bo gd) ch (cp_A po) li sp qu sk :=
  Exists.intro _ (cx_mn34 R hxo hb hs c0 H (cp_m3 pc) 0 (by omega))
theorem cy_mn45 {post : Int32 → SY → Prop} {l : Int32} (R : cp_RR ic so oc am hg par cn tx st sl wi lk wk bw gd pc po) {b : Nat} (hb : b < 24) (hs : st b = 1) (c0 : cn b = 0)
    (H : wY_mine_129 post (nI b) l (nI (cp_pf ic so oc am po (cp_m3 pc))) ys yn yw (nI pc) (nI tip) (cp_A ic) (cp_A (cp_hf so)) (cp_A (cp_hm so)) wi (cp_A oc) (cp_A am) lk (cp_Bo sl) (cp_A (cp_ys st)) (cp_A par) wk (cp_A (cp_mc cn b (cp_m3 pc))) (cp_A (cp_mt tx b po (cp_m3 pc))) od yp yl yt ho yk (cp_A po) yq yo) : ∀ (d i : Nat), i + d = cp_m3 pc → wY_mine_45 post (nI b) l ys yn yw (nI pc) (nI tip) (d + 1) (nI (cp_pf ic so oc am po i)) (cp_A ic) (cp_A (cp_hf so)) (cp_A (cp_hm so)) wi (cp_A oc) (cp_A am) lk (cp_Bo sl) (cp_A (cp_ys st)) (cp_A par) wk (cp_A (cp_mc cn b i)) (cp_A (cp_mt tx b po i)) od yp yl yt ho yk (cp_A po) yq yo := by
  have p8 := R.2.2.1
  have ib : vp_in (nI b) 24 := vp_in_nI hb (by decide)
  have ec : ∀ i, cp_A (cp_mc cn b i) (nI b).toNatClampNeg = nI i := by
    intro i
    rw [cp_rd _ (by omega), cp_mc_b c0 i]
  intro d
  induction d with
  | zero =>
    intro i hi
    have ei : i = cp_m3 pc := by omega
    subst ei
    have h3 : ¬ (cp_m3 pc < pc ∧ cp_m3 pc < 3) := fun z => Nat.lt_irrefl _ (cp_m3_lt.mpr z)
    have l3 := (cp_m3_le pc).1
    exact And.intro ib (pk_le 3 (cp_m3 pc) (fun _ => H) (fun y => And.intro ib (pk_le pc (cp_m3 pc) (fun _ => H) (fun z => absurd ⟨z, y⟩ h3) rfl (ec _) (by omega) (by omega))) rfl (ec _) (by decide) (by omega))
  | succ d ih =>
    intro i hi
    have h3 := (cp_m3_lt (pc := pc) (i := i)).mp (by omega)
    have p := R.2.2.2 i h3.1
    have Ri := cp_mn_RR R hb hs c0 (i + 1) (by omega)
    have ei := ec i
    have e3 : (3 : Int32) * nI b + cp_A (cp_mc cn b i) (nI b).toNatClampNeg = nI (3 * b + i) := by
      rw [ei, cp_3a]
    refine And.intro ib (pk_le 3 i (fun z => False.elim (by omega)) (fun _ => And.intro ib (pk_le pc i (fun z => False.elim (by omega)) (fun _ => And.intro ib (And.intro (pk_in i 8 (by omega) ei) (nm_r (e' := nI (po i)) (by rw [ei, cp_rd po (by omega)]) (And.intro ib (And.intro (pk_in (3 * b + i) 72 (by omega) e3) (nm_r (e' := cp_A (cp_mt tx b po (i + 1))) (by rw [e3, cp_wr _ _ (by omega)]; rfl) (And.intro ib (And.intro ib (nm_r (e' := cp_A (cp_mc cn b (i + 1))) (by rw [ei, nI_1, cp_wr _ _ (by omega)]; rfl) ?_))))))))) rfl ei)) rfl ei)
    refine cy_sp Ri.1 p.1 (cy_gv Ri.1 p.1 (nm_r (e' := nI (cp_pf ic so oc am po (i + 1))) ?_ (ih (i + 1) (by omega))))
    rw [pk_sub p.2.2.2.1, nI_add]
    rfl
theorem cy_mn {post : Int32 → SY → Prop} {l : Int32} (R : cp_RR ic so oc am hg par cn tx st sl wi lk wk bw gd pc po) {b : Nat} (hb : b < 24) (hs : st b = 1) (c0 : cn b = 0)
    (H : wY_mine_129 post (nI b) l (nI (cp_pf ic so oc am po (cp_m3 pc))) ys yn yw (nI pc) (nI tip) (cp_A ic) (cp_A (cp_hf so)) (cp_A (cp_hm so)) wi (cp_A oc) (cp_A am) lk (cp_Bo sl) (cp_A (cp_ys st)) (cp_A par) wk (cp_A (cp_mc cn b (cp_m3 pc))) (cp_A (cp_mt tx b po (cp_m3 pc))) od yp yl yt ho yk (cp_A po) yq yo) : ∃ n, wY_mine_45 post (nI b) l ys yn yw (nI pc) (nI tip) n 0 (cp_A ic) (cp_A (cp_hf so)) (cp_A (cp_hm so)) wi (cp_A oc) (cp_A am) lk (cp_Bo sl) (cp_A (cp_ys st)) (cp_A par) wk (cp_A cn) (cp_A tx) od yp yl yt ho yk (cp_A po) yq yo :=
  Exists.intro _ (cy_mn45 R hb hs c0 H (cp_m3 pc) 0 (by omega))
theorem cy_mi_r {post : Int32 → SY → Prop} (B : cp_RB ic so oc am hg par cn tx st sl wi lk) {v1 v2 v3 : Int32} (z : ¬ ((∃ b, 1 ≤ b ∧ b < 24 ∧ v1 = nI b ∧ st b ≤ 1) ∧ (∃ w, 1 ≤ w ∧ w ≤ 15 ∧ v2 = nI w))) (H : post (-1) (ys, yn, yw, nI pc, nI tip, cp_A ic, cp_A (cp_hf so), cp_A (cp_hm so), wi, cp_A oc, cp_A am, lk, cp_Bo sl, cp_A (cp_ys st), cp_A par, wk, cp_A cn, cp_A tx, od, yp, yl, yt, ho, yk, cp_A po, yq, yo)) : wpY_mine post (ys, yn, yw, nI pc, nI tip, cp_A ic, cp_A (cp_hf so), cp_A (cp_hm so), wi, cp_A oc, cp_A am, lk, cp_Bo sl, cp_A (cp_ys st), cp_A par, wk, cp_A cn, cp_A tx, od, yp, yl, yt, ho, yk, cp_A po, yq, yo) v1 v2 v3 := by
  unfold wpY_mine
  dsimp only
  refine cy_outb v1 1 23 (by decide) (by decide) (fun b h1 h2 e => br_t rfl (cy_outb v2 1 15 (by decide) (by decide) (fun w q1 q2 e3 => br_t rfl ?_) (fun _ => br_f (by decide) H))) (fun _ => br_f (by decide) H)
  subst e
  have s := cp_ys_le B b
  exact And.intro (vp_in_nI (by omega) (by decide)) (pk_eq (cp_ys st b) 2 (fun _ => H) (fun n2 => absurd ⟨⟨b, h1, by omega, rfl, cp_ys2' B n2⟩, ⟨w, q1, q2, e3⟩⟩ z) (cp_rd (cp_ys st) (by omega)) rfl)
theorem cy_mi_k {post : Int32 → SY → Prop} {b w : Nat} {l : Int32} (h1 : 1 ≤ b) (h2 : b < 24) (hs : st b ≤ 1) (w1 : 1 ≤ w) (w2 : w ≤ 15)
    (H : ∃ n, wY_mine_45 post (nI b) l ys yn yw (nI pc) (nI tip) n 0 (cp_A ic) (cp_A (cp_hf so)) (cp_A (cp_hm so)) wi (cp_A (cp_up oc (32 + b) 1)) (cp_A (cp_up am (64 + 2 * b) 50)) (cp_up lk (64 + 2 * b) 1) (cp_Bo sl) (cp_A (cp_ys (cp_up st b 1))) (cp_A (cp_up par b tip)) (cp_up wk b (nI w)) (cp_A (cp_up cn b 0)) (cp_A tx) od yp yl yt ho yk (cp_A po) yq yo) : wpY_mine post (ys, yn, yw, nI pc, nI tip, cp_A ic, cp_A (cp_hf so), cp_A (cp_hm so), wi, cp_A oc, cp_A am, lk, cp_Bo sl, cp_A (cp_ys st), cp_A par, wk, cp_A cn, cp_A tx, od, yp, yl, yt, ho, yk, cp_A po, yq, yo) (nI b) (nI w) l := by
  unfold wpY_mine
  dsimp only
  refine cy_outb (nI b) 1 23 (by decide) (by decide) (fun _ _ _ _ => br_t rfl (cy_outb (nI w) 1 15 (by decide) (by decide) (fun _ _ _ _ => br_t rfl ?_) (fun z => absurd ⟨w, w1, w2, rfl⟩ z))) (fun z => absurd ⟨b, h1, by omega, rfl⟩ z)
  have n2 := cp_ys2 hs
  have e2 := cp_ysn (st := st) (c := b) (by omega)
  exact And.intro (vp_in_nI h2 (by decide)) (pk_eq (cp_ys st b) 2 (fun e => absurd e n2) (fun _ => cy_dr h2 H) (cp_rd (cp_ys st) (by omega)) rfl)
/-- the end of mine, X's taking and Y's submission, over data in which the block is a draft with its contents -/
theorem cp_mend (R : cp_RR ic so oc am hg par cn tx st sl wi lk wk bw gd pc po) (htip : tip < 24) (gt : gd tip = true) (RC : cp_RC hg par tip ch) (hsb : sb = ys + 1) (hxo : ∀ t, t < 32 → xo t = nI (oc t)) {b a : Nat} {l : Int32} (h1 : 1 ≤ b) (h2 : b < 24) (hs : st b = 1) (a1 : 1 ≤ 50 + a) (a2 : 50 + a ≤ 10000)
    {PX : Int32 → SX → Prop} {W : (Int32 → SY → Prop) → Prop}
    (HX : ∀ r u, W (fun r' v => r' = r ∧ i_Rel k u v) → PX r u)
    (HW : ∀ post, wY_mine_129 post (nI b) l (nI a) ys yn yw (nI pc) (nI tip) (cp_A ic) (cp_A (cp_hf so)) (cp_A (cp_hm so)) wi (cp_A oc) (cp_A am) lk (cp_Bo sl) (cp_A (cp_ys st)) (cp_A par) wk (cp_A cn) (cp_A tx) od yp yl yt ho yk (cp_A po) yq yo → W post) : wX_mine_83 PX (nI b) l (nI (50 + a)) sb (nI tip) (nI pc) qc (cp_A ic) (cp_A so) wi xo (cp_Bo sl) (cp_A am) lk (cp_A st) (cp_A par) wk (cp_A cn) (cp_A tx) od (cp_A hg) bw (cp_Bo gd) ch (cp_A po) li sp qu sk := by
  have R2 := cp_s_cb (l := l) R h2 hs a1 a2
  have ib : vp_in (nI b) 24 := vp_in_nI h2 (by decide)
  have e := cp_64 b
  have i : vp_in ((64 : Int32) + (2 : Int32) * nI b) 112 := pk_in (64 + 2 * b) 112 (by omega) e
  have ea : (50 : Int32) + nI a = nI (50 + a) := nI_add 50 a
  have y129 : ∀ post, wpY_submit (fun r u => match u with | (f_submitted_2, f_length_2, f_weight_2, f_pooledCount_2, f_tipBlock_2, a_inputs_2, a_inFrom_2, a_inPlace_2, a_witness_2, a_outputs_2, a_amount_2, a_lock_2, a_sealed_2, a_state_2, a_parent_2, a_work_2, a_count_2, a_tx_2, a_order_2, a_path_2, a_listed_2, a_spent_2, a_heightOf_2, a_stack_2, a_pool_2, a_oldPool_2, a_oldPath_2) => vp_in (nI b) 24 ∧ post (a_count_2 (nI b).toNatClampNeg) (f_submitted_2, f_length_2, f_weight_2, f_pooledCount_2, f_tipBlock_2, a_inputs_2, a_inFrom_2, a_inPlace_2, a_witness_2, a_outputs_2, a_amount_2, a_lock_2, a_sealed_2, a_state_2, a_parent_2, a_work_2, a_count_2, a_tx_2, a_order_2, a_path_2, a_listed_2, a_spent_2, a_heightOf_2, a_stack_2, a_pool_2, a_oldPool_2, a_oldPath_2)) (ys, yn, yw, nI pc, nI tip, cp_A ic, cp_A (cp_hf so), cp_A (cp_hm so), wi, cp_A oc, cp_A (cp_up am (64 + 2 * b) (50 + a)), (cp_up lk (64 + 2 * b) l), cp_Bo sl, cp_A (cp_ys st), cp_A par, wk, cp_A cn, cp_A tx, od, yp, yl, yt, ho, yk, cp_A po, yq, yo) (nI b) → wY_mine_129 post (nI b) l (nI a) ys yn yw (nI pc) (nI tip) (cp_A ic) (cp_A (cp_hf so)) (cp_A (cp_hm so)) wi (cp_A oc) (cp_A am) lk (cp_Bo sl) (cp_A (cp_ys st)) (cp_A par) wk (cp_A cn) (cp_A tx) od yp yl yt ho yk (cp_A po) yq yo := by
    intro post h
    exact And.intro i (nm_r (e' := cp_A (cp_up am (64 + 2 * b) (50 + a))) (by rw [e, ea, cp_wr am _ (by omega)]) (And.intro i (nm_r (e' := cp_up lk (64 + 2 * b) l) (by rw [e, cp_ww lk l (by omega)]) h)))
  subst hsb
  refine cx_scb h2 (cx_acc R2 hxo htip gt RC h2 hs (fun st' hg' bw' gd' hy R' gt' O' => ⟨fun e RC' li' sp' sk' => And.intro ib (HX _ _ (HW _ (y129 _ ?_))), fun best F pc' po' ch' li' sp' qu' sk' qc' eb ne hb gb K hf R3 RC' => And.intro ib (HX _ _ (HW _ (y129 _ ?_)))⟩))
  · exact cy_sub (F := 0) h1 h2 hs hy R' O' htip gt' (fun n => absurd e n) (fun _ yn yw yp yl yt ho yk yq yo => And.intro ib ⟨rfl, cp_mk R' htip gt' RC' O' rfl hxo⟩) (fun n => absurd e n)
  · subst eb
    refine cy_sub h1 h2 hs hy R' O' htip gt' (fun _ => K) (fun e => absurd e ne) (fun _ pc2 po2 yn yw yp yl yt ho yk yq yo hf2 => And.intro ib ⟨rfl, ?_⟩)
    have e := hf2.trans hf.symm
    cases e
    exact cp_mk R3 hb gb RC' O' rfl hxo
end
theorem i_vc_mine {k : Nat} {u : SX} {v : SY} (I : i_Rel k u v) (hk : k + 5 ≤ 2560) (v1 : Int32) (v2 : Int32) (v3 : Int32) : wpX_mine (fun r u' => wpY_mine (fun r' v' => r' = r ∧ i_Rel (k + 5) u' v') v v1 v2 v3) u v1 v2 v3 := by
  obtain ⟨sb, qc, ys, yn, yw, tip, pc, ic, so, oc, am, hg, par, cn, tx, st, po, sl, gd, wi, lk, wk, bw, od, xo, ch, li, sp, qu, sk, yp, yl, yt, ho, yk, yq, yo, rfl, rfl, R, htip, gt, RC, O, hsb, hxo⟩ := I
  have I' : i_Rel (k + 5) (sb, nI tip, nI pc, qc, cp_A ic, cp_A so, wi, xo, cp_Bo sl, cp_A am, lk, cp_A st, cp_A par, wk, cp_A cn, cp_A tx, od, cp_A hg, bw, cp_Bo gd, ch, cp_A po, li, sp, qu, sk) (ys, yn, yw, nI pc, nI tip, cp_A ic, cp_A (cp_hf so), cp_A (cp_hm so), wi, cp_A oc, cp_A am, lk, cp_Bo sl, cp_A (cp_ys st), cp_A par, wk, cp_A cn, cp_A tx, od, yp, yl, yt, ho, yk, cp_A po, yq, yo) := cp_mk R htip gt RC O hsb hxo
  have ct := R.2.1.2.2.2.1 tip htip gt
  unfold wpX_mine
  dsimp only
  refine cx_isUn R.1 v1 (fun b h1 h2 e hs => br_f (by decide) (cx_isWk v2 (fun w w1 w2 e2 => br_f (by decide) ?_) (fun z => br_t rfl (cy_mi_r R.1 (fun w => z w.2) ⟨rfl, I'⟩)))) (fun z => br_t rfl (cy_mi_r R.1 (fun w => z w.1) ⟨rfl, I'⟩))
  subst e e2
  have R1 := cp_s_draft (w := nI w) (l := 1) R h2 hs htip
  have c0 : cp_up cn b 0 b = 0 := cp_up_s
  have Rm := cp_mn_RR R1 h2 cp_up_s c0 (cp_m3 pc) (Nat.le_refl _)
  have pl := cp_pf_le R1 (cp_m3 pc) (cp_m3_le pc).2
  have l3 := (cp_m3_le pc).1
  have RC1 := cp_RC_dr (b := b) (p := tip) R.2.1.1 htip ct hs RC
  refine cx_dr h2 (cx_mn R1 (cp_xo_dr hxo) h2 cp_up_s c0 (cp_mend Rm htip gt RC1 hsb (cp_xo_dr hxo) h1 h2 cp_up_s (by omega) (by omega) (fun r u h => h) (fun post h => cy_mi_k h1 h2 hs w1 w2 (cy_mn R1 h2 cp_up_s c0 h))))
