/-! X: the tip moves, what was given up is offered again, a block is taken -/
section
variable {sb qc : Int32} {tip pc : Nat} {ic so oc am hg par cn tx st po : Nat → Nat} {sl gd : Nat → Bool} {wi lk wk bw od xo ch li sp qu sk : Nat → Int32}
theorem cx_m46 {post : SX → Prop} (T : cp_Tr hg par st) {best F : Nat} (htip : tip < 24) (ct : st tip = 3) (hbs : best < 24) (cb : st best = 3) (hh : hg best < 24) (K : cp_Fk hg par best tip F) (RC : cp_RC hg par tip ch) (hp : pc ≤ 8) {l : List Nat} (hl : l.length ≤ 72)
    (H : ∀ qu' ch', cp_QR qu' (l ++ cp_pl po pc) → cp_RC hg par best ch' → post (sb, nI best, nI 0, (nI (l ++ cp_pl po pc).length), cp_A ic, cp_A so, wi, xo, cp_Bo sl, cp_A am, lk, cp_A st, cp_A par, wk, cp_A cn, cp_A tx, od, cp_A hg, bw, cp_Bo gd, ch', cp_A po, li, sp, qu', sk)) : ∀ (d i : Nat) (qu : Nat → Int32), i + d = pc → cp_QR qu (l ++ cp_pl po i) → wX_moveTip_46 post (nI best) (nI F) (d + 1) (nI i) sb (nI tip) (nI pc) (nI (l ++ cp_pl po i).length) (cp_A ic) (cp_A so) wi xo (cp_Bo sl) (cp_A am) lk (cp_A st) (cp_A par) wk (cp_A cn) (cp_A tx) od (cp_A hg) bw (cp_Bo gd) ch (cp_A po) li sp qu sk := by
  intro d
  induction d with
  | zero =>
    intro i qu hi hq
    have ei : i = pc := by omega
    subst ei
    have k1 := K.1
    have z := cx_m90 (sb := sb) (tip := best) (pc := 0) (qc := nI (l ++ cp_pl po i).length) (ic := ic) (so := so) (wi := wi) (xo := xo) (sl := sl) (am := am) (lk := lk) (st := st) (par := par) (wk := wk) (cn := cn) (tx := tx) (od := od) (hg := hg) (bw := bw) (gd := gd) (po := po) (li := li) (sp := sp) (qu := qu) (sk := sk) (F := F) T hbs cb hh (fun ch' h => H qu ch' hq h) (hg best - F) (hg best) ch (by omega) (Nat.le_refl _) (fun q h1 h2 => by omega) (fun q hq2 => by rw [cp_Fk_lo T hbs cb htip ct K hq2]; exact RC q (by have := K.2.1; omega))
    rw [cp_pt_top] at z
    exact pk_le i i (fun _ => And.intro (vp_in_nI hbs (by decide)) (nm_r (cp_rd hg (by omega)) (Exists.intro _ z))) (fun z => False.elim (by omega))
  | succ d ih =>
    intro i qu hi hq
    refine pk_le pc i (fun z => False.elim (by omega)) (fun _ => And.intro (vp_in_nI (by omega) (by decide)) ?_)
    rw [cp_rd po (by omega)]
    refine cx_enq ?_ hq (fun qu' hq' => nm_r (nI_1 i) ?_)
    · rw [List.length_append, cp_pl_len]
      omega
    · have ea : l ++ cp_pl po i ++ [po i] = l ++ cp_pl po (i + 1) := List.append_assoc _ _ _
      rw [ea] at hq' ⊢
      exact ih (i + 1) qu' (by omega) hq'
theorem cx_m15 {post : SX → Prop} (B : cp_RB ic so oc am hg par cn tx st sl wi lk) (T : cp_Tr hg par st) {best F : Nat} (htip : tip < 24) (ct : st tip = 3) (hht : hg tip < 24) (hbs : best < 24) (cb : st best = 3) (hh : hg best < 24) (K : cp_Fk hg par best tip F) (RC : cp_RC hg par tip ch) (hp : pc ≤ 8)
    (H : ∀ qu' ch', cp_QR qu' (cp_ql hg par cn tx tip F (hg tip + 1) ++ cp_pl po pc) → cp_RC hg par best ch' → post (sb, nI best, nI 0, (nI (cp_ql hg par cn tx tip F (hg tip + 1) ++ cp_pl po pc).length), cp_A ic, cp_A so, wi, xo, cp_Bo sl, cp_A am, lk, cp_A st, cp_A par, wk, cp_A cn, cp_A tx, od, cp_A hg, bw, cp_Bo gd, ch', cp_A po, li, sp, qu', sk)) : ∀ (d h : Nat) (qu : Nat → Int32), h + d = hg tip + 1 → F + 1 ≤ h → cp_QR qu (cp_ql hg par cn tx tip F h) →
    wX_moveTip_15 post (nI best) (nI F) (d + 1) (nI h) sb (nI tip) (nI pc) (nI (cp_ql hg par cn tx tip F h).length) (cp_A ic) (cp_A so) wi xo (cp_Bo sl) (cp_A am) lk (cp_A st) (cp_A par) wk (cp_A cn) (cp_A tx) od (cp_A hg) bw (cp_Bo gd) ch (cp_A po) li sp qu sk := by
  intro d
  induction d with
  | zero =>
    intro h qu hd hF hq
    have eh : h = hg tip + 1 := by omega
    subst eh
    have ln := cp_ql_len (hg := hg) (par := par) (tx := tx) (b := tip) (F := F) (cp_RB_cn B) (hg tip + 1)
    have ea : cp_ql hg par cn tx tip F (hg tip + 1) ++ cp_pl po 0 = cp_ql hg par cn tx tip F (hg tip + 1) := List.append_nil _
    have z := cx_m46 (sb := sb) (tip := tip) (pc := pc) (ic := ic) (so := so) (wi := wi) (xo := xo) (sl := sl) (am := am) (lk := lk) (st := st) (par := par) (wk := wk) (cn := cn) (tx := tx) (od := od) (hg := hg) (bw := bw) (gd := gd) (ch := ch) (po := po) (li := li) (sp := sp) (sk := sk) T htip ct hbs cb hh K RC hp (l := cp_ql hg par cn tx tip F (hg tip + 1)) (by omega) H pc 0 qu (by omega) (by rw [ea]; exact hq)
    rw [ea] at z
    exact And.intro (vp_in_nI htip (by decide)) (pk_lt (hg tip) (hg tip + 1) (fun _ => Exists.intro _ z) (fun z => False.elim (by omega)) (cp_rd hg (by omega)) rfl)
  | succ d ih =>
    intro h qu hd hF hq
    have ln := cp_ql_len (hg := hg) (par := par) (tx := tx) (b := tip) (F := F) (cp_RB_cn B) h
    have e : ch (nI h).toNatClampNeg = nI (cp_pt par hg tip h) := by
      rw [nI_clamp (by omega)]
      exact RC h (by omega)
    refine And.intro (vp_in_nI htip (by decide)) (pk_lt (hg tip) h (fun z => False.elim (by omega)) (fun _ => And.intro (vp_in_nI (by omega) (by decide)) ?_) (cp_rd hg (by omega)) rfl)
    rw [e]
    refine cx_ec (cp_pt_in T htip ct (by omega)) (cp_RB_cn B _) (by omega) hq (fun qu' hq' => nm_r (nI_1 h) ?_)
    have ea : cp_ql hg par cn tx tip F h ++ cp_ct tx (cp_pt par hg tip h) (cn (cp_pt par hg tip h)) = cp_ql hg par cn tx tip F (h + 1) := by
      show _ = cp_ql hg par cn tx tip F h ++ (if F < h then cp_ct tx (cp_pt par hg tip h) (cn (cp_pt par hg tip h)) else [])
      rw [if_pos (by omega)]
    rw [ea] at hq' ⊢
    exact ih (h + 1) qu' (by omega) (by omega) hq'
theorem cx_mt {post : SX → Prop} (B : cp_RB ic so oc am hg par cn tx st sl wi lk) (T : cp_Tr hg par st) {best : Nat} (htip : tip < 24) (ct : st tip = 3) (hht : hg tip < 24) (hbs : best < 24) (cb : st best = 3) (hh : hg best < 24) (RC : cp_RC hg par tip ch) (hp : pc ≤ 8)
    (H : ∀ F qu' ch', cp_Fk hg par best tip F → cp_QR qu' (cp_ql hg par cn tx tip F (hg tip + 1) ++ cp_pl po pc) → cp_RC hg par best ch' → post (sb, nI best, nI 0, (nI (cp_ql hg par cn tx tip F (hg tip + 1) ++ cp_pl po pc).length), cp_A ic, cp_A so, wi, xo, cp_Bo sl, cp_A am, lk, cp_A st, cp_A par, wk, cp_A cn, cp_A tx, od, cp_A hg, bw, cp_Bo gd, ch', cp_A po, li, sp, qu', sk)) : wpX_moveTip post (sb, nI tip, nI pc, qc, cp_A ic, cp_A so, wi, xo, cp_Bo sl, cp_A am, lk, cp_A st, cp_A par, wk, cp_A cn, cp_A tx, od, cp_A hg, bw, cp_Bo gd, ch, cp_A po, li, sp, qu, sk) (nI best) := by
  refine cx_ff T hbs cb htip ct hht hh RC (fun F K => nm_r (nI_1 F) (Exists.intro (hg tip - F + 1) ?_))
  have k2 := K.2.1
  have ea := cp_ql_lo (hg := hg) (par := par) (cn := cn) (tx := tx) (b := tip) (F := F) (F + 1) (Nat.le_refl _)
  have z := cx_m15 (sb := sb) (tip := tip) (pc := pc) (ic := ic) (so := so) (wi := wi) (xo := xo) (sl := sl) (am := am) (lk := lk) (st := st) (par := par) (wk := wk) (cn := cn) (tx := tx) (od := od) (hg := hg) (bw := bw) (gd := gd) (ch := ch) (po := po) (li := li) (sp := sp) (sk := sk) B T htip ct hht hbs cb hh K RC hp (fun qu' ch' => H F qu' ch' K) (hg tip - F) (F + 1) qu (by omega) (Nat.le_refl _) (by rw [ea]; exact cp_QR_0 qu)
  rw [ea] at z
  exact z
theorem cx_a79 {post : SX → Prop} (hxo : ∀ t, t < 32 → xo t = nI (oc t)) (htip : tip < 24) (gt : gd tip = true) {l : List Nat} (hl : ∀ t, t ∈ l → t < 32) (hlen : l.length ≤ 80) (hq : cp_QR qu l) {q0 : Nat × (Nat → Nat)}
    (H : ∀ pc po li sp sk, cp_RR ic so oc am hg par cn tx st sl wi lk wk bw gd pc po → (pc, po) = cp_fo ic so oc am hg par cn tx sl wi lk tip q0 l → post (sb, nI tip, nI pc, (nI l.length), cp_A ic, cp_A so, wi, xo, cp_Bo sl, cp_A am, lk, cp_A st, cp_A par, wk, cp_A cn, cp_A tx, od, cp_A hg, bw, cp_Bo gd, ch, cp_A po, li, sp, qu, sk)) : ∀ (l2 l1 : List Nat) (pc : Nat) (po : Nat → Nat) (li sp sk : Nat → Int32), l = l1 ++ l2 → (pc, po) = cp_fo ic so oc am hg par cn tx sl wi lk tip q0 l1 → cp_RR ic so oc am hg par cn tx st sl wi lk wk bw gd pc po →
    wX_accept_79 post (l2.length + 1) (nI l1.length) sb (nI tip) (nI pc) (nI l.length) (cp_A ic) (cp_A so) wi xo (cp_Bo sl) (cp_A am) lk (cp_A st) (cp_A par) wk (cp_A cn) (cp_A tx) od (cp_A hg) bw (cp_Bo gd) ch (cp_A po) li sp qu sk := by
  intro l2
  induction l2 with
  | nil =>
    intro l1 pc po li sp sk e hf R
    rw [List.append_nil] at e
    subst e
    exact pk_le l.length l.length (fun _ => H pc po li sp sk R hf) (fun z => False.elim (by omega))
  | cons t l3 ih =>
    intro l1 pc po li sp sk e hf R
    have el : l.length = l1.length + (l3.length + 1) := by
      rw [e, List.length_append]
      rfl
    have et : qu (nI l1.length).toNatClampNeg = nI t := by
      rw [nI_clamp (by omega), hq _ (by omega), e, cp_nth_at]
    have tm : t < 32 := hl t (by rw [e]; exact List.mem_append.mpr (Or.inr (List.mem_cons_self)))
    have e2 : l = (l1 ++ [t]) ++ l3 := by
      rw [List.append_assoc]
      exact e
    refine pk_le l.length l1.length (fun z => False.elim (by omega)) (fun _ => And.intro (vp_in_nI (by omega) (by decide)) ?_)
    rw [et]
    refine cx_ap R hxo tm htip gt (fun r li' sp' sk' h0 _ => nm_r (nI_1 _) ?_) (fun r li' sp' sk' h1 _ => nm_r (nI_1 _) ?_)
    · have z := ih (l1 ++ [t]) pc po li' sp' sk' e2 (by rw [cp_fo_app, ← hf, cp_fo_1, cp_ad_f h0]) R
      rw [cp_len1] at z
      exact z
    · have z := ih (l1 ++ [t]) (pc + 1) (cp_up po pc t) li' sp' sk' e2 (by rw [cp_fo_app, ← hf, cp_fo_1, cp_ad_t h1]) (cp_ad_RR R htip gt tm h1)
      rw [cp_len1] at z
      exact z
theorem cx_a58 {post : SX → Prop} (R : cp_RR ic so oc am hg par cn tx st sl wi lk wk bw gd pc po) (hxo : ∀ t, t < 32 → xo t = nI (oc t)) (htip : tip < 24) (gt : gd tip = true) (RC : cp_RC hg par tip ch)
    (H0 : cp_bt gd bw od 24 = tip → post (sb, nI tip, nI pc, qc, cp_A ic, cp_A so, wi, xo, cp_Bo sl, cp_A am, lk, cp_A st, cp_A par, wk, cp_A cn, cp_A tx, od, cp_A hg, bw, cp_Bo gd, ch, cp_A po, li, sp, qu, sk))
    (H1 : ∀ best F pc' po' ch' li' sp' qu' sk' qc', best = cp_bt gd bw od 24 → best ≠ tip → best < 24 → gd best = true → cp_Fk hg par best tip F → (pc', po') = cp_fo ic so oc am hg par cn tx sl wi lk best (0, po) (cp_ql hg par cn tx tip F (hg tip + 1) ++ cp_pl po pc) → cp_RR ic so oc am hg par cn tx st sl wi lk wk bw gd pc' po' → cp_RC hg par best ch' → post (sb, nI best, nI pc', qc', cp_A ic, cp_A so, wi, xo, cp_Bo sl, cp_A am, lk, cp_A st, cp_A par, wk, cp_A cn, cp_A tx, od, cp_A hg, bw, cp_Bo gd, ch', cp_A po', li', sp', qu', sk')) : wX_accept_58 post sb (nI tip) (nI pc) qc (cp_A ic) (cp_A so) wi xo (cp_Bo sl) (cp_A am) lk (cp_A st) (cp_A par) wk (cp_A cn) (cp_A tx) od (cp_A hg) bw (cp_Bo gd) ch (cp_A po) li sp qu sk := by
  have hb : cp_bt gd bw od 24 < 24 := Nat.lt_succ_of_le (cp_bt_lt gd bw od 23)
  have gb : gd (cp_bt gd bw od 24) = true := cp_bt_gd bw od R.2.1.2.1.2.2.1 24
  have ct := R.2.1.2.2.2.1 tip htip gt
  have cb := R.2.1.2.2.2.1 _ hb gb
  refine cx_best (pk_eq (cp_bt gd bw od 24) tip (fun e => H0 e) (fun ne => ?_))
  refine cx_mt R.1 R.2.1.1 htip ct (cp_RT_hg R.2.1 htip ct) hb cb (cp_RT_hg R.2.1 hb cb) RC R.2.2.1 (fun F qu' ch' K hq rc => ?_)
  have hm : ∀ t, t ∈ cp_ql hg par cn tx tip F (hg tip + 1) ++ cp_pl po pc → t < 32 := by
    intro t ht
    rcases List.mem_append.mp ht with z | z
    · exact cp_ql_mem (cp_RB_tx R.1) _ t z
    · exact cp_pl_mem pc (fun i hi => (R.2.2.2 i hi).1) t z
  have hln : (cp_ql hg par cn tx tip F (hg tip + 1) ++ cp_pl po pc).length ≤ 80 := by
    have a := cp_ql_len (hg := hg) (par := par) (tx := tx) (b := tip) (F := F) (cp_RB_cn R.1) (hg tip + 1)
    have b := cp_RT_hg R.2.1 htip ct
    have c := R.2.2.1
    rw [List.length_append, cp_pl_len]
    omega
  exact Exists.intro _ (cx_a79 hxo hb gb hm hln hq (q0 := (0, po)) (fun pc' po' li' sp' sk' R' hf => H1 _ F pc' po' ch' li' sp' qu' sk' _ rfl ne hb gb K hf R' rc) _ [] 0 po li sp sk rfl rfl ⟨R.1, R.2.1, Nat.zero_le _, fun i hi => absurd hi (Nat.not_lt_zero _)⟩)
/-- what the taking of blocks leaves: blocks that wait have parents that wait or are not there -/
def cp_RO (par st : Nat → Nat) : Prop := ∀ b, 1 ≤ b → b < 24 → st b = 2 → st (par b) ≠ 3
theorem cx_a29 {post : SX → Prop} {st0 : Nat → Nat} (hxo : ∀ t, t < 32 → xo t = nI (oc t)) (htip : tip < 24)
    (H : ∀ st hg bw gd li sp sk, cp_RR ic so oc am hg par cn tx st sl wi lk wk bw gd pc po → gd tip = true → cp_RC hg par tip ch → cp_RO par st → cp_ys st = cp_ys st0 → wX_accept_58 post sb (nI tip) (nI pc) qc (cp_A ic) (cp_A so) wi xo (cp_Bo sl) (cp_A am) lk (cp_A st) (cp_A par) wk (cp_A cn) (cp_A tx) od (cp_A hg) bw (cp_Bo gd) ch (cp_A po) li sp qu sk) : ∀ (d i : Nat) (st hg : Nat → Nat) (bw : Nat → Int32) (gd : Nat → Bool) (li sp sk : Nat → Int32), i + d = 24 → cp_RR ic so oc am hg par cn tx st sl wi lk wk bw gd pc po → gd tip = true → cp_RC hg par tip ch → i < cp_nc st → cp_ys st = cp_ys st0 →
    wX_accept_29 post (d + 1) (nI i) sb (nI tip) (nI pc) qc (cp_A ic) (cp_A so) wi xo (cp_Bo sl) (cp_A am) lk (cp_A st) (cp_A par) wk (cp_A cn) (cp_A tx) od (cp_A hg) bw (cp_Bo gd) ch (cp_A po) li sp qu sk := by
  intro d
  induction d with
  | zero =>
    intro i st hg bw gd li sp sk hi R gt RC hn
    have := cp_nc_le st
    omega
  | succ d ih =>
    intro i st hg bw gd li sp sk hi R gt RC hn hy
    refine pk_le 24 i (fun z => False.elim (by omega)) (fun _ => cx_fc R.1 (fun w => br_t rfl (H st hg bw gd li sp sk R gt RC w hy)) (fun b h1 h2 h3 h4 => br_f (nI_ne0 h1 (by omega)) ?_))
    refine cx_con R hxo h2 h3 h4 (fun v li' sp' sk' R' => nm_r (nI_1 i) (ih (i + 1) _ _ _ _ li' sp' sk' (by omega) R' ?_ ?_ ?_ ?_))
    · have ct := R.2.1.2.2.2.1 tip htip gt
      have ne : tip ≠ b := by
        intro e
        rw [e] at ct
        omega
      rw [cp_up_n ne]
      exact gt
    · have ct := R.2.1.2.2.2.1 tip htip gt
      have f := cp_f_con (ic := ic) (so := so) (oc := oc) (am := am) (hg := hg) (par := par) (cn := cn) (tx := tx) (sl := sl) (wi := wi) (lk := lk) (b := b) (h := hg (par b) + 1) (st := st) (by omega)
      intro q hq
      rw [(f.2.1 tip htip ct).2.2.2.1] at hq
      rw [cp_pt_fr R.2.1.1 f (hg tip) tip htip ct rfl q hq]
      exact RC q hq
    · have := cp_nc_new (st := st) (st' := cp_up st b 3) (k := b) (fun c _ cc => by
        by_cases e : c = b
        · rw [e, cp_up_s]
        · rw [cp_up_n e]
          exact cc) h2 (by omega) cp_up_s
      omega
    · rw [← hy]
      funext c
      unfold cp_ys
      by_cases e : c = b
      · rw [e, cp_up_s, h3]
        rfl
      · rw [cp_up_n e]
/-- the whole of accept -/
theorem cx_acc {post : SX → Prop} (R : cp_RR ic so oc am hg par cn tx st sl wi lk wk bw gd pc po) (hxo : ∀ t, t < 32 → xo t = nI (oc t)) (htip : tip < 24) (gt : gd tip = true) (RC : cp_RC hg par tip ch) {b : Nat} (hb : b < 24) (hs : st b = 1)
    (H : ∀ st' hg' bw' gd', cp_ys st' = cp_ys (cp_up st b 2) → cp_RR ic so oc am hg' par cn tx st' sl wi lk wk bw' gd' pc po → gd' tip = true → cp_RO par st' →
      (cp_bt gd' bw' (cp_up od b sb) 24 = tip → cp_RC hg' par tip ch → ∀ li' sp' sk', post ((sb + 1), nI tip, nI pc, qc, cp_A ic, cp_A so, wi, xo, cp_Bo sl, cp_A am, lk, cp_A st', cp_A par, wk, cp_A cn, cp_A tx, (cp_up od b sb), cp_A hg', bw', cp_Bo gd', ch, cp_A po, li', sp', qu, sk')) ∧
      (∀ best F pc' po' ch' li' sp' qu' sk' qc', best = cp_bt gd' bw' (cp_up od b sb) 24 → best ≠ tip → best < 24 → gd' best = true → cp_Fk hg' par best tip F → (pc', po') = cp_fo ic so oc am hg' par cn tx sl wi lk best (0, po) (cp_ql hg' par cn tx tip F (hg' tip + 1) ++ cp_pl po pc) → cp_RR ic so oc am hg' par cn tx st' sl wi lk wk bw' gd' pc' po' → cp_RC hg' par best ch' →
        post ((sb + 1), nI best, nI pc', qc', cp_A ic, cp_A so, wi, xo, cp_Bo sl, cp_A am, lk, cp_A st', cp_A par, wk, cp_A cn, cp_A tx, (cp_up od b sb), cp_A hg', bw', cp_Bo gd', ch', cp_A po', li', sp', qu', sk'))) : wpX_accept post (sb, nI tip, nI pc, qc, cp_A ic, cp_A so, wi, xo, cp_Bo sl, cp_A am, lk, cp_A st, cp_A par, wk, cp_A cn, cp_A tx, od, cp_A hg, bw, cp_Bo gd, ch, cp_A po, li, sp, qu, sk) (nI b) := by
  have ib : vp_in (nI b) 24 := vp_in_nI hb (by decide)
  have R2 := cp_s_sub R hb hs
  refine And.intro ib (nm_r (cp_wr st 2 (by omega)) (And.intro ib (nm_r (cp_ww od sb (by omega)) (nm_e (Exists.intro 25 ?_)))))
  refine cx_a29 (st0 := cp_up st b 2) hxo htip (fun st' hg' bw' gd' li' sp' sk' R' gt' RC' O' hy => ?_) 24 0 _ hg bw gd li sp sk (by omega) R2 gt RC ?_ rfl
  · have h := H st' hg' bw' gd' hy R' gt' O'
    exact cx_a58 R' hxo htip gt' RC' (fun e => h.1 e RC' li' sp' sk') (fun best F pc' po' ch' li'' sp'' qu'' sk'' qc'' a1 a2 a3 a4 a5 a6 a7 a8 => h.2 best F pc' po' ch' li'' sp'' qu'' sk'' qc'' a1 a2 a3 a4 a5 a6 a7 a8)
  · have := R2.2.1.2.2.2.2 0 (by decide) R2.2.1.1.1
    omega
end
