/-! X: the best block, the fork, the move of the tip, a block is taken -/
def cp_nth : List Nat → Nat → Nat
  | [], _ => 0
  | a :: _, 0 => a
  | _ :: l, i + 1 => cp_nth l i
theorem cp_nth_lo : ∀ (l m : List Nat) (i : Nat), i < l.length → cp_nth (l ++ m) i = cp_nth l i
  | [], _, i, h => absurd h (Nat.not_lt_zero _)
  | _ :: _, _, 0, _ => rfl
  | _ :: l, m, i + 1, h => cp_nth_lo l m i (Nat.lt_of_succ_lt_succ h)
theorem cp_nth_at : ∀ (l : List Nat) (t : Nat) (m : List Nat), cp_nth (l ++ t :: m) l.length = t
  | [], _, _ => rfl
  | _ :: l, t, m => cp_nth_at l t m
def cp_QR (qu : Nat → Int32) (l : List Nat) : Prop := ∀ i, i < l.length → qu i = nI (cp_nth l i)
theorem cp_QR_0 (qu : Nat → Int32) : cp_QR qu [] := fun _ h => absurd h (Nat.not_lt_zero _)
theorem cp_len1 (l : List Nat) (t : Nat) : (l ++ [t]).length = l.length + 1 := by simp
theorem cp_QR_s {qu : Nat → Int32} {l : List Nat} (h : cp_QR qu l) (t : Nat) : cp_QR (upd qu l.length (nI t)) (l ++ [t]) := by
  intro i hi
  rw [cp_len1] at hi
  by_cases e : i = l.length
  · rw [e, pk_us, cp_nth_at]
  · rw [pk_un e, cp_nth_lo l [t] i (by omega)]
    exact h i (by omega)
theorem cp_ct_len (tx : Nat → Nat) (b : Nat) : ∀ n, (cp_ct tx b n).length = n
  | 0 => rfl
  | n + 1 => by
    show (cp_ct tx b n ++ [tx (3 * b + n)]).length = n + 1
    rw [cp_len1, cp_ct_len tx b n]
theorem cp_pl_len (po : Nat → Nat) : ∀ n, (cp_pl po n).length = n
  | 0 => rfl
  | n + 1 => by
    show (cp_pl po n ++ [po n]).length = n + 1
    rw [cp_len1, cp_pl_len po n]
theorem cp_ct_mem {tx : Nat → Nat} {b : Nat} (h : ∀ k, tx k < 32) : ∀ n t, t ∈ cp_ct tx b n → t < 32 := by
  intro n
  induction n with
  | zero =>
    intro t ht
    exact absurd ht (List.not_mem_nil)
  | succ n ih =>
    intro t ht
    rcases List.mem_append.mp ht with z | z
    · exact ih t z
    · rw [List.mem_singleton.mp z]
      exact h _
theorem cp_ql_mem {hg par cn tx : Nat → Nat} {b F : Nat} (h : ∀ k, tx k < 32) : ∀ n t, t ∈ cp_ql hg par cn tx b F n → t < 32 := by
  intro n
  induction n with
  | zero =>
    intro t ht
    exact absurd ht (List.not_mem_nil)
  | succ n ih =>
    intro t ht
    rcases List.mem_append.mp ht with z | z
    · exact ih t z
    · by_cases y : F < n
      · rw [if_pos y] at z
        exact cp_ct_mem h _ t z
      · rw [if_neg y] at z
        exact absurd z (List.not_mem_nil)
theorem cp_pl_mem {po : Nat → Nat} : ∀ n, (∀ i, i < n → po i < 32) → ∀ t, t ∈ cp_pl po n → t < 32 := by
  intro n
  induction n with
  | zero =>
    intro _ t ht
    exact absurd ht (List.not_mem_nil)
  | succ n ih =>
    intro h t ht
    rcases List.mem_append.mp ht with z | z
    · exact ih (fun i hi => h i (by omega)) t z
    · rw [List.mem_singleton.mp z]
      exact h n (by omega)
theorem cp_ql_len {hg par cn tx : Nat → Nat} {b F : Nat} (h : ∀ c, cn c ≤ 3) : ∀ n, (cp_ql hg par cn tx b F n).length ≤ 3 * n := by
  intro n
  induction n with
  | zero => exact Nat.le_refl _
  | succ n ih =>
    show (cp_ql hg par cn tx b F n ++ (if F < n then cp_ct tx (cp_pt par hg b n) (cn (cp_pt par hg b n)) else [])).length ≤ 3 * (n + 1)
    rw [List.length_append]
    have := h (cp_pt par hg b n)
    by_cases y : F < n
    · rw [if_pos y, cp_ct_len]
      omega
    · rw [if_neg y]
      show _ + 0 ≤ _
      omega
theorem cp_ql_lo {hg par cn tx : Nat → Nat} {b F : Nat} : ∀ n, n ≤ F + 1 → cp_ql hg par cn tx b F n = [] := by
  intro n
  induction n with
  | zero =>
    intro _
    rfl
  | succ n ih =>
    intro h
    show cp_ql hg par cn tx b F n ++ (if F < n then cp_ct tx (cp_pt par hg b n) (cn (cp_pt par hg b n)) else []) = []
    rw [ih (by omega), if_neg (by omega)]
    rfl
section
variable {sb qc : Int32} {tip pc : Nat} {ic so oc am hg par cn tx st po : Nat → Nat} {sl gd : Nat → Bool} {wi lk wk bw od xo ch li sp qu sk : Nat → Int32}
theorem cx_b73 {post : Int32 → Prop} {J4 : Int32 → Int32 → Prop} {p k : Nat} (hk : k < 24) {x3 x4 z0 : Int32} (t3 : cp_TF x3 (bw p < bw k)) (t4 : cp_TF x4 (bw k = bw p)) (t0 : cp_TF z0 (od k < od p))
    (H : J4 (nI (if gd k = true ∧ (bw p < bw k ∨ (bw k = bw p ∧ od k < od p)) then k else p)) (nI (k + 1))) : wX_findHeaviestGood_73 post J4 (nI p) (nI k) x3 x4 z0 sb (nI tip) (nI pc) qc (cp_A ic) (cp_A so) wi xo (cp_Bo sl) (cp_A am) lk (cp_A st) (cp_A par) wk (cp_A cn) (cp_A tx) od (cp_A hg) bw (cp_Bo gd) ch (cp_A po) li sp qu sk := by
  have tg : cp_TF (cp_Bo gd (nI k).toNatClampNeg) (gd k = true) := by
    rw [cp_rb gd (by omega)]
    exact cp_TF_b _
  refine And.intro (vp_in_nI hk (by decide)) (cp_TF_br tg (fun g => nm_r (nI_1 k) ?_) (fun g => cp_TF_br t3 (fun a => cp_TF_br t4 (fun b => nm_r (nI_1 k) ?_) (fun b => cp_TF_br t0 (fun c => nm_r (nI_1 k) ?_) (fun c => nm_r (nI_1 k) ?_))) (fun a => nm_r (nI_1 k) ?_)))
  · rw [if_neg (fun y => g y.1)] at H
    exact H
  · rw [if_neg (fun y => y.2.elim a (fun z => b z.1))] at H
    exact H
  · rw [if_neg (fun y => y.2.elim a (fun z => c z.2))] at H
    exact H
  · rw [if_pos ⟨g, Or.inr ⟨b, c⟩⟩] at H
    exact H
  · rw [if_pos ⟨g, Or.inl a⟩] at H
    exact H
theorem cx_b4 {post : Int32 → Prop} (H : post (nI (cp_bt gd bw od 24))) : ∀ (d k : Nat), k + d = 24 → 1 ≤ k → wX_findHeaviestGood_4 post sb (nI tip) (nI pc) qc (cp_A ic) (cp_A so) wi xo (cp_Bo sl) (cp_A am) lk (cp_A st) (cp_A par) wk (cp_A cn) (cp_A tx) od (cp_A hg) bw (cp_Bo gd) ch (cp_A po) li sp qu sk (d + 1) (nI (cp_bt gd bw od k)) (nI k) := by
  intro d
  induction d with
  | zero =>
    intro k hk h1
    refine pk_le 24 k (fun _ => ?_) (fun z => False.elim (by omega))
    rw [show k = 24 from by omega]
    exact H
  | succ d ih =>
    intro k hk h1
    have hp : cp_bt gd bw od k < 24 := by
      have := cp_bt_lt gd bw od (k - 1)
      rw [show k - 1 + 1 = k from by omega] at this
      omega
    have ik : vp_in (nI k) 24 := vp_in_nI (by omega) (by decide)
    have ip : vp_in (nI (cp_bt gd bw od k)) 24 := vp_in_nI hp (by decide)
    have key : ∀ x3 x4 z0, cp_TF x3 (bw (cp_bt gd bw od k) < bw k) → cp_TF x4 (bw k = bw (cp_bt gd bw od k)) → cp_TF z0 (od k < od (cp_bt gd bw od k)) → wX_findHeaviestGood_73 post (wX_findHeaviestGood_4 post sb (nI tip) (nI pc) qc (cp_A ic) (cp_A so) wi xo (cp_Bo sl) (cp_A am) lk (cp_A st) (cp_A par) wk (cp_A cn) (cp_A tx) od (cp_A hg) bw (cp_Bo gd) ch (cp_A po) li sp qu sk (d + 1)) (nI (cp_bt gd bw od k)) (nI k) x3 x4 z0 sb (nI tip) (nI pc) qc (cp_A ic) (cp_A so) wi xo (cp_Bo sl) (cp_A am) lk (cp_A st) (cp_A par) wk (cp_A cn) (cp_A tx) od (cp_A hg) bw (cp_Bo gd) ch (cp_A po) li sp qu sk :=
      fun x3 x4 z0 a b c => cx_b73 (by omega) a b c (ih (k + 1) (by omega) (by omega))
    have k51 : ∀ x3 x4, cp_TF x3 (bw (cp_bt gd bw od k) < bw k) → cp_TF x4 (bw k = bw (cp_bt gd bw od k)) → wX_findHeaviestGood_51 post (wX_findHeaviestGood_4 post sb (nI tip) (nI pc) qc (cp_A ic) (cp_A so) wi xo (cp_Bo sl) (cp_A am) lk (cp_A st) (cp_A par) wk (cp_A cn) (cp_A tx) od (cp_A hg) bw (cp_Bo gd) ch (cp_A po) li sp qu sk (d + 1)) (nI (cp_bt gd bw od k)) (nI k) x3 x4 sb (nI tip) (nI pc) qc (cp_A ic) (cp_A so) wi xo (cp_Bo sl) (cp_A am) lk (cp_A st) (cp_A par) wk (cp_A cn) (cp_A tx) od (cp_A hg) bw (cp_Bo gd) ch (cp_A po) li sp qu sk := by
      intro x3 x4 a b
      refine And.intro ik (And.intro ip (br_c (fun z => key x3 x4 0 a b (cp_TF_F ?_)) (fun z => key x3 x4 1 a b (cp_TF_T ?_))))
      · rw [cp_rw od (by omega), cp_rw od (by omega)] at z
        exact Int32.not_lt.mpr z
      · rw [cp_rw od (by omega), cp_rw od (by omega)] at z
        exact Int32.not_le.mp z
    have k30 : ∀ x3, cp_TF x3 (bw (cp_bt gd bw od k) < bw k) → wX_findHeaviestGood_30 post (wX_findHeaviestGood_4 post sb (nI tip) (nI pc) qc (cp_A ic) (cp_A so) wi xo (cp_Bo sl) (cp_A am) lk (cp_A st) (cp_A par) wk (cp_A cn) (cp_A tx) od (cp_A hg) bw (cp_Bo gd) ch (cp_A po) li sp qu sk (d + 1)) (nI (cp_bt gd bw od k)) (nI k) x3 sb (nI tip) (nI pc) qc (cp_A ic) (cp_A so) wi xo (cp_Bo sl) (cp_A am) lk (cp_A st) (cp_A par) wk (cp_A cn) (cp_A tx) od (cp_A hg) bw (cp_Bo gd) ch (cp_A po) li sp qu sk := by
      intro x3 a
      refine And.intro ik (And.intro ip (br_c (fun z => k51 x3 1 a (cp_TF_T ?_)) (fun z => k51 x3 0 a (cp_TF_F ?_))))
      · rw [cp_rw bw (by omega), cp_rw bw (by omega)] at z
        exact z
      · rw [cp_rw bw (by omega), cp_rw bw (by omega)] at z
        exact z
    refine pk_le 24 k (fun z => False.elim (by omega)) (fun _ => And.intro ik (And.intro ip (br_c (fun z => k30 0 (cp_TF_F ?_)) (fun z => k30 1 (cp_TF_T ?_)))))
    · rw [cp_rw bw (by omega), cp_rw bw (by omega)] at z
      exact Int32.not_lt.mpr z
    · rw [cp_rw bw (by omega), cp_rw bw (by omega)] at z
      exact Int32.not_le.mp z
theorem cx_best {post : Int32 → Prop} (H : post (nI (cp_bt gd bw od 24))) : wpX_findHeaviestGood post (sb, nI tip, nI pc, qc, cp_A ic, cp_A so, wi, xo, cp_Bo sl, cp_A am, lk, cp_A st, cp_A par, wk, cp_A cn, cp_A tx, od, cp_A hg, bw, cp_Bo gd, ch, cp_A po, li, sp, qu, sk) := by
  have z := cx_b4 (sb := sb) (tip := tip) (pc := pc) (qc := qc) (ic := ic) (so := so) (wi := wi) (xo := xo) (sl := sl) (am := am) (lk := lk) (st := st) (par := par) (wk := wk) (cn := cn) (tx := tx) (od := od) (hg := hg) (bw := bw) (gd := gd) (ch := ch) (po := po) (li := li) (sp := sp) (qu := qu) (sk := sk) H 23 1 (by omega) (Nat.le_refl _)
  rw [cp_bt_1] at z
  exact Exists.intro 24 z
/-- the block at each height of the chain of the tip -/
def cp_RC (hg par : Nat → Nat) (tip : Nat) (ch : Nat → Int32) : Prop := ∀ i, i ≤ hg tip → ch i = nI (cp_pt par hg tip i)
theorem cx_ff9 {post : Int32 → Prop} (T : cp_Tr hg par st) {l : Nat} (hl : l < 24) (cl : st l = 3) (htip : tip < 24) (ct : st tip = 3) (hh : hg tip < 24) (hh2 : hg l < 24) (RC : cp_RC hg par tip ch) (H : ∀ F, cp_Fk hg par l tip F → post (nI F)) : ∀ (h : Nat), h ≤ hg l → (∀ q, h < q → q ≤ hg l → q ≤ hg tip → ¬ cp_pt par hg l q = cp_pt par hg tip q) → wX_findFork_9 post sb (nI tip) (nI pc) qc (cp_A ic) (cp_A so) wi xo (cp_Bo sl) (cp_A am) lk (cp_A st) (cp_A par) wk (cp_A cn) (cp_A tx) od (cp_A hg) bw (cp_Bo gd) ch (cp_A po) li sp qu sk (h + 1) (nI (cp_pt par hg l h)) (nI h) := by
  intro h
  induction h with
  | zero =>
    intro hh h
    exact pk_le 0 0 (fun _ => H 0 ⟨Nat.zero_le _, Nat.zero_le _, by rw [cp_pt_0 T hl cl, cp_pt_0 T htip ct], h⟩) (fun z => False.elim (by omega))
  | succ n ih =>
    intro hn h
    have pi := cp_pt_in T hl cl hn
    have up := cp_pt_up T hl cl hn (by omega)
    rw [show n + 1 - 1 = n from rfl] at up
    have e : cp_A par (nI (cp_pt par hg l (n + 1))).toNatClampNeg = nI (cp_pt par hg l n) := by
      rw [cp_rd par (by omega), up]
    have go : (∀ q, n < q → q ≤ hg l → q ≤ hg tip → ¬ cp_pt par hg l q = cp_pt par hg tip q) → wX_findFork_9 post sb (nI tip) (nI pc) qc (cp_A ic) (cp_A so) wi xo (cp_Bo sl) (cp_A am) lk (cp_A st) (cp_A par) wk (cp_A cn) (cp_A tx) od (cp_A hg) bw (cp_Bo gd) ch (cp_A po) li sp qu sk (n + 1) (nI (cp_pt par hg l n)) (nI n) := fun w => ih (by omega) w
    refine pk_le (n + 1) 0 (fun z => False.elim (by omega)) (fun _ => And.intro (vp_in_nI htip (by decide)) (pk_lt (hg tip) (n + 1) (fun z => And.intro (vp_in_nI pi (by decide)) (nm_r e (nm_r (pk_m1 n) (go ?_)))) (fun z => And.intro (vp_in_nI (by omega) (by decide)) (pk_eq (cp_pt par hg tip (n + 1)) (cp_pt par hg l (n + 1)) (fun y => H (n + 1) ⟨hn, z, y.symm, h⟩) (fun y => And.intro (vp_in_nI pi (by decide)) (nm_r e (nm_r (pk_m1 n) (go ?_)))) ?_ rfl ?_ ?_)) (cp_rd hg (by omega)) rfl))
    · intro q h1 h2 h3
      omega
    · intro q h1 h2 h3
      by_cases e : q = n + 1
      · rw [e]
        exact fun w => y w.symm
      · exact h q (by omega) h2 h3
    · rw [cp_rw ch (by omega)]
      exact RC _ z
    · have := cp_pt_in T htip ct z
      omega
    · omega
theorem cx_ff {post : Int32 → Prop} (T : cp_Tr hg par st) {l : Nat} (hl : l < 24) (cl : st l = 3) (htip : tip < 24) (ct : st tip = 3) (hh : hg tip < 24) (hh2 : hg l < 24) (RC : cp_RC hg par tip ch) (H : ∀ F, cp_Fk hg par l tip F → post (nI F)) : wpX_findFork post (sb, nI tip, nI pc, qc, cp_A ic, cp_A so, wi, xo, cp_Bo sl, cp_A am, lk, cp_A st, cp_A par, wk, cp_A cn, cp_A tx, od, cp_A hg, bw, cp_Bo gd, ch, cp_A po, li, sp, qu, sk) (nI l) := by
  refine And.intro (vp_in_nI hl (by decide)) (nm_r (cp_rd hg (by omega)) (Exists.intro (hg l + 1) ?_))
  have z := cx_ff9 (sb := sb) (tip := tip) (pc := pc) (qc := qc) (ic := ic) (so := so) (wi := wi) (xo := xo) (sl := sl) (am := am) (lk := lk) (st := st) (par := par) (wk := wk) (cn := cn) (tx := tx) (od := od) (hg := hg) (bw := bw) (gd := gd) (ch := ch) (po := po) (li := li) (sp := sp) (qu := qu) (sk := sk) T hl cl htip ct hh hh2 RC H (hg l) (Nat.le_refl _) (fun q h1 h2 => by omega)
  rw [cp_pt_top] at z
  exact z
theorem cx_enq {post : SX → Prop} {l : List Nat} {t : Nat} (hn : l.length < 80) (hq : cp_QR qu l) (H : ∀ qu', cp_QR qu' (l ++ [t]) → post (sb, nI tip, nI pc, (nI (l ++ [t]).length), cp_A ic, cp_A so, wi, xo, cp_Bo sl, cp_A am, lk, cp_A st, cp_A par, wk, cp_A cn, cp_A tx, od, cp_A hg, bw, cp_Bo gd, ch, cp_A po, li, sp, qu', sk)) : wpX_enqueue post (sb, nI tip, nI pc, (nI l.length), cp_A ic, cp_A so, wi, xo, cp_Bo sl, cp_A am, lk, cp_A st, cp_A par, wk, cp_A cn, cp_A tx, od, cp_A hg, bw, cp_Bo gd, ch, cp_A po, li, sp, qu, sk) (nI t) := by
  have z := H _ (cp_QR_s hq t)
  rw [cp_len1] at z
  refine pk_le 80 l.length (fun z => False.elim (by omega)) (fun _ => And.intro (vp_in_nI hn (by decide)) (nm_r (by rw [nI_clamp (by omega)]) (nm_r (nI_1 _) z)))
theorem cx_ec2 {post : SX → Prop} {l : List Nat} {b : Nat} (hb : b < 24) (hc : cn b ≤ 3) (hn : l.length + 3 ≤ 80) (H : ∀ qu', cp_QR qu' (l ++ cp_ct tx b (cn b)) → post (sb, nI tip, nI pc, (nI (l ++ cp_ct tx b (cn b)).length), cp_A ic, cp_A so, wi, xo, cp_Bo sl, cp_A am, lk, cp_A st, cp_A par, wk, cp_A cn, cp_A tx, od, cp_A hg, bw, cp_Bo gd, ch, cp_A po, li, sp, qu', sk)) : ∀ (d i : Nat) (qu : Nat → Int32), i + d = cn b → cp_QR qu (l ++ cp_ct tx b i) → wX_enqueueContent_2 post (nI b) (d + 1) (nI i) sb (nI tip) (nI pc) (nI (l ++ cp_ct tx b i).length) (cp_A ic) (cp_A so) wi xo (cp_Bo sl) (cp_A am) lk (cp_A st) (cp_A par) wk (cp_A cn) (cp_A tx) od (cp_A hg) bw (cp_Bo gd) ch (cp_A po) li sp qu sk := by
  intro d
  induction d with
  | zero =>
    intro i qu hi hq
    have ei : i = cn b := by omega
    subst ei
    exact And.intro (vp_in_nI hb (by decide)) (pk_le (cn b) (cn b) (fun _ => H qu hq) (fun z => False.elim (by omega)) (cp_rd cn (by omega)) rfl)
  | succ d ih =>
    intro i qu hi hq
    have e1 : cp_A tx ((3 : Int32) * nI b + nI i).toNatClampNeg = nI (tx (3 * b + i)) := by
      rw [cp_3a, cp_rd _ (by omega)]
    refine And.intro (vp_in_nI hb (by decide)) (pk_le (cn b) i (fun z => False.elim (by omega)) (fun _ => And.intro (pk_in (3 * b + i) 72 (by omega) (cp_3a b i)) ?_) (cp_rd cn (by omega)) rfl)
    rw [e1]
    refine cx_enq ?_ hq (fun qu' hq' => nm_r (nI_1 i) ?_)
    · rw [List.length_append, cp_ct_len]
      omega
    · have ea : l ++ cp_ct tx b i ++ [tx (3 * b + i)] = l ++ cp_ct tx b (i + 1) := List.append_assoc _ _ _
      rw [ea] at hq' ⊢
      exact ih (i + 1) qu' (by omega) hq'
theorem cx_ec {post : SX → Prop} {l : List Nat} {b : Nat} (hb : b < 24) (hc : cn b ≤ 3) (hn : l.length + 3 ≤ 80) (hq : cp_QR qu l) (H : ∀ qu', cp_QR qu' (l ++ cp_ct tx b (cn b)) → post (sb, nI tip, nI pc, (nI (l ++ cp_ct tx b (cn b)).length), cp_A ic, cp_A so, wi, xo, cp_Bo sl, cp_A am, lk, cp_A st, cp_A par, wk, cp_A cn, cp_A tx, od, cp_A hg, bw, cp_Bo gd, ch, cp_A po, li, sp, qu', sk)) : wpX_enqueueContent post (sb, nI tip, nI pc, (nI l.length), cp_A ic, cp_A so, wi, xo, cp_Bo sl, cp_A am, lk, cp_A st, cp_A par, wk, cp_A cn, cp_A tx, od, cp_A hg, bw, cp_Bo gd, ch, cp_A po, li, sp, qu, sk) (nI b) := by
  have ea : l ++ cp_ct tx b 0 = l := List.append_nil l
  refine Exists.intro (cn b + 1) ?_
  have z := cx_ec2 (sb := sb) (tip := tip) (pc := pc) (ic := ic) (so := so) (wi := wi) (xo := xo) (sl := sl) (am := am) (lk := lk) (st := st) (par := par) (wk := wk) (cn := cn) (tx := tx) (od := od) (hg := hg) (bw := bw) (gd := gd) (ch := ch) (po := po) (li := li) (sp := sp) (sk := sk) hb hc hn H (cn b) 0 qu (by omega) (by rw [ea]; exact hq)
  rw [ea] at z
  exact z
theorem cx_m90 {post : SX → Prop} (T : cp_Tr hg par st) {F : Nat} (htip : tip < 24) (ct : st tip = 3) (hh : hg tip < 24) (H : ∀ ch', cp_RC hg par tip ch' → post (sb, nI tip, nI pc, qc, cp_A ic, cp_A so, wi, xo, cp_Bo sl, cp_A am, lk, cp_A st, cp_A par, wk, cp_A cn, cp_A tx, od, cp_A hg, bw, cp_Bo gd, ch', cp_A po, li, sp, qu, sk)) : ∀ (d h : Nat) (ch : Nat → Int32), h = F + d → h ≤ hg tip → (∀ i, h < i → i ≤ hg tip → ch i = nI (cp_pt par hg tip i)) → (∀ i, i ≤ F → ch i = nI (cp_pt par hg tip i)) → wX_moveTip_90 post (nI F) sb (nI tip) (nI pc) qc (d + 1) (nI (cp_pt par hg tip h)) (nI h) (cp_A ic) (cp_A so) wi xo (cp_Bo sl) (cp_A am) lk (cp_A st) (cp_A par) wk (cp_A cn) (cp_A tx) od (cp_A hg) bw (cp_Bo gd) ch (cp_A po) li sp qu sk := by
  intro d
  induction d with
  | zero =>
    intro h ch hF hle h1 h2
    refine pk_le h F (fun _ => H ch (fun i hi => ?_)) (fun z => False.elim (by omega))
    by_cases e : i ≤ F
    · exact h2 i e
    · exact h1 i (by omega) hi
  | succ d ih =>
    intro h ch hF hle h1 h2
    have pi := cp_pt_in T htip ct hle
    have up := cp_pt_up T htip ct hle (by omega)
    refine pk_le h F (fun z => False.elim (by omega)) (fun _ => And.intro (vp_in_nI (by omega) (by decide)) (nm_r (e' := upd ch h (nI (cp_pt par hg tip h))) (by rw [nI_clamp (by omega)]) (And.intro (vp_in_nI pi (by decide)) (nm_r (e' := nI (cp_pt par hg tip (h - 1))) (by rw [cp_rd par (by omega), up]) (nm_r (cp_nm1 (by omega)) (ih (h - 1) _ (by omega) (by omega) ?_ ?_))))))
    · intro i hi hi2
      by_cases e : i = h
      · rw [e, pk_us]
      · rw [pk_un e]
        exact h1 i (by omega) hi2
    · intro i hi
      rw [pk_un (by omega)]
      exact h2 i hi
end
