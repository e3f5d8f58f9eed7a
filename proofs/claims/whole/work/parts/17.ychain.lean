/-! Y: the chain, its replay -/
theorem cp_waa (w a p q : Int32) (h : w + (p + a) = q) : (w + a) + p = q := by
  rw [← h, Int32.add_assoc, Int32.add_comm a p]
section
variable {ys yn yw : Int32} {tip pc : Nat} {ic so oc am hg par cn tx st po : Nat → Nat} {sl gd : Nat → Bool} {wi lk wk bw od yp yl yt ho yk yq yo : Nat → Int32}
theorem cy_ch92 {post : Int32 → SY → Prop} {N : Nat} (hN : N ≤ 24) (g : Nat → Int32) (H : ∀ yp', (∀ i, i < N → yp' i = g (N - 1 - i)) → post 1 (ys, (nI N), yw, nI pc, nI tip, cp_A ic, cp_A (cp_hf so), cp_A (cp_hm so), wi, cp_A oc, cp_A am, lk, cp_Bo sl, cp_A (cp_ys st), cp_A par, wk, cp_A cn, cp_A tx, od, yp', yl, yt, ho, yk, cp_A po, yq, yo)) : ∀ (d k : Nat) (yp : Nat → Int32), k + d = N / 2 → (∀ i, i < N → yp i = if i < k ∨ N - 1 - i < k then g (N - 1 - i) else g i) → wY_chain_92 post (nI N) ys (nI N) yw (nI pc) (nI tip) (d + 1) (nI k) (cp_A ic) (cp_A (cp_hf so)) (cp_A (cp_hm so)) wi (cp_A oc) (cp_A am) lk (cp_Bo sl) (cp_A (cp_ys st)) (cp_A par) wk (cp_A cn) (cp_A tx) od yp yl yt ho yk (cp_A po) yq yo := by
  have e2 : nI N / 2 = nI (N / 2) := pk_div (d := 2) (by omega) (by decide) (by decide)
  intro d
  induction d with
  | zero =>
    intro k yp hk h
    refine And.intro (by decide) (pk_le (N / 2) k (fun _ => H yp ?_) (fun z => False.elim (by omega)) e2 rfl)
    intro i hi
    rw [h i hi]
    by_cases z : i < k ∨ N - 1 - i < k
    · rw [if_pos z]
    · rw [if_neg z, show N - 1 - i = i from by omega]
  | succ d ih =>
    intro k yp hk h
    have e3 : nI N - 1 - nI k = nI (N - 1 - k) := by
      rw [cp_sub1 (by omega), pk_sub (by omega)]
    have ik : vp_in (nI k) 24 := vp_in_nI (by omega) (by decide)
    have im : vp_in (nI N - 1 - nI k) 24 := pk_in (N - 1 - k) 24 (by omega) e3
    have v1 : yp (nI k).toNatClampNeg = g k := by
      rw [nI_clamp (by omega), h k (by omega), if_neg (by omega)]
    have v2 : yp (nI N - 1 - nI k).toNatClampNeg = g (N - 1 - k) := by
      rw [e3, nI_clamp (by omega), h _ (by omega), if_neg (by omega)]
    refine And.intro (by decide) (pk_le (N / 2) k (fun z => False.elim (by omega)) (fun _ => And.intro ik (nm_r v1 (And.intro im (And.intro ik (nm_r (e' := upd yp k (g (N - 1 - k))) (by rw [v2, nI_clamp (by omega)]) (And.intro im (nm_r (e' := upd (upd yp k (g (N - 1 - k))) (N - 1 - k) (g k)) (by rw [e3, nI_clamp (by omega)]) (nm_r (nI_1 k) (ih (k + 1) _ (by omega) ?_))))))))) e2 rfl)
    intro i hi
    by_cases a : i = N - 1 - k
    · rw [a, pk_us, if_pos (by omega)]
      exact congrArg g (by omega)
    · rw [pk_un a]
      by_cases b : i = k
      · rw [b, pk_us, if_pos (by omega)]
      · rw [pk_un b, h i hi]
        by_cases z : i < k ∨ N - 1 - i < k
        · rw [if_pos z, if_pos (by omega)]
        · rw [if_neg z, if_neg (by omega)]
theorem cp_ys3 {c : Nat} (h : st c = 3) : cp_ys st c = 2 := if_pos h
theorem cp_ysn {c : Nat} (h : st c ≠ 3) : cp_ys st c = st c := if_neg h
theorem cp_ys_le (B : cp_RB ic so oc am hg par cn tx st sl wi lk) (c : Nat) : cp_ys st c ≤ 2 := by
  have := cp_RB_st B c
  unfold cp_ys
  split <;> omega
theorem cy_ch9 {post : Int32 → SY → Prop} (B : cp_RB ic so oc am hg par cn tx st sl wi lk) (R : cp_RT ic so oc am hg par cn tx st sl wi lk wk bw gd) {b : Nat} (hb : b < 24) (cb : st b = 3)
    (H : ∀ yp', (∀ i, i ≤ hg b → yp' i = nI (cp_pt par hg b (hg b - i))) → wY_chain_67 post (nI (hg b + 1)) ys yn (bw b) (nI pc) (nI tip) (cp_A ic) (cp_A (cp_hf so)) (cp_A (cp_hm so)) wi (cp_A oc) (cp_A am) lk (cp_Bo sl) (cp_A (cp_ys st)) (cp_A par) wk (cp_A cn) (cp_A tx) od yp' yl yt ho yk (cp_A po) yq yo) : ∀ (d n : Nat) (yp : Nat → Int32) (w : Int32), n + d = hg b → (∀ i, i < n → yp i = nI (cp_pt par hg b (hg b - i))) → w + bw (cp_pt par hg b d) = bw b →
    wY_chain_9 post ys yn (nI pc) (nI tip) (d + 1) (nI (cp_pt par hg b d)) (nI n) w (cp_A ic) (cp_A (cp_hf so)) (cp_A (cp_hm so)) wi (cp_A oc) (cp_A am) lk (cp_Bo sl) (cp_A (cp_ys st)) (cp_A par) wk (cp_A cn) (cp_A tx) od yp yl yt ho yk (cp_A po) yq yo := by
  have T := R.1
  have hh := cp_RT_hg R hb cb
  have nxt : ∀ (n d : Nat) (yp : Nat → Int32), n + d = hg b → (∀ i, i < n → yp i = nI (cp_pt par hg b (hg b - i))) → ∀ i, i < n + 1 → upd yp n (nI (cp_pt par hg b d)) i = nI (cp_pt par hg b (hg b - i)) := by
    intro n d yp hn h i hi
    by_cases e : i = n
    · rw [e, pk_us, show hg b - n = d from by omega]
    · rw [pk_un e]
      exact h i (by omega)
  intro d
  induction d with
  | zero =>
    intro n yp w hn h hw
    have e0 := cp_pt_0 T hb cb
    obtain ⟨r1, r2, r3, r4, r5⟩ := R.2.1
    have z24 : vp_in (nI (cp_pt par hg b 0)) 24 := by
      rw [e0]
      exact vp_in_nI (by decide) (by decide)
    refine pk_le 24 n (fun z => False.elim (by omega)) (fun _ => And.intro z24 (pk_eq (cp_ys st (cp_pt par hg b 0)) 2 (fun _ => And.intro (vp_in_nI (by omega) (by decide)) (nm_r (e' := upd yp n (nI (cp_pt par hg b 0))) (by rw [nI_clamp (by omega)]) (nm_r (nI_1 n) (And.intro z24 (nm_r (e' := bw b) ?_ (br_t (by rw [e0, nI_0]) ?_)))))) (fun z => absurd (cp_ys3 (cp_pt_st T hb cb (Nat.zero_le _))) z) (cp_rd (cp_ys st) (by omega)) rfl (by rw [cp_ys3 (cp_pt_st T hb cb (Nat.zero_le _))]; decide)))
    · rw [e0, nI_clamp (by decide), r5, ← hw, e0, r4]
    · have z := H _ (fun i hi => nxt n 0 yp hn h i (by omega))
      rw [show hg b + 1 = n + 1 from by omega] at z
      exact z
  | succ d ih =>
    intro n yp w hn h hw
    have pi := cp_pt_in T hb cb (i := d + 1) (by omega)
    have ps := cp_pt_st T hb cb (i := d + 1) (by omega)
    have ph := cp_pt_hg T hb cb (i := d + 1) (by omega)
    have pu := cp_pt_up T hb cb (i := d + 1) (by omega) (by omega)
    rw [show d + 1 - 1 = d from rfl] at pu
    have ne : cp_pt par hg b (d + 1) ≠ 0 := by
      intro e
      rw [e, T.2.1] at ph
      omega
    have i24 : vp_in (nI (cp_pt par hg b (d + 1))) 24 := vp_in_nI pi (by decide)
    have hwt := (R.2.2.1 _ pi ps ne).1
    rw [pu] at hwt
    rw [hwt] at hw
    refine pk_le 24 n (fun z => False.elim (by omega)) (fun _ => And.intro i24 (pk_eq (cp_ys st (cp_pt par hg b (d + 1))) 2 (fun _ => And.intro (vp_in_nI (by omega) (by decide)) (nm_r (e' := upd yp n (nI (cp_pt par hg b (d + 1)))) (by rw [nI_clamp (by omega)]) (nm_r (nI_1 n) (And.intro i24 (nm_r (e' := w + wk (cp_pt par hg b (d + 1))) (by rw [nI_clamp (by omega)]) (br_f (nI_ne0 (by omega) (by omega)) (And.intro i24 (nm_r (e' := nI (cp_pt par hg b d)) (by rw [cp_rd par (by omega), pu]) (ih (n + 1) _ _ (by omega) (nxt n (d + 1) yp hn h) (cp_waa _ _ _ _ hw))))))))) ) (fun z => absurd (cp_ys3 ps) z) (cp_rd (cp_ys st) (by omega)) rfl (by rw [cp_ys3 ps]; decide)))
theorem cy_cht {post : Int32 → SY → Prop} (B : cp_RB ic so oc am hg par cn tx st sl wi lk) (R : cp_RT ic so oc am hg par cn tx st sl wi lk wk bw gd) {b : Nat} (hb : b < 24) (cb : st b = 3)
    (H : ∀ yp', (∀ i, i ≤ hg b → yp' i = nI (cp_pt par hg b i)) → post 1 (ys, (nI (hg b + 1)), (bw b), nI pc, nI tip, cp_A ic, cp_A (cp_hf so), cp_A (cp_hm so), wi, cp_A oc, cp_A am, lk, cp_Bo sl, cp_A (cp_ys st), cp_A par, wk, cp_A cn, cp_A tx, od, yp', yl, yt, ho, yk, cp_A po, yq, yo)) : wpY_chain post (ys, yn, yw, nI pc, nI tip, cp_A ic, cp_A (cp_hf so), cp_A (cp_hm so), wi, cp_A oc, cp_A am, lk, cp_Bo sl, cp_A (cp_ys st), cp_A par, wk, cp_A cn, cp_A tx, od, yp, yl, yt, ho, yk, cp_A po, yq, yo) (nI b) := by
  have T := R.1
  have hh := cp_RT_hg R hb cb
  refine Exists.intro (hg b + 1) ?_
  have z := cy_ch9 (post := post) (ys := ys) (yn := yn) (pc := pc) (tip := tip) (ic := ic) (so := so) (wi := wi) (oc := oc) (am := am) (lk := lk) (sl := sl) (st := st) (par := par) (wk := wk) (cn := cn) (tx := tx) (od := od) (yl := yl) (yt := yt) (ho := ho) (yk := yk) (po := po) (yq := yq) (yo := yo) B R hb cb (fun yp' h => ?_) (hg b) 0 yp 0 (by omega) (fun i hi => absurd hi (Nat.not_lt_zero _)) (by rw [cp_pt_top, Int32.zero_add])
  · rw [cp_pt_top] at z
    exact z
  · refine br_f (nI_ne0 (by omega) (by omega)) (And.intro (pk_in (hg b) 24 hh (nI_pred (hg b))) (br_t ?_ (Exists.intro ((hg b + 1) / 2 + 1) (cy_ch92 (by omega) yp' (fun yp'' h'' => H yp'' ?_) ((hg b + 1) / 2) 0 yp' (by omega) ?_))))
    · rw [nI_pred, nI_clamp (by omega), h _ (Nat.le_refl _), Nat.sub_self, cp_pt_0 T hb cb]
      rfl
    · intro i hi
      rw [h'' i (by omega), h _ (by omega)]
      exact congrArg (fun q => nI (cp_pt par hg b q)) (by omega)
    · intro i hi
      rw [if_neg (by omega)]
theorem cy_ch67n {post : Int32 → SY → Prop} {n : Nat} (hn : n ≤ 24) (h : 0 < n → ∃ e, 0 < e ∧ e < 24 ∧ yp (n - 1) = nI e) (H : post 0 (ys, (nI n), yw, nI pc, nI tip, cp_A ic, cp_A (cp_hf so), cp_A (cp_hm so), wi, cp_A oc, cp_A am, lk, cp_Bo sl, cp_A (cp_ys st), cp_A par, wk, cp_A cn, cp_A tx, od, yp, yl, yt, ho, yk, cp_A po, yq, yo)) : wY_chain_67 post (nI n) ys yn yw (nI pc) (nI tip) (cp_A ic) (cp_A (cp_hf so)) (cp_A (cp_hm so)) wi (cp_A oc) (cp_A am) lk (cp_Bo sl) (cp_A (cp_ys st)) (cp_A par) wk (cp_A cn) (cp_A tx) od yp yl yt ho yk (cp_A po) yq yo := by
  refine pk_eq n 0 (fun _ => H) (fun z => And.intro (pk_in (n - 1) 24 (by omega) (cp_sub1 (by omega))) (br_f ?_ H))
  obtain ⟨e, e1, e2, e3⟩ := h (by omega)
  rw [cp_sub1 (by omega), nI_clamp (by omega), e3]
  exact nI_ne0 e1 (by omega)
theorem cy_ch9n {post : Int32 → SY → Prop} (B : cp_RB ic so oc am hg par cn tx st sl wi lk) (s0 : st 0 = 3) (O : cp_RO par st) (H : ∀ yp' yn' yw', post 0 (ys, yn', yw', nI pc, nI tip, cp_A ic, cp_A (cp_hf so), cp_A (cp_hm so), wi, cp_A oc, cp_A am, lk, cp_Bo sl, cp_A (cp_ys st), cp_A par, wk, cp_A cn, cp_A tx, od, yp', yl, yt, ho, yk, cp_A po, yq, yo)) : ∀ (d n c : Nat) (yp : Nat → Int32) (w : Int32), n + d = 24 → c < 24 → st c ≠ 3 → (0 < n → ∃ e, 0 < e ∧ e < 24 ∧ yp (n - 1) = nI e) → wY_chain_9 post ys yn (nI pc) (nI tip) (d + 1) (nI c) (nI n) w (cp_A ic) (cp_A (cp_hf so)) (cp_A (cp_hm so)) wi (cp_A oc) (cp_A am) lk (cp_Bo sl) (cp_A (cp_ys st)) (cp_A par) wk (cp_A cn) (cp_A tx) od yp yl yt ho yk (cp_A po) yq yo := by
  intro d
  induction d with
  | zero =>
    intro n c yp w hn hc hs h
    exact pk_le 24 n (fun _ => cy_ch67n (by omega) h (H _ _ _)) (fun z => False.elim (by omega))
  | succ d ih =>
    intro n c yp w hn hc hs h
    have i24 : vp_in (nI c) 24 := vp_in_nI hc (by decide)
    have c0 : c ≠ 0 := by
      intro e
      rw [e] at hs
      exact hs s0
    have sl := cp_ys_le B c
    refine pk_le 24 n (fun z => False.elim (by omega)) (fun _ => And.intro i24 (pk_eq (cp_ys st c) 2 (fun e => And.intro (vp_in_nI (by omega) (by decide)) (nm_r (e' := upd yp n (nI c)) (by rw [nI_clamp (by omega)]) (nm_r (nI_1 n) (And.intro i24 (nm_e (br_f (nI_ne0 (by omega) (by omega)) (And.intro i24 (nm_r (cp_rd par (by omega)) (ih (n + 1) (par c) _ _ (by omega) (cp_RB_par B c) ?_ ?_)))))))) ) (fun _ => cy_ch67n (by omega) h (H _ _ _)) (cp_rd (cp_ys st) (by omega)) rfl))
    · rw [cp_ysn hs] at e
      exact O c (by omega) hc e
    · intro _
      exact ⟨c, by omega, hc, pk_us⟩
theorem cy_chf {post : Int32 → SY → Prop} (B : cp_RB ic so oc am hg par cn tx st sl wi lk) (s0 : st 0 = 3) (O : cp_RO par st) {b : Nat} (hb : b < 24) (hs : st b ≠ 3) (H : ∀ yp' yn' yw', post 0 (ys, yn', yw', nI pc, nI tip, cp_A ic, cp_A (cp_hf so), cp_A (cp_hm so), wi, cp_A oc, cp_A am, lk, cp_Bo sl, cp_A (cp_ys st), cp_A par, wk, cp_A cn, cp_A tx, od, yp', yl, yt, ho, yk, cp_A po, yq, yo)) : wpY_chain post (ys, yn, yw, nI pc, nI tip, cp_A ic, cp_A (cp_hf so), cp_A (cp_hm so), wi, cp_A oc, cp_A am, lk, cp_Bo sl, cp_A (cp_ys st), cp_A par, wk, cp_A cn, cp_A tx, od, yp, yl, yt, ho, yk, cp_A po, yq, yo) (nI b) :=
  Exists.intro 25 (cy_ch9n B s0 O H 24 0 b yp 0 (by omega) hb hs (fun z => absurd z (Nat.lt_irrefl 0)))
/-- heights of what is listed -/
def cp_HO (hg par cn tx : Nat → Nat) (b m : Nat) (ho : Nat → Int32) (L : Nat → Prop) : Prop := ∀ j, j < 56 → L j → ∃ i, i < m ∧ ho j = nI i ∧ cp_inB cn tx (cp_pt par hg b i) j
theorem cp_HO_LH (B : cp_RB ic so oc am hg par cn tx st sl wi lk) (T : cp_Tr hg par st) {b m : Nat} (hb : b < 24) (cb : st b = 3) (hh : hg b < 24) (hm : m ≤ hg b + 1) {L : Nat → Prop} (h : cp_HO hg par cn tx b m ho L) : cp_LH hg ho L := by
  intro j hj hL h32
  obtain ⟨i, hi, e, z⟩ := h j hj hL
  rcases z with z | ⟨q, hq, z⟩
  · have a := cp_pt_hg T hb cb (i := i) (by omega)
    rw [z, show 32 + cp_pt par hg b i - 32 = cp_pt par hg b i from by omega, a]
    rw [z] at e
    exact ⟨e, by omega⟩
  · have := cp_RB_tx B (3 * cp_pt par hg b i + q)
    omega
theorem cp_64 (c : Nat) : (64 : Int32) + (2 : Int32) * nI c = nI (64 + 2 * c) := by
  rw [cp_2m]
  exact nI_add 64 (2 * c)
theorem cy_rb8 {post : Int32 → SY → Prop} (B : cp_RB ic so oc am hg par cn tx st sl wi lk) (R : cp_RT ic so oc am hg par cn tx st sl wi lk wk bw gd) {b n : Nat} (hb : b < 24) (cb : st b = 3) (hn : n ≤ hg b)
    (Hf : ∀ yl yt ho yk, ¬ cp_CQ ic so oc am hg par cn tx sl wi lk b n → post 0 (ys, yn, yw, nI pc, nI tip, cp_A ic, cp_A (cp_hf so), cp_A (cp_hm so), wi, cp_A oc, cp_A am, lk, cp_Bo sl, cp_A (cp_ys st), cp_A par, wk, cp_A cn, cp_A tx, od, yp, yl, yt, ho, yk, cp_A po, yq, yo))
    (Ht : ∀ yl yt ho yk, cp_CQ ic so oc am hg par cn tx sl wi lk b n → cp_Rp yl (cp_Lh hg par cn tx b (n + 1)) 56 → cp_Rp yt (cp_Sh ic so hg par cn tx b (n + 1)) 112 → cp_HO hg par cn tx b (n + 1) ho (cp_Lh hg par cn tx b (n + 1)) → post 1 (ys, yn, yw, nI pc, nI tip, cp_A ic, cp_A (cp_hf so), cp_A (cp_hm so), wi, cp_A oc, cp_A am, lk, cp_Bo sl, cp_A (cp_ys st), cp_A par, wk, cp_A cn, cp_A tx, od, yp, yl, yt, ho, yk, cp_A po, yq, yo)) :
    ∀ (d i : Nat) (yl yt ho yk : Nat → Int32), i + d = cn (cp_pt par hg b n) → cp_Rp yl (cp_Lq hg par cn tx b n i) 56 → cp_Rp yt (cp_Sq ic so hg par cn tx b n i) 112 → cp_HO hg par cn tx b (n + 1) ho (cp_Lq hg par cn tx b n i) →
    (∀ q, q < i → cp_FT ic so oc am hg sl wi lk (cp_Lq hg par cn tx b n q) (cp_Sq ic so hg par cn tx b n q) (tx (3 * cp_pt par hg b n + q)) n) →
    wY_replayBlock_8 post (nI (cp_pt par hg b n)) (nI n) (d + 1) (nI (50 + cp_fs ic so oc am tx (cp_pt par hg b n) i)) (nI (3 * cp_pt par hg b n + i)) ys yn yw (nI pc) (nI tip) (cp_A ic) (cp_A (cp_hf so)) (cp_A (cp_hm so)) wi (cp_A oc) (cp_A am) lk (cp_Bo sl) (cp_A (cp_ys st)) (cp_A par) wk (cp_A cn) (cp_A tx) od yp yl yt ho yk (cp_A po) yq yo := by
  have T := R.1
  have hh := cp_RT_hg R hb cb
  have pc24 := cp_pt_in T hb cb hn
  have c3 := cp_RB_cn B (cp_pt par hg b n)
  have e0 : (3 : Int32) * nI (cp_pt par hg b n) + cp_A cn (nI (cp_pt par hg b n)).toNatClampNeg = nI (3 * cp_pt par hg b n + cn (cp_pt par hg b n)) := by
    rw [cp_rd cn (by omega), cp_3a]
  intro d
  induction d with
  | zero =>
    intro i yl yt ho yk hi hl hs hH hF
    have ei : i = cn (cp_pt par hg b n) := by omega
    have fl := cp_fs_le B (cp_pt par hg b n) i
    have al := cp_RB_am B (64 + 2 * cp_pt par hg b n)
    have e32 : (32 : Int32) + nI (cp_pt par hg b n) = nI (32 + cp_pt par hg b n) := nI_add 32 _
    refine And.intro (vp_in_nI pc24 (by decide)) (pk_le (3 * cp_pt par hg b n + cn (cp_pt par hg b n)) (3 * cp_pt par hg b n + i) (fun _ => And.intro (pk_in (64 + 2 * cp_pt par hg b n) 112 (by omega) (cp_64 _)) ?_) (fun z => False.elim (by omega)) e0 rfl)
    refine pk_le (am (64 + 2 * cp_pt par hg b n)) (50 + cp_fs ic so oc am tx (cp_pt par hg b n) i) (fun z => ?_) (fun z => Hf _ _ _ _ (fun y => by have := y.2; rw [← ei] at this; omega)) ?_ rfl
    · rw [e32]
      refine cy_lc _ pc24 hl (fun yl' hl' => Ht _ _ _ _ ⟨fun q hq => hF q (by omega), by rw [← ei]; exact z⟩ (cp_Rp_iff hl' ?_) (cp_Rp_iff hs ?_) ?_)
      · intro j _
        rw [cp_Lh_s, ei]
        constructor
        · rintro ((y | y) | y)
          · exact Or.inl y
          · exact Or.inr (Or.inr y)
          · exact Or.inr (Or.inl y)
        · rintro (y | y | y)
          · exact Or.inl (Or.inl y)
          · exact Or.inr y
          · exact Or.inl (Or.inr y)
      · intro j _
        rw [cp_Sh_s, ei]
        exact Iff.rfl
      · intro j hj hLj
        rw [cp_Lh_s] at hLj
        by_cases e : j = 32 + cp_pt par hg b n
        · rw [e, pk_us]
          exact ⟨n, by omega, rfl, Or.inl rfl⟩
        · rw [pk_un e]
          apply hH j hj
          rw [ei]
          rcases hLj with y | y | y
          · exact Or.inl y
          · exact absurd y e
          · exact Or.inr y
    · rw [cp_64, cp_rd am (by omega)]
  | succ d ih =>
    intro i yl yt ho yk hi hl hs hH hF
    have t32 := cp_RB_tx B (3 * cp_pt par hg b n + i)
    refine And.intro (vp_in_nI pc24 (by decide)) (pk_le (3 * cp_pt par hg b n + cn (cp_pt par hg b n)) (3 * cp_pt par hg b n + i) (fun z => False.elim (by omega)) (fun _ => And.intro (vp_in_nI (by omega) (by decide)) (nm_r (cp_rd tx (by omega)) ?_)) e0 rfl)
    refine cy_ft B t32 (by omega) hl hs (cp_HO_LH B T hb cb hh (by omega) hH) (fun r yk' hr => cp_TF_br hr (fun z => Hf _ _ _ _ (fun y => z (y.1 i (by omega)))) (fun zF => cy_sp B t32 (cy_gv B t32 (nm_r (e' := nI (50 + cp_fs ic so oc am tx (cp_pt par hg b n) (i + 1))) ?_ (cy_ls _ t32 (cp_RB_ic B _) (cp_RB_so B) hl hs (fun yl' yt' hl' hs' => nm_r (nI_1 _) (ih (i + 1) yl' yt' _ yk' (by omega) (cp_Rp_iff hl' ?_) (cp_Rp_iff hs' ?_) ?_ ?_)))))))
    · rw [pk_sub zF.2.2.2.2.2.2, nI_add, Nat.add_assoc]
      rfl
    · intro j _
      constructor
      · rintro ((z | ⟨k, hk, z⟩) | z)
        · exact Or.inl z
        · exact Or.inr ⟨k, by omega, z⟩
        · exact Or.inr ⟨i, by omega, z.symm⟩
      · rintro (z | ⟨k, hk, z⟩)
        · exact Or.inl (Or.inl z)
        · by_cases e : k = i
          · subst e
            exact Or.inr z.symm
          · exact Or.inl (Or.inr ⟨k, by omega, z⟩)
    · intro j _
      constructor
      · rintro ((z | ⟨k, hk, z⟩) | z)
        · exact Or.inl z
        · exact Or.inr ⟨k, by omega, z⟩
        · exact Or.inr ⟨i, by omega, z⟩
      · rintro (z | ⟨k, hk, z⟩)
        · exact Or.inl (Or.inl z)
        · by_cases e : k = i
          · subst e
            exact Or.inr z
          · exact Or.inl (Or.inr ⟨k, by omega, z⟩)
    · intro j hj hLj
      by_cases e : j = tx (3 * cp_pt par hg b n + i)
      · rw [e, pk_us]
        exact ⟨n, by omega, rfl, Or.inr ⟨i, by omega, rfl⟩⟩
      · rw [pk_un e]
        apply hH j hj
        rcases hLj with z | ⟨k, hk, z⟩
        · exact Or.inl z
        · by_cases e2 : k = i
          · subst e2
            exact absurd z.symm e
          · exact Or.inr ⟨k, by omega, z⟩
    · intro q hq
      by_cases e : q = i
      · subst e
        exact zF
      · exact hF q (by omega)
theorem cy_rb {post : Int32 → SY → Prop} (B : cp_RB ic so oc am hg par cn tx st sl wi lk) (R : cp_RT ic so oc am hg par cn tx st sl wi lk wk bw gd) {b n : Nat} (hb : b < 24) (cb : st b = 3) (hn : n ≤ hg b)
    (hl : cp_Rp yl (cp_Lh hg par cn tx b n) 56) (hs : cp_Rp yt (cp_Sh ic so hg par cn tx b n) 112) (hH : cp_HO hg par cn tx b n ho (cp_Lh hg par cn tx b n))
    (Hf : ∀ yl yt ho yk, ¬ cp_CQ ic so oc am hg par cn tx sl wi lk b n → post 0 (ys, yn, yw, nI pc, nI tip, cp_A ic, cp_A (cp_hf so), cp_A (cp_hm so), wi, cp_A oc, cp_A am, lk, cp_Bo sl, cp_A (cp_ys st), cp_A par, wk, cp_A cn, cp_A tx, od, yp, yl, yt, ho, yk, cp_A po, yq, yo))
    (Ht : ∀ yl yt ho yk, cp_CQ ic so oc am hg par cn tx sl wi lk b n → cp_Rp yl (cp_Lh hg par cn tx b (n + 1)) 56 → cp_Rp yt (cp_Sh ic so hg par cn tx b (n + 1)) 112 → cp_HO hg par cn tx b (n + 1) ho (cp_Lh hg par cn tx b (n + 1)) → post 1 (ys, yn, yw, nI pc, nI tip, cp_A ic, cp_A (cp_hf so), cp_A (cp_hm so), wi, cp_A oc, cp_A am, lk, cp_Bo sl, cp_A (cp_ys st), cp_A par, wk, cp_A cn, cp_A tx, od, yp, yl, yt, ho, yk, cp_A po, yq, yo)) :
    wpY_replayBlock post (ys, yn, yw, nI pc, nI tip, cp_A ic, cp_A (cp_hf so), cp_A (cp_hm so), wi, cp_A oc, cp_A am, lk, cp_Bo sl, cp_A (cp_ys st), cp_A par, wk, cp_A cn, cp_A tx, od, yp, yl, yt, ho, yk, cp_A po, yq, yo) (nI (cp_pt par hg b n)) (nI n) := by
  refine nm_r (cp_3m _) (Exists.intro (cn (cp_pt par hg b n) + 1) (cy_rb8 B R hb cb hn Hf Ht (cn (cp_pt par hg b n)) 0 yl yt ho yk (by omega) (cp_Rp_iff hl ?_) (cp_Rp_iff hs ?_) ?_ (fun q hq => absurd hq (Nat.not_lt_zero _))))
  · intro j _
    exact ⟨Or.inl, fun z => z.elim id (fun ⟨k, hk, _⟩ => absurd hk (Nat.not_lt_zero _))⟩
  · intro j _
    exact ⟨Or.inl, fun z => z.elim id (fun ⟨k, hk, _⟩ => absurd hk (Nat.not_lt_zero _))⟩
  · intro j hj hL
    have hL' : cp_Lh hg par cn tx b n j := hL.elim id (fun ⟨k, hk, _⟩ => absurd hk (Nat.not_lt_zero _))
    obtain ⟨i, hi, e⟩ := hH j hj hL'
    exact ⟨i, by omega, e⟩
theorem cy_rp44 {post : Int32 → SY → Prop} (B : cp_RB ic so oc am hg par cn tx st sl wi lk) (R : cp_RT ic so oc am hg par cn tx st sl wi lk wk bw gd) {b : Nat} (hb : b < 24) (cb : st b = 3) (hyp : ∀ i, i ≤ hg b → yp i = nI (cp_pt par hg b i))
    (Hf : ∀ yl yt ho yk, ¬ gd b = true → post 0 (ys, (nI (hg b + 1)), yw, nI pc, nI tip, cp_A ic, cp_A (cp_hf so), cp_A (cp_hm so), wi, cp_A oc, cp_A am, lk, cp_Bo sl, cp_A (cp_ys st), cp_A par, wk, cp_A cn, cp_A tx, od, yp, yl, yt, ho, yk, cp_A po, yq, yo))
    (Ht : ∀ yl yt ho yk, gd b = true → cp_Rp yl (cp_LS hg par cn tx b) 56 → cp_Rp yt (cp_SP ic so hg par cn tx b) 112 → cp_HO hg par cn tx b (hg b + 1) ho (cp_LS hg par cn tx b) → post 1 (ys, (nI (hg b + 1)), yw, nI pc, nI tip, cp_A ic, cp_A (cp_hf so), cp_A (cp_hm so), wi, cp_A oc, cp_A am, lk, cp_Bo sl, cp_A (cp_ys st), cp_A par, wk, cp_A cn, cp_A tx, od, yp, yl, yt, ho, yk, cp_A po, yq, yo)) :
    ∀ (d n : Nat) (yl yt ho yk : Nat → Int32), n + d = hg b + 1 → cp_Rp yl (cp_Lh hg par cn tx b n) 56 → cp_Rp yt (cp_Sh ic so hg par cn tx b n) 112 → cp_HO hg par cn tx b n ho (cp_Lh hg par cn tx b n) → (0 < n → gd (cp_pt par hg b (n - 1)) = true) →
    wY_replay_44 post (d + 1) (nI n) ys (nI (hg b + 1)) yw (nI pc) (nI tip) (cp_A ic) (cp_A (cp_hf so)) (cp_A (cp_hm so)) wi (cp_A oc) (cp_A am) lk (cp_Bo sl) (cp_A (cp_ys st)) (cp_A par) wk (cp_A cn) (cp_A tx) od yp yl yt ho yk (cp_A po) yq yo := by
  have T := R.1
  have hh := cp_RT_hg R hb cb
  intro d
  induction d with
  | zero =>
    intro n yl yt ho yk hn hl hs hH hg1
    have en : n = hg b + 1 := by omega
    subst en
    rw [cp_Lh_top] at hl hH
    rw [cp_Sh_top] at hs
    have g := hg1 (by omega)
    rw [show hg b + 1 - 1 = hg b from rfl, cp_pt_top] at g
    exact pk_le (hg b + 1) (hg b + 1) (fun _ => Ht yl yt ho yk g hl hs hH) (fun z => False.elim (by omega))
  | succ d ih =>
    intro n yl yt ho yk hn hl hs hH hg1
    have cq := cp_CQ_gd R hb cb (n := n) (by omega) hg1
    have ep : yp (nI n).toNatClampNeg = nI (cp_pt par hg b n) := by
      rw [nI_clamp (by omega)]
      exact hyp n (by omega)
    refine pk_le (hg b + 1) n (fun z => False.elim (by omega)) (fun _ => And.intro (vp_in_nI (by omega) (by decide)) ?_)
    rw [ep]
    refine cy_rb B R hb cb (n := n) (by omega) hl hs hH (fun yl' yt' ho' yk' z => br_t rfl (Hf yl' yt' ho' yk' (fun g => z (cq.mpr (cp_gd_pt R (hg b) b hb rfl g n (by omega)))))) (fun yl' yt' ho' yk' z hl' hs' hH' => br_f (by decide) (nm_r (nI_1 n) (ih (n + 1) yl' yt' ho' yk' (by omega) hl' hs' hH' (fun _ => cq.mp z))))
theorem cy_rp23 (post : Int32 → SY → Prop)
    (H : ∀ yt', (∀ j, j < 112 → yt' j = 0) → ∃ n, wY_replay_44 post n 0 ys yn yw (nI pc) (nI tip) (cp_A ic) (cp_A (cp_hf so)) (cp_A (cp_hm so)) wi (cp_A oc) (cp_A am) lk (cp_Bo sl) (cp_A (cp_ys st)) (cp_A par) wk (cp_A cn) (cp_A tx) od yp yl yt' ho yk (cp_A po) yq yo) : ∀ (d i : Nat) (yt : Nat → Int32), i + d = 112 → (∀ j, j < i → yt j = 0) → wY_replay_23 post ys yn yw (nI pc) (nI tip) (d + 1) (nI i) (cp_A ic) (cp_A (cp_hf so)) (cp_A (cp_hm so)) wi (cp_A oc) (cp_A am) lk (cp_Bo sl) (cp_A (cp_ys st)) (cp_A par) wk (cp_A cn) (cp_A tx) od yp yl yt ho yk (cp_A po) yq yo := by
  intro d
  induction d with
  | zero =>
    intro i yt hi h
    exact pk_le 112 i (fun _ => H yt (fun j hj => h j (by omega))) (fun z => False.elim (by omega))
  | succ d ih =>
    intro i yt hi h
    refine pk_le 112 i (fun z => False.elim (by omega)) (fun _ => And.intro (vp_in_nI (by omega) (by decide)) (nm_r (e' := upd yt i 0) (by rw [nI_clamp (by omega), cp_nb0]) (nm_r (nI_1 i) (ih (i + 1) _ (by omega) (cp_up0 h)))))
theorem cy_rp2 (post : Int32 → SY → Prop)
    (H : ∀ yl' yt', (∀ j, j < 56 → yl' j = 0) → (∀ j, j < 112 → yt' j = 0) → ∃ n, wY_replay_44 post n 0 ys yn yw (nI pc) (nI tip) (cp_A ic) (cp_A (cp_hf so)) (cp_A (cp_hm so)) wi (cp_A oc) (cp_A am) lk (cp_Bo sl) (cp_A (cp_ys st)) (cp_A par) wk (cp_A cn) (cp_A tx) od yp yl' yt' ho yk (cp_A po) yq yo) : ∀ (d i : Nat) (yl : Nat → Int32), i + d = 56 → (∀ j, j < i → yl j = 0) → wY_replay_2 post ys yn yw (nI pc) (nI tip) (d + 1) (nI i) (cp_A ic) (cp_A (cp_hf so)) (cp_A (cp_hm so)) wi (cp_A oc) (cp_A am) lk (cp_Bo sl) (cp_A (cp_ys st)) (cp_A par) wk (cp_A cn) (cp_A tx) od yp yl yt ho yk (cp_A po) yq yo := by
  intro d
  induction d with
  | zero =>
    intro i yl hi h
    exact pk_le 56 i (fun _ => Exists.intro 113 (cy_rp23 post (fun yt' h' => H yl yt' (fun j hj => h j (by omega)) h') 112 0 yt (by omega) (fun j hj => absurd hj (Nat.not_lt_zero _)))) (fun z => False.elim (by omega))
  | succ d ih =>
    intro i yl hi h
    refine pk_le 56 i (fun z => False.elim (by omega)) (fun _ => And.intro (vp_in_nI (by omega) (by decide)) (nm_r (e' := upd yl i 0) (by rw [nI_clamp (by omega), cp_nb0]) (nm_r (nI_1 i) (ih (i + 1) _ (by omega) (cp_up0 h)))))
theorem cy_rp {post : Int32 → SY → Prop} (B : cp_RB ic so oc am hg par cn tx st sl wi lk) (R : cp_RT ic so oc am hg par cn tx st sl wi lk wk bw gd) {b : Nat} (hb : b < 24) (cb : st b = 3) (hyp : ∀ i, i ≤ hg b → yp i = nI (cp_pt par hg b i))
    (Hf : ∀ yl yt ho yk, ¬ gd b = true → post 0 (ys, (nI (hg b + 1)), yw, nI pc, nI tip, cp_A ic, cp_A (cp_hf so), cp_A (cp_hm so), wi, cp_A oc, cp_A am, lk, cp_Bo sl, cp_A (cp_ys st), cp_A par, wk, cp_A cn, cp_A tx, od, yp, yl, yt, ho, yk, cp_A po, yq, yo))
    (Ht : ∀ yl yt ho yk, gd b = true → cp_Rp yl (cp_LS hg par cn tx b) 56 → cp_Rp yt (cp_SP ic so hg par cn tx b) 112 → cp_HO hg par cn tx b (hg b + 1) ho (cp_LS hg par cn tx b) → post 1 (ys, (nI (hg b + 1)), yw, nI pc, nI tip, cp_A ic, cp_A (cp_hf so), cp_A (cp_hm so), wi, cp_A oc, cp_A am, lk, cp_Bo sl, cp_A (cp_ys st), cp_A par, wk, cp_A cn, cp_A tx, od, yp, yl, yt, ho, yk, cp_A po, yq, yo)) : wpY_replay post (ys, (nI (hg b + 1)), yw, nI pc, nI tip, cp_A ic, cp_A (cp_hf so), cp_A (cp_hm so), wi, cp_A oc, cp_A am, lk, cp_Bo sl, cp_A (cp_ys st), cp_A par, wk, cp_A cn, cp_A tx, od, yp, yl, yt, ho, yk, cp_A po, yq, yo) := by
  refine Exists.intro 57 (cy_rp2 post ?_ 56 0 yl (by omega) (fun j hj => absurd hj (Nat.not_lt_zero _)))
  intro yl' yt' h1 h2
  refine Exists.intro (hg b + 1 + 1) (cy_rp44 B R hb cb hyp Hf Ht (hg b + 1) 0 yl' yt' ho yk (by omega) (cp_Rp_iff (cp_Rp_0 h1) ?_) (cp_Rp_iff (cp_Rp_0 h2) ?_) ?_ (fun z => absurd z (Nat.lt_irrefl 0)))
  · intro j _
    exact ⟨fun z => z.elim, fun ⟨i, hi, _⟩ => absurd hi (Nat.not_lt_zero _)⟩
  · intro j _
    exact ⟨fun z => z.elim, fun ⟨i, hi, _⟩ => absurd hi (Nat.not_lt_zero _)⟩
  · rintro j hj ⟨i, hi, _⟩
    exact absurd hi (Nat.not_lt_zero _)
theorem cy_rt0 {post : SY → Prop} (B : cp_RB ic so oc am hg par cn tx st sl wi lk) (R : cp_RT ic so oc am hg par cn tx st sl wi lk wk bw gd) (htip : tip < 24) (gt : gd tip = true)
    (H : ∀ yp yl yt ho yk, (∀ i, i ≤ hg tip → yp i = nI (cp_pt par hg tip i)) → cp_Rp yl (cp_LS hg par cn tx tip) 56 → cp_Rp yt (cp_SP ic so hg par cn tx tip) 112 → cp_HO hg par cn tx tip (hg tip + 1) ho (cp_LS hg par cn tx tip) → post (ys, (nI (hg tip + 1)), (bw tip), nI pc, nI tip, cp_A ic, cp_A (cp_hf so), cp_A (cp_hm so), wi, cp_A oc, cp_A am, lk, cp_Bo sl, cp_A (cp_ys st), cp_A par, wk, cp_A cn, cp_A tx, od, yp, yl, yt, ho, yk, cp_A po, yq, yo)) : wpY_replayTip post (ys, yn, yw, nI pc, nI tip, cp_A ic, cp_A (cp_hf so), cp_A (cp_hm so), wi, cp_A oc, cp_A am, lk, cp_Bo sl, cp_A (cp_ys st), cp_A par, wk, cp_A cn, cp_A tx, od, yp, yl, yt, ho, yk, cp_A po, yq, yo) 0 := by
  have ct := R.2.2.2.1 tip htip gt
  refine cy_cht (yw := yw) B R htip ct (fun yp' hyp => cy_rp B R htip ct hyp (fun _ _ _ _ z => absurd gt z) (fun yl' yt' ho' yk' _ hl hs hH => Exists.intro 1 (br_t rfl (H yp' yl' yt' ho' yk' hyp hl hs hH))))
theorem cy_rt16 {post : SY → Prop} (B : cp_RB ic so oc am hg par cn tx st sl wi lk) (hh : hg tip < 24) (hp8 : pc ≤ 8) (q2 : ∀ i, i < pc → po i < 32)
    (H : ∀ yl yt ho, cp_Rp yl (cp_La hg par cn tx po tip pc) 56 → cp_Rp yt (cp_Sa ic so hg par cn tx po tip pc) 112 → cp_LH hg ho (cp_La hg par cn tx po tip pc) → post (ys, (nI (hg tip + 1)), yw, nI pc, nI tip, cp_A ic, cp_A (cp_hf so), cp_A (cp_hm so), wi, cp_A oc, cp_A am, lk, cp_Bo sl, cp_A (cp_ys st), cp_A par, wk, cp_A cn, cp_A tx, od, yp, yl, yt, ho, yk, cp_A po, yq, yo)) : ∀ (d i : Nat) (yl yt ho : Nat → Int32), i + d = pc → cp_Rp yl (cp_La hg par cn tx po tip i) 56 → cp_Rp yt (cp_Sa ic so hg par cn tx po tip i) 112 → cp_LH hg ho (cp_La hg par cn tx po tip i) →
    wY_replayTip_16 post 1 (d + 1) (nI i) ys (nI (hg tip + 1)) yw (nI pc) (nI tip) (cp_A ic) (cp_A (cp_hf so)) (cp_A (cp_hm so)) wi (cp_A oc) (cp_A am) lk (cp_Bo sl) (cp_A (cp_ys st)) (cp_A par) wk (cp_A cn) (cp_A tx) od yp yl yt ho yk (cp_A po) yq yo := by
  intro d
  induction d with
  | zero =>
    intro i yl yt ho hi hl hs hH
    have ei : i = pc := by omega
    subst ei
    exact br_f (by decide) (pk_le i i (fun _ => H yl yt ho hl hs hH) (fun z => False.elim (by omega)))
  | succ d ih =>
    intro i yl yt ho hi hl hs hH
    refine br_f (by decide) (pk_le pc i (fun z => False.elim (by omega)) (fun _ => And.intro (vp_in_nI (by omega) (by decide)) ?_))
    rw [cp_rd po (by omega)]
    have p32 := q2 i (by omega)
    refine cy_ls _ p32 (cp_RB_ic B _) (cp_RB_so B) hl hs (fun yl' yt' hl' hs' => nm_r (nI_1 i) (ih (i + 1) yl' yt' _ (by omega) (cp_Rp_iff hl' ?_) (cp_Rp_iff hs' ?_) ?_))
    · intro j _
      constructor
      · rintro ((z | ⟨k, hk, z⟩) | z)
        · exact Or.inl z
        · exact Or.inr ⟨k, by omega, z⟩
        · exact Or.inr ⟨i, by omega, z.symm⟩
      · rintro (z | ⟨k, hk, z⟩)
        · exact Or.inl (Or.inl z)
        · by_cases e : k = i
          · subst e
            exact Or.inr z.symm
          · exact Or.inl (Or.inr ⟨k, by omega, z⟩)
    · intro j _
      constructor
      · rintro ((z | ⟨k, hk, z⟩) | z)
        · exact Or.inl z
        · exact Or.inr ⟨k, by omega, z⟩
        · exact Or.inr ⟨i, by omega, z⟩
      · rintro (z | ⟨k, hk, z⟩)
        · exact Or.inl (Or.inl z)
        · by_cases e : k = i
          · subst e
            exact Or.inr z
          · exact Or.inl (Or.inr ⟨k, by omega, z⟩)
    · intro j hj hL h32
      rw [pk_un (by omega)]
      rcases hL with z | ⟨k, hk, z⟩
      · exact hH j hj (Or.inl z) h32
      · have := q2 k (by omega)
        omega
theorem cy_rt1 {post : SY → Prop} (R : cp_RR ic so oc am hg par cn tx st sl wi lk wk bw gd pc po) (htip : tip < 24) (gt : gd tip = true)
    (H : ∀ yp yl yt ho yk, cp_Rp yl (cp_La hg par cn tx po tip pc) 56 → cp_Rp yt (cp_Sa ic so hg par cn tx po tip pc) 112 → cp_LH hg ho (cp_La hg par cn tx po tip pc) → post (ys, (nI (hg tip + 1)), (bw tip), nI pc, nI tip, cp_A ic, cp_A (cp_hf so), cp_A (cp_hm so), wi, cp_A oc, cp_A am, lk, cp_Bo sl, cp_A (cp_ys st), cp_A par, wk, cp_A cn, cp_A tx, od, yp, yl, yt, ho, yk, cp_A po, yq, yo)) : wpY_replayTip post (ys, yn, yw, nI pc, nI tip, cp_A ic, cp_A (cp_hf so), cp_A (cp_hm so), wi, cp_A oc, cp_A am, lk, cp_Bo sl, cp_A (cp_ys st), cp_A par, wk, cp_A cn, cp_A tx, od, yp, yl, yt, ho, yk, cp_A po, yq, yo) 1 := by
  obtain ⟨B, T, q1, q2⟩ := R
  have ct := T.2.2.2.1 tip htip gt
  have hh := cp_RT_hg T htip ct
  refine cy_cht (yw := yw) B T htip ct (fun yp' hyp => cy_rp B T htip ct hyp (fun _ _ _ _ z => absurd gt z) (fun yl' yt' ho' yk' _ hl hs hH => Exists.intro (pc + 1) (cy_rt16 B hh q1 (fun i hi => (q2 i hi).1) (fun yl yt ho => H yp' yl yt ho yk') pc 0 yl' yt' ho' (by omega) (cp_Rp_iff hl ?_) (cp_Rp_iff hs ?_) ?_)))
  · intro j _
    exact ⟨Or.inl, fun z => z.elim id (fun ⟨k, hk, _⟩ => absurd hk (Nat.not_lt_zero _))⟩
  · intro j _
    exact ⟨Or.inl, fun z => z.elim id (fun ⟨k, hk, _⟩ => absurd hk (Nat.not_lt_zero _))⟩
  · intro j hj hL h32
    exact cp_HO_LH B T.1 htip ct hh (Nat.le_refl _) hH j hj (hL.elim id (fun ⟨k, hk, _⟩ => absurd hk (Nat.not_lt_zero _))) h32
end
