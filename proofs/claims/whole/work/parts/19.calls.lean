/-! the small calls of both sides -/
theorem cp_up_up {α : Type} (f : Nat → α) (k : Nat) (a b : α) : cp_up (cp_up f k a) k b = cp_up f k b := by
  funext j
  by_cases e : j = k
  · rw [e, cp_up_s, cp_up_s]
  · rw [cp_up_n e, cp_up_n e, cp_up_n e]
theorem cp_up_id {α : Type} (f : Nat → α) (k : Nat) : cp_up f k (f k) = f := by
  funext j
  by_cases e : j = k
  · rw [e, cp_up_s]
  · rw [cp_up_n e]
theorem cy_outb {post : Int32 → Prop} (x : Int32) (a b : Nat) (ha : a < 2 ^ 31) (hb : b < 2 ^ 31) (hin : ∀ t, a ≤ t → t ≤ b → x = nI t → post 0) (hout : (¬ ∃ t, a ≤ t ∧ t ≤ b ∧ x = nI t) → post 1) : wpY_out post x (nI a) (nI b) := by
  refine cy_out x a b ha hb (fun r hr => ?_)
  by_cases z : ∃ t, a ≤ t ∧ t ≤ b ∧ x = nI t
  · rw [cp_TF_f hr (fun w => w z)]
    obtain ⟨t, h1, h2, e⟩ := z
    exact hin t h1 h2 e
  · rw [cp_TF_t hr z]
    exact hout z
theorem cx_isTb {post : Int32 → Prop} (x : Int32) (hin : ∀ t, t < 32 → x = nI t → post 1) (hout : (¬ ∃ t, t < 32 ∧ x = nI t) → post 0) : wpX_isTransaction post x := by
  refine cx_isT x (fun r hr => ?_)
  by_cases z : ∃ t, t < 32 ∧ x = nI t
  · rw [cp_TF_t hr z]
    obtain ⟨t, h1, e⟩ := z
    exact hin t h1 e
  · rw [cp_TF_f hr z]
    exact hout z
/-- a number from a to b: the two bounds tested one after the other, lower first -/
theorem cp_ab {x : Int32} {a b : Nat} (ha : a < 2 ^ 31) (hb : b < 2 ^ 31) {A B : Prop} (hin : ∀ t, a ≤ t → t ≤ b → x = nI t → B) (hout : (¬ ∃ t, a ≤ t ∧ t ≤ b ∧ x = nI t) → A) : (x < nI a → A) ∧ (¬ x < nI a → (nI b < x → A) ∧ (¬ nI b < x → B)) := by
  refine br_c (fun z => hout ?_) (fun z => br_c (fun y => hout ?_) (fun y => ?_))
  · rintro ⟨t, h1, h2, e⟩
    rw [e, nI_ltI (by omega) ha] at z
    omega
  · rintro ⟨t, h1, h2, e⟩
    rw [e, nI_ltI hb (by omega)] at y
    omega
  · have h0 : ¬ x < 0 := fun w => z (Int32.lt_of_lt_of_le w (nI_pos' ha))
    obtain ⟨j, hj, e⟩ := nI_of h0
    rw [e, nI_ltI hj ha] at z
    rw [e, nI_ltI hb hj] at y
    exact hin j (by omega) (by omega) e
theorem cx_isAm {post : Int32 → Prop} (x : Int32) (hin : ∀ t, 1 ≤ t → t ≤ 1000 → x = nI t → post 1) (hout : (¬ ∃ t, 1 ≤ t ∧ t ≤ 1000 ∧ x = nI t) → post 0) : wpX_isAmount post x :=
  cp_ab (a := 1) (b := 1000) (by decide) (by decide) hin hout
theorem cx_isWk {post : Int32 → Prop} (x : Int32) (hin : ∀ t, 1 ≤ t → t ≤ 15 → x = nI t → post 1) (hout : (¬ ∃ t, 1 ≤ t ∧ t ≤ 15 ∧ x = nI t) → post 0) : wpX_isWork post x :=
  cp_ab (a := 1) (b := 15) (by decide) (by decide) hin hout
theorem cx_isNm {post : Int32 → Prop} (x y : Int32) (hin : ∀ f p, f < 56 → p < 2 → x = nI f → y = nI p → post 1) (hout : ¬ ((∃ f, f < 56 ∧ x = nI f) ∧ (∃ p, p < 2 ∧ y = nI p)) → post 0) : wpX_isOutputName post x y := by
  rcases cp_rng x (n := 56) (by decide) with ⟨a, b⟩ | ⟨a, b, c⟩ | ⟨a, b, c⟩
  · exact br_t a (hout (fun w => b w.1))
  · exact br_f a (br_t b (hout (fun w => c w.1)))
  · rcases cp_rng y (n := 2) (by decide) with ⟨a', b'⟩ | ⟨a', b', c'⟩ | ⟨a', b', c'⟩
    · exact br_f a (br_f b (br_t a' (hout (fun w => b' w.2))))
    · exact br_f a (br_f b (br_f a' (br_t b' (hout (fun w => c' w.2)))))
    · obtain ⟨f, hf, ef⟩ := c
      obtain ⟨p, hp, ep⟩ := c'
      exact br_f a (br_f b (br_f a' (br_f b' (hin f p hf hp ef ep))))
section
variable {sb qc : Int32} {tip pc : Nat} {ic so oc am hg par cn tx st po : Nat → Nat} {sl gd : Nat → Bool} {wi lk wk bw od xo ch li sp qu sk : Nat → Int32}
theorem cx_isOp {post : Int32 → Prop} (x : Int32) (hin : ∀ t, t < 32 → x = nI t → sl t = false → post 1) (hout : (¬ ∃ t, t < 32 ∧ x = nI t ∧ sl t = false) → post 0) : wpX_isOpen post (sb, nI tip, nI pc, qc, cp_A ic, cp_A so, wi, xo, cp_Bo sl, cp_A am, lk, cp_A st, cp_A par, wk, cp_A cn, cp_A tx, od, cp_A hg, bw, cp_Bo gd, ch, cp_A po, li, sp, qu, sk) x := by
  unfold wpX_isOpen
  dsimp only
  refine cx_isTb x (fun t ht e => br_f (by decide) ?_) (fun z => br_t rfl (hout (fun ⟨t, h1, h2, _⟩ => z ⟨t, h1, h2⟩)))
  subst e
  have tb : cp_TF (cp_Bo sl (nI t).toNatClampNeg) (sl t = true) := by
    rw [cp_rb sl (by omega)]
    exact cp_TF_b _
  refine And.intro (vp_in_nI ht (by decide)) (cp_TF_br tb (fun z => hin t ht rfl ?_) (fun z => hout ?_))
  · cases h : sl t
    · rfl
    · exact absurd h z
  · rintro ⟨q, h1, h2, h3⟩
    rw [nI_eq (by omega) (by omega)] at h2
    rw [← h2, z] at h3
    exact nomatch h3
theorem cp_1b {x : Int32} {A B : Prop} (hin : ∀ b, 1 ≤ b → b < 24 → x = nI b → B) (hout : (¬ ∃ b, 1 ≤ b ∧ b < 24 ∧ x = nI b) → A) : (x ≤ 0 → A) ∧ (¬ x ≤ 0 → (24 ≤ x → A) ∧ (¬ 24 ≤ x → B)) := by
  rcases cp_rng x (n := 24) (by decide) with ⟨a, b⟩ | ⟨a, b, c⟩ | ⟨a, b, c⟩
  · exact br_t (Int32.le_of_lt a) (hout (fun ⟨t, h1, h2, h3⟩ => b ⟨t, h2, h3⟩))
  · refine br_f ?_ (br_t b (hout (fun ⟨t, h1, h2, h3⟩ => c ⟨t, h2, h3⟩)))
    intro z
    have : nI 24 ≤ nI 0 := Int32.le_trans b z
    rw [nI_leI (by decide) (by decide)] at this
    omega
  · obtain ⟨t, ht, e⟩ := c
    subst e
    refine pk_le t 0 (fun z => hout ?_) (fun z => pk_le 24 t (fun y => False.elim (by omega)) (fun y => hin t z ht rfl))
    rintro ⟨q, h1, h2, h3⟩
    rw [nI_eq (by omega) (by omega)] at h3
    omega
theorem cp_1c {x : Int32} {A B : Prop} (hin : ∀ b, 1 ≤ b → b < 24 → x = nI b → B) (hout : (¬ ∃ b, 1 ≤ b ∧ b < 24 ∧ x = nI b) → A) : (x ≤ 0 → A) ∧ (¬ x ≤ 0 → (x < 24 → B) ∧ (¬ x < 24 → A)) := by
  have z := cp_1b (x := x) hin hout
  exact ⟨z.1, fun w => ⟨fun y => (z.2 w).2 (Int32.not_le.mpr y), fun y => (z.2 w).1 (Int32.not_lt.mp y)⟩⟩
theorem cx_isUn {post : Int32 → Prop} (B : cp_RB ic so oc am hg par cn tx st sl wi lk) (x : Int32) (hin : ∀ b, 1 ≤ b → b < 24 → x = nI b → st b ≤ 1 → post 1) (hout : (¬ ∃ b, 1 ≤ b ∧ b < 24 ∧ x = nI b ∧ st b ≤ 1) → post 0) : wpX_isUnsubmitted post (sb, nI tip, nI pc, qc, cp_A ic, cp_A so, wi, xo, cp_Bo sl, cp_A am, lk, cp_A st, cp_A par, wk, cp_A cn, cp_A tx, od, cp_A hg, bw, cp_Bo gd, ch, cp_A po, li, sp, qu, sk) x := by
  refine cp_1c (fun b h1 h2 e => ?_) (fun z => hout (fun ⟨t, h1, h2, h3, _⟩ => z ⟨t, h1, h2, h3⟩))
  subst e
  have s := cp_RB_st B b
  have ib : vp_in (nI b) 24 := vp_in_nI h2 (by decide)
  refine And.intro ib (pk_eq (st b) 0 (fun e => hin b h1 h2 rfl (by omega)) (fun e => And.intro ib (pk_eq (st b) 1 (fun e => hin b h1 h2 rfl (by omega)) (fun e2 => hout ?_) (cp_rd st (by omega)) rfl)) (cp_rd st (by omega)) rfl)
  rintro ⟨q, q1, q2, q3, q4⟩
  rw [nI_eq (by omega) (by omega)] at q3
  rw [← q3] at q4
  omega
theorem cx_isDr {post : Int32 → Prop} (B : cp_RB ic so oc am hg par cn tx st sl wi lk) (x : Int32) (hin : ∀ b, 1 ≤ b → b < 24 → x = nI b → st b = 1 → post 1) (hout : (¬ ∃ b, 1 ≤ b ∧ b < 24 ∧ x = nI b ∧ st b = 1) → post 0) : wpX_isDraft post (sb, nI tip, nI pc, qc, cp_A ic, cp_A so, wi, xo, cp_Bo sl, cp_A am, lk, cp_A st, cp_A par, wk, cp_A cn, cp_A tx, od, cp_A hg, bw, cp_Bo gd, ch, cp_A po, li, sp, qu, sk) x := by
  refine cp_1b (fun b h1 h2 e => ?_) (fun z => hout (fun ⟨t, h1, h2, h3, _⟩ => z ⟨t, h1, h2, h3⟩))
  subst e
  have s := cp_RB_st B b
  refine And.intro (vp_in_nI h2 (by decide)) (pk_eq (st b) 1 (fun e => hin b h1 h2 rfl e) (fun e => hout ?_) (cp_rd st (by omega)) rfl)
  rintro ⟨q, q1, q2, q3, q4⟩
  rw [nI_eq (by omega) (by omega)] at q3
  rw [← q3] at q4
  exact e q4
theorem cp_cbo (b : Nat) : (2 : Int32) * (32 + nI b) = nI (64 + 2 * b) := by
  rw [show (32 : Int32) + nI b = nI (32 + b) from nI_add 32 b, cp_2m]
  exact congrArg nI (by omega)
theorem cx_scb {post : SX → Prop} {b a : Nat} {l : Int32} (hb : b < 24) (H : post (sb, nI tip, nI pc, qc, cp_A ic, cp_A so, wi, xo, cp_Bo sl, cp_A (cp_up am (64 + 2 * b) a), (cp_up lk (64 + 2 * b) l), cp_A st, cp_A par, wk, cp_A cn, cp_A tx, od, cp_A hg, bw, cp_Bo gd, ch, cp_A po, li, sp, qu, sk)) : wpX_setCoinbase post (sb, nI tip, nI pc, qc, cp_A ic, cp_A so, wi, xo, cp_Bo sl, cp_A am, lk, cp_A st, cp_A par, wk, cp_A cn, cp_A tx, od, cp_A hg, bw, cp_Bo gd, ch, cp_A po, li, sp, qu, sk) (nI b) (nI a) l := by
  have e := cp_cbo b
  have i : vp_in ((2 : Int32) * (32 + nI b)) 112 := pk_in (64 + 2 * b) 112 (by omega) e
  refine And.intro i (nm_r (e' := cp_A (cp_up am (64 + 2 * b) a)) (by rw [e, cp_wr am a (by omega)]) (And.intro i (nm_r (e' := cp_up lk (64 + 2 * b) l) (by rw [e, cp_ww lk l (by omega)]) H)))
theorem cx_dr {post : SX → Prop} {b p : Nat} {w : Int32} (hb : b < 24) (H : post (sb, nI tip, nI pc, qc, cp_A ic, cp_A so, wi, xo, cp_Bo sl, cp_A (cp_up am (64 + 2 * b) 50), (cp_up lk (64 + 2 * b) 1), cp_A (cp_up st b 1), cp_A (cp_up par b p), (cp_up wk b w), cp_A (cp_up cn b 0), cp_A tx, od, cp_A hg, bw, cp_Bo gd, ch, cp_A po, li, sp, qu, sk)) : wpX_draft post (sb, nI tip, nI pc, qc, cp_A ic, cp_A so, wi, xo, cp_Bo sl, cp_A am, lk, cp_A st, cp_A par, wk, cp_A cn, cp_A tx, od, cp_A hg, bw, cp_Bo gd, ch, cp_A po, li, sp, qu, sk) (nI b) (nI p) w := by
  have ib : vp_in (nI b) 24 := vp_in_nI hb (by decide)
  exact And.intro ib (nm_r (cp_wr st 1 (by omega)) (And.intro ib (nm_r (cp_wr par p (by omega)) (And.intro ib (nm_r (cp_ww wk w (by omega)) (And.intro ib (nm_r (cp_wr cn 0 (by omega)) (cx_scb (a := 50) hb H))))))))
theorem cx_apd {post : SX → Prop} {b t : Nat} (hb : b < 24) (hc : cn b < 3) (H : post (sb, nI tip, nI pc, qc, cp_A ic, cp_A so, wi, xo, cp_Bo sl, cp_A am, lk, cp_A st, cp_A par, wk, cp_A (cp_up cn b (cn b + 1)), cp_A (cp_up tx (3 * b + cn b) t), od, cp_A hg, bw, cp_Bo gd, ch, cp_A po, li, sp, qu, sk)) : wpX_append post (sb, nI tip, nI pc, qc, cp_A ic, cp_A so, wi, xo, cp_Bo sl, cp_A am, lk, cp_A st, cp_A par, wk, cp_A cn, cp_A tx, od, cp_A hg, bw, cp_Bo gd, ch, cp_A po, li, sp, qu, sk) (nI b) (nI t) := by
  have ib : vp_in (nI b) 24 := vp_in_nI hb (by decide)
  have e : (3 : Int32) * nI b + cp_A cn (nI b).toNatClampNeg = nI (3 * b + cn b) := by
    rw [cp_rd cn (by omega), cp_3a]
  refine And.intro ib (And.intro (pk_in (3 * b + cn b) 72 (by omega) e) (nm_r (e' := cp_A (cp_up tx (3 * b + cn b) t)) (by rw [e, cp_wr tx t (by omega)]) (And.intro ib (And.intro ib (nm_r (e' := cp_A (cp_up cn b (cn b + 1))) (by rw [cp_rd cn (by omega), nI_1, cp_wr cn _ (by omega)]) H)))))
end
section
variable {ys yn yw : Int32} {tip pc : Nat} {ic so oc am hg par cn tx st po : Nat → Nat} {sl gd : Nat → Bool} {wi lk wk bw od yp yl yt ho yk yq yo : Nat → Int32}
theorem cy_dr {post : SY → Prop} {b p : Nat} {w : Int32} (hb : b < 24) (H : post (ys, yn, yw, nI pc, nI tip, cp_A ic, cp_A (cp_hf so), cp_A (cp_hm so), wi, cp_A (cp_up oc (32 + b) 1), cp_A (cp_up am (64 + 2 * b) 50), (cp_up lk (64 + 2 * b) 1), cp_Bo sl, cp_A (cp_ys (cp_up st b 1)), cp_A (cp_up par b p), (cp_up wk b w), cp_A (cp_up cn b 0), cp_A tx, od, yp, yl, yt, ho, yk, cp_A po, yq, yo)) : wpY_draft post (ys, yn, yw, nI pc, nI tip, cp_A ic, cp_A (cp_hf so), cp_A (cp_hm so), wi, cp_A oc, cp_A am, lk, cp_Bo sl, cp_A (cp_ys st), cp_A par, wk, cp_A cn, cp_A tx, od, yp, yl, yt, ho, yk, cp_A po, yq, yo) (nI b) (nI p) w := by
  have ib : vp_in (nI b) 24 := vp_in_nI hb (by decide)
  have e := cp_64 b
  have e2 : (32 : Int32) + nI b = nI (32 + b) := nI_add 32 b
  have i : vp_in ((64 : Int32) + (2 : Int32) * nI b) 112 := pk_in (64 + 2 * b) 112 (by omega) e
  have es : upd (cp_A (cp_ys st)) (nI b).toNatClampNeg (nI 1) = cp_A (cp_ys (cp_up st b 1)) := by
    rw [cp_wr (cp_ys st) 1 (by omega), cp_ys_up st b 1 (by decide)]
  have eo : upd (cp_A oc) ((32 : Int32) + nI b).toNatClampNeg (nI 1) = cp_A (cp_up oc (32 + b) 1) := by
    rw [e2, cp_wr oc 1 (by omega)]
  have ea : upd (cp_A am) ((64 : Int32) + (2 : Int32) * nI b).toNatClampNeg (nI 50) = cp_A (cp_up am (64 + 2 * b) 50) := by
    rw [e, cp_wr am 50 (by omega)]
  refine And.intro ib (nm_r es (And.intro ib (nm_r (cp_wr par p (by omega)) (And.intro ib (nm_r (cp_ww wk w (by omega)) (And.intro ib (nm_r (cp_wr cn 0 (by omega)) (And.intro (pk_in (32 + b) 56 (by omega) e2) (nm_r eo (And.intro i (nm_r ea (And.intro i (nm_r (e' := cp_up lk (64 + 2 * b) 1) (by rw [e, cp_ww lk 1 (by omega)]) H)))))))))))))
end
