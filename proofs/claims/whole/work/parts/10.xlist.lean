/-! X: questions, lists -/
theorem cp_nb1 : vp_nar .boolean 1 = 1 := rfl
theorem cp_nb0 : vp_nar .boolean 0 = 0 := rfl
theorem cp_rng (x : Int32) {n : Nat} (hn : n < 2 ^ 31) : (x < 0 ∧ ¬ ∃ t, t < n ∧ x = nI t) ∨ (¬ x < 0 ∧ nI n ≤ x ∧ ¬ ∃ t, t < n ∧ x = nI t) ∨ (¬ x < 0 ∧ ¬ nI n ≤ x ∧ ∃ t, t < n ∧ x = nI t) := by
  rcases pk_ix x hn with h | h | ⟨j, hj, e⟩
  · refine Or.inl ⟨h, fun ⟨t, ht, e⟩ => ?_⟩
    rw [e] at h
    exact nI_pos (by omega) h
  · refine Or.inr (Or.inl ⟨fun z => ?_, h, fun ⟨t, ht, e⟩ => ?_⟩)
    · have := Int32.lt_of_le_of_lt h z
      exact nI_pos hn this
    · rw [e] at h
      exact nI_ge ht hn h
  · refine Or.inr (Or.inr ⟨?_, ?_, j, hj, e⟩)
    · rw [e]
      exact nI_pos (by omega)
    · rw [e]
      exact nI_ge hj hn
theorem cx_isT {post : Int32 → Prop} (x : Int32) (H : ∀ r, cp_TF r (∃ t, t < 32 ∧ x = nI t) → post r) : wpX_isTransaction post x := by
  rcases cp_rng x (n := 32) (by decide) with ⟨a, b⟩ | ⟨a, b, c⟩ | ⟨a, b, c⟩
  · exact br_t a (H _ (cp_TF_F b))
  · exact br_f a (br_t b (H _ (cp_TF_F c)))
  · exact br_f a (br_f b (H _ (cp_TF_T c)))
section
variable {sb qc : Int32} {tip pc : Nat} {ic so oc am hg par cn tx st po : Nat → Nat} {sl gd : Nat → Bool} {wi lk wk bw od xo ch li sp qu sk : Nat → Int32}
theorem cx_lt9 (post : SX → Prop) {t : Nat} (ht : t < 32) (hi2 : ic t ≤ 2) (hso : ∀ k, so k < 112) (S : Nat → Prop) : ∀ (d i : Nat) (sp : Nat → Int32), i + d = ic t → cp_Rp sp (fun o => S o ∨ ∃ k, k < i ∧ so (2 * t + k) = o) 112 →
    (∀ sp', cp_Rp sp' (fun o => S o ∨ cp_inT ic so t o) 112 → post (sb, nI tip, nI pc, qc, cp_A ic, cp_A so, wi, xo, cp_Bo sl, cp_A am, lk, cp_A st, cp_A par, wk, cp_A cn, cp_A tx, od, cp_A hg, bw, cp_Bo gd, ch, cp_A po, li, sp', qu, sk)) → wX_listTransaction_9 post (nI t) sb (nI tip) (nI pc) qc (d + 1) (nI i) (cp_A ic) (cp_A so) wi xo (cp_Bo sl) (cp_A am) lk (cp_A st) (cp_A par) wk (cp_A cn) (cp_A tx) od (cp_A hg) bw (cp_Bo gd) ch (cp_A po) li sp qu sk := by
  intro d
  induction d with
  | zero =>
    intro i sp hi h H
    refine And.intro (vp_in_nI ht (by decide)) (pk_le (ic t) i (fun _ => H _ ?_) (fun z => False.elim (by omega)) (cp_rd ic (by omega)) rfl)
    rw [show i = ic t from by omega] at h
    exact h
  | succ d ih =>
    intro i sp hi h H
    have hs := hso (2 * t + i)
    have e1 : cp_A so ((2 : Int32) * nI t + nI i).toNatClampNeg = nI (so (2 * t + i)) := by
      rw [cp_2a, cp_rd _ (by omega)]
    refine And.intro (vp_in_nI ht (by decide)) (pk_le (ic t) i (fun z => False.elim (by omega)) (fun _ => ?_) (cp_rd ic (by omega)) rfl)
    refine And.intro (pk_in (2 * t + i) 64 (by omega) (cp_2a t i)) (And.intro (pk_in (so (2 * t + i)) 112 hs e1) (nm_r (e' := upd sp (so (2 * t + i)) 1) (by rw [e1, nI_clamp (by omega), cp_nb1]) (nm_r (nI_1 i) ?_)))
    refine ih (i + 1) _ (by omega) (cp_Rp_iff (cp_Rp_upd h) ?_) H
    intro o _
    constructor
    · rintro ((z | ⟨k, hk, z⟩) | z)
      · exact Or.inl z
      · exact Or.inr ⟨k, by omega, z⟩
      · exact Or.inr ⟨i, by omega, z.symm⟩
    · rintro (z | ⟨k, hk, z⟩)
      · exact Or.inl (Or.inl z)
      · by_cases e : k = i
        · subst e
          exact Or.inr z.symm
        · exact Or.inl (Or.inr ⟨k, by omega, z⟩)
theorem cx_lt (post : SX → Prop) {t : Nat} (ht : t < 32) (hi2 : ic t ≤ 2) (hso : ∀ k, so k < 112) {L S : Nat → Prop} (hl : cp_Rp li L 56) (hs : cp_Rp sp S 112)
    (H : ∀ li' sp', cp_Rp li' (fun j => L j ∨ j = t) 56 → cp_Rp sp' (fun o => S o ∨ cp_inT ic so t o) 112 → post (sb, nI tip, nI pc, qc, cp_A ic, cp_A so, wi, xo, cp_Bo sl, cp_A am, lk, cp_A st, cp_A par, wk, cp_A cn, cp_A tx, od, cp_A hg, bw, cp_Bo gd, ch, cp_A po, li', sp', qu, sk)) : wpX_listTransaction post (sb, nI tip, nI pc, qc, cp_A ic, cp_A so, wi, xo, cp_Bo sl, cp_A am, lk, cp_A st, cp_A par, wk, cp_A cn, cp_A tx, od, cp_A hg, bw, cp_Bo gd, ch, cp_A po, li, sp, qu, sk) (nI t) := by
  refine And.intro (vp_in_nI (by omega) (by decide)) (nm_r (e' := upd li t 1) (by rw [nI_clamp (by omega), cp_nb1]) (Exists.intro (ic t + 1) ?_))
  refine cx_lt9 post ht hi2 hso S (ic t) 0 sp (by omega) (cp_Rp_iff hs ?_) (fun sp' h => H _ _ (cp_Rp_upd hl) h)
  intro o _
  exact ⟨Or.inl, fun z => z.elim id (fun ⟨k, hk, _⟩ => absurd hk (Nat.not_lt_zero _))⟩
theorem cx_lb12 (post : SX → Prop) {b : Nat} (hb : b < 24) (hc : cn b ≤ 3) (hic : ∀ t, ic t ≤ 2) (hso : ∀ k, so k < 112) (htx : ∀ k, tx k < 32) (L S : Nat → Prop) : ∀ (d i : Nat) (li sp : Nat → Int32), i + d = cn b →
    cp_Rp li (fun j => L j ∨ j = 32 + b ∨ ∃ q, q < i ∧ tx (3 * b + q) = j) 56 → cp_Rp sp (fun o => S o ∨ ∃ q, q < i ∧ cp_inT ic so (tx (3 * b + q)) o) 112 →
    (∀ li' sp', cp_Rp li' (fun j => L j ∨ cp_inB cn tx b j) 56 → cp_Rp sp' (fun o => S o ∨ cp_inS ic so cn tx b o) 112 → post (sb, nI tip, nI pc, qc, cp_A ic, cp_A so, wi, xo, cp_Bo sl, cp_A am, lk, cp_A st, cp_A par, wk, cp_A cn, cp_A tx, od, cp_A hg, bw, cp_Bo gd, ch, cp_A po, li', sp', qu, sk)) → wX_listBlock_12 post (nI b) (d + 1) (nI i) sb (nI tip) (nI pc) qc (cp_A ic) (cp_A so) wi xo (cp_Bo sl) (cp_A am) lk (cp_A st) (cp_A par) wk (cp_A cn) (cp_A tx) od (cp_A hg) bw (cp_Bo gd) ch (cp_A po) li sp qu sk := by
  intro d
  induction d with
  | zero =>
    intro i li sp hi hl hs H
    refine And.intro (vp_in_nI hb (by decide)) (pk_le (cn b) i (fun _ => H _ _ ?_ ?_) (fun z => False.elim (by omega)) (cp_rd cn (by omega)) rfl)
    · rw [show i = cn b from by omega] at hl
      exact hl
    · rw [show i = cn b from by omega] at hs
      exact hs
  | succ d ih =>
    intro i li sp hi hl hs H
    have e1 : cp_A tx ((3 : Int32) * nI b + nI i).toNatClampNeg = nI (tx (3 * b + i)) := by
      rw [cp_3a, cp_rd _ (by omega)]
    refine And.intro (vp_in_nI hb (by decide)) (pk_le (cn b) i (fun z => False.elim (by omega)) (fun _ => ?_) (cp_rd cn (by omega)) rfl)
    refine And.intro (pk_in (3 * b + i) 72 (by omega) (cp_3a b i)) ?_
    rw [e1]
    refine cx_lt _ (htx _) (hic _) hso hl hs (fun li' sp' hl' hs' => nm_r (nI_1 i) (ih (i + 1) li' sp' (by omega) (cp_Rp_iff hl' ?_) (cp_Rp_iff hs' ?_) H))
    · intro j _
      constructor
      · rintro ((z | z | ⟨q, hq, z⟩) | z)
        · exact Or.inl z
        · exact Or.inr (Or.inl z)
        · exact Or.inr (Or.inr ⟨q, by omega, z⟩)
        · exact Or.inr (Or.inr ⟨i, by omega, z.symm⟩)
      · rintro (z | z | ⟨q, hq, z⟩)
        · exact Or.inl (Or.inl z)
        · exact Or.inl (Or.inr (Or.inl z))
        · by_cases e : q = i
          · subst e
            exact Or.inr z.symm
          · exact Or.inl (Or.inr (Or.inr ⟨q, by omega, z⟩))
    · intro j _
      constructor
      · rintro ((z | ⟨q, hq, z⟩) | z)
        · exact Or.inl z
        · exact Or.inr ⟨q, by omega, z⟩
        · exact Or.inr ⟨i, by omega, z⟩
      · rintro (z | ⟨q, hq, z⟩)
        · exact Or.inl (Or.inl z)
        · by_cases e : q = i
          · subst e
            exact Or.inr z
          · exact Or.inl (Or.inr ⟨q, by omega, z⟩)
theorem cx_lb (post : SX → Prop) {b : Nat} (hb : b < 24) (hc : cn b ≤ 3) (hic : ∀ t, ic t ≤ 2) (hso : ∀ k, so k < 112) (htx : ∀ k, tx k < 32) {L S : Nat → Prop} (hl : cp_Rp li L 56) (hs : cp_Rp sp S 112)
    (H : ∀ li' sp', cp_Rp li' (fun j => L j ∨ cp_inB cn tx b j) 56 → cp_Rp sp' (fun o => S o ∨ cp_inS ic so cn tx b o) 112 → post (sb, nI tip, nI pc, qc, cp_A ic, cp_A so, wi, xo, cp_Bo sl, cp_A am, lk, cp_A st, cp_A par, wk, cp_A cn, cp_A tx, od, cp_A hg, bw, cp_Bo gd, ch, cp_A po, li', sp', qu, sk)) : wpX_listBlock post (sb, nI tip, nI pc, qc, cp_A ic, cp_A so, wi, xo, cp_Bo sl, cp_A am, lk, cp_A st, cp_A par, wk, cp_A cn, cp_A tx, od, cp_A hg, bw, cp_Bo gd, ch, cp_A po, li, sp, qu, sk) (nI b) := by
  have e : (32 : Int32) + nI b = nI (32 + b) := nI_add 32 b
  refine And.intro (pk_in (32 + b) 56 (by omega) e) (nm_r (e' := upd li (32 + b) 1) (by rw [e, nI_clamp (by omega), cp_nb1]) (Exists.intro (cn b + 1) ?_))
  refine cx_lb12 post hb hc hic hso htx L S (cn b) 0 _ sp (by omega) (cp_Rp_iff (cp_Rp_upd hl) ?_) (cp_Rp_iff hs ?_) H
  · intro j _
    constructor
    · rintro (z | z)
      · exact Or.inl z
      · exact Or.inr (Or.inl z)
    · rintro (z | z | ⟨q, hq, _⟩)
      · exact Or.inl z
      · exact Or.inr z
      · exact absurd hq (Nat.not_lt_zero _)
  · intro o _
    exact ⟨Or.inl, fun z => z.elim id (fun ⟨k, hk, _⟩ => absurd hk (Nat.not_lt_zero _))⟩
/-- the loop down the chain: n heights are left, those from n on are listed -/
theorem cx_lc51 (post : SX → Prop) (B : cp_RB ic so oc am hg par cn tx st sl wi lk) (T : cp_Tr hg par st) {b : Nat} (hb : b < 24) (cb : st b = 3) (hh : hg b < 24) : ∀ (n : Nat) (x : Int32) (li sp : Nat → Int32), n ≤ hg b + 1 → (∀ m, n = m + 1 → x = nI (cp_pt par hg b m)) →
    cp_Rp li (fun j => ∃ i, n ≤ i ∧ i ≤ hg b ∧ cp_inB cn tx (cp_pt par hg b i) j) 56 → cp_Rp sp (fun o => ∃ i, n ≤ i ∧ i ≤ hg b ∧ cp_inS ic so cn tx (cp_pt par hg b i) o) 112 →
    (∀ li' sp', cp_Rp li' (cp_LS hg par cn tx b) 56 → cp_Rp sp' (cp_SP ic so hg par cn tx b) 112 → post (sb, nI tip, nI pc, qc, cp_A ic, cp_A so, wi, xo, cp_Bo sl, cp_A am, lk, cp_A st, cp_A par, wk, cp_A cn, cp_A tx, od, cp_A hg, bw, cp_Bo gd, ch, cp_A po, li', sp', qu, sk)) → wX_listChain_51 post (n + 1) x (nI n - 1) sb (nI tip) (nI pc) qc (cp_A ic) (cp_A so) wi xo (cp_Bo sl) (cp_A am) lk (cp_A st) (cp_A par) wk (cp_A cn) (cp_A tx) od (cp_A hg) bw (cp_Bo gd) ch (cp_A po) li sp qu sk := by
  intro n
  induction n with
  | zero =>
    intro x li sp hn hx hl hs H
    refine br_t (by rw [nI_0]; decide) (H _ _ (cp_Rp_iff hl ?_) (cp_Rp_iff hs ?_))
    · intro j _
      exact ⟨fun ⟨i, _, hi, h⟩ => ⟨i, hi, h⟩, fun ⟨i, hi, h⟩ => ⟨i, Nat.zero_le _, hi, h⟩⟩
    · intro j _
      exact ⟨fun ⟨i, _, hi, h⟩ => ⟨i, hi, h⟩, fun ⟨i, hi, h⟩ => ⟨i, Nat.zero_le _, hi, h⟩⟩
  | succ n ih =>
    intro x li sp hn hx hl hs H
    have ex := hx n rfl
    subst ex
    have hp := cp_pt_in T hb cb (i := n) (by omega)
    rw [nI_pred]
    refine br_f (nI_pos (by omega)) ?_
    refine cx_lb _ hp (cp_RB_cn B _) (cp_RB_ic B) (cp_RB_so B) (cp_RB_tx B) hl hs (fun li' sp' hl' hs' => ?_)
    refine And.intro (vp_in_nI hp (by decide)) (nm_r (cp_rd par (by omega)) (nm_r (e' := nI n - 1) (Int32.sub_eq_add_neg _ _).symm ?_))
    refine ih _ li' sp' (by omega) ?_ (cp_Rp_iff hl' ?_) (cp_Rp_iff hs' ?_) H
    · intro m em
      rw [cp_pt_up T hb cb (by omega) (by omega), show n - 1 = m from by omega]
    · intro j _
      constructor
      · rintro (⟨i, h1, h2, h3⟩ | h)
        · exact ⟨i, by omega, h2, h3⟩
        · exact ⟨n, Nat.le_refl _, by omega, h⟩
      · rintro ⟨i, h1, h2, h3⟩
        by_cases e : i = n
        · subst e
          exact Or.inr h3
        · exact Or.inl ⟨i, by omega, h2, h3⟩
    · intro j _
      constructor
      · rintro (⟨i, h1, h2, h3⟩ | h)
        · exact ⟨i, by omega, h2, h3⟩
        · exact ⟨n, Nat.le_refl _, by omega, h⟩
      · rintro ⟨i, h1, h2, h3⟩
        by_cases e : i = n
        · subst e
          exact Or.inr h3
        · exact Or.inl ⟨i, by omega, h2, h3⟩
theorem cp_Rp_0 {l : Nat → Int32} {N : Nat} (h : ∀ j, j < N → l j = 0) : cp_Rp l (fun _ => False) N := fun j hj => Or.inr ⟨h j hj, id⟩
theorem cp_up0 {l : Nat → Int32} {i : Nat} (h : ∀ j, j < i → l j = 0) : ∀ j, j < i + 1 → upd l i 0 j = 0 := by
  intro j hj
  by_cases e : j = i
  · rw [e, pk_us]
  · rw [pk_un e]
    exact h j (by omega)
theorem cx_lc23 (post : SX → Prop) {b : Nat} (hb : b < 24) (hh : hg b < 24)
    (H : ∀ sp', (∀ j, j < 112 → sp' j = 0) → ∃ n, wX_listChain_51 post n (nI b) (nI (hg b)) sb (nI tip) (nI pc) qc (cp_A ic) (cp_A so) wi xo (cp_Bo sl) (cp_A am) lk (cp_A st) (cp_A par) wk (cp_A cn) (cp_A tx) od (cp_A hg) bw (cp_Bo gd) ch (cp_A po) li sp' qu sk) : ∀ (d i : Nat) (sp : Nat → Int32), i + d = 112 → (∀ j, j < i → sp j = 0) → wX_listChain_23 post (nI b) sb (nI tip) (nI pc) qc (d + 1) (nI i) (cp_A ic) (cp_A so) wi xo (cp_Bo sl) (cp_A am) lk (cp_A st) (cp_A par) wk (cp_A cn) (cp_A tx) od (cp_A hg) bw (cp_Bo gd) ch (cp_A po) li sp qu sk := by
  intro d
  induction d with
  | zero =>
    intro i sp hi h
    refine pk_le 112 i (fun _ => And.intro (vp_in_nI hb (by decide)) (nm_r (cp_rd hg (by omega)) (H sp ?_))) (fun z => False.elim (by omega))
    intro j hj
    exact h j (by omega)
  | succ d ih =>
    intro i sp hi h
    refine pk_le 112 i (fun z => False.elim (by omega)) (fun _ => And.intro (vp_in_nI (by omega) (by decide)) (nm_r (e' := upd sp i 0) (by rw [nI_clamp (by omega), cp_nb0]) (nm_r (nI_1 i) (ih (i + 1) _ (by omega) (cp_up0 h)))))
theorem cx_lc2 (post : SX → Prop) {b : Nat} (hb : b < 24) (hh : hg b < 24)
    (H : ∀ li' sp', (∀ j, j < 56 → li' j = 0) → (∀ j, j < 112 → sp' j = 0) → ∃ n, wX_listChain_51 post n (nI b) (nI (hg b)) sb (nI tip) (nI pc) qc (cp_A ic) (cp_A so) wi xo (cp_Bo sl) (cp_A am) lk (cp_A st) (cp_A par) wk (cp_A cn) (cp_A tx) od (cp_A hg) bw (cp_Bo gd) ch (cp_A po) li' sp' qu sk) : ∀ (d i : Nat) (li : Nat → Int32), i + d = 56 → (∀ j, j < i → li j = 0) → wX_listChain_2 post (nI b) sb (nI tip) (nI pc) qc (d + 1) (nI i) (cp_A ic) (cp_A so) wi xo (cp_Bo sl) (cp_A am) lk (cp_A st) (cp_A par) wk (cp_A cn) (cp_A tx) od (cp_A hg) bw (cp_Bo gd) ch (cp_A po) li sp qu sk := by
  intro d
  induction d with
  | zero =>
    intro i li hi h
    refine pk_le 56 i (fun _ => Exists.intro 113 (cx_lc23 post hb hh (fun sp' h' => H li sp' (fun j hj => h j (by omega)) h') 112 0 sp (by omega) (fun j hj => absurd hj (Nat.not_lt_zero _)))) (fun z => False.elim (by omega))
  | succ d ih =>
    intro i li hi h
    refine pk_le 56 i (fun z => False.elim (by omega)) (fun _ => And.intro (vp_in_nI (by omega) (by decide)) (nm_r (e' := upd li i 0) (by rw [nI_clamp (by omega), cp_nb0]) (nm_r (nI_1 i) (ih (i + 1) _ (by omega) (cp_up0 h)))))
theorem cx_lc (post : SX → Prop) (B : cp_RB ic so oc am hg par cn tx st sl wi lk) (T : cp_Tr hg par st) {b : Nat} (hb : b < 24) (cb : st b = 3) (hh : hg b < 24)
    (H : ∀ li' sp', cp_Rp li' (cp_LS hg par cn tx b) 56 → cp_Rp sp' (cp_SP ic so hg par cn tx b) 112 → post (sb, nI tip, nI pc, qc, cp_A ic, cp_A so, wi, xo, cp_Bo sl, cp_A am, lk, cp_A st, cp_A par, wk, cp_A cn, cp_A tx, od, cp_A hg, bw, cp_Bo gd, ch, cp_A po, li', sp', qu, sk)) : wpX_listChain post (sb, nI tip, nI pc, qc, cp_A ic, cp_A so, wi, xo, cp_Bo sl, cp_A am, lk, cp_A st, cp_A par, wk, cp_A cn, cp_A tx, od, cp_A hg, bw, cp_Bo gd, ch, cp_A po, li, sp, qu, sk) (nI b) := by
  refine Exists.intro 57 (cx_lc2 post hb hh ?_ 56 0 li (by omega) (fun j hj => absurd hj (Nat.not_lt_zero _)))
  intro li' sp' h1 h2
  refine Exists.intro (hg b + 1 + 1) ?_
  rw [← nI_pred (hg b)]
  refine cx_lc51 post B T hb cb hh (hg b + 1) (nI b) li' sp' (Nat.le_refl _) ?_ (cp_Rp_iff (cp_Rp_0 h1) ?_) (cp_Rp_iff (cp_Rp_0 h2) ?_) H
  · intro m em
    rw [show m = hg b from by omega, cp_pt_top]
  · intro j _
    exact ⟨fun z => z.elim, fun ⟨i, h1, h2, _⟩ => by omega⟩
  · intro j _
    exact ⟨fun z => z.elim, fun ⟨i, h1, h2, _⟩ => by omega⟩
end
