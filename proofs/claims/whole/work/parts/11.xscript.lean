/-! X: the lock script -/
theorem cp_nlt {c : Int32} {k : Int32} (h : c < 1) (hk : ¬ k < 1) : ¬ c = k := fun e => hk (e ▸ h)
theorem cp_ngt {c : Int32} {k m : Int32} (h : m < c) (hk : ¬ m < k) : ¬ c = k := fun e => hk (e ▸ h)
theorem cp_need_lo {c : Int32} (h : c < 1) : cp_need c = 2 := by
  unfold cp_need
  rw [if_neg (fun z => z.elim (cp_nlt h (by decide)) (fun z => z.elim (cp_nlt h (by decide)) (cp_nlt h (by decide)))), if_neg (fun z => z.elim (cp_nlt h (by decide)) (fun z => z.elim (cp_nlt h (by decide)) (fun z => z.elim (cp_nlt h (by decide)) (cp_nlt h (by decide)))))]
theorem cp_need_hi {c : Int32} (h : 15 < c) : cp_need c = 2 := by
  unfold cp_need
  rw [if_neg (fun z => z.elim (cp_ngt h (by decide)) (fun z => z.elim (cp_ngt h (by decide)) (cp_ngt h (by decide)))), if_neg (fun z => z.elim (cp_ngt h (by decide)) (fun z => z.elim (cp_ngt h (by decide)) (fun z => z.elim (cp_ngt h (by decide)) (cp_ngt h (by decide)))))]
theorem cx_need {post : Int32 → Prop} {c : Int32} (H : post (nI (cp_need c))) : wpX_needOf post c := by
  have k : ∀ d, cp_need c = d → post (nI d) := fun d e => e ▸ H
  exact br_c (fun h => k 2 (cp_need_lo h)) (fun _ => br_c (fun h => k 2 (cp_need_hi h)) (fun _ => br_c (fun e => k 0 (by subst e; decide)) (fun _ => br_c (fun e => k 1 (by subst e; decide)) (fun _ => br_c (fun e => k 2 (by subst e; decide)) (fun _ => br_c (fun e => k 2 (by subst e; decide)) (fun _ => br_c (fun e => k 2 (by subst e; decide)) (fun _ => br_c (fun e => k 2 (by subst e; decide)) (fun _ => br_c (fun e => k 2 (by subst e; decide)) (fun _ => br_c (fun e => k 2 (by subst e; decide)) (fun _ => br_c (fun e => k 1 (by subst e; decide)) (fun _ => br_c (fun e => k 0 (by subst e; decide)) (fun _ => br_c (fun e => k 0 (by subst e; decide)) (fun _ => br_c (fun e => k 2 (by subst e; decide)) (fun _ => br_c (fun e => k 1 (by subst e; decide)) (fun _ => br_c (fun e => k 2 (by subst e; decide)) (fun _ => br_c (fun e => k 1 (by subst e; decide)) (fun _ => trivial)))))))))))))))))
theorem cp_grow_lo {c : Int32} {n : Nat} (h : c < 1) : cp_grow c n = n - 1 := by
  unfold cp_grow
  rw [if_neg (fun z => z.elim (cp_nlt h (by decide)) (fun z => z.elim (cp_nlt h (by decide)) (fun z => z.elim (cp_nlt h (by decide)) (fun z => z.elim (cp_nlt h (by decide)) (cp_nlt h (by decide)))))), if_neg (fun z => z.elim (cp_nlt h (by decide)) (cp_nlt h (by decide)))]
theorem cp_grow_hi {c : Int32} {n : Nat} (h : 14 < c) : cp_grow c n = n - 1 := by
  unfold cp_grow
  rw [if_neg (fun z => z.elim (cp_ngt h (by decide)) (fun z => z.elim (cp_ngt h (by decide)) (fun z => z.elim (cp_ngt h (by decide)) (fun z => z.elim (cp_ngt h (by decide)) (cp_ngt h (by decide)))))), if_neg (fun z => z.elim (cp_ngt h (by decide)) (cp_ngt h (by decide)))]
theorem cp_need_pos {c : Int32} (h1 : ¬ c = 1) (h2 : ¬ c = 10) (h3 : ¬ c = 11) : 1 ≤ cp_need c := by
  unfold cp_need
  rw [if_neg (fun z => z.elim h1 (fun z => z.elim h2 h3))]
  split <;> omega
theorem cp_nm1 {n : Nat} (h : 1 ≤ n) : nI n + (-1) = nI (n - 1) := by
  obtain ⟨m, rfl⟩ : ∃ m, n = m + 1 := ⟨n - 1, by omega⟩
  exact pk_m1 m
theorem cp_nz (n : Nat) : nI n + 0 = nI n := Int32.add_zero _
theorem cx_grow {post : Int32 → Prop} {c : Int32} {n : Nat} (hn : cp_need c ≤ n) (H : ∀ r, nI n + r = nI (cp_grow c n) → post r) : wpX_growthOf post c := by
  exact br_c (fun h => H (-1) (by rw [cp_grow_lo h]; exact cp_nm1 (Nat.le_trans (cp_need_pos (cp_nlt h (by decide)) (cp_nlt h (by decide)) (cp_nlt h (by decide))) hn))) (fun _ => br_c (fun h => H (-1) (by rw [cp_grow_hi h]; exact cp_nm1 (Nat.le_trans (cp_need_pos (cp_ngt h (by decide)) (cp_ngt h (by decide)) (cp_ngt h (by decide))) hn))) (fun _ => br_c (fun e => H 1 (by subst e; exact nI_1 n)) (fun _ => br_c (fun e => H 1 (by subst e; exact nI_1 n)) (fun _ => br_c (fun e => H (-1) (by subst e; exact cp_nm1 (Nat.le_trans (by decide) hn))) (fun _ => br_c (fun e => H (-1) (by subst e; exact cp_nm1 (Nat.le_trans (by decide) hn))) (fun _ => br_c (fun e => H (-1) (by subst e; exact cp_nm1 (Nat.le_trans (by decide) hn))) (fun _ => br_c (fun e => H (-1) (by subst e; exact cp_nm1 (Nat.le_trans (by decide) hn))) (fun _ => br_c (fun e => H (-1) (by subst e; exact cp_nm1 (Nat.le_trans (by decide) hn))) (fun _ => br_c (fun e => H 0 (by subst e; exact cp_nz n)) (fun _ => br_c (fun e => H (-1) (by subst e; exact cp_nm1 (Nat.le_trans (by decide) hn))) (fun _ => br_c (fun e => H 1 (by subst e; exact nI_1 n)) (fun _ => br_c (fun e => H 1 (by subst e; exact nI_1 n)) (fun _ => br_c (fun e => H (-1) (by subst e; exact cp_nm1 (Nat.le_trans (by decide) hn))) (fun _ => br_c (fun e => H 0 (by subst e; exact cp_nz n)) (fun _ => br_c (fun e => H 1 (by subst e; exact nI_1 n)) (fun _ => trivial))))))))))))))))
theorem cp_res_lo {c top below h : Int32} (h0 : c < 1) : cp_res c top below h = below := by
  unfold cp_res
  rw [if_neg (cp_nlt h0 (by decide)), if_neg (cp_nlt h0 (by decide)), if_neg (cp_nlt h0 (by decide)), if_neg (cp_nlt h0 (by decide)), if_neg (cp_nlt h0 (by decide)), if_neg (cp_nlt h0 (by decide)), if_neg (cp_nlt h0 (by decide)), if_neg (cp_nlt h0 (by decide)), if_neg (cp_nlt h0 (by decide)), if_neg (cp_nlt h0 (by decide)), if_neg (cp_nlt h0 (by decide))]
theorem cp_res_hi {c top below h : Int32} (h0 : 13 < c) : cp_res c top below h = below := by
  unfold cp_res
  rw [if_neg (cp_ngt h0 (by decide)), if_neg (cp_ngt h0 (by decide)), if_neg (cp_ngt h0 (by decide)), if_neg (cp_ngt h0 (by decide)), if_neg (cp_ngt h0 (by decide)), if_neg (cp_ngt h0 (by decide)), if_neg (cp_ngt h0 (by decide)), if_neg (cp_ngt h0 (by decide)), if_neg (cp_ngt h0 (by decide)), if_neg (cp_ngt h0 (by decide)), if_neg (cp_ngt h0 (by decide))]
theorem cx_new {post : Int32 → Prop} {c top below h : Int32} (H : post (cp_res c top below h)) : wpX_newTop post c top below h := by
  have k : ∀ d, cp_res c top below h = d → post d := fun d e => e ▸ H
  exact br_c (fun h0 => k _ (cp_res_lo h0)) (fun _ => br_c (fun h0 => k _ (cp_res_hi h0)) (fun _ => br_c (fun e => k _ (by rw [e, cp_r_1])) (fun _ => br_c (fun e => k _ (by rw [e, cp_r_2])) (fun _ => br_c (fun e => k _ (by rw [e, cp_r_3])) (fun _ => br_c (fun e => k _ (by rw [e, cp_r_4])) (fun _ => br_c (fun e => k _ (by rw [e, cp_r_5])) (fun _ => br_c (fun e => br_c (fun z => k 1 (by rw [e, cp_r_6, if_pos z])) (fun z => k 0 (by rw [e, cp_r_6, if_neg z]))) (fun _ => br_c (fun e => br_c (fun z => k 0 (by rw [e, cp_r_7, if_neg (Int32.not_lt.mpr z)])) (fun z => k 1 (by rw [e, cp_r_7, if_pos (Int32.not_le.mp z)]))) (fun _ => br_c (fun e => k _ (by rw [e, cp_r_8])) (fun _ => br_c (fun e => k _ (by rw [e, cp_r_9])) (fun _ => br_c (fun e => k _ (by rw [e, cp_r_10])) (fun _ => br_c (fun e => k _ (by rw [e, cp_r_11])) (fun _ => br_c (fun e => k _ (by rw [e, cp_r_12])) (fun _ => br_c (fun e => br_c (fun z => k 1 (by rw [e, cp_r_13, if_pos z])) (fun z => k 0 (by rw [e, cp_r_13, if_neg z]))) (fun _ => trivial)))))))))))))))
theorem cy_res {post : Int32 → Prop} {c top below h : Int32} (H : post (cp_res c top below h)) : wpY_result post c top below h := by
  have k : ∀ d, cp_res c top below h = d → post d := fun d e => e ▸ H
  exact br_c (fun h0 => k _ (cp_res_lo h0)) (fun _ => br_c (fun h0 => k _ (cp_res_hi h0)) (fun _ => br_c (fun e => k _ (by rw [e, cp_r_1])) (fun _ => br_c (fun e => k _ (by rw [e, cp_r_2])) (fun _ => br_c (fun e => k _ (by rw [e, cp_r_3])) (fun _ => br_c (fun e => k _ (by rw [e, cp_r_4])) (fun _ => br_c (fun e => k _ (by rw [e, cp_r_5])) (fun _ => br_c (fun e => br_c (fun z => k 1 (by rw [e, cp_r_6, if_pos z])) (fun z => k 0 (by rw [e, cp_r_6, if_neg z]))) (fun _ => br_c (fun e => br_c (fun z => k 0 (by rw [e, cp_r_7, if_neg (Int32.not_lt.mpr z)])) (fun z => k 1 (by rw [e, cp_r_7, if_pos (Int32.not_le.mp z)]))) (fun _ => br_c (fun e => k _ (by rw [e, cp_r_8])) (fun _ => br_c (fun e => k _ (by rw [e, cp_r_9])) (fun _ => br_c (fun e => k _ (by rw [e, cp_r_10])) (fun _ => br_c (fun e => k _ (by rw [e, cp_r_11])) (fun _ => br_c (fun e => k _ (by rw [e, cp_r_12])) (fun _ => br_c (fun e => br_c (fun z => k 1 (by rw [e, cp_r_13, if_pos z])) (fun z => k 0 (by rw [e, cp_r_13, if_neg z]))) (fun _ => trivial)))))))))))))))
theorem cp_need_le (c : Int32) : cp_need c ≤ 2 := by
  unfold cp_need
  split
  · omega
  · split <;> omega
section
variable {sb qc : Int32} {tip pc : Nat} {ic so oc am hg par cn tx st po : Nat → Nat} {sl gd : Nat → Bool} {wi lk wk bw od xo ch li sp qu sk : Nat → Int32}
theorem cx_op162 {post : Int32 → SX → Prop} {n : Nat} (hn : n ≤ 9) (H : ∀ r, cp_TF r (cp_end n sk) → post r (sb, nI tip, nI pc, qc, cp_A ic, cp_A so, wi, xo, cp_Bo sl, cp_A am, lk, cp_A st, cp_A par, wk, cp_A cn, cp_A tx, od, cp_A hg, bw, cp_Bo gd, ch, cp_A po, li, sp, qu, sk)) : wX_opens_162 post (nI n) sb (nI tip) (nI pc) qc (cp_A ic) (cp_A so) wi xo (cp_Bo sl) (cp_A am) lk (cp_A st) (cp_A par) wk (cp_A cn) (cp_A tx) od (cp_A hg) bw (cp_Bo gd) ch (cp_A po) li sp qu sk := by
  refine pk_le n 0 (fun z => H 0 (cp_TF_F (fun y => by have := y.1; omega))) (fun z => ?_)
  obtain ⟨m, rfl⟩ : ∃ m, n = m + 1 := ⟨n - 1, by omega⟩
  have e : nI (m + 1) - 1 = nI m := nI_pred m
  refine And.intro (pk_in m 9 (by omega) e) ?_
  rw [e, nI_clamp (by omega)]
  exact br_c (fun y => H 0 (cp_TF_F (fun w => w.2 y))) (fun y => H 1 (cp_TF_T ⟨by omega, y⟩))
theorem cx_op122 {post : Int32 → SX → Prop} {J13 : Int32 → Int32 → (Nat → Int32) → (Nat → Int32) → (Nat → Int32) → (Nat → Int32) → (Nat → Int32) → (Nat → Int32) → (Nat → Int32) → (Nat → Int32) → (Nat → Int32) → (Nat → Int32) → (Nat → Int32) → (Nat → Int32) → (Nat → Int32) → (Nat → Int32) → (Nat → Int32) → (Nat → Int32) → (Nat → Int32) → (Nat → Int32) → (Nat → Int32) → (Nat → Int32) → (Nat → Int32) → (Nat → Int32) → Prop} {lock h c top bel : Int32} {n k : Nat} (hn : cp_need c ≤ n) (hk : cp_grow c n ≤ 9)
    (H : J13 (nI (cp_grow c n)) (nI (4 * (k + 1))) (cp_A ic) (cp_A so) wi xo (cp_Bo sl) (cp_A am) lk (cp_A st) (cp_A par) wk (cp_A cn) (cp_A tx) od (cp_A hg) bw (cp_Bo gd) ch (cp_A po) li sp qu (if 0 < cp_grow c n then upd sk (cp_grow c n - 1) (cp_res c top bel h) else sk)) : wX_opens_122 post J13 lock h (nI n) (nI (4 * k)) c top bel sb (nI tip) (nI pc) qc (cp_A ic) (cp_A so) wi xo (cp_Bo sl) (cp_A am) lk (cp_A st) (cp_A par) wk (cp_A cn) (cp_A tx) od (cp_A hg) bw (cp_Bo gd) ch (cp_A po) li sp qu sk := by
  have e4 : nI (4 * k) + 4 = nI (4 * (k + 1)) := nI_add (4 * k) 4
  refine cx_grow hn (fun r er => nm_r er (pk_le (cp_grow c n) 0 (fun z => nm_r e4 ?_) (fun z => cx_new ?_)))
  · rw [if_neg (by omega)] at H
    exact H
  · rw [if_pos z] at H
    have e : nI (cp_grow c n) - 1 = nI (cp_grow c n - 1) := by
      have := nI_pred (cp_grow c n - 1)
      rw [show cp_grow c n - 1 + 1 = cp_grow c n from by omega] at this
      exact this
    exact And.intro (pk_in (cp_grow c n - 1) 9 (by omega) e) (nm_r (by rw [e, nI_clamp (by omega)]) (nm_r e4 H))
theorem cp_sub2 {n : Nat} (h : 2 ≤ n) : nI n - 2 = nI (n - 2) := pk_sub h
theorem cp_sub1 {n : Nat} (h : 1 ≤ n) : nI n - 1 = nI (n - 1) := pk_sub h
theorem cx_op104 {post : Int32 → SX → Prop} {J13 : Int32 → Int32 → (Nat → Int32) → (Nat → Int32) → (Nat → Int32) → (Nat → Int32) → (Nat → Int32) → (Nat → Int32) → (Nat → Int32) → (Nat → Int32) → (Nat → Int32) → (Nat → Int32) → (Nat → Int32) → (Nat → Int32) → (Nat → Int32) → (Nat → Int32) → (Nat → Int32) → (Nat → Int32) → (Nat → Int32) → (Nat → Int32) → (Nat → Int32) → (Nat → Int32) → (Nat → Int32) → (Nat → Int32) → Prop} {lock h c : Int32} {n k : Nat} (hn : cp_need c ≤ n) (hk : cp_grow c n ≤ 9) (hn9 : n ≤ 9)
    (H : J13 (nI (cp_grow c n)) (nI (4 * (k + 1))) (cp_A ic) (cp_A so) wi xo (cp_Bo sl) (cp_A am) lk (cp_A st) (cp_A par) wk (cp_A cn) (cp_A tx) od (cp_A hg) bw (cp_Bo gd) ch (cp_A po) li sp qu (cp_nst c n sk h)) : wX_opens_104 post J13 lock h (nI n) (nI (4 * k)) c (cp_top sk n) (cp_bel sk n) sb (nI tip) (nI pc) qc (cp_A ic) (cp_A so) wi xo (cp_Bo sl) (cp_A am) lk (cp_A st) (cp_A par) wk (cp_A cn) (cp_A tx) od (cp_A hg) bw (cp_Bo gd) ch (cp_A po) li sp qu sk := by
  unfold cp_nst at H
  refine br_c (fun e => ?_) (fun e => ?_)
  · have h2 : 2 ≤ n := by
      rw [e] at hn
      exact hn
    rw [if_pos e] at H
    exact And.intro (pk_in (n - 2) 9 (by omega) (cp_sub2 h2)) (nm_r (e' := upd sk (n - 2) (cp_top sk n)) (by rw [cp_sub2 h2, nI_clamp (by omega)]) (cx_op122 hn hk H))
  · rw [if_neg e] at H
    exact cx_op122 hn hk H
theorem cx_op67 {post : Int32 → SX → Prop} {J13 : Int32 → Int32 → (Nat → Int32) → (Nat → Int32) → (Nat → Int32) → (Nat → Int32) → (Nat → Int32) → (Nat → Int32) → (Nat → Int32) → (Nat → Int32) → (Nat → Int32) → (Nat → Int32) → (Nat → Int32) → (Nat → Int32) → (Nat → Int32) → (Nat → Int32) → (Nat → Int32) → (Nat → Int32) → (Nat → Int32) → (Nat → Int32) → (Nat → Int32) → (Nat → Int32) → (Nat → Int32) → (Nat → Int32) → Prop} {lock h c : Int32} {n k : Nat} (hn : cp_need c ≤ n) (hk : cp_grow c n ≤ 9) (hn9 : n ≤ 9)
    (H0 : c = 15 → cp_top sk n = 0 → post 0 (sb, nI tip, nI pc, qc, cp_A ic, cp_A so, wi, xo, cp_Bo sl, cp_A am, lk, cp_A st, cp_A par, wk, cp_A cn, cp_A tx, od, cp_A hg, bw, cp_Bo gd, ch, cp_A po, li, sp, qu, sk))
    (H : ¬ (c = 15 ∧ cp_top sk n = 0) → J13 (nI (cp_grow c n)) (nI (4 * (k + 1))) (cp_A ic) (cp_A so) wi xo (cp_Bo sl) (cp_A am) lk (cp_A st) (cp_A par) wk (cp_A cn) (cp_A tx) od (cp_A hg) bw (cp_Bo gd) ch (cp_A po) li sp qu (cp_nst c n sk h)) : wX_opens_67 post J13 lock h (nI n) (nI (4 * k)) c (cp_top sk n) sb (nI tip) (nI pc) qc (cp_A ic) (cp_A so) wi xo (cp_Bo sl) (cp_A am) lk (cp_A st) (cp_A par) wk (cp_A cn) (cp_A tx) od (cp_A hg) bw (cp_Bo gd) ch (cp_A po) li sp qu sk := by
  have key : wX_opens_88 post J13 lock h (nI n) (nI (4 * k)) c (cp_top sk n) (cp_bel sk n) sb (nI tip) (nI pc) qc (cp_A ic) (cp_A so) wi xo (cp_Bo sl) (cp_A am) lk (cp_A st) (cp_A par) wk (cp_A cn) (cp_A tx) od (cp_A hg) bw (cp_Bo gd) ch (cp_A po) li sp qu sk :=
    br_c (fun e => br_c (fun z => H0 e z) (fun z => cx_op104 hn hk hn9 (H (fun y => z y.2)))) (fun e => cx_op104 hn hk hn9 (H (fun y => e y.1)))
  refine pk_le n 1 (fun z => ?_) (fun z => And.intro (pk_in (n - 2) 9 (by omega) (cp_sub2 z)) ?_)
  · have e : cp_bel sk n = 0 := if_neg (by omega)
    rw [e] at key
    exact key
  · have e : cp_bel sk n = sk (nI n - 2).toNatClampNeg := by
      rw [cp_sub2 z, nI_clamp (by omega)]
      exact if_pos z
    rw [e] at key
    exact key
theorem cx_op13 {post : Int32 → SX → Prop} (lock h : Int32) : ∀ (d k n : Nat) (sk : Nat → Int32), k + d = 8 → n ≤ k + 1 → (∀ r sk', cp_TF r (cp_run lock h d k n sk) → post r (sb, nI tip, nI pc, qc, cp_A ic, cp_A so, wi, xo, cp_Bo sl, cp_A am, lk, cp_A st, cp_A par, wk, cp_A cn, cp_A tx, od, cp_A hg, bw, cp_Bo gd, ch, cp_A po, li, sp, qu, sk')) → wX_opens_13 post lock h sb (nI tip) (nI pc) qc (d + 1) (nI n) (nI (4 * k)) (cp_A ic) (cp_A so) wi xo (cp_Bo sl) (cp_A am) lk (cp_A st) (cp_A par) wk (cp_A cn) (cp_A tx) od (cp_A hg) bw (cp_Bo gd) ch (cp_A po) li sp qu sk := by
  intro d
  induction d with
  | zero =>
    intro k n sk hk hn H
    exact pk_le 32 (4 * k) (fun _ => cx_op162 (by omega) (fun r hr => H r sk hr)) (fun z => False.elim (by omega))
  | succ d ih =>
    intro k n sk hk hn H
    have hnd := cp_need_le (cp_code lock k)
    refine pk_le 32 (4 * k) (fun z => False.elim (by omega)) (fun _ => nm_r (e' := cp_code lock k) rfl (br_c (fun c0 => cx_op162 (by omega) (fun r hr => H r sk (cp_TF_iff hr ?_))) (fun c0 => cx_need (pk_le (cp_need (cp_code lock k)) n (fun hn' => ?_) (fun z => H 0 sk (cp_TF_F ?_))))))
    · constructor
      · intro y
        exact Or.inl ⟨c0, y⟩
      · rintro (y | y)
        · exact y.2
        · exact absurd c0 y.1
    · have hgr := cp_grow_le (cp_code lock k) n
      have key : wX_opens_67 post (wX_opens_13 post lock h sb (nI tip) (nI pc) qc (d + 1)) lock h (nI n) (nI (4 * k)) (cp_code lock k) (cp_top sk n) sb (nI tip) (nI pc) qc (cp_A ic) (cp_A so) wi xo (cp_Bo sl) (cp_A am) lk (cp_A st) (cp_A par) wk (cp_A cn) (cp_A tx) od (cp_A hg) bw (cp_Bo gd) ch (cp_A po) li sp qu sk := by
        refine cx_op67 hn' (by omega) (by omega) (fun e z => H 0 sk (cp_TF_F ?_)) (fun z => ih (k + 1) (cp_grow (cp_code lock k) n) _ (by omega) (by omega) (fun r sk' hr => H r sk' (cp_TF_iff hr ?_)))
        · rintro (y | y)
          · exact c0 y.1
          · exact y.2.2.1 ⟨e, z⟩
        · constructor
          · intro y
            exact Or.inr ⟨c0, hn', z, y⟩
          · rintro (y | y)
            · exact absurd y.1 c0
            · exact y.2.2.2
      refine pk_le n 0 (fun z => ?_) (fun z => And.intro (pk_in (n - 1) 9 (by omega) (cp_sub1 z)) ?_)
      · have e : cp_top sk n = 0 := if_neg (by omega)
        rw [e] at key
        exact key
      · have e : cp_top sk n = sk (nI n - 1).toNatClampNeg := by
          rw [cp_sub1 z, nI_clamp (by omega)]
          exact if_pos z
        rw [e] at key
        exact key
    · rintro (y | y)
      · exact c0 y.1
      · have := y.2.1
        omega
theorem cx_op {post : Int32 → SX → Prop} (lock w h : Int32) (H : ∀ r sk', cp_TF r (cp_OP lock w h) → post r (sb, nI tip, nI pc, qc, cp_A ic, cp_A so, wi, xo, cp_Bo sl, cp_A am, lk, cp_A st, cp_A par, wk, cp_A cn, cp_A tx, od, cp_A hg, bw, cp_Bo gd, ch, cp_A po, li, sp, qu, sk')) : wpX_opens post (sb, nI tip, nI pc, qc, cp_A ic, cp_A so, wi, xo, cp_Bo sl, cp_A am, lk, cp_A st, cp_A par, wk, cp_A cn, cp_A tx, od, cp_A hg, bw, cp_Bo gd, ch, cp_A po, li, sp, qu, sk) lock w h := by
  refine nm_e (Exists.intro 9 ?_)
  exact cx_op13 lock h 8 0 1 _ (by omega) (by omega) (fun r sk' hr => H r sk' (cp_TF_iff hr (cp_OP_c pk_us)))
end
