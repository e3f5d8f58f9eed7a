/-! Y: range, lock script, sums, fits, list -/
theorem cy_out {post : Int32 → Prop} (x : Int32) (a b : Nat) (ha : a < 2 ^ 31) (hb : b < 2 ^ 31) (H : ∀ r, cp_TF r (¬ ∃ t, a ≤ t ∧ t ≤ b ∧ x = nI t) → post r) : wpY_out post x (nI a) (nI b) := by
  refine br_c (fun z => H 1 (cp_TF_T ?_)) (fun z => br_c (fun y => H 0 (cp_TF_F (fun w => w ?_))) (fun y => H 1 (cp_TF_T ?_)))
  · rintro ⟨t, h1, h2, e⟩
    rw [e, nI_ltI (by omega) ha] at z
    omega
  · have h0 : ¬ x < 0 := fun w => z (Int32.lt_of_lt_of_le w (nI_pos' ha))
    obtain ⟨j, hj, e⟩ := nI_of h0
    rw [e, nI_ltI hj ha] at z
    rw [e, nI_leI hj hb] at y
    exact ⟨j, by omega, y, e⟩
  · rintro ⟨t, h1, h2, e⟩
    rw [e, nI_leI (by omega) hb] at y
    omega
theorem cp_grow_pos {c : Int32} {n : Nat} (hn : cp_need c ≤ n) (h9 : ¬ c = 9) (h15 : ¬ c = 15) : 1 ≤ cp_grow c n := by
  by_cases a : c = 1 ∨ c = 2 ∨ c = 10 ∨ c = 11 ∨ c = 14
  · unfold cp_grow
    rw [if_pos a]
    omega
  · have h1 : ¬ c = 1 := fun e => a (Or.inl e)
    have h2 : ¬ c = 2 := fun e => a (Or.inr (Or.inl e))
    have h10 : ¬ c = 10 := fun e => a (Or.inr (Or.inr (Or.inl e)))
    have h11 : ¬ c = 11 := fun e => a (Or.inr (Or.inr (Or.inr (Or.inl e))))
    have p := cp_need_pos h1 h10 h11
    unfold cp_grow
    rw [if_neg a]
    by_cases b : c = 8 ∨ c = 13
    · rw [if_pos b]
      omega
    · rw [if_neg b]
      have e2 : cp_need c = 2 := by
        unfold cp_need
        rw [if_neg (fun z => z.elim h1 (fun z => z.elim h10 h11)), if_neg (fun z => z.elim h2 (fun z => z.elim h9 (fun z => z.elim (fun w => b (Or.inr w)) h15)))]
      omega
section
variable {ys yn yw : Int32} {tip pc : Nat} {ic so oc am hg par cn tx st po : Nat → Nat} {sl : Nat → Bool} {wi lk wk od yp yl yt ho yk yq yo : Nat → Int32}
theorem cy_op293 {post : Int32 → SY → Prop} {n : Nat} (hn : n ≤ 9) (H : ∀ r, cp_TF r (cp_end n yk) → post r (ys, yn, yw, nI pc, nI tip, cp_A ic, cp_A (cp_hf so), cp_A (cp_hm so), wi, cp_A oc, cp_A am, lk, cp_Bo sl, cp_A (cp_ys st), cp_A par, wk, cp_A cn, cp_A tx, od, yp, yl, yt, ho, yk, cp_A po, yq, yo)) : wY_opens_293 post (nI n) ys yn yw (nI pc) (nI tip) (cp_A ic) (cp_A (cp_hf so)) (cp_A (cp_hm so)) wi (cp_A oc) (cp_A am) lk (cp_Bo sl) (cp_A (cp_ys st)) (cp_A par) wk (cp_A cn) (cp_A tx) od yp yl yt ho yk (cp_A po) yq yo := by
  refine pk_le n 0 (fun z => H 0 (cp_TF_F (fun y => by have := y.1; omega))) (fun z => ?_)
  obtain ⟨m, rfl⟩ : ∃ m, n = m + 1 := ⟨n - 1, by omega⟩
  have e : nI (m + 1) - 1 = nI m := nI_pred m
  refine And.intro (pk_in m 16 (by omega) e) ?_
  rw [e, nI_clamp (by omega)]
  exact br_c (fun y => H 0 (cp_TF_F (fun w => w.2 y))) (fun y => H 1 (cp_TF_T ⟨by omega, y⟩))
theorem cy_op219 {post : Int32 → SY → Prop} {J13 : Int32 → Int32 → (Nat → Int32) → (Nat → Int32) → (Nat → Int32) → (Nat → Int32) → (Nat → Int32) → (Nat → Int32) → (Nat → Int32) → (Nat → Int32) → (Nat → Int32) → (Nat → Int32) → (Nat → Int32) → (Nat → Int32) → (Nat → Int32) → (Nat → Int32) → (Nat → Int32) → (Nat → Int32) → (Nat → Int32) → (Nat → Int32) → (Nat → Int32) → (Nat → Int32) → (Nat → Int32) → (Nat → Int32) → Prop} {lock h c r : Int32} {n k : Nat} (hn : cp_need c ≤ n) (hn9 : n ≤ 9) (er : nI n + r = nI (cp_grow c n))
    (H : J13 (nI (cp_grow c n)) (nI (k + 1)) (cp_A ic) (cp_A (cp_hf so)) (cp_A (cp_hm so)) wi (cp_A oc) (cp_A am) lk (cp_Bo sl) (cp_A (cp_ys st)) (cp_A par) wk (cp_A cn) (cp_A tx) od yp yl yt ho (cp_ynx c n yk h) (cp_A po) yq yo) : wY_opens_219 post J13 lock h (nI k) c (cp_ytop c n yk) (cp_ybel c n yk) r (nI n) ys yn yw (nI pc) (nI tip) (cp_A ic) (cp_A (cp_hf so)) (cp_A (cp_hm so)) wi (cp_A oc) (cp_A am) lk (cp_Bo sl) (cp_A (cp_ys st)) (cp_A par) wk (cp_A cn) (cp_A tx) od yp yl yt ho yk (cp_A po) yq yo := by
  have gl := cp_grow_le c n
  unfold cp_ynx at H
  refine nm_r er (br_c (fun e => ?_) (fun e => br_c (fun e9 => nm_r (nI_1 k) ?_) (fun e9 => br_c (fun e15 => nm_r (nI_1 k) ?_) (fun e15 => cy_res ?_))))
  · have h2 : 2 ≤ n := by
      rw [e] at hn
      exact hn
    have eg : cp_grow c n = n := by
      rw [e]
      rfl
    rw [if_pos e] at H
    rw [eg] at H ⊢
    refine And.intro (pk_in (n - 1) 16 (by omega) (cp_sub1 (by omega))) (nm_r (e' := upd yk (n - 1) (cp_ybel c n yk)) (by rw [cp_sub1 (by omega), nI_clamp (by omega)]) (And.intro (pk_in (n - 2) 16 (by omega) (cp_sub2 h2)) (nm_r (e' := upd (upd yk (n - 1) (cp_ybel c n yk)) (n - 2) (cp_ytop c n yk)) (by rw [cp_sub2 h2, nI_clamp (by omega)]) (nm_r (nI_1 k) H))))
  · rw [if_neg e, if_pos (Or.inl e9)] at H
    exact H
  · rw [if_neg e, if_pos (Or.inr e15)] at H
    exact H
  · have g1 := cp_grow_pos hn e9 e15
    rw [if_neg e, if_neg (fun z => z.elim e9 e15)] at H
    exact And.intro (pk_in (cp_grow c n - 1) 16 (by omega) (cp_sub1 g1)) (nm_r (by rw [cp_sub1 g1, nI_clamp (by omega)]) (nm_r (nI_1 k) H))
theorem cy_op161 {post : Int32 → SY → Prop} {J13 : Int32 → Int32 → (Nat → Int32) → (Nat → Int32) → (Nat → Int32) → (Nat → Int32) → (Nat → Int32) → (Nat → Int32) → (Nat → Int32) → (Nat → Int32) → (Nat → Int32) → (Nat → Int32) → (Nat → Int32) → (Nat → Int32) → (Nat → Int32) → (Nat → Int32) → (Nat → Int32) → (Nat → Int32) → (Nat → Int32) → (Nat → Int32) → (Nat → Int32) → (Nat → Int32) → (Nat → Int32) → (Nat → Int32) → Prop} {lock h c : Int32} {n k : Nat} (hn : cp_need c ≤ n) (hn9 : n ≤ 9)
    (H : J13 (nI (cp_grow c n)) (nI (k + 1)) (cp_A ic) (cp_A (cp_hf so)) (cp_A (cp_hm so)) wi (cp_A oc) (cp_A am) lk (cp_Bo sl) (cp_A (cp_ys st)) (cp_A par) wk (cp_A cn) (cp_A tx) od yp yl yt ho (cp_ynx c n yk h) (cp_A po) yq yo) : wY_opens_161 post J13 lock h (nI n) (nI k) c (cp_ytop c n yk) (cp_ybel c n yk) ys yn yw (nI pc) (nI tip) (cp_A ic) (cp_A (cp_hf so)) (cp_A (cp_hm so)) wi (cp_A oc) (cp_A am) lk (cp_Bo sl) (cp_A (cp_ys st)) (cp_A par) wk (cp_A cn) (cp_A tx) od yp yl yt ho yk (cp_A po) yq yo := by
  have key : ∀ r, nI n + r = nI (cp_grow c n) → wY_opens_219 post J13 lock h (nI k) c (cp_ytop c n yk) (cp_ybel c n yk) r (nI n) ys yn yw (nI pc) (nI tip) (cp_A ic) (cp_A (cp_hf so)) (cp_A (cp_hm so)) wi (cp_A oc) (cp_A am) lk (cp_Bo sl) (cp_A (cp_ys st)) (cp_A par) wk (cp_A cn) (cp_A tx) od yp yl yt ho yk (cp_A po) yq yo := fun r er => cy_op219 hn hn9 er H
  refine br_c (fun e => key 1 (by rw [e]; exact nI_1 n)) (fun n1 => br_c (fun e => key 1 (by rw [e]; exact nI_1 n)) (fun n2 => br_c (fun e => key 1 (by rw [e]; exact nI_1 n)) (fun n10 => br_c (fun e => key 1 (by rw [e]; exact nI_1 n)) (fun n11 => br_c (fun e => key 1 (by rw [e]; exact nI_1 n)) (fun n14 => br_c (fun e => key 0 (by rw [e]; exact cp_nz n)) (fun n8 => br_c (fun e => key 0 (by rw [e]; exact cp_nz n)) (fun n13 => key (-1) ?_)))))))
  have p := cp_need_pos n1 n10 n11
  have eg : cp_grow c n = n - 1 := by
    unfold cp_grow
    rw [if_neg (fun z => z.elim n1 (fun z => z.elim n2 (fun z => z.elim n10 (fun z => z.elim n11 n14)))), if_neg (fun z => z.elim n8 n13)]
  rw [eg]
  exact cp_nm1 (by omega)
theorem cy_op95 {post : Int32 → SY → Prop} {J13 : Int32 → Int32 → (Nat → Int32) → (Nat → Int32) → (Nat → Int32) → (Nat → Int32) → (Nat → Int32) → (Nat → Int32) → (Nat → Int32) → (Nat → Int32) → (Nat → Int32) → (Nat → Int32) → (Nat → Int32) → (Nat → Int32) → (Nat → Int32) → (Nat → Int32) → (Nat → Int32) → (Nat → Int32) → (Nat → Int32) → (Nat → Int32) → (Nat → Int32) → (Nat → Int32) → (Nat → Int32) → (Nat → Int32) → Prop} {lock h c : Int32} {n k : Nat} (hn9 : n ≤ 9)
    (H0 : ¬ (cp_need c ≤ n ∧ ¬ (c = 15 ∧ cp_top yk n = 0)) → post 0 (ys, yn, yw, nI pc, nI tip, cp_A ic, cp_A (cp_hf so), cp_A (cp_hm so), wi, cp_A oc, cp_A am, lk, cp_Bo sl, cp_A (cp_ys st), cp_A par, wk, cp_A cn, cp_A tx, od, yp, yl, yt, ho, yk, cp_A po, yq, yo))
    (H : cp_need c ≤ n → ¬ (c = 15 ∧ cp_top yk n = 0) → J13 (nI (cp_grow c n)) (nI (k + 1)) (cp_A ic) (cp_A (cp_hf so)) (cp_A (cp_hm so)) wi (cp_A oc) (cp_A am) lk (cp_Bo sl) (cp_A (cp_ys st)) (cp_A par) wk (cp_A cn) (cp_A tx) od yp yl yt ho (cp_ynx c n yk h) (cp_A po) yq yo) : wY_opens_95 post J13 lock h (nI n) (nI k) c (nI (cp_need c)) ys yn yw (nI pc) (nI tip) (cp_A ic) (cp_A (cp_hf so)) (cp_A (cp_hm so)) wi (cp_A oc) (cp_A am) lk (cp_Bo sl) (cp_A (cp_ys st)) (cp_A par) wk (cp_A cn) (cp_A tx) od yp yl yt ho yk (cp_A po) yq yo := by
  have nd := cp_need_le c
  refine pk_le (cp_need c) n (fun hn => ?_) (fun z => H0 (fun y => by omega))
  have k145 : wY_opens_145 post J13 lock h (nI n) (nI k) c (cp_ytop c n yk) (cp_ybel c n yk) ys yn yw (nI pc) (nI tip) (cp_A ic) (cp_A (cp_hf so)) (cp_A (cp_hm so)) wi (cp_A oc) (cp_A am) lk (cp_Bo sl) (cp_A (cp_ys st)) (cp_A par) wk (cp_A cn) (cp_A tx) od yp yl yt ho yk (cp_A po) yq yo := by
    refine br_c (fun e => ?_) (fun e => cy_op161 hn hn9 (H hn (fun y => e y.1)))
    have et : cp_ytop c n yk = cp_top yk n := cp_ytop_e hn (by rw [e]; decide)
    refine br_c (fun z => H0 (fun y => y.2 ⟨e, by rw [← et]; exact z⟩)) (fun z => cy_op161 hn hn9 (H hn (fun y => z (by rw [et]; exact y.2))))
  have k124 : wY_opens_124 post J13 lock h (nI n) (nI k) c (nI (cp_need c)) (cp_ytop c n yk) ys yn yw (nI pc) (nI tip) (cp_A ic) (cp_A (cp_hf so)) (cp_A (cp_hm so)) wi (cp_A oc) (cp_A am) lk (cp_Bo sl) (cp_A (cp_ys st)) (cp_A par) wk (cp_A cn) (cp_A tx) od yp yl yt ho yk (cp_A po) yq yo := by
    refine pk_le (cp_need c) 1 (fun z => ?_) (fun z => And.intro (pk_in (n - 2) 16 (by omega) (cp_sub2 (by omega))) ?_)
    · have e : cp_ybel c n yk = 0 := if_neg (by omega)
      rw [e] at k145
      exact k145
    · have e : cp_ybel c n yk = yk (nI n - 2).toNatClampNeg := by
        rw [cp_sub2 (by omega), nI_clamp (by omega)]
        exact if_pos z
      rw [e] at k145
      exact k145
  refine pk_le (cp_need c) 0 (fun z => ?_) (fun z => And.intro (pk_in (n - 1) 16 (by omega) (cp_sub1 (by omega))) ?_)
  · have e : cp_ytop c n yk = 0 := if_neg (by omega)
    rw [e] at k124
    exact k124
  · have e : cp_ytop c n yk = yk (nI n - 1).toNatClampNeg := by
      rw [cp_sub1 (by omega), nI_clamp (by omega)]
      exact if_pos z
    rw [e] at k124
    exact k124
theorem cy_op13 {post : Int32 → SY → Prop} (lock h : Int32) : ∀ (d k n : Nat) (yk : Nat → Int32), k + d = 8 → n ≤ k + 1 → (∀ r yk', cp_TF r (cp_run lock h d k n yk) → post r (ys, yn, yw, nI pc, nI tip, cp_A ic, cp_A (cp_hf so), cp_A (cp_hm so), wi, cp_A oc, cp_A am, lk, cp_Bo sl, cp_A (cp_ys st), cp_A par, wk, cp_A cn, cp_A tx, od, yp, yl, yt, ho, yk', cp_A po, yq, yo)) → wY_opens_13 post lock h ys yn yw (nI pc) (nI tip) (d + 1) (nI n) (nI k) (cp_A ic) (cp_A (cp_hf so)) (cp_A (cp_hm so)) wi (cp_A oc) (cp_A am) lk (cp_Bo sl) (cp_A (cp_ys st)) (cp_A par) wk (cp_A cn) (cp_A tx) od yp yl yt ho yk (cp_A po) yq yo := by
  intro d
  induction d with
  | zero =>
    intro k n yk hk hn H
    exact pk_le 8 k (fun _ => cy_op293 (by omega) (fun r hr => H r yk hr)) (fun z => False.elim (by omega))
  | succ d ih =>
    intro k n yk hk hn H
    have gl := cp_grow_le (cp_code lock k) n
    refine pk_le 8 k (fun z => False.elim (by omega)) (fun _ => nm_r (e' := cp_code lock k) (by rw [show (4 : Int32) * nI k = nI (4 * k) from pk_mul 4 k]; rfl) (br_c (fun c0 => cy_op293 (by omega) (fun r hr => H r yk (cp_TF_iff hr ?_))) (fun c0 => ?_)))
    · constructor
      · intro y
        exact Or.inl ⟨c0, y⟩
      · rintro (y | y)
        · exact y.2
        · exact absurd c0 y.1
    · have key : wY_opens_95 post (wY_opens_13 post lock h ys yn yw (nI pc) (nI tip) (d + 1)) lock h (nI n) (nI k) (cp_code lock k) (nI (cp_need (cp_code lock k))) ys yn yw (nI pc) (nI tip) (cp_A ic) (cp_A (cp_hf so)) (cp_A (cp_hm so)) wi (cp_A oc) (cp_A am) lk (cp_Bo sl) (cp_A (cp_ys st)) (cp_A par) wk (cp_A cn) (cp_A tx) od yp yl yt ho yk (cp_A po) yq yo := by
        refine cy_op95 (by omega) (fun z => H 0 yk (cp_TF_F ?_)) (fun hn' z => ih (k + 1) (cp_grow (cp_code lock k) n) _ (by omega) (by omega) (fun r yk' hr => H r yk' (cp_TF_iff hr ?_)))
        · rintro (y | y)
          · exact c0 y.1
          · exact z ⟨y.2.1, y.2.2.1⟩
        · rw [cp_run_c d (k + 1) (cp_grow (cp_code lock k) n) _ _ (cp_ynx_e hn')]
          constructor
          · intro y
            exact Or.inr ⟨c0, hn', z, y⟩
          · rintro (y | y)
            · exact absurd y.1 c0
            · exact y.2.2.2
      have kk : ∀ m, cp_need (cp_code lock k) = m → wY_opens_95 post (wY_opens_13 post lock h ys yn yw (nI pc) (nI tip) (d + 1)) lock h (nI n) (nI k) (cp_code lock k) (nI m) ys yn yw (nI pc) (nI tip) (cp_A ic) (cp_A (cp_hf so)) (cp_A (cp_hm so)) wi (cp_A oc) (cp_A am) lk (cp_Bo sl) (cp_A (cp_ys st)) (cp_A par) wk (cp_A cn) (cp_A tx) od yp yl yt ho yk (cp_A po) yq yo := fun m e => e ▸ key
      refine br_c (fun e => kk 0 (by rw [e]; decide)) (fun n1 => br_c (fun e => kk 0 (by rw [e]; decide)) (fun n10 => br_c (fun e => kk 0 (by rw [e]; decide)) (fun n11 => br_c (fun e => kk 1 (by rw [e]; decide)) (fun n2 => br_c (fun e => kk 1 (by rw [e]; decide)) (fun n9 => br_c (fun e => kk 1 (by rw [e]; decide)) (fun n13 => br_c (fun e => kk 1 (by rw [e]; decide)) (fun n15 => kk 2 ?_)))))))
      unfold cp_need
      rw [if_neg (fun z => z.elim n1 (fun z => z.elim n10 n11)), if_neg (fun z => z.elim n2 (fun z => z.elim n9 (fun z => z.elim n13 n15)))]
theorem cy_op {post : Int32 → SY → Prop} (lock w h : Int32) (H : ∀ r yk', cp_TF r (cp_OP lock w h) → post r (ys, yn, yw, nI pc, nI tip, cp_A ic, cp_A (cp_hf so), cp_A (cp_hm so), wi, cp_A oc, cp_A am, lk, cp_Bo sl, cp_A (cp_ys st), cp_A par, wk, cp_A cn, cp_A tx, od, yp, yl, yt, ho, yk', cp_A po, yq, yo)) : wpY_opens post (ys, yn, yw, nI pc, nI tip, cp_A ic, cp_A (cp_hf so), cp_A (cp_hm so), wi, cp_A oc, cp_A am, lk, cp_Bo sl, cp_A (cp_ys st), cp_A par, wk, cp_A cn, cp_A tx, od, yp, yl, yt, ho, yk, cp_A po, yq, yo) lock w h := by
  refine nm_e (Exists.intro 9 ?_)
  exact cy_op13 lock h 8 0 1 _ (by omega) (by omega) (fun r yk' hr => H r yk' (cp_TF_iff hr (cp_OP_c pk_us)))
theorem cp_src (so : Nat → Nat) {m : Nat} (h : m < 2 ^ 31) : (2 : Int32) * cp_A (cp_hf so) (nI m).toNatClampNeg + cp_A (cp_hm so) (nI m).toNatClampNeg = nI (so m) := by
  rw [cp_rd _ h, cp_rd _ h, cp_2a]
  exact congrArg nI (Nat.div_add_mod _ _)
theorem cy_sp6 {post : Int32 → Prop} (B : cp_RB ic so oc am hg par cn tx st sl wi lk) {t : Nat} (ht : t < 32) (H : post (nI (cp_sd ic so am t))) : ∀ (d i : Nat), i + d = ic t → wY_spends_6 post (nI t) ys yn yw (nI pc) (nI tip) (cp_A ic) (cp_A (cp_hf so)) (cp_A (cp_hm so)) wi (cp_A oc) (cp_A am) lk (cp_Bo sl) (cp_A (cp_ys st)) (cp_A par) wk (cp_A cn) (cp_A tx) od yp yl yt ho yk (cp_A po) yq yo (d + 1) (nI (cp_sum (fun k => am (so (2 * t + k))) i)) (nI (2 * t + i)) := by
  have c := cp_RB_ic B t
  have e0 : (2 : Int32) * nI t + cp_A ic (nI t).toNatClampNeg = nI (2 * t + ic t) := by
    rw [cp_rd ic (by omega), cp_2a]
  intro d
  induction d with
  | zero =>
    intro i hi
    refine And.intro (vp_in_nI ht (by decide)) (pk_le (2 * t + ic t) (2 * t + i) (fun _ => ?_) (fun z => False.elim (by omega)) e0 rfl)
    rw [show i = ic t from by omega, cp_sd_sum c]
    exact H
  | succ d ih =>
    intro i hi
    have hs := cp_RB_so B (2 * t + i)
    have e1 := cp_src so (m := 2 * t + i) (by omega)
    have i64 : vp_in (nI (2 * t + i)) 64 := vp_in_nI (by omega) (by decide)
    refine And.intro (vp_in_nI ht (by decide)) (pk_le (2 * t + ic t) (2 * t + i) (fun z => False.elim (by omega)) (fun _ => And.intro i64 (And.intro i64 (And.intro (pk_in (so (2 * t + i)) 112 hs e1) (nm_r (e' := nI (cp_sum (fun k => am (so (2 * t + k))) (i + 1))) ?_ (nm_r (nI_1 _) (ih (i + 1) (by omega))))))) e0 rfl)
    rw [e1, cp_rd am (by omega), nI_add]
    rfl
theorem cy_sp {post : Int32 → Prop} (B : cp_RB ic so oc am hg par cn tx st sl wi lk) {t : Nat} (ht : t < 32) (H : post (nI (cp_sd ic so am t))) : wpY_spends post (ys, yn, yw, nI pc, nI tip, cp_A ic, cp_A (cp_hf so), cp_A (cp_hm so), wi, cp_A oc, cp_A am, lk, cp_Bo sl, cp_A (cp_ys st), cp_A par, wk, cp_A cn, cp_A tx, od, yp, yl, yt, ho, yk, cp_A po, yq, yo) (nI t) :=
  nm_r (cp_2m t) (Exists.intro (ic t + 1) (cy_sp6 B ht H (ic t) 0 (by omega)))
theorem cy_gv6 {post : Int32 → Prop} (B : cp_RB ic so oc am hg par cn tx st sl wi lk) {t : Nat} (ht : t < 32) (H : post (nI (cp_gv oc am t))) : ∀ (d i : Nat), i + d = oc t → wY_gives_6 post (nI t) ys yn yw (nI pc) (nI tip) (cp_A ic) (cp_A (cp_hf so)) (cp_A (cp_hm so)) wi (cp_A oc) (cp_A am) lk (cp_Bo sl) (cp_A (cp_ys st)) (cp_A par) wk (cp_A cn) (cp_A tx) od yp yl yt ho yk (cp_A po) yq yo (d + 1) (nI (cp_sum (fun k => am (2 * t + k)) i)) (nI (2 * t + i)) := by
  have c := cp_RB_oc B t
  have e0 : (2 : Int32) * nI t + cp_A oc (nI t).toNatClampNeg = nI (2 * t + oc t) := by
    rw [cp_rd oc (by omega), cp_2a]
  intro d
  induction d with
  | zero =>
    intro i hi
    refine And.intro (vp_in_nI (by omega) (by decide)) (pk_le (2 * t + oc t) (2 * t + i) (fun _ => ?_) (fun z => False.elim (by omega)) e0 rfl)
    rw [show i = oc t from by omega, cp_gv_sum c]
    exact H
  | succ d ih =>
    intro i hi
    refine And.intro (vp_in_nI (by omega) (by decide)) (pk_le (2 * t + oc t) (2 * t + i) (fun z => False.elim (by omega)) (fun _ => And.intro (vp_in_nI (by omega) (by decide)) (nm_r (e' := nI (cp_sum (fun k => am (2 * t + k)) (i + 1))) ?_ (nm_r (nI_1 _) (ih (i + 1) (by omega))))) e0 rfl)
    rw [cp_rd am (by omega), nI_add]
    rfl
theorem cy_gv {post : Int32 → Prop} (B : cp_RB ic so oc am hg par cn tx st sl wi lk) {t : Nat} (ht : t < 32) (H : post (nI (cp_gv oc am t))) : wpY_gives post (ys, yn, yw, nI pc, nI tip, cp_A ic, cp_A (cp_hf so), cp_A (cp_hm so), wi, cp_A oc, cp_A am, lk, cp_Bo sl, cp_A (cp_ys st), cp_A par, wk, cp_A cn, cp_A tx, od, yp, yl, yt, ho, yk, cp_A po, yq, yo) (nI t) :=
  nm_r (cp_2m t) (Exists.intro (oc t + 1) (cy_gv6 B ht H (oc t) 0 (by omega)))
theorem cp_gv_le (B : cp_RB ic so oc am hg par cn tx st sl wi lk) (t : Nat) : cp_gv oc am t ≤ 20000 := by
  have a1 := cp_RB_am B (2 * t)
  have a2 := cp_RB_am B (2 * t + 1)
  unfold cp_gv
  split <;> split <;> omega
/-- heights of listed coinbases -/
def cp_LH (hg : Nat → Nat) (ho : Nat → Int32) (L : Nat → Prop) : Prop := ∀ j, j < 56 → L j → 32 ≤ j → ho j = nI (hg (j - 32)) ∧ hg (j - 32) < 24
theorem cy_ft96 {post : Int32 → SY → Prop} (B : cp_RB ic so oc am hg par cn tx st sl wi lk) {t h : Nat} (ht : t < 32) (hh : h < 2 ^ 30) {L S : Nat → Prop} (hl : cp_Rp yl L 56) (hs : cp_Rp yt S 112) (hLh : cp_LH hg ho L)
    (p1 : sl t = true) (p2 : ic t ≠ 0) (p3 : oc t ≠ 0) (p4 : ¬ L t) (p5 : ¬ (ic t = 2 ∧ so (2 * t) = so (2 * t + 1))) : ∀ (d i : Nat) (yk : Nat → Int32), i + d = ic t → (∀ k, k < i → cp_IO so oc hg wi lk L S h (2 * t + k)) →
    (∀ r yk', cp_TF r (cp_FT ic so oc am hg sl wi lk L S t h) → post r (ys, yn, yw, nI pc, nI tip, cp_A ic, cp_A (cp_hf so), cp_A (cp_hm so), wi, cp_A oc, cp_A am, lk, cp_Bo sl, cp_A (cp_ys st), cp_A par, wk, cp_A cn, cp_A tx, od, yp, yl, yt, ho, yk', cp_A po, yq, yo)) → wY_fits_96 post (nI t) (nI h) (d + 1) (nI (2 * t + i)) ys yn yw (nI pc) (nI tip) (cp_A ic) (cp_A (cp_hf so)) (cp_A (cp_hm so)) wi (cp_A oc) (cp_A am) lk (cp_Bo sl) (cp_A (cp_ys st)) (cp_A par) wk (cp_A cn) (cp_A tx) od yp yl yt ho yk (cp_A po) yq yo := by
  have c := cp_RB_ic B t
  have e0 : (2 : Int32) * nI t + cp_A ic (nI t).toNatClampNeg = nI (2 * t + ic t) := by
    rw [cp_rd ic (by omega), cp_2a]
  intro d
  induction d with
  | zero =>
    intro i yk hi hp H
    have hs1 := cp_sd_le B t
    have hg1 := cp_gv_le B t
    refine And.intro (vp_in_nI ht (by decide)) (pk_le (2 * t + ic t) (2 * t + i) (fun _ => cy_sp B ht (cy_gv B ht (pk_lt (cp_sd ic so am t) (cp_gv oc am t) (fun z => H 0 yk (cp_TF_F (fun y => by have := y.2.2.2.2.2.2; omega))) (fun z => H 1 yk (cp_TF_T ⟨p1, p2, p3, p4, p5, fun k hk => hp k (by omega), z⟩))))) (fun z => False.elim (by omega)) e0 rfl)
  | succ d ih =>
    intro i yk hi hp H
    have hso := cp_RB_so B (2 * t + i)
    have i64 : vp_in (nI (2 * t + i)) 64 := vp_in_nI (by omega) (by decide)
    have ef : cp_A (cp_hf so) (nI (2 * t + i)).toNatClampNeg = nI (so (2 * t + i) / 2) := cp_rd (cp_hf so) (by omega)
    have em : cp_A (cp_hm so) (nI (2 * t + i)).toNatClampNeg = nI (so (2 * t + i) % 2) := cp_rd (cp_hm so) (by omega)
    have eo : (2 : Int32) * nI (so (2 * t + i) / 2) + cp_A (cp_hm so) (nI (2 * t + i)).toNatClampNeg = nI (so (2 * t + i)) := by
      rw [em, cp_2a]
      exact congrArg nI (Nat.div_add_mod _ _)
    generalize ego : so (2 * t + i) = o at hso ef em eo
    have i56 : vp_in (nI (o / 2)) 56 := vp_in_nI (by omega) (by decide)
    have tl : cp_TF (yl (nI (o / 2)).toNatClampNeg) (L (o / 2)) := by
      rw [nI_clamp (by omega)]
      exact hl _ (by omega)
    have ts : cp_TF (yt (nI o).toNatClampNeg) (S o) := by
      rw [nI_clamp (by omega)]
      exact hs _ hso
    have no : ∀ {P : Prop}, (cp_IO so oc hg wi lk L S h (2 * t + i) → P) → ¬ P → ¬ cp_FT ic so oc am hg sl wi lk L S t h := fun a b y => b (a (y.2.2.2.2.2.1 i (by omega)))
    have c2 := cp_RB_oc B (o / 2)
    refine And.intro (vp_in_nI ht (by decide)) (pk_le (2 * t + ic t) (2 * t + i) (fun z => False.elim (by omega)) (fun _ => And.intro i64 (nm_r ef (And.intro i64 (nm_r eo (And.intro i56 (cp_TF_br tl (fun z => H 0 yk (cp_TF_F (no (fun y => y.2.1) (by rw [ego]; exact z)))) (fun zl => And.intro i64 (And.intro i56 ?_)))))))) e0 rfl)
    refine pk_le (oc (o / 2)) (o % 2) (fun z => H 0 yk (cp_TF_F (no (fun y => y.1) (by rw [ego]; omega)))) (fun zp => And.intro (vp_in_nI hso (by decide)) (cp_TF_br ts (fun zs => ?_) (fun z => H 0 yk (cp_TF_F (no (fun y => y.2.2.1) (by rw [ego]; exact fun w => w z)))))) (cp_rd oc (by omega)) em
    have fin : (o / 2 < 32 ∨ hg (o / 2 - 32) + 2 ≤ h) → wY_fits_191 post (wY_fits_96 post (nI t) (nI h) (d + 1)) (nI t) (nI h) (nI (2 * t + i)) (nI o) ys yn yw (nI pc) (nI tip) (cp_A ic) (cp_A (cp_hf so)) (cp_A (cp_hm so)) wi (cp_A oc) (cp_A am) lk (cp_Bo sl) (cp_A (cp_ys st)) (cp_A par) wk (cp_A cn) (cp_A tx) od yp yl yt ho yk (cp_A po) yq yo := by
      intro zr
      refine And.intro (vp_in_nI hso (by decide)) (And.intro i64 ?_)
      rw [cp_rw lk (by omega), cp_rw wi (by omega)]
      refine cy_op _ _ _ (fun r3 yk' h3 => cp_TF_br h3 (fun z => H 0 yk' (cp_TF_F (no (fun y => y.2.2.2.2) (by rw [ego]; exact z)))) (fun z3 => nm_r (nI_1 (2 * t + i)) (ih (i + 1) yk' (by omega) ?_ H)))
      intro k hk
      by_cases e : k = i
      · subst e
        unfold cp_IO
        rw [ego]
        exact ⟨zp, zl, zs, zr, z3⟩
      · exact hp k (by omega)
    refine pk_lt (o / 2) 32 (fun z => fin (Or.inl z)) (fun z => And.intro i56 ?_)
    obtain ⟨l1, l2⟩ := hLh (o / 2) (by omega) zl z
    refine pk_le (hg (o / 2 - 32) + 2) h (fun y => fin (Or.inr y)) (fun y => H 0 yk (cp_TF_F (no (fun y => y.2.2.2.1) (by rw [ego]; omega)))) ?_ rfl
    rw [nI_clamp (by omega), l1]
    exact nI_add _ 2
theorem cy_ft {post : Int32 → SY → Prop} (B : cp_RB ic so oc am hg par cn tx st sl wi lk) {t h : Nat} (ht : t < 32) (hh : h < 2 ^ 30) {L S : Nat → Prop} (hl : cp_Rp yl L 56) (hs : cp_Rp yt S 112) (hLh : cp_LH hg ho L)
    (H : ∀ r yk', cp_TF r (cp_FT ic so oc am hg sl wi lk L S t h) → post r (ys, yn, yw, nI pc, nI tip, cp_A ic, cp_A (cp_hf so), cp_A (cp_hm so), wi, cp_A oc, cp_A am, lk, cp_Bo sl, cp_A (cp_ys st), cp_A par, wk, cp_A cn, cp_A tx, od, yp, yl, yt, ho, yk', cp_A po, yq, yo)) : wpY_fits post (ys, yn, yw, nI pc, nI tip, cp_A ic, cp_A (cp_hf so), cp_A (cp_hm so), wi, cp_A oc, cp_A am, lk, cp_Bo sl, cp_A (cp_ys st), cp_A par, wk, cp_A cn, cp_A tx, od, yp, yl, yt, ho, yk, cp_A po, yq, yo) (nI t) (nI h) := by
  have c := cp_RB_ic B t
  have c2 := cp_RB_oc B t
  have s1 := cp_RB_so B (2 * t)
  have s2 := cp_RB_so B (2 * t + 1)
  have tb : cp_TF (cp_Bo sl (nI t).toNatClampNeg) (sl t = true) := by
    rw [cp_rb sl (by omega)]
    exact cp_TF_b _
  have tl : cp_TF (yl (nI t).toNatClampNeg) (L t) := by
    rw [nI_clamp (by omega)]
    exact hl _ (by omega)
  have i32 : vp_in (nI t) 32 := vp_in_nI ht (by decide)
  have i56 : vp_in (nI t) 56 := vp_in_nI (by omega) (by decide)
  have ia : vp_in ((2 : Int32) * nI t) 64 := pk_in (2 * t) 64 (by omega) (cp_2m t)
  have eb : (2 : Int32) * nI t + 1 = nI (2 * t + 1) := cp_2a t 1
  have ib : vp_in ((2 : Int32) * nI t + 1) 64 := pk_in (2 * t + 1) 64 (by omega) eb
  refine And.intro i32 (cp_TF_br tb (fun z => H 0 yk (cp_TF_F (fun y => z y.1))) (fun p1 => And.intro i32 (pk_eq (ic t) 0 (fun z => H 0 yk (cp_TF_F (fun y => y.2.1 z))) (fun p2 => And.intro i56 (pk_eq (oc t) 0 (fun z => H 0 yk (cp_TF_F (fun y => y.2.2.1 z))) (fun p3 => And.intro i56 (cp_TF_br tl (fun p4 => And.intro i32 ?_) (fun z => H 0 yk (cp_TF_F (fun y => y.2.2.2.1 z))))) (cp_rd oc (by omega)) rfl)) (cp_rd ic (by omega)) rfl)))
  have key : ¬ (ic t = 2 ∧ so (2 * t) = so (2 * t + 1)) → ∀ x, x = (2 : Int32) * nI t → ∃ n, wY_fits_96 post (nI t) (nI h) n x ys yn yw (nI pc) (nI tip) (cp_A ic) (cp_A (cp_hf so)) (cp_A (cp_hm so)) wi (cp_A oc) (cp_A am) lk (cp_Bo sl) (cp_A (cp_ys st)) (cp_A par) wk (cp_A cn) (cp_A tx) od yp yl yt ho yk (cp_A po) yq yo := fun p5 =>
    nm_r (cp_2m t) ⟨ic t + 1, cy_ft96 B ht hh hl hs hLh p1 p2 p3 p4 p5 (ic t) 0 yk (by omega) (fun k hk => absurd hk (Nat.not_lt_zero _)) H⟩
  refine pk_eq (ic t) 2 (fun z => And.intro ia (And.intro ib ?_)) (fun z => key (fun y => z y.1)) (cp_rd ic (by omega)) rfl
  refine pk_eq (so (2 * t) / 2) (so (2 * t + 1) / 2) (fun w => And.intro ia (And.intro ib (pk_eq (so (2 * t) % 2) (so (2 * t + 1) % 2) (fun v => H 0 yk (cp_TF_F (fun y => y.2.2.2.2.1 ⟨z, by omega⟩))) (fun v => key (fun y => v (by rw [y.2]))) ?_ ?_))) (fun w => key (fun y => w (by rw [y.2]))) ?_ ?_
  · rw [cp_2m]
    exact cp_rd (cp_hm so) (by omega)
  · rw [eb]
    exact cp_rd (cp_hm so) (by omega)
  · rw [cp_2m]
    exact cp_rd (cp_hf so) (by omega)
  · rw [eb]
    exact cp_rd (cp_hf so) (by omega)
theorem cy_ls18 (post : SY → Prop) {t : Nat} (ht : t < 32) (hi2 : ic t ≤ 2) (hso : ∀ k, so k < 112) (S : Nat → Prop) : ∀ (d i : Nat) (yt : Nat → Int32), i + d = ic t → cp_Rp yt (fun o => S o ∨ ∃ k, k < i ∧ so (2 * t + k) = o) 112 →
    (∀ yt', cp_Rp yt' (fun o => S o ∨ cp_inT ic so t o) 112 → post (ys, yn, yw, nI pc, nI tip, cp_A ic, cp_A (cp_hf so), cp_A (cp_hm so), wi, cp_A oc, cp_A am, lk, cp_Bo sl, cp_A (cp_ys st), cp_A par, wk, cp_A cn, cp_A tx, od, yp, yl, yt', ho, yk, cp_A po, yq, yo)) → wY_list_18 post (nI t) ys yn yw (nI pc) (nI tip) (d + 1) (nI (2 * t + i)) (cp_A ic) (cp_A (cp_hf so)) (cp_A (cp_hm so)) wi (cp_A oc) (cp_A am) lk (cp_Bo sl) (cp_A (cp_ys st)) (cp_A par) wk (cp_A cn) (cp_A tx) od yp yl yt ho yk (cp_A po) yq yo := by
  have e0 : (2 : Int32) * nI t + cp_A ic (nI t).toNatClampNeg = nI (2 * t + ic t) := by
    rw [cp_rd ic (by omega), cp_2a]
  intro d
  induction d with
  | zero =>
    intro i yt hi h H
    refine pk_le 32 t (fun z => False.elim (by omega)) (fun _ => And.intro (vp_in_nI ht (by decide)) (pk_le (2 * t + ic t) (2 * t + i) (fun _ => H _ ?_) (fun z => False.elim (by omega)) e0 rfl))
    rw [show i = ic t from by omega] at h
    exact h
  | succ d ih =>
    intro i yt hi h H
    have hs := hso (2 * t + i)
    have e1 := cp_src so (m := 2 * t + i) (by omega)
    have i64 : vp_in (nI (2 * t + i)) 64 := vp_in_nI (by omega) (by decide)
    refine pk_le 32 t (fun z => False.elim (by omega)) (fun _ => And.intro (vp_in_nI ht (by decide)) (pk_le (2 * t + ic t) (2 * t + i) (fun z => False.elim (by omega)) (fun _ => And.intro i64 (And.intro i64 (And.intro (pk_in (so (2 * t + i)) 112 hs e1) (nm_r (e' := upd yt (so (2 * t + i)) 1) (by rw [e1, nI_clamp (by omega), cp_nb1]) (nm_r (nI_1 _) ?_))))) e0 rfl))
    refine ih (i + 1) _ (by omega) (cp_Rp_iff (cp_Rp_upd h) ?_) H
    intro o _
    constructor
    · rintro ((z | ⟨k, hk, z⟩) | z)
      · exact Or.inl z
      · exact Or.inr ⟨k, by omega, z⟩
      · exact Or.inr ⟨i, by omega, z.symm⟩
    · rintro (z | ⟨k, hk, z⟩)
      · exact Or.inl (Or.inl z)
      · by_cases e : k = i
        · subst e
          exact Or.inr z.symm
        · exact Or.inl (Or.inr ⟨k, by omega, z⟩)
theorem cy_ls (post : SY → Prop) {t : Nat} (ht : t < 32) (hi2 : ic t ≤ 2) (hso : ∀ k, so k < 112) {L S : Nat → Prop} {x : Int32} (hl : cp_Rp yl L 56) (hs : cp_Rp yt S 112)
    (H : ∀ yl' yt', cp_Rp yl' (fun j => L j ∨ j = t) 56 → cp_Rp yt' (fun o => S o ∨ cp_inT ic so t o) 112 → post (ys, yn, yw, nI pc, nI tip, cp_A ic, cp_A (cp_hf so), cp_A (cp_hm so), wi, cp_A oc, cp_A am, lk, cp_Bo sl, cp_A (cp_ys st), cp_A par, wk, cp_A cn, cp_A tx, od, yp, yl', yt', (upd ho t x), yk, cp_A po, yq, yo)) : wpY_list post (ys, yn, yw, nI pc, nI tip, cp_A ic, cp_A (cp_hf so), cp_A (cp_hm so), wi, cp_A oc, cp_A am, lk, cp_Bo sl, cp_A (cp_ys st), cp_A par, wk, cp_A cn, cp_A tx, od, yp, yl, yt, ho, yk, cp_A po, yq, yo) (nI t) x := by
  refine And.intro (vp_in_nI (by omega) (by decide)) (nm_r (e' := upd yl t 1) (by rw [nI_clamp (by omega), cp_nb1]) (And.intro (vp_in_nI (by omega) (by decide)) (nm_r (e' := upd ho t x) (by rw [nI_clamp (by omega)]) (nm_r (cp_2m t) (Exists.intro (ic t + 1) ?_)))))
  refine cy_ls18 post ht hi2 hso S (ic t) 0 yt (by omega) (cp_Rp_iff hs ?_) (fun yt' h => H _ _ (cp_Rp_upd hl) h)
  intro o _
  exact ⟨Or.inl, fun z => z.elim id (fun ⟨k, hk, _⟩ => absurd hk (Nat.not_lt_zero _))⟩
theorem cy_lc (post : SY → Prop) {b : Nat} (hb : b < 24) {L : Nat → Prop} {x : Int32} (hl : cp_Rp yl L 56)
    (H : ∀ yl', cp_Rp yl' (fun j => L j ∨ j = 32 + b) 56 → post (ys, yn, yw, nI pc, nI tip, cp_A ic, cp_A (cp_hf so), cp_A (cp_hm so), wi, cp_A oc, cp_A am, lk, cp_Bo sl, cp_A (cp_ys st), cp_A par, wk, cp_A cn, cp_A tx, od, yp, yl', yt, (upd ho (32 + b) x), yk, cp_A po, yq, yo)) : wpY_list post (ys, yn, yw, nI pc, nI tip, cp_A ic, cp_A (cp_hf so), cp_A (cp_hm so), wi, cp_A oc, cp_A am, lk, cp_Bo sl, cp_A (cp_ys st), cp_A par, wk, cp_A cn, cp_A tx, od, yp, yl, yt, ho, yk, cp_A po, yq, yo) (nI (32 + b)) x := by
  refine And.intro (vp_in_nI (by omega) (by decide)) (nm_r (e' := upd yl (32 + b) 1) (by rw [nI_clamp (by omega), cp_nb1]) (And.intro (vp_in_nI (by omega) (by decide)) (nm_r (e' := upd ho (32 + b) x) (by rw [nI_clamp (by omega)]) (nm_r (cp_2m _) (Exists.intro 1 ?_)))))
  exact pk_le 32 (32 + b) (fun _ => H _ (cp_Rp_upd hl)) (fun z => False.elim (by omega))
end
