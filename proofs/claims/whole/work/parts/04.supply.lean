/-! what lies unspent after a good chain: at most 50 a block -/
noncomputable def cp_V (am : Nat → Nat) (L S : Nat → Prop) : Nat := cp_sum (fun o => cp_iv (L (o / 2) ∧ ¬ S o) (am o)) 112
section
variable {ic so oc am hg par cn tx st : Nat → Nat} {sl : Nat → Bool} {wi lk : Nat → Int32}
theorem cp_V_c {L L' S S' : Nat → Prop} (hl : ∀ j, L j ↔ L' j) (hs : ∀ o, S o ↔ S' o) : cp_V am L S = cp_V am L' S' := by
  apply cp_sum_eq
  intro o _
  exact cp_iv_i (and_congr (hl _) (not_congr (hs _)))
theorem cp_V_ge {L S : Nat → Prop} {o : Nat} (ho : o < 112) (hl : L (o / 2)) (hs : ¬ S o) : am o ≤ cp_V am L S := by
  have a := cp_sum_1 (f := fun o => cp_iv (L (o / 2) ∧ ¬ S o) (am o)) 112 ho
  have b : cp_iv (L (o / 2) ∧ ¬ S o) (am o) = am o := cp_iv_t ⟨hl, hs⟩
  rw [b] at a
  exact a
theorem cp_V_sp {L S : Nat → Prop} {o : Nat} (ho : o < 112) (hl : L (o / 2)) (hs : ¬ S o) : cp_V am L (fun q => S q ∨ q = o) + am o = cp_V am L S := by
  have a := cp_sum_ch (f := fun q => cp_iv (L (q / 2) ∧ ¬ (S q ∨ q = o)) (am q)) (g := fun q => cp_iv (L (q / 2) ∧ ¬ S q) (am q)) 112 ho (by
    intro j _ hj
    exact cp_iv_i (and_congr Iff.rfl (not_congr ⟨fun z => z.elim id (fun z => absurd z hj), Or.inl⟩)))
  rw [cp_iv_t (p := L (o / 2) ∧ ¬ S o) ⟨hl, hs⟩, cp_iv_f (p := L (o / 2) ∧ ¬ (S o ∨ o = o)) (fun z => z.2 (Or.inr rfl))] at a
  exact a
theorem cp_V_ad {L S : Nat → Prop} (t : Nat) : cp_V am (fun j => L j ∨ j = t) S ≤ cp_V am L S + (am (2 * t) + am (2 * t + 1)) := by
  have a : cp_V am (fun j => L j ∨ j = t) S ≤ cp_sum (fun o => (cp_iv (L (o / 2) ∧ ¬ S o) (am o) + if o = 2 * t then am (2 * t) else 0) + if o = 2 * t + 1 then am (2 * t + 1) else 0) 112 := by
    apply cp_sum_le
    intro o _
    dsimp only
    by_cases e : o / 2 = t
    · have h1 := cp_iv_le ((L (o / 2) ∨ o / 2 = t) ∧ ¬ S o) (am o)
      by_cases z : o = 2 * t
      · rw [if_pos z, ← z]
        omega
      · have z' : o = 2 * t + 1 := by omega
        rw [if_pos z', ← z']
        omega
    · rw [cp_iv_i (p := (L (o / 2) ∨ o / 2 = t) ∧ ¬ S o) (q := L (o / 2) ∧ ¬ S o) (and_congr ⟨fun z => z.elim id (fun z => absurd z e), Or.inl⟩ Iff.rfl)]
      omega
  have b := cp_sum_pt (f := fun o => cp_iv (L (o / 2) ∧ ¬ S o) (am o) + if o = 2 * t then am (2 * t) else 0) (k := 2 * t + 1) (v := am (2 * t + 1)) 112
  have c := cp_sum_pt (f := fun o => cp_iv (L (o / 2) ∧ ¬ S o) (am o)) (k := 2 * t) (v := am (2 * t)) 112
  have d1 : (if 2 * t + 1 < 112 then am (2 * t + 1) else 0) ≤ am (2 * t + 1) := by
    split
    · exact Nat.le_refl _
    · exact Nat.zero_le _
  have d2 : (if 2 * t < 112 then am (2 * t) else 0) ≤ am (2 * t) := by
    split
    · exact Nat.le_refl _
    · exact Nat.zero_le _
  unfold cp_V
  unfold cp_V at a
  omega
theorem cp_gv_all (B : cp_RB ic so oc am hg par cn tx st sl wi lk) (t : Nat) : cp_gv oc am t = am (2 * t) + am (2 * t + 1) := by
  have a := cp_RB_ao B (2 * t)
  have b := cp_RB_ao B (2 * t + 1)
  rw [show 2 * t % 2 = 0 from by omega, show 2 * t / 2 = t from by omega] at a
  rw [show (2 * t + 1) % 2 = 1 from by omega, show (2 * t + 1) / 2 = t from by omega] at b
  unfold cp_gv
  by_cases h0 : 0 < oc t
  · rw [if_pos h0]
    by_cases h1 : 1 < oc t
    · rw [if_pos h1]
    · rw [if_neg h1]
      omega
  · rw [if_neg h0, if_neg (by omega)]
    omega
theorem cp_V_tx (B : cp_RB ic so oc am hg par cn tx st sl wi lk) {L S : Nat → Prop} {t h : Nat} (H : cp_FT ic so oc am hg sl wi lk L S t h) : cp_V am (fun j => L j ∨ j = t) (fun o => S o ∨ cp_inT ic so t o) + cp_sd ic so am t ≤ cp_V am L S + cp_gv oc am t := by
  obtain ⟨h1, h2, h3, h4, h5, h6, h7⟩ := H
  have c := cp_RB_ic B t
  have a := cp_V_ad (am := am) (L := L) (S := fun o => S o ∨ cp_inT ic so t o) t
  rw [← cp_gv_all B t] at a
  have b : cp_V am L (fun o => S o ∨ cp_inT ic so t o) + cp_sd ic so am t = cp_V am L S := by
    obtain ⟨_, a2, a3, _, _⟩ := h6 0 (by omega)
    rw [Nat.add_zero] at a2 a3
    have e1 := cp_V_sp (am := am) (cp_RB_so B (2 * t)) a2 a3
    by_cases z : 1 < ic t
    · obtain ⟨_, b2, b3, _, _⟩ := h6 1 z
      have e2 := cp_V_sp (am := am) (L := L) (S := fun q => S q ∨ q = so (2 * t)) (cp_RB_so B (2 * t + 1)) b2 (fun y => y.elim b3 (fun y => h5 ⟨by omega, y.symm⟩))
      have e3 : cp_V am L (fun o => S o ∨ cp_inT ic so t o) = cp_V am L (fun q => (S q ∨ q = so (2 * t)) ∨ q = so (2 * t + 1)) := by
        apply cp_V_c (fun j => Iff.rfl)
        intro o
        constructor
        · rintro (y | ⟨k, hk, y⟩)
          · exact Or.inl (Or.inl y)
          · by_cases k0 : k = 0
            · rw [k0, Nat.add_zero] at y
              exact Or.inl (Or.inr y.symm)
            · rw [show k = 1 from by omega] at y
              exact Or.inr y.symm
        · rintro ((y | y) | y)
          · exact Or.inl y
          · exact Or.inr ⟨0, by omega, by rw [Nat.add_zero]; exact y.symm⟩
          · exact Or.inr ⟨1, z, y.symm⟩
      unfold cp_sd
      rw [e3, if_pos (by omega), if_pos z]
      omega
    · have e3 : cp_V am L (fun o => S o ∨ cp_inT ic so t o) = cp_V am L (fun q => S q ∨ q = so (2 * t)) := by
        apply cp_V_c (fun j => Iff.rfl)
        intro o
        constructor
        · rintro (y | ⟨k, hk, y⟩)
          · exact Or.inl y
          · rw [show k = 0 from by omega, Nat.add_zero] at y
            exact Or.inr y.symm
        · rintro (y | y)
          · exact Or.inl y
          · exact Or.inr ⟨0, by omega, by rw [Nat.add_zero]; exact y.symm⟩
      unfold cp_sd
      rw [e3, if_pos (by omega), if_neg z]
      omega
  omega
theorem cp_V_blk (B : cp_RB ic so oc am hg par cn tx st sl wi lk) {b : Nat} : ∀ n, cp_CKn ic so oc am hg par cn tx sl wi lk b n → cp_V am (cp_Lc hg par cn tx b n) (cp_Sc ic so hg par cn tx b n) + cp_fs ic so oc am tx b n ≤ cp_V am (cp_LS hg par cn tx (par b)) (cp_SP ic so hg par cn tx (par b)) := by
  intro n
  induction n with
  | zero =>
    intro _
    have e : cp_V am (cp_Lc hg par cn tx b 0) (cp_Sc ic so hg par cn tx b 0) = cp_V am (cp_LS hg par cn tx (par b)) (cp_SP ic so hg par cn tx (par b)) := by
      apply cp_V_c
      · intro j
        exact ⟨fun z => z.elim id (fun ⟨q, hq, _⟩ => absurd hq (Nat.not_lt_zero _)), Or.inl⟩
      · intro j
        exact ⟨fun z => z.elim id (fun ⟨q, hq, _⟩ => absurd hq (Nat.not_lt_zero _)), Or.inl⟩
    rw [e]
    exact Nat.le_refl _
  | succ n ih =>
    intro H
    have i1 := ih (fun i hi => H i (by omega))
    have i2 := H n (by omega)
    have i3 := cp_V_tx B i2
    have i4 := i2.2.2.2.2.2.2
    have e : cp_V am (cp_Lc hg par cn tx b (n + 1)) (cp_Sc ic so hg par cn tx b (n + 1)) = cp_V am (fun j => cp_Lc hg par cn tx b n j ∨ j = tx (3 * b + n)) (fun o => cp_Sc ic so hg par cn tx b n o ∨ cp_inT ic so (tx (3 * b + n)) o) := by
      apply cp_V_c
      · intro j
        constructor
        · rintro (z | ⟨q, hq, z⟩)
          · exact Or.inl (Or.inl z)
          · by_cases y : q = n
            · subst y
              exact Or.inr z.symm
            · exact Or.inl (Or.inr ⟨q, by omega, z⟩)
        · rintro ((z | ⟨q, hq, z⟩) | z)
          · exact Or.inl z
          · exact Or.inr ⟨q, by omega, z⟩
          · exact Or.inr ⟨n, by omega, z.symm⟩
      · intro j
        constructor
        · rintro (z | ⟨q, hq, z⟩)
          · exact Or.inl (Or.inl z)
          · by_cases y : q = n
            · subst y
              exact Or.inr z
            · exact Or.inl (Or.inr ⟨q, by omega, z⟩)
        · rintro ((z | ⟨q, hq, z⟩) | z)
          · exact Or.inl z
          · exact Or.inr ⟨q, by omega, z⟩
          · exact Or.inr ⟨n, by omega, z⟩
    rw [e]
    have s : cp_fs ic so oc am tx b (n + 1) = cp_fs ic so oc am tx b n + (cp_sd ic so am (tx (3 * b + n)) - cp_gv oc am (tx (3 * b + n))) := rfl
    rw [s]
    omega
theorem cp_am_odd (B : cp_RB ic so oc am hg par cn tx st sl wi lk) (b : Nat) : am (64 + 2 * b + 1) = 0 := by
  have a := cp_RB_ao B (64 + 2 * b + 1)
  have c := cp_RB_o1 B b
  rw [show (64 + 2 * b + 1) % 2 = 1 from by omega, show (64 + 2 * b + 1) / 2 = 32 + b from by omega] at a
  omega
theorem cp_V_CK (B : cp_RB ic so oc am hg par cn tx st sl wi lk) (T : cp_Tr hg par st) {b : Nat} (hb : b < 24) (cb : st b = 3) (nb : b ≠ 0) (H : cp_CK ic so oc am hg par cn tx sl wi lk b) :
    cp_V am (cp_LS hg par cn tx b) (cp_SP ic so hg par cn tx b) ≤ cp_V am (cp_LS hg par cn tx (par b)) (cp_SP ic so hg par cn tx (par b)) + 50 := by
  have a := cp_V_blk B (cn b) H.1
  have c := cp_V_ad (am := am) (L := cp_Lc hg par cn tx b (cn b)) (S := cp_Sc ic so hg par cn tx b (cn b)) (32 + b)
  have d := cp_am_odd B b
  rw [show 2 * (32 + b) = 64 + 2 * b from by omega] at c
  have e : cp_V am (cp_LS hg par cn tx b) (cp_SP ic so hg par cn tx b) = cp_V am (fun j => cp_Lc hg par cn tx b (cn b) j ∨ j = 32 + b) (cp_Sc ic so hg par cn tx b (cn b)) := by
    apply cp_V_c
    · intro j
      rw [cp_LS_s T hb cb nb j]
      constructor
      · rintro (z | z | z)
        · exact Or.inl (Or.inl z)
        · exact Or.inr z
        · exact Or.inl (Or.inr z)
      · rintro ((z | z) | z)
        · exact Or.inl z
        · exact Or.inr (Or.inr z)
        · exact Or.inr (Or.inl z)
    · intro j
      rw [cp_SP_s T hb cb nb j]
      exact Iff.rfl
  rw [e]
  have f := H.2
  omega
end
/-! the tree of connected blocks, the tip, the pool -/
def cp_nc (st : Nat → Nat) : Nat := cp_sum (fun b => if st b = 3 then 1 else 0) 24
def cp_PO (ic so oc am st : Nat → Nat) (sl : Nat → Bool) (t : Nat) : Prop := t < 32 ∧ sl t = true ∧ (∀ k, k < ic t → cp_fz st sl (so (2 * t + k) / 2)) ∧ cp_gv oc am t ≤ cp_sd ic so am t ∧ cp_sd ic so am t ≤ 2400
def cp_RT (ic : Nat → Nat) (so : Nat → Nat) (oc : Nat → Nat) (am : Nat → Nat) (hg : Nat → Nat) (par : Nat → Nat) (cn : Nat → Nat) (tx : Nat → Nat) (st : Nat → Nat) (sl : Nat → Bool) (wi : Nat → Int32) (lk : Nat → Int32) (wk bw : Nat → Int32) (gd : Nat → Bool) : Prop :=
  cp_Tr hg par st ∧ (cn 0 = 0 ∧ am 64 = 50 ∧ gd 0 = true ∧ bw 0 = 0 ∧ wk 0 = 0) ∧
  (∀ b, b < 24 → st b = 3 → b ≠ 0 → bw b = bw (par b) + wk b ∧ (gd b = true ↔ gd (par b) = true ∧ cp_CK ic so oc am hg par cn tx sl wi lk b)) ∧
  (∀ b, b < 24 → gd b = true → st b = 3) ∧ (∀ b, b < 24 → st b = 3 → hg b < cp_nc st)
section
variable {ic so oc am hg par cn tx st : Nat → Nat} {sl : Nat → Bool} {wi lk wk bw : Nat → Int32} {gd : Nat → Bool}
variable {ic' so' oc' am' hg' par' cn' tx' st' : Nat → Nat} {sl' : Nat → Bool} {wi' lk' wk' bw' : Nat → Int32} {gd' : Nat → Bool}
theorem cp_nc_le (st : Nat → Nat) : cp_nc st ≤ 24 := by
  have a := cp_sum_le (f := fun b => if st b = 3 then 1 else 0) (g := fun _ => 1) 24 (by
    intro j _
    split <;> omega)
  exact Nat.le_trans a (by decide)
theorem cp_sum_lt {f g : Nat → Nat} {k : Nat} : ∀ n : Nat, (∀ j, j < n → f j ≤ g j) → k < n → f k < g k → cp_sum f n < cp_sum g n
  | 0, _, h, _ => by omega
  | n + 1, h, hk, e => by
    show cp_sum f n + f n < cp_sum g n + g n
    by_cases z : k = n
    · subst z
      have := cp_sum_le (f := f) (g := g) k (fun j hj => h j (by omega))
      omega
    · have := cp_sum_lt (f := f) (g := g) (k := k) n (fun j hj => h j (by omega)) (by omega) e
      have := h n (by omega)
      omega
theorem cp_nc_mono (h : ∀ b, b < 24 → st b = 3 → st' b = 3) : cp_nc st ≤ cp_nc st' := by
  apply cp_sum_le
  intro j hj
  by_cases e : st j = 3
  · rw [if_pos e, if_pos (h j hj e)]
    exact Nat.le_refl _
  · rw [if_neg e]
    exact Nat.zero_le _
theorem cp_nc_new {k : Nat} (h : ∀ b, b < 24 → st b = 3 → st' b = 3) (hk : k < 24) (a : st k ≠ 3) (c : st' k = 3) : cp_nc st < cp_nc st' := by
  apply cp_sum_lt (k := k) 24 ?_ hk
  · skip
    rw [if_neg a, if_pos c]
    exact Nat.zero_lt_one
  · intro j hj
    by_cases e : st j = 3
    · rw [if_pos e, if_pos (h j hj e)]
      exact Nat.le_refl _
    · rw [if_neg e]
      exact Nat.zero_le _
theorem cp_RT_hg (R : cp_RT ic so oc am hg par cn tx st sl wi lk wk bw gd) {b : Nat} (hb : b < 24) (cb : st b = 3) : hg b < 24 := Nat.lt_of_lt_of_le (R.2.2.2.2 b hb cb) (cp_nc_le st)
theorem cp_V_0 (B : cp_RB ic so oc am hg par cn tx st sl wi lk) (R : cp_RT ic so oc am hg par cn tx st sl wi lk wk bw gd) : cp_V am (cp_LS hg par cn tx 0) (cp_SP ic so hg par cn tx 0) ≤ 50 := by
  have a : cp_V am (fun j => False ∨ j = 32) (cp_SP ic so hg par cn tx 0) ≤ cp_V am (fun _ => False) (cp_SP ic so hg par cn tx 0) + (am 64 + am 65) := cp_V_ad (am := am) (L := fun _ => False) (S := cp_SP ic so hg par cn tx 0) 32
  have b : am 65 = 0 := cp_am_odd B 0
  have z : cp_V am (fun _ => False) (cp_SP ic so hg par cn tx 0) = 0 := by
    have := cp_sum_eq (f := fun o => cp_iv (False ∧ ¬ cp_SP ic so hg par cn tx 0 o) (am o)) (g := fun _ => 0) 112 (fun j _ => cp_iv_f (fun y => y.1))
    unfold cp_V
    rw [this]
    decide
  have e : cp_V am (cp_LS hg par cn tx 0) (cp_SP ic so hg par cn tx 0) = cp_V am (fun j => False ∨ j = 32) (cp_SP ic so hg par cn tx 0) := by
    apply cp_V_c
    · intro j
      rw [cp_LS_0 R.1 j]
      constructor
      · rintro (y | ⟨i, hi, y⟩)
        · exact Or.inr y
        · rw [R.2.1.1] at hi
          exact absurd hi (Nat.not_lt_zero _)
      · rintro (y | y)
        · exact y.elim
        · exact Or.inl y
    · intro o
      exact Iff.rfl
  have m := R.2.1.2.1
  rw [e]
  rw [z] at a
  omega
theorem cp_V_good (B : cp_RB ic so oc am hg par cn tx st sl wi lk) (R : cp_RT ic so oc am hg par cn tx st sl wi lk wk bw gd) : ∀ (n b : Nat), b < 24 → st b = 3 → hg b = n → gd b = true → cp_V am (cp_LS hg par cn tx b) (cp_SP ic so hg par cn tx b) ≤ 50 * (n + 1) := by
  intro n
  induction n with
  | zero =>
    intro b hb cb hn _
    rw [cp_hg0 R.1 hb cb hn]
    exact cp_V_0 B R
  | succ n ih =>
    intro b hb cb hn g
    have nb : b ≠ 0 := by
      intro e
      rw [e, R.1.2.1] at hn
      omega
    obtain ⟨h1, h2, h3⟩ := R.1.2.2 b hb cb nb
    obtain ⟨g1, g2⟩ := (R.2.2.1 b hb cb nb).2.mp g
    have a := ih (par b) h1 h2 (by omega) g1
    have c := cp_V_CK B R.1 hb cb nb g2
    omega
theorem cp_V_1200 (B : cp_RB ic so oc am hg par cn tx st sl wi lk) (R : cp_RT ic so oc am hg par cn tx st sl wi lk wk bw gd) {b : Nat} (hb : b < 24) (g : gd b = true) : cp_V am (cp_LS hg par cn tx b) (cp_SP ic so hg par cn tx b) ≤ 1200 := by
  have c := R.2.2.2.1 b hb g
  have a := cp_V_good B R (hg b) b hb c rfl g
  have d := cp_RT_hg R hb c
  omega
theorem cp_RT_fr (B : cp_RB ic so oc am hg par cn tx st sl wi lk) (R : cp_RT ic so oc am hg par cn tx st sl wi lk wk bw gd) (f : cp_Fr ic so oc am hg par cn tx st sl wi lk ic' so' oc' am' hg' par' cn' tx' st' sl' wi' lk')
    (hw : ∀ b, b < 24 → st b = 3 → wk' b = wk b ∧ bw' b = bw b ∧ gd' b = gd b)
    (hn : ∀ b, b < 24 → st' b = 3 → st b ≠ 3 → par' b < 24 ∧ st (par' b) = 3 ∧ hg' b = hg (par' b) + 1 ∧ bw' b = bw (par' b) + wk' b ∧ (gd' b = true ↔ gd (par' b) = true ∧ cp_CK ic' so' oc' am' hg' par' cn' tx' sl' wi' lk' b))
    (hg1 : ∀ b, b < 24 → gd' b = true → st' b = 3) : cp_RT ic' so' oc' am' hg' par' cn' tx' st' sl' wi' lk' wk' bw' gd' := by
  obtain ⟨T, ⟨r1, r2, r3, r4, r5⟩, r6, r7, r8⟩ := R
  have T' : cp_Tr hg' par' st' := by
    obtain ⟨f1, f2, f3, f4, f5⟩ := f.2.1 0 (by decide) T.1
    refine ⟨f1, by rw [f4]; exact T.2.1, fun b hb cb nb => ?_⟩
    by_cases c : st b = 3
    · obtain ⟨h1, h2, h3⟩ := T.2.2 b hb c nb
      obtain ⟨_, p2, _, p4, _⟩ := f.2.1 b hb c
      obtain ⟨q1, _, _, q4, _⟩ := f.2.1 (par b) h1 h2
      rw [p2, p4, q4]
      exact ⟨h1, q1, h3⟩
    · obtain ⟨h1, h2, h3, _⟩ := hn b hb cb c
      obtain ⟨q1, _, _, q4, _⟩ := f.2.1 (par' b) h1 h2
      exact ⟨h1, q1, by rw [q4]; exact h3⟩
  refine ⟨T', ⟨?_, ?_, ?_, ?_, ?_⟩, ?_, hg1, ?_⟩
  · rw [(f.2.1 0 (by decide) T.1).2.2.1]
    exact r1
  · have := ((f.2.2 32 (Or.inr ⟨by decide, by decide, T.1⟩)).2 0 (by decide)).1
    rw [show 2 * 32 + 0 = 64 from rfl] at this
    rw [this]
    exact r2
  · rw [(hw 0 (by decide) T.1).2.2]
    exact r3
  · rw [(hw 0 (by decide) T.1).2.1]
    exact r4
  · rw [(hw 0 (by decide) T.1).1]
    exact r5
  · intro b hb cb nb
    by_cases c : st b = 3
    · obtain ⟨h1, h2, h3⟩ := T.2.2 b hb c nb
      obtain ⟨_, p2, _, p4, _⟩ := f.2.1 b hb c
      obtain ⟨w1, w2, w3⟩ := hw b hb c
      obtain ⟨x1, x2, x3⟩ := hw (par b) h1 h2
      rw [p2, w1, w2, w3, x2, x3, cp_CK_fr B T f hb c nb]
      exact r6 b hb c nb
    · obtain ⟨h1, h2, h3, h4, h5⟩ := hn b hb cb c
      obtain ⟨x1, x2, x3⟩ := hw (par' b) h1 h2
      rw [x2, x3]
      exact ⟨h4, h5⟩
  · intro b hb cb
    have mono : cp_nc st ≤ cp_nc st' := cp_nc_mono (fun b hb cb => (f.2.1 b hb cb).1)
    by_cases c : st b = 3
    · rw [(f.2.1 b hb c).2.2.2.1]
      exact Nat.lt_of_lt_of_le (r8 b hb c) mono
    · obtain ⟨h1, h2, h3, _⟩ := hn b hb cb c
      have a := r8 (par' b) h1 h2
      have d := cp_nc_new (fun b hb cb => (f.2.1 b hb cb).1) hb c cb
      omega
theorem cp_PO_fr (B : cp_RB ic so oc am hg par cn tx st sl wi lk) (f : cp_Fr ic so oc am hg par cn tx st sl wi lk ic' so' oc' am' hg' par' cn' tx' st' sl' wi' lk') {t : Nat} (h : cp_PO ic so oc am st sl t) : cp_PO ic' so' oc' am' st' sl' t := by
  obtain ⟨h1, h2, h3, h4, h5⟩ := h
  obtain ⟨e1, e2, e4⟩ := f.1 t h1 h2
  have c := cp_RB_ic B t
  refine ⟨h1, e1, ?_, ?_, ?_⟩
  · intro k hk
    rw [e2] at hk
    rw [(e4 k (by omega)).1]
    rcases h3 k hk with z | z
    · exact Or.inl ⟨z.1, (f.1 _ z.1 z.2).1⟩
    · exact Or.inr ⟨z.1, z.2.1, (f.2.1 _ (by omega) z.2.2).1⟩
  · rw [cp_gv_fr f h1 h2, cp_sd_fr B f h1 h2 h3]
    exact h4
  · rw [cp_sd_fr B f h1 h2 h3]
    exact h5
/-- a transaction is on a good chain once -/
theorem cp_once (B : cp_RB ic so oc am hg par cn tx st sl wi lk) (R : cp_RT ic so oc am hg par cn tx st sl wi lk wk bw gd) : ∀ (n b : Nat), b < 24 → gd b = true → hg b = n → ∀ i k j, i < k → k ≤ n → cp_inB cn tx (cp_pt par hg b i) j → ¬ cp_inB cn tx (cp_pt par hg b k) j := by
  intro n
  induction n with
  | zero =>
    intro b hb g hn i k j hik hk
    omega
  | succ n ih =>
    intro b hb g hn i k j hik hk hi hj
    have cb := R.2.2.2.1 b hb g
    have T := R.1
    have nb : b ≠ 0 := by
      intro e
      rw [e, T.2.1] at hn
      omega
    obtain ⟨h1, h2, h3⟩ := T.2.2 b hb cb nb
    obtain ⟨g1, g2⟩ := (R.2.2.1 b hb cb nb).2.mp g
    by_cases e : k = hg b
    · rw [e, cp_pt_top] at hj
      have hL : cp_LS hg par cn tx (par b) j := ⟨i, by omega, by rw [← cp_pt_par T hb cb (by omega)]; exact hi⟩
      rcases hj with hj | ⟨q, hq, hj⟩
      · rcases hi with hi | ⟨q, hq, hi⟩
        · have ei : cp_pt par hg b i = b := by omega
          have := cp_pt_hg T hb cb (i := i) (by omega)
          rw [ei] at this
          omega
        · have := cp_RB_tx B (3 * cp_pt par hg b i + q)
          omega
      · have := (g2.1 q hq).2.2.2.1
        rw [hj] at this
        exact this (Or.inl hL)
    · rw [cp_pt_par T hb cb (by omega)] at hi hj
      exact ih (par b) h1 g1 (by omega) i k j hik (by omega) hi hj
end
