/-! ranges; what is frozen; what a change of the rest leaves alone -/
def cp_RB (ic : Nat → Nat) (so : Nat → Nat) (oc : Nat → Nat) (am : Nat → Nat) (hg : Nat → Nat) (par : Nat → Nat) (cn : Nat → Nat) (tx : Nat → Nat) (st : Nat → Nat) (sl : Nat → Bool) (wi : Nat → Int32) (lk : Nat → Int32) : Prop :=
  (∀ t, ic t ≤ 2) ∧ (∀ k, so k < 112) ∧ (∀ j, oc j ≤ 2) ∧ (∀ o, am o ≤ 10000) ∧ (∀ b, st b ≤ 3) ∧ (∀ b, par b < 24) ∧ (∀ b, cn b ≤ 3) ∧ (∀ k, tx k < 32) ∧
  (∀ o, 0 < am o ↔ o % 2 < oc (o / 2)) ∧ (∀ o, o < 64 → am o ≤ 1000) ∧ (∀ b i, i < cn b → sl (tx (3 * b + i)) = true) ∧ (∀ b, oc (32 + b) ≤ 1) ∧ (∀ b, 1 ≤ st b → oc (32 + b) = 1)
def cp_Fr (ic : Nat → Nat) (so : Nat → Nat) (oc : Nat → Nat) (am : Nat → Nat) (hg : Nat → Nat) (par : Nat → Nat) (cn : Nat → Nat) (tx : Nat → Nat) (st : Nat → Nat) (sl : Nat → Bool) (wi : Nat → Int32) (lk : Nat → Int32) (ic' : Nat → Nat) (so' : Nat → Nat) (oc' : Nat → Nat) (am' : Nat → Nat) (hg' : Nat → Nat) (par' : Nat → Nat) (cn' : Nat → Nat) (tx' : Nat → Nat) (st' : Nat → Nat) (sl' : Nat → Bool) (wi' : Nat → Int32) (lk' : Nat → Int32) : Prop :=
  (∀ t, t < 32 → sl t = true → sl' t = true ∧ ic' t = ic t ∧ ∀ k, k < 2 → so' (2 * t + k) = so (2 * t + k) ∧ wi' (2 * t + k) = wi (2 * t + k)) ∧
  (∀ b, b < 24 → st b = 3 → st' b = 3 ∧ par' b = par b ∧ cn' b = cn b ∧ hg' b = hg b ∧ ∀ i, i < 3 → tx' (3 * b + i) = tx (3 * b + i)) ∧
  (∀ j, cp_fz st sl j → oc' j = oc j ∧ ∀ i, i < 2 → am' (2 * j + i) = am (2 * j + i) ∧ lk' (2 * j + i) = lk (2 * j + i))
section
variable {ic so oc am hg par cn tx st : Nat → Nat} {sl : Nat → Bool} {wi lk : Nat → Int32}
variable {ic' so' oc' am' hg' par' cn' tx' st' : Nat → Nat} {sl' : Nat → Bool} {wi' lk' : Nat → Int32}
theorem cp_RB_ic (B : cp_RB ic so oc am hg par cn tx st sl wi lk) (t : Nat) : ic t ≤ 2 := B.1 t
theorem cp_RB_so (B : cp_RB ic so oc am hg par cn tx st sl wi lk) (k : Nat) : so k < 112 := B.2.1 k
theorem cp_RB_oc (B : cp_RB ic so oc am hg par cn tx st sl wi lk) (j : Nat) : oc j ≤ 2 := B.2.2.1 j
theorem cp_RB_am (B : cp_RB ic so oc am hg par cn tx st sl wi lk) (o : Nat) : am o ≤ 10000 := B.2.2.2.1 o
theorem cp_RB_st (B : cp_RB ic so oc am hg par cn tx st sl wi lk) (b : Nat) : st b ≤ 3 := B.2.2.2.2.1 b
theorem cp_RB_par (B : cp_RB ic so oc am hg par cn tx st sl wi lk) (b : Nat) : par b < 24 := B.2.2.2.2.2.1 b
theorem cp_RB_cn (B : cp_RB ic so oc am hg par cn tx st sl wi lk) (b : Nat) : cn b ≤ 3 := B.2.2.2.2.2.2.1 b
theorem cp_RB_tx (B : cp_RB ic so oc am hg par cn tx st sl wi lk) (k : Nat) : tx k < 32 := B.2.2.2.2.2.2.2.1 k
theorem cp_RB_ao (B : cp_RB ic so oc am hg par cn tx st sl wi lk) (o : Nat) : 0 < am o ↔ o % 2 < oc (o / 2) := B.2.2.2.2.2.2.2.2.1 o
theorem cp_RB_a1 (B : cp_RB ic so oc am hg par cn tx st sl wi lk) {o : Nat} (h : o < 64) : am o ≤ 1000 := B.2.2.2.2.2.2.2.2.2.1 o h
theorem cp_RB_sl (B : cp_RB ic so oc am hg par cn tx st sl wi lk) {b i : Nat} (h : i < cn b) : sl (tx (3 * b + i)) = true := B.2.2.2.2.2.2.2.2.2.2.1 b i h
theorem cp_RB_o1 (B : cp_RB ic so oc am hg par cn tx st sl wi lk) (b : Nat) : oc (32 + b) ≤ 1 := B.2.2.2.2.2.2.2.2.2.2.2.1 b
theorem cp_RB_o2 (B : cp_RB ic so oc am hg par cn tx st sl wi lk) {b : Nat} (h : 1 ≤ st b) : oc (32 + b) = 1 := B.2.2.2.2.2.2.2.2.2.2.2.2 b h
theorem cp_sd_m {t : Nat} {L : Nat → Prop} (hi : ic t ≤ 2) (e2 : ic' t = ic t) (e4 : ∀ k, k < 2 → so' (2 * t + k) = so (2 * t + k)) (hL : ∀ k, k < ic t → L (so (2 * t + k) / 2))
    (e5 : ∀ j, L j → ∀ i, i < 2 → am' (2 * j + i) = am (2 * j + i)) : cp_sd ic' so' am' t = cp_sd ic so am t := by
  have key : ∀ k, k < ic t → am' (so' (2 * t + k)) = am (so (2 * t + k)) := by
    intro k hk
    have a := e5 _ (hL k hk) (so (2 * t + k) % 2) (Nat.mod_lt _ (by decide))
    rw [Nat.div_add_mod] at a
    rw [e4 k (by omega)]
    exact a
  unfold cp_sd
  rw [e2]
  by_cases h0 : 0 < ic t
  · rw [if_pos h0, if_pos h0]
    have k0 := key 0 h0
    rw [Nat.add_zero] at k0
    rw [k0]
    by_cases h1 : 1 < ic t
    · rw [if_pos h1, if_pos h1, key 1 h1]
    · rw [if_neg h1, if_neg h1]
  · rw [if_neg h0, if_neg h0, if_neg (by omega), if_neg (by omega)]
theorem cp_gv_m {t : Nat} (e3 : oc' t = oc t) (e6 : ∀ i, i < 2 → am' (2 * t + i) = am (2 * t + i)) : cp_gv oc' am' t = cp_gv oc am t := by
  unfold cp_gv
  have a := e6 0 (by decide)
  have b := e6 1 (by decide)
  rw [Nat.add_zero] at a
  rw [e3, a, b]
theorem cp_FT_m {t h : Nat} {L S : Nat → Prop} (e1 : sl t = true → sl' t = true) (hi : ic t ≤ 2) (e2 : ic' t = ic t) (e3 : oc' t = oc t)
    (e4 : ∀ k, k < 2 → so' (2 * t + k) = so (2 * t + k) ∧ wi' (2 * t + k) = wi (2 * t + k))
    (e5 : ∀ j, L j → oc' j = oc j ∧ (∀ i, i < 2 → am' (2 * j + i) = am (2 * j + i) ∧ lk' (2 * j + i) = lk (2 * j + i)) ∧ (32 ≤ j → hg' (j - 32) = hg (j - 32)))
    (e6 : ∀ i, i < 2 → am' (2 * t + i) = am (2 * t + i)) (H : cp_FT ic so oc am hg sl wi lk L S t h) : cp_FT ic' so' oc' am' hg' sl' wi' lk' L S t h := by
  obtain ⟨h1, h2, h3, h4, h5, h6, h7⟩ := H
  have s0 := (e4 0 (by decide)).1
  rw [Nat.add_zero] at s0
  refine ⟨e1 h1, by rw [e2]; exact h2, by rw [e3]; exact h3, h4, ?_, ?_, ?_⟩
  · rw [e2, s0, (e4 1 (by decide)).1]
    exact h5
  · intro k hk
    rw [e2] at hk
    obtain ⟨a1, a2, a3, a4, a5⟩ := h6 k hk
    obtain ⟨f1, f2, f3⟩ := e5 _ a2
    have f2' := (f2 (so (2 * t + k) % 2) (Nat.mod_lt _ (by decide))).2
    rw [Nat.div_add_mod] at f2'
    obtain ⟨g1, g2⟩ := e4 k (by omega)
    unfold cp_IO
    rw [g1, g2, f1, f2']
    refine ⟨a1, a2, a3, ?_, a5⟩
    by_cases z : so (2 * t + k) / 2 < 32
    · exact Or.inl z
    · rw [f3 (by omega)]
      exact a4
  · rw [cp_gv_m e3 e6, cp_sd_m hi e2 (fun k hk => (e4 k hk).1) (fun k hk => (h6 k hk).2.1) (fun j hj i hi => ((e5 j hj).2.1 i hi).1)]
    exact h7
theorem cp_pt_fr (T : cp_Tr hg par st) (f : cp_Fr ic so oc am hg par cn tx st sl wi lk ic' so' oc' am' hg' par' cn' tx' st' sl' wi' lk') : ∀ (n b : Nat), b < 24 → st b = 3 → hg b = n → ∀ i, i ≤ n → cp_pt par' hg' b i = cp_pt par hg b i := by
  intro n
  induction n with
  | zero =>
    intro b hb cb hn i hi
    have e := (f.2.1 b hb cb).2.2.2.1
    unfold cp_pt
    rw [e, hn, show 0 - i = 0 from by omega]
    rfl
  | succ n ih =>
    intro b hb cb hn i hi
    have nb : b ≠ 0 := by
      intro e
      rw [e, T.2.1] at hn
      omega
    obtain ⟨h1, h2, h3⟩ := T.2.2 b hb cb nb
    obtain ⟨_, p2, _, p4, _⟩ := f.2.1 b hb cb
    obtain ⟨_, _, _, q4, _⟩ := f.2.1 (par b) h1 h2
    by_cases ei : i = hg b
    · rw [ei, cp_pt_top]
      rw [← p4]
      exact cp_pt_top b
    · rw [cp_pt_par T hb cb (by omega), ← ih (par b) h1 h2 (by omega) i (by omega)]
      unfold cp_pt
      rw [p4, q4, show hg b - i = (hg (par b) - i) + 1 from by omega]
      show cp_an par' _ (par' b) = _
      rw [p2]
theorem cp_inB_fr (B : cp_RB ic so oc am hg par cn tx st sl wi lk) (f : cp_Fr ic so oc am hg par cn tx st sl wi lk ic' so' oc' am' hg' par' cn' tx' st' sl' wi' lk') {b : Nat} (hb : b < 24) (cb : st b = 3) (j : Nat) : cp_inB cn' tx' b j ↔ cp_inB cn tx b j := by
  obtain ⟨_, _, p3, _, p5⟩ := f.2.1 b hb cb
  have c := cp_RB_cn B b
  unfold cp_inB
  rw [p3]
  constructor
  · rintro (h | ⟨i, hi, h⟩)
    · exact Or.inl h
    · exact Or.inr ⟨i, hi, by rw [← p5 i (by omega)]; exact h⟩
  · rintro (h | ⟨i, hi, h⟩)
    · exact Or.inl h
    · exact Or.inr ⟨i, hi, by rw [p5 i (by omega)]; exact h⟩
theorem cp_inT_fr (B : cp_RB ic so oc am hg par cn tx st sl wi lk) (f : cp_Fr ic so oc am hg par cn tx st sl wi lk ic' so' oc' am' hg' par' cn' tx' st' sl' wi' lk') {t : Nat} (ht : t < 32) (s : sl t = true) (o : Nat) : cp_inT ic' so' t o ↔ cp_inT ic so t o := by
  obtain ⟨_, e2, e3⟩ := f.1 t ht s
  have c := cp_RB_ic B t
  unfold cp_inT
  rw [e2]
  constructor
  · rintro ⟨k, hk, h⟩
    exact ⟨k, hk, by rw [← (e3 k (by omega)).1]; exact h⟩
  · rintro ⟨k, hk, h⟩
    exact ⟨k, hk, by rw [(e3 k (by omega)).1]; exact h⟩
theorem cp_inS_fr (B : cp_RB ic so oc am hg par cn tx st sl wi lk) (f : cp_Fr ic so oc am hg par cn tx st sl wi lk ic' so' oc' am' hg' par' cn' tx' st' sl' wi' lk') {b : Nat} (hb : b < 24) (cb : st b = 3) (o : Nat) : cp_inS ic' so' cn' tx' b o ↔ cp_inS ic so cn tx b o := by
  obtain ⟨_, _, p3, _, p5⟩ := f.2.1 b hb cb
  have c := cp_RB_cn B b
  unfold cp_inS
  rw [p3]
  constructor
  · rintro ⟨i, hi, h⟩
    refine ⟨i, hi, ?_⟩
    rw [p5 i (by omega)] at h
    exact (cp_inT_fr B f (cp_RB_tx B _) (cp_RB_sl B hi) o).mp h
  · rintro ⟨i, hi, h⟩
    refine ⟨i, hi, ?_⟩
    rw [p5 i (by omega)]
    exact (cp_inT_fr B f (cp_RB_tx B _) (cp_RB_sl B hi) o).mpr h
theorem cp_LS_fr (B : cp_RB ic so oc am hg par cn tx st sl wi lk) (T : cp_Tr hg par st) (f : cp_Fr ic so oc am hg par cn tx st sl wi lk ic' so' oc' am' hg' par' cn' tx' st' sl' wi' lk') {b : Nat} (hb : b < 24) (cb : st b = 3) (j : Nat) : cp_LS hg' par' cn' tx' b j ↔ cp_LS hg par cn tx b j := by
  have e := (f.2.1 b hb cb).2.2.2.1
  unfold cp_LS
  rw [e]
  constructor
  · rintro ⟨i, hi, h⟩
    rw [cp_pt_fr T f (hg b) b hb cb rfl i hi] at h
    exact ⟨i, hi, (cp_inB_fr B f (cp_pt_in T hb cb hi) (cp_pt_st T hb cb hi) j).mp h⟩
  · rintro ⟨i, hi, h⟩
    refine ⟨i, hi, ?_⟩
    rw [cp_pt_fr T f (hg b) b hb cb rfl i hi]
    exact (cp_inB_fr B f (cp_pt_in T hb cb hi) (cp_pt_st T hb cb hi) j).mpr h
theorem cp_SP_fr (B : cp_RB ic so oc am hg par cn tx st sl wi lk) (T : cp_Tr hg par st) (f : cp_Fr ic so oc am hg par cn tx st sl wi lk ic' so' oc' am' hg' par' cn' tx' st' sl' wi' lk') {b : Nat} (hb : b < 24) (cb : st b = 3) (j : Nat) : cp_SP ic' so' hg' par' cn' tx' b j ↔ cp_SP ic so hg par cn tx b j := by
  have e := (f.2.1 b hb cb).2.2.2.1
  unfold cp_SP
  rw [e]
  constructor
  · rintro ⟨i, hi, h⟩
    rw [cp_pt_fr T f (hg b) b hb cb rfl i hi] at h
    exact ⟨i, hi, (cp_inS_fr B f (cp_pt_in T hb cb hi) (cp_pt_st T hb cb hi) j).mp h⟩
  · rintro ⟨i, hi, h⟩
    refine ⟨i, hi, ?_⟩
    rw [cp_pt_fr T f (hg b) b hb cb rfl i hi]
    exact (cp_inS_fr B f (cp_pt_in T hb cb hi) (cp_pt_st T hb cb hi) j).mpr h
theorem cp_inB_fz (B : cp_RB ic so oc am hg par cn tx st sl wi lk) {b j : Nat} (hb : b < 24) (cb : st b = 3) (h : cp_inB cn tx b j) : cp_fz st sl j := by
  rcases h with h | ⟨i, hi, h⟩
  · subst h
    exact Or.inr ⟨by omega, by omega, by rw [show 32 + b - 32 = b from by omega]; exact cb⟩
  · subst h
    exact Or.inl ⟨cp_RB_tx B _, cp_RB_sl B hi⟩
theorem cp_LS_fz (B : cp_RB ic so oc am hg par cn tx st sl wi lk) (T : cp_Tr hg par st) {b j : Nat} (hb : b < 24) (cb : st b = 3) (h : cp_LS hg par cn tx b j) : cp_fz st sl j := by
  obtain ⟨i, hi, h⟩ := h
  exact cp_inB_fz B (cp_pt_in T hb cb hi) (cp_pt_st T hb cb hi) h
/-- the five equations that cp_FT_m wants, out of the frame, for a sealed transaction and a frozen list -/
theorem cp_FT_fr (B : cp_RB ic so oc am hg par cn tx st sl wi lk) (f : cp_Fr ic so oc am hg par cn tx st sl wi lk ic' so' oc' am' hg' par' cn' tx' st' sl' wi' lk') {t h : Nat} {L S : Nat → Prop} (ht : t < 32) (s : sl t = true) (hL : ∀ j, L j → cp_fz st sl j) : cp_FT ic' so' oc' am' hg' sl' wi' lk' L S t h ↔ cp_FT ic so oc am hg sl wi lk L S t h := by
  obtain ⟨e1, e2, e4⟩ := f.1 t ht s
  obtain ⟨e3, e6⟩ := f.2.2 t (Or.inl ⟨ht, s⟩)
  have e5 : ∀ j, L j → oc' j = oc j ∧ (∀ i, i < 2 → am' (2 * j + i) = am (2 * j + i) ∧ lk' (2 * j + i) = lk (2 * j + i)) ∧ (32 ≤ j → hg' (j - 32) = hg (j - 32)) := by
    intro j hj
    have z := hL j hj
    refine ⟨(f.2.2 j z).1, (f.2.2 j z).2, fun h32 => ?_⟩
    rcases z with z | z
    · omega
    · exact (f.2.1 (j - 32) (by omega) z.2.2).2.2.2.1
  have c := cp_RB_ic B t
  constructor
  · exact cp_FT_m (fun _ => s) (by omega) e2.symm e3.symm (fun k hk => ⟨(e4 k hk).1.symm, (e4 k hk).2.symm⟩)
      (fun j hj => ⟨(e5 j hj).1.symm, fun i hi => ⟨((e5 j hj).2.1 i hi).1.symm, ((e5 j hj).2.1 i hi).2.symm⟩, fun z => ((e5 j hj).2.2 z).symm⟩) (fun i hi => (e6 i hi).1.symm)
  · exact cp_FT_m (fun _ => e1) c e2 e3 e4 e5 (fun i hi => (e6 i hi).1)
theorem cp_sd_fr (B : cp_RB ic so oc am hg par cn tx st sl wi lk) (f : cp_Fr ic so oc am hg par cn tx st sl wi lk ic' so' oc' am' hg' par' cn' tx' st' sl' wi' lk') {t : Nat} (ht : t < 32) (s : sl t = true) (hL : ∀ k, k < ic t → cp_fz st sl (so (2 * t + k) / 2)) : cp_sd ic' so' am' t = cp_sd ic so am t := by
  obtain ⟨e1, e2, e4⟩ := f.1 t ht s
  exact cp_sd_m (L := cp_fz st sl) (cp_RB_ic B t) e2 (fun k hk => (e4 k hk).1) hL (fun j hj i hi => ((f.2.2 j hj).2 i hi).1)
theorem cp_gv_fr (f : cp_Fr ic so oc am hg par cn tx st sl wi lk ic' so' oc' am' hg' par' cn' tx' st' sl' wi' lk') {t : Nat} (ht : t < 32) (s : sl t = true) : cp_gv oc' am' t = cp_gv oc am t := by
  obtain ⟨e3, e6⟩ := f.2.2 t (Or.inl ⟨ht, s⟩)
  exact cp_gv_m e3 (fun i hi => (e6 i hi).1)
theorem cp_Lc_fr (B : cp_RB ic so oc am hg par cn tx st sl wi lk) (T : cp_Tr hg par st) (f : cp_Fr ic so oc am hg par cn tx st sl wi lk ic' so' oc' am' hg' par' cn' tx' st' sl' wi' lk') {b i : Nat} (hb : b < 24) (cb : st b = 3) (nb : b ≠ 0) (hi : i ≤ 3) : cp_Lc hg' par' cn' tx' b i = cp_Lc hg par cn tx b i := by
  obtain ⟨h1, h2, h3⟩ := T.2.2 b hb cb nb
  obtain ⟨_, p2, p3, _, p5⟩ := f.2.1 b hb cb
  funext j
  apply propext
  unfold cp_Lc
  rw [p2]
  constructor
  · rintro (h | ⟨q, hq, h⟩)
    · exact Or.inl ((cp_LS_fr B T f h1 h2 j).mp h)
    · exact Or.inr ⟨q, hq, by rw [← p5 q (by omega)]; exact h⟩
  · rintro (h | ⟨q, hq, h⟩)
    · exact Or.inl ((cp_LS_fr B T f h1 h2 j).mpr h)
    · exact Or.inr ⟨q, hq, by rw [p5 q (by omega)]; exact h⟩
theorem cp_Sc_fr (B : cp_RB ic so oc am hg par cn tx st sl wi lk) (T : cp_Tr hg par st) (f : cp_Fr ic so oc am hg par cn tx st sl wi lk ic' so' oc' am' hg' par' cn' tx' st' sl' wi' lk') {b i : Nat} (hb : b < 24) (cb : st b = 3) (nb : b ≠ 0) (hi : i ≤ cn b) : cp_Sc ic' so' hg' par' cn' tx' b i = cp_Sc ic so hg par cn tx b i := by
  obtain ⟨h1, h2, h3⟩ := T.2.2 b hb cb nb
  obtain ⟨_, p2, p3, _, p5⟩ := f.2.1 b hb cb
  have c := cp_RB_cn B b
  funext j
  apply propext
  unfold cp_Sc
  rw [p2]
  constructor
  · rintro (h | ⟨q, hq, h⟩)
    · exact Or.inl ((cp_SP_fr B T f h1 h2 j).mp h)
    · refine Or.inr ⟨q, hq, ?_⟩
      rw [p5 q (by omega)] at h
      exact (cp_inT_fr B f (cp_RB_tx B _) (cp_RB_sl B (by omega)) j).mp h
  · rintro (h | ⟨q, hq, h⟩)
    · exact Or.inl ((cp_SP_fr B T f h1 h2 j).mpr h)
    · refine Or.inr ⟨q, hq, ?_⟩
      rw [p5 q (by omega)]
      exact (cp_inT_fr B f (cp_RB_tx B _) (cp_RB_sl B (by omega)) j).mpr h
theorem cp_Lc_fz (B : cp_RB ic so oc am hg par cn tx st sl wi lk) (T : cp_Tr hg par st) {b i j : Nat} (hp : par b < 24) (cp : st (par b) = 3) (hi : i ≤ cn b) (h : cp_Lc hg par cn tx b i j) : cp_fz st sl j := by
  rcases h with h | ⟨q, hq, h⟩
  · exact cp_LS_fz B T hp cp h
  · subst h
    exact Or.inl ⟨cp_RB_tx B _, cp_RB_sl B (by omega)⟩
theorem cp_CKn_fr (B : cp_RB ic so oc am hg par cn tx st sl wi lk) (T : cp_Tr hg par st) (f : cp_Fr ic so oc am hg par cn tx st sl wi lk ic' so' oc' am' hg' par' cn' tx' st' sl' wi' lk') {b : Nat} (hb : b < 24) (cb : st b = 3) (nb : b ≠ 0) : cp_CKn ic' so' oc' am' hg' par' cn' tx' sl' wi' lk' b (cn b) ↔ cp_CKn ic so oc am hg par cn tx sl wi lk b (cn b) := by
  obtain ⟨h1, h2, h3⟩ := T.2.2 b hb cb nb
  obtain ⟨_, p2, p3, p4, p5⟩ := f.2.1 b hb cb
  have c := cp_RB_cn B b
  have key : ∀ i, i < cn b → (cp_FT ic' so' oc' am' hg' sl' wi' lk' (cp_Lc hg' par' cn' tx' b i) (cp_Sc ic' so' hg' par' cn' tx' b i) (tx' (3 * b + i)) (hg' b) ↔ cp_FT ic so oc am hg sl wi lk (cp_Lc hg par cn tx b i) (cp_Sc ic so hg par cn tx b i) (tx (3 * b + i)) (hg b)) := by
    intro i hi
    rw [p4, p5 i (by omega), cp_Lc_fr B T f hb cb nb (by omega), cp_Sc_fr B T f hb cb nb (by omega)]
    exact cp_FT_fr B f (cp_RB_tx B _) (cp_RB_sl B hi) (fun j hj => cp_Lc_fz B T h1 h2 (by omega) hj)
  constructor
  · intro h i hi
    exact (key i hi).mp (h i hi)
  · intro h i hi
    exact (key i hi).mpr (h i hi)
theorem cp_CK_fr (B : cp_RB ic so oc am hg par cn tx st sl wi lk) (T : cp_Tr hg par st) (f : cp_Fr ic so oc am hg par cn tx st sl wi lk ic' so' oc' am' hg' par' cn' tx' st' sl' wi' lk') {b : Nat} (hb : b < 24) (cb : st b = 3) (nb : b ≠ 0) : cp_CK ic' so' oc' am' hg' par' cn' tx' sl' wi' lk' b ↔ cp_CK ic so oc am hg par cn tx sl wi lk b := by
  obtain ⟨h1, h2, h3⟩ := T.2.2 b hb cb nb
  obtain ⟨_, p2, p3, p4, p5⟩ := f.2.1 b hb cb
  have c := cp_RB_cn B b
  have ea : am' (64 + 2 * b) = am (64 + 2 * b) := by
    have := ((f.2.2 (32 + b) (Or.inr ⟨by omega, by omega, by rw [show 32 + b - 32 = b from by omega]; exact cb⟩)).2 0 (by decide)).1
    rw [show 2 * (32 + b) + 0 = 64 + 2 * b from by omega] at this
    exact this
  have es : cp_CKn ic so oc am hg par cn tx sl wi lk b (cn b) → cp_fs ic' so' oc' am' tx' b (cn b) = cp_fs ic so oc am tx b (cn b) := by
    intro h
    apply cp_sum_eq
    intro i hi
    show cp_sd ic' so' am' (tx' (3 * b + i)) - cp_gv oc' am' (tx' (3 * b + i)) = cp_sd ic so am (tx (3 * b + i)) - cp_gv oc am (tx (3 * b + i))
    rw [p5 i (by omega), cp_gv_fr f (cp_RB_tx B _) (cp_RB_sl B hi), cp_sd_fr B f (cp_RB_tx B _) (cp_RB_sl B hi)]
    intro k hk
    exact cp_Lc_fz B T h1 h2 (by omega) ((h i hi).2.2.2.2.2.1 k hk).2.1
  unfold cp_CK
  rw [p3, ea]
  constructor
  · rintro ⟨x, y⟩
    have x' := (cp_CKn_fr B T f hb cb nb).mp x
    refine ⟨x', ?_⟩
    rw [es x'] at y
    exact y
  · rintro ⟨x, y⟩
    refine ⟨(cp_CKn_fr B T f hb cb nb).mpr x, ?_⟩
    rw [es x]
    exact y
end
