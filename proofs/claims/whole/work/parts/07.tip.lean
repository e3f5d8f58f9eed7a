/-! good chains, the best block, the fork, what is offered again -/
section
variable {ic so oc am hg par cn tx st : Nat → Nat} {sl : Nat → Bool} {wi lk wk bw : Nat → Int32} {gd : Nat → Bool}
theorem cp_gd_pt (R : cp_RT ic so oc am hg par cn tx st sl wi lk wk bw gd) : ∀ (n b : Nat), b < 24 → hg b = n → gd b = true → ∀ i, i ≤ n → gd (cp_pt par hg b i) = true := by
  intro n
  induction n with
  | zero =>
    intro b hb hn g i hi
    rw [show i = hg b from by omega, cp_pt_top]
    exact g
  | succ n ih =>
    intro b hb hn g i hi
    have cb := R.2.2.2.1 b hb g
    have nb : b ≠ 0 := by
      intro e
      rw [e, R.1.2.1] at hn
      omega
    obtain ⟨h1, h2, h3⟩ := R.1.2.2 b hb cb nb
    by_cases ei : i = hg b
    · rw [ei, cp_pt_top]
      exact g
    · rw [cp_pt_par R.1 hb cb (by omega)]
      exact ih (par b) h1 (by omega) (((R.2.2.1 b hb cb nb).2.mp g).1) i (by omega)
/-- what is listed below height n of the chain of b -/
def cp_Lh (hg par cn tx : Nat → Nat) (b n j : Nat) : Prop := ∃ i, i < n ∧ cp_inB cn tx (cp_pt par hg b i) j
def cp_Sh (ic so hg par cn tx : Nat → Nat) (b n o : Nat) : Prop := ∃ i, i < n ∧ cp_inS ic so cn tx (cp_pt par hg b i) o
theorem cp_Lh_LS (T : cp_Tr hg par st) {b n : Nat} (hb : b < 24) (cb : st b = 3) (hn : n ≤ hg b) : cp_LS hg par cn tx (cp_pt par hg b n) = cp_Lh hg par cn tx b (n + 1) := by
  funext j
  apply propext
  unfold cp_LS cp_Lh
  rw [cp_pt_hg T hb cb hn]
  constructor
  · rintro ⟨i, hi, h⟩
    rw [cp_pt_pt T hb cb (hg b - n) n i (by omega) hi] at h
    exact ⟨i, by omega, h⟩
  · rintro ⟨i, hi, h⟩
    refine ⟨i, by omega, ?_⟩
    rw [cp_pt_pt T hb cb (hg b - n) n i (by omega) (by omega)]
    exact h
theorem cp_Sh_SP (T : cp_Tr hg par st) {b n : Nat} (hb : b < 24) (cb : st b = 3) (hn : n ≤ hg b) : cp_SP ic so hg par cn tx (cp_pt par hg b n) = cp_Sh ic so hg par cn tx b (n + 1) := by
  funext j
  apply propext
  unfold cp_SP cp_Sh
  rw [cp_pt_hg T hb cb hn]
  constructor
  · rintro ⟨i, hi, h⟩
    rw [cp_pt_pt T hb cb (hg b - n) n i (by omega) hi] at h
    exact ⟨i, by omega, h⟩
  · rintro ⟨i, hi, h⟩
    refine ⟨i, by omega, ?_⟩
    rw [cp_pt_pt T hb cb (hg b - n) n i (by omega) (by omega)]
    exact h
theorem cp_Lh_top (b : Nat) : cp_Lh hg par cn tx b (hg b + 1) = cp_LS hg par cn tx b := by
  funext j
  apply propext
  exact ⟨fun ⟨i, hi, h⟩ => ⟨i, by omega, h⟩, fun ⟨i, hi, h⟩ => ⟨i, by omega, h⟩⟩
theorem cp_Sh_top (b : Nat) : cp_Sh ic so hg par cn tx b (hg b + 1) = cp_SP ic so hg par cn tx b := by
  funext j
  apply propext
  exact ⟨fun ⟨i, hi, h⟩ => ⟨i, by omega, h⟩, fun ⟨i, hi, h⟩ => ⟨i, by omega, h⟩⟩
theorem cp_Lh_s (b n j : Nat) : cp_Lh hg par cn tx b (n + 1) j ↔ cp_Lh hg par cn tx b n j ∨ cp_inB cn tx (cp_pt par hg b n) j := by
  constructor
  · rintro ⟨i, hi, h⟩
    by_cases e : i = n
    · subst e
      exact Or.inr h
    · exact Or.inl ⟨i, by omega, h⟩
  · rintro (⟨i, hi, h⟩ | h)
    · exact ⟨i, by omega, h⟩
    · exact ⟨n, by omega, h⟩
theorem cp_Sh_s (b n j : Nat) : cp_Sh ic so hg par cn tx b (n + 1) j ↔ cp_Sh ic so hg par cn tx b n j ∨ cp_inS ic so cn tx (cp_pt par hg b n) j := by
  constructor
  · rintro ⟨i, hi, h⟩
    by_cases e : i = n
    · subst e
      exact Or.inr h
    · exact Or.inl ⟨i, by omega, h⟩
  · rintro (⟨i, hi, h⟩ | h)
    · exact ⟨i, by omega, h⟩
    · exact ⟨n, by omega, h⟩
/-- the lists within the block at height n of the chain of b -/
def cp_Lq (hg par cn tx : Nat → Nat) (b n i j : Nat) : Prop := cp_Lh hg par cn tx b n j ∨ ∃ q, q < i ∧ tx (3 * cp_pt par hg b n + q) = j
def cp_Sq (ic so hg par cn tx : Nat → Nat) (b n i o : Nat) : Prop := cp_Sh ic so hg par cn tx b n o ∨ ∃ q, q < i ∧ cp_inT ic so (tx (3 * cp_pt par hg b n + q)) o
theorem cp_Lq_Lc (T : cp_Tr hg par st) {b n : Nat} (hb : b < 24) (cb : st b = 3) (hn : n ≤ hg b) (h0 : 0 < n) (i : Nat) : cp_Lc hg par cn tx (cp_pt par hg b n) i = cp_Lq hg par cn tx b n i := by
  funext j
  unfold cp_Lc cp_Lq
  rw [cp_pt_up T hb cb hn h0, cp_Lh_LS T hb cb (by omega), show n - 1 + 1 = n from by omega]
theorem cp_Sq_Sc (T : cp_Tr hg par st) {b n : Nat} (hb : b < 24) (cb : st b = 3) (hn : n ≤ hg b) (h0 : 0 < n) (i : Nat) : cp_Sc ic so hg par cn tx (cp_pt par hg b n) i = cp_Sq ic so hg par cn tx b n i := by
  funext j
  unfold cp_Sc cp_Sq
  rw [cp_pt_up T hb cb hn h0, cp_Sh_SP T hb cb (by omega), show n - 1 + 1 = n from by omega]
/-- what the reference asks of the block at height n -/
def cp_CQ (ic : Nat → Nat) (so : Nat → Nat) (oc : Nat → Nat) (am : Nat → Nat) (hg : Nat → Nat) (par : Nat → Nat) (cn : Nat → Nat) (tx : Nat → Nat) (sl : Nat → Bool) (wi : Nat → Int32) (lk : Nat → Int32) (b n : Nat) : Prop := (∀ i, i < cn (cp_pt par hg b n) → cp_FT ic so oc am hg sl wi lk (cp_Lq hg par cn tx b n i) (cp_Sq ic so hg par cn tx b n i) (tx (3 * cp_pt par hg b n + i)) n) ∧ am (64 + 2 * cp_pt par hg b n) ≤ 50 + cp_fs ic so oc am tx (cp_pt par hg b n) (cn (cp_pt par hg b n))
theorem cp_CQ_gd (R : cp_RT ic so oc am hg par cn tx st sl wi lk wk bw gd) {b n : Nat} (hb : b < 24) (cb : st b = 3) (hn : n ≤ hg b) (hp : 0 < n → gd (cp_pt par hg b (n - 1)) = true) : cp_CQ ic so oc am hg par cn tx sl wi lk b n ↔ gd (cp_pt par hg b n) = true := by
  have T := R.1
  by_cases h0 : 0 < n
  · have nb : cp_pt par hg b n ≠ 0 := by
      intro e
      have := cp_pt_hg T hb cb hn
      rw [e, T.2.1] at this
      omega
    have r := (R.2.2.1 (cp_pt par hg b n) (cp_pt_in T hb cb hn) (cp_pt_st T hb cb hn) nb).2
    rw [r, cp_pt_up T hb cb hn h0]
    have key : cp_CQ ic so oc am hg par cn tx sl wi lk b n ↔ cp_CK ic so oc am hg par cn tx sl wi lk (cp_pt par hg b n) := by
      unfold cp_CQ cp_CK cp_CKn
      rw [cp_pt_hg T hb cb hn]
      constructor
      · rintro ⟨x, y⟩
        refine ⟨fun i hi => ?_, y⟩
        rw [cp_Lq_Lc T hb cb hn h0, cp_Sq_Sc T hb cb hn h0]
        exact x i hi
      · rintro ⟨x, y⟩
        refine ⟨fun i hi => ?_, y⟩
        have z := x i hi
        rw [cp_Lq_Lc T hb cb hn h0, cp_Sq_Sc T hb cb hn h0] at z
        exact z
    rw [key]
    exact ⟨fun z => ⟨hp h0, z⟩, fun z => z.2⟩
  · have e0 : n = 0 := by omega
    subst e0
    have e := cp_pt_0 T hb cb
    obtain ⟨r1, r2, r3, _⟩ := R.2.1
    unfold cp_CQ
    rw [e, r1, r3, show 64 + 2 * 0 = 64 from rfl, r2]
    exact ⟨fun _ => rfl, fun _ => ⟨fun i hi => absurd hi (Nat.not_lt_zero _), Nat.le_add_right _ _⟩⟩
/-- the best of the blocks below n -/
def cp_bt (gd : Nat → Bool) (bw od : Nat → Int32) : Nat → Nat
  | 0 => 0
  | n + 1 => if gd n = true ∧ (bw (cp_bt gd bw od n) < bw n ∨ (bw n = bw (cp_bt gd bw od n) ∧ od n < od (cp_bt gd bw od n))) then n else cp_bt gd bw od n
theorem cp_bt_1 (gd : Nat → Bool) (bw od : Nat → Int32) : cp_bt gd bw od 1 = 0 := by
  unfold cp_bt
  split <;> rfl
theorem cp_bt_gd {gd : Nat → Bool} (bw od : Nat → Int32) (h0 : gd 0 = true) : ∀ n, gd (cp_bt gd bw od n) = true := by
  intro n
  induction n with
  | zero => exact h0
  | succ n ih =>
    unfold cp_bt
    split
    · next h => exact h.1
    · exact ih
theorem cp_bt_lt (gd : Nat → Bool) (bw od : Nat → Int32) : ∀ n, cp_bt gd bw od (n + 1) ≤ n := by
  intro n
  induction n with
  | zero =>
    rw [cp_bt_1]
    exact Nat.le_refl _
  | succ n ih =>
    rw [cp_bt]
    split
    · exact Nat.le_refl _
    · omega
/-- F is the height where the chains of a and b part -/
def cp_Fk (hg par : Nat → Nat) (a b F : Nat) : Prop := F ≤ hg a ∧ F ≤ hg b ∧ cp_pt par hg a F = cp_pt par hg b F ∧ ∀ h, F < h → h ≤ hg a → h ≤ hg b → ¬ cp_pt par hg a h = cp_pt par hg b h
theorem cp_Fk_lo (T : cp_Tr hg par st) {a b F : Nat} (ha : a < 24) (ca : st a = 3) (hb : b < 24) (cb : st b = 3) (k : cp_Fk hg par a b F) {h : Nat} (hh : h ≤ F) : cp_pt par hg a h = cp_pt par hg b h := by
  obtain ⟨k1, k2, k3, k4⟩ := k
  rw [← cp_pt_pt T ha ca (hg a - F) F h (by omega) hh, ← cp_pt_pt T hb cb (hg b - F) F h (by omega) hh, k3]
/-- a block of the chain of b is on the chain of a just up to the fork -/
theorem cp_Fk_on (T : cp_Tr hg par st) {a b F : Nat} (ha : a < 24) (ca : st a = 3) (hb : b < 24) (cb : st b = 3) (k : cp_Fk hg par a b F) {h : Nat} (hh : h ≤ hg b) : (∃ i, i < hg a + 1 ∧ cp_pt par hg a i = cp_pt par hg b h) ↔ h ≤ F := by
  constructor
  · rintro ⟨i, hi, e⟩
    have e1 := cp_pt_hg T ha ca (i := i) (by omega)
    have e2 := cp_pt_hg T hb cb hh
    rw [e, e2] at e1
    subst e1
    by_cases z : h ≤ F
    · exact z
    · exact absurd e (k.2.2.2 h (by omega) (by omega) hh)
  · intro z
    exact ⟨h, by have := k.1; omega, cp_Fk_lo T ha ca hb cb k z⟩
end
/-- the transactions of a block, the first n -/
def cp_ct (tx : Nat → Nat) (b : Nat) : Nat → List Nat
  | 0 => []
  | n + 1 => cp_ct tx b n ++ [tx (3 * b + n)]
/-- the transactions of the chain's blocks above F and below k -/
def cp_ql (hg par cn tx : Nat → Nat) (b F : Nat) : Nat → List Nat
  | 0 => []
  | k + 1 => cp_ql hg par cn tx b F k ++ (if F < k then cp_ct tx (cp_pt par hg b k) (cn (cp_pt par hg b k)) else [])
def cp_pl (po : Nat → Nat) : Nat → List Nat
  | 0 => []
  | n + 1 => cp_pl po n ++ [po n]
/-- the lists that an offered transaction must fit after -/
def cp_La (hg par cn tx po : Nat → Nat) (tip n j : Nat) : Prop := cp_LS hg par cn tx tip j ∨ ∃ i, i < n ∧ po i = j
def cp_Sa (ic so hg par cn tx po : Nat → Nat) (tip n o : Nat) : Prop := cp_SP ic so hg par cn tx tip o ∨ ∃ i, i < n ∧ cp_inT ic so (po i) o
def cp_AF (ic : Nat → Nat) (so : Nat → Nat) (oc : Nat → Nat) (am : Nat → Nat) (hg : Nat → Nat) (par : Nat → Nat) (cn : Nat → Nat) (tx : Nat → Nat) (sl : Nat → Bool) (wi : Nat → Int32) (lk : Nat → Int32) (tip pc : Nat) (po : Nat → Nat) (t : Nat) : Prop := pc < 8 ∧ cp_FT ic so oc am hg sl wi lk (cp_La hg par cn tx po tip pc) (cp_Sa ic so hg par cn tx po tip pc) t (hg tip + 1)
noncomputable def cp_ad (ic : Nat → Nat) (so : Nat → Nat) (oc : Nat → Nat) (am : Nat → Nat) (hg : Nat → Nat) (par : Nat → Nat) (cn : Nat → Nat) (tx : Nat → Nat) (sl : Nat → Bool) (wi : Nat → Int32) (lk : Nat → Int32) (tip : Nat) (q : Nat × (Nat → Nat)) (t : Nat) : Nat × (Nat → Nat) :=
  @ite _ (cp_AF ic so oc am hg par cn tx sl wi lk tip q.1 q.2 t) (Classical.propDecidable _) (q.1 + 1, cp_up q.2 q.1 t) q
noncomputable def cp_fo (ic : Nat → Nat) (so : Nat → Nat) (oc : Nat → Nat) (am : Nat → Nat) (hg : Nat → Nat) (par : Nat → Nat) (cn : Nat → Nat) (tx : Nat → Nat) (sl : Nat → Bool) (wi : Nat → Int32) (lk : Nat → Int32) (tip : Nat) (q : Nat × (Nat → Nat)) (l : List Nat) : Nat × (Nat → Nat) := l.foldl (cp_ad ic so oc am hg par cn tx sl wi lk tip) q
section
variable {ic so oc am hg par cn tx st : Nat → Nat} {sl : Nat → Bool} {wi lk wk bw : Nat → Int32} {gd : Nat → Bool}
theorem cp_fo_app (tip : Nat) (q : Nat × (Nat → Nat)) (l l' : List Nat) : cp_fo ic so oc am hg par cn tx sl wi lk tip q (l ++ l') = cp_fo ic so oc am hg par cn tx sl wi lk tip (cp_fo ic so oc am hg par cn tx sl wi lk tip q l) l' := List.foldl_append ..
theorem cp_fo_1 (tip : Nat) (q : Nat × (Nat → Nat)) (t : Nat) : cp_fo ic so oc am hg par cn tx sl wi lk tip q [t] = cp_ad ic so oc am hg par cn tx sl wi lk tip q t := rfl
theorem cp_ad_t {tip pc : Nat} {po : Nat → Nat} {t : Nat} (h : cp_AF ic so oc am hg par cn tx sl wi lk tip pc po t) : cp_ad ic so oc am hg par cn tx sl wi lk tip (pc, po) t = (pc + 1, cp_up po pc t) := if_pos h
theorem cp_ad_f {tip pc : Nat} {po : Nat → Nat} {t : Nat} (h : ¬ cp_AF ic so oc am hg par cn tx sl wi lk tip pc po t) : cp_ad ic so oc am hg par cn tx sl wi lk tip (pc, po) t = (pc, po) := if_neg h
/-- a pool stays a pool -/
theorem cp_ad_RR {tip pc : Nat} {po : Nat → Nat} {t : Nat} (R : cp_RR ic so oc am hg par cn tx st sl wi lk wk bw gd pc po) (ht : tip < 24) (g : gd tip = true) (hq : t < 32) (H : cp_AF ic so oc am hg par cn tx sl wi lk tip pc po t) : cp_RR ic so oc am hg par cn tx st sl wi lk wk bw gd (pc + 1) (cp_up po pc t) := by
  have n := cp_PO_new R ht g hq (fun j z => z) (fun o z => Or.inl z) H.2
  obtain ⟨B, T, p1, p2⟩ := R
  refine ⟨B, T, H.1, fun i hi => ?_⟩
  by_cases e : i = pc
  · rw [e, cp_up_s]
    exact n
  · rw [cp_up_n e]
    exact p2 i (by omega)
end
