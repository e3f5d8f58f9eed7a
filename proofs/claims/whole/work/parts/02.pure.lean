/-! the lock script, by itself -/
def cp_need (c : Int32) : Nat := if c = 1 ∨ c = 10 ∨ c = 11 then 0 else if c = 2 ∨ c = 9 ∨ c = 13 ∨ c = 15 then 1 else 2
def cp_grow (c : Int32) (n : Nat) : Nat := if c = 1 ∨ c = 2 ∨ c = 10 ∨ c = 11 ∨ c = 14 then n + 1 else if c = 8 ∨ c = 13 then n else n - 1
def cp_res (c top below h : Int32) : Int32 :=
  if c = 1 then 1 else if c = 2 then top else if c = 3 then below + top else if c = 4 then below * top else if c = 5 then below - top
  else if c = 6 then (if below = top then 1 else 0) else if c = 7 then (if below < top then 1 else 0) else if c = 10 then h
  else if c = 11 then 2 else if c = 12 then below ^^^ top else if c = 13 then (if top = 0 then 1 else 0) else below
def cp_top (g : Nat → Int32) (n : Nat) : Int32 := if 0 < n then g (n - 1) else 0
def cp_bel (g : Nat → Int32) (n : Nat) : Int32 := if 1 < n then g (n - 2) else 0
def cp_nst (c : Int32) (n : Nat) (g : Nat → Int32) (h : Int32) : Nat → Int32 :=
  if 0 < cp_grow c n then upd (if c = 8 then upd g (n - 2) (cp_top g n) else g) (cp_grow c n - 1) (cp_res c (cp_top g n) (cp_bel g n) h)
  else (if c = 8 then upd g (n - 2) (cp_top g n) else g)
def cp_code (lock : Int32) (k : Nat) : Int32 := (lock.toUInt32 >>> ((nI (4 * k)).toUInt32 &&& Int32.toUInt32 31)).toInt32 &&& 15
def cp_end (n : Nat) (g : Nat → Int32) : Prop := 0 < n ∧ ¬ g (n - 1) = 0
def cp_run (lock h : Int32) : Nat → Nat → Nat → (Nat → Int32) → Prop
  | 0, _, n, g => cp_end n g
  | d + 1, k, n, g =>
    (cp_code lock k = 0 ∧ cp_end n g) ∨
    (¬ cp_code lock k = 0 ∧ cp_need (cp_code lock k) ≤ n ∧ ¬ (cp_code lock k = 15 ∧ cp_top g n = 0) ∧ cp_run lock h d (k + 1) (cp_grow (cp_code lock k) n) (cp_nst (cp_code lock k) n g h))
def cp_OP (lock w h : Int32) : Prop := cp_run lock h 8 0 1 (fun _ => w)
/-! the chain below a block -/
def cp_an (par : Nat → Nat) : Nat → Nat → Nat
  | 0, b => b
  | k + 1, b => cp_an par k (par b)
def cp_pt (par hg : Nat → Nat) (b i : Nat) : Nat := cp_an par (hg b - i) b
def cp_inT (ic so : Nat → Nat) (t o : Nat) : Prop := ∃ k, k < ic t ∧ so (2 * t + k) = o
def cp_inB (cn tx : Nat → Nat) (b j : Nat) : Prop := j = 32 + b ∨ ∃ i, i < cn b ∧ tx (3 * b + i) = j
def cp_inS (ic so cn tx : Nat → Nat) (b o : Nat) : Prop := ∃ i, i < cn b ∧ cp_inT ic so (tx (3 * b + i)) o
def cp_LS (hg par cn tx : Nat → Nat) (b j : Nat) : Prop := ∃ i, i ≤ hg b ∧ cp_inB cn tx (cp_pt par hg b i) j
def cp_SP (ic so hg par cn tx : Nat → Nat) (b o : Nat) : Prop := ∃ i, i ≤ hg b ∧ cp_inS ic so cn tx (cp_pt par hg b i) o
def cp_Tr (hg par st : Nat → Nat) : Prop := st 0 = 3 ∧ hg 0 = 0 ∧ ∀ b, b < 24 → st b = 3 → b ≠ 0 → par b < 24 ∧ st (par b) = 3 ∧ hg b = hg (par b) + 1
section
variable {hg par st cn tx ic so : Nat → Nat}
theorem cp_pt_top (b : Nat) : cp_pt par hg b (hg b) = b := by
  unfold cp_pt
  rw [Nat.sub_self]
  rfl
theorem cp_pt_par (T : cp_Tr hg par st) {b i : Nat} (hb : b < 24) (cb : st b = 3) (hi : i < hg b) : cp_pt par hg b i = cp_pt par hg (par b) i := by
  have nb : b ≠ 0 := by
    intro e
    rw [e, T.2.1] at hi
    omega
  have h := (T.2.2 b hb cb nb).2.2
  unfold cp_pt
  rw [show hg b - i = (hg (par b) - i) + 1 from by omega]
  rfl
theorem cp_hg0 (T : cp_Tr hg par st) {b : Nat} (hb : b < 24) (cb : st b = 3) (h : hg b = 0) : b = 0 := by
  by_cases e : b = 0
  · exact e
  · have := (T.2.2 b hb cb e).2.2
    omega
theorem cp_pt_all (T : cp_Tr hg par st) : ∀ (n b : Nat), b < 24 → st b = 3 → hg b = n → ∀ i, i ≤ n → cp_pt par hg b i < 24 ∧ st (cp_pt par hg b i) = 3 ∧ hg (cp_pt par hg b i) = i ∧ (0 < i → par (cp_pt par hg b i) = cp_pt par hg b (i - 1)) := by
  intro n
  induction n with
  | zero =>
    intro b hb cb hn i hi
    have ei : i = hg b := by omega
    rw [ei, cp_pt_top]
    exact ⟨hb, cb, rfl, fun z => by omega⟩
  | succ n ih =>
    intro b hb cb hn i hi
    have nb : b ≠ 0 := by
      intro e
      rw [e, T.2.1] at hn
      omega
    obtain ⟨h1, h2, h3⟩ := T.2.2 b hb cb nb
    by_cases ei : i = hg b
    · rw [ei, cp_pt_top]
      refine ⟨hb, cb, rfl, fun z => ?_⟩
      rw [cp_pt_par T hb cb (by omega), show hg b - 1 = hg (par b) from by omega, cp_pt_top]
    · rw [cp_pt_par T hb cb (by omega)]
      obtain ⟨a1, a2, a3, a4⟩ := ih (par b) h1 h2 (by omega) i (by omega)
      refine ⟨a1, a2, a3, fun z => ?_⟩
      rw [a4 z, cp_pt_par T hb cb (by omega)]
theorem cp_pt_in (T : cp_Tr hg par st) {b i : Nat} (hb : b < 24) (cb : st b = 3) (hi : i ≤ hg b) : cp_pt par hg b i < 24 := (cp_pt_all T (hg b) b hb cb rfl i hi).1
theorem cp_pt_st (T : cp_Tr hg par st) {b i : Nat} (hb : b < 24) (cb : st b = 3) (hi : i ≤ hg b) : st (cp_pt par hg b i) = 3 := (cp_pt_all T (hg b) b hb cb rfl i hi).2.1
theorem cp_pt_hg (T : cp_Tr hg par st) {b i : Nat} (hb : b < 24) (cb : st b = 3) (hi : i ≤ hg b) : hg (cp_pt par hg b i) = i := (cp_pt_all T (hg b) b hb cb rfl i hi).2.2.1
theorem cp_pt_up (T : cp_Tr hg par st) {b i : Nat} (hb : b < 24) (cb : st b = 3) (hi : i ≤ hg b) (h0 : 0 < i) : par (cp_pt par hg b i) = cp_pt par hg b (i - 1) := (cp_pt_all T (hg b) b hb cb rfl i hi).2.2.2 h0
theorem cp_pt_0 (T : cp_Tr hg par st) {b : Nat} (hb : b < 24) (cb : st b = 3) : cp_pt par hg b 0 = 0 := cp_hg0 T (cp_pt_in T hb cb (Nat.zero_le _)) (cp_pt_st T hb cb (Nat.zero_le _)) (cp_pt_hg T hb cb (Nat.zero_le _))
theorem cp_pt_pt (T : cp_Tr hg par st) {b : Nat} (hb : b < 24) (cb : st b = 3) : ∀ (d i j : Nat), i + d = hg b → j ≤ i → cp_pt par hg (cp_pt par hg b i) j = cp_pt par hg b j := by
  intro d
  induction d with
  | zero =>
    intro i j hi hj
    rw [show i = hg b from by omega, cp_pt_top]
  | succ d ih =>
    intro i j hi hj
    have e := ih (i + 1) j (by omega) (by omega)
    have h1 := cp_pt_hg T hb cb (i := i + 1) (by omega)
    have e2 := cp_pt_par T (b := cp_pt par hg b (i + 1)) (i := j) (cp_pt_in T hb cb (by omega)) (cp_pt_st T hb cb (by omega)) (by omega)
    rw [cp_pt_up T hb cb (i := i + 1) (by omega) (by omega), show i + 1 - 1 = i from rfl] at e2
    exact e2.symm.trans e
theorem cp_LS_0 (T : cp_Tr hg par st) (j : Nat) : cp_LS hg par cn tx 0 j ↔ cp_inB cn tx 0 j := by
  have e : cp_pt par hg 0 0 = 0 := by
    have := cp_pt_top (par := par) (hg := hg) 0
    rw [T.2.1] at this
    exact this
  constructor
  · rintro ⟨i, hi, h⟩
    rw [T.2.1] at hi
    rw [show i = 0 from by omega, e] at h
    exact h
  · intro h
    exact ⟨0, Nat.zero_le _, by rw [e]; exact h⟩
theorem cp_LS_s (T : cp_Tr hg par st) {b : Nat} (hb : b < 24) (cb : st b = 3) (nb : b ≠ 0) (j : Nat) : cp_LS hg par cn tx b j ↔ cp_LS hg par cn tx (par b) j ∨ cp_inB cn tx b j := by
  obtain ⟨h1, h2, h3⟩ := T.2.2 b hb cb nb
  constructor
  · rintro ⟨i, hi, h⟩
    by_cases e : i = hg b
    · rw [e, cp_pt_top] at h
      exact Or.inr h
    · rw [cp_pt_par T hb cb (by omega)] at h
      exact Or.inl ⟨i, by omega, h⟩
  · rintro (⟨i, hi, h⟩ | h)
    · exact ⟨i, by omega, by rw [cp_pt_par T hb cb (by omega)]; exact h⟩
    · exact ⟨hg b, Nat.le_refl _, by rw [cp_pt_top]; exact h⟩
theorem cp_SP_s (T : cp_Tr hg par st) {b : Nat} (hb : b < 24) (cb : st b = 3) (nb : b ≠ 0) (o : Nat) : cp_SP ic so hg par cn tx b o ↔ cp_SP ic so hg par cn tx (par b) o ∨ cp_inS ic so cn tx b o := by
  obtain ⟨h1, h2, h3⟩ := T.2.2 b hb cb nb
  constructor
  · rintro ⟨i, hi, h⟩
    by_cases e : i = hg b
    · rw [e, cp_pt_top] at h
      exact Or.inr h
    · rw [cp_pt_par T hb cb (by omega)] at h
      exact Or.inl ⟨i, by omega, h⟩
  · rintro (⟨i, hi, h⟩ | h)
    · exact ⟨i, by omega, by rw [cp_pt_par T hb cb (by omega)]; exact h⟩
    · exact ⟨hg b, Nat.le_refl _, by rw [cp_pt_top]; exact h⟩
end
/-! when a transaction fits, when a block is right -/
def cp_IO (so oc hg : Nat → Nat) (wi lk : Nat → Int32) (L S : Nat → Prop) (h k : Nat) : Prop :=
  so k % 2 < oc (so k / 2) ∧ L (so k / 2) ∧ ¬ S (so k) ∧ (so k / 2 < 32 ∨ hg (so k / 2 - 32) + 2 ≤ h) ∧ cp_OP (lk (so k)) (wi k) (nI h)
def cp_sd (ic so am : Nat → Nat) (t : Nat) : Nat := (if 0 < ic t then am (so (2 * t)) else 0) + (if 1 < ic t then am (so (2 * t + 1)) else 0)
def cp_gv (oc am : Nat → Nat) (t : Nat) : Nat := (if 0 < oc t then am (2 * t) else 0) + (if 1 < oc t then am (2 * t + 1) else 0)
def cp_FT (ic : Nat → Nat) (so : Nat → Nat) (oc : Nat → Nat) (am : Nat → Nat) (hg : Nat → Nat) (sl : Nat → Bool) (wi : Nat → Int32) (lk : Nat → Int32) (L S : Nat → Prop) (t h : Nat) : Prop :=
  sl t = true ∧ ic t ≠ 0 ∧ oc t ≠ 0 ∧ ¬ L t ∧ ¬ (ic t = 2 ∧ so (2 * t) = so (2 * t + 1)) ∧ (∀ k, k < ic t → cp_IO so oc hg wi lk L S h (2 * t + k)) ∧ cp_gv oc am t ≤ cp_sd ic so am t
def cp_Lc (hg par cn tx : Nat → Nat) (b i j : Nat) : Prop := cp_LS hg par cn tx (par b) j ∨ ∃ q, q < i ∧ tx (3 * b + q) = j
def cp_Sc (ic so hg par cn tx : Nat → Nat) (b i o : Nat) : Prop := cp_SP ic so hg par cn tx (par b) o ∨ ∃ q, q < i ∧ cp_inT ic so (tx (3 * b + q)) o
def cp_fs (ic so oc am tx : Nat → Nat) (b n : Nat) : Nat := cp_sum (fun i => cp_sd ic so am (tx (3 * b + i)) - cp_gv oc am (tx (3 * b + i))) n
def cp_CKn (ic : Nat → Nat) (so : Nat → Nat) (oc : Nat → Nat) (am : Nat → Nat) (hg : Nat → Nat) (par : Nat → Nat) (cn : Nat → Nat) (tx : Nat → Nat) (sl : Nat → Bool) (wi : Nat → Int32) (lk : Nat → Int32) (b n : Nat) : Prop := ∀ i, i < n → cp_FT ic so oc am hg sl wi lk (cp_Lc hg par cn tx b i) (cp_Sc ic so hg par cn tx b i) (tx (3 * b + i)) (hg b)
def cp_CK (ic : Nat → Nat) (so : Nat → Nat) (oc : Nat → Nat) (am : Nat → Nat) (hg : Nat → Nat) (par : Nat → Nat) (cn : Nat → Nat) (tx : Nat → Nat) (sl : Nat → Bool) (wi : Nat → Int32) (lk : Nat → Int32) (b : Nat) : Prop := cp_CKn ic so oc am hg par cn tx sl wi lk b (cn b) ∧ am (64 + 2 * b) ≤ 50 + cp_fs ic so oc am tx b (cn b)
def cp_fz (st : Nat → Nat) (sl : Nat → Bool) (j : Nat) : Prop := (j < 32 ∧ sl j = true) ∨ (32 ≤ j ∧ j < 56 ∧ st (j - 32) = 3)
