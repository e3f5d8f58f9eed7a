section
/-! rows of kit/rows (PURE-ROWS), as they stand -/
theorem pk_us {f : Nat → Int32} {k : Nat} {x : Int32} : upd f k x k = x := if_pos rfl
theorem pk_un {f : Nat → Int32} {k j : Nat} {x : Int32} (h : j ≠ k) : upd f k x j = f j := if_neg h
theorem pk_sub {a b : Nat} (h : b ≤ a) : nI a - nI b = nI (a - b) := by
  obtain ⟨c, rfl⟩ : ∃ c, a = c + b := ⟨a - b, by omega⟩
  rw [← nI_add, Int32.add_sub_cancel, Nat.add_sub_cancel]
theorem pk_m1 (n : Nat) : nI (n + 1) + (-1) = nI n := by
  rw [← nI_1, Int32.add_assoc, show (1 : Int32) + (-1) = 0 from rfl, Int32.add_zero]
theorem pk_mul (a b : Nat) : nI a * nI b = nI (a * b) := (Int32.ofNat_mul a b).symm
theorem pk_div {a d : Nat} (ha : a < 2 ^ 31) (h0 : 0 < d) (hd : d < 2 ^ 31) : nI a / nI d = nI (a / d) := by
  apply Int32.toInt_inj.mp
  rw [lg_idiv_nonneg (by rw [nI_toInt ha]; omega) (by rw [nI_toInt hd]; omega), nI_toInt ha, nI_toInt hd, nI_toInt (Nat.lt_of_le_of_lt (Nat.div_le_self a d) ha)]
  first | rfl | exact (Int.natCast_ediv _ _).symm
theorem pk_rem {a d : Nat} (ha : a < 2 ^ 31) (h0 : 0 < d) (hd : d < 2 ^ 31) : nI a - nI a / nI d * nI d = nI (a % d) := by
  rw [pk_div ha h0 hd, pk_mul, pk_sub (Nat.div_mul_le_self a d)]
  exact congrArg nI (by have := Nat.div_add_mod' a d; omega)
theorem pk_sub_toInt {a b : Nat} (ha : a < 2 ^ 30) (hb : b < 2 ^ 30) : (nI a - nI b).toInt = (a : Int) - b := by
  rw [Int32.toInt_sub, nI_toInt (by omega), nI_toInt (by omega)]
  exact Int.bmod_eq_of_le (by omega) (by omega)
theorem pk_sneg {a b : Nat} (hb : b < 2 ^ 30) (h : a < b) : nI a - nI b < 0 := by
  rw [Int32.lt_iff_toInt_lt, pk_sub_toInt (by omega) hb, show (0 : Int32).toInt = 0 from by decide]
  omega
theorem pk_ix (x : Int32) {n : Nat} (hn : n < 2 ^ 31) : x < 0 ∨ nI n ≤ x ∨ ∃ j : Nat, j < n ∧ x = nI j := by
  by_cases h : x < 0
  · exact Or.inl h
  · obtain ⟨j, hj, rfl⟩ := nI_of h
    by_cases h2 : j < n
    · exact Or.inr (Or.inr ⟨j, h2, rfl⟩)
    · exact Or.inr (Or.inl (nI_le (by omega) hj))
theorem pk_le {x y : Int32} {A B : Prop} (a b : Nat) (f : a ≤ b → A) (g : b < a → B) (hx : x = nI a := by rfl) (hy : y = nI b := by rfl) (ha : a < 2 ^ 31 := by omega) (hb : b < 2 ^ 31 := by omega) : (x ≤ y → A) ∧ (¬ x ≤ y → B) := by
  subst hx hy
  rw [nI_leI ha hb]
  exact ⟨f, fun z => g (by omega)⟩
theorem pk_lt {x y : Int32} {A B : Prop} (a b : Nat) (f : a < b → A) (g : b ≤ a → B) (hx : x = nI a := by rfl) (hy : y = nI b := by rfl) (ha : a < 2 ^ 31 := by omega) (hb : b < 2 ^ 31 := by omega) : (x < y → A) ∧ (¬ x < y → B) := by
  subst hx hy
  rw [nI_ltI ha hb]
  exact ⟨f, fun z => g (by omega)⟩
theorem pk_eq {x y : Int32} {A B : Prop} (a b : Nat) (f : a = b → A) (g : a ≠ b → B) (hx : x = nI a := by rfl) (hy : y = nI b := by rfl) (ha : a < 2 ^ 31 := by omega) (hb : b < 2 ^ 31 := by omega) : (x = y → A) ∧ (¬ x = y → B) := by
  subst hx hy
  rw [nI_eq ha hb]
  exact ⟨f, g⟩
theorem pk_in {x : Int32} (n N : Nat) (h : n < N) (hx : x = nI n := by rfl) (hN : N < 2 ^ 31 := by omega) : vp_in x N := by
  subst hx
  exact vp_in_nI h hN
theorem pk_cl {x : Int32} (n : Nat) (hx : x = nI n := by rfl) (h : n < 2 ^ 31 := by omega) : x.toNatClampNeg = n := by
  subst hx
  exact nI_clamp h
/-! truth values, sets held by arrays, stores -/
def cp_bI (b : Bool) : Int32 := if b = true then 1 else 0
def cp_TF (r : Int32) (P : Prop) : Prop := (r = 1 ∧ P) ∨ (r = 0 ∧ ¬ P)
theorem cp_10 : ¬ (1 : Int32) = 0 := by decide
theorem cp_TF_t {r : Int32} {P : Prop} (h : cp_TF r P) (p : P) : r = 1 := h.elim (fun a => a.1) (fun a => absurd p a.2)
theorem cp_TF_f {r : Int32} {P : Prop} (h : cp_TF r P) (p : ¬ P) : r = 0 := h.elim (fun a => absurd a.2 p) (fun a => a.1)
theorem cp_TF_0 {r : Int32} {P : Prop} (h : cp_TF r P) (e : r = 0) : ¬ P := h.elim (fun a => absurd (a.1.symm.trans e) cp_10) (fun a => a.2)
theorem cp_TF_1 {r : Int32} {P : Prop} (h : cp_TF r P) (e : ¬ r = 0) : P := h.elim (fun a => a.2) (fun a => absurd a.1 e)
theorem cp_TF_n {r : Int32} {P : Prop} (h : cp_TF r P) (p : P) : ¬ r = 0 := fun e => cp_TF_0 h e p
theorem cp_TF_iff {r : Int32} {P Q : Prop} (h : cp_TF r P) (e : P ↔ Q) : cp_TF r Q := h.elim (fun a => Or.inl ⟨a.1, e.mp a.2⟩) (fun a => Or.inr ⟨a.1, fun q => a.2 (e.mpr q)⟩)
theorem cp_TF_b (b : Bool) : cp_TF (cp_bI b) (b = true) := by
  cases b
  · exact Or.inr ⟨rfl, fun h => nomatch h⟩
  · exact Or.inl ⟨rfl, rfl⟩
theorem cp_TF_eq {r r' : Int32} {P : Prop} (h : cp_TF r P) (h' : cp_TF r' P) : r' = r := by
  by_cases p : P
  · rw [cp_TF_t h p, cp_TF_t h' p]
  · rw [cp_TF_f h p, cp_TF_f h' p]
theorem cp_TF_br {r : Int32} {P A B : Prop} (h : cp_TF r P) (f : ¬ P → A) (g : P → B) : (r = 0 → A) ∧ (¬ r = 0 → B) := ⟨fun e => f (cp_TF_0 h e), fun e => g (cp_TF_1 h e)⟩
theorem cp_TF_T {P : Prop} (p : P) : cp_TF 1 P := Or.inl ⟨rfl, p⟩
theorem cp_TF_F {P : Prop} (p : ¬ P) : cp_TF 0 P := Or.inr ⟨rfl, p⟩
def cp_Rp (l : Nat → Int32) (L : Nat → Prop) (N : Nat) : Prop := ∀ j, j < N → cp_TF (l j) (L j)
theorem cp_Rp_upd {l : Nat → Int32} {L : Nat → Prop} {N t : Nat} (h : cp_Rp l L N) : cp_Rp (upd l t 1) (fun j => L j ∨ j = t) N := by
  intro j hj
  by_cases e : j = t
  · subst e
    rw [pk_us]
    exact cp_TF_T (Or.inr rfl)
  · rw [pk_un e]
    exact cp_TF_iff (h j hj) ⟨Or.inl, fun z => z.elim id (fun z => absurd z e)⟩
theorem cp_Rp_iff {l : Nat → Int32} {L L' : Nat → Prop} {N : Nat} (h : cp_Rp l L N) (e : ∀ j, j < N → (L j ↔ L' j)) : cp_Rp l L' N := fun j hj => cp_TF_iff (h j hj) (e j hj)
def cp_up {α : Type} (f : Nat → α) (k : Nat) (v : α) : Nat → α := fun j => if j = k then v else f j
theorem cp_up_s {α : Type} {f : Nat → α} {k : Nat} {v : α} : cp_up f k v k = v := if_pos rfl
theorem cp_up_n {α : Type} {f : Nat → α} {k j : Nat} {v : α} (h : j ≠ k) : cp_up f k v j = f j := if_neg h
theorem cp_up_I (f : Nat → Nat) (k v : Nat) : upd (fun j => nI (f j)) k (nI v) = fun j => nI (cp_up f k v j) := by
  funext j
  by_cases e : j = k
  · subst e
    rw [pk_us, cp_up_s]
  · rw [pk_un e, cp_up_n e]
theorem cp_up_B (f : Nat → Bool) (k : Nat) (v : Bool) : upd (fun j => cp_bI (f j)) k (cp_bI v) = fun j => cp_bI (cp_up f k v j) := by
  funext j
  by_cases e : j = k
  · subst e
    rw [pk_us, cp_up_s]
  · rw [pk_un e, cp_up_n e]
theorem cp_up_W (f : Nat → Int32) (k : Nat) (v : Int32) : upd f k v = cp_up f k v := rfl
/-! sums of naturals -/
def cp_sum (f : Nat → Nat) : Nat → Nat
  | 0 => 0
  | n + 1 => cp_sum f n + f n
theorem cp_sum_eq {f g : Nat → Nat} : ∀ n : Nat, (∀ j, j < n → f j = g j) → cp_sum f n = cp_sum g n
  | 0, _ => rfl
  | n + 1, h => by
    have a := cp_sum_eq n (fun j hj => h j (by omega))
    have b := h n (by omega)
    show cp_sum f n + f n = cp_sum g n + g n
    omega
theorem cp_sum_le {f g : Nat → Nat} : ∀ n : Nat, (∀ j, j < n → f j ≤ g j) → cp_sum f n ≤ cp_sum g n
  | 0, _ => Nat.le_refl _
  | n + 1, h => by
    have a := cp_sum_le n (fun j hj => h j (by omega))
    have b := h n (by omega)
    show cp_sum f n + f n ≤ cp_sum g n + g n
    omega
theorem cp_sum_1 {f : Nat → Nat} {k : Nat} : ∀ n : Nat, k < n → f k ≤ cp_sum f n
  | 0, h => by omega
  | n + 1, h => by
    show f k ≤ cp_sum f n + f n
    by_cases e : k = n
    · subst e
      omega
    · have := cp_sum_1 (f := f) (k := k) n (by omega)
      omega
theorem cp_sum_ch {f g : Nat → Nat} {k : Nat} : ∀ n : Nat, k < n → (∀ j, j < n → j ≠ k → f j = g j) → cp_sum f n + g k = cp_sum g n + f k
  | 0, h, _ => by omega
  | n + 1, h, e => by
    show cp_sum f n + f n + g k = cp_sum g n + g n + f k
    by_cases z : k = n
    · subst z
      have := cp_sum_eq (f := f) (g := g) k (fun j hj => e j (by omega) (by omega))
      omega
    · have a := cp_sum_ch (f := f) (g := g) (k := k) n (by omega) (fun j hj hk => e j (by omega) hk)
      have b := e n (by omega) (fun q => z q.symm)
      omega
theorem cp_sum_pt {f : Nat → Nat} {k v : Nat} : ∀ n : Nat, cp_sum (fun o => f o + if o = k then v else 0) n ≤ cp_sum f n + if k < n then v else 0
  | 0 => Nat.zero_le _
  | n + 1 => by
    have a := cp_sum_pt (f := f) (k := k) (v := v) n
    show cp_sum (fun o => f o + if o = k then v else 0) n + (f n + if n = k then v else 0) ≤ cp_sum f n + f n + if k < n + 1 then v else 0
    by_cases z : n = k
    · subst z
      rw [if_pos rfl, if_pos (by omega)]
      rw [if_neg (by omega)] at a
      omega
    · rw [if_neg z]
      by_cases y : k < n
      · rw [if_pos y] at a
        rw [if_pos (by omega)]
        omega
      · rw [if_neg y] at a
        rw [if_neg (by omega)]
        omega
noncomputable def cp_iv (p : Prop) (a : Nat) : Nat := @ite Nat p (Classical.propDecidable p) a 0
theorem cp_iv_t {p : Prop} {a : Nat} (h : p) : cp_iv p a = a := if_pos h
theorem cp_iv_f {p : Prop} {a : Nat} (h : ¬ p) : cp_iv p a = 0 := if_neg h
theorem cp_iv_i {p q : Prop} {a : Nat} (h : p ↔ q) : cp_iv p a = cp_iv q a := by
  by_cases z : p
  · rw [cp_iv_t z, cp_iv_t (h.mp z)]
  · rw [cp_iv_f z, cp_iv_f (fun y => z (h.mpr y))]
theorem cp_iv_le (p : Prop) (a : Nat) : cp_iv p a ≤ a := by
  by_cases z : p
  · rw [cp_iv_t z]
    exact Nat.le_refl _
  · rw [cp_iv_f z]
    exact Nat.zero_le _
end
section
/-! the lock script, by itself -/
def cp_need (c : Int32) : Nat := if c = 1 ∨ c = 10 ∨ c = 11 then 0 else if c = 2 ∨ c = 9 ∨ c = 13 ∨ c = 15 then 1 else 2
def cp_grow (c : Int32) (n : Nat) : Nat := if c = 1 ∨ c = 2 ∨ c = 10 ∨ c = 11 ∨ c = 14 then n + 1 else if c = 8 ∨ c = 13 then n else n - 1
def cp_res (c top below h : Int32) : Int32 :=
  if c = 1 then 1 else if c = 2 then top else if c = 3 then below + top else if c = 4 then below * top else if c = 5 then below - top
  else if c = 6 then (if below = top then 1 else 0) else if c = 7 then (if below < top then 1 else 0) else if c = 10 then h
  else if c = 11 then 2 else if c = 12 then below ^^^ top else if c = 13 then (if top = 0 then 1 else 0) else below
def cp_top (g : Nat → Int32) (n : Nat) : Int32 := if 0 < n then g (n - 1) else 0
def cp_bel (g : Nat → Int32) (n : Nat) : Int32 := if 1 < n then g (n - 2) else 0
def cp_nst (c : Int32) (n : Nat) (g : Nat → Int32) (h : Int32) : Nat → Int32 :=
  if 0 < cp_grow c n then upd (if c = 8 then upd g (n - 2) (cp_top g n) else g) (cp_grow c n - 1) (cp_res c (cp_top g n) (cp_bel g n) h)
  else (if c = 8 then upd g (n - 2) (cp_top g n) else g)
def cp_code (lock : Int32) (k : Nat) : Int32 := (lock.toUInt32 >>> ((nI (4 * k)).toUInt32 &&& Int32.toUInt32 31)).toInt32 &&& 15
def cp_end (n : Nat) (g : Nat → Int32) : Prop := 0 < n ∧ ¬ g (n - 1) = 0
def cp_run (lock h : Int32) : Nat → Nat → Nat → (Nat → Int32) → Prop
  | 0, _, n, g => cp_end n g
  | d + 1, k, n, g =>
    (cp_code lock k = 0 ∧ cp_end n g) ∨
    (¬ cp_code lock k = 0 ∧ cp_need (cp_code lock k) ≤ n ∧ ¬ (cp_code lock k = 15 ∧ cp_top g n = 0) ∧ cp_run lock h d (k + 1) (cp_grow (cp_code lock k) n) (cp_nst (cp_code lock k) n g h))
def cp_OP (lock w h : Int32) : Prop := cp_run lock h 8 0 1 (fun _ => w)
/-! the chain below a block -/
def cp_an (par : Nat → Nat) : Nat → Nat → Nat
  | 0, b => b
  | k + 1, b => cp_an par k (par b)
def cp_pt (par hg : Nat → Nat) (b i : Nat) : Nat := cp_an par (hg b - i) b
def cp_inT (ic so : Nat → Nat) (t o : Nat) : Prop := ∃ k, k < ic t ∧ so (2 * t + k) = o
def cp_inB (cn tx : Nat → Nat) (b j : Nat) : Prop := j = 32 + b ∨ ∃ i, i < cn b ∧ tx (3 * b + i) = j
def cp_inS (ic so cn tx : Nat → Nat) (b o : Nat) : Prop := ∃ i, i < cn b ∧ cp_inT ic so (tx (3 * b + i)) o
def cp_LS (hg par cn tx : Nat → Nat) (b j : Nat) : Prop := ∃ i, i ≤ hg b ∧ cp_inB cn tx (cp_pt par hg b i) j
def cp_SP (ic so hg par cn tx : Nat → Nat) (b o : Nat) : Prop := ∃ i, i ≤ hg b ∧ cp_inS ic so cn tx (cp_pt par hg b i) o
def cp_Tr (hg par st : Nat → Nat) : Prop := st 0 = 3 ∧ hg 0 = 0 ∧ ∀ b, b < 24 → st b = 3 → b ≠ 0 → par b < 24 ∧ st (par b) = 3 ∧ hg b = hg (par b) + 1
section
variable {hg par st cn tx ic so : Nat → Nat}
theorem cp_pt_top (b : Nat) : cp_pt par hg b (hg b) = b := by
  unfold cp_pt
  rw [Nat.sub_self]
  rfl
theorem cp_pt_par (T : cp_Tr hg par st) {b i : Nat} (hb : b < 24) (cb : st b = 3) (hi : i < hg b) : cp_pt par hg b i = cp_pt par hg (par b) i := by
  have nb : b ≠ 0 := by
    intro e
    rw [e, T.2.1] at hi
    omega
  have h := (T.2.2 b hb cb nb).2.2
  unfold cp_pt
  rw [show hg b - i = (hg (par b) - i) + 1 from by omega]
  rfl
theorem cp_hg0 (T : cp_Tr hg par st) {b : Nat} (hb : b < 24) (cb : st b = 3) (h : hg b = 0) : b = 0 := by
  by_cases e : b = 0
  · exact e
  · have := (T.2.2 b hb cb e).2.2
    omega
theorem cp_pt_all (T : cp_Tr hg par st) : ∀ (n b : Nat), b < 24 → st b = 3 → hg b = n → ∀ i, i ≤ n → cp_pt par hg b i < 24 ∧ st (cp_pt par hg b i) = 3 ∧ hg (cp_pt par hg b i) = i ∧ (0 < i → par (cp_pt par hg b i) = cp_pt par hg b (i - 1)) := by
  intro n
  induction n with
  | zero =>
    intro b hb cb hn i hi
    have ei : i = hg b := by omega
    rw [ei, cp_pt_top]
    exact ⟨hb, cb, rfl, fun z => by omega⟩
  | succ n ih =>
    intro b hb cb hn i hi
    have nb : b ≠ 0 := by
      intro e
      rw [e, T.2.1] at hn
      omega
    obtain ⟨h1, h2, h3⟩ := T.2.2 b hb cb nb
    by_cases ei : i = hg b
    · rw [ei, cp_pt_top]
      refine ⟨hb, cb, rfl, fun z => ?_⟩
      rw [cp_pt_par T hb cb (by omega), show hg b - 1 = hg (par b) from by omega, cp_pt_top]
    · rw [cp_pt_par T hb cb (by omega)]
      obtain ⟨a1, a2, a3, a4⟩ := ih (par b) h1 h2 (by omega) i (by omega)
      refine ⟨a1, a2, a3, fun z => ?_⟩
      rw [a4 z, cp_pt_par T hb cb (by omega)]
theorem cp_pt_in (T : cp_Tr hg par st) {b i : Nat} (hb : b < 24) (cb : st b = 3) (hi : i ≤ hg b) : cp_pt par hg b i < 24 := (cp_pt_all T (hg b) b hb cb rfl i hi).1
theorem cp_pt_st (T : cp_Tr hg par st) {b i : Nat} (hb : b < 24) (cb : st b = 3) (hi : i ≤ hg b) : st (cp_pt par hg b i) = 3 := (cp_pt_all T (hg b) b hb cb rfl i hi).2.1
theorem cp_pt_hg (T : cp_Tr hg par st) {b i : Nat} (hb : b < 24) (cb : st b = 3) (hi : i ≤ hg b) : hg (cp_pt par hg b i) = i := (cp_pt_all T (hg b) b hb cb rfl i hi).2.2.1
theorem cp_pt_up (T : cp_Tr hg par st) {b i : Nat} (hb : b < 24) (cb : st b = 3) (hi : i ≤ hg b) (h0 : 0 < i) : par (cp_pt par hg b i) = cp_pt par hg b (i - 1) := (cp_pt_all T (hg b) b hb cb rfl i hi).2.2.2 h0
theorem cp_pt_0 (T : cp_Tr hg par st) {b : Nat} (hb : b < 24) (cb : st b = 3) : cp_pt par hg b 0 = 0 := cp_hg0 T (cp_pt_in T hb cb (Nat.zero_le _)) (cp_pt_st T hb cb (Nat.zero_le _)) (cp_pt_hg T hb cb (Nat.zero_le _))
theorem cp_pt_pt (T : cp_Tr hg par st) {b : Nat} (hb : b < 24) (cb : st b = 3) : ∀ (d i j : Nat), i + d = hg b → j ≤ i → cp_pt par hg (cp_pt par hg b i) j = cp_pt par hg b j := by
  intro d
  induction d with
  | zero =>
    intro i j hi hj
    rw [show i = hg b from by omega, cp_pt_top]
  | succ d ih =>
    intro i j hi hj
    have e := ih (i + 1) j (by omega) (by omega)
    have h1 := cp_pt_hg T hb cb (i := i + 1) (by omega)
    have e2 := cp_pt_par T (b := cp_pt par hg b (i + 1)) (i := j) (cp_pt_in T hb cb (by omega)) (cp_pt_st T hb cb (by omega)) (by omega)
    rw [cp_pt_up T hb cb (i := i + 1) (by omega) (by omega), show i + 1 - 1 = i from rfl] at e2
    exact e2.symm.trans e
theorem cp_LS_0 (T : cp_Tr hg par st) (j : Nat) : cp_LS hg par cn tx 0 j ↔ cp_inB cn tx 0 j := by
  have e : cp_pt par hg 0 0 = 0 := by
    have := cp_pt_top (par := par) (hg := hg) 0
    rw [T.2.1] at this
    exact this
  constructor
  · rintro ⟨i, hi, h⟩
    rw [T.2.1] at hi
    rw [show i = 0 from by omega, e] at h
    exact h
  · intro h
    exact ⟨0, Nat.zero_le _, by rw [e]; exact h⟩
theorem cp_LS_s (T : cp_Tr hg par st) {b : Nat} (hb : b < 24) (cb : st b = 3) (nb : b ≠ 0) (j : Nat) : cp_LS hg par cn tx b j ↔ cp_LS hg par cn tx (par b) j ∨ cp_inB cn tx b j := by
  obtain ⟨h1, h2, h3⟩ := T.2.2 b hb cb nb
  constructor
  · rintro ⟨i, hi, h⟩
    by_cases e : i = hg b
    · rw [e, cp_pt_top] at h
      exact Or.inr h
    · rw [cp_pt_par T hb cb (by omega)] at h
      exact Or.inl ⟨i, by omega, h⟩
  · rintro (⟨i, hi, h⟩ | h)
    · exact ⟨i, by omega, by rw [cp_pt_par T hb cb (by omega)]; exact h⟩
    · exact ⟨hg b, Nat.le_refl _, by rw [cp_pt_top]; exact h⟩
theorem cp_SP_s (T : cp_Tr hg par st) {b : Nat} (hb : b < 24) (cb : st b = 3) (nb : b ≠ 0) (o : Nat) : cp_SP ic so hg par cn tx b o ↔ cp_SP ic so hg par cn tx (par b) o ∨ cp_inS ic so cn tx b o := by
  obtain ⟨h1, h2, h3⟩ := T.2.2 b hb cb nb
  constructor
  · rintro ⟨i, hi, h⟩
    by_cases e : i = hg b
    · rw [e, cp_pt_top] at h
      exact Or.inr h
    · rw [cp_pt_par T hb cb (by omega)] at h
      exact Or.inl ⟨i, by omega, h⟩
  · rintro (⟨i, hi, h⟩ | h)
    · exact ⟨i, by omega, by rw [cp_pt_par T hb cb (by omega)]; exact h⟩
    · exact ⟨hg b, Nat.le_refl _, by rw [cp_pt_top]; exact h⟩
end
/-! when a transaction fits, when a block is right -/
def cp_IO (so oc hg : Nat → Nat) (wi lk : Nat → Int32) (L S : Nat → Prop) (h k : Nat) : Prop :=
  so k % 2 < oc (so k / 2) ∧ L (so k / 2) ∧ ¬ S (so k) ∧ (so k / 2 < 32 ∨ hg (so k / 2 - 32) + 2 ≤ h) ∧ cp_OP (lk (so k)) (wi k) (nI h)
def cp_sd (ic so am : Nat → Nat) (t : Nat) : Nat := (if 0 < ic t then am (so (2 * t)) else 0) + (if 1 < ic t then am (so (2 * t + 1)) else 0)
def cp_gv (oc am : Nat → Nat) (t : Nat) : Nat := (if 0 < oc t then am (2 * t) else 0) + (if 1 < oc t then am (2 * t + 1) else 0)
def cp_FT (ic : Nat → Nat) (so : Nat → Nat) (oc : Nat → Nat) (am : Nat → Nat) (hg : Nat → Nat) (sl : Nat → Bool) (wi : Nat → Int32) (lk : Nat → Int32) (L S : Nat → Prop) (t h : Nat) : Prop :=
  sl t = true ∧ ic t ≠ 0 ∧ oc t ≠ 0 ∧ ¬ L t ∧ ¬ (ic t = 2 ∧ so (2 * t) = so (2 * t + 1)) ∧ (∀ k, k < ic t → cp_IO so oc hg wi lk L S h (2 * t + k)) ∧ cp_gv oc am t ≤ cp_sd ic so am t
def cp_Lc (hg par cn tx : Nat → Nat) (b i j : Nat) : Prop := cp_LS hg par cn tx (par b) j ∨ ∃ q, q < i ∧ tx (3 * b + q) = j
def cp_Sc (ic so hg par cn tx : Nat → Nat) (b i o : Nat) : Prop := cp_SP ic so hg par cn tx (par b) o ∨ ∃ q, q < i ∧ cp_inT ic so (tx (3 * b + q)) o
def cp_fs (ic so oc am tx : Nat → Nat) (b n : Nat) : Nat := cp_sum (fun i => cp_sd ic so am (tx (3 * b + i)) - cp_gv oc am (tx (3 * b + i))) n
def cp_CKn (ic : Nat → Nat) (so : Nat → Nat) (oc : Nat → Nat) (am : Nat → Nat) (hg : Nat → Nat) (par : Nat → Nat) (cn : Nat → Nat) (tx : Nat → Nat) (sl : Nat → Bool) (wi : Nat → Int32) (lk : Nat → Int32) (b n : Nat) : Prop := ∀ i, i < n → cp_FT ic so oc am hg sl wi lk (cp_Lc hg par cn tx b i) (cp_Sc ic so hg par cn tx b i) (tx (3 * b + i)) (hg b)
def cp_CK (ic : Nat → Nat) (so : Nat → Nat) (oc : Nat → Nat) (am : Nat → Nat) (hg : Nat → Nat) (par : Nat → Nat) (cn : Nat → Nat) (tx : Nat → Nat) (sl : Nat → Bool) (wi : Nat → Int32) (lk : Nat → Int32) (b : Nat) : Prop := cp_CKn ic so oc am hg par cn tx sl wi lk b (cn b) ∧ am (64 + 2 * b) ≤ 50 + cp_fs ic so oc am tx b (cn b)
def cp_fz (st : Nat → Nat) (sl : Nat → Bool) (j : Nat) : Prop := (j < 32 ∧ sl j = true) ∨ (32 ≤ j ∧ j < 56 ∧ st (j - 32) = 3)
end
section
/-! ranges; what is frozen; what a change of the rest leaves alone -/
def cp_RB (ic : Nat → Nat) (so : Nat → Nat) (oc : Nat → Nat) (am : Nat → Nat) (hg : Nat → Nat) (par : Nat → Nat) (cn : Nat → Nat) (tx : Nat → Nat) (st : Nat → Nat) (sl : Nat → Bool) (wi : Nat → Int32) (lk : Nat → Int32) : Prop :=
  (∀ t, ic t ≤ 2) ∧ (∀ k, so k < 112) ∧ (∀ j, oc j ≤ 2) ∧ (∀ o, am o ≤ 10000) ∧ (∀ b, st b ≤ 3) ∧ (∀ b, par b < 24) ∧ (∀ b, cn b ≤ 3) ∧ (∀ k, tx k < 32) ∧
  (∀ o, 0 < am o ↔ o % 2 < oc (o / 2)) ∧ (∀ o, o < 64 → am o ≤ 1000) ∧ (∀ b i, i < cn b → sl (tx (3 * b + i)) = true) ∧ (∀ b, oc (32 + b) ≤ 1) ∧ (∀ b, 1 ≤ st b → oc (32 + b) = 1)
def cp_Fr (ic : Nat → Nat) (so : Nat → Nat) (oc : Nat → Nat) (am : Nat → Nat) (hg : Nat → Nat) (par : Nat → Nat) (cn : Nat → Nat) (tx : Nat → Nat) (st : Nat → Nat) (sl : Nat → Bool) (wi : Nat → Int32) (lk : Nat → Int32) (ic' : Nat → Nat) (so' : Nat → Nat) (oc' : Nat → Nat) (am' : Nat → Nat) (hg' : Nat → Nat) (par' : Nat → Nat) (cn' : Nat → Nat) (tx' : Nat → Nat) (st' : Nat → Nat) (sl' : Nat → Bool) (wi' : Nat → Int32) (lk' : Nat → Int32) : Prop :=
  (∀ t, t < 32 → sl t = true → sl' t = true ∧ ic' t = ic t ∧ ∀ k, k < 2 → so' (2 * t + k) = so (2 * t + k) ∧ wi' (2 * t + k) = wi (2 * t + k)) ∧
  (∀ b, b < 24 → st b = 3 → st' b = 3 ∧ par' b = par b ∧ cn' b = cn b ∧ hg' b = hg b ∧ ∀ i, i < 3 → tx' (3 * b + i) = tx (3 * b + i)) ∧
  (∀ j, cp_fz st sl j → oc' j = oc j ∧ ∀ i, i < 2 → am' (2 * j + i) = am (2 * j + i) ∧ lk' (2 * j + i) = lk (2 * j + i))
section
variable {ic so oc am hg par cn tx st : Nat → Nat} {sl : Nat → Bool} {wi lk : Nat → Int32}
variable {ic' so' oc' am' hg' par' cn' tx' st' : Nat → Nat} {sl' : Nat → Bool} {wi' lk' : Nat → Int32}
theorem cp_RB_ic (B : cp_RB ic so oc am hg par cn tx st sl wi lk) (t : Nat) : ic t ≤ 2 := B.1 t
theorem cp_RB_so (B : cp_RB ic so oc am hg par cn tx st sl wi lk) (k : Nat) : so k < 112 := B.2.1 k
theorem cp_RB_oc (B : cp_RB ic so oc am hg par cn tx st sl wi lk) (j : Nat) : oc j ≤ 2 := B.2.2.1 j
theorem cp_RB_am (B : cp_RB ic so oc am hg par cn tx st sl wi lk) (o : Nat) : am o ≤ 10000 := B.2.2.2.1 o
theorem cp_RB_st (B : cp_RB ic so oc am hg par cn tx st sl wi lk) (b : Nat) : st b ≤ 3 := B.2.2.2.2.1 b
theorem cp_RB_par (B : cp_RB ic so oc am hg par cn tx st sl wi lk) (b : Nat) : par b < 24 := B.2.2.2.2.2.1 b
theorem cp_RB_cn (B : cp_RB ic so oc am hg par cn tx st sl wi lk) (b : Nat) : cn b ≤ 3 := B.2.2.2.2.2.2.1 b
theorem cp_RB_tx (B : cp_RB ic so oc am hg par cn tx st sl wi lk) (k : Nat) : tx k < 32 := B.2.2.2.2.2.2.2.1 k
theorem cp_RB_ao (B : cp_RB ic so oc am hg par cn tx st sl wi lk) (o : Nat) : 0 < am o ↔ o % 2 < oc (o / 2) := B.2.2.2.2.2.2.2.2.1 o
theorem cp_RB_a1 (B : cp_RB ic so oc am hg par cn tx st sl wi lk) {o : Nat} (h : o < 64) : am o ≤ 1000 := B.2.2.2.2.2.2.2.2.2.1 o h
theorem cp_RB_sl (B : cp_RB ic so oc am hg par cn tx st sl wi lk) {b i : Nat} (h : i < cn b) : sl (tx (3 * b + i)) = true := B.2.2.2.2.2.2.2.2.2.2.1 b i h
theorem cp_RB_o1 (B : cp_RB ic so oc am hg par cn tx st sl wi lk) (b : Nat) : oc (32 + b) ≤ 1 := B.2.2.2.2.2.2.2.2.2.2.2.1 b
theorem cp_RB_o2 (B : cp_RB ic so oc am hg par cn tx st sl wi lk) {b : Nat} (h : 1 ≤ st b) : oc (32 + b) = 1 := B.2.2.2.2.2.2.2.2.2.2.2.2 b h
theorem cp_sd_m {t : Nat} {L : Nat → Prop} (hi : ic t ≤ 2) (e2 : ic' t = ic t) (e4 : ∀ k, k < 2 → so' (2 * t + k) = so (2 * t + k)) (hL : ∀ k, k < ic t → L (so (2 * t + k) / 2))
    (e5 : ∀ j, L j → ∀ i, i < 2 → am' (2 * j + i) = am (2 * j + i)) : cp_sd ic' so' am' t = cp_sd ic so am t := by
  have key : ∀ k, k < ic t → am' (so' (2 * t + k)) = am (so (2 * t + k)) := by
    intro k hk
    have a := e5 _ (hL k hk) (so (2 * t + k) % 2) (Nat.mod_lt _ (by decide))
    rw [Nat.div_add_mod] at a
    rw [e4 k (by omega)]
    exact a
  unfold cp_sd
  rw [e2]
  by_cases h0 : 0 < ic t
  · rw [if_pos h0, if_pos h0]
    have k0 := key 0 h0
    rw [Nat.add_zero] at k0
    rw [k0]
    by_cases h1 : 1 < ic t
    · rw [if_pos h1, if_pos h1, key 1 h1]
    · rw [if_neg h1, if_neg h1]
  · rw [if_neg h0, if_neg h0, if_neg (by omega), if_neg (by omega)]
theorem cp_gv_m {t : Nat} (e3 : oc' t = oc t) (e6 : ∀ i, i < 2 → am' (2 * t + i) = am (2 * t + i)) : cp_gv oc' am' t = cp_gv oc am t := by
  unfold cp_gv
  have a := e6 0 (by decide)
  have b := e6 1 (by decide)
  rw [Nat.add_zero] at a
  rw [e3, a, b]
theorem cp_FT_m {t h : Nat} {L S : Nat → Prop} (e1 : sl t = true → sl' t = true) (hi : ic t ≤ 2) (e2 : ic' t = ic t) (e3 : oc' t = oc t)
    (e4 : ∀ k, k < 2 → so' (2 * t + k) = so (2 * t + k) ∧ wi' (2 * t + k) = wi (2 * t + k))
    (e5 : ∀ j, L j → oc' j = oc j ∧ (∀ i, i < 2 → am' (2 * j + i) = am (2 * j + i) ∧ lk' (2 * j + i) = lk (2 * j + i)) ∧ (32 ≤ j → hg' (j - 32) = hg (j - 32)))
    (e6 : ∀ i, i < 2 → am' (2 * t + i) = am (2 * t + i)) (H : cp_FT ic so oc am hg sl wi lk L S t h) : cp_FT ic' so' oc' am' hg' sl' wi' lk' L S t h := by
  obtain ⟨h1, h2, h3, h4, h5, h6, h7⟩ := H
  have s0 := (e4 0 (by decide)).1
  rw [Nat.add_zero] at s0
  refine ⟨e1 h1, by rw [e2]; exact h2, by rw [e3]; exact h3, h4, ?_, ?_, ?_⟩
  · rw [e2, s0, (e4 1 (by decide)).1]
    exact h5
  · intro k hk
    rw [e2] at hk
    obtain ⟨a1, a2, a3, a4, a5⟩ := h6 k hk
    obtain ⟨f1, f2, f3⟩ := e5 _ a2
    have f2' := (f2 (so (2 * t + k) % 2) (Nat.mod_lt _ (by decide))).2
    rw [Nat.div_add_mod] at f2'
    obtain ⟨g1, g2⟩ := e4 k (by omega)
    unfold cp_IO
    rw [g1, g2, f1, f2']
    refine ⟨a1, a2, a3, ?_, a5⟩
    by_cases z : so (2 * t + k) / 2 < 32
    · exact Or.inl z
    · rw [f3 (by omega)]
      exact a4
  · rw [cp_gv_m e3 e6, cp_sd_m hi e2 (fun k hk => (e4 k hk).1) (fun k hk => (h6 k hk).2.1) (fun j hj i hi => ((e5 j hj).2.1 i hi).1)]
    exact h7
theorem cp_pt_fr (T : cp_Tr hg par st) (f : cp_Fr ic so oc am hg par cn tx st sl wi lk ic' so' oc' am' hg' par' cn' tx' st' sl' wi' lk') : ∀ (n b : Nat), b < 24 → st b = 3 → hg b = n → ∀ i, i ≤ n → cp_pt par' hg' b i = cp_pt par hg b i := by
  intro n
  induction n with
  | zero =>
    intro b hb cb hn i hi
    have e := (f.2.1 b hb cb).2.2.2.1
    unfold cp_pt
    rw [e, hn, show 0 - i = 0 from by omega]
    rfl
  | succ n ih =>
    intro b hb cb hn i hi
    have nb : b ≠ 0 := by
      intro e
      rw [e, T.2.1] at hn
      omega
    obtain ⟨h1, h2, h3⟩ := T.2.2 b hb cb nb
    obtain ⟨_, p2, _, p4, _⟩ := f.2.1 b hb cb
    obtain ⟨_, _, _, q4, _⟩ := f.2.1 (par b) h1 h2
    by_cases ei : i = hg b
    · rw [ei, cp_pt_top]
      rw [← p4]
      exact cp_pt_top b
    · rw [cp_pt_par T hb cb (by omega), ← ih (par b) h1 h2 (by omega) i (by omega)]
      unfold cp_pt
      rw [p4, q4, show hg b - i = (hg (par b) - i) + 1 from by omega]
      show cp_an par' _ (par' b) = _
      rw [p2]
theorem cp_inB_fr (B : cp_RB ic so oc am hg par cn tx st sl wi lk) (f : cp_Fr ic so oc am hg par cn tx st sl wi lk ic' so' oc' am' hg' par' cn' tx' st' sl' wi' lk') {b : Nat} (hb : b < 24) (cb : st b = 3) (j : Nat) : cp_inB cn' tx' b j ↔ cp_inB cn tx b j := by
  obtain ⟨_, _, p3, _, p5⟩ := f.2.1 b hb cb
  have c := cp_RB_cn B b
  unfold cp_inB
  rw [p3]
  constructor
  · rintro (h | ⟨i, hi, h⟩)
    · exact Or.inl h
    · exact Or.inr ⟨i, hi, by rw [← p5 i (by omega)]; exact h⟩
  · rintro (h | ⟨i, hi, h⟩)
    · exact Or.inl h
    · exact Or.inr ⟨i, hi, by rw [p5 i (by omega)]; exact h⟩
theorem cp_inT_fr (B : cp_RB ic so oc am hg par cn tx st sl wi lk) (f : cp_Fr ic so oc am hg par cn tx st sl wi lk ic' so' oc' am' hg' par' cn' tx' st' sl' wi' lk') {t : Nat} (ht : t < 32) (s : sl t = true) (o : Nat) : cp_inT ic' so' t o ↔ cp_inT ic so t o := by
  obtain ⟨_, e2, e3⟩ := f.1 t ht s
  have c := cp_RB_ic B t
  unfold cp_inT
  rw [e2]
  constructor
  · rintro ⟨k, hk, h⟩
    exact ⟨k, hk, by rw [← (e3 k (by omega)).1]; exact h⟩
  · rintro ⟨k, hk, h⟩
    exact ⟨k, hk, by rw [(e3 k (by omega)).1]; exact h⟩
theorem cp_inS_fr (B : cp_RB ic so oc am hg par cn tx st sl wi lk) (f : cp_Fr ic so oc am hg par cn tx st sl wi lk ic' so' oc' am' hg' par' cn' tx' st' sl' wi' lk') {b : Nat} (hb : b < 24) (cb : st b = 3) (o : Nat) : cp_inS ic' so' cn' tx' b o ↔ cp_inS ic so cn tx b o := by
  obtain ⟨_, _, p3, _, p5⟩ := f.2.1 b hb cb
  have c := cp_RB_cn B b
  unfold cp_inS
  rw [p3]
  constructor
  · rintro ⟨i, hi, h⟩
    refine ⟨i, hi, ?_⟩
    rw [p5 i (by omega)] at h
    exact (cp_inT_fr B f (cp_RB_tx B _) (cp_RB_sl B hi) o).mp h
  · rintro ⟨i, hi, h⟩
    refine ⟨i, hi, ?_⟩
    rw [p5 i (by omega)]
    exact (cp_inT_fr B f (cp_RB_tx B _) (cp_RB_sl B hi) o).mpr h
theorem cp_LS_fr (B : cp_RB ic so oc am hg par cn tx st sl wi lk) (T : cp_Tr hg par st) (f : cp_Fr ic so oc am hg par cn tx st sl wi lk ic' so' oc' am' hg' par' cn' tx' st' sl' wi' lk') {b : Nat} (hb : b < 24) (cb : st b = 3) (j : Nat) : cp_LS hg' par' cn' tx' b j ↔ cp_LS hg par cn tx b j := by
  have e := (f.2.1 b hb cb).2.2.2.1
  unfold cp_LS
  rw [e]
  constructor
  · rintro ⟨i, hi, h⟩
    rw [cp_pt_fr T f (hg b) b hb cb rfl i hi] at h
    exact ⟨i, hi, (cp_inB_fr B f (cp_pt_in T hb cb hi) (cp_pt_st T hb cb hi) j).mp h⟩
  · rintro ⟨i, hi, h⟩
    refine ⟨i, hi, ?_⟩
    rw [cp_pt_fr T f (hg b) b hb cb rfl i hi]
    exact (cp_inB_fr B f (cp_pt_in T hb cb hi) (cp_pt_st T hb cb hi) j).mpr h
theorem cp_SP_fr (B : cp_RB ic so oc am hg par cn tx st sl wi lk) (T : cp_Tr hg par st) (f : cp_Fr ic so oc am hg par cn tx st sl wi lk ic' so' oc' am' hg' par' cn' tx' st' sl' wi' lk') {b : Nat} (hb : b < 24) (cb : st b = 3) (j : Nat) : cp_SP ic' so' hg' par' cn' tx' b j ↔ cp_SP ic so hg par cn tx b j := by
  have e := (f.2.1 b hb cb).2.2.2.1
  unfold cp_SP
  rw [e]
  constructor
  · rintro ⟨i, hi, h⟩
    rw [cp_pt_fr T f (hg b) b hb cb rfl i hi] at h
    exact ⟨i, hi, (cp_inS_fr B f (cp_pt_in T hb cb hi) (cp_pt_st T hb cb hi) j).mp h⟩
  · rintro ⟨i, hi, h⟩
    refine ⟨i, hi, ?_⟩
    rw [cp_pt_fr T f (hg b) b hb cb rfl i hi]
    exact (cp_inS_fr B f (cp_pt_in T hb cb hi) (cp_pt_st T hb cb hi) j).mpr h
theorem cp_inB_fz (B : cp_RB ic so oc am hg par cn tx st sl wi lk) {b j : Nat} (hb : b < 24) (cb : st b = 3) (h : cp_inB cn tx b j) : cp_fz st sl j := by
  rcases h with h | ⟨i, hi, h⟩
  · subst h
    exact Or.inr ⟨by omega, by omega, by rw [show 32 + b - 32 = b from by omega]; exact cb⟩
  · subst h
    exact Or.inl ⟨cp_RB_tx B _, cp_RB_sl B hi⟩
theorem cp_LS_fz (B : cp_RB ic so oc am hg par cn tx st sl wi lk) (T : cp_Tr hg par st) {b j : Nat} (hb : b < 24) (cb : st b = 3) (h : cp_LS hg par cn tx b j) : cp_fz st sl j := by
  obtain ⟨i, hi, h⟩ := h
  exact cp_inB_fz B (cp_pt_in T hb cb hi) (cp_pt_st T hb cb hi) h
/-- the five equations that cp_FT_m wants, out of the frame, for a sealed transaction and a frozen list -/
theorem cp_FT_fr (B : cp_RB ic so oc am hg par cn tx st sl wi lk) (f : cp_Fr ic so oc am hg par cn tx st sl wi lk ic' so' oc' am' hg' par' cn' tx' st' sl' wi' lk') {t h : Nat} {L S : Nat → Prop} (ht : t < 32) (s : sl t = true) (hL : ∀ j, L j → cp_fz st sl j) : cp_FT ic' so' oc' am' hg' sl' wi' lk' L S t h ↔ cp_FT ic so oc am hg sl wi lk L S t h := by
  obtain ⟨e1, e2, e4⟩ := f.1 t ht s
  obtain ⟨e3, e6⟩ := f.2.2 t (Or.inl ⟨ht, s⟩)
  have e5 : ∀ j, L j → oc' j = oc j ∧ (∀ i, i < 2 → am' (2 * j + i) = am (2 * j + i) ∧ lk' (2 * j + i) = lk (2 * j + i)) ∧ (32 ≤ j → hg' (j - 32) = hg (j - 32)) := by
    intro j hj
    have z := hL j hj
    refine ⟨(f.2.2 j z).1, (f.2.2 j z).2, fun h32 => ?_⟩
    rcases z with z | z
    · omega
    · exact (f.2.1 (j - 32) (by omega) z.2.2).2.2.2.1
  have c := cp_RB_ic B t
  constructor
  · exact cp_FT_m (fun _ => s) (by omega) e2.symm e3.symm (fun k hk => ⟨(e4 k hk).1.symm, (e4 k hk).2.symm⟩)
      (fun j hj => ⟨(e5 j hj).1.symm, fun i hi => ⟨((e5 j hj).2.1 i hi).1.symm, ((e5 j hj).2.1 i hi).2.symm⟩, fun z => ((e5 j hj).2.2 z).symm⟩) (fun i hi => (e6 i hi).1.symm)
  · exact cp_FT_m (fun _ => e1) c e2 e3 e4 e5 (fun i hi => (e6 i hi).1)
theorem cp_sd_fr (B : cp_RB ic so oc am hg par cn tx st sl wi lk) (f : cp_Fr ic so oc am hg par cn tx st sl wi lk ic' so' oc' am' hg' par' cn' tx' st' sl' wi' lk') {t : Nat} (ht : t < 32) (s : sl t = true) (hL : ∀ k, k < ic t → cp_fz st sl (so (2 * t + k) / 2)) : cp_sd ic' so' am' t = cp_sd ic so am t := by
  obtain ⟨e1, e2, e4⟩ := f.1 t ht s
  exact cp_sd_m (L := cp_fz st sl) (cp_RB_ic B t) e2 (fun k hk => (e4 k hk).1) hL (fun j hj i hi => ((f.2.2 j hj).2 i hi).1)
theorem cp_gv_fr (f : cp_Fr ic so oc am hg par cn tx st sl wi lk ic' so' oc' am' hg' par' cn' tx' st' sl' wi' lk') {t : Nat} (ht : t < 32) (s : sl t = true) : cp_gv oc' am' t = cp_gv oc am t := by
  obtain ⟨e3, e6⟩ := f.2.2 t (Or.inl ⟨ht, s⟩)
  exact cp_gv_m e3 (fun i hi => (e6 i hi).1)
theorem cp_Lc_fr (B : cp_RB ic so oc am hg par cn tx st sl wi lk) (T : cp_Tr hg par st) (f : cp_Fr ic so oc am hg par cn tx st sl wi lk ic' so' oc' am' hg' par' cn' tx' st' sl' wi' lk') {b i : Nat} (hb : b < 24) (cb : st b = 3) (nb : b ≠ 0) (hi : i ≤ 3) : cp_Lc hg' par' cn' tx' b i = cp_Lc hg par cn tx b i := by
  obtain ⟨h1, h2, h3⟩ := T.2.2 b hb cb nb
  obtain ⟨_, p2, p3, _, p5⟩ := f.2.1 b hb cb
  funext j
  apply propext
  unfold cp_Lc
  rw [p2]
  constructor
  · rintro (h | ⟨q, hq, h⟩)
    · exact Or.inl ((cp_LS_fr B T f h1 h2 j).mp h)
    · exact Or.inr ⟨q, hq, by rw [← p5 q (by omega)]; exact h⟩
  · rintro (h | ⟨q, hq, h⟩)
    · exact Or.inl ((cp_LS_fr B T f h1 h2 j).mpr h)
    · exact Or.inr ⟨q, hq, by rw [p5 q (by omega)]; exact h⟩
theorem cp_Sc_fr (B : cp_RB ic so oc am hg par cn tx st sl wi lk) (T : cp_Tr hg par st) (f : cp_Fr ic so oc am hg par cn tx st sl wi lk ic' so' oc' am' hg' par' cn' tx' st' sl' wi' lk') {b i : Nat} (hb : b < 24) (cb : st b = 3) (nb : b ≠ 0) (hi : i ≤ cn b) : cp_Sc ic' so' hg' par' cn' tx' b i = cp_Sc ic so hg par cn tx b i := by
  obtain ⟨h1, h2, h3⟩ := T.2.2 b hb cb nb
  obtain ⟨_, p2, p3, _, p5⟩ := f.2.1 b hb cb
  have c := cp_RB_cn B b
  funext j
  apply propext
  unfold cp_Sc
  rw [p2]
  constructor
  · rintro (h | ⟨q, hq, h⟩)
    · exact Or.inl ((cp_SP_fr B T f h1 h2 j).mp h)
    · refine Or.inr ⟨q, hq, ?_⟩
      rw [p5 q (by omega)] at h
      exact (cp_inT_fr B f (cp_RB_tx B _) (cp_RB_sl B (by omega)) j).mp h
  · rintro (h | ⟨q, hq, h⟩)
    · exact Or.inl ((cp_SP_fr B T f h1 h2 j).mpr h)
    · refine Or.inr ⟨q, hq, ?_⟩
      rw [p5 q (by omega)]
      exact (cp_inT_fr B f (cp_RB_tx B _) (cp_RB_sl B (by omega)) j).mpr h
theorem cp_Lc_fz (B : cp_RB ic so oc am hg par cn tx st sl wi lk) (T : cp_Tr hg par st) {b i j : Nat} (hp : par b < 24) (cp : st (par b) = 3) (hi : i ≤ cn b) (h : cp_Lc hg par cn tx b i j) : cp_fz st sl j := by
  rcases h with h | ⟨q, hq, h⟩
  · exact cp_LS_fz B T hp cp h
  · subst h
    exact Or.inl ⟨cp_RB_tx B _, cp_RB_sl B (by omega)⟩
theorem cp_CKn_fr (B : cp_RB ic so oc am hg par cn tx st sl wi lk) (T : cp_Tr hg par st) (f : cp_Fr ic so oc am hg par cn tx st sl wi lk ic' so' oc' am' hg' par' cn' tx' st' sl' wi' lk') {b : Nat} (hb : b < 24) (cb : st b = 3) (nb : b ≠ 0) : cp_CKn ic' so' oc' am' hg' par' cn' tx' sl' wi' lk' b (cn b) ↔ cp_CKn ic so oc am hg par cn tx sl wi lk b (cn b) := by
  obtain ⟨h1, h2, h3⟩ := T.2.2 b hb cb nb
  obtain ⟨_, p2, p3, p4, p5⟩ := f.2.1 b hb cb
  have c := cp_RB_cn B b
  have key : ∀ i, i < cn b → (cp_FT ic' so' oc' am' hg' sl' wi' lk' (cp_Lc hg' par' cn' tx' b i) (cp_Sc ic' so' hg' par' cn' tx' b i) (tx' (3 * b + i)) (hg' b) ↔ cp_FT ic so oc am hg sl wi lk (cp_Lc hg par cn tx b i) (cp_Sc ic so hg par cn tx b i) (tx (3 * b + i)) (hg b)) := by
    intro i hi
    rw [p4, p5 i (by omega), cp_Lc_fr B T f hb cb nb (by omega), cp_Sc_fr B T f hb cb nb (by omega)]
    exact cp_FT_fr B f (cp_RB_tx B _) (cp_RB_sl B hi) (fun j hj => cp_Lc_fz B T h1 h2 (by omega) hj)
  constructor
  · intro h i hi
    exact (key i hi).mp (h i hi)
  · intro h i hi
    exact (key i hi).mpr (h i hi)
theorem cp_CK_fr (B : cp_RB ic so oc am hg par cn tx st sl wi lk) (T : cp_Tr hg par st) (f : cp_Fr ic so oc am hg par cn tx st sl wi lk ic' so' oc' am' hg' par' cn' tx' st' sl' wi' lk') {b : Nat} (hb : b < 24) (cb : st b = 3) (nb : b ≠ 0) : cp_CK ic' so' oc' am' hg' par' cn' tx' sl' wi' lk' b ↔ cp_CK ic so oc am hg par cn tx sl wi lk b := by
  obtain ⟨h1, h2, h3⟩ := T.2.2 b hb cb nb
  obtain ⟨_, p2, p3, p4, p5⟩ := f.2.1 b hb cb
  have c := cp_RB_cn B b
  have ea : am' (64 + 2 * b) = am (64 + 2 * b) := by
    have := ((f.2.2 (32 + b) (Or.inr ⟨by omega, by omega, by rw [show 32 + b - 32 = b from by omega]; exact cb⟩)).2 0 (by decide)).1
    rw [show 2 * (32 + b) + 0 = 64 + 2 * b from by omega] at this
    exact this
  have es : cp_CKn ic so oc am hg par cn tx sl wi lk b (cn b) → cp_fs ic' so' oc' am' tx' b (cn b) = cp_fs ic so oc am tx b (cn b) := by
    intro h
    apply cp_sum_eq
    intro i hi
    show cp_sd ic' so' am' (tx' (3 * b + i)) - cp_gv oc' am' (tx' (3 * b + i)) = cp_sd ic so am (tx (3 * b + i)) - cp_gv oc am (tx (3 * b + i))
    rw [p5 i (by omega), cp_gv_fr f (cp_RB_tx B _) (cp_RB_sl B hi), cp_sd_fr B f (cp_RB_tx B _) (cp_RB_sl B hi)]
    intro k hk
    exact cp_Lc_fz B T h1 h2 (by omega) ((h i hi).2.2.2.2.2.1 k hk).2.1
  unfold cp_CK
  rw [p3, ea]
  constructor
  · rintro ⟨x, y⟩
    have x' := (cp_CKn_fr B T f hb cb nb).mp x
    refine ⟨x', ?_⟩
    rw [es x'] at y
    exact y
  · rintro ⟨x, y⟩
    refine ⟨(cp_CKn_fr B T f hb cb nb).mpr x, ?_⟩
    rw [es x]
    exact y
end
end
section
/-! what lies unspent after a good chain: at most 50 a block -/
noncomputable def cp_V (am : Nat → Nat) (L S : Nat → Prop) : Nat := cp_sum (fun o => cp_iv (L (o / 2) ∧ ¬ S o) (am o)) 112
section
variable {ic so oc am hg par cn tx st : Nat → Nat} {sl : Nat → Bool} {wi lk : Nat → Int32}
theorem cp_V_c {L L' S S' : Nat → Prop} (hl : ∀ j, L j ↔ L' j) (hs : ∀ o, S o ↔ S' o) : cp_V am L S = cp_V am L' S' := by
  apply cp_sum_eq
  intro o _
  exact cp_iv_i (and_congr (hl _) (not_congr (hs _)))
theorem cp_V_ge {L S : Nat → Prop} {o : Nat} (ho : o < 112) (hl : L (o / 2)) (hs : ¬ S o) : am o ≤ cp_V am L S := by
  have a := cp_sum_1 (f := fun o => cp_iv (L (o / 2) ∧ ¬ S o) (am o)) 112 ho
  have b : cp_iv (L (o / 2) ∧ ¬ S o) (am o) = am o := cp_iv_t ⟨hl, hs⟩
  rw [b] at a
  exact a
theorem cp_V_sp {L S : Nat → Prop} {o : Nat} (ho : o < 112) (hl : L (o / 2)) (hs : ¬ S o) : cp_V am L (fun q => S q ∨ q = o) + am o = cp_V am L S := by
  have a := cp_sum_ch (f := fun q => cp_iv (L (q / 2) ∧ ¬ (S q ∨ q = o)) (am q)) (g := fun q => cp_iv (L (q / 2) ∧ ¬ S q) (am q)) 112 ho (by
    intro j _ hj
    exact cp_iv_i (and_congr Iff.rfl (not_congr ⟨fun z => z.elim id (fun z => absurd z hj), Or.inl⟩)))
  rw [cp_iv_t (p := L (o / 2) ∧ ¬ S o) ⟨hl, hs⟩, cp_iv_f (p := L (o / 2) ∧ ¬ (S o ∨ o = o)) (fun z => z.2 (Or.inr rfl))] at a
  exact a
theorem cp_V_ad {L S : Nat → Prop} (t : Nat) : cp_V am (fun j => L j ∨ j = t) S ≤ cp_V am L S + (am (2 * t) + am (2 * t + 1)) := by
  have a : cp_V am (fun j => L j ∨ j = t) S ≤ cp_sum (fun o => (cp_iv (L (o / 2) ∧ ¬ S o) (am o) + if o = 2 * t then am (2 * t) else 0) + if o = 2 * t + 1 then am (2 * t + 1) else 0) 112 := by
    apply cp_sum_le
    intro o _
    dsimp only
    by_cases e : o / 2 = t
    · have h1 := cp_iv_le ((L (o / 2) ∨ o / 2 = t) ∧ ¬ S o) (am o)
      by_cases z : o = 2 * t
      · rw [if_pos z, ← z]
        omega
      · have z' : o = 2 * t + 1 := by omega
        rw [if_pos z', ← z']
        omega
    · rw [cp_iv_i (p := (L (o / 2) ∨ o / 2 = t) ∧ ¬ S o) (q := L (o / 2) ∧ ¬ S o) (and_congr ⟨fun z => z.elim id (fun z => absurd z e), Or.inl⟩ Iff.rfl)]
      omega
  have b := cp_sum_pt (f := fun o => cp_iv (L (o / 2) ∧ ¬ S o) (am o) + if o = 2 * t then am (2 * t) else 0) (k := 2 * t + 1) (v := am (2 * t + 1)) 112
  have c := cp_sum_pt (f := fun o => cp_iv (L (o / 2) ∧ ¬ S o) (am o)) (k := 2 * t) (v := am (2 * t)) 112
  have d1 : (if 2 * t + 1 < 112 then am (2 * t + 1) else 0) ≤ am (2 * t + 1) := by
    split
    · exact Nat.le_refl _
    · exact Nat.zero_le _
  have d2 : (if 2 * t < 112 then am (2 * t) else 0) ≤ am (2 * t) := by
    split
    · exact Nat.le_refl _
    · exact Nat.zero_le _
  unfold cp_V
  unfold cp_V at a
  omega
theorem cp_gv_all (B : cp_RB ic so oc am hg par cn tx st sl wi lk) (t : Nat) : cp_gv oc am t = am (2 * t) + am (2 * t + 1) := by
  have a := cp_RB_ao B (2 * t)
  have b := cp_RB_ao B (2 * t + 1)
  rw [show 2 * t % 2 = 0 from by omega, show 2 * t / 2 = t from by omega] at a
  rw [show (2 * t + 1) % 2 = 1 from by omega, show (2 * t + 1) / 2 = t from by omega] at b
  unfold cp_gv
  by_cases h0 : 0 < oc t
  · rw [if_pos h0]
    by_cases h1 : 1 < oc t
    · rw [if_pos h1]
    · rw [if_neg h1]
      omega
  · rw [if_neg h0, if_neg (by omega)]
    omega
theorem cp_V_tx (B : cp_RB ic so oc am hg par cn tx st sl wi lk) {L S : Nat → Prop} {t h : Nat} (H : cp_FT ic so oc am hg sl wi lk L S t h) : cp_V am (fun j => L j ∨ j = t) (fun o => S o ∨ cp_inT ic so t o) + cp_sd ic so am t ≤ cp_V am L S + cp_gv oc am t := by
  obtain ⟨h1, h2, h3, h4, h5, h6, h7⟩ := H
  have c := cp_RB_ic B t
  have a := cp_V_ad (am := am) (L := L) (S := fun o => S o ∨ cp_inT ic so t o) t
  rw [← cp_gv_all B t] at a
  have b : cp_V am L (fun o => S o ∨ cp_inT ic so t o) + cp_sd ic so am t = cp_V am L S := by
    obtain ⟨_, a2, a3, _, _⟩ := h6 0 (by omega)
    rw [Nat.add_zero] at a2 a3
    have e1 := cp_V_sp (am := am) (cp_RB_so B (2 * t)) a2 a3
    by_cases z : 1 < ic t
    · obtain ⟨_, b2, b3, _, _⟩ := h6 1 z
      have e2 := cp_V_sp (am := am) (L := L) (S := fun q => S q ∨ q = so (2 * t)) (cp_RB_so B (2 * t + 1)) b2 (fun y => y.elim b3 (fun y => h5 ⟨by omega, y.symm⟩))
      have e3 : cp_V am L (fun o => S o ∨ cp_inT ic so t o) = cp_V am L (fun q => (S q ∨ q = so (2 * t)) ∨ q = so (2 * t + 1)) := by
        apply cp_V_c (fun j => Iff.rfl)
        intro o
        constructor
        · rintro (y | ⟨k, hk, y⟩)
          · exact Or.inl (Or.inl y)
          · by_cases k0 : k = 0
            · rw [k0, Nat.add_zero] at y
              exact Or.inl (Or.inr y.symm)
            · rw [show k = 1 from by omega] at y
              exact Or.inr y.symm
        · rintro ((y | y) | y)
          · exact Or.inl y
          · exact Or.inr ⟨0, by omega, by rw [Nat.add_zero]; exact y.symm⟩
          · exact Or.inr ⟨1, z, y.symm⟩
      unfold cp_sd
      rw [e3, if_pos (by omega), if_pos z]
      omega
    · have e3 : cp_V am L (fun o => S o ∨ cp_inT ic so t o) = cp_V am L (fun q => S q ∨ q = so (2 * t)) := by
        apply cp_V_c (fun j => Iff.rfl)
        intro o
        constructor
        · rintro (y | ⟨k, hk, y⟩)
          · exact Or.inl y
          · rw [show k = 0 from by omega, Nat.add_zero] at y
            exact Or.inr y.symm
        · rintro (y | y)
          · exact Or.inl y
          · exact Or.inr ⟨0, by omega, by rw [Nat.add_zero]; exact y.symm⟩
      unfold cp_sd
      rw [e3, if_pos (by omega), if_neg z]
      omega
  omega
theorem cp_V_blk (B : cp_RB ic so oc am hg par cn tx st sl wi lk) {b : Nat} : ∀ n, cp_CKn ic so oc am hg par cn tx sl wi lk b n → cp_V am (cp_Lc hg par cn tx b n) (cp_Sc ic so hg par cn tx b n) + cp_fs ic so oc am tx b n ≤ cp_V am (cp_LS hg par cn tx (par b)) (cp_SP ic so hg par cn tx (par b)) := by
  intro n
  induction n with
  | zero =>
    intro _
    have e : cp_V am (cp_Lc hg par cn tx b 0) (cp_Sc ic so hg par cn tx b 0) = cp_V am (cp_LS hg par cn tx (par b)) (cp_SP ic so hg par cn tx (par b)) := by
      apply cp_V_c
      · intro j
        exact ⟨fun z => z.elim id (fun ⟨q, hq, _⟩ => absurd hq (Nat.not_lt_zero _)), Or.inl⟩
      · intro j
        exact ⟨fun z => z.elim id (fun ⟨q, hq, _⟩ => absurd hq (Nat.not_lt_zero _)), Or.inl⟩
    rw [e]
    exact Nat.le_refl _
  | succ n ih =>
    intro H
    have i1 := ih (fun i hi => H i (by omega))
    have i2 := H n (by omega)
    have i3 := cp_V_tx B i2
    have i4 := i2.2.2.2.2.2.2
    have e : cp_V am (cp_Lc hg par cn tx b (n + 1)) (cp_Sc ic so hg par cn tx b (n + 1)) = cp_V am (fun j => cp_Lc hg par cn tx b n j ∨ j = tx (3 * b + n)) (fun o => cp_Sc ic so hg par cn tx b n o ∨ cp_inT ic so (tx (3 * b + n)) o) := by
      apply cp_V_c
      · intro j
        constructor
        · rintro (z | ⟨q, hq, z⟩)
          · exact Or.inl (Or.inl z)
          · by_cases y : q = n
            · subst y
              exact Or.inr z.symm
            · exact Or.inl (Or.inr ⟨q, by omega, z⟩)
        · rintro ((z | ⟨q, hq, z⟩) | z)
          · exact Or.inl z
          · exact Or.inr ⟨q, by omega, z⟩
          · exact Or.inr ⟨n, by omega, z.symm⟩
      · intro j
        constructor
        · rintro (z | ⟨q, hq, z⟩)
          · exact Or.inl (Or.inl z)
          · by_cases y : q = n
            · subst y
              exact Or.inr z
            · exact Or.inl (Or.inr ⟨q, by omega, z⟩)
        · rintro ((z | ⟨q, hq, z⟩) | z)
          · exact Or.inl z
          · exact Or.inr ⟨q, by omega, z⟩
          · exact Or.inr ⟨n, by omega, z⟩
    rw [e]
    have s : cp_fs ic so oc am tx b (n + 1) = cp_fs ic so oc am tx b n + (cp_sd ic so am (tx (3 * b + n)) - cp_gv oc am (tx (3 * b + n))) := rfl
    rw [s]
    omega
theorem cp_am_odd (B : cp_RB ic so oc am hg par cn tx st sl wi lk) (b : Nat) : am (64 + 2 * b + 1) = 0 := by
  have a := cp_RB_ao B (64 + 2 * b + 1)
  have c := cp_RB_o1 B b
  rw [show (64 + 2 * b + 1) % 2 = 1 from by omega, show (64 + 2 * b + 1) / 2 = 32 + b from by omega] at a
  omega
theorem cp_V_CK (B : cp_RB ic so oc am hg par cn tx st sl wi lk) (T : cp_Tr hg par st) {b : Nat} (hb : b < 24) (cb : st b = 3) (nb : b ≠ 0) (H : cp_CK ic so oc am hg par cn tx sl wi lk b) :
    cp_V am (cp_LS hg par cn tx b) (cp_SP ic so hg par cn tx b) ≤ cp_V am (cp_LS hg par cn tx (par b)) (cp_SP ic so hg par cn tx (par b)) + 50 := by
  have a := cp_V_blk B (cn b) H.1
  have c := cp_V_ad (am := am) (L := cp_Lc hg par cn tx b (cn b)) (S := cp_Sc ic so hg par cn tx b (cn b)) (32 + b)
  have d := cp_am_odd B b
  rw [show 2 * (32 + b) = 64 + 2 * b from by omega] at c
  have e : cp_V am (cp_LS hg par cn tx b) (cp_SP ic so hg par cn tx b) = cp_V am (fun j => cp_Lc hg par cn tx b (cn b) j ∨ j = 32 + b) (cp_Sc ic so hg par cn tx b (cn b)) := by
    apply cp_V_c
    · intro j
      rw [cp_LS_s T hb cb nb j]
      constructor
      · rintro (z | z | z)
        · exact Or.inl (Or.inl z)
        · exact Or.inr z
        · exact Or.inl (Or.inr z)
      · rintro ((z | z) | z)
        · exact Or.inl z
        · exact Or.inr (Or.inr z)
        · exact Or.inr (Or.inl z)
    · intro j
      rw [cp_SP_s T hb cb nb j]
      exact Iff.rfl
  rw [e]
  have f := H.2
  omega
end
/-! the tree of connected blocks, the tip, the pool -/
def cp_nc (st : Nat → Nat) : Nat := cp_sum (fun b => if st b = 3 then 1 else 0) 24
def cp_PO (ic so oc am st : Nat → Nat) (sl : Nat → Bool) (t : Nat) : Prop := t < 32 ∧ sl t = true ∧ (∀ k, k < ic t → cp_fz st sl (so (2 * t + k) / 2)) ∧ cp_gv oc am t ≤ cp_sd ic so am t ∧ cp_sd ic so am t ≤ 2400
def cp_RT (ic : Nat → Nat) (so : Nat → Nat) (oc : Nat → Nat) (am : Nat → Nat) (hg : Nat → Nat) (par : Nat → Nat) (cn : Nat → Nat) (tx : Nat → Nat) (st : Nat → Nat) (sl : Nat → Bool) (wi : Nat → Int32) (lk : Nat → Int32) (wk bw : Nat → Int32) (gd : Nat → Bool) : Prop :=
  cp_Tr hg par st ∧ (cn 0 = 0 ∧ am 64 = 50 ∧ gd 0 = true ∧ bw 0 = 0 ∧ wk 0 = 0) ∧
  (∀ b, b < 24 → st b = 3 → b ≠ 0 → bw b = bw (par b) + wk b ∧ (gd b = true ↔ gd (par b) = true ∧ cp_CK ic so oc am hg par cn tx sl wi lk b)) ∧
  (∀ b, b < 24 → gd b = true → st b = 3) ∧ (∀ b, b < 24 → st b = 3 → hg b < cp_nc st)
section
variable {ic so oc am hg par cn tx st : Nat → Nat} {sl : Nat → Bool} {wi lk wk bw : Nat → Int32} {gd : Nat → Bool}
variable {ic' so' oc' am' hg' par' cn' tx' st' : Nat → Nat} {sl' : Nat → Bool} {wi' lk' wk' bw' : Nat → Int32} {gd' : Nat → Bool}
theorem cp_nc_le (st : Nat → Nat) : cp_nc st ≤ 24 := by
  have a := cp_sum_le (f := fun b => if st b = 3 then 1 else 0) (g := fun _ => 1) 24 (by
    intro j _
    split <;> omega)
  exact Nat.le_trans a (by decide)
theorem cp_sum_lt {f g : Nat → Nat} {k : Nat} : ∀ n : Nat, (∀ j, j < n → f j ≤ g j) → k < n → f k < g k → cp_sum f n < cp_sum g n
  | 0, _, h, _ => by omega
  | n + 1, h, hk, e => by
    show cp_sum f n + f n < cp_sum g n + g n
    by_cases z : k = n
    · subst z
      have := cp_sum_le (f := f) (g := g) k (fun j hj => h j (by omega))
      omega
    · have := cp_sum_lt (f := f) (g := g) (k := k) n (fun j hj => h j (by omega)) (by omega) e
      have := h n (by omega)
      omega
theorem cp_nc_mono (h : ∀ b, b < 24 → st b = 3 → st' b = 3) : cp_nc st ≤ cp_nc st' := by
  apply cp_sum_le
  intro j hj
  by_cases e : st j = 3
  · rw [if_pos e, if_pos (h j hj e)]
    exact Nat.le_refl _
  · rw [if_neg e]
    exact Nat.zero_le _
theorem cp_nc_new {k : Nat} (h : ∀ b, b < 24 → st b = 3 → st' b = 3) (hk : k < 24) (a : st k ≠ 3) (c : st' k = 3) : cp_nc st < cp_nc st' := by
  apply cp_sum_lt (k := k) 24 ?_ hk
  · skip
    rw [if_neg a, if_pos c]
    exact Nat.zero_lt_one
  · intro j hj
    by_cases e : st j = 3
    · rw [if_pos e, if_pos (h j hj e)]
      exact Nat.le_refl _
    · rw [if_neg e]
      exact Nat.zero_le _
theorem cp_RT_hg (R : cp_RT ic so oc am hg par cn tx st sl wi lk wk bw gd) {b : Nat} (hb : b < 24) (cb : st b = 3) : hg b < 24 := Nat.lt_of_lt_of_le (R.2.2.2.2 b hb cb) (cp_nc_le st)
theorem cp_V_0 (B : cp_RB ic so oc am hg par cn tx st sl wi lk) (R : cp_RT ic so oc am hg par cn tx st sl wi lk wk bw gd) : cp_V am (cp_LS hg par cn tx 0) (cp_SP ic so hg par cn tx 0) ≤ 50 := by
  have a : cp_V am (fun j => False ∨ j = 32) (cp_SP ic so hg par cn tx 0) ≤ cp_V am (fun _ => False) (cp_SP ic so hg par cn tx 0) + (am 64 + am 65) := cp_V_ad (am := am) (L := fun _ => False) (S := cp_SP ic so hg par cn tx 0) 32
  have b : am 65 = 0 := cp_am_odd B 0
  have z : cp_V am (fun _ => False) (cp_SP ic so hg par cn tx 0) = 0 := by
    have := cp_sum_eq (f := fun o => cp_iv (False ∧ ¬ cp_SP ic so hg par cn tx 0 o) (am o)) (g := fun _ => 0) 112 (fun j _ => cp_iv_f (fun y => y.1))
    unfold cp_V
    rw [this]
    decide
  have e : cp_V am (cp_LS hg par cn tx 0) (cp_SP ic so hg par cn tx 0) = cp_V am (fun j => False ∨ j = 32) (cp_SP ic so hg par cn tx 0) := by
    apply cp_V_c
    · intro j
      rw [cp_LS_0 R.1 j]
      constructor
      · rintro (y | ⟨i, hi, y⟩)
        · exact Or.inr y
        · rw [R.2.1.1] at hi
          exact absurd hi (Nat.not_lt_zero _)
      · rintro (y | y)
        · exact y.elim
        · exact Or.inl y
    · intro o
      exact Iff.rfl
  have m := R.2.1.2.1
  rw [e]
  rw [z] at a
  omega
theorem cp_V_good (B : cp_RB ic so oc am hg par cn tx st sl wi lk) (R : cp_RT ic so oc am hg par cn tx st sl wi lk wk bw gd) : ∀ (n b : Nat), b < 24 → st b = 3 → hg b = n → gd b = true → cp_V am (cp_LS hg par cn tx b) (cp_SP ic so hg par cn tx b) ≤ 50 * (n + 1) := by
  intro n
  induction n with
  | zero =>
    intro b hb cb hn _
    rw [cp_hg0 R.1 hb cb hn]
    exact cp_V_0 B R
  | succ n ih =>
    intro b hb cb hn g
    have nb : b ≠ 0 := by
      intro e
      rw [e, R.1.2.1] at hn
      omega
    obtain ⟨h1, h2, h3⟩ := R.1.2.2 b hb cb nb
    obtain ⟨g1, g2⟩ := (R.2.2.1 b hb cb nb).2.mp g
    have a := ih (par b) h1 h2 (by omega) g1
    have c := cp_V_CK B R.1 hb cb nb g2
    omega
theorem cp_V_1200 (B : cp_RB ic so oc am hg par cn tx st sl wi lk) (R : cp_RT ic so oc am hg par cn tx st sl wi lk wk bw gd) {b : Nat} (hb : b < 24) (g : gd b = true) : cp_V am (cp_LS hg par cn tx b) (cp_SP ic so hg par cn tx b) ≤ 1200 := by
  have c := R.2.2.2.1 b hb g
  have a := cp_V_good B R (hg b) b hb c rfl g
  have d := cp_RT_hg R hb c
  omega
theorem cp_RT_fr (B : cp_RB ic so oc am hg par cn tx st sl wi lk) (R : cp_RT ic so oc am hg par cn tx st sl wi lk wk bw gd) (f : cp_Fr ic so oc am hg par cn tx st sl wi lk ic' so' oc' am' hg' par' cn' tx' st' sl' wi' lk')
    (hw : ∀ b, b < 24 → st b = 3 → wk' b = wk b ∧ bw' b = bw b ∧ gd' b = gd b)
    (hn : ∀ b, b < 24 → st' b = 3 → st b ≠ 3 → par' b < 24 ∧ st (par' b) = 3 ∧ hg' b = hg (par' b) + 1 ∧ bw' b = bw (par' b) + wk' b ∧ (gd' b = true ↔ gd (par' b) = true ∧ cp_CK ic' so' oc' am' hg' par' cn' tx' sl' wi' lk' b))
    (hg1 : ∀ b, b < 24 → gd' b = true → st' b = 3) : cp_RT ic' so' oc' am' hg' par' cn' tx' st' sl' wi' lk' wk' bw' gd' := by
  obtain ⟨T, ⟨r1, r2, r3, r4, r5⟩, r6, r7, r8⟩ := R
  have T' : cp_Tr hg' par' st' := by
    obtain ⟨f1, f2, f3, f4, f5⟩ := f.2.1 0 (by decide) T.1
    refine ⟨f1, by rw [f4]; exact T.2.1, fun b hb cb nb => ?_⟩
    by_cases c : st b = 3
    · obtain ⟨h1, h2, h3⟩ := T.2.2 b hb c nb
      obtain ⟨_, p2, _, p4, _⟩ := f.2.1 b hb c
      obtain ⟨q1, _, _, q4, _⟩ := f.2.1 (par b) h1 h2
      rw [p2, p4, q4]
      exact ⟨h1, q1, h3⟩
    · obtain ⟨h1, h2, h3, _⟩ := hn b hb cb c
      obtain ⟨q1, _, _, q4, _⟩ := f.2.1 (par' b) h1 h2
      exact ⟨h1, q1, by rw [q4]; exact h3⟩
  refine ⟨T', ⟨?_, ?_, ?_, ?_, ?_⟩, ?_, hg1, ?_⟩
  · rw [(f.2.1 0 (by decide) T.1).2.2.1]
    exact r1
  · have := ((f.2.2 32 (Or.inr ⟨by decide, by decide, T.1⟩)).2 0 (by decide)).1
    rw [show 2 * 32 + 0 = 64 from rfl] at this
    rw [this]
    exact r2
  · rw [(hw 0 (by decide) T.1).2.2]
    exact r3
  · rw [(hw 0 (by decide) T.1).2.1]
    exact r4
  · rw [(hw 0 (by decide) T.1).1]
    exact r5
  · intro b hb cb nb
    by_cases c : st b = 3
    · obtain ⟨h1, h2, h3⟩ := T.2.2 b hb c nb
      obtain ⟨_, p2, _, p4, _⟩ := f.2.1 b hb c
      obtain ⟨w1, w2, w3⟩ := hw b hb c
      obtain ⟨x1, x2, x3⟩ := hw (par b) h1 h2
      rw [p2, w1, w2, w3, x2, x3, cp_CK_fr B T f hb c nb]
      exact r6 b hb c nb
    · obtain ⟨h1, h2, h3, h4, h5⟩ := hn b hb cb c
      obtain ⟨x1, x2, x3⟩ := hw (par' b) h1 h2
      rw [x2, x3]
      exact ⟨h4, h5⟩
  · intro b hb cb
    have mono : cp_nc st ≤ cp_nc st' := cp_nc_mono (fun b hb cb => (f.2.1 b hb cb).1)
    by_cases c : st b = 3
    · rw [(f.2.1 b hb c).2.2.2.1]
      exact Nat.lt_of_lt_of_le (r8 b hb c) mono
    · obtain ⟨h1, h2, h3, _⟩ := hn b hb cb c
      have a := r8 (par' b) h1 h2
      have d := cp_nc_new (fun b hb cb => (f.2.1 b hb cb).1) hb c cb
      omega
theorem cp_PO_fr (B : cp_RB ic so oc am hg par cn tx st sl wi lk) (f : cp_Fr ic so oc am hg par cn tx st sl wi lk ic' so' oc' am' hg' par' cn' tx' st' sl' wi' lk') {t : Nat} (h : cp_PO ic so oc am st sl t) : cp_PO ic' so' oc' am' st' sl' t := by
  obtain ⟨h1, h2, h3, h4, h5⟩ := h
  obtain ⟨e1, e2, e4⟩ := f.1 t h1 h2
  have c := cp_RB_ic B t
  refine ⟨h1, e1, ?_, ?_, ?_⟩
  · intro k hk
    rw [e2] at hk
    rw [(e4 k (by omega)).1]
    rcases h3 k hk with z | z
    · exact Or.inl ⟨z.1, (f.1 _ z.1 z.2).1⟩
    · exact Or.inr ⟨z.1, z.2.1, (f.2.1 _ (by omega) z.2.2).1⟩
  · rw [cp_gv_fr f h1 h2, cp_sd_fr B f h1 h2 h3]
    exact h4
  · rw [cp_sd_fr B f h1 h2 h3]
    exact h5
/-- a transaction is on a good chain once -/
theorem cp_once (B : cp_RB ic so oc am hg par cn tx st sl wi lk) (R : cp_RT ic so oc am hg par cn tx st sl wi lk wk bw gd) : ∀ (n b : Nat), b < 24 → gd b = true → hg b = n → ∀ i k j, i < k → k ≤ n → cp_inB cn tx (cp_pt par hg b i) j → ¬ cp_inB cn tx (cp_pt par hg b k) j := by
  intro n
  induction n with
  | zero =>
    intro b hb g hn i k j hik hk
    omega
  | succ n ih =>
    intro b hb g hn i k j hik hk hi hj
    have cb := R.2.2.2.1 b hb g
    have T := R.1
    have nb : b ≠ 0 := by
      intro e
      rw [e, T.2.1] at hn
      omega
    obtain ⟨h1, h2, h3⟩ := T.2.2 b hb cb nb
    obtain ⟨g1, g2⟩ := (R.2.2.1 b hb cb nb).2.mp g
    by_cases e : k = hg b
    · rw [e, cp_pt_top] at hj
      have hL : cp_LS hg par cn tx (par b) j := ⟨i, by omega, by rw [← cp_pt_par T hb cb (by omega)]; exact hi⟩
      rcases hj with hj | ⟨q, hq, hj⟩
      · rcases hi with hi | ⟨q, hq, hi⟩
        · have ei : cp_pt par hg b i = b := by omega
          have := cp_pt_hg T hb cb (i := i) (by omega)
          rw [ei] at this
          omega
        · have := cp_RB_tx B (3 * cp_pt par hg b i + q)
          omega
      · have := (g2.1 q hq).2.2.2.1
        rw [hj] at this
        exact this (Or.inl hL)
    · rw [cp_pt_par T hb cb (by omega)] at hi hj
      exact ih (par b) h1 g1 (by omega) i k j hik (by omega) hi hj
end
end
section
/-! the lock script: only what lies below the top counts; the reference's way of a step -/
theorem cp_nst_c {c h : Int32} {n : Nat} {g g' : Nat → Int32} (e : ∀ i, i < n → g i = g' i) : ∀ i, i < cp_grow c n → cp_nst c n g h i = cp_nst c n g' h i := by
  intro i hi
  have et : cp_top g n = cp_top g' n := by
    unfold cp_top
    by_cases z : 0 < n
    · rw [if_pos z, if_pos z, e _ (by omega)]
    · rw [if_neg z, if_neg z]
  have eb : cp_bel g n = cp_bel g' n := by
    unfold cp_bel
    by_cases z : 1 < n
    · rw [if_pos z, if_pos z, e _ (by omega)]
    · rw [if_neg z, if_neg z]
  have hp : 0 < cp_grow c n := by omega
  unfold cp_nst
  rw [if_pos hp, if_pos hp, et, eb]
  by_cases z : i = cp_grow c n - 1
  · rw [z, pk_us, pk_us]
  · rw [pk_un z, pk_un z]
    by_cases y : c = 8
    · rw [if_pos y, if_pos y]
      have eg : cp_grow c n = n := by
        rw [y]
        rfl
      by_cases x : i = n - 2
      · rw [x, pk_us, pk_us]
      · rw [pk_un x, pk_un x]
        exact e i (by omega)
    · rw [if_neg y, if_neg y]
      apply e
      have : cp_grow c n ≤ n + 1 := by
        unfold cp_grow
        split
        · omega
        · split <;> omega
      omega
theorem cp_end_c {n : Nat} {g g' : Nat → Int32} (e : ∀ i, i < n → g i = g' i) : cp_end n g ↔ cp_end n g' := by
  unfold cp_end
  by_cases z : 0 < n
  · rw [e _ (by omega)]
  · exact ⟨fun y => absurd y.1 z, fun y => absurd y.1 z⟩
theorem cp_run_c {lock h : Int32} : ∀ (d k n : Nat) (g g' : Nat → Int32), (∀ i, i < n → g i = g' i) → (cp_run lock h d k n g ↔ cp_run lock h d k n g') := by
  intro d
  induction d with
  | zero =>
    intro k n g g' e
    exact cp_end_c e
  | succ d ih =>
    intro k n g g' e
    have et : cp_top g n = cp_top g' n := by
      unfold cp_top
      by_cases z : 0 < n
      · rw [if_pos z, if_pos z, e _ (by omega)]
      · rw [if_neg z, if_neg z]
    have i1 := ih (k + 1) (cp_grow (cp_code lock k) n) _ _ (cp_nst_c (c := cp_code lock k) (h := h) e)
    unfold cp_run
    rw [cp_end_c e, et, i1]
/-- the reference's top and below: read only as far as the code needs -/
def cp_ytop (c : Int32) (n : Nat) (g : Nat → Int32) : Int32 := if 0 < cp_need c then g (n - 1) else 0
def cp_ybel (c : Int32) (n : Nat) (g : Nat → Int32) : Int32 := if 1 < cp_need c then g (n - 2) else 0
def cp_ynx (c : Int32) (n : Nat) (g : Nat → Int32) (h : Int32) : Nat → Int32 :=
  if c = 8 then upd (upd g (n - 1) (cp_ybel c n g)) (n - 2) (cp_ytop c n g)
  else if c = 9 ∨ c = 15 then g else upd g (cp_grow c n - 1) (cp_res c (cp_ytop c n g) (cp_ybel c n g) h)
theorem cp_ytop_e {c : Int32} {n : Nat} {g : Nat → Int32} (hn : cp_need c ≤ n) (h0 : 0 < cp_need c) : cp_ytop c n g = cp_top g n := by
  unfold cp_ytop cp_top
  rw [if_pos h0, if_pos (by omega)]
theorem cp_ybel_e {c : Int32} {n : Nat} {g : Nat → Int32} (hn : cp_need c ≤ n) (h0 : 1 < cp_need c) : cp_ybel c n g = cp_bel g n := by
  unfold cp_ybel cp_bel
  rw [if_pos h0, if_pos (by omega)]
theorem cp_r_1 (top below h : Int32) : cp_res 1 top below h = (1) := by
  unfold cp_res
  rw [if_pos rfl]
theorem cp_r_2 (top below h : Int32) : cp_res 2 top below h = (top) := by
  unfold cp_res
  rw [if_neg (by decide), if_pos rfl]
theorem cp_r_3 (top below h : Int32) : cp_res 3 top below h = (below + top) := by
  unfold cp_res
  rw [if_neg (by decide), if_neg (by decide), if_pos rfl]
theorem cp_r_4 (top below h : Int32) : cp_res 4 top below h = (below * top) := by
  unfold cp_res
  rw [if_neg (by decide), if_neg (by decide), if_neg (by decide), if_pos rfl]
theorem cp_r_5 (top below h : Int32) : cp_res 5 top below h = (below - top) := by
  unfold cp_res
  rw [if_neg (by decide), if_neg (by decide), if_neg (by decide), if_neg (by decide), if_pos rfl]
theorem cp_r_6 (top below h : Int32) : cp_res 6 top below h = (if below = top then 1 else 0) := by
  unfold cp_res
  rw [if_neg (by decide), if_neg (by decide), if_neg (by decide), if_neg (by decide), if_neg (by decide), if_pos rfl]
theorem cp_r_7 (top below h : Int32) : cp_res 7 top below h = (if below < top then 1 else 0) := by
  unfold cp_res
  rw [if_neg (by decide), if_neg (by decide), if_neg (by decide), if_neg (by decide), if_neg (by decide), if_neg (by decide), if_pos rfl]
theorem cp_r_8 (top below h : Int32) : cp_res 8 top below h = (below) := by
  unfold cp_res
  rw [if_neg (by decide), if_neg (by decide), if_neg (by decide), if_neg (by decide), if_neg (by decide), if_neg (by decide), if_neg (by decide), if_neg (by decide), if_neg (by decide), if_neg (by decide), if_neg (by decide)]
theorem cp_r_9 (top below h : Int32) : cp_res 9 top below h = (below) := by
  unfold cp_res
  rw [if_neg (by decide), if_neg (by decide), if_neg (by decide), if_neg (by decide), if_neg (by decide), if_neg (by decide), if_neg (by decide), if_neg (by decide), if_neg (by decide), if_neg (by decide), if_neg (by decide)]
theorem cp_r_10 (top below h : Int32) : cp_res 10 top below h = (h) := by
  unfold cp_res
  rw [if_neg (by decide), if_neg (by decide), if_neg (by decide), if_neg (by decide), if_neg (by decide), if_neg (by decide), if_neg (by decide), if_pos rfl]
theorem cp_r_11 (top below h : Int32) : cp_res 11 top below h = (2) := by
  unfold cp_res
  rw [if_neg (by decide), if_neg (by decide), if_neg (by decide), if_neg (by decide), if_neg (by decide), if_neg (by decide), if_neg (by decide), if_neg (by decide), if_pos rfl]
theorem cp_r_12 (top below h : Int32) : cp_res 12 top below h = (below ^^^ top) := by
  unfold cp_res
  rw [if_neg (by decide), if_neg (by decide), if_neg (by decide), if_neg (by decide), if_neg (by decide), if_neg (by decide), if_neg (by decide), if_neg (by decide), if_neg (by decide), if_pos rfl]
theorem cp_r_13 (top below h : Int32) : cp_res 13 top below h = (if top = 0 then 1 else 0) := by
  unfold cp_res
  rw [if_neg (by decide), if_neg (by decide), if_neg (by decide), if_neg (by decide), if_neg (by decide), if_neg (by decide), if_neg (by decide), if_neg (by decide), if_neg (by decide), if_neg (by decide), if_pos rfl]
theorem cp_r_14 (top below h : Int32) : cp_res 14 top below h = (below) := by
  unfold cp_res
  rw [if_neg (by decide), if_neg (by decide), if_neg (by decide), if_neg (by decide), if_neg (by decide), if_neg (by decide), if_neg (by decide), if_neg (by decide), if_neg (by decide), if_neg (by decide), if_neg (by decide)]
theorem cp_r_15 (top below h : Int32) : cp_res 15 top below h = (below) := by
  unfold cp_res
  rw [if_neg (by decide), if_neg (by decide), if_neg (by decide), if_neg (by decide), if_neg (by decide), if_neg (by decide), if_neg (by decide), if_neg (by decide), if_neg (by decide), if_neg (by decide), if_neg (by decide)]
theorem cp_res_0 {c : Int32} (h0 : ¬ 0 < cp_need c) (a b a' b' h : Int32) : cp_res c a b h = cp_res c a' b' h := by
  by_cases z : c = 1 ∨ c = 10 ∨ c = 11
  · rcases z with z | z | z
    · rw [z, cp_r_1, cp_r_1]
    · rw [z, cp_r_10, cp_r_10]
    · rw [z, cp_r_11, cp_r_11]
  · exfalso
    apply h0
    unfold cp_need
    rw [if_neg z]
    split <;> omega
theorem cp_res_1 {c : Int32} (h0 : ¬ 1 < cp_need c) (n9 : ¬ (c = 9 ∨ c = 15)) (a b b' h : Int32) : cp_res c a b h = cp_res c a b' h := by
  by_cases z : c = 1 ∨ c = 10 ∨ c = 11
  · rcases z with z | z | z
    · rw [z, cp_r_1, cp_r_1]
    · rw [z, cp_r_10, cp_r_10]
    · rw [z, cp_r_11, cp_r_11]
  · by_cases y : c = 2 ∨ c = 9 ∨ c = 13 ∨ c = 15
    · rcases y with y | y | y | y
      · rw [y, cp_r_2, cp_r_2]
      · exact absurd (Or.inl y) n9
      · rw [y, cp_r_13, cp_r_13]
      · exact absurd (Or.inr y) n9
    · exfalso
      apply h0
      unfold cp_need
      rw [if_neg z, if_neg y]
      omega
theorem cp_ynx_e {c h : Int32} {n : Nat} {g : Nat → Int32} (hn : cp_need c ≤ n) : ∀ i, i < cp_grow c n → cp_ynx c n g h i = cp_nst c n g h i := by
  intro i hi
  unfold cp_ynx cp_nst
  rw [if_pos (by omega : 0 < cp_grow c n)]
  by_cases z : c = 8
  · subst z
    have hn2 : 2 ≤ n := hn
    rw [if_pos rfl, if_pos rfl]
    have eg : cp_grow 8 n = n := rfl
    rw [eg] at hi ⊢
    rw [cp_ytop_e hn (by decide), cp_ybel_e hn (by decide)]
    have er : cp_res 8 (cp_top g n) (cp_bel g n) h = cp_bel g n := cp_r_8 _ _ _
    rw [er]
    by_cases a : i = n - 2
    · rw [a, pk_us, pk_un (by omega), pk_us]
    · rw [pk_un a]
      by_cases b : i = n - 1
      · rw [b, pk_us, pk_us]
      · rw [pk_un b, pk_un b, pk_un a]
  · rw [if_neg z, if_neg z]
    by_cases y : c = 9 ∨ c = 15
    · rw [if_pos y]
      have eg : cp_grow c n = n - 1 := by
        rcases y with y | y <;> (subst y; rfl)
      have er : cp_res c (cp_top g n) (cp_bel g n) h = cp_bel g n := by
        rcases y with y | y
        · rw [y, cp_r_9]
        · rw [y, cp_r_15]
      rw [eg] at hi ⊢
      rw [er]
      by_cases a : i = n - 1 - 1
      · rw [← a, pk_us]
        unfold cp_bel
        rw [if_pos (by omega), a]
        rfl
      · rw [pk_un a]
    · rw [if_neg y]
      have er : cp_res c (cp_ytop c n g) (cp_ybel c n g) h = cp_res c (cp_top g n) (cp_bel g n) h := by
        by_cases h0 : 0 < cp_need c
        · rw [cp_ytop_e hn h0]
          by_cases h1 : 1 < cp_need c
          · rw [cp_ybel_e hn h1]
          · exact cp_res_1 h1 y _ _ _ _
        · exact cp_res_0 h0 _ _ _ _ _
      rw [er]
theorem cp_OP_c {lock w h : Int32} {g : Nat → Int32} (e : g 0 = w) : cp_run lock h 8 0 1 g ↔ cp_OP lock w h :=
  cp_run_c 8 0 1 g _ (fun i hi => by rw [show i = 0 from by omega]; exact e)
theorem cp_grow_le (c : Int32) (n : Nat) : cp_grow c n ≤ n + 1 := by
  unfold cp_grow
  split
  · omega
  · split <;> omega
end
section
/-! the changes of the data, one by one -/
def cp_RR (ic : Nat → Nat) (so : Nat → Nat) (oc : Nat → Nat) (am : Nat → Nat) (hg : Nat → Nat) (par : Nat → Nat) (cn : Nat → Nat) (tx : Nat → Nat) (st : Nat → Nat) (sl : Nat → Bool) (wi : Nat → Int32) (lk : Nat → Int32) (wk bw : Nat → Int32) (gd : Nat → Bool) (pc : Nat) (po : Nat → Nat) : Prop :=
  cp_RB ic so oc am hg par cn tx st sl wi lk ∧ cp_RT ic so oc am hg par cn tx st sl wi lk wk bw gd ∧ pc ≤ 8 ∧ ∀ i, i < pc → cp_PO ic so oc am st sl (po i)
theorem cp_up_all {α : Type} {f : Nat → α} {k : Nat} {v : α} {P : α → Prop} (h : ∀ j, P (f j)) (hv : P v) : ∀ j, P (cp_up f k v j) := by
  intro j
  by_cases e : j = k
  · subst e
    rw [cp_up_s]
    exact hv
  · rw [cp_up_n e]
    exact h j
section
variable {ic so oc am hg par cn tx st : Nat → Nat} {sl : Nat → Bool} {wi lk wk bw : Nat → Int32} {gd : Nat → Bool}
variable {ic' so' oc' am' hg' par' cn' tx' st' : Nat → Nat} {sl' : Nat → Bool} {wi' lk' wk' bw' : Nat → Int32} {gd' : Nat → Bool}
variable {pc : Nat} {po : Nat → Nat}
theorem cp_RR_fr (R : cp_RR ic so oc am hg par cn tx st sl wi lk wk bw gd pc po) (B' : cp_RB ic' so' oc' am' hg' par' cn' tx' st' sl' wi' lk') (f : cp_Fr ic so oc am hg par cn tx st sl wi lk ic' so' oc' am' hg' par' cn' tx' st' sl' wi' lk') (hw : ∀ b, b < 24 → st b = 3 → wk' b = wk b) (hs : ∀ b, b < 24 → st' b = 3 → st b = 3) : cp_RR ic' so' oc' am' hg' par' cn' tx' st' sl' wi' lk' wk' bw gd pc po := by
  obtain ⟨B, T, p1, p2⟩ := R
  refine ⟨B', cp_RT_fr B T f (fun b hb cb => ⟨hw b hb cb, rfl, rfl⟩) (fun b hb cb nb => absurd (hs b hb cb) nb) (fun b hb g => (f.2.1 b hb (T.2.2.2.1 b hb g)).1), p1, fun i hi => cp_PO_fr B f (p2 i hi)⟩
theorem cp_s_in (R : cp_RR ic so oc am hg par cn tx st sl wi lk wk bw gd pc po) {t o : Nat} {w : Int32} (ht : t < 32) (ns : sl t = false) (hc : ic t < 2) (ho : o < 112) :
    cp_RR (cp_up ic t (ic t + 1)) (cp_up so (2 * t + ic t) o) oc am hg par cn tx st sl (cp_up wi (2 * t + ic t) w) lk wk bw gd pc po := by
  obtain ⟨b1, b2, b3, b4, b5, b6, b7, b8, b9, b10, b11, b12, b13⟩ := R.1
  refine cp_RR_fr R ⟨cp_up_all (P := fun x => x ≤ 2) b1 (by omega), cp_up_all (P := fun x => x < 112) b2 ho, b3, b4, b5, b6, b7, b8, b9, b10, b11, b12, b13⟩ ⟨?_, ?_, ?_⟩ (fun _ _ _ => rfl) (fun _ _ h => h)
  · intro q hq s
    have ne : q ≠ t := by
      intro e
      rw [e, ns] at s
      exact nomatch s
    refine ⟨s, cp_up_n ne, fun k hk => ⟨cp_up_n (by omega), cp_up_n (by omega)⟩⟩
  · intro b hb cb
    exact ⟨cb, rfl, rfl, rfl, fun _ _ => rfl⟩
  · intro j hj
    exact ⟨rfl, fun _ _ => ⟨rfl, rfl⟩⟩
theorem cp_s_out (R : cp_RR ic so oc am hg par cn tx st sl wi lk wk bw gd pc po) {t a : Nat} {l : Int32} (ht : t < 32) (ns : sl t = false) (hc : oc t < 2) (h1 : 1 ≤ a) (h2 : a ≤ 1000) :
    cp_RR ic so (cp_up oc t (oc t + 1)) (cp_up am (2 * t + oc t) a) hg par cn tx st sl wi (cp_up lk (2 * t + oc t) l) wk bw gd pc po := by
  obtain ⟨b1, b2, b3, b4, b5, b6, b7, b8, b9, b10, b11, b12, b13⟩ := R.1
  refine cp_RR_fr R ⟨b1, b2, cp_up_all (P := fun x => x ≤ 2) b3 (by omega), cp_up_all (P := fun x => x ≤ 10000) b4 (by omega), b5, b6, b7, b8, ?_, ?_, b11, ?_, ?_⟩ ⟨?_, ?_, ?_⟩ (fun _ _ _ => rfl) (fun _ _ h => h)
  · intro o
    have c := b9 o
    by_cases e : o = 2 * t + oc t
    · rw [e, cp_up_s, show (2 * t + oc t) / 2 = t from by omega, cp_up_s]
      omega
    · rw [cp_up_n e]
      by_cases e2 : o / 2 = t
      · rw [e2, cp_up_s]
        rw [e2] at c
        omega
      · rw [cp_up_n e2]
        exact c
  · intro o ho
    by_cases e : o = 2 * t + oc t
    · rw [e, cp_up_s]
      exact h2
    · rw [cp_up_n e]
      exact b10 o ho
  · intro b
    rw [cp_up_n (by omega)]
    exact b12 b
  · intro b hb
    rw [cp_up_n (by omega)]
    exact b13 b hb
  · intro q hq s
    exact ⟨s, rfl, fun _ _ => ⟨rfl, rfl⟩⟩
  · intro b hb cb
    exact ⟨cb, rfl, rfl, rfl, fun _ _ => rfl⟩
  · intro j hj
    have ne : j ≠ t := by
      intro e
      rcases hj with z | z
      · rw [e, ns] at z
        exact nomatch z.2
      · omega
    exact ⟨cp_up_n ne, fun i hi => ⟨cp_up_n (by omega), cp_up_n (by omega)⟩⟩
theorem cp_s_seal (R : cp_RR ic so oc am hg par cn tx st sl wi lk wk bw gd pc po) (t : Nat) : cp_RR ic so oc am hg par cn tx st (cp_up sl t true) wi lk wk bw gd pc po := by
  obtain ⟨b1, b2, b3, b4, b5, b6, b7, b8, b9, b10, b11, b12, b13⟩ := R.1
  have up : ∀ q, sl q = true → cp_up sl t true q = true := by
    intro q s
    by_cases e : q = t
    · rw [e, cp_up_s]
    · rw [cp_up_n e]
      exact s
  refine cp_RR_fr R ⟨b1, b2, b3, b4, b5, b6, b7, b8, b9, b10, fun b i h => up _ (b11 b i h), b12, b13⟩ ⟨?_, ?_, ?_⟩ (fun _ _ _ => rfl) (fun _ _ h => h)
  · intro q hq s
    exact ⟨up q s, rfl, fun _ _ => ⟨rfl, rfl⟩⟩
  · intro b hb cb
    exact ⟨cb, rfl, rfl, rfl, fun _ _ => rfl⟩
  · intro j hj
    exact ⟨rfl, fun _ _ => ⟨rfl, rfl⟩⟩
theorem cp_s_draft (R : cp_RR ic so oc am hg par cn tx st sl wi lk wk bw gd pc po) {b p : Nat} {w l : Int32} (hb : b < 24) (hs : st b ≤ 1) (hp : p < 24) :
    cp_RR ic so (cp_up oc (32 + b) 1) (cp_up am (64 + 2 * b) 50) hg (cp_up par b p) (cp_up cn b 0) tx (cp_up st b 1) sl wi (cp_up lk (64 + 2 * b) l) (cp_up wk b w) bw gd pc po := by
  have od := cp_am_odd R.1 b
  obtain ⟨b1, b2, b3, b4, b5, b6, b7, b8, b9, b10, b11, b12, b13⟩ := R.1
  have nb : ∀ c, st c = 3 → c ≠ b := by
    intro c h e
    rw [e] at h
    omega
  refine cp_RR_fr R ⟨b1, b2, cp_up_all (P := fun x => x ≤ 2) b3 (by omega), cp_up_all (P := fun x => x ≤ 10000) b4 (by omega), cp_up_all (P := fun x => x ≤ 3) b5 (by omega), cp_up_all (P := fun x => x < 24) b6 hp, cp_up_all (P := fun x => x ≤ 3) b7 (by omega), b8, ?_, ?_, ?_, ?_, ?_⟩ ⟨?_, ?_, ?_⟩ ?_ ?_
  · intro o
    have c := b9 o
    by_cases e : o = 64 + 2 * b
    · rw [e, cp_up_s, show (64 + 2 * b) / 2 = 32 + b from by omega, cp_up_s]
      omega
    · rw [cp_up_n e]
      by_cases e2 : o / 2 = 32 + b
      · rw [e2, cp_up_s]
        rw [show o = 64 + 2 * b + 1 from by omega, od]
        omega
      · rw [cp_up_n e2]
        exact c
  · intro o ho
    rw [cp_up_n (by omega)]
    exact b10 o ho
  · intro c i hi
    by_cases e : c = b
    · rw [e, cp_up_s] at hi
      exact absurd hi (Nat.not_lt_zero _)
    · rw [cp_up_n e] at hi
      exact b11 c i hi
  · intro c
    by_cases e : c = b
    · rw [e, cp_up_s]
      exact Nat.le_refl _
    · rw [cp_up_n (by omega)]
      exact b12 c
  · intro c hc
    by_cases e : c = b
    · rw [e, cp_up_s]
    · rw [cp_up_n e] at hc
      rw [cp_up_n (by omega)]
      exact b13 c hc
  · intro q hq s
    exact ⟨s, rfl, fun _ _ => ⟨rfl, rfl⟩⟩
  · intro c hc cc
    have ne := nb c cc
    exact ⟨(cp_up_n ne).trans cc, cp_up_n ne, cp_up_n ne, rfl, fun _ _ => rfl⟩
  · intro j hj
    have ne : j ≠ 32 + b := by
      intro e
      rcases hj with z | z
      · omega
      · exact nb _ z.2.2 (by omega)
    exact ⟨cp_up_n ne, fun i hi => ⟨cp_up_n (by omega), cp_up_n (by omega)⟩⟩
  · intro c hc cc
    exact cp_up_n (nb c cc)
  · intro c hc cc
    by_cases e : c = b
    · rw [e, cp_up_s] at cc
      exact nomatch cc
    · rw [cp_up_n e] at cc
      exact cc
theorem cp_s_app (R : cp_RR ic so oc am hg par cn tx st sl wi lk wk bw gd pc po) {b t : Nat} (hb : b < 24) (hs : st b = 1) (hc : cn b < 3) (ht : t < 32) (s : sl t = true) :
    cp_RR ic so oc am hg par (cp_up cn b (cn b + 1)) (cp_up tx (3 * b + cn b) t) st sl wi lk wk bw gd pc po := by
  obtain ⟨b1, b2, b3, b4, b5, b6, b7, b8, b9, b10, b11, b12, b13⟩ := R.1
  have nb : ∀ c, st c = 3 → c ≠ b := by
    intro c h e
    rw [e] at h
    omega
  refine cp_RR_fr R ⟨b1, b2, b3, b4, b5, b6, cp_up_all (P := fun x => x ≤ 3) b7 (by omega), cp_up_all (P := fun x => x < 32) b8 ht, b9, b10, ?_, b12, b13⟩ ⟨?_, ?_, ?_⟩ (fun _ _ _ => rfl) (fun _ _ h => h)
  · intro c i hi
    have c3 := b7 c
    by_cases e : c = b
    · rw [e, cp_up_s] at hi
      rw [e]
      by_cases z : i = cn b
      · rw [z, cp_up_s]
        exact s
      · rw [cp_up_n (by omega)]
        exact b11 b i (by omega)
    · rw [cp_up_n e] at hi
      rw [cp_up_n (by omega)]
      exact b11 c i hi
  · intro q hq s
    exact ⟨s, rfl, fun _ _ => ⟨rfl, rfl⟩⟩
  · intro c hc' cc
    have ne := nb c cc
    exact ⟨cc, rfl, cp_up_n ne, rfl, fun i hi => cp_up_n (by omega)⟩
  · intro j hj
    exact ⟨rfl, fun _ _ => ⟨rfl, rfl⟩⟩
theorem cp_s_cb (R : cp_RR ic so oc am hg par cn tx st sl wi lk wk bw gd pc po) {b a : Nat} {l : Int32} (hb : b < 24) (hs : st b = 1) (h1 : 1 ≤ a) (h2 : a ≤ 10000) :
    cp_RR ic so oc (cp_up am (64 + 2 * b) a) hg par cn tx st sl wi (cp_up lk (64 + 2 * b) l) wk bw gd pc po := by
  obtain ⟨b1, b2, b3, b4, b5, b6, b7, b8, b9, b10, b11, b12, b13⟩ := R.1
  refine cp_RR_fr R ⟨b1, b2, b3, cp_up_all (P := fun x => x ≤ 10000) b4 h2, b5, b6, b7, b8, ?_, ?_, b11, b12, b13⟩ ⟨?_, ?_, ?_⟩ (fun _ _ _ => rfl) (fun _ _ h => h)
  · intro o
    have c := b9 o
    by_cases e : o = 64 + 2 * b
    · rw [e, cp_up_s, show (64 + 2 * b) / 2 = 32 + b from by omega, b13 b (by omega)]
      omega
    · rw [cp_up_n e]
      exact c
  · intro o ho
    rw [cp_up_n (by omega)]
    exact b10 o ho
  · intro q hq s
    exact ⟨s, rfl, fun _ _ => ⟨rfl, rfl⟩⟩
  · intro c hc cc
    exact ⟨cc, rfl, rfl, rfl, fun _ _ => rfl⟩
  · intro j hj
    have ne : j ≠ 32 + b := by
      intro e
      rcases hj with z | z
      · omega
      · have := z.2.2
        rw [e, show 32 + b - 32 = b from by omega] at this
        omega
    exact ⟨rfl, fun i hi => ⟨cp_up_n (by omega), cp_up_n (by omega)⟩⟩
theorem cp_s_sub (R : cp_RR ic so oc am hg par cn tx st sl wi lk wk bw gd pc po) {b : Nat} (hb : b < 24) (hs : st b = 1) : cp_RR ic so oc am hg par cn tx (cp_up st b 2) sl wi lk wk bw gd pc po := by
  obtain ⟨b1, b2, b3, b4, b5, b6, b7, b8, b9, b10, b11, b12, b13⟩ := R.1
  have nb : ∀ c, st c = 3 → c ≠ b := by
    intro c h e
    rw [e] at h
    omega
  refine cp_RR_fr R ⟨b1, b2, b3, b4, cp_up_all (P := fun x => x ≤ 3) b5 (by omega), b6, b7, b8, b9, b10, b11, b12, ?_⟩ ⟨?_, ?_, ?_⟩ (fun _ _ _ => rfl) ?_
  · intro c hc
    by_cases e : c = b
    · rw [e]
      exact b13 b (by omega)
    · rw [cp_up_n e] at hc
      exact b13 c hc
  · intro q hq s
    exact ⟨s, rfl, fun _ _ => ⟨rfl, rfl⟩⟩
  · intro c hc cc
    exact ⟨(cp_up_n (nb c cc)).trans cc, rfl, rfl, rfl, fun _ _ => rfl⟩
  · intro j hj
    exact ⟨rfl, fun _ _ => ⟨rfl, rfl⟩⟩
  · intro c hc cc
    by_cases e : c = b
    · rw [e, cp_up_s] at cc
      exact nomatch cc
    · rw [cp_up_n e] at cc
      exact cc
/-- a block is connected: v says whether it is right -/
theorem cp_s_con (R : cp_RR ic so oc am hg par cn tx st sl wi lk wk bw gd pc po) {b : Nat} {v : Bool} (hb : b < 24) (hs : st b = 2) (hp : st (par b) = 3)
    (hv : v = true ↔ gd (par b) = true ∧ cp_CK ic so oc am (cp_up hg b (hg (par b) + 1)) par cn tx sl wi lk b) :
    cp_RR ic so oc am (cp_up hg b (hg (par b) + 1)) par cn tx (cp_up st b 3) sl wi lk wk (cp_up bw b (bw (par b) + wk b)) (cp_up gd b v) pc po := by
  obtain ⟨B, T, p1, p2⟩ := R
  have B0 := B
  obtain ⟨b1, b2, b3, b4, b5, b6, b7, b8, b9, b10, b11, b12, b13⟩ := B
  have nb : ∀ c, st c = 3 → c ≠ b := by
    intro c h e
    rw [e] at h
    omega
  have f : cp_Fr ic so oc am hg par cn tx st sl wi lk ic so oc am (cp_up hg b (hg (par b) + 1)) par cn tx (cp_up st b 3) sl wi lk := by
    refine ⟨?_, ?_, ?_⟩
    · intro q hq s
      exact ⟨s, rfl, fun _ _ => ⟨rfl, rfl⟩⟩
    · intro c hc cc
      exact ⟨(cp_up_n (nb c cc)).trans cc, rfl, rfl, cp_up_n (nb c cc), fun _ _ => rfl⟩
    · intro j hj
      exact ⟨rfl, fun _ _ => ⟨rfl, rfl⟩⟩
  refine ⟨⟨b1, b2, b3, b4, cp_up_all (P := fun x => x ≤ 3) b5 (by omega), b6, b7, b8, b9, b10, b11, b12, ?_⟩, cp_RT_fr B0 T f ?_ ?_ ?_, p1, fun i hi => cp_PO_fr B0 f (p2 i hi)⟩
  · intro c hc
    by_cases e : c = b
    · rw [e]
      exact b13 b (by omega)
    · rw [cp_up_n e] at hc
      exact b13 c hc
  · intro c hc cc
    exact ⟨rfl, cp_up_n (nb c cc), cp_up_n (nb c cc)⟩
  · intro c hc cc nc
    have e : c = b := by
      by_cases e : c = b
      · exact e
      · rw [cp_up_n e] at cc
        exact absurd cc nc
    subst e
    refine ⟨b6 c, hp, cp_up_s, cp_up_s, ?_⟩
    rw [cp_up_s]
    exact hv
  · intro c hc g
    by_cases e : c = b
    · rw [e, cp_up_s]
    · rw [cp_up_n e] at g
      rw [cp_up_n e]
      exact T.2.2.2.1 c hc g
/-- what is added to the pool is as the pool's transactions are -/
theorem cp_PO_new (R : cp_RR ic so oc am hg par cn tx st sl wi lk wk bw gd pc po) {tip t h : Nat} {L S : Nat → Prop} (ht : tip < 24) (g : gd tip = true) (hq : t < 32)
    (hL : ∀ j, L j → cp_LS hg par cn tx tip j ∨ ∃ i, i < pc ∧ po i = j) (hS : ∀ o, cp_SP ic so hg par cn tx tip o → S o) (H : cp_FT ic so oc am hg sl wi lk L S t h) : cp_PO ic so oc am st sl t := by
  obtain ⟨B, T, p1, p2⟩ := R
  obtain ⟨h1, h2, h3, h4, h5, h6, h7⟩ := H
  have ct := T.2.2.2.1 tip ht g
  have v := cp_V_1200 B T ht g
  have key : ∀ k, k < ic t → cp_fz st sl (so (2 * t + k) / 2) ∧ am (so (2 * t + k)) ≤ 1200 := by
    intro k hk
    obtain ⟨a1, a2, a3, _, _⟩ := h6 k hk
    rcases hL _ a2 with z | ⟨i, hi, z⟩
    · refine ⟨cp_LS_fz B T.1 ht ct z, ?_⟩
      have := cp_V_ge (am := am) (cp_RB_so B (2 * t + k)) z (fun y => a3 (hS _ y))
      omega
    · have p := p2 i hi
      rw [z] at p
      refine ⟨Or.inl ⟨p.1, p.2.1⟩, ?_⟩
      have := cp_RB_a1 B (o := so (2 * t + k)) (by have := p.1; omega)
      omega
  refine ⟨hq, h1, fun k hk => (key k hk).1, h7, ?_⟩
  have c := cp_RB_ic B t
  unfold cp_sd
  by_cases z0 : 0 < ic t
  · have k0 := (key 0 z0).2
    rw [Nat.add_zero] at k0
    rw [if_pos z0]
    by_cases z1 : 1 < ic t
    · have k1 := (key 1 z1).2
      rw [if_pos z1]
      omega
    · rw [if_neg z1]
      omega
  · rw [if_neg z0, if_neg (by omega)]
    omega
end
end
section
/-! good chains, the best block, the fork, what is offered again -/
section
variable {ic so oc am hg par cn tx st : Nat → Nat} {sl : Nat → Bool} {wi lk wk bw : Nat → Int32} {gd : Nat → Bool}
theorem cp_gd_pt (R : cp_RT ic so oc am hg par cn tx st sl wi lk wk bw gd) : ∀ (n b : Nat), b < 24 → hg b = n → gd b = true → ∀ i, i ≤ n → gd (cp_pt par hg b i) = true := by
  intro n
  induction n with
  | zero =>
    intro b hb hn g i hi
    rw [show i = hg b from by omega, cp_pt_top]
    exact g
  | succ n ih =>
    intro b hb hn g i hi
    have cb := R.2.2.2.1 b hb g
    have nb : b ≠ 0 := by
      intro e
      rw [e, R.1.2.1] at hn
      omega
    obtain ⟨h1, h2, h3⟩ := R.1.2.2 b hb cb nb
    by_cases ei : i = hg b
    · rw [ei, cp_pt_top]
      exact g
    · rw [cp_pt_par R.1 hb cb (by omega)]
      exact ih (par b) h1 (by omega) (((R.2.2.1 b hb cb nb).2.mp g).1) i (by omega)
/-- what is listed below height n of the chain of b -/
def cp_Lh (hg par cn tx : Nat → Nat) (b n j : Nat) : Prop := ∃ i, i < n ∧ cp_inB cn tx (cp_pt par hg b i) j
def cp_Sh (ic so hg par cn tx : Nat → Nat) (b n o : Nat) : Prop := ∃ i, i < n ∧ cp_inS ic so cn tx (cp_pt par hg b i) o
theorem cp_Lh_LS (T : cp_Tr hg par st) {b n : Nat} (hb : b < 24) (cb : st b = 3) (hn : n ≤ hg b) : cp_LS hg par cn tx (cp_pt par hg b n) = cp_Lh hg par cn tx b (n + 1) := by
  funext j
  apply propext
  unfold cp_LS cp_Lh
  rw [cp_pt_hg T hb cb hn]
  constructor
  · rintro ⟨i, hi, h⟩
    rw [cp_pt_pt T hb cb (hg b - n) n i (by omega) hi] at h
    exact ⟨i, by omega, h⟩
  · rintro ⟨i, hi, h⟩
    refine ⟨i, by omega, ?_⟩
    rw [cp_pt_pt T hb cb (hg b - n) n i (by omega) (by omega)]
    exact h
theorem cp_Sh_SP (T : cp_Tr hg par st) {b n : Nat} (hb : b < 24) (cb : st b = 3) (hn : n ≤ hg b) : cp_SP ic so hg par cn tx (cp_pt par hg b n) = cp_Sh ic so hg par cn tx b (n + 1) := by
  funext j
  apply propext
  unfold cp_SP cp_Sh
  rw [cp_pt_hg T hb cb hn]
  constructor
  · rintro ⟨i, hi, h⟩
    rw [cp_pt_pt T hb cb (hg b - n) n i (by omega) hi] at h
    exact ⟨i, by omega, h⟩
  · rintro ⟨i, hi, h⟩
    refine ⟨i, by omega, ?_⟩
    rw [cp_pt_pt T hb cb (hg b - n) n i (by omega) (by omega)]
    exact h
theorem cp_Lh_top (b : Nat) : cp_Lh hg par cn tx b (hg b + 1) = cp_LS hg par cn tx b := by
  funext j
  apply propext
  exact ⟨fun ⟨i, hi, h⟩ => ⟨i, by omega, h⟩, fun ⟨i, hi, h⟩ => ⟨i, by omega, h⟩⟩
theorem cp_Sh_top (b : Nat) : cp_Sh ic so hg par cn tx b (hg b + 1) = cp_SP ic so hg par cn tx b := by
  funext j
  apply propext
  exact ⟨fun ⟨i, hi, h⟩ => ⟨i, by omega, h⟩, fun ⟨i, hi, h⟩ => ⟨i, by omega, h⟩⟩
theorem cp_Lh_s (b n j : Nat) : cp_Lh hg par cn tx b (n + 1) j ↔ cp_Lh hg par cn tx b n j ∨ cp_inB cn tx (cp_pt par hg b n) j := by
  constructor
  · rintro ⟨i, hi, h⟩
    by_cases e : i = n
    · subst e
      exact Or.inr h
    · exact Or.inl ⟨i, by omega, h⟩
  · rintro (⟨i, hi, h⟩ | h)
    · exact ⟨i, by omega, h⟩
    · exact ⟨n, by omega, h⟩
theorem cp_Sh_s (b n j : Nat) : cp_Sh ic so hg par cn tx b (n + 1) j ↔ cp_Sh ic so hg par cn tx b n j ∨ cp_inS ic so cn tx (cp_pt par hg b n) j := by
  constructor
  · rintro ⟨i, hi, h⟩
    by_cases e : i = n
    · subst e
      exact Or.inr h
    · exact Or.inl ⟨i, by omega, h⟩
  · rintro (⟨i, hi, h⟩ | h)
    · exact ⟨i, by omega, h⟩
    · exact ⟨n, by omega, h⟩
/-- the lists within the block at height n of the chain of b -/
def cp_Lq (hg par cn tx : Nat → Nat) (b n i j : Nat) : Prop := cp_Lh hg par cn tx b n j ∨ ∃ q, q < i ∧ tx (3 * cp_pt par hg b n + q) = j
def cp_Sq (ic so hg par cn tx : Nat → Nat) (b n i o : Nat) : Prop := cp_Sh ic so hg par cn tx b n o ∨ ∃ q, q < i ∧ cp_inT ic so (tx (3 * cp_pt par hg b n + q)) o
theorem cp_Lq_Lc (T : cp_Tr hg par st) {b n : Nat} (hb : b < 24) (cb : st b = 3) (hn : n ≤ hg b) (h0 : 0 < n) (i : Nat) : cp_Lc hg par cn tx (cp_pt par hg b n) i = cp_Lq hg par cn tx b n i := by
  funext j
  unfold cp_Lc cp_Lq
  rw [cp_pt_up T hb cb hn h0, cp_Lh_LS T hb cb (by omega), show n - 1 + 1 = n from by omega]
theorem cp_Sq_Sc (T : cp_Tr hg par st) {b n : Nat} (hb : b < 24) (cb : st b = 3) (hn : n ≤ hg b) (h0 : 0 < n) (i : Nat) : cp_Sc ic so hg par cn tx (cp_pt par hg b n) i = cp_Sq ic so hg par cn tx b n i := by
  funext j
  unfold cp_Sc cp_Sq
  rw [cp_pt_up T hb cb hn h0, cp_Sh_SP T hb cb (by omega), show n - 1 + 1 = n from by omega]
/-- what the reference asks of the block at height n -/
def cp_CQ (ic : Nat → Nat) (so : Nat → Nat) (oc : Nat → Nat) (am : Nat → Nat) (hg : Nat → Nat) (par : Nat → Nat) (cn : Nat → Nat) (tx : Nat → Nat) (sl : Nat → Bool) (wi : Nat → Int32) (lk : Nat → Int32) (b n : Nat) : Prop := (∀ i, i < cn (cp_pt par hg b n) → cp_FT ic so oc am hg sl wi lk (cp_Lq hg par cn tx b n i) (cp_Sq ic so hg par cn tx b n i) (tx (3 * cp_pt par hg b n + i)) n) ∧ am (64 + 2 * cp_pt par hg b n) ≤ 50 + cp_fs ic so oc am tx (cp_pt par hg b n) (cn (cp_pt par hg b n))
theorem cp_CQ_gd (R : cp_RT ic so oc am hg par cn tx st sl wi lk wk bw gd) {b n : Nat} (hb : b < 24) (cb : st b = 3) (hn : n ≤ hg b) (hp : 0 < n → gd (cp_pt par hg b (n - 1)) = true) : cp_CQ ic so oc am hg par cn tx sl wi lk b n ↔ gd (cp_pt par hg b n) = true := by
  have T := R.1
  by_cases h0 : 0 < n
  · have nb : cp_pt par hg b n ≠ 0 := by
      intro e
      have := cp_pt_hg T hb cb hn
      rw [e, T.2.1] at this
      omega
    have r := (R.2.2.1 (cp_pt par hg b n) (cp_pt_in T hb cb hn) (cp_pt_st T hb cb hn) nb).2
    rw [r, cp_pt_up T hb cb hn h0]
    have key : cp_CQ ic so oc am hg par cn tx sl wi lk b n ↔ cp_CK ic so oc am hg par cn tx sl wi lk (cp_pt par hg b n) := by
      unfold cp_CQ cp_CK cp_CKn
      rw [cp_pt_hg T hb cb hn]
      constructor
      · rintro ⟨x, y⟩
        refine ⟨fun i hi => ?_, y⟩
        rw [cp_Lq_Lc T hb cb hn h0, cp_Sq_Sc T hb cb hn h0]
        exact x i hi
      · rintro ⟨x, y⟩
        refine ⟨fun i hi => ?_, y⟩
        have z := x i hi
        rw [cp_Lq_Lc T hb cb hn h0, cp_Sq_Sc T hb cb hn h0] at z
        exact z
    rw [key]
    exact ⟨fun z => ⟨hp h0, z⟩, fun z => z.2⟩
  · have e0 : n = 0 := by omega
    subst e0
    have e := cp_pt_0 T hb cb
    obtain ⟨r1, r2, r3, _⟩ := R.2.1
    unfold cp_CQ
    rw [e, r1, r3, show 64 + 2 * 0 = 64 from rfl, r2]
    exact ⟨fun _ => rfl, fun _ => ⟨fun i hi => absurd hi (Nat.not_lt_zero _), Nat.le_add_right _ _⟩⟩
/-- the best of the blocks below n -/
def cp_bt (gd : Nat → Bool) (bw od : Nat → Int32) : Nat → Nat
  | 0 => 0
  | n + 1 => if gd n = true ∧ (bw (cp_bt gd bw od n) < bw n ∨ (bw n = bw (cp_bt gd bw od n) ∧ od n < od (cp_bt gd bw od n))) then n else cp_bt gd bw od n
theorem cp_bt_1 (gd : Nat → Bool) (bw od : Nat → Int32) : cp_bt gd bw od 1 = 0 := by
  unfold cp_bt
  split <;> rfl
theorem cp_bt_gd {gd : Nat → Bool} (bw od : Nat → Int32) (h0 : gd 0 = true) : ∀ n, gd (cp_bt gd bw od n) = true := by
  intro n
  induction n with
  | zero => exact h0
  | succ n ih =>
    unfold cp_bt
    split
    · next h => exact h.1
    · exact ih
theorem cp_bt_lt (gd : Nat → Bool) (bw od : Nat → Int32) : ∀ n, cp_bt gd bw od (n + 1) ≤ n := by
  intro n
  induction n with
  | zero =>
    rw [cp_bt_1]
    exact Nat.le_refl _
  | succ n ih =>
    rw [cp_bt]
    split
    · exact Nat.le_refl _
    · omega
/-- F is the height where the chains of a and b part -/
def cp_Fk (hg par : Nat → Nat) (a b F : Nat) : Prop := F ≤ hg a ∧ F ≤ hg b ∧ cp_pt par hg a F = cp_pt par hg b F ∧ ∀ h, F < h → h ≤ hg a → h ≤ hg b → ¬ cp_pt par hg a h = cp_pt par hg b h
theorem cp_Fk_lo (T : cp_Tr hg par st) {a b F : Nat} (ha : a < 24) (ca : st a = 3) (hb : b < 24) (cb : st b = 3) (k : cp_Fk hg par a b F) {h : Nat} (hh : h ≤ F) : cp_pt par hg a h = cp_pt par hg b h := by
  obtain ⟨k1, k2, k3, k4⟩ := k
  rw [← cp_pt_pt T ha ca (hg a - F) F h (by omega) hh, ← cp_pt_pt T hb cb (hg b - F) F h (by omega) hh, k3]
/-- a block of the chain of b is on the chain of a just up to the fork -/
theorem cp_Fk_on (T : cp_Tr hg par st) {a b F : Nat} (ha : a < 24) (ca : st a = 3) (hb : b < 24) (cb : st b = 3) (k : cp_Fk hg par a b F) {h : Nat} (hh : h ≤ hg b) : (∃ i, i < hg a + 1 ∧ cp_pt par hg a i = cp_pt par hg b h) ↔ h ≤ F := by
  constructor
  · rintro ⟨i, hi, e⟩
    have e1 := cp_pt_hg T ha ca (i := i) (by omega)
    have e2 := cp_pt_hg T hb cb hh
    rw [e, e2] at e1
    subst e1
    by_cases z : h ≤ F
    · exact z
    · exact absurd e (k.2.2.2 h (by omega) (by omega) hh)
  · intro z
    exact ⟨h, by have := k.1; omega, cp_Fk_lo T ha ca hb cb k z⟩
end
/-- the transactions of a block, the first n -/
def cp_ct (tx : Nat → Nat) (b : Nat) : Nat → List Nat
  | 0 => []
  | n + 1 => cp_ct tx b n ++ [tx (3 * b + n)]
/-- the transactions of the chain's blocks above F and below k -/
def cp_ql (hg par cn tx : Nat → Nat) (b F : Nat) : Nat → List Nat
  | 0 => []
  | k + 1 => cp_ql hg par cn tx b F k ++ (if F < k then cp_ct tx (cp_pt par hg b k) (cn (cp_pt par hg b k)) else [])
def cp_pl (po : Nat → Nat) : Nat → List Nat
  | 0 => []
  | n + 1 => cp_pl po n ++ [po n]
/-- the lists that an offered transaction must fit after -/
def cp_La (hg par cn tx po : Nat → Nat) (tip n j : Nat) : Prop := cp_LS hg par cn tx tip j ∨ ∃ i, i < n ∧ po i = j
def cp_Sa (ic so hg par cn tx po : Nat → Nat) (tip n o : Nat) : Prop := cp_SP ic so hg par cn tx tip o ∨ ∃ i, i < n ∧ cp_inT ic so (po i) o
def cp_AF (ic : Nat → Nat) (so : Nat → Nat) (oc : Nat → Nat) (am : Nat → Nat) (hg : Nat → Nat) (par : Nat → Nat) (cn : Nat → Nat) (tx : Nat → Nat) (sl : Nat → Bool) (wi : Nat → Int32) (lk : Nat → Int32) (tip pc : Nat) (po : Nat → Nat) (t : Nat) : Prop := pc < 8 ∧ cp_FT ic so oc am hg sl wi lk (cp_La hg par cn tx po tip pc) (cp_Sa ic so hg par cn tx po tip pc) t (hg tip + 1)
noncomputable def cp_ad (ic : Nat → Nat) (so : Nat → Nat) (oc : Nat → Nat) (am : Nat → Nat) (hg : Nat → Nat) (par : Nat → Nat) (cn : Nat → Nat) (tx : Nat → Nat) (sl : Nat → Bool) (wi : Nat → Int32) (lk : Nat → Int32) (tip : Nat) (q : Nat × (Nat → Nat)) (t : Nat) : Nat × (Nat → Nat) :=
  @ite _ (cp_AF ic so oc am hg par cn tx sl wi lk tip q.1 q.2 t) (Classical.propDecidable _) (q.1 + 1, cp_up q.2 q.1 t) q
noncomputable def cp_fo (ic : Nat → Nat) (so : Nat → Nat) (oc : Nat → Nat) (am : Nat → Nat) (hg : Nat → Nat) (par : Nat → Nat) (cn : Nat → Nat) (tx : Nat → Nat) (sl : Nat → Bool) (wi : Nat → Int32) (lk : Nat → Int32) (tip : Nat) (q : Nat × (Nat → Nat)) (l : List Nat) : Nat × (Nat → Nat) := l.foldl (cp_ad ic so oc am hg par cn tx sl wi lk tip) q
section
variable {ic so oc am hg par cn tx st : Nat → Nat} {sl : Nat → Bool} {wi lk wk bw : Nat → Int32} {gd : Nat → Bool}
theorem cp_fo_app (tip : Nat) (q : Nat × (Nat → Nat)) (l l' : List Nat) : cp_fo ic so oc am hg par cn tx sl wi lk tip q (l ++ l') = cp_fo ic so oc am hg par cn tx sl wi lk tip (cp_fo ic so oc am hg par cn tx sl wi lk tip q l) l' := List.foldl_append ..
theorem cp_fo_1 (tip : Nat) (q : Nat × (Nat → Nat)) (t : Nat) : cp_fo ic so oc am hg par cn tx sl wi lk tip q [t] = cp_ad ic so oc am hg par cn tx sl wi lk tip q t := rfl
theorem cp_ad_t {tip pc : Nat} {po : Nat → Nat} {t : Nat} (h : cp_AF ic so oc am hg par cn tx sl wi lk tip pc po t) : cp_ad ic so oc am hg par cn tx sl wi lk tip (pc, po) t = (pc + 1, cp_up po pc t) := if_pos h
theorem cp_ad_f {tip pc : Nat} {po : Nat → Nat} {t : Nat} (h : ¬ cp_AF ic so oc am hg par cn tx sl wi lk tip pc po t) : cp_ad ic so oc am hg par cn tx sl wi lk tip (pc, po) t = (pc, po) := if_neg h
/-- a pool stays a pool -/
theorem cp_ad_RR {tip pc : Nat} {po : Nat → Nat} {t : Nat} (R : cp_RR ic so oc am hg par cn tx st sl wi lk wk bw gd pc po) (ht : tip < 24) (g : gd tip = true) (hq : t < 32) (H : cp_AF ic so oc am hg par cn tx sl wi lk tip pc po t) : cp_RR ic so oc am hg par cn tx st sl wi lk wk bw gd (pc + 1) (cp_up po pc t) := by
  have n := cp_PO_new R ht g hq (fun j z => z) (fun o z => Or.inl z) H.2
  obtain ⟨B, T, p1, p2⟩ := R
  refine ⟨B, T, H.1, fun i hi => ?_⟩
  by_cases e : i = pc
  · rw [e, cp_up_s]
    exact n
  · rw [cp_up_n e]
    exact p2 i (by omega)
end
end
section
/-! the arrays of the two states by the pure data; reads and writes -/
def cp_A (f : Nat → Nat) : Nat → Int32 := fun j => nI (f j)
def cp_Bo (f : Nat → Bool) : Nat → Int32 := fun j => cp_bI (f j)
def cp_hf (so : Nat → Nat) : Nat → Nat := fun k => so k / 2
def cp_hm (so : Nat → Nat) : Nat → Nat := fun k => so k % 2
def cp_ys (st : Nat → Nat) : Nat → Nat := fun b => if st b = 3 then 2 else st b
theorem cp_rd (f : Nat → Nat) {t : Nat} (h : t < 2 ^ 31) : cp_A f (nI t).toNatClampNeg = nI (f t) := congrArg (cp_A f) (nI_clamp h)
theorem cp_rb (f : Nat → Bool) {t : Nat} (h : t < 2 ^ 31) : cp_Bo f (nI t).toNatClampNeg = cp_bI (f t) := congrArg (cp_Bo f) (nI_clamp h)
theorem cp_rw (f : Nat → Int32) {t : Nat} (h : t < 2 ^ 31) : f (nI t).toNatClampNeg = f t := congrArg f (nI_clamp h)
theorem cp_A_up (f : Nat → Nat) (k v : Nat) : upd (cp_A f) k (nI v) = cp_A (cp_up f k v) := cp_up_I f k v
theorem cp_B_up (f : Nat → Bool) (k : Nat) (v : Bool) : upd (cp_Bo f) k (cp_bI v) = cp_Bo (cp_up f k v) := cp_up_B f k v
theorem cp_wr (f : Nat → Nat) {k : Nat} (v : Nat) (h : k < 2 ^ 31) : upd (cp_A f) (nI k).toNatClampNeg (nI v) = cp_A (cp_up f k v) := by
  rw [nI_clamp h, cp_A_up]
theorem cp_wb (f : Nat → Bool) {k : Nat} (v : Bool) (h : k < 2 ^ 31) : upd (cp_Bo f) (nI k).toNatClampNeg (cp_bI v) = cp_Bo (cp_up f k v) := by
  rw [nI_clamp h, cp_B_up]
theorem cp_ww (f : Nat → Int32) {k : Nat} (v : Int32) (h : k < 2 ^ 31) : upd f (nI k).toNatClampNeg v = cp_up f k v := by
  rw [nI_clamp h]
  rfl
theorem cp_hf_up (so : Nat → Nat) (k f p : Nat) (hp : p < 2) : cp_A (cp_hf (cp_up so k (2 * f + p))) = cp_A (cp_up (cp_hf so) k f) := by
  congr 1
  funext j
  unfold cp_hf
  by_cases e : j = k
  · subst e
    rw [cp_up_s, cp_up_s]
    omega
  · rw [cp_up_n e, cp_up_n e]
theorem cp_hm_up (so : Nat → Nat) (k f p : Nat) (hp : p < 2) : cp_A (cp_hm (cp_up so k (2 * f + p))) = cp_A (cp_up (cp_hm so) k p) := by
  congr 1
  funext j
  unfold cp_hm
  by_cases e : j = k
  · subst e
    rw [cp_up_s, cp_up_s]
    omega
  · rw [cp_up_n e, cp_up_n e]
theorem cp_ys_up (st : Nat → Nat) (b v : Nat) (hv : v < 3) : cp_A (cp_ys (cp_up st b v)) = cp_A (cp_up (cp_ys st) b v) := by
  congr 1
  funext j
  unfold cp_ys
  by_cases e : j = b
  · subst e
    rw [cp_up_s, cp_up_s, if_neg (by omega)]
  · rw [cp_up_n e, cp_up_n e]
theorem cp_2m (t : Nat) : (2 : Int32) * nI t = nI (2 * t) := pk_mul 2 t
theorem cp_2a (t c : Nat) : (2 : Int32) * nI t + nI c = nI (2 * t + c) := by
  rw [cp_2m, nI_add]
theorem cp_3m (t : Nat) : (3 : Int32) * nI t = nI (3 * t) := pk_mul 3 t
theorem cp_3a (t c : Nat) : (3 : Int32) * nI t + nI c = nI (3 * t + c) := by
  rw [cp_3m, nI_add]
end
section
/-! the beginning -/
theorem cp_RR_0 : cp_RR (fun _ => 0) (fun _ => 0) (cp_up (fun _ => 0) 32 1) (cp_up (fun _ => 0) 64 50) (fun _ => 0) (fun _ => 0) (fun _ => 0) (fun _ => 0) (cp_up (fun _ => 0) 0 3) (fun _ => false) (fun _ => 0) (cp_up (fun _ => 0) 64 1) (fun _ => 0) (fun _ => 0) (cp_up (fun _ => false) 0 true) 0 (fun _ => 0) := by
  have s3 : ∀ b, cp_up (fun _ => 0) 0 3 b = 3 → b = 0 := by
    intro b h
    by_cases e : b = 0
    · exact e
    · rw [cp_up_n e] at h
      exact nomatch h
  refine ⟨⟨fun _ => (by decide : 0 ≤ 2), fun _ => (by decide : 0 < 112), ?_, ?_, ?_, fun _ => (by decide : 0 < 24), fun _ => (by decide : 0 ≤ 3), fun _ => (by decide : 0 < 32), ?_, ?_, ?_, ?_, ?_⟩, ⟨⟨rfl, rfl, ?_⟩, ⟨rfl, rfl, rfl, rfl, rfl⟩, ?_, ?_, ?_⟩, by decide, fun i hi => absurd hi (Nat.not_lt_zero _)⟩
  · exact cp_up_all (P := fun x => x ≤ 2) (fun _ => by decide) (by decide)
  · exact cp_up_all (P := fun x => x ≤ 10000) (fun _ => by decide) (by decide)
  · exact cp_up_all (P := fun x => x ≤ 3) (fun _ => by decide) (by decide)
  · intro o
    by_cases e : o = 64
    · subst e
      decide
    · rw [cp_up_n e]
      by_cases e2 : o / 2 = 32
      · rw [e2, cp_up_s]
        show 0 < 0 ↔ _
        omega
      · rw [cp_up_n e2]
        show 0 < 0 ↔ o % 2 < 0
        omega
  · intro o ho
    rw [cp_up_n (by omega)]
    exact Nat.zero_le _
  · intro b i hi
    exact absurd hi (Nat.not_lt_zero _)
  · intro b
    by_cases e : b = 0
    · subst e
      exact Nat.le_refl _
    · rw [cp_up_n (by omega)]
      exact Nat.zero_le _
  · intro b hb
    by_cases e : b = 0
    · subst e
      rfl
    · rw [cp_up_n e] at hb
      exact absurd hb (by decide)
  · intro b hb cb nb
    exact absurd (s3 b cb) nb
  · intro b hb cb nb
    exact absurd (s3 b cb) nb
  · intro b hb g
    by_cases e : b = 0
    · subst e
      rfl
    · rw [cp_up_n e] at g
      exact nomatch g
  · intro b hb cb
    exact (by decide : 0 < cp_nc (cp_up (fun _ => 0) 0 3))
end
section
/-! X: questions, lists -/
theorem cp_nb1 : vp_nar .boolean 1 = 1 := rfl
theorem cp_nb0 : vp_nar .boolean 0 = 0 := rfl
theorem cp_rng (x : Int32) {n : Nat} (hn : n < 2 ^ 31) : (x < 0 ∧ ¬ ∃ t, t < n ∧ x = nI t) ∨ (¬ x < 0 ∧ nI n ≤ x ∧ ¬ ∃ t, t < n ∧ x = nI t) ∨ (¬ x < 0 ∧ ¬ nI n ≤ x ∧ ∃ t, t < n ∧ x = nI t) := by
  rcases pk_ix x hn with h | h | ⟨j, hj, e⟩
  · refine Or.inl ⟨h, fun ⟨t, ht, e⟩ => ?_⟩
    rw [e] at h
    exact nI_pos (by omega) h
  · refine Or.inr (Or.inl ⟨fun z => ?_, h, fun ⟨t, ht, e⟩ => ?_⟩)
    · have := Int32.lt_of_le_of_lt h z
      exact nI_pos hn this
    · rw [e] at h
      exact nI_ge ht hn h
  · refine Or.inr (Or.inr ⟨?_, ?_, j, hj, e⟩)
    · rw [e]
      exact nI_pos (by omega)
    · rw [e]
      exact nI_ge hj hn
theorem cx_isT {post : Int32 → Prop} (x : Int32) (H : ∀ r, cp_TF r (∃ t, t < 32 ∧ x = nI t) → post r) : wpX_isTransaction post x := by
  rcases cp_rng x (n := 32) (by decide) with ⟨a, b⟩ | ⟨a, b, c⟩ | ⟨a, b, c⟩
  · exact br_t a (H _ (cp_TF_F b))
  · exact br_f a (br_t b (H _ (cp_TF_F c)))
  · exact br_f a (br_f b (H _ (cp_TF_T c)))
section
variable {sb qc : Int32} {tip pc : Nat} {ic so oc am hg par cn tx st po : Nat → Nat} {sl gd : Nat → Bool} {wi lk wk bw od xo ch li sp qu sk : Nat → Int32}
theorem cx_lt9 (post : SX → Prop) {t : Nat} (ht : t < 32) (hi2 : ic t ≤ 2) (hso : ∀ k, so k < 112) (S : Nat → Prop) : ∀ (d i : Nat) (sp : Nat → Int32), i + d = ic t → cp_Rp sp (fun o => S o ∨ ∃ k, k < i ∧ so (2 * t + k) = o) 112 →
    (∀ sp', cp_Rp sp' (fun o => S o ∨ cp_inT ic so t o) 112 → post (sb, nI tip, nI pc, qc, cp_A ic, cp_A so, wi, xo, cp_Bo sl, cp_A am, lk, cp_A st, cp_A par, wk, cp_A cn, cp_A tx, od, cp_A hg, bw, cp_Bo gd, ch, cp_A po, li, sp', qu, sk)) → wX_listTransaction_9 post (nI t) sb (nI tip) (nI pc) qc (d + 1) (nI i) (cp_A ic) (cp_A so) wi xo (cp_Bo sl) (cp_A am) lk (cp_A st) (cp_A par) wk (cp_A cn) (cp_A tx) od (cp_A hg) bw (cp_Bo gd) ch (cp_A po) li sp qu sk := by
  intro d
  induction d with
  | zero =>
    intro i sp hi h H
    refine And.intro (vp_in_nI ht (by decide)) (pk_le (ic t) i (fun _ => H _ ?_) (fun z => False.elim (by omega)) (cp_rd ic (by omega)) rfl)
    rw [show i = ic t from by omega] at h
    exact h
  | succ d ih =>
    intro i sp hi h H
    have hs := hso (2 * t + i)
    have e1 : cp_A so ((2 : Int32) * nI t + nI i).toNatClampNeg = nI (so (2 * t + i)) := by
      rw [cp_2a, cp_rd _ (by omega)]
    refine And.intro (vp_in_nI ht (by decide)) (pk_le (ic t) i (fun z => False.elim (by omega)) (fun _ => ?_) (cp_rd ic (by omega)) rfl)
    refine And.intro (pk_in (2 * t + i) 64 (by omega) (cp_2a t i)) (And.intro (pk_in (so (2 * t + i)) 112 hs e1) (nm_r (e' := upd sp (so (2 * t + i)) 1) (by rw [e1, nI_clamp (by omega), cp_nb1]) (nm_r (nI_1 i) ?_)))
    refine ih (i + 1) _ (by omega) (cp_Rp_iff (cp_Rp_upd h) ?_) H
    intro o _
    constructor
    · rintro ((z | ⟨k, hk, z⟩) | z)
      · exact Or.inl z
      · exact Or.inr ⟨k, by omega, z⟩
      · exact Or.inr ⟨i, by omega, z.symm⟩
    · rintro (z | ⟨k, hk, z⟩)
      · exact Or.inl (Or.inl z)
      · by_cases e : k = i
        · subst e
          exact Or.inr z.symm
        · exact Or.inl (Or.inr ⟨k, by omega, z⟩)
theorem cx_lt (post : SX → Prop) {t : Nat} (ht : t < 32) (hi2 : ic t ≤ 2) (hso : ∀ k, so k < 112) {L S : Nat → Prop} (hl : cp_Rp li L 56) (hs : cp_Rp sp S 112)
    (H : ∀ li' sp', cp_Rp li' (fun j => L j ∨ j = t) 56 → cp_Rp sp' (fun o => S o ∨ cp_inT ic so t o) 112 → post (sb, nI tip, nI pc, qc, cp_A ic, cp_A so, wi, xo, cp_Bo sl, cp_A am, lk, cp_A st, cp_A par, wk, cp_A cn, cp_A tx, od, cp_A hg, bw, cp_Bo gd, ch, cp_A po, li', sp', qu, sk)) : wpX_listTransaction post (sb, nI tip, nI pc, qc, cp_A ic, cp_A so, wi, xo, cp_Bo sl, cp_A am, lk, cp_A st, cp_A par, wk, cp_A cn, cp_A tx, od, cp_A hg, bw, cp_Bo gd, ch, cp_A po, li, sp, qu, sk) (nI t) := by
  refine And.intro (vp_in_nI (by omega) (by decide)) (nm_r (e' := upd li t 1) (by rw [nI_clamp (by omega), cp_nb1]) (Exists.intro (ic t + 1) ?_))
  refine cx_lt9 post ht hi2 hso S (ic t) 0 sp (by omega) (cp_Rp_iff hs ?_) (fun sp' h => H _ _ (cp_Rp_upd hl) h)
  intro o _
  exact ⟨Or.inl, fun z => z.elim id (fun ⟨k, hk, _⟩ => absurd hk (Nat.not_lt_zero _))⟩
theorem cx_lb12 (post : SX → Prop) {b : Nat} (hb : b < 24) (hc : cn b ≤ 3) (hic : ∀ t, ic t ≤ 2) (hso : ∀ k, so k < 112) (htx : ∀ k, tx k < 32) (L S : Nat → Prop) : ∀ (d i : Nat) (li sp : Nat → Int32), i + d = cn b →
    cp_Rp li (fun j => L j ∨ j = 32 + b ∨ ∃ q, q < i ∧ tx (3 * b + q) = j) 56 → cp_Rp sp (fun o => S o ∨ ∃ q, q < i ∧ cp_inT ic so (tx (3 * b + q)) o) 112 →
    (∀ li' sp', cp_Rp li' (fun j => L j ∨ cp_inB cn tx b j) 56 → cp_Rp sp' (fun o => S o ∨ cp_inS ic so cn tx b o) 112 → post (sb, nI tip, nI pc, qc, cp_A ic, cp_A so, wi, xo, cp_Bo sl, cp_A am, lk, cp_A st, cp_A par, wk, cp_A cn, cp_A tx, od, cp_A hg, bw, cp_Bo gd, ch, cp_A po, li', sp', qu, sk)) → wX_listBlock_12 post (nI b) (d + 1) (nI i) sb (nI tip) (nI pc) qc (cp_A ic) (cp_A so) wi xo (cp_Bo sl) (cp_A am) lk (cp_A st) (cp_A par) wk (cp_A cn) (cp_A tx) od (cp_A hg) bw (cp_Bo gd) ch (cp_A po) li sp qu sk := by
  intro d
  induction d with
  | zero =>
    intro i li sp hi hl hs H
    refine And.intro (vp_in_nI hb (by decide)) (pk_le (cn b) i (fun _ => H _ _ ?_ ?_) (fun z => False.elim (by omega)) (cp_rd cn (by omega)) rfl)
    · rw [show i = cn b from by omega] at hl
      exact hl
    · rw [show i = cn b from by omega] at hs
      exact hs
  | succ d ih =>
    intro i li sp hi hl hs H
    have e1 : cp_A tx ((3 : Int32) * nI b + nI i).toNatClampNeg = nI (tx (3 * b + i)) := by
      rw [cp_3a, cp_rd _ (by omega)]
    refine And.intro (vp_in_nI hb (by decide)) (pk_le (cn b) i (fun z => False.elim (by omega)) (fun _ => ?_) (cp_rd cn (by omega)) rfl)
    refine And.intro (pk_in (3 * b + i) 72 (by omega) (cp_3a b i)) ?_
    rw [e1]
    refine cx_lt _ (htx _) (hic _) hso hl hs (fun li' sp' hl' hs' => nm_r (nI_1 i) (ih (i + 1) li' sp' (by omega) (cp_Rp_iff hl' ?_) (cp_Rp_iff hs' ?_) H))
    · intro j _
      constructor
      · rintro ((z | z | ⟨q, hq, z⟩) | z)
        · exact Or.inl z
        · exact Or.inr (Or.inl z)
        · exact Or.inr (Or.inr ⟨q, by omega, z⟩)
        · exact Or.inr (Or.inr ⟨i, by omega, z.symm⟩)
      · rintro (z | z | ⟨q, hq, z⟩)
        · exact Or.inl (Or.inl z)
        · exact Or.inl (Or.inr (Or.inl z))
        · by_cases e : q = i
          · subst e
            exact Or.inr z.symm
          · exact Or.inl (Or.inr (Or.inr ⟨q, by omega, z⟩))
    · intro j _
      constructor
      · rintro ((z | ⟨q, hq, z⟩) | z)
        · exact Or.inl z
        · exact Or.inr ⟨q, by omega, z⟩
        · exact Or.inr ⟨i, by omega, z⟩
      · rintro (z | ⟨q, hq, z⟩)
        · exact Or.inl (Or.inl z)
        · by_cases e : q = i
          · subst e
            exact Or.inr z
          · exact Or.inl (Or.inr ⟨q, by omega, z⟩)
theorem cx_lb (post : SX → Prop) {b : Nat} (hb : b < 24) (hc : cn b ≤ 3) (hic : ∀ t, ic t ≤ 2) (hso : ∀ k, so k < 112) (htx : ∀ k, tx k < 32) {L S : Nat → Prop} (hl : cp_Rp li L 56) (hs : cp_Rp sp S 112)
    (H : ∀ li' sp', cp_Rp li' (fun j => L j ∨ cp_inB cn tx b j) 56 → cp_Rp sp' (fun o => S o ∨ cp_inS ic so cn tx b o) 112 → post (sb, nI tip, nI pc, qc, cp_A ic, cp_A so, wi, xo, cp_Bo sl, cp_A am, lk, cp_A st, cp_A par, wk, cp_A cn, cp_A tx, od, cp_A hg, bw, cp_Bo gd, ch, cp_A po, li', sp', qu, sk)) : wpX_listBlock post (sb, nI tip, nI pc, qc, cp_A ic, cp_A so, wi, xo, cp_Bo sl, cp_A am, lk, cp_A st, cp_A par, wk, cp_A cn, cp_A tx, od, cp_A hg, bw, cp_Bo gd, ch, cp_A po, li, sp, qu, sk) (nI b) := by
  have e : (32 : Int32) + nI b = nI (32 + b) := nI_add 32 b
  refine And.intro (pk_in (32 + b) 56 (by omega) e) (nm_r (e' := upd li (32 + b) 1) (by rw [e, nI_clamp (by omega), cp_nb1]) (Exists.intro (cn b + 1) ?_))
  refine cx_lb12 post hb hc hic hso htx L S (cn b) 0 _ sp (by omega) (cp_Rp_iff (cp_Rp_upd hl) ?_) (cp_Rp_iff hs ?_) H
  · intro j _
    constructor
    · rintro (z | z)
      · exact Or.inl z
      · exact Or.inr (Or.inl z)
    · rintro (z | z | ⟨q, hq, _⟩)
      · exact Or.inl z
      · exact Or.inr z
      · exact absurd hq (Nat.not_lt_zero _)
  · intro o _
    exact ⟨Or.inl, fun z => z.elim id (fun ⟨k, hk, _⟩ => absurd hk (Nat.not_lt_zero _))⟩
/-- the loop down the chain: n heights are left, those from n on are listed -/
theorem cx_lc51 (post : SX → Prop) (B : cp_RB ic so oc am hg par cn tx st sl wi lk) (T : cp_Tr hg par st) {b : Nat} (hb : b < 24) (cb : st b = 3) (hh : hg b < 24) : ∀ (n : Nat) (x : Int32) (li sp : Nat → Int32), n ≤ hg b + 1 → (∀ m, n = m + 1 → x = nI (cp_pt par hg b m)) →
    cp_Rp li (fun j => ∃ i, n ≤ i ∧ i ≤ hg b ∧ cp_inB cn tx (cp_pt par hg b i) j) 56 → cp_Rp sp (fun o => ∃ i, n ≤ i ∧ i ≤ hg b ∧ cp_inS ic so cn tx (cp_pt par hg b i) o) 112 →
    (∀ li' sp', cp_Rp li' (cp_LS hg par cn tx b) 56 → cp_Rp sp' (cp_SP ic so hg par cn tx b) 112 → post (sb, nI tip, nI pc, qc, cp_A ic, cp_A so, wi, xo, cp_Bo sl, cp_A am, lk, cp_A st, cp_A par, wk, cp_A cn, cp_A tx, od, cp_A hg, bw, cp_Bo gd, ch, cp_A po, li', sp', qu, sk)) → wX_listChain_51 post (n + 1) x (nI n - 1) sb (nI tip) (nI pc) qc (cp_A ic) (cp_A so) wi xo (cp_Bo sl) (cp_A am) lk (cp_A st) (cp_A par) wk (cp_A cn) (cp_A tx) od (cp_A hg) bw (cp_Bo gd) ch (cp_A po) li sp qu sk := by
  intro n
  induction n with
  | zero =>
    intro x li sp hn hx hl hs H
    refine br_t (by rw [nI_0]; decide) (H _ _ (cp_Rp_iff hl ?_) (cp_Rp_iff hs ?_))
    · intro j _
      exact ⟨fun ⟨i, _, hi, h⟩ => ⟨i, hi, h⟩, fun ⟨i, hi, h⟩ => ⟨i, Nat.zero_le _, hi, h⟩⟩
    · intro j _
      exact ⟨fun ⟨i, _, hi, h⟩ => ⟨i, hi, h⟩, fun ⟨i, hi, h⟩ => ⟨i, Nat.zero_le _, hi, h⟩⟩
  | succ n ih =>
    intro x li sp hn hx hl hs H
    have ex := hx n rfl
    subst ex
    have hp := cp_pt_in T hb cb (i := n) (by omega)
    rw [nI_pred]
    refine br_f (nI_pos (by omega)) ?_
    refine cx_lb _ hp (cp_RB_cn B _) (cp_RB_ic B) (cp_RB_so B) (cp_RB_tx B) hl hs (fun li' sp' hl' hs' => ?_)
    refine And.intro (vp_in_nI hp (by decide)) (nm_r (cp_rd par (by omega)) (nm_r (e' := nI n - 1) (Int32.sub_eq_add_neg _ _).symm ?_))
    refine ih _ li' sp' (by omega) ?_ (cp_Rp_iff hl' ?_) (cp_Rp_iff hs' ?_) H
    · intro m em
      rw [cp_pt_up T hb cb (by omega) (by omega), show n - 1 = m from by omega]
    · intro j _
      constructor
      · rintro (⟨i, h1, h2, h3⟩ | h)
        · exact ⟨i, by omega, h2, h3⟩
        · exact ⟨n, Nat.le_refl _, by omega, h⟩
      · rintro ⟨i, h1, h2, h3⟩
        by_cases e : i = n
        · subst e
          exact Or.inr h3
        · exact Or.inl ⟨i, by omega, h2, h3⟩
    · intro j _
      constructor
      · rintro (⟨i, h1, h2, h3⟩ | h)
        · exact ⟨i, by omega, h2, h3⟩
        · exact ⟨n, Nat.le_refl _, by omega, h⟩
      · rintro ⟨i, h1, h2, h3⟩
        by_cases e : i = n
        · subst e
          exact Or.inr h3
        · exact Or.inl ⟨i, by omega, h2, h3⟩
theorem cp_Rp_0 {l : Nat → Int32} {N : Nat} (h : ∀ j, j < N → l j = 0) : cp_Rp l (fun _ => False) N := fun j hj => Or.inr ⟨h j hj, id⟩
theorem cp_up0 {l : Nat → Int32} {i : Nat} (h : ∀ j, j < i → l j = 0) : ∀ j, j < i + 1 → upd l i 0 j = 0 := by
  intro j hj
  by_cases e : j = i
  · rw [e, pk_us]
  · rw [pk_un e]
    exact h j (by omega)
theorem cx_lc23 (post : SX → Prop) {b : Nat} (hb : b < 24) (hh : hg b < 24)
    (H : ∀ sp', (∀ j, j < 112 → sp' j = 0) → ∃ n, wX_listChain_51 post n (nI b) (nI (hg b)) sb (nI tip) (nI pc) qc (cp_A ic) (cp_A so) wi xo (cp_Bo sl) (cp_A am) lk (cp_A st) (cp_A par) wk (cp_A cn) (cp_A tx) od (cp_A hg) bw (cp_Bo gd) ch (cp_A po) li sp' qu sk) : ∀ (d i : Nat) (sp : Nat → Int32), i + d = 112 → (∀ j, j < i → sp j = 0) → wX_listChain_23 post (nI b) sb (nI tip) (nI pc) qc (d + 1) (nI i) (cp_A ic) (cp_A so) wi xo (cp_Bo sl) (cp_A am) lk (cp_A st) (cp_A par) wk (cp_A cn) (cp_A tx) od (cp_A hg) bw (cp_Bo gd) ch (cp_A po) li sp qu sk := by
  intro d
  induction d with
  | zero =>
    intro i sp hi h
    refine pk_le 112 i (fun _ => And.intro (vp_in_nI hb (by decide)) (nm_r (cp_rd hg (by omega)) (H sp ?_))) (fun z => False.elim (by omega))
    intro j hj
    exact h j (by omega)
  | succ d ih =>
    intro i sp hi h
    refine pk_le 112 i (fun z => False.elim (by omega)) (fun _ => And.intro (vp_in_nI (by omega) (by decide)) (nm_r (e' := upd sp i 0) (by rw [nI_clamp (by omega), cp_nb0]) (nm_r (nI_1 i) (ih (i + 1) _ (by omega) (cp_up0 h)))))
theorem cx_lc2 (post : SX → Prop) {b : Nat} (hb : b < 24) (hh : hg b < 24)
    (H : ∀ li' sp', (∀ j, j < 56 → li' j = 0) → (∀ j, j < 112 → sp' j = 0) → ∃ n, wX_listChain_51 post n (nI b) (nI (hg b)) sb (nI tip) (nI pc) qc (cp_A ic) (cp_A so) wi xo (cp_Bo sl) (cp_A am) lk (cp_A st) (cp_A par) wk (cp_A cn) (cp_A tx) od (cp_A hg) bw (cp_Bo gd) ch (cp_A po) li' sp' qu sk) : ∀ (d i : Nat) (li : Nat → Int32), i + d = 56 → (∀ j, j < i → li j = 0) → wX_listChain_2 post (nI b) sb (nI tip) (nI pc) qc (d + 1) (nI i) (cp_A ic) (cp_A so) wi xo (cp_Bo sl) (cp_A am) lk (cp_A st) (cp_A par) wk (cp_A cn) (cp_A tx) od (cp_A hg) bw (cp_Bo gd) ch (cp_A po) li sp qu sk := by
  intro d
  induction d with
  | zero =>
    intro i li hi h
    refine pk_le 56 i (fun _ => Exists.intro 113 (cx_lc23 post hb hh (fun sp' h' => H li sp' (fun j hj => h j (by omega)) h') 112 0 sp (by omega) (fun j hj => absurd hj (Nat.not_lt_zero _)))) (fun z => False.elim (by omega))
  | succ d ih =>
    intro i li hi h
    refine pk_le 56 i (fun z => False.elim (by omega)) (fun _ => And.intro (vp_in_nI (by omega) (by decide)) (nm_r (e' := upd li i 0) (by rw [nI_clamp (by omega), cp_nb0]) (nm_r (nI_1 i) (ih (i + 1) _ (by omega) (cp_up0 h)))))
theorem cx_lc (post : SX → Prop) (B : cp_RB ic so oc am hg par cn tx st sl wi lk) (T : cp_Tr hg par st) {b : Nat} (hb : b < 24) (cb : st b = 3) (hh : hg b < 24)
    (H : ∀ li' sp', cp_Rp li' (cp_LS hg par cn tx b) 56 → cp_Rp sp' (cp_SP ic so hg par cn tx b) 112 → post (sb, nI tip, nI pc, qc, cp_A ic, cp_A so, wi, xo, cp_Bo sl, cp_A am, lk, cp_A st, cp_A par, wk, cp_A cn, cp_A tx, od, cp_A hg, bw, cp_Bo gd, ch, cp_A po, li', sp', qu, sk)) : wpX_listChain post (sb, nI tip, nI pc, qc, cp_A ic, cp_A so, wi, xo, cp_Bo sl, cp_A am, lk, cp_A st, cp_A par, wk, cp_A cn, cp_A tx, od, cp_A hg, bw, cp_Bo gd, ch, cp_A po, li, sp, qu, sk) (nI b) := by
  refine Exists.intro 57 (cx_lc2 post hb hh ?_ 56 0 li (by omega) (fun j hj => absurd hj (Nat.not_lt_zero _)))
  intro li' sp' h1 h2
  refine Exists.intro (hg b + 1 + 1) ?_
  rw [← nI_pred (hg b)]
  refine cx_lc51 post B T hb cb hh (hg b + 1) (nI b) li' sp' (Nat.le_refl _) ?_ (cp_Rp_iff (cp_Rp_0 h1) ?_) (cp_Rp_iff (cp_Rp_0 h2) ?_) H
  · intro m em
    rw [show m = hg b from by omega, cp_pt_top]
  · intro j _
    exact ⟨fun z => z.elim, fun ⟨i, h1, h2, _⟩ => by omega⟩
  · intro j _
    exact ⟨fun z => z.elim, fun ⟨i, h1, h2, _⟩ => by omega⟩
end
end
section
/-! X: the lock script -/
theorem cp_nlt {c : Int32} {k : Int32} (h : c < 1) (hk : ¬ k < 1) : ¬ c = k := fun e => hk (e ▸ h)
theorem cp_ngt {c : Int32} {k m : Int32} (h : m < c) (hk : ¬ m < k) : ¬ c = k := fun e => hk (e ▸ h)
theorem cp_need_lo {c : Int32} (h : c < 1) : cp_need c = 2 := by
  unfold cp_need
  rw [if_neg (fun z => z.elim (cp_nlt h (by decide)) (fun z => z.elim (cp_nlt h (by decide)) (cp_nlt h (by decide)))), if_neg (fun z => z.elim (cp_nlt h (by decide)) (fun z => z.elim (cp_nlt h (by decide)) (fun z => z.elim (cp_nlt h (by decide)) (cp_nlt h (by decide)))))]
theorem cp_need_hi {c : Int32} (h : 15 < c) : cp_need c = 2 := by
  unfold cp_need
  rw [if_neg (fun z => z.elim (cp_ngt h (by decide)) (fun z => z.elim (cp_ngt h (by decide)) (cp_ngt h (by decide)))), if_neg (fun z => z.elim (cp_ngt h (by decide)) (fun z => z.elim (cp_ngt h (by decide)) (fun z => z.elim (cp_ngt h (by decide)) (cp_ngt h (by decide)))))]
theorem cx_need {post : Int32 → Prop} {c : Int32} (H : post (nI (cp_need c))) : wpX_needOf post c := by
  have k : ∀ d, cp_need c = d → post (nI d) := fun d e => e ▸ H
  exact br_c (fun h => k 2 (cp_need_lo h)) (fun _ => br_c (fun h => k 2 (cp_need_hi h)) (fun _ => br_c (fun e => k 0 (by subst e; decide)) (fun _ => br_c (fun e => k 1 (by subst e; decide)) (fun _ => br_c (fun e => k 2 (by subst e; decide)) (fun _ => br_c (fun e => k 2 (by subst e; decide)) (fun _ => br_c (fun e => k 2 (by subst e; decide)) (fun _ => br_c (fun e => k 2 (by subst e; decide)) (fun _ => br_c (fun e => k 2 (by subst e; decide)) (fun _ => br_c (fun e => k 2 (by subst e; decide)) (fun _ => br_c (fun e => k 1 (by subst e; decide)) (fun _ => br_c (fun e => k 0 (by subst e; decide)) (fun _ => br_c (fun e => k 0 (by subst e; decide)) (fun _ => br_c (fun e => k 2 (by subst e; decide)) (fun _ => br_c (fun e => k 1 (by subst e; decide)) (fun _ => br_c (fun e => k 2 (by subst e; decide)) (fun _ => br_c (fun e => k 1 (by subst e; decide)) (fun _ => trivial)))))))))))))))))
theorem cp_grow_lo {c : Int32} {n : Nat} (h : c < 1) : cp_grow c n = n - 1 := by
  unfold cp_grow
  rw [if_neg (fun z => z.elim (cp_nlt h (by decide)) (fun z => z.elim (cp_nlt h (by decide)) (fun z => z.elim (cp_nlt h (by decide)) (fun z => z.elim (cp_nlt h (by decide)) (cp_nlt h (by decide)))))), if_neg (fun z => z.elim (cp_nlt h (by decide)) (cp_nlt h (by decide)))]
theorem cp_grow_hi {c : Int32} {n : Nat} (h : 14 < c) : cp_grow c n = n - 1 := by
  unfold cp_grow
  rw [if_neg (fun z => z.elim (cp_ngt h (by decide)) (fun z => z.elim (cp_ngt h (by decide)) (fun z => z.elim (cp_ngt h (by decide)) (fun z => z.elim (cp_ngt h (by decide)) (cp_ngt h (by decide)))))), if_neg (fun z => z.elim (cp_ngt h (by decide)) (cp_ngt h (by decide)))]
theorem cp_need_pos {c : Int32} (h1 : ¬ c = 1) (h2 : ¬ c = 10) (h3 : ¬ c = 11) : 1 ≤ cp_need c := by
  unfold cp_need
  rw [if_neg (fun z => z.elim h1 (fun z => z.elim h2 h3))]
  split <;> omega
theorem cp_nm1 {n : Nat} (h : 1 ≤ n) : nI n + (-1) = nI (n - 1) := by
  obtain ⟨m, rfl⟩ : ∃ m, n = m + 1 := ⟨n - 1, by omega⟩
  exact pk_m1 m
theorem cp_nz (n : Nat) : nI n + 0 = nI n := Int32.add_zero _
theorem cx_grow {post : Int32 → Prop} {c : Int32} {n : Nat} (hn : cp_need c ≤ n) (H : ∀ r, nI n + r = nI (cp_grow c n) → post r) : wpX_growthOf post c := by
  exact br_c (fun h => H (-1) (by rw [cp_grow_lo h]; exact cp_nm1 (Nat.le_trans (cp_need_pos (cp_nlt h (by decide)) (cp_nlt h (by decide)) (cp_nlt h (by decide))) hn))) (fun _ => br_c (fun h => H (-1) (by rw [cp_grow_hi h]; exact cp_nm1 (Nat.le_trans (cp_need_pos (cp_ngt h (by decide)) (cp_ngt h (by decide)) (cp_ngt h (by decide))) hn))) (fun _ => br_c (fun e => H 1 (by subst e; exact nI_1 n)) (fun _ => br_c (fun e => H 1 (by subst e; exact nI_1 n)) (fun _ => br_c (fun e => H (-1) (by subst e; exact cp_nm1 (Nat.le_trans (by decide) hn))) (fun _ => br_c (fun e => H (-1) (by subst e; exact cp_nm1 (Nat.le_trans (by decide) hn))) (fun _ => br_c (fun e => H (-1) (by subst e; exact cp_nm1 (Nat.le_trans (by decide) hn))) (fun _ => br_c (fun e => H (-1) (by subst e; exact cp_nm1 (Nat.le_trans (by decide) hn))) (fun _ => br_c (fun e => H (-1) (by subst e; exact cp_nm1 (Nat.le_trans (by decide) hn))) (fun _ => br_c (fun e => H 0 (by subst e; exact cp_nz n)) (fun _ => br_c (fun e => H (-1) (by subst e; exact cp_nm1 (Nat.le_trans (by decide) hn))) (fun _ => br_c (fun e => H 1 (by subst e; exact nI_1 n)) (fun _ => br_c (fun e => H 1 (by subst e; exact nI_1 n)) (fun _ => br_c (fun e => H (-1) (by subst e; exact cp_nm1 (Nat.le_trans (by decide) hn))) (fun _ => br_c (fun e => H 0 (by subst e; exact cp_nz n)) (fun _ => br_c (fun e => H 1 (by subst e; exact nI_1 n)) (fun _ => trivial))))))))))))))))
theorem cp_res_lo {c top below h : Int32} (h0 : c < 1) : cp_res c top below h = below := by
  unfold cp_res
  rw [if_neg (cp_nlt h0 (by decide)), if_neg (cp_nlt h0 (by decide)), if_neg (cp_nlt h0 (by decide)), if_neg (cp_nlt h0 (by decide)), if_neg (cp_nlt h0 (by decide)), if_neg (cp_nlt h0 (by decide)), if_neg (cp_nlt h0 (by decide)), if_neg (cp_nlt h0 (by decide)), if_neg (cp_nlt h0 (by decide)), if_neg (cp_nlt h0 (by decide)), if_neg (cp_nlt h0 (by decide))]
theorem cp_res_hi {c top below h : Int32} (h0 : 13 < c) : cp_res c top below h = below := by
  unfold cp_res
  rw [if_neg (cp_ngt h0 (by decide)), if_neg (cp_ngt h0 (by decide)), if_neg (cp_ngt h0 (by decide)), if_neg (cp_ngt h0 (by decide)), if_neg (cp_ngt h0 (by decide)), if_neg (cp_ngt h0 (by decide)), if_neg (cp_ngt h0 (by decide)), if_neg (cp_ngt h0 (by decide)), if_neg (cp_ngt h0 (by decide)), if_neg (cp_ngt h0 (by decide)), if_neg (cp_ngt h0 (by decide))]
theorem cx_new {post : Int32 → Prop} {c top below h : Int32} (H : post (cp_res c top below h)) : wpX_newTop post c top below h := by
  have k : ∀ d, cp_res c top below h = d → post d := fun d e => e ▸ H
  exact br_c (fun h0 => k _ (cp_res_lo h0)) (fun _ => br_c (fun h0 => k _ (cp_res_hi h0)) (fun _ => br_c (fun e => k _ (by rw [e, cp_r_1])) (fun _ => br_c (fun e => k _ (by rw [e, cp_r_2])) (fun _ => br_c (fun e => k _ (by rw [e, cp_r_3])) (fun _ => br_c (fun e => k _ (by rw [e, cp_r_4])) (fun _ => br_c (fun e => k _ (by rw [e, cp_r_5])) (fun _ => br_c (fun e => br_c (fun z => k 1 (by rw [e, cp_r_6, if_pos z])) (fun z => k 0 (by rw [e, cp_r_6, if_neg z]))) (fun _ => br_c (fun e => br_c (fun z => k 0 (by rw [e, cp_r_7, if_neg (Int32.not_lt.mpr z)])) (fun z => k 1 (by rw [e, cp_r_7, if_pos (Int32.not_le.mp z)]))) (fun _ => br_c (fun e => k _ (by rw [e, cp_r_8])) (fun _ => br_c (fun e => k _ (by rw [e, cp_r_9])) (fun _ => br_c (fun e => k _ (by rw [e, cp_r_10])) (fun _ => br_c (fun e => k _ (by rw [e, cp_r_11])) (fun _ => br_c (fun e => k _ (by rw [e, cp_r_12])) (fun _ => br_c (fun e => br_c (fun z => k 1 (by rw [e, cp_r_13, if_pos z])) (fun z => k 0 (by rw [e, cp_r_13, if_neg z]))) (fun _ => trivial)))))))))))))))
theorem cy_res {post : Int32 → Prop} {c top below h : Int32} (H : post (cp_res c top below h)) : wpY_result post c top below h := by
  have k : ∀ d, cp_res c top below h = d → post d := fun d e => e ▸ H
  exact br_c (fun h0 => k _ (cp_res_lo h0)) (fun _ => br_c (fun h0 => k _ (cp_res_hi h0)) (fun _ => br_c (fun e => k _ (by rw [e, cp_r_1])) (fun _ => br_c (fun e => k _ (by rw [e, cp_r_2])) (fun _ => br_c (fun e => k _ (by rw [e, cp_r_3])) (fun _ => br_c (fun e => k _ (by rw [e, cp_r_4])) (fun _ => br_c (fun e => k _ (by rw [e, cp_r_5])) (fun _ => br_c (fun e => br_c (fun z => k 1 (by rw [e, cp_r_6, if_pos z])) (fun z => k 0 (by rw [e, cp_r_6, if_neg z]))) (fun _ => br_c (fun e => br_c (fun z => k 0 (by rw [e, cp_r_7, if_neg (Int32.not_lt.mpr z)])) (fun z => k 1 (by rw [e, cp_r_7, if_pos (Int32.not_le.mp z)]))) (fun _ => br_c (fun e => k _ (by rw [e, cp_r_8])) (fun _ => br_c (fun e => k _ (by rw [e, cp_r_9])) (fun _ => br_c (fun e => k _ (by rw [e, cp_r_10])) (fun _ => br_c (fun e => k _ (by rw [e, cp_r_11])) (fun _ => br_c (fun e => k _ (by rw [e, cp_r_12])) (fun _ => br_c (fun e => br_c (fun z => k 1 (by rw [e, cp_r_13, if_pos z])) (fun z => k 0 (by rw [e, cp_r_13, if_neg z]))) (fun _ => trivial)))))))))))))))
theorem cp_need_le (c : Int32) : cp_need c ≤ 2 := by
  unfold cp_need
  split
  · omega
  · split <;> omega
section
variable {sb qc : Int32} {tip pc : Nat} {ic so oc am hg par cn tx st po : Nat → Nat} {sl gd : Nat → Bool} {wi lk wk bw od xo ch li sp qu sk : Nat → Int32}
theorem cx_op162 {post : Int32 → SX → Prop} {n : Nat} (hn : n ≤ 9) (H : ∀ r, cp_TF r (cp_end n sk) → post r (sb, nI tip, nI pc, qc, cp_A ic, cp_A so, wi, xo, cp_Bo sl, cp_A am, lk, cp_A st, cp_A par, wk, cp_A cn, cp_A tx, od, cp_A hg, bw, cp_Bo gd, ch, cp_A po, li, sp, qu, sk)) : wX_opens_162 post (nI n) sb (nI tip) (nI pc) qc (cp_A ic) (cp_A so) wi xo (cp_Bo sl) (cp_A am) lk (cp_A st) (cp_A par) wk (cp_A cn) (cp_A tx) od (cp_A hg) bw (cp_Bo gd) ch (cp_A po) li sp qu sk := by
  refine pk_le n 0 (fun z => H 0 (cp_TF_F (fun y => by have := y.1; omega))) (fun z => ?_)
  obtain ⟨m, rfl⟩ : ∃ m, n = m + 1 := ⟨n - 1, by omega⟩
  have e : nI (m + 1) - 1 = nI m := nI_pred m
  refine And.intro (pk_in m 9 (by omega) e) ?_
  rw [e, nI_clamp (by omega)]
  exact br_c (fun y => H 0 (cp_TF_F (fun w => w.2 y))) (fun y => H 1 (cp_TF_T ⟨by omega, y⟩))
theorem cx_op122 {post : Int32 → SX → Prop} {J13 : Int32 → Int32 → (Nat → Int32) → (Nat → Int32) → (Nat → Int32) → (Nat → Int32) → (Nat → Int32) → (Nat → Int32) → (Nat → Int32) → (Nat → Int32) → (Nat → Int32) → (Nat → Int32) → (Nat → Int32) → (Nat → Int32) → (Nat → Int32) → (Nat → Int32) → (Nat → Int32) → (Nat → Int32) → (Nat → Int32) → (Nat → Int32) → (Nat → Int32) → (Nat → Int32) → (Nat → Int32) → (Nat → Int32) → Prop} {lock h c top bel : Int32} {n k : Nat} (hn : cp_need c ≤ n) (hk : cp_grow c n ≤ 9)
    (H : J13 (nI (cp_grow c n)) (nI (4 * (k + 1))) (cp_A ic) (cp_A so) wi xo (cp_Bo sl) (cp_A am) lk (cp_A st) (cp_A par) wk (cp_A cn) (cp_A tx) od (cp_A hg) bw (cp_Bo gd) ch (cp_A po) li sp qu (if 0 < cp_grow c n then upd sk (cp_grow c n - 1) (cp_res c top bel h) else sk)) : wX_opens_122 post J13 lock h (nI n) (nI (4 * k)) c top bel sb (nI tip) (nI pc) qc (cp_A ic) (cp_A so) wi xo (cp_Bo sl) (cp_A am) lk (cp_A st) (cp_A par) wk (cp_A cn) (cp_A tx) od (cp_A hg) bw (cp_Bo gd) ch (cp_A po) li sp qu sk := by
  have e4 : nI (4 * k) + 4 = nI (4 * (k + 1)) := nI_add (4 * k) 4
  refine cx_grow hn (fun r er => nm_r er (pk_le (cp_grow c n) 0 (fun z => nm_r e4 ?_) (fun z => cx_new ?_)))
  · rw [if_neg (by omega)] at H
    exact H
  · rw [if_pos z] at H
    have e : nI (cp_grow c n) - 1 = nI (cp_grow c n - 1) := by
      have := nI_pred (cp_grow c n - 1)
      rw [show cp_grow c n - 1 + 1 = cp_grow c n from by omega] at this
      exact this
    exact And.intro (pk_in (cp_grow c n - 1) 9 (by omega) e) (nm_r (by rw [e, nI_clamp (by omega)]) (nm_r e4 H))
theorem cp_sub2 {n : Nat} (h : 2 ≤ n) : nI n - 2 = nI (n - 2) := pk_sub h
theorem cp_sub1 {n : Nat} (h : 1 ≤ n) : nI n - 1 = nI (n - 1) := pk_sub h
theorem cx_op104 {post : Int32 → SX → Prop} {J13 : Int32 → Int32 → (Nat → Int32) → (Nat → Int32) → (Nat → Int32) → (Nat → Int32) → (Nat → Int32) → (Nat → Int32) → (Nat → Int32) → (Nat → Int32) → (Nat → Int32) → (Nat → Int32) → (Nat → Int32) → (Nat → Int32) → (Nat → Int32) → (Nat → Int32) → (Nat → Int32) → (Nat → Int32) → (Nat → Int32) → (Nat → Int32) → (Nat → Int32) → (Nat → Int32) → (Nat → Int32) → (Nat → Int32) → Prop} {lock h c : Int32} {n k : Nat} (hn : cp_need c ≤ n) (hk : cp_grow c n ≤ 9) (hn9 : n ≤ 9)
    (H : J13 (nI (cp_grow c n)) (nI (4 * (k + 1))) (cp_A ic) (cp_A so) wi xo (cp_Bo sl) (cp_A am) lk (cp_A st) (cp_A par) wk (cp_A cn) (cp_A tx) od (cp_A hg) bw (cp_Bo gd) ch (cp_A po) li sp qu (cp_nst c n sk h)) : wX_opens_104 post J13 lock h (nI n) (nI (4 * k)) c (cp_top sk n) (cp_bel sk n) sb (nI tip) (nI pc) qc (cp_A ic) (cp_A so) wi xo (cp_Bo sl) (cp_A am) lk (cp_A st) (cp_A par) wk (cp_A cn) (cp_A tx) od (cp_A hg) bw (cp_Bo gd) ch (cp_A po) li sp qu sk := by
  unfold cp_nst at H
  refine br_c (fun e => ?_) (fun e => ?_)
  · have h2 : 2 ≤ n := by
      rw [e] at hn
      exact hn
    rw [if_pos e] at H
    exact And.intro (pk_in (n - 2) 9 (by omega) (cp_sub2 h2)) (nm_r (e' := upd sk (n - 2) (cp_top sk n)) (by rw [cp_sub2 h2, nI_clamp (by omega)]) (cx_op122 hn hk H))
  · rw [if_neg e] at H
    exact cx_op122 hn hk H
theorem cx_op67 {post : Int32 → SX → Prop} {J13 : Int32 → Int32 → (Nat → Int32) → (Nat → Int32) → (Nat → Int32) → (Nat → Int32) → (Nat → Int32) → (Nat → Int32) → (Nat → Int32) → (Nat → Int32) → (Nat → Int32) → (Nat → Int32) → (Nat → Int32) → (Nat → Int32) → (Nat → Int32) → (Nat → Int32) → (Nat → Int32) → (Nat → Int32) → (Nat → Int32) → (Nat → Int32) → (Nat → Int32) → (Nat → Int32) → (Nat → Int32) → (Nat → Int32) → Prop} {lock h c : Int32} {n k : Nat} (hn : cp_need c ≤ n) (hk : cp_grow c n ≤ 9) (hn9 : n ≤ 9)
    (H0 : c = 15 → cp_top sk n = 0 → post 0 (sb, nI tip, nI pc, qc, cp_A ic, cp_A so, wi, xo, cp_Bo sl, cp_A am, lk, cp_A st, cp_A par, wk, cp_A cn, cp_A tx, od, cp_A hg, bw, cp_Bo gd, ch, cp_A po, li, sp, qu, sk))
    (H : ¬ (c = 15 ∧ cp_top sk n = 0) → J13 (nI (cp_grow c n)) (nI (4 * (k + 1))) (cp_A ic) (cp_A so) wi xo (cp_Bo sl) (cp_A am) lk (cp_A st) (cp_A par) wk (cp_A cn) (cp_A tx) od (cp_A hg) bw (cp_Bo gd) ch (cp_A po) li sp qu (cp_nst c n sk h)) : wX_opens_67 post J13 lock h (nI n) (nI (4 * k)) c (cp_top sk n) sb (nI tip) (nI pc) qc (cp_A ic) (cp_A so) wi xo (cp_Bo sl) (cp_A am) lk (cp_A st) (cp_A par) wk (cp_A cn) (cp_A tx) od (cp_A hg) bw (cp_Bo gd) ch (cp_A po) li sp qu sk := by
  have key : wX_opens_88 post J13 lock h (nI n) (nI (4 * k)) c (cp_top sk n) (cp_bel sk n) sb (nI tip) (nI pc) qc (cp_A ic) (cp_A so) wi xo (cp_Bo sl) (cp_A am) lk (cp_A st) (cp_A par) wk (cp_A cn) (cp_A tx) od (cp_A hg) bw (cp_Bo gd) ch (cp_A po) li sp qu sk :=
    br_c (fun e => br_c (fun z => H0 e z) (fun z => cx_op104 hn hk hn9 (H (fun y => z y.2)))) (fun e => cx_op104 hn hk hn9 (H (fun y => e y.1)))
  refine pk_le n 1 (fun z => ?_) (fun z => And.intro (pk_in (n - 2) 9 (by omega) (cp_sub2 z)) ?_)
  · have e : cp_bel sk n = 0 := if_neg (by omega)
    rw [e] at key
    exact key
  · have e : cp_bel sk n = sk (nI n - 2).toNatClampNeg := by
      rw [cp_sub2 z, nI_clamp (by omega)]
      exact if_pos z
    rw [e] at key
    exact key
theorem cx_op13 {post : Int32 → SX → Prop} (lock h : Int32) : ∀ (d k n : Nat) (sk : Nat → Int32), k + d = 8 → n ≤ k + 1 → (∀ r sk', cp_TF r (cp_run lock h d k n sk) → post r (sb, nI tip, nI pc, qc, cp_A ic, cp_A so, wi, xo, cp_Bo sl, cp_A am, lk, cp_A st, cp_A par, wk, cp_A cn, cp_A tx, od, cp_A hg, bw, cp_Bo gd, ch, cp_A po, li, sp, qu, sk')) → wX_opens_13 post lock h sb (nI tip) (nI pc) qc (d + 1) (nI n) (nI (4 * k)) (cp_A ic) (cp_A so) wi xo (cp_Bo sl) (cp_A am) lk (cp_A st) (cp_A par) wk (cp_A cn) (cp_A tx) od (cp_A hg) bw (cp_Bo gd) ch (cp_A po) li sp qu sk := by
  intro d
  induction d with
  | zero =>
    intro k n sk hk hn H
    exact pk_le 32 (4 * k) (fun _ => cx_op162 (by omega) (fun r hr => H r sk hr)) (fun z => False.elim (by omega))
  | succ d ih =>
    intro k n sk hk hn H
    have hnd := cp_need_le (cp_code lock k)
    refine pk_le 32 (4 * k) (fun z => False.elim (by omega)) (fun _ => nm_r (e' := cp_code lock k) rfl (br_c (fun c0 => cx_op162 (by omega) (fun r hr => H r sk (cp_TF_iff hr ?_))) (fun c0 => cx_need (pk_le (cp_need (cp_code lock k)) n (fun hn' => ?_) (fun z => H 0 sk (cp_TF_F ?_))))))
    · constructor
      · intro y
        exact Or.inl ⟨c0, y⟩
      · rintro (y | y)
        · exact y.2
        · exact absurd c0 y.1
    · have hgr := cp_grow_le (cp_code lock k) n
      have key : wX_opens_67 post (wX_opens_13 post lock h sb (nI tip) (nI pc) qc (d + 1)) lock h (nI n) (nI (4 * k)) (cp_code lock k) (cp_top sk n) sb (nI tip) (nI pc) qc (cp_A ic) (cp_A so) wi xo (cp_Bo sl) (cp_A am) lk (cp_A st) (cp_A par) wk (cp_A cn) (cp_A tx) od (cp_A hg) bw (cp_Bo gd) ch (cp_A po) li sp qu sk := by
        refine cx_op67 hn' (by omega) (by omega) (fun e z => H 0 sk (cp_TF_F ?_)) (fun z => ih (k + 1) (cp_grow (cp_code lock k) n) _ (by omega) (by omega) (fun r sk' hr => H r sk' (cp_TF_iff hr ?_)))
        · rintro (y | y)
          · exact c0 y.1
          · exact y.2.2.1 ⟨e, z⟩
        · constructor
          · intro y
            exact Or.inr ⟨c0, hn', z, y⟩
          · rintro (y | y)
            · exact absurd y.1 c0
            · exact y.2.2.2
      refine pk_le n 0 (fun z => ?_) (fun z => And.intro (pk_in (n - 1) 9 (by omega) (cp_sub1 z)) ?_)
      · have e : cp_top sk n = 0 := if_neg (by omega)
        rw [e] at key
        exact key
      · have e : cp_top sk n = sk (nI n - 1).toNatClampNeg := by
          rw [cp_sub1 z, nI_clamp (by omega)]
          exact if_pos z
        rw [e] at key
        exact key
    · rintro (y | y)
      · exact c0 y.1
      · have := y.2.1
        omega
theorem cx_op {post : Int32 → SX → Prop} (lock w h : Int32) (H : ∀ r sk', cp_TF r (cp_OP lock w h) → post r (sb, nI tip, nI pc, qc, cp_A ic, cp_A so, wi, xo, cp_Bo sl, cp_A am, lk, cp_A st, cp_A par, wk, cp_A cn, cp_A tx, od, cp_A hg, bw, cp_Bo gd, ch, cp_A po, li, sp, qu, sk')) : wpX_opens post (sb, nI tip, nI pc, qc, cp_A ic, cp_A so, wi, xo, cp_Bo sl, cp_A am, lk, cp_A st, cp_A par, wk, cp_A cn, cp_A tx, od, cp_A hg, bw, cp_Bo gd, ch, cp_A po, li, sp, qu, sk) lock w h := by
  refine nm_e (Exists.intro 9 ?_)
  exact cx_op13 lock h 8 0 1 _ (by omega) (by omega) (fun r sk' hr => H r sk' (cp_TF_iff hr (cp_OP_c pk_us)))
end
end
section
/-! X: does a transaction fit; the pool -/
theorem cp_ss (x y z : Int32) : x - y - z = x - (y + z) := by grind
section
variable {sb qc : Int32} {tip pc : Nat} {ic so oc am hg par cn tx st po : Nat → Nat} {sl gd : Nat → Bool} {wi lk wk bw od xo ch li sp qu sk : Nat → Int32}
theorem cp_sd_sum {t : Nat} (h : ic t ≤ 2) : cp_sum (fun k => am (so (2 * t + k))) (ic t) = cp_sd ic so am t := by
  unfold cp_sd
  have : ic t = 0 ∨ ic t = 1 ∨ ic t = 2 := by omega
  rcases this with e | e | e <;> rw [e]
  · rfl
  · show 0 + am (so (2 * t + 0)) = am (so (2 * t)) + 0
    rw [Nat.zero_add]
    rfl
  · show 0 + am (so (2 * t + 0)) + am (so (2 * t + 1)) = am (so (2 * t)) + am (so (2 * t + 1))
    rw [Nat.zero_add]
    rfl
theorem cp_gv_sum {t : Nat} (h : oc t ≤ 2) : cp_sum (fun k => am (2 * t + k)) (oc t) = cp_gv oc am t := by
  unfold cp_gv
  have : oc t = 0 ∨ oc t = 1 ∨ oc t = 2 := by omega
  rcases this with e | e | e <;> rw [e]
  · rfl
  · show 0 + am (2 * t + 0) = am (2 * t) + 0
    rw [Nat.zero_add]
    rfl
  · show 0 + am (2 * t + 0) + am (2 * t + 1) = am (2 * t) + am (2 * t + 1)
    rw [Nat.zero_add]
    rfl
theorem cx_su40 {post : Int32 → Prop} (B : cp_RB ic so oc am hg par cn tx st sl wi lk) (hxo : ∀ t, t < 32 → xo t = nI (oc t)) {t : Nat} (ht : t < 32) (s : Int32) (H : post (s - nI (cp_gv oc am t))) : ∀ (d i : Nat), i + d = oc t → wX_surplus_40 post (nI t) sb (nI tip) (nI pc) qc (cp_A ic) (cp_A so) wi xo (cp_Bo sl) (cp_A am) lk (cp_A st) (cp_A par) wk (cp_A cn) (cp_A tx) od (cp_A hg) bw (cp_Bo gd) ch (cp_A po) li sp qu sk (d + 1) (s - nI (cp_sum (fun k => am (2 * t + k)) i)) (nI i) := by
  have c := cp_RB_oc B t
  have e0 : xo (nI t).toNatClampNeg = nI (oc t) := by
    rw [nI_clamp (by omega)]
    exact hxo t ht
  intro d
  induction d with
  | zero =>
    intro i hi
    refine And.intro (vp_in_nI ht (by decide)) (pk_le (oc t) i (fun _ => ?_) (fun z => False.elim (by omega)) e0 rfl)
    rw [show i = oc t from by omega, cp_gv_sum c]
    exact H
  | succ d ih =>
    intro i hi
    refine And.intro (vp_in_nI ht (by decide)) (pk_le (oc t) i (fun z => False.elim (by omega)) (fun _ => ?_) e0 rfl)
    refine And.intro (pk_in (2 * t + i) 112 (by omega) (cp_2a t i)) (nm_r (e' := s - nI (cp_sum (fun k => am (2 * t + k)) (i + 1))) ?_ (nm_r (nI_1 i) (ih (i + 1) (by omega))))
    rw [cp_2a, cp_rd am (by omega), cp_ss, nI_add]
    rfl
theorem cx_su4 {post : Int32 → Prop} (B : cp_RB ic so oc am hg par cn tx st sl wi lk) (hxo : ∀ t, t < 32 → xo t = nI (oc t)) {t : Nat} (ht : t < 32) (H : post (nI (cp_sd ic so am t) - nI (cp_gv oc am t))) : ∀ (d i : Nat), i + d = ic t → wX_surplus_4 post (nI t) sb (nI tip) (nI pc) qc (cp_A ic) (cp_A so) wi xo (cp_Bo sl) (cp_A am) lk (cp_A st) (cp_A par) wk (cp_A cn) (cp_A tx) od (cp_A hg) bw (cp_Bo gd) ch (cp_A po) li sp qu sk (d + 1) (nI (cp_sum (fun k => am (so (2 * t + k))) i)) (nI i) := by
  have c := cp_RB_ic B t
  intro d
  induction d with
  | zero =>
    intro i hi
    refine And.intro (vp_in_nI ht (by decide)) (pk_le (ic t) i (fun _ => Exists.intro (oc t + 1) ?_) (fun z => False.elim (by omega)) (cp_rd ic (by omega)) rfl)
    rw [show i = ic t from by omega, cp_sd_sum c]
    have z := cx_su40 (sb := sb) (tip := tip) (pc := pc) (qc := qc) (ic := ic) (so := so) (wi := wi) (xo := xo) (sl := sl) (am := am) (lk := lk) (st := st) (par := par) (wk := wk) (cn := cn) (tx := tx) (od := od) (hg := hg) (bw := bw) (gd := gd) (ch := ch) (po := po) (li := li) (sp := sp) (qu := qu) (sk := sk) B hxo ht (nI (cp_sd ic so am t)) H (oc t) 0 (by omega)
    rw [show cp_sum (fun k => am (2 * t + k)) 0 = 0 from rfl, nI_0, Int32.sub_zero] at z
    exact z
  | succ d ih =>
    intro i hi
    have hs := cp_RB_so B (2 * t + i)
    have e1 : cp_A so ((2 : Int32) * nI t + nI i).toNatClampNeg = nI (so (2 * t + i)) := by
      rw [cp_2a, cp_rd _ (by omega)]
    refine And.intro (vp_in_nI ht (by decide)) (pk_le (ic t) i (fun z => False.elim (by omega)) (fun _ => ?_) (cp_rd ic (by omega)) rfl)
    refine And.intro (pk_in (2 * t + i) 64 (by omega) (cp_2a t i)) (And.intro (pk_in (so (2 * t + i)) 112 hs e1) (nm_r (e' := nI (cp_sum (fun k => am (so (2 * t + k))) (i + 1))) ?_ (nm_r (nI_1 i) (ih (i + 1) (by omega)))))
    rw [e1, cp_rd am (by omega), nI_add]
    rfl
theorem cx_su {post : Int32 → Prop} (B : cp_RB ic so oc am hg par cn tx st sl wi lk) (hxo : ∀ t, t < 32 → xo t = nI (oc t)) {t : Nat} (ht : t < 32) (H : post (nI (cp_sd ic so am t) - nI (cp_gv oc am t))) : wpX_surplus post (sb, nI tip, nI pc, qc, cp_A ic, cp_A so, wi, xo, cp_Bo sl, cp_A am, lk, cp_A st, cp_A par, wk, cp_A cn, cp_A tx, od, cp_A hg, bw, cp_Bo gd, ch, cp_A po, li, sp, qu, sk) (nI t) :=
  Exists.intro (ic t + 1) (cx_su4 B hxo ht H (ic t) 0 (by omega))
theorem cx_iu {post : Int32 → Prop} (B : cp_RB ic so oc am hg par cn tx st sl wi lk) {o : Nat} (ho : o < 112) {L S : Nat → Prop} (hl : cp_Rp li L 56) (hs : cp_Rp sp S 112) (H : ∀ r, cp_TF r (o % 2 < oc (o / 2) ∧ L (o / 2) ∧ ¬ S o) → post r) : wpX_isUnspent post (sb, nI tip, nI pc, qc, cp_A ic, cp_A so, wi, xo, cp_Bo sl, cp_A am, lk, cp_A st, cp_A par, wk, cp_A cn, cp_A tx, od, cp_A hg, bw, cp_Bo gd, ch, cp_A po, li, sp, qu, sk) (nI o) := by
  have a := cp_RB_am B o
  have ao := cp_RB_ao B o
  have e : nI o / 2 = nI (o / 2) := pk_div (d := 2) (by omega) (by decide) (by decide)
  have tl : cp_TF (li (nI o / 2).toNatClampNeg) (L (o / 2)) := by
    rw [e, nI_clamp (by omega)]
    exact hl _ (by omega)
  have ts : cp_TF (sp (nI o).toNatClampNeg) (S o) := by
    rw [nI_clamp (by omega)]
    exact hs _ ho
  refine And.intro (vp_in_nI ho (by decide)) (pk_le (am o) 0 (fun z => H 0 (cp_TF_F (fun y => by have := y.1; omega))) (fun z => ?_) (cp_rd am (by omega)) rfl)
  refine And.intro (by decide) (And.intro (pk_in (o / 2) 56 (by omega) e) (cp_TF_br tl (fun y => H 0 (cp_TF_F (fun w => y w.2.1))) (fun y => And.intro (vp_in_nI ho (by decide)) (cp_TF_br ts (fun w => H 1 (cp_TF_T ⟨ao.mp z, y, w⟩)) (fun w => H 0 (cp_TF_F (fun v => v.2.2 w)))))))
theorem cx_ir {post : Int32 → Prop} {o h : Nat} (ho : o < 112) (hh : h < 2 ^ 30) (hg2 : 32 ≤ o / 2 → hg (o / 2 - 32) < 24) (H : ∀ r, cp_TF r (o / 2 < 32 ∨ hg (o / 2 - 32) + 2 ≤ h) → post r) : wpX_isRipe post (sb, nI tip, nI pc, qc, cp_A ic, cp_A so, wi, xo, cp_Bo sl, cp_A am, lk, cp_A st, cp_A par, wk, cp_A cn, cp_A tx, od, cp_A hg, bw, cp_Bo gd, ch, cp_A po, li, sp, qu, sk) (nI o) (nI h) := by
  have e : nI o / 2 = nI (o / 2) := pk_div (d := 2) (by omega) (by decide) (by decide)
  refine And.intro (by decide) ?_
  by_cases z : o / 2 < 32
  · refine nm_r (e' := nI (o / 2) - nI 32) (by rw [e]; rfl) (br_t (pk_sneg (by decide) z) (H 1 (cp_TF_T (Or.inl z))))
  · have g := hg2 (by omega)
    refine nm_r (e' := nI (o / 2 - 32)) (by rw [e]; exact pk_sub (b := 32) (by omega)) (br_f (nI_pos (by omega)) (And.intro (vp_in_nI (by omega) (by decide)) ?_))
    refine pk_lt h (hg (o / 2 - 32) + 2) (fun y => H 0 (cp_TF_F (fun w => by omega))) (fun y => H 1 (cp_TF_T (Or.inr y))) rfl ?_
    rw [cp_rd hg (by omega)]
    exact nI_add _ 2
theorem cx_ft75 {post : Int32 → SX → Prop} (B : cp_RB ic so oc am hg par cn tx st sl wi lk) (hxo : ∀ t, t < 32 → xo t = nI (oc t)) {t h : Nat} (ht : t < 32) (hh : h < 2 ^ 30) {L S : Nat → Prop} (hl : cp_Rp li L 56) (hs : cp_Rp sp S 112) (hLg : ∀ j, L j → 32 ≤ j → hg (j - 32) < 24)
    (p1 : sl t = true) (p2 : ic t ≠ 0) (p3 : oc t ≠ 0) (p4 : ¬ L t) (p5 : ¬ (ic t = 2 ∧ so (2 * t) = so (2 * t + 1))) : ∀ (d i : Nat) (sk : Nat → Int32), i + d = ic t → (∀ k, k < i → cp_IO so oc hg wi lk L S h (2 * t + k)) →
    (∀ r sk', cp_TF r (cp_FT ic so oc am hg sl wi lk L S t h) → post r (sb, nI tip, nI pc, qc, cp_A ic, cp_A so, wi, xo, cp_Bo sl, cp_A am, lk, cp_A st, cp_A par, wk, cp_A cn, cp_A tx, od, cp_A hg, bw, cp_Bo gd, ch, cp_A po, li, sp, qu, sk')) → wX_fits_75 post (nI t) (nI h) (nI (ic t)) (nI (2 * t)) (d + 1) (nI (2 * t + i)) sb (nI tip) (nI pc) qc (cp_A ic) (cp_A so) wi xo (cp_Bo sl) (cp_A am) lk (cp_A st) (cp_A par) wk (cp_A cn) (cp_A tx) od (cp_A hg) bw (cp_Bo gd) ch (cp_A po) li sp qu sk := by
  have c := cp_RB_ic B t
  intro d
  induction d with
  | zero =>
    intro i sk hi hp H
    refine pk_le (2 * t + ic t) (2 * t + i) (fun _ => cx_su B hxo ht ?_) (fun z => False.elim (by omega)) (nI_add _ _) rfl
    have hs1 : cp_sd ic so am t ≤ 20000 := by
      have a1 := cp_RB_am B (so (2 * t))
      have a2 := cp_RB_am B (so (2 * t + 1))
      unfold cp_sd
      split <;> split <;> omega
    have hg1 : cp_gv oc am t ≤ 20000 := by
      have a1 := cp_RB_am B (2 * t)
      have a2 := cp_RB_am B (2 * t + 1)
      unfold cp_gv
      split <;> split <;> omega
    by_cases z : cp_gv oc am t ≤ cp_sd ic so am t
    · rw [pk_sub z]
      refine br_f (nI_pos (by omega)) (H 1 sk (cp_TF_T ⟨p1, p2, p3, p4, p5, fun k hk => hp k (by omega), z⟩))
    · refine br_t (pk_sneg (by omega) (by omega)) (H 0 sk (cp_TF_F (fun y => z y.2.2.2.2.2.2)))
  | succ d ih =>
    intro i sk hi hp H
    have hso := cp_RB_so B (2 * t + i)
    refine pk_le (2 * t + ic t) (2 * t + i) (fun z => False.elim (by omega)) (fun _ => And.intro (vp_in_nI (by omega) (by decide)) (nm_r (cp_rd so (by omega)) ?_)) (nI_add _ _) rfl
    refine cx_iu B hso hl hs (fun r1 h1 => cp_TF_br h1 (fun z => H 0 sk (cp_TF_F ?_)) (fun z1 => ?_))
    · intro y
      have := y.2.2.2.2.2.1 i (by omega)
      exact z ⟨this.1, this.2.1, this.2.2.1⟩
    refine cx_ir hso hh (hLg _ z1.2.1) (fun r2 h2 => cp_TF_br h2 (fun z => H 0 sk (cp_TF_F ?_)) (fun z2 => ?_))
    · intro y
      have := y.2.2.2.2.2.1 i (by omega)
      exact z this.2.2.2.1
    refine And.intro (vp_in_nI hso (by decide)) (And.intro (vp_in_nI (by omega) (by decide)) ?_)
    rw [cp_rw lk (by omega), cp_rw wi (by omega)]
    refine cx_op _ _ _ (fun r3 sk' h3 => cp_TF_br h3 (fun z => H 0 sk' (cp_TF_F ?_)) (fun z3 => nm_r (nI_1 (2 * t + i)) (ih (i + 1) sk' (by omega) ?_ H)))
    · intro y
      have := y.2.2.2.2.2.1 i (by omega)
      exact z this.2.2.2.2
    · intro k hk
      by_cases e : k = i
      · subst e
        exact ⟨z1.1, z1.2.1, z1.2.2, z2, z3⟩
      · exact hp k (by omega)
theorem cx_ft {post : Int32 → SX → Prop} (B : cp_RB ic so oc am hg par cn tx st sl wi lk) (hxo : ∀ t, t < 32 → xo t = nI (oc t)) {t h : Nat} (ht : t < 32) (hh : h < 2 ^ 30) {L S : Nat → Prop} (hl : cp_Rp li L 56) (hs : cp_Rp sp S 112) (hLg : ∀ j, L j → 32 ≤ j → hg (j - 32) < 24)
    (H : ∀ r sk', cp_TF r (cp_FT ic so oc am hg sl wi lk L S t h) → post r (sb, nI tip, nI pc, qc, cp_A ic, cp_A so, wi, xo, cp_Bo sl, cp_A am, lk, cp_A st, cp_A par, wk, cp_A cn, cp_A tx, od, cp_A hg, bw, cp_Bo gd, ch, cp_A po, li, sp, qu, sk')) : wpX_fits post (sb, nI tip, nI pc, qc, cp_A ic, cp_A so, wi, xo, cp_Bo sl, cp_A am, lk, cp_A st, cp_A par, wk, cp_A cn, cp_A tx, od, cp_A hg, bw, cp_Bo gd, ch, cp_A po, li, sp, qu, sk) (nI t) (nI h) := by
  have c := cp_RB_ic B t
  have c2 := cp_RB_oc B t
  have e0 : xo (nI t).toNatClampNeg = nI (oc t) := by
    rw [nI_clamp (by omega)]
    exact hxo t ht
  have tb : cp_TF (cp_Bo sl (nI t).toNatClampNeg) (sl t = true) := by
    rw [cp_rb sl (by omega)]
    exact cp_TF_b _
  have tl : cp_TF (li (nI t).toNatClampNeg) (L t) := by
    rw [nI_clamp (by omega)]
    exact hl _ (by omega)
  have i32 : vp_in (nI t) 32 := vp_in_nI ht (by decide)
  refine And.intro i32 (nm_r (cp_rd ic (by omega)) (And.intro i32 (cp_TF_br tb (fun z => H 0 sk (cp_TF_F (fun y => z y.1))) (fun p1 => ?_))))
  refine pk_eq (ic t) 0 (fun z => H 0 sk (cp_TF_F (fun y => y.2.1 z))) (fun p2 => And.intro i32 ?_)
  refine pk_eq (oc t) 0 (fun z => H 0 sk (cp_TF_F (fun y => y.2.2.1 z))) (fun p3 => nm_r (cp_2m t) (And.intro (vp_in_nI (by omega) (by decide)) ?_)) e0 rfl
  refine cp_TF_br tl (fun p4 => ?_) (fun z => H 0 sk (cp_TF_F (fun y => y.2.2.2.1 z)))
  have key : ¬ (ic t = 2 ∧ so (2 * t) = so (2 * t + 1)) → ∃ n, wX_fits_75 post (nI t) (nI h) (nI (ic t)) (nI (2 * t)) n (nI (2 * t)) sb (nI tip) (nI pc) qc (cp_A ic) (cp_A so) wi xo (cp_Bo sl) (cp_A am) lk (cp_A st) (cp_A par) wk (cp_A cn) (cp_A tx) od (cp_A hg) bw (cp_Bo gd) ch (cp_A po) li sp qu sk := fun p5 =>
    ⟨ic t + 1, cx_ft75 B hxo ht hh hl hs hLg p1 p2 p3 p4 p5 (ic t) 0 sk (by omega) (fun k hk => absurd hk (Nat.not_lt_zero _)) H⟩
  refine pk_eq (ic t) 2 (fun z => And.intro (vp_in_nI (by omega) (by decide)) (And.intro (pk_in (2 * t + 1) 64 (by omega) (nI_1 _)) ?_)) (fun z => key (fun y => z y.1))
  have s1 := cp_RB_so B (2 * t)
  have s2 := cp_RB_so B (2 * t + 1)
  refine pk_eq (so (2 * t)) (so (2 * t + 1)) (fun w => H 0 sk (cp_TF_F (fun y => y.2.2.2.2.1 ⟨z, w⟩))) (fun w => key (fun y => w y.2)) (cp_rd so (by omega)) ?_
  rw [nI_1, cp_rd so (by omega)]
/-- listing the pool, then the question -/
theorem cx_ap21 {post : Int32 → SX → Prop} (R : cp_RR ic so oc am hg par cn tx st sl wi lk wk bw gd pc po) (hxo : ∀ t, t < 32 → xo t = nI (oc t)) {t : Nat} (ht : t < 32) (htip : tip < 24) (gt : gd tip = true) (hp8 : pc < 8) : ∀ (d i : Nat) (li sp : Nat → Int32), i + d = pc →
    cp_Rp li (cp_La hg par cn tx po tip i) 56 → cp_Rp sp (cp_Sa ic so hg par cn tx po tip i) 112 →
    (∀ r li' sp' sk', ¬ cp_AF ic so oc am hg par cn tx sl wi lk tip pc po t → r = 0 → post r (sb, nI tip, nI pc, qc, cp_A ic, cp_A so, wi, xo, cp_Bo sl, cp_A am, lk, cp_A st, cp_A par, wk, cp_A cn, cp_A tx, od, cp_A hg, bw, cp_Bo gd, ch, cp_A po, li', sp', qu, sk')) →
    (∀ r li' sp' sk', cp_AF ic so oc am hg par cn tx sl wi lk tip pc po t → r = 1 → post r (sb, nI tip, nI (pc + 1), qc, cp_A ic, cp_A so, wi, xo, cp_Bo sl, cp_A am, lk, cp_A st, cp_A par, wk, cp_A cn, cp_A tx, od, cp_A hg, bw, cp_Bo gd, ch, cp_A (cp_up po pc t), li', sp', qu, sk')) → wX_addToPool_21 post (nI t) (d + 1) (nI i) sb (nI tip) (nI pc) qc (cp_A ic) (cp_A so) wi xo (cp_Bo sl) (cp_A am) lk (cp_A st) (cp_A par) wk (cp_A cn) (cp_A tx) od (cp_A hg) bw (cp_Bo gd) ch (cp_A po) li sp qu sk := by
  obtain ⟨B, T, q1, q2⟩ := R
  have ct := T.2.2.2.1 tip htip gt
  have hh := cp_RT_hg T htip ct
  intro d
  induction d with
  | zero =>
    intro i li sp hi hl hs H0 H1
    have ei : i = pc := by omega
    subst ei
    refine pk_le i i (fun _ => And.intro (vp_in_nI htip (by decide)) ?_) (fun z => False.elim (by omega))
    rw [cp_rd hg (by omega), nI_1]
    have hLg : ∀ j, cp_La hg par cn tx po tip i j → 32 ≤ j → hg (j - 32) < 24 := by
      rintro j (z | ⟨k, hk, z⟩) hj
      · rcases cp_LS_fz B T.1 htip ct z with w | w
        · omega
        · exact cp_RT_hg T (by omega) w.2.2
      · have := (q2 k hk).1
        omega
    refine cx_ft B hxo ht (by omega) hl hs hLg (fun r sk' hr => cp_TF_br hr (fun z => H0 0 _ _ _ (fun y => z y.2) rfl) (fun z => And.intro (vp_in_nI hp8 (by decide)) (nm_r (cp_wr po t (by omega)) (nm_r (nI_1 i) (H1 1 _ _ _ ⟨hp8, z⟩ rfl)))))
  | succ d ih =>
    intro i li sp hi hl hs H0 H1
    refine pk_le pc i (fun z => False.elim (by omega)) (fun _ => And.intro (vp_in_nI (by omega) (by decide)) ?_)
    rw [cp_rd po (by omega)]
    refine cx_lt _ (q2 i (by omega)).1 (cp_RB_ic B _) (cp_RB_so B) hl hs (fun li' sp' hl' hs' => nm_r (nI_1 i) (ih (i + 1) li' sp' (by omega) (cp_Rp_iff hl' ?_) (cp_Rp_iff hs' ?_) H0 H1))
    · intro j _
      constructor
      · rintro ((z | ⟨k, hk, z⟩) | z)
        · exact Or.inl z
        · exact Or.inr ⟨k, by omega, z⟩
        · exact Or.inr ⟨i, by omega, z.symm⟩
      · rintro (z | ⟨k, hk, z⟩)
        · exact Or.inl (Or.inl z)
        · by_cases e : k = i
          · subst e
            exact Or.inr z.symm
          · exact Or.inl (Or.inr ⟨k, by omega, z⟩)
    · intro j _
      constructor
      · rintro ((z | ⟨k, hk, z⟩) | z)
        · exact Or.inl z
        · exact Or.inr ⟨k, by omega, z⟩
        · exact Or.inr ⟨i, by omega, z⟩
      · rintro (z | ⟨k, hk, z⟩)
        · exact Or.inl (Or.inl z)
        · by_cases e : k = i
          · subst e
            exact Or.inr z
          · exact Or.inl (Or.inr ⟨k, by omega, z⟩)
theorem cx_ap {post : Int32 → SX → Prop} (R : cp_RR ic so oc am hg par cn tx st sl wi lk wk bw gd pc po) (hxo : ∀ t, t < 32 → xo t = nI (oc t)) {t : Nat} (ht : t < 32) (htip : tip < 24) (gt : gd tip = true)
    (H0 : ∀ r li' sp' sk', ¬ cp_AF ic so oc am hg par cn tx sl wi lk tip pc po t → r = 0 → post r (sb, nI tip, nI pc, qc, cp_A ic, cp_A so, wi, xo, cp_Bo sl, cp_A am, lk, cp_A st, cp_A par, wk, cp_A cn, cp_A tx, od, cp_A hg, bw, cp_Bo gd, ch, cp_A po, li', sp', qu, sk'))
    (H1 : ∀ r li' sp' sk', cp_AF ic so oc am hg par cn tx sl wi lk tip pc po t → r = 1 → post r (sb, nI tip, nI (pc + 1), qc, cp_A ic, cp_A so, wi, xo, cp_Bo sl, cp_A am, lk, cp_A st, cp_A par, wk, cp_A cn, cp_A tx, od, cp_A hg, bw, cp_Bo gd, ch, cp_A (cp_up po pc t), li', sp', qu, sk')) : wpX_addToPool post (sb, nI tip, nI pc, qc, cp_A ic, cp_A so, wi, xo, cp_Bo sl, cp_A am, lk, cp_A st, cp_A par, wk, cp_A cn, cp_A tx, od, cp_A hg, bw, cp_Bo gd, ch, cp_A po, li, sp, qu, sk) (nI t) := by
  have p8 := R.2.2.1
  have ct := R.2.1.2.2.2.1 tip htip gt
  refine pk_lt pc 8 (fun z => ?_) (fun z => H0 0 _ _ _ (fun y => by have := y.1; omega) rfl)
  refine cx_lc _ R.1 R.2.1.1 htip ct (cp_RT_hg R.2.1 htip ct) (fun li' sp' hl hs => Exists.intro (pc + 1) ?_)
  refine cx_ap21 R hxo ht htip gt z pc 0 li' sp' (by omega) (cp_Rp_iff hl ?_) (cp_Rp_iff hs ?_) H0 H1
  · intro j _
    exact ⟨Or.inl, fun z => z.elim id (fun ⟨k, hk, _⟩ => absurd hk (Nat.not_lt_zero _))⟩
  · intro j _
    exact ⟨Or.inl, fun z => z.elim id (fun ⟨k, hk, _⟩ => absurd hk (Nat.not_lt_zero _))⟩
end
end
section
/-! X: a block is connected -/
section
variable {sb qc : Int32} {tip pc : Nat} {ic so oc am hg par cn tx st po : Nat → Nat} {sl gd : Nat → Bool} {wi lk wk bw od xo ch li sp qu sk : Nat → Int32}
theorem cp_f_con {b h : Nat} (hs : st b ≠ 3) : cp_Fr ic so oc am hg par cn tx st sl wi lk ic so oc am (cp_up hg b h) par cn tx (cp_up st b 3) sl wi lk := by
  have nb : ∀ c, st c = 3 → c ≠ b := by
    intro c h e
    rw [e] at h
    exact hs h
  refine ⟨?_, ?_, ?_⟩
  · intro q hq s
    exact ⟨s, rfl, fun _ _ => ⟨rfl, rfl⟩⟩
  · intro c hc cc
    exact ⟨(cp_up_n (nb c cc)).trans cc, rfl, rfl, cp_up_n (nb c cc), fun _ _ => rfl⟩
  · intro j hj
    exact ⟨rfl, fun _ _ => ⟨rfl, rfl⟩⟩
theorem cx_c130f {post : SX → Prop} {b : Nat} {x4 : Int32} (hb : b < 24) (H : post (sb, nI tip, nI pc, qc, cp_A ic, cp_A so, wi, xo, cp_Bo sl, cp_A am, lk, cp_A st, cp_A par, wk, cp_A cn, cp_A tx, od, cp_A hg, bw, cp_Bo (cp_up gd b false), ch, cp_A po, li, sp, qu, sk)) : wX_connect_130 post (nI b) 0 x4 sb (nI tip) (nI pc) qc (cp_A ic) (cp_A so) wi xo (cp_Bo sl) (cp_A am) lk (cp_A st) (cp_A par) wk (cp_A cn) (cp_A tx) od (cp_A hg) bw (cp_Bo gd) ch (cp_A po) li sp qu sk :=
  br_t rfl (And.intro (vp_in_nI hb (by decide)) (nm_r (cp_wb gd false (by omega)) H))
theorem cx_c130t {post : SX → Prop} (B : cp_RB ic so oc am hg par cn tx st sl wi lk) {b m : Nat} (hb : b < 24) (hm : m < 2 ^ 30) (H : ∀ v, (v = true ↔ am (64 + 2 * b) ≤ m) → post (sb, nI tip, nI pc, qc, cp_A ic, cp_A so, wi, xo, cp_Bo sl, cp_A am, lk, cp_A st, cp_A par, wk, cp_A cn, cp_A tx, od, cp_A hg, bw, cp_Bo (cp_up gd b v), ch, cp_A po, li, sp, qu, sk)) : wX_connect_130 post (nI b) 1 (nI m) sb (nI tip) (nI pc) qc (cp_A ic) (cp_A so) wi xo (cp_Bo sl) (cp_A am) lk (cp_A st) (cp_A par) wk (cp_A cn) (cp_A tx) od (cp_A hg) bw (cp_Bo gd) ch (cp_A po) li sp qu sk := by
  have e : (2 : Int32) * (32 + nI b) = nI (64 + 2 * b) := by
    rw [show (32 : Int32) + nI b = nI (32 + b) from nI_add 32 b, cp_2m]
    exact congrArg nI (by omega)
  have a := cp_RB_am B (64 + 2 * b)
  refine br_f (by decide) (And.intro (pk_in (64 + 2 * b) 112 (by omega) e) (pk_lt m (am (64 + 2 * b)) (fun z => ?_) (fun z => ?_) rfl ?_))
  · exact And.intro (vp_in_nI hb (by decide)) (nm_r (cp_wb gd false (by omega)) (H false ⟨(fun y => nomatch y), fun y => by omega⟩))
  · exact And.intro (vp_in_nI hb (by decide)) (nm_r (cp_wb gd true (by omega)) (H true ⟨fun _ => z, fun _ => rfl⟩))
  · rw [e, cp_rd am (by omega)]
theorem cx_c66f {post : SX → Prop} {b n : Nat} {x4 x5 : Int32} (hb : b < 24) (H : post (sb, nI tip, nI pc, qc, cp_A ic, cp_A so, wi, xo, cp_Bo sl, cp_A am, lk, cp_A st, cp_A par, wk, cp_A cn, cp_A tx, od, cp_A hg, bw, cp_Bo (cp_up gd b false), ch, cp_A po, li, sp, qu, sk)) : wX_connect_66 post (nI b) (n + 1) 0 x4 x5 sb (nI tip) (nI pc) qc (cp_A ic) (cp_A so) wi xo (cp_Bo sl) (cp_A am) lk (cp_A st) (cp_A par) wk (cp_A cn) (cp_A tx) od (cp_A hg) bw (cp_Bo gd) ch (cp_A po) li sp qu sk :=
  And.intro (vp_in_nI hb (by decide)) (br_c (fun _ => cx_c130f hb H) (fun _ => br_t rfl (cx_c130f hb H)))
theorem cp_sd_le (B : cp_RB ic so oc am hg par cn tx st sl wi lk) (t : Nat) : cp_sd ic so am t ≤ 20000 := by
  have a1 := cp_RB_am B (so (2 * t))
  have a2 := cp_RB_am B (so (2 * t + 1))
  unfold cp_sd
  split <;> split <;> omega
theorem cp_fs_le (B : cp_RB ic so oc am hg par cn tx st sl wi lk) (b : Nat) : ∀ n, cp_fs ic so oc am tx b n ≤ 20000 * n := by
  intro n
  induction n with
  | zero => exact Nat.le_refl _
  | succ n ih =>
    have a := cp_sd_le B (tx (3 * b + n))
    have s : cp_fs ic so oc am tx b (n + 1) = cp_fs ic so oc am tx b n + (cp_sd ic so am (tx (3 * b + n)) - cp_gv oc am (tx (3 * b + n))) := rfl
    omega
/-- the loop over the block's transactions; the block is connected in the data already -/
theorem cx_c66 {post : SX → Prop} {gd1 : Nat → Bool} {bw1 : Nat → Int32} (R : cp_RR ic so oc am hg par cn tx st sl wi lk wk bw1 gd1 pc po) (hxo : ∀ t, t < 32 → xo t = nI (oc t)) {b : Nat} (hb : b < 24) (cb : st b = 3) (nb : b ≠ 0)
    (H : ∀ v li' sp' sk', (v = true ↔ cp_CK ic so oc am hg par cn tx sl wi lk b) → post (sb, nI tip, nI pc, qc, cp_A ic, cp_A so, wi, xo, cp_Bo sl, cp_A am, lk, cp_A st, cp_A par, wk, cp_A cn, cp_A tx, od, cp_A hg, bw, cp_Bo (cp_up gd b v), ch, cp_A po, li', sp', qu, sk')) : ∀ (d i : Nat) (li sp sk : Nat → Int32), i + d = cn b → cp_Rp li (cp_Lc hg par cn tx b i) 56 → cp_Rp sp (cp_Sc ic so hg par cn tx b i) 112 → cp_CKn ic so oc am hg par cn tx sl wi lk b i →
    wX_connect_66 post (nI b) (d + 1) 1 (nI (50 + cp_fs ic so oc am tx b i)) (nI i) sb (nI tip) (nI pc) qc (cp_A ic) (cp_A so) wi xo (cp_Bo sl) (cp_A am) lk (cp_A st) (cp_A par) wk (cp_A cn) (cp_A tx) od (cp_A hg) bw (cp_Bo gd) ch (cp_A po) li sp qu sk := by
  obtain ⟨B, T, q1, q2⟩ := R
  have c := cp_RB_cn B b
  have hh := cp_RT_hg T hb cb
  obtain ⟨h1, h2, h3⟩ := T.1.2.2 b hb cb nb
  intro d
  induction d with
  | zero =>
    intro i li sp sk hi hl hs hk
    have f := cp_fs_le B b i
    have ei : i = cn b := by omega
    refine And.intro (vp_in_nI hb (by decide)) (pk_le (cn b) i (fun _ => cx_c130t B hb (by omega) (fun v hv => H v _ _ _ ?_)) (fun z => False.elim (by omega)) (cp_rd cn (by omega)) rfl)
    rw [ei] at hv hk
    exact ⟨fun y => ⟨hk, hv.mp y⟩, fun y => hv.mpr y.2⟩
  | succ d ih =>
    intro i li sp sk hi hl hs hk
    have e1 : cp_A tx ((3 : Int32) * nI b + nI i).toNatClampNeg = nI (tx (3 * b + i)) := by
      rw [cp_3a, cp_rd _ (by omega)]
    refine And.intro (vp_in_nI hb (by decide)) (pk_le (cn b) i (fun z => False.elim (by omega)) (fun _ => br_f (by decide) ?_) (cp_rd cn (by omega)) rfl)
    refine And.intro (pk_in (3 * b + i) 72 (by omega) (cp_3a b i)) (nm_r e1 (And.intro (vp_in_nI hb (by decide)) ?_))
    rw [cp_rd hg (by omega)]
    have hLg : ∀ j, cp_Lc hg par cn tx b i j → 32 ≤ j → hg (j - 32) < 24 := by
      intro j z hj
      rcases cp_Lc_fz B T.1 h1 h2 (by omega) z with w | w
      · omega
      · exact cp_RT_hg T (by omega) w.2.2
    refine cx_ft B hxo (cp_RB_tx B _) (by omega) hl hs hLg (fun r sk' hr => cx_su B hxo (cp_RB_tx B _) (nm_e (cx_lt _ (cp_RB_tx B _) (cp_RB_ic B _) (cp_RB_so B) hl hs (fun li' sp' hl' hs' => nm_r (nI_1 i) ?_))))
    by_cases zF : cp_FT ic so oc am hg sl wi lk (cp_Lc hg par cn tx b i) (cp_Sc ic so hg par cn tx b i) (tx (3 * b + i)) (hg b)
    · rw [cp_TF_t hr zF, pk_sub zF.2.2.2.2.2.2, nI_add, Nat.add_assoc]
      refine ih (i + 1) li' sp' sk' (by omega) (cp_Rp_iff hl' ?_) (cp_Rp_iff hs' ?_) ?_
      · intro j _
        constructor
        · rintro ((z | ⟨k, hk, z⟩) | z)
          · exact Or.inl z
          · exact Or.inr ⟨k, by omega, z⟩
          · exact Or.inr ⟨i, by omega, z.symm⟩
        · rintro (z | ⟨k, hk, z⟩)
          · exact Or.inl (Or.inl z)
          · by_cases e : k = i
            · subst e
              exact Or.inr z.symm
            · exact Or.inl (Or.inr ⟨k, by omega, z⟩)
      · intro j _
        constructor
        · rintro ((z | ⟨k, hk, z⟩) | z)
          · exact Or.inl z
          · exact Or.inr ⟨k, by omega, z⟩
          · exact Or.inr ⟨i, by omega, z⟩
        · rintro (z | ⟨k, hk, z⟩)
          · exact Or.inl (Or.inl z)
          · by_cases e : k = i
            · subst e
              exact Or.inr z
            · exact Or.inl (Or.inr ⟨k, by omega, z⟩)
      · intro q hq
        by_cases e : q = i
        · subst e
          exact zF
        · exact hk q (by omega)
    · rw [cp_TF_f hr zF]
      exact cx_c66f hb (H false _ _ _ ⟨(fun y => nomatch y), fun y => absurd (y.1 i (by omega)) zF⟩)
theorem cx_con {post : SX → Prop} (R : cp_RR ic so oc am hg par cn tx st sl wi lk wk bw gd pc po) (hxo : ∀ t, t < 32 → xo t = nI (oc t)) {b : Nat} (hb : b < 24) (hs : st b = 2) (hp : st (par b) = 3)
    (H : ∀ v li' sp' sk', cp_RR ic so oc am (cp_up hg b (hg (par b) + 1)) par cn tx (cp_up st b 3) sl wi lk wk (cp_up bw b (bw (par b) + wk b)) (cp_up gd b v) pc po →
      post (sb, nI tip, nI pc, qc, cp_A ic, cp_A so, wi, xo, cp_Bo sl, cp_A am, lk, cp_A (cp_up st b 3), cp_A par, wk, cp_A cn, cp_A tx, od, cp_A (cp_up hg b (hg (par b) + 1)), (cp_up bw b (bw (par b) + wk b)), cp_Bo (cp_up gd b v), ch, cp_A po, li', sp', qu, sk')) : wpX_connect post (sb, nI tip, nI pc, qc, cp_A ic, cp_A so, wi, xo, cp_Bo sl, cp_A am, lk, cp_A st, cp_A par, wk, cp_A cn, cp_A tx, od, cp_A hg, bw, cp_Bo gd, ch, cp_A po, li, sp, qu, sk) (nI b) := by
  have pb := cp_RB_par R.1 b
  have hh := cp_RT_hg R.2.1 pb hp
  have nb0 : b ≠ 0 := by
    intro e
    have := R.2.1.1.1
    rw [e] at hs
    omega
  have nbp : par b ≠ b := by
    intro e
    rw [e] at hp
    omega
  have ib : vp_in (nI b) 24 := vp_in_nI hb (by decide)
  have ip : vp_in (nI (par b)) 24 := vp_in_nI pb (by decide)
  let v := @decide (gd (par b) = true ∧ cp_CK ic so oc am (cp_up hg b (hg (par b) + 1)) par cn tx sl wi lk b) (Classical.propDecidable _)
  have hv : v = true ↔ gd (par b) = true ∧ cp_CK ic so oc am (cp_up hg b (hg (par b) + 1)) par cn tx sl wi lk b := @decide_eq_true_iff _ (Classical.propDecidable _)
  have R1 := cp_s_con R hb hs hp hv
  refine And.intro ib (nm_r (cp_rd par (by omega)) (And.intro ib (nm_r (cp_wr st 3 (by omega)) (And.intro ip (And.intro ib (nm_r (e' := cp_A (cp_up hg b (hg (par b) + 1))) ?_ (And.intro ip (And.intro ib (And.intro ib (nm_r (e' := cp_up bw b (bw (par b) + wk b)) ?_ (And.intro ip (nm_r (cp_rb gd (by omega)) ?_))))))))))))
  · rw [cp_rd hg (by omega), nI_1, cp_wr hg _ (by omega)]
  · rw [cp_rw bw (by omega), cp_rw wk (by omega), cp_ww bw _ (by omega)]
  refine cx_lc _ R1.1 R1.2.1.1 pb ?_ ?_ (fun li' sp' hl hs' => ?_)
  · rw [cp_up_n nbp]
    exact hp
  · rw [cp_up_n nbp]
    exact hh
  · by_cases g : gd (par b) = true
    · rw [g]
      refine Exists.intro (cn b + 1) (cx_c66 R1 hxo hb cp_up_s nb0 (fun v' li' sp' sk' hv' => H v' li' sp' sk' (cp_s_con R hb hs hp ?_)) (cn b) 0 li' sp' sk (by omega) (cp_Rp_iff hl ?_) (cp_Rp_iff hs' ?_) (fun i hi => absurd hi (Nat.not_lt_zero _)))
      · rw [hv']
        exact ⟨fun y => ⟨g, y⟩, fun y => y.2⟩
      · intro j _
        exact ⟨Or.inl, fun z => z.elim id (fun ⟨k, hk, _⟩ => absurd hk (Nat.not_lt_zero _))⟩
      · intro j _
        exact ⟨Or.inl, fun z => z.elim id (fun ⟨k, hk, _⟩ => absurd hk (Nat.not_lt_zero _))⟩
    · have g' : gd (par b) = false := by
        cases h : gd (par b)
        · rfl
        · exact absurd h g
      rw [g']
      exact Exists.intro 1 (cx_c66f hb (H false li' sp' sk (cp_s_con R hb hs hp ⟨(fun y => nomatch y), fun y => absurd y.1 g⟩)))
theorem cx_fc2 {post : Int32 → Prop} (B : cp_RB ic so oc am hg par cn tx st sl wi lk) (H0 : (∀ b, 1 ≤ b → b < 24 → st b = 2 → st (par b) ≠ 3) → post 0) (H1 : ∀ b, 1 ≤ b → b < 24 → st b = 2 → st (par b) = 3 → post (nI b)) : ∀ (d k : Nat), k + d = 24 → 1 ≤ k → (∀ b, 1 ≤ b → b < k → st b = 2 → st (par b) ≠ 3) → wX_findConnectable_2 post sb (nI tip) (nI pc) qc (cp_A ic) (cp_A so) wi xo (cp_Bo sl) (cp_A am) lk (cp_A st) (cp_A par) wk (cp_A cn) (cp_A tx) od (cp_A hg) bw (cp_Bo gd) ch (cp_A po) li sp qu sk (d + 1) (nI k) := by
  intro d
  induction d with
  | zero =>
    intro k hk h1 h
    exact pk_le 24 k (fun _ => H0 (fun b hb hb' => h b hb (by omega))) (fun z => False.elim (by omega))
  | succ d ih =>
    intro k hk h1 h
    have s := cp_RB_st B k
    have p := cp_RB_par B k
    have s2 := cp_RB_st B (par k)
    have ik : vp_in (nI k) 24 := vp_in_nI (by omega) (by decide)
    refine pk_le 24 k (fun z => False.elim (by omega)) (fun _ => And.intro ik (pk_eq (st k) 2 (fun e => And.intro ik (And.intro (pk_in (par k) 24 p (cp_rd par (by omega))) (pk_eq (st (par k)) 3 (fun e2 => H1 k h1 (by omega) e e2) (fun e2 => nm_r (nI_1 k) (ih (k + 1) (by omega) (by omega) ?_)) ?_ rfl))) (fun e => nm_r (nI_1 k) (ih (k + 1) (by omega) (by omega) ?_)) (cp_rd st (by omega)) rfl))
    · intro b hb hb' hs
      by_cases z : b = k
      · rw [z]
        exact e2
      · exact h b hb (by omega) hs
    · rw [cp_rd par (by omega), cp_rd st (by omega)]
    · intro b hb hb' hs
      by_cases z : b = k
      · rw [z] at hs
        exact absurd hs e
      · exact h b hb (by omega) hs
theorem cx_fc {post : Int32 → Prop} (B : cp_RB ic so oc am hg par cn tx st sl wi lk) (H0 : (∀ b, 1 ≤ b → b < 24 → st b = 2 → st (par b) ≠ 3) → post 0) (H1 : ∀ b, 1 ≤ b → b < 24 → st b = 2 → st (par b) = 3 → post (nI b)) : wpX_findConnectable post (sb, nI tip, nI pc, qc, cp_A ic, cp_A so, wi, xo, cp_Bo sl, cp_A am, lk, cp_A st, cp_A par, wk, cp_A cn, cp_A tx, od, cp_A hg, bw, cp_Bo gd, ch, cp_A po, li, sp, qu, sk) :=
  Exists.intro 24 (cx_fc2 B H0 H1 23 1 (by omega) (Nat.le_refl _) (fun b h1 h2 => by omega))
end
end
section
/-! X: the best block, the fork, the move of the tip, a block is taken -/
def cp_nth : List Nat → Nat → Nat
  | [], _ => 0
  | a :: _, 0 => a
  | _ :: l, i + 1 => cp_nth l i
theorem cp_nth_lo : ∀ (l m : List Nat) (i : Nat), i < l.length → cp_nth (l ++ m) i = cp_nth l i
  | [], _, i, h => absurd h (Nat.not_lt_zero _)
  | _ :: _, _, 0, _ => rfl
  | _ :: l, m, i + 1, h => cp_nth_lo l m i (Nat.lt_of_succ_lt_succ h)
theorem cp_nth_at : ∀ (l : List Nat) (t : Nat) (m : List Nat), cp_nth (l ++ t :: m) l.length = t
  | [], _, _ => rfl
  | _ :: l, t, m => cp_nth_at l t m
def cp_QR (qu : Nat → Int32) (l : List Nat) : Prop := ∀ i, i < l.length → qu i = nI (cp_nth l i)
theorem cp_QR_0 (qu : Nat → Int32) : cp_QR qu [] := fun _ h => absurd h (Nat.not_lt_zero _)
theorem cp_len1 (l : List Nat) (t : Nat) : (l ++ [t]).length = l.length + 1 := by simp
theorem cp_QR_s {qu : Nat → Int32} {l : List Nat} (h : cp_QR qu l) (t : Nat) : cp_QR (upd qu l.length (nI t)) (l ++ [t]) := by
  intro i hi
  rw [cp_len1] at hi
  by_cases e : i = l.length
  · rw [e, pk_us, cp_nth_at]
  · rw [pk_un e, cp_nth_lo l [t] i (by omega)]
    exact h i (by omega)
theorem cp_ct_len (tx : Nat → Nat) (b : Nat) : ∀ n, (cp_ct tx b n).length = n
  | 0 => rfl
  | n + 1 => by
    show (cp_ct tx b n ++ [tx (3 * b + n)]).length = n + 1
    rw [cp_len1, cp_ct_len tx b n]
theorem cp_pl_len (po : Nat → Nat) : ∀ n, (cp_pl po n).length = n
  | 0 => rfl
  | n + 1 => by
    show (cp_pl po n ++ [po n]).length = n + 1
    rw [cp_len1, cp_pl_len po n]
theorem cp_ct_mem {tx : Nat → Nat} {b : Nat} (h : ∀ k, tx k < 32) : ∀ n t, t ∈ cp_ct tx b n → t < 32 := by
  intro n
  induction n with
  | zero =>
    intro t ht
    exact absurd ht (List.not_mem_nil)
  | succ n ih =>
    intro t ht
    rcases List.mem_append.mp ht with z | z
    · exact ih t z
    · rw [List.mem_singleton.mp z]
      exact h _
theorem cp_ql_mem {hg par cn tx : Nat → Nat} {b F : Nat} (h : ∀ k, tx k < 32) : ∀ n t, t ∈ cp_ql hg par cn tx b F n → t < 32 := by
  intro n
  induction n with
  | zero =>
    intro t ht
    exact absurd ht (List.not_mem_nil)
  | succ n ih =>
    intro t ht
    rcases List.mem_append.mp ht with z | z
    · exact ih t z
    · by_cases y : F < n
      · rw [if_pos y] at z
        exact cp_ct_mem h _ t z
      · rw [if_neg y] at z
        exact absurd z (List.not_mem_nil)
theorem cp_pl_mem {po : Nat → Nat} : ∀ n, (∀ i, i < n → po i < 32) → ∀ t, t ∈ cp_pl po n → t < 32 := by
  intro n
  induction n with
  | zero =>
    intro _ t ht
    exact absurd ht (List.not_mem_nil)
  | succ n ih =>
    intro h t ht
    rcases List.mem_append.mp ht with z | z
    · exact ih (fun i hi => h i (by omega)) t z
    · rw [List.mem_singleton.mp z]
      exact h n (by omega)
theorem cp_ql_len {hg par cn tx : Nat → Nat} {b F : Nat} (h : ∀ c, cn c ≤ 3) : ∀ n, (cp_ql hg par cn tx b F n).length ≤ 3 * n := by
  intro n
  induction n with
  | zero => exact Nat.le_refl _
  | succ n ih =>
    show (cp_ql hg par cn tx b F n ++ (if F < n then cp_ct tx (cp_pt par hg b n) (cn (cp_pt par hg b n)) else [])).length ≤ 3 * (n + 1)
    rw [List.length_append]
    have := h (cp_pt par hg b n)
    by_cases y : F < n
    · rw [if_pos y, cp_ct_len]
      omega
    · rw [if_neg y]
      show _ + 0 ≤ _
      omega
theorem cp_ql_lo {hg par cn tx : Nat → Nat} {b F : Nat} : ∀ n, n ≤ F + 1 → cp_ql hg par cn tx b F n = [] := by
  intro n
  induction n with
  | zero =>
    intro _
    rfl
  | succ n ih =>
    intro h
    show cp_ql hg par cn tx b F n ++ (if F < n then cp_ct tx (cp_pt par hg b n) (cn (cp_pt par hg b n)) else []) = []
    rw [ih (by omega), if_neg (by omega)]
    rfl
section
variable {sb qc : Int32} {tip pc : Nat} {ic so oc am hg par cn tx st po : Nat → Nat} {sl gd : Nat → Bool} {wi lk wk bw od xo ch li sp qu sk : Nat → Int32}
theorem cx_b73 {post : Int32 → Prop} {J4 : Int32 → Int32 → Prop} {p k : Nat} (hk : k < 24) {x3 x4 z0 : Int32} (t3 : cp_TF x3 (bw p < bw k)) (t4 : cp_TF x4 (bw k = bw p)) (t0 : cp_TF z0 (od k < od p))
    (H : J4 (nI (if gd k = true ∧ (bw p < bw k ∨ (bw k = bw p ∧ od k < od p)) then k else p)) (nI (k + 1))) : wX_findHeaviestGood_73 post J4 (nI p) (nI k) x3 x4 z0 sb (nI tip) (nI pc) qc (cp_A ic) (cp_A so) wi xo (cp_Bo sl) (cp_A am) lk (cp_A st) (cp_A par) wk (cp_A cn) (cp_A tx) od (cp_A hg) bw (cp_Bo gd) ch (cp_A po) li sp qu sk := by
  have tg : cp_TF (cp_Bo gd (nI k).toNatClampNeg) (gd k = true) := by
    rw [cp_rb gd (by omega)]
    exact cp_TF_b _
  refine And.intro (vp_in_nI hk (by decide)) (cp_TF_br tg (fun g => nm_r (nI_1 k) ?_) (fun g => cp_TF_br t3 (fun a => cp_TF_br t4 (fun b => nm_r (nI_1 k) ?_) (fun b => cp_TF_br t0 (fun c => nm_r (nI_1 k) ?_) (fun c => nm_r (nI_1 k) ?_))) (fun a => nm_r (nI_1 k) ?_)))
  · rw [if_neg (fun y => g y.1)] at H
    exact H
  · rw [if_neg (fun y => y.2.elim a (fun z => b z.1))] at H
    exact H
  · rw [if_neg (fun y => y.2.elim a (fun z => c z.2))] at H
    exact H
  · rw [if_pos ⟨g, Or.inr ⟨b, c⟩⟩] at H
    exact H
  · rw [if_pos ⟨g, Or.inl a⟩] at H
    exact H
theorem cx_b4 {post : Int32 → Prop} (H : post (nI (cp_bt gd bw od 24))) : ∀ (d k : Nat), k + d = 24 → 1 ≤ k → wX_findHeaviestGood_4 post sb (nI tip) (nI pc) qc (cp_A ic) (cp_A so) wi xo (cp_Bo sl) (cp_A am) lk (cp_A st) (cp_A par) wk (cp_A cn) (cp_A tx) od (cp_A hg) bw (cp_Bo gd) ch (cp_A po) li sp qu sk (d + 1) (nI (cp_bt gd bw od k)) (nI k) := by
  intro d
  induction d with
  | zero =>
    intro k hk h1
    refine pk_le 24 k (fun _ => ?_) (fun z => False.elim (by omega))
    rw [show k = 24 from by omega]
    exact H
  | succ d ih =>
    intro k hk h1
    have hp : cp_bt gd bw od k < 24 := by
      have := cp_bt_lt gd bw od (k - 1)
      rw [show k - 1 + 1 = k from by omega] at this
      omega
    have ik : vp_in (nI k) 24 := vp_in_nI (by omega) (by decide)
    have ip : vp_in (nI (cp_bt gd bw od k)) 24 := vp_in_nI hp (by decide)
    have key : ∀ x3 x4 z0, cp_TF x3 (bw (cp_bt gd bw od k) < bw k) → cp_TF x4 (bw k = bw (cp_bt gd bw od k)) → cp_TF z0 (od k < od (cp_bt gd bw od k)) → wX_findHeaviestGood_73 post (wX_findHeaviestGood_4 post sb (nI tip) (nI pc) qc (cp_A ic) (cp_A so) wi xo (cp_Bo sl) (cp_A am) lk (cp_A st) (cp_A par) wk (cp_A cn) (cp_A tx) od (cp_A hg) bw (cp_Bo gd) ch (cp_A po) li sp qu sk (d + 1)) (nI (cp_bt gd bw od k)) (nI k) x3 x4 z0 sb (nI tip) (nI pc) qc (cp_A ic) (cp_A so) wi xo (cp_Bo sl) (cp_A am) lk (cp_A st) (cp_A par) wk (cp_A cn) (cp_A tx) od (cp_A hg) bw (cp_Bo gd) ch (cp_A po) li sp qu sk :=
      fun x3 x4 z0 a b c => cx_b73 (by omega) a b c (ih (k + 1) (by omega) (by omega))
    have k51 : ∀ x3 x4, cp_TF x3 (bw (cp_bt gd bw od k) < bw k) → cp_TF x4 (bw k = bw (cp_bt gd bw od k)) → wX_findHeaviestGood_51 post (wX_findHeaviestGood_4 post sb (nI tip) (nI pc) qc (cp_A ic) (cp_A so) wi xo (cp_Bo sl) (cp_A am) lk (cp_A st) (cp_A par) wk (cp_A cn) (cp_A tx) od (cp_A hg) bw (cp_Bo gd) ch (cp_A po) li sp qu sk (d + 1)) (nI (cp_bt gd bw od k)) (nI k) x3 x4 sb (nI tip) (nI pc) qc (cp_A ic) (cp_A so) wi xo (cp_Bo sl) (cp_A am) lk (cp_A st) (cp_A par) wk (cp_A cn) (cp_A tx) od (cp_A hg) bw (cp_Bo gd) ch (cp_A po) li sp qu sk := by
      intro x3 x4 a b
      refine And.intro ik (And.intro ip (br_c (fun z => key x3 x4 0 a b (cp_TF_F ?_)) (fun z => key x3 x4 1 a b (cp_TF_T ?_))))
      · rw [cp_rw od (by omega), cp_rw od (by omega)] at z
        exact Int32.not_lt.mpr z
      · rw [cp_rw od (by omega), cp_rw od (by omega)] at z
        exact Int32.not_le.mp z
    have k30 : ∀ x3, cp_TF x3 (bw (cp_bt gd bw od k) < bw k) → wX_findHeaviestGood_30 post (wX_findHeaviestGood_4 post sb (nI tip) (nI pc) qc (cp_A ic) (cp_A so) wi xo (cp_Bo sl) (cp_A am) lk (cp_A st) (cp_A par) wk (cp_A cn) (cp_A tx) od (cp_A hg) bw (cp_Bo gd) ch (cp_A po) li sp qu sk (d + 1)) (nI (cp_bt gd bw od k)) (nI k) x3 sb (nI tip) (nI pc) qc (cp_A ic) (cp_A so) wi xo (cp_Bo sl) (cp_A am) lk (cp_A st) (cp_A par) wk (cp_A cn) (cp_A tx) od (cp_A hg) bw (cp_Bo gd) ch (cp_A po) li sp qu sk := by
      intro x3 a
      refine And.intro ik (And.intro ip (br_c (fun z => k51 x3 1 a (cp_TF_T ?_)) (fun z => k51 x3 0 a (cp_TF_F ?_))))
      · rw [cp_rw bw (by omega), cp_rw bw (by omega)] at z
        exact z
      · rw [cp_rw bw (by omega), cp_rw bw (by omega)] at z
        exact z
    refine pk_le 24 k (fun z => False.elim (by omega)) (fun _ => And.intro ik (And.intro ip (br_c (fun z => k30 0 (cp_TF_F ?_)) (fun z => k30 1 (cp_TF_T ?_)))))
    · rw [cp_rw bw (by omega), cp_rw bw (by omega)] at z
      exact Int32.not_lt.mpr z
    · rw [cp_rw bw (by omega), cp_rw bw (by omega)] at z
      exact Int32.not_le.mp z
theorem cx_best {post : Int32 → Prop} (H : post (nI (cp_bt gd bw od 24))) : wpX_findHeaviestGood post (sb, nI tip, nI pc, qc, cp_A ic, cp_A so, wi, xo, cp_Bo sl, cp_A am, lk, cp_A st, cp_A par, wk, cp_A cn, cp_A tx, od, cp_A hg, bw, cp_Bo gd, ch, cp_A po, li, sp, qu, sk) := by
  have z := cx_b4 (sb := sb) (tip := tip) (pc := pc) (qc := qc) (ic := ic) (so := so) (wi := wi) (xo := xo) (sl := sl) (am := am) (lk := lk) (st := st) (par := par) (wk := wk) (cn := cn) (tx := tx) (od := od) (hg := hg) (bw := bw) (gd := gd) (ch := ch) (po := po) (li := li) (sp := sp) (qu := qu) (sk := sk) H 23 1 (by omega) (Nat.le_refl _)
  rw [cp_bt_1] at z
  exact Exists.intro 24 z
/-- the block at each height of the chain of the tip -/
def cp_RC (hg par : Nat → Nat) (tip : Nat) (ch : Nat → Int32) : Prop := ∀ i, i ≤ hg tip → ch i = nI (cp_pt par hg tip i)
theorem cx_ff9 {post : Int32 → Prop} (T : cp_Tr hg par st) {l : Nat} (hl : l < 24) (cl : st l = 3) (htip : tip < 24) (ct : st tip = 3) (hh : hg tip < 24) (hh2 : hg l < 24) (RC : cp_RC hg par tip ch) (H : ∀ F, cp_Fk hg par l tip F → post (nI F)) : ∀ (h : Nat), h ≤ hg l → (∀ q, h < q → q ≤ hg l → q ≤ hg tip → ¬ cp_pt par hg l q = cp_pt par hg tip q) → wX_findFork_9 post sb (nI tip) (nI pc) qc (cp_A ic) (cp_A so) wi xo (cp_Bo sl) (cp_A am) lk (cp_A st) (cp_A par) wk (cp_A cn) (cp_A tx) od (cp_A hg) bw (cp_Bo gd) ch (cp_A po) li sp qu sk (h + 1) (nI (cp_pt par hg l h)) (nI h) := by
  intro h
  induction h with
  | zero =>
    intro hh h
    exact pk_le 0 0 (fun _ => H 0 ⟨Nat.zero_le _, Nat.zero_le _, by rw [cp_pt_0 T hl cl, cp_pt_0 T htip ct], h⟩) (fun z => False.elim (by omega))
  | succ n ih =>
    intro hn h
    have pi := cp_pt_in T hl cl hn
    have up := cp_pt_up T hl cl hn (by omega)
    rw [show n + 1 - 1 = n from rfl] at up
    have e : cp_A par (nI (cp_pt par hg l (n + 1))).toNatClampNeg = nI (cp_pt par hg l n) := by
      rw [cp_rd par (by omega), up]
    have go : (∀ q, n < q → q ≤ hg l → q ≤ hg tip → ¬ cp_pt par hg l q = cp_pt par hg tip q) → wX_findFork_9 post sb (nI tip) (nI pc) qc (cp_A ic) (cp_A so) wi xo (cp_Bo sl) (cp_A am) lk (cp_A st) (cp_A par) wk (cp_A cn) (cp_A tx) od (cp_A hg) bw (cp_Bo gd) ch (cp_A po) li sp qu sk (n + 1) (nI (cp_pt par hg l n)) (nI n) := fun w => ih (by omega) w
    refine pk_le (n + 1) 0 (fun z => False.elim (by omega)) (fun _ => And.intro (vp_in_nI htip (by decide)) (pk_lt (hg tip) (n + 1) (fun z => And.intro (vp_in_nI pi (by decide)) (nm_r e (nm_r (pk_m1 n) (go ?_)))) (fun z => And.intro (vp_in_nI (by omega) (by decide)) (pk_eq (cp_pt par hg tip (n + 1)) (cp_pt par hg l (n + 1)) (fun y => H (n + 1) ⟨hn, z, y.symm, h⟩) (fun y => And.intro (vp_in_nI pi (by decide)) (nm_r e (nm_r (pk_m1 n) (go ?_)))) ?_ rfl ?_ ?_)) (cp_rd hg (by omega)) rfl))
    · intro q h1 h2 h3
      omega
    · intro q h1 h2 h3
      by_cases e : q = n + 1
      · rw [e]
        exact fun w => y w.symm
      · exact h q (by omega) h2 h3
    · rw [cp_rw ch (by omega)]
      exact RC _ z
    · have := cp_pt_in T htip ct z
      omega
    · omega
theorem cx_ff {post : Int32 → Prop} (T : cp_Tr hg par st) {l : Nat} (hl : l < 24) (cl : st l = 3) (htip : tip < 24) (ct : st tip = 3) (hh : hg tip < 24) (hh2 : hg l < 24) (RC : cp_RC hg par tip ch) (H : ∀ F, cp_Fk hg par l tip F → post (nI F)) : wpX_findFork post (sb, nI tip, nI pc, qc, cp_A ic, cp_A so, wi, xo, cp_Bo sl, cp_A am, lk, cp_A st, cp_A par, wk, cp_A cn, cp_A tx, od, cp_A hg, bw, cp_Bo gd, ch, cp_A po, li, sp, qu, sk) (nI l) := by
  refine And.intro (vp_in_nI hl (by decide)) (nm_r (cp_rd hg (by omega)) (Exists.intro (hg l + 1) ?_))
  have z := cx_ff9 (sb := sb) (tip := tip) (pc := pc) (qc := qc) (ic := ic) (so := so) (wi := wi) (xo := xo) (sl := sl) (am := am) (lk := lk) (st := st) (par := par) (wk := wk) (cn := cn) (tx := tx) (od := od) (hg := hg) (bw := bw) (gd := gd) (ch := ch) (po := po) (li := li) (sp := sp) (qu := qu) (sk := sk) T hl cl htip ct hh hh2 RC H (hg l) (Nat.le_refl _) (fun q h1 h2 => by omega)
  rw [cp_pt_top] at z
  exact z
theorem cx_enq {post : SX → Prop} {l : List Nat} {t : Nat} (hn : l.length < 80) (hq : cp_QR qu l) (H : ∀ qu', cp_QR qu' (l ++ [t]) → post (sb, nI tip, nI pc, (nI (l ++ [t]).length), cp_A ic, cp_A so, wi, xo, cp_Bo sl, cp_A am, lk, cp_A st, cp_A par, wk, cp_A cn, cp_A tx, od, cp_A hg, bw, cp_Bo gd, ch, cp_A po, li, sp, qu', sk)) : wpX_enqueue post (sb, nI tip, nI pc, (nI l.length), cp_A ic, cp_A so, wi, xo, cp_Bo sl, cp_A am, lk, cp_A st, cp_A par, wk, cp_A cn, cp_A tx, od, cp_A hg, bw, cp_Bo gd, ch, cp_A po, li, sp, qu, sk) (nI t) := by
  have z := H _ (cp_QR_s hq t)
  rw [cp_len1] at z
  refine pk_le 80 l.length (fun z => False.elim (by omega)) (fun _ => And.intro (vp_in_nI hn (by decide)) (nm_r (by rw [nI_clamp (by omega)]) (nm_r (nI_1 _) z)))
theorem cx_ec2 {post : SX → Prop} {l : List Nat} {b : Nat} (hb : b < 24) (hc : cn b ≤ 3) (hn : l.length + 3 ≤ 80) (H : ∀ qu', cp_QR qu' (l ++ cp_ct tx b (cn b)) → post (sb, nI tip, nI pc, (nI (l ++ cp_ct tx b (cn b)).length), cp_A ic, cp_A so, wi, xo, cp_Bo sl, cp_A am, lk, cp_A st, cp_A par, wk, cp_A cn, cp_A tx, od, cp_A hg, bw, cp_Bo gd, ch, cp_A po, li, sp, qu', sk)) : ∀ (d i : Nat) (qu : Nat → Int32), i + d = cn b → cp_QR qu (l ++ cp_ct tx b i) → wX_enqueueContent_2 post (nI b) (d + 1) (nI i) sb (nI tip) (nI pc) (nI (l ++ cp_ct tx b i).length) (cp_A ic) (cp_A so) wi xo (cp_Bo sl) (cp_A am) lk (cp_A st) (cp_A par) wk (cp_A cn) (cp_A tx) od (cp_A hg) bw (cp_Bo gd) ch (cp_A po) li sp qu sk := by
  intro d
  induction d with
  | zero =>
    intro i qu hi hq
    have ei : i = cn b := by omega
    subst ei
    exact And.intro (vp_in_nI hb (by decide)) (pk_le (cn b) (cn b) (fun _ => H qu hq) (fun z => False.elim (by omega)) (cp_rd cn (by omega)) rfl)
  | succ d ih =>
    intro i qu hi hq
    have e1 : cp_A tx ((3 : Int32) * nI b + nI i).toNatClampNeg = nI (tx (3 * b + i)) := by
      rw [cp_3a, cp_rd _ (by omega)]
    refine And.intro (vp_in_nI hb (by decide)) (pk_le (cn b) i (fun z => False.elim (by omega)) (fun _ => And.intro (pk_in (3 * b + i) 72 (by omega) (cp_3a b i)) ?_) (cp_rd cn (by omega)) rfl)
    rw [e1]
    refine cx_enq ?_ hq (fun qu' hq' => nm_r (nI_1 i) ?_)
    · rw [List.length_append, cp_ct_len]
      omega
    · have ea : l ++ cp_ct tx b i ++ [tx (3 * b + i)] = l ++ cp_ct tx b (i + 1) := List.append_assoc _ _ _
      rw [ea] at hq' ⊢
      exact ih (i + 1) qu' (by omega) hq'
theorem cx_ec {post : SX → Prop} {l : List Nat} {b : Nat} (hb : b < 24) (hc : cn b ≤ 3) (hn : l.length + 3 ≤ 80) (hq : cp_QR qu l) (H : ∀ qu', cp_QR qu' (l ++ cp_ct tx b (cn b)) → post (sb, nI tip, nI pc, (nI (l ++ cp_ct tx b (cn b)).length), cp_A ic, cp_A so, wi, xo, cp_Bo sl, cp_A am, lk, cp_A st, cp_A par, wk, cp_A cn, cp_A tx, od, cp_A hg, bw, cp_Bo gd, ch, cp_A po, li, sp, qu', sk)) : wpX_enqueueContent post (sb, nI tip, nI pc, (nI l.length), cp_A ic, cp_A so, wi, xo, cp_Bo sl, cp_A am, lk, cp_A st, cp_A par, wk, cp_A cn, cp_A tx, od, cp_A hg, bw, cp_Bo gd, ch, cp_A po, li, sp, qu, sk) (nI b) := by
  have ea : l ++ cp_ct tx b 0 = l := List.append_nil l
  refine Exists.intro (cn b + 1) ?_
  have z := cx_ec2 (sb := sb) (tip := tip) (pc := pc) (ic := ic) (so := so) (wi := wi) (xo := xo) (sl := sl) (am := am) (lk := lk) (st := st) (par := par) (wk := wk) (cn := cn) (tx := tx) (od := od) (hg := hg) (bw := bw) (gd := gd) (ch := ch) (po := po) (li := li) (sp := sp) (sk := sk) hb hc hn H (cn b) 0 qu (by omega) (by rw [ea]; exact hq)
  rw [ea] at z
  exact z
theorem cx_m90 {post : SX → Prop} (T : cp_Tr hg par st) {F : Nat} (htip : tip < 24) (ct : st tip = 3) (hh : hg tip < 24) (H : ∀ ch', cp_RC hg par tip ch' → post (sb, nI tip, nI pc, qc, cp_A ic, cp_A so, wi, xo, cp_Bo sl, cp_A am, lk, cp_A st, cp_A par, wk, cp_A cn, cp_A tx, od, cp_A hg, bw, cp_Bo gd, ch', cp_A po, li, sp, qu, sk)) : ∀ (d h : Nat) (ch : Nat → Int32), h = F + d → h ≤ hg tip → (∀ i, h < i → i ≤ hg tip → ch i = nI (cp_pt par hg tip i)) → (∀ i, i ≤ F → ch i = nI (cp_pt par hg tip i)) → wX_moveTip_90 post (nI F) sb (nI tip) (nI pc) qc (d + 1) (nI (cp_pt par hg tip h)) (nI h) (cp_A ic) (cp_A so) wi xo (cp_Bo sl) (cp_A am) lk (cp_A st) (cp_A par) wk (cp_A cn) (cp_A tx) od (cp_A hg) bw (cp_Bo gd) ch (cp_A po) li sp qu sk := by
  intro d
  induction d with
  | zero =>
    intro h ch hF hle h1 h2
    refine pk_le h F (fun _ => H ch (fun i hi => ?_)) (fun z => False.elim (by omega))
    by_cases e : i ≤ F
    · exact h2 i e
    · exact h1 i (by omega) hi
  | succ d ih =>
    intro h ch hF hle h1 h2
    have pi := cp_pt_in T htip ct hle
    have up := cp_pt_up T htip ct hle (by omega)
    refine pk_le h F (fun z => False.elim (by omega)) (fun _ => And.intro (vp_in_nI (by omega) (by decide)) (nm_r (e' := upd ch h (nI (cp_pt par hg tip h))) (by rw [nI_clamp (by omega)]) (And.intro (vp_in_nI pi (by decide)) (nm_r (e' := nI (cp_pt par hg tip (h - 1))) (by rw [cp_rd par (by omega), up]) (nm_r (cp_nm1 (by omega)) (ih (h - 1) _ (by omega) (by omega) ?_ ?_))))))
    · intro i hi hi2
      by_cases e : i = h
      · rw [e, pk_us]
      · rw [pk_un e]
        exact h1 i (by omega) hi2
    · intro i hi
      rw [pk_un (by omega)]
      exact h2 i hi
end
end
section
/-! X: the tip moves, what was given up is offered again, a block is taken -/
section
variable {sb qc : Int32} {tip pc : Nat} {ic so oc am hg par cn tx st po : Nat → Nat} {sl gd : Nat → Bool} {wi lk wk bw od xo ch li sp qu sk : Nat → Int32}
theorem cx_m46 {post : SX → Prop} (T : cp_Tr hg par st) {best F : Nat} (htip : tip < 24) (ct : st tip = 3) (hbs : best < 24) (cb : st best = 3) (hh : hg best < 24) (K : cp_Fk hg par best tip F) (RC : cp_RC hg par tip ch) (hp : pc ≤ 8) {l : List Nat} (hl : l.length ≤ 72)
    (H : ∀ qu' ch', cp_QR qu' (l ++ cp_pl po pc) → cp_RC hg par best ch' → post (sb, nI best, nI 0, (nI (l ++ cp_pl po pc).length), cp_A ic, cp_A so, wi, xo, cp_Bo sl, cp_A am, lk, cp_A st, cp_A par, wk, cp_A cn, cp_A tx, od, cp_A hg, bw, cp_Bo gd, ch', cp_A po, li, sp, qu', sk)) : ∀ (d i : Nat) (qu : Nat → Int32), i + d = pc → cp_QR qu (l ++ cp_pl po i) → wX_moveTip_46 post (nI best) (nI F) (d + 1) (nI i) sb (nI tip) (nI pc) (nI (l ++ cp_pl po i).length) (cp_A ic) (cp_A so) wi xo (cp_Bo sl) (cp_A am) lk (cp_A st) (cp_A par) wk (cp_A cn) (cp_A tx) od (cp_A hg) bw (cp_Bo gd) ch (cp_A po) li sp qu sk := by
  intro d
  induction d with
  | zero =>
    intro i qu hi hq
    have ei : i = pc := by omega
    subst ei
    have k1 := K.1
    have z := cx_m90 (sb := sb) (tip := best) (pc := 0) (qc := nI (l ++ cp_pl po i).length) (ic := ic) (so := so) (wi := wi) (xo := xo) (sl := sl) (am := am) (lk := lk) (st := st) (par := par) (wk := wk) (cn := cn) (tx := tx) (od := od) (hg := hg) (bw := bw) (gd := gd) (po := po) (li := li) (sp := sp) (qu := qu) (sk := sk) (F := F) T hbs cb hh (fun ch' h => H qu ch' hq h) (hg best - F) (hg best) ch (by omega) (Nat.le_refl _) (fun q h1 h2 => by omega) (fun q hq2 => by rw [cp_Fk_lo T hbs cb htip ct K hq2]; exact RC q (by have := K.2.1; omega))
    rw [cp_pt_top] at z
    exact pk_le i i (fun _ => And.intro (vp_in_nI hbs (by decide)) (nm_r (cp_rd hg (by omega)) (Exists.intro _ z))) (fun z => False.elim (by omega))
  | succ d ih =>
    intro i qu hi hq
    refine pk_le pc i (fun z => False.elim (by omega)) (fun _ => And.intro (vp_in_nI (by omega) (by decide)) ?_)
    rw [cp_rd po (by omega)]
    refine cx_enq ?_ hq (fun qu' hq' => nm_r (nI_1 i) ?_)
    · rw [List.length_append, cp_pl_len]
      omega
    · have ea : l ++ cp_pl po i ++ [po i] = l ++ cp_pl po (i + 1) := List.append_assoc _ _ _
      rw [ea] at hq' ⊢
      exact ih (i + 1) qu' (by omega) hq'
theorem cx_m15 {post : SX → Prop} (B : cp_RB ic so oc am hg par cn tx st sl wi lk) (T : cp_Tr hg par st) {best F : Nat} (htip : tip < 24) (ct : st tip = 3) (hht : hg tip < 24) (hbs : best < 24) (cb : st best = 3) (hh : hg best < 24) (K : cp_Fk hg par best tip F) (RC : cp_RC hg par tip ch) (hp : pc ≤ 8)
    (H : ∀ qu' ch', cp_QR qu' (cp_ql hg par cn tx tip F (hg tip + 1) ++ cp_pl po pc) → cp_RC hg par best ch' → post (sb, nI best, nI 0, (nI (cp_ql hg par cn tx tip F (hg tip + 1) ++ cp_pl po pc).length), cp_A ic, cp_A so, wi, xo, cp_Bo sl, cp_A am, lk, cp_A st, cp_A par, wk, cp_A cn, cp_A tx, od, cp_A hg, bw, cp_Bo gd, ch', cp_A po, li, sp, qu', sk)) : ∀ (d h : Nat) (qu : Nat → Int32), h + d = hg tip + 1 → F + 1 ≤ h → cp_QR qu (cp_ql hg par cn tx tip F h) →
    wX_moveTip_15 post (nI best) (nI F) (d + 1) (nI h) sb (nI tip) (nI pc) (nI (cp_ql hg par cn tx tip F h).length) (cp_A ic) (cp_A so) wi xo (cp_Bo sl) (cp_A am) lk (cp_A st) (cp_A par) wk (cp_A cn) (cp_A tx) od (cp_A hg) bw (cp_Bo gd) ch (cp_A po) li sp qu sk := by
  intro d
  induction d with
  | zero =>
    intro h qu hd hF hq
    have eh : h = hg tip + 1 := by omega
    subst eh
    have ln := cp_ql_len (hg := hg) (par := par) (tx := tx) (b := tip) (F := F) (cp_RB_cn B) (hg tip + 1)
    have ea : cp_ql hg par cn tx tip F (hg tip + 1) ++ cp_pl po 0 = cp_ql hg par cn tx tip F (hg tip + 1) := List.append_nil _
    have z := cx_m46 (sb := sb) (tip := tip) (pc := pc) (ic := ic) (so := so) (wi := wi) (xo := xo) (sl := sl) (am := am) (lk := lk) (st := st) (par := par) (wk := wk) (cn := cn) (tx := tx) (od := od) (hg := hg) (bw := bw) (gd := gd) (ch := ch) (po := po) (li := li) (sp := sp) (sk := sk) T htip ct hbs cb hh K RC hp (l := cp_ql hg par cn tx tip F (hg tip + 1)) (by omega) H pc 0 qu (by omega) (by rw [ea]; exact hq)
    rw [ea] at z
    exact And.intro (vp_in_nI htip (by decide)) (pk_lt (hg tip) (hg tip + 1) (fun _ => Exists.intro _ z) (fun z => False.elim (by omega)) (cp_rd hg (by omega)) rfl)
  | succ d ih =>
    intro h qu hd hF hq
    have ln := cp_ql_len (hg := hg) (par := par) (tx := tx) (b := tip) (F := F) (cp_RB_cn B) h
    have e : ch (nI h).toNatClampNeg = nI (cp_pt par hg tip h) := by
      rw [nI_clamp (by omega)]
      exact RC h (by omega)
    refine And.intro (vp_in_nI htip (by decide)) (pk_lt (hg tip) h (fun z => False.elim (by omega)) (fun _ => And.intro (vp_in_nI (by omega) (by decide)) ?_) (cp_rd hg (by omega)) rfl)
    rw [e]
    refine cx_ec (cp_pt_in T htip ct (by omega)) (cp_RB_cn B _) (by omega) hq (fun qu' hq' => nm_r (nI_1 h) ?_)
    have ea : cp_ql hg par cn tx tip F h ++ cp_ct tx (cp_pt par hg tip h) (cn (cp_pt par hg tip h)) = cp_ql hg par cn tx tip F (h + 1) := by
      show _ = cp_ql hg par cn tx tip F h ++ (if F < h then cp_ct tx (cp_pt par hg tip h) (cn (cp_pt par hg tip h)) else [])
      rw [if_pos (by omega)]
    rw [ea] at hq' ⊢
    exact ih (h + 1) qu' (by omega) (by omega) hq'
theorem cx_mt {post : SX → Prop} (B : cp_RB ic so oc am hg par cn tx st sl wi lk) (T : cp_Tr hg par st) {best : Nat} (htip : tip < 24) (ct : st tip = 3) (hht : hg tip < 24) (hbs : best < 24) (cb : st best = 3) (hh : hg best < 24) (RC : cp_RC hg par tip ch) (hp : pc ≤ 8)
    (H : ∀ F qu' ch', cp_Fk hg par best tip F → cp_QR qu' (cp_ql hg par cn tx tip F (hg tip + 1) ++ cp_pl po pc) → cp_RC hg par best ch' → post (sb, nI best, nI 0, (nI (cp_ql hg par cn tx tip F (hg tip + 1) ++ cp_pl po pc).length), cp_A ic, cp_A so, wi, xo, cp_Bo sl, cp_A am, lk, cp_A st, cp_A par, wk, cp_A cn, cp_A tx, od, cp_A hg, bw, cp_Bo gd, ch', cp_A po, li, sp, qu', sk)) : wpX_moveTip post (sb, nI tip, nI pc, qc, cp_A ic, cp_A so, wi, xo, cp_Bo sl, cp_A am, lk, cp_A st, cp_A par, wk, cp_A cn, cp_A tx, od, cp_A hg, bw, cp_Bo gd, ch, cp_A po, li, sp, qu, sk) (nI best) := by
  refine cx_ff T hbs cb htip ct hht hh RC (fun F K => nm_r (nI_1 F) (Exists.intro (hg tip - F + 1) ?_))
  have k2 := K.2.1
  have ea := cp_ql_lo (hg := hg) (par := par) (cn := cn) (tx := tx) (b := tip) (F := F) (F + 1) (Nat.le_refl _)
  have z := cx_m15 (sb := sb) (tip := tip) (pc := pc) (ic := ic) (so := so) (wi := wi) (xo := xo) (sl := sl) (am := am) (lk := lk) (st := st) (par := par) (wk := wk) (cn := cn) (tx := tx) (od := od) (hg := hg) (bw := bw) (gd := gd) (ch := ch) (po := po) (li := li) (sp := sp) (sk := sk) B T htip ct hht hbs cb hh K RC hp (fun qu' ch' => H F qu' ch' K) (hg tip - F) (F + 1) qu (by omega) (Nat.le_refl _) (by rw [ea]; exact cp_QR_0 qu)
  rw [ea] at z
  exact z
theorem cx_a79 {post : SX → Prop} (hxo : ∀ t, t < 32 → xo t = nI (oc t)) (htip : tip < 24) (gt : gd tip = true) {l : List Nat} (hl : ∀ t, t ∈ l → t < 32) (hlen : l.length ≤ 80) (hq : cp_QR qu l) {q0 : Nat × (Nat → Nat)}
    (H : ∀ pc po li sp sk, cp_RR ic so oc am hg par cn tx st sl wi lk wk bw gd pc po → (pc, po) = cp_fo ic so oc am hg par cn tx sl wi lk tip q0 l → post (sb, nI tip, nI pc, (nI l.length), cp_A ic, cp_A so, wi, xo, cp_Bo sl, cp_A am, lk, cp_A st, cp_A par, wk, cp_A cn, cp_A tx, od, cp_A hg, bw, cp_Bo gd, ch, cp_A po, li, sp, qu, sk)) : ∀ (l2 l1 : List Nat) (pc : Nat) (po : Nat → Nat) (li sp sk : Nat → Int32), l = l1 ++ l2 → (pc, po) = cp_fo ic so oc am hg par cn tx sl wi lk tip q0 l1 → cp_RR ic so oc am hg par cn tx st sl wi lk wk bw gd pc po →
    wX_accept_79 post (l2.length + 1) (nI l1.length) sb (nI tip) (nI pc) (nI l.length) (cp_A ic) (cp_A so) wi xo (cp_Bo sl) (cp_A am) lk (cp_A st) (cp_A par) wk (cp_A cn) (cp_A tx) od (cp_A hg) bw (cp_Bo gd) ch (cp_A po) li sp qu sk := by
  intro l2
  induction l2 with
  | nil =>
    intro l1 pc po li sp sk e hf R
    rw [List.append_nil] at e
    subst e
    exact pk_le l.length l.length (fun _ => H pc po li sp sk R hf) (fun z => False.elim (by omega))
  | cons t l3 ih =>
    intro l1 pc po li sp sk e hf R
    have el : l.length = l1.length + (l3.length + 1) := by
      rw [e, List.length_append]
      rfl
    have et : qu (nI l1.length).toNatClampNeg = nI t := by
      rw [nI_clamp (by omega), hq _ (by omega), e, cp_nth_at]
    have tm : t < 32 := hl t (by rw [e]; exact List.mem_append.mpr (Or.inr (List.mem_cons_self)))
    have e2 : l = (l1 ++ [t]) ++ l3 := by
      rw [List.append_assoc]
      exact e
    refine pk_le l.length l1.length (fun z => False.elim (by omega)) (fun _ => And.intro (vp_in_nI (by omega) (by decide)) ?_)
    rw [et]
    refine cx_ap R hxo tm htip gt (fun r li' sp' sk' h0 _ => nm_r (nI_1 _) ?_) (fun r li' sp' sk' h1 _ => nm_r (nI_1 _) ?_)
    · have z := ih (l1 ++ [t]) pc po li' sp' sk' e2 (by rw [cp_fo_app, ← hf, cp_fo_1, cp_ad_f h0]) R
      rw [cp_len1] at z
      exact z
    · have z := ih (l1 ++ [t]) (pc + 1) (cp_up po pc t) li' sp' sk' e2 (by rw [cp_fo_app, ← hf, cp_fo_1, cp_ad_t h1]) (cp_ad_RR R htip gt tm h1)
      rw [cp_len1] at z
      exact z
theorem cx_a58 {post : SX → Prop} (R : cp_RR ic so oc am hg par cn tx st sl wi lk wk bw gd pc po) (hxo : ∀ t, t < 32 → xo t = nI (oc t)) (htip : tip < 24) (gt : gd tip = true) (RC : cp_RC hg par tip ch)
    (H0 : cp_bt gd bw od 24 = tip → post (sb, nI tip, nI pc, qc, cp_A ic, cp_A so, wi, xo, cp_Bo sl, cp_A am, lk, cp_A st, cp_A par, wk, cp_A cn, cp_A tx, od, cp_A hg, bw, cp_Bo gd, ch, cp_A po, li, sp, qu, sk))
    (H1 : ∀ best F pc' po' ch' li' sp' qu' sk' qc', best = cp_bt gd bw od 24 → best ≠ tip → best < 24 → gd best = true → cp_Fk hg par best tip F → (pc', po') = cp_fo ic so oc am hg par cn tx sl wi lk best (0, po) (cp_ql hg par cn tx tip F (hg tip + 1) ++ cp_pl po pc) → cp_RR ic so oc am hg par cn tx st sl wi lk wk bw gd pc' po' → cp_RC hg par best ch' → post (sb, nI best, nI pc', qc', cp_A ic, cp_A so, wi, xo, cp_Bo sl, cp_A am, lk, cp_A st, cp_A par, wk, cp_A cn, cp_A tx, od, cp_A hg, bw, cp_Bo gd, ch', cp_A po', li', sp', qu', sk')) : wX_accept_58 post sb (nI tip) (nI pc) qc (cp_A ic) (cp_A so) wi xo (cp_Bo sl) (cp_A am) lk (cp_A st) (cp_A par) wk (cp_A cn) (cp_A tx) od (cp_A hg) bw (cp_Bo gd) ch (cp_A po) li sp qu sk := by
  have hb : cp_bt gd bw od 24 < 24 := Nat.lt_succ_of_le (cp_bt_lt gd bw od 23)
  have gb : gd (cp_bt gd bw od 24) = true := cp_bt_gd bw od R.2.1.2.1.2.2.1 24
  have ct := R.2.1.2.2.2.1 tip htip gt
  have cb := R.2.1.2.2.2.1 _ hb gb
  refine cx_best (pk_eq (cp_bt gd bw od 24) tip (fun e => H0 e) (fun ne => ?_))
  refine cx_mt R.1 R.2.1.1 htip ct (cp_RT_hg R.2.1 htip ct) hb cb (cp_RT_hg R.2.1 hb cb) RC R.2.2.1 (fun F qu' ch' K hq rc => ?_)
  have hm : ∀ t, t ∈ cp_ql hg par cn tx tip F (hg tip + 1) ++ cp_pl po pc → t < 32 := by
    intro t ht
    rcases List.mem_append.mp ht with z | z
    · exact cp_ql_mem (cp_RB_tx R.1) _ t z
    · exact cp_pl_mem pc (fun i hi => (R.2.2.2 i hi).1) t z
  have hln : (cp_ql hg par cn tx tip F (hg tip + 1) ++ cp_pl po pc).length ≤ 80 := by
    have a := cp_ql_len (hg := hg) (par := par) (tx := tx) (b := tip) (F := F) (cp_RB_cn R.1) (hg tip + 1)
    have b := cp_RT_hg R.2.1 htip ct
    have c := R.2.2.1
    rw [List.length_append, cp_pl_len]
    omega
  exact Exists.intro _ (cx_a79 hxo hb gb hm hln hq (q0 := (0, po)) (fun pc' po' li' sp' sk' R' hf => H1 _ F pc' po' ch' li' sp' qu' sk' _ rfl ne hb gb K hf R' rc) _ [] 0 po li sp sk rfl rfl ⟨R.1, R.2.1, Nat.zero_le _, fun i hi => absurd hi (Nat.not_lt_zero _)⟩)
/-- what the taking of blocks leaves: blocks that wait have parents that wait or are not there -/
def cp_RO (par st : Nat → Nat) : Prop := ∀ b, 1 ≤ b → b < 24 → st b = 2 → st (par b) ≠ 3
theorem cx_a29 {post : SX → Prop} {st0 : Nat → Nat} (hxo : ∀ t, t < 32 → xo t = nI (oc t)) (htip : tip < 24)
    (H : ∀ st hg bw gd li sp sk, cp_RR ic so oc am hg par cn tx st sl wi lk wk bw gd pc po → gd tip = true → cp_RC hg par tip ch → cp_RO par st → cp_ys st = cp_ys st0 → wX_accept_58 post sb (nI tip) (nI pc) qc (cp_A ic) (cp_A so) wi xo (cp_Bo sl) (cp_A am) lk (cp_A st) (cp_A par) wk (cp_A cn) (cp_A tx) od (cp_A hg) bw (cp_Bo gd) ch (cp_A po) li sp qu sk) : ∀ (d i : Nat) (st hg : Nat → Nat) (bw : Nat → Int32) (gd : Nat → Bool) (li sp sk : Nat → Int32), i + d = 24 → cp_RR ic so oc am hg par cn tx st sl wi lk wk bw gd pc po → gd tip = true → cp_RC hg par tip ch → i < cp_nc st → cp_ys st = cp_ys st0 →
    wX_accept_29 post (d + 1) (nI i) sb (nI tip) (nI pc) qc (cp_A ic) (cp_A so) wi xo (cp_Bo sl) (cp_A am) lk (cp_A st) (cp_A par) wk (cp_A cn) (cp_A tx) od (cp_A hg) bw (cp_Bo gd) ch (cp_A po) li sp qu sk := by
  intro d
  induction d with
  | zero =>
    intro i st hg bw gd li sp sk hi R gt RC hn
    have := cp_nc_le st
    omega
  | succ d ih =>
    intro i st hg bw gd li sp sk hi R gt RC hn hy
    refine pk_le 24 i (fun z => False.elim (by omega)) (fun _ => cx_fc R.1 (fun w => br_t rfl (H st hg bw gd li sp sk R gt RC w hy)) (fun b h1 h2 h3 h4 => br_f (nI_ne0 h1 (by omega)) ?_))
    refine cx_con R hxo h2 h3 h4 (fun v li' sp' sk' R' => nm_r (nI_1 i) (ih (i + 1) _ _ _ _ li' sp' sk' (by omega) R' ?_ ?_ ?_ ?_))
    · have ct := R.2.1.2.2.2.1 tip htip gt
      have ne : tip ≠ b := by
        intro e
        rw [e] at ct
        omega
      rw [cp_up_n ne]
      exact gt
    · have ct := R.2.1.2.2.2.1 tip htip gt
      have f := cp_f_con (ic := ic) (so := so) (oc := oc) (am := am) (hg := hg) (par := par) (cn := cn) (tx := tx) (sl := sl) (wi := wi) (lk := lk) (b := b) (h := hg (par b) + 1) (st := st) (by omega)
      intro q hq
      rw [(f.2.1 tip htip ct).2.2.2.1] at hq
      rw [cp_pt_fr R.2.1.1 f (hg tip) tip htip ct rfl q hq]
      exact RC q hq
    · have := cp_nc_new (st := st) (st' := cp_up st b 3) (k := b) (fun c _ cc => by
        by_cases e : c = b
        · rw [e, cp_up_s]
        · rw [cp_up_n e]
          exact cc) h2 (by omega) cp_up_s
      omega
    · rw [← hy]
      funext c
      unfold cp_ys
      by_cases e : c = b
      · rw [e, cp_up_s, h3]
        rfl
      · rw [cp_up_n e]
/-- the whole of accept -/
theorem cx_acc {post : SX → Prop} (R : cp_RR ic so oc am hg par cn tx st sl wi lk wk bw gd pc po) (hxo : ∀ t, t < 32 → xo t = nI (oc t)) (htip : tip < 24) (gt : gd tip = true) (RC : cp_RC hg par tip ch) {b : Nat} (hb : b < 24) (hs : st b = 1)
    (H : ∀ st' hg' bw' gd', cp_ys st' = cp_ys (cp_up st b 2) → cp_RR ic so oc am hg' par cn tx st' sl wi lk wk bw' gd' pc po → gd' tip = true → cp_RO par st' →
      (cp_bt gd' bw' (cp_up od b sb) 24 = tip → cp_RC hg' par tip ch → ∀ li' sp' sk', post ((sb + 1), nI tip, nI pc, qc, cp_A ic, cp_A so, wi, xo, cp_Bo sl, cp_A am, lk, cp_A st', cp_A par, wk, cp_A cn, cp_A tx, (cp_up od b sb), cp_A hg', bw', cp_Bo gd', ch, cp_A po, li', sp', qu, sk')) ∧
      (∀ best F pc' po' ch' li' sp' qu' sk' qc', best = cp_bt gd' bw' (cp_up od b sb) 24 → best ≠ tip → best < 24 → gd' best = true → cp_Fk hg' par best tip F → (pc', po') = cp_fo ic so oc am hg' par cn tx sl wi lk best (0, po) (cp_ql hg' par cn tx tip F (hg' tip + 1) ++ cp_pl po pc) → cp_RR ic so oc am hg' par cn tx st' sl wi lk wk bw' gd' pc' po' → cp_RC hg' par best ch' →
        post ((sb + 1), nI best, nI pc', qc', cp_A ic, cp_A so, wi, xo, cp_Bo sl, cp_A am, lk, cp_A st', cp_A par, wk, cp_A cn, cp_A tx, (cp_up od b sb), cp_A hg', bw', cp_Bo gd', ch', cp_A po', li', sp', qu', sk'))) : wpX_accept post (sb, nI tip, nI pc, qc, cp_A ic, cp_A so, wi, xo, cp_Bo sl, cp_A am, lk, cp_A st, cp_A par, wk, cp_A cn, cp_A tx, od, cp_A hg, bw, cp_Bo gd, ch, cp_A po, li, sp, qu, sk) (nI b) := by
  have ib : vp_in (nI b) 24 := vp_in_nI hb (by decide)
  have R2 := cp_s_sub R hb hs
  refine And.intro ib (nm_r (cp_wr st 2 (by omega)) (And.intro ib (nm_r (cp_ww od sb (by omega)) (nm_e (Exists.intro 25 ?_)))))
  refine cx_a29 (st0 := cp_up st b 2) hxo htip (fun st' hg' bw' gd' li' sp' sk' R' gt' RC' O' hy => ?_) 24 0 _ hg bw gd li sp sk (by omega) R2 gt RC ?_ rfl
  · have h := H st' hg' bw' gd' hy R' gt' O'
    exact cx_a58 R' hxo htip gt' RC' (fun e => h.1 e RC' li' sp' sk') (fun best F pc' po' ch' li'' sp'' qu'' sk'' qc'' a1 a2 a3 a4 a5 a6 a7 a8 => h.2 best F pc' po' ch' li'' sp'' qu'' sk'' qc'' a1 a2 a3 a4 a5 a6 a7 a8)
  · have := R2.2.1.2.2.2.2 0 (by decide) R2.2.1.1.1
    omega
end
end
section
/-! Y: range, lock script, sums, fits, list -/
theorem cy_out {post : Int32 → Prop} (x : Int32) (a b : Nat) (ha : a < 2 ^ 31) (hb : b < 2 ^ 31) (H : ∀ r, cp_TF r (¬ ∃ t, a ≤ t ∧ t ≤ b ∧ x = nI t) → post r) : wpY_out post x (nI a) (nI b) := by
  refine br_c (fun z => H 1 (cp_TF_T ?_)) (fun z => br_c (fun y => H 0 (cp_TF_F (fun w => w ?_))) (fun y => H 1 (cp_TF_T ?_)))
  · rintro ⟨t, h1, h2, e⟩
    rw [e, nI_ltI (by omega) ha] at z
    omega
  · have h0 : ¬ x < 0 := fun w => z (Int32.lt_of_lt_of_le w (nI_pos' ha))
    obtain ⟨j, hj, e⟩ := nI_of h0
    rw [e, nI_ltI hj ha] at z
    rw [e, nI_leI hj hb] at y
    exact ⟨j, by omega, y, e⟩
  · rintro ⟨t, h1, h2, e⟩
    rw [e, nI_leI (by omega) hb] at y
    omega
theorem cp_grow_pos {c : Int32} {n : Nat} (hn : cp_need c ≤ n) (h9 : ¬ c = 9) (h15 : ¬ c = 15) : 1 ≤ cp_grow c n := by
  by_cases a : c = 1 ∨ c = 2 ∨ c = 10 ∨ c = 11 ∨ c = 14
  · unfold cp_grow
    rw [if_pos a]
    omega
  · have h1 : ¬ c = 1 := fun e => a (Or.inl e)
    have h2 : ¬ c = 2 := fun e => a (Or.inr (Or.inl e))
    have h10 : ¬ c = 10 := fun e => a (Or.inr (Or.inr (Or.inl e)))
    have h11 : ¬ c = 11 := fun e => a (Or.inr (Or.inr (Or.inr (Or.inl e))))
    have p := cp_need_pos h1 h10 h11
    unfold cp_grow
    rw [if_neg a]
    by_cases b : c = 8 ∨ c = 13
    · rw [if_pos b]
      omega
    · rw [if_neg b]
      have e2 : cp_need c = 2 := by
        unfold cp_need
        rw [if_neg (fun z => z.elim h1 (fun z => z.elim h10 h11)), if_neg (fun z => z.elim h2 (fun z => z.elim h9 (fun z => z.elim (fun w => b (Or.inr w)) h15)))]
      omega
section
variable {ys yn yw : Int32} {tip pc : Nat} {ic so oc am hg par cn tx st po : Nat → Nat} {sl : Nat → Bool} {wi lk wk od yp yl yt ho yk yq yo : Nat → Int32}
theorem cy_op293 {post : Int32 → SY → Prop} {n : Nat} (hn : n ≤ 9) (H : ∀ r, cp_TF r (cp_end n yk) → post r (ys, yn, yw, nI pc, nI tip, cp_A ic, cp_A (cp_hf so), cp_A (cp_hm so), wi, cp_A oc, cp_A am, lk, cp_Bo sl, cp_A (cp_ys st), cp_A par, wk, cp_A cn, cp_A tx, od, yp, yl, yt, ho, yk, cp_A po, yq, yo)) : wY_opens_293 post (nI n) ys yn yw (nI pc) (nI tip) (cp_A ic) (cp_A (cp_hf so)) (cp_A (cp_hm so)) wi (cp_A oc) (cp_A am) lk (cp_Bo sl) (cp_A (cp_ys st)) (cp_A par) wk (cp_A cn) (cp_A tx) od yp yl yt ho yk (cp_A po) yq yo := by
  refine pk_le n 0 (fun z => H 0 (cp_TF_F (fun y => by have := y.1; omega))) (fun z => ?_)
  obtain ⟨m, rfl⟩ : ∃ m, n = m + 1 := ⟨n - 1, by omega⟩
  have e : nI (m + 1) - 1 = nI m := nI_pred m
  refine And.intro (pk_in m 16 (by omega) e) ?_
  rw [e, nI_clamp (by omega)]
  exact br_c (fun y => H 0 (cp_TF_F (fun w => w.2 y))) (fun y => H 1 (cp_TF_T ⟨by omega, y⟩))
theorem cy_op219 {post : Int32 → SY → Prop} {J13 : Int32 → Int32 → (Nat → Int32) → (Nat → Int32) → (Nat → Int32) → (Nat → Int32) → (Nat → Int32) → (Nat → Int32) → (Nat → Int32) → (Nat → Int32) → (Nat → Int32) → (Nat → Int32) → (Nat → Int32) → (Nat → Int32) → (Nat → Int32) → (Nat → Int32) → (Nat → Int32) → (Nat → Int32) → (Nat → Int32) → (Nat → Int32) → (Nat → Int32) → (Nat → Int32) → (Nat → Int32) → (Nat → Int32) → Prop} {lock h c r : Int32} {n k : Nat} (hn : cp_need c ≤ n) (hn9 : n ≤ 9) (er : nI n + r = nI (cp_grow c n))
    (H : J13 (nI (cp_grow c n)) (nI (k + 1)) (cp_A ic) (cp_A (cp_hf so)) (cp_A (cp_hm so)) wi (cp_A oc) (cp_A am) lk (cp_Bo sl) (cp_A (cp_ys st)) (cp_A par) wk (cp_A cn) (cp_A tx) od yp yl yt ho (cp_ynx c n yk h) (cp_A po) yq yo) : wY_opens_219 post J13 lock h (nI k) c (cp_ytop c n yk) (cp_ybel c n yk) r (nI n) ys yn yw (nI pc) (nI tip) (cp_A ic) (cp_A (cp_hf so)) (cp_A (cp_hm so)) wi (cp_A oc) (cp_A am) lk (cp_Bo sl) (cp_A (cp_ys st)) (cp_A par) wk (cp_A cn) (cp_A tx) od yp yl yt ho yk (cp_A po) yq yo := by
  have gl := cp_grow_le c n
  unfold cp_ynx at H
  refine nm_r er (br_c (fun e => ?_) (fun e => br_c (fun e9 => nm_r (nI_1 k) ?_) (fun e9 => br_c (fun e15 => nm_r (nI_1 k) ?_) (fun e15 => cy_res ?_))))
  · have h2 : 2 ≤ n := by
      rw [e] at hn
      exact hn
    have eg : cp_grow c n = n := by
      rw [e]
      rfl
    rw [if_pos e] at H
    rw [eg] at H ⊢
    refine And.intro (pk_in (n - 1) 16 (by omega) (cp_sub1 (by omega))) (nm_r (e' := upd yk (n - 1) (cp_ybel c n yk)) (by rw [cp_sub1 (by omega), nI_clamp (by omega)]) (And.intro (pk_in (n - 2) 16 (by omega) (cp_sub2 h2)) (nm_r (e' := upd (upd yk (n - 1) (cp_ybel c n yk)) (n - 2) (cp_ytop c n yk)) (by rw [cp_sub2 h2, nI_clamp (by omega)]) (nm_r (nI_1 k) H))))
  · rw [if_neg e, if_pos (Or.inl e9)] at H
    exact H
  · rw [if_neg e, if_pos (Or.inr e15)] at H
    exact H
  · have g1 := cp_grow_pos hn e9 e15
    rw [if_neg e, if_neg (fun z => z.elim e9 e15)] at H
    exact And.intro (pk_in (cp_grow c n - 1) 16 (by omega) (cp_sub1 g1)) (nm_r (by rw [cp_sub1 g1, nI_clamp (by omega)]) (nm_r (nI_1 k) H))
theorem cy_op161 {post : Int32 → SY → Prop} {J13 : Int32 → Int32 → (Nat → Int32) → (Nat → Int32) → (Nat → Int32) → (Nat → Int32) → (Nat → Int32) → (Nat → Int32) → (Nat → Int32) → (Nat → Int32) → (Nat → Int32) → (Nat → Int32) → (Nat → Int32) → (Nat → Int32) → (Nat → Int32) → (Nat → Int32) → (Nat → Int32) → (Nat → Int32) → (Nat → Int32) → (Nat → Int32) → (Nat → Int32) → (Nat → Int32) → (Nat → Int32) → (Nat → Int32) → Prop} {lock h c : Int32} {n k : Nat} (hn : cp_need c ≤ n) (hn9 : n ≤ 9)
    (H : J13 (nI (cp_grow c n)) (nI (k + 1)) (cp_A ic) (cp_A (cp_hf so)) (cp_A (cp_hm so)) wi (cp_A oc) (cp_A am) lk (cp_Bo sl) (cp_A (cp_ys st)) (cp_A par) wk (cp_A cn) (cp_A tx) od yp yl yt ho (cp_ynx c n yk h) (cp_A po) yq yo) : wY_opens_161 post J13 lock h (nI n) (nI k) c (cp_ytop c n yk) (cp_ybel c n yk) ys yn yw (nI pc) (nI tip) (cp_A ic) (cp_A (cp_hf so)) (cp_A (cp_hm so)) wi (cp_A oc) (cp_A am) lk (cp_Bo sl) (cp_A (cp_ys st)) (cp_A par) wk (cp_A cn) (cp_A tx) od yp yl yt ho yk (cp_A po) yq yo := by
  have key : ∀ r, nI n + r = nI (cp_grow c n) → wY_opens_219 post J13 lock h (nI k) c (cp_ytop c n yk) (cp_ybel c n yk) r (nI n) ys yn yw (nI pc) (nI tip) (cp_A ic) (cp_A (cp_hf so)) (cp_A (cp_hm so)) wi (cp_A oc) (cp_A am) lk (cp_Bo sl) (cp_A (cp_ys st)) (cp_A par) wk (cp_A cn) (cp_A tx) od yp yl yt ho yk (cp_A po) yq yo := fun r er => cy_op219 hn hn9 er H
  refine br_c (fun e => key 1 (by rw [e]; exact nI_1 n)) (fun n1 => br_c (fun e => key 1 (by rw [e]; exact nI_1 n)) (fun n2 => br_c (fun e => key 1 (by rw [e]; exact nI_1 n)) (fun n10 => br_c (fun e => key 1 (by rw [e]; exact nI_1 n)) (fun n11 => br_c (fun e => key 1 (by rw [e]; exact nI_1 n)) (fun n14 => br_c (fun e => key 0 (by rw [e]; exact cp_nz n)) (fun n8 => br_c (fun e => key 0 (by rw [e]; exact cp_nz n)) (fun n13 => key (-1) ?_)))))))
  have p := cp_need_pos n1 n10 n11
  have eg : cp_grow c n = n - 1 := by
    unfold cp_grow
    rw [if_neg (fun z => z.elim n1 (fun z => z.elim n2 (fun z => z.elim n10 (fun z => z.elim n11 n14)))), if_neg (fun z => z.elim n8 n13)]
  rw [eg]
  exact cp_nm1 (by omega)
theorem cy_op95 {post : Int32 → SY → Prop} {J13 : Int32 → Int32 → (Nat → Int32) → (Nat → Int32) → (Nat → Int32) → (Nat → Int32) → (Nat → Int32) → (Nat → Int32) → (Nat → Int32) → (Nat → Int32) → (Nat → Int32) → (Nat → Int32) → (Nat → Int32) → (Nat → Int32) → (Nat → Int32) → (Nat → Int32) → (Nat → Int32) → (Nat → Int32) → (Nat → Int32) → (Nat → Int32) → (Nat → Int32) → (Nat → Int32) → (Nat → Int32) → (Nat → Int32) → Prop} {lock h c : Int32} {n k : Nat} (hn9 : n ≤ 9)
    (H0 : ¬ (cp_need c ≤ n ∧ ¬ (c = 15 ∧ cp_top yk n = 0)) → post 0 (ys, yn, yw, nI pc, nI tip, cp_A ic, cp_A (cp_hf so), cp_A (cp_hm so), wi, cp_A oc, cp_A am, lk, cp_Bo sl, cp_A (cp_ys st), cp_A par, wk, cp_A cn, cp_A tx, od, yp, yl, yt, ho, yk, cp_A po, yq, yo))
    (H : cp_need c ≤ n → ¬ (c = 15 ∧ cp_top yk n = 0) → J13 (nI (cp_grow c n)) (nI (k + 1)) (cp_A ic) (cp_A (cp_hf so)) (cp_A (cp_hm so)) wi (cp_A oc) (cp_A am) lk (cp_Bo sl) (cp_A (cp_ys st)) (cp_A par) wk (cp_A cn) (cp_A tx) od yp yl yt ho (cp_ynx c n yk h) (cp_A po) yq yo) : wY_opens_95 post J13 lock h (nI n) (nI k) c (nI (cp_need c)) ys yn yw (nI pc) (nI tip) (cp_A ic) (cp_A (cp_hf so)) (cp_A (cp_hm so)) wi (cp_A oc) (cp_A am) lk (cp_Bo sl) (cp_A (cp_ys st)) (cp_A par) wk (cp_A cn) (cp_A tx) od yp yl yt ho yk (cp_A po) yq yo := by
  have nd := cp_need_le c
  refine pk_le (cp_need c) n (fun hn => ?_) (fun z => H0 (fun y => by omega))
  have k145 : wY_opens_145 post J13 lock h (nI n) (nI k) c (cp_ytop c n yk) (cp_ybel c n yk) ys yn yw (nI pc) (nI tip) (cp_A ic) (cp_A (cp_hf so)) (cp_A (cp_hm so)) wi (cp_A oc) (cp_A am) lk (cp_Bo sl) (cp_A (cp_ys st)) (cp_A par) wk (cp_A cn) (cp_A tx) od yp yl yt ho yk (cp_A po) yq yo := by
    refine br_c (fun e => ?_) (fun e => cy_op161 hn hn9 (H hn (fun y => e y.1)))
    have et : cp_ytop c n yk = cp_top yk n := cp_ytop_e hn (by rw [e]; decide)
    refine br_c (fun z => H0 (fun y => y.2 ⟨e, by rw [← et]; exact z⟩)) (fun z => cy_op161 hn hn9 (H hn (fun y => z (by rw [et]; exact y.2))))
  have k124 : wY_opens_124 post J13 lock h (nI n) (nI k) c (nI (cp_need c)) (cp_ytop c n yk) ys yn yw (nI pc) (nI tip) (cp_A ic) (cp_A (cp_hf so)) (cp_A (cp_hm so)) wi (cp_A oc) (cp_A am) lk (cp_Bo sl) (cp_A (cp_ys st)) (cp_A par) wk (cp_A cn) (cp_A tx) od yp yl yt ho yk (cp_A po) yq yo := by
    refine pk_le (cp_need c) 1 (fun z => ?_) (fun z => And.intro (pk_in (n - 2) 16 (by omega) (cp_sub2 (by omega))) ?_)
    · have e : cp_ybel c n yk = 0 := if_neg (by omega)
      rw [e] at k145
      exact k145
    · have e : cp_ybel c n yk = yk (nI n - 2).toNatClampNeg := by
        rw [cp_sub2 (by omega), nI_clamp (by omega)]
        exact if_pos z
      rw [e] at k145
      exact k145
  refine pk_le (cp_need c) 0 (fun z => ?_) (fun z => And.intro (pk_in (n - 1) 16 (by omega) (cp_sub1 (by omega))) ?_)
  · have e : cp_ytop c n yk = 0 := if_neg (by omega)
    rw [e] at k124
    exact k124
  · have e : cp_ytop c n yk = yk (nI n - 1).toNatClampNeg := by
      rw [cp_sub1 (by omega), nI_clamp (by omega)]
      exact if_pos z
    rw [e] at k124
    exact k124
theorem cy_op13 {post : Int32 → SY → Prop} (lock h : Int32) : ∀ (d k n : Nat) (yk : Nat → Int32), k + d = 8 → n ≤ k + 1 → (∀ r yk', cp_TF r (cp_run lock h d k n yk) → post r (ys, yn, yw, nI pc, nI tip, cp_A ic, cp_A (cp_hf so), cp_A (cp_hm so), wi, cp_A oc, cp_A am, lk, cp_Bo sl, cp_A (cp_ys st), cp_A par, wk, cp_A cn, cp_A tx, od, yp, yl, yt, ho, yk', cp_A po, yq, yo)) → wY_opens_13 post lock h ys yn yw (nI pc) (nI tip) (d + 1) (nI n) (nI k) (cp_A ic) (cp_A (cp_hf so)) (cp_A (cp_hm so)) wi (cp_A oc) (cp_A am) lk (cp_Bo sl) (cp_A (cp_ys st)) (cp_A par) wk (cp_A cn) (cp_A tx) od yp yl yt ho yk (cp_A po) yq yo := by
  intro d
  induction d with
  | zero =>
    intro k n yk hk hn H
    exact pk_le 8 k (fun _ => cy_op293 (by omega) (fun r hr => H r yk hr)) (fun z => False.elim (by omega))
  | succ d ih =>
    intro k n yk hk hn H
    have gl := cp_grow_le (cp_code lock k) n
    refine pk_le 8 k (fun z => False.elim (by omega)) (fun _ => nm_r (e' := cp_code lock k) (by rw [show (4 : Int32) * nI k = nI (4 * k) from pk_mul 4 k]; rfl) (br_c (fun c0 => cy_op293 (by omega) (fun r hr => H r yk (cp_TF_iff hr ?_))) (fun c0 => ?_)))
    · constructor
      · intro y
        exact Or.inl ⟨c0, y⟩
      · rintro (y | y)
        · exact y.2
        · exact absurd c0 y.1
    · have key : wY_opens_95 post (wY_opens_13 post lock h ys yn yw (nI pc) (nI tip) (d + 1)) lock h (nI n) (nI k) (cp_code lock k) (nI (cp_need (cp_code lock k))) ys yn yw (nI pc) (nI tip) (cp_A ic) (cp_A (cp_hf so)) (cp_A (cp_hm so)) wi (cp_A oc) (cp_A am) lk (cp_Bo sl) (cp_A (cp_ys st)) (cp_A par) wk (cp_A cn) (cp_A tx) od yp yl yt ho yk (cp_A po) yq yo := by
        refine cy_op95 (by omega) (fun z => H 0 yk (cp_TF_F ?_)) (fun hn' z => ih (k + 1) (cp_grow (cp_code lock k) n) _ (by omega) (by omega) (fun r yk' hr => H r yk' (cp_TF_iff hr ?_)))
        · rintro (y | y)
          · exact c0 y.1
          · exact z ⟨y.2.1, y.2.2.1⟩
        · rw [cp_run_c d (k + 1) (cp_grow (cp_code lock k) n) _ _ (cp_ynx_e hn')]
          constructor
          · intro y
            exact Or.inr ⟨c0, hn', z, y⟩
          · rintro (y | y)
            · exact absurd y.1 c0
            · exact y.2.2.2
      have kk : ∀ m, cp_need (cp_code lock k) = m → wY_opens_95 post (wY_opens_13 post lock h ys yn yw (nI pc) (nI tip) (d + 1)) lock h (nI n) (nI k) (cp_code lock k) (nI m) ys yn yw (nI pc) (nI tip) (cp_A ic) (cp_A (cp_hf so)) (cp_A (cp_hm so)) wi (cp_A oc) (cp_A am) lk (cp_Bo sl) (cp_A (cp_ys st)) (cp_A par) wk (cp_A cn) (cp_A tx) od yp yl yt ho yk (cp_A po) yq yo := fun m e => e ▸ key
      refine br_c (fun e => kk 0 (by rw [e]; decide)) (fun n1 => br_c (fun e => kk 0 (by rw [e]; decide)) (fun n10 => br_c (fun e => kk 0 (by rw [e]; decide)) (fun n11 => br_c (fun e => kk 1 (by rw [e]; decide)) (fun n2 => br_c (fun e => kk 1 (by rw [e]; decide)) (fun n9 => br_c (fun e => kk 1 (by rw [e]; decide)) (fun n13 => br_c (fun e => kk 1 (by rw [e]; decide)) (fun n15 => kk 2 ?_)))))))
      unfold cp_need
      rw [if_neg (fun z => z.elim n1 (fun z => z.elim n10 n11)), if_neg (fun z => z.elim n2 (fun z => z.elim n9 (fun z => z.elim n13 n15)))]
theorem cy_op {post : Int32 → SY → Prop} (lock w h : Int32) (H : ∀ r yk', cp_TF r (cp_OP lock w h) → post r (ys, yn, yw, nI pc, nI tip, cp_A ic, cp_A (cp_hf so), cp_A (cp_hm so), wi, cp_A oc, cp_A am, lk, cp_Bo sl, cp_A (cp_ys st), cp_A par, wk, cp_A cn, cp_A tx, od, yp, yl, yt, ho, yk', cp_A po, yq, yo)) : wpY_opens post (ys, yn, yw, nI pc, nI tip, cp_A ic, cp_A (cp_hf so), cp_A (cp_hm so), wi, cp_A oc, cp_A am, lk, cp_Bo sl, cp_A (cp_ys st), cp_A par, wk, cp_A cn, cp_A tx, od, yp, yl, yt, ho, yk, cp_A po, yq, yo) lock w h := by
  refine nm_e (Exists.intro 9 ?_)
  exact cy_op13 lock h 8 0 1 _ (by omega) (by omega) (fun r yk' hr => H r yk' (cp_TF_iff hr (cp_OP_c pk_us)))
theorem cp_src (so : Nat → Nat) {m : Nat} (h : m < 2 ^ 31) : (2 : Int32) * cp_A (cp_hf so) (nI m).toNatClampNeg + cp_A (cp_hm so) (nI m).toNatClampNeg = nI (so m) := by
  rw [cp_rd _ h, cp_rd _ h, cp_2a]
  exact congrArg nI (Nat.div_add_mod _ _)
theorem cy_sp6 {post : Int32 → Prop} (B : cp_RB ic so oc am hg par cn tx st sl wi lk) {t : Nat} (ht : t < 32) (H : post (nI (cp_sd ic so am t))) : ∀ (d i : Nat), i + d = ic t → wY_spends_6 post (nI t) ys yn yw (nI pc) (nI tip) (cp_A ic) (cp_A (cp_hf so)) (cp_A (cp_hm so)) wi (cp_A oc) (cp_A am) lk (cp_Bo sl) (cp_A (cp_ys st)) (cp_A par) wk (cp_A cn) (cp_A tx) od yp yl yt ho yk (cp_A po) yq yo (d + 1) (nI (cp_sum (fun k => am (so (2 * t + k))) i)) (nI (2 * t + i)) := by
  have c := cp_RB_ic B t
  have e0 : (2 : Int32) * nI t + cp_A ic (nI t).toNatClampNeg = nI (2 * t + ic t) := by
    rw [cp_rd ic (by omega), cp_2a]
  intro d
  induction d with
  | zero =>
    intro i hi
    refine And.intro (vp_in_nI ht (by decide)) (pk_le (2 * t + ic t) (2 * t + i) (fun _ => ?_) (fun z => False.elim (by omega)) e0 rfl)
    rw [show i = ic t from by omega, cp_sd_sum c]
    exact H
  | succ d ih =>
    intro i hi
    have hs := cp_RB_so B (2 * t + i)
    have e1 := cp_src so (m := 2 * t + i) (by omega)
    have i64 : vp_in (nI (2 * t + i)) 64 := vp_in_nI (by omega) (by decide)
    refine And.intro (vp_in_nI ht (by decide)) (pk_le (2 * t + ic t) (2 * t + i) (fun z => False.elim (by omega)) (fun _ => And.intro i64 (And.intro i64 (And.intro (pk_in (so (2 * t + i)) 112 hs e1) (nm_r (e' := nI (cp_sum (fun k => am (so (2 * t + k))) (i + 1))) ?_ (nm_r (nI_1 _) (ih (i + 1) (by omega))))))) e0 rfl)
    rw [e1, cp_rd am (by omega), nI_add]
    rfl
theorem cy_sp {post : Int32 → Prop} (B : cp_RB ic so oc am hg par cn tx st sl wi lk) {t : Nat} (ht : t < 32) (H : post (nI (cp_sd ic so am t))) : wpY_spends post (ys, yn, yw, nI pc, nI tip, cp_A ic, cp_A (cp_hf so), cp_A (cp_hm so), wi, cp_A oc, cp_A am, lk, cp_Bo sl, cp_A (cp_ys st), cp_A par, wk, cp_A cn, cp_A tx, od, yp, yl, yt, ho, yk, cp_A po, yq, yo) (nI t) :=
  nm_r (cp_2m t) (Exists.intro (ic t + 1) (cy_sp6 B ht H (ic t) 0 (by omega)))
theorem cy_gv6 {post : Int32 → Prop} (B : cp_RB ic so oc am hg par cn tx st sl wi lk) {t : Nat} (ht : t < 32) (H : post (nI (cp_gv oc am t))) : ∀ (d i : Nat), i + d = oc t → wY_gives_6 post (nI t) ys yn yw (nI pc) (nI tip) (cp_A ic) (cp_A (cp_hf so)) (cp_A (cp_hm so)) wi (cp_A oc) (cp_A am) lk (cp_Bo sl) (cp_A (cp_ys st)) (cp_A par) wk (cp_A cn) (cp_A tx) od yp yl yt ho yk (cp_A po) yq yo (d + 1) (nI (cp_sum (fun k => am (2 * t + k)) i)) (nI (2 * t + i)) := by
  have c := cp_RB_oc B t
  have e0 : (2 : Int32) * nI t + cp_A oc (nI t).toNatClampNeg = nI (2 * t + oc t) := by
    rw [cp_rd oc (by omega), cp_2a]
  intro d
  induction d with
  | zero =>
    intro i hi
    refine And.intro (vp_in_nI (by omega) (by decide)) (pk_le (2 * t + oc t) (2 * t + i) (fun _ => ?_) (fun z => False.elim (by omega)) e0 rfl)
    rw [show i = oc t from by omega, cp_gv_sum c]
    exact H
  | succ d ih =>
    intro i hi
    refine And.intro (vp_in_nI (by omega) (by decide)) (pk_le (2 * t + oc t) (2 * t + i) (fun z => False.elim (by omega)) (fun _ => And.intro (vp_in_nI (by omega) (by decide)) (nm_r (e' := nI (cp_sum (fun k => am (2 * t + k)) (i + 1))) ?_ (nm_r (nI_1 _) (ih (i + 1) (by omega))))) e0 rfl)
    rw [cp_rd am (by omega), nI_add]
    rfl
theorem cy_gv {post : Int32 → Prop} (B : cp_RB ic so oc am hg par cn tx st sl wi lk) {t : Nat} (ht : t < 32) (H : post (nI (cp_gv oc am t))) : wpY_gives post (ys, yn, yw, nI pc, nI tip, cp_A ic, cp_A (cp_hf so), cp_A (cp_hm so), wi, cp_A oc, cp_A am, lk, cp_Bo sl, cp_A (cp_ys st), cp_A par, wk, cp_A cn, cp_A tx, od, yp, yl, yt, ho, yk, cp_A po, yq, yo) (nI t) :=
  nm_r (cp_2m t) (Exists.intro (oc t + 1) (cy_gv6 B ht H (oc t) 0 (by omega)))
theorem cp_gv_le (B : cp_RB ic so oc am hg par cn tx st sl wi lk) (t : Nat) : cp_gv oc am t ≤ 20000 := by
  have a1 := cp_RB_am B (2 * t)
  have a2 := cp_RB_am B (2 * t + 1)
  unfold cp_gv
  split <;> split <;> omega
/-- heights of listed coinbases -/
def cp_LH (hg : Nat → Nat) (ho : Nat → Int32) (L : Nat → Prop) : Prop := ∀ j, j < 56 → L j → 32 ≤ j → ho j = nI (hg (j - 32)) ∧ hg (j - 32) < 24
theorem cy_ft96 {post : Int32 → SY → Prop} (B : cp_RB ic so oc am hg par cn tx st sl wi lk) {t h : Nat} (ht : t < 32) (hh : h < 2 ^ 30) {L S : Nat → Prop} (hl : cp_Rp yl L 56) (hs : cp_Rp yt S 112) (hLh : cp_LH hg ho L)
    (p1 : sl t = true) (p2 : ic t ≠ 0) (p3 : oc t ≠ 0) (p4 : ¬ L t) (p5 : ¬ (ic t = 2 ∧ so (2 * t) = so (2 * t + 1))) : ∀ (d i : Nat) (yk : Nat → Int32), i + d = ic t → (∀ k, k < i → cp_IO so oc hg wi lk L S h (2 * t + k)) →
    (∀ r yk', cp_TF r (cp_FT ic so oc am hg sl wi lk L S t h) → post r (ys, yn, yw, nI pc, nI tip, cp_A ic, cp_A (cp_hf so), cp_A (cp_hm so), wi, cp_A oc, cp_A am, lk, cp_Bo sl, cp_A (cp_ys st), cp_A par, wk, cp_A cn, cp_A tx, od, yp, yl, yt, ho, yk', cp_A po, yq, yo)) → wY_fits_96 post (nI t) (nI h) (d + 1) (nI (2 * t + i)) ys yn yw (nI pc) (nI tip) (cp_A ic) (cp_A (cp_hf so)) (cp_A (cp_hm so)) wi (cp_A oc) (cp_A am) lk (cp_Bo sl) (cp_A (cp_ys st)) (cp_A par) wk (cp_A cn) (cp_A tx) od yp yl yt ho yk (cp_A po) yq yo := by
  have c := cp_RB_ic B t
  have e0 : (2 : Int32) * nI t + cp_A ic (nI t).toNatClampNeg = nI (2 * t + ic t) := by
    rw [cp_rd ic (by omega), cp_2a]
  intro d
  induction d with
  | zero =>
    intro i yk hi hp H
    have hs1 := cp_sd_le B t
    have hg1 := cp_gv_le B t
    refine And.intro (vp_in_nI ht (by decide)) (pk_le (2 * t + ic t) (2 * t + i) (fun _ => cy_sp B ht (cy_gv B ht (pk_lt (cp_sd ic so am t) (cp_gv oc am t) (fun z => H 0 yk (cp_TF_F (fun y => by have := y.2.2.2.2.2.2; omega))) (fun z => H 1 yk (cp_TF_T ⟨p1, p2, p3, p4, p5, fun k hk => hp k (by omega), z⟩))))) (fun z => False.elim (by omega)) e0 rfl)
  | succ d ih =>
    intro i yk hi hp H
    have hso := cp_RB_so B (2 * t + i)
    have i64 : vp_in (nI (2 * t + i)) 64 := vp_in_nI (by omega) (by decide)
    have ef : cp_A (cp_hf so) (nI (2 * t + i)).toNatClampNeg = nI (so (2 * t + i) / 2) := cp_rd (cp_hf so) (by omega)
    have em : cp_A (cp_hm so) (nI (2 * t + i)).toNatClampNeg = nI (so (2 * t + i) % 2) := cp_rd (cp_hm so) (by omega)
    have eo : (2 : Int32) * nI (so (2 * t + i) / 2) + cp_A (cp_hm so) (nI (2 * t + i)).toNatClampNeg = nI (so (2 * t + i)) := by
      rw [em, cp_2a]
      exact congrArg nI (Nat.div_add_mod _ _)
    generalize ego : so (2 * t + i) = o at hso ef em eo
    have i56 : vp_in (nI (o / 2)) 56 := vp_in_nI (by omega) (by decide)
    have tl : cp_TF (yl (nI (o / 2)).toNatClampNeg) (L (o / 2)) := by
      rw [nI_clamp (by omega)]
      exact hl _ (by omega)
    have ts : cp_TF (yt (nI o).toNatClampNeg) (S o) := by
      rw [nI_clamp (by omega)]
      exact hs _ hso
    have no : ∀ {P : Prop}, (cp_IO so oc hg wi lk L S h (2 * t + i) → P) → ¬ P → ¬ cp_FT ic so oc am hg sl wi lk L S t h := fun a b y => b (a (y.2.2.2.2.2.1 i (by omega)))
    have c2 := cp_RB_oc B (o / 2)
    refine And.intro (vp_in_nI ht (by decide)) (pk_le (2 * t + ic t) (2 * t + i) (fun z => False.elim (by omega)) (fun _ => And.intro i64 (nm_r ef (And.intro i64 (nm_r eo (And.intro i56 (cp_TF_br tl (fun z => H 0 yk (cp_TF_F (no (fun y => y.2.1) (by rw [ego]; exact z)))) (fun zl => And.intro i64 (And.intro i56 ?_)))))))) e0 rfl)
    refine pk_le (oc (o / 2)) (o % 2) (fun z => H 0 yk (cp_TF_F (no (fun y => y.1) (by rw [ego]; omega)))) (fun zp => And.intro (vp_in_nI hso (by decide)) (cp_TF_br ts (fun zs => ?_) (fun z => H 0 yk (cp_TF_F (no (fun y => y.2.2.1) (by rw [ego]; exact fun w => w z)))))) (cp_rd oc (by omega)) em
    have fin : (o / 2 < 32 ∨ hg (o / 2 - 32) + 2 ≤ h) → wY_fits_191 post (wY_fits_96 post (nI t) (nI h) (d + 1)) (nI t) (nI h) (nI (2 * t + i)) (nI o) ys yn yw (nI pc) (nI tip) (cp_A ic) (cp_A (cp_hf so)) (cp_A (cp_hm so)) wi (cp_A oc) (cp_A am) lk (cp_Bo sl) (cp_A (cp_ys st)) (cp_A par) wk (cp_A cn) (cp_A tx) od yp yl yt ho yk (cp_A po) yq yo := by
      intro zr
      refine And.intro (vp_in_nI hso (by decide)) (And.intro i64 ?_)
      rw [cp_rw lk (by omega), cp_rw wi (by omega)]
      refine cy_op _ _ _ (fun r3 yk' h3 => cp_TF_br h3 (fun z => H 0 yk' (cp_TF_F (no (fun y => y.2.2.2.2) (by rw [ego]; exact z)))) (fun z3 => nm_r (nI_1 (2 * t + i)) (ih (i + 1) yk' (by omega) ?_ H)))
      intro k hk
      by_cases e : k = i
      · subst e
        unfold cp_IO
        rw [ego]
        exact ⟨zp, zl, zs, zr, z3⟩
      · exact hp k (by omega)
    refine pk_lt (o / 2) 32 (fun z => fin (Or.inl z)) (fun z => And.intro i56 ?_)
    obtain ⟨l1, l2⟩ := hLh (o / 2) (by omega) zl z
    refine pk_le (hg (o / 2 - 32) + 2) h (fun y => fin (Or.inr y)) (fun y => H 0 yk (cp_TF_F (no (fun y => y.2.2.2.1) (by rw [ego]; omega)))) ?_ rfl
    rw [nI_clamp (by omega), l1]
    exact nI_add _ 2
theorem cy_ft {post : Int32 → SY → Prop} (B : cp_RB ic so oc am hg par cn tx st sl wi lk) {t h : Nat} (ht : t < 32) (hh : h < 2 ^ 30) {L S : Nat → Prop} (hl : cp_Rp yl L 56) (hs : cp_Rp yt S 112) (hLh : cp_LH hg ho L)
    (H : ∀ r yk', cp_TF r (cp_FT ic so oc am hg sl wi lk L S t h) → post r (ys, yn, yw, nI pc, nI tip, cp_A ic, cp_A (cp_hf so), cp_A (cp_hm so), wi, cp_A oc, cp_A am, lk, cp_Bo sl, cp_A (cp_ys st), cp_A par, wk, cp_A cn, cp_A tx, od, yp, yl, yt, ho, yk', cp_A po, yq, yo)) : wpY_fits post (ys, yn, yw, nI pc, nI tip, cp_A ic, cp_A (cp_hf so), cp_A (cp_hm so), wi, cp_A oc, cp_A am, lk, cp_Bo sl, cp_A (cp_ys st), cp_A par, wk, cp_A cn, cp_A tx, od, yp, yl, yt, ho, yk, cp_A po, yq, yo) (nI t) (nI h) := by
  have c := cp_RB_ic B t
  have c2 := cp_RB_oc B t
  have s1 := cp_RB_so B (2 * t)
  have s2 := cp_RB_so B (2 * t + 1)
  have tb : cp_TF (cp_Bo sl (nI t).toNatClampNeg) (sl t = true) := by
    rw [cp_rb sl (by omega)]
    exact cp_TF_b _
  have tl : cp_TF (yl (nI t).toNatClampNeg) (L t) := by
    rw [nI_clamp (by omega)]
    exact hl _ (by omega)
  have i32 : vp_in (nI t) 32 := vp_in_nI ht (by decide)
  have i56 : vp_in (nI t) 56 := vp_in_nI (by omega) (by decide)
  have ia : vp_in ((2 : Int32) * nI t) 64 := pk_in (2 * t) 64 (by omega) (cp_2m t)
  have eb : (2 : Int32) * nI t + 1 = nI (2 * t + 1) := cp_2a t 1
  have ib : vp_in ((2 : Int32) * nI t + 1) 64 := pk_in (2 * t + 1) 64 (by omega) eb
  refine And.intro i32 (cp_TF_br tb (fun z => H 0 yk (cp_TF_F (fun y => z y.1))) (fun p1 => And.intro i32 (pk_eq (ic t) 0 (fun z => H 0 yk (cp_TF_F (fun y => y.2.1 z))) (fun p2 => And.intro i56 (pk_eq (oc t) 0 (fun z => H 0 yk (cp_TF_F (fun y => y.2.2.1 z))) (fun p3 => And.intro i56 (cp_TF_br tl (fun p4 => And.intro i32 ?_) (fun z => H 0 yk (cp_TF_F (fun y => y.2.2.2.1 z))))) (cp_rd oc (by omega)) rfl)) (cp_rd ic (by omega)) rfl)))
  have key : ¬ (ic t = 2 ∧ so (2 * t) = so (2 * t + 1)) → ∀ x, x = (2 : Int32) * nI t → ∃ n, wY_fits_96 post (nI t) (nI h) n x ys yn yw (nI pc) (nI tip) (cp_A ic) (cp_A (cp_hf so)) (cp_A (cp_hm so)) wi (cp_A oc) (cp_A am) lk (cp_Bo sl) (cp_A (cp_ys st)) (cp_A par) wk (cp_A cn) (cp_A tx) od yp yl yt ho yk (cp_A po) yq yo := fun p5 =>
    nm_r (cp_2m t) ⟨ic t + 1, cy_ft96 B ht hh hl hs hLh p1 p2 p3 p4 p5 (ic t) 0 yk (by omega) (fun k hk => absurd hk (Nat.not_lt_zero _)) H⟩
  refine pk_eq (ic t) 2 (fun z => And.intro ia (And.intro ib ?_)) (fun z => key (fun y => z y.1)) (cp_rd ic (by omega)) rfl
  refine pk_eq (so (2 * t) / 2) (so (2 * t + 1) / 2) (fun w => And.intro ia (And.intro ib (pk_eq (so (2 * t) % 2) (so (2 * t + 1) % 2) (fun v => H 0 yk (cp_TF_F (fun y => y.2.2.2.2.1 ⟨z, by omega⟩))) (fun v => key (fun y => v (by rw [y.2]))) ?_ ?_))) (fun w => key (fun y => w (by rw [y.2]))) ?_ ?_
  · rw [cp_2m]
    exact cp_rd (cp_hm so) (by omega)
  · rw [eb]
    exact cp_rd (cp_hm so) (by omega)
  · rw [cp_2m]
    exact cp_rd (cp_hf so) (by omega)
  · rw [eb]
    exact cp_rd (cp_hf so) (by omega)
theorem cy_ls18 (post : SY → Prop) {t : Nat} (ht : t < 32) (hi2 : ic t ≤ 2) (hso : ∀ k, so k < 112) (S : Nat → Prop) : ∀ (d i : Nat) (yt : Nat → Int32), i + d = ic t → cp_Rp yt (fun o => S o ∨ ∃ k, k < i ∧ so (2 * t + k) = o) 112 →
    (∀ yt', cp_Rp yt' (fun o => S o ∨ cp_inT ic so t o) 112 → post (ys, yn, yw, nI pc, nI tip, cp_A ic, cp_A (cp_hf so), cp_A (cp_hm so), wi, cp_A oc, cp_A am, lk, cp_Bo sl, cp_A (cp_ys st), cp_A par, wk, cp_A cn, cp_A tx, od, yp, yl, yt', ho, yk, cp_A po, yq, yo)) → wY_list_18 post (nI t) ys yn yw (nI pc) (nI tip) (d + 1) (nI (2 * t + i)) (cp_A ic) (cp_A (cp_hf so)) (cp_A (cp_hm so)) wi (cp_A oc) (cp_A am) lk (cp_Bo sl) (cp_A (cp_ys st)) (cp_A par) wk (cp_A cn) (cp_A tx) od yp yl yt ho yk (cp_A po) yq yo := by
  have e0 : (2 : Int32) * nI t + cp_A ic (nI t).toNatClampNeg = nI (2 * t + ic t) := by
    rw [cp_rd ic (by omega), cp_2a]
  intro d
  induction d with
  | zero =>
    intro i yt hi h H
    refine pk_le 32 t (fun z => False.elim (by omega)) (fun _ => And.intro (vp_in_nI ht (by decide)) (pk_le (2 * t + ic t) (2 * t + i) (fun _ => H _ ?_) (fun z => False.elim (by omega)) e0 rfl))
    rw [show i = ic t from by omega] at h
    exact h
  | succ d ih =>
    intro i yt hi h H
    have hs := hso (2 * t + i)
    have e1 := cp_src so (m := 2 * t + i) (by omega)
    have i64 : vp_in (nI (2 * t + i)) 64 := vp_in_nI (by omega) (by decide)
    refine pk_le 32 t (fun z => False.elim (by omega)) (fun _ => And.intro (vp_in_nI ht (by decide)) (pk_le (2 * t + ic t) (2 * t + i) (fun z => False.elim (by omega)) (fun _ => And.intro i64 (And.intro i64 (And.intro (pk_in (so (2 * t + i)) 112 hs e1) (nm_r (e' := upd yt (so (2 * t + i)) 1) (by rw [e1, nI_clamp (by omega), cp_nb1]) (nm_r (nI_1 _) ?_))))) e0 rfl))
    refine ih (i + 1) _ (by omega) (cp_Rp_iff (cp_Rp_upd h) ?_) H
    intro o _
    constructor
    · rintro ((z | ⟨k, hk, z⟩) | z)
      · exact Or.inl z
      · exact Or.inr ⟨k, by omega, z⟩
      · exact Or.inr ⟨i, by omega, z.symm⟩
    · rintro (z | ⟨k, hk, z⟩)
      · exact Or.inl (Or.inl z)
      · by_cases e : k = i
        · subst e
          exact Or.inr z.symm
        · exact Or.inl (Or.inr ⟨k, by omega, z⟩)
theorem cy_ls (post : SY → Prop) {t : Nat} (ht : t < 32) (hi2 : ic t ≤ 2) (hso : ∀ k, so k < 112) {L S : Nat → Prop} {x : Int32} (hl : cp_Rp yl L 56) (hs : cp_Rp yt S 112)
    (H : ∀ yl' yt', cp_Rp yl' (fun j => L j ∨ j = t) 56 → cp_Rp yt' (fun o => S o ∨ cp_inT ic so t o) 112 → post (ys, yn, yw, nI pc, nI tip, cp_A ic, cp_A (cp_hf so), cp_A (cp_hm so), wi, cp_A oc, cp_A am, lk, cp_Bo sl, cp_A (cp_ys st), cp_A par, wk, cp_A cn, cp_A tx, od, yp, yl', yt', (upd ho t x), yk, cp_A po, yq, yo)) : wpY_list post (ys, yn, yw, nI pc, nI tip, cp_A ic, cp_A (cp_hf so), cp_A (cp_hm so), wi, cp_A oc, cp_A am, lk, cp_Bo sl, cp_A (cp_ys st), cp_A par, wk, cp_A cn, cp_A tx, od, yp, yl, yt, ho, yk, cp_A po, yq, yo) (nI t) x := by
  refine And.intro (vp_in_nI (by omega) (by decide)) (nm_r (e' := upd yl t 1) (by rw [nI_clamp (by omega), cp_nb1]) (And.intro (vp_in_nI (by omega) (by decide)) (nm_r (e' := upd ho t x) (by rw [nI_clamp (by omega)]) (nm_r (cp_2m t) (Exists.intro (ic t + 1) ?_)))))
  refine cy_ls18 post ht hi2 hso S (ic t) 0 yt (by omega) (cp_Rp_iff hs ?_) (fun yt' h => H _ _ (cp_Rp_upd hl) h)
  intro o _
  exact ⟨Or.inl, fun z => z.elim id (fun ⟨k, hk, _⟩ => absurd hk (Nat.not_lt_zero _))⟩
theorem cy_lc (post : SY → Prop) {b : Nat} (hb : b < 24) {L : Nat → Prop} {x : Int32} (hl : cp_Rp yl L 56)
    (H : ∀ yl', cp_Rp yl' (fun j => L j ∨ j = 32 + b) 56 → post (ys, yn, yw, nI pc, nI tip, cp_A ic, cp_A (cp_hf so), cp_A (cp_hm so), wi, cp_A oc, cp_A am, lk, cp_Bo sl, cp_A (cp_ys st), cp_A par, wk, cp_A cn, cp_A tx, od, yp, yl', yt, (upd ho (32 + b) x), yk, cp_A po, yq, yo)) : wpY_list post (ys, yn, yw, nI pc, nI tip, cp_A ic, cp_A (cp_hf so), cp_A (cp_hm so), wi, cp_A oc, cp_A am, lk, cp_Bo sl, cp_A (cp_ys st), cp_A par, wk, cp_A cn, cp_A tx, od, yp, yl, yt, ho, yk, cp_A po, yq, yo) (nI (32 + b)) x := by
  refine And.intro (vp_in_nI (by omega) (by decide)) (nm_r (e' := upd yl (32 + b) 1) (by rw [nI_clamp (by omega), cp_nb1]) (And.intro (vp_in_nI (by omega) (by decide)) (nm_r (e' := upd ho (32 + b) x) (by rw [nI_clamp (by omega)]) (nm_r (cp_2m _) (Exists.intro 1 ?_)))))
  exact pk_le 32 (32 + b) (fun _ => H _ (cp_Rp_upd hl)) (fun z => False.elim (by omega))
end
end
section
/-! Y: the chain, its replay -/
theorem cp_waa (w a p q : Int32) (h : w + (p + a) = q) : (w + a) + p = q := by
  rw [← h, Int32.add_assoc, Int32.add_comm a p]
section
variable {ys yn yw : Int32} {tip pc : Nat} {ic so oc am hg par cn tx st po : Nat → Nat} {sl gd : Nat → Bool} {wi lk wk bw od yp yl yt ho yk yq yo : Nat → Int32}
theorem cy_ch92 {post : Int32 → SY → Prop} {N : Nat} (hN : N ≤ 24) (g : Nat → Int32) (H : ∀ yp', (∀ i, i < N → yp' i = g (N - 1 - i)) → post 1 (ys, (nI N), yw, nI pc, nI tip, cp_A ic, cp_A (cp_hf so), cp_A (cp_hm so), wi, cp_A oc, cp_A am, lk, cp_Bo sl, cp_A (cp_ys st), cp_A par, wk, cp_A cn, cp_A tx, od, yp', yl, yt, ho, yk, cp_A po, yq, yo)) : ∀ (d k : Nat) (yp : Nat → Int32), k + d = N / 2 → (∀ i, i < N → yp i = if i < k ∨ N - 1 - i < k then g (N - 1 - i) else g i) → wY_chain_92 post (nI N) ys (nI N) yw (nI pc) (nI tip) (d + 1) (nI k) (cp_A ic) (cp_A (cp_hf so)) (cp_A (cp_hm so)) wi (cp_A oc) (cp_A am) lk (cp_Bo sl) (cp_A (cp_ys st)) (cp_A par) wk (cp_A cn) (cp_A tx) od yp yl yt ho yk (cp_A po) yq yo := by
  have e2 : nI N / 2 = nI (N / 2) := pk_div (d := 2) (by omega) (by decide) (by decide)
  intro d
  induction d with
  | zero =>
    intro k yp hk h
    refine And.intro (by decide) (pk_le (N / 2) k (fun _ => H yp ?_) (fun z => False.elim (by omega)) e2 rfl)
    intro i hi
    rw [h i hi]
    by_cases z : i < k ∨ N - 1 - i < k
    · rw [if_pos z]
    · rw [if_neg z, show N - 1 - i = i from by omega]
  | succ d ih =>
    intro k yp hk h
    have e3 : nI N - 1 - nI k = nI (N - 1 - k) := by
      rw [cp_sub1 (by omega), pk_sub (by omega)]
    have ik : vp_in (nI k) 24 := vp_in_nI (by omega) (by decide)
    have im : vp_in (nI N - 1 - nI k) 24 := pk_in (N - 1 - k) 24 (by omega) e3
    have v1 : yp (nI k).toNatClampNeg = g k := by
      rw [nI_clamp (by omega), h k (by omega), if_neg (by omega)]
    have v2 : yp (nI N - 1 - nI k).toNatClampNeg = g (N - 1 - k) := by
      rw [e3, nI_clamp (by omega), h _ (by omega), if_neg (by omega)]
    refine And.intro (by decide) (pk_le (N / 2) k (fun z => False.elim (by omega)) (fun _ => And.intro ik (nm_r v1 (And.intro im (And.intro ik (nm_r (e' := upd yp k (g (N - 1 - k))) (by rw [v2, nI_clamp (by omega)]) (And.intro im (nm_r (e' := upd (upd yp k (g (N - 1 - k))) (N - 1 - k) (g k)) (by rw [e3, nI_clamp (by omega)]) (nm_r (nI_1 k) (ih (k + 1) _ (by omega) ?_))))))))) e2 rfl)
    intro i hi
    by_cases a : i = N - 1 - k
    · rw [a, pk_us, if_pos (by omega)]
      exact congrArg g (by omega)
    · rw [pk_un a]
      by_cases b : i = k
      · rw [b, pk_us, if_pos (by omega)]
      · rw [pk_un b, h i hi]
        by_cases z : i < k ∨ N - 1 - i < k
        · rw [if_pos z, if_pos (by omega)]
        · rw [if_neg z, if_neg (by omega)]
theorem cp_ys3 {c : Nat} (h : st c = 3) : cp_ys st c = 2 := if_pos h
theorem cp_ysn {c : Nat} (h : st c ≠ 3) : cp_ys st c = st c := if_neg h
theorem cp_ys_le (B : cp_RB ic so oc am hg par cn tx st sl wi lk) (c : Nat) : cp_ys st c ≤ 2 := by
  have := cp_RB_st B c
  unfold cp_ys
  split <;> omega
theorem cy_ch9 {post : Int32 → SY → Prop} (B : cp_RB ic so oc am hg par cn tx st sl wi lk) (R : cp_RT ic so oc am hg par cn tx st sl wi lk wk bw gd) {b : Nat} (hb : b < 24) (cb : st b = 3)
    (H : ∀ yp', (∀ i, i ≤ hg b → yp' i = nI (cp_pt par hg b (hg b - i))) → wY_chain_67 post (nI (hg b + 1)) ys yn (bw b) (nI pc) (nI tip) (cp_A ic) (cp_A (cp_hf so)) (cp_A (cp_hm so)) wi (cp_A oc) (cp_A am) lk (cp_Bo sl) (cp_A (cp_ys st)) (cp_A par) wk (cp_A cn) (cp_A tx) od yp' yl yt ho yk (cp_A po) yq yo) : ∀ (d n : Nat) (yp : Nat → Int32) (w : Int32), n + d = hg b → (∀ i, i < n → yp i = nI (cp_pt par hg b (hg b - i))) → w + bw (cp_pt par hg b d) = bw b →
    wY_chain_9 post ys yn (nI pc) (nI tip) (d + 1) (nI (cp_pt par hg b d)) (nI n) w (cp_A ic) (cp_A (cp_hf so)) (cp_A (cp_hm so)) wi (cp_A oc) (cp_A am) lk (cp_Bo sl) (cp_A (cp_ys st)) (cp_A par) wk (cp_A cn) (cp_A tx) od yp yl yt ho yk (cp_A po) yq yo := by
  have T := R.1
  have hh := cp_RT_hg R hb cb
  have nxt : ∀ (n d : Nat) (yp : Nat → Int32), n + d = hg b → (∀ i, i < n → yp i = nI (cp_pt par hg b (hg b - i))) → ∀ i, i < n + 1 → upd yp n (nI (cp_pt par hg b d)) i = nI (cp_pt par hg b (hg b - i)) := by
    intro n d yp hn h i hi
    by_cases e : i = n
    · rw [e, pk_us, show hg b - n = d from by omega]
    · rw [pk_un e]
      exact h i (by omega)
  intro d
  induction d with
  | zero =>
    intro n yp w hn h hw
    have e0 := cp_pt_0 T hb cb
    obtain ⟨r1, r2, r3, r4, r5⟩ := R.2.1
    have z24 : vp_in (nI (cp_pt par hg b 0)) 24 := by
      rw [e0]
      exact vp_in_nI (by decide) (by decide)
    refine pk_le 24 n (fun z => False.elim (by omega)) (fun _ => And.intro z24 (pk_eq (cp_ys st (cp_pt par hg b 0)) 2 (fun _ => And.intro (vp_in_nI (by omega) (by decide)) (nm_r (e' := upd yp n (nI (cp_pt par hg b 0))) (by rw [nI_clamp (by omega)]) (nm_r (nI_1 n) (And.intro z24 (nm_r (e' := bw b) ?_ (br_t (by rw [e0, nI_0]) ?_)))))) (fun z => absurd (cp_ys3 (cp_pt_st T hb cb (Nat.zero_le _))) z) (cp_rd (cp_ys st) (by omega)) rfl (by rw [cp_ys3 (cp_pt_st T hb cb (Nat.zero_le _))]; decide)))
    · rw [e0, nI_clamp (by decide), r5, ← hw, e0, r4]
    · have z := H _ (fun i hi => nxt n 0 yp hn h i (by omega))
      rw [show hg b + 1 = n + 1 from by omega] at z
      exact z
  | succ d ih =>
    intro n yp w hn h hw
    have pi := cp_pt_in T hb cb (i := d + 1) (by omega)
    have ps := cp_pt_st T hb cb (i := d + 1) (by omega)
    have ph := cp_pt_hg T hb cb (i := d + 1) (by omega)
    have pu := cp_pt_up T hb cb (i := d + 1) (by omega) (by omega)
    rw [show d + 1 - 1 = d from rfl] at pu
    have ne : cp_pt par hg b (d + 1) ≠ 0 := by
      intro e
      rw [e, T.2.1] at ph
      omega
    have i24 : vp_in (nI (cp_pt par hg b (d + 1))) 24 := vp_in_nI pi (by decide)
    have hwt := (R.2.2.1 _ pi ps ne).1
    rw [pu] at hwt
    rw [hwt] at hw
    refine pk_le 24 n (fun z => False.elim (by omega)) (fun _ => And.intro i24 (pk_eq (cp_ys st (cp_pt par hg b (d + 1))) 2 (fun _ => And.intro (vp_in_nI (by omega) (by decide)) (nm_r (e' := upd yp n (nI (cp_pt par hg b (d + 1)))) (by rw [nI_clamp (by omega)]) (nm_r (nI_1 n) (And.intro i24 (nm_r (e' := w + wk (cp_pt par hg b (d + 1))) (by rw [nI_clamp (by omega)]) (br_f (nI_ne0 (by omega) (by omega)) (And.intro i24 (nm_r (e' := nI (cp_pt par hg b d)) (by rw [cp_rd par (by omega), pu]) (ih (n + 1) _ _ (by omega) (nxt n (d + 1) yp hn h) (cp_waa _ _ _ _ hw))))))))) ) (fun z => absurd (cp_ys3 ps) z) (cp_rd (cp_ys st) (by omega)) rfl (by rw [cp_ys3 ps]; decide)))
theorem cy_cht {post : Int32 → SY → Prop} (B : cp_RB ic so oc am hg par cn tx st sl wi lk) (R : cp_RT ic so oc am hg par cn tx st sl wi lk wk bw gd) {b : Nat} (hb : b < 24) (cb : st b = 3)
    (H : ∀ yp', (∀ i, i ≤ hg b → yp' i = nI (cp_pt par hg b i)) → post 1 (ys, (nI (hg b + 1)), (bw b), nI pc, nI tip, cp_A ic, cp_A (cp_hf so), cp_A (cp_hm so), wi, cp_A oc, cp_A am, lk, cp_Bo sl, cp_A (cp_ys st), cp_A par, wk, cp_A cn, cp_A tx, od, yp', yl, yt, ho, yk, cp_A po, yq, yo)) : wpY_chain post (ys, yn, yw, nI pc, nI tip, cp_A ic, cp_A (cp_hf so), cp_A (cp_hm so), wi, cp_A oc, cp_A am, lk, cp_Bo sl, cp_A (cp_ys st), cp_A par, wk, cp_A cn, cp_A tx, od, yp, yl, yt, ho, yk, cp_A po, yq, yo) (nI b) := by
  have T := R.1
  have hh := cp_RT_hg R hb cb
  refine Exists.intro (hg b + 1) ?_
  have z := cy_ch9 (post := post) (ys := ys) (yn := yn) (pc := pc) (tip := tip) (ic := ic) (so := so) (wi := wi) (oc := oc) (am := am) (lk := lk) (sl := sl) (st := st) (par := par) (wk := wk) (cn := cn) (tx := tx) (od := od) (yl := yl) (yt := yt) (ho := ho) (yk := yk) (po := po) (yq := yq) (yo := yo) B R hb cb (fun yp' h => ?_) (hg b) 0 yp 0 (by omega) (fun i hi => absurd hi (Nat.not_lt_zero _)) (by rw [cp_pt_top, Int32.zero_add])
  · rw [cp_pt_top] at z
    exact z
  · refine br_f (nI_ne0 (by omega) (by omega)) (And.intro (pk_in (hg b) 24 hh (nI_pred (hg b))) (br_t ?_ (Exists.intro ((hg b + 1) / 2 + 1) (cy_ch92 (by omega) yp' (fun yp'' h'' => H yp'' ?_) ((hg b + 1) / 2) 0 yp' (by omega) ?_))))
    · rw [nI_pred, nI_clamp (by omega), h _ (Nat.le_refl _), Nat.sub_self, cp_pt_0 T hb cb]
      rfl
    · intro i hi
      rw [h'' i (by omega), h _ (by omega)]
      exact congrArg (fun q => nI (cp_pt par hg b q)) (by omega)
    · intro i hi
      rw [if_neg (by omega)]
theorem cy_ch67n {post : Int32 → SY → Prop} {n : Nat} (hn : n ≤ 24) (h : 0 < n → ∃ e, 0 < e ∧ e < 24 ∧ yp (n - 1) = nI e) (H : post 0 (ys, (nI n), yw, nI pc, nI tip, cp_A ic, cp_A (cp_hf so), cp_A (cp_hm so), wi, cp_A oc, cp_A am, lk, cp_Bo sl, cp_A (cp_ys st), cp_A par, wk, cp_A cn, cp_A tx, od, yp, yl, yt, ho, yk, cp_A po, yq, yo)) : wY_chain_67 post (nI n) ys yn yw (nI pc) (nI tip) (cp_A ic) (cp_A (cp_hf so)) (cp_A (cp_hm so)) wi (cp_A oc) (cp_A am) lk (cp_Bo sl) (cp_A (cp_ys st)) (cp_A par) wk (cp_A cn) (cp_A tx) od yp yl yt ho yk (cp_A po) yq yo := by
  refine pk_eq n 0 (fun _ => H) (fun z => And.intro (pk_in (n - 1) 24 (by omega) (cp_sub1 (by omega))) (br_f ?_ H))
  obtain ⟨e, e1, e2, e3⟩ := h (by omega)
  rw [cp_sub1 (by omega), nI_clamp (by omega), e3]
  exact nI_ne0 e1 (by omega)
theorem cy_ch9n {post : Int32 → SY → Prop} (B : cp_RB ic so oc am hg par cn tx st sl wi lk) (s0 : st 0 = 3) (O : cp_RO par st) (H : ∀ yp' yn' yw', post 0 (ys, yn', yw', nI pc, nI tip, cp_A ic, cp_A (cp_hf so), cp_A (cp_hm so), wi, cp_A oc, cp_A am, lk, cp_Bo sl, cp_A (cp_ys st), cp_A par, wk, cp_A cn, cp_A tx, od, yp', yl, yt, ho, yk, cp_A po, yq, yo)) : ∀ (d n c : Nat) (yp : Nat → Int32) (w : Int32), n + d = 24 → c < 24 → st c ≠ 3 → (0 < n → ∃ e, 0 < e ∧ e < 24 ∧ yp (n - 1) = nI e) → wY_chain_9 post ys yn (nI pc) (nI tip) (d + 1) (nI c) (nI n) w (cp_A ic) (cp_A (cp_hf so)) (cp_A (cp_hm so)) wi (cp_A oc) (cp_A am) lk (cp_Bo sl) (cp_A (cp_ys st)) (cp_A par) wk (cp_A cn) (cp_A tx) od yp yl yt ho yk (cp_A po) yq yo := by
  intro d
  induction d with
  | zero =>
    intro n c yp w hn hc hs h
    exact pk_le 24 n (fun _ => cy_ch67n (by omega) h (H _ _ _)) (fun z => False.elim (by omega))
  | succ d ih =>
    intro n c yp w hn hc hs h
    have i24 : vp_in (nI c) 24 := vp_in_nI hc (by decide)
    have c0 : c ≠ 0 := by
      intro e
      rw [e] at hs
      exact hs s0
    have sl := cp_ys_le B c
    refine pk_le 24 n (fun z => False.elim (by omega)) (fun _ => And.intro i24 (pk_eq (cp_ys st c) 2 (fun e => And.intro (vp_in_nI (by omega) (by decide)) (nm_r (e' := upd yp n (nI c)) (by rw [nI_clamp (by omega)]) (nm_r (nI_1 n) (And.intro i24 (nm_e (br_f (nI_ne0 (by omega) (by omega)) (And.intro i24 (nm_r (cp_rd par (by omega)) (ih (n + 1) (par c) _ _ (by omega) (cp_RB_par B c) ?_ ?_)))))))) ) (fun _ => cy_ch67n (by omega) h (H _ _ _)) (cp_rd (cp_ys st) (by omega)) rfl))
    · rw [cp_ysn hs] at e
      exact O c (by omega) hc e
    · intro _
      exact ⟨c, by omega, hc, pk_us⟩
theorem cy_chf {post : Int32 → SY → Prop} (B : cp_RB ic so oc am hg par cn tx st sl wi lk) (s0 : st 0 = 3) (O : cp_RO par st) {b : Nat} (hb : b < 24) (hs : st b ≠ 3) (H : ∀ yp' yn' yw', post 0 (ys, yn', yw', nI pc, nI tip, cp_A ic, cp_A (cp_hf so), cp_A (cp_hm so), wi, cp_A oc, cp_A am, lk, cp_Bo sl, cp_A (cp_ys st), cp_A par, wk, cp_A cn, cp_A tx, od, yp', yl, yt, ho, yk, cp_A po, yq, yo)) : wpY_chain post (ys, yn, yw, nI pc, nI tip, cp_A ic, cp_A (cp_hf so), cp_A (cp_hm so), wi, cp_A oc, cp_A am, lk, cp_Bo sl, cp_A (cp_ys st), cp_A par, wk, cp_A cn, cp_A tx, od, yp, yl, yt, ho, yk, cp_A po, yq, yo) (nI b) :=
  Exists.intro 25 (cy_ch9n B s0 O H 24 0 b yp 0 (by omega) hb hs (fun z => absurd z (Nat.lt_irrefl 0)))
/-- heights of what is listed -/
def cp_HO (hg par cn tx : Nat → Nat) (b m : Nat) (ho : Nat → Int32) (L : Nat → Prop) : Prop := ∀ j, j < 56 → L j → ∃ i, i < m ∧ ho j = nI i ∧ cp_inB cn tx (cp_pt par hg b i) j
theorem cp_HO_LH (B : cp_RB ic so oc am hg par cn tx st sl wi lk) (T : cp_Tr hg par st) {b m : Nat} (hb : b < 24) (cb : st b = 3) (hh : hg b < 24) (hm : m ≤ hg b + 1) {L : Nat → Prop} (h : cp_HO hg par cn tx b m ho L) : cp_LH hg ho L := by
  intro j hj hL h32
  obtain ⟨i, hi, e, z⟩ := h j hj hL
  rcases z with z | ⟨q, hq, z⟩
  · have a := cp_pt_hg T hb cb (i := i) (by omega)
    rw [z, show 32 + cp_pt par hg b i - 32 = cp_pt par hg b i from by omega, a]
    rw [z] at e
    exact ⟨e, by omega⟩
  · have := cp_RB_tx B (3 * cp_pt par hg b i + q)
    omega
theorem cp_64 (c : Nat) : (64 : Int32) + (2 : Int32) * nI c = nI (64 + 2 * c) := by
  rw [cp_2m]
  exact nI_add 64 (2 * c)
theorem cy_rb8 {post : Int32 → SY → Prop} (B : cp_RB ic so oc am hg par cn tx st sl wi lk) (R : cp_RT ic so oc am hg par cn tx st sl wi lk wk bw gd) {b n : Nat} (hb : b < 24) (cb : st b = 3) (hn : n ≤ hg b)
    (Hf : ∀ yl yt ho yk, ¬ cp_CQ ic so oc am hg par cn tx sl wi lk b n → post 0 (ys, yn, yw, nI pc, nI tip, cp_A ic, cp_A (cp_hf so), cp_A (cp_hm so), wi, cp_A oc, cp_A am, lk, cp_Bo sl, cp_A (cp_ys st), cp_A par, wk, cp_A cn, cp_A tx, od, yp, yl, yt, ho, yk, cp_A po, yq, yo))
    (Ht : ∀ yl yt ho yk, cp_CQ ic so oc am hg par cn tx sl wi lk b n → cp_Rp yl (cp_Lh hg par cn tx b (n + 1)) 56 → cp_Rp yt (cp_Sh ic so hg par cn tx b (n + 1)) 112 → cp_HO hg par cn tx b (n + 1) ho (cp_Lh hg par cn tx b (n + 1)) → post 1 (ys, yn, yw, nI pc, nI tip, cp_A ic, cp_A (cp_hf so), cp_A (cp_hm so), wi, cp_A oc, cp_A am, lk, cp_Bo sl, cp_A (cp_ys st), cp_A par, wk, cp_A cn, cp_A tx, od, yp, yl, yt, ho, yk, cp_A po, yq, yo)) :
    ∀ (d i : Nat) (yl yt ho yk : Nat → Int32), i + d = cn (cp_pt par hg b n) → cp_Rp yl (cp_Lq hg par cn tx b n i) 56 → cp_Rp yt (cp_Sq ic so hg par cn tx b n i) 112 → cp_HO hg par cn tx b (n + 1) ho (cp_Lq hg par cn tx b n i) →
    (∀ q, q < i → cp_FT ic so oc am hg sl wi lk (cp_Lq hg par cn tx b n q) (cp_Sq ic so hg par cn tx b n q) (tx (3 * cp_pt par hg b n + q)) n) →
    wY_replayBlock_8 post (nI (cp_pt par hg b n)) (nI n) (d + 1) (nI (50 + cp_fs ic so oc am tx (cp_pt par hg b n) i)) (nI (3 * cp_pt par hg b n + i)) ys yn yw (nI pc) (nI tip) (cp_A ic) (cp_A (cp_hf so)) (cp_A (cp_hm so)) wi (cp_A oc) (cp_A am) lk (cp_Bo sl) (cp_A (cp_ys st)) (cp_A par) wk (cp_A cn) (cp_A tx) od yp yl yt ho yk (cp_A po) yq yo := by
  have T := R.1
  have hh := cp_RT_hg R hb cb
  have pc24 := cp_pt_in T hb cb hn
  have c3 := cp_RB_cn B (cp_pt par hg b n)
  have e0 : (3 : Int32) * nI (cp_pt par hg b n) + cp_A cn (nI (cp_pt par hg b n)).toNatClampNeg = nI (3 * cp_pt par hg b n + cn (cp_pt par hg b n)) := by
    rw [cp_rd cn (by omega), cp_3a]
  intro d
  induction d with
  | zero =>
    intro i yl yt ho yk hi hl hs hH hF
    have ei : i = cn (cp_pt par hg b n) := by omega
    have fl := cp_fs_le B (cp_pt par hg b n) i
    have al := cp_RB_am B (64 + 2 * cp_pt par hg b n)
    have e32 : (32 : Int32) + nI (cp_pt par hg b n) = nI (32 + cp_pt par hg b n) := nI_add 32 _
    refine And.intro (vp_in_nI pc24 (by decide)) (pk_le (3 * cp_pt par hg b n + cn (cp_pt par hg b n)) (3 * cp_pt par hg b n + i) (fun _ => And.intro (pk_in (64 + 2 * cp_pt par hg b n) 112 (by omega) (cp_64 _)) ?_) (fun z => False.elim (by omega)) e0 rfl)
    refine pk_le (am (64 + 2 * cp_pt par hg b n)) (50 + cp_fs ic so oc am tx (cp_pt par hg b n) i) (fun z => ?_) (fun z => Hf _ _ _ _ (fun y => by have := y.2; rw [← ei] at this; omega)) ?_ rfl
    · rw [e32]
      refine cy_lc _ pc24 hl (fun yl' hl' => Ht _ _ _ _ ⟨fun q hq => hF q (by omega), by rw [← ei]; exact z⟩ (cp_Rp_iff hl' ?_) (cp_Rp_iff hs ?_) ?_)
      · intro j _
        rw [cp_Lh_s, ei]
        constructor
        · rintro ((y | y) | y)
          · exact Or.inl y
          · exact Or.inr (Or.inr y)
          · exact Or.inr (Or.inl y)
        · rintro (y | y | y)
          · exact Or.inl (Or.inl y)
          · exact Or.inr y
          · exact Or.inl (Or.inr y)
      · intro j _
        rw [cp_Sh_s, ei]
        exact Iff.rfl
      · intro j hj hLj
        rw [cp_Lh_s] at hLj
        by_cases e : j = 32 + cp_pt par hg b n
        · rw [e, pk_us]
          exact ⟨n, by omega, rfl, Or.inl rfl⟩
        · rw [pk_un e]
          apply hH j hj
          rw [ei]
          rcases hLj with y | y | y
          · exact Or.inl y
          · exact absurd y e
          · exact Or.inr y
    · rw [cp_64, cp_rd am (by omega)]
  | succ d ih =>
    intro i yl yt ho yk hi hl hs hH hF
    have t32 := cp_RB_tx B (3 * cp_pt par hg b n + i)
    refine And.intro (vp_in_nI pc24 (by decide)) (pk_le (3 * cp_pt par hg b n + cn (cp_pt par hg b n)) (3 * cp_pt par hg b n + i) (fun z => False.elim (by omega)) (fun _ => And.intro (vp_in_nI (by omega) (by decide)) (nm_r (cp_rd tx (by omega)) ?_)) e0 rfl)
    refine cy_ft B t32 (by omega) hl hs (cp_HO_LH B T hb cb hh (by omega) hH) (fun r yk' hr => cp_TF_br hr (fun z => Hf _ _ _ _ (fun y => z (y.1 i (by omega)))) (fun zF => cy_sp B t32 (cy_gv B t32 (nm_r (e' := nI (50 + cp_fs ic so oc am tx (cp_pt par hg b n) (i + 1))) ?_ (cy_ls _ t32 (cp_RB_ic B _) (cp_RB_so B) hl hs (fun yl' yt' hl' hs' => nm_r (nI_1 _) (ih (i + 1) yl' yt' _ yk' (by omega) (cp_Rp_iff hl' ?_) (cp_Rp_iff hs' ?_) ?_ ?_)))))))
    · rw [pk_sub zF.2.2.2.2.2.2, nI_add, Nat.add_assoc]
      rfl
    · intro j _
      constructor
      · rintro ((z | ⟨k, hk, z⟩) | z)
        · exact Or.inl z
        · exact Or.inr ⟨k, by omega, z⟩
        · exact Or.inr ⟨i, by omega, z.symm⟩
      · rintro (z | ⟨k, hk, z⟩)
        · exact Or.inl (Or.inl z)
        · by_cases e : k = i
          · subst e
            exact Or.inr z.symm
          · exact Or.inl (Or.inr ⟨k, by omega, z⟩)
    · intro j _
      constructor
      · rintro ((z | ⟨k, hk, z⟩) | z)
        · exact Or.inl z
        · exact Or.inr ⟨k, by omega, z⟩
        · exact Or.inr ⟨i, by omega, z⟩
      · rintro (z | ⟨k, hk, z⟩)
        · exact Or.inl (Or.inl z)
        · by_cases e : k = i
          · subst e
            exact Or.inr z
          · exact Or.inl (Or.inr ⟨k, by omega, z⟩)
    · intro j hj hLj
      by_cases e : j = tx (3 * cp_pt par hg b n + i)
      · rw [e, pk_us]
        exact ⟨n, by omega, rfl, Or.inr ⟨i, by omega, rfl⟩⟩
      · rw [pk_un e]
        apply hH j hj
        rcases hLj with z | ⟨k, hk, z⟩
        · exact Or.inl z
        · by_cases e2 : k = i
          · subst e2
            exact absurd z.symm e
          · exact Or.inr ⟨k, by omega, z⟩
    · intro q hq
      by_cases e : q = i
      · subst e
        exact zF
      · exact hF q (by omega)
theorem cy_rb {post : Int32 → SY → Prop} (B : cp_RB ic so oc am hg par cn tx st sl wi lk) (R : cp_RT ic so oc am hg par cn tx st sl wi lk wk bw gd) {b n : Nat} (hb : b < 24) (cb : st b = 3) (hn : n ≤ hg b)
    (hl : cp_Rp yl (cp_Lh hg par cn tx b n) 56) (hs : cp_Rp yt (cp_Sh ic so hg par cn tx b n) 112) (hH : cp_HO hg par cn tx b n ho (cp_Lh hg par cn tx b n))
    (Hf : ∀ yl yt ho yk, ¬ cp_CQ ic so oc am hg par cn tx sl wi lk b n → post 0 (ys, yn, yw, nI pc, nI tip, cp_A ic, cp_A (cp_hf so), cp_A (cp_hm so), wi, cp_A oc, cp_A am, lk, cp_Bo sl, cp_A (cp_ys st), cp_A par, wk, cp_A cn, cp_A tx, od, yp, yl, yt, ho, yk, cp_A po, yq, yo))
    (Ht : ∀ yl yt ho yk, cp_CQ ic so oc am hg par cn tx sl wi lk b n → cp_Rp yl (cp_Lh hg par cn tx b (n + 1)) 56 → cp_Rp yt (cp_Sh ic so hg par cn tx b (n + 1)) 112 → cp_HO hg par cn tx b (n + 1) ho (cp_Lh hg par cn tx b (n + 1)) → post 1 (ys, yn, yw, nI pc, nI tip, cp_A ic, cp_A (cp_hf so), cp_A (cp_hm so), wi, cp_A oc, cp_A am, lk, cp_Bo sl, cp_A (cp_ys st), cp_A par, wk, cp_A cn, cp_A tx, od, yp, yl, yt, ho, yk, cp_A po, yq, yo)) :
    wpY_replayBlock post (ys, yn, yw, nI pc, nI tip, cp_A ic, cp_A (cp_hf so), cp_A (cp_hm so), wi, cp_A oc, cp_A am, lk, cp_Bo sl, cp_A (cp_ys st), cp_A par, wk, cp_A cn, cp_A tx, od, yp, yl, yt, ho, yk, cp_A po, yq, yo) (nI (cp_pt par hg b n)) (nI n) := by
  refine nm_r (cp_3m _) (Exists.intro (cn (cp_pt par hg b n) + 1) (cy_rb8 B R hb cb hn Hf Ht (cn (cp_pt par hg b n)) 0 yl yt ho yk (by omega) (cp_Rp_iff hl ?_) (cp_Rp_iff hs ?_) ?_ (fun q hq => absurd hq (Nat.not_lt_zero _))))
  · intro j _
    exact ⟨Or.inl, fun z => z.elim id (fun ⟨k, hk, _⟩ => absurd hk (Nat.not_lt_zero _))⟩
  · intro j _
    exact ⟨Or.inl, fun z => z.elim id (fun ⟨k, hk, _⟩ => absurd hk (Nat.not_lt_zero _))⟩
  · intro j hj hL
    have hL' : cp_Lh hg par cn tx b n j := hL.elim id (fun ⟨k, hk, _⟩ => absurd hk (Nat.not_lt_zero _))
    obtain ⟨i, hi, e⟩ := hH j hj hL'
    exact ⟨i, by omega, e⟩
theorem cy_rp44 {post : Int32 → SY → Prop} (B : cp_RB ic so oc am hg par cn tx st sl wi lk) (R : cp_RT ic so oc am hg par cn tx st sl wi lk wk bw gd) {b : Nat} (hb : b < 24) (cb : st b = 3) (hyp : ∀ i, i ≤ hg b → yp i = nI (cp_pt par hg b i))
    (Hf : ∀ yl yt ho yk, ¬ gd b = true → post 0 (ys, (nI (hg b + 1)), yw, nI pc, nI tip, cp_A ic, cp_A (cp_hf so), cp_A (cp_hm so), wi, cp_A oc, cp_A am, lk, cp_Bo sl, cp_A (cp_ys st), cp_A par, wk, cp_A cn, cp_A tx, od, yp, yl, yt, ho, yk, cp_A po, yq, yo))
    (Ht : ∀ yl yt ho yk, gd b = true → cp_Rp yl (cp_LS hg par cn tx b) 56 → cp_Rp yt (cp_SP ic so hg par cn tx b) 112 → cp_HO hg par cn tx b (hg b + 1) ho (cp_LS hg par cn tx b) → post 1 (ys, (nI (hg b + 1)), yw, nI pc, nI tip, cp_A ic, cp_A (cp_hf so), cp_A (cp_hm so), wi, cp_A oc, cp_A am, lk, cp_Bo sl, cp_A (cp_ys st), cp_A par, wk, cp_A cn, cp_A tx, od, yp, yl, yt, ho, yk, cp_A po, yq, yo)) :
    ∀ (d n : Nat) (yl yt ho yk : Nat → Int32), n + d = hg b + 1 → cp_Rp yl (cp_Lh hg par cn tx b n) 56 → cp_Rp yt (cp_Sh ic so hg par cn tx b n) 112 → cp_HO hg par cn tx b n ho (cp_Lh hg par cn tx b n) → (0 < n → gd (cp_pt par hg b (n - 1)) = true) →
    wY_replay_44 post (d + 1) (nI n) ys (nI (hg b + 1)) yw (nI pc) (nI tip) (cp_A ic) (cp_A (cp_hf so)) (cp_A (cp_hm so)) wi (cp_A oc) (cp_A am) lk (cp_Bo sl) (cp_A (cp_ys st)) (cp_A par) wk (cp_A cn) (cp_A tx) od yp yl yt ho yk (cp_A po) yq yo := by
  have T := R.1
  have hh := cp_RT_hg R hb cb
  intro d
  induction d with
  | zero =>
    intro n yl yt ho yk hn hl hs hH hg1
    have en : n = hg b + 1 := by omega
    subst en
    rw [cp_Lh_top] at hl hH
    rw [cp_Sh_top] at hs
    have g := hg1 (by omega)
    rw [show hg b + 1 - 1 = hg b from rfl, cp_pt_top] at g
    exact pk_le (hg b + 1) (hg b + 1) (fun _ => Ht yl yt ho yk g hl hs hH) (fun z => False.elim (by omega))
  | succ d ih =>
    intro n yl yt ho yk hn hl hs hH hg1
    have cq := cp_CQ_gd R hb cb (n := n) (by omega) hg1
    have ep : yp (nI n).toNatClampNeg = nI (cp_pt par hg b n) := by
      rw [nI_clamp (by omega)]
      exact hyp n (by omega)
    refine pk_le (hg b + 1) n (fun z => False.elim (by omega)) (fun _ => And.intro (vp_in_nI (by omega) (by decide)) ?_)
    rw [ep]
    refine cy_rb B R hb cb (n := n) (by omega) hl hs hH (fun yl' yt' ho' yk' z => br_t rfl (Hf yl' yt' ho' yk' (fun g => z (cq.mpr (cp_gd_pt R (hg b) b hb rfl g n (by omega)))))) (fun yl' yt' ho' yk' z hl' hs' hH' => br_f (by decide) (nm_r (nI_1 n) (ih (n + 1) yl' yt' ho' yk' (by omega) hl' hs' hH' (fun _ => cq.mp z))))
theorem cy_rp23 (post : Int32 → SY → Prop)
    (H : ∀ yt', (∀ j, j < 112 → yt' j = 0) → ∃ n, wY_replay_44 post n 0 ys yn yw (nI pc) (nI tip) (cp_A ic) (cp_A (cp_hf so)) (cp_A (cp_hm so)) wi (cp_A oc) (cp_A am) lk (cp_Bo sl) (cp_A (cp_ys st)) (cp_A par) wk (cp_A cn) (cp_A tx) od yp yl yt' ho yk (cp_A po) yq yo) : ∀ (d i : Nat) (yt : Nat → Int32), i + d = 112 → (∀ j, j < i → yt j = 0) → wY_replay_23 post ys yn yw (nI pc) (nI tip) (d + 1) (nI i) (cp_A ic) (cp_A (cp_hf so)) (cp_A (cp_hm so)) wi (cp_A oc) (cp_A am) lk (cp_Bo sl) (cp_A (cp_ys st)) (cp_A par) wk (cp_A cn) (cp_A tx) od yp yl yt ho yk (cp_A po) yq yo := by
  intro d
  induction d with
  | zero =>
    intro i yt hi h
    exact pk_le 112 i (fun _ => H yt (fun j hj => h j (by omega))) (fun z => False.elim (by omega))
  | succ d ih =>
    intro i yt hi h
    refine pk_le 112 i (fun z => False.elim (by omega)) (fun _ => And.intro (vp_in_nI (by omega) (by decide)) (nm_r (e' := upd yt i 0) (by rw [nI_clamp (by omega), cp_nb0]) (nm_r (nI_1 i) (ih (i + 1) _ (by omega) (cp_up0 h)))))
theorem cy_rp2 (post : Int32 → SY → Prop)
    (H : ∀ yl' yt', (∀ j, j < 56 → yl' j = 0) → (∀ j, j < 112 → yt' j = 0) → ∃ n, wY_replay_44 post n 0 ys yn yw (nI pc) (nI tip) (cp_A ic) (cp_A (cp_hf so)) (cp_A (cp_hm so)) wi (cp_A oc) (cp_A am) lk (cp_Bo sl) (cp_A (cp_ys st)) (cp_A par) wk (cp_A cn) (cp_A tx) od yp yl' yt' ho yk (cp_A po) yq yo) : ∀ (d i : Nat) (yl : Nat → Int32), i + d = 56 → (∀ j, j < i → yl j = 0) → wY_replay_2 post ys yn yw (nI pc) (nI tip) (d + 1) (nI i) (cp_A ic) (cp_A (cp_hf so)) (cp_A (cp_hm so)) wi (cp_A oc) (cp_A am) lk (cp_Bo sl) (cp_A (cp_ys st)) (cp_A par) wk (cp_A cn) (cp_A tx) od yp yl yt ho yk (cp_A po) yq yo := by
  intro d
  induction d with
  | zero =>
    intro i yl hi h
    exact pk_le 56 i (fun _ => Exists.intro 113 (cy_rp23 post (fun yt' h' => H yl yt' (fun j hj => h j (by omega)) h') 112 0 yt (by omega) (fun j hj => absurd hj (Nat.not_lt_zero _)))) (fun z => False.elim (by omega))
  | succ d ih =>
    intro i yl hi h
    refine pk_le 56 i (fun z => False.elim (by omega)) (fun _ => And.intro (vp_in_nI (by omega) (by decide)) (nm_r (e' := upd yl i 0) (by rw [nI_clamp (by omega), cp_nb0]) (nm_r (nI_1 i) (ih (i + 1) _ (by omega) (cp_up0 h)))))
theorem cy_rp {post : Int32 → SY → Prop} (B : cp_RB ic so oc am hg par cn tx st sl wi lk) (R : cp_RT ic so oc am hg par cn tx st sl wi lk wk bw gd) {b : Nat} (hb : b < 24) (cb : st b = 3) (hyp : ∀ i, i ≤ hg b → yp i = nI (cp_pt par hg b i))
    (Hf : ∀ yl yt ho yk, ¬ gd b = true → post 0 (ys, (nI (hg b + 1)), yw, nI pc, nI tip, cp_A ic, cp_A (cp_hf so), cp_A (cp_hm so), wi, cp_A oc, cp_A am, lk, cp_Bo sl, cp_A (cp_ys st), cp_A par, wk, cp_A cn, cp_A tx, od, yp, yl, yt, ho, yk, cp_A po, yq, yo))
    (Ht : ∀ yl yt ho yk, gd b = true → cp_Rp yl (cp_LS hg par cn tx b) 56 → cp_Rp yt (cp_SP ic so hg par cn tx b) 112 → cp_HO hg par cn tx b (hg b + 1) ho (cp_LS hg par cn tx b) → post 1 (ys, (nI (hg b + 1)), yw, nI pc, nI tip, cp_A ic, cp_A (cp_hf so), cp_A (cp_hm so), wi, cp_A oc, cp_A am, lk, cp_Bo sl, cp_A (cp_ys st), cp_A par, wk, cp_A cn, cp_A tx, od, yp, yl, yt, ho, yk, cp_A po, yq, yo)) : wpY_replay post (ys, (nI (hg b + 1)), yw, nI pc, nI tip, cp_A ic, cp_A (cp_hf so), cp_A (cp_hm so), wi, cp_A oc, cp_A am, lk, cp_Bo sl, cp_A (cp_ys st), cp_A par, wk, cp_A cn, cp_A tx, od, yp, yl, yt, ho, yk, cp_A po, yq, yo) := by
  refine Exists.intro 57 (cy_rp2 post ?_ 56 0 yl (by omega) (fun j hj => absurd hj (Nat.not_lt_zero _)))
  intro yl' yt' h1 h2
  refine Exists.intro (hg b + 1 + 1) (cy_rp44 B R hb cb hyp Hf Ht (hg b + 1) 0 yl' yt' ho yk (by omega) (cp_Rp_iff (cp_Rp_0 h1) ?_) (cp_Rp_iff (cp_Rp_0 h2) ?_) ?_ (fun z => absurd z (Nat.lt_irrefl 0)))
  · intro j _
    exact ⟨fun z => z.elim, fun ⟨i, hi, _⟩ => absurd hi (Nat.not_lt_zero _)⟩
  · intro j _
    exact ⟨fun z => z.elim, fun ⟨i, hi, _⟩ => absurd hi (Nat.not_lt_zero _)⟩
  · rintro j hj ⟨i, hi, _⟩
    exact absurd hi (Nat.not_lt_zero _)
theorem cy_rt0 {post : SY → Prop} (B : cp_RB ic so oc am hg par cn tx st sl wi lk) (R : cp_RT ic so oc am hg par cn tx st sl wi lk wk bw gd) (htip : tip < 24) (gt : gd tip = true)
    (H : ∀ yp yl yt ho yk, (∀ i, i ≤ hg tip → yp i = nI (cp_pt par hg tip i)) → cp_Rp yl (cp_LS hg par cn tx tip) 56 → cp_Rp yt (cp_SP ic so hg par cn tx tip) 112 → cp_HO hg par cn tx tip (hg tip + 1) ho (cp_LS hg par cn tx tip) → post (ys, (nI (hg tip + 1)), (bw tip), nI pc, nI tip, cp_A ic, cp_A (cp_hf so), cp_A (cp_hm so), wi, cp_A oc, cp_A am, lk, cp_Bo sl, cp_A (cp_ys st), cp_A par, wk, cp_A cn, cp_A tx, od, yp, yl, yt, ho, yk, cp_A po, yq, yo)) : wpY_replayTip post (ys, yn, yw, nI pc, nI tip, cp_A ic, cp_A (cp_hf so), cp_A (cp_hm so), wi, cp_A oc, cp_A am, lk, cp_Bo sl, cp_A (cp_ys st), cp_A par, wk, cp_A cn, cp_A tx, od, yp, yl, yt, ho, yk, cp_A po, yq, yo) 0 := by
  have ct := R.2.2.2.1 tip htip gt
  refine cy_cht (yw := yw) B R htip ct (fun yp' hyp => cy_rp B R htip ct hyp (fun _ _ _ _ z => absurd gt z) (fun yl' yt' ho' yk' _ hl hs hH => Exists.intro 1 (br_t rfl (H yp' yl' yt' ho' yk' hyp hl hs hH))))
theorem cy_rt16 {post : SY → Prop} (B : cp_RB ic so oc am hg par cn tx st sl wi lk) (hh : hg tip < 24) (hp8 : pc ≤ 8) (q2 : ∀ i, i < pc → po i < 32)
    (H : ∀ yl yt ho, cp_Rp yl (cp_La hg par cn tx po tip pc) 56 → cp_Rp yt (cp_Sa ic so hg par cn tx po tip pc) 112 → cp_LH hg ho (cp_La hg par cn tx po tip pc) → post (ys, (nI (hg tip + 1)), yw, nI pc, nI tip, cp_A ic, cp_A (cp_hf so), cp_A (cp_hm so), wi, cp_A oc, cp_A am, lk, cp_Bo sl, cp_A (cp_ys st), cp_A par, wk, cp_A cn, cp_A tx, od, yp, yl, yt, ho, yk, cp_A po, yq, yo)) : ∀ (d i : Nat) (yl yt ho : Nat → Int32), i + d = pc → cp_Rp yl (cp_La hg par cn tx po tip i) 56 → cp_Rp yt (cp_Sa ic so hg par cn tx po tip i) 112 → cp_LH hg ho (cp_La hg par cn tx po tip i) →
    wY_replayTip_16 post 1 (d + 1) (nI i) ys (nI (hg tip + 1)) yw (nI pc) (nI tip) (cp_A ic) (cp_A (cp_hf so)) (cp_A (cp_hm so)) wi (cp_A oc) (cp_A am) lk (cp_Bo sl) (cp_A (cp_ys st)) (cp_A par) wk (cp_A cn) (cp_A tx) od yp yl yt ho yk (cp_A po) yq yo := by
  intro d
  induction d with
  | zero =>
    intro i yl yt ho hi hl hs hH
    have ei : i = pc := by omega
    subst ei
    exact br_f (by decide) (pk_le i i (fun _ => H yl yt ho hl hs hH) (fun z => False.elim (by omega)))
  | succ d ih =>
    intro i yl yt ho hi hl hs hH
    refine br_f (by decide) (pk_le pc i (fun z => False.elim (by omega)) (fun _ => And.intro (vp_in_nI (by omega) (by decide)) ?_))
    rw [cp_rd po (by omega)]
    have p32 := q2 i (by omega)
    refine cy_ls _ p32 (cp_RB_ic B _) (cp_RB_so B) hl hs (fun yl' yt' hl' hs' => nm_r (nI_1 i) (ih (i + 1) yl' yt' _ (by omega) (cp_Rp_iff hl' ?_) (cp_Rp_iff hs' ?_) ?_))
    · intro j _
      constructor
      · rintro ((z | ⟨k, hk, z⟩) | z)
        · exact Or.inl z
        · exact Or.inr ⟨k, by omega, z⟩
        · exact Or.inr ⟨i, by omega, z.symm⟩
      · rintro (z | ⟨k, hk, z⟩)
        · exact Or.inl (Or.inl z)
        · by_cases e : k = i
          · subst e
            exact Or.inr z.symm
          · exact Or.inl (Or.inr ⟨k, by omega, z⟩)
    · intro j _
      constructor
      · rintro ((z | ⟨k, hk, z⟩) | z)
        · exact Or.inl z
        · exact Or.inr ⟨k, by omega, z⟩
        · exact Or.inr ⟨i, by omega, z⟩
      · rintro (z | ⟨k, hk, z⟩)
        · exact Or.inl (Or.inl z)
        · by_cases e : k = i
          · subst e
            exact Or.inr z
          · exact Or.inl (Or.inr ⟨k, by omega, z⟩)
    · intro j hj hL h32
      rw [pk_un (by omega)]
      rcases hL with z | ⟨k, hk, z⟩
      · exact hH j hj (Or.inl z) h32
      · have := q2 k (by omega)
        omega
theorem cy_rt1 {post : SY → Prop} (R : cp_RR ic so oc am hg par cn tx st sl wi lk wk bw gd pc po) (htip : tip < 24) (gt : gd tip = true)
    (H : ∀ yp yl yt ho yk, cp_Rp yl (cp_La hg par cn tx po tip pc) 56 → cp_Rp yt (cp_Sa ic so hg par cn tx po tip pc) 112 → cp_LH hg ho (cp_La hg par cn tx po tip pc) → post (ys, (nI (hg tip + 1)), (bw tip), nI pc, nI tip, cp_A ic, cp_A (cp_hf so), cp_A (cp_hm so), wi, cp_A oc, cp_A am, lk, cp_Bo sl, cp_A (cp_ys st), cp_A par, wk, cp_A cn, cp_A tx, od, yp, yl, yt, ho, yk, cp_A po, yq, yo)) : wpY_replayTip post (ys, yn, yw, nI pc, nI tip, cp_A ic, cp_A (cp_hf so), cp_A (cp_hm so), wi, cp_A oc, cp_A am, lk, cp_Bo sl, cp_A (cp_ys st), cp_A par, wk, cp_A cn, cp_A tx, od, yp, yl, yt, ho, yk, cp_A po, yq, yo) 1 := by
  obtain ⟨B, T, q1, q2⟩ := R
  have ct := T.2.2.2.1 tip htip gt
  have hh := cp_RT_hg T htip ct
  refine cy_cht (yw := yw) B T htip ct (fun yp' hyp => cy_rp B T htip ct hyp (fun _ _ _ _ z => absurd gt z) (fun yl' yt' ho' yk' _ hl hs hH => Exists.intro (pc + 1) (cy_rt16 B hh q1 (fun i hi => (q2 i hi).1) (fun yl yt ho => H yp' yl yt ho yk') pc 0 yl' yt' ho' (by omega) (cp_Rp_iff hl ?_) (cp_Rp_iff hs ?_) ?_)))
  · intro j _
    exact ⟨Or.inl, fun z => z.elim id (fun ⟨k, hk, _⟩ => absurd hk (Nat.not_lt_zero _))⟩
  · intro j _
    exact ⟨Or.inl, fun z => z.elim id (fun ⟨k, hk, _⟩ => absurd hk (Nat.not_lt_zero _))⟩
  · intro j hj hL h32
    exact cp_HO_LH B T.1 htip ct hh (Nat.le_refl _) hH j hj (hL.elim id (fun ⟨k, hk, _⟩ => absurd hk (Nat.not_lt_zero _))) h32
end
end
section
/-! Y: the best block, offers, the taking of a block -/
section
variable {ys yn yw : Int32} {tip pc : Nat} {ic so oc am hg par cn tx st po : Nat → Nat} {sl gd : Nat → Bool} {wi lk wk bw od yp yl yt ho yk yq yo : Nat → Int32}
theorem cp_bt_k {k : Nat} (h : gd k = true ∧ (bw (cp_bt gd bw od k) < bw k ∨ (bw k = bw (cp_bt gd bw od k) ∧ od k < od (cp_bt gd bw od k)))) : cp_bt gd bw od (k + 1) = k := by
  rw [cp_bt, if_pos h]
theorem cp_bt_p {k : Nat} (h : ¬ (gd k = true ∧ (bw (cp_bt gd bw od k) < bw k ∨ (bw k = bw (cp_bt gd bw od k) ∧ od k < od (cp_bt gd bw od k))))) : cp_bt gd bw od (k + 1) = cp_bt gd bw od k := by
  rw [cp_bt, if_neg h]
theorem cy_ft6 {post : SY → Prop} (B : cp_RB ic so oc am hg par cn tx st sl wi lk) (R : cp_RT ic so oc am hg par cn tx st sl wi lk wk bw gd) (O : cp_RO par st) (H : ∀ yn yw yp yl yt ho yk, post (ys, yn, yw, nI pc, nI (cp_bt gd bw od 24), cp_A ic, cp_A (cp_hf so), cp_A (cp_hm so), wi, cp_A oc, cp_A am, lk, cp_Bo sl, cp_A (cp_ys st), cp_A par, wk, cp_A cn, cp_A tx, od, yp, yl, yt, ho, yk, cp_A po, yq, yo)) : ∀ (d k : Nat) (yn yw : Int32) (yp yl yt ho yk : Nat → Int32), k + d = 24 → 1 ≤ k → wY_findTip_6 post (d + 1) (nI (cp_bt gd bw od k)) (bw (cp_bt gd bw od k)) (nI k) ys yn yw (nI pc) (nI tip) (cp_A ic) (cp_A (cp_hf so)) (cp_A (cp_hm so)) wi (cp_A oc) (cp_A am) lk (cp_Bo sl) (cp_A (cp_ys st)) (cp_A par) wk (cp_A cn) (cp_A tx) od yp yl yt ho yk (cp_A po) yq yo := by
  intro d
  induction d with
  | zero =>
    intro k yn yw yp yl yt ho yk hk h1
    refine pk_le 24 k (fun _ => ?_) (fun z => False.elim (by omega))
    rw [show k = 24 from by omega]
    exact H yn yw yp yl yt ho yk
  | succ d ih =>
    intro k yn yw yp yl yt ho yk hk h1
    have hp : cp_bt gd bw od k < 24 := by
      have := cp_bt_lt gd bw od (k - 1)
      rw [show k - 1 + 1 = k from by omega] at this
      omega
    have ik : vp_in (nI k) 24 := vp_in_nI (by omega) (by decide)
    have ip : vp_in (nI (cp_bt gd bw od k)) 24 := vp_in_nI hp (by decide)
    have sl2 := cp_ys_le B k
    have keep : ¬ (gd k = true ∧ (bw (cp_bt gd bw od k) < bw k ∨ (bw k = bw (cp_bt gd bw od k) ∧ od k < od (cp_bt gd bw od k)))) → ∀ (yn yw : Int32) (yp yl yt ho yk : Nat → Int32), wY_findTip_6 post (d + 1) (nI (cp_bt gd bw od k)) (bw (cp_bt gd bw od k)) (nI (k + 1)) ys yn yw (nI pc) (nI tip) (cp_A ic) (cp_A (cp_hf so)) (cp_A (cp_hm so)) wi (cp_A oc) (cp_A am) lk (cp_Bo sl) (cp_A (cp_ys st)) (cp_A par) wk (cp_A cn) (cp_A tx) od yp yl yt ho yk (cp_A po) yq yo := by
      intro h yn yw yp yl yt ho yk
      have z := ih (k + 1) yn yw yp yl yt ho yk (by omega) (by omega)
      rw [cp_bt_p h] at z
      exact z
    have take : (gd k = true ∧ (bw (cp_bt gd bw od k) < bw k ∨ (bw k = bw (cp_bt gd bw od k) ∧ od k < od (cp_bt gd bw od k)))) → ∀ (yn yw : Int32) (yp yl yt ho yk : Nat → Int32), wY_findTip_6 post (d + 1) (nI k) (bw k) (nI (k + 1)) ys yn yw (nI pc) (nI tip) (cp_A ic) (cp_A (cp_hf so)) (cp_A (cp_hm so)) wi (cp_A oc) (cp_A am) lk (cp_Bo sl) (cp_A (cp_ys st)) (cp_A par) wk (cp_A cn) (cp_A tx) od yp yl yt ho yk (cp_A po) yq yo := by
      intro h yn yw yp yl yt ho yk
      have z := ih (k + 1) yn yw yp yl yt ho yk (by omega) (by omega)
      rw [cp_bt_k h] at z
      exact z
    refine pk_le 24 k (fun z => False.elim (by omega)) (fun _ => And.intro ik (pk_eq (cp_ys st k) 2 (fun e => ?_) (fun e => nm_r (nI_1 k) (keep (fun y => e (cp_ys3 (R.2.2.2.1 k (by omega) y.1))) _ _ _ _ _ _ _)) (cp_rd (cp_ys st) (by omega)) rfl))
    by_cases c : st k = 3
    · refine cy_cht (yw := yw) B R (by omega) c (fun yp' hyp => br_f (by decide) (cy_rp B R (by omega) c hyp (fun yl' yt' ho' yk' ng => br_t rfl (nm_r (nI_1 k) (keep (fun y => ng y.1) _ _ _ _ _ _ _))) (fun yl' yt' ho' yk' g _ _ _ => br_f (by decide) ?_)))
      refine br_c (fun a => nm_r (nI_1 k) (take ⟨g, Or.inl a⟩ _ _ _ _ _ _ _)) (fun a => br_c (fun b => And.intro ik (And.intro ip (br_c (fun o => nm_r (nI_1 k) (keep (fun y => y.2.elim a (fun z => ?_)) _ _ _ _ _ _ _)) (fun o => nm_r (nI_1 k) (take ⟨g, Or.inr ⟨b, ?_⟩⟩ _ _ _ _ _ _ _))))) (fun b => nm_r (nI_1 k) (keep (fun y => y.2.elim a (fun z => b z.1)) _ _ _ _ _ _ _)))
      · rw [cp_rw od (by omega), cp_rw od (by omega)] at o
        exact Int32.not_lt.mpr o z.2
      · rw [cp_rw od (by omega), cp_rw od (by omega)] at o
        exact Int32.not_le.mp o
    · exact cy_chf (yw := yw) B R.1.1 O (by omega) c (fun yp' yn' yw' => br_t rfl (nm_r (nI_1 k) (keep (fun y => c (R.2.2.2.1 k (by omega) y.1)) _ _ _ _ _ _ _)))
theorem cy_find {post : SY → Prop} (B : cp_RB ic so oc am hg par cn tx st sl wi lk) (R : cp_RT ic so oc am hg par cn tx st sl wi lk wk bw gd) (O : cp_RO par st) (H : ∀ yn yw yp yl yt ho yk, post (ys, yn, yw, nI pc, nI (cp_bt gd bw od 24), cp_A ic, cp_A (cp_hf so), cp_A (cp_hm so), wi, cp_A oc, cp_A am, lk, cp_Bo sl, cp_A (cp_ys st), cp_A par, wk, cp_A cn, cp_A tx, od, yp, yl, yt, ho, yk, cp_A po, yq, yo)) : wpY_findTip post (ys, yn, yw, nI pc, nI tip, cp_A ic, cp_A (cp_hf so), cp_A (cp_hm so), wi, cp_A oc, cp_A am, lk, cp_Bo sl, cp_A (cp_ys st), cp_A par, wk, cp_A cn, cp_A tx, od, yp, yl, yt, ho, yk, cp_A po, yq, yo) := by
  have z := cy_ft6 (ys := ys) (pc := pc) (tip := tip) (ic := ic) (so := so) (wi := wi) (oc := oc) (am := am) (lk := lk) (sl := sl) (st := st) (par := par) (wk := wk) (cn := cn) (tx := tx) (od := od) (po := po) (yq := yq) (yo := yo) B R O H 23 1 yn yw yp yl yt ho yk (by omega) (Nat.le_refl _)
  rw [cp_bt_1, R.2.1.2.2.2.1] at z
  exact Exists.intro 24 z
theorem cy_on2 {post : Int32 → Prop} (T : cp_Tr hg par st) {a c : Nat} (ha : a < 24) (ca : st a = 3) (hh : hg a < 24) (hc : c < 24) (hyp : ∀ i, i ≤ hg a → yp i = nI (cp_pt par hg a i)) (H : ∀ r, cp_TF r (∃ i, i < hg a + 1 ∧ cp_pt par hg a i = c) → post r) : ∀ (d i : Nat), i + d = hg a + 1 → (∀ q, q < i → cp_pt par hg a q ≠ c) → wY_onChain_2 post (nI c) ys (nI (hg a + 1)) yw (nI pc) (nI tip) (cp_A ic) (cp_A (cp_hf so)) (cp_A (cp_hm so)) wi (cp_A oc) (cp_A am) lk (cp_Bo sl) (cp_A (cp_ys st)) (cp_A par) wk (cp_A cn) (cp_A tx) od yp yl yt ho yk (cp_A po) yq yo (d + 1) (nI i) := by
  intro d
  induction d with
  | zero =>
    intro i hi h
    exact pk_le (hg a + 1) i (fun _ => H 0 (cp_TF_F (fun ⟨q, hq, e⟩ => h q (by omega) e))) (fun z => False.elim (by omega))
  | succ d ih =>
    intro i hi h
    have pi := cp_pt_in T ha ca (i := i) (by omega)
    refine pk_le (hg a + 1) i (fun z => False.elim (by omega)) (fun _ => And.intro (vp_in_nI (by omega) (by decide)) (pk_eq (cp_pt par hg a i) c (fun e => H 1 (cp_TF_T ⟨i, by omega, e⟩)) (fun e => nm_r (nI_1 i) (ih (i + 1) (by omega) ?_)) ?_ rfl))
    · intro q hq
      by_cases z : q = i
      · rw [z]
        exact e
      · exact h q (by omega)
    · rw [nI_clamp (by omega)]
      exact hyp i (by omega)
theorem cy_on {post : Int32 → Prop} (T : cp_Tr hg par st) {a c : Nat} (ha : a < 24) (ca : st a = 3) (hh : hg a < 24) (hc : c < 24) (hyp : ∀ i, i ≤ hg a → yp i = nI (cp_pt par hg a i)) (H : ∀ r, cp_TF r (∃ i, i < hg a + 1 ∧ cp_pt par hg a i = c) → post r) : wpY_onChain post (ys, (nI (hg a + 1)), yw, nI pc, nI tip, cp_A ic, cp_A (cp_hf so), cp_A (cp_hm so), wi, cp_A oc, cp_A am, lk, cp_Bo sl, cp_A (cp_ys st), cp_A par, wk, cp_A cn, cp_A tx, od, yp, yl, yt, ho, yk, cp_A po, yq, yo) (nI c) :=
  Exists.intro (hg a + 1 + 1) (cy_on2 T ha ca hh hc hyp H (hg a + 1) 0 (by omega) (fun q hq => absurd hq (Nat.not_lt_zero _)))
theorem cy_off {post : Int32 → SY → Prop} (R : cp_RR ic so oc am hg par cn tx st sl wi lk wk bw gd pc po) {t : Nat} (ht : t < 32) (htip : tip < 24) (gt : gd tip = true)
    (H0 : ∀ yn yw yp yl yt ho yk, ¬ cp_AF ic so oc am hg par cn tx sl wi lk tip pc po t → post 0 (ys, yn, yw, nI pc, nI tip, cp_A ic, cp_A (cp_hf so), cp_A (cp_hm so), wi, cp_A oc, cp_A am, lk, cp_Bo sl, cp_A (cp_ys st), cp_A par, wk, cp_A cn, cp_A tx, od, yp, yl, yt, ho, yk, cp_A po, yq, yo))
    (H1 : ∀ yn yw yp yl yt ho yk, cp_AF ic so oc am hg par cn tx sl wi lk tip pc po t → post 1 (ys, yn, yw, nI (pc + 1), nI tip, cp_A ic, cp_A (cp_hf so), cp_A (cp_hm so), wi, cp_A oc, cp_A am, lk, cp_Bo sl, cp_A (cp_ys st), cp_A par, wk, cp_A cn, cp_A tx, od, yp, yl, yt, ho, yk, cp_A (cp_up po pc t), yq, yo)) : wpY_offer post (ys, yn, yw, nI pc, nI tip, cp_A ic, cp_A (cp_hf so), cp_A (cp_hm so), wi, cp_A oc, cp_A am, lk, cp_Bo sl, cp_A (cp_ys st), cp_A par, wk, cp_A cn, cp_A tx, od, yp, yl, yt, ho, yk, cp_A po, yq, yo) (nI t) := by
  have q1 := R.2.2.1
  have ct := R.2.1.2.2.2.1 tip htip gt
  have hh := cp_RT_hg R.2.1 htip ct
  refine cy_out (nI t) 0 31 (by decide) (by decide) (fun r hr => cp_TF_br hr (fun _ => ?_) (fun z => absurd ⟨t, Nat.zero_le _, by omega, rfl⟩ z))
  refine pk_eq pc 8 (fun e => H0 _ _ _ _ _ _ _ (fun y => by have := y.1; omega)) (fun e => ?_)
  refine cy_rt1 (yw := yw) (yn := yn) R htip gt (fun yp' yl' yt' ho' yk' hl hs hL => ?_)
  refine cy_ft R.1 ht (by omega) hl hs hL (fun r2 yk2 h2 => cp_TF_br h2 (fun z => H0 _ _ _ _ _ _ _ (fun y => z y.2)) (fun z => And.intro (vp_in_nI (by omega) (by decide)) (nm_r (cp_wr po t (by omega)) (nm_r (nI_1 pc) (H1 _ _ _ _ _ _ _ ⟨by omega, z⟩)))))
theorem cy_ob4 {post : SY → Prop} {c : Nat} (hc : c < 24) (hcn : cn c ≤ 3) (htip : tip < 24) (gt : gd tip = true) {q : Nat × (Nat → Nat)}
    (H : ∀ pc po yn yw yp yl yt ho yk, cp_RR ic so oc am hg par cn tx st sl wi lk wk bw gd pc po → (pc, po) = cp_fo ic so oc am hg par cn tx sl wi lk tip q (cp_ct tx c (cn c)) → post (ys, yn, yw, nI pc, nI tip, cp_A ic, cp_A (cp_hf so), cp_A (cp_hm so), wi, cp_A oc, cp_A am, lk, cp_Bo sl, cp_A (cp_ys st), cp_A par, wk, cp_A cn, cp_A tx, od, yp, yl, yt, ho, yk, cp_A po, yq, yo)) : ∀ (d i pc : Nat) (po : Nat → Nat) (yn yw : Int32) (yp yl yt ho yk : Nat → Int32), i + d = cn c → cp_RR ic so oc am hg par cn tx st sl wi lk wk bw gd pc po → (pc, po) = cp_fo ic so oc am hg par cn tx sl wi lk tip q (cp_ct tx c i) → wY_offerBlock_4 post (nI c) (d + 1) (nI (3 * c + i)) ys yn yw (nI pc) (nI tip) (cp_A ic) (cp_A (cp_hf so)) (cp_A (cp_hm so)) wi (cp_A oc) (cp_A am) lk (cp_Bo sl) (cp_A (cp_ys st)) (cp_A par) wk (cp_A cn) (cp_A tx) od yp yl yt ho yk (cp_A po) yq yo := by
  have e0 : (3 : Int32) * nI c + cp_A cn (nI c).toNatClampNeg = nI (3 * c + cn c) := by
    rw [cp_rd cn (by omega), cp_3a]
  intro d
  induction d with
  | zero =>
    intro i pc po yn yw yp yl yt ho yk hi R hf
    have ei : i = cn c := by omega
    rw [ei] at hf
    exact And.intro (vp_in_nI hc (by decide)) (pk_le (3 * c + cn c) (3 * c + i) (fun _ => H pc po yn yw yp yl yt ho yk R hf) (fun z => False.elim (by omega)) e0 rfl)
  | succ d ih =>
    intro i pc po yn yw yp yl yt ho yk hi R hf
    have t32 := cp_RB_tx R.1 (3 * c + i)
    refine And.intro (vp_in_nI hc (by decide)) (pk_le (3 * c + cn c) (3 * c + i) (fun z => False.elim (by omega)) (fun _ => And.intro (vp_in_nI (by omega) (by decide)) ?_) e0 rfl)
    rw [cp_rd tx (by omega)]
    have es : cp_fo ic so oc am hg par cn tx sl wi lk tip q (cp_ct tx c (i + 1)) = cp_ad ic so oc am hg par cn tx sl wi lk tip (pc, po) (tx (3 * c + i)) := by
      show cp_fo ic so oc am hg par cn tx sl wi lk tip q (cp_ct tx c i ++ [tx (3 * c + i)]) = _
      rw [cp_fo_app, ← hf, cp_fo_1]
    refine cy_off R t32 htip gt (fun yn yw yp yl yt ho yk h0 => nm_r (nI_1 _) (ih (i + 1) pc po yn yw yp yl yt ho yk (by omega) R (by rw [es, cp_ad_f h0]))) (fun yn yw yp yl yt ho yk h1 => nm_r (nI_1 _) (ih (i + 1) (pc + 1) (cp_up po pc (tx (3 * c + i))) yn yw yp yl yt ho yk (by omega) (cp_ad_RR R htip gt t32 h1) (by rw [es, cp_ad_t h1])))
theorem cy_ob {post : SY → Prop} (R : cp_RR ic so oc am hg par cn tx st sl wi lk wk bw gd pc po) {c : Nat} (hc : c < 24) (htip : tip < 24) (gt : gd tip = true)
    (H : ∀ pc' po' yn yw yp yl yt ho yk, cp_RR ic so oc am hg par cn tx st sl wi lk wk bw gd pc' po' → (pc', po') = cp_fo ic so oc am hg par cn tx sl wi lk tip (pc, po) (cp_ct tx c (cn c)) → post (ys, yn, yw, nI pc', nI tip, cp_A ic, cp_A (cp_hf so), cp_A (cp_hm so), wi, cp_A oc, cp_A am, lk, cp_Bo sl, cp_A (cp_ys st), cp_A par, wk, cp_A cn, cp_A tx, od, yp, yl, yt, ho, yk, cp_A po', yq, yo)) : wpY_offerBlock post (ys, yn, yw, nI pc, nI tip, cp_A ic, cp_A (cp_hf so), cp_A (cp_hm so), wi, cp_A oc, cp_A am, lk, cp_Bo sl, cp_A (cp_ys st), cp_A par, wk, cp_A cn, cp_A tx, od, yp, yl, yt, ho, yk, cp_A po, yq, yo) (nI c) :=
  nm_r (cp_3m c) (Exists.intro (cn c + 1) (cy_ob4 hc (cp_RB_cn R.1 c) htip gt H (cn c) 0 pc po yn yw yp yl yt ho yk (by omega) R rfl))
theorem cy_a148 {post : Int32 → SY → Prop} {pc0 : Nat} {po0 : Nat → Nat} (hp : pc0 ≤ 8) (hpo : ∀ i, i < pc0 → po0 i < 32) (hyq : ∀ i, i < 8 → yq i = nI (po0 i)) (htip : tip < 24) (gt : gd tip = true) {q : Nat × (Nat → Nat)} {l : List Nat}
    (H : ∀ pc po yn yw yp yl yt ho yk, cp_RR ic so oc am hg par cn tx st sl wi lk wk bw gd pc po → (pc, po) = cp_fo ic so oc am hg par cn tx sl wi lk tip q (l ++ cp_pl po0 pc0) → post 1 (ys, yn, yw, nI pc, nI tip, cp_A ic, cp_A (cp_hf so), cp_A (cp_hm so), wi, cp_A oc, cp_A am, lk, cp_Bo sl, cp_A (cp_ys st), cp_A par, wk, cp_A cn, cp_A tx, od, yp, yl, yt, ho, yk, cp_A po, yq, yo)) : ∀ (d i pc : Nat) (po : Nat → Nat) (yn yw : Int32) (yp yl yt ho yk : Nat → Int32), i + d = pc0 → cp_RR ic so oc am hg par cn tx st sl wi lk wk bw gd pc po → (pc, po) = cp_fo ic so oc am hg par cn tx sl wi lk tip q (l ++ cp_pl po0 i) → wY_advance_148 post (nI pc0) (d + 1) (nI i) ys yn yw (nI pc) (nI tip) (cp_A ic) (cp_A (cp_hf so)) (cp_A (cp_hm so)) wi (cp_A oc) (cp_A am) lk (cp_Bo sl) (cp_A (cp_ys st)) (cp_A par) wk (cp_A cn) (cp_A tx) od yp yl yt ho yk (cp_A po) yq yo := by
  intro d
  induction d with
  | zero =>
    intro i pc po yn yw yp yl yt ho yk hi R hf
    have ei : i = pc0 := by omega
    rw [ei] at hf
    exact pk_le pc0 i (fun _ => H pc po yn yw yp yl yt ho yk R hf) (fun z => False.elim (by omega))
  | succ d ih =>
    intro i pc po yn yw yp yl yt ho yk hi R hf
    have t32 := hpo i (by omega)
    have e : yq (nI i).toNatClampNeg = nI (po0 i) := by
      rw [nI_clamp (by omega)]
      exact hyq i (by omega)
    refine pk_le pc0 i (fun z => False.elim (by omega)) (fun _ => And.intro (vp_in_nI (by omega) (by decide)) ?_)
    rw [e]
    have es : cp_fo ic so oc am hg par cn tx sl wi lk tip q (l ++ cp_pl po0 (i + 1)) = cp_ad ic so oc am hg par cn tx sl wi lk tip (pc, po) (po0 i) := by
      show cp_fo ic so oc am hg par cn tx sl wi lk tip q (l ++ (cp_pl po0 i ++ [po0 i])) = _
      rw [← List.append_assoc, cp_fo_app, ← hf, cp_fo_1]
    refine cy_off R t32 htip gt (fun yn yw yp yl yt ho yk h0 => nm_r (nI_1 _) (ih (i + 1) pc po yn yw yp yl yt ho yk (by omega) R (by rw [es, cp_ad_f h0]))) (fun yn yw yp yl yt ho yk h1 => nm_r (nI_1 _) (ih (i + 1) (pc + 1) (cp_up po pc (po0 i)) yn yw yp yl yt ho yk (by omega) (cp_ad_RR R htip gt t32 h1) (by rw [es, cp_ad_t h1])))
/-- the blocks of the old chain (of a), in order; the tip is the new one -/
theorem cy_a99 {post : Int32 → SY → Prop} (B : cp_RB ic so oc am hg par cn tx st sl wi lk) (T : cp_RT ic so oc am hg par cn tx st sl wi lk wk bw gd) {pc0 a F : Nat} {po0 : Nat → Nat} (hp : pc0 ≤ 8) (hpo : ∀ i, i < pc0 → po0 i < 32) (hyq : ∀ i, i < 8 → yq i = nI (po0 i)) (ha : a < 24) (ca : st a = 3) (hyo : ∀ i, i ≤ hg a → yo i = nI (cp_pt par hg a i)) (htip : tip < 24) (gt : gd tip = true) (K : cp_Fk hg par tip a F)
    (H : ∀ pc po yn yw yp yl yt ho yk, cp_RR ic so oc am hg par cn tx st sl wi lk wk bw gd pc po → (pc, po) = cp_fo ic so oc am hg par cn tx sl wi lk tip (0, po0) (cp_ql hg par cn tx a F (hg a + 1) ++ cp_pl po0 pc0) → post 1 (ys, yn, yw, nI pc, nI tip, cp_A ic, cp_A (cp_hf so), cp_A (cp_hm so), wi, cp_A oc, cp_A am, lk, cp_Bo sl, cp_A (cp_ys st), cp_A par, wk, cp_A cn, cp_A tx, od, yp, yl, yt, ho, yk, cp_A po, yq, yo)) : ∀ (d i pc : Nat) (po : Nat → Nat) (yn yw : Int32) (yp yl yt ho yk : Nat → Int32), i + d = hg a + 1 → cp_RR ic so oc am hg par cn tx st sl wi lk wk bw gd pc po → (pc, po) = cp_fo ic so oc am hg par cn tx sl wi lk tip (0, po0) (cp_ql hg par cn tx a F i) → wY_advance_99 post (nI (hg a + 1)) (nI pc0) (d + 1) (nI i) ys yn yw (nI pc) (nI tip) (cp_A ic) (cp_A (cp_hf so)) (cp_A (cp_hm so)) wi (cp_A oc) (cp_A am) lk (cp_Bo sl) (cp_A (cp_ys st)) (cp_A par) wk (cp_A cn) (cp_A tx) od yp yl yt ho yk (cp_A po) yq yo := by
  have ct := T.2.2.2.1 tip htip gt
  have hh := cp_RT_hg T htip ct
  have hha := cp_RT_hg T ha ca
  intro d
  induction d with
  | zero =>
    intro i pc po yn yw yp yl yt ho yk hi R hf
    have ei : i = hg a + 1 := by omega
    rw [ei] at hf
    exact pk_le (hg a + 1) i (fun _ => Exists.intro (pc0 + 1) (cy_a148 hp hpo hyq htip gt H pc0 0 pc po yn yw yp yl yt ho yk (by omega) R (by rw [hf]; exact congrArg _ (List.append_nil _).symm))) (fun z => False.elim (by omega))
  | succ d ih =>
    intro i pc po yn yw yp yl yt ho yk hi R hf
    have pi := cp_pt_in T.1 ha ca (i := i) (by omega)
    have e : yo (nI i).toNatClampNeg = nI (cp_pt par hg a i) := by
      rw [nI_clamp (by omega)]
      exact hyo i (by omega)
    have i24 : vp_in (nI i) 24 := vp_in_nI (by omega) (by decide)
    refine pk_le (hg a + 1) i (fun z => False.elim (by omega)) (fun _ => cy_cht (yw := yw) B T htip ct (fun yp' hyp => And.intro i24 ?_))
    rw [e]
    refine cy_on T.1 htip ct hh pi hyp (fun r hr => cp_TF_br hr (fun z => And.intro i24 ?_) (fun z => nm_r (nI_1 i) (ih (i + 1) pc po _ _ _ _ _ _ _ (by omega) R ?_)))
    · have nz : F < i := by
        by_cases y : i ≤ F
        · exact absurd ((cp_Fk_on T.1 htip ct ha ca K (h := i) (by omega)).mpr y) z
        · omega
      refine cy_ob R pi htip gt (fun pc' po' yn yw yp yl yt ho yk R' hf' => nm_r (nI_1 i) (ih (i + 1) pc' po' yn yw yp yl yt ho yk (by omega) R' ?_))
      show (pc', po') = cp_fo ic so oc am hg par cn tx sl wi lk tip (0, po0) (cp_ql hg par cn tx a F i ++ (if F < i then cp_ct tx (cp_pt par hg a i) (cn (cp_pt par hg a i)) else []))
      rw [if_pos nz, cp_fo_app, ← hf]
      exact hf'
    · have y := (cp_Fk_on T.1 htip ct ha ca K (h := i) (by omega)).mp z
      show (pc, po) = cp_fo ic so oc am hg par cn tx sl wi lk tip (0, po0) (cp_ql hg par cn tx a F i ++ (if F < i then cp_ct tx (cp_pt par hg a i) (cn (cp_pt par hg a i)) else []))
      rw [if_neg (by omega), List.append_nil]
      exact hf
theorem cp_cpy {f g : Nat → Int32} {n k : Nat} (h : ∀ i, i < k → g i = f i) : ∀ i, i < k + 1 → upd g k (f k) i = f i := by
  intro i hi
  by_cases e : i = k
  · rw [e, pk_us]
  · rw [pk_un e]
    exact h i (by omega)
theorem cy_a50 {post : Int32 → SY → Prop} {x1 x2 x3 : Int32} (H : ∀ yq', (∀ i, i < 8 → yq' i = nI (po i)) → wpY_findTip (fun u => match u with | (f_submitted_2, f_length_2, f_weight_2, f_pooledCount_2, f_tipBlock_2, a_inputs_2, a_inFrom_2, a_inPlace_2, a_witness_2, a_outputs_2, a_amount_2, a_lock_2, a_sealed_2, a_state_2, a_parent_2, a_work_2, a_count_2, a_tx_2, a_order_2, a_path_2, a_listed_2, a_spent_2, a_heightOf_2, a_stack_2, a_pool_2, a_oldPool_2, a_oldPath_2) => (f_tipBlock_2 = x1 → post 0 (f_submitted_2, f_length_2, f_weight_2, f_pooledCount_2, f_tipBlock_2, a_inputs_2, a_inFrom_2, a_inPlace_2, a_witness_2, a_outputs_2, a_amount_2, a_lock_2, a_sealed_2, a_state_2, a_parent_2, a_work_2, a_count_2, a_tx_2, a_order_2, a_path_2, a_listed_2, a_spent_2, a_heightOf_2, a_stack_2, a_pool_2, a_oldPool_2, a_oldPath_2)) ∧ (¬ f_tipBlock_2 = x1 → ∃ n99 : Nat, wY_advance_99 post x2 x3 n99 0 f_submitted_2 f_length_2 f_weight_2 0 f_tipBlock_2 a_inputs_2 a_inFrom_2 a_inPlace_2 a_witness_2 a_outputs_2 a_amount_2 a_lock_2 a_sealed_2 a_state_2 a_parent_2 a_work_2 a_count_2 a_tx_2 a_order_2 a_path_2 a_listed_2 a_spent_2 a_heightOf_2 a_stack_2 a_pool_2 a_oldPool_2 a_oldPath_2)) (ys, yn, yw, nI pc, nI tip, cp_A ic, cp_A (cp_hf so), cp_A (cp_hm so), wi, cp_A oc, cp_A am, lk, cp_Bo sl, cp_A (cp_ys st), cp_A par, wk, cp_A cn, cp_A tx, od, yp, yl, yt, ho, yk, cp_A po, yq', yo)) : ∀ (d i : Nat) (yq : Nat → Int32), i + d = 8 → (∀ j, j < i → yq j = nI (po j)) → wY_advance_50 post x1 x2 x3 ys yn yw (nI pc) (nI tip) (d + 1) (nI i) (cp_A ic) (cp_A (cp_hf so)) (cp_A (cp_hm so)) wi (cp_A oc) (cp_A am) lk (cp_Bo sl) (cp_A (cp_ys st)) (cp_A par) wk (cp_A cn) (cp_A tx) od yp yl yt ho yk (cp_A po) yq yo := by
  intro d
  induction d with
  | zero =>
    intro i yq hi h
    exact pk_le 8 i (fun _ => H yq (fun j hj => h j (by omega))) (fun z => False.elim (by omega))
  | succ d ih =>
    intro i yq hi h
    have i8 : vp_in (nI i) 8 := vp_in_nI (by omega) (by decide)
    exact pk_le 8 i (fun z => False.elim (by omega)) (fun _ => And.intro i8 (And.intro i8 (nm_r (e' := upd yq i (nI (po i))) (by rw [cp_rd po (by omega), nI_clamp (by omega)]) (nm_r (nI_1 i) (ih (i + 1) _ (by omega) (cp_cpy (f := cp_A po) (n := 0) h))))))
theorem cy_a18 {post : Int32 → SY → Prop} {x1 x2 : Int32} (H : ∀ yo', (∀ i, i < 24 → yo' i = yp i) → ∃ n, wY_advance_50 post x1 x2 (nI pc) ys yn yw (nI pc) (nI tip) n 0 (cp_A ic) (cp_A (cp_hf so)) (cp_A (cp_hm so)) wi (cp_A oc) (cp_A am) lk (cp_Bo sl) (cp_A (cp_ys st)) (cp_A par) wk (cp_A cn) (cp_A tx) od yp yl yt ho yk (cp_A po) yq yo') : ∀ (d i : Nat) (yo : Nat → Int32), i + d = 24 → (∀ j, j < i → yo j = yp j) → wY_advance_18 post x1 x2 ys yn yw (nI pc) (nI tip) (d + 1) (nI i) (cp_A ic) (cp_A (cp_hf so)) (cp_A (cp_hm so)) wi (cp_A oc) (cp_A am) lk (cp_Bo sl) (cp_A (cp_ys st)) (cp_A par) wk (cp_A cn) (cp_A tx) od yp yl yt ho yk (cp_A po) yq yo := by
  intro d
  induction d with
  | zero =>
    intro i yo hi h
    exact pk_le 24 i (fun _ => H yo (fun j hj => h j (by omega))) (fun z => False.elim (by omega))
  | succ d ih =>
    intro i yo hi h
    have i8 : vp_in (nI i) 24 := vp_in_nI (by omega) (by decide)
    exact pk_le 24 i (fun z => False.elim (by omega)) (fun _ => And.intro i8 (And.intro i8 (nm_r (e' := upd yo i (yp i)) (by rw [nI_clamp (by omega)]) (nm_r (nI_1 i) (ih (i + 1) _ (by omega) (cp_cpy (n := 0) h))))))
theorem cy_adv {post : Int32 → SY → Prop} (R : cp_RR ic so oc am hg par cn tx st sl wi lk wk bw gd pc po) (O : cp_RO par st) (htip : tip < 24) (gt : gd tip = true) {F : Nat} (K : cp_bt gd bw od 24 ≠ tip → cp_Fk hg par (cp_bt gd bw od 24) tip F)
    (H0 : cp_bt gd bw od 24 = tip → ∀ yn yw yp yl yt ho yk yq yo, post 0 (ys, yn, yw, nI pc, nI tip, cp_A ic, cp_A (cp_hf so), cp_A (cp_hm so), wi, cp_A oc, cp_A am, lk, cp_Bo sl, cp_A (cp_ys st), cp_A par, wk, cp_A cn, cp_A tx, od, yp, yl, yt, ho, yk, cp_A po, yq, yo))
    (H1 : cp_bt gd bw od 24 ≠ tip → ∀ pc' po' yn yw yp yl yt ho yk yq yo, cp_RR ic so oc am hg par cn tx st sl wi lk wk bw gd pc' po' → (pc', po') = cp_fo ic so oc am hg par cn tx sl wi lk (cp_bt gd bw od 24) (0, po) (cp_ql hg par cn tx tip F (hg tip + 1) ++ cp_pl po pc) → post 1 (ys, yn, yw, nI pc', nI (cp_bt gd bw od 24), cp_A ic, cp_A (cp_hf so), cp_A (cp_hm so), wi, cp_A oc, cp_A am, lk, cp_Bo sl, cp_A (cp_ys st), cp_A par, wk, cp_A cn, cp_A tx, od, yp, yl, yt, ho, yk, cp_A po', yq, yo)) : wpY_advance post (ys, yn, yw, nI pc, nI tip, cp_A ic, cp_A (cp_hf so), cp_A (cp_hm so), wi, cp_A oc, cp_A am, lk, cp_Bo sl, cp_A (cp_ys st), cp_A par, wk, cp_A cn, cp_A tx, od, yp, yl, yt, ho, yk, cp_A po, yq, yo) := by
  obtain ⟨B, T, q1, q2⟩ := R
  have ct := T.2.2.2.1 tip htip gt
  have hh := cp_RT_hg T htip ct
  have hb : cp_bt gd bw od 24 < 24 := Nat.lt_succ_of_le (cp_bt_lt gd bw od 23)
  have gb : gd (cp_bt gd bw od 24) = true := cp_bt_gd bw od T.2.1.2.2.1 24
  refine cy_cht (yw := yw) B T htip ct (fun yp' hyp => Exists.intro 25 (cy_a18 (fun yo' hyo => Exists.intro 9 (cy_a50 (fun yq' hyq => ?_) 8 0 yq (by omega) (fun j hj => absurd hj (Nat.not_lt_zero _)))) 24 0 yo (by omega) (fun j hj => absurd hj (Nat.not_lt_zero _))))
  refine cy_find B T O (fun yn yw yp yl yt ho yk => pk_eq (cp_bt gd bw od 24) tip (fun e => ?_) (fun ne => ?_))
  · have z := H0 e yn yw yp yl yt ho yk yq' yo'
    rw [e]
    exact z
  · exact Exists.intro (hg tip + 1 + 1) (cy_a99 B T q1 (fun i hi => (q2 i hi).1) hyq htip ct (fun i hi => by rw [hyo i (by omega)]; exact hyp i hi) hb gb (K ne) (fun pc' po' yn yw yp yl yt ho yk R' hf' => H1 ne pc' po' yn yw yp yl yt ho yk yq' yo' R' hf') (hg tip + 1) 0 0 po yn yw yp yl yt ho yk (by omega) ⟨B, T, Nat.zero_le _, fun i hi => absurd hi (Nat.not_lt_zero _)⟩ rfl)
theorem cy_sub {post : Int32 → SY → Prop} {b : Nat} (hb1 : 1 ≤ b) (hb : b < 24) (hs : st b = 1) {st' hg' : Nat → Nat} {bw' : Nat → Int32} {gd' : Nat → Bool} (hy : cp_ys st' = cp_ys (cp_up st b 2)) (R : cp_RR ic so oc am hg' par cn tx st' sl wi lk wk bw' gd' pc po) (O : cp_RO par st') (htip : tip < 24) (gt : gd' tip = true) {F : Nat}
    (K : cp_bt gd' bw' (cp_up od b (ys + 1)) 24 ≠ tip → cp_Fk hg' par (cp_bt gd' bw' (cp_up od b (ys + 1)) 24) tip F)
    (H0 : cp_bt gd' bw' (cp_up od b (ys + 1)) 24 = tip → ∀ yn yw yp yl yt ho yk yq yo, post 0 ((ys + 1), yn, yw, nI pc, nI tip, cp_A ic, cp_A (cp_hf so), cp_A (cp_hm so), wi, cp_A oc, cp_A am, lk, cp_Bo sl, cp_A (cp_ys st'), cp_A par, wk, cp_A cn, cp_A tx, (cp_up od b (ys + 1)), yp, yl, yt, ho, yk, cp_A po, yq, yo))
    (H1 : cp_bt gd' bw' (cp_up od b (ys + 1)) 24 ≠ tip → ∀ pc' po' yn yw yp yl yt ho yk yq yo, (pc', po') = cp_fo ic so oc am hg' par cn tx sl wi lk (cp_bt gd' bw' (cp_up od b (ys + 1)) 24) (0, po) (cp_ql hg' par cn tx tip F (hg' tip + 1) ++ cp_pl po pc) → post 1 ((ys + 1), yn, yw, nI pc', nI (cp_bt gd' bw' (cp_up od b (ys + 1)) 24), cp_A ic, cp_A (cp_hf so), cp_A (cp_hm so), wi, cp_A oc, cp_A am, lk, cp_Bo sl, cp_A (cp_ys st'), cp_A par, wk, cp_A cn, cp_A tx, (cp_up od b (ys + 1)), yp, yl, yt, ho, yk, cp_A po', yq, yo)) : wpY_submit post (ys, yn, yw, nI pc, nI tip, cp_A ic, cp_A (cp_hf so), cp_A (cp_hm so), wi, cp_A oc, cp_A am, lk, cp_Bo sl, cp_A (cp_ys st), cp_A par, wk, cp_A cn, cp_A tx, od, yp, yl, yt, ho, yk, cp_A po, yq, yo) (nI b) := by
  have ib : vp_in (nI b) 24 := vp_in_nI hb (by decide)
  have ey : cp_ys st b = 1 := (cp_ysn (by omega)).trans hs
  refine cy_out (nI b) 1 23 (by decide) (by decide) (fun r hr => cp_TF_br hr (fun _ => ?_) (fun z => absurd ⟨b, hb1, by omega, rfl⟩ z))
  refine And.intro ib (pk_eq (cp_ys st b) 1 (fun _ => And.intro ib (nm_r (e' := cp_A (cp_ys st')) ?_ (nm_e (And.intro ib (nm_r (e' := cp_up od b (ys + 1)) ?_ ?_))))) (fun z => absurd ey z) (cp_rd (cp_ys st) (by omega)) rfl (by omega))
  · have z : upd (cp_A (cp_ys st)) (nI b).toNatClampNeg (nI 2) = cp_A (cp_up (cp_ys st) b 2) := cp_wr (cp_ys st) 2 (by omega)
    rw [← cp_ys_up st b 2 (by decide), ← hy] at z
    exact z
  · exact cp_ww od (ys + 1) (by omega)
  · exact cy_adv R O htip gt K (fun e yn yw yp yl yt ho yk yq yo => br_t rfl (H0 e yn yw yp yl yt ho yk yq yo)) (fun ne pc' po' yn yw yp yl yt ho yk yq yo _ hf => br_f (by decide) (H1 ne pc' po' yn yw yp yl yt ho yk yq yo hf))
end
end
section
/-! the small calls of both sides -/
theorem cp_up_up {α : Type} (f : Nat → α) (k : Nat) (a b : α) : cp_up (cp_up f k a) k b = cp_up f k b := by
  funext j
  by_cases e : j = k
  · rw [e, cp_up_s, cp_up_s]
  · rw [cp_up_n e, cp_up_n e, cp_up_n e]
theorem cp_up_id {α : Type} (f : Nat → α) (k : Nat) : cp_up f k (f k) = f := by
  funext j
  by_cases e : j = k
  · rw [e, cp_up_s]
  · rw [cp_up_n e]
theorem cy_outb {post : Int32 → Prop} (x : Int32) (a b : Nat) (ha : a < 2 ^ 31) (hb : b < 2 ^ 31) (hin : ∀ t, a ≤ t → t ≤ b → x = nI t → post 0) (hout : (¬ ∃ t, a ≤ t ∧ t ≤ b ∧ x = nI t) → post 1) : wpY_out post x (nI a) (nI b) := by
  refine cy_out x a b ha hb (fun r hr => ?_)
  by_cases z : ∃ t, a ≤ t ∧ t ≤ b ∧ x = nI t
  · rw [cp_TF_f hr (fun w => w z)]
    obtain ⟨t, h1, h2, e⟩ := z
    exact hin t h1 h2 e
  · rw [cp_TF_t hr z]
    exact hout z
theorem cx_isTb {post : Int32 → Prop} (x : Int32) (hin : ∀ t, t < 32 → x = nI t → post 1) (hout : (¬ ∃ t, t < 32 ∧ x = nI t) → post 0) : wpX_isTransaction post x := by
  refine cx_isT x (fun r hr => ?_)
  by_cases z : ∃ t, t < 32 ∧ x = nI t
  · rw [cp_TF_t hr z]
    obtain ⟨t, h1, e⟩ := z
    exact hin t h1 e
  · rw [cp_TF_f hr z]
    exact hout z
/-- a number from a to b: the two bounds tested one after the other, lower first -/
theorem cp_ab {x : Int32} {a b : Nat} (ha : a < 2 ^ 31) (hb : b < 2 ^ 31) {A B : Prop} (hin : ∀ t, a ≤ t → t ≤ b → x = nI t → B) (hout : (¬ ∃ t, a ≤ t ∧ t ≤ b ∧ x = nI t) → A) : (x < nI a → A) ∧ (¬ x < nI a → (nI b < x → A) ∧ (¬ nI b < x → B)) := by
  refine br_c (fun z => hout ?_) (fun z => br_c (fun y => hout ?_) (fun y => ?_))
  · rintro ⟨t, h1, h2, e⟩
    rw [e, nI_ltI (by omega) ha] at z
    omega
  · rintro ⟨t, h1, h2, e⟩
    rw [e, nI_ltI hb (by omega)] at y
    omega
  · have h0 : ¬ x < 0 := fun w => z (Int32.lt_of_lt_of_le w (nI_pos' ha))
    obtain ⟨j, hj, e⟩ := nI_of h0
    rw [e, nI_ltI hj ha] at z
    rw [e, nI_ltI hb hj] at y
    exact hin j (by omega) (by omega) e
theorem cx_isAm {post : Int32 → Prop} (x : Int32) (hin : ∀ t, 1 ≤ t → t ≤ 1000 → x = nI t → post 1) (hout : (¬ ∃ t, 1 ≤ t ∧ t ≤ 1000 ∧ x = nI t) → post 0) : wpX_isAmount post x :=
  cp_ab (a := 1) (b := 1000) (by decide) (by decide) hin hout
theorem cx_isWk {post : Int32 → Prop} (x : Int32) (hin : ∀ t, 1 ≤ t → t ≤ 15 → x = nI t → post 1) (hout : (¬ ∃ t, 1 ≤ t ∧ t ≤ 15 ∧ x = nI t) → post 0) : wpX_isWork post x :=
  cp_ab (a := 1) (b := 15) (by decide) (by decide) hin hout
theorem cx_isNm {post : Int32 → Prop} (x y : Int32) (hin : ∀ f p, f < 56 → p < 2 → x = nI f → y = nI p → post 1) (hout : ¬ ((∃ f, f < 56 ∧ x = nI f) ∧ (∃ p, p < 2 ∧ y = nI p)) → post 0) : wpX_isOutputName post x y := by
  rcases cp_rng x (n := 56) (by decide) with ⟨a, b⟩ | ⟨a, b, c⟩ | ⟨a, b, c⟩
  · exact br_t a (hout (fun w => b w.1))
  · exact br_f a (br_t b (hout (fun w => c w.1)))
  · rcases cp_rng y (n := 2) (by decide) with ⟨a', b'⟩ | ⟨a', b', c'⟩ | ⟨a', b', c'⟩
    · exact br_f a (br_f b (br_t a' (hout (fun w => b' w.2))))
    · exact br_f a (br_f b (br_f a' (br_t b' (hout (fun w => c' w.2)))))
    · obtain ⟨f, hf, ef⟩ := c
      obtain ⟨p, hp, ep⟩ := c'
      exact br_f a (br_f b (br_f a' (br_f b' (hin f p hf hp ef ep))))
section
variable {sb qc : Int32} {tip pc : Nat} {ic so oc am hg par cn tx st po : Nat → Nat} {sl gd : Nat → Bool} {wi lk wk bw od xo ch li sp qu sk : Nat → Int32}
theorem cx_isOp {post : Int32 → Prop} (x : Int32) (hin : ∀ t, t < 32 → x = nI t → sl t = false → post 1) (hout : (¬ ∃ t, t < 32 ∧ x = nI t ∧ sl t = false) → post 0) : wpX_isOpen post (sb, nI tip, nI pc, qc, cp_A ic, cp_A so, wi, xo, cp_Bo sl, cp_A am, lk, cp_A st, cp_A par, wk, cp_A cn, cp_A tx, od, cp_A hg, bw, cp_Bo gd, ch, cp_A po, li, sp, qu, sk) x := by
  unfold wpX_isOpen
  dsimp only
  refine cx_isTb x (fun t ht e => br_f (by decide) ?_) (fun z => br_t rfl (hout (fun ⟨t, h1, h2, _⟩ => z ⟨t, h1, h2⟩)))
  subst e
  have tb : cp_TF (cp_Bo sl (nI t).toNatClampNeg) (sl t = true) := by
    rw [cp_rb sl (by omega)]
    exact cp_TF_b _
  refine And.intro (vp_in_nI ht (by decide)) (cp_TF_br tb (fun z => hin t ht rfl ?_) (fun z => hout ?_))
  · cases h : sl t
    · rfl
    · exact absurd h z
  · rintro ⟨q, h1, h2, h3⟩
    rw [nI_eq (by omega) (by omega)] at h2
    rw [← h2, z] at h3
    exact nomatch h3
theorem cp_1b {x : Int32} {A B : Prop} (hin : ∀ b, 1 ≤ b → b < 24 → x = nI b → B) (hout : (¬ ∃ b, 1 ≤ b ∧ b < 24 ∧ x = nI b) → A) : (x ≤ 0 → A) ∧ (¬ x ≤ 0 → (24 ≤ x → A) ∧ (¬ 24 ≤ x → B)) := by
  rcases cp_rng x (n := 24) (by decide) with ⟨a, b⟩ | ⟨a, b, c⟩ | ⟨a, b, c⟩
  · exact br_t (Int32.le_of_lt a) (hout (fun ⟨t, h1, h2, h3⟩ => b ⟨t, h2, h3⟩))
  · refine br_f ?_ (br_t b (hout (fun ⟨t, h1, h2, h3⟩ => c ⟨t, h2, h3⟩)))
    intro z
    have : nI 24 ≤ nI 0 := Int32.le_trans b z
    rw [nI_leI (by decide) (by decide)] at this
    omega
  · obtain ⟨t, ht, e⟩ := c
    subst e
    refine pk_le t 0 (fun z => hout ?_) (fun z => pk_le 24 t (fun y => False.elim (by omega)) (fun y => hin t z ht rfl))
    rintro ⟨q, h1, h2, h3⟩
    rw [nI_eq (by omega) (by omega)] at h3
    omega
theorem cp_1c {x : Int32} {A B : Prop} (hin : ∀ b, 1 ≤ b → b < 24 → x = nI b → B) (hout : (¬ ∃ b, 1 ≤ b ∧ b < 24 ∧ x = nI b) → A) : (x ≤ 0 → A) ∧ (¬ x ≤ 0 → (x < 24 → B) ∧ (¬ x < 24 → A)) := by
  have z := cp_1b (x := x) hin hout
  exact ⟨z.1, fun w => ⟨fun y => (z.2 w).2 (Int32.not_le.mpr y), fun y => (z.2 w).1 (Int32.not_lt.mp y)⟩⟩
theorem cx_isUn {post : Int32 → Prop} (B : cp_RB ic so oc am hg par cn tx st sl wi lk) (x : Int32) (hin : ∀ b, 1 ≤ b → b < 24 → x = nI b → st b ≤ 1 → post 1) (hout : (¬ ∃ b, 1 ≤ b ∧ b < 24 ∧ x = nI b ∧ st b ≤ 1) → post 0) : wpX_isUnsubmitted post (sb, nI tip, nI pc, qc, cp_A ic, cp_A so, wi, xo, cp_Bo sl, cp_A am, lk, cp_A st, cp_A par, wk, cp_A cn, cp_A tx, od, cp_A hg, bw, cp_Bo gd, ch, cp_A po, li, sp, qu, sk) x := by
  refine cp_1c (fun b h1 h2 e => ?_) (fun z => hout (fun ⟨t, h1, h2, h3, _⟩ => z ⟨t, h1, h2, h3⟩))
  subst e
  have s := cp_RB_st B b
  have ib : vp_in (nI b) 24 := vp_in_nI h2 (by decide)
  refine And.intro ib (pk_eq (st b) 0 (fun e => hin b h1 h2 rfl (by omega)) (fun e => And.intro ib (pk_eq (st b) 1 (fun e => hin b h1 h2 rfl (by omega)) (fun e2 => hout ?_) (cp_rd st (by omega)) rfl)) (cp_rd st (by omega)) rfl)
  rintro ⟨q, q1, q2, q3, q4⟩
  rw [nI_eq (by omega) (by omega)] at q3
  rw [← q3] at q4
  omega
theorem cx_isDr {post : Int32 → Prop} (B : cp_RB ic so oc am hg par cn tx st sl wi lk) (x : Int32) (hin : ∀ b, 1 ≤ b → b < 24 → x = nI b → st b = 1 → post 1) (hout : (¬ ∃ b, 1 ≤ b ∧ b < 24 ∧ x = nI b ∧ st b = 1) → post 0) : wpX_isDraft post (sb, nI tip, nI pc, qc, cp_A ic, cp_A so, wi, xo, cp_Bo sl, cp_A am, lk, cp_A st, cp_A par, wk, cp_A cn, cp_A tx, od, cp_A hg, bw, cp_Bo gd, ch, cp_A po, li, sp, qu, sk) x := by
  refine cp_1b (fun b h1 h2 e => ?_) (fun z => hout (fun ⟨t, h1, h2, h3, _⟩ => z ⟨t, h1, h2, h3⟩))
  subst e
  have s := cp_RB_st B b
  refine And.intro (vp_in_nI h2 (by decide)) (pk_eq (st b) 1 (fun e => hin b h1 h2 rfl e) (fun e => hout ?_) (cp_rd st (by omega)) rfl)
  rintro ⟨q, q1, q2, q3, q4⟩
  rw [nI_eq (by omega) (by omega)] at q3
  rw [← q3] at q4
  exact e q4
theorem cp_cbo (b : Nat) : (2 : Int32) * (32 + nI b) = nI (64 + 2 * b) := by
  rw [show (32 : Int32) + nI b = nI (32 + b) from nI_add 32 b, cp_2m]
  exact congrArg nI (by omega)
theorem cx_scb {post : SX → Prop} {b a : Nat} {l : Int32} (hb : b < 24) (H : post (sb, nI tip, nI pc, qc, cp_A ic, cp_A so, wi, xo, cp_Bo sl, cp_A (cp_up am (64 + 2 * b) a), (cp_up lk (64 + 2 * b) l), cp_A st, cp_A par, wk, cp_A cn, cp_A tx, od, cp_A hg, bw, cp_Bo gd, ch, cp_A po, li, sp, qu, sk)) : wpX_setCoinbase post (sb, nI tip, nI pc, qc, cp_A ic, cp_A so, wi, xo, cp_Bo sl, cp_A am, lk, cp_A st, cp_A par, wk, cp_A cn, cp_A tx, od, cp_A hg, bw, cp_Bo gd, ch, cp_A po, li, sp, qu, sk) (nI b) (nI a) l := by
  have e := cp_cbo b
  have i : vp_in ((2 : Int32) * (32 + nI b)) 112 := pk_in (64 + 2 * b) 112 (by omega) e
  refine And.intro i (nm_r (e' := cp_A (cp_up am (64 + 2 * b) a)) (by rw [e, cp_wr am a (by omega)]) (And.intro i (nm_r (e' := cp_up lk (64 + 2 * b) l) (by rw [e, cp_ww lk l (by omega)]) H)))
theorem cx_dr {post : SX → Prop} {b p : Nat} {w : Int32} (hb : b < 24) (H : post (sb, nI tip, nI pc, qc, cp_A ic, cp_A so, wi, xo, cp_Bo sl, cp_A (cp_up am (64 + 2 * b) 50), (cp_up lk (64 + 2 * b) 1), cp_A (cp_up st b 1), cp_A (cp_up par b p), (cp_up wk b w), cp_A (cp_up cn b 0), cp_A tx, od, cp_A hg, bw, cp_Bo gd, ch, cp_A po, li, sp, qu, sk)) : wpX_draft post (sb, nI tip, nI pc, qc, cp_A ic, cp_A so, wi, xo, cp_Bo sl, cp_A am, lk, cp_A st, cp_A par, wk, cp_A cn, cp_A tx, od, cp_A hg, bw, cp_Bo gd, ch, cp_A po, li, sp, qu, sk) (nI b) (nI p) w := by
  have ib : vp_in (nI b) 24 := vp_in_nI hb (by decide)
  exact And.intro ib (nm_r (cp_wr st 1 (by omega)) (And.intro ib (nm_r (cp_wr par p (by omega)) (And.intro ib (nm_r (cp_ww wk w (by omega)) (And.intro ib (nm_r (cp_wr cn 0 (by omega)) (cx_scb (a := 50) hb H))))))))
theorem cx_apd {post : SX → Prop} {b t : Nat} (hb : b < 24) (hc : cn b < 3) (H : post (sb, nI tip, nI pc, qc, cp_A ic, cp_A so, wi, xo, cp_Bo sl, cp_A am, lk, cp_A st, cp_A par, wk, cp_A (cp_up cn b (cn b + 1)), cp_A (cp_up tx (3 * b + cn b) t), od, cp_A hg, bw, cp_Bo gd, ch, cp_A po, li, sp, qu, sk)) : wpX_append post (sb, nI tip, nI pc, qc, cp_A ic, cp_A so, wi, xo, cp_Bo sl, cp_A am, lk, cp_A st, cp_A par, wk, cp_A cn, cp_A tx, od, cp_A hg, bw, cp_Bo gd, ch, cp_A po, li, sp, qu, sk) (nI b) (nI t) := by
  have ib : vp_in (nI b) 24 := vp_in_nI hb (by decide)
  have e : (3 : Int32) * nI b + cp_A cn (nI b).toNatClampNeg = nI (3 * b + cn b) := by
    rw [cp_rd cn (by omega), cp_3a]
  refine And.intro ib (And.intro (pk_in (3 * b + cn b) 72 (by omega) e) (nm_r (e' := cp_A (cp_up tx (3 * b + cn b) t)) (by rw [e, cp_wr tx t (by omega)]) (And.intro ib (And.intro ib (nm_r (e' := cp_A (cp_up cn b (cn b + 1))) (by rw [cp_rd cn (by omega), nI_1, cp_wr cn _ (by omega)]) H)))))
end
section
variable {ys yn yw : Int32} {tip pc : Nat} {ic so oc am hg par cn tx st po : Nat → Nat} {sl gd : Nat → Bool} {wi lk wk bw od yp yl yt ho yk yq yo : Nat → Int32}
theorem cy_dr {post : SY → Prop} {b p : Nat} {w : Int32} (hb : b < 24) (H : post (ys, yn, yw, nI pc, nI tip, cp_A ic, cp_A (cp_hf so), cp_A (cp_hm so), wi, cp_A (cp_up oc (32 + b) 1), cp_A (cp_up am (64 + 2 * b) 50), (cp_up lk (64 + 2 * b) 1), cp_Bo sl, cp_A (cp_ys (cp_up st b 1)), cp_A (cp_up par b p), (cp_up wk b w), cp_A (cp_up cn b 0), cp_A tx, od, yp, yl, yt, ho, yk, cp_A po, yq, yo)) : wpY_draft post (ys, yn, yw, nI pc, nI tip, cp_A ic, cp_A (cp_hf so), cp_A (cp_hm so), wi, cp_A oc, cp_A am, lk, cp_Bo sl, cp_A (cp_ys st), cp_A par, wk, cp_A cn, cp_A tx, od, yp, yl, yt, ho, yk, cp_A po, yq, yo) (nI b) (nI p) w := by
  have ib : vp_in (nI b) 24 := vp_in_nI hb (by decide)
  have e := cp_64 b
  have e2 : (32 : Int32) + nI b = nI (32 + b) := nI_add 32 b
  have i : vp_in ((64 : Int32) + (2 : Int32) * nI b) 112 := pk_in (64 + 2 * b) 112 (by omega) e
  have es : upd (cp_A (cp_ys st)) (nI b).toNatClampNeg (nI 1) = cp_A (cp_ys (cp_up st b 1)) := by
    rw [cp_wr (cp_ys st) 1 (by omega), cp_ys_up st b 1 (by decide)]
  have eo : upd (cp_A oc) ((32 : Int32) + nI b).toNatClampNeg (nI 1) = cp_A (cp_up oc (32 + b) 1) := by
    rw [e2, cp_wr oc 1 (by omega)]
  have ea : upd (cp_A am) ((64 : Int32) + (2 : Int32) * nI b).toNatClampNeg (nI 50) = cp_A (cp_up am (64 + 2 * b) 50) := by
    rw [e, cp_wr am 50 (by omega)]
  refine And.intro ib (nm_r es (And.intro ib (nm_r (cp_wr par p (by omega)) (And.intro ib (nm_r (cp_ww wk w (by omega)) (And.intro ib (nm_r (cp_wr cn 0 (by omega)) (And.intro (pk_in (32 + b) 56 (by omega) e2) (nm_r eo (And.intro i (nm_r ea (And.intro i (nm_r (e' := cp_up lk (64 + 2 * b) 1) (by rw [e, cp_ww lk 1 (by omega)]) H)))))))))))))
end
end
section
/-! the relation, the first owed statements -/
def i_Rel (k : Nat) (u : SX) (v : SY) : Prop := ∃ (sb qc ys yn yw : Int32) (tip pc : Nat) (ic so oc am hg par cn tx st po : Nat → Nat) (sl gd : Nat → Bool) (wi lk wk bw od xo ch li sp qu sk yp yl yt ho yk yq yo : Nat → Int32), u = (sb, nI tip, nI pc, qc, cp_A ic, cp_A so, wi, xo, cp_Bo sl, cp_A am, lk, cp_A st, cp_A par, wk, cp_A cn, cp_A tx, od, cp_A hg, bw, cp_Bo gd, ch, cp_A po, li, sp, qu, sk) ∧ v = (ys, yn, yw, nI pc, nI tip, cp_A ic, cp_A (cp_hf so), cp_A (cp_hm so), wi, cp_A oc, cp_A am, lk, cp_Bo sl, cp_A (cp_ys st), cp_A par, wk, cp_A cn, cp_A tx, od, yp, yl, yt, ho, yk, cp_A po, yq, yo) ∧
  cp_RR ic so oc am hg par cn tx st sl wi lk wk bw gd pc po ∧ tip < 24 ∧ gd tip = true ∧ cp_RC hg par tip ch ∧ cp_RO par st ∧ sb = ys + 1 ∧ ∀ t, t < 32 → xo t = nI (oc t)
theorem i_up {k : Nat} {u : SX} {v : SY} (h : i_Rel k u v) : i_Rel (k + 5) u v := h
section
variable {sb qc ys yn yw : Int32} {tip pc : Nat} {ic so oc am hg par cn tx st po : Nat → Nat} {sl gd : Nat → Bool} {wi lk wk bw od xo ch li sp qu sk yp yl yt ho yk yq yo : Nat → Int32} {k : Nat}
theorem cp_mk (R : cp_RR ic so oc am hg par cn tx st sl wi lk wk bw gd pc po) (htip : tip < 24) (gt : gd tip = true) (RC : cp_RC hg par tip ch) (O : cp_RO par st) (hsb : sb = ys + 1) (hxo : ∀ t, t < 32 → xo t = nI (oc t)) : i_Rel k (sb, nI tip, nI pc, qc, cp_A ic, cp_A so, wi, xo, cp_Bo sl, cp_A am, lk, cp_A st, cp_A par, wk, cp_A cn, cp_A tx, od, cp_A hg, bw, cp_Bo gd, ch, cp_A po, li, sp, qu, sk) (ys, yn, yw, nI pc, nI tip, cp_A ic, cp_A (cp_hf so), cp_A (cp_hm so), wi, cp_A oc, cp_A am, lk, cp_Bo sl, cp_A (cp_ys st), cp_A par, wk, cp_A cn, cp_A tx, od, yp, yl, yt, ho, yk, cp_A po, yq, yo) :=
  ⟨sb, qc, ys, yn, yw, tip, pc, ic, so, oc, am, hg, par, cn, tx, st, po, sl, gd, wi, lk, wk, bw, od, xo, ch, li, sp, qu, sk, yp, yl, yt, ho, yk, yq, yo, rfl, rfl, R, htip, gt, RC, O, hsb, hxo⟩
theorem cp_RC_par {par' : Nat → Nat} (T : cp_Tr hg par st) (htip : tip < 24) (ct : st tip = 3) (h : ∀ c, c < 24 → st c = 3 → par' c = par c) (RC : cp_RC hg par tip ch) : cp_RC hg par' tip ch := by
  have f : cp_Fr (fun _ => 0) (fun _ => 0) (fun _ => 0) (fun _ => 0) hg par (fun _ => 0) (fun _ => 0) st (fun _ => false) (fun _ => 0) (fun _ => 0) (fun _ => 0) (fun _ => 0) (fun _ => 0) (fun _ => 0) hg par' (fun _ => 0) (fun _ => 0) st (fun _ => false) (fun _ => 0) (fun _ => 0) :=
    ⟨fun q hq s => ⟨s, rfl, fun _ _ => ⟨rfl, rfl⟩⟩, fun c hc cc => ⟨cc, h c hc cc, rfl, rfl, fun _ _ => rfl⟩, fun j _ => ⟨rfl, fun _ _ => ⟨rfl, rfl⟩⟩⟩
  intro i hi
  rw [cp_pt_fr T f (hg tip) tip htip ct rfl i hi]
  exact RC i hi
theorem cp_TFs {t : Nat} (ht : t < 32) : cp_TF (cp_Bo sl (nI t).toNatClampNeg) (sl t = true) := by
  rw [cp_rb sl (by omega)]
  exact cp_TF_b _
theorem cp_nt {b : Bool} (h : b = false) : ¬ b = true := fun e => by rw [h] at e; exact nomatch e
theorem cp_tn {b : Bool} (h : ¬ b = true) : b = false := by
  cases b
  · rfl
  · exact absurd rfl h
/-! input -/
theorem cy_in_r {post : Int32 → SY → Prop} {v1 v2 v3 v4 : Int32} (z : ¬ ((∃ t, t < 32 ∧ v1 = nI t ∧ sl t = false) ∧ (∃ f, f < 56 ∧ v2 = nI f) ∧ (∃ p, p < 2 ∧ v3 = nI p))) (H : post (-1) (ys, yn, yw, nI pc, nI tip, cp_A ic, cp_A (cp_hf so), cp_A (cp_hm so), wi, cp_A oc, cp_A am, lk, cp_Bo sl, cp_A (cp_ys st), cp_A par, wk, cp_A cn, cp_A tx, od, yp, yl, yt, ho, yk, cp_A po, yq, yo)) : wpY_input post (ys, yn, yw, nI pc, nI tip, cp_A ic, cp_A (cp_hf so), cp_A (cp_hm so), wi, cp_A oc, cp_A am, lk, cp_Bo sl, cp_A (cp_ys st), cp_A par, wk, cp_A cn, cp_A tx, od, yp, yl, yt, ho, yk, cp_A po, yq, yo) v1 v2 v3 v4 := by
  unfold wpY_input
  dsimp only
  refine cy_outb v1 0 31 (by decide) (by decide) (fun t h1 h2 e => br_t rfl (cy_outb v2 0 55 (by decide) (by decide) (fun f g1 g2 e2 => br_t rfl (cy_outb v3 0 1 (by decide) (by decide) (fun p q1 q2 e3 => br_t rfl ?_) (fun _ => br_f (by decide) H))) (fun _ => br_f (by decide) H))) (fun _ => br_f (by decide) H)
  subst e
  refine And.intro (vp_in_nI (by omega) (by decide)) (cp_TF_br (cp_TFs (by omega)) (fun w => absurd ⟨⟨t, by omega, rfl, cp_tn w⟩, ⟨f, by omega, e2⟩, ⟨p, by omega, e3⟩⟩ z) (fun _ => H))
theorem cy_in_k {post : Int32 → SY → Prop} {t f p : Nat} {w : Int32} (ht : t < 32) (ns : sl t = false) (hf : f < 56) (hp : p < 2) (hc : ic t ≤ 2) (H2 : ic t = 2 → post (-2) (ys, yn, yw, nI pc, nI tip, cp_A ic, cp_A (cp_hf so), cp_A (cp_hm so), wi, cp_A oc, cp_A am, lk, cp_Bo sl, cp_A (cp_ys st), cp_A par, wk, cp_A cn, cp_A tx, od, yp, yl, yt, ho, yk, cp_A po, yq, yo)) (H : ic t ≠ 2 → post (nI (ic t + 1)) (ys, yn, yw, nI pc, nI tip, cp_A (cp_up ic t (ic t + 1)), cp_A (cp_hf (cp_up so (2 * t + ic t) (2 * f + p))), cp_A (cp_hm (cp_up so (2 * t + ic t) (2 * f + p))), (cp_up wi (2 * t + ic t) w), cp_A oc, cp_A am, lk, cp_Bo sl, cp_A (cp_ys st), cp_A par, wk, cp_A cn, cp_A tx, od, yp, yl, yt, ho, yk, cp_A po, yq, yo)) : wpY_input post (ys, yn, yw, nI pc, nI tip, cp_A ic, cp_A (cp_hf so), cp_A (cp_hm so), wi, cp_A oc, cp_A am, lk, cp_Bo sl, cp_A (cp_ys st), cp_A par, wk, cp_A cn, cp_A tx, od, yp, yl, yt, ho, yk, cp_A po, yq, yo) (nI t) (nI f) (nI p) w := by
  have i32 : vp_in (nI t) 32 := vp_in_nI ht (by decide)
  have e : (2 : Int32) * nI t + cp_A ic (nI t).toNatClampNeg = nI (2 * t + ic t) := by
    rw [cp_rd ic (by omega), cp_2a]
  unfold wpY_input
  dsimp only
  refine cy_outb (nI t) 0 31 (by decide) (by decide) (fun _ _ _ _ => br_t rfl (cy_outb (nI f) 0 55 (by decide) (by decide) (fun _ _ _ _ => br_t rfl (cy_outb (nI p) 0 1 (by decide) (by decide) (fun _ _ _ _ => br_t rfl ?_) (fun z => absurd ⟨p, by omega, by omega, rfl⟩ z))) (fun z => absurd ⟨f, by omega, by omega, rfl⟩ z))) (fun z => absurd ⟨t, by omega, by omega, rfl⟩ z)
  refine And.intro i32 (cp_TF_br (cp_TFs ht) (fun _ => And.intro i32 (pk_eq (ic t) 2 (fun e2 => H2 e2) (fun n2 => ?_) (cp_rd ic (by omega)) rfl)) (fun w => absurd w (cp_nt ns)))
  have i64 : vp_in (nI (2 * t + ic t)) 64 := vp_in_nI (by omega) (by decide)
  refine And.intro i32 (nm_r e (And.intro i64 (nm_r (e' := cp_A (cp_hf (cp_up so (2 * t + ic t) (2 * f + p)))) ?_ (And.intro i64 (nm_r (e' := cp_A (cp_hm (cp_up so (2 * t + ic t) (2 * f + p)))) ?_ (And.intro i64 (nm_r (cp_ww wi w (by omega)) (And.intro i32 (And.intro i32 (nm_r (e' := cp_A (cp_up ic t (ic t + 1))) ?_ (And.intro i32 ?_)))))))))))
  · rw [cp_wr (cp_hf so) f (by omega), cp_hf_up so _ f p hp]
  · rw [cp_wr (cp_hm so) p (by omega), cp_hm_up so _ f p hp]
  · rw [cp_rd ic (by omega), nI_1, cp_wr ic _ (by omega)]
  · rw [cp_rd _ (by omega), cp_up_s]
    exact H n2
end
theorem i_vc_input {k : Nat} {u : SX} {v : SY} (I : i_Rel k u v) (hk : k + 5 ≤ 2560) (v1 : Int32) (v2 : Int32) (v3 : Int32) (v4 : Int32) : wpX_input (fun r u' => wpY_input (fun r' v' => r' = r ∧ i_Rel (k + 5) u' v') v v1 v2 v3 v4) u v1 v2 v3 v4 := by
  obtain ⟨sb, qc, ys, yn, yw, tip, pc, ic, so, oc, am, hg, par, cn, tx, st, po, sl, gd, wi, lk, wk, bw, od, xo, ch, li, sp, qu, sk, yp, yl, yt, ho, yk, yq, yo, rfl, rfl, R, htip, gt, RC, O, hsb, hxo⟩ := I
  have I' : i_Rel (k + 5) (sb, nI tip, nI pc, qc, cp_A ic, cp_A so, wi, xo, cp_Bo sl, cp_A am, lk, cp_A st, cp_A par, wk, cp_A cn, cp_A tx, od, cp_A hg, bw, cp_Bo gd, ch, cp_A po, li, sp, qu, sk) (ys, yn, yw, nI pc, nI tip, cp_A ic, cp_A (cp_hf so), cp_A (cp_hm so), wi, cp_A oc, cp_A am, lk, cp_Bo sl, cp_A (cp_ys st), cp_A par, wk, cp_A cn, cp_A tx, od, yp, yl, yt, ho, yk, cp_A po, yq, yo) := cp_mk R htip gt RC O hsb hxo
  unfold wpX_input
  dsimp only
  refine cx_isOp v1 (fun t ht e ns => br_f (by decide) (cx_isNm v2 v3 (fun f p hf hp e2 e3 => br_f (by decide) ?_) (fun z => br_t rfl (cy_in_r (fun w => z w.2) ⟨rfl, I'⟩)))) (fun z => br_t rfl (cy_in_r (fun w => z w.1) ⟨rfl, I'⟩))
  subst e e2 e3
  have c := cp_RB_ic R.1 t
  have i64 : ic t < 2 → vp_in ((2 : Int32) * nI t + nI (ic t)) 64 := fun z => pk_in (2 * t + ic t) 64 (by omega) (cp_2a t _)
  refine And.intro (vp_in_nI ht (by decide)) (nm_r (cp_rd ic (by omega)) (pk_lt (ic t) 2 (fun z => And.intro (i64 z) (nm_r (e' := cp_A (cp_up so (2 * t + ic t) (2 * f + p))) ?_ (And.intro (i64 z) (nm_r (e' := cp_up wi (2 * t + ic t) v4) ?_ (And.intro (vp_in_nI ht (by decide)) (nm_r (e' := cp_A (cp_up ic t (ic t + 1))) ?_ ?_)))))) (fun z => ?_)))
  · rw [cp_2a, cp_2a, cp_wr so _ (by omega)]
  · rw [cp_2a, cp_ww wi _ (by omega)]
  · rw [nI_1, cp_wr ic _ (by omega)]
  · exact cy_in_k ht ns hf hp c (fun e => by omega) (fun _ => ⟨(nI_1 _).symm, cp_mk (cp_s_in R ht ns z (by omega)) htip gt RC O hsb hxo⟩)
  · exact cy_in_k ht ns hf hp c (fun e => ⟨rfl, I'⟩) (fun n2 => by omega)
/-! output -/
section
variable {sb qc ys yn yw : Int32} {tip pc : Nat} {ic so oc am hg par cn tx st po : Nat → Nat} {sl gd : Nat → Bool} {wi lk wk bw od xo ch li sp qu sk yp yl yt ho yk yq yo : Nat → Int32} {k : Nat}
theorem cy_ou_r {post : Int32 → SY → Prop} {v1 v2 v3 : Int32} (z : ¬ ((∃ t, t < 32 ∧ v1 = nI t ∧ sl t = false) ∧ (∃ a, 1 ≤ a ∧ a ≤ 1000 ∧ v2 = nI a))) (H : post (-1) (ys, yn, yw, nI pc, nI tip, cp_A ic, cp_A (cp_hf so), cp_A (cp_hm so), wi, cp_A oc, cp_A am, lk, cp_Bo sl, cp_A (cp_ys st), cp_A par, wk, cp_A cn, cp_A tx, od, yp, yl, yt, ho, yk, cp_A po, yq, yo)) : wpY_output post (ys, yn, yw, nI pc, nI tip, cp_A ic, cp_A (cp_hf so), cp_A (cp_hm so), wi, cp_A oc, cp_A am, lk, cp_Bo sl, cp_A (cp_ys st), cp_A par, wk, cp_A cn, cp_A tx, od, yp, yl, yt, ho, yk, cp_A po, yq, yo) v1 v2 v3 := by
  unfold wpY_output
  dsimp only
  refine cy_outb v1 0 31 (by decide) (by decide) (fun t h1 h2 e => br_t rfl (cy_outb v2 1 1000 (by decide) (by decide) (fun f g1 g2 e2 => br_t rfl ?_) (fun _ => br_f (by decide) H))) (fun _ => br_f (by decide) H)
  subst e
  refine And.intro (vp_in_nI (by omega) (by decide)) (cp_TF_br (cp_TFs (by omega)) (fun w => absurd ⟨⟨t, by omega, rfl, cp_tn w⟩, ⟨f, g1, g2, e2⟩⟩ z) (fun _ => H))
theorem cy_ou_k {post : Int32 → SY → Prop} {t a : Nat} {l : Int32} (ht : t < 32) (ns : sl t = false) (h1 : 1 ≤ a) (h2 : a ≤ 1000) (hc : oc t ≤ 2) (H2 : oc t = 2 → post (-2) (ys, yn, yw, nI pc, nI tip, cp_A ic, cp_A (cp_hf so), cp_A (cp_hm so), wi, cp_A oc, cp_A am, lk, cp_Bo sl, cp_A (cp_ys st), cp_A par, wk, cp_A cn, cp_A tx, od, yp, yl, yt, ho, yk, cp_A po, yq, yo)) (H : oc t ≠ 2 → post (nI (oc t + 1)) (ys, yn, yw, nI pc, nI tip, cp_A ic, cp_A (cp_hf so), cp_A (cp_hm so), wi, cp_A (cp_up oc t (oc t + 1)), cp_A (cp_up am (2 * t + oc t) a), (cp_up lk (2 * t + oc t) l), cp_Bo sl, cp_A (cp_ys st), cp_A par, wk, cp_A cn, cp_A tx, od, yp, yl, yt, ho, yk, cp_A po, yq, yo)) : wpY_output post (ys, yn, yw, nI pc, nI tip, cp_A ic, cp_A (cp_hf so), cp_A (cp_hm so), wi, cp_A oc, cp_A am, lk, cp_Bo sl, cp_A (cp_ys st), cp_A par, wk, cp_A cn, cp_A tx, od, yp, yl, yt, ho, yk, cp_A po, yq, yo) (nI t) (nI a) l := by
  have i32 : vp_in (nI t) 32 := vp_in_nI ht (by decide)
  have i56 : vp_in (nI t) 56 := vp_in_nI (by omega) (by decide)
  have e : (2 : Int32) * nI t + cp_A oc (nI t).toNatClampNeg = nI (2 * t + oc t) := by
    rw [cp_rd oc (by omega), cp_2a]
  unfold wpY_output
  dsimp only
  refine cy_outb (nI t) 0 31 (by decide) (by decide) (fun _ _ _ _ => br_t rfl (cy_outb (nI a) 1 1000 (by decide) (by decide) (fun _ _ _ _ => br_t rfl ?_) (fun z => absurd ⟨a, h1, h2, rfl⟩ z))) (fun z => absurd ⟨t, by omega, by omega, rfl⟩ z)
  refine And.intro i32 (cp_TF_br (cp_TFs ht) (fun _ => And.intro i56 (pk_eq (oc t) 2 (fun e2 => H2 e2) (fun n2 => ?_) (cp_rd oc (by omega)) rfl)) (fun w => absurd w (cp_nt ns)))
  have i112 : vp_in (nI (2 * t + oc t)) 112 := vp_in_nI (by omega) (by decide)
  refine And.intro i56 (nm_r e (And.intro i112 (nm_r (cp_wr am a (by omega)) (And.intro i112 (nm_r (cp_ww lk l (by omega)) (And.intro i56 (And.intro i56 (nm_r (e' := cp_A (cp_up oc t (oc t + 1))) ?_ (And.intro i56 ?_)))))))))
  · rw [cp_rd oc (by omega), nI_1, cp_wr oc _ (by omega)]
  · rw [cp_rd _ (by omega), cp_up_s]
    exact H n2
end
theorem i_vc_output {k : Nat} {u : SX} {v : SY} (I : i_Rel k u v) (hk : k + 5 ≤ 2560) (v1 : Int32) (v2 : Int32) (v3 : Int32) : wpX_output (fun r u' => wpY_output (fun r' v' => r' = r ∧ i_Rel (k + 5) u' v') v v1 v2 v3) u v1 v2 v3 := by
  obtain ⟨sb, qc, ys, yn, yw, tip, pc, ic, so, oc, am, hg, par, cn, tx, st, po, sl, gd, wi, lk, wk, bw, od, xo, ch, li, sp, qu, sk, yp, yl, yt, ho, yk, yq, yo, rfl, rfl, R, htip, gt, RC, O, hsb, hxo⟩ := I
  have I' : i_Rel (k + 5) (sb, nI tip, nI pc, qc, cp_A ic, cp_A so, wi, xo, cp_Bo sl, cp_A am, lk, cp_A st, cp_A par, wk, cp_A cn, cp_A tx, od, cp_A hg, bw, cp_Bo gd, ch, cp_A po, li, sp, qu, sk) (ys, yn, yw, nI pc, nI tip, cp_A ic, cp_A (cp_hf so), cp_A (cp_hm so), wi, cp_A oc, cp_A am, lk, cp_Bo sl, cp_A (cp_ys st), cp_A par, wk, cp_A cn, cp_A tx, od, yp, yl, yt, ho, yk, cp_A po, yq, yo) := cp_mk R htip gt RC O hsb hxo
  unfold wpX_output
  dsimp only
  refine cx_isOp v1 (fun t ht e ns => br_f (by decide) (cx_isAm v2 (fun a h1 h2 e2 => br_f (by decide) ?_) (fun z => br_t rfl (cy_ou_r (fun w => z w.2) ⟨rfl, I'⟩)))) (fun z => br_t rfl (cy_ou_r (fun w => z w.1) ⟨rfl, I'⟩))
  subst e e2
  have c := cp_RB_oc R.1 t
  have e0 : xo (nI t).toNatClampNeg = nI (oc t) := by
    rw [nI_clamp (by omega)]
    exact hxo t ht
  have i112 : oc t < 2 → vp_in ((2 : Int32) * nI t + nI (oc t)) 112 := fun z => pk_in (2 * t + oc t) 112 (by omega) (cp_2a t _)
  refine And.intro (vp_in_nI ht (by decide)) (nm_r e0 (pk_lt (oc t) 2 (fun z => And.intro (i112 z) (nm_r (e' := cp_A (cp_up am (2 * t + oc t) a)) ?_ (And.intro (i112 z) (nm_r (e' := cp_up lk (2 * t + oc t) v3) ?_ (And.intro (vp_in_nI ht (by decide)) (nm_r (e' := cp_up xo t (nI (oc t + 1))) ?_ ?_)))))) (fun z => ?_)))
  · rw [cp_2a, cp_wr am _ (by omega)]
  · rw [cp_2a, cp_ww lk _ (by omega)]
  · rw [nI_1, cp_ww xo _ (by omega)]
  · refine cy_ou_k ht ns h1 h2 c (fun e => by omega) (fun _ => ⟨(nI_1 _).symm, cp_mk (cp_s_out R ht ns z h1 h2) htip gt RC O hsb ?_⟩)
    intro q hq
    by_cases e : q = t
    · rw [e, cp_up_s, cp_up_s]
    · rw [cp_up_n e, cp_up_n e]
      exact hxo q hq
  · exact cy_ou_k ht ns h1 h2 c (fun e => ⟨rfl, I'⟩) (fun n2 => by omega)
/-! seal -/
section
variable {sb qc ys yn yw : Int32} {tip pc : Nat} {ic so oc am hg par cn tx st po : Nat → Nat} {sl gd : Nat → Bool} {wi lk wk bw od xo ch li sp qu sk yp yl yt ho yk yq yo : Nat → Int32} {k : Nat}
theorem cy_se_r {post : Int32 → SY → Prop} {v1 : Int32} (z : ¬ (∃ t, t < 32 ∧ v1 = nI t ∧ sl t = false)) (H : post (-1) (ys, yn, yw, nI pc, nI tip, cp_A ic, cp_A (cp_hf so), cp_A (cp_hm so), wi, cp_A oc, cp_A am, lk, cp_Bo sl, cp_A (cp_ys st), cp_A par, wk, cp_A cn, cp_A tx, od, yp, yl, yt, ho, yk, cp_A po, yq, yo)) : wpY_seal post (ys, yn, yw, nI pc, nI tip, cp_A ic, cp_A (cp_hf so), cp_A (cp_hm so), wi, cp_A oc, cp_A am, lk, cp_Bo sl, cp_A (cp_ys st), cp_A par, wk, cp_A cn, cp_A tx, od, yp, yl, yt, ho, yk, cp_A po, yq, yo) v1 := by
  unfold wpY_seal
  dsimp only
  refine cy_outb v1 0 31 (by decide) (by decide) (fun t h1 h2 e => br_t rfl ?_) (fun _ => br_f (by decide) H)
  subst e
  refine And.intro (vp_in_nI (by omega) (by decide)) (cp_TF_br (cp_TFs (by omega)) (fun w => absurd ⟨t, by omega, rfl, cp_tn w⟩ z) (fun _ => H))
theorem cy_se_k {post : Int32 → SY → Prop} {t : Nat} (ht : t < 32) (ns : sl t = false) (H : post (nI (ic t) + nI (oc t)) (ys, yn, yw, nI pc, nI tip, cp_A ic, cp_A (cp_hf so), cp_A (cp_hm so), wi, cp_A oc, cp_A am, lk, cp_Bo (cp_up sl t true), cp_A (cp_ys st), cp_A par, wk, cp_A cn, cp_A tx, od, yp, yl, yt, ho, yk, cp_A po, yq, yo)) : wpY_seal post (ys, yn, yw, nI pc, nI tip, cp_A ic, cp_A (cp_hf so), cp_A (cp_hm so), wi, cp_A oc, cp_A am, lk, cp_Bo sl, cp_A (cp_ys st), cp_A par, wk, cp_A cn, cp_A tx, od, yp, yl, yt, ho, yk, cp_A po, yq, yo) (nI t) := by
  have i32 : vp_in (nI t) 32 := vp_in_nI ht (by decide)
  unfold wpY_seal
  dsimp only
  refine cy_outb (nI t) 0 31 (by decide) (by decide) (fun _ _ _ _ => br_t rfl ?_) (fun z => absurd ⟨t, by omega, by omega, rfl⟩ z)
  refine And.intro i32 (cp_TF_br (cp_TFs ht) (fun _ => And.intro i32 (nm_r (cp_wb sl true (by omega)) (And.intro i32 (And.intro (vp_in_nI (by omega) (by decide)) ?_)))) (fun w => absurd w (cp_nt ns)))
  rw [cp_rd ic (by omega), cp_rd oc (by omega)]
  exact H
end
theorem i_vc_seal {k : Nat} {u : SX} {v : SY} (I : i_Rel k u v) (hk : k + 5 ≤ 2560) (v1 : Int32) : wpX_seal (fun r u' => wpY_seal (fun r' v' => r' = r ∧ i_Rel (k + 5) u' v') v v1) u v1 := by
  obtain ⟨sb, qc, ys, yn, yw, tip, pc, ic, so, oc, am, hg, par, cn, tx, st, po, sl, gd, wi, lk, wk, bw, od, xo, ch, li, sp, qu, sk, yp, yl, yt, ho, yk, yq, yo, rfl, rfl, R, htip, gt, RC, O, hsb, hxo⟩ := I
  have I' : i_Rel (k + 5) (sb, nI tip, nI pc, qc, cp_A ic, cp_A so, wi, xo, cp_Bo sl, cp_A am, lk, cp_A st, cp_A par, wk, cp_A cn, cp_A tx, od, cp_A hg, bw, cp_Bo gd, ch, cp_A po, li, sp, qu, sk) (ys, yn, yw, nI pc, nI tip, cp_A ic, cp_A (cp_hf so), cp_A (cp_hm so), wi, cp_A oc, cp_A am, lk, cp_Bo sl, cp_A (cp_ys st), cp_A par, wk, cp_A cn, cp_A tx, od, yp, yl, yt, ho, yk, cp_A po, yq, yo) := cp_mk R htip gt RC O hsb hxo
  unfold wpX_seal
  dsimp only
  refine cx_isOp v1 (fun t ht e ns => br_f (by decide) ?_) (fun z => br_t rfl (cy_se_r z ⟨rfl, I'⟩))
  subst e
  have i32 : vp_in (nI t) 32 := vp_in_nI ht (by decide)
  refine And.intro i32 (nm_r (cp_wb sl true (by omega)) (And.intro i32 (And.intro i32 (cy_se_k ht ns ⟨?_, cp_mk (cp_s_seal R t) htip gt RC O hsb hxo⟩))))
  rw [cp_rd ic (by omega), nI_clamp (by omega), hxo t ht]
/-! offer -/
section
variable {sb qc ys yn yw : Int32} {tip pc : Nat} {ic so oc am hg par cn tx st po : Nat → Nat} {sl gd : Nat → Bool} {wi lk wk bw od xo ch li sp qu sk yp yl yt ho yk yq yo : Nat → Int32} {k : Nat}
theorem cy_of_r {post : Int32 → SY → Prop} {v1 : Int32} (z : ¬ (∃ t, t < 32 ∧ v1 = nI t)) (H : post 0 (ys, yn, yw, nI pc, nI tip, cp_A ic, cp_A (cp_hf so), cp_A (cp_hm so), wi, cp_A oc, cp_A am, lk, cp_Bo sl, cp_A (cp_ys st), cp_A par, wk, cp_A cn, cp_A tx, od, yp, yl, yt, ho, yk, cp_A po, yq, yo)) : wpY_offer post (ys, yn, yw, nI pc, nI tip, cp_A ic, cp_A (cp_hf so), cp_A (cp_hm so), wi, cp_A oc, cp_A am, lk, cp_Bo sl, cp_A (cp_ys st), cp_A par, wk, cp_A cn, cp_A tx, od, yp, yl, yt, ho, yk, cp_A po, yq, yo) v1 := by
  unfold wpY_offer
  dsimp only
  exact cy_outb v1 0 31 (by decide) (by decide) (fun t h1 h2 e => absurd ⟨t, by omega, e⟩ z) (fun _ => br_f (by decide) H)
end
theorem i_vc_offer {k : Nat} {u : SX} {v : SY} (I : i_Rel k u v) (hk : k + 5 ≤ 2560) (v1 : Int32) : wpX_offer (fun r u' => wpY_offer (fun r' v' => r' = r ∧ i_Rel (k + 5) u' v') v v1) u v1 := by
  obtain ⟨sb, qc, ys, yn, yw, tip, pc, ic, so, oc, am, hg, par, cn, tx, st, po, sl, gd, wi, lk, wk, bw, od, xo, ch, li, sp, qu, sk, yp, yl, yt, ho, yk, yq, yo, rfl, rfl, R, htip, gt, RC, O, hsb, hxo⟩ := I
  unfold wpX_offer
  dsimp only
  refine cx_isTb v1 (fun t ht e => br_f (by decide) ?_) (fun z => br_t rfl (cy_of_r z ⟨rfl, cp_mk R htip gt RC O hsb hxo⟩))
  subst e
  refine cx_ap R hxo ht htip gt (fun r li' sp' sk' h0 e => br_t e ?_) (fun r li' sp' sk' h1 e => br_f (by rw [e]; decide) ?_)
  · exact cy_off R ht htip gt (fun yn yw yp yl yt ho yk _ => ⟨rfl, cp_mk R htip gt RC O hsb hxo⟩) (fun yn yw yp yl yt ho yk h1 => absurd h1 h0)
  · exact cy_off R ht htip gt (fun yn yw yp yl yt ho yk h0 => absurd h1 h0) (fun yn yw yp yl yt ho yk h1 => ⟨rfl, cp_mk (cp_ad_RR R htip gt ht h1) htip gt RC O hsb hxo⟩)
end
section
/-! block, include, reward -/
section
variable {sb qc ys yn yw : Int32} {tip pc : Nat} {ic so oc am hg par cn tx st po : Nat → Nat} {sl gd : Nat → Bool} {wi lk wk bw od xo ch li sp qu sk yp yl yt ho yk yq yo : Nat → Int32} {k : Nat}
theorem cp_ysE (B : cp_RB ic so oc am hg par cn tx st sl wi lk) (b : Nat) : cp_A (cp_ys st) b = nI (cp_ys st b) := rfl
theorem cp_ys2 {b : Nat} (h : st b ≤ 1) : cp_ys st b ≠ 2 := by
  rw [cp_ysn (by omega)]
  omega
theorem cp_ys2' (B : cp_RB ic so oc am hg par cn tx st sl wi lk) {b : Nat} (h : cp_ys st b ≠ 2) : st b ≤ 1 := by
  have s := cp_RB_st B b
  by_cases e : st b = 3
  · exact absurd (cp_ys3 e) h
  · rw [cp_ysn e] at h
    omega
theorem cp_ys1 {b : Nat} : cp_ys st b = 1 ↔ st b = 1 := by
  by_cases e : st b = 3
  · rw [cp_ys3 e]
    omega
  · rw [cp_ysn e]
theorem cy_bl_r {post : Int32 → SY → Prop} (B : cp_RB ic so oc am hg par cn tx st sl wi lk) {v1 v2 v3 : Int32} (z : ¬ ((∃ b, 1 ≤ b ∧ b < 24 ∧ v1 = nI b ∧ st b ≤ 1) ∧ (∃ w, 1 ≤ w ∧ w ≤ 15 ∧ v3 = nI w) ∧ (∃ p, p < 24 ∧ v2 = nI p) ∧ ¬ v2 = v1)) (H : post (-1) (ys, yn, yw, nI pc, nI tip, cp_A ic, cp_A (cp_hf so), cp_A (cp_hm so), wi, cp_A oc, cp_A am, lk, cp_Bo sl, cp_A (cp_ys st), cp_A par, wk, cp_A cn, cp_A tx, od, yp, yl, yt, ho, yk, cp_A po, yq, yo)) : wpY_block post (ys, yn, yw, nI pc, nI tip, cp_A ic, cp_A (cp_hf so), cp_A (cp_hm so), wi, cp_A oc, cp_A am, lk, cp_Bo sl, cp_A (cp_ys st), cp_A par, wk, cp_A cn, cp_A tx, od, yp, yl, yt, ho, yk, cp_A po, yq, yo) v1 v2 v3 := by
  unfold wpY_block
  dsimp only
  refine cy_outb v1 1 23 (by decide) (by decide) (fun b h1 h2 e => br_t rfl (cy_outb v2 0 23 (by decide) (by decide) (fun p g1 g2 e2 => br_t rfl (br_c (fun _ => H) (fun ne => cy_outb v3 1 15 (by decide) (by decide) (fun w q1 q2 e3 => br_t rfl ?_) (fun _ => br_f (by decide) H)))) (fun _ => br_f (by decide) H))) (fun _ => br_f (by decide) H)
  subst e
  have s := cp_ys_le B b
  exact And.intro (vp_in_nI (by omega) (by decide)) (pk_eq (cp_ys st b) 2 (fun _ => H) (fun n2 => absurd ⟨⟨b, h1, by omega, rfl, cp_ys2' B n2⟩, ⟨w, q1, q2, e3⟩, ⟨p, by omega, e2⟩, ne⟩ z) (cp_rd (cp_ys st) (by omega)) rfl)
theorem cy_bl_k {post : Int32 → SY → Prop} {b p w : Nat} (h1 : 1 ≤ b) (h2 : b < 24) (hs : st b ≤ 1) (hp : p < 24) (ne : ¬ nI p = nI b) (w1 : 1 ≤ w) (w2 : w ≤ 15) (H : post 1 (ys, yn, yw, nI pc, nI tip, cp_A ic, cp_A (cp_hf so), cp_A (cp_hm so), wi, cp_A (cp_up oc (32 + b) 1), cp_A (cp_up am (64 + 2 * b) 50), (cp_up lk (64 + 2 * b) 1), cp_Bo sl, cp_A (cp_ys (cp_up st b 1)), cp_A (cp_up par b p), (cp_up wk b (nI w)), cp_A (cp_up cn b 0), cp_A tx, od, yp, yl, yt, ho, yk, cp_A po, yq, yo)) : wpY_block post (ys, yn, yw, nI pc, nI tip, cp_A ic, cp_A (cp_hf so), cp_A (cp_hm so), wi, cp_A oc, cp_A am, lk, cp_Bo sl, cp_A (cp_ys st), cp_A par, wk, cp_A cn, cp_A tx, od, yp, yl, yt, ho, yk, cp_A po, yq, yo) (nI b) (nI p) (nI w) := by
  unfold wpY_block
  dsimp only
  refine cy_outb (nI b) 1 23 (by decide) (by decide) (fun _ _ _ _ => br_t rfl (cy_outb (nI p) 0 23 (by decide) (by decide) (fun _ _ _ _ => br_t rfl (br_f ne (cy_outb (nI w) 1 15 (by decide) (by decide) (fun _ _ _ _ => br_t rfl ?_) (fun z => absurd ⟨w, w1, w2, rfl⟩ z)))) (fun z => absurd ⟨p, by omega, by omega, rfl⟩ z))) (fun z => absurd ⟨b, h1, by omega, rfl⟩ z)
  have n2 := cp_ys2 hs
  have e2 := cp_ysn (st := st) (c := b) (by omega)
  exact And.intro (vp_in_nI h2 (by decide)) (pk_eq (cp_ys st b) 2 (fun e => absurd e n2) (fun _ => cy_dr h2 H) (cp_rd (cp_ys st) (by omega)) rfl)
theorem cp_RO_dr {b p : Nat} (O : cp_RO par st) : cp_RO (cp_up par b p) (cp_up st b 1) := by
  intro c h1 h2 hs
  by_cases e : c = b
  · rw [e, cp_up_s] at hs
    exact nomatch hs
  · rw [cp_up_n e] at hs
    rw [cp_up_n e]
    by_cases e2 : par c = b
    · rw [e2, cp_up_s]
      decide
    · rw [cp_up_n e2]
      exact O c h1 h2 hs
theorem cp_xo_dr {b : Nat} (hxo : ∀ t, t < 32 → xo t = nI (oc t)) : ∀ t, t < 32 → xo t = nI (cp_up oc (32 + b) 1 t) := by
  intro t ht
  rw [cp_up_n (by omega)]
  exact hxo t ht
theorem cp_RC_dr {b p : Nat} (T : cp_Tr hg par st) (htip : tip < 24) (ct : st tip = 3) (hs : st b ≤ 1) (RC : cp_RC hg par tip ch) : cp_RC hg (cp_up par b p) tip ch := by
  refine cp_RC_par T htip ct (fun c hc cc => cp_up_n ?_) RC
  intro e
  rw [e] at cc
  omega
theorem cy_ic_r {post : Int32 → SY → Prop} (B : cp_RB ic so oc am hg par cn tx st sl wi lk) {v1 v2 : Int32} (z : ¬ ((∃ b, 1 ≤ b ∧ b < 24 ∧ v1 = nI b ∧ st b = 1) ∧ (∃ t, t < 32 ∧ v2 = nI t ∧ sl t = true))) (H : post (-1) (ys, yn, yw, nI pc, nI tip, cp_A ic, cp_A (cp_hf so), cp_A (cp_hm so), wi, cp_A oc, cp_A am, lk, cp_Bo sl, cp_A (cp_ys st), cp_A par, wk, cp_A cn, cp_A tx, od, yp, yl, yt, ho, yk, cp_A po, yq, yo)) : wpY_include post (ys, yn, yw, nI pc, nI tip, cp_A ic, cp_A (cp_hf so), cp_A (cp_hm so), wi, cp_A oc, cp_A am, lk, cp_Bo sl, cp_A (cp_ys st), cp_A par, wk, cp_A cn, cp_A tx, od, yp, yl, yt, ho, yk, cp_A po, yq, yo) v1 v2 := by
  unfold wpY_include
  dsimp only
  refine cy_outb v1 1 23 (by decide) (by decide) (fun b h1 h2 e => br_t rfl (cy_outb v2 0 31 (by decide) (by decide) (fun t g1 g2 e2 => br_t rfl ?_) (fun _ => br_f (by decide) H))) (fun _ => br_f (by decide) H)
  subst e
  subst e2
  have s := cp_ys_le B b
  exact And.intro (vp_in_nI (by omega) (by decide)) (pk_eq (cp_ys st b) 1 (fun e => And.intro (vp_in_nI (by omega) (by decide)) (cp_TF_br (cp_TFs (by omega)) (fun _ => H) (fun w => absurd ⟨⟨b, h1, by omega, rfl, cp_ys1.mp e⟩, ⟨t, by omega, rfl, w⟩⟩ z))) (fun _ => H) (cp_rd (cp_ys st) (by omega)) rfl)
theorem cy_ic_k {post : Int32 → SY → Prop} {b t : Nat} (h1 : 1 ≤ b) (h2 : b < 24) (hs : st b = 1) (ht : t < 32) (hsl : sl t = true) (hc : cn b ≤ 3) (H3 : cn b = 3 → post (-2) (ys, yn, yw, nI pc, nI tip, cp_A ic, cp_A (cp_hf so), cp_A (cp_hm so), wi, cp_A oc, cp_A am, lk, cp_Bo sl, cp_A (cp_ys st), cp_A par, wk, cp_A cn, cp_A tx, od, yp, yl, yt, ho, yk, cp_A po, yq, yo)) (H : cn b ≠ 3 → post (nI (cn b + 1)) (ys, yn, yw, nI pc, nI tip, cp_A ic, cp_A (cp_hf so), cp_A (cp_hm so), wi, cp_A oc, cp_A am, lk, cp_Bo sl, cp_A (cp_ys st), cp_A par, wk, cp_A (cp_up cn b (cn b + 1)), cp_A (cp_up tx (3 * b + cn b) t), od, yp, yl, yt, ho, yk, cp_A po, yq, yo)) : wpY_include post (ys, yn, yw, nI pc, nI tip, cp_A ic, cp_A (cp_hf so), cp_A (cp_hm so), wi, cp_A oc, cp_A am, lk, cp_Bo sl, cp_A (cp_ys st), cp_A par, wk, cp_A cn, cp_A tx, od, yp, yl, yt, ho, yk, cp_A po, yq, yo) (nI b) (nI t) := by
  have ib : vp_in (nI b) 24 := vp_in_nI h2 (by decide)
  have e1 : cp_ys st b = 1 := cp_ys1.mpr hs
  have e : (3 : Int32) * nI b + cp_A cn (nI b).toNatClampNeg = nI (3 * b + cn b) := by
    rw [cp_rd cn (by omega), cp_3a]
  unfold wpY_include
  dsimp only
  refine cy_outb (nI b) 1 23 (by decide) (by decide) (fun _ _ _ _ => br_t rfl (cy_outb (nI t) 0 31 (by decide) (by decide) (fun _ _ _ _ => br_t rfl ?_) (fun z => absurd ⟨t, by omega, by omega, rfl⟩ z))) (fun z => absurd ⟨b, h1, by omega, rfl⟩ z)
  refine And.intro ib (pk_eq (cp_ys st b) 1 (fun _ => And.intro (vp_in_nI ht (by decide)) (cp_TF_br (cp_TFs ht) (fun w => absurd hsl w) (fun _ => And.intro ib (pk_eq (cn b) 3 (fun e3 => H3 e3) (fun n3 => ?_) (cp_rd cn (by omega)) rfl)))) (fun w => absurd e1 w) (cp_rd (cp_ys st) (by omega)) rfl)
  refine And.intro ib (And.intro (pk_in (3 * b + cn b) 72 (by omega) e) (nm_r (e' := cp_A (cp_up tx (3 * b + cn b) t)) (by rw [e, cp_wr tx t (by omega)]) (And.intro ib (And.intro ib (nm_r (e' := cp_A (cp_up cn b (cn b + 1))) (by rw [cp_rd cn (by omega), nI_1, cp_wr cn _ (by omega)]) (And.intro ib ?_))))))
  rw [cp_rd _ (by omega), cp_up_s]
  exact H n3
theorem cy_rw_r {post : Int32 → SY → Prop} (B : cp_RB ic so oc am hg par cn tx st sl wi lk) {v1 v2 v3 : Int32} (z : ¬ ((∃ b, 1 ≤ b ∧ b < 24 ∧ v1 = nI b ∧ st b = 1) ∧ (∃ a, 1 ≤ a ∧ a ≤ 1000 ∧ v2 = nI a))) (H : post (-1) (ys, yn, yw, nI pc, nI tip, cp_A ic, cp_A (cp_hf so), cp_A (cp_hm so), wi, cp_A oc, cp_A am, lk, cp_Bo sl, cp_A (cp_ys st), cp_A par, wk, cp_A cn, cp_A tx, od, yp, yl, yt, ho, yk, cp_A po, yq, yo)) : wpY_reward post (ys, yn, yw, nI pc, nI tip, cp_A ic, cp_A (cp_hf so), cp_A (cp_hm so), wi, cp_A oc, cp_A am, lk, cp_Bo sl, cp_A (cp_ys st), cp_A par, wk, cp_A cn, cp_A tx, od, yp, yl, yt, ho, yk, cp_A po, yq, yo) v1 v2 v3 := by
  unfold wpY_reward
  dsimp only
  refine cy_outb v1 1 23 (by decide) (by decide) (fun b h1 h2 e => br_t rfl (cy_outb v2 1 1000 (by decide) (by decide) (fun t g1 g2 e2 => br_t rfl ?_) (fun _ => br_f (by decide) H))) (fun _ => br_f (by decide) H)
  subst e
  subst e2
  have s := cp_ys_le B b
  exact And.intro (vp_in_nI (by omega) (by decide)) (pk_eq (cp_ys st b) 1 (fun e => absurd ⟨⟨b, h1, by omega, rfl, cp_ys1.mp e⟩, ⟨t, g1, g2, rfl⟩⟩ z) (fun _ => H) (cp_rd (cp_ys st) (by omega)) rfl)
theorem cy_rw_k {post : Int32 → SY → Prop} {b a : Nat} {l : Int32} (h1 : 1 ≤ b) (h2 : b < 24) (hs : st b = 1) (a1 : 1 ≤ a) (a2 : a ≤ 1000) (H : post 1 (ys, yn, yw, nI pc, nI tip, cp_A ic, cp_A (cp_hf so), cp_A (cp_hm so), wi, cp_A oc, cp_A (cp_up am (64 + 2 * b) a), (cp_up lk (64 + 2 * b) l), cp_Bo sl, cp_A (cp_ys st), cp_A par, wk, cp_A cn, cp_A tx, od, yp, yl, yt, ho, yk, cp_A po, yq, yo)) : wpY_reward post (ys, yn, yw, nI pc, nI tip, cp_A ic, cp_A (cp_hf so), cp_A (cp_hm so), wi, cp_A oc, cp_A am, lk, cp_Bo sl, cp_A (cp_ys st), cp_A par, wk, cp_A cn, cp_A tx, od, yp, yl, yt, ho, yk, cp_A po, yq, yo) (nI b) (nI a) l := by
  have e1 : cp_ys st b = 1 := cp_ys1.mpr hs
  have e := cp_64 b
  have i : vp_in ((64 : Int32) + (2 : Int32) * nI b) 112 := pk_in (64 + 2 * b) 112 (by omega) e
  unfold wpY_reward
  dsimp only
  refine cy_outb (nI b) 1 23 (by decide) (by decide) (fun _ _ _ _ => br_t rfl (cy_outb (nI a) 1 1000 (by decide) (by decide) (fun _ _ _ _ => br_t rfl ?_) (fun z => absurd ⟨a, a1, a2, rfl⟩ z))) (fun z => absurd ⟨b, h1, by omega, rfl⟩ z)
  exact And.intro (vp_in_nI h2 (by decide)) (pk_eq (cp_ys st b) 1 (fun _ => And.intro i (nm_r (e' := cp_A (cp_up am (64 + 2 * b) a)) (by rw [e, cp_wr am a (by omega)]) (And.intro i (nm_r (e' := cp_up lk (64 + 2 * b) l) (by rw [e, cp_ww lk l (by omega)]) H)))) (fun w => absurd e1 w) (cp_rd (cp_ys st) (by omega)) rfl)
end
theorem i_vc_block {k : Nat} {u : SX} {v : SY} (I : i_Rel k u v) (hk : k + 5 ≤ 2560) (v1 : Int32) (v2 : Int32) (v3 : Int32) : wpX_block (fun r u' => wpY_block (fun r' v' => r' = r ∧ i_Rel (k + 5) u' v') v v1 v2 v3) u v1 v2 v3 := by
  obtain ⟨sb, qc, ys, yn, yw, tip, pc, ic, so, oc, am, hg, par, cn, tx, st, po, sl, gd, wi, lk, wk, bw, od, xo, ch, li, sp, qu, sk, yp, yl, yt, ho, yk, yq, yo, rfl, rfl, R, htip, gt, RC, O, hsb, hxo⟩ := I
  have I' : i_Rel (k + 5) (sb, nI tip, nI pc, qc, cp_A ic, cp_A so, wi, xo, cp_Bo sl, cp_A am, lk, cp_A st, cp_A par, wk, cp_A cn, cp_A tx, od, cp_A hg, bw, cp_Bo gd, ch, cp_A po, li, sp, qu, sk) (ys, yn, yw, nI pc, nI tip, cp_A ic, cp_A (cp_hf so), cp_A (cp_hm so), wi, cp_A oc, cp_A am, lk, cp_Bo sl, cp_A (cp_ys st), cp_A par, wk, cp_A cn, cp_A tx, od, yp, yl, yt, ho, yk, cp_A po, yq, yo) := cp_mk R htip gt RC O hsb hxo
  have ct := R.2.1.2.2.2.1 tip htip gt
  unfold wpX_block
  dsimp only
  refine cx_isUn R.1 v1 (fun b h1 h2 e hs => br_f (by decide) (cx_isWk v3 (fun w w1 w2 e3 => br_f (by decide) ?_) (fun z => br_t rfl (cy_bl_r R.1 (fun w => z w.2.1) ⟨rfl, I'⟩)))) (fun z => br_t rfl (cy_bl_r R.1 (fun w => z w.1) ⟨rfl, I'⟩))
  rcases cp_rng v2 (n := 24) (by decide) with ⟨a, c⟩ | ⟨a, c, d⟩ | ⟨a, c, p, hp, e2⟩
  · exact br_t a (cy_bl_r R.1 (fun w => c w.2.2.1) ⟨rfl, I'⟩)
  · exact br_f a (br_t c (cy_bl_r R.1 (fun w => d w.2.2.1) ⟨rfl, I'⟩))
  · refine br_f a (br_f c (br_c (fun eq => cy_bl_r R.1 (fun w => w.2.2.2 eq) ⟨rfl, I'⟩) (fun ne => ?_)))
    subst e e2 e3
    exact cx_dr h2 (cy_bl_k h1 h2 hs hp ne w1 w2 ⟨rfl, cp_mk (cp_s_draft R h2 hs hp) htip gt (cp_RC_dr R.2.1.1 htip ct hs RC) (cp_RO_dr O) hsb (cp_xo_dr hxo)⟩)
theorem i_vc_include {k : Nat} {u : SX} {v : SY} (I : i_Rel k u v) (hk : k + 5 ≤ 2560) (v1 : Int32) (v2 : Int32) : wpX_include (fun r u' => wpY_include (fun r' v' => r' = r ∧ i_Rel (k + 5) u' v') v v1 v2) u v1 v2 := by
  obtain ⟨sb, qc, ys, yn, yw, tip, pc, ic, so, oc, am, hg, par, cn, tx, st, po, sl, gd, wi, lk, wk, bw, od, xo, ch, li, sp, qu, sk, yp, yl, yt, ho, yk, yq, yo, rfl, rfl, R, htip, gt, RC, O, hsb, hxo⟩ := I
  have I' : i_Rel (k + 5) (sb, nI tip, nI pc, qc, cp_A ic, cp_A so, wi, xo, cp_Bo sl, cp_A am, lk, cp_A st, cp_A par, wk, cp_A cn, cp_A tx, od, cp_A hg, bw, cp_Bo gd, ch, cp_A po, li, sp, qu, sk) (ys, yn, yw, nI pc, nI tip, cp_A ic, cp_A (cp_hf so), cp_A (cp_hm so), wi, cp_A oc, cp_A am, lk, cp_Bo sl, cp_A (cp_ys st), cp_A par, wk, cp_A cn, cp_A tx, od, yp, yl, yt, ho, yk, cp_A po, yq, yo) := cp_mk R htip gt RC O hsb hxo
  unfold wpX_include
  dsimp only
  refine cx_isDr R.1 v1 (fun b h1 h2 e hs => br_f (by decide) (cx_isTb v2 (fun t ht e2 => br_f (by decide) ?_) (fun z => br_t rfl (cy_ic_r R.1 (fun ⟨_, t, h1, h2, _⟩ => z ⟨t, h1, h2⟩) ⟨rfl, I'⟩)))) (fun z => br_t rfl (cy_ic_r R.1 (fun w => z w.1) ⟨rfl, I'⟩))
  subst e e2
  have c := cp_RB_cn R.1 b
  have ib : vp_in (nI b) 24 := vp_in_nI h2 (by decide)
  refine And.intro (vp_in_nI ht (by decide)) (cp_TF_br (cp_TFs ht) (fun z => cy_ic_r R.1 ?_ ⟨rfl, I'⟩) (fun hsl => And.intro ib (pk_lt (cn b) 3 (fun z => cx_apd h2 z (And.intro ib ?_)) (fun z => cy_ic_k h1 h2 hs ht hsl c (fun _ => ⟨rfl, I'⟩) (fun n3 => by omega)) (cp_rd cn (by omega)) rfl)))
  · rintro ⟨_, q, q1, q2, q3⟩
    rw [nI_eq (by omega) (by omega)] at q2
    rw [← q2] at q3
    exact z q3
  · have e : cp_A (cp_up cn b (cn b + 1)) (nI b).toNatClampNeg = nI (cn b + 1) := by
      rw [cp_rd _ (by omega), cp_up_s]
    exact cy_ic_k h1 h2 hs ht hsl c (fun e => by omega) (fun _ => ⟨e.symm, cp_mk (cp_s_app R h2 hs z ht hsl) htip gt RC O hsb hxo⟩)
theorem i_vc_reward {k : Nat} {u : SX} {v : SY} (I : i_Rel k u v) (hk : k + 5 ≤ 2560) (v1 : Int32) (v2 : Int32) (v3 : Int32) : wpX_reward (fun r u' => wpY_reward (fun r' v' => r' = r ∧ i_Rel (k + 5) u' v') v v1 v2 v3) u v1 v2 v3 := by
  obtain ⟨sb, qc, ys, yn, yw, tip, pc, ic, so, oc, am, hg, par, cn, tx, st, po, sl, gd, wi, lk, wk, bw, od, xo, ch, li, sp, qu, sk, yp, yl, yt, ho, yk, yq, yo, rfl, rfl, R, htip, gt, RC, O, hsb, hxo⟩ := I
  have I' : i_Rel (k + 5) (sb, nI tip, nI pc, qc, cp_A ic, cp_A so, wi, xo, cp_Bo sl, cp_A am, lk, cp_A st, cp_A par, wk, cp_A cn, cp_A tx, od, cp_A hg, bw, cp_Bo gd, ch, cp_A po, li, sp, qu, sk) (ys, yn, yw, nI pc, nI tip, cp_A ic, cp_A (cp_hf so), cp_A (cp_hm so), wi, cp_A oc, cp_A am, lk, cp_Bo sl, cp_A (cp_ys st), cp_A par, wk, cp_A cn, cp_A tx, od, yp, yl, yt, ho, yk, cp_A po, yq, yo) := cp_mk R htip gt RC O hsb hxo
  unfold wpX_reward
  dsimp only
  refine cx_isDr R.1 v1 (fun b h1 h2 e hs => br_f (by decide) (cx_isAm v2 (fun a a1 a2 e2 => br_f (by decide) ?_) (fun z => br_t rfl (cy_rw_r R.1 (fun w => z w.2) ⟨rfl, I'⟩)))) (fun z => br_t rfl (cy_rw_r R.1 (fun w => z w.1) ⟨rfl, I'⟩))
  subst e e2
  exact cx_scb h2 (cy_rw_k h1 h2 hs a1 a2 ⟨rfl, cp_mk (cp_s_cb R h2 hs a1 (by omega)) htip gt RC O hsb hxo⟩)
/-! submit -/
section
variable {sb qc ys yn yw : Int32} {tip pc : Nat} {ic so oc am hg par cn tx st po : Nat → Nat} {sl gd : Nat → Bool} {wi lk wk bw od xo ch li sp qu sk yp yl yt ho yk yq yo : Nat → Int32} {k : Nat}
theorem cy_su_r {post : Int32 → SY → Prop} (B : cp_RB ic so oc am hg par cn tx st sl wi lk) {v1 : Int32} (z : ¬ (∃ b, 1 ≤ b ∧ b < 24 ∧ v1 = nI b ∧ st b = 1)) (H : post (-1) (ys, yn, yw, nI pc, nI tip, cp_A ic, cp_A (cp_hf so), cp_A (cp_hm so), wi, cp_A oc, cp_A am, lk, cp_Bo sl, cp_A (cp_ys st), cp_A par, wk, cp_A cn, cp_A tx, od, yp, yl, yt, ho, yk, cp_A po, yq, yo)) : wpY_submit post (ys, yn, yw, nI pc, nI tip, cp_A ic, cp_A (cp_hf so), cp_A (cp_hm so), wi, cp_A oc, cp_A am, lk, cp_Bo sl, cp_A (cp_ys st), cp_A par, wk, cp_A cn, cp_A tx, od, yp, yl, yt, ho, yk, cp_A po, yq, yo) v1 := by
  unfold wpY_submit
  dsimp only
  refine cy_outb v1 1 23 (by decide) (by decide) (fun b h1 h2 e => br_t rfl ?_) (fun _ => br_f (by decide) H)
  subst e
  have s := cp_ys_le B b
  exact And.intro (vp_in_nI (by omega) (by decide)) (pk_eq (cp_ys st b) 1 (fun e => absurd ⟨b, h1, by omega, rfl, cp_ys1.mp e⟩ z) (fun _ => H) (cp_rd (cp_ys st) (by omega)) rfl)
end
theorem i_vc_submit {k : Nat} {u : SX} {v : SY} (I : i_Rel k u v) (hk : k + 5 ≤ 2560) (v1 : Int32) : wpX_submit (fun r u' => wpY_submit (fun r' v' => r' = r ∧ i_Rel (k + 5) u' v') v v1) u v1 := by
  obtain ⟨sb, qc, ys, yn, yw, tip, pc, ic, so, oc, am, hg, par, cn, tx, st, po, sl, gd, wi, lk, wk, bw, od, xo, ch, li, sp, qu, sk, yp, yl, yt, ho, yk, yq, yo, rfl, rfl, R, htip, gt, RC, O, hsb, hxo⟩ := I
  have I' : i_Rel (k + 5) (sb, nI tip, nI pc, qc, cp_A ic, cp_A so, wi, xo, cp_Bo sl, cp_A am, lk, cp_A st, cp_A par, wk, cp_A cn, cp_A tx, od, cp_A hg, bw, cp_Bo gd, ch, cp_A po, li, sp, qu, sk) (ys, yn, yw, nI pc, nI tip, cp_A ic, cp_A (cp_hf so), cp_A (cp_hm so), wi, cp_A oc, cp_A am, lk, cp_Bo sl, cp_A (cp_ys st), cp_A par, wk, cp_A cn, cp_A tx, od, yp, yl, yt, ho, yk, cp_A po, yq, yo) := cp_mk R htip gt RC O hsb hxo
  unfold wpX_submit
  dsimp only
  refine cx_isDr R.1 v1 (fun b h1 h2 e hs => br_f (by decide) ?_) (fun z => br_t rfl (cy_su_r R.1 z ⟨rfl, I'⟩))
  subst e
  subst hsb
  refine cx_acc R hxo htip gt RC h2 hs (fun st' hg' bw' gd' hy R' gt' O' => ⟨fun e RC' li' sp' sk' => ?_, fun best F pc' po' ch' li' sp' qu' sk' qc' eb ne hb gb K hf R2 RC' => ?_⟩)
  · refine br_t rfl (cy_sub (F := 0) h1 h2 hs hy R' O' htip gt' (fun n => absurd e n) (fun _ yn yw yp yl yt ho yk yq yo => ⟨rfl, cp_mk R' htip gt' RC' O' rfl hxo⟩) (fun n => absurd e n))
  · subst eb
    refine br_f (fun z => ne ((nI_eq (by omega) (by omega)).mp z)) (cy_sub h1 h2 hs hy R' O' htip gt' (fun _ => K) (fun e => absurd e ne) (fun _ pc2 po2 yn yw yp yl yt ho yk yq yo hf2 => ⟨rfl, ?_⟩))
    have e := hf2.trans hf.symm
    cases e
    exact cp_mk R2 hb gb RC' O' rfl hxo
theorem i_vc_tip {k : Nat} {u : SX} {v : SY} (I : i_Rel k u v) (hk : k + 5 ≤ 2560) : wpX_tip (fun r => wpY_tip (fun r' => r' = r ∧ i_Rel (k + 5) u v) v) u := by
  have I0 := I
  obtain ⟨sb, qc, ys, yn, yw, tip, pc, ic, so, oc, am, hg, par, cn, tx, st, po, sl, gd, wi, lk, wk, bw, od, xo, ch, li, sp, qu, sk, yp, yl, yt, ho, yk, yq, yo, rfl, rfl, R, htip, gt, RC, O, hsb, hxo⟩ := I
  exact ⟨rfl, I0⟩
end
section
/-! mine -/
def cp_mt (tx : Nat → Nat) (b : Nat) (po : Nat → Nat) : Nat → Nat → Nat
  | 0 => tx
  | i + 1 => cp_up (cp_mt tx b po i) (3 * b + i) (po i)
def cp_mc (cn : Nat → Nat) (b : Nat) : Nat → Nat → Nat
  | 0 => cn
  | i + 1 => cp_up (cp_mc cn b i) b (i + 1)
theorem cp_mc_b {cn : Nat → Nat} {b : Nat} (h : cn b = 0) : ∀ i, cp_mc cn b i b = i
  | 0 => h
  | i + 1 => cp_up_s
def cp_m3 (pc : Nat) : Nat := if pc < 3 then pc else 3
def cp_pf (ic so oc am po : Nat → Nat) (n : Nat) : Nat := cp_sum (fun q => cp_sd ic so am (po q) - cp_gv oc am (po q)) n
section
variable {sb qc ys yn yw : Int32} {tip pc : Nat} {ic so oc am hg par cn tx st po : Nat → Nat} {sl gd : Nat → Bool} {wi lk wk bw od xo ch li sp qu sk yp yl yt ho yk yq yo : Nat → Int32} {k : Nat}
theorem cp_m3_le (pc : Nat) : cp_m3 pc ≤ 3 ∧ cp_m3 pc ≤ pc := by
  unfold cp_m3
  split <;> omega
theorem cp_m3_lt {pc i : Nat} : i < cp_m3 pc ↔ i < pc ∧ i < 3 := by
  unfold cp_m3
  split <;> omega
theorem cp_pf_le (R : cp_RR ic so oc am hg par cn tx st sl wi lk wk bw gd pc po) : ∀ n, n ≤ pc → cp_pf ic so oc am po n ≤ 2400 * n := by
  intro n
  induction n with
  | zero =>
    intro _
    exact Nat.le_refl _
  | succ n ih =>
    intro h
    have a := ih (by omega)
    have c := (R.2.2.2 n (by omega)).2.2.2.2
    have s : cp_pf ic so oc am po (n + 1) = cp_pf ic so oc am po n + (cp_sd ic so am (po n) - cp_gv oc am (po n)) := rfl
    omega
theorem cp_mn_RR (R : cp_RR ic so oc am hg par cn tx st sl wi lk wk bw gd pc po) {b : Nat} (hb : b < 24) (hs : st b = 1) (c0 : cn b = 0) : ∀ i, i ≤ cp_m3 pc → cp_RR ic so oc am hg par (cp_mc cn b i) (cp_mt tx b po i) st sl wi lk wk bw gd pc po := by
  intro i
  induction i with
  | zero =>
    intro _
    exact R
  | succ i ih =>
    intro hi
    have h3 := (cp_m3_lt (pc := pc) (i := i)).mp (by omega)
    have Ri := ih (by omega)
    have p := Ri.2.2.2 i h3.1
    have e := cp_mc_b c0 i
    have z := cp_s_app Ri (b := b) (t := po i) hb hs (by omega) p.1 p.2.1
    rw [e] at z
    exact z
theorem cx_mn34 {post : Int32 → SX → Prop} {l : Int32} (R : cp_RR ic so oc am hg par cn tx st sl wi lk wk bw gd pc po) (hxo : ∀ t, t < 32 → xo t = nI (oc t)) {b : Nat} (hb : b < 24) (hs : st b = 1) (c0 : cn b = 0)
    (H : wX_mine_83 post (nI b) l (nI (50 + cp_pf ic so oc am po (cp_m3 pc))) sb (nI tip) (nI pc) qc (cp_A ic) (cp_A so) wi xo (cp_Bo sl) (cp_A am) lk (cp_A st) (cp_A par) wk (cp_A (cp_mc cn b (cp_m3 pc))) (cp_A (cp_mt tx b po (cp_m3 pc))) od (cp_A hg) bw (cp_Bo gd) ch (cp_A po) li sp qu sk) : ∀ (d i : Nat), i + d = cp_m3 pc → wX_mine_34 post (nI b) l (d + 1) (nI (50 + cp_pf ic so oc am po i)) (nI i) sb (nI tip) (nI pc) qc (cp_A ic) (cp_A so) wi xo (cp_Bo sl) (cp_A am) lk (cp_A st) (cp_A par) wk (cp_A (cp_mc cn b i)) (cp_A (cp_mt tx b po i)) od (cp_A hg) bw (cp_Bo gd) ch (cp_A po) li sp qu sk := by
  have p8 := R.2.2.1
  intro d
  induction d with
  | zero =>
    intro i hi
    have ei : i = cp_m3 pc := by omega
    subst ei
    have h3 : ¬ (cp_m3 pc < pc ∧ cp_m3 pc < 3) := fun z => Nat.lt_irrefl _ (cp_m3_lt.mpr z)
    exact pk_le pc (cp_m3 pc) (fun _ => H) (fun z => pk_le 3 (cp_m3 pc) (fun _ => H) (fun y => absurd ⟨z, y⟩ h3) rfl rfl (by decide) (by have := (cp_m3_le pc).1; omega)) rfl rfl (by omega) (by have := (cp_m3_le pc).1; omega)
  | succ d ih =>
    intro i hi
    have h3 := (cp_m3_lt (pc := pc) (i := i)).mp (by omega)
    have e := cp_mc_b c0 i
    have p := R.2.2.2 i h3.1
    have i8 : vp_in (nI i) 8 := vp_in_nI (by omega) (by decide)
    have Ri := cp_mn_RR R hb hs c0 (i + 1) (by omega)
    refine pk_le pc i (fun z => False.elim (by omega)) (fun _ => pk_le 3 i (fun z => False.elim (by omega)) (fun _ => And.intro i8 ?_))
    rw [cp_rd po (by omega)]
    refine cx_apd hb (by omega) ?_
    rw [e]
    refine And.intro i8 ?_
    rw [cp_rd po (by omega)]
    refine cx_su Ri.1 hxo p.1 (nm_r (e' := nI (50 + cp_pf ic so oc am po (i + 1))) ?_ (nm_r (nI_1 i) (ih (i + 1) (by omega))))
    rw [pk_sub p.2.2.2.1, nI_add, Nat.add_assoc]
    rfl
theorem cx_mn {post : Int32 → SX → Prop} {l : Int32} (R : cp_RR ic so oc am hg par cn tx st sl wi lk wk bw gd pc po) (hxo : ∀ t, t < 32 → xo t = nI (oc t)) {b : Nat} (hb : b < 24) (hs : st b = 1) (c0 : cn b = 0)
    (H : wX_mine_83 post (nI b) l (nI (50 + cp_pf ic so oc am po (cp_m3 pc))) sb (nI tip) (nI pc) qc (cp_A ic) (cp_A so) wi xo (cp_Bo sl) (cp_A am) lk (cp_A st) (cp_A par) wk (cp_A (cp_mc cn b (cp_m3 pc))) (cp_A (cp_mt tx b po (cp_m3 pc))) od (cp_A hg) bw (cp_Bo gd) ch (cp_A po) li sp qu sk) : ∃ n, wX_mine_34 post (nI b) l n 50 0 sb (nI tip) (nI pc) qc (cp_A ic) (cp_A so) wi xo (cp_Bo sl) (cp_A am) lk (cp_A st) (cp_A par) wk (cp_A cn) (cp_A tx) od (cp_A hg) bw (cp_Bo gd) ch (cp_A po) li sp qu sk :=
  Exists.intro _ (cx_mn34 R hxo hb hs c0 H (cp_m3 pc) 0 (by omega))
theorem cy_mn45 {post : Int32 → SY → Prop} {l : Int32} (R : cp_RR ic so oc am hg par cn tx st sl wi lk wk bw gd pc po) {b : Nat} (hb : b < 24) (hs : st b = 1) (c0 : cn b = 0)
    (H : wY_mine_129 post (nI b) l (nI (cp_pf ic so oc am po (cp_m3 pc))) ys yn yw (nI pc) (nI tip) (cp_A ic) (cp_A (cp_hf so)) (cp_A (cp_hm so)) wi (cp_A oc) (cp_A am) lk (cp_Bo sl) (cp_A (cp_ys st)) (cp_A par) wk (cp_A (cp_mc cn b (cp_m3 pc))) (cp_A (cp_mt tx b po (cp_m3 pc))) od yp yl yt ho yk (cp_A po) yq yo) : ∀ (d i : Nat), i + d = cp_m3 pc → wY_mine_45 post (nI b) l ys yn yw (nI pc) (nI tip) (d + 1) (nI (cp_pf ic so oc am po i)) (cp_A ic) (cp_A (cp_hf so)) (cp_A (cp_hm so)) wi (cp_A oc) (cp_A am) lk (cp_Bo sl) (cp_A (cp_ys st)) (cp_A par) wk (cp_A (cp_mc cn b i)) (cp_A (cp_mt tx b po i)) od yp yl yt ho yk (cp_A po) yq yo := by
  have p8 := R.2.2.1
  have ib : vp_in (nI b) 24 := vp_in_nI hb (by decide)
  have ec : ∀ i, cp_A (cp_mc cn b i) (nI b).toNatClampNeg = nI i := by
    intro i
    rw [cp_rd _ (by omega), cp_mc_b c0 i]
  intro d
  induction d with
  | zero =>
    intro i hi
    have ei : i = cp_m3 pc := by omega
    subst ei
    have h3 : ¬ (cp_m3 pc < pc ∧ cp_m3 pc < 3) := fun z => Nat.lt_irrefl _ (cp_m3_lt.mpr z)
    have l3 := (cp_m3_le pc).1
    exact And.intro ib (pk_le 3 (cp_m3 pc) (fun _ => H) (fun y => And.intro ib (pk_le pc (cp_m3 pc) (fun _ => H) (fun z => absurd ⟨z, y⟩ h3) rfl (ec _) (by omega) (by omega))) rfl (ec _) (by decide) (by omega))
  | succ d ih =>
    intro i hi
    have h3 := (cp_m3_lt (pc := pc) (i := i)).mp (by omega)
    have p := R.2.2.2 i h3.1
    have Ri := cp_mn_RR R hb hs c0 (i + 1) (by omega)
    have ei := ec i
    have e3 : (3 : Int32) * nI b + cp_A (cp_mc cn b i) (nI b).toNatClampNeg = nI (3 * b + i) := by
      rw [ei, cp_3a]
    refine And.intro ib (pk_le 3 i (fun z => False.elim (by omega)) (fun _ => And.intro ib (pk_le pc i (fun z => False.elim (by omega)) (fun _ => And.intro ib (And.intro (pk_in i 8 (by omega) ei) (nm_r (e' := nI (po i)) (by rw [ei, cp_rd po (by omega)]) (And.intro ib (And.intro (pk_in (3 * b + i) 72 (by omega) e3) (nm_r (e' := cp_A (cp_mt tx b po (i + 1))) (by rw [e3, cp_wr _ _ (by omega)]; rfl) (And.intro ib (And.intro ib (nm_r (e' := cp_A (cp_mc cn b (i + 1))) (by rw [ei, nI_1, cp_wr _ _ (by omega)]; rfl) ?_))))))))) rfl ei)) rfl ei)
    refine cy_sp Ri.1 p.1 (cy_gv Ri.1 p.1 (nm_r (e' := nI (cp_pf ic so oc am po (i + 1))) ?_ (ih (i + 1) (by omega))))
    rw [pk_sub p.2.2.2.1, nI_add]
    rfl
theorem cy_mn {post : Int32 → SY → Prop} {l : Int32} (R : cp_RR ic so oc am hg par cn tx st sl wi lk wk bw gd pc po) {b : Nat} (hb : b < 24) (hs : st b = 1) (c0 : cn b = 0)
    (H : wY_mine_129 post (nI b) l (nI (cp_pf ic so oc am po (cp_m3 pc))) ys yn yw (nI pc) (nI tip) (cp_A ic) (cp_A (cp_hf so)) (cp_A (cp_hm so)) wi (cp_A oc) (cp_A am) lk (cp_Bo sl) (cp_A (cp_ys st)) (cp_A par) wk (cp_A (cp_mc cn b (cp_m3 pc))) (cp_A (cp_mt tx b po (cp_m3 pc))) od yp yl yt ho yk (cp_A po) yq yo) : ∃ n, wY_mine_45 post (nI b) l ys yn yw (nI pc) (nI tip) n 0 (cp_A ic) (cp_A (cp_hf so)) (cp_A (cp_hm so)) wi (cp_A oc) (cp_A am) lk (cp_Bo sl) (cp_A (cp_ys st)) (cp_A par) wk (cp_A cn) (cp_A tx) od yp yl yt ho yk (cp_A po) yq yo :=
  Exists.intro _ (cy_mn45 R hb hs c0 H (cp_m3 pc) 0 (by omega))
theorem cy_mi_r {post : Int32 → SY → Prop} (B : cp_RB ic so oc am hg par cn tx st sl wi lk) {v1 v2 v3 : Int32} (z : ¬ ((∃ b, 1 ≤ b ∧ b < 24 ∧ v1 = nI b ∧ st b ≤ 1) ∧ (∃ w, 1 ≤ w ∧ w ≤ 15 ∧ v2 = nI w))) (H : post (-1) (ys, yn, yw, nI pc, nI tip, cp_A ic, cp_A (cp_hf so), cp_A (cp_hm so), wi, cp_A oc, cp_A am, lk, cp_Bo sl, cp_A (cp_ys st), cp_A par, wk, cp_A cn, cp_A tx, od, yp, yl, yt, ho, yk, cp_A po, yq, yo)) : wpY_mine post (ys, yn, yw, nI pc, nI tip, cp_A ic, cp_A (cp_hf so), cp_A (cp_hm so), wi, cp_A oc, cp_A am, lk, cp_Bo sl, cp_A (cp_ys st), cp_A par, wk, cp_A cn, cp_A tx, od, yp, yl, yt, ho, yk, cp_A po, yq, yo) v1 v2 v3 := by
  unfold wpY_mine
  dsimp only
  refine cy_outb v1 1 23 (by decide) (by decide) (fun b h1 h2 e => br_t rfl (cy_outb v2 1 15 (by decide) (by decide) (fun w q1 q2 e3 => br_t rfl ?_) (fun _ => br_f (by decide) H))) (fun _ => br_f (by decide) H)
  subst e
  have s := cp_ys_le B b
  exact And.intro (vp_in_nI (by omega) (by decide)) (pk_eq (cp_ys st b) 2 (fun _ => H) (fun n2 => absurd ⟨⟨b, h1, by omega, rfl, cp_ys2' B n2⟩, ⟨w, q1, q2, e3⟩⟩ z) (cp_rd (cp_ys st) (by omega)) rfl)
theorem cy_mi_k {post : Int32 → SY → Prop} {b w : Nat} {l : Int32} (h1 : 1 ≤ b) (h2 : b < 24) (hs : st b ≤ 1) (w1 : 1 ≤ w) (w2 : w ≤ 15)
    (H : ∃ n, wY_mine_45 post (nI b) l ys yn yw (nI pc) (nI tip) n 0 (cp_A ic) (cp_A (cp_hf so)) (cp_A (cp_hm so)) wi (cp_A (cp_up oc (32 + b) 1)) (cp_A (cp_up am (64 + 2 * b) 50)) (cp_up lk (64 + 2 * b) 1) (cp_Bo sl) (cp_A (cp_ys (cp_up st b 1))) (cp_A (cp_up par b tip)) (cp_up wk b (nI w)) (cp_A (cp_up cn b 0)) (cp_A tx) od yp yl yt ho yk (cp_A po) yq yo) : wpY_mine post (ys, yn, yw, nI pc, nI tip, cp_A ic, cp_A (cp_hf so), cp_A (cp_hm so), wi, cp_A oc, cp_A am, lk, cp_Bo sl, cp_A (cp_ys st), cp_A par, wk, cp_A cn, cp_A tx, od, yp, yl, yt, ho, yk, cp_A po, yq, yo) (nI b) (nI w) l := by
  unfold wpY_mine
  dsimp only
  refine cy_outb (nI b) 1 23 (by decide) (by decide) (fun _ _ _ _ => br_t rfl (cy_outb (nI w) 1 15 (by decide) (by decide) (fun _ _ _ _ => br_t rfl ?_) (fun z => absurd ⟨w, w1, w2, rfl⟩ z))) (fun z => absurd ⟨b, h1, by omega, rfl⟩ z)
  have n2 := cp_ys2 hs
  have e2 := cp_ysn (st := st) (c := b) (by omega)
  exact And.intro (vp_in_nI h2 (by decide)) (pk_eq (cp_ys st b) 2 (fun e => absurd e n2) (fun _ => cy_dr h2 H) (cp_rd (cp_ys st) (by omega)) rfl)
/-- the end of mine, X's taking and Y's submission, over data in which the block is a draft with its contents -/
theorem cp_mend (R : cp_RR ic so oc am hg par cn tx st sl wi lk wk bw gd pc po) (htip : tip < 24) (gt : gd tip = true) (RC : cp_RC hg par tip ch) (hsb : sb = ys + 1) (hxo : ∀ t, t < 32 → xo t = nI (oc t)) {b a : Nat} {l : Int32} (h1 : 1 ≤ b) (h2 : b < 24) (hs : st b = 1) (a1 : 1 ≤ 50 + a) (a2 : 50 + a ≤ 10000)
    {PX : Int32 → SX → Prop} {W : (Int32 → SY → Prop) → Prop}
    (HX : ∀ r u, W (fun r' v => r' = r ∧ i_Rel k u v) → PX r u)
    (HW : ∀ post, wY_mine_129 post (nI b) l (nI a) ys yn yw (nI pc) (nI tip) (cp_A ic) (cp_A (cp_hf so)) (cp_A (cp_hm so)) wi (cp_A oc) (cp_A am) lk (cp_Bo sl) (cp_A (cp_ys st)) (cp_A par) wk (cp_A cn) (cp_A tx) od yp yl yt ho yk (cp_A po) yq yo → W post) : wX_mine_83 PX (nI b) l (nI (50 + a)) sb (nI tip) (nI pc) qc (cp_A ic) (cp_A so) wi xo (cp_Bo sl) (cp_A am) lk (cp_A st) (cp_A par) wk (cp_A cn) (cp_A tx) od (cp_A hg) bw (cp_Bo gd) ch (cp_A po) li sp qu sk := by
  have R2 := cp_s_cb (l := l) R h2 hs a1 a2
  have ib : vp_in (nI b) 24 := vp_in_nI h2 (by decide)
  have e := cp_64 b
  have i : vp_in ((64 : Int32) + (2 : Int32) * nI b) 112 := pk_in (64 + 2 * b) 112 (by omega) e
  have ea : (50 : Int32) + nI a = nI (50 + a) := nI_add 50 a
  have y129 : ∀ post, wpY_submit (fun r u => match u with | (f_submitted_2, f_length_2, f_weight_2, f_pooledCount_2, f_tipBlock_2, a_inputs_2, a_inFrom_2, a_inPlace_2, a_witness_2, a_outputs_2, a_amount_2, a_lock_2, a_sealed_2, a_state_2, a_parent_2, a_work_2, a_count_2, a_tx_2, a_order_2, a_path_2, a_listed_2, a_spent_2, a_heightOf_2, a_stack_2, a_pool_2, a_oldPool_2, a_oldPath_2) => vp_in (nI b) 24 ∧ post (a_count_2 (nI b).toNatClampNeg) (f_submitted_2, f_length_2, f_weight_2, f_pooledCount_2, f_tipBlock_2, a_inputs_2, a_inFrom_2, a_inPlace_2, a_witness_2, a_outputs_2, a_amount_2, a_lock_2, a_sealed_2, a_state_2, a_parent_2, a_work_2, a_count_2, a_tx_2, a_order_2, a_path_2, a_listed_2, a_spent_2, a_heightOf_2, a_stack_2, a_pool_2, a_oldPool_2, a_oldPath_2)) (ys, yn, yw, nI pc, nI tip, cp_A ic, cp_A (cp_hf so), cp_A (cp_hm so), wi, cp_A oc, cp_A (cp_up am (64 + 2 * b) (50 + a)), (cp_up lk (64 + 2 * b) l), cp_Bo sl, cp_A (cp_ys st), cp_A par, wk, cp_A cn, cp_A tx, od, yp, yl, yt, ho, yk, cp_A po, yq, yo) (nI b) → wY_mine_129 post (nI b) l (nI a) ys yn yw (nI pc) (nI tip) (cp_A ic) (cp_A (cp_hf so)) (cp_A (cp_hm so)) wi (cp_A oc) (cp_A am) lk (cp_Bo sl) (cp_A (cp_ys st)) (cp_A par) wk (cp_A cn) (cp_A tx) od yp yl yt ho yk (cp_A po) yq yo := by
    intro post h
    exact And.intro i (nm_r (e' := cp_A (cp_up am (64 + 2 * b) (50 + a))) (by rw [e, ea, cp_wr am _ (by omega)]) (And.intro i (nm_r (e' := cp_up lk (64 + 2 * b) l) (by rw [e, cp_ww lk l (by omega)]) h)))
  subst hsb
  refine cx_scb h2 (cx_acc R2 hxo htip gt RC h2 hs (fun st' hg' bw' gd' hy R' gt' O' => ⟨fun e RC' li' sp' sk' => And.intro ib (HX _ _ (HW _ (y129 _ ?_))), fun best F pc' po' ch' li' sp' qu' sk' qc' eb ne hb gb K hf R3 RC' => And.intro ib (HX _ _ (HW _ (y129 _ ?_)))⟩))
  · exact cy_sub (F := 0) h1 h2 hs hy R' O' htip gt' (fun n => absurd e n) (fun _ yn yw yp yl yt ho yk yq yo => And.intro ib ⟨rfl, cp_mk R' htip gt' RC' O' rfl hxo⟩) (fun n => absurd e n)
  · subst eb
    refine cy_sub h1 h2 hs hy R' O' htip gt' (fun _ => K) (fun e => absurd e ne) (fun _ pc2 po2 yn yw yp yl yt ho yk yq yo hf2 => And.intro ib ⟨rfl, ?_⟩)
    have e := hf2.trans hf.symm
    cases e
    exact cp_mk R3 hb gb RC' O' rfl hxo
end
theorem i_vc_mine {k : Nat} {u : SX} {v : SY} (I : i_Rel k u v) (hk : k + 5 ≤ 2560) (v1 : Int32) (v2 : Int32) (v3 : Int32) : wpX_mine (fun r u' => wpY_mine (fun r' v' => r' = r ∧ i_Rel (k + 5) u' v') v v1 v2 v3) u v1 v2 v3 := by
  obtain ⟨sb, qc, ys, yn, yw, tip, pc, ic, so, oc, am, hg, par, cn, tx, st, po, sl, gd, wi, lk, wk, bw, od, xo, ch, li, sp, qu, sk, yp, yl, yt, ho, yk, yq, yo, rfl, rfl, R, htip, gt, RC, O, hsb, hxo⟩ := I
  have I' : i_Rel (k + 5) (sb, nI tip, nI pc, qc, cp_A ic, cp_A so, wi, xo, cp_Bo sl, cp_A am, lk, cp_A st, cp_A par, wk, cp_A cn, cp_A tx, od, cp_A hg, bw, cp_Bo gd, ch, cp_A po, li, sp, qu, sk) (ys, yn, yw, nI pc, nI tip, cp_A ic, cp_A (cp_hf so), cp_A (cp_hm so), wi, cp_A oc, cp_A am, lk, cp_Bo sl, cp_A (cp_ys st), cp_A par, wk, cp_A cn, cp_A tx, od, yp, yl, yt, ho, yk, cp_A po, yq, yo) := cp_mk R htip gt RC O hsb hxo
  have ct := R.2.1.2.2.2.1 tip htip gt
  unfold wpX_mine
  dsimp only
  refine cx_isUn R.1 v1 (fun b h1 h2 e hs => br_f (by decide) (cx_isWk v2 (fun w w1 w2 e2 => br_f (by decide) ?_) (fun z => br_t rfl (cy_mi_r R.1 (fun w => z w.2) ⟨rfl, I'⟩)))) (fun z => br_t rfl (cy_mi_r R.1 (fun w => z w.1) ⟨rfl, I'⟩))
  subst e e2
  have R1 := cp_s_draft (w := nI w) (l := 1) R h2 hs htip
  have c0 : cp_up cn b 0 b = 0 := cp_up_s
  have Rm := cp_mn_RR R1 h2 cp_up_s c0 (cp_m3 pc) (Nat.le_refl _)
  have pl := cp_pf_le R1 (cp_m3 pc) (cp_m3_le pc).2
  have l3 := (cp_m3_le pc).1
  have RC1 := cp_RC_dr (b := b) (p := tip) R.2.1.1 htip ct hs RC
  refine cx_dr h2 (cx_mn R1 (cp_xo_dr hxo) h2 cp_up_s c0 (cp_mend Rm htip gt RC1 hsb (cp_xo_dr hxo) h1 h2 cp_up_s (by omega) (by omega) (fun r u h => h) (fun post h => cy_mi_k h1 h2 hs w1 w2 (cy_mn R1 h2 cp_up_s c0 h))))
end
section
/-! the questions -/
def cp_no (st : Nat → Nat) (n : Nat) : Nat := cp_sum (fun b => if st b = 2 then 1 else 0) n
noncomputable def cp_us (am : Nat → Nat) (L S : Nat → Prop) (n : Nat) : Nat := cp_sum (fun o => cp_iv (L (o / 2) ∧ ¬ S o) (am o)) n
section
variable {sb qc ys yn yw : Int32} {tip pc : Nat} {ic so oc am hg par cn tx st po : Nat → Nat} {sl gd : Nat → Bool} {wi lk wk bw od xo ch li sp qu sk yp yl yt ho yk yq yo : Nat → Int32} {k : Nat}
theorem cx_co4 {post : Int32 → Prop} (B : cp_RB ic so oc am hg par cn tx st sl wi lk) (H : post (nI (cp_no st 24))) : ∀ (d i : Nat), i + d = 24 → wX_countOrphans_4 post sb (nI tip) (nI pc) qc (cp_A ic) (cp_A so) wi xo (cp_Bo sl) (cp_A am) lk (cp_A st) (cp_A par) wk (cp_A cn) (cp_A tx) od (cp_A hg) bw (cp_Bo gd) ch (cp_A po) li sp qu sk (d + 1) (nI (cp_no st i)) (nI i) := by
  intro d
  induction d with
  | zero =>
    intro i hi
    refine pk_le 24 i (fun _ => ?_) (fun z => False.elim (by omega))
    rw [show i = 24 from by omega]
    exact H
  | succ d ih =>
    intro i hi
    have s := cp_RB_st B i
    have z := ih (i + 1) (by omega)
    have es : cp_no st (i + 1) = cp_no st i + (if st i = 2 then 1 else 0) := rfl
    refine pk_le 24 i (fun z => False.elim (by omega)) (fun _ => And.intro (vp_in_nI (by omega) (by decide)) (pk_eq (st i) 2 (fun e => ?_) (fun e => ?_) (cp_rd st (by omega)) rfl))
    · rw [es, if_pos e] at z
      exact nm_r (nI_1 _) (nm_r (nI_1 i) z)
    · rw [es, if_neg e] at z
      exact nm_r (nI_1 i) z
theorem cx_co {post : Int32 → Prop} (B : cp_RB ic so oc am hg par cn tx st sl wi lk) (s0 : st 0 = 3) (H : post (nI (cp_no st 24))) : wpX_countOrphans post (sb, nI tip, nI pc, qc, cp_A ic, cp_A so, wi, xo, cp_Bo sl, cp_A am, lk, cp_A st, cp_A par, wk, cp_A cn, cp_A tx, od, cp_A hg, bw, cp_Bo gd, ch, cp_A po, li, sp, qu, sk) := by
  have z := cx_co4 (sb := sb) (tip := tip) (pc := pc) (qc := qc) (ic := ic) (so := so) (wi := wi) (xo := xo) (sl := sl) (am := am) (lk := lk) (st := st) (par := par) (wk := wk) (cn := cn) (tx := tx) (od := od) (hg := hg) (bw := bw) (gd := gd) (ch := ch) (po := po) (li := li) (sp := sp) (qu := qu) (sk := sk) B H 23 1 (by omega)
  have e : cp_no st 1 = 0 := by
    show 0 + (if st 0 = 2 then 1 else 0) = 0
    rw [if_neg (by omega)]
  rw [e] at z
  exact Exists.intro 24 z
theorem cy_co9 {post : Int32 → SY → Prop} (B : cp_RB ic so oc am hg par cn tx st sl wi lk) (R : cp_RT ic so oc am hg par cn tx st sl wi lk wk bw gd) (O : cp_RO par st) (H : ∀ yn yw yp, post (nI (cp_no st 24)) (ys, yn, yw, nI pc, nI tip, cp_A ic, cp_A (cp_hf so), cp_A (cp_hm so), wi, cp_A oc, cp_A am, lk, cp_Bo sl, cp_A (cp_ys st), cp_A par, wk, cp_A cn, cp_A tx, od, yp, yl, yt, ho, yk, cp_A po, yq, yo)) : ∀ (d i : Nat) (yn yw : Int32) (yp : Nat → Int32), i + d = 24 → wY_count_9 post (d + 1) (nI (cp_no st i)) (nI i) ys yn yw (nI pc) (nI tip) (cp_A ic) (cp_A (cp_hf so)) (cp_A (cp_hm so)) wi (cp_A oc) (cp_A am) lk (cp_Bo sl) (cp_A (cp_ys st)) (cp_A par) wk (cp_A cn) (cp_A tx) od yp yl yt ho yk (cp_A po) yq yo := by
  intro d
  induction d with
  | zero =>
    intro i yn yw yp hi
    refine pk_le 24 i (fun _ => ?_) (fun z => False.elim (by omega))
    rw [show i = 24 from by omega]
    exact H yn yw yp
  | succ d ih =>
    intro i yn yw yp hi
    have s := cp_ys_le B i
    have es : cp_no st (i + 1) = cp_no st i + (if st i = 2 then 1 else 0) := rfl
    have keep : st i ≠ 2 → ∀ (yn yw : Int32) (yp : Nat → Int32), wY_count_9 post (d + 1) (nI (cp_no st i)) (nI (i + 1)) ys yn yw (nI pc) (nI tip) (cp_A ic) (cp_A (cp_hf so)) (cp_A (cp_hm so)) wi (cp_A oc) (cp_A am) lk (cp_Bo sl) (cp_A (cp_ys st)) (cp_A par) wk (cp_A cn) (cp_A tx) od yp yl yt ho yk (cp_A po) yq yo := by
      intro e yn yw yp
      have z := ih (i + 1) yn yw yp (by omega)
      rw [es, if_neg e] at z
      exact z
    refine pk_le 24 i (fun z => False.elim (by omega)) (fun _ => And.intro (vp_in_nI (by omega) (by decide)) (pk_eq (cp_ys st i) 2 (fun e => ?_) (fun e => nm_r (cp_nz _) (nm_r (nI_1 i) (keep ?_ yn yw yp))) (cp_rd (cp_ys st) (by omega)) rfl))
    · by_cases c : st i = 3
      · exact cy_cht (yw := yw) B R (by omega) c (fun yp' _ => br_f (by decide) (nm_r (cp_nz _) (nm_r (nI_1 i) (keep (by omega) _ _ _))))
      · rw [cp_ysn c] at e
        refine cy_chf (yw := yw) B R.1.1 O (by omega) c (fun yp' yn' yw' => br_t rfl (nm_r (nI_1 _) (nm_r (nI_1 i) ?_)))
        have z := ih (i + 1) yn' yw' yp' (by omega)
        rw [es, if_pos e] at z
        exact z
    · intro e2
      exact e ((cp_ysn (by omega)).trans e2)
theorem cx_us12 {post : Int32 → SX → Prop} (B : cp_RB ic so oc am hg par cn tx st sl wi lk) {L S : Nat → Prop} (hl : cp_Rp li L 56) (hs : cp_Rp sp S 112) (H : post (nI (cp_us am L S 112)) (sb, nI tip, nI pc, qc, cp_A ic, cp_A so, wi, xo, cp_Bo sl, cp_A am, lk, cp_A st, cp_A par, wk, cp_A cn, cp_A tx, od, cp_A hg, bw, cp_Bo gd, ch, cp_A po, li, sp, qu, sk)) : ∀ (d i : Nat), i + d = 112 → wX_sumUnspent_12 post sb (nI tip) (nI pc) qc (cp_A ic) (cp_A so) wi xo (cp_Bo sl) (cp_A am) lk (cp_A st) (cp_A par) wk (cp_A cn) (cp_A tx) od (cp_A hg) bw (cp_Bo gd) ch (cp_A po) li sp qu sk (d + 1) (nI (cp_us am L S i)) (nI i) := by
  intro d
  induction d with
  | zero =>
    intro i hi
    refine pk_le 112 i (fun _ => ?_) (fun z => False.elim (by omega))
    rw [show i = 112 from by omega]
    exact H
  | succ d ih =>
    intro i hi
    have z := ih (i + 1) (by omega)
    have ao := cp_RB_ao B i
    have es : cp_us am L S (i + 1) = cp_us am L S i + cp_iv (L (i / 2) ∧ ¬ S i) (am i) := rfl
    refine pk_le 112 i (fun z => False.elim (by omega)) (fun _ => cx_iu B (by omega) hl hs (fun r hr => cp_TF_br hr (fun y => ?_) (fun y => And.intro (vp_in_nI (by omega) (by decide)) ?_)))
    · have e0 : cp_iv (L (i / 2) ∧ ¬ S i) (am i) = 0 := by
        by_cases w : L (i / 2) ∧ ¬ S i
        · rw [cp_iv_t w]
          by_cases a : i % 2 < oc (i / 2)
          · exact absurd ⟨a, w⟩ y
          · omega
        · exact cp_iv_f w
      rw [es, e0] at z
      exact nm_r (nI_1 i) z
    · rw [es, cp_iv_t y.2] at z
      exact nm_r (by rw [cp_rd am (by omega), nI_add]) (nm_r (nI_1 i) z)
theorem cx_us {post : Int32 → SX → Prop} (B : cp_RB ic so oc am hg par cn tx st sl wi lk) (R : cp_RT ic so oc am hg par cn tx st sl wi lk wk bw gd) (htip : tip < 24) (gt : gd tip = true) (H : ∀ li sp, post (nI (cp_us am (cp_LS hg par cn tx tip) (cp_SP ic so hg par cn tx tip) 112)) (sb, nI tip, nI pc, qc, cp_A ic, cp_A so, wi, xo, cp_Bo sl, cp_A am, lk, cp_A st, cp_A par, wk, cp_A cn, cp_A tx, od, cp_A hg, bw, cp_Bo gd, ch, cp_A po, li, sp, qu, sk)) : wpX_sumUnspent post (sb, nI tip, nI pc, qc, cp_A ic, cp_A so, wi, xo, cp_Bo sl, cp_A am, lk, cp_A st, cp_A par, wk, cp_A cn, cp_A tx, od, cp_A hg, bw, cp_Bo gd, ch, cp_A po, li, sp, qu, sk) := by
  have ct := R.2.2.2.1 tip htip gt
  unfold wpX_sumUnspent
  dsimp only
  refine cx_lc _ B R.1 htip ct (cp_RT_hg R htip ct) (fun li' sp' hl hs => Exists.intro 113 (cx_us12 B hl hs (H li' sp') 112 0 (by omega)))
theorem cy_iu {post : Int32 → Prop} (B : cp_RB ic so oc am hg par cn tx st sl wi lk) {o : Nat} (h112 : o < 112) {L S : Nat → Prop} (hl : cp_Rp yl L 56) (hs : cp_Rp yt S 112) (H : ∀ r, cp_TF r (o % 2 < oc (o / 2) ∧ L (o / 2) ∧ ¬ S o) → post r) : wpY_isUnspent post (ys, yn, yw, nI pc, nI tip, cp_A ic, cp_A (cp_hf so), cp_A (cp_hm so), wi, cp_A oc, cp_A am, lk, cp_Bo sl, cp_A (cp_ys st), cp_A par, wk, cp_A cn, cp_A tx, od, yp, yl, yt, ho, yk, cp_A po, yq, yo) (nI o) := by
  have c := cp_RB_oc B (o / 2)
  have e : nI o / 2 = nI (o / 2) := pk_div (d := 2) (by omega) (by decide) (by decide)
  have er : nI o - nI o / 2 * 2 = nI (o % 2) := pk_rem (d := 2) (by omega) (by decide) (by decide)
  have tl : cp_TF (yl (nI o / 2).toNatClampNeg) (L (o / 2)) := by
    rw [e, nI_clamp (by omega)]
    exact hl _ (by omega)
  have ts : cp_TF (yt (nI o).toNatClampNeg) (S o) := by
    rw [nI_clamp (by omega)]
    exact hs _ h112
  have i56 : vp_in (nI o / 2) 56 := pk_in (o / 2) 56 (by omega) e
  refine And.intro (by decide) (And.intro i56 (cp_TF_br tl (fun y => H 0 (cp_TF_F (fun w => y w.2.1))) (fun zl => And.intro (by decide) (And.intro (by decide) (And.intro i56 (pk_le (oc (o / 2)) (o % 2) (fun y => H 0 (cp_TF_F (fun w => by have := w.1; omega))) (fun zo => And.intro (vp_in_nI h112 (by decide)) (cp_TF_br ts (fun w => H 1 (cp_TF_T ⟨zo, zl, w⟩)) (fun w => H 0 (cp_TF_F (fun v => v.2.2 w))))) ?_ er))))))
  rw [e, cp_rd oc (by omega)]
theorem cy_us94 {post : Int32 → SY → Prop} (B : cp_RB ic so oc am hg par cn tx st sl wi lk) {L S : Nat → Prop} (hl : cp_Rp yl L 56) (hs : cp_Rp yt S 112) (H : post (nI (cp_us am L S 112)) (ys, yn, yw, nI pc, nI tip, cp_A ic, cp_A (cp_hf so), cp_A (cp_hm so), wi, cp_A oc, cp_A am, lk, cp_Bo sl, cp_A (cp_ys st), cp_A par, wk, cp_A cn, cp_A tx, od, yp, yl, yt, ho, yk, cp_A po, yq, yo)) : ∀ (d i : Nat), i + d = 112 → wY_count_94 post ys yn yw (nI pc) (nI tip) (cp_A ic) (cp_A (cp_hf so)) (cp_A (cp_hm so)) wi (cp_A oc) (cp_A am) lk (cp_Bo sl) (cp_A (cp_ys st)) (cp_A par) wk (cp_A cn) (cp_A tx) od yp yl yt ho yk (cp_A po) yq yo (d + 1) (nI (cp_us am L S i)) (nI i) := by
  intro d
  induction d with
  | zero =>
    intro i hi
    refine pk_le 112 i (fun _ => ?_) (fun z => False.elim (by omega))
    rw [show i = 112 from by omega]
    exact H
  | succ d ih =>
    intro i hi
    have z := ih (i + 1) (by omega)
    have ao := cp_RB_ao B i
    have es : cp_us am L S (i + 1) = cp_us am L S i + cp_iv (L (i / 2) ∧ ¬ S i) (am i) := rfl
    refine pk_le 112 i (fun z => False.elim (by omega)) (fun _ => cy_iu B (by omega) hl hs (fun r hr => cp_TF_br hr (fun y => ?_) (fun y => And.intro (vp_in_nI (by omega) (by decide)) ?_)))
    · have e0 : cp_iv (L (i / 2) ∧ ¬ S i) (am i) = 0 := by
        by_cases w : L (i / 2) ∧ ¬ S i
        · rw [cp_iv_t w]
          by_cases a : i % 2 < oc (i / 2)
          · exact absurd ⟨a, w⟩ y
          · omega
        · exact cp_iv_f w
      rw [es, e0] at z
      exact nm_r (cp_nz _) (nm_r (nI_1 i) z)
    · rw [es, cp_iv_t y.2] at z
      exact nm_r (by rw [cp_rd am (by omega), nI_add]) (nm_r (nI_1 i) z)
theorem cx_ho12 {post : Int32 → Prop} {b t : Nat} (hb : b < 24) (ht : t < 56) (hc : cn b ≤ 3) (htx : ∀ q, tx q < 32) (nb : ¬ t = 32 + b) (H : ∀ r, cp_TF r (cp_inB cn tx b t) → post r) : ∀ (d i : Nat), i + d = cn b → (∀ q, q < i → tx (3 * b + q) ≠ t) → wX_holds_12 post (nI b) (nI t) sb (nI tip) (nI pc) qc (cp_A ic) (cp_A so) wi xo (cp_Bo sl) (cp_A am) lk (cp_A st) (cp_A par) wk (cp_A cn) (cp_A tx) od (cp_A hg) bw (cp_Bo gd) ch (cp_A po) li sp qu sk (d + 1) (nI i) := by
  intro d
  induction d with
  | zero =>
    intro i hi h
    refine And.intro (vp_in_nI hb (by decide)) (pk_le (cn b) i (fun _ => H 0 (cp_TF_F ?_)) (fun z => False.elim (by omega)) (cp_rd cn (by omega)) rfl)
    rintro (z | ⟨q, hq, z⟩)
    · exact nb z
    · exact h q (by omega) z
  | succ d ih =>
    intro i hi h
    have t32 := htx (3 * b + i)
    refine And.intro (vp_in_nI hb (by decide)) (pk_le (cn b) i (fun z => False.elim (by omega)) (fun _ => And.intro (pk_in (3 * b + i) 72 (by omega) (cp_3a b i)) (pk_eq (tx (3 * b + i)) t (fun e => H 1 (cp_TF_T (Or.inr ⟨i, by omega, e⟩))) (fun e => nm_r (nI_1 i) (ih (i + 1) (by omega) ?_)) ?_ rfl)) (cp_rd cn (by omega)) rfl)
    · intro q hq
      by_cases w : q = i
      · rw [w]
        exact e
      · exact h q (by omega)
    · rw [cp_3a, cp_rd tx (by omega)]
theorem cx_ho {post : Int32 → Prop} {b t : Nat} (hb : b < 24) (ht : t < 56) (hc : cn b ≤ 3) (htx : ∀ q, tx q < 32) (H : ∀ r, cp_TF r (cp_inB cn tx b t) → post r) : wpX_holds post (sb, nI tip, nI pc, qc, cp_A ic, cp_A so, wi, xo, cp_Bo sl, cp_A am, lk, cp_A st, cp_A par, wk, cp_A cn, cp_A tx, od, cp_A hg, bw, cp_Bo gd, ch, cp_A po, li, sp, qu, sk) (nI b) (nI t) :=
  pk_eq t (32 + b) (fun e => H 1 (cp_TF_T (Or.inl e))) (fun e => Exists.intro (cn b + 1) (cx_ho12 hb ht hc htx e H (cn b) 0 (by omega) (fun q hq => absurd hq (Nat.not_lt_zero _)))) rfl (nI_add 32 b)
theorem cx_de24 {post : Int32 → Prop} (B : cp_RB ic so oc am hg par cn tx st sl wi lk) (T : cp_Tr hg par st) (htip : tip < 24) (ct : st tip = 3) (hh : hg tip < 24) (RC : cp_RC hg par tip ch) {t : Nat} (ht : t < 56)
    (H0 : (∀ i, i ≤ hg tip → ¬ cp_inB cn tx (cp_pt par hg tip i) t) → post 0) (H1 : ∀ i, i ≤ hg tip → cp_inB cn tx (cp_pt par hg tip i) t → post (nI (hg tip) - nI i + 1)) : ∀ (d i : Nat), i + d = hg tip + 1 → (∀ q, q < i → ¬ cp_inB cn tx (cp_pt par hg tip q) t) → wX_depth_24 post (nI t) (nI (hg tip)) sb (nI tip) (nI pc) qc (cp_A ic) (cp_A so) wi xo (cp_Bo sl) (cp_A am) lk (cp_A st) (cp_A par) wk (cp_A cn) (cp_A tx) od (cp_A hg) bw (cp_Bo gd) ch (cp_A po) li sp qu sk (d + 1) (nI i) := by
  intro d
  induction d with
  | zero =>
    intro i hi h
    exact pk_lt (hg tip) i (fun _ => H0 (fun q hq => h q (by omega))) (fun z => False.elim (by omega))
  | succ d ih =>
    intro i hi h
    have e : ch (nI i).toNatClampNeg = nI (cp_pt par hg tip i) := by
      rw [nI_clamp (by omega)]
      exact RC i (by omega)
    refine pk_lt (hg tip) i (fun z => False.elim (by omega)) (fun _ => And.intro (vp_in_nI (by omega) (by decide)) ?_)
    rw [e]
    refine cx_ho (cp_pt_in T htip ct (by omega)) ht (cp_RB_cn B _) (cp_RB_tx B) (fun r hr => cp_TF_br hr (fun z => nm_r (nI_1 i) (ih (i + 1) (by omega) ?_)) (fun z => H1 i (by omega) z))
    intro q hq
    by_cases w : q = i
    · rw [w]
      exact z
    · exact h q (by omega)
end
theorem i_vc_count {k : Nat} {u : SX} {v : SY} (I : i_Rel k u v) (hk : k + 5 ≤ 2560) (v1 : Int32) : wpX_count (fun r u' => wpY_count (fun r' v' => r' = r ∧ i_Rel (k + 5) u' v') v v1) u v1 := by
  obtain ⟨sb, qc, ys, yn, yw, tip, pc, ic, so, oc, am, hg, par, cn, tx, st, po, sl, gd, wi, lk, wk, bw, od, xo, ch, li, sp, qu, sk, yp, yl, yt, ho, yk, yq, yo, rfl, rfl, R, htip, gt, RC, O, hsb, hxo⟩ := I
  have ct := R.2.1.2.2.2.1 tip htip gt
  have hh := cp_RT_hg R.2.1 htip ct
  have itip : vp_in (nI tip) 24 := vp_in_nI htip (by decide)
  have bad : ¬ v1 = 0 → ¬ v1 = 1 → ¬ v1 = 2 → ¬ v1 = 3 → ¬ v1 = 4 → wpY_count (fun r' v' => r' = -1 ∧ i_Rel (k + 5) (sb, nI tip, nI pc, qc, cp_A ic, cp_A so, wi, xo, cp_Bo sl, cp_A am, lk, cp_A st, cp_A par, wk, cp_A cn, cp_A tx, od, cp_A hg, bw, cp_Bo gd, ch, cp_A po, li, sp, qu, sk) v') (ys, yn, yw, nI pc, nI tip, cp_A ic, cp_A (cp_hf so), cp_A (cp_hm so), wi, cp_A oc, cp_A am, lk, cp_Bo sl, cp_A (cp_ys st), cp_A par, wk, cp_A cn, cp_A tx, od, yp, yl, yt, ho, yk, cp_A po, yq, yo) v1 := by
    intro n0 n1 n2 n3 n4
    exact br_f n2 (br_f n3 (cy_rt0 (yn := yn) (yw := yw) R.1 R.2.1 htip gt (fun yp yl yt ho yk _ _ _ _ => br_f n0 (br_f n1 (br_f n4 ⟨rfl, cp_mk R htip gt RC O hsb hxo⟩)))))
  refine br_c (fun a => bad ?_ ?_ ?_ ?_ ?_) (fun _ => br_c (fun a => bad ?_ ?_ ?_ ?_ ?_) (fun _ => br_c (fun e => And.intro itip ?_) (fun n0 => br_c (fun e => And.intro itip ?_) (fun n1 => br_c (fun e => cx_co R.1 R.2.1.1.1 ?_) (fun n2 => br_c (fun e => ?_) (fun n3 => br_c (fun e => ?_) (fun _ => trivial)))))))
  · exact fun e => absurd (e ▸ a) (by decide)
  · exact fun e => absurd (e ▸ a) (by decide)
  · exact fun e => absurd (e ▸ a) (by decide)
  · exact fun e => absurd (e ▸ a) (by decide)
  · exact fun e => absurd (e ▸ a) (by decide)
  · exact fun e => absurd (e ▸ a) (by decide)
  · exact fun e => absurd (e ▸ a) (by decide)
  · exact fun e => absurd (e ▸ a) (by decide)
  · exact fun e => absurd (e ▸ a) (by decide)
  · exact fun e => absurd (e ▸ a) (by decide)
  · subst e
    refine br_f (by decide) (br_f (by decide) (cy_rt0 (yn := yn) (yw := yw) R.1 R.2.1 htip gt (fun yp yl yt ho yk _ _ _ _ => br_t rfl ⟨?_, cp_mk R htip gt RC O hsb hxo⟩)))
    rw [cp_rd hg (by omega), nI_pred]
  · subst e
    refine br_f (by decide) (br_f (by decide) (cy_rt0 (yn := yn) (yw := yw) R.1 R.2.1 htip gt (fun yp yl yt ho yk _ _ _ _ => br_f (by decide) (br_t rfl ⟨?_, cp_mk R htip gt RC O hsb hxo⟩))))
    rw [nI_clamp (by omega)]
  · subst e
    exact br_t rfl (Exists.intro 25 (cy_co9 R.1 R.2.1 O (fun yn yw yp => ⟨rfl, cp_mk R htip gt RC O hsb hxo⟩) 24 0 yn yw yp (by omega)))
  · subst e
    exact br_f (by decide) (br_t rfl ⟨rfl, cp_mk R htip gt RC O hsb hxo⟩)
  · subst e
    refine cx_us R.1 R.2.1 htip gt (fun li sp => ?_)
    exact br_f (by decide) (br_f (by decide) (cy_rt0 (yn := yn) (yw := yw) R.1 R.2.1 htip gt (fun yp yl yt ho yk _ hl hs _ => br_f (by decide) (br_f (by decide) (br_t rfl (Exists.intro 113 (cy_us94 R.1 hl hs ⟨rfl, cp_mk R htip gt RC O hsb hxo⟩ 112 0 (by omega))))))))
theorem i_vc_at {k : Nat} {u : SX} {v : SY} (I : i_Rel k u v) (hk : k + 5 ≤ 2560) (v1 : Int32) : wpX_at (fun r => wpY_at (fun r' v' => r' = r ∧ i_Rel (k + 5) u v') v v1) u v1 := by
  obtain ⟨sb, qc, ys, yn, yw, tip, pc, ic, so, oc, am, hg, par, cn, tx, st, po, sl, gd, wi, lk, wk, bw, od, xo, ch, li, sp, qu, sk, yp, yl, yt, ho, yk, yq, yo, rfl, rfl, R, htip, gt, RC, O, hsb, hxo⟩ := I
  have ct := R.2.1.2.2.2.1 tip htip gt
  have hh := cp_RT_hg R.2.1 htip ct
  have ref : (¬ ∃ t, 0 ≤ t ∧ t ≤ hg tip ∧ v1 = nI t) → wpY_at (fun r' v' => r' = -1 ∧ i_Rel (k + 5) (sb, nI tip, nI pc, qc, cp_A ic, cp_A so, wi, xo, cp_Bo sl, cp_A am, lk, cp_A st, cp_A par, wk, cp_A cn, cp_A tx, od, cp_A hg, bw, cp_Bo gd, ch, cp_A po, li, sp, qu, sk) v') (ys, yn, yw, nI pc, nI tip, cp_A ic, cp_A (cp_hf so), cp_A (cp_hm so), wi, cp_A oc, cp_A am, lk, cp_Bo sl, cp_A (cp_ys st), cp_A par, wk, cp_A cn, cp_A tx, od, yp, yl, yt, ho, yk, cp_A po, yq, yo) v1 := by
    intro z
    refine cy_cht (yw := yw) R.1 R.2.1 htip ct (fun yp' hyp => ?_)
    show wpY_out _ v1 0 (nI (hg tip + 1) - 1)
    rw [nI_pred]
    exact cy_outb v1 0 (hg tip) (by decide) (by omega) (fun t h1 h2 e => absurd ⟨t, h1, h2, e⟩ z) (fun _ => br_f (by decide) ⟨rfl, cp_mk R htip gt RC O hsb hxo⟩)
  refine br_c (fun a => ref ?_) (fun a => And.intro (vp_in_nI htip (by decide)) ?_)
  · rintro ⟨t, _, h, e⟩
    rw [e] at a
    exact nI_pos (by omega) a
  · obtain ⟨j, hj, e⟩ := nI_of a
    subst e
    refine pk_le j (hg tip) (fun z => And.intro (vp_in_nI (by omega) (by decide)) ?_) (fun z => ref ?_) rfl (cp_rd hg (by omega))
    · refine cy_cht (yw := yw) R.1 R.2.1 htip ct (fun yp' hyp => ?_)
      show wpY_out _ (nI j) 0 (nI (hg tip + 1) - 1)
      rw [nI_pred]
      refine cy_outb (nI j) 0 (hg tip) (by decide) (by omega) (fun t h1 h2 e => br_t rfl (And.intro (vp_in_nI (by omega) (by decide)) ⟨?_, cp_mk R htip gt RC O hsb hxo⟩)) (fun w => absurd ⟨j, Nat.zero_le _, z, rfl⟩ w)
      rw [nI_clamp (by omega), hyp j z, RC j z]
    · rintro ⟨t, _, h, e⟩
      rw [nI_eq (by omega) (by omega)] at e
      omega
section
variable {sb qc ys yn yw : Int32} {tip pc : Nat} {ic so oc am hg par cn tx st po : Nat → Nat} {sl gd : Nat → Bool} {wi lk wk bw od xo ch li sp qu sk yp yl yt ho yk yq yo : Nat → Int32} {k : Nat}
theorem cy_un_r {post : Int32 → SY → Prop} {v1 v2 : Int32} (z : ¬ ((∃ f, f < 56 ∧ v1 = nI f) ∧ (∃ p, p < 2 ∧ v2 = nI p))) (H : post (-1) (ys, yn, yw, nI pc, nI tip, cp_A ic, cp_A (cp_hf so), cp_A (cp_hm so), wi, cp_A oc, cp_A am, lk, cp_Bo sl, cp_A (cp_ys st), cp_A par, wk, cp_A cn, cp_A tx, od, yp, yl, yt, ho, yk, cp_A po, yq, yo)) : wpY_unspent post (ys, yn, yw, nI pc, nI tip, cp_A ic, cp_A (cp_hf so), cp_A (cp_hm so), wi, cp_A oc, cp_A am, lk, cp_Bo sl, cp_A (cp_ys st), cp_A par, wk, cp_A cn, cp_A tx, od, yp, yl, yt, ho, yk, cp_A po, yq, yo) v1 v2 := by
  unfold wpY_unspent
  dsimp only
  exact cy_outb v1 0 55 (by decide) (by decide) (fun t h1 h2 e => br_t rfl (cy_outb v2 0 1 (by decide) (by decide) (fun f g1 g2 e2 => absurd ⟨⟨t, by omega, e⟩, ⟨f, by omega, e2⟩⟩ z) (fun _ => br_f (by decide) H))) (fun _ => br_f (by decide) H)
theorem cy_un_k {post : Int32 → SY → Prop} (R : cp_RR ic so oc am hg par cn tx st sl wi lk wk bw gd pc po) (htip : tip < 24) (gt : gd tip = true) {f p : Nat} (hf : f < 56) (hp : p < 2)
    (H0 : ¬ ((2 * f + p) % 2 < oc ((2 * f + p) / 2) ∧ cp_LS hg par cn tx tip ((2 * f + p) / 2) ∧ ¬ cp_SP ic so hg par cn tx tip (2 * f + p)) → ∀ yn yw yp yl yt ho yk, post 0 (ys, yn, yw, nI pc, nI tip, cp_A ic, cp_A (cp_hf so), cp_A (cp_hm so), wi, cp_A oc, cp_A am, lk, cp_Bo sl, cp_A (cp_ys st), cp_A par, wk, cp_A cn, cp_A tx, od, yp, yl, yt, ho, yk, cp_A po, yq, yo))
    (H1 : ((2 * f + p) % 2 < oc ((2 * f + p) / 2) ∧ cp_LS hg par cn tx tip ((2 * f + p) / 2) ∧ ¬ cp_SP ic so hg par cn tx tip (2 * f + p)) → ∀ yn yw yp yl yt ho yk, post (nI (am (2 * f + p))) (ys, yn, yw, nI pc, nI tip, cp_A ic, cp_A (cp_hf so), cp_A (cp_hm so), wi, cp_A oc, cp_A am, lk, cp_Bo sl, cp_A (cp_ys st), cp_A par, wk, cp_A cn, cp_A tx, od, yp, yl, yt, ho, yk, cp_A po, yq, yo)) : wpY_unspent post (ys, yn, yw, nI pc, nI tip, cp_A ic, cp_A (cp_hf so), cp_A (cp_hm so), wi, cp_A oc, cp_A am, lk, cp_Bo sl, cp_A (cp_ys st), cp_A par, wk, cp_A cn, cp_A tx, od, yp, yl, yt, ho, yk, cp_A po, yq, yo) (nI f) (nI p) := by
  unfold wpY_unspent
  dsimp only
  refine cy_outb (nI f) 0 55 (by decide) (by decide) (fun _ _ _ _ => br_t rfl (cy_outb (nI p) 0 1 (by decide) (by decide) (fun _ _ _ _ => br_t rfl ?_) (fun z => absurd ⟨p, by omega, by omega, rfl⟩ z))) (fun z => absurd ⟨f, by omega, by omega, rfl⟩ z)
  refine cy_rt0 (yn := yn) (yw := yw) R.1 R.2.1 htip gt (fun yp yl yt ho yk _ hl hs _ => ?_)
  dsimp only
  rw [cp_2a, cp_rd am (by omega)]
  exact cy_iu R.1 (by omega) hl hs (fun r hr => cp_TF_br hr (fun z => H0 z _ _ _ _ _ _ _) (fun z => And.intro (vp_in_nI (by omega) (by decide)) (H1 z _ _ _ _ _ _ _)))
end
theorem i_vc_unspent {k : Nat} {u : SX} {v : SY} (I : i_Rel k u v) (hk : k + 5 ≤ 2560) (v1 : Int32) (v2 : Int32) : wpX_unspent (fun r u' => wpY_unspent (fun r' v' => r' = r ∧ i_Rel (k + 5) u' v') v v1 v2) u v1 v2 := by
  obtain ⟨sb, qc, ys, yn, yw, tip, pc, ic, so, oc, am, hg, par, cn, tx, st, po, sl, gd, wi, lk, wk, bw, od, xo, ch, li, sp, qu, sk, yp, yl, yt, ho, yk, yq, yo, rfl, rfl, R, htip, gt, RC, O, hsb, hxo⟩ := I
  have I' : i_Rel (k + 5) (sb, nI tip, nI pc, qc, cp_A ic, cp_A so, wi, xo, cp_Bo sl, cp_A am, lk, cp_A st, cp_A par, wk, cp_A cn, cp_A tx, od, cp_A hg, bw, cp_Bo gd, ch, cp_A po, li, sp, qu, sk) (ys, yn, yw, nI pc, nI tip, cp_A ic, cp_A (cp_hf so), cp_A (cp_hm so), wi, cp_A oc, cp_A am, lk, cp_Bo sl, cp_A (cp_ys st), cp_A par, wk, cp_A cn, cp_A tx, od, yp, yl, yt, ho, yk, cp_A po, yq, yo) := cp_mk R htip gt RC O hsb hxo
  have ct := R.2.1.2.2.2.1 tip htip gt
  unfold wpX_unspent
  dsimp only
  refine cx_isNm v1 v2 (fun f p hf hp e1 e2 => br_f (by decide) ?_) (fun z => br_t rfl (cy_un_r z ⟨rfl, I'⟩))
  subst e1 e2
  refine cx_lc _ R.1 R.2.1.1 htip ct (cp_RT_hg R.2.1 htip ct) (fun li' sp' hl hs => nm_r (cp_2a f p) (cx_iu R.1 (by omega) hl hs (fun r hr => cp_TF_br hr (fun z => ?_) (fun z => And.intro (vp_in_nI (by omega) (by decide)) ?_))))
  · exact cy_un_k R htip gt hf hp (fun _ yn yw yp yl yt ho yk => ⟨rfl, cp_mk R htip gt RC O hsb hxo⟩) (fun w => absurd w z)
  · exact cy_un_k R htip gt hf hp (fun w => absurd z w) (fun _ yn yw yp yl yt ho yk => ⟨(cp_rd am (by omega)).symm, cp_mk R htip gt RC O hsb hxo⟩)
theorem i_vc_pooled {k : Nat} {u : SX} {v : SY} (I : i_Rel k u v) (hk : k + 5 ≤ 2560) (v1 : Int32) : wpX_pooled (fun r => wpY_pooled (fun r' => r' = r ∧ i_Rel (k + 5) u v) v v1) u v1 := by
  have I0 := I
  obtain ⟨sb, qc, ys, yn, yw, tip, pc, ic, so, oc, am, hg, par, cn, tx, st, po, sl, gd, wi, lk, wk, bw, od, xo, ch, li, sp, qu, sk, yp, yl, yt, ho, yk, yq, yo, rfl, rfl, R, htip, gt, RC, O, hsb, hxo⟩ := I
  have p8 := R.2.2.1
  have e1 : pc ≠ 0 → nI pc - 1 = nI (pc - 1) := fun h => cp_sub1 (by omega)
  refine br_c (fun a => br_t a (br_f (by decide) ⟨rfl, I0⟩)) (fun a => ?_)
  obtain ⟨j, hj, e⟩ := nI_of a
  subst e
  refine pk_lt j pc (fun z => And.intro (vp_in_nI (by omega) (by decide)) (br_f a (pk_le j (pc - 1) (fun _ => br_t rfl (And.intro (vp_in_nI (by omega) (by decide)) ⟨rfl, I0⟩)) (fun y => False.elim (by omega)) rfl (e1 (by omega))))) (fun z => br_f a (br_f ?_ (br_f (by decide) ⟨rfl, I0⟩)))
  by_cases h0 : pc = 0
  · rw [h0]
    intro w
    have w2 : nI j < 0 := Int32.lt_of_le_of_lt w (by decide)
    exact a w2
  · rw [e1 h0, nI_leI hj (by omega)]
    omega
section
variable {sb qc ys yn yw : Int32} {tip pc : Nat} {ic so oc am hg par cn tx st po : Nat → Nat} {sl gd : Nat → Bool} {wi lk wk bw od xo ch li sp qu sk yp yl yt ho yk yq yo : Nat → Int32} {k : Nat}
theorem cy_de_r {post : Int32 → SY → Prop} {v1 : Int32} (z : ¬ (∃ f, f < 56 ∧ v1 = nI f)) (H : post (-1) (ys, yn, yw, nI pc, nI tip, cp_A ic, cp_A (cp_hf so), cp_A (cp_hm so), wi, cp_A oc, cp_A am, lk, cp_Bo sl, cp_A (cp_ys st), cp_A par, wk, cp_A cn, cp_A tx, od, yp, yl, yt, ho, yk, cp_A po, yq, yo)) : wpY_depth post (ys, yn, yw, nI pc, nI tip, cp_A ic, cp_A (cp_hf so), cp_A (cp_hm so), wi, cp_A oc, cp_A am, lk, cp_Bo sl, cp_A (cp_ys st), cp_A par, wk, cp_A cn, cp_A tx, od, yp, yl, yt, ho, yk, cp_A po, yq, yo) v1 := by
  unfold wpY_depth
  dsimp only
  exact cy_outb v1 0 55 (by decide) (by decide) (fun t h1 h2 e => absurd ⟨t, by omega, e⟩ z) (fun _ => br_f (by decide) H)
theorem cy_de_k {post : Int32 → SY → Prop} (R : cp_RR ic so oc am hg par cn tx st sl wi lk wk bw gd pc po) (htip : tip < 24) (gt : gd tip = true) {t : Nat} (ht : t < 56)
    (H0 : (¬ cp_LS hg par cn tx tip t) → ∀ yn yw yp yl yt ho yk, post 0 (ys, yn, yw, nI pc, nI tip, cp_A ic, cp_A (cp_hf so), cp_A (cp_hm so), wi, cp_A oc, cp_A am, lk, cp_Bo sl, cp_A (cp_ys st), cp_A par, wk, cp_A cn, cp_A tx, od, yp, yl, yt, ho, yk, cp_A po, yq, yo))
    (H1 : ∀ i, i ≤ hg tip → cp_inB cn tx (cp_pt par hg tip i) t → ∀ yn yw yp yl yt ho yk, post (nI (hg tip) - nI i + 1) (ys, yn, yw, nI pc, nI tip, cp_A ic, cp_A (cp_hf so), cp_A (cp_hm so), wi, cp_A oc, cp_A am, lk, cp_Bo sl, cp_A (cp_ys st), cp_A par, wk, cp_A cn, cp_A tx, od, yp, yl, yt, ho, yk, cp_A po, yq, yo)) : wpY_depth post (ys, yn, yw, nI pc, nI tip, cp_A ic, cp_A (cp_hf so), cp_A (cp_hm so), wi, cp_A oc, cp_A am, lk, cp_Bo sl, cp_A (cp_ys st), cp_A par, wk, cp_A cn, cp_A tx, od, yp, yl, yt, ho, yk, cp_A po, yq, yo) (nI t) := by
  unfold wpY_depth
  dsimp only
  refine cy_outb (nI t) 0 55 (by decide) (by decide) (fun _ _ _ _ => br_t rfl ?_) (fun z => absurd ⟨t, by omega, by omega, rfl⟩ z)
  have i56 : vp_in (nI t) 56 := vp_in_nI ht (by decide)
  refine cy_rt0 (yn := yn) (yw := yw) R.1 R.2.1 htip gt (fun yp yl yt ho yk _ hl hs hH => ?_)
  have tl : cp_TF (yl (nI t).toNatClampNeg) (cp_LS hg par cn tx tip t) := by
    rw [nI_clamp (by omega)]
    exact hl _ ht
  refine And.intro i56 (cp_TF_br tl (fun z => H0 z _ _ _ _ _ _ _) (fun z => And.intro i56 ?_))
  obtain ⟨i, hi, e, hB⟩ := hH t ht z
  have ee : nI (hg tip + 1) - 1 - ho (nI t).toNatClampNeg + 1 = nI (hg tip) - nI i + 1 := by
    rw [nI_clamp (by omega), e, nI_pred]
  have h := H1 i (by omega) hB (nI (hg tip + 1)) (bw tip) yp yl yt ho yk
  rw [← ee] at h
  exact h
end
theorem i_vc_depth {k : Nat} {u : SX} {v : SY} (I : i_Rel k u v) (hk : k + 5 ≤ 2560) (v1 : Int32) : wpX_depth (fun r => wpY_depth (fun r' v' => r' = r ∧ i_Rel (k + 5) u v') v v1) u v1 := by
  obtain ⟨sb, qc, ys, yn, yw, tip, pc, ic, so, oc, am, hg, par, cn, tx, st, po, sl, gd, wi, lk, wk, bw, od, xo, ch, li, sp, qu, sk, yp, yl, yt, ho, yk, yq, yo, rfl, rfl, R, htip, gt, RC, O, hsb, hxo⟩ := I
  have I' : i_Rel (k + 5) (sb, nI tip, nI pc, qc, cp_A ic, cp_A so, wi, xo, cp_Bo sl, cp_A am, lk, cp_A st, cp_A par, wk, cp_A cn, cp_A tx, od, cp_A hg, bw, cp_Bo gd, ch, cp_A po, li, sp, qu, sk) (ys, yn, yw, nI pc, nI tip, cp_A ic, cp_A (cp_hf so), cp_A (cp_hm so), wi, cp_A oc, cp_A am, lk, cp_Bo sl, cp_A (cp_ys st), cp_A par, wk, cp_A cn, cp_A tx, od, yp, yl, yt, ho, yk, cp_A po, yq, yo) := cp_mk R htip gt RC O hsb hxo
  have ct := R.2.1.2.2.2.1 tip htip gt
  have hh := cp_RT_hg R.2.1 htip ct
  rcases cp_rng v1 (n := 56) (by decide) with ⟨a, c⟩ | ⟨a, c, d⟩ | ⟨a, c, t, ht, e⟩
  · exact br_t a (cy_de_r c ⟨rfl, I'⟩)
  · exact br_f a (br_f (Int32.not_lt.mpr c) (cy_de_r d ⟨rfl, I'⟩))
  · subst e
    refine br_f a (br_t (Int32.not_le.mp c) (And.intro (vp_in_nI htip (by decide)) (nm_r (cp_rd hg (by omega)) (Exists.intro (hg tip + 1 + 1) (cx_de24 R.1 R.2.1.1 htip ct hh RC ht (fun h => ?_) (fun i hi h => ?_) (hg tip + 1) 0 (by omega) (fun q hq => absurd hq (Nat.not_lt_zero _)))))))
    · exact cy_de_k R htip gt ht (fun _ yn yw yp yl yt ho yk => ⟨rfl, cp_mk R htip gt RC O hsb hxo⟩) (fun i hi hB => absurd hB (h i hi))
    · refine cy_de_k R htip gt ht (fun z => absurd ⟨i, hi, h⟩ z) (fun j hj hB yn yw yp yl yt ho yk => ⟨?_, cp_mk R htip gt RC O hsb hxo⟩)
      have e : j = i := by
        by_cases l1 : j < i
        · exact absurd h (cp_once R.1 R.2.1 (hg tip) tip htip gt rfl j i t l1 hi hB)
        · by_cases l2 : i < j
          · exact absurd hB (cp_once R.1 R.2.1 (hg tip) tip htip gt rfl i j t l2 hj h)
          · omega
      rw [e]
end
section
/-! the constructors -/
theorem cp_st0 : upd (cp_A (cp_up (fun _ => 0) 0 1)) 0 (nI 3) = cp_A (cp_up (fun _ => 0) 0 3) := by
  rw [cp_A_up, cp_up_up]
theorem cp_gd0 : upd (cp_Bo (fun _ => false)) 0 (cp_bI true) = cp_Bo (cp_up (fun _ => false) 0 true) := cp_B_up _ _ _
theorem cp_ys0 : upd (cp_A (fun _ => 0)) 0 (nI 2) = cp_A (cp_ys (cp_up (fun _ => 0) 0 3)) := by
  rw [cp_A_up]
  congr 1
  funext j
  unfold cp_ys
  by_cases e : j = 0
  · rw [e, cp_up_s, cp_up_s]
    rfl
  · rw [cp_up_n e, cp_up_n e]
    rfl
theorem cp_oc0 : upd (cp_A (fun _ => 0)) 32 (nI 1) = cp_A (cp_up (fun _ => 0) 32 1) := cp_A_up _ _ _
theorem cp_am0 : upd (cp_A (fun _ => 0)) 64 (nI 50) = cp_A (cp_up (fun _ => 0) 64 50) := cp_A_up _ _ _
theorem cp_id0 : cp_up (fun _ : Nat => (0 : Nat)) 0 0 = fun _ => 0 := cp_up_id (fun _ => 0) 0
theorem cp_idw : cp_up (fun _ : Nat => (0 : Int32)) 0 0 = fun _ => 0 := cp_up_id (fun _ => 0) 0
theorem cp_z1 : cp_A (cp_hf (fun _ => 0)) = fun _ => 0 := by
  funext j
  show nI (0 / 2) = 0
  rfl
theorem cp_z2 : cp_A (cp_hm (fun _ => 0)) = fun _ => 0 := by
  funext j
  show nI (0 % 2) = 0
  rfl
theorem cp_z3 : cp_Bo (fun _ => false) = fun _ => 0 := by
  funext j
  rfl
theorem cp_z4 : cp_A (fun _ => 0) = fun _ => 0 := by
  funext j
  rfl
theorem cy_init {post : SY → Prop} (H : post (0, 0, 0, nI 0, nI 0, cp_A (fun _ => 0), cp_A (cp_hf (fun _ => 0)), cp_A (cp_hm (fun _ => 0)), (fun _ => 0), cp_A (cp_up (fun _ => 0) 32 1), cp_A (cp_up (fun _ => 0) 64 50), (cp_up (fun _ => 0) 64 1), cp_Bo (fun _ => false), cp_A (cp_ys (cp_up (fun _ => 0) 0 3)), cp_A (fun _ => 0), (fun _ => 0), cp_A (fun _ => 0), cp_A (fun _ => 0), (fun _ => 0), (fun _ => 0), (fun _ => 0), (fun _ => 0), (fun _ => 0), (fun _ => 0), cp_A (fun _ => 0), (fun _ => 0), (fun _ => 0))) : wpY_init post := by
  rw [cp_z1, cp_z2, cp_z3, cp_z4] at H
  exact nm_r cp_ys0 (nm_r cp_oc0 (nm_r cp_am0 (nm_r (e' := cp_up (fun _ => 0) 64 1) rfl H)))
theorem cx_init {post : SX → Prop} (H : post (1, nI 0, nI 0, 0, cp_A (fun _ => 0), cp_A (fun _ => 0), (fun _ => 0), (fun _ => 0), cp_Bo (fun _ => false), cp_A (cp_up (fun _ => 0) 64 50), (cp_up (fun _ => 0) 64 1), cp_A (cp_up (fun _ => 0) 0 3), cp_A (fun _ => 0), (fun _ => 0), cp_A (fun _ => 0), cp_A (fun _ => 0), (fun _ => 0), cp_A (fun _ => 0), (fun _ => 0), cp_Bo (cp_up (fun _ => false) 0 true), (fun _ => 0), cp_A (fun _ => 0), (fun _ => 0), (fun _ => 0), (fun _ => 0), (fun _ => 0))) : wpX_init post := by
  have z := cx_dr (b := 0) (p := 0) (w := 0) (sb := 0) (tip := 0) (pc := 0) (qc := 0) (ic := fun _ => 0) (so := fun _ => 0) (wi := fun _ => 0) (xo := fun _ => 0) (sl := fun _ => false) (am := fun _ => 0) (lk := fun _ => 0) (st := fun _ => 0) (par := fun _ => 0) (wk := fun _ => 0) (cn := fun _ => 0) (tx := fun _ => 0) (od := fun _ => 0) (hg := fun _ => 0) (bw := fun _ => 0) (gd := fun _ => false) (ch := fun _ => 0) (po := fun _ => 0) (li := fun _ => 0) (sp := fun _ => 0) (qu := fun _ => 0) (sk := fun _ => 0) (post := fun u => match u with | (f_submissions_2, f_tipBlock_2, f_poolCount_2, f_queueCount_2, a_inputCount_2, a_inputSource_2, a_inputWitness_2, a_outputCount_2, a_sealed_2, a_outputAmount_2, a_outputLock_2, a_blockStage_2, a_blockParent_2, a_blockWork_2, a_blockCount_2, a_blockContent_2, a_blockTurn_2, a_blockHeight_2, a_blockWeight_2, a_blockGood_2, a_chainBlock_2, a_pool_2, a_listed_2, a_spent_2, a_queue_2, a_stack_2) => ∀ y : Nat → Int32, y = upd a_blockStage_2 0 3 → ∀ g : Nat → Int32, g = upd a_blockGood_2 0 (vp_nar .boolean 1) → post (1, f_tipBlock_2, f_poolCount_2, f_queueCount_2, a_inputCount_2, a_inputSource_2, a_inputWitness_2, a_outputCount_2, a_sealed_2, a_outputAmount_2, a_outputLock_2, y, a_blockParent_2, a_blockWork_2, a_blockCount_2, a_blockContent_2, a_blockTurn_2, a_blockHeight_2, a_blockWeight_2, g, a_chainBlock_2, a_pool_2, a_listed_2, a_spent_2, a_queue_2, a_stack_2)) (by decide)
    (by
      rw [cp_id0, cp_idw]
      exact nm_r cp_st0 (nm_r cp_gd0 H))
  exact z
theorem i_vc0 : wpX_init (fun u => wpY_init (fun v => i_Rel 0 u v)) := by
  refine cx_init (cy_init (cp_mk cp_RR_0 (by decide) rfl ?_ ?_ rfl ?_))
  · intro i hi
    have e : i = 0 := Nat.le_zero.mp hi
    rw [e]
    rfl
  · intro b h1 h2 hs
    rw [cp_up_n (by omega)] at hs
    exact nomatch hs
  · intro t ht
    rw [cp_up_n (by omega)]
    rfl
end
