/-! rows of kit/rows (PURE-ROWS), as they stand -/
theorem pk_us {f : Nat → Int32} {k : Nat} {x : Int32} : upd f k x k = x := if_pos rfl
theorem pk_un {f : Nat → Int32} {k j : Nat} {x : Int32} (h : j ≠ k) : upd f k x j = f j := if_neg h
theorem pk_sub {a b : Nat} (h : b ≤ a) : nI a - nI b = nI (a - b) := by
  obtain ⟨c, rfl⟩ : ∃ c, a = c + b := ⟨a - b, by omega⟩
  rw [← nI_add, Int32.add_sub_cancel, Nat.add_sub_cancel]
theorem pk_m1 (n : Nat) : nI (n + 1) + (-1) = nI n := by
  rw [← nI_1, Int32.add_assoc, show (1 : Int32) + (-1) = 0 from rfl, Int32.add_zero]
theorem pk_mul (a b : Nat) : nI a * nI b = nI (a * b) := (Int32.ofNat_mul a b).symm
theorem pk_div {a d : Nat} (ha : a < 2 ^ 31) (h0 : 0 < d) (hd : d < 2 ^ 31) : nI a / nI d = nI (a / d) := by
  apply Int32.toInt_inj.mp
  rw [lg_idiv_nonneg (by rw [nI_toInt ha]; omega) (by rw [nI_toInt hd]; omega), nI_toInt ha, nI_toInt hd, nI_toInt (Nat.lt_of_le_of_lt (Nat.div_le_self a d) ha)]
  first | rfl | exact (Int.natCast_ediv _ _).symm
theorem pk_rem {a d : Nat} (ha : a < 2 ^ 31) (h0 : 0 < d) (hd : d < 2 ^ 31) : nI a - nI a / nI d * nI d = nI (a % d) := by
  rw [pk_div ha h0 hd, pk_mul, pk_sub (Nat.div_mul_le_self a d)]
  exact congrArg nI (by have := Nat.div_add_mod' a d; omega)
theorem pk_sub_toInt {a b : Nat} (ha : a < 2 ^ 30) (hb : b < 2 ^ 30) : (nI a - nI b).toInt = (a : Int) - b := by
  rw [Int32.toInt_sub, nI_toInt (by omega), nI_toInt (by omega)]
  exact Int.bmod_eq_of_le (by omega) (by omega)
theorem pk_sneg {a b : Nat} (hb : b < 2 ^ 30) (h : a < b) : nI a - nI b < 0 := by
  rw [Int32.lt_iff_toInt_lt, pk_sub_toInt (by omega) hb, show (0 : Int32).toInt = 0 from by decide]
  omega
theorem pk_ix (x : Int32) {n : Nat} (hn : n < 2 ^ 31) : x < 0 ∨ nI n ≤ x ∨ ∃ j : Nat, j < n ∧ x = nI j := by
  by_cases h : x < 0
  · exact Or.inl h
  · obtain ⟨j, hj, rfl⟩ := nI_of h
    by_cases h2 : j < n
    · exact Or.inr (Or.inr ⟨j, h2, rfl⟩)
    · exact Or.inr (Or.inl (nI_le (by omega) hj))
theorem pk_le {x y : Int32} {A B : Prop} (a b : Nat) (f : a ≤ b → A) (g : b < a → B) (hx : x = nI a := by rfl) (hy : y = nI b := by rfl) (ha : a < 2 ^ 31 := by omega) (hb : b < 2 ^ 31 := by omega) : (x ≤ y → A) ∧ (¬ x ≤ y → B) := by
  subst hx hy
  rw [nI_leI ha hb]
  exact ⟨f, fun z => g (by omega)⟩
theorem pk_lt {x y : Int32} {A B : Prop} (a b : Nat) (f : a < b → A) (g : b ≤ a → B) (hx : x = nI a := by rfl) (hy : y = nI b := by rfl) (ha : a < 2 ^ 31 := by omega) (hb : b < 2 ^ 31 := by omega) : (x < y → A) ∧ (¬ x < y → B) := by
  subst hx hy
  rw [nI_ltI ha hb]
  exact ⟨f, fun z => g (by omega)⟩
theorem pk_eq {x y : Int32} {A B : Prop} (a b : Nat) (f : a = b → A) (g : a ≠ b → B) (hx : x = nI a := by rfl) (hy : y = nI b := by rfl) (ha : a < 2 ^ 31 := by omega) (hb : b < 2 ^ 31 := by omega) : (x = y → A) ∧ (¬ x = y → B) := by
  subst hx hy
  rw [nI_eq ha hb]
  exact ⟨f, g⟩
theorem pk_in {x : Int32} (n N : Nat) (h : n < N) (hx : x = nI n := by rfl) (hN : N < 2 ^ 31 := by omega) : vp_in x N := by
  subst hx
  exact vp_in_nI h hN
theorem pk_cl {x : Int32} (n : Nat) (hx : x = nI n := by rfl) (h : n < 2 ^ 31 := by omega) : x.toNatClampNeg = n := by
  subst hx
  exact nI_clamp h
/-! truth values, sets held by arrays, stores -/
def cp_bI (b : Bool) : Int32 := if b = true then 1 else 0
def cp_TF (r : Int32) (P : Prop) : Prop := (r = 1 ∧ P) ∨ (r = 0 ∧ ¬ P)
theorem cp_10 : ¬ (1 : Int32) = 0 := by decide
theorem cp_TF_t {r : Int32} {P : Prop} (h : cp_TF r P) (p : P) : r = 1 := h.elim (fun a => a.1) (fun a => absurd p a.2)
theorem cp_TF_f {r : Int32} {P : Prop} (h : cp_TF r P) (p : ¬ P) : r = 0 := h.elim (fun a => absurd a.2 p) (fun a => a.1)
theorem cp_TF_0 {r : Int32} {P : Prop} (h : cp_TF r P) (e : r = 0) : ¬ P := h.elim (fun a => absurd (a.1.symm.trans e) cp_10) (fun a => a.2)
theorem cp_TF_1 {r : Int32} {P : Prop} (h : cp_TF r P) (e : ¬ r = 0) : P := h.elim (fun a => a.2) (fun a => absurd a.1 e)
theorem cp_TF_n {r : Int32} {P : Prop} (h : cp_TF r P) (p : P) : ¬ r = 0 := fun e => cp_TF_0 h e p
theorem cp_TF_iff {r : Int32} {P Q : Prop} (h : cp_TF r P) (e : P ↔ Q) : cp_TF r Q := h.elim (fun a => Or.inl ⟨a.1, e.mp a.2⟩) (fun a => Or.inr ⟨a.1, fun q => a.2 (e.mpr q)⟩)
theorem cp_TF_b (b : Bool) : cp_TF (cp_bI b) (b = true) := by
  cases b
  · exact Or.inr ⟨rfl, fun h => nomatch h⟩
  · exact Or.inl ⟨rfl, rfl⟩
theorem cp_TF_eq {r r' : Int32} {P : Prop} (h : cp_TF r P) (h' : cp_TF r' P) : r' = r := by
  by_cases p : P
  · rw [cp_TF_t h p, cp_TF_t h' p]
  · rw [cp_TF_f h p, cp_TF_f h' p]
theorem cp_TF_br {r : Int32} {P A B : Prop} (h : cp_TF r P) (f : ¬ P → A) (g : P → B) : (r = 0 → A) ∧ (¬ r = 0 → B) := ⟨fun e => f (cp_TF_0 h e), fun e => g (cp_TF_1 h e)⟩
theorem cp_TF_T {P : Prop} (p : P) : cp_TF 1 P := Or.inl ⟨rfl, p⟩
theorem cp_TF_F {P : Prop} (p : ¬ P) : cp_TF 0 P := Or.inr ⟨rfl, p⟩
def cp_Rp (l : Nat → Int32) (L : Nat → Prop) (N : Nat) : Prop := ∀ j, j < N → cp_TF (l j) (L j)
theorem cp_Rp_upd {l : Nat → Int32} {L : Nat → Prop} {N t : Nat} (h : cp_Rp l L N) : cp_Rp (upd l t 1) (fun j => L j ∨ j = t) N := by
  intro j hj
  by_cases e : j = t
  · subst e
    rw [pk_us]
    exact cp_TF_T (Or.inr rfl)
  · rw [pk_un e]
    exact cp_TF_iff (h j hj) ⟨Or.inl, fun z => z.elim id (fun z => absurd z e)⟩
theorem cp_Rp_iff {l : Nat → Int32} {L L' : Nat → Prop} {N : Nat} (h : cp_Rp l L N) (e : ∀ j, j < N → (L j ↔ L' j)) : cp_Rp l L' N := fun j hj => cp_TF_iff (h j hj) (e j hj)
def cp_up {α : Type} (f : Nat → α) (k : Nat) (v : α) : Nat → α := fun j => if j = k then v else f j
theorem cp_up_s {α : Type} {f : Nat → α} {k : Nat} {v : α} : cp_up f k v k = v := if_pos rfl
theorem cp_up_n {α : Type} {f : Nat → α} {k j : Nat} {v : α} (h : j ≠ k) : cp_up f k v j = f j := if_neg h
theorem cp_up_I (f : Nat → Nat) (k v : Nat) : upd (fun j => nI (f j)) k (nI v) = fun j => nI (cp_up f k v j) := by
  funext j
  by_cases e : j = k
  · subst e
    rw [pk_us, cp_up_s]
  · rw [pk_un e, cp_up_n e]
theorem cp_up_B (f : Nat → Bool) (k : Nat) (v : Bool) : upd (fun j => cp_bI (f j)) k (cp_bI v) = fun j => cp_bI (cp_up f k v j) := by
  funext j
  by_cases e : j = k
  · subst e
    rw [pk_us, cp_up_s]
  · rw [pk_un e, cp_up_n e]
theorem cp_up_W (f : Nat → Int32) (k : Nat) (v : Int32) : upd f k v = cp_up f k v := rfl
/-! sums of naturals -/
def cp_sum (f : Nat → Nat) : Nat → Nat
  | 0 => 0
  | n + 1 => cp_sum f n + f n
theorem cp_sum_eq {f g : Nat → Nat} : ∀ n : Nat, (∀ j, j < n → f j = g j) → cp_sum f n = cp_sum g n
  | 0, _ => rfl
  | n + 1, h => by
    have a := cp_sum_eq n (fun j hj => h j (by omega))
    have b := h n (by omega)
    show cp_sum f n + f n = cp_sum g n + g n
    omega
theorem cp_sum_le {f g : Nat → Nat} : ∀ n : Nat, (∀ j, j < n → f j ≤ g j) → cp_sum f n ≤ cp_sum g n
  | 0, _ => Nat.le_refl _
  | n + 1, h => by
    have a := cp_sum_le n (fun j hj => h j (by omega))
    have b := h n (by omega)
    show cp_sum f n + f n ≤ cp_sum g n + g n
    omega
theorem cp_sum_1 {f : Nat → Nat} {k : Nat} : ∀ n : Nat, k < n → f k ≤ cp_sum f n
  | 0, h => by omega
  | n + 1, h => by
    show f k ≤ cp_sum f n + f n
    by_cases e : k = n
    · subst e
      omega
    · have := cp_sum_1 (f := f) (k := k) n (by omega)
      omega
theorem cp_sum_ch {f g : Nat → Nat} {k : Nat} : ∀ n : Nat, k < n → (∀ j, j < n → j ≠ k → f j = g j) → cp_sum f n + g k = cp_sum g n + f k
  | 0, h, _ => by omega
  | n + 1, h, e => by
    show cp_sum f n + f n + g k = cp_sum g n + g n + f k
    by_cases z : k = n
    · subst z
      have := cp_sum_eq (f := f) (g := g) k (fun j hj => e j (by omega) (by omega))
      omega
    · have a := cp_sum_ch (f := f) (g := g) (k := k) n (by omega) (fun j hj hk => e j (by omega) hk)
      have b := e n (by omega) (fun q => z q.symm)
      omega
theorem cp_sum_pt {f : Nat → Nat} {k v : Nat} : ∀ n : Nat, cp_sum (fun o => f o + if o = k then v else 0) n ≤ cp_sum f n + if k < n then v else 0
  | 0 => Nat.zero_le _
  | n + 1 => by
    have a := cp_sum_pt (f := f) (k := k) (v := v) n
    show cp_sum (fun o => f o + if o = k then v else 0) n + (f n + if n = k then v else 0) ≤ cp_sum f n + f n + if k < n + 1 then v else 0
    by_cases z : n = k
    · subst z
      rw [if_pos rfl, if_pos (by omega)]
      rw [if_neg (by omega)] at a
      omega
    · rw [if_neg z]
      by_cases y : k < n
      · rw [if_pos y] at a
        rw [if_pos (by omega)]
        omega
      · rw [if_neg y] at a
        rw [if_neg (by omega)]
        omega
noncomputable def cp_iv (p : Prop) (a : Nat) : Nat := @ite Nat p (Classical.propDecidable p) a 0
theorem cp_iv_t {p : Prop} {a : Nat} (h : p) : cp_iv p a = a := if_pos h
theorem cp_iv_f {p : Prop} {a : Nat} (h : ¬ p) : cp_iv p a = 0 := if_neg h
theorem cp_iv_i {p q : Prop} {a : Nat} (h : p ↔ q) : cp_iv p a = cp_iv q a := by
  by_cases z : p
  · rw [cp_iv_t z, cp_iv_t (h.mp z)]
  · rw [cp_iv_f z, cp_iv_f (fun y => z (h.mpr y))]
theorem cp_iv_le (p : Prop) (a : Nat) : cp_iv p a ≤ a := by
  by_cases z : p
  · rw [cp_iv_t z]
    exact Nat.le_refl _
  · rw [cp_iv_f z]
    exact Nat.zero_le _
