/-! the arrays of the two states by the pure data; reads and writes -/
def cp_A (f : Nat → Nat) : Nat → Int32 := fun j => nI (f j)
def cp_Bo (f : Nat → Bool) : Nat → Int32 := fun j => cp_bI (f j)
def cp_hf (so : Nat → Nat) : Nat → Nat := fun k => so k / 2
def cp_hm (so : Nat → Nat) : Nat → Nat := fun k => so k % 2
def cp_ys (st : Nat → Nat) : Nat → Nat := fun b => if st b = 3 then 2 else st b
theorem cp_rd (f : Nat → Nat) {t : Nat} (h : t < 2 ^ 31) : cp_A f (nI t).toNatClampNeg = nI (f t) := congrArg (cp_A f) (nI_clamp h)
theorem cp_rb (f : Nat → Bool) {t : Nat} (h : t < 2 ^ 31) : cp_Bo f (nI t).toNatClampNeg = cp_bI (f t) := congrArg (cp_Bo f) (nI_clamp h)
theorem cp_rw (f : Nat → Int32) {t : Nat} (h : t < 2 ^ 31) : f (nI t).toNatClampNeg = f t := congrArg f (nI_clamp h)
theorem cp_A_up (f : Nat → Nat) (k v : Nat) : upd (cp_A f) k (nI v) = cp_A (cp_up f k v) := cp_up_I f k v
theorem cp_B_up (f : Nat → Bool) (k : Nat) (v : Bool) : upd (cp_Bo f) k (cp_bI v) = cp_Bo (cp_up f k v) := cp_up_B f k v
theorem cp_wr (f : Nat → Nat) {k : Nat} (v : Nat) (h : k < 2 ^ 31) : upd (cp_A f) (nI k).toNatClampNeg (nI v) = cp_A (cp_up f k v) := by
  rw [nI_clamp h, cp_A_up]
theorem cp_wb (f : Nat → Bool) {k : Nat} (v : Bool) (h : k < 2 ^ 31) : upd (cp_Bo f) (nI k).toNatClampNeg (cp_bI v) = cp_Bo (cp_up f k v) := by
  rw [nI_clamp h, cp_B_up]
theorem cp_ww (f : Nat → Int32) {k : Nat} (v : Int32) (h : k < 2 ^ 31) : upd f (nI k).toNatClampNeg v = cp_up f k v := by
  rw [nI_clamp h]
  rfl
theorem cp_hf_up (so : Nat → Nat) (k f p : Nat) (hp : p < 2) : cp_A (cp_hf (cp_up so k (2 * f + p))) = cp_A (cp_up (cp_hf so) k f) := by
  congr 1
  funext j
  unfold cp_hf
  by_cases e : j = k
  · subst e
    rw [cp_up_s, cp_up_s]
    omega
  · rw [cp_up_n e, cp_up_n e]
theorem cp_hm_up (so : Nat → Nat) (k f p : Nat) (hp : p < 2) : cp_A (cp_hm (cp_up so k (2 * f + p))) = cp_A (cp_up (cp_hm so) k p) := by
  congr 1
  funext j
  unfold cp_hm
  by_cases e : j = k
  · subst e
    rw [cp_up_s, cp_up_s]
    omega
  · rw [cp_up_n e, cp_up_n e]
theorem cp_ys_up (st : Nat → Nat) (b v : Nat) (hv : v < 3) : cp_A (cp_ys (cp_up st b v)) = cp_A (cp_up (cp_ys st) b v) := by
  congr 1
  funext j
  unfold cp_ys
  by_cases e : j = b
  · subst e
    rw [cp_up_s, cp_up_s, if_neg (by omega)]
  · rw [cp_up_n e, cp_up_n e]
theorem cp_2m (t : Nat) : (2 : Int32) * nI t = nI (2 * t) := pk_mul 2 t
theorem cp_2a (t c : Nat) : (2 : Int32) * nI t + nI c = nI (2 * t + c) := by
  rw [cp_2m, nI_add]
theorem cp_3m (t : Nat) : (3 : Int32) * nI t = nI (3 * t) := pk_mul 3 t
theorem cp_3a (t c : Nat) : (3 : Int32) * nI t + nI c = nI (3 * t + c) := by
  rw [cp_3m, nI_add]
