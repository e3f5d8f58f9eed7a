/-! the lock script: only what lies below the top counts; the reference's way of a step -/
theorem cp_nst_c {c h : Int32} {n : Nat} {g g' : Nat → Int32} (e : ∀ i, i < n → g i = g' i) : ∀ i, i < cp_grow c n → cp_nst c n g h i = cp_nst c n g' h i := by
  intro i hi
  have et : cp_top g n = cp_top g' n := by
    unfold cp_top
    by_cases z : 0 < n
    · rw [if_pos z, if_pos z, e _ (by omega)]
    · rw [if_neg z, if_neg z]
  have eb : cp_bel g n = cp_bel g' n := by
    unfold cp_bel
    by_cases z : 1 < n
    · rw [if_pos z, if_pos z, e _ (by omega)]
    · rw [if_neg z, if_neg z]
  have hp : 0 < cp_grow c n := by omega
  unfold cp_nst
  rw [if_pos hp, if_pos hp, et, eb]
  by_cases z : i = cp_grow c n - 1
  · rw [z, pk_us, pk_us]
  · rw [pk_un z, pk_un z]
    by_cases y : c = 8
    · rw [if_pos y, if_pos y]
      have eg : cp_grow c n = n := by
        rw [y]
        rfl
      by_cases x : i = n - 2
      · rw [x, pk_us, pk_us]
      · rw [pk_un x, pk_un x]
        exact e i (by omega)
    · rw [if_neg y, if_neg y]
      apply e
      have : cp_grow c n ≤ n + 1 := by
        unfold cp_grow
        split
        · omega
        · split <;> omega
      omega
theorem cp_end_c {n : Nat} {g g' : Nat → Int32} (e : ∀ i, i < n → g i = g' i) : cp_end n g ↔ cp_end n g' := by
  unfold cp_end
  by_cases z : 0 < n
  · rw [e _ (by omega)]
  · exact ⟨fun y => absurd y.1 z, fun y => absurd y.1 z⟩
theorem cp_run_c {lock h : Int32} : ∀ (d k n : Nat) (g g' : Nat → Int32), (∀ i, i < n → g i = g' i) → (cp_run lock h d k n g ↔ cp_run lock h d k n g') := by
  intro d
  induction d with
  | zero =>
    intro k n g g' e
    exact cp_end_c e
  | succ d ih =>
    intro k n g g' e
    have et : cp_top g n = cp_top g' n := by
      unfold cp_top
      by_cases z : 0 < n
      · rw [if_pos z, if_pos z, e _ (by omega)]
      · rw [if_neg z, if_neg z]
    have i1 := ih (k + 1) (cp_grow (cp_code lock k) n) _ _ (cp_nst_c (c := cp_code lock k) (h := h) e)
    unfold cp_run
    rw [cp_end_c e, et, i1]
/-- the reference's top and below: read only as far as the code needs -/
def cp_ytop (c : Int32) (n : Nat) (g : Nat → Int32) : Int32 := if 0 < cp_need c then g (n - 1) else 0
def cp_ybel (c : Int32) (n : Nat) (g : Nat → Int32) : Int32 := if 1 < cp_need c then g (n - 2) else 0
def cp_ynx (c : Int32) (n : Nat) (g : Nat → Int32) (h : Int32) : Nat → Int32 :=
  if c = 8 then upd (upd g (n - 1) (cp_ybel c n g)) (n - 2) (cp_ytop c n g)
  else if c = 9 ∨ c = 15 then g else upd g (cp_grow c n - 1) (cp_res c (cp_ytop c n g) (cp_ybel c n g) h)
theorem cp_ytop_e {c : Int32} {n : Nat} {g : Nat → Int32} (hn : cp_need c ≤ n) (h0 : 0 < cp_need c) : cp_ytop c n g = cp_top g n := by
  unfold cp_ytop cp_top
  rw [if_pos h0, if_pos (by omega)]
theorem cp_ybel_e {c : Int32} {n : Nat} {g : Nat → Int32} (hn : cp_need c ≤ n) (h0 : 1 < cp_need c) : cp_ybel c n g = cp_bel g n := by
  unfold cp_ybel cp_bel
  rw [if_pos h0, if_pos (by omega)]
theorem cp_r_1 (top below h : Int32) : cp_res 1 top below h = (1) := by
  unfold cp_res
  rw [if_pos rfl]
theorem cp_r_2 (top below h : Int32) : cp_res 2 top below h = (top) := by
  unfold cp_res
  rw [if_neg (by decide), if_pos rfl]
theorem cp_r_3 (top below h : Int32) : cp_res 3 top below h = (below + top) := by
  unfold cp_res
  rw [if_neg (by decide), if_neg (by decide), if_pos rfl]
theorem cp_r_4 (top below h : Int32) : cp_res 4 top below h = (below * top) := by
  unfold cp_res
  rw [if_neg (by decide), if_neg (by decide), if_neg (by decide), if_pos rfl]
theorem cp_r_5 (top below h : Int32) : cp_res 5 top below h = (below - top) := by
  unfold cp_res
  rw [if_neg (by decide), if_neg (by decide), if_neg (by decide), if_neg (by decide), if_pos rfl]
theorem cp_r_6 (top below h : Int32) : cp_res 6 top below h = (if below = top then 1 else 0) := by
  unfold cp_res
  rw [if_neg (by decide), if_neg (by decide), if_neg (by decide), if_neg (by decide), if_neg (by decide), if_pos rfl]
theorem cp_r_7 (top below h : Int32) : cp_res 7 top below h = (if below < top then 1 else 0) := by
  unfold cp_res
  rw [if_neg (by decide), if_neg (by decide), if_neg (by decide), if_neg (by decide), if_neg (by decide), if_neg (by decide), if_pos rfl]
theorem cp_r_8 (top below h : Int32) : cp_res 8 top below h = (below) := by
  unfold cp_res
  rw [if_neg (by decide), if_neg (by decide), if_neg (by decide), if_neg (by decide), if_neg (by decide), if_neg (by decide), if_neg (by decide), if_neg (by decide), if_neg (by decide), if_neg (by decide), if_neg (by decide)]
theorem cp_r_9 (top below h : Int32) : cp_res 9 top below h = (below) := by
  unfold cp_res
  rw [if_neg (by decide), if_neg (by decide), if_neg (by decide), if_neg (by decide), if_neg (by decide), if_neg (by decide), if_neg (by decide), if_neg (by decide), if_neg (by decide), if_neg (by decide), if_neg (by decide)]
theorem cp_r_10 (top below h : Int32) : cp_res 10 top below h = (h) := by
  unfold cp_res
  rw [if_neg (by decide), if_neg (by decide), if_neg (by decide), if_neg (by decide), if_neg (by decide), if_neg (by decide), if_neg (by decide), if_pos rfl]
theorem cp_r_11 (top below h : Int32) : cp_res 11 top below h = (2) := by
  unfold cp_res
  rw [if_neg (by decide), if_neg (by decide), if_neg (by decide), if_neg (by decide), if_neg (by decide), if_neg (by decide), if_neg (by decide), if_neg (by decide), if_pos rfl]
theorem cp_r_12 (top below h : Int32) : cp_res 12 top below h = (below ^^^ top) := by
  unfold cp_res
  rw [if_neg (by decide), if_neg (by decide), if_neg (by decide), if_neg (by decide), if_neg (by decide), if_neg (by decide), if_neg (by decide), if_neg (by decide), if_neg (by decide), if_pos rfl]
theorem cp_r_13 (top below h : Int32) : cp_res 13 top below h = (if top = 0 then 1 else 0) := by
  unfold cp_res
  rw [if_neg (by decide), if_neg (by decide), if_neg (by decide), if_neg (by decide), if_neg (by decide), if_neg (by decide), if_neg (by decide), if_neg (by decide), if_neg (by decide), if_neg (by decide), if_pos rfl]
theorem cp_r_14 (top below h : Int32) : cp_res 14 top below h = (below) := by
  unfold cp_res
  rw [if_neg (by decide), if_neg (by decide), if_neg (by decide), if_neg (by decide), if_neg (by decide), if_neg (by decide), if_neg (by decide), if_neg (by decide), if_neg (by decide), if_neg (by decide), if_neg (by decide)]
theorem cp_r_15 (top below h : Int32) : cp_res 15 top below h = (below) := by
  unfold cp_res
  rw [if_neg (by decide), if_neg (by decide), if_neg (by decide), if_neg (by decide), if_neg (by decide), if_neg (by decide), if_neg (by decide), if_neg (by decide), if_neg (by decide), if_neg (by decide), if_neg (by decide)]
theorem cp_res_0 {c : Int32} (h0 : ¬ 0 < cp_need c) (a b a' b' h : Int32) : cp_res c a b h = cp_res c a' b' h := by
  by_cases z : c = 1 ∨ c = 10 ∨ c = 11
  · rcases z with z | z | z
    · rw [z, cp_r_1, cp_r_1]
    · rw [z, cp_r_10, cp_r_10]
    · rw [z, cp_r_11, cp_r_11]
  · exfalso
    apply h0
    unfold cp_need
    rw [if_neg z]
    split <;> omega
theorem cp_res_1 {c : Int32} (h0 : ¬ 1 < cp_need c) (n9 : ¬ (c = 9 ∨ c = 15)) (a b b' h : Int32) : cp_res c a b h = cp_res c a b' h := by
  by_cases z : c = 1 ∨ c = 10 ∨ c = 11
  · rcases z with z | z | z
    · rw [z, cp_r_1, cp_r_1]
    · rw [z, cp_r_10, cp_r_10]
    · rw [z, cp_r_11, cp_r_11]
  · by_cases y : c = 2 ∨ c = 9 ∨ c = 13 ∨ c = 15
    · rcases y with y | y | y | y
      · rw [y, cp_r_2, cp_r_2]
      · exact absurd (Or.inl y) n9
      · rw [y, cp_r_13, cp_r_13]
      · exact absurd (Or.inr y) n9
    · exfalso
      apply h0
      unfold cp_need
      rw [if_neg z, if_neg y]
      omega
theorem cp_ynx_e {c h : Int32} {n : Nat} {g : Nat → Int32} (hn : cp_need c ≤ n) : ∀ i, i < cp_grow c n → cp_ynx c n g h i = cp_nst c n g h i := by
  intro i hi
  unfold cp_ynx cp_nst
  rw [if_pos (by omega : 0 < cp_grow c n)]
  by_cases z : c = 8
  · subst z
    have hn2 : 2 ≤ n := hn
    rw [if_pos rfl, if_pos rfl]
    have eg : cp_grow 8 n = n := rfl
    rw [eg] at hi ⊢
    rw [cp_ytop_e hn (by decide), cp_ybel_e hn (by decide)]
    have er : cp_res 8 (cp_top g n) (cp_bel g n) h = cp_bel g n := cp_r_8 _ _ _
    rw [er]
    by_cases a : i = n - 2
    · rw [a, pk_us, pk_un (by omega), pk_us]
    · rw [pk_un a]
      by_cases b : i = n - 1
      · rw [b, pk_us, pk_us]
      · rw [pk_un b, pk_un b, pk_un a]
  · rw [if_neg z, if_neg z]
    by_cases y : c = 9 ∨ c = 15
    · rw [if_pos y]
      have eg : cp_grow c n = n - 1 := by
        rcases y with y | y <;> (subst y; rfl)
      have er : cp_res c (cp_top g n) (cp_bel g n) h = cp_bel g n := by
        rcases y with y | y
        · rw [y, cp_r_9]
        · rw [y, cp_r_15]
      rw [eg] at hi ⊢
      rw [er]
      by_cases a : i = n - 1 - 1
      · rw [← a, pk_us]
        unfold cp_bel
        rw [if_pos (by omega), a]
        rfl
      · rw [pk_un a]
    · rw [if_neg y]
      have er : cp_res c (cp_ytop c n g) (cp_ybel c n g) h = cp_res c (cp_top g n) (cp_bel g n) h := by
        by_cases h0 : 0 < cp_need c
        · rw [cp_ytop_e hn h0]
          by_cases h1 : 1 < cp_need c
          · rw [cp_ybel_e hn h1]
          · exact cp_res_1 h1 y _ _ _ _
        · exact cp_res_0 h0 _ _ _ _ _
      rw [er]
theorem cp_OP_c {lock w h : Int32} {g : Nat → Int32} (e : g 0 = w) : cp_run lock h 8 0 1 g ↔ cp_OP lock w h :=
  cp_run_c 8 0 1 g _ (fun i hi => by rw [show i = 0 from by omega]; exact e)
theorem cp_grow_le (c : Int32) (n : Nat) : cp_grow c n ≤ n + 1 := by
  unfold cp_grow
  split
  · omega
  · split <;> omega
