/-! the constructors -/
theorem cp_st0 : upd (cp_A (cp_up (fun _ => 0) 0 1)) 0 (nI 3) = cp_A (cp_up (fun _ => 0) 0 3) := by
  rw [cp_A_up, cp_up_up]
theorem cp_gd0 : upd (cp_Bo (fun _ => false)) 0 (cp_bI true) = cp_Bo (cp_up (fun _ => false) 0 true) := cp_B_up _ _ _
theorem cp_ys0 : upd (cp_A (fun _ => 0)) 0 (nI 2) = cp_A (cp_ys (cp_up (fun _ => 0) 0 3)) := by
  rw [cp_A_up]
  congr 1
  funext j
  unfold cp_ys
  by_cases e : j = 0
  · rw [e, cp_up_s, cp_up_s]
    rfl
  · rw [cp_up_n e, cp_up_n e]
    rfl
theorem cp_oc0 : upd (cp_A (fun _ => 0)) 32 (nI 1) = cp_A (cp_up (fun _ => 0) 32 1) := cp_A_up _ _ _
theorem cp_am0 : upd (cp_A (fun _ => 0)) 64 (nI 50) = cp_A (cp_up (fun _ => 0) 64 50) := cp_A_up _ _ _
theorem cp_id0 : cp_up (fun _ : Nat => (0 : Nat)) 0 0 = fun _ => 0 := cp_up_id (fun _ => 0) 0
theorem cp_idw : cp_up (fun _ : Nat => (0 : Int32)) 0 0 = fun _ => 0 := cp_up_id (fun _ => 0) 0
theorem cp_z1 : cp_A (cp_hf (fun _ => 0)) = fun _ => 0 := by
  funext j
  show nI (0 / 2) = 0
  rfl
theorem cp_z2 : cp_A (cp_hm (fun _ => 0)) = fun _ => 0 := by
  funext j
  show nI (0 % 2) = 0
  rfl
theorem cp_z3 : cp_Bo (fun _ => false) = fun _ => 0 := by
  funext j
  rfl
theorem cp_z4 : cp_A (fun _ => 0) = fun _ => 0 := by
  funext j
  rfl
theorem cy_init {post : SY → Prop} (H : post (0, 0, 0, nI 0, nI 0, cp_A (fun _ => 0), cp_A (cp_hf (fun _ => 0)), cp_A (cp_hm (fun _ => 0)), (fun _ => 0), cp_A (cp_up (fun _ => 0) 32 1), cp_A (cp_up (fun _ => 0) 64 50), (cp_up (fun _ => 0) 64 1), cp_Bo (fun _ => false), cp_A (cp_ys (cp_up (fun _ => 0) 0 3)), cp_A (fun _ => 0), (fun _ => 0), cp_A (fun _ => 0), cp_A (fun _ => 0), (fun _ => 0), (fun _ => 0), (fun _ => 0), (fun _ => 0), (fun _ => 0), (fun _ => 0), cp_A (fun _ => 0), (fun _ => 0), (fun _ => 0))) : wpY_init post := by
  rw [cp_z1, cp_z2, cp_z3, cp_z4] at H
  exact nm_r cp_ys0 (nm_r cp_oc0 (nm_r cp_am0 (nm_r (e' := cp_up (fun _ => 0) 64 1) rfl H)))
theorem cx_init {post : SX → Prop} (H : post (1, nI 0, nI 0, 0, cp_A (fun _ => 0), cp_A (fun _ => 0), (fun _ => 0), (fun _ => 0), cp_Bo (fun _ => false), cp_A (cp_up (fun _ => 0) 64 50), (cp_up (fun _ => 0) 64 1), cp_A (cp_up (fun _ => 0) 0 3), cp_A (fun _ => 0), (fun _ => 0), cp_A (fun _ => 0), cp_A (fun _ => 0), (fun _ => 0), cp_A (fun _ => 0), (fun _ => 0), cp_Bo (cp_up (fun _ => false) 0 true), (fun _ => 0), cp_A (fun _ => 0), (fun _ => 0), (fun _ => 0), (fun _ => 0), (fun _ => 0))) : wpX_init post := by
  have z := cx_dr (b := 0) (p := 0) (w := 0) (sb := 0) (tip := 0) (pc := 0) (qc := 0) (ic := fun _ => 0) (so := fun _ => 0) (wi := fun _ => 0) (xo := fun _ => 0) (sl := fun _ => false) (am := fun _ => 0) (lk := fun _ => 0) (st := fun _ => 0) (par := fun _ => 0) (wk := fun _ => 0) (cn := fun _ => 0) (tx := fun _ => 0) (od := fun _ => 0) (hg := fun _ => 0) (bw := fun _ => 0) (gd := fun _ => false) (ch := fun _ => 0) (po := fun _ => 0) (li := fun _ => 0) (sp := fun _ => 0) (qu := fun _ => 0) (sk := fun _ => 0) (post := fun u => match u with | (f_submissions_2, f_tipBlock_2, f_poolCount_2, f_queueCount_2, a_inputCount_2, a_inputSource_2, a_inputWitness_2, a_outputCount_2, a_sealed_2, a_outputAmount_2, a_outputLock_2, a_blockStage_2, a_blockParent_2, a_blockWork_2, a_blockCount_2, a_blockContent_2, a_blockTurn_2, a_blockHeight_2, a_blockWeight_2, a_blockGood_2, a_chainBlock_2, a_pool_2, a_listed_2, a_spent_2, a_queue_2, a_stack_2) => ∀ y : Nat → Int32, y = upd a_blockStage_2 0 3 → ∀ g : Nat → Int32, g = upd a_blockGood_2 0 (vp_nar .boolean 1) → post (1, f_tipBlock_2, f_poolCount_2, f_queueCount_2, a_inputCount_2, a_inputSource_2, a_inputWitness_2, a_outputCount_2, a_sealed_2, a_outputAmount_2, a_outputLock_2, y, a_blockParent_2, a_blockWork_2, a_blockCount_2, a_blockContent_2, a_blockTurn_2, a_blockHeight_2, a_blockWeight_2, g, a_chainBlock_2, a_pool_2, a_listed_2, a_spent_2, a_queue_2, a_stack_2)) (by decide)
    (by
      rw [cp_id0, cp_idw]
      exact nm_r cp_st0 (nm_r cp_gd0 H))
  exact z
theorem i_vc0 : wpX_init (fun u => wpY_init (fun v => i_Rel 0 u v)) := by
  refine cx_init (cy_init (cp_mk cp_RR_0 (by decide) rfl ?_ ?_ rfl ?_))
  · intro i hi
    have e : i = 0 := Nat.le_zero.mp hi
    rw [e]
    rfl
  · intro b h1 h2 hs
    rw [cp_up_n (by omega)] at hs
    exact nomatch hs
  · intro t ht
    rw [cp_up_n (by omega)]
    rfl
