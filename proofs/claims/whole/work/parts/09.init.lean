/-! the beginning -/
theorem cp_RR_0 : cp_RR (fun _ => 0) (fun _ => 0) (cp_up (fun _ => 0) 32 1) (cp_up (fun _ => 0) 64 50) (fun _ => 0) (fun _ => 0) (fun _ => 0) (fun _ => 0) (cp_up (fun _ => 0) 0 3) (fun _ => false) (fun _ => 0) (cp_up (fun _ => 0) 64 1) (fun _ => 0) (fun _ => 0) (cp_up (fun _ => false) 0 true) 0 (fun _ => 0) := by
  have s3 : ∀ b, cp_up (fun _ => 0) 0 3 b = 3 → b = 0 := by
    intro b h
    by_cases e : b = 0
    · exact e
    · rw [cp_up_n e] at h
      exact nomatch h
  refine ⟨⟨fun _ => (by decide : 0 ≤ 2), fun _ => (by decide : 0 < 112), ?_, ?_, ?_, fun _ => (by decide : 0 < 24), fun _ => (by decide : 0 ≤ 3), fun _ => (by decide : 0 < 32), ?_, ?_, ?_, ?_, ?_⟩, ⟨⟨rfl, rfl, ?_⟩, ⟨rfl, rfl, rfl, rfl, rfl⟩, ?_, ?_, ?_⟩, by decide, fun i hi => absurd hi (Nat.not_lt_zero _)⟩
  · exact cp_up_all (P := fun x => x ≤ 2) (fun _ => by decide) (by decide)
  · exact cp_up_all (P := fun x => x ≤ 10000) (fun _ => by decide) (by decide)
  · exact cp_up_all (P := fun x => x ≤ 3) (fun _ => by decide) (by decide)
  · intro o
    by_cases e : o = 64
    · subst e
      decide
    · rw [cp_up_n e]
      by_cases e2 : o / 2 = 32
      · rw [e2, cp_up_s]
        show 0 < 0 ↔ _
        omega
      · rw [cp_up_n e2]
        show 0 < 0 ↔ o % 2 < 0
        omega
  · intro o ho
    rw [cp_up_n (by omega)]
    exact Nat.zero_le _
  · intro b i hi
    exact absurd hi (Nat.not_lt_zero _)
  · intro b
    by_cases e : b = 0
    · subst e
      exact Nat.le_refl _
    · rw [cp_up_n (by omega)]
      exact Nat.zero_le _
  · intro b hb
    by_cases e : b = 0
    · subst e
      rfl
    · rw [cp_up_n e] at hb
      exact absurd hb (by decide)
  · intro b hb cb nb
    exact absurd (s3 b cb) nb
  · intro b hb cb nb
    exact absurd (s3 b cb) nb
  · intro b hb g
    by_cases e : b = 0
    · subst e
      rfl
    · rw [cp_up_n e] at g
      exact nomatch g
  · intro b hb cb
    exact (by decide : 0 < cp_nc (cp_up (fun _ => 0) 0 3))
