/-! the changes of the data, one by one -/
def cp_RR (ic : Nat → Nat) (so : Nat → Nat) (oc : Nat → Nat) (am : Nat → Nat) (hg : Nat → Nat) (par : Nat → Nat) (cn : Nat → Nat) (tx : Nat → Nat) (st : Nat → Nat) (sl : Nat → Bool) (wi : Nat → Int32) (lk : Nat → Int32) (wk bw : Nat → Int32) (gd : Nat → Bool) (pc : Nat) (po : Nat → Nat) : Prop :=
  cp_RB ic so oc am hg par cn tx st sl wi lk ∧ cp_RT ic so oc am hg par cn tx st sl wi lk wk bw gd ∧ pc ≤ 8 ∧ ∀ i, i < pc → cp_PO ic so oc am st sl (po i)
theorem cp_up_all {α : Type} {f : Nat → α} {k : Nat} {v : α} {P : α → Prop} (h : ∀ j, P (f j)) (hv : P v) : ∀ j, P (cp_up f k v j) := by
  intro j
  by_cases e : j = k
  · subst e
    rw [cp_up_s]
    exact hv
  · rw [cp_up_n e]
    exact h j
section
variable {ic so oc am hg par cn tx st : Nat → Nat} {sl : Nat → Bool} {wi lk wk bw : Nat → Int32} {gd : Nat → Bool}
variable {ic' so' oc' am' hg' par' cn' tx' st' : Nat → Nat} {sl' : Nat → Bool} {wi' lk' wk' bw' : Nat → Int32} {gd' : Nat → Bool}
variable {pc : Nat} {po : Nat → Nat}
theorem cp_RR_fr (R : cp_RR ic so oc am hg par cn tx st sl wi lk wk bw gd pc po) (B' : cp_RB ic' so' oc' am' hg' par' cn' tx' st' sl' wi' lk') (f : cp_Fr ic so oc am hg par cn tx st sl wi lk ic' so' oc' am' hg' par' cn' tx' st' sl' wi' lk') (hw : ∀ b, b < 24 → st b = 3 → wk' b = wk b) (hs : ∀ b, b < 24 → st' b = 3 → st b = 3) : cp_RR ic' so' oc' am' hg' par' cn' tx' st' sl' wi' lk' wk' bw gd pc po := by
  obtain ⟨B, T, p1, p2⟩ := R
  refine ⟨B', cp_RT_fr B T f (fun b hb cb => ⟨hw b hb cb, rfl, rfl⟩) (fun b hb cb nb => absurd (hs b hb cb) nb) (fun b hb g => (f.2.1 b hb (T.2.2.2.1 b hb g)).1), p1, fun i hi => cp_PO_fr B f (p2 i hi)⟩
theorem cp_s_in (R : cp_RR ic so oc am hg par cn tx st sl wi lk wk bw gd pc po) {t o : Nat} {w : Int32} (ht : t < 32) (ns : sl t = false) (hc : ic t < 2) (ho : o < 112) :
    cp_RR (cp_up ic t (ic t + 1)) (cp_up so (2 * t + ic t) o) oc am hg par cn tx st sl (cp_up wi (2 * t + ic t) w) lk wk bw gd pc po := by
  obtain ⟨b1, b2, b3, b4, b5, b6, b7, b8, b9, b10, b11, b12, b13⟩ := R.1
  refine cp_RR_fr R ⟨cp_up_all (P := fun x => x ≤ 2) b1 (by omega), cp_up_all (P := fun x => x < 112) b2 ho, b3, b4, b5, b6, b7, b8, b9, b10, b11, b12, b13⟩ ⟨?_, ?_, ?_⟩ (fun _ _ _ => rfl) (fun _ _ h => h)
  · intro q hq s
    have ne : q ≠ t := by
      intro e
      rw [e, ns] at s
      exact nomatch s
    refine ⟨s, cp_up_n ne, fun k hk => ⟨cp_up_n (by omega), cp_up_n (by omega)⟩⟩
  · intro b hb cb
    exact ⟨cb, rfl, rfl, rfl, fun _ _ => rfl⟩
  · intro j hj
    exact ⟨rfl, fun _ _ => ⟨rfl, rfl⟩⟩
theorem cp_s_out (R : cp_RR ic so oc am hg par cn tx st sl wi lk wk bw gd pc po) {t a : Nat} {l : Int32} (ht : t < 32) (ns : sl t = false) (hc : oc t < 2) (h1 : 1 ≤ a) (h2 : a ≤ 1000) :
    cp_RR ic so (cp_up oc t (oc t + 1)) (cp_up am (2 * t + oc t) a) hg par cn tx st sl wi (cp_up lk (2 * t + oc t) l) wk bw gd pc po := by
  obtain ⟨b1, b2, b3, b4, b5, b6, b7, b8, b9, b10, b11, b12, b13⟩ := R.1
  refine cp_RR_fr R ⟨b1, b2, cp_up_all (P := fun x => x ≤ 2) b3 (by omega), cp_up_all (P := fun x => x ≤ 10000) b4 (by omega), b5, b6, b7, b8, ?_, ?_, b11, ?_, ?_⟩ ⟨?_, ?_, ?_⟩ (fun _ _ _ => rfl) (fun _ _ h => h)
  · intro o
    have c := b9 o
    by_cases e : o = 2 * t + oc t
    · rw [e, cp_up_s, show (2 * t + oc t) / 2 = t from by omega, cp_up_s]
      omega
    · rw [cp_up_n e]
      by_cases e2 : o / 2 = t
      · rw [e2, cp_up_s]
        rw [e2] at c
        omega
      · rw [cp_up_n e2]
        exact c
  · intro o ho
    by_cases e : o = 2 * t + oc t
    · rw [e, cp_up_s]
      exact h2
    · rw [cp_up_n e]
      exact b10 o ho
  · intro b
    rw [cp_up_n (by omega)]
    exact b12 b
  · intro b hb
    rw [cp_up_n (by omega)]
    exact b13 b hb
  · intro q hq s
    exact ⟨s, rfl, fun _ _ => ⟨rfl, rfl⟩⟩
  · intro b hb cb
    exact ⟨cb, rfl, rfl, rfl, fun _ _ => rfl⟩
  · intro j hj
    have ne : j ≠ t := by
      intro e
      rcases hj with z | z
      · rw [e, ns] at z
        exact nomatch z.2
      · omega
    exact ⟨cp_up_n ne, fun i hi => ⟨cp_up_n (by omega), cp_up_n (by omega)⟩⟩
theorem cp_s_seal (R : cp_RR ic so oc am hg par cn tx st sl wi lk wk bw gd pc po) (t : Nat) : cp_RR ic so oc am hg par cn tx st (cp_up sl t true) wi lk wk bw gd pc po := by
  obtain ⟨b1, b2, b3, b4, b5, b6, b7, b8, b9, b10, b11, b12, b13⟩ := R.1
  have up : ∀ q, sl q = true → cp_up sl t true q = true := by
    intro q s
    by_cases e : q = t
    · rw [e, cp_up_s]
    · rw [cp_up_n e]
      exact s
  refine cp_RR_fr R ⟨b1, b2, b3, b4, b5, b6, b7, b8, b9, b10, fun b i h => up _ (b11 b i h), b12, b13⟩ ⟨?_, ?_, ?_⟩ (fun _ _ _ => rfl) (fun _ _ h => h)
  · intro q hq s
    exact ⟨up q s, rfl, fun _ _ => ⟨rfl, rfl⟩⟩
  · intro b hb cb
    exact ⟨cb, rfl, rfl, rfl, fun _ _ => rfl⟩
  · intro j hj
    exact ⟨rfl, fun _ _ => ⟨rfl, rfl⟩⟩
theorem cp_s_draft (R : cp_RR ic so oc am hg par cn tx st sl wi lk wk bw gd pc po) {b p : Nat} {w l : Int32} (hb : b < 24) (hs : st b ≤ 1) (hp : p < 24) :
    cp_RR ic so (cp_up oc (32 + b) 1) (cp_up am (64 + 2 * b) 50) hg (cp_up par b p) (cp_up cn b 0) tx (cp_up st b 1) sl wi (cp_up lk (64 + 2 * b) l) (cp_up wk b w) bw gd pc po := by
  have od := cp_am_odd R.1 b
  obtain ⟨b1, b2, b3, b4, b5, b6, b7, b8, b9, b10, b11, b12, b13⟩ := R.1
  have nb : ∀ c, st c = 3 → c ≠ b := by
    intro c h e
    rw [e] at h
    omega
  refine cp_RR_fr R ⟨b1, b2, cp_up_all (P := fun x => x ≤ 2) b3 (by omega), cp_up_all (P := fun x => x ≤ 10000) b4 (by omega), cp_up_all (P := fun x => x ≤ 3) b5 (by omega), cp_up_all (P := fun x => x < 24) b6 hp, cp_up_all (P := fun x => x ≤ 3) b7 (by omega), b8, ?_, ?_, ?_, ?_, ?_⟩ ⟨?_, ?_, ?_⟩ ?_ ?_
  · intro o
    have c := b9 o
    by_cases e : o = 64 + 2 * b
    · rw [e, cp_up_s, show (64 + 2 * b) / 2 = 32 + b from by omega, cp_up_s]
      omega
    · rw [cp_up_n e]
      by_cases e2 : o / 2 = 32 + b
      · rw [e2, cp_up_s]
        rw [show o = 64 + 2 * b + 1 from by omega, od]
        omega
      · rw [cp_up_n e2]
        exact c
  · intro o ho
    rw [cp_up_n (by omega)]
    exact b10 o ho
  · intro c i hi
    by_cases e : c = b
    · rw [e, cp_up_s] at hi
      exact absurd hi (Nat.not_lt_zero _)
    · rw [cp_up_n e] at hi
      exact b11 c i hi
  · intro c
    by_cases e : c = b
    · rw [e, cp_up_s]
      exact Nat.le_refl _
    · rw [cp_up_n (by omega)]
      exact b12 c
  · intro c hc
    by_cases e : c = b
    · rw [e, cp_up_s]
    · rw [cp_up_n e] at hc
      rw [cp_up_n (by omega)]
      exact b13 c hc
  · intro q hq s
    exact ⟨s, rfl, fun _ _ => ⟨rfl, rfl⟩⟩
  · intro c hc cc
    have ne := nb c cc
    exact ⟨(cp_up_n ne).trans cc, cp_up_n ne, cp_up_n ne, rfl, fun _ _ => rfl⟩
  · intro j hj
    have ne : j ≠ 32 + b := by
      intro e
      rcases hj with z | z
      · omega
      · exact nb _ z.2.2 (by omega)
    exact ⟨cp_up_n ne, fun i hi => ⟨cp_up_n (by omega), cp_up_n (by omega)⟩⟩
  · intro c hc cc
    exact cp_up_n (nb c cc)
  · intro c hc cc
    by_cases e : c = b
    · rw [e, cp_up_s] at cc
      exact nomatch cc
    · rw [cp_up_n e] at cc
      exact cc
theorem cp_s_app (R : cp_RR ic so oc am hg par cn tx st sl wi lk wk bw gd pc po) {b t : Nat} (hb : b < 24) (hs : st b = 1) (hc : cn b < 3) (ht : t < 32) (s : sl t = true) :
    cp_RR ic so oc am hg par (cp_up cn b (cn b + 1)) (cp_up tx (3 * b + cn b) t) st sl wi lk wk bw gd pc po := by
  obtain ⟨b1, b2, b3, b4, b5, b6, b7, b8, b9, b10, b11, b12, b13⟩ := R.1
  have nb : ∀ c, st c = 3 → c ≠ b := by
    intro c h e
    rw [e] at h
    omega
  refine cp_RR_fr R ⟨b1, b2, b3, b4, b5, b6, cp_up_all (P := fun x => x ≤ 3) b7 (by omega), cp_up_all (P := fun x => x < 32) b8 ht, b9, b10, ?_, b12, b13⟩ ⟨?_, ?_, ?_⟩ (fun _ _ _ => rfl) (fun _ _ h => h)
  · intro c i hi
    have c3 := b7 c
    by_cases e : c = b
    · rw [e, cp_up_s] at hi
      rw [e]
      by_cases z : i = cn b
      · rw [z, cp_up_s]
        exact s
      · rw [cp_up_n (by omega)]
        exact b11 b i (by omega)
    · rw [cp_up_n e] at hi
      rw [cp_up_n (by omega)]
      exact b11 c i hi
  · intro q hq s
    exact ⟨s, rfl, fun _ _ => ⟨rfl, rfl⟩⟩
  · intro c hc' cc
    have ne := nb c cc
    exact ⟨cc, rfl, cp_up_n ne, rfl, fun i hi => cp_up_n (by omega)⟩
  · intro j hj
    exact ⟨rfl, fun _ _ => ⟨rfl, rfl⟩⟩
theorem cp_s_cb (R : cp_RR ic so oc am hg par cn tx st sl wi lk wk bw gd pc po) {b a : Nat} {l : Int32} (hb : b < 24) (hs : st b = 1) (h1 : 1 ≤ a) (h2 : a ≤ 10000) :
    cp_RR ic so oc (cp_up am (64 + 2 * b) a) hg par cn tx st sl wi (cp_up lk (64 + 2 * b) l) wk bw gd pc po := by
  obtain ⟨b1, b2, b3, b4, b5, b6, b7, b8, b9, b10, b11, b12, b13⟩ := R.1
  refine cp_RR_fr R ⟨b1, b2, b3, cp_up_all (P := fun x => x ≤ 10000) b4 h2, b5, b6, b7, b8, ?_, ?_, b11, b12, b13⟩ ⟨?_, ?_, ?_⟩ (fun _ _ _ => rfl) (fun _ _ h => h)
  · intro o
    have c := b9 o
    by_cases e : o = 64 + 2 * b
    · rw [e, cp_up_s, show (64 + 2 * b) / 2 = 32 + b from by omega, b13 b (by omega)]
      omega
    · rw [cp_up_n e]
      exact c
  · intro o ho
    rw [cp_up_n (by omega)]
    exact b10 o ho
  · intro q hq s
    exact ⟨s, rfl, fun _ _ => ⟨rfl, rfl⟩⟩
  · intro c hc cc
    exact ⟨cc, rfl, rfl, rfl, fun _ _ => rfl⟩
  · intro j hj
    have ne : j ≠ 32 + b := by
      intro e
      rcases hj with z | z
      · omega
      · have := z.2.2
        rw [e, show 32 + b - 32 = b from by omega] at this
        omega
    exact ⟨rfl, fun i hi => ⟨cp_up_n (by omega), cp_up_n (by omega)⟩⟩
theorem cp_s_sub (R : cp_RR ic so oc am hg par cn tx st sl wi lk wk bw gd pc po) {b : Nat} (hb : b < 24) (hs : st b = 1) : cp_RR ic so oc am hg par cn tx (cp_up st b 2) sl wi lk wk bw gd pc po := by
  obtain ⟨b1, b2, b3, b4, b5, b6, b7, b8, b9, b10, b11, b12, b13⟩ := R.1
  have nb : ∀ c, st c = 3 → c ≠ b := by
    intro c h e
    rw [e] at h
    omega
  refine cp_RR_fr R ⟨b1, b2, b3, b4, cp_up_all (P := fun x => x ≤ 3) b5 (by omega), b6, b7, b8, b9, b10, b11, b12, ?_⟩ ⟨?_, ?_, ?_⟩ (fun _ _ _ => rfl) ?_
  · intro c hc
    by_cases e : c = b
    · rw [e]
      exact b13 b (by omega)
    · rw [cp_up_n e] at hc
      exact b13 c hc
  · intro q hq s
    exact ⟨s, rfl, fun _ _ => ⟨rfl, rfl⟩⟩
  · intro c hc cc
    exact ⟨(cp_up_n (nb c cc)).trans cc, rfl, rfl, rfl, fun _ _ => rfl⟩
  · intro j hj
    exact ⟨rfl, fun _ _ => ⟨rfl, rfl⟩⟩
  · intro c hc cc
    by_cases e : c = b
    · rw [e, cp_up_s] at cc
      exact nomatch cc
    · rw [cp_up_n e] at cc
      exact cc
/-- a block is connected: v says whether it is right -/
theorem cp_s_con (R : cp_RR ic so oc am hg par cn tx st sl wi lk wk bw gd pc po) {b : Nat} {v : Bool} (hb : b < 24) (hs : st b = 2) (hp : st (par b) = 3)
    (hv : v = true ↔ gd (par b) = true ∧ cp_CK ic so oc am (cp_up hg b (hg (par b) + 1)) par cn tx sl wi lk b) :
    cp_RR ic so oc am (cp_up hg b (hg (par b) + 1)) par cn tx (cp_up st b 3) sl wi lk wk (cp_up bw b (bw (par b) + wk b)) (cp_up gd b v) pc po := by
  obtain ⟨B, T, p1, p2⟩ := R
  have B0 := B
  obtain ⟨b1, b2, b3, b4, b5, b6, b7, b8, b9, b10, b11, b12, b13⟩ := B
  have nb : ∀ c, st c = 3 → c ≠ b := by
    intro c h e
    rw [e] at h
    omega
  have f : cp_Fr ic so oc am hg par cn tx st sl wi lk ic so oc am (cp_up hg b (hg (par b) + 1)) par cn tx (cp_up st b 3) sl wi lk := by
    refine ⟨?_, ?_, ?_⟩
    · intro q hq s
      exact ⟨s, rfl, fun _ _ => ⟨rfl, rfl⟩⟩
    · intro c hc cc
      exact ⟨(cp_up_n (nb c cc)).trans cc, rfl, rfl, cp_up_n (nb c cc), fun _ _ => rfl⟩
    · intro j hj
      exact ⟨rfl, fun _ _ => ⟨rfl, rfl⟩⟩
  refine ⟨⟨b1, b2, b3, b4, cp_up_all (P := fun x => x ≤ 3) b5 (by omega), b6, b7, b8, b9, b10, b11, b12, ?_⟩, cp_RT_fr B0 T f ?_ ?_ ?_, p1, fun i hi => cp_PO_fr B0 f (p2 i hi)⟩
  · intro c hc
    by_cases e : c = b
    · rw [e]
      exact b13 b (by omega)
    · rw [cp_up_n e] at hc
      exact b13 c hc
  · intro c hc cc
    exact ⟨rfl, cp_up_n (nb c cc), cp_up_n (nb c cc)⟩
  · intro c hc cc nc
    have e : c = b := by
      by_cases e : c = b
      · exact e
      · rw [cp_up_n e] at cc
        exact absurd cc nc
    subst e
    refine ⟨b6 c, hp, cp_up_s, cp_up_s, ?_⟩
    rw [cp_up_s]
    exact hv
  · intro c hc g
    by_cases e : c = b
    · rw [e, cp_up_s]
    · rw [cp_up_n e] at g
      rw [cp_up_n e]
      exact T.2.2.2.1 c hc g
/-- what is added to the pool is as the pool's transactions are -/
theorem cp_PO_new (R : cp_RR ic so oc am hg par cn tx st sl wi lk wk bw gd pc po) {tip t h : Nat} {L S : Nat → Prop} (ht : tip < 24) (g : gd tip = true) (hq : t < 32)
    (hL : ∀ j, L j → cp_LS hg par cn tx tip j ∨ ∃ i, i < pc ∧ po i = j) (hS : ∀ o, cp_SP ic so hg par cn tx tip o → S o) (H : cp_FT ic so oc am hg sl wi lk L S t h) : cp_PO ic so oc am st sl t := by
  obtain ⟨B, T, p1, p2⟩ := R
  obtain ⟨h1, h2, h3, h4, h5, h6, h7⟩ := H
  have ct := T.2.2.2.1 tip ht g
  have v := cp_V_1200 B T ht g
  have key : ∀ k, k < ic t → cp_fz st sl (so (2 * t + k) / 2) ∧ am (so (2 * t + k)) ≤ 1200 := by
    intro k hk
    obtain ⟨a1, a2, a3, _, _⟩ := h6 k hk
    rcases hL _ a2 with z | ⟨i, hi, z⟩
    · refine ⟨cp_LS_fz B T.1 ht ct z, ?_⟩
      have := cp_V_ge (am := am) (cp_RB_so B (2 * t + k)) z (fun y => a3 (hS _ y))
      omega
    · have p := p2 i hi
      rw [z] at p
      refine ⟨Or.inl ⟨p.1, p.2.1⟩, ?_⟩
      have := cp_RB_a1 B (o := so (2 * t + k)) (by have := p.1; omega)
      omega
  refine ⟨hq, h1, fun k hk => (key k hk).1, h7, ?_⟩
  have c := cp_RB_ic B t
  unfold cp_sd
  by_cases z0 : 0 < ic t
  · have k0 := (key 0 z0).2
    rw [Nat.add_zero] at k0
    rw [if_pos z0]
    by_cases z1 : 1 < ic t
    · have k1 := (key 1 z1).2
      rw [if_pos z1]
      omega
    · rw [if_neg z1]
      omega
  · rw [if_neg z0, if_neg (by omega)]
    omega
end
