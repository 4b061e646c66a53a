/-! pure: the start -/
theorem law_sh : c_Law.map (fun p => p.1) = some S0 := by decide +kernel
def MZ : Mem := (c_Law.getD ([], fun _ _ => 0)).2
theorem law_c : c_Law = some (S0, MZ) := by
  have h := law_sh
  unfold MZ
  cases e : c_Law with
  | none => rw [e] at h; cases h
  | some p =>
    rw [e] at h
    have h1 : p.1 = S0 := Option.some.inj h
    rw [← h1]
    rfl
def TZ : Tn := fun a k => if a = 1 then (if k = 0 then 9 else if k = 1 then 7 else if k = 2 then 3 else if k = 3 then 5 else 0) else if a = 3 then k else 0
theorem mz_1 : (∀ j, j < 6 → MZ 1 j = nI (TZ 1 j)) ∧ (∀ p, p < 6 → MZ 3 p = nI p) ∧ MZ 4 0 = 0 ∧ MZ 10 0 = 0 ∧ MZ 14 0 = 0 := by decide +kernel
theorem mz_2 : ∀ c, c < 81 → MZ 2 c = 0 := by decide +kernel
theorem mz_3 : ∀ c, c < 82 → MZ 104 c = 0 := by decide +kernel
theorem mz_4 : (MZ 103 2 = nI 9 ∧ MZ 103 3 = nI 7 ∧ MZ 103 4 = nI 3 ∧ MZ 103 5 = nI 5 ∧ MZ 103 7 = 0) ∧ (∀ p, p < 6 → MZ 104 (82 + p) = nI p) ∧ MZ 103 6 = 0 ∧ MZ 103 8 = 0 ∧ MZ 104 88 = 0 := by decide +kernel
theorem mz_5 : (MZ 0 3 = 0 ∧ MZ 105 0 = 0 ∧ MZ 105 1 = 0) ∧ (∀ k, k < 4 → MZ 101 k = -1 ∧ MZ 119 k = -4) ∧ MZ 0 9 = MZ 103 43 ∧ MZ 70 0 = 0 ∧ MZ 103 22 = 0 ∧ MZ 70 4 = MZ 103 27 := by decide +kernel
theorem inv_z : Inv MZ := by
  obtain ⟨a1, a2, a3, a4, a5⟩ := mz_1
  obtain ⟨⟨b1, b2, b3, b4, b5⟩, b6, b7, b8, b9⟩ := mz_4
  obtain ⟨⟨c1, c2, c3⟩, c4, c5, c6, c7, c8⟩ := mz_5
  have z : ∀ a k, a ≠ 1 → a ≠ 3 → TZ a k = 0 := fun a k h1 h2 => by
    unfold TZ
    rw [if_neg h1, if_neg h2]
  have t3 : ∀ k, TZ 3 k = k := fun k => by
    unfold TZ
    rw [if_neg (by decide), if_pos rfl]
  refine ⟨TZ, ⟨⟨a1, fun c hc => by rw [z 2 c (by decide) (by decide)]; exact mz_2 c hc, fun p hp => by rw [t3]; exact a2 p hp, by rw [z 4 0 (by decide) (by decide)]; exact a3, fun a h1 h2 b hb => by rw [z 4 0 (by decide) (by decide)] at hb; omega, by rw [z 10 0 (by decide) (by decide)]; exact a4, fun a h1 h2 i hi => by rw [z 10 0 (by decide) (by decide)] at hi; omega, by rw [z 14 0 (by decide) (by decide)]; exact a5, fun a h1 h2 i hi => by rw [z 14 0 (by decide) (by decide)] at hi; omega⟩,
    ⟨⟨b1, b2, b3, b4, mz_3 81 (by decide), b5⟩, fun c hc => by rw [z 2 c (by decide) (by decide)]; exact mz_3 c (by omega), fun p hp => by rw [t3]; exact b6 p hp, by rw [z 4 0 (by decide) (by decide)]; exact b7, fun b hb => by rw [z 4 0 (by decide) (by decide)] at hb; omega, by rw [z 10 0 (by decide) (by decide)]; exact b8, fun i hi => by rw [z 10 0 (by decide) (by decide)] at hi; omega, by rw [z 14 0 (by decide) (by decide)]; exact b9, fun i hi => by rw [z 14 0 (by decide) (by decide)] at hi; omega⟩,
    ⟨by decide, by decide, by decide, by decide, by decide, by decide, fun c hc => by rw [z 2 c (by decide) (by decide)]; omega, fun p hp => ?_, fun p q hp => ?_, fun b hb => by rw [z 4 0 (by decide) (by decide)] at hb; omega, ⟨by decide, fun i hi => by rw [z 10 0 (by decide) (by decide)] at hi; omega⟩, ⟨by decide, fun i hi => by rw [z 14 0 (by decide) (by decide)] at hi; omega⟩⟩⟩,
    ⟨0, 0, by decide, by decide, c1, c2, c3, fun e => absurd e (by decide), fun e => absurd e (by decide)⟩, ⟨fun k hk => Or.inl (c4 k hk), c5⟩, ⟨0, by decide, c6, c7, fun j hj => by omega⟩, c8⟩
  · have : TZ 1 5 = 0 := rfl
    omega
  · have : TZ 1 5 = 0 := rfl
    omega
