/-! ===== the relation at the start ===== -/
theorem z_P : sp_P (sp_raw hs_29) = 0 := by decide +kernel
theorem z_N : sp_N (sp_raw hs_29) = 0 := by decide +kernel
theorem z_D : sp_D (sp_raw hs_29) = 0 := by decide +kernel
theorem z_tl : ∀ t, t < 3 → sp_tl (sp_raw hs_29) t = 0 ∧ (sp_raw hs_29).1 74 t = 0 := by decide +kernel
theorem z_mc : ∀ k, k < 3 → sp_mc (sp_raw hs_29) k = 0 ∧ (sp_raw hs_29).1 84 k = 0 ∧ hs_29.1 (19 + 7 * k) 3 = 0 := by decide +kernel
theorem z_sc : sp_sc (sp_raw hs_29) = 0 ∧ (sp_raw hs_29).1 73 21 = 0 ∧ hs_29.1 51 3 = 0 := by decide +kernel
theorem z_zr : sp_zr (sp_raw hs_29) = 6 ∧ (sp_raw hs_29).1 73 13 = 6 ∧ hs_29.1 11 6 = 6 := by decide +kernel
theorem z_sh : ∀ s, s < 4 → (sp_raw hs_29).1 93 s = 0 ∧ (sp_raw hs_29).1 94 s = 0 ∧ (sp_raw hs_29).1 95 s = 0 ∧ sp_fo (sp_raw hs_29) s = 0 ∧ sp_sz (sp_raw hs_29) s = 0 := by decide +kernel
theorem z_hh : ∀ s, s < 4 → hs_29.1 (61 + 3 * s) 1 = 1 ∧ hs_29.1 (61 + 3 * s) 2 = 0 ∧ hs_29.1 (61 + 3 * s) 3 = 0 := by decide +kernel
theorem z_hi : ∀ s, s < 4 → ∀ i, i < 48 → hs_29.1 (63 + 3 * s) i = (sp_raw hs_29).1 96 (48 * s + i) := by decide +kernel
theorem z_T : ∀ t, t < 3 → hs_29.1 (2 + 3 * t) 1 = nI (sp_cp t) ∧ hs_29.1 (2 + 3 * t) 2 = 0 := by decide +kernel
theorem z_o : hs_29.1 12 3 = 0 ∧ hs_29.1 11 5 = 0 ∧ hs_29.1 48 1 = 0 ∧ hs_29.1 0 7 = (sp_raw hs_29).1 73 30 ∧ hs_29.2 11 7 = 0 := by decide +kernel
theorem z_V : sp_V (sp_raw hs_29) := by
  refine ⟨fun t ht => ?_, ⟨?_, ?_, fun k hk => ?_⟩, ⟨?_, ?_, fun i hi => ?_⟩, fun s hs => ?_⟩
  · obtain ⟨h1, h2⟩ := z_tl t ht
    rw [h1, h2]
    exact ⟨rfl, Nat.zero_le _, fun i hi => absurd hi (Nat.not_lt_zero i)⟩
  · rw [z_zr.1, z_zr.2.1]; rfl
  · rw [z_zr.1]; omega
  · obtain ⟨h1, h2, h3⟩ := z_mc k hk
    rw [h1, h2]
    exact ⟨rfl, Nat.zero_le _, fun i hi => absurd hi (Nat.not_lt_zero i)⟩
  · rw [z_sc.1, z_sc.2.1]; rfl
  · rw [z_sc.1]; omega
  · rw [z_sc.1] at hi; exact absurd hi (Nat.not_lt_zero i)
  · obtain ⟨h1, h2, h3, h4, h5⟩ := z_sh s hs
    rw [h1, h2, h3, h4, h5]
    exact ⟨Or.inl rfl, ⟨rfl, by omega⟩, rfl, by omega⟩
theorem z_C : CX hs_29 (sp_raw hs_29) := by
  refine ⟨fun t ht => ?_, ⟨?_, fun p hp => ?_⟩, ⟨?_, fun n hn => ?_⟩, ⟨?_, fun d hd => ?_⟩, ⟨?_, fun k hk => ?_⟩, ⟨fun i hi => ?_, fun p hp => ?_⟩, ⟨?_, fun i hi => ?_⟩, fun s hs => ?_, z_o.2.2.2.1⟩
  · obtain ⟨h1, h2⟩ := z_tl t ht
    obtain ⟨h3, h4⟩ := z_T t ht
    rw [h1, h3, h4]
    exact ⟨rfl, rfl, fun i hi => absurd hi (Nat.not_lt_zero i)⟩
  · rw [z_o.1, z_P]; rfl
  · rw [z_P] at hp; exact absurd hp (Nat.not_lt_zero p)
  · rw [z_o.2.1, z_N]; rfl
  · rw [z_N] at hn; exact absurd hn (Nat.not_lt_zero n)
  · rw [z_o.2.2.1, z_D]; rfl
  · rw [z_D] at hd; exact absurd hd (Nat.not_lt_zero d)
  · rw [z_zr.1, z_zr.2.2]; rfl
  · obtain ⟨h1, h2, h3⟩ := z_mc k hk
    rw [h1, h3]
    exact ⟨rfl, fun i hi => absurd hi (Nat.not_lt_zero i)⟩
  · unfold sp_cl
    rw [z_o.2.2.2.2, gb_0, (z_mc 0 (by omega)).1]; rfl
  · rw [z_P] at hp; exact absurd hp (Nat.not_lt_zero p)
  · rw [z_sc.1, z_sc.2.2]; rfl
  · rw [z_sc.1] at hi; exact absurd hi (Nat.not_lt_zero i)
  · obtain ⟨h1, h2, h3, h4, h5⟩ := z_sh s hs
    obtain ⟨k1, k2, k3⟩ := z_hh s hs
    rw [h1, h2, h3, k1, k2, k3]
    exact ⟨⟨fun h => absurd h (by decide), fun h => absurd rfl h⟩, rfl, rfl, z_hi s hs⟩
theorem rr0 : RR hs_29 hs_29 := ⟨sp_raw hs_29, rfl, z_V, z_C⟩
