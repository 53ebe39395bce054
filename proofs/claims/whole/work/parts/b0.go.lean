/-! THE LAW, FROM ITS ENTRY -/
theorem law_go {G : xG} {k : xK} {b0 N : Nat} {xs : Nat → Int32} (hX : va_X b0 N xs (ks k) (ks k).heap) (hbl : b0 < (ks k).heap.size) (hbA : ¬ xA G b0) (C : CC G k cL_law RL 4 room_1) (hN : N ≤ 2560) (hE : ∀ (cn sn n : Nat) (h : xH) (x3 : Int), cn ≤ 600000 → sn ≤ 7302250 → WW G k 4 cn sn 521 [(0, .ref b0), (1, rf G 0), (2, rf G 26), (3, .int (iz x3))] [.int (iz 1)] n h) (h : xH) : L_law_w0 G k b0 0 h := by
  refine L_law_b0 hX hbl hbA C 0 h (fun h1 e1 => ?_)
  refine sp_init4 ⟨by decide, by rw [e1, hN_self]⟩ (fun h2 f d u o i6 i8 i10 i12 q z h4 e4 => ?_)
  have s2 : cS 26 h2 0 0 0 0 0 0 [] [] := ⟨d, ⟨f, u⟩, ⟨5, 400, o, Or.inl rfl, Nat.le_refl _⟩, i6, i8, ⟨0, i10⟩, ⟨0, i12⟩, ⟨[], 0, q⟩, ⟨0, 0, 0, 0, z⟩⟩
  refine sp_init9 ⟨by decide, by rw [e4, hN_self]⟩ (by rw [e4, hN_self]; rfl) (by rw [e4, hN_self]; rfl) (by rw [e4, hN_self]; rfl) (fun h5 fc f5 t5 => ?_)
  have s5 : cS 48 h5 0 0 0 0 0 0 [] [] := s2.fr ((hF_nw e4 (Nat.le_refl 26)).tr f5 (Nat.le_refl 26)) (by decide) (fun i y => by have : i = 26 := y; omega)
  exact law_loop hX hbl hbA C hN hE 513 0 rfl 48 16509 48 h5 (by decide) ⟨0, 0, 0, 0, 0, 0, [], [], s5, ⟨⟨fc, -1, t5, Or.inl ⟨rfl, rfl, rfl⟩⟩, ⟨Nat.zero_le _, fun i hi => absurd hi (Nat.not_lt_zero _)⟩⟩, cdL.nil, cdL.nil⟩ (by decide) (by decide)
