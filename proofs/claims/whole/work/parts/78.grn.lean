/-! where a cell is made: the other pieces of re_ stand by their frames (by program, wip/whole/gen76n.py) -/
section Grn
variable {M M' : mm_T} {I J : Nat → Nat → Int32} {m n : Nat} {ta tm : Nat → Nat}
theorem re_Nc (h : re_ M I m n ta tm) (kd : kd_ M M') (fi : ∀ a j, a < mm_n M → ¬ ((112 ≤ a ∧ mm_k M a = (6, 17) ∧ j ≠ 0 ∧ j ≠ 3 ∧ j ≠ 4 ∧ j ≠ 6 ∧ j ≠ 7)) → mm_i M' a j = mm_i M a j) (fr : ∀ a j, a < mm_n M → ¬ ((112 ≤ a ∧ mm_k M a = (6, 17) ∧ j = 14)) → mm_r M' a j = mm_r M a j) (g : ∀ a j, ¬ (False) → J a j = I a j) (nT : rT_ M' J m n ta) (nM : rM_ M' J m n ta) : re_ M' J m n ta tm := by
  obtain ⟨⟨hS, hB, hT, hL⟩, ⟨hO, hA, hW, hC⟩, hK, hD, hX, hM⟩ := h
  have hge : ∀ t, t < n → 112 ≤ ta t := fun t q => (hT.1 t q).1.2.1
  have hlt : ∀ t, t < n → ta t < mm_n M := fun t q => mm_k_lt (by rw [(hT.1 t q).1.1]; decide)
  have h400 : n ≤ 400 := hB.2.1.2.1
  have hn : 112 ≤ mm_n M := hM.1
  refine ⟨⟨?_, ?_, ?_, ?_⟩, ⟨?_, ?_, ?_, ?_⟩, ?_, ?_, ?_, ?_⟩
  · exact rS_o hS kd (fun a j q => fr a j (by unfold sr_ at q; omega) (by unfold sr_ at q; omega)) (fun a j q => fi a j (by unfold si_ at q; omega) (by unfold si_ at q; omega))
  · exact br_o hB kd (fun a j q => fr a j (by omega) (by omega)) (fun l j q1 q2 q3 => fi _ _ (by omega) (by omega)) (fun j => fi _ _ (by omega) (by omega)) (fun j q => fi _ _ (by omega) (by omega)) (fi _ _ (by omega) (by omega)) (fun t j q1 q2 => fi _ _ (by have := hge t q1; have := hlt t q1; omega) (by have := hge t q1; have := hlt t q1; omega)) (fun t q1 => fr _ _ (by have := hge t q1; have := hlt t q1; omega) (by have := hge t q1; have := hlt t q1; omega)) (fun j q => g _ _ (fun z => z)) (fun l f' q1 q2 => g _ _ (fun z => z)) (fun t f' q1 q2 => g _ _ (fun z => z))
  · exact nT
  · exact rL_o hL (fun l j q1 q2 => fi _ _ (by omega) (by omega)) (fun l f' q1 q2 q3 => g _ _ (fun z => z)) (fun t q => ⟨g _ _ (fun z => z), g _ _ (fun z => z)⟩)
  · exact rO_o hO kd (fr _ _ (by omega) (by omega)) (fi _ _ (by omega) (by omega)) (fun i => fr _ _ (by omega) (by omega))
  · exact rA_o hA kd (fr _ _ (by omega) (by omega)) (fi _ _ (by omega) (by omega)) (fun i => fr _ _ (by omega) (by omega)) (g _ _ (fun z => z)) (fun i q => g _ _ (fun z => z))
  · exact rW_o hW (fun w j q => fi _ _ (by omega) (by omega)) (fun w q => fr _ _ (by omega) (by omega)) (fun w f' q1 q2 => g _ _ (fun z => z))
  · exact rC_o hC kd (fi _ _ (by omega) (by omega)) (fun c => fr _ _ (by omega) (by omega)) (fun a j q1 q2 => fi _ _ (mm_k_lt (by rw [q2]; decide)) (by exact fun z => absurd (q2.symm.trans z.2.1) (by decide))) (fun a q1 q2 => fr _ _ (mm_k_lt (by rw [q2]; decide)) (by exact fun z => absurd (q2.symm.trans z.2.1) (by decide))) (fun j q1 q2 => g _ _ (fun z => z)) (fi _ _ (by omega) (by omega)) (fun i => fr _ _ (by omega) (by omega))
  · exact rK_o hK (fi _ _ (by omega) (by omega)) (fun i => fi _ _ (by omega) (by omega)) (fun i => fi _ _ (by omega) (by omega)) (fun x => g _ _ (fun z => z)) (fun t q => g _ _ (fun z => z))
  · exact rD_o hD (fun _ => fi _ _ (by omega) (by omega)) (fun j => fi _ _ (by omega) (by omega)) (g _ _ (fun z => z)) (fun j => g _ _ (fun z => z))
  · exact rX_o hX (fun j q => fi _ _ (by omega) (by omega)) (g _ _ (fun z => z)) (g _ _ (fun z => z)) (g _ _ (fun z => z))
  · exact nM

theorem re_Nt (h : re_ M I m n ta tm) (kd : kd_ M M') (fi : ∀ a j, a < mm_n M → ¬ (a = 5 ∧ j = 10) → mm_i M' a j = mm_i M a j) (fr : ∀ a j, a < mm_n M → ¬ (a = 92) → mm_r M' a j = mm_r M a j) (g : ∀ a j, ¬ (a = m + 1 ∧ 84 ≤ j ∧ j < 181) → J a j = I a j) (nC : rC_ M' J m tm) (nM : rM_ M' J m n ta) : re_ M' J m n ta tm := by
  obtain ⟨⟨hS, hB, hT, hL⟩, ⟨hO, hA, hW, hC⟩, hK, hD, hX, hM⟩ := h
  have hge : ∀ t, t < n → 112 ≤ ta t := fun t q => (hT.1 t q).1.2.1
  have hlt : ∀ t, t < n → ta t < mm_n M := fun t q => mm_k_lt (by rw [(hT.1 t q).1.1]; decide)
  have h400 : n ≤ 400 := hB.2.1.2.1
  have hn : 112 ≤ mm_n M := hM.1
  refine ⟨⟨?_, ?_, ?_, ?_⟩, ⟨?_, ?_, ?_, ?_⟩, ?_, ?_, ?_, ?_⟩
  · exact rS_o hS kd (fun a j q => fr a j (by unfold sr_ at q; omega) (by unfold sr_ at q; omega)) (fun a j q => fi a j (by unfold si_ at q; omega) (by unfold si_ at q; omega))
  · exact br_o hB kd (fun a j q => fr a j (by omega) (by omega)) (fun l j q1 q2 q3 => fi _ _ (by omega) (by omega)) (fun j => fi _ _ (by omega) (by omega)) (fun j q => fi _ _ (by omega) (by omega)) (fi _ _ (by omega) (by omega)) (fun t j q1 q2 => fi _ _ (by have := hge t q1; have := hlt t q1; omega) (by have := hge t q1; have := hlt t q1; omega)) (fun t q1 => fr _ _ (by have := hge t q1; have := hlt t q1; omega) (by have := hge t q1; have := hlt t q1; omega)) (fun j q => g _ _ (by omega)) (fun l f' q1 q2 => g _ _ (by omega)) (fun t f' q1 q2 => g _ _ (by omega))
  · exact rT_o hT kd (fun a j q z => fi _ _ (z.elim (fun z => mm_k_lt (by rw [z]; decide)) (fun z => by obtain ⟨tg, z, -⟩ := z; exact mm_k_lt (by rw [z]; simp))) (by omega)) (fun a j q z => fr _ _ (mm_k_lt (by rw [z]; decide)) (by omega)) (fun t f' q1 q2 => g _ _ (by omega)) (fun t q => g _ _ (by omega)) (fun j => g _ _ (by omega))
  · exact rL_o hL (fun l j q1 q2 => fi _ _ (by omega) (by omega)) (fun l f' q1 q2 q3 => g _ _ (by omega)) (fun t q => ⟨g _ _ (by omega), g _ _ (by omega)⟩)
  · exact rO_o hO kd (fr _ _ (by omega) (by omega)) (fi _ _ (by omega) (by omega)) (fun i => fr _ _ (by omega) (by omega))
  · exact rA_o hA kd (fr _ _ (by omega) (by omega)) (fi _ _ (by omega) (by omega)) (fun i => fr _ _ (by omega) (by omega)) (g _ _ (by omega)) (fun i q => g _ _ (by omega))
  · exact rW_o hW (fun w j q => fi _ _ (by omega) (by omega)) (fun w q => fr _ _ (by omega) (by omega)) (fun w f' q1 q2 => g _ _ (by omega))
  · exact nC
  · exact rK_o hK (fi _ _ (by omega) (by omega)) (fun i => fi _ _ (by omega) (by omega)) (fun i => fi _ _ (by omega) (by omega)) (fun x => g _ _ (by omega)) (fun t q => g _ _ (by omega))
  · exact rD_o hD (fun _ => fi _ _ (by omega) (by omega)) (fun j => fi _ _ (by omega) (by omega)) (g _ _ (by omega)) (fun j => g _ _ (by omega))
  · exact rX_o hX (fun j q => fi _ _ (by omega) (by omega)) (g _ _ (by omega)) (g _ _ (by omega)) (g _ _ (by omega))
  · exact nM

end Grn
