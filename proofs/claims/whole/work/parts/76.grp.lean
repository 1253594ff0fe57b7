/-! one lemma for each kind of writing: the other pieces of re_ stand by their frames (by program, wip/whole/gen76.py) -/
section Grp
variable {M M' : mm_T} {I J : Nat → Nat → Int32} {m n : Nat} {ta tm tn : Nat → Nat}
theorem re_D (h : re_ M I m n ta tm) (f : fx_ (fun a j => a = 97 ∨ a = 96) (fun a j => False) M M') (g : ∀ a j, ¬ (a = m + 6 ∨ (a = m ∧ j = 6)) → J a j = I a j) (nD : rD_ M' J m) : re_ M' J m n ta tm := by
  obtain ⟨⟨hS, hB, hT, hL⟩, ⟨hO, hA, hW, hC⟩, hK, hD, hX, hM⟩ := h
  have hge : ∀ t, t < n → 112 ≤ ta t := fun t q => (hT.1 t q).1.2.1
  have h400 : n ≤ 400 := hB.2.1.2.1
  have kd : kd_ M M' := kd_fx f
  refine ⟨⟨?_, ?_, ?_, ?_⟩, ⟨?_, ?_, ?_, ?_⟩, ?_, ?_, ?_, ?_⟩
  · exact rS_o hS kd (fun a j q => f.2.2.2.1 a j (fun z => z)) (fun a j q => f.2.2.1 a j (by unfold si_ at q; omega))
  · exact br_o hB kd (fun a j q => f.2.2.2.1 a j (fun z => z)) (fun l j q1 q2 q3 => f.2.2.1 _ _ (by omega)) (fun j => f.2.2.1 _ _ (by omega)) (fun j q => f.2.2.1 _ _ (by omega)) (f.2.2.1 _ _ (by omega)) (fun t j q1 q2 => f.2.2.1 _ _ (by have := hge t q1; omega)) (fun t q1 => f.2.2.2.1 _ _ (fun z => z)) (fun j q => g _ _ (by omega)) (fun l f' q1 q2 => g _ _ (by omega)) (fun t f' q1 q2 => g _ _ (by omega))
  · exact rT_o hT kd (fun a j q z => f.2.2.1 _ _ (by omega)) (fun a j q z => f.2.2.2.1 _ _ (fun z => z)) (fun t f' q1 q2 => g _ _ (by omega)) (fun t q => g _ _ (by omega)) (fun j => g _ _ (by omega))
  · exact rL_o hL (fun l j q1 q2 => f.2.2.1 _ _ (by omega)) (fun l f' q1 q2 q3 => g _ _ (by omega)) (fun t q => ⟨g _ _ (by omega), g _ _ (by omega)⟩)
  · exact rO_o hO kd (f.2.2.2.1 _ _ (fun z => z)) (f.2.2.1 _ _ (by omega)) (fun i => f.2.2.2.1 _ _ (fun z => z))
  · exact rA_o hA kd (f.2.2.2.1 _ _ (fun z => z)) (f.2.2.1 _ _ (by omega)) (fun i => f.2.2.2.1 _ _ (fun z => z)) (g _ _ (by omega)) (fun i q => g _ _ (by omega))
  · exact rW_o hW (fun w j q => f.2.2.1 _ _ (by omega)) (fun w q => f.2.2.2.1 _ _ (fun z => z)) (fun w f' q1 q2 => g _ _ (by omega))
  · exact rC_o hC kd (f.2.2.1 _ _ (by omega)) (fun c => f.2.2.2.1 _ _ (fun z => z)) (fun a j q1 q2 => f.2.2.1 _ _ (by omega)) (fun a q1 q2 => f.2.2.2.1 _ _ (fun z => z)) (fun j q1 q2 => g _ _ (by omega)) (f.2.2.1 _ _ (by omega)) (fun i => f.2.2.2.1 _ _ (fun z => z))
  · exact rK_o hK (f.2.2.1 _ _ (by omega)) (fun i => f.2.2.1 _ _ (by omega)) (fun i => f.2.2.1 _ _ (by omega)) (fun x => g _ _ (by omega)) (fun t q => g _ _ (by omega))
  · exact nD
  · exact rX_o hX (fun j q => f.2.2.1 _ _ (by omega)) (g _ _ (by omega)) (g _ _ (by omega)) (g _ _ (by omega))
  · exact rM_o hM (mt_fx f).1 (mt_fx f).2 (fun t q => f.2.2.2.1 _ _ (fun z => z)) (g _ _ (by omega))

theorem re_X (h : re_ M I m n ta tm) (f : fx_ (fun a j => a = 5 ∧ 11 ≤ j) (fun a j => False) M M') (g : ∀ a j, ¬ ((a = m + 1 ∧ (j = 0 ∨ j = 2)) ∨ (a = m ∧ j = 7)) → J a j = I a j) (nX : rX_ M' J m) : re_ M' J m n ta tm := by
  obtain ⟨⟨hS, hB, hT, hL⟩, ⟨hO, hA, hW, hC⟩, hK, hD, hX, hM⟩ := h
  have hge : ∀ t, t < n → 112 ≤ ta t := fun t q => (hT.1 t q).1.2.1
  have h400 : n ≤ 400 := hB.2.1.2.1
  have kd : kd_ M M' := kd_fx f
  refine ⟨⟨?_, ?_, ?_, ?_⟩, ⟨?_, ?_, ?_, ?_⟩, ?_, ?_, ?_, ?_⟩
  · exact rS_o hS kd (fun a j q => f.2.2.2.1 a j (fun z => z)) (fun a j q => f.2.2.1 a j (by unfold si_ at q; omega))
  · exact br_o hB kd (fun a j q => f.2.2.2.1 a j (fun z => z)) (fun l j q1 q2 q3 => f.2.2.1 _ _ (by omega)) (fun j => f.2.2.1 _ _ (by omega)) (fun j q => f.2.2.1 _ _ (by omega)) (f.2.2.1 _ _ (by omega)) (fun t j q1 q2 => f.2.2.1 _ _ (by have := hge t q1; omega)) (fun t q1 => f.2.2.2.1 _ _ (fun z => z)) (fun j q => g _ _ (by omega)) (fun l f' q1 q2 => g _ _ (by omega)) (fun t f' q1 q2 => g _ _ (by omega))
  · exact rT_o hT kd (fun a j q z => f.2.2.1 _ _ (by omega)) (fun a j q z => f.2.2.2.1 _ _ (fun z => z)) (fun t f' q1 q2 => g _ _ (by omega)) (fun t q => g _ _ (by omega)) (fun j => g _ _ (by omega))
  · exact rL_o hL (fun l j q1 q2 => f.2.2.1 _ _ (by omega)) (fun l f' q1 q2 q3 => g _ _ (by omega)) (fun t q => ⟨g _ _ (by omega), g _ _ (by omega)⟩)
  · exact rO_o hO kd (f.2.2.2.1 _ _ (fun z => z)) (f.2.2.1 _ _ (by omega)) (fun i => f.2.2.2.1 _ _ (fun z => z))
  · exact rA_o hA kd (f.2.2.2.1 _ _ (fun z => z)) (f.2.2.1 _ _ (by omega)) (fun i => f.2.2.2.1 _ _ (fun z => z)) (g _ _ (by omega)) (fun i q => g _ _ (by omega))
  · exact rW_o hW (fun w j q => f.2.2.1 _ _ (by omega)) (fun w q => f.2.2.2.1 _ _ (fun z => z)) (fun w f' q1 q2 => g _ _ (by omega))
  · exact rC_o hC kd (f.2.2.1 _ _ (by omega)) (fun c => f.2.2.2.1 _ _ (fun z => z)) (fun a j q1 q2 => f.2.2.1 _ _ (by omega)) (fun a q1 q2 => f.2.2.2.1 _ _ (fun z => z)) (fun j q1 q2 => g _ _ (by omega)) (f.2.2.1 _ _ (by omega)) (fun i => f.2.2.2.1 _ _ (fun z => z))
  · exact rK_o hK (f.2.2.1 _ _ (by omega)) (fun i => f.2.2.1 _ _ (by omega)) (fun i => f.2.2.1 _ _ (by omega)) (fun x => g _ _ (by omega)) (fun t q => g _ _ (by omega))
  · exact rD_o hD (fun _ => f.2.2.1 _ _ (by omega)) (fun j => f.2.2.1 _ _ (by omega)) (g _ _ (by omega)) (fun j => g _ _ (by omega))
  · exact nX
  · exact rM_o hM (mt_fx f).1 (mt_fx f).2 (fun t q => f.2.2.2.1 _ _ (fun z => z)) (g _ _ (by omega))

theorem re_K (h : re_ M I m n ta tm) (f : fx_ (fun a j => (a = 93 ∧ j = 2) ∨ a = 94 ∨ a = 95) (fun a j => False) M M') (g : ∀ a j, ¬ (a = m + 3) → J a j = I a j) (nK : rK_ M' J m n) : re_ M' J m n ta tm := by
  obtain ⟨⟨hS, hB, hT, hL⟩, ⟨hO, hA, hW, hC⟩, hK, hD, hX, hM⟩ := h
  have hge : ∀ t, t < n → 112 ≤ ta t := fun t q => (hT.1 t q).1.2.1
  have h400 : n ≤ 400 := hB.2.1.2.1
  have kd : kd_ M M' := kd_fx f
  refine ⟨⟨?_, ?_, ?_, ?_⟩, ⟨?_, ?_, ?_, ?_⟩, ?_, ?_, ?_, ?_⟩
  · exact rS_o hS kd (fun a j q => f.2.2.2.1 a j (fun z => z)) (fun a j q => f.2.2.1 a j (by unfold si_ at q; omega))
  · exact br_o hB kd (fun a j q => f.2.2.2.1 a j (fun z => z)) (fun l j q1 q2 q3 => f.2.2.1 _ _ (by omega)) (fun j => f.2.2.1 _ _ (by omega)) (fun j q => f.2.2.1 _ _ (by omega)) (f.2.2.1 _ _ (by omega)) (fun t j q1 q2 => f.2.2.1 _ _ (by have := hge t q1; omega)) (fun t q1 => f.2.2.2.1 _ _ (fun z => z)) (fun j q => g _ _ (by omega)) (fun l f' q1 q2 => g _ _ (by omega)) (fun t f' q1 q2 => g _ _ (by omega))
  · exact rT_o hT kd (fun a j q z => f.2.2.1 _ _ (by omega)) (fun a j q z => f.2.2.2.1 _ _ (fun z => z)) (fun t f' q1 q2 => g _ _ (by omega)) (fun t q => g _ _ (by omega)) (fun j => g _ _ (by omega))
  · exact rL_o hL (fun l j q1 q2 => f.2.2.1 _ _ (by omega)) (fun l f' q1 q2 q3 => g _ _ (by omega)) (fun t q => ⟨g _ _ (by omega), g _ _ (by omega)⟩)
  · exact rO_o hO kd (f.2.2.2.1 _ _ (fun z => z)) (f.2.2.1 _ _ (by omega)) (fun i => f.2.2.2.1 _ _ (fun z => z))
  · exact rA_o hA kd (f.2.2.2.1 _ _ (fun z => z)) (f.2.2.1 _ _ (by omega)) (fun i => f.2.2.2.1 _ _ (fun z => z)) (g _ _ (by omega)) (fun i q => g _ _ (by omega))
  · exact rW_o hW (fun w j q => f.2.2.1 _ _ (by omega)) (fun w q => f.2.2.2.1 _ _ (fun z => z)) (fun w f' q1 q2 => g _ _ (by omega))
  · exact rC_o hC kd (f.2.2.1 _ _ (by omega)) (fun c => f.2.2.2.1 _ _ (fun z => z)) (fun a j q1 q2 => f.2.2.1 _ _ (by omega)) (fun a q1 q2 => f.2.2.2.1 _ _ (fun z => z)) (fun j q1 q2 => g _ _ (by omega)) (f.2.2.1 _ _ (by omega)) (fun i => f.2.2.2.1 _ _ (fun z => z))
  · exact nK
  · exact rD_o hD (fun _ => f.2.2.1 _ _ (by omega)) (fun j => f.2.2.1 _ _ (by omega)) (g _ _ (by omega)) (fun j => g _ _ (by omega))
  · exact rX_o hX (fun j q => f.2.2.1 _ _ (by omega)) (g _ _ (by omega)) (g _ _ (by omega)) (g _ _ (by omega))
  · exact rM_o hM (mt_fx f).1 (mt_fx f).2 (fun t q => f.2.2.2.1 _ _ (fun z => z)) (g _ _ (by omega))

theorem re_A (h : re_ M I m n ta tm) (f : fx_ (fun a j => a = 81 ∧ j = 1) (fun a j => a = 82) M M') (g : ∀ a j, ¬ (a = m + 1 ∧ (j = 3 ∨ 5800 ≤ j)) → J a j = I a j) (nA : rA_ M' J m n ta) : re_ M' J m n ta tm := by
  obtain ⟨⟨hS, hB, hT, hL⟩, ⟨hO, hA, hW, hC⟩, hK, hD, hX, hM⟩ := h
  have hge : ∀ t, t < n → 112 ≤ ta t := fun t q => (hT.1 t q).1.2.1
  have h400 : n ≤ 400 := hB.2.1.2.1
  have kd : kd_ M M' := kd_fx f
  refine ⟨⟨?_, ?_, ?_, ?_⟩, ⟨?_, ?_, ?_, ?_⟩, ?_, ?_, ?_, ?_⟩
  · exact rS_o hS kd (fun a j q => f.2.2.2.1 a j (by unfold sr_ at q; omega)) (fun a j q => f.2.2.1 a j (by unfold si_ at q; omega))
  · exact br_o hB kd (fun a j q => f.2.2.2.1 a j (by omega)) (fun l j q1 q2 q3 => f.2.2.1 _ _ (by omega)) (fun j => f.2.2.1 _ _ (by omega)) (fun j q => f.2.2.1 _ _ (by omega)) (f.2.2.1 _ _ (by omega)) (fun t j q1 q2 => f.2.2.1 _ _ (by have := hge t q1; omega)) (fun t q1 => f.2.2.2.1 _ _ (by have := hge t q1; omega)) (fun j q => g _ _ (by omega)) (fun l f' q1 q2 => g _ _ (by omega)) (fun t f' q1 q2 => g _ _ (by omega))
  · exact rT_o hT kd (fun a j q z => f.2.2.1 _ _ (by omega)) (fun a j q z => f.2.2.2.1 _ _ (by omega)) (fun t f' q1 q2 => g _ _ (by omega)) (fun t q => g _ _ (by omega)) (fun j => g _ _ (by omega))
  · exact rL_o hL (fun l j q1 q2 => f.2.2.1 _ _ (by omega)) (fun l f' q1 q2 q3 => g _ _ (by omega)) (fun t q => ⟨g _ _ (by omega), g _ _ (by omega)⟩)
  · exact rO_o hO kd (f.2.2.2.1 _ _ (by omega)) (f.2.2.1 _ _ (by omega)) (fun i => f.2.2.2.1 _ _ (by omega))
  · exact nA
  · exact rW_o hW (fun w j q => f.2.2.1 _ _ (by omega)) (fun w q => f.2.2.2.1 _ _ (by omega)) (fun w f' q1 q2 => g _ _ (by omega))
  · exact rC_o hC kd (f.2.2.1 _ _ (by omega)) (fun c => f.2.2.2.1 _ _ (by omega)) (fun a j q1 q2 => f.2.2.1 _ _ (by omega)) (fun a q1 q2 => f.2.2.2.1 _ _ (by omega)) (fun j q1 q2 => g _ _ (by omega)) (f.2.2.1 _ _ (by omega)) (fun i => f.2.2.2.1 _ _ (by omega))
  · exact rK_o hK (f.2.2.1 _ _ (by omega)) (fun i => f.2.2.1 _ _ (by omega)) (fun i => f.2.2.1 _ _ (by omega)) (fun x => g _ _ (by omega)) (fun t q => g _ _ (by omega))
  · exact rD_o hD (fun _ => f.2.2.1 _ _ (by omega)) (fun j => f.2.2.1 _ _ (by omega)) (g _ _ (by omega)) (fun j => g _ _ (by omega))
  · exact rX_o hX (fun j q => f.2.2.1 _ _ (by omega)) (g _ _ (by omega)) (g _ _ (by omega)) (g _ _ (by omega))
  · exact rM_o hM (mt_fx f).1 (mt_fx f).2 (fun t q => f.2.2.2.1 _ _ (by have := hge t q; omega)) (g _ _ (by omega))

theorem re_L (h : re_ M I m n ta tm) (f : fx_ (fun a j => 12 ≤ a ∧ a < 17 ∧ (j = 4 ∨ 9 ≤ j)) (fun a j => False) M M') (g : ∀ a j, ¬ (a = m + 1 ∧ 10 ≤ j ∧ j < 60 ∧ (j % 10 = 3 ∨ 5 ≤ j % 10)) → J a j = I a j) (nL : rL_ M' J m n) : re_ M' J m n ta tm := by
  obtain ⟨⟨hS, hB, hT, hL⟩, ⟨hO, hA, hW, hC⟩, hK, hD, hX, hM⟩ := h
  have hge : ∀ t, t < n → 112 ≤ ta t := fun t q => (hT.1 t q).1.2.1
  have h400 : n ≤ 400 := hB.2.1.2.1
  have kd : kd_ M M' := kd_fx f
  refine ⟨⟨?_, ?_, ?_, ?_⟩, ⟨?_, ?_, ?_, ?_⟩, ?_, ?_, ?_, ?_⟩
  · exact rS_o hS kd (fun a j q => f.2.2.2.1 a j (fun z => z)) (fun a j q => f.2.2.1 a j (by unfold si_ at q; omega))
  · exact br_o hB kd (fun a j q => f.2.2.2.1 a j (fun z => z)) (fun l j q1 q2 q3 => f.2.2.1 _ _ (by omega)) (fun j => f.2.2.1 _ _ (by omega)) (fun j q => f.2.2.1 _ _ (by omega)) (f.2.2.1 _ _ (by omega)) (fun t j q1 q2 => f.2.2.1 _ _ (by have := hge t q1; omega)) (fun t q1 => f.2.2.2.1 _ _ (fun z => z)) (fun j q => g _ _ (by omega)) (fun l f' q1 q2 => g _ _ (by omega)) (fun t f' q1 q2 => g _ _ (by omega))
  · exact rT_o hT kd (fun a j q z => f.2.2.1 _ _ (by omega)) (fun a j q z => f.2.2.2.1 _ _ (fun z => z)) (fun t f' q1 q2 => g _ _ (by omega)) (fun t q => g _ _ (by omega)) (fun j => g _ _ (by omega))
  · exact nL
  · exact rO_o hO kd (f.2.2.2.1 _ _ (fun z => z)) (f.2.2.1 _ _ (by omega)) (fun i => f.2.2.2.1 _ _ (fun z => z))
  · exact rA_o hA kd (f.2.2.2.1 _ _ (fun z => z)) (f.2.2.1 _ _ (by omega)) (fun i => f.2.2.2.1 _ _ (fun z => z)) (g _ _ (by omega)) (fun i q => g _ _ (by omega))
  · exact rW_o hW (fun w j q => f.2.2.1 _ _ (by omega)) (fun w q => f.2.2.2.1 _ _ (fun z => z)) (fun w f' q1 q2 => g _ _ (by omega))
  · exact rC_o hC kd (f.2.2.1 _ _ (by omega)) (fun c => f.2.2.2.1 _ _ (fun z => z)) (fun a j q1 q2 => f.2.2.1 _ _ (by omega)) (fun a q1 q2 => f.2.2.2.1 _ _ (fun z => z)) (fun j q1 q2 => g _ _ (by omega)) (f.2.2.1 _ _ (by omega)) (fun i => f.2.2.2.1 _ _ (fun z => z))
  · exact rK_o hK (f.2.2.1 _ _ (by omega)) (fun i => f.2.2.1 _ _ (by omega)) (fun i => f.2.2.1 _ _ (by omega)) (fun x => g _ _ (by omega)) (fun t q => g _ _ (by omega))
  · exact rD_o hD (fun _ => f.2.2.1 _ _ (by omega)) (fun j => f.2.2.1 _ _ (by omega)) (g _ _ (by omega)) (fun j => g _ _ (by omega))
  · exact rX_o hX (fun j q => f.2.2.1 _ _ (by omega)) (g _ _ (by omega)) (g _ _ (by omega)) (g _ _ (by omega))
  · exact rM_o hM (mt_fx f).1 (mt_fx f).2 (fun t q => f.2.2.2.1 _ _ (fun z => z)) (g _ _ (by omega))

theorem re_W (h : re_ M I m n ta tm) (f : fx_ (fun a j => 86 ≤ a ∧ a < 92 ∧ 0 < j) (fun a j => 86 ≤ a ∧ a < 92 ∧ j = 1) M M') (g : ∀ a j, ¬ (a = m + 1 ∧ 60 ≤ j ∧ j < 84) → J a j = I a j) (nW : rW_ M' J m ta) : re_ M' J m n ta tm := by
  obtain ⟨⟨hS, hB, hT, hL⟩, ⟨hO, hA, hW, hC⟩, hK, hD, hX, hM⟩ := h
  have hge : ∀ t, t < n → 112 ≤ ta t := fun t q => (hT.1 t q).1.2.1
  have h400 : n ≤ 400 := hB.2.1.2.1
  have kd : kd_ M M' := kd_fx f
  refine ⟨⟨?_, ?_, ?_, ?_⟩, ⟨?_, ?_, ?_, ?_⟩, ?_, ?_, ?_, ?_⟩
  · exact rS_o hS kd (fun a j q => f.2.2.2.1 a j (by unfold sr_ at q; omega)) (fun a j q => f.2.2.1 a j (by unfold si_ at q; omega))
  · exact br_o hB kd (fun a j q => f.2.2.2.1 a j (by omega)) (fun l j q1 q2 q3 => f.2.2.1 _ _ (by omega)) (fun j => f.2.2.1 _ _ (by omega)) (fun j q => f.2.2.1 _ _ (by omega)) (f.2.2.1 _ _ (by omega)) (fun t j q1 q2 => f.2.2.1 _ _ (by have := hge t q1; omega)) (fun t q1 => f.2.2.2.1 _ _ (by have := hge t q1; omega)) (fun j q => g _ _ (by omega)) (fun l f' q1 q2 => g _ _ (by omega)) (fun t f' q1 q2 => g _ _ (by omega))
  · exact rT_o hT kd (fun a j q z => f.2.2.1 _ _ (by omega)) (fun a j q z => f.2.2.2.1 _ _ (by omega)) (fun t f' q1 q2 => g _ _ (by omega)) (fun t q => g _ _ (by omega)) (fun j => g _ _ (by omega))
  · exact rL_o hL (fun l j q1 q2 => f.2.2.1 _ _ (by omega)) (fun l f' q1 q2 q3 => g _ _ (by omega)) (fun t q => ⟨g _ _ (by omega), g _ _ (by omega)⟩)
  · exact rO_o hO kd (f.2.2.2.1 _ _ (by omega)) (f.2.2.1 _ _ (by omega)) (fun i => f.2.2.2.1 _ _ (by omega))
  · exact rA_o hA kd (f.2.2.2.1 _ _ (by omega)) (f.2.2.1 _ _ (by omega)) (fun i => f.2.2.2.1 _ _ (by omega)) (g _ _ (by omega)) (fun i q => g _ _ (by omega))
  · exact nW
  · exact rC_o hC kd (f.2.2.1 _ _ (by omega)) (fun c => f.2.2.2.1 _ _ (by omega)) (fun a j q1 q2 => f.2.2.1 _ _ (by omega)) (fun a q1 q2 => f.2.2.2.1 _ _ (by omega)) (fun j q1 q2 => g _ _ (by omega)) (f.2.2.1 _ _ (by omega)) (fun i => f.2.2.2.1 _ _ (by omega))
  · exact rK_o hK (f.2.2.1 _ _ (by omega)) (fun i => f.2.2.1 _ _ (by omega)) (fun i => f.2.2.1 _ _ (by omega)) (fun x => g _ _ (by omega)) (fun t q => g _ _ (by omega))
  · exact rD_o hD (fun _ => f.2.2.1 _ _ (by omega)) (fun j => f.2.2.1 _ _ (by omega)) (g _ _ (by omega)) (fun j => g _ _ (by omega))
  · exact rX_o hX (fun j q => f.2.2.1 _ _ (by omega)) (g _ _ (by omega)) (g _ _ (by omega)) (g _ _ (by omega))
  · exact rM_o hM (mt_fx f).1 (mt_fx f).2 (fun t q => f.2.2.2.1 _ _ (by have := hge t q; omega)) (g _ _ (by omega))

theorem re_T (h : re_ M I m n ta tm) (f : fx_ (fun a j => (86 ≤ a ∧ a < 92 ∧ 0 < j) ∨ (112 ≤ a ∧ mm_k M a = (6, 17) ∧ j ≠ 0 ∧ j ≠ 3 ∧ j ≠ 4 ∧ j ≠ 6 ∧ j ≠ 7)) (fun a j => (86 ≤ a ∧ a < 92 ∧ j = 1) ∨ (112 ≤ a ∧ mm_k M a = (6, 17) ∧ j = 10)) M M') (g : ∀ a j, ¬ (a = m + 1 ∧ ((60 ≤ j ∧ j < 84) ∨ (200 ≤ j ∧ j < 5800 ∧ 7 ≤ (j - 200) % 14))) → J a j = I a j) (nT : rT_ M' J m n ta) (nW : rW_ M' J m ta) : re_ M' J m n ta tm := by
  obtain ⟨⟨hS, hB, hT, hL⟩, ⟨hO, hA, hW, hC⟩, hK, hD, hX, hM⟩ := h
  have hge : ∀ t, t < n → 112 ≤ ta t := fun t q => (hT.1 t q).1.2.1
  have h400 : n ≤ 400 := hB.2.1.2.1
  have kd : kd_ M M' := kd_fx f
  refine ⟨⟨?_, ?_, ?_, ?_⟩, ⟨?_, ?_, ?_, ?_⟩, ?_, ?_, ?_, ?_⟩
  · exact rS_o hS kd (fun a j q => f.2.2.2.1 a j (by unfold sr_ at q; omega)) (fun a j q => f.2.2.1 a j (by unfold si_ at q; omega))
  · exact br_o hB kd (fun a j q => f.2.2.2.1 a j (by omega)) (fun l j q1 q2 q3 => f.2.2.1 _ _ (by omega)) (fun j => f.2.2.1 _ _ (by omega)) (fun j q => f.2.2.1 _ _ (by omega)) (f.2.2.1 _ _ (by omega)) (fun t j q1 q2 => f.2.2.1 _ _ (by have := hge t q1; omega)) (fun t q1 => f.2.2.2.1 _ _ (by have := hge t q1; omega)) (fun j q => g _ _ (by omega)) (fun l f' q1 q2 => g _ _ (by omega)) (fun t f' q1 q2 => g _ _ (by omega))
  · exact nT
  · exact rL_o hL (fun l j q1 q2 => f.2.2.1 _ _ (by omega)) (fun l f' q1 q2 q3 => g _ _ (by omega)) (fun t q => ⟨g _ _ (by omega), g _ _ (by omega)⟩)
  · exact rO_o hO kd (f.2.2.2.1 _ _ (by omega)) (f.2.2.1 _ _ (by omega)) (fun i => f.2.2.2.1 _ _ (by omega))
  · exact rA_o hA kd (f.2.2.2.1 _ _ (by omega)) (f.2.2.1 _ _ (by omega)) (fun i => f.2.2.2.1 _ _ (by omega)) (g _ _ (by omega)) (fun i q => g _ _ (by omega))
  · exact nW
  · exact rC_o hC kd (f.2.2.1 _ _ (by omega)) (fun c => f.2.2.2.1 _ _ (by omega)) (fun a j q1 q2 => f.2.2.1 _ _ (by
      rintro (z | z)
      · omega
      · exact absurd (q2.symm.trans z.2.1) (by decide))) (fun a q1 q2 => f.2.2.2.1 _ _ (by
      rintro (z | z)
      · omega
      · exact absurd (q2.symm.trans z.2.1) (by decide))) (fun j q1 q2 => g _ _ (by omega)) (f.2.2.1 _ _ (by omega)) (fun i => f.2.2.2.1 _ _ (by omega))
  · exact rK_o hK (f.2.2.1 _ _ (by omega)) (fun i => f.2.2.1 _ _ (by omega)) (fun i => f.2.2.1 _ _ (by omega)) (fun x => g _ _ (by omega)) (fun t q => g _ _ (by omega))
  · exact rD_o hD (fun _ => f.2.2.1 _ _ (by omega)) (fun j => f.2.2.1 _ _ (by omega)) (g _ _ (by omega)) (fun j => g _ _ (by omega))
  · exact rX_o hX (fun j q => f.2.2.1 _ _ (by omega)) (g _ _ (by omega)) (g _ _ (by omega)) (g _ _ (by omega))
  · exact rM_o hM (mt_fx f).1 (mt_fx f).2 (fun t q => f.2.2.2.1 _ _ (by have := hge t q; omega)) (g _ _ (by omega))

theorem re_B (h : re_ M I m n ta tm) (f : fx_ (fun a j => ((a = 8 ∧ j = 1) ∨ a = 10 ∨ a = 11 ∨ (12 ≤ a ∧ a < 17 ∧ 0 < j)) ∨ (112 ≤ a ∧ mm_k M a = (6, 17) ∧ (j = 7 ∨ j = 3))) (fun a j => a = 9 ∨ (112 ≤ a ∧ mm_k M a = (6, 17) ∧ j = 2)) M M') (g : ∀ a j, ¬ (a = m + 1 ∧ ((4 ≤ j ∧ j < 60) ∨ (200 ≤ j ∧ j < 5800 ∧ ((j - 200) % 14 = 0 ∨ (j - 200) % 14 = 1 ∨ (j - 200) % 14 = 6)))) → J a j = I a j) (nB : br_ M' 6 ta J m n) (nT : rT_ M' J m n ta) (nL : rL_ M' J m n) : re_ M' J m n ta tm := by
  obtain ⟨⟨hS, hB, hT, hL⟩, ⟨hO, hA, hW, hC⟩, hK, hD, hX, hM⟩ := h
  have hge : ∀ t, t < n → 112 ≤ ta t := fun t q => (hT.1 t q).1.2.1
  have h400 : n ≤ 400 := hB.2.1.2.1
  have kd : kd_ M M' := kd_fx f
  refine ⟨⟨?_, ?_, ?_, ?_⟩, ⟨?_, ?_, ?_, ?_⟩, ?_, ?_, ?_, ?_⟩
  · exact rS_o hS kd (fun a j q => f.2.2.2.1 a j (by unfold sr_ at q; omega)) (fun a j q => f.2.2.1 a j (by unfold si_ at q; omega))
  · exact nB
  · exact nT
  · exact nL
  · exact rO_o hO kd (f.2.2.2.1 _ _ (by omega)) (f.2.2.1 _ _ (by omega)) (fun i => f.2.2.2.1 _ _ (by omega))
  · exact rA_o hA kd (f.2.2.2.1 _ _ (by omega)) (f.2.2.1 _ _ (by omega)) (fun i => f.2.2.2.1 _ _ (by omega)) (g _ _ (by omega)) (fun i q => g _ _ (by omega))
  · exact rW_o hW (fun w j q => f.2.2.1 _ _ (by omega)) (fun w q => f.2.2.2.1 _ _ (by omega)) (fun w f' q1 q2 => g _ _ (by omega))
  · exact rC_o hC kd (f.2.2.1 _ _ (by omega)) (fun c => f.2.2.2.1 _ _ (by omega)) (fun a j q1 q2 => f.2.2.1 _ _ (by
      rintro (z | z)
      · omega
      · exact absurd (q2.symm.trans z.2.1) (by decide))) (fun a q1 q2 => f.2.2.2.1 _ _ (by
      rintro (z | z)
      · omega
      · exact absurd (q2.symm.trans z.2.1) (by decide))) (fun j q1 q2 => g _ _ (by omega)) (f.2.2.1 _ _ (by omega)) (fun i => f.2.2.2.1 _ _ (by omega))
  · exact rK_o hK (f.2.2.1 _ _ (by omega)) (fun i => f.2.2.1 _ _ (by omega)) (fun i => f.2.2.1 _ _ (by omega)) (fun x => g _ _ (by omega)) (fun t q => g _ _ (by omega))
  · exact rD_o hD (fun _ => f.2.2.1 _ _ (by omega)) (fun j => f.2.2.1 _ _ (by omega)) (g _ _ (by omega)) (fun j => g _ _ (by omega))
  · exact rX_o hX (fun j q => f.2.2.1 _ _ (by omega)) (g _ _ (by omega)) (g _ _ (by omega)) (g _ _ (by omega))
  · exact rM_o hM (mt_fx f).1 (mt_fx f).2 (fun t q => f.2.2.2.1 _ _ (by have := hge t q; omega)) (g _ _ (by omega))

theorem re_C (h : re_ M I m n ta tm) (f : fx_ (fun a j => 112 ≤ a ∧ mm_k M a = (7, 8)) (fun a j => False) M M') (g : ∀ a j, ¬ (a = m + 1 ∧ 85 ≤ j ∧ j < 181) → J a j = I a j) (nC : rC_ M' J m tm) : re_ M' J m n ta tm := by
  obtain ⟨⟨hS, hB, hT, hL⟩, ⟨hO, hA, hW, hC⟩, hK, hD, hX, hM⟩ := h
  have hge : ∀ t, t < n → 112 ≤ ta t := fun t q => (hT.1 t q).1.2.1
  have h400 : n ≤ 400 := hB.2.1.2.1
  have kd : kd_ M M' := kd_fx f
  refine ⟨⟨?_, ?_, ?_, ?_⟩, ⟨?_, ?_, ?_, ?_⟩, ?_, ?_, ?_, ?_⟩
  · exact rS_o hS kd (fun a j q => f.2.2.2.1 a j (fun z => z)) (fun a j q => f.2.2.1 a j (by unfold si_ at q; omega))
  · exact br_o hB kd (fun a j q => f.2.2.2.1 a j (fun z => z)) (fun l j q1 q2 q3 => f.2.2.1 _ _ (by omega)) (fun j => f.2.2.1 _ _ (by omega)) (fun j q => f.2.2.1 _ _ (by omega)) (f.2.2.1 _ _ (by omega)) (fun t j q1 q2 => f.2.2.1 _ _ (fun z => absurd ((hT.1 t q1).1.1.symm.trans z.2) (by decide))) (fun t q1 => f.2.2.2.1 _ _ (fun z => z)) (fun j q => g _ _ (by omega)) (fun l f' q1 q2 => g _ _ (by omega)) (fun t f' q1 q2 => g _ _ (by omega))
  · exact rT_o hT kd (fun a j q z => f.2.2.1 _ _ (by
      rintro ⟨z1, z2⟩
      rcases z with z | ⟨tg, z, z3, -⟩
      · exact absurd (z2.symm.trans z) (by decide)
      · rw [z2] at z
        injection z
        omega)) (fun a j q z => f.2.2.2.1 _ _ (fun z => z)) (fun t f' q1 q2 => g _ _ (by omega)) (fun t q => g _ _ (by omega)) (fun j => g _ _ (by omega))
  · exact rL_o hL (fun l j q1 q2 => f.2.2.1 _ _ (by omega)) (fun l f' q1 q2 q3 => g _ _ (by omega)) (fun t q => ⟨g _ _ (by omega), g _ _ (by omega)⟩)
  · exact rO_o hO kd (f.2.2.2.1 _ _ (fun z => z)) (f.2.2.1 _ _ (by omega)) (fun i => f.2.2.2.1 _ _ (fun z => z))
  · exact rA_o hA kd (f.2.2.2.1 _ _ (fun z => z)) (f.2.2.1 _ _ (by omega)) (fun i => f.2.2.2.1 _ _ (fun z => z)) (g _ _ (by omega)) (fun i q => g _ _ (by omega))
  · exact rW_o hW (fun w j q => f.2.2.1 _ _ (by omega)) (fun w q => f.2.2.2.1 _ _ (fun z => z)) (fun w f' q1 q2 => g _ _ (by omega))
  · exact nC
  · exact rK_o hK (f.2.2.1 _ _ (by omega)) (fun i => f.2.2.1 _ _ (by omega)) (fun i => f.2.2.1 _ _ (by omega)) (fun x => g _ _ (by omega)) (fun t q => g _ _ (by omega))
  · exact rD_o hD (fun _ => f.2.2.1 _ _ (by omega)) (fun j => f.2.2.1 _ _ (by omega)) (g _ _ (by omega)) (fun j => g _ _ (by omega))
  · exact rX_o hX (fun j q => f.2.2.1 _ _ (by omega)) (g _ _ (by omega)) (g _ _ (by omega)) (g _ _ (by omega))
  · exact rM_o hM (mt_fx f).1 (mt_fx f).2 (fun t q => f.2.2.2.1 _ _ (fun z => z)) (g _ _ (by omega))

theorem re_Z (h : re_ M I m n ta tm) (f : fx_ (fun a j => 17 ≤ a ∧ a < 79 ∧ (a < 24 ∨ 29 ≤ a ∨ 0 < j)) (fun a j => a = 21 ∨ (31 ≤ a ∧ a < 79)) M M') (g : ∀ a j, ¬ (False) → J a j = I a j)  : re_ M' J m n ta tm := by
  obtain ⟨⟨hS, hB, hT, hL⟩, ⟨hO, hA, hW, hC⟩, hK, hD, hX, hM⟩ := h
  have hge : ∀ t, t < n → 112 ≤ ta t := fun t q => (hT.1 t q).1.2.1
  have h400 : n ≤ 400 := hB.2.1.2.1
  have kd : kd_ M M' := kd_fx f
  refine ⟨⟨?_, ?_, ?_, ?_⟩, ⟨?_, ?_, ?_, ?_⟩, ?_, ?_, ?_, ?_⟩
  · exact rS_o hS kd (fun a j q => f.2.2.2.1 a j (by unfold sr_ at q; omega)) (fun a j q => f.2.2.1 a j (by unfold si_ at q; omega))
  · exact br_o hB kd (fun a j q => f.2.2.2.1 a j (by omega)) (fun l j q1 q2 q3 => f.2.2.1 _ _ (by omega)) (fun j => f.2.2.1 _ _ (by omega)) (fun j q => f.2.2.1 _ _ (by omega)) (f.2.2.1 _ _ (by omega)) (fun t j q1 q2 => f.2.2.1 _ _ (by have := hge t q1; omega)) (fun t q1 => f.2.2.2.1 _ _ (by have := hge t q1; omega)) (fun j q => g _ _ (fun z => z)) (fun l f' q1 q2 => g _ _ (fun z => z)) (fun t f' q1 q2 => g _ _ (fun z => z))
  · exact rT_o hT kd (fun a j q z => f.2.2.1 _ _ (by omega)) (fun a j q z => f.2.2.2.1 _ _ (by omega)) (fun t f' q1 q2 => g _ _ (fun z => z)) (fun t q => g _ _ (fun z => z)) (fun j => g _ _ (fun z => z))
  · exact rL_o hL (fun l j q1 q2 => f.2.2.1 _ _ (by omega)) (fun l f' q1 q2 q3 => g _ _ (fun z => z)) (fun t q => ⟨g _ _ (fun z => z), g _ _ (fun z => z)⟩)
  · exact rO_o hO kd (f.2.2.2.1 _ _ (by omega)) (f.2.2.1 _ _ (by omega)) (fun i => f.2.2.2.1 _ _ (by omega))
  · exact rA_o hA kd (f.2.2.2.1 _ _ (by omega)) (f.2.2.1 _ _ (by omega)) (fun i => f.2.2.2.1 _ _ (by omega)) (g _ _ (fun z => z)) (fun i q => g _ _ (fun z => z))
  · exact rW_o hW (fun w j q => f.2.2.1 _ _ (by omega)) (fun w q => f.2.2.2.1 _ _ (by omega)) (fun w f' q1 q2 => g _ _ (fun z => z))
  · exact rC_o hC kd (f.2.2.1 _ _ (by omega)) (fun c => f.2.2.2.1 _ _ (by omega)) (fun a j q1 q2 => f.2.2.1 _ _ (by omega)) (fun a q1 q2 => f.2.2.2.1 _ _ (by omega)) (fun j q1 q2 => g _ _ (fun z => z)) (f.2.2.1 _ _ (by omega)) (fun i => f.2.2.2.1 _ _ (by omega))
  · exact rK_o hK (f.2.2.1 _ _ (by omega)) (fun i => f.2.2.1 _ _ (by omega)) (fun i => f.2.2.1 _ _ (by omega)) (fun x => g _ _ (fun z => z)) (fun t q => g _ _ (fun z => z))
  · exact rD_o hD (fun _ => f.2.2.1 _ _ (by omega)) (fun j => f.2.2.1 _ _ (by omega)) (g _ _ (fun z => z)) (fun j => g _ _ (fun z => z))
  · exact rX_o hX (fun j q => f.2.2.1 _ _ (by omega)) (g _ _ (fun z => z)) (g _ _ (fun z => z)) (g _ _ (fun z => z))
  · exact rM_o hM (mt_fx f).1 (mt_fx f).2 (fun t q => f.2.2.2.1 _ _ (by have := hge t q; omega)) (g _ _ (fun z => z))

theorem re_F (h : re_ M I m n ta tm) (f : fx_ (fun a j => a = 83 ∧ j = 1) (fun a j => a = 84) M M') (g : ∀ a j, ¬ (False) → J a j = I a j) (nC : rC_ M' J m tn) : re_ M' J m n ta tn := by
  obtain ⟨⟨hS, hB, hT, hL⟩, ⟨hO, hA, hW, hC⟩, hK, hD, hX, hM⟩ := h
  have hge : ∀ t, t < n → 112 ≤ ta t := fun t q => (hT.1 t q).1.2.1
  have h400 : n ≤ 400 := hB.2.1.2.1
  have kd : kd_ M M' := kd_fx f
  refine ⟨⟨?_, ?_, ?_, ?_⟩, ⟨?_, ?_, ?_, ?_⟩, ?_, ?_, ?_, ?_⟩
  · exact rS_o hS kd (fun a j q => f.2.2.2.1 a j (by unfold sr_ at q; omega)) (fun a j q => f.2.2.1 a j (by unfold si_ at q; omega))
  · exact br_o hB kd (fun a j q => f.2.2.2.1 a j (by omega)) (fun l j q1 q2 q3 => f.2.2.1 _ _ (by omega)) (fun j => f.2.2.1 _ _ (by omega)) (fun j q => f.2.2.1 _ _ (by omega)) (f.2.2.1 _ _ (by omega)) (fun t j q1 q2 => f.2.2.1 _ _ (by have := hge t q1; omega)) (fun t q1 => f.2.2.2.1 _ _ (by have := hge t q1; omega)) (fun j q => g _ _ (fun z => z)) (fun l f' q1 q2 => g _ _ (fun z => z)) (fun t f' q1 q2 => g _ _ (fun z => z))
  · exact rT_o hT kd (fun a j q z => f.2.2.1 _ _ (by omega)) (fun a j q z => f.2.2.2.1 _ _ (by omega)) (fun t f' q1 q2 => g _ _ (fun z => z)) (fun t q => g _ _ (fun z => z)) (fun j => g _ _ (fun z => z))
  · exact rL_o hL (fun l j q1 q2 => f.2.2.1 _ _ (by omega)) (fun l f' q1 q2 q3 => g _ _ (fun z => z)) (fun t q => ⟨g _ _ (fun z => z), g _ _ (fun z => z)⟩)
  · exact rO_o hO kd (f.2.2.2.1 _ _ (by omega)) (f.2.2.1 _ _ (by omega)) (fun i => f.2.2.2.1 _ _ (by omega))
  · exact rA_o hA kd (f.2.2.2.1 _ _ (by omega)) (f.2.2.1 _ _ (by omega)) (fun i => f.2.2.2.1 _ _ (by omega)) (g _ _ (fun z => z)) (fun i q => g _ _ (fun z => z))
  · exact rW_o hW (fun w j q => f.2.2.1 _ _ (by omega)) (fun w q => f.2.2.2.1 _ _ (by omega)) (fun w f' q1 q2 => g _ _ (fun z => z))
  · exact nC
  · exact rK_o hK (f.2.2.1 _ _ (by omega)) (fun i => f.2.2.1 _ _ (by omega)) (fun i => f.2.2.1 _ _ (by omega)) (fun x => g _ _ (fun z => z)) (fun t q => g _ _ (fun z => z))
  · exact rD_o hD (fun _ => f.2.2.1 _ _ (by omega)) (fun j => f.2.2.1 _ _ (by omega)) (g _ _ (fun z => z)) (fun j => g _ _ (fun z => z))
  · exact rX_o hX (fun j q => f.2.2.1 _ _ (by omega)) (g _ _ (fun z => z)) (g _ _ (fun z => z)) (g _ _ (fun z => z))
  · exact rM_o hM (mt_fx f).1 (mt_fx f).2 (fun t q => f.2.2.2.1 _ _ (by have := hge t q; omega)) (g _ _ (fun z => z))

theorem re_I (h : re_ M I m n ta tm) (f : fx_ (fun a j => False) (fun a j => False) M M') (g : ∀ a j, ¬ ((a = m ∧ 8 ≤ j) ∨ a = m + 2 ∨ m + 7 ≤ a) → J a j = I a j)  : re_ M' J m n ta tm := by
  obtain ⟨⟨hS, hB, hT, hL⟩, ⟨hO, hA, hW, hC⟩, hK, hD, hX, hM⟩ := h
  have hge : ∀ t, t < n → 112 ≤ ta t := fun t q => (hT.1 t q).1.2.1
  have h400 : n ≤ 400 := hB.2.1.2.1
  have kd : kd_ M M' := kd_fx f
  refine ⟨⟨?_, ?_, ?_, ?_⟩, ⟨?_, ?_, ?_, ?_⟩, ?_, ?_, ?_, ?_⟩
  · exact rS_o hS kd (fun a j q => f.2.2.2.1 a j (fun z => z)) (fun a j q => f.2.2.1 a j (fun z => z))
  · exact br_o hB kd (fun a j q => f.2.2.2.1 a j (fun z => z)) (fun l j q1 q2 q3 => f.2.2.1 _ _ (fun z => z)) (fun j => f.2.2.1 _ _ (fun z => z)) (fun j q => f.2.2.1 _ _ (fun z => z)) (f.2.2.1 _ _ (fun z => z)) (fun t j q1 q2 => f.2.2.1 _ _ (fun z => z)) (fun t q1 => f.2.2.2.1 _ _ (fun z => z)) (fun j q => g _ _ (by omega)) (fun l f' q1 q2 => g _ _ (by omega)) (fun t f' q1 q2 => g _ _ (by omega))
  · exact rT_o hT kd (fun a j q z => f.2.2.1 _ _ (fun z => z)) (fun a j q z => f.2.2.2.1 _ _ (fun z => z)) (fun t f' q1 q2 => g _ _ (by omega)) (fun t q => g _ _ (by omega)) (fun j => g _ _ (by omega))
  · exact rL_o hL (fun l j q1 q2 => f.2.2.1 _ _ (fun z => z)) (fun l f' q1 q2 q3 => g _ _ (by omega)) (fun t q => ⟨g _ _ (by omega), g _ _ (by omega)⟩)
  · exact rO_o hO kd (f.2.2.2.1 _ _ (fun z => z)) (f.2.2.1 _ _ (fun z => z)) (fun i => f.2.2.2.1 _ _ (fun z => z))
  · exact rA_o hA kd (f.2.2.2.1 _ _ (fun z => z)) (f.2.2.1 _ _ (fun z => z)) (fun i => f.2.2.2.1 _ _ (fun z => z)) (g _ _ (by omega)) (fun i q => g _ _ (by omega))
  · exact rW_o hW (fun w j q => f.2.2.1 _ _ (fun z => z)) (fun w q => f.2.2.2.1 _ _ (fun z => z)) (fun w f' q1 q2 => g _ _ (by omega))
  · exact rC_o hC kd (f.2.2.1 _ _ (fun z => z)) (fun c => f.2.2.2.1 _ _ (fun z => z)) (fun a j q1 q2 => f.2.2.1 _ _ (fun z => z)) (fun a q1 q2 => f.2.2.2.1 _ _ (fun z => z)) (fun j q1 q2 => g _ _ (by omega)) (f.2.2.1 _ _ (fun z => z)) (fun i => f.2.2.2.1 _ _ (fun z => z))
  · exact rK_o hK (f.2.2.1 _ _ (fun z => z)) (fun i => f.2.2.1 _ _ (fun z => z)) (fun i => f.2.2.1 _ _ (fun z => z)) (fun x => g _ _ (by omega)) (fun t q => g _ _ (by omega))
  · exact rD_o hD (fun _ => f.2.2.1 _ _ (fun z => z)) (fun j => f.2.2.1 _ _ (fun z => z)) (g _ _ (by omega)) (fun j => g _ _ (by omega))
  · exact rX_o hX (fun j q => f.2.2.1 _ _ (fun z => z)) (g _ _ (by omega)) (g _ _ (by omega)) (g _ _ (by omega))
  · exact rM_o hM (mt_fx f).1 (mt_fx f).2 (fun t q => f.2.2.2.1 _ _ (fun z => z)) (g _ _ (by omega))

end Grp
