/-! at first the class stands for the reference's ints -/
section Re0
variable {M B : mm_T} {I : fI} {f : Nat → Int32} {a : Nat} {M' : mm_T}
theorem ce_gr (h : ce_T M) (g : gr_ M M' a) (ha : a < 92 ∨ 99 ≤ a) (hn : 99 ≤ mm_n M) : ce_T M' := by
  obtain ⟨h1, ⟨a1, a2, a3, a4, a5, a6⟩, ⟨b1, b2, b3, b4, b5⟩, c⟩ := h
  exact ⟨gr_ak g h1, ⟨gr_k g a1 (by decide), (gr_r g (by omega) (by omega) 0).trans a2, (gr_r g (by omega) (by omega) 1).trans a3, gr_ak g a4, gr_ak g a5, (gr_i g (by omega) (by omega) 2).trans a6⟩, ⟨gr_k g b1 (by decide), (gr_r g (by omega) (by omega) 0).trans b2, gr_ak g b3, ⟨(gr_i g (by omega) (by omega) 1).trans b4.1, (gr_i g (by omega) (by omega) 2).trans b4.2⟩, fun j => (gr_i g (by omega) (by omega) j).trans (b5 j)⟩, gr_k g c (by decide)⟩
theorem cS_gr (h : cS_ M f) (g : gr_ M M' a) (ha : 99 ≤ a) (hn : 99 ≤ mm_n M) : cS_ M' f := by
  obtain ⟨⟨h1, h2, h3⟩, ⟨h4, h5, h6⟩, h7, h8⟩ := h
  exact ⟨⟨s5_gr h1 g (by omega) (by omega), fbd_gr h2 g (by omega) (by omega), tS_gr h3 g (by omega) (by omega)⟩, ⟨ro_gr h4 g (by omega) (by omega), ro_gr h5 g (by omega) (by omega), ro_gr h6 g (by omega) (by omega)⟩, wk_gr h7 g (by omega) (by omega), ce_gr h8 g (by omega) hn⟩
theorem re_00 (hc : cS_ M f) (hf : ∀ k, k < 6 → f k = inb_ (4 + k)) (hn : 99 ≤ mm_n M) (n112 : mm_n M = 112) (ht : tt_ M ≤ 60000) (h3 : mm_k M 3 = (15, 6) ∧ ∀ k, k < 6 → mm_i M 3 k = nI ((fun k => if k < 2 then 99 else if k = 2 then 20 else if k = 4 then 48 else 9) k)) (h4 : mm_k M 4 = (15, 3) ∧ ∀ k, k < 3 → mm_i M 4 k = nI ((fun k => if k = 0 then 9 else if k = 1 then 32 else 6) k))
    (i1 : ∀ j, I 100 j = inl_ 5 6 j) (i3 : ∀ j, I 102 j = 0) (i6 : ∀ j, I 105 j = 0) (i96 : I 99 6 = 0) (i97 : I 99 7 = 0) : ∃ tm, re_ M I 99 0 (fun _ => 0) tm := by
  obtain ⟨⟨hs, hb, hT⟩, ⟨o1, o2, o3⟩, hw, hce⟩ := hc
  obtain ⟨c1, ⟨a1, a2, a3, a4, a5, a6⟩, ⟨b1, b2, b3, b4, b5⟩, c98⟩ := hce
  obtain ⟨bs, bl, bc, bf, br⟩ := hb
  have eL : ∀ l f, l < 5 → f < 10 → ra_L I 99 l f = inf_ f := fun l f q1 q2 => by
    unfold ra_L
    rw [i1]
    unfold inl_
    rw [if_pos (by omega), show (10 + 10 * l + f) % 10 = f by omega]
  have eW : ∀ w f, w < 6 → f < 4 → ra_W I 99 w f = if f = 0 then -1 else 0 := fun w f q1 q2 => by
    unfold ra_W
    rw [i1]
    unfold inl_
    rw [if_neg (by omega)]
    by_cases q : f = 0
    · rw [if_pos (by omega), if_pos q]
    · rw [if_neg (by omega), if_neg q, inb_10 (by omega)]
  have e0 : ∀ j, j < 4 → I 100 j = 0 := fun j q => by
    rw [i1]
    have : j = 0 ∨ j = 1 ∨ j = 2 ∨ j = 3 := by omega
    rcases this with rfl | rfl | rfl | rfl <;> decide
  have e84 : I 100 84 = nI 0 := by rw [i1]; decide
  have er : ∀ k, k < 6 → I 100 (4 + k) = inb_ (4 + k) := fun k q => by
    rw [i1]
    unfold inl_
    rw [if_neg (by omega), if_neg (by omega)]
  have ln : ∀ l j, l < 5 → 1 ≤ j → j < 14 → mm_i M (12 + l) j = lnv j := fun l j q q1 q2 => by
    have := bl l q j q1 q2
    rw [show 6 + 6 + l = 12 + l by omega] at this
    exact this
  refine ⟨fun x => if x = 1000 then 0 else mm_r M 84 (x - 1001), ⟨⟨⟨⟨hs.1, hs.2.1 0 (by decide), hs.2.1 1 (by decide), hs.2.1 2 (by decide), hs.2.1 3 (by decide), hs.2.1 4 (by decide), hs.2.1 5 (by decide), hs.2.1 6 (by decide), hs.2.1 7 (by decide), hs.2.1 8 (by decide), hs.2.1 9 (by decide)⟩, hT, ⟨hw.1, fun w q => ⟨(hw.2 w q).1, (hw.2 w q).2.1, (hw.2 w q).2.2.1⟩, c1⟩, ⟨a1, a2, a3, a4, a5⟩, ⟨b1, b2, b3, c98⟩, ⟨o3.1, o3.2.1, o3.2.2.1⟩, h3, h4⟩, ?_, ?_, ?_⟩, ⟨o1, ?_, ?_, ?_⟩, ?_, ?_, ?_, ?_⟩⟩
  · refine ⟨⟨bs, by decide, fun l q => ⟨(bl l q 6 (by decide) (by decide)).trans rfl, (bl l q 7 (by decide) (by decide)).trans rfl, (bl l q 8 (by decide) (by decide)).trans rfl⟩, fun s q => (bc s).trans rfl, ⟨bs.2.2.2.2.1, bs.2.2.2.2.2.1, bs.2.2.2.2.2.2.1, by decide, Nat.zero_le _, br.trans rfl, fun i x q => by simp [sl_] at q, by decide⟩, fun t q => absurd q (by omega)⟩, ⟨e0 1 (by decide), by decide, fun t q => absurd q (by omega)⟩, fun l q => ?_, fun k q => ?_, fun t q => absurd q (by omega), fun t t' q => absurd q (by omega)⟩
    · rw [eL l 0 q (by decide), eL l 1 q (by decide), eL l 2 q (by decide), eL l 4 q (by decide), bl l q 1 (by decide) (by decide), bl l q 2 (by decide) (by decide), bl l q 3 (by decide) (by decide), bl l q 5 (by decide) (by decide)]
      exact ⟨rfl, rfl, rfl, rfl⟩
    · exact (bf k).trans ((hf k q).trans (er k q).symm)
  · exact ⟨fun t q => absurd q (by omega), fun t t' q => absurd q (by omega), fun t t' q => absurd q (by omega)⟩
  · intro l q
    refine ⟨?_, fun f q2 => ?_⟩
    · rw [ln l 4 q (by decide) (by decide)]
      unfold opn_
      rw [eL l 3 q (by decide), if_neg (fun z => absurd z.1 (by decide))]
      rfl
    · rw [ln l (9 + f) q (by omega) (by omega), eL l (5 + f) q (by omega)]
      have : f = 0 ∨ f = 1 ∨ f = 2 ∨ f = 3 ∨ f = 4 := by omega
      rcases this with rfl | rfl | rfl | rfl | rfl <;> decide
  · exact ⟨[], e0 3 (by decide), by decide, fun i x q => by simp at q, o2⟩
  · intro w q
    obtain ⟨x1, x2, x3, x4, x5⟩ := hw.2 w q
    rw [eW w 0 q (by decide), eW w 1 q (by decide), eW w 2 q (by decide), eW w 3 q (by decide), x4, x5 2 (by decide), x5 3 (by decide), x5 4 (by decide)]
    exact ⟨rfl, rfl, rfl, rfl⟩
  · refine ⟨0, by decide, e84, hs.2.2 10, fun c q => absurd q (by omega), fun c c' q => absurd q (by omega), o3.2.2.2.2.2.1, fun i q => ?_⟩
    show mm_r M 84 i = if 1001 + i = 1000 then 0 else mm_r M 84 (1001 + i - 1001)
    rw [if_neg (by omega), show 1001 + i - 1001 = i by omega]
  · exact ⟨[], by decide, a6, fun i x q => by simp at q, List.Pairwise.nil, fun x q1 q2 => i3 x, fun x q => absurd q List.not_mem_nil⟩
  · exact ⟨by rw [i96]; exact ⟨b4.1.trans rfl, b4.2.trans rfl⟩, fun j q => (b5 j).trans (i6 j).symm⟩
  · exact ⟨(hs.2.2 11).trans (e0 0 (by decide)).symm, (hs.2.2 12).trans (e0 2 (by decide)).symm, (hs.2.2 13).trans i97.symm⟩
  · refine ⟨by omega, 0, by decide, e84, ?_, ?_⟩
    · rw [n112]; show 112 + 400 + (400 - 0) + 12 ≤ 1000; decide
    · have : tt_ M = mm_t M (mm_n M) := rfl
      show mm_t M (mm_n M) + 17 * 400 + 20 * (400 - 0) + 8 * (12 - 0) ≤ 200000
      omega
end Re0
