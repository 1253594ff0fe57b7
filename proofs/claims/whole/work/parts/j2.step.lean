/-! a step of the law -/
section LStep
variable {M M1 M2 : mm_T} {I J A : fI} {n T W P L V N k : Nat} {ta tm : Nat → Nat}
/-- the relation looks at the class's cells, and at some of the reference's -/
theorem re_fr (h : re_ M I 99 n ta tm) (hn : mm_n M2 = mm_n M) (hk : ∀ a, mm_k M2 a = mm_k M a) (hr : ∀ a j, mm_r M2 a j = mm_r M a j) (hi : ∀ a j, a < 99 ∨ 112 ≤ a → mm_i M2 a j = mm_i M a j) (g : ∀ a j, ¬ ((a = 99 ∧ 8 ≤ j) ∨ a = 99 + 2 ∨ 99 + 7 ≤ a) → 99 ≤ a → J a j = I a j) : re_ M2 J 99 n ta tm := by
  obtain ⟨⟨hS, hB, hT, hL⟩, ⟨hO, hA, hW, hC⟩, hK, hD, hX, hM⟩ := h
  have hge : ∀ t, t < n → 112 ≤ ta t := fun t q => (hT.1 t q).1.2.1
  have kd : kd_ M M2 := fun a _ => hk a
  have g1 : ∀ j, J (99 + 1) j = I (99 + 1) j := fun j => g _ _ (by omega) (by omega)
  refine ⟨⟨?_, ?_, ?_, ?_⟩, ⟨?_, ?_, ?_, ?_⟩, ?_, ?_, ?_, ?_⟩
  · exact rS_o hS kd (fun a j q => hr a j) (fun a j q => hi a j (by unfold si_ at q; omega))
  · exact br_o hB kd (fun a j q => hr a j) (fun l j q1 q2 q3 => hi _ _ (by omega)) (fun j => hi _ _ (by omega)) (fun j q => hi _ _ (by omega)) (hi _ _ (by omega)) (fun t j q1 q2 => hi _ _ (Or.inr (hge t q1))) (fun t q1 => hr _ _) (fun j q => g1 _) (fun l f' q1 q2 => g1 _) (fun t f' q1 q2 => g1 _)
  · exact rT_o hT kd (fun a j q z => hi _ _ (Or.inr q)) (fun a j q z => hr _ _) (fun t f' q1 q2 => g1 _) (fun t q => g _ _ (by omega) (by omega)) (fun j => g _ _ (by omega) (by omega))
  · exact rL_o hL (fun l j q1 q2 => hi _ _ (by omega)) (fun l f' q1 q2 q3 => g1 _) (fun t q => ⟨g1 _, g1 _⟩)
  · exact rO_o hO kd (hr _ _) (hi _ _ (by omega)) (fun i => hr _ _)
  · exact rA_o hA kd (hr _ _) (hi _ _ (by omega)) (fun i => hr _ _) (g1 _) (fun i q => g1 _)
  · exact rW_o hW (fun w j q => hi _ _ (by omega)) (fun w q => hr _ _) (fun w f' q1 q2 => g1 _)
  · exact rC_o hC kd (hi _ _ (by omega)) (fun c => hr _ _) (fun a j q1 q2 => hi _ _ (Or.inr q1)) (fun a q1 q2 => hr _ _) (fun j q1 q2 => g1 _) (hi _ _ (by omega)) (fun i => hr _ _)
  · exact rK_o hK (hi _ _ (by omega)) (fun i => hi _ _ (by omega)) (fun i => hi _ _ (by omega)) (fun x => g _ _ (by omega) (by omega)) (fun t q => g1 _)
  · exact rD_o hD (fun _ => hi _ _ (by omega)) (fun j => hi _ _ (by omega)) (g _ _ (by omega) (by omega)) (fun j => g _ _ (by omega) (by omega))
  · exact rX_o hX (fun j q => hi _ _ (by omega)) (g1 _) (g1 _) (g _ _ (by omega) (by omega))
  · exact rM_o hM hn (mm_t_eq (fun a _ => hk a)) (fun t q => hr _ _) (g1 _)
theorem rf_fr {m : Nat} (h : rf_ok M m) (hk : ∀ a, m ≤ a → a ≤ m + 12 → mm_k M2 a = mm_k M a) (hr : ∀ j, mm_r M2 m j = mm_r M m j) : rf_ok M2 m := by
  obtain ⟨h0, ⟨a1, b1⟩, ⟨a2, b2⟩, ⟨a3, b3⟩, ⟨a4, b4⟩, ⟨a5, b5⟩, ⟨a6, b6⟩, ⟨a7, b7⟩, ⟨a8, b8⟩, ⟨a9, b9⟩, ⟨aa, ba⟩, ⟨ab, bb⟩, ⟨ac, bc⟩⟩ := h
  have z : ∀ c, c ≤ 12 → mm_k M2 (m + c) = mm_k M (m + c) := fun c q => hk _ (by omega) (by omega)
  exact ⟨(z 0 (by decide)).trans h0, ⟨(hr _).trans a1, (z 1 (by decide)).trans b1⟩, ⟨(hr _).trans a2, (z 2 (by decide)).trans b2⟩, ⟨(hr _).trans a3, (z 3 (by decide)).trans b3⟩, ⟨(hr _).trans a4, (z 4 (by decide)).trans b4⟩, ⟨(hr _).trans a5, (z 5 (by decide)).trans b5⟩, ⟨(hr _).trans a6, (z 6 (by decide)).trans b6⟩, ⟨(hr _).trans a7, (z 7 (by decide)).trans b7⟩, ⟨(hr _).trans a8, (z 8 (by decide)).trans b8⟩, ⟨(hr _).trans a9, (z 9 (by decide)).trans b9⟩, ⟨(hr _).trans aa, (z 10 (by decide)).trans ba⟩, ⟨(hr _).trans ab, (z 11 (by decide)).trans bb⟩, ⟨(hr _).trans ac, (z 12 (by decide)).trans bc⟩⟩
theorem rf_kind {m : Nat} (h : rf_ok M m) {a : Nat} (h1 : m ≤ a) (h2 : a ≤ m + 12) : (mm_k M a).1 = 11 ∨ (mm_k M a).1 = 31 ∨ (mm_k M a).1 = 51 := by
  have : a = m ∨ a = m + 1 ∨ a = m + 2 ∨ a = m + 3 ∨ a = m + 4 ∨ a = m + 5 ∨ a = m + 6 ∨ a = m + 7 ∨ a = m + 8 ∨ a = m + 9 ∨ a = m + 10 ∨ a = m + 11 ∨ a = m + 12 := by clear h; omega
  obtain ⟨h0, ⟨a1, b1⟩, ⟨a2, b2⟩, ⟨a3, b3⟩, ⟨a4, b4⟩, ⟨a5, b5⟩, ⟨a6, b6⟩, ⟨a7, b7⟩, ⟨a8, b8⟩, ⟨a9, b9⟩, ⟨aa, ba⟩, ⟨ab, bb⟩, ⟨ac, bc⟩⟩ := h
  rcases this with rfl | rfl | rfl | rfl | rfl | rfl | rfl | rfl | rfl | rfl | rfl | rfl | rfl
  · rw [h0]; exact Or.inl rfl
  · rw [b1]; exact Or.inr (Or.inl rfl)
  · rw [b2]; exact Or.inr (Or.inl rfl)
  · rw [b3]; exact Or.inr (Or.inl rfl)
  · rw [b4]; exact Or.inr (Or.inl rfl)
  · rw [b5]; exact Or.inr (Or.inl rfl)
  · rw [b6]; exact Or.inr (Or.inl rfl)
  · rw [b7]; exact Or.inr (Or.inr rfl)
  · rw [b8]; exact Or.inr (Or.inr rfl)
  · rw [b9]; exact Or.inr (Or.inl rfl)
  · rw [ba]; exact Or.inr (Or.inl rfl)
  · rw [bb]; exact Or.inr (Or.inr rfl)
  · rw [bc]; exact Or.inr (Or.inr rfl)
/-- what holds at the law's loop after k calls -/
def lh_ (M : mm_T) (N k : Nat) : Prop := (mm_k M 1 = (15, N) ∧ rf_ok M 99) ∧ ∃ n ta tm, re_ M (mm_i M) 99 n ta tm ∧ ix_ (mm_i M) 99 n (99 * k) (60 * k) (3024000 * k) (2000000 * k) ∧ xi_ (mm_i M) 99 n (60 * k)
def sx_ (a _ : Nat) : Bool := decide (a < 99 ∨ 112 ≤ a)
theorem sx_uf : uf_ sx_ 99 := fun a j h1 h2 => by
  unfold sx_
  rw [decide_eq_false_iff_not]
  omega
/-- frames that leave the reference alone -/
def fo_ (fr : Nat → Bool) : Prop := fr 11 = false ∧ fr 31 = false ∧ fr 51 = false
theorem fo_at {fr : Nat → Bool} (hf : fo_ fr) (h : rf_ok M 99) (hS : mm_S fr M M1) {a : Nat} (h1 : 99 ≤ a) (h2 : a ≤ 111) : (∀ j, mm_i M1 a j = mm_i M a j) ∧ (∀ j, mm_l M1 a j = mm_l M a j) ∧ (∀ j, mm_r M1 a j = mm_r M a j) ∧ mm_k M1 a = mm_k M a := by
  have hk := rf_kind h h1 (by omega)
  have hlt : a < mm_n M := mm_k_lt (fun q => by rw [q] at hk; simp at hk)
  obtain ⟨x1, x2, x3⟩ := hS.2.2 a hlt (Or.inl (hk.elim (fun q => by rw [q]; exact hf.1) (fun q => q.elim (fun q => by rw [q]; exact hf.2.1) (fun q => by rw [q]; exact hf.2.2))))
  exact ⟨x1, x2, x3, hS.2.1 a hlt⟩
theorem fo_pt {fr : Nat → Bool} (hf : fo_ fr) (h : rf_ok M 99) (hS : mm_S fr M M1) : mm_i M1 = pt_ sx_ (mm_i M1) (mm_i M) := by
  funext a j
  unfold pt_
  by_cases q : sx_ a j = true
  · rw [if_pos q]
  · rw [if_neg q]
    unfold sx_ at q
    rw [decide_eq_true_iff] at q
    exact (fo_at hf h hS (by omega) (by omega)).1 j
/-- after a call -/
theorem lh_nx {fr : Nat → Bool} (hf : fo_ fr) (h : lh_ M N k) (hS : mm_S fr M M1) {n' n'' : Nat} {ta' tm' : Nat → Nat} (hre : re_ M1 A 99 n' ta' tm') (hix : ix_ J 99 n'' (99 * k + 99) (60 * k + 60) (3024000 * k + 3024000) (2000000 * k + 2000000)) (hxo : xo_ 99 (60 * k + 60) J) (hA : ∀ a j, ¬ ((a = 99 ∧ 8 ≤ j) ∨ a = 99 + 2 ∨ 99 + 7 ≤ a) → 99 ≤ a → J a j = A a j) (hn : mm_n M2 = mm_n M1) (hk : ∀ a, mm_k M2 a = mm_k M1 a) (hr : ∀ a j, mm_r M2 a j = mm_r M1 a j) (hi : mm_i M2 = pt_ sx_ (mm_i M1) J) : lh_ M2 N (k + 1) := by
  obtain ⟨⟨h1, h2⟩, -⟩ := h
  have e1 := (sc_S h1 hS).1
  have at1 : ∀ a j, 99 ≤ a → a ≤ 111 → mm_i M2 a j = J a j := fun a j q1 q2 => by rw [hi]; exact uf_at sx_uf q1 (by omega)
  have at2 : ∀ a j, a < 99 ∨ 112 ≤ a → mm_i M2 a j = mm_i M1 a j := fun a j q => by
    rw [hi]
    exact if_pos (by unfold sx_; rw [decide_eq_true_iff]; exact q)
  have hix2 : ix_ (mm_i M2) 99 n'' (99 * k + 99) (60 * k + 60) (3024000 * k + 3024000) (2000000 * k + 2000000) := ix_eq hix (fun a j q1 q2 => at1 a j q1 (by omega))
  have hre2 : re_ M2 (mm_i M2) 99 n' ta' tm' := re_fr hre hn hk hr at2 (fun a j q q2 => (at1 a j q2 (by omega)).trans (hA a j q q2))
  have en : n'' = n' := (nI_eq (by have := ix_4 hix2; omega) (by have := hre2.1.2.1.2.1.2.1; omega)).mp ((ix_1 hix2).symm.trans hre2.1.2.1.2.1.1)
  subst en
  unfold lh_
  rw [show 99 * (k + 1) = 99 * k + 99 by omega, show 60 * (k + 1) = 60 * k + 60 by omega, show 3024000 * (k + 1) = 3024000 * k + 3024000 by omega, show 2000000 * (k + 1) = 2000000 * k + 2000000 by omega]
  refine ⟨⟨(hk 1).trans e1, rf_fr h2 (fun a q1 q2 => (hk a).trans (fo_at hf h2 hS q1 (by omega)).2.2.2) (fun j => (hr 99 j).trans ((fo_at hf h2 hS (by decide) (by decide)).2.2.1 j))⟩, n'', ta', tm', hre2, hix2, ?_⟩
  have hx := hxo n'' (ix_4 hix) (ix_1 hix)
  have j1 : ∀ j, mm_i M2 (99 + 1) j = J (99 + 1) j := fun j => at1 _ j (by decide) (by decide)
  obtain ⟨x1, x2, ⟨g, g1, g2⟩, kk, k1, k2⟩ := hx
  refine ⟨fun t q => ?_, fun t q => ?_, ⟨g, fun l q => ?_, g2⟩, kk, k1, (j1 84).trans k2⟩
  · have := x1 t q
    unfold ra_T at this ⊢
    rw [j1, j1, j1]
    exact this
  · have := x2 t q
    unfold ra_T at this ⊢
    rw [j1, j1]
    exact this
  · have := g1 l q
    unfold ra_L at this ⊢
    rw [j1]
    exact this
theorem fo_C : fo_ fr_C := ⟨rfl, rfl, rfl⟩
theorem fo_D : fo_ fr_D := ⟨rfl, rfl, rfl⟩
theorem lim_k (hk : k < 512) : lim_ (99 * k) (60 * k) (3024000 * k) (2000000 * k) := ⟨by omega, by omega, by omega, by omega⟩
variable {α : Type} {a : α × fI} {c : mm_T → (α → mm_T → Prop) → Prop} {r : mm_T → fI → (α → fI → Prop) → Prop}
/-- an act, or a query -/
theorem st_sm (h : lh_ M N k) (hre : re_ M (mm_i M) 99 n ta tm) (hs : sm_ (mm_i M) 99 n (99 * k) (60 * k) (3024000 * k) (2000000 * k) a c r) (hx : xo_ 99 (60 * k + 60) a.2) {K : mm_T → Prop} (kk : ∀ M2, lh_ M2 N (k + 1) → K M2) : c M (fun v M1 => mm_S fr_C M M1 → r M1 (mm_i M1) (fun w I' => v = w ∧ K (mm_si M1 I'))) := by
  obtain ⟨⟨n0, s1⟩, s2, s3⟩ := hs
  refine s2 M ta tm _ hre (fun M1 n' ta' tn hre' hS => ?_)
  rw [fo_pt fo_C h.1.2 hS]
  refine s3 sx_ (mm_i M1) M1 _ sx_uf (rf_fr h.1.2 (fun a q1 q2 => (fo_at fo_C h.1.2 hS q1 (by omega)).2.2.2) (fun j => (fo_at fo_C h.1.2 hS (by decide) (by decide)).2.2.1 j)) ⟨rfl, kk _ ?_⟩
  exact lh_nx fo_C h hS hre' s1 hx (fun _ _ _ _ => rfl) rfl (fun _ => rfl) (fun _ _ => rfl) rfl
/-- a call on paper -/
theorem st_sq {v0 : α} (h : lh_ M N k) (hre : re_ M (mm_i M) 99 n ta tm) (hix : ix_ (mm_i M) 99 n (99 * k) (60 * k) (3024000 * k) (2000000 * k)) (hxi : xi_ (mm_i M) 99 n (60 * k)) (hs : sq_ (mm_i M) 99 n v0 c r) {K : mm_T → Prop} (kk : ∀ M2, lh_ M2 N (k + 1) → K M2) : c M (fun v M1 => mm_S fr_C M M1 → r M1 (mm_i M1) (fun w I' => v = w ∧ K (mm_si M1 I'))) := by
  obtain ⟨s2, s3⟩ := hs
  refine s2 M ta tm _ hre (fun M1 hre' hS => ?_)
  rw [fo_pt fo_C h.1.2 hS]
  refine s3 sx_ (mm_i M1) M1 _ sx_uf (rf_fr h.1.2 (fun a q1 q2 => (fo_at fo_C h.1.2 hS q1 (by omega)).2.2.2) (fun j => (fo_at fo_C h.1.2 hS (by decide) (by decide)).2.2.1 j)) (fun I' hI => ⟨rfl, kk _ ?_⟩)
  refine lh_nx (J := I') (n'' := n) fo_C h hS hre' ?_ (xo_sc hix hxi hI) (fun a j q1 q2 => hI.1 a j (by omega)) rfl (fun _ => rfl) (fun _ _ => rfl) rfl
  exact ix_up (ix_sc hix hI) (by omega) (by omega) (by omega) (by omega)
/-- steps -/
theorem st_stp {x1 x2 : Int32} (h : lh_ M N k) (hk : k < 512) (hre : re_ M (mm_i M) 99 n ta tm) (hix : ix_ (mm_i M) 99 n (99 * k) (60 * k) (3024000 * k) (2000000 * k)) (hxi : xi_ (mm_i M) 99 n (60 * k)) {K : mm_T → Prop} (kk : ∀ M2, lh_ M2 N (k + 1) → K M2) : ds_i mt_X10_steps [pv_r 5, pv_i x1, pv_i x2] M (fun v M1 => mm_S fr_D M M1 → zs_i mt_X11_steps [pv_r 99, pv_i x1, pv_i x2] M1 99 (mm_l M1 99 14) (mm_i M1) (fun w z I' => v = w ∧ K (mm_si (mm_pl M1 99 14 z) I'))) := by
  obtain ⟨⟨⟨n0, s1⟩, s2, s3⟩, hx⟩ := sm_steps (x1 := x1) (x2 := x2) hix (lim_k hk) hxi
  refine s2 M ta tm _ hre (fun M1 n' ta' tn hre' hS => ?_)
  have s4 := s3 sx_ (mm_i M1) M1 (fun w I' => (ap_stp (mm_i M) 99 x1 x2).1 = w ∧ ∀ z, K (mm_si (mm_pl M1 99 14 z) I')) sx_uf (rf_fr h.1.2 (fun a q1 q2 => (fo_at fo_D h.1.2 hS q1 (by omega)).2.2.2) (fun j => (fo_at fo_D h.1.2 hS (by decide) (by decide)).2.2.1 j)) ⟨rfl, fun z => kk _ ?_⟩
  · rw [← fo_pt fo_D h.1.2 hS] at s4
    refine go_weak (fun r0 N0 q => ?_) (s4 (mm_l M1 99 14))
    obtain ⟨x, q1, z', I', q2, q3, q4⟩ := q
    exact ⟨x, q1, z', I', q2, q3, q4 z'⟩
  · exact lh_nx fo_D h hS hre' s1 hx (fun _ _ _ _ => rfl) rfl (fun _ => rfl) (fun _ _ => rfl) rfl
end LStep
