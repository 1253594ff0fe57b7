/-! the reference is made -/
section Ini2
variable {M M0 : mm_T} {m : Nat}
def kd_n (i : Nat) : Nat × Nat := if i = 0 then (31, 6200) else if i = 1 then (31, 6200) else if i = 2 then (31, 10000) else if i = 3 then (31, 400) else if i = 4 then (31, 8000) else if i = 5 then (31, 384) else if i = 6 then (51, 400) else if i = 7 then (51, 400) else if i = 8 then (31, 6) else if i = 9 then (31, 6) else (51, 400)
def fd_n (i : Nat) : Nat := if i < 6 then i else if i < 8 then i + 6 else if i < 10 then i + 7 else i + 10
/-- k arrays are there, with s slots more -/
def mk_ (M0 M : mm_T) (m k s : Nat) : Prop := mm_n M = m + 1 + k ∧ mm_t M (mm_n M) = mm_t M0 (m + 1) + s ∧ (∀ a, a < m → mm_k M a = mm_k M0 a ∧ (∀ j, mm_i M a j = mm_i M0 a j) ∧ (∀ j, mm_l M a j = mm_l M0 a j) ∧ ∀ j, mm_r M a j = mm_r M0 a j) ∧ mm_k M m = (11, 22) ∧ ∀ i, i < k → mm_k M (m + 1 + i) = kd_n i ∧ mm_r M m (fd_n i) = m + 1 + i ∧ ∀ j, mm_i M (m + 1 + i) j = 0
theorem mk_w {k s tg n f : Nat} (h : mk_ M0 M m k s) (h5 : 5 ≤ m) (hk : kd_n k = (tg, n)) (hf : fd_n k = f) (hj : ∀ i, i < k → fd_n i ≠ f) : mk_ M0 (mm_pr (mm_w M tg n) m f (mm_n M)) m (k + 1) (s + n) := by
  obtain ⟨a1, a2, a3, a4, a5⟩ := h
  have ek : ∀ a, a < mm_n M → mm_k (mm_w M tg n) a = mm_k M a := fun a q => (mm_S_w (fr := fun _ => false)).2.1 a q
  have ei : ∀ a j, a ≠ mm_n M → mm_i (mm_w M tg n) a j = mm_i M a j := fun a j q => if_neg q
  have el : ∀ a j, a ≠ mm_n M → mm_l (mm_w M tg n) a j = mm_l M a j := fun a j q => if_neg q
  have er : ∀ a j, a ≠ mm_n M → mm_r (mm_w M tg n) a j = mm_r M a j := fun a j q => if_neg q
  have rp : ∀ a j, mm_r (mm_pr (mm_w M tg n) m f (mm_n M)) a j = if a = m ∧ j = f then mm_n M else mm_r (mm_w M tg n) a j := fun a j => rfl
  refine ⟨by show mm_n M + 1 = _; omega, ?_, fun a q => ⟨(ek a (by omega)).trans (a3 a q).1, fun j => (ei a j (by omega)).trans ((a3 a q).2.1 j), fun j => (el a j (by omega)).trans ((a3 a q).2.2.1 j), fun j => ?_⟩, (ek m (by omega)).trans a4, fun i hi => ?_⟩
  · have e1 : mm_t (mm_pr (mm_w M tg n) m f (mm_n M)) (mm_n (mm_pr (mm_w M tg n) m f (mm_n M))) = mm_t (mm_w M tg n) (mm_n (mm_w M tg n)) := mm_t_eq (fun a _ => rfl)
    rw [e1, mm_t_w (by omega), a2]
    omega
  · rw [rp, if_neg (by omega), er a j (by omega)]
    exact (a3 a q).2.2.2 j
  · by_cases z : i = k
    · subst z
      refine ⟨?_, ?_, fun j => ?_⟩
      · rw [hk, ← a1]
        exact mm_k_w
      · rw [rp, if_pos ⟨rfl, hf⟩, a1]
      · rw [← a1]
        exact if_pos rfl
    · obtain ⟨b1, b2, b3⟩ := a5 i (by omega)
      refine ⟨(ek _ (by omega)).trans b1, ?_, fun j => (ei _ j (by omega)).trans (b3 j)⟩
      rw [rp, if_neg (fun q => hj i (by omega) q.2), er m _ (by omega)]
      exact b2
theorem mk_i {k s j : Nat} {x : Int32} (h : mk_ M0 M m k s) : mk_ M0 (mm_pi M m j x) m k s := by
  obtain ⟨a1, a2, a3, a4, a5⟩ := h
  refine ⟨a1, ?_, fun a q => ⟨(a3 a q).1, fun i => (mi_pia (by omega)).trans ((a3 a q).2.1 i), (a3 a q).2.2⟩, a4, fun i hi => ⟨(a5 i hi).1, (a5 i hi).2.1, fun j' => (mi_pia (by omega)).trans ((a5 i hi).2.2 j')⟩⟩
  have e1 : mm_t (mm_pi M m j x) (mm_n (mm_pi M m j x)) = mm_t M (mm_n M) := mm_t_eq (fun a _ => rfl)
  rw [e1]
  exact a2
theorem mk_l {k s j : Nat} {x : Int64} (h : mk_ M0 M m k s) : mk_ M0 (mm_pl M m j x) m k s := by
  obtain ⟨a1, a2, a3, a4, a5⟩ := h
  refine ⟨a1, ?_, fun a q => ⟨(a3 a q).1, (a3 a q).2.1, fun i => (show mm_l (mm_pl M m j x) a i = mm_l M a i from if_neg (by omega)).trans ((a3 a q).2.2.1 i), (a3 a q).2.2.2⟩, a4, a5⟩
  have e1 : mm_t (mm_pl M m j x) (mm_n (mm_pl M m j x)) = mm_t M (mm_n M) := mm_t_eq (fun a _ => rfl)
  rw [e1]
  exact a2
theorem mk_ok {s : Nat} (h : mk_ M0 M m 12 s) : rf_ok M m := by
  obtain ⟨a1, a2, a3, a4, a5⟩ := h
  exact ⟨a4, ⟨(a5 0 (by decide)).2.1, (a5 0 (by decide)).1⟩, ⟨(a5 1 (by decide)).2.1, (a5 1 (by decide)).1⟩, ⟨(a5 2 (by decide)).2.1, (a5 2 (by decide)).1⟩, ⟨(a5 3 (by decide)).2.1, (a5 3 (by decide)).1⟩, ⟨(a5 4 (by decide)).2.1, (a5 4 (by decide)).1⟩, ⟨(a5 5 (by decide)).2.1, (a5 5 (by decide)).1⟩, ⟨(a5 6 (by decide)).2.1, (a5 6 (by decide)).1⟩, ⟨(a5 7 (by decide)).2.1, (a5 7 (by decide)).1⟩, ⟨(a5 8 (by decide)).2.1, (a5 8 (by decide)).1⟩, ⟨(a5 9 (by decide)).2.1, (a5 9 (by decide)).1⟩, ⟨(a5 10 (by decide)).2.1, (a5 10 (by decide)).1⟩, ⟨(a5 11 (by decide)).2.1, (a5 11 (by decide)).1⟩⟩
theorem mk_rm {k s n : Nat} (h : mk_ M0 M m k s) (hm : m ≤ 1000) (hk : k ≤ 12) (ht : mm_t M0 (m + 1) + 40000 ≤ sb_) (hs : s + n ≤ 40000) : mm_n M + 1 ≤ nb_ ∧ mm_t M (mm_n M) + n ≤ sb_ := by
  obtain ⟨a1, a2, -⟩ := h
  rw [a2, a1]
  exact ⟨by show _ ≤ 600005; omega, by omega⟩
end Ini2
