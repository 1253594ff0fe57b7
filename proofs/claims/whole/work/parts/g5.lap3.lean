/-! lapse: the counters on paper -/
section Lap3
variable {I J N G : Nat → Nat → Int32} {m n t T W P L : Nat}
/-- counters: fails + u, asides with the row, wakings stay -/
def ct_ (m : Nat) (J N : fI) (u : Int32) : Prop := N m 9 = J m 9 + u ∧ N m 10 - N (m + 1) 3 = J m 10 - J (m + 1) 3 ∧ N m 11 = J m 11
theorem ct_rf : ct_ m J J 0 := ⟨(Int32.add_zero _).symm, rfl, rfl⟩
theorem ct_tr {u v : Int32} (h : ct_ m I J u) (h' : ct_ m J N v) : ct_ m I N (u + v) := ⟨by rw [h'.1, h.1, Int32.add_assoc], h'.2.1.trans h.2.1, h'.2.2.trans h.2.2⟩
theorem ct_eq (h9 : N m 9 = J m 9) (h10 : N m 10 = J m 10) (h11 : N m 11 = J m 11) (h3 : N (m + 1) 3 = J (m + 1) 3) : ct_ m J N 0 := ⟨by rw [h9]; exact (Int32.add_zero _).symm, by rw [h10, h3], h11⟩
theorem ct_ga (h8 : J m 8 = 1) {x : Int32} {a : Nat} (ha : J (m + 1) 3 = nI a) (ha2 : a < 2000000000) : ct_ m J (sp_ga J m t x) 0 ∧ sp_ga J m t x (m + 1) 3 = nI (a + 1) := by
  rw [ga_p h8, ha, nI_clamp (by omega)]
  have e3 : i2_u (i2_u (i2_u (i2_u J (m + 1) (200 + 14 * t + 6) 5) (m + 1) (5800 + a) (nI t)) (m + 1) 3 (nI (a + 1))) m 10 (J m 10 + 1) (m + 1) 3 = nI (a + 1) := by rw [i2_ua (by omega), i2_us]
  refine ⟨⟨?_, ?_, ?_⟩, e3⟩
  · rw [i2_uj (by decide), i2_ua (by omega), i2_ua (by omega), i2_ua (by omega)]
    exact (Int32.add_zero _).symm
  · rw [e3, i2_us, ha, ← nI_1]
    exact show J m 10 + 1 - (nI a + 1) = J m 10 - nI a by grind
  · rw [i2_uj (by decide), i2_ua (by omega), i2_ua (by omega), i2_ua (by omega)]
theorem ct_as1 (h8 : J m 8 = 1) {x : Int32} {a : Nat} (ha : J (m + 1) 3 = nI a) (ha2 : a < 2000000000) : ct_ m J (sp_as1 J m t x) 0 ∧ sp_as1 J m t x (m + 1) 3 = nI (a + 1) := by
  unfold sp_as1
  rw [bl_p h8]
  have h1 : ct_ m J (i2_u J (m + 1) (200 + 14 * t + 13) x) 0 := ct_eq (i2_ua (by omega)) (i2_ua (by omega)) (i2_ua (by omega)) (i2_uj (by omega))
  have h2 := ct_ga (J := i2_u J (m + 1) (200 + 14 * t + 13) x) (t := t) (x := x) ((i2_ua (by omega)).trans h8) ((i2_uj (by omega)).trans ha) ha2
  exact ⟨ct_tr h1 h2.1, h2.2⟩
theorem ct_asd {x : Int32} : ∀ {ts : List Nat} {J : fI} {a : Nat}, J m 8 = 1 → J (m + 1) 3 = nI a → a + ts.length < 2000000000 → ct_ m J (sp_asd J m ts x) 0 ∧ sp_asd J m ts x (m + 1) 3 = nI (a + ts.length)
  | [], J, a, _, ha, _ => ⟨ct_rf, ha⟩
  | t :: ts, J, a, h8, ha, hb => by
    rw [List.length_cons] at hb
    have h1 := ct_as1 (t := t) (x := x) h8 ha (by omega)
    have ih := ct_asd (x := x) (ts := ts) (J := sp_as1 J m t x) (a := a + 1) (py_8 (py_as1 h8) h8) h1.2 (by omega)
    refine ⟨ct_tr h1.1 ih.1, ?_⟩
    rw [List.length_cons, show a + (ts.length + 1) = a + 1 + ts.length by omega]
    exact ih.2
theorem ct_dr (hn : n ≤ 400) : ∀ (k : Nat) {J : fI} {lv : List Nat} {c : Int32} {a : Nat}, J m 8 = 1 → J (m + 1) 3 = nI a → a + 400 * k < 2000000000 → ct_ m J (sp_dr k J m n lv c).1 0
  | 0, _, _, _, _, _, _, _ => ct_rf
  | k + 1, J, lv, c, a, h8, ha, hb => by
    have hl : ((List.range n).filter (sp_p J m lv)).length ≤ n := by
      rw [← cn_len]
      exact cn_le _ _
    have h1 := ct_asd (x := c) (ts := (List.range n).filter (sp_p J m lv)) h8 ha (by omega)
    exact ct_tr h1.1 (ct_dr hn k (lv := (List.range n).filter (sp_p J m lv)) (c := 100) (py_8 (py_asd h8) h8) h1.2 (by omega))
theorem ct_fl (h8 : J m 8 = 1) (hn : n ≤ 400) {a : Nat} (ha : J (m + 1) 3 = nI a) (ha2 : a ≤ 400) (hw : ∃ w, w < 6 ∧ ra_T J m t 9 = nI w) {c : Int32} : ct_ m J (sp_fl J m n t c) 1 := by
  obtain ⟨w, w6, ew⟩ := hw
  unfold sp_fl
  rw [ew, nI_clamp (by omega)]
  obtain ⟨k, ek⟩ : ∃ k, k = (ra_T J m t 3).toNatClampNeg := ⟨_, rfl⟩
  rw [← ek]
  obtain ⟨F, hF⟩ : ∃ F, F = sp_f8 J m t w c := ⟨_, rfl⟩
  have p8 : py_ m J F := by rw [hF]; exact py_f8 h8
  have g8 := py_8 p8 h8
  have eF : F = i2_u (sp_lw (i2_u (i2_u (i2_u J (m + 1) (200 + 14 * t + 7) (J (m + 1) (200 + 14 * t + 7) + 1)) (m + 1) (60 + 4 * w + 3) (J (m + 1) (60 + 4 * w + 3) + 1)) m 9 (J m 9 + 1)) m t w) (m + 1) (200 + 14 * t + 13) c := by
    rw [hF]
    unfold sp_f8
    have h1 : py_ m J (sp_lw (i2_u (i2_u (i2_u J (m + 1) (200 + 14 * t + 7) (J (m + 1) (200 + 14 * t + 7) + 1)) (m + 1) (60 + 4 * w + 3) (J (m + 1) (60 + 4 * w + 3) + 1)) m 9 (J m 9 + 1)) m t w) := py_tr (py_tr (py_tr py_u py_u) (py_m (by omega))) py_lw
    rw [log_p (py_8 h1 h8), bl_p (py_8 h1 h8)]
  have F3 : F (m + 1) 3 = nI a := by
    rw [eF, i2_uj (by omega), sp_lw_o (by omega), i2_ua (by omega), i2_uj (by omega), i2_uj (by omega)]
    exact ha
  have c8 : ct_ m J F 1 := by
    refine ⟨?_, ?_, ?_⟩
    · rw [eF, i2_ua (by omega), sp_lw_o (by omega), i2_us]
    · rw [F3, ha, eF, i2_ua (by omega), sp_lw_o (by omega), i2_uj (by decide), i2_ua (by omega), i2_ua (by omega)]
    · rw [eF, i2_ua (by omega), sp_lw_o (by omega), i2_uj (by decide), i2_ua (by omega), i2_ua (by omega)]
  unfold sp_fail
  rw [← hF]
  split
  · show ct_ m J (sp_f5 F m n t k c) 1
    unfold sp_f5 sp_drags
    rw [if_neg (by rw [g8]; decide)]
    have h2 := ct_ga (t := t) (x := c) g8 F3 (by omega)
    have h3 := ct_dr (m := m) hn 401 (J := sp_ga F m t c) (lv := [t]) (c := 100) (py_8 (py_ga g8) g8) h2.2 (by omega)
    have h4 : ct_ m (sp_dr 401 (sp_ga F m t c) m n [t] 100).1 (ra_cls (sp_dr 401 (sp_ga F m t c) m n [t] 100).1 m n 5) 0 := ct_eq (cl_o (by omega)) (cl_o (by omega)) (cl_o (by omega)) (cl_o (by omega))
    exact ct_tr c8 (ct_tr h2.1 (ct_tr h3 h4))
  · show ct_ m J (sp_f2 F m t) 1
    have h2 : ct_ m F (sp_f2 F m t) 0 := by
      unfold sp_f2
      exact ct_eq ((i2_ua (by omega)).trans (i2_ua (by omega))) ((i2_ua (by omega)).trans (i2_ua (by omega))) ((i2_ua (by omega)).trans (i2_ua (by omega))) ((i2_uj (by omega)).trans (i2_uj (by omega)))
    exact ct_tr c8 h2
end Lap3
