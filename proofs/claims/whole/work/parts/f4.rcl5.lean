/-! the run on paper in the class: whole -/
section Rcl5
variable {M M' : mm_T} {I J N : Nat → Nat → Int32} {m n Pb t w X T W P L : Nat} {en : Nat → Int32} {ta tm tc : Nat → Nat} {pb : Int32}
def cz_ (I : fI) (m : Nat) : fI := fun a j => if a = m + 1 then I (m + 1) j else 0
theorem cz_r {j : Nat} : cz_ I m (m + 1) j = I (m + 1) j := if_pos rfl
theorem cz_row : cz_ I m (m + 1) = I (m + 1) := funext (fun _ => cz_r)
theorem cz_eq (e : J (m + 1) = I (m + 1)) : cz_ J m = cz_ I m := by
  funext a j
  unfold cz_
  rw [e]
def rn_ (I : fI) (m n w : Nat) : Int32 × Int32 × Int32 × (Nat → Int32) := frw m n w (I (m + 1) 0) 97 (fcs (cz_ I m) m n (dl_ (cz_ I m) m n (fun _ => I (m + 1) 0))) (fun _ => I (m + 1) 0) (lst_ (-1) (dl_ (cz_ I m) m n (fun _ => I (m + 1) 0))) 0 (emp_ (cz_ I m) m 0 (fun _ => 0) (dl_ (cz_ I m) m n (fun _ => I (m + 1) 0)))
theorem bg_row : bg_ I m (m + 1) = I (m + 1) := funext (fun _ => bg_r)
theorem pp_ix (h : ix_ I m n T W P L) (hl : lim_ T W P L) : pp_ I m n (P + 2419200) := by
  have hP : P + 3100000 < 2147483648 := hl.2.2.1
  have hu : un_ I m n ≤ 48 := by
    refine Nat.le_trans (cn_sub (fun x hx q => ?_)) h.2.1.2.2.1
    have q := of_decide_eq_true q
    exact decide_eq_true ⟨Or.inl rfl, by rcases q with z | z | z <;> (rw [z]; decide)⟩
  refine ⟨⟨ix_tv h, ix_bl h, h.1.2.2.2, ix_wz h, ix_rk h⟩, fun l q => ?_, ⟨P, by omega, ix_rb h (by omega)⟩, fun x hx q => ?_, by omega⟩
  · obtain ⟨k, k1, k2, k3⟩ := (h.1.2.1.1 l q).2.2.1
    exact ⟨k, k2, k1, k3⟩
  · rcases h.1.2.2.1.2.1 x hx with z | z
    · exact z.2
    · exact absurd q z.1
/-- the head of the first round -/
theorem pr_ix (h : ix_ I m n T W P L) (hl : lim_ T W P L) {X0 : Nat} (hX : I (m + 1) 0 = nI X0) : pr_ (fcs (cz_ I m) m n (dl_ (cz_ I m) m n (fun _ => I (m + 1) 0))) m n (P + 2419200) w (fun _ => I (m + 1) 0) X0 ∧ nu_ (sp_wk 401 (fcs (cz_ I m) m n (dl_ (cz_ I m) m n (fun _ => I (m + 1) 0))) m n) m n + 1 ≤ 97 ∧ (∀ x, x < n → ¬ ra_T (fcs (cz_ I m) m n (dl_ (cz_ I m) m n (fun _ => I (m + 1) 0))) m x 6 = 3) := by
  have p0 : pp_ (cz_ I m) m n (P + 2419200) := pp_row (pp_ix h hl) cz_row
  obtain ⟨⟨f1, f2, f3⟩, f4, f5, f6, f7⟩ := fcs_all (dl_ (cz_ I m) m n (fun _ => I (m + 1) 0)) p0 (fun x q => ⟨(dl_m q).1, (dl_m q).2.1⟩) rg_nd
  have no : ∀ x, x < n → ¬ ra_T (fcs (cz_ I m) m n (dl_ (cz_ I m) m n (fun _ => I (m + 1) 0))) m x 6 = 3 := fun x hx q => by
    obtain ⟨g1, g2⟩ := (f5 x hx).mp q
    exact g2 (dl_mem hx g1 (by rw [cz_r]; exact fun q => Int32.lt_irrefl q))
  refine ⟨⟨f1, by rw [f2, cz_r]; exact hX, fun x hx q => absurd q (no x hx), ?_⟩, ?_, no⟩
  · have : ou_ (fcs (cz_ I m) m n (dl_ (cz_ I m) m n (fun _ => I (m + 1) 0))) m n = 0 := cn_0 (fun x hx => decide_eq_false (no x hx))
    omega
  · obtain ⟨⟨w1, w2, w3⟩, w4, w5, w6, w7, w8⟩ := wk_all 401 f1 (rc2_401 f1)
    have n1 : cn_ (ra_st (sp_wk 401 (fcs (cz_ I m) m n (dl_ (cz_ I m) m n (fun _ => I (m + 1) 0))) m n) m (-1)) n ≤ cn_ (ra_st I m (-1)) n := cn_sub (fun x hx q => by
      rw [w4 _ x hx, f4 _ x hx, Bool.and_eq_true] at q
      have := q.1
      rw [st_row cz_row] at this
      exact this)
    have n2 : rc2_ (sp_wk 401 (fcs (cz_ I m) m n (dl_ (cz_ I m) m n (fun _ => I (m + 1) 0))) m n) m n ≤ cn_ (ra_st I m (-1)) n := by
      refine Nat.le_trans w7 (cn_sub (fun x hx q => ?_))
      have q := (f6 x hx).mp (of_decide_eq_true q)
      rw [show ra_T (cz_ I m) m x 6 = ra_T I m x 6 from cz_r] at q
      exact decide_eq_true ⟨Or.inl rfl, by rw [q]; decide⟩
    have := h.2.1.2.2.1
    unfold ivR at this
    unfold nu_
    omega
theorem ce_fill {Q : mm_T → Prop} (hk : ak_ M 30 0 5) (K : ∀ M', fx_ (fun a _ => a = 30) (fun _ _ => False) M M' → (∀ l, l < 5 → mm_i M' 30 l = 0) → Q M') : cs_v mt_J7_fill_53178 [pv_r 30, pv_i 0] M Q := by
  have loop : ∀ (j i : Nat) {Mi : mm_T}, i + j = 5 → fx_ (fun a _ => a = 30) (fun _ _ => False) M Mi → (∀ l, l < i → mm_i Mi 30 l = 0) → cw_v mt_J7_fill_53178 5 [some (pv_r 30), some (pv_i 0), some (pv_i (nI i)), some (pv_i (nI 5))] [] Mi Q := by
    intro j
    induction j with
    | zero =>
      intro i Mi hi f hv
      have : i = 5 := by omega
      subst this
      exact wc_J7_fill_53178_5 ⟨fun _ => K Mi f hv, fun q => absurd (Int32.le_refl _) q⟩
    | succ j ih =>
      intro i Mi hi f hv
      have hk' : ak_ Mi 30 0 5 := by
        obtain ⟨tg, q⟩ := hk
        exact ⟨tg, by rw [f.2.1]; exact q⟩
      refine wc_J7_fill_53178_5 ⟨fun q => absurd q (nI_ge (by omega) (by omega)), fun _ => ⟨5, hk', i, ⟨rfl, by omega⟩, fun M5 e5 => ?_⟩⟩
      rw [e5]
      refine ih (i + 1) (by omega) (fx_tr f (fx_pi rfl)) (fun l hl => ?_)
      rw [mi_pi]
      by_cases z : l = i
      · rw [if_pos ⟨rfl, z⟩]
      · rw [if_neg (fun q => z q.2)]
        exact hv l (by omega)
  exact wc_J7_fill_53178_0 ⟨5, hk, loop 5 0 rfl fx_rf (fun l q => by omega)⟩
theorem ce_51 {a1 : Nat} {x2 x3 : Int32} {Q : mm_T → Prop} (h : pB_ M I J m n ta tm (tc_n I m)) (K : ∀ M', fx_ (fun a j => 31 ≤ a ∧ a < 79 ∧ j = 12) (fun _ _ => False) M M' → (∀ t, t < n → sd_ (sgI J m t) = true → mm_i M' (tc_n I m t) 12 = x3) → cw_v mt_X8_run 92 [some (pv_r 17), some (pv_r a1), some (pv_i x2), some (pv_i x3), some (pv_i 0), none] [] M' Q) : cw_v mt_X8_run 51 [some (pv_r 17), some (pv_r a1), some (pv_i x2), some (pv_i x3), some (pv_i 0), none] [] M Q := by
  have ro := h.2.1.1.2.2.2.2.1
  have bS := br_S h.2.1
  have r17 := re_17 h.1
  have hlen : (sl_ (sgI J m) n).length ≤ 48 := by
    have := ro.2.2.2.2.1
    rw [List.length_map] at this
    exact this
  have loop : ∀ (j i : Nat) {Mi : mm_T}, i + j = (sl_ (sgI J m) n).length → fx_ (fun a j => 31 ≤ a ∧ a < 79 ∧ j = 12) (fun _ _ => False) M Mi → (∀ k t, k < i → (sl_ (sgI J m) n)[k]? = some t → mm_i Mi (tc_n I m t) 12 = x3) → cw_v mt_X8_run 51 [some (pv_r 17), some (pv_r a1), some (pv_i x2), some (pv_i x3), some (pv_i (nI i)), none] [] Mi Q := by
    intro j
    induction j with
    | zero =>
      intro i Mi hi f hv
      have eR : ∀ a j, mm_r Mi a j = mm_r M a j := fun a j => f.2.2.2.1 a j id
      refine wc_X8_run_51 ((f.2.1 _).trans r17.1) ?_
      rw [eR, r17.2.1, eR, bS.2.2.2.1, f.2.1, f.2.1, f.2.2.1 20 1 (by omega), ro.2.2.2.2.2.1, List.length_map]
      refine ⟨bS.1, ro.1, fun _ => K Mi f (fun t ht q => ?_), fun q => absurd (nI_le (by omega) (by omega)) q⟩
      have hm : t ∈ sl_ (sgI J m) n := by
        unfold sl_
        rw [List.mem_filter, List.mem_range]
        exact ⟨ht, q⟩
      obtain ⟨k, hk, e⟩ := List.getElem_of_mem hm
      exact hv k t (by omega) (by rw [List.getElem?_eq_getElem hk, e])
    | succ j ih =>
      intro i Mi hi f hv
      have eR : ∀ a j, mm_r Mi a j = mm_r M a j := fun a j => f.2.2.2.1 a j id
      refine wc_X8_run_51 ((f.2.1 _).trans r17.1) ?_
      rw [eR, r17.2.1, eR, bS.2.2.2.1, f.2.1, f.2.1, f.2.2.1 20 1 (by omega), ro.2.2.2.2.2.1, List.length_map, eR, bS.2.2.2.2.2.1]
      have hlt : i < (sl_ (sgI J m) n).length := by omega
      obtain ⟨t, et⟩ : ∃ t, (sl_ (sgI J m) n)[i]? = some t := ⟨_, List.getElem?_eq_getElem hlt⟩
      have hm : t < n ∧ sd_ (sgI J m t) = true := by
        have : t ∈ sl_ (sgI J m) n := List.mem_of_getElem? et
        unfold sl_ at this
        rw [List.mem_filter, List.mem_range] at this
        exact this
      have er : mm_r M 21 i = tc_n I m t := ro.2.2.2.2.2.2.1 i _ (by rw [List.getElem?_map, et]; rfl)
      have hg := h.2.2.1 t hm.1 hm.2
      have gt := br_tc h.2.1 hm.1 hm.2
      refine ⟨bS.1, ro.1, fun q => absurd q (nI_ge (by omega) (by omega)), fun _ => ⟨48, ?_, i, ⟨rfl, by omega⟩, ?_⟩⟩
      · obtain ⟨tg, q⟩ := ro.2.2.1
        exact ⟨tg, by rw [f.2.1]; exact q⟩
      · rw [eR, er, f.2.1]
        refine ⟨gt.1, fun M8 e8 => ?_⟩
        rw [e8]
        refine ih (i + 1) (by omega) (fx_tr f (fx_pi ⟨hg.1, hg.2, rfl⟩)) (fun k t' hk e' => ?_)
        rw [mi_pi]
        by_cases z : tc_n I m t' = tc_n I m t
        · rw [if_pos ⟨z, rfl⟩]
        · rw [if_neg (fun q => z q.1)]
          have : k ≠ i := fun y => by
            rw [y, et] at e'
            cases e'
            exact z rfl
          exact hv k t' (by omega) e'
  exact loop _ 0 (Nat.zero_add _) fx_rf (fun k t q => by omega)
theorem rn_row (e : J (m + 1) = I (m + 1)) : rn_ J m n w = rn_ I m n w := by
  unfold rn_
  rw [cz_eq e, e]
end Rcl5
