/-! blamed -/
section Pub18
variable {B M M' : mm_T} {I J E : Nat → Nat → Int32} {m n T W P L : Nat} {ta tm : Nat → Nat} {S : Nat → Nat → Bool}
def bp_ (I : fI) (m : Nat) (x : Int32) (t : Nat) : Bool := decide (ra_T I m t 13 = x)
theorem fl_t {p : Nat → Bool} {pre : List Nat} {y : Nat} : ((pre ++ [y]).filter p).length = (pre.filter p).length + if p y = true then 1 else 0 := by
  rw [List.filter_append, List.length_append]
  by_cases z : p y = true
  · rw [if_pos z]; simp [z]
  · rw [if_neg z]; simp [z]
theorem ce_asideBy (h : re_ M I m n ta tm) {as : List Nat} (hl : as.length ≤ 400) (a1 : I (m + 1) 3 = nI as.length) (s4 : ∀ i x, as[i]? = some x → I (m + 1) (5800 + i) = nI x ∧ x < n) {x : Int32} {Q : Int32 → mm_T → Prop} (K : Q (nI (as.filter (bp_ I m x)).length) M) : cs_i mt_X10_asideBy [pv_r 5, pv_i x] M Q := by
  have h4 := re_4 h
  obtain ⟨as', b1, b2, b3, b4⟩ := h.2.1.2.1
  have el : as'.length = as.length := (nI_eq (by omega) (by omega)).mp (b1.symm.trans a1)
  have ee : as' = as := List.ext_getElem? (fun i => by
    by_cases q : i < as'.length
    · have q2 : i < as.length := by omega
      rw [List.getElem?_eq_getElem q, List.getElem?_eq_getElem q2]
      have e1 := b3 i _ (List.getElem?_eq_getElem q)
      have e2 := s4 i _ (List.getElem?_eq_getElem q2)
      rw [(nI_eq (by omega) (by omega)).mp (e1.1.symm.trans e2.1)]
    · rw [List.getElem?_eq_none (by omega), List.getElem?_eq_none (by omega)])
  subst ee
  obtain ⟨c1, c2, c3, c4, c5, c6, c7, c8⟩ := b4
  rw [List.length_map] at c6
  have loop : ∀ (suf pre : List Nat), pre ++ suf = as' → cw_i mt_X10_asideBy 4 [some (pv_r 5), some (pv_i x), some (pv_i (nI (pre.filter (bp_ I m x)).length)), some (pv_i (nI pre.length))] [] M Q := by
    intro suf
    induction suf with
    | nil =>
      intro pre e
      rw [List.append_nil] at e
      subst e
      refine wc_X10_asideBy_4 (re_m5 h) ?_
      rw [h.1.1.1.2.2.2.2.1, c6]
      exact ⟨c1, fun _ => K, fun q => absurd (Int32.le_refl _) q⟩
    | cons y ys ih =>
      intro pre e
      have hlen : pre.length < as'.length := by rw [← e, List.length_append, List.length_cons]; omega
      have gy : as'[pre.length]? = some y := by rw [← e]; simp
      have hy := (b3 _ _ gy).2
      have ry : mm_r M 82 pre.length = ta y := c7 _ _ (by rw [List.getElem?_map, gy]; rfl)
      have ih' := ih (pre ++ [y]) (by rw [← e]; simp)
      rw [fl_t, List.length_append, show pre.length + [y].length = pre.length + 1 from rfl] at ih'
      refine wc_X10_asideBy_4 (re_m5 h) ?_
      rw [h.1.1.1.2.2.2.2.1, c6, c2]
      refine ⟨c1, fun q => absurd q (nI_ge hlen (by omega)), fun _ => ⟨400, c3, pre.length, ⟨rfl, by omega⟩, ?_⟩⟩
      rw [ry, (h.1.2.2.1.1 y hy).2.1.2.2.2.2.2.2.2]
      refine ⟨(re_ge h hy).2, fun q => ?_, fun q => ?_⟩
      · rw [if_neg (show ¬ bp_ I m x y = true from fun z => q (of_decide_eq_true z))] at ih'
        exact ih'
      · rw [if_pos (show bp_ I m x y = true from decide_eq_true q)] at ih'
        rw [nI_1]
        exact ih'
  exact wc_X10_asideBy_0 (re_m5 h) (loop as' [] rfl)
theorem rc_bl16 (RK : rf_ok B m) {as : List Nat} (hl : as.length ≤ 400) (hn : n ≤ 400) (a1 : I (m + 1) 3 = nI as.length) (s4 : ∀ i x, as[i]? = some x → I (m + 1) (5800 + i) = nI x ∧ x < n) {x : Int32} {Q : Int32 → fI → Prop} (K : Q (nI (as.filter (bp_ I m x)).length) I) : ∀ (suf pre : List Nat), pre ++ suf = as → rw_i mt_X11_blamed 16 [some (pv_r m), some (pv_i x), some (pv_i (nI (pre.filter (bp_ I m x)).length)), some (pv_i (nI pre.length))] [] B I Q := by
  intro suf
  induction suf with
  | nil =>
    intro pre e
    rw [List.append_nil] at e
    subst e
    refine wq_X11_blamed_16 RK ?_
    rw [a1]
    exact ⟨fun _ => K, fun q => absurd (Int32.le_refl _) q⟩
  | cons y ys ih =>
    intro pre e
    have hlen : pre.length < as.length := by rw [← e, List.length_append, List.length_cons]; omega
    have gy : as[pre.length]? = some y := by rw [← e]; simp
    obtain ⟨e1, hy⟩ := s4 _ _ gy
    have ih' := ih (pre ++ [y]) (by rw [← e]; simp)
    rw [fl_t, List.length_append, show pre.length + [y].length = pre.length + 1 from rfl] at ih'
    refine wq_X11_blamed_16 RK ?_
    rw [a1]
    refine ⟨fun q => absurd q (nI_ge hlen (by omega)), fun _ => ⟨5800 + pre.length, ⟨nI_add 5800 _, by omega⟩, y, ⟨e1, by omega⟩, fun q => ?_, fun q => ?_⟩⟩
    · rw [if_neg (show ¬ bp_ I m x y = true from fun z => q (of_decide_eq_true z))] at ih'
      rw [nI_1, nI_a0]
      exact ih'
    · rw [if_pos (show bp_ I m x y = true from decide_eq_true q)] at ih'
      rw [nI_1, nI_1]
      exact ih'
theorem sm_blamed (h : ix_ I m n T W P L) {x1 : Int32} : ∃ v, sm_ I m n T W P L (v, I) (fun M Q => cs_i mt_X10_blamed [pv_r 5, pv_i x1] M Q) (fun B J Q => rs_i mt_X11_blamed [pv_r m, pv_i x1] B J Q) := by
  have h4 := ix_4 h
  obtain ⟨as, s0, s1, s2, s3, s4⟩ := as_l h
  have s4' : ∀ i x, as[i]? = some x → I (m + 1) (5800 + i) = nI x ∧ x < n := fun i x q => ⟨s4 i x q, ((s3 x).mp (List.mem_of_getElem? q)).1⟩
  refine qu_ (v := if 0 ≤ x1 ∧ x1 ≤ 101 then nI (as.filter (bp_ I m x1)).length else -1) h (fun M ta tm Q hr K => ?_) (fun S E B Q hS RK hJ K => ?_)
  · refine wc_X10_blamed_0 (re_m5 hr) ⟨fun q => ?_, fun q => ⟨fun q2 => ce_asideBy hr s0 s1 s4' ?_, fun q2 => ?_⟩⟩
    · rw [if_neg (fun y => absurd q (Int32.not_lt.mpr y.1))] at K
      exact K
    · rw [if_pos ⟨Int32.not_lt.mp q, q2⟩] at K
      exact K
    · rw [if_neg (fun y => q2 y.2)] at K
      exact K
  · refine wq_X11_blamed_0 RK ⟨fun c => ?_, fun c => by rw [if_neg c] at K; exact K⟩
    rw [if_pos c] at K
    have eb : bp_ (pt_ S E I) m x1 = bp_ I m x1 := by
      funext t
      unfold bp_
      rw [nt_T (uf_us hS)]
    exact rc_bl16 RK s0 h4 ((uf_at hS (by omega) (by omega)).trans s1) (fun i x q => ⟨(uf_at hS (by omega) (by omega)).trans (s4' i x q).1, (s4' i x q).2⟩) (by rw [eb]; exact K) as [] rfl
end Pub18
