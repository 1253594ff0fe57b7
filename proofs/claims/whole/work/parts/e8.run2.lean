/-! the run on paper: the run -/
section Run2
variable {I J N : Nat → Nat → Int32} {m n Pb t w X : Nat} {en : Nat → Int32}
def fcs (J : fI) (m n : Nat) (ts : List Nat) : fI := ts.foldl (fun J t => sp_frees J m n t) J
def dp_ (J : fI) (m : Nat) (en : Nat → Int32) (t : Nat) : Bool := decide (ra_T J m t 6 = 3 ∧ ¬ J (m + 1) 0 < en t)
def dl_ (J : fI) (m n : Nat) (en : Nat → Int32) : List Nat := (List.range n).filter (dp_ J m en)
def lst_ (x : Int32) (ts : List Nat) : Int32 := ts.foldl (fun _ t => nI t) x
def emp_ (J : fI) (m : Nat) (v : Int32) (e : Nat → Int32) (ts : List Nat) : Nat → Int32 := ts.foldl (fun e t l => if l = lmI J m t then v else e l) e
def fsv (m n : Nat) : Nat → fI → (Nat → Int32) → fI × (Nat → Int32)
  | 0, J, en => (J, en)
  | f + 1, J, en => match ra_lane J m n 1 with
    | none => (J, en)
    | some l => match ra_first J m n (nI l) with
      | none => (J, en)
      | some t => fsv m n f (sp_srv J m t l) (fun x => if x = t then J (m + 1) 0 + ra_T J m t 2 else en x)
def bu_ (J : fI) (m n : Nat) (en : Nat → Int32) : Option Nat := bs_ (fun t => decide (ra_T J m t 6 = 3)) (fun a c => decide (en a < en c)) n
def nx_ (J : fI) (m n : Nat) (en : Nat → Int32) : Int32 := match bu_ J m n en, sp_nr J m n with
  | none, none => -1
  | some a, none => en a
  | none, some b => ra_T J m b 8
  | some a, some b => if ra_T J m b 8 < en a then ra_T J m b 8 else en a
theorem bs_min {f : Nat → Int32} {p : Nat → Bool} : ∀ {n q : Nat}, bs_ p (fun a c => decide (f a < f c)) n = some q → ∀ i, i < n → p i = true → ¬ f i < f q
  | 0, _, h, i, hi, _ => by omega
  | n + 1, q, h, i, hi, hp => by
    cases hn : p n with
    | false =>
      rw [bs_f hn] at h
      have : i ≠ n := fun z => by rw [z, hn] at hp; cases hp
      exact bs_min h i (by omega) hp
    | true =>
      cases hb : bs_ p (fun a c => decide (f a < f c)) n with
      | none =>
        rw [bs_n hn hb] at h
        cases h
        by_cases z : i = n
        · rw [z]; exact fun q => Int32.lt_irrefl q
        · have := bs_none hb i (by omega)
          rw [hp] at this
          cases this
      | some r =>
        rw [bs_s hn hb] at h
        by_cases c : f n < f r
        · rw [if_pos (decide_eq_true c)] at h
          cases h
          by_cases z : i = n
          · rw [z]; exact fun q => Int32.lt_irrefl q
          · have := bs_min hb i (by omega) hp
            exact Int32.not_lt.mpr (Int32.le_trans (Int32.le_of_lt c) (Int32.not_lt.mp this))
        · rw [if_neg (fun q => c (of_decide_eq_true q))] at h
          cases h
          by_cases z : i = n
          · rw [z]; exact c
          · exact bs_min hb i (by omega) hp
theorem sj_rf : sj_6 m J J := fun _ _ _ _ => rfl
theorem sj_tr (h : sj_6 m J N) (h' : sj_6 m N I) : sj_6 m J I := fun j a b c => (h' j a b c).trans (h j a b c)
theorem st_6 (g : sj_6 m J N) {v : Int32} {x : Nat} (h : ra_T N m x 6 ≤ 3 ↔ ra_T J m x 6 ≤ 3) : ra_st N m v x = ra_st J m v x := by
  unfold ra_st
  rw [sj_T g (by decide) (by decide) (by decide), decide_eq_decide, h]
theorem wk_all : ∀ (k : Nat) {J : fI}, pp_ J m n Pb → rc2_ J m n < k → (pp_ (sp_wk k J m n) m n Pb ∧ sp_wk k J m n (m + 1) 0 = J (m + 1) 0 ∧ sj_6 m J (sp_wk k J m n)) ∧ (∀ v x, x < n → ra_st (sp_wk k J m n) m v x = ra_st J m v x) ∧ (∀ x, ra_T (sp_wk k J m n) m x 6 = 3 ↔ ra_T J m x 6 = 3) ∧ (∀ x, x < n → ra_T (sp_wk k J m n) m x 6 = 2 → J (m + 1) 0 < ra_T (sp_wk k J m n) m x 8) ∧ rc2_ (sp_wk k J m n) m n ≤ rc2_ J m n ∧ ((∃ x, x < n ∧ ra_T J m x 6 = 2 ∧ ¬ J (m + 1) 0 < ra_T J m x 8) → rc2_ (sp_wk k J m n) m n < rc2_ J m n)
  | 0, J, h, hk => by omega
  | k + 1, J, h, hk => by
    obtain ⟨q, -, hb⟩ := pp_rb h
    unfold sp_wk
    cases e : sp_nr J m n with
    | none =>
      have hn : ∀ x, x < n → ¬ ra_T J m x 6 = 2 := fun x hx q => by
        have := bs_none e x hx
        exact absurd q (of_decide_eq_false this)
      exact ⟨⟨h, rfl, sj_rf⟩, fun _ _ _ => rfl, fun _ => Iff.rfl, fun x hx q => absurd q (hn x hx), Nat.le_refl _, fun ⟨x, hx, q, _⟩ => absurd q (hn x hx)⟩
    | some t =>
      simp only
      obtain ⟨ht, h2⟩ := nr_of e
      by_cases c : J (m + 1) 0 < ra_T J m t 8
      · rw [if_pos c]
        have hall : ∀ x, x < n → ra_T J m x 6 = 2 → J (m + 1) 0 < ra_T J m x 8 := fun x hx q => by
          have := bs_min (f := fun t => ra_T J m t 8) e x hx (decide_eq_true q)
          exact Int32.lt_of_lt_of_le c (Int32.not_lt.mp this)
        exact ⟨⟨h, rfl, sj_rf⟩, fun _ _ _ => rfl, fun _ => Iff.rfl, hall, Nat.le_refl _, fun ⟨x, hx, q, z⟩ => absurd (hall x hx q) z⟩
      · rw [if_neg c]
        have hc := rc2_wk1 hb ht h2
        obtain ⟨⟨i1, i2, i3⟩, i4, i5, i6, i7, -⟩ := wk_all k (pp_wk1 h ht h2) (by omega)
        have e0 : sp_wk1 J m n t (m + 1) 0 = J (m + 1) 0 := wk1_o hb ht (by omega) (by omega) (by omega)
        refine ⟨⟨i1, i2.trans e0, sj_tr (sj_wk1 hb ht) i3⟩, fun v x hx => (i4 v x hx).trans (st_6 (sj_wk1 hb ht) ?_), fun x => (i5 x).trans ?_, fun x hx q => ?_, by omega, fun _ => by omega⟩
        · rw [wk1_s hb ht]
          split
          · rename_i z
            rw [z, h2]
            decide
          · exact Iff.rfl
        · rw [wk1_s hb ht]
          split
          · rename_i z
            rw [z, h2]
            decide
          · exact Iff.rfl
        · have := i6 x hx q
          rw [e0] at this
          exact this
def eo_ (J : fI) (m n : Nat) (en : Nat → Int32) (X : Nat) : Prop := ∀ t, t < n → ra_T J m t 6 = 3 → ∃ e, X < e ∧ e ≤ X + 20 ∧ en t = nI e
theorem ou_srv {l : Nat} (hl : l < 5) (ht : t < n) (h0 : ra_T J m t 6 = 0) : ou_ (sp_srv J m t l) m n = ou_ J m n + 1 := by
  have := cs_one (I := J) (J := sp_srv J m t l) (m := m) (n := n) (t := t) (v := 3) 3 ht (fun t' _ => srv_6 hl)
  rw [h0, if_neg (by decide), if_pos rfl] at this
  exact this
theorem fsv_all : ∀ (f : Nat) {J : fI} {en : Nat → Int32}, pp_ J m n Pb → J (m + 1) 0 = nI X → X + 20 < 2147483648 → eo_ J m n en X → (pp_ (fsv m n f J en).1 m n Pb ∧ (fsv m n f J en).1 (m + 1) 0 = nI X ∧ sj_6 m J (fsv m n f J en).1 ∧ eo_ (fsv m n f J en).1 m n (fsv m n f J en).2 X) ∧ (∀ v x, x < n → ra_st (fsv m n f J en).1 m v x = ra_st J m v x) ∧ (∀ x, x < n → (ra_T (fsv m n f J en).1 m x 6 = 2 ↔ ra_T J m x 6 = 2)) ∧ (∀ x, ra_T (fsv m n f J en).1 m x 8 = ra_T J m x 8) ∧ ou_ (fsv m n f J en).1 m n ≤ ou_ J m n + f ∧ ou_ J m n ≤ ou_ (fsv m n f J en).1 m n ∧ (0 < f → ou_ (fsv m n f J en).1 m n = 0 → (fsv m n f J en).1 = J ∧ ra_lane J m n 1 = none)
  | 0, J, en, h, h0, hX, ho => ⟨⟨h, h0, sj_rf, ho⟩, fun _ _ _ => rfl, fun _ _ => Iff.rfl, fun _ => rfl, Nat.le_refl _, Nat.le_refl _, fun q => by omega⟩
  | f + 1, J, en, h, h0, hX, ho => by
    unfold fsv
    cases e : ra_lane J m n 1 with
    | none => exact ⟨⟨h, h0, sj_rf, ho⟩, fun _ _ _ => rfl, fun _ _ => Iff.rfl, fun _ => rfl, Nat.le_add_right _ _, Nat.le_refl _, fun _ _ => ⟨rfl, rfl⟩⟩
    | some l =>
      have l5 := ra_lane_5 e
      obtain ⟨t, ht⟩ := lane_live e
      obtain ⟨t1, t2, t3⟩ := first_of ht
      simp only [ht]
      obtain ⟨s, s1, s2, s3⟩ := h.1.2.2.2.1.2 t t1
      have e0 : sp_srv J m t l (m + 1) 0 = nI X := (srv_o (by omega)).trans h0
      have hou := ou_srv l5 t1 t3
      obtain ⟨⟨i1, i2, i3, i4⟩, i5, i6, i7, i8, i9, i10⟩ := fsv_all f (J := sp_srv J m t l) (en := fun x => if x = t then J (m + 1) 0 + ra_T J m t 2 else en x) (pp_srv h t1 l5 t3) e0 hX (fun x hx q => by
        by_cases z : x = t
        · simp only [if_pos z]
          exact ⟨X + s, by omega, by omega, by rw [h0, s3, nI_add]⟩
        · simp only [if_neg z]
          rw [srv_6 l5, if_neg z] at q
          exact ho x hx q)
      refine ⟨⟨i1, i2, sj_tr (sj_srv l5) i3, i4⟩, fun v x hx => (i5 v x hx).trans (st_6 (sj_srv l5) ?_), fun x hx => (i6 x hx).trans ?_, fun x => (i7 x).trans (srv_T l5 (by decide) (by decide)), by omega, by omega, fun _ q => by omega⟩
      · rw [srv_6 l5]
        split
        · rename_i z
          rw [z, t3]
          decide
        · exact Iff.rfl
      · rw [srv_6 l5]
        split
        · rename_i z
          rw [z, t3]
          decide
        · exact Iff.rfl
theorem no_st (h : pp_ J m n Pb) (ho : ou_ J m n = 0) (hr : ∀ x, x < n → ¬ ra_T J m x 6 = 2) (hl : ra_lane J m n 1 = none) : cn_ (ra_st J m (-1)) n = 0 := by
  have hall : ∀ k x, x ≤ k → x < n → ¬ ra_T J m x 6 ≤ 3 := by
    intro k
    induction k with
    | zero =>
      intro x hk hx q
      rcases (st_le h.1.1 hx).mp q with z | z | z | z
      · obtain ⟨l5, e⟩ := lm_of h.1.1 hx
        have := bs_none hl (lmI J m x) l5
        obtain ⟨k, k1, k2, k3⟩ := h.2.1 _ l5
        have hlv : ra_live J m n (nI (lmI J m x)) = true := decide_eq_true (cn_pos (decide_eq_true ⟨e, z⟩) hx)
        have hc : cn_ (ra_many J m (nI (lmI J m x)) 3) n = 0 := cn_0 (fun i hi => decide_eq_false (fun y => absurd y.2 (of_decide_eq_false (cn_none ho i hi))))
        unfold ra_may at this
        rw [hlv, hc, k3, decide_eq_false (show ¬ (1 : Int32) = 0 by decide), decide_eq_true (nI_lt (a := 0) (b := k) (by omega) (by omega))] at this
        cases this
      · obtain ⟨b, b1, b2, b3⟩ := h.1.2.2.1 x hx z
        omega
      · exact hr x hx z
      · exact absurd z (of_decide_eq_false (cn_none ho x hx))
    | succ k ih =>
      intro x hk hx q
      rcases (st_le h.1.1 hx).mp q with z | z | z | z
      · obtain ⟨l5, e⟩ := lm_of h.1.1 hx
        have := bs_none hl (lmI J m x) l5
        obtain ⟨k, k1, k2, k3⟩ := h.2.1 _ l5
        have hlv : ra_live J m n (nI (lmI J m x)) = true := decide_eq_true (cn_pos (decide_eq_true ⟨e, z⟩) hx)
        have hc : cn_ (ra_many J m (nI (lmI J m x)) 3) n = 0 := cn_0 (fun i hi => decide_eq_false (fun y => absurd y.2 (of_decide_eq_false (cn_none ho i hi))))
        unfold ra_may at this
        rw [hlv, hc, k3, decide_eq_false (show ¬ (1 : Int32) = 0 by decide), decide_eq_true (nI_lt (a := 0) (b := k) (by omega) (by omega))] at this
        cases this
      · obtain ⟨b, b1, b2, b3⟩ := h.1.2.2.1 x hx z
        exact ih b (by omega) (by omega) b3
      · exact hr x hx z
      · exact absurd z (of_decide_eq_false (cn_none ho x hx))
  exact cn_0 (fun x hx => decide_eq_false (fun q => hall x x (Nat.le_refl _) hx q.2))
theorem nx_all (h : pp_ J m n Pb) (hX : X + 20 < 2147483648) (ho : eo_ J m n en X) (hr : ∀ x, x < n → ra_T J m x 6 = 2 → nI X < ra_T J m x 8) : (nx_ J m n en = -1 ∧ ou_ J m n = 0 ∧ ∀ x, x < n → ¬ ra_T J m x 6 = 2) ∨ ∃ Y, nx_ J m n en = nI Y ∧ X < Y ∧ (Y ≤ X + 20 ∨ Y < 1000000000) ∧ (∀ x, x < n → ra_T J m x 6 = 3 → ¬ en x < nI Y) ∧ (∀ x, x < n → ra_T J m x 6 = 2 → ¬ ra_T J m x 8 < nI Y) ∧ ((∃ x, x < n ∧ ra_T J m x 6 = 3 ∧ en x = nI Y) ∨ ∃ x, x < n ∧ ra_T J m x 6 = 2 ∧ ra_T J m x 8 = nI Y) := by
  have hd : ∀ x, x < n → ra_T J m x 6 = 2 → ∃ d, X < d ∧ d < 1000000000 ∧ ra_T J m x 8 = nI d := fun x hx q => by
    obtain ⟨d, d1, d2⟩ := h.2.2.2.1 x hx q
    have := hr x hx q
    rw [d2, nI_ltI (by omega) (by omega)] at this
    exact ⟨d, this, d1, d2⟩
  unfold nx_
  cases e1 : bu_ J m n en with
  | none =>
    have n3 : ∀ x, x < n → ¬ ra_T J m x 6 = 3 := fun x hx => of_decide_eq_false (bs_none e1 x hx)
    cases e2 : sp_nr J m n with
    | none => exact Or.inl ⟨rfl, cn_0 (fun x hx => decide_eq_false (n3 x hx)), fun x hx => of_decide_eq_false (bs_none e2 x hx)⟩
    | some b =>
      obtain ⟨b1, b2⟩ := nr_of e2
      obtain ⟨d, d1, d2, d3⟩ := hd b b1 b2
      refine Or.inr ⟨d, d3, d1, Or.inr d2, fun x hx q => absurd q (n3 x hx), fun x hx q => ?_, Or.inr ⟨b, b1, b2, d3⟩⟩
      rw [← d3]
      exact bs_min (f := fun t => ra_T J m t 8) e2 x hx (decide_eq_true q)
  | some a =>
    have a1 := bs_lt e1
    have a2 := of_decide_eq_true a1.2
    obtain ⟨ea, ea1, ea2, ea3⟩ := ho a a1.1 a2
    have amin : ∀ x, x < n → ra_T J m x 6 = 3 → ¬ en x < en a := fun x hx q => bs_min (f := en) e1 x hx (decide_eq_true q)
    cases e2 : sp_nr J m n with
    | none =>
      refine Or.inr ⟨ea, ea3, ea1, Or.inl ea2, fun x hx q => ?_, fun x hx q => absurd q (of_decide_eq_false (bs_none e2 x hx)), Or.inl ⟨a, a1.1, a2, ea3⟩⟩
      rw [← ea3]
      exact amin x hx q
    | some b =>
      obtain ⟨b1, b2⟩ := nr_of e2
      obtain ⟨d, d1, d2, d3⟩ := hd b b1 b2
      have bmin : ∀ x, x < n → ra_T J m x 6 = 2 → ¬ ra_T J m x 8 < ra_T J m b 8 := fun x hx q => bs_min (f := fun t => ra_T J m t 8) e2 x hx (decide_eq_true q)
      simp only
      by_cases c : ra_T J m b 8 < en a
      · rw [if_pos c]
        refine Or.inr ⟨d, d3, d1, Or.inr d2, fun x hx q => ?_, fun x hx q => ?_, Or.inr ⟨b, b1, b2, d3⟩⟩
        · rw [← d3]
          exact Int32.not_lt.mpr (Int32.le_trans (Int32.le_of_lt c) (Int32.not_lt.mp (amin x hx q)))
        · rw [← d3]
          exact bmin x hx q
      · rw [if_neg c]
        refine Or.inr ⟨ea, ea3, ea1, Or.inl ea2, fun x hx q => ?_, fun x hx q => ?_, Or.inl ⟨a, a1.1, a2, ea3⟩⟩
        · rw [← ea3]
          exact amin x hx q
        · rw [← ea3]
          exact Int32.not_lt.mpr (Int32.le_trans (Int32.not_lt.mp c) (Int32.not_lt.mp (bmin x hx q)))
theorem fcs_all : ∀ (ts : List Nat) {J : fI}, pp_ J m n Pb → (∀ t, t ∈ ts → t < n ∧ ra_T J m t 6 = 3) → ts.Nodup → (pp_ (fcs J m n ts) m n Pb ∧ fcs J m n ts (m + 1) 0 = J (m + 1) 0 ∧ sj_6 m J (fcs J m n ts)) ∧ (∀ v x, x < n → ra_st (fcs J m n ts) m v x = (ra_st J m v x && decide (x ∉ ts))) ∧ (∀ x, x < n → (ra_T (fcs J m n ts) m x 6 = 3 ↔ ra_T J m x 6 = 3 ∧ x ∉ ts)) ∧ (∀ x, x < n → (ra_T (fcs J m n ts) m x 6 = 2 ↔ ra_T J m x 6 = 2)) ∧ ∀ x, ra_T (fcs J m n ts) m x 8 = ra_T J m x 8
  | [], J, h, _, _ => ⟨⟨h, rfl, sj_rf⟩, fun v x _ => by simp [fcs], fun x _ => by simp [fcs], fun _ _ => Iff.rfl, fun _ => rfl⟩
  | t :: ts, J, h, hm, hd => by
    obtain ⟨ht, h3⟩ := hm t List.mem_cons_self
    obtain ⟨q, -, hb⟩ := pp_rb h
    rw [List.nodup_cons] at hd
    have f6 : ∀ x, ra_T (sp_frees J m n t) m x 6 = _ := fun x => fre_6 hb
    have f3 : ∀ x, x < n → (ra_T (sp_frees J m n t) m x 6 = 3 ↔ ra_T J m x 6 = 3 ∧ x ≠ t) := fun x hx => by
      rw [f6 x]
      by_cases z : x < n ∧ x ≠ t ∧ ra_T J m x 6 = 1 ∧ ra_T J m x 4 = nI t
      · rw [if_pos z, z.2.2.1]
        exact ⟨fun q => absurd q (by decide), fun q => absurd q.1 (by decide)⟩
      · rw [if_neg z]
        by_cases y : x = t
        · rw [if_pos y]
          exact ⟨fun q => absurd q (by decide), fun q => absurd y q.2⟩
        · rw [if_neg y]
          exact ⟨fun q => ⟨q, y⟩, fun q => q.1⟩
    have f2 : ∀ x, x < n → (ra_T (sp_frees J m n t) m x 6 = 2 ↔ ra_T J m x 6 = 2) := fun x hx => by
      rw [f6 x]
      by_cases z : x < n ∧ x ≠ t ∧ ra_T J m x 6 = 1 ∧ ra_T J m x 4 = nI t
      · rw [if_pos z, z.2.2.1]
        decide
      · rw [if_neg z]
        by_cases y : x = t
        · rw [if_pos y, y, h3]
          decide
        · rw [if_neg y]
    have fs : ∀ v x, x < n → ra_st (sp_frees J m n t) m v x = (ra_st J m v x && decide (x ≠ t)) := fun v x hx => by
      unfold ra_st
      rw [sj_T (sj_fre hb) (by decide) (by decide) (by decide), f6 x]
      by_cases z : x < n ∧ x ≠ t ∧ ra_T J m x 6 = 1 ∧ ra_T J m x 4 = nI t
      · rw [if_pos z, z.2.2.1, decide_eq_true z.2.1, Bool.and_true, decide_eq_decide]
        exact ⟨fun q => ⟨q.1, by decide⟩, fun q => ⟨q.1, by decide⟩⟩
      · rw [if_neg z]
        by_cases y : x = t
        · rw [if_pos y, decide_eq_false (show ¬ x ≠ t from fun q => q y), Bool.and_false]
          exact decide_eq_false (fun q => absurd q.2 (by decide))
        · rw [if_neg y, decide_eq_true y, Bool.and_true]
    obtain ⟨⟨i1, i2, i3⟩, i4, i5, i6, i7⟩ := fcs_all ts (J := sp_frees J m n t) (pp_fre h ht h3) (fun x hx => by
      obtain ⟨a, b⟩ := hm x (List.mem_cons_of_mem _ hx)
      exact ⟨a, (f3 x a).mpr ⟨b, fun z => hd.1 (z ▸ hx)⟩⟩) hd.2
    refine ⟨⟨i1, i2.trans (fre_o hb (by omega) (by omega) (by omega)), sj_tr (sj_fre hb) i3⟩, fun v x hx => ?_, fun x hx => ?_, fun x hx => (i6 x hx).trans (f2 x hx), fun x => (i7 x).trans (fre_o hb (by omega) (by omega) (by omega))⟩
    · show ra_st (fcs (sp_frees J m n t) m n ts) m v x = _
      rw [i4 v x hx, fs v x hx, Bool.and_assoc]
      congr 1
      rw [← Bool.decide_and, decide_eq_decide]
      simp
    · show ra_T (fcs (sp_frees J m n t) m n ts) m x 6 = 3 ↔ _
      rw [i5 x hx, f3 x hx]
      simp [and_assoc]
end Run2
