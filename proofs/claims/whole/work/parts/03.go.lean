/-! THE JUDGEMENT go_W: from a frame of a method over the plain memory, the method returns, and Q holds of its answer and of the memory then. -/
/-- name, code, locals, what it returns; frames and words that it may use -/
abbrev mt_T : Type := MethodName × ByteArray × Nat × Option FieldType × Nat × Nat
def mt_y (t : mt_T) : MethodName := t.1
def mt_b (t : mt_T) : ByteArray := t.2.1
def mt_n (t : mt_T) : Nat := t.2.2.1
def mt_r (t : mt_T) : Option FieldType := t.2.2.2.1
def mt_f (t : mt_T) : Nat := t.2.2.2.2.1
def mt_l (t : mt_T) : Nat := t.2.2.2.2.2
def nb_ : Nat := 600005
def sb_ : Nat := 7302250
def mt_R (t : mt_T) (n0 s0 : Nat) : Room := { frames := mt_f t, cells := nb_ - n0, slots := sb_ - s0, locals := mt_l t }
/-! locals -/
def cx_al (cx : cx_T) : Nat → List (Option pv_T) → List (Nat × Value)
  | _, [] => []
  | k, none :: t => cx_al cx (k + 1) t
  | k, some v :: t => (k, cx_v cx v) :: cx_al cx (k + 1) t
theorem cx_al_in {cx : cx_T} : ∀ {ls : List (Option pv_T)} {k j : Nat} {v : pv_T}, ls[j]? = some (some v) → (k + j, cx_v cx v) ∈ cx_al cx k ls
  | [], k, j, v, h => by simp at h
  | none :: t, k, 0, v, h => by simp at h
  | none :: t, k, j + 1, v, h => by
    have h' : t[j]? = some (some v) := by simpa using h
    have := cx_al_in (cx := cx) (k := k + 1) h'
    rw [show k + (j + 1) = k + 1 + j by omega]
    exact this
  | some w :: t, k, 0, v, h => by
    have h' : w = v := by simpa using h
    subst h'
    exact List.mem_cons_self
  | some w :: t, k, j + 1, v, h => by
    have h' : t[j]? = some (some v) := by simpa using h
    have := cx_al_in (cx := cx) (k := k + 1) h'
    rw [show k + (j + 1) = k + 1 + j by omega]
    exact List.mem_cons_of_mem _ this
theorem cx_al_of {cx : cx_T} : ∀ {ls : List (Option pv_T)} {k : Nat} {q : Nat × Value}, q ∈ cx_al cx k ls → ∃ (j : Nat) (v : pv_T), q = (k + j, cx_v cx v) ∧ ls[j]? = some (some v)
  | [], k, q, h => by simp [cx_al] at h
  | none :: t, k, q, h => by
    obtain ⟨j, v, e, h'⟩ := cx_al_of (show q ∈ cx_al cx (k + 1) t from h)
    exact ⟨j + 1, v, by rw [e, show k + 1 + j = k + (j + 1) by omega], by simpa using h'⟩
  | some w :: t, k, q, h => by
    rcases List.mem_cons.mp (show q ∈ (k, cx_v cx w) :: cx_al cx (k + 1) t from h) with rfl | h
    · exact ⟨0, w, rfl, by simp⟩
    · obtain ⟨j, v, e, h'⟩ := cx_al_of h
      exact ⟨j + 1, v, by rw [e, show k + 1 + j = k + (j + 1) by omega], by simpa using h'⟩
def pv_1 (v : pv_T) : Prop := ∀ x : Int64, v ≠ pv_l x
theorem pv_1_cat {cx : cx_T} {v : pv_T} (h : pv_1 v) : (cx_v cx v).category = 1 := by
  rcases v with x | x | a
  · rfl
  · exact absurd rfl (h x)
  · show (va_rf (cx_o cx a)).category = 1
    cases cx_o cx a <;> rfl
def cx_L (cx : cx_T) (L : Array Slot) (n : Nat) (ls : List (Option pv_T)) : Prop := ls.length = n ∧ (∀ (j : Nat) (v : pv_T), ls[j]? = some (some v) → pv_1 v) ∧ lv_has L n (cx_al cx 0 ls)
theorem cx_L_at {cx : cx_T} {L : Array Slot} {n i : Nat} {ls : List (Option pv_T)} {v : pv_T} (h : cx_L cx L n ls) (hi : ls[i]? = some (some v)) : L[i]? = some (.val (cx_v cx v)) := by
  have := h.2.2.2.2 _ (cx_al_in (cx := cx) (k := 0) hi)
  rw [show (0 + i : Nat) = i by omega] at this
  exact this
/-- a local is stored: what the machine does, and the new list -/
theorem cx_L_set {cx : cx_T} {L : Array Slot} {n i : Nat} {ls : List (Option pv_T)} {v : pv_T} (h : cx_L cx L n ls) (hi : i < n) (hv : pv_1 v) : ∃ L', storeLocals L i (cx_v cx v) = some L' ∧ cx_L cx L' n (ls.set i (some v)) := by
  obtain ⟨L', e, h'⟩ := lv_store1 (v := cx_v cx v) h.2.2 hi (pv_1_cat hv)
  refine ⟨L', e, by rw [List.length_set]; exact h.1, fun j w hw => ?_, h'.1, h'.2.1, fun q hq => ?_⟩
  · rw [List.getElem?_set] at hw
    by_cases hij : i = j
    · rw [if_pos hij] at hw
      split at hw
      · simp at hw; rw [← hw]; exact hv
      · cases hw
    · rw [if_neg hij] at hw
      exact h.2.1 j w hw
  · obtain ⟨j, w, rfl, hw⟩ := cx_al_of hq
    rw [List.getElem?_set] at hw
    by_cases hij : i = j
    · rw [if_pos hij] at hw
      split at hw
      · simp at hw
        subst hw
        subst hij
        have := h'.2.2 (i, cx_v cx v) List.mem_cons_self
        simpa using this
      · cases hw
    · rw [if_neg hij] at hw
      refine h'.2.2 (0 + j, cx_v cx w) (List.mem_cons_of_mem _ (List.mem_filter.mpr ⟨cx_al_in (k := 0) hw, ?_⟩))
      have hc : (cx_v cx w).category = 1 := pv_1_cat (h.2.1 j w hw)
      have hne : ¬ j = i := fun q => hij q.symm
      simp [hc, hne]
def cx_e (av : List pv_T) (n : Nat) : List (Option pv_T) := av.map some ++ List.replicate (n - av.length) none
theorem cx_al_none {cx : cx_T} : ∀ (m k : Nat), cx_al cx k (List.replicate m none) = []
  | 0, _ => rfl
  | m + 1, k => by
    rw [List.replicate_succ]
    exact cx_al_none m (k + 1)
theorem cx_al_args {cx : cx_T} : ∀ (av : List pv_T) (k m : Nat), (∀ v ∈ av, pv_1 v) → cx_al cx k (av.map some ++ List.replicate m none) = lv_args k (av.map (cx_v cx))
  | [], k, m, _ => by simpa [lv_args] using cx_al_none m k
  | v :: t, k, m, h => by
    have hc : (cx_v cx v).category = 1 := pv_1_cat (h v List.mem_cons_self)
    show (k, cx_v cx v) :: cx_al cx (k + 1) (t.map some ++ List.replicate m none) = (k, cx_v cx v) :: lv_args (if (cx_v cx v).category = 2 then k + 2 else k + 1) (t.map (cx_v cx))
    rw [cx_al_args t (k + 1) m (fun w hw => h w (List.mem_cons_of_mem _ hw)), if_neg (by rw [hc]; decide)]
theorem cx_sl {cx : cx_T} : ∀ (av : List pv_T), (∀ v ∈ av, pv_1 v) → (lg_sl (av.map (cx_v cx))).length = av.length
  | [], _ => rfl
  | v :: t, h => by
    have hc : (cx_v cx v).category = 1 := pv_1_cat (h v List.mem_cons_self)
    have ih := cx_sl (cx := cx) t (fun w hw => h w (List.mem_cons_of_mem _ hw))
    unfold lg_sl at ih ⊢
    rw [List.map_cons, List.flatMap_cons, List.length_append, ih, if_neg (by rw [hc]; decide)]
    simp
    omega
theorem cx_L_entry {cx : cx_T} {av : List pv_T} {n : Nat} (hn : av.length ≤ n) (h : ∀ v ∈ av, pv_1 v) : cx_L cx ((lg_sl (av.map (cx_v cx)) ++ List.replicate (n - (lg_sl (av.map (cx_v cx))).length) Slot.unset).toArray) n (cx_e av n) := by
  refine ⟨by simp [cx_e]; omega, fun j v hj => ?_, ?_⟩
  · unfold cx_e at hj
    by_cases hl : j < av.length
    · rw [List.getElem?_append_left (by simpa using hl), List.getElem?_map] at hj
      cases hz : av[j]? with
      | none => rw [hz] at hj; cases hj
      | some w =>
        rw [hz] at hj
        have : w = v := by simpa using hj
        rw [← this]
        exact h w (List.mem_of_getElem? hz)
    · rw [List.getElem?_append_right (by simpa using Nat.le_of_not_lt hl)] at hj
      rw [List.getElem?_replicate] at hj
      split at hj <;> simp at hj
  · have := lv_entry (av.map (cx_v cx)) (n := n) (by rw [cx_sl av h]; exact hn)
    unfold cx_e
    rw [cx_al_args av 0 _ h]
    exact this
/-! frame facts, heap facts, sizes -/
/-- the static facts of a state: tables, base, the static rows -/
def gx_S (cx : cx_T) (s : State) : Prop := va_K cx.2.2.1 vwCl (cx_ty cx) s ∧ cx.1 ≤ s.heap.size ∧ (∀ a, 1 ≤ a → a < 5 → cx.2.1 a < cx.1) ∧ va_Z "LaneStore" "FIRST_RULES" "[I" (.ref (cx.2.1 2)) (fun q => cx.1 ≤ q) s s.heap ∧ va_Z "LaneStore" "TOP_RULES" "[I" (.ref (cx.2.1 3)) (fun q => cx.1 ≤ q) s s.heap ∧ va_Z "LaneStore" "TOP_OF_LANE" "[I" (.ref (cx.2.1 4)) (fun q => cx.1 ≤ q) s s.heap ∧
  va_Nw (.fieldLinkNest RX0 pn_F "LaneStore" "FIRST_RULES" "[I" "LaneStore") s ∧ va_Nw (.methodLinkNest RX10 pn_5 yX5_init "LaneStore") s ∧ va_Nw (.methodLinkNest RX10 pn_1 yX1_init "LaneStore") s ∧ va_Nw (.methodLinkNest RX10 pn_2 yX2_init "LaneStore") s ∧ va_Nw (.castable "[I" "java/lang/Cloneable") s ∧ (∀ y, 2 ≤ y → y < 6 → va_AO (cl_C (ar_c y)) s) ∧ ∃ scr : Cell, s.heap[cx.2.1 2]? = some scr ∧ scr.cls = cx.2.2.2 0
theorem gx_S_moved {cx : cx_T} {s U : State} (h : gx_S cx s) (hW : s.WarmedH U.vm) (hz : s.heap.size ≤ U.heap.size) (hk : ∀ q : Nat, q < s.heap.size → ¬ cx.1 ≤ q → U.heap[q]? = s.heap[q]?) : gx_S cx U :=
  ⟨h.1.moved hW.alike, Nat.le_trans h.2.1 hz, h.2.2.1, (h.2.2.2.1.moved hW.alike).kept hk, (h.2.2.2.2.1.moved hW.alike).kept hk, (h.2.2.2.2.2.1.moved hW.alike).kept hk, h.2.2.2.2.2.2.1.warmF hW, h.2.2.2.2.2.2.2.1.warmM hW, h.2.2.2.2.2.2.2.2.1.warmM hW, h.2.2.2.2.2.2.2.2.2.1.warmM hW, h.2.2.2.2.2.2.2.2.2.2.1.warmC hW, fun y h2 h6 => (h.2.2.2.2.2.2.2.2.2.2.2.1 y h2 h6).moved hW.alike, by
    obtain ⟨scr, e1, e2⟩ := h.2.2.2.2.2.2.2.2.2.2.2.2
    have hlt := h.2.2.1 2 (by decide) (by decide)
    exact ⟨scr, by rw [hk _ (Nat.lt_of_lt_of_le hlt h.2.1) (Nat.not_le.mpr hlt)]; exact e1, e2⟩⟩
def gx_F (cx : cx_T) (t : mt_T) (p : Program) (s : State) (m : MethodId) (args : Array Value) (meth : Method) (c : Code) : Prop :=
  p.tables.exec = Jvm.exec ∧ c.code = mt_b t ∧ c.maxLocals = mt_n t ∧ meth.sig.returnType = mt_r t ∧ meth.locks = false ∧ meth.name = (mt_y t).name ∧ s.vm.findClass (mt_y t).cls = some m.cls ∧ (∀ w ∈ tb_, w.before args s = true) ∧ gx_S cx s
/-- the outer arrays -/
def hp_X (cx : cx_T) (M : mm_T) (s : State) (H : Heap) : Prop := ∀ a, 1 ≤ a → a < 5 → (mm_k M a).1 = 15 ∧ (mm_k M a).2 < 2 ^ 31 ∧ va_X (cx.2.1 a) (mm_k M a).2 (mm_i M a) s H
/-- the own cells -/
def hp_A (cx : cx_T) (M : mm_T) (H : Heap) : Prop := 5 ≤ mm_n M ∧ H.size = cx.1 + (mm_n M - 5) ∧ (∀ a, 5 ≤ a → a < mm_n M → hp_ok cx M H a) ∧ mm_k M 0 = (0, 0)
def hp_I (cx : cx_T) (M : mm_T) (s : State) (H : Heap) (locs : List Loc) : Prop := hp_A cx M H ∧ va_S (fun q => cx.1 ≤ q) s.heap H locs ∧ hp_X cx M s s.heap
def gx_N (cx : cx_T) (M : mm_T) (s : State) (n0 s0 : Nat) : Prop := s.heap.size = cx.1 + (n0 - 5) ∧ 5 ≤ n0 ∧ n0 ≤ mm_n M ∧ mm_n M ≤ nb_ ∧ mm_t M n0 = s0 ∧ mm_t M (mm_n M) ≤ sb_
/-- a method's end -/
def gx_Q (cx : cx_T) (M : mm_T) (fr : Nat → Bool) (Q : Option pv_T → mm_T → Prop) : Array Value → State → Outcome → State → Prop := fun _ st oc t =>
  ∃ (r : Option pv_T) (M' : mm_T), oc = .returned (r.map (cx_v cx)) ∧ Q r M' ∧ mm_S fr M M' ∧ mm_n M' ≤ nb_ ∧ mm_t M' (mm_n M') ≤ sb_ ∧ hp_A cx M' t.heap ∧ va_F (fun q => cx.1 ≤ q) st t
def go_W (t : mt_T) (fr : Nat → Bool) (pc : Nat) (ls : List (Option pv_T)) (st : List pv_T) (M : mm_T) (Q : Option pv_T → mm_T → Prop) : Prop :=
  ∀ (cx : cx_T) (l : Launch) (p : Program) (e : Env) (s : State) (m : MethodId) (args : Array Value) (below : List Frame) (meth : Method) (c : Code) (H : Heap) (locs : List Loc) (cells slots n0 s0 : Nat) (L : Array Slot),
    gx_F cx t p s m args meth c → hp_I cx M s H locs → gx_N cx M s n0 s0 → cx_L cx L (mt_n t) ls →
    W p l e (mt_R t n0 s0) s m args below meth c H locs cells slots (MQ below (gx_Q cx M fr Q) args s (nb_ - n0) (sb_ - s0) (fun q => cx.1 ≤ q)) (F0 m pc L (st.map (cx_v cx)))
/-- a method's contract: at its entry -/
def go_S (t : mt_T) (fr : Nat → Bool) (av : List pv_T) (M : mm_T) (Q : Option pv_T → mm_T → Prop) : Prop := go_W t fr 0 (cx_e av (mt_n t)) [] M Q
section GoBase
variable {p : Program} {l : Launch} {e : Env} {R : Room} {s : State} {m : MethodId} {args : Array Value} {below : List Frame} {meth : Method} {c : Code} {H : Heap} {locs : List Loc} {cells slots : Nat}
theorem go_mono {Q1 Q2 : State → Prop} {g : JFrame} (h : ∀ t, Q1 t → Q2 t) (k : W p l e R s m args below meth c H locs cells slots Q1 g) : W p l e R s m args below meth c H locs cells slots Q2 g := by
  intro T hT X
  obtain ⟨t, a, b⟩ := k T hT X
  exact ⟨t, a, h t b⟩
theorem go_post {cx : cx_T} {M M1 : mm_T} {fr : Nat → Bool} {Q : Option pv_T → mm_T → Prop} {mc ms : Nat} {free : Addr → Prop} {g : JFrame} (h : mm_S fr M M1) (k : W p l e R s m args below meth c H locs cells slots (MQ below (gx_Q cx M1 fr Q) args s mc ms free) g) : W p l e R s m args below meth c H locs cells slots (MQ below (gx_Q cx M fr Q) args s mc ms free) g := by
  refine go_mono (fun t => ?_) k
  rintro ⟨o, h1, h2, ⟨r, M', h3, h4, h5, h6⟩, h7⟩
  exact ⟨o, h1, h2, ⟨r, M', h3, h4, mm_S_tr h h5, h6⟩, h7⟩
theorem go_sum {M : mm_T} : ∀ (xs : List Cell) (k : Nat), 5 ≤ k → (∀ i (hi : i < xs.length), xs[i].slots.size = (mm_k M (k + i)).2) → (xs.map (·.slots.size)).sum + mm_t M k = mm_t M (k + xs.length)
  | [], k, _, _ => by simp
  | x :: t, k, hk, h => by
    have h0 := h 0 (by simp)
    have ih := go_sum t (k + 1) (by omega) (fun i hi => by
      have := h (i + 1) (by simpa using hi)
      rw [show k + 1 + i = k + (i + 1) by omega]
      simpa using this)
    have e : mm_t M (k + 1) = mm_t M k + (mm_k M k).2 := by
      show mm_t M k + _ = _
      rw [if_pos hk]
    rw [List.map_cons, List.sum_cons, List.length_cons, show k + (t.length + 1) = k + 1 + t.length by omega, ← ih, e]
    simp at h0
    omega
/-- what has been made is just what the plain memory says -/
theorem go_tight {cx : cx_T} {M : mm_T} {n0 s0 : Nat} {Q : State → Prop} {g : JFrame} (I : hp_A cx M H) (N : gx_N cx M s n0 s0) (k : W p l e R s m args below meth c H locs (mm_n M - n0) (mm_t M (mm_n M) - s0) Q g) : W p l e R s m args below meth c H locs cells slots Q g := by
  intro T hT X
  obtain ⟨N1, N2, N3, N4, N5, N6⟩ := N
  obtain ⟨I1, I2, I3, -⟩ := I
  refine k T hT { X with same := ?_ }
  obtain ⟨a1, a2, a3, a4, a5, a6⟩ := X.same
  have hh : (T.setVm s.vm).heap = H := hT
  refine ⟨a1, a2, ?_, a4, ?_, a6⟩
  · rw [hh, I2, N1]; omega
  · rw [hh]
    have hlen : (H.toList.drop s.heap.size).length = mm_n M - n0 := by
      rw [List.length_drop, Array.length_toList, I2, N1]; omega
    have := go_sum (M := M) (H.toList.drop s.heap.size) n0 N2 (fun i hi => by
      have hi' : i < mm_n M - n0 := by rw [hlen] at hi; exact hi
      obtain ⟨cell, h1, h2⟩ := hp_ok_size (I3 (n0 + i) (by omega) (by omega))
      rw [cx_a_own (by omega)] at h1
      rw [List.getElem_drop]
      have e : H.toList[s.heap.size + i]? = some cell := by
        rw [Array.getElem?_toList, N1, show cx.1 + (n0 - 5) + i = cx.1 + (n0 + i - 5) by omega]
        exact h1
      rw [List.getElem?_eq_some_iff] at e
      obtain ⟨hl, he⟩ := e
      rw [he, h2])
    rw [hlen, show n0 + (mm_n M - n0) = mm_n M by omega, N5] at this
    omega
end GoBase
