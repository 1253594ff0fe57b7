/-! ROWS over the cells: fields, arrays, new ones. -/
/-- a cell of a kind is an own cell -/
theorem hp_own {cx : cx_T} {M : mm_T} {s : State} {H : Heap} {locs : List Loc} {a c n : Nat} (I : hp_I cx M s H locs) (hk : mm_k M a = (c, n)) (h0 : ¬ (c = 0 ∧ n = 0)) (h15 : c ≠ 15) : 5 ≤ a ∧ a < mm_n M := by
  have hlt : a < mm_n M := mm_k_lt (by rw [hk]; intro h; exact h0 (by simpa using h))
  refine ⟨?_, hlt⟩
  rcases Nat.lt_or_ge a 5 with q | q
  · rcases Nat.eq_zero_or_pos a with z | z
    · subst z
      have := I.1.2.2.2
      rw [hk] at this
      exact absurd (by simpa using this) h0
    · have := (I.2.2 a z q).1
      rw [hk] at this
      exact absurd this h15
  · exact q
theorem hp_obj {cx : cx_T} {M : mm_T} {s : State} {H : Heap} {locs : List Loc} {a c : Nat} (I : hp_I cx M s H locs) (hc : c < 12) (hk : mm_k M a = (c, cl_n c)) : 5 ≤ a ∧ a < mm_n M ∧ ∃ cell : Cell, H[cx_a cx a]? = some cell ∧ cell.cls = cx.2.2.1.1 c ∧ cell.vm = .none ∧ cell.slots.size = cl_n c ∧ ∀ k, k < cl_n c → cell.slots[cx.2.2.1.2 c k]? = some (hp_v cx M a (cl_y c k) k) := by
  have hn : cl_n c ≠ 0 := by
    match c, hc with
    | 0, _ => decide
    | 1, _ => decide
    | 2, _ => decide
    | 3, _ => decide
    | 4, _ => decide
    | 5, _ => decide
    | 6, _ => decide
    | 7, _ => decide
    | 8, _ => decide
    | 9, _ => decide
    | 10, _ => decide
    | 11, _ => decide
    | n + 12, h => omega
  obtain ⟨h5, hlt⟩ := hp_own I hk (fun q => hn q.2) (by omega)
  refine ⟨h5, hlt, ?_⟩
  rcases I.1.2.2.1 a h5 hlt with ⟨-, -, cell, e1, e2, e3, e4, e5⟩ | ⟨q, -⟩
  · rw [hk] at e2 e4 e5
    exact ⟨cell, e1, e2, e3, e4, e5⟩
  · rw [hk] at q
    simp at q
    omega
theorem hp_arr {cx : cx_T} {M : mm_T} {s : State} {H : Heap} {locs : List Loc} {a c n : Nat} (I : hp_I cx M s H locs) (hc : 20 ≤ c) (hk : mm_k M a = (c, n)) : 5 ≤ a ∧ a < mm_n M ∧ (c - 20) / 20 < 6 ∧ n < 2 ^ 31 ∧ H[cx_a cx a]? = some (arrV (cx.2.2.2 ((c - 20) / 20)) n (hp_w cx M a ((c - 20) / 20))) := by
  obtain ⟨h5, hlt⟩ := hp_own I hk (by omega) (by omega)
  refine ⟨h5, hlt, ?_⟩
  rcases I.1.2.2.1 a h5 hlt with ⟨q, -⟩ | ⟨-, e1, e2, e3⟩
  · rw [hk] at q
    simp at q
    omega
  · rw [hk] at e1 e2 e3
    exact ⟨e1, e2, e3⟩
/-- the heap moves at one cell, and the plain memory with it -/
theorem hp_put {cx : cx_T} {M M' : mm_T} {s : State} {H H' : Heap} {locs : List Loc} {a j : Nat} (I : hp_I cx M s H locs) (h5 : 5 ≤ a) (ha : a < mm_n M) (hn : mm_n M' = mm_n M) (hk : ∀ b, mm_k M' b = mm_k M b) (ho : ∀ b, b ≠ a → (∀ j, mm_i M' b j = mm_i M b j) ∧ (∀ j, mm_l M' b j = mm_l M b j) ∧ ∀ j, mm_r M' b j = mm_r M b j) (hz : H'.size = H.size) (hq : ∀ q : Nat, q ≠ cx_a cx a → H'[q]? = H[q]?) (hok : hp_ok cx M' H' a) : hp_I cx M' s H' (locs ++ [⟨cx_a cx a, j⟩]) := by
  obtain ⟨⟨I1, I2, I3, I4⟩, I5, I6⟩ := I
  refine ⟨⟨by rw [hn]; exact I1, by rw [hz, hn]; exact I2, fun b hb5 hbn => ?_, by rw [hk]; exact I4⟩, I5.put hz hq (by rw [cx_a_own h5]; exact Nat.le_add_right _ _), fun b hb1 hb5 => ?_⟩
  · by_cases hba : b = a
    · rw [hba]; exact hok
    · obtain ⟨o1, o2, o3⟩ := ho b hba
      exact hp_same (I3 b hb5 (by rw [← hn]; exact hbn)) (hk b) o1 o2 o3 (hq _ (fun e => hba (cx_a_inj hb5 h5 e)))
  · obtain ⟨o1, -, -⟩ := ho b (by omega)
    rw [hk, show mm_i M' b = mm_i M b from funext o1]
    exact I6 b hb1 hb5
theorem gx_N_put {cx : cx_T} {M M' : mm_T} {s : State} {n0 s0 : Nat} (N : gx_N cx M s n0 s0) (hn : mm_n M' = mm_n M) (hk : ∀ b, mm_k M' b = mm_k M b) : gx_N cx M' s n0 s0 := by
  obtain ⟨N1, N2, N3, N4, N5, N6⟩ := N
  refine ⟨N1, N2, by rw [hn]; exact N3, by rw [hn]; exact N4, by rw [mm_t_eq (fun a _ => hk a)]; exact N5, by rw [hn, mm_t_eq (fun a _ => hk a)]; exact N6⟩
section GoHeap
variable {t : mt_T} {fr : Nat → Bool} {pc : Nat} {ls : List (Option pv_T)} {st : List pv_T} {M : mm_T} {Q : Option pv_T → mm_T → Prop}
section GoHeapW
variable {p : Program} {l : Launch} {e : Env} {R : Room} {s : State} {m : MethodId} {args : Array Value} {below : List Frame} {meth : Method} {c : Code} {H : Heap} {locs : List Loc} {cells slots : Nat} {Qw : State → Prop} {L : Array Slot} {rest : List Value} {cx : cx_T}
/-- any field is read -/
theorem gq_get (F : gx_F cx t p s m args meth c) (I : hp_I cx M s H locs) {a ix ci k : Nat} (hk : mm_k M a = (ci, cl_n ci)) (hc : ci < 12) (hkN : k < cl_n ci) (hw : Cond.fieldLink (mt_y t).cls ix (cl_T ci k).1 (cl_T ci k).2.1 (cl_T ci k).2.2.1 ∈ tb_) (d : decode (mt_b t) pc = .ok (.getfield ix, 3))
    (kk : W p l e R s m args below meth c H locs cells slots Qw (F0 m (pc + 3) L (hp_v cx M a (cl_y ci k) k :: rest))) : W p l e R s m args below meth c H locs cells slots Qw (F0 m pc L (cx_v cx (pv_r a) :: rest)) := by
  obtain ⟨h5, hlt, cell, e1, e2, e3, e4, e5⟩ := hp_obj I hc hk
  obtain ⟨hx, hb, hml, hr, hlk, hnm, hown, hts, hS⟩ := F
  obtain ⟨hS0, hfc, kC, hkC, hkind⟩ := hS.1.1 ci _ (cl_at hc)
  obtain ⟨cf, kf, fi, f, hi, hsl⟩ := hS0 k hkN
  rw [cx_v_ref (by omega)]
  refine W.getf hx hb hown (hts _ hw) hi (u_facts hfc hkC (u_lays hts (cl_in hc) hkN) hi).1 e1 (by rw [e3]; exact fun h => by cases h) (v := hp_v cx M a (cl_y ci k) k) ?_ rfl rfl d kk
  rw [hsl]
  exact e5 k hkN
/-- any field that isn't final is written -/
theorem gq_put (F : gx_F cx t p s m args meth c) (I : hp_I cx M s H locs) {M' : mm_T} {a ix ci k : Nat} {v : Value} (hk : mm_k M a = (ci, cl_n ci)) (hc : ci < 12) (hkN : k < cl_n ci) (hw : Cond.fieldLink (mt_y t).cls ix (cl_T ci k).1 (cl_T ci k).2.1 (cl_T ci k).2.2.1 ∈ tb_) (hfin : (cl_T ci k).2.2.2 = false ∨ ((mt_y t).name = "<init>" ∧ (cl_T ci k).1 = (mt_y t).cls)) (hn : narrow (cl_y ci k) v = v) (hfit : fits (cl_y ci k) v = true)
    (mn : mm_n M' = mm_n M) (mk : ∀ b, mm_k M' b = mm_k M b) (mo : ∀ b, b ≠ a → (∀ j, mm_i M' b j = mm_i M b j) ∧ (∀ j, mm_l M' b j = mm_l M b j) ∧ ∀ j, mm_r M' b j = mm_r M b j) (mv : ∀ j, j < cl_n ci → hp_v cx M' a (cl_y ci j) j = updV (fun j => hp_v cx M a (cl_y ci j) j) k v j)
    (d : decode (mt_b t) pc = .ok (.putfield ix, 3))
    (kk : ∀ (H' : Heap) (locs' : List Loc), hp_I cx M' s H' locs' → W p l e R s m args below meth c H' locs' cells slots Qw (F0 m (pc + 3) L rest)) : W p l e R s m args below meth c H locs cells slots Qw (F0 m pc L (v :: cx_v cx (pv_r a) :: rest)) := by
  obtain ⟨h5, hlt, cell, e1, e2, e3, e4, e5⟩ := hp_obj I hc hk
  obtain ⟨hx, hb, hml, hr, hlk, hnm, hown, hts, hS⟩ := F
  have hap := va_apart (own := (mt_y t).cls) hts (cl_in hc) (cl_y ci) (cl_ty hc) (cl_nm hc) hS.1 (cl_at hc)
  obtain ⟨hS0, hfc, kC, hkC, hkind⟩ := hS.1.1 ci _ (cl_at hc)
  obtain ⟨cf, kf, fi, f, hi, hsl⟩ := hS0 k hkN
  have hlay := hts _ (cl_in hc _ (u_in_lay hkN))
  have hst := (u_facts hfc hkC (u_lays hts (cl_in hc) hkN) hi).1
  have fin : ∀ (H' : Heap), H'[cx_a cx a]? = some (cell.setSlot (cx.2.2.1.2 ci k) v) → H'.size = H.size → (∀ q, q ≠ cx_a cx a → H'[q]? = H[q]?) → W p l e R s m args below meth c H' (locs ++ [⟨cx_a cx a, cx.2.2.1.2 ci k⟩]) cells slots Qw (F0 m (pc + 3) L rest) := by
    intro H' x1 x2 x3
    refine kk H' _ (hp_put I h5 hlt mn mk mo x2 x3 (Or.inl ?_))
    rw [mk, hk]
    refine ⟨hc, rfl, _, x1, e2, e3, ?_, fun j hj => ?_⟩
    · show (cell.slots.setIfInBounds _ _).size = _
      rw [Array.size_setIfInBounds]
      exact e4
    · rw [mv j hj]
      exact t_set e5 hap hkN v j hj
  rw [cx_v_ref (by omega)]
  rcases hfin with hfin | ⟨hini, hdecl⟩
  · unfold u_lay at hlay
    rw [if_neg (by rw [hfin]; decide)] at hlay
    have h6 := u_store hfc hkC hkind hlay hi (cl_ty hc k hkN) hn hfit
    refine W.putK hx hb (f := f) ⟨hown, hts _ hw, ⟨_, _, _, hi⟩, hst⟩ (by rw [e2]; exact h6) e1 e3 (by rw [hsl]; exact k2_hasslot (e5 k hkN)) rfl rfl d fun H' x1 x2 x3 => ?_
    rw [hsl] at x1 ⊢
    exact fin H' x1 x2 x3
  · by_cases hf : (cl_T ci k).2.2.2 = true
    · unfold u_lay at hlay
      rw [if_pos hf] at hlay
      have hcf : m.cls = cf := by
        obtain ⟨_, _, c', _, _, _, -, -, hf', -, -, -, hown2, -⟩ := Cond.laysFinal_spec hlay
        have e1 : c' = cf := by have := hi.symm.trans hf'; simp at this; exact this.1.symm
        rw [hdecl] at hown2
        rw [← e1]; exact Option.some.inj (hown.symm.trans hown2)
      have h6 := u_fits hfc hkC hkind (Or.inr hlay) hi (cl_ty hc k hkN) hn hfit
      refine W.putFinK hx hb hown (hts _ hw) hi hst hcf (hnm.trans hini) (by rw [e2]; exact h6) e1 e3 (by rw [hsl]; exact k2_hasslot (e5 k hkN)) rfl rfl d fun H' x1 x2 x3 => ?_
      rw [hsl] at x1 ⊢
      exact fin H' x1 x2 x3
    · unfold u_lay at hlay
      rw [if_neg hf] at hlay
      have h6 := u_store hfc hkC hkind hlay hi (cl_ty hc k hkN) hn hfit
      refine W.putK hx hb (f := f) ⟨hown, hts _ hw, ⟨_, _, _, hi⟩, hst⟩ (by rw [e2]; exact h6) e1 e3 (by rw [hsl]; exact k2_hasslot (e5 k hkN)) rfl rfl d fun H' x1 x2 x3 => ?_
      rw [hsl] at x1 ⊢
      exact fin H' x1 x2 x3
end GoHeapW
/-- side conditions of a field: class, size, place, type -/
def fd_ok (ci k N : Nat) (ty : FieldType) : Prop := ci < 12 ∧ N = cl_n ci ∧ k < N ∧ cl_y ci k = ty
theorem go_getI {a ix ci k N : Nat} (hf : fd_ok ci k N .int) (hk : mm_k M a = (ci, N)) (hw : Cond.fieldLink (mt_y t).cls ix (cl_T ci k).1 (cl_T ci k).2.1 (cl_T ci k).2.2.1 ∈ tb_) (d : decode (mt_b t) pc = .ok (.getfield ix, 3)) (kk : go_W t fr (pc + 3) ls (pv_i (mm_i M a k) :: st) M Q) : go_W t fr pc ls (pv_r a :: st) M Q := by
  intro cx l p e s m args below meth c H locs cells slots n0 s0 L F I N0 hl
  obtain ⟨hc, rfl, hkN, hy⟩ := hf
  refine gq_get F I hk hc hkN hw d ?_
  rw [hy]
  exact kk cx l p e s m args below meth c H locs cells slots n0 s0 L F I N0 hl
theorem go_getZ {a ix ci k N : Nat} (hf : fd_ok ci k N .boolean) (hk : mm_k M a = (ci, N)) (hw : Cond.fieldLink (mt_y t).cls ix (cl_T ci k).1 (cl_T ci k).2.1 (cl_T ci k).2.2.1 ∈ tb_) (d : decode (mt_b t) pc = .ok (.getfield ix, 3)) (kk : go_W t fr (pc + 3) ls (pv_i (mm_i M a k) :: st) M Q) : go_W t fr pc ls (pv_r a :: st) M Q := by
  intro cx l p e s m args below meth c H locs cells slots n0 s0 L F I N0 hl
  obtain ⟨hc, rfl, hkN, hy⟩ := hf
  refine gq_get F I hk hc hkN hw d ?_
  rw [hy]
  exact kk cx l p e s m args below meth c H locs cells slots n0 s0 L F I N0 hl
theorem go_getL {a ix ci k N : Nat} (hf : fd_ok ci k N .long) (hk : mm_k M a = (ci, N)) (hw : Cond.fieldLink (mt_y t).cls ix (cl_T ci k).1 (cl_T ci k).2.1 (cl_T ci k).2.2.1 ∈ tb_) (d : decode (mt_b t) pc = .ok (.getfield ix, 3)) (kk : go_W t fr (pc + 3) ls (pv_l (mm_l M a k) :: st) M Q) : go_W t fr pc ls (pv_r a :: st) M Q := by
  intro cx l p e s m args below meth c H locs cells slots n0 s0 L F I N0 hl
  obtain ⟨hc, rfl, hkN, hy⟩ := hf
  refine gq_get F I hk hc hkN hw d ?_
  rw [hy]
  exact kk cx l p e s m args below meth c H locs cells slots n0 s0 L F I N0 hl
def ty_ref (ty : FieldType) : Prop := (∃ C, ty = .object C) ∨ ∃ y, ty = .array y
theorem hp_v_ref {cx : cx_T} {a j : Nat} {ty : FieldType} (h : ty_ref ty) : hp_v cx M a ty j = va_rf (cx_o cx (mm_r M a j)) := by
  rcases h with ⟨C, rfl⟩ | ⟨y, rfl⟩ <;> rfl
def fd_rk (ci k N : Nat) : Prop := ci < 12 ∧ N = cl_n ci ∧ k < N ∧ ty_ref (cl_y ci k)
theorem go_getR {a ix ci k N : Nat} (hf : fd_rk ci k N) (hk : mm_k M a = (ci, N)) (hw : Cond.fieldLink (mt_y t).cls ix (cl_T ci k).1 (cl_T ci k).2.1 (cl_T ci k).2.2.1 ∈ tb_) (d : decode (mt_b t) pc = .ok (.getfield ix, 3)) (kk : go_W t fr (pc + 3) ls (pv_r (mm_r M a k) :: st) M Q) : go_W t fr pc ls (pv_r a :: st) M Q := by
  intro cx l p e s m args below meth c H locs cells slots n0 s0 L F I N0 hl
  obtain ⟨hc, rfl, hkN, hy⟩ := hf
  refine gq_get F I hk hc hkN hw d ?_
  rw [hp_v_ref hy]
  exact kk cx l p e s m args below meth c H locs cells slots n0 s0 L F I N0 hl
/-- may the method write this field: it isn't final, or this is a constructor of its class -/
def fd_w (t : mt_T) (ci k : Nat) : Prop := (cl_T ci k).2.2.2 = false ∨ ((mt_y t).name = "<init>" ∧ (cl_T ci k).1 = (mt_y t).cls)
theorem go_putI {a ix ci k N : Nat} {x : Int32} (hf : fd_ok ci k N .int) (hk : mm_k M a = (ci, N)) (hfr : fr ci = true) (hfw : fd_w t ci k) (hw : Cond.fieldLink (mt_y t).cls ix (cl_T ci k).1 (cl_T ci k).2.1 (cl_T ci k).2.2.1 ∈ tb_) (d : decode (mt_b t) pc = .ok (.putfield ix, 3)) (kk : go_W t fr (pc + 3) ls st (mm_pi M a k x) Q) : go_W t fr pc ls (pv_i x :: pv_r a :: st) M Q := by
  intro cx l p e s m args below meth c H locs cells slots n0 s0 L F I N0 hl
  obtain ⟨hc, rfl, hkN, hy⟩ := hf
  refine gq_put (M' := mm_pi M a k x) F I hk hc hkN hw hfw (by rw [hy]; rfl) (by rw [hy]; rfl) rfl (fun _ => rfl) (fun b hb => ⟨fun j => if_neg (fun q => hb q.1), fun _ => rfl, fun _ => rfl⟩) (fun j hj => ?_) d (fun H' locs' I' => ?_)
  · by_cases hjk : j = k
    · subst hjk
      simp only [updV, if_true]
      rw [hy]
      show Value.int (if a = a ∧ j = j then x else mm_i M a j) = _
      rw [if_pos ⟨rfl, rfl⟩]
      rfl
    · simp only [updV, if_neg hjk]
      have e : mm_i (mm_pi M a k x) a j = mm_i M a j := if_neg (fun q => hjk q.2)
      unfold hp_v
      rw [e]
      rfl
  · exact go_post (mm_S_pi (by rw [hk]; exact hfr) (by rw [hk]; show ci ≠ 15; omega)) (kk cx l p e s m args below meth c H' locs' cells slots n0 s0 L F I' (gx_N_put N0 rfl (fun _ => rfl)) hl)
theorem go_putZ {a ix ci k N : Nat} {x : Int32} (hx : x = 0 ∨ x = 1) (hf : fd_ok ci k N .boolean) (hk : mm_k M a = (ci, N)) (hfr : fr ci = true) (hfw : fd_w t ci k) (hw : Cond.fieldLink (mt_y t).cls ix (cl_T ci k).1 (cl_T ci k).2.1 (cl_T ci k).2.2.1 ∈ tb_) (d : decode (mt_b t) pc = .ok (.putfield ix, 3)) (kk : go_W t fr (pc + 3) ls st (mm_pi M a k x) Q) : go_W t fr pc ls (pv_i x :: pv_r a :: st) M Q := by
  intro cx l p e s m args below meth c H locs cells slots n0 s0 L F I N0 hl
  obtain ⟨hc, rfl, hkN, hy⟩ := hf
  refine gq_put (M' := mm_pi M a k x) F I hk hc hkN hw hfw (by rw [hy]; rcases hx with rfl | rfl <;> rfl) (by rw [hy]; rcases hx with rfl | rfl <;> rfl) rfl (fun _ => rfl) (fun b hb => ⟨fun j => if_neg (fun q => hb q.1), fun _ => rfl, fun _ => rfl⟩) (fun j hj => ?_) d (fun H' locs' I' => ?_)
  · by_cases hjk : j = k
    · subst hjk
      simp only [updV, if_true]
      rw [hy]
      show Value.int (if a = a ∧ j = j then x else mm_i M a j) = _
      rw [if_pos ⟨rfl, rfl⟩]
      rfl
    · simp only [updV, if_neg hjk]
      have e : mm_i (mm_pi M a k x) a j = mm_i M a j := if_neg (fun q => hjk q.2)
      unfold hp_v
      rw [e]
      rfl
  · exact go_post (mm_S_pi (by rw [hk]; exact hfr) (by rw [hk]; show ci ≠ 15; omega)) (kk cx l p e s m args below meth c H' locs' cells slots n0 s0 L F I' (gx_N_put N0 rfl (fun _ => rfl)) hl)
theorem go_putL {a ix ci k N : Nat} {x : Int64} (hf : fd_ok ci k N .long) (hk : mm_k M a = (ci, N)) (hfr : fr ci = true) (hfw : fd_w t ci k) (hw : Cond.fieldLink (mt_y t).cls ix (cl_T ci k).1 (cl_T ci k).2.1 (cl_T ci k).2.2.1 ∈ tb_) (d : decode (mt_b t) pc = .ok (.putfield ix, 3)) (kk : go_W t fr (pc + 3) ls st (mm_pl M a k x) Q) : go_W t fr pc ls (pv_l x :: pv_r a :: st) M Q := by
  intro cx l p e s m args below meth c H locs cells slots n0 s0 L F I N0 hl
  obtain ⟨hc, rfl, hkN, hy⟩ := hf
  refine gq_put (M' := mm_pl M a k x) F I hk hc hkN hw hfw (by rw [hy]; rfl) (by rw [hy]; rfl) rfl (fun _ => rfl) (fun b hb => ⟨fun _ => rfl, fun j => if_neg (fun q => hb q.1), fun _ => rfl⟩) (fun j hj => ?_) d (fun H' locs' I' => ?_)
  · by_cases hjk : j = k
    · subst hjk
      simp only [updV, if_true]
      rw [hy]
      show Value.long (if a = a ∧ j = j then x else mm_l M a j) = _
      rw [if_pos ⟨rfl, rfl⟩]
      rfl
    · simp only [updV, if_neg hjk]
      have e : mm_l (mm_pl M a k x) a j = mm_l M a j := if_neg (fun q => hjk q.2)
      unfold hp_v
      rw [e]
      rfl
  · exact go_post (mm_S_pl (by rw [hk]; exact hfr) (by rw [hk]; show ci ≠ 15; omega)) (kk cx l p e s m args below meth c H' locs' cells slots n0 s0 L F I' (gx_N_put N0 rfl (fun _ => rfl)) hl)
theorem go_putR {a ix ci k N : Nat} {x : Nat} (hf : fd_rk ci k N) (hk : mm_k M a = (ci, N)) (hfr : fr ci = true) (hfw : fd_w t ci k) (hw : Cond.fieldLink (mt_y t).cls ix (cl_T ci k).1 (cl_T ci k).2.1 (cl_T ci k).2.2.1 ∈ tb_) (d : decode (mt_b t) pc = .ok (.putfield ix, 3)) (kk : go_W t fr (pc + 3) ls st (mm_pr M a k x) Q) : go_W t fr pc ls (pv_r x :: pv_r a :: st) M Q := by
  intro cx l p e s m args below meth c H locs cells slots n0 s0 L F I N0 hl
  obtain ⟨hc, rfl, hkN, hy⟩ := hf
  have h1 : narrow (cl_y ci k) (va_rf (cx_o cx x)) = va_rf (cx_o cx x) := by
    rcases hy with ⟨C, e⟩ | ⟨y, e⟩ <;> rw [e] <;> cases cx_o cx x <;> rfl
  have h2 : fits (cl_y ci k) (va_rf (cx_o cx x)) = true := by
    rcases hy with ⟨C, e⟩ | ⟨y, e⟩ <;> rw [e] <;> cases cx_o cx x <;> rfl
  refine gq_put (M' := mm_pr M a k x) F I hk hc hkN hw hfw h1 h2 rfl (fun _ => rfl) (fun b hb => ⟨fun _ => rfl, fun _ => rfl, fun j => if_neg (fun q => hb q.1)⟩) (fun j hj => ?_) d (fun H' locs' I' => ?_)
  · by_cases hjk : j = k
    · subst hjk
      simp only [updV, if_true]
      rw [hp_v_ref hy]
      show va_rf (cx_o cx (if a = a ∧ j = j then x else mm_r M a j)) = _
      rw [if_pos ⟨rfl, rfl⟩]
      rfl
    · simp only [updV, if_neg hjk]
      have e : mm_r (mm_pr M a k x) a j = mm_r M a j := if_neg (fun q => hjk q.2)
      unfold hp_v
      rw [e]
      rfl
  · exact go_post (mm_S_pr (by rw [hk]; exact hfr) (by rw [hk]; show ci ≠ 15; omega)) (kk cx l p e s m args below meth c H' locs' cells slots n0 s0 L F I' (gx_N_put N0 rfl (fun _ => rfl)) hl)
end GoHeap
