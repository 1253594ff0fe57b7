/-! ROWS: an instruction, a row, over the plain memory. -/
section GoQ
variable {p : Program} {l : Launch} {e : Env} {R : Room} {s : State} {m : MethodId} {args : Array Value} {below : List Frame} {meth : Method} {c : Code} {H : Heap} {locs : List Loc} {cells slots : Nat} {Q : State → Prop} {cc : ByteArray} {pc : Nat} {ls : Array Slot} {rest : List Value}
theorem gq_aload_n (hexec : p.tables.exec = Jvm.exec) (hb : c.code = cc) {k : Fin 4} {i : Nat} (x : Option Nat) (hdg : decode cc pc = .ok (.aload_n k, 1)) (hi : (k : Nat) = i) (hl : ls[i]? = some (.val (va_rf x))) (kk : W p l e R s m args below meth c H locs cells slots Q (F0 m (pc + 1) ls (va_rf x :: rest))) : W p l e R s m args below meth c H locs cells slots Q (F0 m pc ls rest) := by
  cases x with
  | none => exact lv_aload_nN hexec hb hdg hi hl kk
  | some a => exact lv_aload_n hexec hb hdg hi hl kk
theorem gq_aload (hexec : p.tables.exec = Jvm.exec) (hb : c.code = cc) {i : Nat} (x : Option Nat) (hdg : decode cc pc = .ok (.aload i, 2)) (hl : ls[i]? = some (.val (va_rf x))) (kk : W p l e R s m args below meth c H locs cells slots Q (F0 m (pc + 2) ls (va_rf x :: rest))) : W p l e R s m args below meth c H locs cells slots Q (F0 m pc ls rest) := by
  cases x with
  | none => exact lv_aloadN hexec hb hdg hl kk
  | some a => exact lv_aload hexec hb hdg hl kk
theorem gq_astore_n (hexec : p.tables.exec = Jvm.exec) (hb : c.code = cc) {k : Fin 4} {i nL : Nat} (x : Option Nat) {lv : List (Nat × Value)} (hdg : decode cc pc = .ok (.astore_n k, 1)) (hi : (k : Nat) = i) (h : lv_has ls nL lv) (hn : i < nL)
    (kk : ∀ ls' : Array Slot, lv_has ls' nL ((i, va_rf x) :: lv.filter (fun q => !(q.1 == i) && !(q.1 + 1 == i && q.2.category == 2))) → W p l e R s m args below meth c H locs cells slots Q (F0 m (pc + 1) ls' rest)) : W p l e R s m args below meth c H locs cells slots Q (F0 m pc ls (va_rf x :: rest)) := by
  cases x with
  | none => exact lv_astore_nN hexec hb hdg hi h hn rfl kk
  | some a => exact lv_astore_n hexec hb hdg hi h hn rfl kk
theorem gq_astore (hexec : p.tables.exec = Jvm.exec) (hb : c.code = cc) {i nL : Nat} (x : Option Nat) {lv : List (Nat × Value)} (hdg : decode cc pc = .ok (.astore i, 2)) (h : lv_has ls nL lv) (hn : i < nL)
    (kk : ∀ ls' : Array Slot, lv_has ls' nL ((i, va_rf x) :: lv.filter (fun q => !(q.1 == i) && !(q.1 + 1 == i && q.2.category == 2))) → W p l e R s m args below meth c H locs cells slots Q (F0 m (pc + 2) ls' rest)) : W p l e R s m args below meth c H locs cells slots Q (F0 m pc ls (va_rf x :: rest)) := by
  cases x with
  | none => exact lv_astoreN hexec hb hdg h hn rfl kk
  | some a => exact lv_astore hexec hb hdg h hn rfl kk
end GoQ
theorem cx_L_put {cx : cx_T} {L L' : Array Slot} {n i : Nat} {ls : List (Option pv_T)} {v : pv_T} (h : cx_L cx L n ls) (hi : i < n) (hv : pv_1 v) (h' : lv_has L' n ((i, cx_v cx v) :: (cx_al cx 0 ls).filter (fun q => !(q.1 == i) && !(q.1 + 1 == i && q.2.category == 2)))) : cx_L cx L' n (ls.set i (some v)) := by
  refine ⟨by rw [List.length_set]; exact h.1, fun j w hw => ?_, h'.1, h'.2.1, fun q hq => ?_⟩
  · rw [List.getElem?_set] at hw
    by_cases hij : i = j
    · rw [if_pos hij] at hw
      split at hw
      · simp at hw; rw [← hw]; exact hv
      · cases hw
    · rw [if_neg hij] at hw
      exact h.2.1 j w hw
  · obtain ⟨j, w, rfl, hw⟩ := cx_al_of hq
    rw [List.getElem?_set] at hw
    by_cases hij : i = j
    · rw [if_pos hij] at hw
      split at hw
      · simp at hw
        subst hw
        subst hij
        have := h'.2.2 (i, cx_v cx v) List.mem_cons_self
        simpa using this
      · cases hw
    · rw [if_neg hij] at hw
      refine h'.2.2 (0 + j, cx_v cx w) (List.mem_cons_of_mem _ (List.mem_filter.mpr ⟨cx_al_in (k := 0) hw, ?_⟩))
      have hc : (cx_v cx w).category = 1 := pv_1_cat (h.2.1 j w hw)
      have hne : ¬ j = i := fun q => hij q.symm
      simp [hc, hne]
theorem pv_1i {x : Int32} : pv_1 (pv_i x) := fun _ h => by cases h
theorem pv_1r {x : Nat} : pv_1 (pv_r x) := fun _ h => by cases h
section GoRows
variable {t : mt_T} {fr : Nat → Bool} {pc : Nat} {ls : List (Option pv_T)} {st : List pv_T} {M : mm_T} {Q : Option pv_T → mm_T → Prop}
theorem go_iconst {n : Int} {v : Int32} (hv : Int32.ofInt n = v) (d : decode (mt_b t) pc = .ok (.iconst n, 1)) (k : go_W t fr (pc + 1) ls (pv_i v :: st) M Q) : go_W t fr pc ls (st) M Q := by
  intro cx l p e s m args below meth c H locs cells slots n0 s0 L F I N hl
  exact lv_iconst F.1 F.2.1 d hv (k cx l p e s m args below meth c H locs cells slots n0 s0 L F I N hl)
theorem go_bipush {n : Int} {v : Int32} (hv : (Int8.ofInt n).toInt32 = v) (d : decode (mt_b t) pc = .ok (.bipush n, 2)) (k : go_W t fr (pc + 2) ls (pv_i v :: st) M Q) : go_W t fr pc ls (st) M Q := by
  intro cx l p e s m args below meth c H locs cells slots n0 s0 L F I N hl
  exact lv_bipush F.1 F.2.1 d hv (k cx l p e s m args below meth c H locs cells slots n0 s0 L F I N hl)
theorem go_sipush {n : Int} {v : Int32} (hv : (Int16.ofInt n).toInt32 = v) (d : decode (mt_b t) pc = .ok (.sipush n, 3)) (k : go_W t fr (pc + 3) ls (pv_i v :: st) M Q) : go_W t fr pc ls (st) M Q := by
  intro cx l p e s m args below meth c H locs cells slots n0 s0 L F I N hl
  exact lv_sipush F.1 F.2.1 d hv (k cx l p e s m args below meth c H locs cells slots n0 s0 L F I N hl)
theorem go_lconst {n : Fin 2} {v : Int64} (hv : Int64.ofNat (n : Nat) = v) (d : decode (mt_b t) pc = .ok (.lconst n, 1)) (k : go_W t fr (pc + 1) ls (pv_l v :: st) M Q) : go_W t fr pc ls (st) M Q := by
  intro cx l p e s m args below meth c H locs cells slots n0 s0 L F I N hl
  exact lv_lconst F.1 F.2.1 d hv (k cx l p e s m args below meth c H locs cells slots n0 s0 L F I N hl)
theorem go_null (d : decode (mt_b t) pc = .ok (.aconst_null, 1)) (k : go_W t fr (pc + 1) ls (pv_r 0 :: st) M Q) : go_W t fr pc ls (st) M Q := by
  intro cx l p e s m args below meth c H locs cells slots n0 s0 L F I N hl
  exact lv_null F.1 F.2.1 d (k cx l p e s m args below meth c H locs cells slots n0 s0 L F I N hl)
theorem go_iadd {x y : Int32} (d : decode (mt_b t) pc = .ok (.iadd, 1)) (k : go_W t fr (pc + 1) ls (pv_i (x + y) :: st) M Q) : go_W t fr pc ls (pv_i y :: pv_i x :: st) M Q := by
  intro cx l p e s m args below meth c H locs cells slots n0 s0 L F I N hl
  exact lv_iadd F.1 F.2.1 d (k cx l p e s m args below meth c H locs cells slots n0 s0 L F I N hl)
theorem go_isub {x y : Int32} (d : decode (mt_b t) pc = .ok (.isub, 1)) (k : go_W t fr (pc + 1) ls (pv_i (x - y) :: st) M Q) : go_W t fr pc ls (pv_i y :: pv_i x :: st) M Q := by
  intro cx l p e s m args below meth c H locs cells slots n0 s0 L F I N hl
  exact lv_isub F.1 F.2.1 d (k cx l p e s m args below meth c H locs cells slots n0 s0 L F I N hl)
theorem go_imul {x y : Int32} (d : decode (mt_b t) pc = .ok (.imul, 1)) (k : go_W t fr (pc + 1) ls (pv_i (x * y) :: st) M Q) : go_W t fr pc ls (pv_i y :: pv_i x :: st) M Q := by
  intro cx l p e s m args below meth c H locs cells slots n0 s0 L F I N hl
  exact lv_imul F.1 F.2.1 d (k cx l p e s m args below meth c H locs cells slots n0 s0 L F I N hl)
theorem go_iand {x y : Int32} (d : decode (mt_b t) pc = .ok (.iand, 1)) (k : go_W t fr (pc + 1) ls (pv_i (x &&& y) :: st) M Q) : go_W t fr pc ls (pv_i y :: pv_i x :: st) M Q := by
  intro cx l p e s m args below meth c H locs cells slots n0 s0 L F I N hl
  exact lv_iand F.1 F.2.1 d (k cx l p e s m args below meth c H locs cells slots n0 s0 L F I N hl)
theorem go_ineg {x : Int32} (d : decode (mt_b t) pc = .ok (.ineg, 1)) (k : go_W t fr (pc + 1) ls (pv_i (-x) :: st) M Q) : go_W t fr pc ls (pv_i x :: st) M Q := by
  intro cx l p e s m args below meth c H locs cells slots n0 s0 L F I N hl
  exact lv_ineg F.1 F.2.1 d (k cx l p e s m args below meth c H locs cells slots n0 s0 L F I N hl)
theorem go_ladd {x y : Int64} (d : decode (mt_b t) pc = .ok (.ladd, 1)) (k : go_W t fr (pc + 1) ls (pv_l (x + y) :: st) M Q) : go_W t fr pc ls (pv_l y :: pv_l x :: st) M Q := by
  intro cx l p e s m args below meth c H locs cells slots n0 s0 L F I N hl
  exact lv_ladd F.1 F.2.1 d (k cx l p e s m args below meth c H locs cells slots n0 s0 L F I N hl)
theorem go_lmul {x y : Int64} (d : decode (mt_b t) pc = .ok (.lmul, 1)) (k : go_W t fr (pc + 1) ls (pv_l (x * y) :: st) M Q) : go_W t fr pc ls (pv_l y :: pv_l x :: st) M Q := by
  intro cx l p e s m args below meth c H locs cells slots n0 s0 L F I N hl
  exact lv_lmul F.1 F.2.1 d (k cx l p e s m args below meth c H locs cells slots n0 s0 L F I N hl)
theorem go_land {x y : Int64} (d : decode (mt_b t) pc = .ok (.land, 1)) (k : go_W t fr (pc + 1) ls (pv_l (x &&& y) :: st) M Q) : go_W t fr pc ls (pv_l y :: pv_l x :: st) M Q := by
  intro cx l p e s m args below meth c H locs cells slots n0 s0 L F I N hl
  exact lv_land F.1 F.2.1 d (k cx l p e s m args below meth c H locs cells slots n0 s0 L F I N hl)
theorem go_i2l {x : Int32} (d : decode (mt_b t) pc = .ok (.i2l, 1)) (k : go_W t fr (pc + 1) ls (pv_l x.toInt64 :: st) M Q) : go_W t fr pc ls (pv_i x :: st) M Q := by
  intro cx l p e s m args below meth c H locs cells slots n0 s0 L F I N hl
  exact lv_i2l F.1 F.2.1 d rfl (k cx l p e s m args below meth c H locs cells slots n0 s0 L F I N hl)
theorem go_l2i {x : Int64} (d : decode (mt_b t) pc = .ok (.l2i, 1)) (k : go_W t fr (pc + 1) ls (pv_i x.toInt32 :: st) M Q) : go_W t fr pc ls (pv_l x :: st) M Q := by
  intro cx l p e s m args below meth c H locs cells slots n0 s0 L F I N hl
  exact lv_l2i F.1 F.2.1 d rfl (k cx l p e s m args below meth c H locs cells slots n0 s0 L F I N hl)
theorem go_dup {v : pv_T} (hv : pv_1 v) (d : decode (mt_b t) pc = .ok (.dup, 1)) (k : go_W t fr (pc + 1) ls (v :: v :: st) M Q) : go_W t fr pc ls (v :: st) M Q := by
  intro cx l p e s m args below meth c H locs cells slots n0 s0 L F I N hl
  exact lv_dup F.1 F.2.1 d (pv_1_cat hv) (k cx l p e s m args below meth c H locs cells slots n0 s0 L F I N hl)
theorem go_pop {v : pv_T} (hv : pv_1 v) (d : decode (mt_b t) pc = .ok (.pop, 1)) (k : go_W t fr (pc + 1) ls (st) M Q) : go_W t fr pc ls (v :: st) M Q := by
  intro cx l p e s m args below meth c H locs cells slots n0 s0 L F I N hl
  exact lv_pop F.1 F.2.1 d (pv_1_cat hv) (k cx l p e s m args below meth c H locs cells slots n0 s0 L F I N hl)
theorem go_dup2 {v w : pv_T} (hv : pv_1 v) (hw : pv_1 w) (d : decode (mt_b t) pc = .ok (.dup2, 1)) (k : go_W t fr (pc + 1) ls (v :: w :: v :: w :: st) M Q) : go_W t fr pc ls (v :: w :: st) M Q := by
  intro cx l p e s m args below meth c H locs cells slots n0 s0 L F I N hl
  exact lv_dup2_11 F.1 F.2.1 d (pv_1_cat hv) (pv_1_cat hw) (k cx l p e s m args below meth c H locs cells slots n0 s0 L F I N hl)
theorem go_iload_n {k : Fin 4} {x : Int32} (d : decode (mt_b t) pc = .ok (.iload_n k, 1)) (h : ls[(k : Nat)]? = some (some (pv_i x))) (k : go_W t fr (pc + 1) ls (pv_i x :: st) M Q) : go_W t fr pc ls st M Q := by
  intro cx l p e s m args below meth c H locs cells slots n0 s0 L F I N hl
  exact lv_iload_n F.1 F.2.1 d rfl (cx_L_at hl h) (k cx l p e s m args below meth c H locs cells slots n0 s0 L F I N hl)
theorem go_aload_n {k : Fin 4} {x : Nat} (d : decode (mt_b t) pc = .ok (.aload_n k, 1)) (h : ls[(k : Nat)]? = some (some (pv_r x))) (k : go_W t fr (pc + 1) ls (pv_r x :: st) M Q) : go_W t fr pc ls st M Q := by
  intro cx l p e s m args below meth c H locs cells slots n0 s0 L F I N hl
  exact gq_aload_n F.1 F.2.1 (cx_o cx x) d rfl (cx_L_at hl h) (k cx l p e s m args below meth c H locs cells slots n0 s0 L F I N hl)
theorem go_iload {i : Nat} {x : Int32} (d : decode (mt_b t) pc = .ok (.iload i, 2)) (h : ls[i]? = some (some (pv_i x))) (k : go_W t fr (pc + 2) ls (pv_i x :: st) M Q) : go_W t fr pc ls st M Q := by
  intro cx l p e s m args below meth c H locs cells slots n0 s0 L F I N hl
  exact lv_iload F.1 F.2.1 d (cx_L_at hl h) (k cx l p e s m args below meth c H locs cells slots n0 s0 L F I N hl)
theorem go_aload {i : Nat} {x : Nat} (d : decode (mt_b t) pc = .ok (.aload i, 2)) (h : ls[i]? = some (some (pv_r x))) (k : go_W t fr (pc + 2) ls (pv_r x :: st) M Q) : go_W t fr pc ls st M Q := by
  intro cx l p e s m args below meth c H locs cells slots n0 s0 L F I N hl
  exact gq_aload F.1 F.2.1 (cx_o cx x) d (cx_L_at hl h) (k cx l p e s m args below meth c H locs cells slots n0 s0 L F I N hl)
theorem go_istore_n {k : Fin 4} {x : Int32} (hn : (k : Nat) < mt_n t) (d : decode (mt_b t) pc = .ok (.istore_n k, 1)) (k : go_W t fr (pc + 1) (ls.set (k : Nat) (some (pv_i x))) st M Q) : go_W t fr pc ls (pv_i x :: st) M Q := by
  intro cx l p e s m args below meth c H locs cells slots n0 s0 L F I N hl
  exact lv_istore_n F.1 F.2.1 d rfl hl.2.2 hn rfl (fun L' h' => k cx l p e s m args below meth c H locs cells slots n0 s0 L' F I N (cx_L_put hl hn pv_1i h'))
theorem go_astore_n {k : Fin 4} {x : Nat} (hn : (k : Nat) < mt_n t) (d : decode (mt_b t) pc = .ok (.astore_n k, 1)) (k : go_W t fr (pc + 1) (ls.set (k : Nat) (some (pv_r x))) st M Q) : go_W t fr pc ls (pv_r x :: st) M Q := by
  intro cx l p e s m args below meth c H locs cells slots n0 s0 L F I N hl
  exact gq_astore_n F.1 F.2.1 (cx_o cx x) d rfl hl.2.2 hn (fun L' h' => k cx l p e s m args below meth c H locs cells slots n0 s0 L' F I N (cx_L_put hl hn pv_1r h'))
theorem go_istore {i : Nat} {x : Int32} (hn : i < mt_n t) (d : decode (mt_b t) pc = .ok (.istore i, 2)) (k : go_W t fr (pc + 2) (ls.set i (some (pv_i x))) st M Q) : go_W t fr pc ls (pv_i x :: st) M Q := by
  intro cx l p e s m args below meth c H locs cells slots n0 s0 L F I N hl
  exact lv_istore F.1 F.2.1 d hl.2.2 hn rfl (fun L' h' => k cx l p e s m args below meth c H locs cells slots n0 s0 L' F I N (cx_L_put hl hn pv_1i h'))
theorem go_astore {i : Nat} {x : Nat} (hn : i < mt_n t) (d : decode (mt_b t) pc = .ok (.astore i, 2)) (k : go_W t fr (pc + 2) (ls.set i (some (pv_r x))) st M Q) : go_W t fr pc ls (pv_r x :: st) M Q := by
  intro cx l p e s m args below meth c H locs cells slots n0 s0 L F I N hl
  exact gq_astore F.1 F.2.1 (cx_o cx x) d hl.2.2 hn (fun L' h' => k cx l p e s m args below meth c H locs cells slots n0 s0 L' F I N (cx_L_put hl hn pv_1r h'))
theorem go_iinc {i : Nat} {n : Int} {x v : Int32} (hn : i < mt_n t) (h : ls[i]? = some (some (pv_i x))) (hv : Int32.ofInt n = v) (d : decode (mt_b t) pc = .ok (.iinc i n, 3)) (k : go_W t fr (pc + 3) (ls.set i (some (pv_i (x + v)))) st M Q) : go_W t fr pc ls st M Q := by
  intro cx l p e s m args below meth c H locs cells slots n0 s0 L F I N hl
  subst hv
  have hm := cx_al_in (cx := cx) (k := 0) h
  rw [Nat.zero_add] at hm
  obtain ⟨j, hj⟩ := List.getElem?_of_mem hm
  exact lv_iinc F.1 F.2.1 d hl.2.2 hj rfl hn rfl (fun L' h' => k cx l p e s m args below meth c H locs cells slots n0 s0 L' F I N (cx_L_put hl hn pv_1i h'))
theorem go_idiv {x y : Int32} (hy : ¬ y = 0) (d : decode (mt_b t) pc = .ok (.idiv, 1)) (k : go_W t fr (pc + 1) ls (pv_i (x / y) :: st) M Q) : go_W t fr pc ls (pv_i y :: pv_i x :: st) M Q := by
  intro cx l p e s m args below meth c H locs cells slots n0 s0 L F I N hl
  exact lv_idiv F.1 F.2.1 d hy (k cx l p e s m args below meth c H locs cells slots n0 s0 L F I N hl)
theorem go_irem {x y : Int32} (hy : ¬ y = 0) (d : decode (mt_b t) pc = .ok (.irem, 1)) (k : go_W t fr (pc + 1) ls (pv_i (x - x / y * y) :: st) M Q) : go_W t fr pc ls (pv_i y :: pv_i x :: st) M Q := by
  intro cx l p e s m args below meth c H locs cells slots n0 s0 L F I N hl
  exact lv_irem F.1 F.2.1 d hy (k cx l p e s m args below meth c H locs cells slots n0 s0 L F I N hl)
theorem go_ldiv {x y : Int64} (hy : ¬ y = 0) (d : decode (mt_b t) pc = .ok (.ldiv, 1)) (k : go_W t fr (pc + 1) ls (pv_l (x / y) :: st) M Q) : go_W t fr pc ls (pv_l y :: pv_l x :: st) M Q := by
  intro cx l p e s m args below meth c H locs cells slots n0 s0 L F I N hl
  exact lv_ldiv F.1 F.2.1 d hy (k cx l p e s m args below meth c H locs cells slots n0 s0 L F I N hl)
theorem go_lrem {x y : Int64} (hy : ¬ y = 0) (d : decode (mt_b t) pc = .ok (.lrem, 1)) (k : go_W t fr (pc + 1) ls (pv_l (x - x / y * y) :: st) M Q) : go_W t fr pc ls (pv_l y :: pv_l x :: st) M Q := by
  intro cx l p e s m args below meth c H locs cells slots n0 s0 L F I N hl
  exact lv_lrem F.1 F.2.1 d hy (k cx l p e s m args below meth c H locs cells slots n0 s0 L F I N hl)
theorem go_if_eq {x : Int32} {off : Int} {tgt : Nat} (d : decode (mt_b t) pc = .ok (.ifCond .eq off, 3)) (ht : (pc : Int) + off = (tgt : Int)) (kt : x = 0 → go_W t fr tgt ls st M Q) (kf : ¬ x = 0 → go_W t fr (pc + 3) ls st M Q) : go_W t fr pc ls (pv_i x :: st) M Q := by
  intro cx l p e s m args below meth c H locs cells slots n0 s0 L F I N hl
  exact lv_if_eq F.1 F.2.1 d ht (fun h => kt h cx l p e s m args below meth c H locs cells slots n0 s0 L F I N hl) (fun h => kf h cx l p e s m args below meth c H locs cells slots n0 s0 L F I N hl)
theorem go_if_ne {x : Int32} {off : Int} {tgt : Nat} (d : decode (mt_b t) pc = .ok (.ifCond .ne off, 3)) (ht : (pc : Int) + off = (tgt : Int)) (kt : ¬ x = 0 → go_W t fr tgt ls st M Q) (kf : x = 0 → go_W t fr (pc + 3) ls st M Q) : go_W t fr pc ls (pv_i x :: st) M Q := by
  intro cx l p e s m args below meth c H locs cells slots n0 s0 L F I N hl
  exact lv_if_ne F.1 F.2.1 d ht (fun h => kt h cx l p e s m args below meth c H locs cells slots n0 s0 L F I N hl) (fun h => kf h cx l p e s m args below meth c H locs cells slots n0 s0 L F I N hl)
theorem go_if_lt {x : Int32} {off : Int} {tgt : Nat} (d : decode (mt_b t) pc = .ok (.ifCond .lt off, 3)) (ht : (pc : Int) + off = (tgt : Int)) (kt : x < 0 → go_W t fr tgt ls st M Q) (kf : ¬ x < 0 → go_W t fr (pc + 3) ls st M Q) : go_W t fr pc ls (pv_i x :: st) M Q := by
  intro cx l p e s m args below meth c H locs cells slots n0 s0 L F I N hl
  exact lv_if_lt F.1 F.2.1 d ht (fun h => kt h cx l p e s m args below meth c H locs cells slots n0 s0 L F I N hl) (fun h => kf h cx l p e s m args below meth c H locs cells slots n0 s0 L F I N hl)
theorem go_if_ge {x : Int32} {off : Int} {tgt : Nat} (d : decode (mt_b t) pc = .ok (.ifCond .ge off, 3)) (ht : (pc : Int) + off = (tgt : Int)) (kt : 0 ≤ x → go_W t fr tgt ls st M Q) (kf : ¬ 0 ≤ x → go_W t fr (pc + 3) ls st M Q) : go_W t fr pc ls (pv_i x :: st) M Q := by
  intro cx l p e s m args below meth c H locs cells slots n0 s0 L F I N hl
  exact lv_if_ge F.1 F.2.1 d ht (fun h => kt h cx l p e s m args below meth c H locs cells slots n0 s0 L F I N hl) (fun h => kf h cx l p e s m args below meth c H locs cells slots n0 s0 L F I N hl)
theorem go_if_gt {x : Int32} {off : Int} {tgt : Nat} (d : decode (mt_b t) pc = .ok (.ifCond .gt off, 3)) (ht : (pc : Int) + off = (tgt : Int)) (kt : 0 < x → go_W t fr tgt ls st M Q) (kf : ¬ 0 < x → go_W t fr (pc + 3) ls st M Q) : go_W t fr pc ls (pv_i x :: st) M Q := by
  intro cx l p e s m args below meth c H locs cells slots n0 s0 L F I N hl
  exact lv_if_gt F.1 F.2.1 d ht (fun h => kt h cx l p e s m args below meth c H locs cells slots n0 s0 L F I N hl) (fun h => kf h cx l p e s m args below meth c H locs cells slots n0 s0 L F I N hl)
theorem go_if_le {x : Int32} {off : Int} {tgt : Nat} (d : decode (mt_b t) pc = .ok (.ifCond .le off, 3)) (ht : (pc : Int) + off = (tgt : Int)) (kt : x ≤ 0 → go_W t fr tgt ls st M Q) (kf : ¬ x ≤ 0 → go_W t fr (pc + 3) ls st M Q) : go_W t fr pc ls (pv_i x :: st) M Q := by
  intro cx l p e s m args below meth c H locs cells slots n0 s0 L F I N hl
  exact lv_if_le F.1 F.2.1 d ht (fun h => kt h cx l p e s m args below meth c H locs cells slots n0 s0 L F I N hl) (fun h => kf h cx l p e s m args below meth c H locs cells slots n0 s0 L F I N hl)
theorem go_icmp_eq {x y : Int32} {off : Int} {tgt : Nat} (d : decode (mt_b t) pc = .ok (.if_icmp .eq off, 3)) (ht : (pc : Int) + off = (tgt : Int)) (kt : x = y → go_W t fr tgt ls st M Q) (kf : ¬ x = y → go_W t fr (pc + 3) ls st M Q) : go_W t fr pc ls (pv_i y :: pv_i x :: st) M Q := by
  intro cx l p e s m args below meth c H locs cells slots n0 s0 L F I N hl
  exact lv_icmp_eq F.1 F.2.1 d ht (fun h => kt h cx l p e s m args below meth c H locs cells slots n0 s0 L F I N hl) (fun h => kf h cx l p e s m args below meth c H locs cells slots n0 s0 L F I N hl)
theorem go_icmp_ne {x y : Int32} {off : Int} {tgt : Nat} (d : decode (mt_b t) pc = .ok (.if_icmp .ne off, 3)) (ht : (pc : Int) + off = (tgt : Int)) (kt : ¬ x = y → go_W t fr tgt ls st M Q) (kf : x = y → go_W t fr (pc + 3) ls st M Q) : go_W t fr pc ls (pv_i y :: pv_i x :: st) M Q := by
  intro cx l p e s m args below meth c H locs cells slots n0 s0 L F I N hl
  exact lv_icmp_ne F.1 F.2.1 d ht (fun h => kt h cx l p e s m args below meth c H locs cells slots n0 s0 L F I N hl) (fun h => kf h cx l p e s m args below meth c H locs cells slots n0 s0 L F I N hl)
theorem go_icmp_lt {x y : Int32} {off : Int} {tgt : Nat} (d : decode (mt_b t) pc = .ok (.if_icmp .lt off, 3)) (ht : (pc : Int) + off = (tgt : Int)) (kt : x < y → go_W t fr tgt ls st M Q) (kf : ¬ x < y → go_W t fr (pc + 3) ls st M Q) : go_W t fr pc ls (pv_i y :: pv_i x :: st) M Q := by
  intro cx l p e s m args below meth c H locs cells slots n0 s0 L F I N hl
  exact lv_icmp_lt F.1 F.2.1 d ht (fun h => kt h cx l p e s m args below meth c H locs cells slots n0 s0 L F I N hl) (fun h => kf h cx l p e s m args below meth c H locs cells slots n0 s0 L F I N hl)
theorem go_icmp_ge {x y : Int32} {off : Int} {tgt : Nat} (d : decode (mt_b t) pc = .ok (.if_icmp .ge off, 3)) (ht : (pc : Int) + off = (tgt : Int)) (kt : y ≤ x → go_W t fr tgt ls st M Q) (kf : ¬ y ≤ x → go_W t fr (pc + 3) ls st M Q) : go_W t fr pc ls (pv_i y :: pv_i x :: st) M Q := by
  intro cx l p e s m args below meth c H locs cells slots n0 s0 L F I N hl
  exact lv_icmp_ge F.1 F.2.1 d ht (fun h => kt h cx l p e s m args below meth c H locs cells slots n0 s0 L F I N hl) (fun h => kf h cx l p e s m args below meth c H locs cells slots n0 s0 L F I N hl)
theorem go_icmp_gt {x y : Int32} {off : Int} {tgt : Nat} (d : decode (mt_b t) pc = .ok (.if_icmp .gt off, 3)) (ht : (pc : Int) + off = (tgt : Int)) (kt : y < x → go_W t fr tgt ls st M Q) (kf : ¬ y < x → go_W t fr (pc + 3) ls st M Q) : go_W t fr pc ls (pv_i y :: pv_i x :: st) M Q := by
  intro cx l p e s m args below meth c H locs cells slots n0 s0 L F I N hl
  exact lv_icmp_gt F.1 F.2.1 d ht (fun h => kt h cx l p e s m args below meth c H locs cells slots n0 s0 L F I N hl) (fun h => kf h cx l p e s m args below meth c H locs cells slots n0 s0 L F I N hl)
theorem go_icmp_le {x y : Int32} {off : Int} {tgt : Nat} (d : decode (mt_b t) pc = .ok (.if_icmp .le off, 3)) (ht : (pc : Int) + off = (tgt : Int)) (kt : x ≤ y → go_W t fr tgt ls st M Q) (kf : ¬ x ≤ y → go_W t fr (pc + 3) ls st M Q) : go_W t fr pc ls (pv_i y :: pv_i x :: st) M Q := by
  intro cx l p e s m args below meth c H locs cells slots n0 s0 L F I N hl
  exact lv_icmp_le F.1 F.2.1 d ht (fun h => kt h cx l p e s m args below meth c H locs cells slots n0 s0 L F I N hl) (fun h => kf h cx l p e s m args below meth c H locs cells slots n0 s0 L F I N hl)
theorem go_goto {off : Int} {tgt : Nat} (d : decode (mt_b t) pc = .ok (.goto off, 3)) (ht : (pc : Int) + off = (tgt : Int)) (k : go_W t fr tgt ls st M Q) : go_W t fr pc ls st M Q := by
  intro cx l p e s m args below meth c H locs cells slots n0 s0 L F I N hl
  exact lv_goto F.1 F.2.1 d ht (k cx l p e s m args below meth c H locs cells slots n0 s0 L F I N hl)
theorem go_ifnull {a : Nat} {off : Int} {tgt : Nat} (d : decode (mt_b t) pc = .ok (.ifnull off, 3)) (ht : (pc : Int) + off = (tgt : Int)) (kt : a = 0 → go_W t fr tgt ls st M Q) (kf : ¬ a = 0 → go_W t fr (pc + 3) ls st M Q) : go_W t fr pc ls (pv_r a :: st) M Q := by
  intro cx l p e s m args below meth c H locs cells slots n0 s0 L F I N hl
  by_cases h : a = 0
  · have := kt h cx l p e s m args below meth c H locs cells slots n0 s0 L F I N hl
    subst h
    exact lv_ifnullN F.1 F.2.1 d ht this
  · rw [List.map_cons, cx_v_ref h]
    exact lv_ifnull F.1 F.2.1 d (kf h cx l p e s m args below meth c H locs cells slots n0 s0 L F I N hl)
theorem go_ifnonnull {a : Nat} {off : Int} {tgt : Nat} (d : decode (mt_b t) pc = .ok (.ifnonnull off, 3)) (ht : (pc : Int) + off = (tgt : Int)) (kt : ¬ a = 0 → go_W t fr tgt ls st M Q) (kf : a = 0 → go_W t fr (pc + 3) ls st M Q) : go_W t fr pc ls (pv_r a :: st) M Q := by
  intro cx l p e s m args below meth c H locs cells slots n0 s0 L F I N hl
  by_cases h : a = 0
  · have := kf h cx l p e s m args below meth c H locs cells slots n0 s0 L F I N hl
    subst h
    exact lv_ifnonnullN F.1 F.2.1 d this
  · rw [List.map_cons, cx_v_ref h]
    exact lv_ifnonnull F.1 F.2.1 d ht (kt h cx l p e s m args below meth c H locs cells slots n0 s0 L F I N hl)
theorem cx_o_inj {cx : cx_T} {a b : Nat} (ha : a = 0 ∨ 5 ≤ a) (hb : b = 0 ∨ 5 ≤ b) : cx_o cx a = cx_o cx b ↔ a = b := by
  refine ⟨fun h => ?_, fun h => by rw [h]⟩
  unfold cx_o at h
  by_cases h1 : a = 0 <;> by_cases h2 : b = 0
  · omega
  · rw [if_pos h1, if_neg h2] at h; cases h
  · rw [if_neg h1, if_pos h2] at h; cases h
  · rw [if_neg h1, if_neg h2] at h
    exact cx_a_inj (by omega) (by omega) (Option.some.inj h)
theorem go_acmp_eq {a b : Nat} {off : Int} {tgt : Nat} (ha : a = 0 ∨ 5 ≤ a) (hb : b = 0 ∨ 5 ≤ b) (d : decode (mt_b t) pc = .ok (.if_acmp .eq off, 3)) (ht : (pc : Int) + off = (tgt : Int)) (kt : a = b → go_W t fr tgt ls st M Q) (kf : ¬ a = b → go_W t fr (pc + 3) ls st M Q) : go_W t fr pc ls (pv_r b :: pv_r a :: st) M Q := by
  intro cx l p e s m args below meth c H locs cells slots n0 s0 L F I N hl
  exact lv_acmp_eq (rx := cx_o cx a) (ry := cx_o cx b) F.1 F.2.1 d ht (fun h => kt ((cx_o_inj ha hb).mp h) cx l p e s m args below meth c H locs cells slots n0 s0 L F I N hl) (fun h => kf (fun q => h ((cx_o_inj ha hb).mpr q)) cx l p e s m args below meth c H locs cells slots n0 s0 L F I N hl)
theorem go_acmp_ne {a b : Nat} {off : Int} {tgt : Nat} (ha : a = 0 ∨ 5 ≤ a) (hb : b = 0 ∨ 5 ≤ b) (d : decode (mt_b t) pc = .ok (.if_acmp .ne off, 3)) (ht : (pc : Int) + off = (tgt : Int)) (kt : ¬ a = b → go_W t fr tgt ls st M Q) (kf : a = b → go_W t fr (pc + 3) ls st M Q) : go_W t fr pc ls (pv_r b :: pv_r a :: st) M Q := by
  intro cx l p e s m args below meth c H locs cells slots n0 s0 L F I N hl
  exact lv_acmp_ne (rx := cx_o cx a) (ry := cx_o cx b) F.1 F.2.1 d ht (fun h => kt (fun q => h ((cx_o_inj ha hb).mpr q)) cx l p e s m args below meth c H locs cells slots n0 s0 L F I N hl) (fun h => kf ((cx_o_inj ha hb).mp h) cx l p e s m args below meth c H locs cells slots n0 s0 L F I N hl)
theorem go_ishl {x y : Int32} (d : decode (mt_b t) pc = .ok (.ishl, 1)) (k : go_W t fr (pc + 1) ls (pv_i (x <<< (y &&& 31)) :: st) M Q) : go_W t fr pc ls (pv_i y :: pv_i x :: st) M Q := by
  intro cx l p e s m args below meth c H locs cells slots n0 s0 L F I N hl
  exact lv_ishl F.1 F.2.1 d (k cx l p e s m args below meth c H locs cells slots n0 s0 L F I N hl)
theorem go_ldc {ix : Nat} {v : Int32} (hw : Cond.constant (mt_y t).cls ix v ∈ tb_) (d : decode (mt_b t) pc = .ok (.ldc ix, 2)) (k : go_W t fr (pc + 2) ls (pv_i v :: st) M Q) : go_W t fr pc ls st M Q := by
  intro cx l p e s m args below meth c H locs cells slots n0 s0 L F I N hl
  exact lv_ldc F.1 F.2.1 F.2.2.2.2.2.2.1 (F.2.2.2.2.2.2.2.1 _ hw) d (k cx l p e s m args below meth c H locs cells slots n0 s0 L F I N hl)
theorem go_ldcw {ix : Nat} {v : Int32} (hw : Cond.constant (mt_y t).cls ix v ∈ tb_) (d : decode (mt_b t) pc = .ok (.ldc_w ix, 3)) (k : go_W t fr (pc + 3) ls (pv_i v :: st) M Q) : go_W t fr pc ls st M Q := by
  intro cx l p e s m args below meth c H locs cells slots n0 s0 L F I N hl
  exact lv_ldcw F.1 F.2.1 F.2.2.2.2.2.2.1 (F.2.2.2.2.2.2.2.1 _ hw) d (k cx l p e s m args below meth c H locs cells slots n0 s0 L F I N hl)
theorem go_ldc2 {ix : Nat} {v : Int64} (hw : Cond.constantLong (mt_y t).cls ix v ∈ tb_) (d : decode (mt_b t) pc = .ok (.ldc2_w ix, 3)) (k : go_W t fr (pc + 3) ls (pv_l v :: st) M Q) : go_W t fr pc ls st M Q := by
  intro cx l p e s m args below meth c H locs cells slots n0 s0 L F I N hl
  exact lv_ldc2 F.1 F.2.1 F.2.2.2.2.2.2.1 (F.2.2.2.2.2.2.2.1 _ hw) d (k cx l p e s m args below meth c H locs cells slots n0 s0 L F I N hl)
theorem go_table {dflt lo hi : Int} {offs : Array Int} {len : Nat} {x : Int32} (d : decode (mt_b t) pc = .ok (.tableswitch dflt lo hi offs, len)) (kin : ∀ (off : Int) (tgt : Nat), ¬ x.toInt < lo → ¬ hi < x.toInt → offs[(x.toInt - lo).toNat]? = some off → (pc : Int) + off = (tgt : Int) → go_W t fr tgt ls st M Q) (hin : ¬ x.toInt < lo → ¬ hi < x.toInt → ∃ (off : Int) (tgt : Nat), offs[(x.toInt - lo).toNat]? = some off ∧ (pc : Int) + off = (tgt : Int)) {tgt : Nat} (ht : (pc : Int) + dflt = (tgt : Int)) (kout : x.toInt < lo ∨ hi < x.toInt → go_W t fr tgt ls st M Q) : go_W t fr pc ls (pv_i x :: st) M Q := by
  intro cx l p e s m args below meth c H locs cells slots n0 s0 L F I N hl
  by_cases h : x.toInt < lo ∨ hi < x.toInt
  · exact lv_tableOut F.1 F.2.1 d h ht (kout h cx l p e s m args below meth c H locs cells slots n0 s0 L F I N hl)
  · have h1 : ¬ x.toInt < lo := fun q => h (Or.inl q)
    have h2 : ¬ hi < x.toInt := fun q => h (Or.inr q)
    obtain ⟨off, tg, h3, h4⟩ := hin h1 h2
    exact lv_tableIn F.1 F.2.1 d h1 h2 h3 h4 (kin off tg h1 h2 h3 h4 cx l p e s m args below meth c H locs cells slots n0 s0 L F I N hl)
theorem go_lookup {dflt : Int} {ps : Array (Int × Int)} {len : Nat} {x : Int32} {off : Int} {tgt : Nat} (d : decode (mt_b t) pc = .ok (.lookupswitch dflt ps, len)) (hp : (ps.toList.zip (ps.toList.drop 1)).all (fun (a, next) => a.1 < next.1) = true) (ho : Op.lookupswitch.offset ps.toList dflt x.toInt = off) (ht : (pc : Int) + off = (tgt : Int)) (k : go_W t fr tgt ls st M Q) : go_W t fr pc ls (pv_i x :: st) M Q := by
  intro cx l p e s m args below meth c H locs cells slots n0 s0 L F I N hl
  exact lv_lookup F.1 F.2.1 d hp ho ht (k cx l p e s m args below meth c H locs cells slots n0 s0 L F I N hl)
end GoRows
