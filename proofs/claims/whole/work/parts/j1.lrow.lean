/-! rows for the law -/
/-- the law, under any name -/
def mt_Ln (nm : String) : mt_T := (⟨RL, nm, "([I)Z"⟩, code, 4, some .boolean, 12, 464)
def fr_A : Nat → Bool := fun _ => true
section LRow0
variable {p : Program} {l : Launch} {e : Env} {R : Room} {s : State} {m : MethodId} {args : Array Value} {below : List Frame} {meth : Method} {c : Code} {H : Heap} {locs : List Loc} {cells slots : Nat} {Q : State → Prop} {cc : ByteArray} {pc : Nat} {ls : Array Slot} {rest : List Value}
theorem gq_lcmp (hexec : p.tables.exec = Jvm.exec) (hb : c.code = cc) {x : Int64} (hdg : decode cc pc = .ok (.lcmp, 1)) (k : W p l e R s m args below meth c H locs cells slots Q (F0 m (pc + 1) ls (.int 0 :: rest))) : W p l e R s m args below meth c H locs cells slots Q (F0 m pc ls (.long x :: .long x :: rest)) := by
  intro T hT X
  obtain ⟨t, a, b⟩ := k T hT X
  refine ⟨t, ?_, b⟩
  jvm_step X.here [X.here.top, hexec, hb, hdg]
  exact a
end LRow0
section LRow
variable {t : mt_T} {fr : Nat → Bool} {pc : Nat} {ls : List (Option pv_T)} {st : List pv_T} {M : mm_T} {Q : Option pv_T → mm_T → Prop}
theorem go_lcmpE {x : Int64} (d : decode (mt_b t) pc = .ok (.lcmp, 1)) (k : go_W t fr (pc + 1) ls (pv_i 0 :: st) M Q) : go_W t fr pc ls (pv_l x :: pv_l x :: st) M Q := by
  intro cx l p e s m args below meth c H locs cells slots n0 s0 L F I N hl
  exact gq_lcmp F.1 F.2.1 d (k cx l p e s m args below meth c H locs cells slots n0 s0 L F I N hl)
/-- the law's locals -/
def l4_ (i : Nat) : List (Option pv_T) := [some (pv_r 1), some (pv_r 5), some (pv_r 99), some (pv_i (nI i))]
/-- script[i + j] -/
theorem go_scr {N i j : Nat} {z : Int} (hk : mm_k M 1 = (15, N)) (hN : N ≤ 3072) (hz : Int32.ofInt z = nI j) (hj : i + j < N) (d0 : decode (mt_b t) pc = .ok (.aload_n 0, 1)) (d1 : decode (mt_b t) (pc + 1) = .ok (.iload_n 3, 1)) (d2 : decode (mt_b t) (pc + 1 + 1) = .ok (.iconst z, 1)) (d3 : decode (mt_b t) (pc + 1 + 1 + 1) = .ok (.iadd, 1)) (d4 : decode (mt_b t) (pc + 1 + 1 + 1 + 1) = .ok (.iaload, 1)) (kk : go_W t fr (pc + 1 + 1 + 1 + 1 + 1) (l4_ i) (pv_i (mm_i M 1 (i + j)) :: st) M Q) : go_W t fr pc (l4_ i) st M Q := by
  refine go_aload_n d0 rfl ?_
  refine go_iload_n d1 rfl ?_
  refine go_iconst hz d2 ?_
  refine go_iadd d3 ?_
  exact go_xaldN hk (by omega) (nI_ae rfl rfl) hj d4 kk
theorem sc_S {fr : Nat → Bool} {M M1 : mm_T} {N : Nat} (hk : mm_k M 1 = (15, N)) (hS : mm_S fr M M1) : mm_k M1 1 = (15, N) ∧ ∀ j, mm_i M1 1 j = mm_i M 1 j := by
  have hlt : 1 < mm_n M := mm_k_lt (by rw [hk]; intro q; simp at q)
  exact ⟨(hS.2.1 1 hlt).trans hk, (hS.2.2 1 hlt (Or.inr (by rw [hk]))).1⟩
end LRow
