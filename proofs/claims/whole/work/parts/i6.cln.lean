/-! the first rules are read by a nest mate, and cloned -/
section Cln
variable {t : mt_T} {fr : Nat → Bool} {pc : Nat} {ls : List (Option pv_T)} {st : List pv_T} {M : mm_T} {Q : Option pv_T → mm_T → Prop}
theorem go_gets_FIRST (ht : (mt_y t).cls = RX0) (d : decode (mt_b t) pc = .ok (.getstatic pn_F, 3)) (kk : go_W t fr (pc + 3) ls (pv_r 2 :: st) M Q) : go_W t fr pc ls st M Q := by
  intro cx l p e s m args below meth c H locs cells slots n0 s0 L F I N hl
  have k := kk cx l p e s m args below meth c H locs cells slots n0 s0 L F I N hl
  rw [List.map_cons, gx_st (by decide) (by decide)] at k
  have hS := F.2.2.2.2.2.2.2.2
  have hown := F.2.2.2.2.2.2.1
  rw [ht] at hown
  exact va_getsN F.1 F.2.1 hS.2.2.2.1 I.2.1 hown (va_tabs rfl rfl hS.2.2.2.2.2.2.1) (fun x hx => hx) d k
end Cln
