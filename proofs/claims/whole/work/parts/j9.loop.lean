/-! the law's loop, by program (wip/whole/genloop.py) -/
section LLoop
variable {M : mm_T} {N k : Nat} {nm : String} {Q : Option pv_T → mm_T → Prop}
theorem lh_up (h : lh_ M N k) : lh_ M N (k + 1) := by
  obtain ⟨h1, n, ta, tm, h2, h3, h4⟩ := h
  exact ⟨h1, n, ta, tm, h2, ix_up h3 (by omega) (by omega) (by omega) (by omega), xi_up h4 (by omega)⟩
theorem ll_go (hN : N ≤ 3072) (hk : 6 * k ≤ 4000) (hc : ¬ nI N - 6 < nI (6 * k)) : 6 * k + 6 ≤ N := by
  by_cases q : 6 * k + 6 ≤ N
  · exact q
  · refine absurd ?_ hc
    by_cases q6 : 6 ≤ N
    · obtain ⟨d, rfl⟩ : ∃ d, N = d + 6 := ⟨N - 6, by omega⟩
      have e : nI (d + 6) - 6 = nI d := by
        rw [← nI_add, show nI 6 = (6 : Int32) from rfl]
        grind
      rw [e]
      exact Int32.not_le.mp (nI_ge (by omega) (by omega))
    · have h0 : ¬ nI (6 * k) < 0 := nI_pos (by omega)
      have hz : ∀ y : Int32, y < 0 → y < nI (6 * k) := fun y hy => Int32.lt_of_lt_of_le hy (Int32.not_lt.mp h0)
      have : N = 0 ∨ N = 1 ∨ N = 2 ∨ N = 3 ∨ N = 4 ∨ N = 5 := by omega
      rcases this with rfl | rfl | rfl | rfl | rfl | rfl <;> exact hz _ (by decide)
theorem ll_in {x : Int32} (h : ¬ (0 ≤ x ∧ x ≤ 51)) : x.toInt < 0 ∨ 51 < x.toInt := by
  by_cases q : x.toInt < 0
  · exact Or.inl q
  · refine Or.inr (Int.not_le.mp fun z => h ⟨?_, ?_⟩)
    · rw [Int32.le_iff_toInt_le]; exact Int.not_lt.mp q
    · rw [Int32.le_iff_toInt_le]; exact z
theorem ll_nx (h : lh_ M N (k + 1)) (ih : ∀ M, lh_ M N (k + 1) → go_W (mt_Ln nm) fr_A 18 (l4_ (6 * (k + 1))) [] M Q) : go_W (mt_Ln nm) fr_A 1803 (l4_ (6 * k)) [] M Q := by
  refine go_iincN (n := 6 * k) (k := 6) rfl (Nat.le_of_ble_eq_true rfl) rfl rfl dL_law_1803 ?_
  refine go_goto (tgt := 18) dL_law_1806 (by decide) ?_
  exact ih M h
theorem lw_loop (hN : N ≤ 3072) (hQ : ∀ M, Q (some (pv_i 1)) M) : ∀ (j k : Nat) (M : mm_T), N + 6 ≤ 6 * (k + j) → 6 * k ≤ 4000 → lh_ M N k → go_W (mt_Ln nm) fr_A 18 (l4_ (6 * k)) [] M Q := by
  intro j
  induction j with
  | zero =>
    intro k M hj h4 h
    refine go_iload_n dL_law_18 rfl ?_
    refine go_aload_n dL_law_19 rfl ?_
    refine go_xlen h.1.1 dL_law_20 ?_
    refine go_bipush (v := 6) rfl dL_law_21 ?_
    refine go_isub dL_law_23 ?_
    refine go_icmp_gt (tgt := 1809) dL_law_24 (by decide) (fun _ => ?_) (fun hc => ?_)
    · refine go_iconst (v := 1) rfl dL_law_1809 ?_
      exact go_iret rfl rfl dL_law_1810 (hQ M)
    · have := ll_go hN h4 hc
      omega
  | succ j ih =>
    intro k M hj h4 h
    refine go_iload_n dL_law_18 rfl ?_
    refine go_aload_n dL_law_19 rfl ?_
    refine go_xlen h.1.1 dL_law_20 ?_
    refine go_bipush (v := 6) rfl dL_law_21 ?_
    refine go_isub dL_law_23 ?_
    refine go_icmp_gt (tgt := 1809) dL_law_24 (by decide) (fun _ => ?_) (fun hc => ?_)
    · refine go_iconst (v := 1) rfl dL_law_1809 ?_
      exact go_iret rfl rfl dL_law_1810 (hQ M)
    · have hi := ll_go hN h4 hc
      have hk : k < 512 := by omega
      have kk : ∀ M2, lh_ M2 N (k + 1) → go_W (mt_Ln nm) fr_A 1803 (l4_ (6 * k)) [] M2 Q := fun M2 h2 => ll_nx h2 (fun M3 h3 => ih (k + 1) M3 (by omega) (by omega) h3)
      refine go_aload_n dL_law_27 rfl ?_
      refine go_iload_n dL_law_28 rfl ?_
      refine go_xaldN (j := 6 * k) h.1.1 (by omega) rfl (by omega) dL_law_29 ?_
      refine go_bipush (v := 63) rfl dL_law_30 ?_
      refine go_iand dL_law_32 ?_
      generalize mm_i M 1 (6 * k) &&& 63 = x
      by_cases hx : 0 ≤ x ∧ x ≤ 51
      · obtain ⟨n, hn, rfl⟩ := i32_in (N := 51) rfl hx
        have : n = 0 ∨ n = 1 ∨ n = 2 ∨ n = 3 ∨ n = 4 ∨ n = 5 ∨ n = 6 ∨ n = 7 ∨ n = 8 ∨ n = 9 ∨ n = 10 ∨ n = 11 ∨ n = 12 ∨ n = 13 ∨ n = 14 ∨ n = 15 ∨ n = 16 ∨ n = 17 ∨ n = 18 ∨ n = 19 ∨ n = 20 ∨ n = 21 ∨ n = 22 ∨ n = 23 ∨ n = 24 ∨ n = 25 ∨ n = 26 ∨ n = 27 ∨ n = 28 ∨ n = 29 ∨ n = 30 ∨ n = 31 ∨ n = 32 ∨ n = 33 ∨ n = 34 ∨ n = 35 ∨ n = 36 ∨ n = 37 ∨ n = 38 ∨ n = 39 ∨ n = 40 ∨ n = 41 ∨ n = 42 ∨ n = 43 ∨ n = 44 ∨ n = 45 ∨ n = 46 ∨ n = 47 ∨ n = 48 ∨ n = 49 ∨ n = 50 ∨ n = 51 := by omega
        rcases this with rfl | rfl | rfl | rfl | rfl | rfl | rfl | rfl | rfl | rfl | rfl | rfl | rfl | rfl | rfl | rfl | rfl | rfl | rfl | rfl | rfl | rfl | rfl | rfl | rfl | rfl | rfl | rfl | rfl | rfl | rfl | rfl | rfl | rfl | rfl | rfl | rfl | rfl | rfl | rfl | rfl | rfl | rfl | rfl | rfl | rfl | rfl | rfl | rfl | rfl | rfl | rfl
        · exact go_tabIn (v := nI 0) (tgt := 256) rfl (by decide) (by decide) rfl (by decide) dL_law_33 (lk_put h hk hN hi kk)
        · exact go_tabIn (v := nI 1) (tgt := 319) rfl (by decide) (by decide) rfl (by decide) dL_law_33 (lk_take h hk hN hi kk)
        · exact go_tabIn (v := nI 2) (tgt := 342) rfl (by decide) (by decide) rfl (by decide) dL_law_33 (lk_done h hk hN hi kk)
        · exact go_tabIn (v := nI 3) (tgt := 375) rfl (by decide) (by decide) rfl (by decide) dL_law_33 (lk_fail h hk hN hi kk)
        · exact go_tabIn (v := nI 4) (tgt := 418) rfl (by decide) (by decide) rfl (by decide) dL_law_33 (lk_beat h hk hN hi kk)
        · exact go_tabIn (v := nI 5) (tgt := 451) rfl (by decide) (by decide) rfl (by decide) dL_law_33 (lk_back h hk hN hi kk)
        · exact go_tabIn (v := nI 6) (tgt := 484) rfl (by decide) (by decide) rfl (by decide) dL_law_33 (lk_hand h hk hN hi kk)
        · exact go_tabIn (v := nI 7) (tgt := 527) rfl (by decide) (by decide) rfl (by decide) dL_law_33 (lk_every h hk hN hi kk)
        · exact go_tabIn (v := nI 8) (tgt := 590) rfl (by decide) (by decide) rfl (by decide) dL_law_33 (lk_stop h hk hN hi kk)
        · exact go_tabIn (v := nI 9) (tgt := 613) rfl (by decide) (by decide) rfl (by decide) dL_law_33 (lk_tick h hk hN hi kk)
        · exact go_tabIn (v := nI 10) (tgt := 636) rfl (by decide) (by decide) rfl (by decide) dL_law_33 (lk_drain h hk hN hi kk)
        · exact go_tabIn (v := nI 11) (tgt := 659) rfl (by decide) (by decide) rfl (by decide) dL_law_33 (lk_open h hk hN hi kk)
        · exact go_tabIn (v := nI 12) (tgt := 682) rfl (by decide) (by decide) rfl (by decide) dL_law_33 (lk_cancel h hk hN hi kk)
        · exact go_tabIn (v := nI 13) (tgt := 705) rfl (by decide) (by decide) rfl (by decide) dL_law_33 (lk_move h hk hN hi kk)
        · exact go_tabIn (v := nI 14) (tgt := 738) rfl (by decide) (by decide) rfl (by decide) dL_law_33 (lk_raise h hk hN hi kk)
        · exact go_tabIn (v := nI 15) (tgt := 772) rfl (by decide) (by decide) rfl (by decide) dL_law_33 (lk_again h hk hN hi kk)
        · exact go_tabIn (v := nI 16) (tgt := 795) rfl (by decide) (by decide) rfl (by decide) dL_law_33 (lk_discard h hk hN hi kk)
        · exact go_tabIn (v := nI 17) (tgt := 818) rfl (by decide) (by decide) rfl (by decide) dL_law_33 (lk_arrange h hk hN hi kk)
        · exact go_tabIn (v := nI 18) (tgt := 861) rfl (by decide) (by decide) rfl (by decide) dL_law_33 (lk_rule h hk hN hi kk)
        · exact go_tabIn (v := nI 19) (tgt := 894) rfl (by decide) (by decide) rfl (by decide) dL_law_33 (lk_pardon h hk hN hi kk)
        · exact go_tabIn (v := nI 20) (tgt := 917) rfl (by decide) (by decide) rfl (by decide) dL_law_33 (lk_steps h hk hN hi kk)
        · exact go_tabIn (v := nI 21) (tgt := 950) rfl (by decide) (by decide) rfl (by decide) dL_law_33 (lk_store h hk hN hi kk)
        · exact go_tabIn (v := nI 22) (tgt := 973) rfl (by decide) (by decide) rfl (by decide) dL_law_33 (lk_lane h hk hN hi kk)
        · exact go_tabIn (v := nI 23) (tgt := 1006) rfl (by decide) (by decide) rfl (by decide) dL_law_33 (lk_task h hk hN hi kk)
        · exact go_tabIn (v := nI 24) (tgt := 1039) rfl (by decide) (by decide) rfl (by decide) dL_law_33 (lk_rank h hk hN hi kk)
        · exact go_tabIn (v := nI 25) (tgt := 1062) rfl (by decide) (by decide) rfl (by decide) dL_law_33 (lk_cause h hk hN hi kk)
        · exact go_tabIn (v := nI 26) (tgt := 1095) rfl (by decide) (by decide) rfl (by decide) dL_law_33 (lk_worker h hk hN hi kk)
        · exact go_tabIn (v := nI 27) (tgt := 1128) rfl (by decide) (by decide) rfl (by decide) dL_law_33 (lk_timer h hk hN hi kk)
        · exact go_tabIn (v := nI 28) (tgt := 1161) rfl (by decide) (by decide) rfl (by decide) dL_law_33 (lk_waiting h hk hN hi kk)
        · exact go_tabIn (v := nI 29) (tgt := 1194) rfl (by decide) (by decide) rfl (by decide) dL_law_33 (lk_keyed h hk hN hi kk)
        · exact go_tabIn (v := nI 30) (tgt := 1217) rfl (by decide) (by decide) rfl (by decide) dL_law_33 (lk_resting h hk hN hi kk)
        · exact go_tabIn (v := nI 31) (tgt := 1240) rfl (by decide) (by decide) rfl (by decide) dL_law_33 (lk_aside h hk hN hi kk)
        · exact go_tabIn (v := nI 32) (tgt := 1263) rfl (by decide) (by decide) rfl (by decide) dL_law_33 (lk_ending h hk hN hi kk)
        · exact go_tabIn (v := nI 33) (tgt := 1286) rfl (by decide) (by decide) rfl (by decide) dL_law_33 (lk_strikes h hk hN hi kk)
        · exact go_tabIn (v := nI 34) (tgt := 1309) rfl (by decide) (by decide) rfl (by decide) dL_law_33 (lk_banned h hk hN hi kk)
        · exact go_tabIn (v := nI 35) (tgt := 1332) rfl (by decide) (by decide) rfl (by decide) dL_law_33 (lk_waits h hk hN hi kk)
        · exact go_tabIn (v := nI 36) (tgt := 1365) rfl (by decide) (by decide) rfl (by decide) dL_law_33 (lk_share h hk hN hi kk)
        · exact go_tabIn (v := nI 37) (tgt := 1398) rfl (by decide) (by decide) rfl (by decide) dL_law_33 (lk_path h hk hN hi kk)
        · exact go_tabIn (v := nI 38) (tgt := 1431) rfl (by decide) (by decide) rfl (by decide) dL_law_33 (lk_ahead h hk hN hi kk)
        · exact go_tabIn (v := nI 39) (tgt := 1454) rfl (by decide) (by decide) rfl (by decide) dL_law_33 (lk_turnOf h hk hN hi kk)
        · exact go_tabIn (v := nI 40) (tgt := 1477) rfl (by decide) (by decide) rfl (by decide) dL_law_33 (lk_bestLane h hk hN hi kk)
        · exact go_tabIn (v := nI 41) (tgt := 1510) rfl (by decide) (by decide) rfl (by decide) dL_law_33 (lk_chain h hk hN hi kk)
        · exact go_tabIn (v := nI 42) (tgt := 1543) rfl (by decide) (by decide) rfl (by decide) dL_law_33 (lk_lapse h hk hN hi kk)
        · exact go_tabIn (v := nI 43) (tgt := 1576) rfl (by decide) (by decide) rfl (by decide) dL_law_33 (lk_safe h hk hN hi kk)
        · exact go_tabIn (v := nI 44) (tgt := 1599) rfl (by decide) (by decide) rfl (by decide) dL_law_33 (lk_finish h hk hN hi kk)
        · exact go_tabIn (v := nI 45) (tgt := 1632) rfl (by decide) (by decide) rfl (by decide) dL_law_33 (lk_empties h hk hN hi kk)
        · exact go_tabIn (v := nI 46) (tgt := 1665) rfl (by decide) (by decide) rfl (by decide) dL_law_33 (lk_enough h hk hN hi kk)
        · exact go_tabIn (v := nI 47) (tgt := 1688) rfl (by decide) (by decide) rfl (by decide) dL_law_33 (lk_hangs h hk hN hi kk)
        · exact go_tabIn (v := nI 48) (tgt := 1711) rfl (by decide) (by decide) rfl (by decide) dL_law_33 (lk_spread h hk hN hi kk)
        · exact go_tabIn (v := nI 49) (tgt := 1734) rfl (by decide) (by decide) rfl (by decide) dL_law_33 (lk_blamed h hk hN hi kk)
        · exact go_tabIn (v := nI 50) (tgt := 1757) rfl (by decide) (by decide) rfl (by decide) dL_law_33 (lk_worst h hk hN hi kk)
        · exact go_tabIn (v := nI 51) (tgt := 1770) rfl (by decide) (by decide) rfl (by decide) dL_law_33 (lk_log h hk hN hi kk)
      · exact go_tabOut (tgt := 1803) (ll_in hx) (by decide) dL_law_33 (kk M (lh_up h))
end LLoop
