/-! log -/
section Pub15
variable {B M M' : mm_T} {I J E : Nat → Nat → Int32} {m n T W P L : Nat} {ta tm : Nat → Nat} {S : Nat → Nat → Bool}
theorem sm_log (h : ix_ I m n T W P L) (hl : lim_ T W P L) {x1 x2 : Int32} : ∃ v, sm_ I m n T W P L (v, I) (fun M Q => cs_i mt_X10_log [pv_r 5, pv_i x1, pv_i x2] M Q) (fun B J Q => rs_i mt_X11_log [pv_r m, pv_i x1, pv_i x2] B J Q) := by
  obtain ⟨l1, l2, l3, l4⟩ := hl
  obtain ⟨x, hx, ex⟩ := ix_log h
  obtain ⟨c, hc⟩ : ∃ c, c = if 64 ≤ x then 64 else x := ⟨_, rfl⟩
  have c64 : c ≤ 64 ∧ c ≤ x := by rw [hc]; split <;> omega
  have m1 : (if (64 : Int32) ≤ nI x then (64 : Int32) else nI x) = nI c := by
    rw [hc]
    by_cases z : 64 ≤ x
    · rw [if_pos z, if_pos (show (64 : Int32) ≤ nI x from (nI_le z (by omega) : nI 64 ≤ nI x))]; rfl
    · rw [if_neg z, if_neg (show ¬ (64 : Int32) ≤ nI x from (nI_ge (by omega) (by omega) : ¬ nI 64 ≤ nI x))]
  have ix : ∀ i, i < c → nI x - 1 - nI i = nI (x - 1 - i) := fun i hi => by
    have e1 : nI x - 1 = nI (x - 1) := by
      have := sub_nI (a := x - 1) (b := 1)
      rwa [show x - 1 + 1 = x by omega] at this
    have e2 := sub_nI (a := x - 1 - i) (b := i)
    rw [e1, ← e2, show x - 1 - i + i = x - 1 by omega]
  refine qu_ (v := if (0 ≤ x1 ∧ x1 ≤ nI c - 1) ∧ (0 ≤ x2 ∧ x2 ≤ 5) then I (m + 6) (6 * ((x - 1 - x1.toNatClampNeg) % 64) + x2.toNatClampNeg) else -2) h (fun M ta tm Q hr K => ?_) (fun S E B Q hS RK hJ K => ?_)
  · obtain ⟨d1, d2, d3, -⟩ := hr.1.1.2.2.2.2.1
    obtain ⟨D1, D2⟩ := hr.2.2.2.1
    refine wc_X10_log_0 (re_m5 hr) ?_
    rw [hr.1.1.1.2.2.2.2.2.2.2.2.2.1]
    refine ⟨d1, wc_X1_read_0 d1 ?_⟩
    have D1a : mm_i M 96 1 = nI (x % 64) := by rw [D1.1, ex]; exact dN_n (by omega)
    have D1b : mm_i M 96 2 = nI c := by rw [D1.2, ex, hc]; exact dK_n (by omega)
    rw [D1a, D1b, d2]
    refine ⟨fun q => by rw [if_neg (fun y => absurd q (Int32.not_lt.mpr y.1.1))] at K; exact K, fun q1 => ⟨fun q => ?_, fun q2 => ⟨fun q => by rw [if_neg (fun y => absurd q (Int32.not_lt.mpr y.2.1))] at K; exact K, fun q3 => ⟨fun q4 => ?_, fun q4 => ?_⟩⟩⟩⟩
    · rw [if_neg (fun y => ?_)] at K
      · exact K
      · obtain ⟨i, hi, rfl⟩ := (i32_tk (n := c) (by omega)).mp y.1
        exact absurd q (nI_ge hi (by omega))
    · obtain ⟨i, hi, rfl⟩ := nI_of q1
      obtain ⟨f, hf, rfl⟩ := nI_of q3
      have hic : i < c := by
        rcases Nat.lt_or_ge i c with z | z
        · exact z
        · exact absurd (nI_le z hi) q2
      have hf6 : f < 6 := (nI_ltI (b := 6) hf (by decide)).mp q4
      rw [if_pos ⟨(i32_tk (n := c) (by omega)).mpr ⟨i, hic, rfl⟩, in_5 hf6⟩, nI_clamp (by omega), nI_clamp (by omega)] at K
      have hb64 : x % 64 < 64 := Nat.mod_lt _ (by omega)
      have i64 : i < 64 := by omega
      have en : ∀ r, r < 64 → (nI r * (6 : Int32)) + nI f = nI (6 * r + f) := fun r _ => by
        rw [show (6 : Int32) = nI 6 from rfl, pk_mul, nI_add, Nat.mul_comm]
      by_cases zz : i < x % 64
      · have el : nI (x % 64) - (1 : Int32) - nI i = nI (x % 64 - 1 - i) := by
          have e1 : nI (x % 64) - 1 = nI (x % 64 - 1) := by
            have := sub_nI (a := x % 64 - 1) (b := 1)
            rwa [show x % 64 - 1 + 1 = x % 64 by omega] at this
          have e2 := sub_nI (a := x % 64 - 1 - i) (b := i)
          rw [e1, ← e2, show x % 64 - 1 - i + i = x % 64 - 1 by omega]
        rw [el]
        refine ⟨fun _ => ⟨384, d3, 6 * (x % 64 - 1 - i) + f, ⟨en _ (by omega), by omega⟩, ?_⟩, fun q => absurd (show nI 0 ≤ nI (x % 64 - 1 - i) from nI_le (Nat.zero_le _) (by omega)) q⟩
        rw [D2 _ (by omega), show x % 64 - 1 - i = (x - 1 - i) % 64 by omega]
        exact K
      · have eg : nI (x % 64) - (1 : Int32) - nI i + (64 : Int32) = nI (x % 64 + 63 - i) := by
          have e2 := sub_nI (a := x % 64 + 63 - i) (b := i)
          rw [← e2, show x % 64 + 63 - i + i = x % 64 + 63 by omega, ← nI_add (x % 64) 63]
          show nI (x % 64) - (1 : Int32) - nI i + (64 : Int32) = nI (x % 64) + (63 : Int32) - nI i
          grind
        have eneg : ¬ 0 ≤ nI (x % 64) - (1 : Int32) - nI i := fun q => by
          obtain ⟨r, hr, er⟩ := nI_of (Int32.not_lt.mpr q)
          have e3 : nI (r + 1 + i) = nI (x % 64) := by
            rw [← nI_add (r + 1) i, ← nI_1, ← er]
            grind
          have e4 : (BitVec.ofNat 32 (r + 1 + i)).toNat = (BitVec.ofNat 32 (x % 64)).toNat := congrArg (fun z : Int32 => z.toBitVec.toNat) e3
          rw [BitVec.toNat_ofNat, BitVec.toNat_ofNat] at e4
          omega
        refine ⟨fun q => absurd q eneg, fun _ => ⟨384, d3, 6 * (x % 64 + 63 - i) + f, ⟨by rw [eg]; exact en _ (by omega), by omega⟩, ?_⟩⟩
        rw [D2 _ (by omega), show x % 64 + 63 - i = (x - 1 - i) % 64 by omega]
        exact K
    · rw [if_neg (fun y => q4 (Int32.lt_of_le_of_lt y.2.2 (by decide)))] at K
      exact K
  · refine wq_X11_log_0 RK ?_
    rw [show pt_ S E I m 6 = nI x from (uf_at hS (by omega) (by omega)).trans ex, m1]
    refine ⟨fun c1 => ⟨fun c2 => ?_, fun c2 => by rw [if_neg (fun y => c2 y.2)] at K; exact K⟩, fun c1 => by rw [if_neg (fun y => c1 y.1)] at K; exact K⟩
    rw [if_pos ⟨c1, c2⟩] at K
    obtain ⟨i, hi, rfl⟩ := (i32_tk (n := c) (by omega)).mp c1
    obtain ⟨f, hf, rfl⟩ := i32_in (N := 5) (by decide) c2
    rw [nI_clamp (by omega), nI_clamp (by omega)] at K
    have hb64 : (x - 1 - i) % 64 < 64 := Nat.mod_lt _ (by omega)
    refine ⟨6 * ((x - 1 - i) % 64) + f, ⟨?_, by omega⟩, ?_⟩
    · rw [ix i hi, show (64 : Int32) = nI 64 from rfl, pk_rem (by omega) (by omega) (by omega), show (6 : Int32) = nI 6 from rfl, pk_mul, nI_add]
    · rw [uf_at hS (by omega) (by omega)]
      exact K
end Pub15
