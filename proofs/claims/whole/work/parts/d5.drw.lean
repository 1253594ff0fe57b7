/-! draws -/
section Drw
variable {B M M' : mm_T} {I J E : Nat → Nat → Int32} {m n T W P L : Nat} {ta tm : Nat → Nat} {S : Nat → Nat → Bool}
def dr_n (k : Nat) : Nat := (1103515245 * k + 12345) % 2147483648
theorem dr_lt {k : Nat} : dr_n k < 2147483648 := Nat.mod_lt _ (by decide)
theorem ln_mask {a : Nat} (h : a < 2 ^ 64) : lN a &&& (2147483647 : Int64) = lN (a % 2147483648) := by
  apply Int64.toBitVec_inj.mp
  rw [Int64.toBitVec_and]
  apply BitVec.eq_of_toNat_eq
  show (BitVec.ofNat 64 a &&& BitVec.ofNat 64 2147483647).toNat = (BitVec.ofNat 64 (a % 2147483648)).toNat
  rw [BitVec.toNat_and, BitVec.toNat_ofNat, BitVec.toNat_ofNat, BitVec.toNat_ofNat, Nat.mod_eq_of_lt h, Nat.mod_eq_of_lt (a := 2147483647) (by decide), Nat.mod_eq_of_lt (a := a % 2147483648) (by omega)]
  exact Nat.and_two_pow_sub_one_eq_mod a 31
theorem dr_l {k : Nat} : ((1103515245 : Int64) * lN k) + (12345 : Int64) = lN (1103515245 * k + 12345) := by
  rw [show (1103515245 : Int64) = lN 1103515245 from rfl, show (12345 : Int64) = lN 12345 from rfl, lN_mul, lN_add]
theorem ln_n0 {y : Nat} (h0 : 0 < y) (hy : y < 2147483648) : ¬ (nI y).toInt64 = 0 := by
  rw [nI_l (by omega), show (0 : Int64) = lN 0 from rfl, pk_lEQ (by omega) (by decide)]
  omega
theorem rc_draw (RK : rf_ok B m) {k y : Nat} (hk : k < 2147483648) (h0 : 0 < y) (hy : y < 2147483648) {Q : Int32 → Int64 → fI → Prop} (K : Q (nI (dr_n k / 64 % y)) (lN (dr_n k)) I) : zs_i mt_X11_draw [pv_r m, pv_i (nI y)] B m (lN k) I Q := by
  have hd := dr_lt (k := k)
  refine wz_X11_draw_0 RK ⟨ln_n0 h0 hy, ?_⟩
  rw [dr_l, show (2147483648 : Int64) = lN 2147483648 from rfl, pk_lRem (by omega) (by decide) (by decide)]
  show Q (((lN (dr_n k) / (64 : Int64)) - (lN (dr_n k) / (64 : Int64)) / (nI y).toInt64 * (nI y).toInt64).toInt32) (lN (dr_n k)) I
  rw [show (64 : Int64) = lN 64 from rfl, pk_lDiv (by omega) (by decide) (by decide), nI_l (by omega), pk_lRem (by omega) h0 (by omega), lN_i]
  exact K
theorem ml_pl {z : Int64} : mm_l (mm_pl M 98 0 z) 98 0 = z := by
  show (if 98 = 98 ∧ 0 = 0 then z else mm_l M 98 0) = z
  exact if_pos ⟨rfl, rfl⟩
theorem cd_next (hk : mm_k M 98 = (2, 1)) {k y : Nat} (hz : mm_l M 98 0 = lN k) (hk2 : k < 2147483648) (h0 : 0 < y) (hy : y < 2147483648) {Q : Int32 → mm_T → Prop} (K : Q (nI (dr_n k / 64 % y)) (mm_pl M 98 0 (lN (dr_n k)))) : ds_i mt_X2_next [pv_r 98, pv_i (nI y)] M Q := by
  have hd := dr_lt (k := k)
  refine wd_X2_next_0 hk (fun M1 e => ?_)
  rw [hz, dr_l, ln_mask (by omega)] at e
  have e : M1 = mm_pl M 98 0 (lN (dr_n k)) := e
  rw [e, ml_pl]
  refine ⟨fun _ => ⟨ln_n0 h0 hy, ?_⟩, fun q => absurd (show nI 1 ≤ nI y from nI_le h0 hy) q⟩
  rw [show (64 : Int64) = lN 64 from rfl, pk_lDiv (by omega) (by decide) (by decide), nI_l (by omega), pk_lRem (by omega) h0 (by omega), lN_i]
  exact K
/-- the long of Draws is no part of the relation -/
theorem re_98 (h : re_ M I m n ta tm) : mm_r M 5 9 = 98 ∧ mm_k M 98 = (2, 1) := ⟨h.1.1.1.2.2.2.2.2.2.2.2.2.2, h.1.1.2.2.2.2.1.2.2.2⟩
theorem mt_pl {a j : Nat} {z : Int64} {k : Nat} : mm_t (mm_pl M a j z) k = mm_t M k := mm_t_eq (fun _ _ => rfl)
theorem re_pl (h : re_ M I m n ta tm) {a j : Nat} {z : Int64} : re_ (mm_pl M a j z) I m n ta tm := by
  have kd : kd_ M (mm_pl M a j z) := fun _ _ => rfl
  obtain ⟨⟨a1, a2, a3, a4⟩, ⟨b1, b2, b3, b4⟩, c1, c2, c3, c4⟩ := h
  exact ⟨⟨rS_o a1 kd (fun _ _ _ => rfl) (fun _ _ _ => rfl), br_o a2 kd (fun _ _ _ => rfl) (fun _ _ _ _ _ => rfl) (fun _ => rfl) (fun _ _ => rfl) rfl (fun _ _ _ _ => rfl) (fun _ _ => rfl) (fun _ _ => rfl) (fun _ _ _ _ => rfl) (fun _ _ _ _ => rfl), rT_o a3 kd (fun _ _ _ _ => rfl) (fun _ _ _ _ => rfl) (fun _ _ _ _ => rfl) (fun _ _ => rfl) (fun _ => rfl), rL_o a4 (fun _ _ _ _ => rfl) (fun _ _ _ _ _ => rfl) (fun _ _ => ⟨rfl, rfl⟩)⟩, ⟨rO_o b1 kd rfl rfl (fun _ => rfl), rA_o b2 kd rfl rfl (fun _ => rfl) rfl (fun _ _ => rfl), rW_o b3 (fun _ _ _ => rfl) (fun _ _ => rfl) (fun _ _ _ _ => rfl), rC_o b4 kd rfl (fun _ => rfl) (fun _ _ _ _ => rfl) (fun _ _ _ => rfl) (fun _ _ _ => rfl) rfl (fun _ => rfl)⟩, rK_o c1 rfl (fun _ => rfl) (fun _ => rfl) (fun _ => rfl) (fun _ _ => rfl), rD_o c2 (fun _ => rfl) (fun _ => rfl) rfl (fun _ => rfl), rX_o c3 (fun _ _ => rfl) rfl rfl rfl, rM_o c4 rfl mt_pl (fun _ _ => rfl) rfl⟩
theorem ms_98 {M1 : mm_T} (h : re_ M I m n ta tm) (hS : mm_S fr_C M M1) : mm_l M1 98 0 = mm_l M 98 0 := by
  have k := (re_98 h).2
  exact (hS.2.2 98 (mm_k_lt (by rw [k]; decide)) (Or.inl (by rw [k]; rfl))).2.1 0
/-! one step -/
/-- whether it was, the draws then, the ints then -/
def s1_ (I : fI) (m n k : Nat) : Int32 × Nat × fI :=
  if dr_n k / 64 % 10 < 3 then
    (if (sp_comes I m n (nI (dr_n (dr_n k) / 64 % 5)) (nI (dr_n (dr_n (dr_n k)) / 64 % 10)) (nI (dr_n (dr_n (dr_n (dr_n k))) / 64 % 20 + 1)) (nI (dr_n (dr_n (dr_n (dr_n (dr_n k)))) / 64 % 10000)) (-1)).1 < 0 then 0 else 1, dr_n (dr_n (dr_n (dr_n (dr_n k)))), (sp_comes I m n (nI (dr_n (dr_n k) / 64 % 5)) (nI (dr_n (dr_n (dr_n k)) / 64 % 10)) (nI (dr_n (dr_n (dr_n (dr_n k))) / 64 % 20 + 1)) (nI (dr_n (dr_n (dr_n (dr_n (dr_n k)))) / 64 % 10000)) (-1)).2)
  else if dr_n k / 64 % 10 < 5 then
    (if ra_W I m (dr_n (dr_n k) / 64 % 6) 0 = -1 then (if (sp_tkby I m n (dr_n (dr_n k) / 64 % 6)).1 = -1 then 0 else 1, dr_n (dr_n k), (sp_tkby I m n (dr_n (dr_n k) / 64 % 6)).2) else (0, dr_n (dr_n k), I))
  else if dr_n k / 64 % 10 < 7 then
    (if ra_W I m (dr_n (dr_n k) / 64 % 6) 0 = -1 then (0, dr_n (dr_n k), I) else (1, dr_n (dr_n k), sp_done I m n (ra_W I m (dr_n (dr_n k) / 64 % 6) 0).toNatClampNeg (dr_n (dr_n k) / 64 % 6)))
  else if dr_n k / 64 % 10 = 7 then
    (if ra_W I m (dr_n (dr_n k) / 64 % 6) 0 = -1 then (0, dr_n (dr_n (dr_n k)), I) else (1, dr_n (dr_n (dr_n k)), sp_fl I m n (ra_W I m (dr_n (dr_n k) / 64 % 6) 0).toNatClampNeg (nI (dr_n (dr_n (dr_n k)) / 64 % 99 + 1))))
  else if dr_n k / 64 % 10 = 8 then (1, dr_n k, sp_tick I m n)
  else (if dr_n (dr_n k) / 64 % 400 < n ∧ ra_T I m (dr_n (dr_n k) / 64 % 400) 6 ≤ 2 ∧ ¬ ra_T I m (dr_n (dr_n k) / 64 % 400) 1 = nI (dr_n (dr_n (dr_n k)) / 64 % 10) then (1, dr_n (dr_n (dr_n k)), i2_u I (m + 1) (200 + 14 * (dr_n (dr_n k) / 64 % 400) + 1) (nI (dr_n (dr_n (dr_n k)) / 64 % 10))) else (0, dr_n (dr_n (dr_n k)), I))
end Drw
