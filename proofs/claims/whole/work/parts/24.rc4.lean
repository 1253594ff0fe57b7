section Rc4
variable {B : mm_T} {I : Nat → Nat → Int32} {m n : Nat}
theorem i2_same {a j : Nat} : i2_u I a j (I a j) = I := by
  funext b k
  unfold i2_u
  split
  · next h => rw [h.1, h.2]
  · rfl
/-- the pass of a lane that comes to life -/
def ra_up (I : Nat → Nat → Int32) (m n l : Nat) : Int32 := match ra_lane I m n 0 with
  | none => ra_L I m l 4
  | some q => if ra_L I m l 4 ≤ ra_L I m q 4 then ra_L I m q 4 else ra_L I m l 4
/-- it comes to wait in its lane l -/
def ra_wait (I : Nat → Nat → Int32) (m n l t : Nat) : Nat → Nat → Int32 := i2_u (if ra_live I m n (nI l) = true then I else i2_u I (m + 1) (10 + 10 * l + 4) (ra_up I m n l)) (m + 1) (200 + 14 * t + 6) 0
theorem i32_m1 {x : Int32} (h : 0 ≤ x) : ¬ x = -1 := by
  intro e
  rw [e] at h
  exact absurd h (by decide)
theorem i32_m1le {x : Int32} (h : 0 ≤ x) : ¬ x ≤ -1 := by
  intro e
  exact absurd (Int32.le_trans h e) (by decide)
theorem rc_waitsNow (RK : rf_ok B m) (hn : I (m + 1) 1 = nI n) (h4 : n ≤ 400) (hp : ∀ l, l < 5 → 0 ≤ ra_L I m l 4) {x1 : Int32} {t l : Nat} (h1 : x1 = nI t) (ht : t < 400) (hl : ra_T I m t 0 = nI l) (hl5 : l < 5) {P : (Nat → Nat → Int32) → Prop} (K : P (ra_wait I m n l t)) : rs_v mt_X11_waitsNow [pv_r m, pv_i x1] B I P := by
  subst h1
  refine wq_X11_waitsNow_0 RK ⟨t, ⟨rfl, ht⟩, ?_⟩
  rw [show I (m + 1) (200 + 14 * t + 0) = nI l from hl]
  refine rc_isLive RK hn h4 ?_
  by_cases hv : ra_live I m n (nI l) = true
  · rw [if_pos hv]
    have K' : P (i2_u I (m + 1) (200 + 14 * t + 6) 0) := by unfold ra_wait at K; rw [if_pos hv] at K; exact K
    refine wq_X11_waitsNow_19 RK ⟨fun c => absurd c (by decide), fun _ => ⟨fun _ => ⟨fun _ => ⟨t, ⟨rfl, ht⟩, fun I2 h => by rw [h]; exact K'⟩, fun c => absurd c (by decide)⟩, fun c => absurd c (by decide)⟩⟩
  · rw [if_neg hv]
    have loop : ∀ k a, a + k = 5 → rw_v mt_X11_waitsNow 19 [some (pv_r m), some (pv_i (nI t)), some (pv_i (nI l)), some (pv_i (match bs_ (ra_may I m n 0) (ra_ps I m) a with | none => -1 | some q => ra_L I m q 4)), some (pv_i 0), some (pv_i (nI a))] [] B I P := by
      intro k
      induction k with
      | zero =>
        intro a ha
        have ha : a = 5 := by omega
        subst ha
        refine wq_X11_waitsNow_19 RK ⟨fun _ => ⟨fun c => absurd rfl c, fun _ => ⟨l, ⟨rfl, hl5⟩, fun I4 h4' => ⟨t, ⟨rfl, ht⟩, fun I6 h6 => ?_⟩⟩⟩, fun c => absurd (Int32.le_refl _) c⟩
        rw [h6, h4']
        unfold ra_wait at K
        rw [if_neg hv] at K
        have e : ra_up I m n l = (if I (m + 1) (10 + 10 * l + 4) ≤ (match bs_ (ra_may I m n 0) (ra_ps I m) 5 with | none => -1 | some q => ra_L I m q 4) then (match bs_ (ra_may I m n 0) (ra_ps I m) 5 with | none => -1 | some q => ra_L I m q 4) else I (m + 1) (10 + 10 * l + 4)) := by
          unfold ra_up ra_lane
          cases bs_ (ra_may I m n 0) (ra_ps I m) 5 with
          | none => exact (if_neg (i32_m1le (hp l hl5))).symm
          | some q => rfl
        rw [e] at K
        exact K
      | succ k ih =>
        intro a ha
        have ih := ih (a + 1) (by omega)
        refine wq_X11_waitsNow_19 RK ⟨fun c => absurd c (nI_5 (by omega)), fun _ => ⟨fun c => absurd rfl c, fun _ => rc_isLive RK hn h4 ⟨fun c => ?_, fun c => ?_⟩⟩⟩
        · rw [bs_f (by unfold ra_may; rw [bl_0 c]; rfl)] at ih
          rw [nI_1]; exact ih
        · have hm : ra_may I m n 0 a = true := by unfold ra_may; rw [bl_1 c]; rfl
          cases hb : bs_ (ra_may I m n 0) (ra_ps I m) a with
          | none =>
            rw [bs_n hm hb] at ih
            exact ⟨fun _ => ⟨a, ⟨rfl, by omega⟩, ih⟩, fun c2 => absurd rfl c2⟩
          | some q =>
            have hq := (bs_lt hb).1
            rw [bs_s hm hb] at ih
            refine ⟨fun c2 => absurd c2 (i32_m1 (hp q (by omega))), fun _ => ⟨a, ⟨rfl, by omega⟩, fun c3 => ?_, fun c3 => ?_⟩⟩
            · rw [if_neg (show ¬ ra_ps I m a q = true from by rw [show ra_ps I m a q = false from decide_eq_false (Int32.not_lt.mpr c3)]; decide)] at ih
              exact ih
            · rw [if_pos (show ra_ps I m a q = true from decide_eq_true (Int32.not_le.mp c3))] at ih
              exact ih
    exact loop 5 0 (by omega)
/-- a line of the log (not on paper) -/
def ra_wr (I : Nat → Nat → Int32) (m L : Nat) (x1 : Int32) (t : Nat) (x3 x4 : Int32) : Nat → Nat → Int32 :=
  i2_u (i2_u (i2_u (i2_u (i2_u (i2_u (i2_u I (m + 6) (6 * (L % 64)) (I (m + 1) 0)) (m + 6) (6 * (L % 64) + 1) x1) (m + 6) (6 * (L % 64) + 2) (nI t)) (m + 6) (6 * (L % 64) + 3) (ra_T I m t 0)) (m + 6) (6 * (L % 64) + 4) x3) (m + 6) (6 * (L % 64) + 5) x4) m 6 (nI (L + 1))
theorem rc_writes (RK : rf_ok B m) {L t : Nat} (h8 : I m 8 = 0) (hL : I m 6 = nI L) (hL2 : L < 2000000000) {x1 x2 x3 x4 : Int32} (h2 : x2 = nI t) (ht : t < 400) {P : (Nat → Nat → Int32) → Prop} (K : P (ra_wr I m L x1 t x3 x4)) : rs_v mt_X11_writes [pv_r m, pv_i x1, pv_i x2, pv_i x3, pv_i x4] B I P := by
  subst h2
  have e0 : (6 : Int32) * (I m 6 - I m 6 / (64 : Int32) * (64 : Int32)) = nI (6 * (L % 64)) := by
    rw [hL, show (64 : Int32) = nI 64 from rfl, pk_rem (by omega) (by omega) (by omega), show (6 : Int32) = nI 6 from rfl, pk_mul]
  have hb : L % 64 < 64 := Nat.mod_lt _ (by omega)
  refine wq_X11_writes_0 RK ⟨fun _ => ⟨6 * (L % 64), ⟨e0, by omega⟩, fun I2 h2 => ⟨by omega, fun I4 h4 => ⟨by omega, fun I6 h6 => ⟨t, ⟨rfl, ht⟩, by omega, fun I9 h9 => ⟨by omega, fun I11 h11 => ⟨by omega, fun I13 h13 I14 h14 => ?_⟩⟩⟩⟩⟩⟩, fun c => absurd h8 c⟩
  have eT : I6 (m + 1) (200 + 14 * t + 0) = ra_T I m t 0 := by
    rw [h6, h4, h2, i2_ua (by omega), i2_ua (by omega), i2_ua (by omega)]; rfl
  have eL : I13 m 6 + 1 = nI (L + 1) := by
    rw [h13, h11, h9, h6, h4, h2, i2_ua (by omega), i2_ua (by omega), i2_ua (by omega), i2_ua (by omega), i2_ua (by omega), i2_ua (by omega), hL, nI_1]
  rw [h14, eL, h13, h11, h9, eT, h6, h4, h2]
  exact K
theorem rc_writesP (RK : rf_ok B m) (h8 : ¬ I m 8 = 0) {x1 x2 x3 x4 : Int32} {P : (Nat → Nat → Int32) → Prop} (K : P I) : rs_v mt_X11_writes [pv_r m, pv_i x1, pv_i x2, pv_i x3, pv_i x4] B I P :=
  wq_X11_writes_0 RK ⟨fun c => absurd c h8, fun _ => K⟩
/-- a cause -/
def ra_blame (I : Nat → Nat → Int32) (m t c : Nat) (x : Int32) : Nat → Nat → Int32 := if c = 20 then i2_u I (m + 1) (200 + 14 * t + 13) x else i2_u (i2_u (i2_u I (m + 1) (200 + 14 * t + 13) x) (m + 5) (20 * t + c) x) (m + 4) t (nI (c + 1))
theorem rc_blames (RK : rf_ok B m) {t c : Nat} (h8 : I m 8 = 0) (hc : I (m + 4) t = nI c) (hc2 : c ≤ 20) {x1 x2 : Int32} (h1 : x1 = nI t) (ht : t < 400) {P : (Nat → Nat → Int32) → Prop} (K : P (ra_blame I m t c x2)) : rs_v mt_X11_blames [pv_r m, pv_i x1, pv_i x2] B I P := by
  subst h1
  refine wq_X11_blames_0 RK ⟨t, ⟨rfl, ht⟩, fun I2 h2 => ⟨fun c8 => absurd (by rw [h2, i2_ua (by omega)]; exact h8) c8, fun _ => ?_⟩⟩
  have e4 : I2 (m + 4) t = nI c := by rw [h2, i2_ua (by omega)]; exact hc
  refine ⟨fun c1 => ?_, fun c1 => ?_⟩
  · have hne : c ≠ 20 := fun q => c1 (by rw [e4, q]; rfl)
    refine ⟨20 * t + c, ⟨nI_ae (nI_me rfl rfl) e4, by omega⟩, fun I4 h4 I5 h5 => ?_⟩
    have e5 : I4 (m + 4) t + 1 = nI (c + 1) := by rw [h4, i2_ua (by omega), e4, nI_1]
    unfold ra_blame at K
    rw [if_neg hne] at K
    rw [h5, e5, h4, h2]
    exact K
  · have he : c = 20 := (nI_eq (by omega) (by omega)).mp (e4.symm.trans c1)
    unfold ra_blame at K
    rw [if_pos he] at K
    rw [h2]
    exact K
theorem rc_blamesP (RK : rf_ok B m) {t : Nat} (h8 : ¬ I m 8 = 0) {x1 x2 : Int32} (h1 : x1 = nI t) (ht : t < 400) {P : (Nat → Nat → Int32) → Prop} (K : P (i2_u I (m + 1) (200 + 14 * t + 13) x2)) : rs_v mt_X11_blames [pv_r m, pv_i x1, pv_i x2] B I P := by
  refine wq_X11_blames_0 RK ⟨t, ⟨h1, ht⟩, fun I2 h2 => ⟨fun _ => by rw [h2]; exact K, fun c => absurd (by rw [h2, i2_ua (by omega)] at c; exact c) h8⟩⟩
end Rc4
