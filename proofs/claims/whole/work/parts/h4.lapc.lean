/-! lapse: whole -/
section Lapc
variable {B M : mm_T} {I J E : Nat → Nat → Int32} {m n t T W P L V : Nat} {ta tm : Nat → Nat} {v : Int32} {S : Nat → Nat → Bool}
def gs_ (I : fI) (m n : Nat) (v : Int32) : List Nat → Nat
  | [] => 0
  | t :: ts => (if fb_ I m v t ∧ ac_ I m t then 1 + cn_ (hp_ I m t) n else 0) + gs_ I m n v ts
theorem gs_cn : ∀ (zs : List Nat), zs.Nodup → gs_ I m n v zs = (zs.filter (fun x => decide (fb_ I m v x ∧ ac_ I m x))).length + cn_ (fun x => decide (ra_T I m x 6 = 1 ∧ rt_ I m x x ∈ zs ∧ fb_ I m v (rt_ I m x x) ∧ ac_ I m (rt_ I m x x))) n
  | [], _ => by
    have : cn_ (fun x => decide (ra_T I m x 6 = 1 ∧ rt_ I m x x ∈ ([] : List Nat) ∧ fb_ I m v (rt_ I m x x) ∧ ac_ I m (rt_ I m x x))) n = 0 := cn_0 (fun x _ => decide_eq_false (fun q => by cases q.2.1))
    rw [this]
    rfl
  | z :: zs, hd => by
    rw [List.nodup_cons] at hd
    have ih := gs_cn zs hd.2
    show (if fb_ I m v z ∧ ac_ I m z then 1 + cn_ (hp_ I m z) n else 0) + gs_ I m n v zs = _
    rw [ih, List.filter_cons]
    by_cases y : fb_ I m v z ∧ ac_ I m z
    · rw [if_pos y, if_pos (decide_eq_true y), List.length_cons]
      have s := cn_dj (n := n) (p := hp_ I m z) (q := fun x => decide (ra_T I m x 6 = 1 ∧ rt_ I m x x ∈ zs ∧ fb_ I m v (rt_ I m x x) ∧ ac_ I m (rt_ I m x x))) (r := fun x => decide (ra_T I m x 6 = 1 ∧ rt_ I m x x ∈ z :: zs ∧ fb_ I m v (rt_ I m x x) ∧ ac_ I m (rt_ I m x x))) (fun x _ => ⟨by
        unfold hp_
        show decide _ = (decide _ || decide _)
        rw [← Bool.decide_or, decide_eq_decide]
        constructor
        · rintro ⟨a, b, c⟩
          rcases List.mem_cons.mp b with u | u
          · exact Or.inl ⟨a, u⟩
          · exact Or.inr ⟨a, u, c⟩
        · rintro (⟨a, b⟩ | ⟨a, b, c⟩)
          · exact ⟨a, by rw [b]; exact List.mem_cons_self, by rw [b]; exact y⟩
          · exact ⟨a, List.mem_cons_of_mem _ b, c⟩, fun q => decide_eq_false (fun u => hd.1 (by
        have := (of_decide_eq_true q).2
        rw [← this]
        exact u.2.1))⟩)
      rw [s]
      omega
    · rw [if_neg y, if_neg (fun q => y (of_decide_eq_true q)), Nat.zero_add]
      congr 1
      refine cn_eq (fun x _ => decide_eq_decide.mpr ⟨fun q => ⟨q.1, List.mem_cons_of_mem _ q.2.1, q.2.2⟩, fun q => ⟨q.1, ?_, q.2.2⟩⟩)
      rcases List.mem_cons.mp q.2.1 with u | u
      · exact absurd (u ▸ q.2.2) y
      · exact u
theorem gs_lv (hi : ix_ I m n T W P L) : gs_ I m n v (sl_ (sgI I m) n) = lv1 I m n v := by
  rw [gs_cn (sl_ (sgI I m) n) rg_nd, sl_cn hi (fun x _ q => by rw [(of_decide_eq_true q).1.1]; decide)]
  unfold lv1
  congr 1
  refine cn_eq (fun x hx => decide_eq_decide.mpr ⟨fun q => ⟨q.1, q.2.2⟩, fun q => ⟨q.1, ?_, q.2⟩⟩)
  have hlt : rt_ I m x x < n := Nat.lt_of_le_of_lt (rt_le hi x x hx) hx
  unfold sl_
  rw [List.mem_filter, List.mem_range]
  exact ⟨hlt, (sd_of (ix_tv hi) hlt).mpr (by rw [q.2.1.1]; decide)⟩
theorem ce_gby (h : re_ M I m n ta tm) (hi : ix_ I m n T W P L) {Q : Int32 → mm_T → Prop} (K : Q (nI (lv1 I m n v)) M) : cs_i mt_X10_goingAsideBy [pv_r 5, pv_i v] M Q := by
  obtain ⟨r1, r2, r3, r4, r5, r6, r7, r8, r9⟩ := re_sl h
  obtain ⟨u1, u2, u3⟩ := re_rules h
  have loop : ∀ (zs : List Nat) (i c : Nat), (sl_ (sgI I m) n).drop i = zs → i ≤ (sl_ (sgI I m) n).length → c + gs_ I m n v zs = lv1 I m n v → cw_i mt_X10_goingAsideBy 4 [some (pv_r 5), some (pv_i v), some (pv_i (nI c)), some (pv_i (nI i)), none] [] M Q := by
    intro zs
    induction zs with
    | nil =>
      intro i c hz hle hc
      have hl := dr_end hz
      refine wc_X10_goingAsideBy_4 (re_m5 h) ?_
      rw [r1, r3, r5]
      have hc : c = lv1 I m n v := hc
      exact ⟨r2, r4, fun _ => by rw [hc]; exact K, fun q => absurd (nI_le hl (by omega)) q⟩
    | cons z zs ih =>
      intro i c hz hle hc
      obtain ⟨hl, ei, hz'⟩ := dr_at hz
      obtain ⟨g1, g2, g3⟩ := r9 i z ei
      have hc : c + ((if fb_ I m v z ∧ ac_ I m z then 1 + cn_ (hp_ I m z) n else 0) + gs_ I m n v zs) = lv1 I m n v := hc
      refine wc_X10_goingAsideBy_4 (re_m5 h) ?_
      rw [r1, r3, r5, r6]
      refine ⟨r2, r4, fun q => absurd q (nI_ge hl (by omega)), fun _ => ⟨48, r7, i, ⟨rfl, by omega⟩, ?_⟩⟩
      rw [g1]
      refine ⟨(re_ge h g2).2, ce_endsBy h hi g2 ?_⟩
      by_cases y : fb_ I m v z
      · rw [if_pos y]
        refine ⟨fun q => absurd q (by decide), fun _ => ?_⟩
        rw [r1, u1, u3 3 (by decide), re_8 h g2]
        refine ⟨r2, 6, u2, by decide, fun c1 => ?_, fun c1 => ce_hba h hi g2 ?_⟩
        · rw [if_neg (fun q : fb_ I m v z ∧ ac_ I m z => Int32.not_lt.mpr q.2 c1), Nat.zero_add] at hc
          exact ih (i + 1) c hz' (by omega) hc
        · rw [if_pos ⟨y, Int32.not_lt.mp c1⟩] at hc
          have e : nI c + (1 + nI (cn_ (hp_ I m z) n)) = nI (c + (1 + cn_ (hp_ I m z) n)) := by
            rw [show (1 : Int32) = nI 1 from rfl, nI_add, nI_add]
          rw [e]
          exact ih (i + 1) _ hz' (by omega) (by omega)
      · rw [if_neg y]
        refine ⟨fun _ => ?_, fun q => absurd rfl q⟩
        rw [if_neg (fun q : fb_ I m v z ∧ ac_ I m z => y q.1), Nat.zero_add] at hc
        exact ih (i + 1) c hz' (by omega) hc
  exact wc_X10_goingAsideBy_0 (re_m5 h) (loop _ 0 0 rfl (Nat.zero_le _) (by rw [Nat.zero_add]; exact gs_lv hi))
def lvx (I : fI) (m n : Nat) (v x2 : Int32) : Int32 := if x2 = 0 then nI (lv0 I m n v) else if x2 = 1 then nI (lv1 I m n v) else nI (lv2 I m n v)
theorem rt_row (e : J (m + 1) = I (m + 1)) : ∀ (f x : Nat), rt_ J m f x = rt_ I m f x
  | 0, _ => rfl
  | f + 1, x => by
    show (if ra_T J m x 6 = 1 then rt_ J m f (ra_T J m x 4).toNatClampNeg else x) = (if ra_T I m x 6 = 1 then rt_ I m f (ra_T I m x 4).toNatClampNeg else x)
    rw [show ra_T J m x 6 = ra_T I m x 6 by unfold ra_T; rw [e], show ra_T J m x 4 = ra_T I m x 4 by unfold ra_T; rw [e], rt_row e f]
theorem lvx_row (e : J (m + 1) = I (m + 1)) {x2 : Int32} : lvx J m n v x2 = lvx I m n v x2 := by
  have eT : ∀ x f, ra_T J m x f = ra_T I m x f := fun x f => by unfold ra_T; rw [e]
  unfold lvx lv0 lv1 lv2 fb_ ac_ dF_ rst_
  simp only [eT, e, rt_row e]
theorem rc_lap (RK : rf_ok B m) (h : ix_ I m n T W P L) (hl : lim_ T W P L) (hx : xi_ I m n V) {x : Nat} (hx1 : 1 ≤ x) (hx99 : x ≤ 99) {x2 : Int32} {Q : Int32 → fI → Prop} (K : ∀ I', sc_ m I I' → Q (lvx I m n (I (m + 1) 0 + nI x) x2) I') : rs_v mt_X11_begins [pv_r m] B I (fun I1 => rw_i mt_X11_lapse 27 [some (pv_r m), some (pv_i (nI x)), some (pv_i x2), some (pv_i 0)] [] B I1 Q) := by
  obtain ⟨X0, hX0, eX0⟩ := h.2.2.1
  obtain ⟨hE, -, -, k, k1, k2⟩ := hx
  have hT : T < 90000 := hl.1
  have hP : P + 3100000 < 2147483648 := hl.2.2.1
  have hL : L + 2100000 < 1990000000 := hl.2.2.2
  refine rc_begins RK (rc_lap27 RK (by omega) (by omega) hx1 hx99 k1 (X0 := X0) (by omega) x 0 (by omega) (by omega) (li_ini h) (bg_r.trans eX0) (bg_r.trans k2) (fun y hy q => ?_) (fun q => by omega) (fun J' n' T' b1 b2 b3 b4 => ?_))
  · rw [show ra_T (bg_ I m) m y 6 = ra_T I m y 6 from bg_r] at q
    rw [show ra_T (bg_ I m) m y 11 = ra_T I m y 11 from bg_r, bg_r]
    exact hE y hy q
  · have ev : I (m + 1) 0 + nI x = nI (X0 + x) := by rw [eX0, nI_add]
    have tf : tf_ m (bg_ I m) J' := fun a j q1 q2 q3 => by
      by_cases z : a = m + 1
      · rw [z]
        exact b4.2 j (by omega)
      · exact b4.1 a j z (by omega)
    have := K (ed_ J' m) (sc_ed (ix_8 h) (pf_tf pf_bg tf))
    rw [ev] at this
    unfold lvx at this
    rw [v9_e b1 b3 b2, v10_e h b1 b3 b2, v11_e b1 b3 b2]
    exact this
theorem sq_lapse (h : ix_ I m n T W P L) (hl : lim_ T W P L) (hx : xi_ I m n V) {x1 x2 : Int32} : ∃ v, sq_ I m n v (fun M Q => cs_i mt_X10_lapse [pv_r 5, pv_i x1, pv_i x2] M Q) (fun B J Q => rs_i mt_X11_lapse [pv_r m, pv_i x1, pv_i x2] B J Q) := by
  by_cases c : (1 ≤ x1 ∧ x1 ≤ 99) ∧ 0 ≤ x2 ∧ x2 ≤ 2
  · obtain ⟨x, x9, ex⟩ := nI_of2 (n := 99) (M := 99) rfl (fun q => absurd (Int32.lt_of_lt_of_le q (show (0 : Int32) ≤ 1 by decide)) (Int32.not_lt.mpr c.1.1)) c.1.2
    subst ex
    have hx1 : 1 ≤ x := by
      have := c.1.1
      rw [show (1 : Int32) = nI 1 from rfl, nI_leI (by omega) (by omega)] at this
      exact this
    obtain ⟨y, y2, ey⟩ := nI_of2 (n := 2) (M := 2) rfl (Int32.not_lt.mpr c.2.1) c.2.2
    refine ⟨lvx I m n (I (m + 1) 0 + nI x) x2, fun M ta tm Q hr K => ?_, fun S E B Q hS RK K => ?_⟩
    · have K := K M hr
      unfold lvx at K
      refine wc_X10_lapse_0 (re_m5 hr) ⟨fun q => absurd q (Int32.not_lt.mpr c.1.1), fun _ => ⟨fun _ => ?_, fun q => absurd c.1.2 q⟩⟩
      rw [(re_tr hr).2.2.1]
      refine ⟨fun z => ce_fby hr h ?_, fun z => ce_gby hr h ?_, fun z => ce_wby hr h ?_, fun z => ?_⟩
      · rw [if_pos z] at K
        exact K
      · rw [if_neg (by rw [z]; decide), if_pos z] at K
        exact K
      · rw [if_neg (by rw [z]; decide), if_neg (by rw [z]; decide)] at K
        exact K
      · exfalso
        have : y = 0 ∨ y = 1 ∨ y = 2 := by omega
        rcases this with u | u | u
        · exact z.1 (by rw [ey, u]; rfl)
        · exact z.2.1 (by rw [ey, u]; rfl)
        · exact z.2.2 (by rw [ey, u]; rfl)
    · have hJ := ix_pt (E := E) h hS
      have er : (pt_ S E I) (m + 1) = I (m + 1) := funext (fun j => uf_at hS (by omega) (by omega))
      have hxJ : xi_ (pt_ S E I) m n V := xi_g hx (xg_eq (ix_4 h) (fun j _ => by rw [er])) (by rw [er])
      refine wq_X11_lapse_0 RK ⟨fun _ => ⟨fun _ => rc_lap RK hJ hl hxJ hx1 x9 (fun I1 s1 => ?_), fun q => absurd c.2 q⟩, fun q => absurd c.1 q⟩
      rw [er, lvx_row er]
      obtain ⟨I', q1, q2⟩ := sc_pt hS s1
      rw [q2]
      exact K I' q1
  · refine ⟨-1, fun M ta tm Q hr K => ?_, fun S E B Q hS RK K => ?_⟩
    · refine wc_X10_lapse_0 (re_m5 hr) ⟨fun _ => K M hr, fun c1 => ⟨fun c2 => ?_, fun _ => K M hr⟩⟩
      have n2 : ¬ (0 ≤ x2 ∧ x2 ≤ 2) := fun q => c ⟨⟨Int32.not_lt.mp c1, c2⟩, q⟩
      exact ⟨fun z => absurd (by rw [z]; decide) n2, fun z => absurd (by rw [z]; decide) n2, fun z => absurd (by rw [z]; decide) n2, fun _ => K M hr⟩
    · exact wq_X11_lapse_0 RK ⟨fun c1 => ⟨fun c2 => absurd ⟨c1, c2⟩ c, fun _ => K I sc_rf⟩, fun _ => K I sc_rf⟩
end Lapc
