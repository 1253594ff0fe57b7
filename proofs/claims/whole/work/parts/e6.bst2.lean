/-! bestLane -/
section Bst2
variable {B M M' : mm_T} {I J N E : Nat → Nat → Int32} {m n T W P L : Nat} {ta tm tc : Nat → Nat} {S : Nat → Nat → Bool}
def al_ (I : fI) (m n t l : Nat) : Bool := decide (lmI I m t = l ∨ (ra_L I m l 3 = 0 ∧ ¬ ra_L I m l 1 ≤ nI (cn_ (ra_st I m (nI l)) n)))
def bst_ (I : fI) (m n t k : Nat) : Option Nat := bs_ (al_ I m n t) (fun a c => decide (trn_ I m n t a < trn_ I m n t c)) k
def bo_ (I : fI) (m n t : Nat) (d : Int32) : Option Nat → Int32
  | none => d
  | some q => trn_ I m n t q
theorem ce_bst (h : ix_ I m n T W P L) {t : Nat} (ht : t < n) (h6 : ra_T I m t 6 = 0) {x2 : Int32} {Q : Int32 → mm_T → Prop} (K : ∀ M', re_ M' I m n ta tm → Q (if x2 = 0 then io_ (bst_ I m n t 5) else bo_ I m n t 0 (bst_ I m n t 5)) M') : ∀ (j c : Nat) {M : mm_T}, c + j = 5 → re_ M I m n ta tm → cw_i mt_X10_bestLane 51 [some (pv_r 5), some (pv_i (nI t)), some (pv_i x2), some (pv_r (ta t)), some (pv_i (io_ (bst_ I m n t c))), some (pv_i (bo_ I m n t 0 (bst_ I m n t c))), some (pv_r 7), some (pv_i (nI 5)), some (pv_i (nI c)), none, none] [] M Q
  | 0, c, M, hc, hr => by
    have : c = 5 := by omega
    subst this
    have K := K M hr
    refine wc_X10_bestLane_51 (re_m5 hr) ⟨fun _ => ⟨fun q => ?_, fun q => ?_⟩, fun q => absurd (Int32.le_refl _) q⟩
    · rw [if_neg q] at K; exact K
    · rw [if_pos q] at K; exact K
  | j + 1, c, M, hc, hr => by
    have h4 := ix_4 h
    have c5 : c < 5 := by omega
    obtain ⟨l1, l2⟩ := lm_of (ix_tv h) ht
    obtain ⟨s1, s2, s3, s4, s5, s6, s7, s8, s9, s10, s11, s12⟩ := br_S hr.1.2.1
    have kl := br_ln hr.1.2.1 c5
    have ih := fun {M} => ce_bst h ht h6 K j (c + 1) (M := M) (by omega)
    -- it may not go there
    have no : al_ I m n t c = false → ∀ M, re_ M I m n ta tm → cw_i mt_X10_bestLane 51 [some (pv_r 5), some (pv_i (nI t)), some (pv_i x2), some (pv_r (ta t)), some (pv_i (io_ (bst_ I m n t c))), some (pv_i (bo_ I m n t 0 (bst_ I m n t c))), some (pv_r 7), some (pv_i (nI 5)), some (pv_i (nI (c + 1))), none, none] [] M Q := fun z M hr => by
      have e : bst_ I m n t (c + 1) = bst_ I m n t c := bs_f z
      have := ih (M := M) hr
      rw [e] at this
      exact this
    -- it may
    have yes1 : al_ I m n t c = true → bst_ I m n t c = none → ∀ M, re_ M I m n ta tm → cw_i mt_X10_bestLane 51 [some (pv_r 5), some (pv_i (nI t)), some (pv_i x2), some (pv_r (ta t)), some (pv_i (nI c)), some (pv_i (trn_ I m n t c)), some (pv_r 7), some (pv_i (nI 5)), some (pv_i (nI (c + 1))), none, none] [] M Q := fun z y M hr => by
      have e : bst_ I m n t (c + 1) = some c := bs_n z y
      have := ih (M := M) hr
      rw [e] at this
      exact this
    have yes2 : al_ I m n t c = true → ∀ q, bst_ I m n t c = some q → trn_ I m n t c < trn_ I m n t q → ∀ M, re_ M I m n ta tm → cw_i mt_X10_bestLane 51 [some (pv_r 5), some (pv_i (nI t)), some (pv_i x2), some (pv_r (ta t)), some (pv_i (nI c)), some (pv_i (trn_ I m n t c)), some (pv_r 7), some (pv_i (nI 5)), some (pv_i (nI (c + 1))), none, none] [] M Q := fun z q y w M hr => by
      have e : bst_ I m n t (c + 1) = some c := by
        rw [show bst_ I m n t (c + 1) = _ from bs_s z y, if_pos (decide_eq_true w)]
      have := ih (M := M) hr
      rw [e] at this
      exact this
    have yes3 : al_ I m n t c = true → ∀ q, bst_ I m n t c = some q → trn_ I m n t q ≤ trn_ I m n t c → ∀ M, re_ M I m n ta tm → cw_i mt_X10_bestLane 51 [some (pv_r 5), some (pv_i (nI t)), some (pv_i x2), some (pv_r (ta t)), some (pv_i (nI q)), some (pv_i (trn_ I m n t q)), some (pv_r 7), some (pv_i (nI 5)), some (pv_i (nI (c + 1))), none, none] [] M Q := fun z q y w M hr => by
      have e : bst_ I m n t (c + 1) = some q := by
        rw [show bst_ I m n t (c + 1) = _ from bs_s z y, if_neg (fun v => absurd (of_decide_eq_true v) (Int32.not_lt.mpr w))]
      have := ih (M := M) hr
      rw [e] at this
      exact this
    refine wc_X10_bestLane_51 (re_m5 hr) ⟨fun q => absurd q (nI_5 c5), fun _ => ⟨5, s3, c, ⟨rfl, c5⟩, (re_ge hr ht).2, ?_⟩⟩
    rw [show mm_r M 7 c = 12 + c from (s12 c c5).2.1, (hr.1.2.2.1.1 t ht).1.2.2.2.2.1, hr.1.1.1.2.2.1, (re_bk hr).1]
    refine ⟨Or.inr ⟨3, by decide, kl.1⟩, Or.inr ⟨3, by decide, (br_ln hr.1.2.1 l1).1⟩, fun q => ⟨(re_17 hr).1, ce_turnIn h hr ht h6 c5 (fun M9 h9 => ?_)⟩, fun q => ⟨kl.1, ?_⟩⟩
    · have z : al_ I m n t c = true := decide_eq_true (Or.inl (by omega))
      have kl9 := br_ln h9.1.2.1 c5
      rw [show mm_i M9 (12 + c) 0 = nI c from kl9.2.2]
      cases hb : bst_ I m n t c with
      | none => exact ⟨fun _ => ⟨kl9.1, yes1 z hb M9 h9⟩, fun y => absurd rfl y⟩
      | some q' =>
        have q5 := (bs_lt hb).1
        exact ⟨fun y => absurd y (nI_nm (by omega)), fun _ => ⟨fun w => yes3 z q' hb w M9 h9, fun w => ⟨kl9.1, yes2 z q' hb (Int32.not_le.mp w) M9 h9⟩⟩⟩
    · have nl : ¬ lmI I m t = c := by omega
      rw [show mm_i M (12 + c) 4 = ra_L I m c 3 from (re_open hr c5).trans (cls_id h.2.1.1 c c5)]
      refine ⟨fun w => no (decide_eq_false (fun y => y.elim nl (fun y => w y.1))) M hr, fun w => cb_room hr.1.2.1 c5 ?_⟩
      by_cases d : ra_L I m c 1 ≤ nI (cn_ (ra_st I m (nI c)) n)
      · rw [if_pos d]
        exact ⟨fun y => absurd rfl y, fun _ => no (decide_eq_false (fun y => y.elim nl (fun y => y.2 d))) M hr⟩
      · rw [if_neg d, hr.1.1.1.2.2.1, (re_bk hr).1]
        refine ⟨fun _ => ⟨(re_17 hr).1, ce_turnIn h hr ht h6 c5 (fun M9 h9 => ?_)⟩, fun y => absurd y (by decide)⟩
        have z : al_ I m n t c = true := decide_eq_true (Or.inr ⟨w, d⟩)
        have kl9 := br_ln h9.1.2.1 c5
        rw [show mm_i M9 (12 + c) 0 = nI c from kl9.2.2]
        cases hb : bst_ I m n t c with
        | none => exact ⟨fun _ => yes1 z hb M9 h9, fun y => absurd rfl y⟩
        | some q' =>
          have q5 := (bs_lt hb).1
          exact ⟨fun y => absurd y (nI_nm (by omega)), fun _ => ⟨fun w => yes3 z q' hb w M9 h9, fun w => yes2 z q' hb (Int32.not_le.mp w) M9 h9⟩⟩
theorem lmI_row (e : J (m + 1) = I (m + 1)) {t : Nat} : lmI J m t = lmI I m t := by unfold lmI ra_T; rw [e]
theorem st_row (e : J (m + 1) = I (m + 1)) {x : Int32} : ra_st J m x = ra_st I m x := by
  unfold ra_st ra_T
  simp only [e]
theorem rc_bst (RK : rf_ok B m) (h : ix_ I m n T W P L) (hP : P < 2147483648) {t : Nat} (ht : t < n) {x2 : Int32} {Q : Int32 → fI → Prop} (K : ∀ J', sc_ m I J' → Q (if x2 = 0 then io_ (bst_ I m n t 5) else bo_ I m n t 2000000000 (bst_ I m n t 5)) J') : ∀ (j c : Nat) {J : fI}, c + j = 5 → sc_ m I J → rw_i mt_X11_bestLane 29 [some (pv_r m), some (pv_i (nI t)), some (pv_i x2), some (pv_i (io_ (bst_ I m n t c))), some (pv_i (bo_ I m n t 2000000000 (bst_ I m n t c))), some (pv_i (nI c)), none, none] [] B J Q
  | 0, c, J, hc, hs => by
    have : c = 5 := by omega
    subst this
    have K := K J hs
    refine wq_X11_bestLane_29 RK ⟨fun _ => ⟨fun q => ?_, fun q => ?_⟩, fun q => absurd (by decide) q⟩
    · rw [if_neg q] at K; exact K
    · rw [if_pos q] at K; exact K
  | j + 1, c, J, hc, hs => by
    have h4 := ix_4 h
    have c5 : c < 5 := by omega
    have hJ := ix_sc h hs
    have e := sc_1 hs
    obtain ⟨l1, l2⟩ := lm_of (ix_tv h) ht
    have ih := fun {J} => rc_bst RK h hP ht K j (c + 1) (J := J) (by omega)
    have no : al_ I m n t c = false → rw_i mt_X11_bestLane 29 [some (pv_r m), some (pv_i (nI t)), some (pv_i x2), some (pv_i (io_ (bst_ I m n t c))), some (pv_i (bo_ I m n t 2000000000 (bst_ I m n t c))), some (pv_i (nI (c + 1))), none, none] [] B J Q := fun z => by
      have e : bst_ I m n t (c + 1) = bst_ I m n t c := bs_f z
      have := ih hs
      rw [e] at this
      exact this
    have yes : al_ I m n t c = true → ∀ J', sc_ m J J' → ((bo_ I m n t 2000000000 (bst_ I m n t c) ≤ trn_ I m n t c → rw_i mt_X11_bestLane 29 [some (pv_r m), some (pv_i (nI t)), some (pv_i x2), some (pv_i (io_ (bst_ I m n t c))), some (pv_i (if trn_ I m n t c ≤ bo_ I m n t 2000000000 (bst_ I m n t c) then trn_ I m n t c else bo_ I m n t 2000000000 (bst_ I m n t c))), some (pv_i (nI (c + 1))), none, none] [] B J' Q) ∧ (¬ bo_ I m n t 2000000000 (bst_ I m n t c) ≤ trn_ I m n t c → rw_i mt_X11_bestLane 29 [some (pv_r m), some (pv_i (nI t)), some (pv_i x2), some (pv_i (nI c)), some (pv_i (if trn_ I m n t c ≤ bo_ I m n t 2000000000 (bst_ I m n t c) then trn_ I m n t c else bo_ I m n t 2000000000 (bst_ I m n t c))), some (pv_i (nI (c + 1))), none, none] [] B J' Q)) := fun z J' hs' => by
      have st := ih (sc_tr hs hs')
      cases hb : bst_ I m n t c with
      | none =>
        have lt : trn_ I m n t c < 2000000000 := ton_lt 401 0 h4 (by omega)
        have ee : bst_ I m n t (c + 1) = some c := bs_n z hb
        rw [ee] at st
        refine ⟨fun w => absurd lt (Int32.not_lt.mpr w), fun _ => ?_⟩
        rw [if_pos (show trn_ I m n t c ≤ bo_ I m n t 2000000000 none from Int32.le_of_lt lt)]
        exact st
      | some q =>
        rw [show bst_ I m n t (c + 1) = _ from bs_s z hb] at st
        refine ⟨fun w => ?_, fun w => ?_⟩
        · have w : trn_ I m n t q ≤ trn_ I m n t c := w
          rw [if_neg (fun v => absurd (of_decide_eq_true v) (Int32.not_lt.mpr w))] at st
          show rw_i _ _ [_, _, _, _, some (pv_i (if trn_ I m n t c ≤ trn_ I m n t q then trn_ I m n t c else trn_ I m n t q)), _, _, _] _ _ _ _
          have ei : (if trn_ I m n t c ≤ trn_ I m n t q then trn_ I m n t c else trn_ I m n t q) = trn_ I m n t q := by
            split
            · next v => exact Int32.le_antisymm v w
            · rfl
          rw [ei]
          exact st
        · have w : ¬ trn_ I m n t q ≤ trn_ I m n t c := w
          have w := Int32.not_le.mp w
          rw [if_pos (decide_eq_true w)] at st
          show rw_i _ _ [_, _, _, _, some (pv_i (if trn_ I m n t c ≤ trn_ I m n t q then trn_ I m n t c else trn_ I m n t q)), _, _, _] _ _ _ _
          rw [if_pos (Int32.le_of_lt w)]
          exact st
    refine wq_X11_bestLane_29 RK ⟨fun q => absurd q (nI_5 c5), fun _ => ⟨t, ⟨rfl, by omega⟩, fun q => ⟨c, ⟨rfl, c5⟩, ?_⟩, fun q => ?_⟩⟩
    · rw [e] at q ⊢
      have nl : ¬ lmI I m t = c := fun y => q (by rw [← y]; exact l2)
      refine ⟨fun w => no (decide_eq_false (fun y => y.elim nl (fun y => w y.1))), fun w => rc_hasRoom RK (ix_1 hJ) h4 rfl c5 ?_⟩
      rw [show ra_L J m c 1 = ra_L I m c 1 by unfold ra_L; rw [e], st_row e]
      by_cases d : ra_L I m c 1 ≤ nI (cn_ (ra_st I m (nI c)) n)
      · rw [if_pos d]
        exact ⟨fun y => absurd rfl y, fun _ => no (decide_eq_false (fun y => y.elim nl (fun y => y.2 d)))⟩
      · rw [if_neg d]
        refine ⟨fun _ => rc_oth RK hJ hP ht c5 (by rw [lmI_row e]; exact nl) (fun J' hJ' => ?_), fun y => absurd y (by decide)⟩
        rw [trn_row e]
        exact yes (decide_eq_true (Or.inr ⟨w, d⟩)) J' hJ'
    · rw [e] at q
      have el : lmI I m t = c := by
        have q : ra_T I m t 0 = nI c := q
        rw [l2] at q
        exact (nI_eq (by omega) (by omega)).mp q
      refine rc_own RK hJ ht (fun J' hJ' => ?_)
      rw [lmI_row e, el, trn_row e, nI_1]
      exact yes (decide_eq_true (Or.inl el)) J' hJ'
theorem sq_bestLane (h : ix_ I m n T W P L) (hP : P < 2147483648) {x1 x2 : Int32} : ∃ v, sq_ I m n v (fun M Q => cs_i mt_X10_bestLane [pv_r 5, pv_i x1, pv_i x2] M Q) (fun B J Q => rs_i mt_X11_bestLane [pv_r m, pv_i x1, pv_i x2] B J Q) := by
  have h4 := ix_4 h
  by_cases c : (∃ t, t < n ∧ x1 = nI t ∧ ra_T I m t 6 = 0) ∧ (0 ≤ x2 ∧ x2 ≤ 1)
  · obtain ⟨⟨t, ht, rfl, h6⟩, c2⟩ := c
    obtain ⟨l1, l2⟩ := lm_of (ix_tv h) ht
    obtain ⟨q, eq⟩ : ∃ q, bst_ I m n t 5 = some q := by
      cases hb : bst_ I m n t 5 with
      | some q => exact ⟨q, rfl⟩
      | none =>
        have := bs_none hb (lmI I m t) l1
        have := of_decide_eq_false this
        exact absurd (Or.inl rfl) this
    refine ⟨if x2 = 0 then nI q else trn_ I m n t q, fun M ta tm Q hr K => ?_, fun S E B Q hS RK K => ?_⟩
    · refine wc_X10_bestLane_0 (re_m5 hr) (ce_taskAt hr (fun t' ht' e => ?_) (fun q => absurd ((i32_tk h4).mpr ⟨t, ht, rfl⟩) q))
      have : t = t' := (nI_eq (by omega) (by omega)).mp e
      subst this
      have g := re_ge hr ht
      obtain ⟨s1, s2, s3, -⟩ := br_S hr.1.2.1
      refine ⟨fun q => absurd q (by omega), fun _ => ⟨g.2, ?_⟩⟩
      rw [re_7 hr ht, (re_bk hr).1, s2]
      refine ⟨fun q => absurd h6 q, fun _ => ⟨fun q => absurd c2.1 (Int32.not_le.mpr q), fun _ => ⟨fun _ => ⟨(re_bk hr).2, 5, s3, ?_⟩, fun q => absurd c2.2 q⟩⟩⟩
      refine ce_bst h ht h6 (fun M' h' => ?_) 5 0 rfl hr
      rw [eq]
      exact K M' h'
    · have hJ := ix_pt (E := E) h hS
      have eT : ra_T (pt_ S E I) m t 6 = ra_T I m t 6 := uf_at hS (by omega) (by omega)
      have e1 : pt_ S E I (m + 1) = I (m + 1) := funext (fun j => uf_at hS (by omega) (by omega))
      refine wq_X11_bestLane_0 RK (rc_dw RK hJ (fun t' ht' e _ => ⟨fun q => absurd q (by decide), fun _ => ⟨fun _ => ?_, fun q => absurd c2 q⟩⟩) (fun q => absurd ⟨t, ht, rfl, eT.trans h6⟩ q))
      have eb : ∀ k, bst_ (pt_ S E I) m n t k = bst_ I m n t k := fun k => bs_eq (fun l _ => by
        unfold al_
        rw [lmI_row e1, st_row e1, show ra_L (pt_ S E I) m l 3 = ra_L I m l 3 by unfold ra_L; rw [e1], show ra_L (pt_ S E I) m l 1 = ra_L I m l 1 by unfold ra_L; rw [e1]]) (fun a c _ _ => by rw [trn_row e1, trn_row e1])
      refine rc_bst RK hJ hP ht (fun J' hJ' => ?_) 5 0 rfl sc_rf
      rw [eb, eq]
      show Q (if x2 = 0 then nI q else trn_ (pt_ S E I) m n t q) J'
      rw [trn_row e1]
      obtain ⟨I', q1, q2⟩ := sc_pt hS hJ'
      rw [q2]
      exact K I' q1
  · refine ⟨-1, fun M ta tm Q hr K => ?_, fun S E B Q hS RK K => ?_⟩
    · refine wc_X10_bestLane_0 (re_m5 hr) (ce_taskAt hr (fun t' ht' e => ?_) (fun q => ⟨fun _ => K M hr, fun y => absurd rfl y⟩))
      have g := re_ge hr ht'
      refine ⟨fun q => absurd q (by omega), fun _ => ⟨g.2, ?_⟩⟩
      rw [re_7 hr ht']
      exact ⟨fun _ => K M hr, fun z => ⟨fun _ => K M hr, fun q1 => ⟨fun q2 => absurd ⟨⟨t', ht', e, z⟩, Int32.not_lt.mp q1, q2⟩ c, fun _ => K M hr⟩⟩⟩
    · refine wq_X11_bestLane_0 RK (rc_dw RK (ix_pt (E := E) h hS) (fun t ht e z => ⟨fun _ => K I sc_rf, fun _ => ⟨fun q => absurd ⟨⟨t, ht, e, ?_⟩, q⟩ c, fun _ => K I sc_rf⟩⟩) (fun _ => ⟨fun _ => K I sc_rf, fun y => absurd rfl y⟩))
      exact (show ra_T (pt_ S E I) m t 6 = ra_T I m t 6 from uf_at hS (by omega) (by omega)).symm.trans z
end Bst2
