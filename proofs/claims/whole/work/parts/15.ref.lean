/-! THE REFERENCE: its object m and its twelve rows, over a base memory B with the ints I. -/
def qi_ (P : Int32 → mm_T → Prop) : Option pv_T → mm_T → Prop := fun r M' => ∃ x, r = some (pv_i x) ∧ P x M'
def ql_ (P : Int64 → mm_T → Prop) : Option pv_T → mm_T → Prop := fun r M' => ∃ x, r = some (pv_l x) ∧ P x M'
def qr_ (P : Nat → mm_T → Prop) : Option pv_T → mm_T → Prop := fun r M' => ∃ x, r = some (pv_r x) ∧ P x M'
def qv_ (P : mm_T → Prop) : Option pv_T → mm_T → Prop := fun r M' => r = none ∧ P M'
def mm_si (B : mm_T) (I : Nat → Nat → Int32) : mm_T := (B.1, B.2.1, I, B.2.2.2.1, B.2.2.2.2)
def i2_u (I : Nat → Nat → Int32) (a j : Nat) (x : Int32) : Nat → Nat → Int32 := fun b k => if b = a ∧ k = j then x else I b k
theorem i2_us {I : Nat → Nat → Int32} {a j : Nat} {x : Int32} : i2_u I a j x a j = x := if_pos ⟨rfl, rfl⟩
theorem i2_ua {I : Nat → Nat → Int32} {a j b k : Nat} {x : Int32} (h : b ≠ a) : i2_u I a j x b k = I b k := if_neg (fun q => h q.1)
theorem i2_uj {I : Nat → Nat → Int32} {a j b k : Nat} {x : Int32} (h : k ≠ j) : i2_u I a j x b k = I b k := if_neg (fun q => h q.2)
def fr_R (k : Nat) : Bool := k == 11 || k == 31 || k == 51
def rf_ok (B : mm_T) (m : Nat) : Prop := mm_k B m = (11, 22) ∧ (mm_r B m 0 = m + 1 ∧ mm_k B (m + 1) = (31, 6200)) ∧ (mm_r B m 1 = m + 2 ∧ mm_k B (m + 2) = (31, 6200)) ∧ (mm_r B m 2 = m + 3 ∧ mm_k B (m + 3) = (31, 10000)) ∧ (mm_r B m 3 = m + 4 ∧ mm_k B (m + 4) = (31, 400)) ∧ (mm_r B m 4 = m + 5 ∧ mm_k B (m + 5) = (31, 8000)) ∧ (mm_r B m 5 = m + 6 ∧ mm_k B (m + 6) = (31, 384)) ∧ (mm_r B m 12 = m + 7 ∧ mm_k B (m + 7) = (51, 400)) ∧ (mm_r B m 13 = m + 8 ∧ mm_k B (m + 8) = (51, 400)) ∧ (mm_r B m 15 = m + 9 ∧ mm_k B (m + 9) = (31, 6)) ∧ (mm_r B m 16 = m + 10 ∧ mm_k B (m + 10) = (31, 6)) ∧ (mm_r B m 20 = m + 11 ∧ mm_k B (m + 11) = (51, 400)) ∧ (mm_r B m 21 = m + 12 ∧ mm_k B (m + 12) = (51, 400))
section RfOk
variable {B : mm_T} {m : Nat}
theorem rf_r1 (h : rf_ok B m) : mm_r B m 0 = m + 1 := h.2.1.1
theorem rf_k1 (h : rf_ok B m) : mm_k B (m + 1) = (31, 6200) := h.2.1.2
theorem rf_r2 (h : rf_ok B m) : mm_r B m 1 = m + 2 := h.2.2.1.1
theorem rf_k2 (h : rf_ok B m) : mm_k B (m + 2) = (31, 6200) := h.2.2.1.2
theorem rf_r3 (h : rf_ok B m) : mm_r B m 2 = m + 3 := h.2.2.2.1.1
theorem rf_k3 (h : rf_ok B m) : mm_k B (m + 3) = (31, 10000) := h.2.2.2.1.2
theorem rf_r4 (h : rf_ok B m) : mm_r B m 3 = m + 4 := h.2.2.2.2.1.1
theorem rf_k4 (h : rf_ok B m) : mm_k B (m + 4) = (31, 400) := h.2.2.2.2.1.2
theorem rf_r5 (h : rf_ok B m) : mm_r B m 4 = m + 5 := h.2.2.2.2.2.1.1
theorem rf_k5 (h : rf_ok B m) : mm_k B (m + 5) = (31, 8000) := h.2.2.2.2.2.1.2
theorem rf_r6 (h : rf_ok B m) : mm_r B m 5 = m + 6 := h.2.2.2.2.2.2.1.1
theorem rf_k6 (h : rf_ok B m) : mm_k B (m + 6) = (31, 384) := h.2.2.2.2.2.2.1.2
theorem rf_r7 (h : rf_ok B m) : mm_r B m 12 = m + 7 := h.2.2.2.2.2.2.2.1.1
theorem rf_k7 (h : rf_ok B m) : mm_k B (m + 7) = (51, 400) := h.2.2.2.2.2.2.2.1.2
theorem rf_r8 (h : rf_ok B m) : mm_r B m 13 = m + 8 := h.2.2.2.2.2.2.2.2.1.1
theorem rf_k8 (h : rf_ok B m) : mm_k B (m + 8) = (51, 400) := h.2.2.2.2.2.2.2.2.1.2
theorem rf_r9 (h : rf_ok B m) : mm_r B m 15 = m + 9 := h.2.2.2.2.2.2.2.2.2.1.1
theorem rf_k9 (h : rf_ok B m) : mm_k B (m + 9) = (31, 6) := h.2.2.2.2.2.2.2.2.2.1.2
theorem rf_r10 (h : rf_ok B m) : mm_r B m 16 = m + 10 := h.2.2.2.2.2.2.2.2.2.2.1.1
theorem rf_k10 (h : rf_ok B m) : mm_k B (m + 10) = (31, 6) := h.2.2.2.2.2.2.2.2.2.2.1.2
theorem rf_r11 (h : rf_ok B m) : mm_r B m 20 = m + 11 := h.2.2.2.2.2.2.2.2.2.2.2.1.1
theorem rf_k11 (h : rf_ok B m) : mm_k B (m + 11) = (51, 400) := h.2.2.2.2.2.2.2.2.2.2.2.1.2
theorem rf_r12 (h : rf_ok B m) : mm_r B m 21 = m + 12 := h.2.2.2.2.2.2.2.2.2.2.2.2.1
theorem rf_k12 (h : rf_ok B m) : mm_k B (m + 12) = (51, 400) := h.2.2.2.2.2.2.2.2.2.2.2.2.2
end RfOk
/-- the judgements of the reference: where a method stands, and its contract -/
def rw_i (t : mt_T) (pc : Nat) (ls : List (Option pv_T)) (st : List pv_T) (B : mm_T) (I : Nat → Nat → Int32) (P : Int32 → (Nat → Nat → Int32) → Prop) : Prop := go_W t fr_R pc ls st (mm_si B I) (qi_ (fun x M' => ∃ I', M' = mm_si B I' ∧ P x I'))
def rw_l (t : mt_T) (pc : Nat) (ls : List (Option pv_T)) (st : List pv_T) (B : mm_T) (I : Nat → Nat → Int32) (P : Int64 → (Nat → Nat → Int32) → Prop) : Prop := go_W t fr_R pc ls st (mm_si B I) (ql_ (fun x M' => ∃ I', M' = mm_si B I' ∧ P x I'))
def rw_v (t : mt_T) (pc : Nat) (ls : List (Option pv_T)) (st : List pv_T) (B : mm_T) (I : Nat → Nat → Int32) (P : (Nat → Nat → Int32) → Prop) : Prop := go_W t fr_R pc ls st (mm_si B I) (qv_ (fun M' => ∃ I', M' = mm_si B I' ∧ P I'))
def rs_i (t : mt_T) (av : List pv_T) (B : mm_T) (I : Nat → Nat → Int32) (P : Int32 → (Nat → Nat → Int32) → Prop) : Prop := rw_i t 0 (cx_e av (mt_n t)) [] B I P
def rs_l (t : mt_T) (av : List pv_T) (B : mm_T) (I : Nat → Nat → Int32) (P : Int64 → (Nat → Nat → Int32) → Prop) : Prop := rw_l t 0 (cx_e av (mt_n t)) [] B I P
def rs_v (t : mt_T) (av : List pv_T) (B : mm_T) (I : Nat → Nat → Int32) (P : (Nat → Nat → Int32) → Prop) : Prop := rw_v t 0 (cx_e av (mt_n t)) [] B I P
/-- fewer locals are known -/
def fg_le : List (Option pv_T) → List (Option pv_T) → Prop
  | [], [] => True
  | none :: a, _ :: b => fg_le a b
  | some v :: a, w :: b => w = some v ∧ fg_le a b
  | _, _ => False
theorem fg_len : ∀ {a b : List (Option pv_T)}, fg_le a b → a.length = b.length
  | [], [], _ => rfl
  | none :: a, _ :: b, h => by rw [List.length_cons, List.length_cons, fg_len (a := a) (b := b) h]
  | some v :: a, w :: b, h => by rw [List.length_cons, List.length_cons, fg_len (a := a) (b := b) h.2]
theorem fg_at : ∀ {a b : List (Option pv_T)} {i : Nat} {v : pv_T}, fg_le a b → a[i]? = some (some v) → b[i]? = some (some v)
  | [], [], i, v, _, h => by simp at h
  | none :: a, _ :: b, 0, v, _, h => by simp at h
  | none :: a, _ :: b, i + 1, v, hl, h => by
    have := fg_at (a := a) (b := b) (i := i) (v := v) hl (by simpa using h)
    simpa using this
  | some x :: a, w :: b, 0, v, hl, h => by
    have e : x = v := by simpa using h
    simp [hl.1, e]
  | some x :: a, w :: b, i + 1, v, hl, h => by
    have := fg_at (a := a) (b := b) (i := i) (v := v) hl.2 (by simpa using h)
    simpa using this
theorem go_fg {t : mt_T} {fr : Nat → Bool} {pc : Nat} {ls ls' : List (Option pv_T)} {st : List pv_T} {M : mm_T} {Q : Option pv_T → mm_T → Prop} (hf : fg_le ls' ls) (k : go_W t fr pc ls' st M Q) : go_W t fr pc ls st M Q := by
  intro cx l p e s m args below meth c H locs cells slots n0 s0 L F I N hl
  refine k cx l p e s m args below meth c H locs cells slots n0 s0 L F I N ⟨(fg_len hf).trans hl.1, fun j v h => hl.2.1 j v (fg_at hf h), hl.2.2.1, hl.2.2.2.1, fun q hq => ?_⟩
  obtain ⟨j, v, rfl, h⟩ := cx_al_of hq
  rw [Nat.zero_add]
  exact cx_L_at hl (fg_at hf h)
section GoVar
variable {t : mt_T} {fr : Nat → Bool} {pc : Nat} {ls : List (Option pv_T)} {st : List pv_T} {M : mm_T} {Q : Option pv_T → mm_T → Prop}
theorem go_getRe {a ix ci k N b : Nat} (hf : fd_rk ci k N) (hk : mm_k M a = (ci, N)) (e : mm_r M a k = b) (hw : Cond.fieldLink (mt_y t).cls ix (cl_T ci k).1 (cl_T ci k).2.1 (cl_T ci k).2.2.1 ∈ tb_) (d : decode (mt_b t) pc = .ok (.getfield ix, 3)) (kk : go_W t fr (pc + 3) ls (pv_r b :: st) M Q) : go_W t fr pc ls (pv_r a :: st) M Q :=
  go_getR hf hk hw d (by rw [e]; exact kk)
theorem nI_vp {j n : Nat} (h : j < n) (hn : n ≤ 100000) : vp_in (nI j) n := vp_in_nI h (by omega)
theorem nI_cl {j n : Nat} (h : j < n) (hn : n ≤ 100000) : (nI j).toNatClampNeg = j := nI_clamp (by omega)
theorem go_ialdN {a tg n j : Nat} {x : Int32} (ht : 20 ≤ tg ∧ (tg - 20) / 20 = 0 ∧ n ≤ 100000) (hk : mm_k M a = (tg, n)) (hx : x = nI j) (hj : j < n) (d : decode (mt_b t) pc = .ok (.iaload, 1)) (kk : go_W t fr (pc + 1) ls (pv_i (mm_i M a j) :: st) M Q) : go_W t fr pc ls (pv_i x :: pv_r a :: st) M Q := by
  subst hx
  exact go_iald ⟨ht.1, ht.2.1⟩ hk (nI_vp hj ht.2.2) d (by rw [nI_cl hj ht.2.2]; exact kk)
theorem go_zaldN {a tg n j : Nat} {x : Int32} (ht : 20 ≤ tg ∧ (tg - 20) / 20 = 1 ∧ n ≤ 100000) (hk : mm_k M a = (tg, n)) (hx : x = nI j) (hj : j < n) (d : decode (mt_b t) pc = .ok (.baload, 1)) (kk : go_W t fr (pc + 1) ls (pv_i (mm_i M a j) :: st) M Q) : go_W t fr pc ls (pv_i x :: pv_r a :: st) M Q := by
  subst hx
  exact go_zald ⟨ht.1, ht.2.1⟩ hk (nI_vp hj ht.2.2) d (by rw [nI_cl hj ht.2.2]; exact kk)
theorem go_iastN {a tg n j : Nat} {x v : Int32} (ht : 20 ≤ tg ∧ (tg - 20) / 20 = 0 ∧ n ≤ 100000) (hk : mm_k M a = (tg, n)) (hfr : fr tg = true) (hx : x = nI j) (hj : j < n) (d : decode (mt_b t) pc = .ok (.iastore, 1)) (kk : go_W t fr (pc + 1) ls st (mm_pi M a j v) Q) : go_W t fr pc ls (pv_i v :: pv_i x :: pv_r a :: st) M Q := by
  subst hx
  exact go_iast ⟨ht.1, ht.2.1⟩ hk hfr (nI_vp hj ht.2.2) d (by rw [nI_cl hj ht.2.2]; exact kk)
theorem go_zastN {a tg n j : Nat} {x v : Int32} (hv : v = 0 ∨ v = 1) (ht : 20 ≤ tg ∧ (tg - 20) / 20 = 1 ∧ n ≤ 100000) (hk : mm_k M a = (tg, n)) (hfr : fr tg = true) (hx : x = nI j) (hj : j < n) (d : decode (mt_b t) pc = .ok (.bastore, 1)) (kk : go_W t fr (pc + 1) ls st (mm_pi M a j v) Q) : go_W t fr pc ls (pv_i v :: pv_i x :: pv_r a :: st) M Q := by
  subst hx
  exact go_zast hv ⟨ht.1, ht.2.1⟩ hk hfr (nI_vp hj ht.2.2) d (by rw [nI_cl hj ht.2.2]; exact kk)
theorem nI_ae {x y : Int32} {a b : Nat} (hx : x = nI a) (hy : y = nI b) : x + y = nI (a + b) := by rw [hx, hy, nI_add]
theorem nI_me {x y : Int32} {a b : Nat} (hx : x = nI a) (hy : y = nI b) : x * y = nI (a * b) := by rw [hx, hy, pk_mul]
theorem go_iincN {i n k : Nat} {z : Int} {x : Int32} (hx : x = nI n) (hn : i < mt_n t) (h : ls[i]? = some (some (pv_i x))) (hv : Int32.ofInt z = nI k) (d : decode (mt_b t) pc = .ok (.iinc i z, 3)) (kk : go_W t fr (pc + 3) (ls.set i (some (pv_i (nI (n + k))))) st M Q) : go_W t fr pc ls st M Q := by
  refine go_iinc (v := nI k) hn h hv d ?_
  rw [hx, nI_add]
  exact kk
theorem go_tabIn {dflt lo hi : Int} {offs : Array Int} {len : Nat} {x v : Int32} {off : Int} {tgt : Nat} (hx : x = v) (h1 : ¬ v.toInt < lo) (h2 : ¬ hi < v.toInt) (ho : offs[(v.toInt - lo).toNat]? = some off) (ht : (pc : Int) + off = (tgt : Int)) (d : decode (mt_b t) pc = .ok (.tableswitch dflt lo hi offs, len)) (k : go_W t fr tgt ls st M Q) : go_W t fr pc ls (pv_i x :: st) M Q := by
  intro cx l p e s m args below meth c H locs cells slots n0 s0 L F I N hl
  subst hx
  exact lv_tableIn F.1 F.2.1 d h1 h2 ho ht (k cx l p e s m args below meth c H locs cells slots n0 s0 L F I N hl)
theorem go_tabOut {dflt lo hi : Int} {offs : Array Int} {len : Nat} {x : Int32} {tgt : Nat} (h : x.toInt < lo ∨ hi < x.toInt) (ht : (pc : Int) + dflt = (tgt : Int)) (d : decode (mt_b t) pc = .ok (.tableswitch dflt lo hi offs, len)) (k : go_W t fr tgt ls st M Q) : go_W t fr pc ls (pv_i x :: st) M Q := by
  intro cx l p e s m args below meth c H locs cells slots n0 s0 L F I N hl
  exact lv_tableOut F.1 F.2.1 d h ht (k cx l p e s m args below meth c H locs cells slots n0 s0 L F I N hl)
end GoVar
