/-! the reference with its long field: the base is (mm_pl B m 14 z) -/
def zw_i (t : mt_T) (pc : Nat) (ls : List (Option pv_T)) (st : List pv_T) (B : mm_T) (m : Nat) (z : Int64) (I : Nat → Nat → Int32) (P : Int32 → Int64 → (Nat → Nat → Int32) → Prop) : Prop := go_W t fr_R pc ls st (mm_si (mm_pl B m 14 z) I) (qi_ (fun x M' => ∃ z' I', M' = mm_si (mm_pl B m 14 z') I' ∧ P x z' I'))
def zs_i (t : mt_T) (av : List pv_T) (B : mm_T) (m : Nat) (z : Int64) (I : Nat → Nat → Int32) (P : Int32 → Int64 → (Nat → Nat → Int32) → Prop) : Prop := zw_i t 0 (cx_e av (mt_n t)) [] B m z I P
theorem zl_ {B : mm_T} {m : Nat} {z : Int64} {I : Nat → Nat → Int32} : mm_l (mm_si (mm_pl B m 14 z) I) m 14 = z := if_pos ⟨rfl, rfl⟩
theorem zp_ {B : mm_T} {m : Nat} {z y : Int64} {I : Nat → Nat → Int32} : mm_pl (mm_si (mm_pl B m 14 z) I) m 14 y = mm_si (mm_pl B m 14 y) I := by
  show (_, _, _, _, _) = (_, _, _, _, _)
  congr 1
  congr 1
  congr 1
  congr 1
  funext b k
  show (if b = m ∧ k = 14 then y else if b = m ∧ k = 14 then z else _) = if b = m ∧ k = 14 then y else _
  split <;> rfl
theorem go_getLe {t : mt_T} {fr : Nat → Bool} {pc : Nat} {ls : List (Option pv_T)} {st : List pv_T} {M : mm_T} {Q : Option pv_T → mm_T → Prop} {a ix ci k N : Nat} {b : Int64} (hf : fd_ok ci k N .long) (hk : mm_k M a = (ci, N)) (e : mm_l M a k = b) (hw : Cond.fieldLink (mt_y t).cls ix (cl_T ci k).1 (cl_T ci k).2.1 (cl_T ci k).2.2.1 ∈ tb_) (d : decode (mt_b t) pc = .ok (.getfield ix, 3)) (kk : go_W t fr (pc + 3) ls (pv_l b :: st) M Q) : go_W t fr pc ls (pv_r a :: st) M Q :=
  go_getL hf hk hw d (by rw [e]; exact kk)
