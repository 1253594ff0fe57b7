/-! THE PLAIN MEMORY: cells by number, fields and elements by (cell, place); a judgement over it that hides the machine. -/
abbrev pv_T : Type := Int32 ⊕ (Int64 ⊕ Nat)
abbrev pv_i (x : Int32) : pv_T := .inl x
abbrev pv_l (x : Int64) : pv_T := .inr (.inl x)
abbrev pv_r (a : Nat) : pv_T := .inr (.inr a)
/-- how many cells there are; kind and size of each; ints, longs, references (0: null) by cell and place -/
abbrev mm_T : Type := Nat × (Nat → Nat × Nat) × (Nat → Nat → Int32) × (Nat → Nat → Int64) × (Nat → Nat → Nat)
def mm_n (M : mm_T) : Nat := M.1
def mm_k (M : mm_T) (a : Nat) : Nat × Nat := if a < M.1 then M.2.1 a else (0, 0)
def mm_i (M : mm_T) (a j : Nat) : Int32 := M.2.2.1 a j
def mm_l (M : mm_T) (a j : Nat) : Int64 := M.2.2.2.1 a j
def mm_r (M : mm_T) (a j : Nat) : Nat := M.2.2.2.2 a j
def mm_pi (M : mm_T) (a j : Nat) (x : Int32) : mm_T := (M.1, M.2.1, fun b k => if b = a ∧ k = j then x else M.2.2.1 b k, M.2.2.2.1, M.2.2.2.2)
def mm_pl (M : mm_T) (a j : Nat) (x : Int64) : mm_T := (M.1, M.2.1, M.2.2.1, fun b k => if b = a ∧ k = j then x else M.2.2.2.1 b k, M.2.2.2.2)
def mm_pr (M : mm_T) (a j : Nat) (x : Nat) : mm_T := (M.1, M.2.1, M.2.2.1, M.2.2.2.1, fun b k => if b = a ∧ k = j then x else M.2.2.2.2 b k)
/-- a new cell of a kind and a size, all 0 -/
def mm_w (M : mm_T) (tg n : Nat) : mm_T := (M.1 + 1, fun b => if b = M.1 then (tg, n) else M.2.1 b, fun b k => if b = M.1 then 0 else M.2.2.1 b k, fun b k => if b = M.1 then 0 else M.2.2.2.1 b k, fun b k => if b = M.1 then 0 else M.2.2.2.2 b k)
/-- a row of ints anew, from place to place -/
def mm_ws (M : mm_T) (a : Nat) (f : Nat → Int32) : mm_T := (M.1, M.2.1, fun b k => if b = a then f k else M.2.2.1 b k, M.2.2.2.1, M.2.2.2.2)
/-- the slots of the cells 5 .. k - 1 -/
def mm_t (M : mm_T) : Nat → Nat
  | 0 => 0
  | k + 1 => mm_t M k + if 5 ≤ k then (mm_k M k).2 else 0
theorem mm_t_eq {M M' : mm_T} : ∀ {k : Nat}, (∀ a, a < k → mm_k M' a = mm_k M a) → mm_t M' k = mm_t M k
  | 0, _ => rfl
  | k + 1, h => by
    show mm_t M' k + _ = mm_t M k + _
    rw [mm_t_eq (fun a ha => h a (Nat.lt_succ_of_lt ha)), h k (Nat.lt_succ_self k)]
theorem mm_t_mono {M : mm_T} {j : Nat} : ∀ {k : Nat}, j ≤ k → mm_t M j ≤ mm_t M k
  | 0, h => by rw [Nat.le_zero.mp h]; exact Nat.le_refl _
  | k + 1, h => by
    rcases Nat.lt_or_ge k j with q | q
    · rw [show j = k + 1 by omega]; exact Nat.le_refl _
    · exact Nat.le_trans (mm_t_mono q) (Nat.le_add_right _ _)
/-- what was outside the kinds fr is as it was; no cell is lost, none changes its kind -/
def mm_S (fr : Nat → Bool) (M M' : mm_T) : Prop := mm_n M ≤ mm_n M' ∧ (∀ a, a < mm_n M → mm_k M' a = mm_k M a) ∧ ∀ a, a < mm_n M → fr (mm_k M a).1 = false ∨ (mm_k M a).1 = 15 → (∀ j, mm_i M' a j = mm_i M a j) ∧ (∀ j, mm_l M' a j = mm_l M a j) ∧ ∀ j, mm_r M' a j = mm_r M a j
theorem mm_S_rf {fr : Nat → Bool} {M : mm_T} : mm_S fr M M := ⟨Nat.le_refl _, fun _ _ => rfl, fun _ _ _ => ⟨fun _ => rfl, fun _ => rfl, fun _ => rfl⟩⟩
theorem mm_S_tr {fr : Nat → Bool} {M M1 M2 : mm_T} (h : mm_S fr M M1) (h' : mm_S fr M1 M2) : mm_S fr M M2 := by
  refine ⟨Nat.le_trans h.1 h'.1, fun a ha => (h'.2.1 a (Nat.lt_of_lt_of_le ha h.1)).trans (h.2.1 a ha), fun a ha hf => ?_⟩
  obtain ⟨x1, x2, x3⟩ := h.2.2 a ha hf
  obtain ⟨y1, y2, y3⟩ := h'.2.2 a (Nat.lt_of_lt_of_le ha h.1) (by rw [h.2.1 a ha]; exact hf)
  exact ⟨fun j => (y1 j).trans (x1 j), fun j => (y2 j).trans (x2 j), fun j => (y3 j).trans (x3 j)⟩
theorem mm_S_up {fr fr' : Nat → Bool} {M M1 : mm_T} (h : mm_S fr' M M1) (hf : ∀ k, fr' k = true → fr k = true) : mm_S fr M M1 :=
  ⟨h.1, h.2.1, fun a ha q => h.2.2 a ha (q.elim (fun z => Or.inl (by cases hz : fr' (mm_k M a).1 with
    | false => rfl
    | true => rw [hf _ hz] at z; cases z)) Or.inr)⟩
theorem mm_S_pi {fr : Nat → Bool} {M : mm_T} {a j : Nat} {x : Int32} (h : fr (mm_k M a).1 = true) (h2 : (mm_k M a).1 ≠ 15) : mm_S fr M (mm_pi M a j x) := by
  refine ⟨Nat.le_refl _, fun _ _ => rfl, fun b _ hb => ⟨fun k => ?_, fun _ => rfl, fun _ => rfl⟩⟩
  show (if b = a ∧ k = j then x else mm_i M b k) = _
  rw [if_neg]
  rintro ⟨rfl, -⟩
  rcases hb with q | q
  · rw [h] at q; cases q
  · exact h2 q
theorem mm_S_pl {fr : Nat → Bool} {M : mm_T} {a j : Nat} {x : Int64} (h : fr (mm_k M a).1 = true) (h2 : (mm_k M a).1 ≠ 15) : mm_S fr M (mm_pl M a j x) := by
  refine ⟨Nat.le_refl _, fun _ _ => rfl, fun b _ hb => ⟨fun _ => rfl, fun k => ?_, fun _ => rfl⟩⟩
  show (if b = a ∧ k = j then x else mm_l M b k) = _
  rw [if_neg]
  rintro ⟨rfl, -⟩
  rcases hb with q | q
  · rw [h] at q; cases q
  · exact h2 q
theorem mm_S_pr {fr : Nat → Bool} {M : mm_T} {a j : Nat} {x : Nat} (h : fr (mm_k M a).1 = true) (h2 : (mm_k M a).1 ≠ 15) : mm_S fr M (mm_pr M a j x) := by
  refine ⟨Nat.le_refl _, fun _ _ => rfl, fun b _ hb => ⟨fun _ => rfl, fun _ => rfl, fun k => ?_⟩⟩
  show (if b = a ∧ k = j then x else mm_r M b k) = _
  rw [if_neg]
  rintro ⟨rfl, -⟩
  rcases hb with q | q
  · rw [h] at q; cases q
  · exact h2 q
theorem mm_S_ws {fr : Nat → Bool} {M : mm_T} {a : Nat} {f : Nat → Int32} (h : fr (mm_k M a).1 = true) (h2 : (mm_k M a).1 ≠ 15) : mm_S fr M (mm_ws M a f) := by
  refine ⟨Nat.le_refl _, fun _ _ => rfl, fun b _ hb => ⟨fun k => ?_, fun _ => rfl, fun _ => rfl⟩⟩
  show (if b = a then f k else mm_i M b k) = _
  rw [if_neg]
  rintro rfl
  rcases hb with q | q
  · rw [h] at q; cases q
  · exact h2 q
theorem mm_S_w {fr : Nat → Bool} {M : mm_T} {tg n : Nat} : mm_S fr M (mm_w M tg n) := by
  have e : ∀ {a : Nat}, a < mm_n M → ¬ a = M.1 := fun ha => Nat.ne_of_lt ha
  refine ⟨Nat.le_succ _, fun a ha => ?_, fun a ha _ => ⟨fun j => if_neg (e ha), fun j => if_neg (e ha), fun j => if_neg (e ha)⟩⟩
  show (if a < M.1 + 1 then (if a = M.1 then (tg, n) else M.2.1 a) else (0, 0)) = if a < M.1 then M.2.1 a else (0, 0)
  have ha' : a < M.1 := ha
  rw [if_pos (Nat.lt_succ_of_lt ha'), if_neg (e ha), if_pos ha']
theorem mm_k_w {M : mm_T} {tg n : Nat} : mm_k (mm_w M tg n) (mm_n M) = (tg, n) := by
  show (if M.1 < M.1 + 1 then (if M.1 = M.1 then (tg, n) else M.2.1 M.1) else (0, 0)) = (tg, n)
  rw [if_pos (Nat.lt_succ_self _), if_pos rfl]
theorem mm_k_lt {M : mm_T} {a : Nat} (h : mm_k M a ≠ (0, 0)) : a < mm_n M := by
  rcases Nat.lt_or_ge a M.1 with q | q
  · exact q
  · exact absurd (if_neg (Nat.not_lt.mpr q)) h
/-! the classes' tables by number -/
def cl_T (c : Nat) : u_T := match c with
  | 0 => TX0 | 1 => TX1 | 2 => TX2 | 3 => TX3 | 4 => TX4 | 5 => TX5 | 6 => TX6 | 7 => TX7 | 8 => TX8 | 9 => TX9 | 10 => TX10 | _ => TX11
def cl_y (c : Nat) : Nat → FieldType := match c with
  | 0 => tyX0 | 1 => tyX1 | 2 => tyX2 | 3 => tyX3 | 4 => tyX4 | 5 => tyX5 | 6 => tyX6 | 7 => tyX7 | 8 => tyX8 | 9 => tyX9 | 10 => tyX10 | _ => tyX11
def cl_C (c : Nat) : String := match c with
  | 0 => RX0 | 1 => RX1 | 2 => RX2 | 3 => RX3 | 4 => RX4 | 5 => RX5 | 6 => RX6 | 7 => RX7 | 8 => RX8 | 9 => RX9 | 10 => RX10 | _ => RX11
def cl_n (c : Nat) : Nat := match c with
  | 0 => 4 | 1 => 3 | 2 => 1 | 3 => 14 | 4 => 2 | 5 => 3 | 6 => 17 | 7 => 8 | 8 => 8 | 9 => 5 | 10 => 14 | _ => 22
theorem cl_at : ∀ {c : Nat}, c < 12 → vwCl[c]? = some (cl_C c, cl_T c, cl_n c)
  | 0, _ => rfl | 1, _ => rfl | 2, _ => rfl | 3, _ => rfl | 4, _ => rfl | 5, _ => rfl | 6, _ => rfl | 7, _ => rfl | 8, _ => rfl | 9, _ => rfl | 10, _ => rfl | 11, _ => rfl
  | n + 12, h => by omega
theorem cl_in : ∀ {c : Nat}, c < 12 → ∀ w ∈ u_ws (cl_C c) (cl_T c) (cl_n c), w ∈ tb_
  | 0, _ => inlX0 | 1, _ => inlX1 | 2, _ => inlX2 | 3, _ => inlX3 | 4, _ => inlX4 | 5, _ => inlX5 | 6, _ => inlX6 | 7, _ => inlX7 | 8, _ => inlX8 | 9, _ => inlX9 | 10, _ => inlX10 | 11, _ => inlX11
  | n + 12, h => by omega
theorem cl_ty : ∀ {c : Nat}, c < 12 → ∀ k, k < cl_n c → parseFieldDescriptor (cl_T c k).2.2.1 = some (cl_y c k)
  | 0, _ => tyX0_ok | 1, _ => tyX1_ok | 2, _ => tyX2_ok | 3, _ => tyX3_ok | 4, _ => tyX4_ok | 5, _ => tyX5_ok | 6, _ => tyX6_ok | 7, _ => tyX7_ok | 8, _ => tyX8_ok | 9, _ => tyX9_ok | 10, _ => tyX10_ok | 11, _ => tyX11_ok
  | n + 12, h => by omega
theorem cl_nm : ∀ {c : Nat}, c < 12 → ∀ a, a < cl_n c → ∀ b, b < cl_n c → a ≠ b → (cl_T c a).2.1 ≠ (cl_T c b).2.1
  | 0, _ => nmX0 | 1, _ => nmX1 | 2, _ => nmX2 | 3, _ => nmX3 | 4, _ => nmX4 | 5, _ => nmX5 | 6, _ => nmX6 | 7, _ => nmX7 | 8, _ => nmX8 | 9, _ => nmX9 | 10, _ => nmX10 | 11, _ => nmX11
  | n + 12, h => by omega
/-! the arrays' kinds: 0 int, 1 boolean, 2 Lane, 3 Task, 4 Timer, 5 Worker; tag = 20 + 20 * kind + region -/
def ar_c (y : Nat) : Nat := match y with | 2 => 3 | 3 => 6 | 4 => 7 | _ => 9
def ar_y (y : Nat) : FieldType := match y with | 0 => .int | 1 => .boolean | y => .object (cl_C (ar_c y))
/-! the context: the base, the outer arrays' addresses (1 the script, 2 .. 4 the static rows), classes and slots, the arrays' classes -/
abbrev cx_T : Type := Nat × (Nat → Nat) × va_G × (Nat → ClassId)
def cx_a (cx : cx_T) (a : Nat) : Nat := if a < 5 then cx.2.1 a else cx.1 + (a - 5)
def cx_o (cx : cx_T) (a : Nat) : Option Nat := if a = 0 then none else some (cx_a cx a)
def cx_v (cx : cx_T) (v : pv_T) : Value := match v with
  | .inl x => .int x
  | .inr (.inl x) => .long x
  | .inr (.inr a) => va_rf (cx_o cx a)
def cx_ty (cx : cx_T) : List (ClassId × FieldType) := (List.range 6).map fun y => (cx.2.2.2 y, ar_y y)
theorem cx_ty_at (cx : cx_T) {y : Nat} (h : y < 6) : (cx_ty cx)[y]? = some (cx.2.2.2 y, ar_y y) := by
  unfold cx_ty
  rw [List.getElem?_map, List.getElem?_range h]
  rfl
theorem cx_o_ref {cx : cx_T} {a : Nat} (h : a ≠ 0) : va_rf (cx_o cx a) = .ref (cx_a cx a) := by
  unfold cx_o
  rw [if_neg h]
  rfl
theorem cx_o_null {cx : cx_T} : va_rf (cx_o cx 0) = .null := rfl
theorem cx_v_ref {cx : cx_T} {a : Nat} (h : a ≠ 0) : cx_v cx (pv_r a) = .ref (cx_a cx a) := cx_o_ref h
theorem cx_a_own {cx : cx_T} {a : Nat} (h : 5 ≤ a) : cx_a cx a = cx.1 + (a - 5) := by
  unfold cx_a
  rw [if_neg (by omega)]
theorem cx_a_inj {cx : cx_T} {a b : Nat} (ha : 5 ≤ a) (hb : 5 ≤ b) (h : cx_a cx a = cx_a cx b) : a = b := by
  rw [cx_a_own ha, cx_a_own hb] at h
  omega
/-! what a cell of the heap holds -/
def hp_v (cx : cx_T) (M : mm_T) (a : Nat) (ty : FieldType) (j : Nat) : Value := match ty with
  | .int => .int (mm_i M a j)
  | .boolean => .int (mm_i M a j)
  | .long => .long (mm_l M a j)
  | _ => va_rf (cx_o cx (mm_r M a j))
def hp_w (cx : cx_T) (M : mm_T) (a y j : Nat) : Value := if y < 2 then .int (mm_i M a j) else va_rf (cx_o cx (mm_r M a j))
def hp_ok (cx : cx_T) (M : mm_T) (H : Heap) (a : Nat) : Prop :=
  ((mm_k M a).1 < 12 ∧ (mm_k M a).2 = cl_n (mm_k M a).1 ∧ ∃ cell : Cell, H[cx_a cx a]? = some cell ∧ cell.cls = cx.2.2.1.1 (mm_k M a).1 ∧ cell.vm = .none ∧ cell.slots.size = (mm_k M a).2 ∧ ∀ k, k < (mm_k M a).2 → cell.slots[cx.2.2.1.2 (mm_k M a).1 k]? = some (hp_v cx M a (cl_y (mm_k M a).1 k) k)) ∨
  (20 ≤ (mm_k M a).1 ∧ ((mm_k M a).1 - 20) / 20 < 6 ∧ (mm_k M a).2 < 2 ^ 31 ∧ H[cx_a cx a]? = some (arrV (cx.2.2.2 (((mm_k M a).1 - 20) / 20)) (mm_k M a).2 (hp_w cx M a (((mm_k M a).1 - 20) / 20))))
theorem hp_ok_size {cx : cx_T} {M : mm_T} {H : Heap} {a : Nat} (h : hp_ok cx M H a) : ∃ cell : Cell, H[cx_a cx a]? = some cell ∧ cell.slots.size = (mm_k M a).2 := by
  rcases h with ⟨-, -, cell, h1, -, -, h2, -⟩ | ⟨-, -, -, h⟩
  · exact ⟨cell, h1, h2⟩
  · exact ⟨_, h, arrV_size _ _ _⟩
theorem hp_same {cx : cx_T} {M M' : mm_T} {H H' : Heap} {a : Nat} (h : hp_ok cx M H a) (hk : mm_k M' a = mm_k M a) (hi : ∀ j, mm_i M' a j = mm_i M a j) (hl : ∀ j, mm_l M' a j = mm_l M a j) (hr : ∀ j, mm_r M' a j = mm_r M a j) (hH : H'[cx_a cx a]? = H[cx_a cx a]?) : hp_ok cx M' H' a := by
  have e1 : ∀ ty j, hp_v cx M' a ty j = hp_v cx M a ty j := by
    intro ty j
    unfold hp_v
    rw [hi, hl, hr]
  have e2 : ∀ y, hp_w cx M' a y = hp_w cx M a y := by
    intro y
    funext j
    unfold hp_w
    rw [hi, hr]
  unfold hp_ok
  rw [hk, hH]
  simp only [e1, e2]
  exact h
