def TM : u_T := fun k => match k with
  | 0 => ("ClassObjectMirrorModel", "fixedMarks", "[I", true)
  | 1 => ("ClassObjectMirrorModel", "fixedAbove", "[I", true)
  | 2 => ("ClassObjectMirrorModel", "component", "[I", true)
  | 3 => ("ClassObjectMirrorModel", "dims", "[I", true)
  | 4 => ("ClassObjectMirrorModel", "types", "I", false)
  | 5 => ("ClassObjectMirrorModel", "kind", "[I", true)
  | 6 => ("ClassObjectMirrorModel", "size", "[I", true)
  | 7 => ("ClassObjectMirrorModel", "value", "[I", true)
  | 8 => ("ClassObjectMirrorModel", "cell", "[J", true)
  | 9 => ("ClassObjectMirrorModel", "objects", "I", false)
  | 10 => ("ClassObjectMirrorModel", "out", "[I", true)
  | _ => ("ClassObjectMirrorModel", "written", "I", false)
def tyM : Nat → FieldType := fun k => match k with
  | 0 => .array .int
  | 1 => .array .int
  | 2 => .array .int
  | 3 => .array .int
  | 4 => .int
  | 5 => .array .int
  | 6 => .array .int
  | 7 => .array .int
  | 8 => .array .long
  | 9 => .int
  | 10 => .array .int
  | _ => .int
theorem nmM : ∀ a, a < 12 → ∀ b, b < 12 → a ≠ b → (TM a).2.1 ≠ (TM b).2.1 := by decide +kernel
theorem tyM_ok : ∀ k, k < 12 → parseFieldDescriptor (TM k).2.2.1 = some (tyM k) := by decide +kernel
abbrev SM : Type := (Nat → Int32) × (Nat → Int32) × (Nat → Int32) × (Nat → Int32) × (Int32) × (Nat → Int32) × (Nat → Int32) × (Nat → Int32) × (Nat → Int64) × (Int32) × (Nat → Int32) × (Int32)
def m_fm (u : SM) : Nat → Int32 := u.1
def m_fa (u : SM) : Nat → Int32 := u.2.1
def m_comp (u : SM) : Nat → Int32 := u.2.2.1
def m_dims (u : SM) : Nat → Int32 := u.2.2.2.1
def m_types (u : SM) : Int32 := u.2.2.2.2.1
def m_kind (u : SM) : Nat → Int32 := u.2.2.2.2.2.1
def m_size (u : SM) : Nat → Int32 := u.2.2.2.2.2.2.1
def m_val (u : SM) : Nat → Int32 := u.2.2.2.2.2.2.2.1
def m_cell (u : SM) : Nat → Int64 := u.2.2.2.2.2.2.2.2.1
def m_objs (u : SM) : Int32 := u.2.2.2.2.2.2.2.2.2.1
def m_out (u : SM) : Nat → Int32 := u.2.2.2.2.2.2.2.2.2.2.1
def m_wr (u : SM) : Int32 := u.2.2.2.2.2.2.2.2.2.2.2
def m_u_fm (u : SM) (i v : Int32) : SM := (upd (m_fm u) i.toNatClampNeg v, m_fa u, m_comp u, m_dims u, m_types u, m_kind u, m_size u, m_val u, m_cell u, m_objs u, m_out u, m_wr u)
def m_u_fa (u : SM) (i v : Int32) : SM := (m_fm u, upd (m_fa u) i.toNatClampNeg v, m_comp u, m_dims u, m_types u, m_kind u, m_size u, m_val u, m_cell u, m_objs u, m_out u, m_wr u)
def m_u_comp (u : SM) (i v : Int32) : SM := (m_fm u, m_fa u, upd (m_comp u) i.toNatClampNeg v, m_dims u, m_types u, m_kind u, m_size u, m_val u, m_cell u, m_objs u, m_out u, m_wr u)
def m_u_dims (u : SM) (i v : Int32) : SM := (m_fm u, m_fa u, m_comp u, upd (m_dims u) i.toNatClampNeg v, m_types u, m_kind u, m_size u, m_val u, m_cell u, m_objs u, m_out u, m_wr u)
def m_u_types (u : SM) (v : Int32) : SM := (m_fm u, m_fa u, m_comp u, m_dims u, v, m_kind u, m_size u, m_val u, m_cell u, m_objs u, m_out u, m_wr u)
def m_u_kind (u : SM) (i v : Int32) : SM := (m_fm u, m_fa u, m_comp u, m_dims u, m_types u, upd (m_kind u) i.toNatClampNeg v, m_size u, m_val u, m_cell u, m_objs u, m_out u, m_wr u)
def m_u_size (u : SM) (i v : Int32) : SM := (m_fm u, m_fa u, m_comp u, m_dims u, m_types u, m_kind u, upd (m_size u) i.toNatClampNeg v, m_val u, m_cell u, m_objs u, m_out u, m_wr u)
def m_u_val (u : SM) (i v : Int32) : SM := (m_fm u, m_fa u, m_comp u, m_dims u, m_types u, m_kind u, m_size u, upd (m_val u) i.toNatClampNeg v, m_cell u, m_objs u, m_out u, m_wr u)
def m_u_cell (u : SM) (i : Int32) (v : Int64) : SM := (m_fm u, m_fa u, m_comp u, m_dims u, m_types u, m_kind u, m_size u, m_val u, vp_updL (m_cell u) i.toNatClampNeg v, m_objs u, m_out u, m_wr u)
def m_u_objs (u : SM) (v : Int32) : SM := (m_fm u, m_fa u, m_comp u, m_dims u, m_types u, m_kind u, m_size u, m_val u, m_cell u, v, m_out u, m_wr u)
def m_u_out (u : SM) (i v : Int32) : SM := (m_fm u, m_fa u, m_comp u, m_dims u, m_types u, m_kind u, m_size u, m_val u, m_cell u, m_objs u, upd (m_out u) i.toNatClampNeg v, m_wr u)
def m_u_wr (u : SM) (v : Int32) : SM := (m_fm u, m_fa u, m_comp u, m_dims u, m_types u, m_kind u, m_size u, m_val u, m_cell u, m_objs u, m_out u, v)
def wM (h : Nat) (a : Nat → Nat) (k : Nat → ClassId) (u : SM) : va_W := [(h, .inr (0, [.ref (a 0), .ref (a 1), .ref (a 2), .ref (a 3), .int (m_types u), .ref (a 4), .ref (a 5), .ref (a 6), .ref (a 7), .int (m_objs u), .ref (a 8), .int (m_wr u)])), (a 0, .inl (k 0, 22, .inl (m_fm u))), (a 1, .inl (k 1, 22, .inl (m_fa u))), (a 2, .inl (k 2, 300, .inl (m_comp u))), (a 3, .inl (k 3, 300, .inl (m_dims u))), (a 4, .inl (k 4, 80, .inl (m_kind u))), (a 5, .inl (k 5, 80, .inl (m_size u))), (a 6, .inl (k 6, 80, .inl (m_val u))), (a 7, .inl (k 7, 640, .inr (.inl (m_cell u)))), (a 8, .inl (k 8, 900, .inl (m_out u)))]
def tM (k : Nat → ClassId) : List (ClassId × FieldType) := [(k 0, .int), (k 1, .int), (k 2, .int), (k 3, .int), (k 4, .int), (k 5, .int), (k 6, .int), (k 7, .long), (k 8, .int)]
def aM (h : Nat) (a : Nat → Nat) : Nat → Prop := fun q => q = h ∨ ∃ i, i < 9 ∧ q = a i
abbrev cls_l : List vw_C := [("ClassObjectMirrorModel", TM, 12)]
def pM (dC : Nat → ClassId) (dI : Nat → Nat → Nat) (h : Nat) (a : Nat → Nat) (k : Nat → ClassId) (u : SM) (U : State) : Prop := va_P (dC, dI) cls_l (wM h a k u) U.heap ∧ va_K (dC, dI) cls_l (tM k) U ∧ va_D (aM h a) (wM h a k u)
theorem pM_up {dC : Nat → ClassId} {dI : Nat → Nat → Nat} {h : Nat} {a : Nat → Nat} {k : Nat → ClassId} {u : SM} {s U : State} {H : Heap} (hP : va_P (dC, dI) cls_l (wM h a k u) H) (hK : va_K (dC, dI) cls_l (tM k) s) (hD : va_D (aM h a) (wM h a k u)) (hU : U.heap = H) (hW : s.WarmedH U.vm) : pM dC dI h a k u U := ⟨by rw [hU]; exact hP, va_K.moved hW.alike hK, hD⟩
theorem pM_bl {dC : Nat → ClassId} {dI : Nat → Nat → Nat} {h : Nat} {a : Nat → Nat} {k : Nat → ClassId} {u : SM} {av : List Value} : FrameBlind (va_Pc av (pM dC dI h a k u)) := fun a U g mk q => ⟨q.1, q.2.1, va_K.moved (u := U) (U := U.calling g mk a) (Vm.Alike.refl U.vm) q.2.2.1, q.2.2.2⟩
theorem inM : ∀ w ∈ u_ws "ClassObjectMirrorModel" TM 12, w ∈ gW := by
  intro w h
  obtain ⟨k, hk, rfl⟩ := List.mem_map.mp h
  have hk := List.mem_range.mp hk
  rcases (show k = 0 ∨ k = 1 ∨ k = 2 ∨ k = 3 ∨ k = 4 ∨ k = 5 ∨ k = 6 ∨ k = 7 ∨ k = 8 ∨ k = 9 ∨ k = 10 ∨ k = 11 by omega) with rfl | rfl | rfl | rfl | rfl | rfl | rfl | rfl | rfl | rfl | rfl | rfl
  · exact gw_313
  · exact gw_315
  · exact gw_317
  · exact gw_319
  · exact gw_321
  · exact gw_323
  · exact gw_325
  · exact gw_327
  · exact gw_329
  · exact gw_331
  · exact gw_333
  · exact gw_335
/-- a switch's number: outside, or one of its places -/
theorem sw_tab (x : Int32) (lo hi : Int) (n : Nat) (hn : hi = lo + n - 1) : (x.toInt < lo ∨ hi < x.toInt) ∨ ∃ j : Nat, j < n ∧ x = Int32.ofInt (lo + (j : Int)) := by
  by_cases h1 : x.toInt < lo
  · exact Or.inl (Or.inl h1)
  · by_cases h2 : hi < x.toInt
    · exact Or.inl (Or.inr h2)
    · refine Or.inr ⟨(x.toInt - lo).toNat, by omega, ?_⟩
      rw [show lo + (((x.toInt - lo).toNat : Nat) : Int) = x.toInt by omega]
      exact (Int32.ofInt_toInt x).symm
