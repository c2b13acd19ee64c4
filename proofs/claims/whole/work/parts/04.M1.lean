def ff_M_noType (u0 : SM) (p0 : Int32) : Int32 := (if p0 < 0 then 1 else (if p0 < (m_types u0) then 0 else 1))
abbrev ws_M_noType : List Cond := .code yy_M_noType bb_M_noType 2 (some .boolean) :: gW
abbrev rm_M_noType : Room := { frames := 0, cells := 0, slots := 0, locals := 0 }
set_option maxHeartbeats 4000000 in
set_option maxRecDepth 100000 in
theorem mm_M_noType (l : Launch) (dC : Nat → ClassId) (dI : Nat → Nat → Nat) (h : Nat) (a : Nat → Nat) (k : Nat → ClassId) (u0 : SM) (p0 : Int32) : Met l yy_M_noType ws_M_noType rm_M_noType (va_Pc [.ref h, .int p0] (pM dC dI h a k u0)) (vp_Si (fun r => r = ff_M_noType u0 p0)) 0 0 (fun _ => False) := by
  refine Met.ofW (cc := bb_M_noType) (maxL := 2) (ret := (some .boolean)) (by decide) rfl ?_
  intro p e s m args below meth c s₁ B hml hv
  obtain ⟨rfl, hP, hK, hD⟩ := hv
  have hx := B.exec
  have hb := B.bytes
  have hr := B.returns
  have hts : ∀ w ∈ gW, w.before _ s = true := fun w h => atoms_spec (ws := ws_M_noType) B.pre w (List.mem_cons_of_mem _ h)
  have hown : s.vm.findClass "ClassObjectMirrorModel" = some m.cls := findClass_of_methodNamed B.named
  have hlocks := B.notSynchronized
  have hS : va_S (aM h a) s.heap s.heap [] := va_S.rf
  have hl := lv_entry ([.ref h, .int p0]) (n := 2) (Nat.le_of_ble_eq_true rfl)
  rw [lg_entry_eq]
  generalize (lg_sl ([.ref h, .int p0]) ++ List.replicate (2 - (lg_sl ([.ref h, .int p0])).length) Slot.unset).toArray = ls at hl ⊢
  have hl : lv_has ls 2 [(0, .ref h), (1, .int p0)] := hl
  have hf := ff_M_noType.eq_1 u0 p0
  refine lv_iload_n hx hb dd_M_noType_0 rfl (lv_at hl 1 rfl) ?_
  refine lv_if_lt (tgt := 12) hx hb dd_M_noType_1 (by decide) (fun c1 => ?_) (fun c1 => ?_)
  · have hf := hf.trans (if_pos c1)
    refine lv_iconst (v := 1) hx hb dd_M_noType_12 (by decide) ?_
    refine lv_goto (tgt := 17) hx hb dd_M_noType_13 (by decide) ?_
    exact W.zret (ty := .boolean) (v := (1 : Int32)) hx hb hr (by decide) (fun t ht hW => ⟨(1 : Int32), rfl, hf.symm, ht⟩) (fun _ h => by cases h) dd_M_noType_17
  · have hf := hf.trans (if_neg c1)
    refine lv_iload_n hx hb dd_M_noType_4 rfl (lv_at hl 1 rfl) ?_
    refine lv_aload_n hx hb dd_M_noType_5 rfl (lv_at hl 0 rfl) ?_
    refine va_get (D := (dC, dI)) (ci := 0) (v := .int (m_types u0)) (C := "ClassObjectMirrorModel") (T := TM) (N := 12) hx hb hts inM hown hK hP 0 rfl rfl 4 (by decide) (hts _ gw_305) (fun _ h9 => h9) rfl dd_M_noType_6 ?_
    refine lv_icmp_lt (tgt := 16) hx hb dd_M_noType_9 (by decide) (fun c2 => ?_) (fun c2 => ?_)
    · have hf := hf.trans (if_pos c2)
      refine lv_iconst (v := 0) hx hb dd_M_noType_16 (by decide) ?_
      exact W.zret (ty := .boolean) (v := (0 : Int32)) hx hb hr (by decide) (fun t ht hW => ⟨(0 : Int32), rfl, hf.symm, ht⟩) (fun _ h => by cases h) dd_M_noType_17
    · have hf := hf.trans (if_neg c2)
      refine lv_iconst (v := 1) hx hb dd_M_noType_12 (by decide) ?_
      refine lv_goto (tgt := 17) hx hb dd_M_noType_13 (by decide) ?_
      exact W.zret (ty := .boolean) (v := (1 : Int32)) hx hb hr (by decide) (fun t ht hW => ⟨(1 : Int32), rfl, hf.symm, ht⟩) (fun _ h => by cases h) dd_M_noType_17

def ff_M_noObject (u0 : SM) (p0 : Int32) : Int32 := (if p0 < 0 then 1 else (if p0 < (m_objs u0) then 0 else 1))
abbrev ws_M_noObject : List Cond := .code yy_M_noObject bb_M_noObject 2 (some .boolean) :: gW
abbrev rm_M_noObject : Room := { frames := 0, cells := 0, slots := 0, locals := 0 }
set_option maxHeartbeats 4000000 in
set_option maxRecDepth 100000 in
theorem mm_M_noObject (l : Launch) (dC : Nat → ClassId) (dI : Nat → Nat → Nat) (h : Nat) (a : Nat → Nat) (k : Nat → ClassId) (u0 : SM) (p0 : Int32) : Met l yy_M_noObject ws_M_noObject rm_M_noObject (va_Pc [.ref h, .int p0] (pM dC dI h a k u0)) (vp_Si (fun r => r = ff_M_noObject u0 p0)) 0 0 (fun _ => False) := by
  refine Met.ofW (cc := bb_M_noObject) (maxL := 2) (ret := (some .boolean)) (by decide) rfl ?_
  intro p e s m args below meth c s₁ B hml hv
  obtain ⟨rfl, hP, hK, hD⟩ := hv
  have hx := B.exec
  have hb := B.bytes
  have hr := B.returns
  have hts : ∀ w ∈ gW, w.before _ s = true := fun w h => atoms_spec (ws := ws_M_noObject) B.pre w (List.mem_cons_of_mem _ h)
  have hown : s.vm.findClass "ClassObjectMirrorModel" = some m.cls := findClass_of_methodNamed B.named
  have hlocks := B.notSynchronized
  have hS : va_S (aM h a) s.heap s.heap [] := va_S.rf
  have hl := lv_entry ([.ref h, .int p0]) (n := 2) (Nat.le_of_ble_eq_true rfl)
  rw [lg_entry_eq]
  generalize (lg_sl ([.ref h, .int p0]) ++ List.replicate (2 - (lg_sl ([.ref h, .int p0])).length) Slot.unset).toArray = ls at hl ⊢
  have hl : lv_has ls 2 [(0, .ref h), (1, .int p0)] := hl
  have hf := ff_M_noObject.eq_1 u0 p0
  refine lv_iload_n hx hb dd_M_noObject_0 rfl (lv_at hl 1 rfl) ?_
  refine lv_if_lt (tgt := 12) hx hb dd_M_noObject_1 (by decide) (fun c1 => ?_) (fun c1 => ?_)
  · have hf := hf.trans (if_pos c1)
    refine lv_iconst (v := 1) hx hb dd_M_noObject_12 (by decide) ?_
    refine lv_goto (tgt := 17) hx hb dd_M_noObject_13 (by decide) ?_
    exact W.zret (ty := .boolean) (v := (1 : Int32)) hx hb hr (by decide) (fun t ht hW => ⟨(1 : Int32), rfl, hf.symm, ht⟩) (fun _ h => by cases h) dd_M_noObject_17
  · have hf := hf.trans (if_neg c1)
    refine lv_iload_n hx hb dd_M_noObject_4 rfl (lv_at hl 1 rfl) ?_
    refine lv_aload_n hx hb dd_M_noObject_5 rfl (lv_at hl 0 rfl) ?_
    refine va_get (D := (dC, dI)) (ci := 0) (v := .int (m_objs u0)) (C := "ClassObjectMirrorModel") (T := TM) (N := 12) hx hb hts inM hown hK hP 0 rfl rfl 9 (by decide) (hts _ gw_310) (fun _ h9 => h9) rfl dd_M_noObject_6 ?_
    refine lv_icmp_lt (tgt := 16) hx hb dd_M_noObject_9 (by decide) (fun c2 => ?_) (fun c2 => ?_)
    · have hf := hf.trans (if_pos c2)
      refine lv_iconst (v := 0) hx hb dd_M_noObject_16 (by decide) ?_
      exact W.zret (ty := .boolean) (v := (0 : Int32)) hx hb hr (by decide) (fun t ht hW => ⟨(0 : Int32), rfl, hf.symm, ht⟩) (fun _ h => by cases h) dd_M_noObject_17
    · have hf := hf.trans (if_neg c2)
      refine lv_iconst (v := 1) hx hb dd_M_noObject_12 (by decide) ?_
      refine lv_goto (tgt := 17) hx hb dd_M_noObject_13 (by decide) ?_
      exact W.zret (ty := .boolean) (v := (1 : Int32)) hx hb hr (by decide) (fun t ht hW => ⟨(1 : Int32), rfl, hf.symm, ht⟩) (fun _ h => by cases h) dd_M_noObject_17

def ff_M_base (p0 : Int32) : Int32 := (if p0 < 0 then 0 else (if 7 < p0 then 0 else 1))
abbrev ws_M_base : List Cond := .code yy_M_base bb_M_base 1 (some .boolean) :: gW
abbrev rm_M_base : Room := { frames := 0, cells := 0, slots := 0, locals := 0 }
set_option maxHeartbeats 4000000 in
set_option maxRecDepth 100000 in
theorem mm_M_base (l : Launch) (p0 : Int32) : Met l yy_M_base ws_M_base rm_M_base (va_Pc [.int p0] (fun _ => True)) (vp_Si (fun r => r = ff_M_base p0)) 0 0 (fun _ => False) := by
  refine Met.ofW (cc := bb_M_base) (maxL := 1) (ret := (some .boolean)) (by decide) rfl ?_
  intro p e s m args below meth c s₁ B hml hv
  obtain ⟨rfl, -⟩ := hv
  have hx := B.exec
  have hb := B.bytes
  have hr := B.returns
  have hts : ∀ w ∈ gW, w.before _ s = true := fun w h => atoms_spec (ws := ws_M_base) B.pre w (List.mem_cons_of_mem _ h)
  have hown : s.vm.findClass "ClassObjectMirrorModel" = some m.cls := findClass_of_methodNamed B.named
  have hlocks := B.notSynchronized
  have hl := lv_entry ([.int p0]) (n := 1) (Nat.le_of_ble_eq_true rfl)
  rw [lg_entry_eq]
  generalize (lg_sl ([.int p0]) ++ List.replicate (1 - (lg_sl ([.int p0])).length) Slot.unset).toArray = ls at hl ⊢
  have hl : lv_has ls 1 [(0, .int p0)] := hl
  have hf := ff_M_base.eq_1 p0
  refine lv_iload_n hx hb dd_M_base_0 rfl (lv_at hl 0 rfl) ?_
  refine lv_if_lt (tgt := 14) hx hb dd_M_base_1 (by decide) (fun c1 => ?_) (fun c1 => ?_)
  · have hf := hf.trans (if_pos c1)
    refine lv_iconst (v := 0) hx hb dd_M_base_14 (by decide) ?_
    exact W.zret (ty := .boolean) (v := (0 : Int32)) hx hb hr (by decide) (fun t ht hW => ⟨(0 : Int32), rfl, hf.symm, ht⟩) (fun _ h => by cases h) dd_M_base_15
  · have hf := hf.trans (if_neg c1)
    refine lv_iload_n hx hb dd_M_base_4 rfl (lv_at hl 0 rfl) ?_
    refine lv_bipush (v := 7) hx hb dd_M_base_5 (by decide) ?_
    refine lv_icmp_gt (tgt := 14) hx hb dd_M_base_7 (by decide) (fun c2 => ?_) (fun c2 => ?_)
    · have hf := hf.trans (if_pos c2)
      refine lv_iconst (v := 0) hx hb dd_M_base_14 (by decide) ?_
      exact W.zret (ty := .boolean) (v := (0 : Int32)) hx hb hr (by decide) (fun t ht hW => ⟨(0 : Int32), rfl, hf.symm, ht⟩) (fun _ h => by cases h) dd_M_base_15
    · have hf := hf.trans (if_neg c2)
      refine lv_iconst (v := 1) hx hb dd_M_base_10 (by decide) ?_
      refine lv_goto (tgt := 15) hx hb dd_M_base_11 (by decide) ?_
      exact W.zret (ty := .boolean) (v := (1 : Int32)) hx hb hr (by decide) (fun t ht hW => ⟨(1 : Int32), rfl, hf.symm, ht⟩) (fun _ h => by cases h) dd_M_base_15

def fl_M_search_24 : Nat → SM → Int32 → Int32 → Int32
  | 0, _, _, _ => 0
  | n + 1, u0, x1, x2 => (if (m_types u0) ≤ x2 then (if (m_types u0) = 300 then (-8) else m_types u0) else (if (m_comp u0 x2.toNatClampNeg) = x1 then x2 else fl_M_search_24 n u0 x1 (x2 + 1)))
def okl_M_search_24 : Nat → SM → Int32 → Int32 → Prop
  | 0, _, _, _ => False
  | n + 1, u0, x1, x2 => ((((m_types u0) ≤ x2) → True) ∧ (¬ ((m_types u0) ≤ x2) → (vp_in x2 300) ∧ ((((m_comp u0 x2.toNatClampNeg) = x1) → True) ∧ (¬ ((m_comp u0 x2.toNatClampNeg) = x1) → okl_M_search_24 n u0 x1 (x2 + 1)))))
def ff_M_search (u0 : SM) (p0 : Int32) : Int32 := (if p0 = 8 then (-2) else (if (m_dims u0 p0.toNatClampNeg) = 255 then (-2) else fl_M_search_24 300 u0 p0 (22 : Int32)))
def ok_M_search (u0 : SM) (p0 : Int32) : Prop := (((p0 = 8) → True) ∧ (¬ (p0 = 8) → (vp_in p0 300) ∧ ((((m_dims u0 p0.toNatClampNeg) = 255) → True) ∧ (¬ ((m_dims u0 p0.toNatClampNeg) = 255) → okl_M_search_24 300 u0 p0 (22 : Int32)))))
abbrev ws_M_search : List Cond := .code yy_M_search bb_M_search 3 (some .int) :: gW
abbrev rm_M_search : Room := { frames := 0, cells := 0, slots := 0, locals := 0 }
set_option maxHeartbeats 4000000 in
set_option maxRecDepth 100000 in
theorem mm_M_search (l : Launch) (dC : Nat → ClassId) (dI : Nat → Nat → Nat) (h : Nat) (a : Nat → Nat) (k : Nat → ClassId) (u0 : SM) (p0 : Int32) (hok : ok_M_search u0 p0) : Met l yy_M_search ws_M_search rm_M_search (va_Pc [.ref h, .int p0] (pM dC dI h a k u0)) (vp_Si (fun r => r = ff_M_search u0 p0)) 0 0 (fun _ => False) := by
  refine Met.ofW (cc := bb_M_search) (maxL := 3) (ret := (some .int)) (by decide) rfl ?_
  intro p e s m args below meth c s₁ B hml hv
  obtain ⟨rfl, hP, hK, hD⟩ := hv
  have hx := B.exec
  have hb := B.bytes
  have hr := B.returns
  have hts : ∀ w ∈ gW, w.before _ s = true := fun w h => atoms_spec (ws := ws_M_search) B.pre w (List.mem_cons_of_mem _ h)
  have hown : s.vm.findClass "ClassObjectMirrorModel" = some m.cls := findClass_of_methodNamed B.named
  have hlocks := B.notSynchronized
  have hS : va_S (aM h a) s.heap s.heap [] := va_S.rf
  have hl := lv_entry ([.ref h, .int p0]) (n := 3) (Nat.le_of_ble_eq_true rfl)
  rw [lg_entry_eq]
  generalize (lg_sl ([.ref h, .int p0]) ++ List.replicate (3 - (lg_sl ([.ref h, .int p0])).length) Slot.unset).toArray = ls at hl ⊢
  have hl : lv_has ls 3 [(0, .ref h), (1, .int p0)] := hl
  have hf := ff_M_search.eq_1 u0 p0
  unfold ok_M_search at hok
  refine lv_iload_n hx hb dd_M_search_0 rfl (lv_at hl 1 rfl) ?_
  refine lv_bipush (v := 8) hx hb dd_M_search_1 (by decide) ?_
  refine lv_icmp_eq (tgt := 18) hx hb dd_M_search_3 (by decide) (fun c1 => ?_) (fun c1 => ?_)
  · have hf := hf.trans (if_pos c1)
    have hok := hok.1 c1
    refine lv_bipush (v := (-2)) hx hb dd_M_search_18 (by decide) ?_
    exact W.iret (v := ((-2) : Int32)) hx hb hr (fun t ht hW => ⟨((-2) : Int32), rfl, hf.symm, ht⟩) (fun _ h => by cases h) dd_M_search_20
  · have hf := hf.trans (if_neg c1)
    have hok := hok.2 c1
    refine lv_aload_n hx hb dd_M_search_6 rfl (lv_at hl 0 rfl) ?_
    refine va_get (D := (dC, dI)) (ci := 0) (v := .ref (a 3)) (C := "ClassObjectMirrorModel") (T := TM) (N := 12) hx hb hts inM hown hK hP 0 rfl rfl 3 (by decide) (hts _ gw_304) (fun _ h9 => h9) rfl dd_M_search_7 ?_
    refine lv_iload_n hx hb dd_M_search_10 rfl (lv_at hl 1 rfl) ?_
    obtain ⟨n2, hok⟩ := hok
    refine va_iald hx hb hK hP 4 3 rfl rfl n2 dd_M_search_11 ?_
    refine lv_sipush (v := 255) hx hb dd_M_search_12 (by decide) ?_
    refine lv_icmp_ne (tgt := 21) hx hb dd_M_search_15 (by decide) (fun c3 => ?_) (fun c3 => ?_)
    · have hf := hf.trans (if_neg c3)
      have hok := hok.2 c3
      refine lv_bipush (v := 22) hx hb dd_M_search_21 (by decide) ?_
      refine lv_istore_n (lv' := [(2, .int 22), (0, .ref h), (1, .int p0)]) hx hb dd_M_search_23 rfl hl (by decide) rfl (fun ls hl => ?_)
      have loop_24 : ∀ (n : Nat) (x1 : Int32) (x2 : Int32) (ls : Array Slot), okl_M_search_24 n u0 x1 x2 → ff_M_search u0 p0 = fl_M_search_24 n u0 x1 x2 → lv_has ls 3 [(0, .ref h), (1, .int x1), (2, .int x2)] → W p l e (headSpec ws_M_search rm_M_search).room s m ([.ref h, .int p0] : List Value).toArray below meth c s.heap [] 0 0 (MQ below (vp_Si (fun r => r = ff_M_search u0 p0)) ([.ref h, .int p0] : List Value).toArray s 0 0 (fun _ => False)) (F0 m 24 ls []) := by
        intro n
        induction n with
        | zero => intro x1 x2 ls hok; exact (show False from hok).elim
        | succ n ih =>
          intro x1 x2 ls hok hf hl
          rw [fl_M_search_24] at hf
          rw [okl_M_search_24] at hok
          refine lv_iload_n hx hb dd_M_search_24 rfl (lv_at hl 2 rfl) ?_
          refine lv_aload_n hx hb dd_M_search_25 rfl (lv_at hl 0 rfl) ?_
          refine va_get (D := (dC, dI)) (ci := 0) (v := .int (m_types u0)) (C := "ClassObjectMirrorModel") (T := TM) (N := 12) hx hb hts inM hown hK hP 0 rfl rfl 4 (by decide) (hts _ gw_305) (fun _ h9 => h9) rfl dd_M_search_26 ?_
          refine lv_icmp_ge (tgt := 50) hx hb dd_M_search_29 (by decide) (fun c4 => ?_) (fun c4 => ?_)
          · have hf := hf.trans (if_pos c4)
            have hok := hok.1 c4
            refine lv_aload_n hx hb dd_M_search_50 rfl (lv_at hl 0 rfl) ?_
            refine va_get (D := (dC, dI)) (ci := 0) (v := .int (m_types u0)) (C := "ClassObjectMirrorModel") (T := TM) (N := 12) hx hb hts inM hown hK hP 0 rfl rfl 4 (by decide) (hts _ gw_305) (fun _ h9 => h9) rfl dd_M_search_51 ?_
            refine lv_sipush (v := 300) hx hb dd_M_search_54 (by decide) ?_
            refine lv_icmp_ne (tgt := 65) hx hb dd_M_search_57 (by decide) (fun c5 => ?_) (fun c5 => ?_)
            · have hf := hf.trans (if_neg c5)
              refine lv_aload_n hx hb dd_M_search_65 rfl (lv_at hl 0 rfl) ?_
              refine va_get (D := (dC, dI)) (ci := 0) (v := .int (m_types u0)) (C := "ClassObjectMirrorModel") (T := TM) (N := 12) hx hb hts inM hown hK hP 0 rfl rfl 4 (by decide) (hts _ gw_305) (fun _ h9 => h9) rfl dd_M_search_66 ?_
              exact W.iret (v := (m_types u0)) hx hb hr (fun t ht hW => ⟨(m_types u0), rfl, hf.symm, ht⟩) (fun _ h => by cases h) dd_M_search_69
            · have hf := hf.trans (if_pos c5)
              refine lv_bipush (v := (-8)) hx hb dd_M_search_60 (by decide) ?_
              refine lv_goto (tgt := 69) hx hb dd_M_search_62 (by decide) ?_
              exact W.iret (v := ((-8) : Int32)) hx hb hr (fun t ht hW => ⟨((-8) : Int32), rfl, hf.symm, ht⟩) (fun _ h => by cases h) dd_M_search_69
          · have hf := hf.trans (if_neg c4)
            have hok := hok.2 c4
            refine lv_aload_n hx hb dd_M_search_32 rfl (lv_at hl 0 rfl) ?_
            refine va_get (D := (dC, dI)) (ci := 0) (v := .ref (a 2)) (C := "ClassObjectMirrorModel") (T := TM) (N := 12) hx hb hts inM hown hK hP 0 rfl rfl 2 (by decide) (hts _ gw_303) (fun _ h9 => h9) rfl dd_M_search_33 ?_
            refine lv_iload_n hx hb dd_M_search_36 rfl (lv_at hl 2 rfl) ?_
            obtain ⟨n6, hok⟩ := hok
            refine va_iald hx hb hK hP 3 2 rfl rfl n6 dd_M_search_37 ?_
            refine lv_iload_n hx hb dd_M_search_38 rfl (lv_at hl 1 rfl) ?_
            refine lv_icmp_ne (tgt := 44) hx hb dd_M_search_39 (by decide) (fun c7 => ?_) (fun c7 => ?_)
            · have hf := hf.trans (if_neg c7)
              have hok := hok.2 c7
              refine lv_iinc (v := x2 + 1) (lv' := [(2, .int (x2 + 1)), (0, .ref h), (1, .int x1)]) hx hb dd_M_search_44 hl (k := 2) rfl rfl (by decide) rfl (fun ls hl => ?_)
              refine lv_goto (tgt := 24) hx hb dd_M_search_47 (by decide) ?_
              exact ih x1 (x2 + 1) ls hok hf (lv_sub hl [1, 2, 0] rfl)
            · have hf := hf.trans (if_pos c7)
              have hok := hok.1 c7
              refine lv_iload_n hx hb dd_M_search_42 rfl (lv_at hl 2 rfl) ?_
              exact W.iret (v := x2) hx hb hr (fun t ht hW => ⟨x2, rfl, hf.symm, ht⟩) (fun _ h => by cases h) dd_M_search_43
      exact loop_24 300 p0 (22 : Int32) ls hok hf (lv_sub hl [1, 2, 0] rfl)
    · have hf := hf.trans (if_pos c3)
      have hok := hok.1 c3
      refine lv_bipush (v := (-2)) hx hb dd_M_search_18 (by decide) ?_
      exact W.iret (v := ((-2) : Int32)) hx hb hr (fun t ht hW => ⟨((-2) : Int32), rfl, hf.symm, ht⟩) (fun _ h => by cases h) dd_M_search_20

def ff_M_enter (u0 : SM) (p0 : Int32) (p1 : Int32) : SM := (if (m_types u0) ≤ p0 then m_u_types (m_u_dims (m_u_comp u0 p0 p1) p0 ((m_dims (m_u_comp u0 p0 p1) p1.toNatClampNeg) + 1)) ((m_types (m_u_dims (m_u_comp u0 p0 p1) p0 ((m_dims (m_u_comp u0 p0 p1) p1.toNatClampNeg) + 1))) + 1) else u0)
def ok_M_enter (u0 : SM) (p0 : Int32) (p1 : Int32) : Prop := ((((m_types u0) ≤ p0) → (vp_in p0 300) ∧ (vp_in p1 300) ∧ vp_in p0 300) ∧ (¬ ((m_types u0) ≤ p0) → True))
abbrev ws_M_enter : List Cond := .code yy_M_enter bb_M_enter 3 (none) :: gW
abbrev rm_M_enter : Room := { frames := 0, cells := 0, slots := 0, locals := 0 }
set_option maxHeartbeats 4000000 in
set_option maxRecDepth 100000 in
theorem mm_M_enter (l : Launch) (dC : Nat → ClassId) (dI : Nat → Nat → Nat) (h : Nat) (a : Nat → Nat) (k : Nat → ClassId) (u0 : SM) (p0 : Int32) (p1 : Int32) (hok : ok_M_enter u0 p0 p1) : Met l yy_M_enter ws_M_enter rm_M_enter (va_Pc [.ref h, .int p0, .int p1] (pM dC dI h a k u0)) (va_Qv (fun v : SM => v = ff_M_enter u0 p0 p1) (pM dC dI h a k) (aM h a)) 0 0 (aM h a) := by
  refine Met.ofW (cc := bb_M_enter) (maxL := 3) (ret := (none)) (by decide) rfl ?_
  intro p e s m args below meth c s₁ B hml hv
  obtain ⟨rfl, hP, hK, hD⟩ := hv
  have hx := B.exec
  have hb := B.bytes
  have hr := B.returns
  have hts : ∀ w ∈ gW, w.before _ s = true := fun w h => atoms_spec (ws := ws_M_enter) B.pre w (List.mem_cons_of_mem _ h)
  have hown : s.vm.findClass "ClassObjectMirrorModel" = some m.cls := findClass_of_methodNamed B.named
  have hlocks := B.notSynchronized
  have hS : va_S (aM h a) s.heap s.heap [] := va_S.rf
  have hl := lv_entry ([.ref h, .int p0, .int p1]) (n := 3) (Nat.le_of_ble_eq_true rfl)
  rw [lg_entry_eq]
  generalize (lg_sl ([.ref h, .int p0, .int p1]) ++ List.replicate (3 - (lg_sl ([.ref h, .int p0, .int p1])).length) Slot.unset).toArray = ls at hl ⊢
  have hl : lv_has ls 3 [(0, .ref h), (1, .int p0), (2, .int p1)] := hl
  have hf := ff_M_enter.eq_1 u0 p0 p1
  unfold ok_M_enter at hok
  refine lv_iload_n hx hb dd_M_enter_0 rfl (lv_at hl 1 rfl) ?_
  refine lv_aload_n hx hb dd_M_enter_1 rfl (lv_at hl 0 rfl) ?_
  refine va_get (D := (dC, dI)) (ci := 0) (v := .int (m_types u0)) (C := "ClassObjectMirrorModel") (T := TM) (N := 12) hx hb hts inM hown hK hP 0 rfl rfl 4 (by decide) (hts _ gw_305) (fun _ h9 => h9) rfl dd_M_enter_2 ?_
  refine lv_icmp_ge (tgt := 9) hx hb dd_M_enter_5 (by decide) (fun c1 => ?_) (fun c1 => ?_)
  · have hf := hf.trans (if_pos c1)
    have hok := hok.1 c1
    refine lv_aload_n hx hb dd_M_enter_9 rfl (lv_at hl 0 rfl) ?_
    refine va_get (D := (dC, dI)) (ci := 0) (v := .ref (a 2)) (C := "ClassObjectMirrorModel") (T := TM) (N := 12) hx hb hts inM hown hK hP 0 rfl rfl 2 (by decide) (hts _ gw_303) (fun _ h9 => h9) rfl dd_M_enter_10 ?_
    refine lv_iload_n hx hb dd_M_enter_13 rfl (lv_at hl 1 rfl) ?_
    refine lv_iload_n hx hb dd_M_enter_14 rfl (lv_at hl 2 rfl) ?_
    obtain ⟨n2, hok⟩ := hok
    refine va_iast hx hb hK hP hD hS 3 2 rfl rfl n2 dd_M_enter_15 (fun H locs hP hD hS => ?_)
    have hP : va_P (dC, dI) cls_l (wM h a k (m_u_comp u0 p0 p1)) H := hP
    have hD : va_D (aM h a) (wM h a k (m_u_comp u0 p0 p1)) := hD
    refine lv_aload_n hx hb dd_M_enter_16 rfl (lv_at hl 0 rfl) ?_
    refine va_get (D := (dC, dI)) (ci := 0) (v := .ref (a 3)) (C := "ClassObjectMirrorModel") (T := TM) (N := 12) hx hb hts inM hown hK hP 0 rfl rfl 3 (by decide) (hts _ gw_304) (fun _ h9 => h9) rfl dd_M_enter_17 ?_
    refine lv_iload_n hx hb dd_M_enter_20 rfl (lv_at hl 1 rfl) ?_
    refine lv_aload_n hx hb dd_M_enter_21 rfl (lv_at hl 0 rfl) ?_
    refine va_get (D := (dC, dI)) (ci := 0) (v := .ref (a 3)) (C := "ClassObjectMirrorModel") (T := TM) (N := 12) hx hb hts inM hown hK hP 0 rfl rfl 3 (by decide) (hts _ gw_304) (fun _ h9 => h9) rfl dd_M_enter_22 ?_
    refine lv_iload_n hx hb dd_M_enter_25 rfl (lv_at hl 2 rfl) ?_
    obtain ⟨n3, hok⟩ := hok
    refine va_iald hx hb hK hP 4 3 rfl rfl n3 dd_M_enter_26 ?_
    refine lv_iconst (v := 1) hx hb dd_M_enter_27 (by decide) ?_
    refine lv_iadd hx hb dd_M_enter_28 ?_
    have n4 := hok
    refine va_iast hx hb hK hP hD hS 4 3 rfl rfl n4 dd_M_enter_29 (fun H locs hP hD hS => ?_)
    have hP : va_P (dC, dI) cls_l (wM h a k (m_u_dims (m_u_comp u0 p0 p1) p0 ((m_dims (m_u_comp u0 p0 p1) p1.toNatClampNeg) + 1))) H := hP
    have hD : va_D (aM h a) (wM h a k (m_u_dims (m_u_comp u0 p0 p1) p0 ((m_dims (m_u_comp u0 p0 p1) p1.toNatClampNeg) + 1))) := hD
    refine lv_aload_n hx hb dd_M_enter_30 rfl (lv_at hl 0 rfl) ?_
    refine lv_dup hx hb dd_M_enter_31 rfl ?_
    refine va_get (D := (dC, dI)) (ci := 0) (v := .int (m_types (m_u_dims (m_u_comp u0 p0 p1) p0 ((m_dims (m_u_comp u0 p0 p1) p1.toNatClampNeg) + 1)))) (C := "ClassObjectMirrorModel") (T := TM) (N := 12) hx hb hts inM hown hK hP 0 rfl rfl 4 (by decide) (hts _ gw_305) (fun _ h9 => h9) rfl dd_M_enter_32 ?_
    refine lv_iconst (v := 1) hx hb dd_M_enter_35 (by decide) ?_
    refine lv_iadd hx hb dd_M_enter_36 ?_
    refine va_put (D := (dC, dI)) (ci := 0) (v := .int ((m_types (m_u_dims (m_u_comp u0 p0 p1) p0 ((m_dims (m_u_comp u0 p0 p1) p1.toNatClampNeg) + 1))) + 1)) (ty := .int) (C := "ClassObjectMirrorModel") (T := TM) (N := 12) hx hb hts inM tyM tyM_ok nmM hown hK hP hD hS 0 rfl rfl 4 (by decide) (hts _ gw_305) (fun _ h9 => h9) rfl (by decide +kernel) rfl rfl (Nat.le_of_ble_eq_true rfl) dd_M_enter_37 (fun H locs hP hD hS => ?_)
    have hP : va_P (dC, dI) cls_l (wM h a k (m_u_types (m_u_dims (m_u_comp u0 p0 p1) p0 ((m_dims (m_u_comp u0 p0 p1) p1.toNatClampNeg) + 1)) ((m_types (m_u_dims (m_u_comp u0 p0 p1) p0 ((m_dims (m_u_comp u0 p0 p1) p1.toNatClampNeg) + 1))) + 1))) H := hP
    have hD : va_D (aM h a) (wM h a k (m_u_types (m_u_dims (m_u_comp u0 p0 p1) p0 ((m_dims (m_u_comp u0 p0 p1) p1.toNatClampNeg) + 1)) ((m_types (m_u_dims (m_u_comp u0 p0 p1) p0 ((m_dims (m_u_comp u0 p0 p1) p1.toNatClampNeg) + 1))) + 1))) := hD
    exact W.vret hx hb hr (fun t ht hW => ⟨⟨m_u_types (m_u_dims (m_u_comp u0 p0 p1) p0 ((m_dims (m_u_comp u0 p0 p1) p1.toNatClampNeg) + 1)) ((m_types (m_u_dims (m_u_comp u0 p0 p1) p0 ((m_dims (m_u_comp u0 p0 p1) p1.toNatClampNeg) + 1))) + 1), rfl, hf.symm, pM_up hP hK hD ht hW⟩, hS.F ht⟩) hS.2.2 dd_M_enter_40
  · have hf := hf.trans (if_neg c1)
    have hok := hok.2 c1
    exact W.vret hx hb hr (fun t ht hW => ⟨⟨u0, rfl, hf.symm, pM_up hP hK hD ht hW⟩, hS.F ht⟩) hS.2.2 dd_M_enter_8

def ff_M_arrayOf (u0 : SM) (p0 : Int32) : Int32 × SM := (if (ff_M_noType u0 p0) = 0 then (if (ff_M_search u0 p0) < 0 then (ff_M_search u0 p0, u0) else (ff_M_search u0 p0, ff_M_enter u0 (ff_M_search u0 p0) p0)) else ((-1), u0))
def ok_M_arrayOf (u0 : SM) (p0 : Int32) : Prop := ((((ff_M_noType u0 p0) = 0) → (ok_M_search u0 p0) ∧ ((((ff_M_search u0 p0) < 0) → True) ∧ (¬ ((ff_M_search u0 p0) < 0) → ok_M_enter u0 (ff_M_search u0 p0) p0))) ∧ (¬ ((ff_M_noType u0 p0) = 0) → True))
abbrev ws_M_arrayOf : List Cond := .code yy_M_arrayOf bb_M_arrayOf 3 (some .int) :: gW
abbrev rm_M_arrayOf : Room := { frames := 1, cells := 0, slots := 0, locals := 22 }
set_option maxHeartbeats 4000000 in
set_option maxRecDepth 100000 in
theorem mm_M_arrayOf (l : Launch) (dC : Nat → ClassId) (dI : Nat → Nat → Nat) (h : Nat) (a : Nat → Nat) (k : Nat → ClassId) (u0 : SM) (p0 : Int32) (hok : ok_M_arrayOf u0 p0) : Met l yy_M_arrayOf ws_M_arrayOf rm_M_arrayOf (va_Pc [.ref h, .int p0] (pM dC dI h a k u0)) (va_Qi (fun (r : Int32) (v : SM) => (r, v) = ff_M_arrayOf u0 p0) (pM dC dI h a k) (aM h a)) 0 0 (aM h a) := by
  refine Met.ofW (cc := bb_M_arrayOf) (maxL := 3) (ret := (some .int)) (by decide) rfl ?_
  intro p e s m args below meth c s₁ B hml hv
  obtain ⟨rfl, hP, hK, hD⟩ := hv
  have hx := B.exec
  have hb := B.bytes
  have hr := B.returns
  have hts : ∀ w ∈ gW, w.before _ s = true := fun w h => atoms_spec (ws := ws_M_arrayOf) B.pre w (List.mem_cons_of_mem _ h)
  have hown : s.vm.findClass "ClassObjectMirrorModel" = some m.cls := findClass_of_methodNamed B.named
  have hlocks := B.notSynchronized
  have hS : va_S (aM h a) s.heap s.heap [] := va_S.rf
  have hl := lv_entry ([.ref h, .int p0]) (n := 3) (Nat.le_of_ble_eq_true rfl)
  rw [lg_entry_eq]
  generalize (lg_sl ([.ref h, .int p0]) ++ List.replicate (3 - (lg_sl ([.ref h, .int p0])).length) Slot.unset).toArray = ls at hl ⊢
  have hl : lv_has ls 3 [(0, .ref h), (1, .int p0)] := hl
  have hf := ff_M_arrayOf.eq_1 u0 p0
  unfold ok_M_arrayOf at hok
  refine lv_aload_n hx hb dd_M_arrayOf_0 rfl (lv_at hl 0 rfl) ?_
  refine lv_iload_n hx hb dd_M_arrayOf_1 rfl (lv_at hl 1 rfl) ?_
  refine vp_callSi (W.runV (As := [.int p0]) (rest := []) ⟨hx, hb, hml, hown, hts⟩ (mm_M_noType l dC dI h a k u0 p0) (cwV 1 hts (gg_V gw_342 gw_344 gs_18 gw_2 gw_345) rfl rfl rfl (by decide +kernel) ⟨Nat.le_of_ble_eq_true rfl, Nat.le_of_ble_eq_true rfl⟩) ⟨pM_bl, va_recv hK hP (ci := 0) (q0 := 0) rfl rfl, fun U hU hW => ⟨rfl, pM_up hP hK hD hU hW⟩⟩ rfl rfl hl.1 rfl (lv_room (Nat.le_of_ble_eq_true rfl)) dd_M_arrayOf_2 ⟨Nat.zero_le _, Nat.zero_le _⟩) (fun r hr9 => ?_)
  subst hr9
  refine lv_if_eq (tgt := 10) hx hb dd_M_arrayOf_5 (by decide) (fun c1 => ?_) (fun c1 => ?_)
  · have hf := hf.trans (if_pos c1)
    have hok := hok.1 c1
    refine lv_aload_n hx hb dd_M_arrayOf_10 rfl (lv_at hl 0 rfl) ?_
    refine lv_iload_n hx hb dd_M_arrayOf_11 rfl (lv_at hl 1 rfl) ?_
    obtain ⟨n2, hok⟩ := hok
    refine vp_callSi (W.runV (As := [.int p0]) (rest := []) ⟨hx, hb, hml, hown, hts⟩ (mm_M_search l dC dI h a k u0 p0 n2) (cwV 1 hts (gg_V gw_346 gw_348 gs_19 gw_2 gw_349) rfl rfl rfl (by decide +kernel) ⟨Nat.le_of_ble_eq_true rfl, Nat.le_of_ble_eq_true rfl⟩) ⟨pM_bl, va_recv hK hP (ci := 0) (q0 := 0) rfl rfl, fun U hU hW => ⟨rfl, pM_up hP hK hD hU hW⟩⟩ rfl rfl hl.1 rfl (lv_room (Nat.le_of_ble_eq_true rfl)) dd_M_arrayOf_12 ⟨Nat.zero_le _, Nat.zero_le _⟩) (fun r hr9 => ?_)
    subst hr9
    refine lv_istore_n (lv' := [(2, .int (ff_M_search u0 p0)), (0, .ref h), (1, .int p0)]) hx hb dd_M_arrayOf_15 rfl hl (by decide) rfl (fun ls hl => ?_)
    refine lv_iload_n hx hb dd_M_arrayOf_16 rfl (lv_at hl 0 rfl) ?_
    refine lv_if_lt (tgt := 26) hx hb dd_M_arrayOf_17 (by decide) (fun c3 => ?_) (fun c3 => ?_)
    · have hf := hf.trans (if_pos c3)
      have hok := hok.1 c3
      refine lv_iload_n hx hb dd_M_arrayOf_26 rfl (lv_at hl 0 rfl) ?_
      exact W.iret (v := (ff_M_search u0 p0)) hx hb hr (fun t ht hW => ⟨⟨(ff_M_search u0 p0), u0, rfl, hf.symm, pM_up hP hK hD ht hW⟩, hS.F ht⟩) hS.2.2 dd_M_arrayOf_27
    · have hf := hf.trans (if_neg c3)
      have hok := hok.2 c3
      refine lv_aload_n hx hb dd_M_arrayOf_20 rfl (lv_at hl 1 rfl) ?_
      refine lv_iload_n hx hb dd_M_arrayOf_21 rfl (lv_at hl 0 rfl) ?_
      refine lv_iload_n hx hb dd_M_arrayOf_22 rfl (lv_at hl 2 rfl) ?_
      have n4 := hok
      refine va_callv (va_runV (As := [.int (ff_M_search u0 p0), .int p0]) (rest := []) ⟨hx, hb, hml, hown, hts⟩ (mm_M_enter l dC dI h a k u0 (ff_M_search u0 p0) p0 n4) (cwV 2 hts (gg_V gw_350 gw_352 gs_20 gw_2 gw_353) rfl rfl rfl (by decide +kernel) ⟨Nat.le_of_ble_eq_true rfl, Nat.le_of_ble_eq_true rfl⟩) ⟨pM_bl, va_recv hK hP (ci := 0) (q0 := 0) rfl rfl, fun U hU hW => ⟨rfl, pM_up hP hK hD hU hW⟩⟩ rfl rfl hl.1 rfl (lv_room (Nat.le_of_ble_eq_true rfl)) dd_M_arrayOf_23 ⟨Nat.zero_le _, Nat.zero_le _⟩) hS (fun q _ h => h) (fun q h => h) (fun v9 t9 H locs ht9 hvm9 hw9 hB9 hz9 hk9 hS => ?_)
      subst hw9
      obtain ⟨hP, -, hD⟩ := hB9
      rw [ht9] at hP
      refine lv_iload_n hx hb dd_M_arrayOf_26 rfl (lv_at hl 0 rfl) ?_
      exact W.iret (v := (ff_M_search u0 p0)) hx hb hr (fun t ht hW => ⟨⟨(ff_M_search u0 p0), ff_M_enter u0 (ff_M_search u0 p0) p0, rfl, hf.symm, pM_up hP hK hD ht hW⟩, hS.F ht⟩) hS.2.2 dd_M_arrayOf_27
  · have hf := hf.trans (if_neg c1)
    have hok := hok.2 c1
    refine lv_iconst (v := (-1)) hx hb dd_M_arrayOf_8 (by decide) ?_
    exact W.iret (v := ((-1) : Int32)) hx hb hr (fun t ht hW => ⟨⟨((-1) : Int32), u0, rfl, hf.symm, pM_up hP hK hD ht hW⟩, hS.F ht⟩) hS.2.2 dd_M_arrayOf_9

def ff_M_component (u0 : SM) (p0 : Int32) : Int32 := (if (ff_M_noType u0 p0) = 0 then (if (m_dims u0 p0.toNatClampNeg) = 0 then (-7) else m_comp u0 p0.toNatClampNeg) else (-1))
def ok_M_component (u0 : SM) (p0 : Int32) : Prop := ((((ff_M_noType u0 p0) = 0) → (vp_in p0 300) ∧ ((((m_dims u0 p0.toNatClampNeg) = 0) → True) ∧ (¬ ((m_dims u0 p0.toNatClampNeg) = 0) → vp_in p0 300))) ∧ (¬ ((ff_M_noType u0 p0) = 0) → True))
abbrev ws_M_component : List Cond := .code yy_M_component bb_M_component 2 (some .int) :: gW
abbrev rm_M_component : Room := { frames := 1, cells := 0, slots := 0, locals := 21 }
set_option maxHeartbeats 4000000 in
set_option maxRecDepth 100000 in
theorem mm_M_component (l : Launch) (dC : Nat → ClassId) (dI : Nat → Nat → Nat) (h : Nat) (a : Nat → Nat) (k : Nat → ClassId) (u0 : SM) (p0 : Int32) (hok : ok_M_component u0 p0) : Met l yy_M_component ws_M_component rm_M_component (va_Pc [.ref h, .int p0] (pM dC dI h a k u0)) (vp_Si (fun r => r = ff_M_component u0 p0)) 0 0 (fun _ => False) := by
  refine Met.ofW (cc := bb_M_component) (maxL := 2) (ret := (some .int)) (by decide) rfl ?_
  intro p e s m args below meth c s₁ B hml hv
  obtain ⟨rfl, hP, hK, hD⟩ := hv
  have hx := B.exec
  have hb := B.bytes
  have hr := B.returns
  have hts : ∀ w ∈ gW, w.before _ s = true := fun w h => atoms_spec (ws := ws_M_component) B.pre w (List.mem_cons_of_mem _ h)
  have hown : s.vm.findClass "ClassObjectMirrorModel" = some m.cls := findClass_of_methodNamed B.named
  have hlocks := B.notSynchronized
  have hS : va_S (aM h a) s.heap s.heap [] := va_S.rf
  have hl := lv_entry ([.ref h, .int p0]) (n := 2) (Nat.le_of_ble_eq_true rfl)
  rw [lg_entry_eq]
  generalize (lg_sl ([.ref h, .int p0]) ++ List.replicate (2 - (lg_sl ([.ref h, .int p0])).length) Slot.unset).toArray = ls at hl ⊢
  have hl : lv_has ls 2 [(0, .ref h), (1, .int p0)] := hl
  have hf := ff_M_component.eq_1 u0 p0
  unfold ok_M_component at hok
  refine lv_aload_n hx hb dd_M_component_0 rfl (lv_at hl 0 rfl) ?_
  refine lv_iload_n hx hb dd_M_component_1 rfl (lv_at hl 1 rfl) ?_
  refine vp_callSi (W.runV (As := [.int p0]) (rest := []) ⟨hx, hb, hml, hown, hts⟩ (mm_M_noType l dC dI h a k u0 p0) (cwV 1 hts (gg_V gw_342 gw_344 gs_18 gw_2 gw_345) rfl rfl rfl (by decide +kernel) ⟨Nat.le_of_ble_eq_true rfl, Nat.le_of_ble_eq_true rfl⟩) ⟨pM_bl, va_recv hK hP (ci := 0) (q0 := 0) rfl rfl, fun U hU hW => ⟨rfl, pM_up hP hK hD hU hW⟩⟩ rfl rfl hl.1 rfl (lv_room (Nat.le_of_ble_eq_true rfl)) dd_M_component_2 ⟨Nat.zero_le _, Nat.zero_le _⟩) (fun r hr9 => ?_)
  subst hr9
  refine lv_if_eq (tgt := 12) hx hb dd_M_component_5 (by decide) (fun c1 => ?_) (fun c1 => ?_)
  · have hf := hf.trans (if_pos c1)
    have hok := hok.1 c1
    refine lv_aload_n hx hb dd_M_component_12 rfl (lv_at hl 0 rfl) ?_
    refine va_get (D := (dC, dI)) (ci := 0) (v := .ref (a 3)) (C := "ClassObjectMirrorModel") (T := TM) (N := 12) hx hb hts inM hown hK hP 0 rfl rfl 3 (by decide) (hts _ gw_304) (fun _ h9 => h9) rfl dd_M_component_13 ?_
    refine lv_iload_n hx hb dd_M_component_16 rfl (lv_at hl 1 rfl) ?_
    obtain ⟨n2, hok⟩ := hok
    refine va_iald hx hb hK hP 4 3 rfl rfl n2 dd_M_component_17 ?_
    refine lv_if_ne (tgt := 26) hx hb dd_M_component_18 (by decide) (fun c3 => ?_) (fun c3 => ?_)
    · have hf := hf.trans (if_neg c3)
      have hok := hok.2 c3
      refine lv_aload_n hx hb dd_M_component_26 rfl (lv_at hl 0 rfl) ?_
      refine va_get (D := (dC, dI)) (ci := 0) (v := .ref (a 2)) (C := "ClassObjectMirrorModel") (T := TM) (N := 12) hx hb hts inM hown hK hP 0 rfl rfl 2 (by decide) (hts _ gw_303) (fun _ h9 => h9) rfl dd_M_component_27 ?_
      refine lv_iload_n hx hb dd_M_component_30 rfl (lv_at hl 1 rfl) ?_
      have n4 := hok
      refine va_iald hx hb hK hP 3 2 rfl rfl n4 dd_M_component_31 ?_
      exact W.iret (v := (m_comp u0 p0.toNatClampNeg)) hx hb hr (fun t ht hW => ⟨(m_comp u0 p0.toNatClampNeg), rfl, hf.symm, ht⟩) (fun _ h => by cases h) dd_M_component_32
    · have hf := hf.trans (if_pos c3)
      have hok := hok.1 c3
      refine lv_bipush (v := (-7)) hx hb dd_M_component_21 (by decide) ?_
      refine lv_goto (tgt := 32) hx hb dd_M_component_23 (by decide) ?_
      exact W.iret (v := ((-7) : Int32)) hx hb hr (fun t ht hW => ⟨((-7) : Int32), rfl, hf.symm, ht⟩) (fun _ h => by cases h) dd_M_component_32
  · have hf := hf.trans (if_neg c1)
    have hok := hok.2 c1
    refine lv_iconst (v := (-1)) hx hb dd_M_component_8 (by decide) ?_
    refine lv_goto (tgt := 32) hx hb dd_M_component_9 (by decide) ?_
    exact W.iret (v := ((-1) : Int32)) hx hb hr (fun t ht hW => ⟨((-1) : Int32), rfl, hf.symm, ht⟩) (fun _ h => by cases h) dd_M_component_32

def ff_M_dimensions (u0 : SM) (p0 : Int32) : Int32 := (if (ff_M_noType u0 p0) = 0 then m_dims u0 p0.toNatClampNeg else (-1))
def ok_M_dimensions (u0 : SM) (p0 : Int32) : Prop := ((((ff_M_noType u0 p0) = 0) → vp_in p0 300) ∧ (¬ ((ff_M_noType u0 p0) = 0) → True))
abbrev ws_M_dimensions : List Cond := .code yy_M_dimensions bb_M_dimensions 2 (some .int) :: gW
abbrev rm_M_dimensions : Room := { frames := 1, cells := 0, slots := 0, locals := 21 }
set_option maxHeartbeats 4000000 in
set_option maxRecDepth 100000 in
theorem mm_M_dimensions (l : Launch) (dC : Nat → ClassId) (dI : Nat → Nat → Nat) (h : Nat) (a : Nat → Nat) (k : Nat → ClassId) (u0 : SM) (p0 : Int32) (hok : ok_M_dimensions u0 p0) : Met l yy_M_dimensions ws_M_dimensions rm_M_dimensions (va_Pc [.ref h, .int p0] (pM dC dI h a k u0)) (vp_Si (fun r => r = ff_M_dimensions u0 p0)) 0 0 (fun _ => False) := by
  refine Met.ofW (cc := bb_M_dimensions) (maxL := 2) (ret := (some .int)) (by decide) rfl ?_
  intro p e s m args below meth c s₁ B hml hv
  obtain ⟨rfl, hP, hK, hD⟩ := hv
  have hx := B.exec
  have hb := B.bytes
  have hr := B.returns
  have hts : ∀ w ∈ gW, w.before _ s = true := fun w h => atoms_spec (ws := ws_M_dimensions) B.pre w (List.mem_cons_of_mem _ h)
  have hown : s.vm.findClass "ClassObjectMirrorModel" = some m.cls := findClass_of_methodNamed B.named
  have hlocks := B.notSynchronized
  have hS : va_S (aM h a) s.heap s.heap [] := va_S.rf
  have hl := lv_entry ([.ref h, .int p0]) (n := 2) (Nat.le_of_ble_eq_true rfl)
  rw [lg_entry_eq]
  generalize (lg_sl ([.ref h, .int p0]) ++ List.replicate (2 - (lg_sl ([.ref h, .int p0])).length) Slot.unset).toArray = ls at hl ⊢
  have hl : lv_has ls 2 [(0, .ref h), (1, .int p0)] := hl
  have hf := ff_M_dimensions.eq_1 u0 p0
  unfold ok_M_dimensions at hok
  refine lv_aload_n hx hb dd_M_dimensions_0 rfl (lv_at hl 0 rfl) ?_
  refine lv_iload_n hx hb dd_M_dimensions_1 rfl (lv_at hl 1 rfl) ?_
  refine vp_callSi (W.runV (As := [.int p0]) (rest := []) ⟨hx, hb, hml, hown, hts⟩ (mm_M_noType l dC dI h a k u0 p0) (cwV 1 hts (gg_V gw_342 gw_344 gs_18 gw_2 gw_345) rfl rfl rfl (by decide +kernel) ⟨Nat.le_of_ble_eq_true rfl, Nat.le_of_ble_eq_true rfl⟩) ⟨pM_bl, va_recv hK hP (ci := 0) (q0 := 0) rfl rfl, fun U hU hW => ⟨rfl, pM_up hP hK hD hU hW⟩⟩ rfl rfl hl.1 rfl (lv_room (Nat.le_of_ble_eq_true rfl)) dd_M_dimensions_2 ⟨Nat.zero_le _, Nat.zero_le _⟩) (fun r hr9 => ?_)
  subst hr9
  refine lv_if_eq (tgt := 12) hx hb dd_M_dimensions_5 (by decide) (fun c1 => ?_) (fun c1 => ?_)
  · have hf := hf.trans (if_pos c1)
    have hok := hok.1 c1
    refine lv_aload_n hx hb dd_M_dimensions_12 rfl (lv_at hl 0 rfl) ?_
    refine va_get (D := (dC, dI)) (ci := 0) (v := .ref (a 3)) (C := "ClassObjectMirrorModel") (T := TM) (N := 12) hx hb hts inM hown hK hP 0 rfl rfl 3 (by decide) (hts _ gw_304) (fun _ h9 => h9) rfl dd_M_dimensions_13 ?_
    refine lv_iload_n hx hb dd_M_dimensions_16 rfl (lv_at hl 1 rfl) ?_
    have n2 := hok
    refine va_iald hx hb hK hP 4 3 rfl rfl n2 dd_M_dimensions_17 ?_
    exact W.iret (v := (m_dims u0 p0.toNatClampNeg)) hx hb hr (fun t ht hW => ⟨(m_dims u0 p0.toNatClampNeg), rfl, hf.symm, ht⟩) (fun _ h => by cases h) dd_M_dimensions_18
  · have hf := hf.trans (if_neg c1)
    have hok := hok.2 c1
    refine lv_iconst (v := (-1)) hx hb dd_M_dimensions_8 (by decide) ?_
    refine lv_goto (tgt := 18) hx hb dd_M_dimensions_9 (by decide) ?_
    exact W.iret (v := ((-1) : Int32)) hx hb hr (fun t ht hW => ⟨((-1) : Int32), rfl, hf.symm, ht⟩) (fun _ h => by cases h) dd_M_dimensions_18

def fl_M_above_8 : Nat → SM → Int32 → Int32 → Int32 → Int32 → Int32 → Int32
  | 0, _, _, _, _, _, _ => 0
  | n + 1, u0, x1, x2, x3, x4, x5 => (if 300 ≤ x5 then 0 else (if x3 = x4 then 1 else (if (m_dims u0 x4.toNatClampNeg) ≤ 0 then (if (m_dims u0 x4.toNatClampNeg) = 0 then (if (m_dims u0 x3.toNatClampNeg) = 0 then (if (((m_fa u0 x4.toNatClampNeg) >>> (x3 &&& 31)) &&& 1) = 0 then 0 else 1) else 0) else (if (m_dims u0 x3.toNatClampNeg) = 0 then 0 else (if (ff_M_base (m_comp u0 x3.toNatClampNeg)) = 0 then (if (ff_M_base (m_comp u0 x4.toNatClampNeg)) = 0 then fl_M_above_8 n u0 x1 x2 (m_comp u0 x3.toNatClampNeg) (m_comp u0 x4.toNatClampNeg) (x5 + 1) else 0) else 0))) else (if x3 < 9 then (if (m_dims u0 x4.toNatClampNeg) = 0 then (if (m_dims u0 x3.toNatClampNeg) = 0 then (if (((m_fa u0 x4.toNatClampNeg) >>> (x3 &&& 31)) &&& 1) = 0 then 0 else 1) else 0) else (if (m_dims u0 x3.toNatClampNeg) = 0 then 0 else (if (ff_M_base (m_comp u0 x3.toNatClampNeg)) = 0 then (if (ff_M_base (m_comp u0 x4.toNatClampNeg)) = 0 then fl_M_above_8 n u0 x1 x2 (m_comp u0 x3.toNatClampNeg) (m_comp u0 x4.toNatClampNeg) (x5 + 1) else 0) else 0))) else (if 11 < x3 then (if (m_dims u0 x4.toNatClampNeg) = 0 then (if (m_dims u0 x3.toNatClampNeg) = 0 then (if (((m_fa u0 x4.toNatClampNeg) >>> (x3 &&& 31)) &&& 1) = 0 then 0 else 1) else 0) else (if (m_dims u0 x3.toNatClampNeg) = 0 then 0 else (if (ff_M_base (m_comp u0 x3.toNatClampNeg)) = 0 then (if (ff_M_base (m_comp u0 x4.toNatClampNeg)) = 0 then fl_M_above_8 n u0 x1 x2 (m_comp u0 x3.toNatClampNeg) (m_comp u0 x4.toNatClampNeg) (x5 + 1) else 0) else 0))) else 1)))))
def okl_M_above_8 : Nat → SM → Int32 → Int32 → Int32 → Int32 → Int32 → Prop
  | 0, _, _, _, _, _, _ => False
  | n + 1, u0, x1, x2, x3, x4, x5 => (((300 ≤ x5) → True) ∧ (¬ (300 ≤ x5) → (((x3 = x4) → True) ∧ (¬ (x3 = x4) → (vp_in x4 300) ∧ ((((m_dims u0 x4.toNatClampNeg) ≤ 0) → (vp_in x4 300) ∧ ((((m_dims u0 x4.toNatClampNeg) = 0) → (vp_in x3 300) ∧ ((((m_dims u0 x3.toNatClampNeg) = 0) → vp_in x4 22) ∧ (¬ ((m_dims u0 x3.toNatClampNeg) = 0) → True))) ∧ (¬ ((m_dims u0 x4.toNatClampNeg) = 0) → (vp_in x3 300) ∧ ((((m_dims u0 x3.toNatClampNeg) = 0) → True) ∧ (¬ ((m_dims u0 x3.toNatClampNeg) = 0) → (vp_in x3 300) ∧ ((((ff_M_base (m_comp u0 x3.toNatClampNeg)) = 0) → (vp_in x4 300) ∧ ((((ff_M_base (m_comp u0 x4.toNatClampNeg)) = 0) → (vp_in x3 300) ∧ (vp_in x4 300) ∧ okl_M_above_8 n u0 x1 x2 (m_comp u0 x3.toNatClampNeg) (m_comp u0 x4.toNatClampNeg) (x5 + 1)) ∧ (¬ ((ff_M_base (m_comp u0 x4.toNatClampNeg)) = 0) → True))) ∧ (¬ ((ff_M_base (m_comp u0 x3.toNatClampNeg)) = 0) → True))))))) ∧ (¬ ((m_dims u0 x4.toNatClampNeg) ≤ 0) → (((x3 < 9) → (vp_in x4 300) ∧ ((((m_dims u0 x4.toNatClampNeg) = 0) → (vp_in x3 300) ∧ ((((m_dims u0 x3.toNatClampNeg) = 0) → vp_in x4 22) ∧ (¬ ((m_dims u0 x3.toNatClampNeg) = 0) → True))) ∧ (¬ ((m_dims u0 x4.toNatClampNeg) = 0) → (vp_in x3 300) ∧ ((((m_dims u0 x3.toNatClampNeg) = 0) → True) ∧ (¬ ((m_dims u0 x3.toNatClampNeg) = 0) → (vp_in x3 300) ∧ ((((ff_M_base (m_comp u0 x3.toNatClampNeg)) = 0) → (vp_in x4 300) ∧ ((((ff_M_base (m_comp u0 x4.toNatClampNeg)) = 0) → (vp_in x3 300) ∧ (vp_in x4 300) ∧ okl_M_above_8 n u0 x1 x2 (m_comp u0 x3.toNatClampNeg) (m_comp u0 x4.toNatClampNeg) (x5 + 1)) ∧ (¬ ((ff_M_base (m_comp u0 x4.toNatClampNeg)) = 0) → True))) ∧ (¬ ((ff_M_base (m_comp u0 x3.toNatClampNeg)) = 0) → True))))))) ∧ (¬ (x3 < 9) → (((11 < x3) → (vp_in x4 300) ∧ ((((m_dims u0 x4.toNatClampNeg) = 0) → (vp_in x3 300) ∧ ((((m_dims u0 x3.toNatClampNeg) = 0) → vp_in x4 22) ∧ (¬ ((m_dims u0 x3.toNatClampNeg) = 0) → True))) ∧ (¬ ((m_dims u0 x4.toNatClampNeg) = 0) → (vp_in x3 300) ∧ ((((m_dims u0 x3.toNatClampNeg) = 0) → True) ∧ (¬ ((m_dims u0 x3.toNatClampNeg) = 0) → (vp_in x3 300) ∧ ((((ff_M_base (m_comp u0 x3.toNatClampNeg)) = 0) → (vp_in x4 300) ∧ ((((ff_M_base (m_comp u0 x4.toNatClampNeg)) = 0) → (vp_in x3 300) ∧ (vp_in x4 300) ∧ okl_M_above_8 n u0 x1 x2 (m_comp u0 x3.toNatClampNeg) (m_comp u0 x4.toNatClampNeg) (x5 + 1)) ∧ (¬ ((ff_M_base (m_comp u0 x4.toNatClampNeg)) = 0) → True))) ∧ (¬ ((ff_M_base (m_comp u0 x3.toNatClampNeg)) = 0) → True))))))) ∧ (¬ (11 < x3) → True))))))))))
def ff_M_above (u0 : SM) (p0 : Int32) (p1 : Int32) : Int32 := fl_M_above_8 301 u0 p0 p1 p0 p1 (0 : Int32)
def ok_M_above (u0 : SM) (p0 : Int32) (p1 : Int32) : Prop := okl_M_above_8 301 u0 p0 p1 p0 p1 (0 : Int32)
abbrev ws_M_above : List Cond := .code yy_M_above bb_M_above 6 (some .boolean) :: gW
abbrev rm_M_above : Room := { frames := 1, cells := 0, slots := 0, locals := 20 }
set_option maxHeartbeats 4000000 in
set_option maxRecDepth 100000 in
theorem mm_M_above (l : Launch) (dC : Nat → ClassId) (dI : Nat → Nat → Nat) (h : Nat) (a : Nat → Nat) (k : Nat → ClassId) (u0 : SM) (p0 : Int32) (p1 : Int32) (hok : ok_M_above u0 p0 p1) : Met l yy_M_above ws_M_above rm_M_above (va_Pc [.ref h, .int p0, .int p1] (pM dC dI h a k u0)) (vp_Si (fun r => r = ff_M_above u0 p0 p1)) 0 0 (fun _ => False) := by
  refine Met.ofW (cc := bb_M_above) (maxL := 6) (ret := (some .boolean)) (by decide) rfl ?_
  intro p e s m args below meth c s₁ B hml hv
  obtain ⟨rfl, hP, hK, hD⟩ := hv
  have hx := B.exec
  have hb := B.bytes
  have hr := B.returns
  have hts : ∀ w ∈ gW, w.before _ s = true := fun w h => atoms_spec (ws := ws_M_above) B.pre w (List.mem_cons_of_mem _ h)
  have hown : s.vm.findClass "ClassObjectMirrorModel" = some m.cls := findClass_of_methodNamed B.named
  have hlocks := B.notSynchronized
  have hS : va_S (aM h a) s.heap s.heap [] := va_S.rf
  have hl := lv_entry ([.ref h, .int p0, .int p1]) (n := 6) (Nat.le_of_ble_eq_true rfl)
  rw [lg_entry_eq]
  generalize (lg_sl ([.ref h, .int p0, .int p1]) ++ List.replicate (6 - (lg_sl ([.ref h, .int p0, .int p1])).length) Slot.unset).toArray = ls at hl ⊢
  have hl : lv_has ls 6 [(0, .ref h), (1, .int p0), (2, .int p1)] := hl
  have hf := ff_M_above.eq_1 u0 p0 p1
  unfold ok_M_above at hok
  refine lv_iload_n hx hb dd_M_above_0 rfl (lv_at hl 1 rfl) ?_
  refine lv_istore_n (lv' := [(3, .int p0), (0, .ref h), (1, .int p0), (2, .int p1)]) hx hb dd_M_above_1 rfl hl (by decide) rfl (fun ls hl => ?_)
  refine lv_iload_n hx hb dd_M_above_2 rfl (lv_at hl 3 rfl) ?_
  refine lv_istore (lv' := [(4, .int p1), (3, .int p0), (0, .ref h), (1, .int p0), (2, .int p1)]) hx hb dd_M_above_3 hl (by decide) rfl (fun ls hl => ?_)
  refine lv_iconst (v := 0) hx hb dd_M_above_5 (by decide) ?_
  refine lv_istore (lv' := [(5, .int 0), (4, .int p1), (3, .int p0), (0, .ref h), (1, .int p0), (2, .int p1)]) hx hb dd_M_above_6 hl (by decide) rfl (fun ls hl => ?_)
  have loop_8 : ∀ (n : Nat) (x1 : Int32) (x2 : Int32) (x3 : Int32) (x4 : Int32) (x5 : Int32) (ls : Array Slot), okl_M_above_8 n u0 x1 x2 x3 x4 x5 → ff_M_above u0 p0 p1 = fl_M_above_8 n u0 x1 x2 x3 x4 x5 → lv_has ls 6 [(0, .ref h), (1, .int x1), (2, .int x2), (3, .int x3), (4, .int x4), (5, .int x5)] → W p l e (headSpec ws_M_above rm_M_above).room s m ([.ref h, .int p0, .int p1] : List Value).toArray below meth c s.heap [] 0 0 (MQ below (vp_Si (fun r => r = ff_M_above u0 p0 p1)) ([.ref h, .int p0, .int p1] : List Value).toArray s 0 0 (fun _ => False)) (F0 m 8 ls []) := by
    intro n
    induction n with
    | zero => intro x1 x2 x3 x4 x5 ls hok; exact (show False from hok).elim
    | succ n ih =>
      intro x1 x2 x3 x4 x5 ls hok hf hl
      rw [fl_M_above_8] at hf
      rw [okl_M_above_8] at hok
      refine lv_iload hx hb dd_M_above_8 (lv_at hl 5 rfl) ?_
      refine lv_sipush (v := 300) hx hb dd_M_above_10 (by decide) ?_
      refine lv_icmp_ge (tgt := 143) hx hb dd_M_above_13 (by decide) (fun c1 => ?_) (fun c1 => ?_)
      · have hf := hf.trans (if_pos c1)
        have hok := hok.1 c1
        refine lv_iconst (v := 0) hx hb dd_M_above_143 (by decide) ?_
        exact W.zret (ty := .boolean) (v := (0 : Int32)) hx hb hr (by decide) (fun t ht hW => ⟨(0 : Int32), rfl, hf.symm, ht⟩) (fun _ h => by cases h) dd_M_above_144
      · have hf := hf.trans (if_neg c1)
        have hok := hok.2 c1
        refine lv_iload_n hx hb dd_M_above_16 rfl (lv_at hl 3 rfl) ?_
        refine lv_iload hx hb dd_M_above_17 (lv_at hl 4 rfl) ?_
        refine lv_icmp_eq (tgt := 44) hx hb dd_M_above_19 (by decide) (fun c2 => ?_) (fun c2 => ?_)
        · have hf := hf.trans (if_pos c2)
          have hok := hok.1 c2
          refine lv_iconst (v := 1) hx hb dd_M_above_44 (by decide) ?_
          exact W.zret (ty := .boolean) (v := (1 : Int32)) hx hb hr (by decide) (fun t ht hW => ⟨(1 : Int32), rfl, hf.symm, ht⟩) (fun _ h => by cases h) dd_M_above_45
        · have hf := hf.trans (if_neg c2)
          have hok := hok.2 c2
          refine lv_aload_n hx hb dd_M_above_22 rfl (lv_at hl 0 rfl) ?_
          refine va_get (D := (dC, dI)) (ci := 0) (v := .ref (a 3)) (C := "ClassObjectMirrorModel") (T := TM) (N := 12) hx hb hts inM hown hK hP 0 rfl rfl 3 (by decide) (hts _ gw_304) (fun _ h9 => h9) rfl dd_M_above_23 ?_
          refine lv_iload hx hb dd_M_above_26 (lv_at hl 4 rfl) ?_
          obtain ⟨n3, hok⟩ := hok
          refine va_iald hx hb hK hP 4 3 rfl rfl n3 dd_M_above_28 ?_
          refine lv_if_le (tgt := 46) hx hb dd_M_above_29 (by decide) (fun c4 => ?_) (fun c4 => ?_)
          · have hf := hf.trans (if_pos c4)
            have hok := hok.1 c4
            refine lv_aload_n hx hb dd_M_above_46 rfl (lv_at hl 0 rfl) ?_
            refine va_get (D := (dC, dI)) (ci := 0) (v := .ref (a 3)) (C := "ClassObjectMirrorModel") (T := TM) (N := 12) hx hb hts inM hown hK hP 0 rfl rfl 3 (by decide) (hts _ gw_304) (fun _ h9 => h9) rfl dd_M_above_47 ?_
            refine lv_iload hx hb dd_M_above_50 (lv_at hl 4 rfl) ?_
            obtain ⟨n5, hok⟩ := hok
            refine va_iald hx hb hK hP 4 3 rfl rfl n5 dd_M_above_52 ?_
            refine lv_if_ne (tgt := 85) hx hb dd_M_above_53 (by decide) (fun c6 => ?_) (fun c6 => ?_)
            · have hf := hf.trans (if_neg c6)
              have hok := hok.2 c6
              refine lv_aload_n hx hb dd_M_above_85 rfl (lv_at hl 0 rfl) ?_
              refine va_get (D := (dC, dI)) (ci := 0) (v := .ref (a 3)) (C := "ClassObjectMirrorModel") (T := TM) (N := 12) hx hb hts inM hown hK hP 0 rfl rfl 3 (by decide) (hts _ gw_304) (fun _ h9 => h9) rfl dd_M_above_86 ?_
              refine lv_iload_n hx hb dd_M_above_89 rfl (lv_at hl 3 rfl) ?_
              obtain ⟨n7, hok⟩ := hok
              refine va_iald hx hb hK hP 4 3 rfl rfl n7 dd_M_above_90 ?_
              refine lv_if_eq (tgt := 119) hx hb dd_M_above_91 (by decide) (fun c8 => ?_) (fun c8 => ?_)
              · have hf := hf.trans (if_pos c8)
                have hok := hok.1 c8
                refine lv_iconst (v := 0) hx hb dd_M_above_119 (by decide) ?_
                exact W.zret (ty := .boolean) (v := (0 : Int32)) hx hb hr (by decide) (fun t ht hW => ⟨(0 : Int32), rfl, hf.symm, ht⟩) (fun _ h => by cases h) dd_M_above_120
              · have hf := hf.trans (if_neg c8)
                have hok := hok.2 c8
                refine lv_aload_n hx hb dd_M_above_94 rfl (lv_at hl 0 rfl) ?_
                refine va_get (D := (dC, dI)) (ci := 0) (v := .ref (a 2)) (C := "ClassObjectMirrorModel") (T := TM) (N := 12) hx hb hts inM hown hK hP 0 rfl rfl 2 (by decide) (hts _ gw_303) (fun _ h9 => h9) rfl dd_M_above_95 ?_
                refine lv_iload_n hx hb dd_M_above_98 rfl (lv_at hl 3 rfl) ?_
                obtain ⟨n9, hok⟩ := hok
                refine va_iald hx hb hK hP 3 2 rfl rfl n9 dd_M_above_99 ?_
                refine vp_callSi (W.runS (As := [.int (m_comp u0 x3.toNatClampNeg)]) (rest := []) ⟨hx, hb, hml, hown, hts⟩ (mm_M_base l (m_comp u0 x3.toNatClampNeg)) (va_cwS 1 hts (gg_S gw_370 gw_371 gw_2 gw_372) rfl rfl rfl (by decide +kernel) ⟨Nat.le_of_ble_eq_true rfl, Nat.le_of_ble_eq_true rfl⟩) ⟨fun a U g mk q => q, fun U hU hW => ⟨rfl, trivial⟩⟩ rfl rfl hl.1 rfl (lv_room (Nat.le_of_ble_eq_true rfl)) dd_M_above_100 ⟨Nat.zero_le _, Nat.zero_le _⟩) (fun r hr9 => ?_)
                subst hr9
                refine lv_if_ne (tgt := 119) hx hb dd_M_above_103 (by decide) (fun c10 => ?_) (fun c10 => ?_)
                · have hf := hf.trans (if_neg c10)
                  have hok := hok.2 c10
                  refine lv_iconst (v := 0) hx hb dd_M_above_119 (by decide) ?_
                  exact W.zret (ty := .boolean) (v := (0 : Int32)) hx hb hr (by decide) (fun t ht hW => ⟨(0 : Int32), rfl, hf.symm, ht⟩) (fun _ h => by cases h) dd_M_above_120
                · have hf := hf.trans (if_pos c10)
                  have hok := hok.1 c10
                  refine lv_aload_n hx hb dd_M_above_106 rfl (lv_at hl 0 rfl) ?_
                  refine va_get (D := (dC, dI)) (ci := 0) (v := .ref (a 2)) (C := "ClassObjectMirrorModel") (T := TM) (N := 12) hx hb hts inM hown hK hP 0 rfl rfl 2 (by decide) (hts _ gw_303) (fun _ h9 => h9) rfl dd_M_above_107 ?_
                  refine lv_iload hx hb dd_M_above_110 (lv_at hl 4 rfl) ?_
                  obtain ⟨n11, hok⟩ := hok
                  refine va_iald hx hb hK hP 3 2 rfl rfl n11 dd_M_above_112 ?_
                  refine vp_callSi (W.runS (As := [.int (m_comp u0 x4.toNatClampNeg)]) (rest := []) ⟨hx, hb, hml, hown, hts⟩ (mm_M_base l (m_comp u0 x4.toNatClampNeg)) (va_cwS 1 hts (gg_S gw_370 gw_371 gw_2 gw_372) rfl rfl rfl (by decide +kernel) ⟨Nat.le_of_ble_eq_true rfl, Nat.le_of_ble_eq_true rfl⟩) ⟨fun a U g mk q => q, fun U hU hW => ⟨rfl, trivial⟩⟩ rfl rfl hl.1 rfl (lv_room (Nat.le_of_ble_eq_true rfl)) dd_M_above_113 ⟨Nat.zero_le _, Nat.zero_le _⟩) (fun r hr9 => ?_)
                  subst hr9
                  refine lv_if_eq (tgt := 121) hx hb dd_M_above_116 (by decide) (fun c12 => ?_) (fun c12 => ?_)
                  · have hf := hf.trans (if_pos c12)
                    have hok := hok.1 c12
                    refine lv_aload_n hx hb dd_M_above_121 rfl (lv_at hl 0 rfl) ?_
                    refine va_get (D := (dC, dI)) (ci := 0) (v := .ref (a 2)) (C := "ClassObjectMirrorModel") (T := TM) (N := 12) hx hb hts inM hown hK hP 0 rfl rfl 2 (by decide) (hts _ gw_303) (fun _ h9 => h9) rfl dd_M_above_122 ?_
                    refine lv_iload_n hx hb dd_M_above_125 rfl (lv_at hl 3 rfl) ?_
                    obtain ⟨n13, hok⟩ := hok
                    refine va_iald hx hb hK hP 3 2 rfl rfl n13 dd_M_above_126 ?_
                    refine lv_istore_n (lv' := [(3, .int (m_comp u0 x3.toNatClampNeg)), (0, .ref h), (1, .int x1), (2, .int x2), (4, .int x4), (5, .int x5)]) hx hb dd_M_above_127 rfl hl (by decide) rfl (fun ls hl => ?_)
                    refine lv_aload_n hx hb dd_M_above_128 rfl (lv_at hl 1 rfl) ?_
                    refine va_get (D := (dC, dI)) (ci := 0) (v := .ref (a 2)) (C := "ClassObjectMirrorModel") (T := TM) (N := 12) hx hb hts inM hown hK hP 0 rfl rfl 2 (by decide) (hts _ gw_303) (fun _ h9 => h9) rfl dd_M_above_129 ?_
                    refine lv_iload hx hb dd_M_above_132 (lv_at hl 4 rfl) ?_
                    obtain ⟨n14, hok⟩ := hok
                    refine va_iald hx hb hK hP 3 2 rfl rfl n14 dd_M_above_134 ?_
                    refine lv_istore (lv' := [(4, .int (m_comp u0 x4.toNatClampNeg)), (3, .int (m_comp u0 x3.toNatClampNeg)), (0, .ref h), (1, .int x1), (2, .int x2), (5, .int x5)]) hx hb dd_M_above_135 hl (by decide) rfl (fun ls hl => ?_)
                    refine lv_iinc (v := x5 + 1) (lv' := [(5, .int (x5 + 1)), (4, .int (m_comp u0 x4.toNatClampNeg)), (3, .int (m_comp u0 x3.toNatClampNeg)), (0, .ref h), (1, .int x1), (2, .int x2)]) hx hb dd_M_above_137 hl (k := 5) rfl rfl (by decide) rfl (fun ls hl => ?_)
                    refine lv_goto (tgt := 8) hx hb dd_M_above_140 (by decide) ?_
                    exact ih x1 x2 (m_comp u0 x3.toNatClampNeg) (m_comp u0 x4.toNatClampNeg) (x5 + 1) ls hok hf (lv_sub hl [3, 4, 5, 2, 1, 0] rfl)
                  · have hf := hf.trans (if_neg c12)
                    have hok := hok.2 c12
                    refine lv_iconst (v := 0) hx hb dd_M_above_119 (by decide) ?_
                    exact W.zret (ty := .boolean) (v := (0 : Int32)) hx hb hr (by decide) (fun t ht hW => ⟨(0 : Int32), rfl, hf.symm, ht⟩) (fun _ h => by cases h) dd_M_above_120
            · have hf := hf.trans (if_pos c6)
              have hok := hok.1 c6
              refine lv_aload_n hx hb dd_M_above_56 rfl (lv_at hl 0 rfl) ?_
              refine va_get (D := (dC, dI)) (ci := 0) (v := .ref (a 3)) (C := "ClassObjectMirrorModel") (T := TM) (N := 12) hx hb hts inM hown hK hP 0 rfl rfl 3 (by decide) (hts _ gw_304) (fun _ h9 => h9) rfl dd_M_above_57 ?_
              refine lv_iload_n hx hb dd_M_above_60 rfl (lv_at hl 3 rfl) ?_
              obtain ⟨n15, hok⟩ := hok
              refine va_iald hx hb hK hP 4 3 rfl rfl n15 dd_M_above_61 ?_
              refine lv_if_ne (tgt := 83) hx hb dd_M_above_62 (by decide) (fun c16 => ?_) (fun c16 => ?_)
              · have hf := hf.trans (if_neg c16)
                have hok := hok.2 c16
                refine lv_iconst (v := 0) hx hb dd_M_above_83 (by decide) ?_
                exact W.zret (ty := .boolean) (v := (0 : Int32)) hx hb hr (by decide) (fun t ht hW => ⟨(0 : Int32), rfl, hf.symm, ht⟩) (fun _ h => by cases h) dd_M_above_84
              · have hf := hf.trans (if_pos c16)
                have hok := hok.1 c16
                refine lv_aload_n hx hb dd_M_above_65 rfl (lv_at hl 0 rfl) ?_
                refine va_get (D := (dC, dI)) (ci := 0) (v := .ref (a 1)) (C := "ClassObjectMirrorModel") (T := TM) (N := 12) hx hb hts inM hown hK hP 0 rfl rfl 1 (by decide) (hts _ gw_302) (fun _ h9 => h9) rfl dd_M_above_66 ?_
                refine lv_iload hx hb dd_M_above_69 (lv_at hl 4 rfl) ?_
                have n17 := hok
                refine va_iald hx hb hK hP 2 1 rfl rfl n17 dd_M_above_71 ?_
                refine lv_iload_n hx hb dd_M_above_72 rfl (lv_at hl 3 rfl) ?_
                refine lv_ishr hx hb dd_M_above_73 ?_
                refine lv_iconst (v := 1) hx hb dd_M_above_74 (by decide) ?_
                refine lv_iand hx hb dd_M_above_75 ?_
                refine lv_if_eq (tgt := 83) hx hb dd_M_above_76 (by decide) (fun c18 => ?_) (fun c18 => ?_)
                · have hf := hf.trans (if_pos c18)
                  refine lv_iconst (v := 0) hx hb dd_M_above_83 (by decide) ?_
                  exact W.zret (ty := .boolean) (v := (0 : Int32)) hx hb hr (by decide) (fun t ht hW => ⟨(0 : Int32), rfl, hf.symm, ht⟩) (fun _ h => by cases h) dd_M_above_84
                · have hf := hf.trans (if_neg c18)
                  refine lv_iconst (v := 1) hx hb dd_M_above_79 (by decide) ?_
                  refine lv_goto (tgt := 84) hx hb dd_M_above_80 (by decide) ?_
                  exact W.zret (ty := .boolean) (v := (1 : Int32)) hx hb hr (by decide) (fun t ht hW => ⟨(1 : Int32), rfl, hf.symm, ht⟩) (fun _ h => by cases h) dd_M_above_84
          · have hf := hf.trans (if_neg c4)
            have hok := hok.2 c4
            refine lv_iload_n hx hb dd_M_above_32 rfl (lv_at hl 3 rfl) ?_
            refine lv_bipush (v := 9) hx hb dd_M_above_33 (by decide) ?_
            refine lv_icmp_lt (tgt := 46) hx hb dd_M_above_35 (by decide) (fun c19 => ?_) (fun c19 => ?_)
            · have hf := hf.trans (if_pos c19)
              have hok := hok.1 c19
              refine lv_aload_n hx hb dd_M_above_46 rfl (lv_at hl 0 rfl) ?_
              refine va_get (D := (dC, dI)) (ci := 0) (v := .ref (a 3)) (C := "ClassObjectMirrorModel") (T := TM) (N := 12) hx hb hts inM hown hK hP 0 rfl rfl 3 (by decide) (hts _ gw_304) (fun _ h9 => h9) rfl dd_M_above_47 ?_
              refine lv_iload hx hb dd_M_above_50 (lv_at hl 4 rfl) ?_
              obtain ⟨n20, hok⟩ := hok
              refine va_iald hx hb hK hP 4 3 rfl rfl n20 dd_M_above_52 ?_
              refine lv_if_ne (tgt := 85) hx hb dd_M_above_53 (by decide) (fun c21 => ?_) (fun c21 => ?_)
              · have hf := hf.trans (if_neg c21)
                have hok := hok.2 c21
                refine lv_aload_n hx hb dd_M_above_85 rfl (lv_at hl 0 rfl) ?_
                refine va_get (D := (dC, dI)) (ci := 0) (v := .ref (a 3)) (C := "ClassObjectMirrorModel") (T := TM) (N := 12) hx hb hts inM hown hK hP 0 rfl rfl 3 (by decide) (hts _ gw_304) (fun _ h9 => h9) rfl dd_M_above_86 ?_
                refine lv_iload_n hx hb dd_M_above_89 rfl (lv_at hl 3 rfl) ?_
                obtain ⟨n22, hok⟩ := hok
                refine va_iald hx hb hK hP 4 3 rfl rfl n22 dd_M_above_90 ?_
                refine lv_if_eq (tgt := 119) hx hb dd_M_above_91 (by decide) (fun c23 => ?_) (fun c23 => ?_)
                · have hf := hf.trans (if_pos c23)
                  have hok := hok.1 c23
                  refine lv_iconst (v := 0) hx hb dd_M_above_119 (by decide) ?_
                  exact W.zret (ty := .boolean) (v := (0 : Int32)) hx hb hr (by decide) (fun t ht hW => ⟨(0 : Int32), rfl, hf.symm, ht⟩) (fun _ h => by cases h) dd_M_above_120
                · have hf := hf.trans (if_neg c23)
                  have hok := hok.2 c23
                  refine lv_aload_n hx hb dd_M_above_94 rfl (lv_at hl 0 rfl) ?_
                  refine va_get (D := (dC, dI)) (ci := 0) (v := .ref (a 2)) (C := "ClassObjectMirrorModel") (T := TM) (N := 12) hx hb hts inM hown hK hP 0 rfl rfl 2 (by decide) (hts _ gw_303) (fun _ h9 => h9) rfl dd_M_above_95 ?_
                  refine lv_iload_n hx hb dd_M_above_98 rfl (lv_at hl 3 rfl) ?_
                  obtain ⟨n24, hok⟩ := hok
                  refine va_iald hx hb hK hP 3 2 rfl rfl n24 dd_M_above_99 ?_
                  refine vp_callSi (W.runS (As := [.int (m_comp u0 x3.toNatClampNeg)]) (rest := []) ⟨hx, hb, hml, hown, hts⟩ (mm_M_base l (m_comp u0 x3.toNatClampNeg)) (va_cwS 1 hts (gg_S gw_370 gw_371 gw_2 gw_372) rfl rfl rfl (by decide +kernel) ⟨Nat.le_of_ble_eq_true rfl, Nat.le_of_ble_eq_true rfl⟩) ⟨fun a U g mk q => q, fun U hU hW => ⟨rfl, trivial⟩⟩ rfl rfl hl.1 rfl (lv_room (Nat.le_of_ble_eq_true rfl)) dd_M_above_100 ⟨Nat.zero_le _, Nat.zero_le _⟩) (fun r hr9 => ?_)
                  subst hr9
                  refine lv_if_ne (tgt := 119) hx hb dd_M_above_103 (by decide) (fun c25 => ?_) (fun c25 => ?_)
                  · have hf := hf.trans (if_neg c25)
                    have hok := hok.2 c25
                    refine lv_iconst (v := 0) hx hb dd_M_above_119 (by decide) ?_
                    exact W.zret (ty := .boolean) (v := (0 : Int32)) hx hb hr (by decide) (fun t ht hW => ⟨(0 : Int32), rfl, hf.symm, ht⟩) (fun _ h => by cases h) dd_M_above_120
                  · have hf := hf.trans (if_pos c25)
                    have hok := hok.1 c25
                    refine lv_aload_n hx hb dd_M_above_106 rfl (lv_at hl 0 rfl) ?_
                    refine va_get (D := (dC, dI)) (ci := 0) (v := .ref (a 2)) (C := "ClassObjectMirrorModel") (T := TM) (N := 12) hx hb hts inM hown hK hP 0 rfl rfl 2 (by decide) (hts _ gw_303) (fun _ h9 => h9) rfl dd_M_above_107 ?_
                    refine lv_iload hx hb dd_M_above_110 (lv_at hl 4 rfl) ?_
                    obtain ⟨n26, hok⟩ := hok
                    refine va_iald hx hb hK hP 3 2 rfl rfl n26 dd_M_above_112 ?_
                    refine vp_callSi (W.runS (As := [.int (m_comp u0 x4.toNatClampNeg)]) (rest := []) ⟨hx, hb, hml, hown, hts⟩ (mm_M_base l (m_comp u0 x4.toNatClampNeg)) (va_cwS 1 hts (gg_S gw_370 gw_371 gw_2 gw_372) rfl rfl rfl (by decide +kernel) ⟨Nat.le_of_ble_eq_true rfl, Nat.le_of_ble_eq_true rfl⟩) ⟨fun a U g mk q => q, fun U hU hW => ⟨rfl, trivial⟩⟩ rfl rfl hl.1 rfl (lv_room (Nat.le_of_ble_eq_true rfl)) dd_M_above_113 ⟨Nat.zero_le _, Nat.zero_le _⟩) (fun r hr9 => ?_)
                    subst hr9
                    refine lv_if_eq (tgt := 121) hx hb dd_M_above_116 (by decide) (fun c27 => ?_) (fun c27 => ?_)
                    · have hf := hf.trans (if_pos c27)
                      have hok := hok.1 c27
                      refine lv_aload_n hx hb dd_M_above_121 rfl (lv_at hl 0 rfl) ?_
                      refine va_get (D := (dC, dI)) (ci := 0) (v := .ref (a 2)) (C := "ClassObjectMirrorModel") (T := TM) (N := 12) hx hb hts inM hown hK hP 0 rfl rfl 2 (by decide) (hts _ gw_303) (fun _ h9 => h9) rfl dd_M_above_122 ?_
                      refine lv_iload_n hx hb dd_M_above_125 rfl (lv_at hl 3 rfl) ?_
                      obtain ⟨n28, hok⟩ := hok
                      refine va_iald hx hb hK hP 3 2 rfl rfl n28 dd_M_above_126 ?_
                      refine lv_istore_n (lv' := [(3, .int (m_comp u0 x3.toNatClampNeg)), (0, .ref h), (1, .int x1), (2, .int x2), (4, .int x4), (5, .int x5)]) hx hb dd_M_above_127 rfl hl (by decide) rfl (fun ls hl => ?_)
                      refine lv_aload_n hx hb dd_M_above_128 rfl (lv_at hl 1 rfl) ?_
                      refine va_get (D := (dC, dI)) (ci := 0) (v := .ref (a 2)) (C := "ClassObjectMirrorModel") (T := TM) (N := 12) hx hb hts inM hown hK hP 0 rfl rfl 2 (by decide) (hts _ gw_303) (fun _ h9 => h9) rfl dd_M_above_129 ?_
                      refine lv_iload hx hb dd_M_above_132 (lv_at hl 4 rfl) ?_
                      obtain ⟨n29, hok⟩ := hok
                      refine va_iald hx hb hK hP 3 2 rfl rfl n29 dd_M_above_134 ?_
                      refine lv_istore (lv' := [(4, .int (m_comp u0 x4.toNatClampNeg)), (3, .int (m_comp u0 x3.toNatClampNeg)), (0, .ref h), (1, .int x1), (2, .int x2), (5, .int x5)]) hx hb dd_M_above_135 hl (by decide) rfl (fun ls hl => ?_)
                      refine lv_iinc (v := x5 + 1) (lv' := [(5, .int (x5 + 1)), (4, .int (m_comp u0 x4.toNatClampNeg)), (3, .int (m_comp u0 x3.toNatClampNeg)), (0, .ref h), (1, .int x1), (2, .int x2)]) hx hb dd_M_above_137 hl (k := 5) rfl rfl (by decide) rfl (fun ls hl => ?_)
                      refine lv_goto (tgt := 8) hx hb dd_M_above_140 (by decide) ?_
                      exact ih x1 x2 (m_comp u0 x3.toNatClampNeg) (m_comp u0 x4.toNatClampNeg) (x5 + 1) ls hok hf (lv_sub hl [3, 4, 5, 2, 1, 0] rfl)
                    · have hf := hf.trans (if_neg c27)
                      have hok := hok.2 c27
                      refine lv_iconst (v := 0) hx hb dd_M_above_119 (by decide) ?_
                      exact W.zret (ty := .boolean) (v := (0 : Int32)) hx hb hr (by decide) (fun t ht hW => ⟨(0 : Int32), rfl, hf.symm, ht⟩) (fun _ h => by cases h) dd_M_above_120
              · have hf := hf.trans (if_pos c21)
                have hok := hok.1 c21
                refine lv_aload_n hx hb dd_M_above_56 rfl (lv_at hl 0 rfl) ?_
                refine va_get (D := (dC, dI)) (ci := 0) (v := .ref (a 3)) (C := "ClassObjectMirrorModel") (T := TM) (N := 12) hx hb hts inM hown hK hP 0 rfl rfl 3 (by decide) (hts _ gw_304) (fun _ h9 => h9) rfl dd_M_above_57 ?_
                refine lv_iload_n hx hb dd_M_above_60 rfl (lv_at hl 3 rfl) ?_
                obtain ⟨n30, hok⟩ := hok
                refine va_iald hx hb hK hP 4 3 rfl rfl n30 dd_M_above_61 ?_
                refine lv_if_ne (tgt := 83) hx hb dd_M_above_62 (by decide) (fun c31 => ?_) (fun c31 => ?_)
                · have hf := hf.trans (if_neg c31)
                  have hok := hok.2 c31
                  refine lv_iconst (v := 0) hx hb dd_M_above_83 (by decide) ?_
                  exact W.zret (ty := .boolean) (v := (0 : Int32)) hx hb hr (by decide) (fun t ht hW => ⟨(0 : Int32), rfl, hf.symm, ht⟩) (fun _ h => by cases h) dd_M_above_84
                · have hf := hf.trans (if_pos c31)
                  have hok := hok.1 c31
                  refine lv_aload_n hx hb dd_M_above_65 rfl (lv_at hl 0 rfl) ?_
                  refine va_get (D := (dC, dI)) (ci := 0) (v := .ref (a 1)) (C := "ClassObjectMirrorModel") (T := TM) (N := 12) hx hb hts inM hown hK hP 0 rfl rfl 1 (by decide) (hts _ gw_302) (fun _ h9 => h9) rfl dd_M_above_66 ?_
                  refine lv_iload hx hb dd_M_above_69 (lv_at hl 4 rfl) ?_
                  have n32 := hok
                  refine va_iald hx hb hK hP 2 1 rfl rfl n32 dd_M_above_71 ?_
                  refine lv_iload_n hx hb dd_M_above_72 rfl (lv_at hl 3 rfl) ?_
                  refine lv_ishr hx hb dd_M_above_73 ?_
                  refine lv_iconst (v := 1) hx hb dd_M_above_74 (by decide) ?_
                  refine lv_iand hx hb dd_M_above_75 ?_
                  refine lv_if_eq (tgt := 83) hx hb dd_M_above_76 (by decide) (fun c33 => ?_) (fun c33 => ?_)
                  · have hf := hf.trans (if_pos c33)
                    refine lv_iconst (v := 0) hx hb dd_M_above_83 (by decide) ?_
                    exact W.zret (ty := .boolean) (v := (0 : Int32)) hx hb hr (by decide) (fun t ht hW => ⟨(0 : Int32), rfl, hf.symm, ht⟩) (fun _ h => by cases h) dd_M_above_84
                  · have hf := hf.trans (if_neg c33)
                    refine lv_iconst (v := 1) hx hb dd_M_above_79 (by decide) ?_
                    refine lv_goto (tgt := 84) hx hb dd_M_above_80 (by decide) ?_
                    exact W.zret (ty := .boolean) (v := (1 : Int32)) hx hb hr (by decide) (fun t ht hW => ⟨(1 : Int32), rfl, hf.symm, ht⟩) (fun _ h => by cases h) dd_M_above_84
            · have hf := hf.trans (if_neg c19)
              have hok := hok.2 c19
              refine lv_iload_n hx hb dd_M_above_38 rfl (lv_at hl 3 rfl) ?_
              refine lv_bipush (v := 11) hx hb dd_M_above_39 (by decide) ?_
              refine lv_icmp_gt (tgt := 46) hx hb dd_M_above_41 (by decide) (fun c34 => ?_) (fun c34 => ?_)
              · have hf := hf.trans (if_pos c34)
                have hok := hok.1 c34
                refine lv_aload_n hx hb dd_M_above_46 rfl (lv_at hl 0 rfl) ?_
                refine va_get (D := (dC, dI)) (ci := 0) (v := .ref (a 3)) (C := "ClassObjectMirrorModel") (T := TM) (N := 12) hx hb hts inM hown hK hP 0 rfl rfl 3 (by decide) (hts _ gw_304) (fun _ h9 => h9) rfl dd_M_above_47 ?_
                refine lv_iload hx hb dd_M_above_50 (lv_at hl 4 rfl) ?_
                obtain ⟨n35, hok⟩ := hok
                refine va_iald hx hb hK hP 4 3 rfl rfl n35 dd_M_above_52 ?_
                refine lv_if_ne (tgt := 85) hx hb dd_M_above_53 (by decide) (fun c36 => ?_) (fun c36 => ?_)
                · have hf := hf.trans (if_neg c36)
                  have hok := hok.2 c36
                  refine lv_aload_n hx hb dd_M_above_85 rfl (lv_at hl 0 rfl) ?_
                  refine va_get (D := (dC, dI)) (ci := 0) (v := .ref (a 3)) (C := "ClassObjectMirrorModel") (T := TM) (N := 12) hx hb hts inM hown hK hP 0 rfl rfl 3 (by decide) (hts _ gw_304) (fun _ h9 => h9) rfl dd_M_above_86 ?_
                  refine lv_iload_n hx hb dd_M_above_89 rfl (lv_at hl 3 rfl) ?_
                  obtain ⟨n37, hok⟩ := hok
                  refine va_iald hx hb hK hP 4 3 rfl rfl n37 dd_M_above_90 ?_
                  refine lv_if_eq (tgt := 119) hx hb dd_M_above_91 (by decide) (fun c38 => ?_) (fun c38 => ?_)
                  · have hf := hf.trans (if_pos c38)
                    have hok := hok.1 c38
                    refine lv_iconst (v := 0) hx hb dd_M_above_119 (by decide) ?_
                    exact W.zret (ty := .boolean) (v := (0 : Int32)) hx hb hr (by decide) (fun t ht hW => ⟨(0 : Int32), rfl, hf.symm, ht⟩) (fun _ h => by cases h) dd_M_above_120
                  · have hf := hf.trans (if_neg c38)
                    have hok := hok.2 c38
                    refine lv_aload_n hx hb dd_M_above_94 rfl (lv_at hl 0 rfl) ?_
                    refine va_get (D := (dC, dI)) (ci := 0) (v := .ref (a 2)) (C := "ClassObjectMirrorModel") (T := TM) (N := 12) hx hb hts inM hown hK hP 0 rfl rfl 2 (by decide) (hts _ gw_303) (fun _ h9 => h9) rfl dd_M_above_95 ?_
                    refine lv_iload_n hx hb dd_M_above_98 rfl (lv_at hl 3 rfl) ?_
                    obtain ⟨n39, hok⟩ := hok
                    refine va_iald hx hb hK hP 3 2 rfl rfl n39 dd_M_above_99 ?_
                    refine vp_callSi (W.runS (As := [.int (m_comp u0 x3.toNatClampNeg)]) (rest := []) ⟨hx, hb, hml, hown, hts⟩ (mm_M_base l (m_comp u0 x3.toNatClampNeg)) (va_cwS 1 hts (gg_S gw_370 gw_371 gw_2 gw_372) rfl rfl rfl (by decide +kernel) ⟨Nat.le_of_ble_eq_true rfl, Nat.le_of_ble_eq_true rfl⟩) ⟨fun a U g mk q => q, fun U hU hW => ⟨rfl, trivial⟩⟩ rfl rfl hl.1 rfl (lv_room (Nat.le_of_ble_eq_true rfl)) dd_M_above_100 ⟨Nat.zero_le _, Nat.zero_le _⟩) (fun r hr9 => ?_)
                    subst hr9
                    refine lv_if_ne (tgt := 119) hx hb dd_M_above_103 (by decide) (fun c40 => ?_) (fun c40 => ?_)
                    · have hf := hf.trans (if_neg c40)
                      have hok := hok.2 c40
                      refine lv_iconst (v := 0) hx hb dd_M_above_119 (by decide) ?_
                      exact W.zret (ty := .boolean) (v := (0 : Int32)) hx hb hr (by decide) (fun t ht hW => ⟨(0 : Int32), rfl, hf.symm, ht⟩) (fun _ h => by cases h) dd_M_above_120
                    · have hf := hf.trans (if_pos c40)
                      have hok := hok.1 c40
                      refine lv_aload_n hx hb dd_M_above_106 rfl (lv_at hl 0 rfl) ?_
                      refine va_get (D := (dC, dI)) (ci := 0) (v := .ref (a 2)) (C := "ClassObjectMirrorModel") (T := TM) (N := 12) hx hb hts inM hown hK hP 0 rfl rfl 2 (by decide) (hts _ gw_303) (fun _ h9 => h9) rfl dd_M_above_107 ?_
                      refine lv_iload hx hb dd_M_above_110 (lv_at hl 4 rfl) ?_
                      obtain ⟨n41, hok⟩ := hok
                      refine va_iald hx hb hK hP 3 2 rfl rfl n41 dd_M_above_112 ?_
                      refine vp_callSi (W.runS (As := [.int (m_comp u0 x4.toNatClampNeg)]) (rest := []) ⟨hx, hb, hml, hown, hts⟩ (mm_M_base l (m_comp u0 x4.toNatClampNeg)) (va_cwS 1 hts (gg_S gw_370 gw_371 gw_2 gw_372) rfl rfl rfl (by decide +kernel) ⟨Nat.le_of_ble_eq_true rfl, Nat.le_of_ble_eq_true rfl⟩) ⟨fun a U g mk q => q, fun U hU hW => ⟨rfl, trivial⟩⟩ rfl rfl hl.1 rfl (lv_room (Nat.le_of_ble_eq_true rfl)) dd_M_above_113 ⟨Nat.zero_le _, Nat.zero_le _⟩) (fun r hr9 => ?_)
                      subst hr9
                      refine lv_if_eq (tgt := 121) hx hb dd_M_above_116 (by decide) (fun c42 => ?_) (fun c42 => ?_)
                      · have hf := hf.trans (if_pos c42)
                        have hok := hok.1 c42
                        refine lv_aload_n hx hb dd_M_above_121 rfl (lv_at hl 0 rfl) ?_
                        refine va_get (D := (dC, dI)) (ci := 0) (v := .ref (a 2)) (C := "ClassObjectMirrorModel") (T := TM) (N := 12) hx hb hts inM hown hK hP 0 rfl rfl 2 (by decide) (hts _ gw_303) (fun _ h9 => h9) rfl dd_M_above_122 ?_
                        refine lv_iload_n hx hb dd_M_above_125 rfl (lv_at hl 3 rfl) ?_
                        obtain ⟨n43, hok⟩ := hok
                        refine va_iald hx hb hK hP 3 2 rfl rfl n43 dd_M_above_126 ?_
                        refine lv_istore_n (lv' := [(3, .int (m_comp u0 x3.toNatClampNeg)), (0, .ref h), (1, .int x1), (2, .int x2), (4, .int x4), (5, .int x5)]) hx hb dd_M_above_127 rfl hl (by decide) rfl (fun ls hl => ?_)
                        refine lv_aload_n hx hb dd_M_above_128 rfl (lv_at hl 1 rfl) ?_
                        refine va_get (D := (dC, dI)) (ci := 0) (v := .ref (a 2)) (C := "ClassObjectMirrorModel") (T := TM) (N := 12) hx hb hts inM hown hK hP 0 rfl rfl 2 (by decide) (hts _ gw_303) (fun _ h9 => h9) rfl dd_M_above_129 ?_
                        refine lv_iload hx hb dd_M_above_132 (lv_at hl 4 rfl) ?_
                        obtain ⟨n44, hok⟩ := hok
                        refine va_iald hx hb hK hP 3 2 rfl rfl n44 dd_M_above_134 ?_
                        refine lv_istore (lv' := [(4, .int (m_comp u0 x4.toNatClampNeg)), (3, .int (m_comp u0 x3.toNatClampNeg)), (0, .ref h), (1, .int x1), (2, .int x2), (5, .int x5)]) hx hb dd_M_above_135 hl (by decide) rfl (fun ls hl => ?_)
                        refine lv_iinc (v := x5 + 1) (lv' := [(5, .int (x5 + 1)), (4, .int (m_comp u0 x4.toNatClampNeg)), (3, .int (m_comp u0 x3.toNatClampNeg)), (0, .ref h), (1, .int x1), (2, .int x2)]) hx hb dd_M_above_137 hl (k := 5) rfl rfl (by decide) rfl (fun ls hl => ?_)
                        refine lv_goto (tgt := 8) hx hb dd_M_above_140 (by decide) ?_
                        exact ih x1 x2 (m_comp u0 x3.toNatClampNeg) (m_comp u0 x4.toNatClampNeg) (x5 + 1) ls hok hf (lv_sub hl [3, 4, 5, 2, 1, 0] rfl)
                      · have hf := hf.trans (if_neg c42)
                        have hok := hok.2 c42
                        refine lv_iconst (v := 0) hx hb dd_M_above_119 (by decide) ?_
                        exact W.zret (ty := .boolean) (v := (0 : Int32)) hx hb hr (by decide) (fun t ht hW => ⟨(0 : Int32), rfl, hf.symm, ht⟩) (fun _ h => by cases h) dd_M_above_120
                · have hf := hf.trans (if_pos c36)
                  have hok := hok.1 c36
                  refine lv_aload_n hx hb dd_M_above_56 rfl (lv_at hl 0 rfl) ?_
                  refine va_get (D := (dC, dI)) (ci := 0) (v := .ref (a 3)) (C := "ClassObjectMirrorModel") (T := TM) (N := 12) hx hb hts inM hown hK hP 0 rfl rfl 3 (by decide) (hts _ gw_304) (fun _ h9 => h9) rfl dd_M_above_57 ?_
                  refine lv_iload_n hx hb dd_M_above_60 rfl (lv_at hl 3 rfl) ?_
                  obtain ⟨n45, hok⟩ := hok
                  refine va_iald hx hb hK hP 4 3 rfl rfl n45 dd_M_above_61 ?_
                  refine lv_if_ne (tgt := 83) hx hb dd_M_above_62 (by decide) (fun c46 => ?_) (fun c46 => ?_)
                  · have hf := hf.trans (if_neg c46)
                    have hok := hok.2 c46
                    refine lv_iconst (v := 0) hx hb dd_M_above_83 (by decide) ?_
                    exact W.zret (ty := .boolean) (v := (0 : Int32)) hx hb hr (by decide) (fun t ht hW => ⟨(0 : Int32), rfl, hf.symm, ht⟩) (fun _ h => by cases h) dd_M_above_84
                  · have hf := hf.trans (if_pos c46)
                    have hok := hok.1 c46
                    refine lv_aload_n hx hb dd_M_above_65 rfl (lv_at hl 0 rfl) ?_
                    refine va_get (D := (dC, dI)) (ci := 0) (v := .ref (a 1)) (C := "ClassObjectMirrorModel") (T := TM) (N := 12) hx hb hts inM hown hK hP 0 rfl rfl 1 (by decide) (hts _ gw_302) (fun _ h9 => h9) rfl dd_M_above_66 ?_
                    refine lv_iload hx hb dd_M_above_69 (lv_at hl 4 rfl) ?_
                    have n47 := hok
                    refine va_iald hx hb hK hP 2 1 rfl rfl n47 dd_M_above_71 ?_
                    refine lv_iload_n hx hb dd_M_above_72 rfl (lv_at hl 3 rfl) ?_
                    refine lv_ishr hx hb dd_M_above_73 ?_
                    refine lv_iconst (v := 1) hx hb dd_M_above_74 (by decide) ?_
                    refine lv_iand hx hb dd_M_above_75 ?_
                    refine lv_if_eq (tgt := 83) hx hb dd_M_above_76 (by decide) (fun c48 => ?_) (fun c48 => ?_)
                    · have hf := hf.trans (if_pos c48)
                      refine lv_iconst (v := 0) hx hb dd_M_above_83 (by decide) ?_
                      exact W.zret (ty := .boolean) (v := (0 : Int32)) hx hb hr (by decide) (fun t ht hW => ⟨(0 : Int32), rfl, hf.symm, ht⟩) (fun _ h => by cases h) dd_M_above_84
                    · have hf := hf.trans (if_neg c48)
                      refine lv_iconst (v := 1) hx hb dd_M_above_79 (by decide) ?_
                      refine lv_goto (tgt := 84) hx hb dd_M_above_80 (by decide) ?_
                      exact W.zret (ty := .boolean) (v := (1 : Int32)) hx hb hr (by decide) (fun t ht hW => ⟨(1 : Int32), rfl, hf.symm, ht⟩) (fun _ h => by cases h) dd_M_above_84
              · have hf := hf.trans (if_neg c34)
                have hok := hok.2 c34
                refine lv_iconst (v := 1) hx hb dd_M_above_44 (by decide) ?_
                exact W.zret (ty := .boolean) (v := (1 : Int32)) hx hb hr (by decide) (fun t ht hW => ⟨(1 : Int32), rfl, hf.symm, ht⟩) (fun _ h => by cases h) dd_M_above_45
  exact loop_8 301 p0 p1 p0 p1 (0 : Int32) ls hok hf (lv_sub hl [3, 4, 5, 2, 1, 0] rfl)

def ff_M_supertype (u0 : SM) (p0 : Int32) (p1 : Int32) : Int32 := (if (ff_M_noType u0 p0) = 0 then (if (ff_M_noType u0 p1) = 0 then (if (ff_M_above u0 p0 p1) = 0 then 0 else 1) else (-1)) else (-1))
def ok_M_supertype (u0 : SM) (p0 : Int32) (p1 : Int32) : Prop := ((((ff_M_noType u0 p0) = 0) → ((((ff_M_noType u0 p1) = 0) → ok_M_above u0 p0 p1) ∧ (¬ ((ff_M_noType u0 p1) = 0) → True))) ∧ (¬ ((ff_M_noType u0 p0) = 0) → True))
abbrev ws_M_supertype : List Cond := .code yy_M_supertype bb_M_supertype 3 (some .int) :: gW
abbrev rm_M_supertype : Room := { frames := 2, cells := 0, slots := 0, locals := 45 }
set_option maxHeartbeats 4000000 in
set_option maxRecDepth 100000 in
theorem mm_M_supertype (l : Launch) (dC : Nat → ClassId) (dI : Nat → Nat → Nat) (h : Nat) (a : Nat → Nat) (k : Nat → ClassId) (u0 : SM) (p0 : Int32) (p1 : Int32) (hok : ok_M_supertype u0 p0 p1) : Met l yy_M_supertype ws_M_supertype rm_M_supertype (va_Pc [.ref h, .int p0, .int p1] (pM dC dI h a k u0)) (vp_Si (fun r => r = ff_M_supertype u0 p0 p1)) 0 0 (fun _ => False) := by
  refine Met.ofW (cc := bb_M_supertype) (maxL := 3) (ret := (some .int)) (by decide) rfl ?_
  intro p e s m args below meth c s₁ B hml hv
  obtain ⟨rfl, hP, hK, hD⟩ := hv
  have hx := B.exec
  have hb := B.bytes
  have hr := B.returns
  have hts : ∀ w ∈ gW, w.before _ s = true := fun w h => atoms_spec (ws := ws_M_supertype) B.pre w (List.mem_cons_of_mem _ h)
  have hown : s.vm.findClass "ClassObjectMirrorModel" = some m.cls := findClass_of_methodNamed B.named
  have hlocks := B.notSynchronized
  have hS : va_S (aM h a) s.heap s.heap [] := va_S.rf
  have hl := lv_entry ([.ref h, .int p0, .int p1]) (n := 3) (Nat.le_of_ble_eq_true rfl)
  rw [lg_entry_eq]
  generalize (lg_sl ([.ref h, .int p0, .int p1]) ++ List.replicate (3 - (lg_sl ([.ref h, .int p0, .int p1])).length) Slot.unset).toArray = ls at hl ⊢
  have hl : lv_has ls 3 [(0, .ref h), (1, .int p0), (2, .int p1)] := hl
  have hf := ff_M_supertype.eq_1 u0 p0 p1
  unfold ok_M_supertype at hok
  refine lv_aload_n hx hb dd_M_supertype_0 rfl (lv_at hl 0 rfl) ?_
  refine lv_iload_n hx hb dd_M_supertype_1 rfl (lv_at hl 1 rfl) ?_
  refine vp_callSi (W.runV (As := [.int p0]) (rest := []) ⟨hx, hb, hml, hown, hts⟩ (mm_M_noType l dC dI h a k u0 p0) (cwV 1 hts (gg_V gw_342 gw_344 gs_18 gw_2 gw_345) rfl rfl rfl (by decide +kernel) ⟨Nat.le_of_ble_eq_true rfl, Nat.le_of_ble_eq_true rfl⟩) ⟨pM_bl, va_recv hK hP (ci := 0) (q0 := 0) rfl rfl, fun U hU hW => ⟨rfl, pM_up hP hK hD hU hW⟩⟩ rfl rfl hl.1 rfl (lv_room (Nat.le_of_ble_eq_true rfl)) dd_M_supertype_2 ⟨Nat.zero_le _, Nat.zero_le _⟩) (fun r hr9 => ?_)
  subst hr9
  refine lv_if_ne (tgt := 16) hx hb dd_M_supertype_5 (by decide) (fun c1 => ?_) (fun c1 => ?_)
  · have hf := hf.trans (if_neg c1)
    have hok := hok.2 c1
    refine lv_iconst (v := (-1)) hx hb dd_M_supertype_16 (by decide) ?_
    refine lv_goto (tgt := 34) hx hb dd_M_supertype_17 (by decide) ?_
    exact W.iret (v := ((-1) : Int32)) hx hb hr (fun t ht hW => ⟨((-1) : Int32), rfl, hf.symm, ht⟩) (fun _ h => by cases h) dd_M_supertype_34
  · have hf := hf.trans (if_pos c1)
    have hok := hok.1 c1
    refine lv_aload_n hx hb dd_M_supertype_8 rfl (lv_at hl 0 rfl) ?_
    refine lv_iload_n hx hb dd_M_supertype_9 rfl (lv_at hl 2 rfl) ?_
    refine vp_callSi (W.runV (As := [.int p1]) (rest := []) ⟨hx, hb, hml, hown, hts⟩ (mm_M_noType l dC dI h a k u0 p1) (cwV 1 hts (gg_V gw_342 gw_344 gs_18 gw_2 gw_345) rfl rfl rfl (by decide +kernel) ⟨Nat.le_of_ble_eq_true rfl, Nat.le_of_ble_eq_true rfl⟩) ⟨pM_bl, va_recv hK hP (ci := 0) (q0 := 0) rfl rfl, fun U hU hW => ⟨rfl, pM_up hP hK hD hU hW⟩⟩ rfl rfl hl.1 rfl (lv_room (Nat.le_of_ble_eq_true rfl)) dd_M_supertype_10 ⟨Nat.zero_le _, Nat.zero_le _⟩) (fun r hr9 => ?_)
    subst hr9
    refine lv_if_eq (tgt := 20) hx hb dd_M_supertype_13 (by decide) (fun c2 => ?_) (fun c2 => ?_)
    · have hf := hf.trans (if_pos c2)
      have hok := hok.1 c2
      refine lv_aload_n hx hb dd_M_supertype_20 rfl (lv_at hl 0 rfl) ?_
      refine lv_iload_n hx hb dd_M_supertype_21 rfl (lv_at hl 1 rfl) ?_
      refine lv_iload_n hx hb dd_M_supertype_22 rfl (lv_at hl 2 rfl) ?_
      have n3 := hok
      refine vp_callSi (W.runV (As := [.int p0, .int p1]) (rest := []) ⟨hx, hb, hml, hown, hts⟩ (mm_M_above l dC dI h a k u0 p0 p1 n3) (cwV 2 hts (gg_V gw_366 gw_368 gs_21 gw_2 gw_369) rfl rfl rfl (by decide +kernel) ⟨Nat.le_of_ble_eq_true rfl, Nat.le_of_ble_eq_true rfl⟩) ⟨pM_bl, va_recv hK hP (ci := 0) (q0 := 0) rfl rfl, fun U hU hW => ⟨rfl, pM_up hP hK hD hU hW⟩⟩ rfl rfl hl.1 rfl (lv_room (Nat.le_of_ble_eq_true rfl)) dd_M_supertype_23 ⟨Nat.zero_le _, Nat.zero_le _⟩) (fun r hr9 => ?_)
      subst hr9
      refine lv_if_eq (tgt := 33) hx hb dd_M_supertype_26 (by decide) (fun c4 => ?_) (fun c4 => ?_)
      · have hf := hf.trans (if_pos c4)
        refine lv_iconst (v := 0) hx hb dd_M_supertype_33 (by decide) ?_
        exact W.iret (v := (0 : Int32)) hx hb hr (fun t ht hW => ⟨(0 : Int32), rfl, hf.symm, ht⟩) (fun _ h => by cases h) dd_M_supertype_34
      · have hf := hf.trans (if_neg c4)
        refine lv_iconst (v := 1) hx hb dd_M_supertype_29 (by decide) ?_
        refine lv_goto (tgt := 34) hx hb dd_M_supertype_30 (by decide) ?_
        exact W.iret (v := (1 : Int32)) hx hb hr (fun t ht hW => ⟨(1 : Int32), rfl, hf.symm, ht⟩) (fun _ h => by cases h) dd_M_supertype_34
    · have hf := hf.trans (if_neg c2)
      have hok := hok.2 c2
      refine lv_iconst (v := (-1)) hx hb dd_M_supertype_16 (by decide) ?_
      refine lv_goto (tgt := 34) hx hb dd_M_supertype_17 (by decide) ?_
      exact W.iret (v := ((-1) : Int32)) hx hb hr (fun t ht hW => ⟨((-1) : Int32), rfl, hf.symm, ht⟩) (fun _ h => by cases h) dd_M_supertype_34

def fl_M_bottom_2 : Nat → SM → Int32 → Int32 → Int32
  | 0, _, _, _ => 0
  | n + 1, u0, x1, x2 => (if (m_dims u0 x2.toNatClampNeg) ≤ 0 then x2 else fl_M_bottom_2 n u0 x1 (m_comp u0 x2.toNatClampNeg))
def okl_M_bottom_2 : Nat → SM → Int32 → Int32 → Prop
  | 0, _, _, _ => False
  | n + 1, u0, x1, x2 => (vp_in x2 300) ∧ ((((m_dims u0 x2.toNatClampNeg) ≤ 0) → True) ∧ (¬ ((m_dims u0 x2.toNatClampNeg) ≤ 0) → (vp_in x2 300) ∧ okl_M_bottom_2 n u0 x1 (m_comp u0 x2.toNatClampNeg)))
def ff_M_bottom (u0 : SM) (p0 : Int32) : Int32 := fl_M_bottom_2 300 u0 p0 p0
def ok_M_bottom (u0 : SM) (p0 : Int32) : Prop := okl_M_bottom_2 300 u0 p0 p0
abbrev ws_M_bottom : List Cond := .code yy_M_bottom bb_M_bottom 3 (some .int) :: gW
abbrev rm_M_bottom : Room := { frames := 0, cells := 0, slots := 0, locals := 0 }
set_option maxHeartbeats 4000000 in
set_option maxRecDepth 100000 in
theorem mm_M_bottom (l : Launch) (dC : Nat → ClassId) (dI : Nat → Nat → Nat) (h : Nat) (a : Nat → Nat) (k : Nat → ClassId) (u0 : SM) (p0 : Int32) (hok : ok_M_bottom u0 p0) : Met l yy_M_bottom ws_M_bottom rm_M_bottom (va_Pc [.ref h, .int p0] (pM dC dI h a k u0)) (vp_Si (fun r => r = ff_M_bottom u0 p0)) 0 0 (fun _ => False) := by
  refine Met.ofW (cc := bb_M_bottom) (maxL := 3) (ret := (some .int)) (by decide) rfl ?_
  intro p e s m args below meth c s₁ B hml hv
  obtain ⟨rfl, hP, hK, hD⟩ := hv
  have hx := B.exec
  have hb := B.bytes
  have hr := B.returns
  have hts : ∀ w ∈ gW, w.before _ s = true := fun w h => atoms_spec (ws := ws_M_bottom) B.pre w (List.mem_cons_of_mem _ h)
  have hown : s.vm.findClass "ClassObjectMirrorModel" = some m.cls := findClass_of_methodNamed B.named
  have hlocks := B.notSynchronized
  have hS : va_S (aM h a) s.heap s.heap [] := va_S.rf
  have hl := lv_entry ([.ref h, .int p0]) (n := 3) (Nat.le_of_ble_eq_true rfl)
  rw [lg_entry_eq]
  generalize (lg_sl ([.ref h, .int p0]) ++ List.replicate (3 - (lg_sl ([.ref h, .int p0])).length) Slot.unset).toArray = ls at hl ⊢
  have hl : lv_has ls 3 [(0, .ref h), (1, .int p0)] := hl
  have hf := ff_M_bottom.eq_1 u0 p0
  unfold ok_M_bottom at hok
  refine lv_iload_n hx hb dd_M_bottom_0 rfl (lv_at hl 1 rfl) ?_
  refine lv_istore_n (lv' := [(2, .int p0), (0, .ref h), (1, .int p0)]) hx hb dd_M_bottom_1 rfl hl (by decide) rfl (fun ls hl => ?_)
  have loop_2 : ∀ (n : Nat) (x1 : Int32) (x2 : Int32) (ls : Array Slot), okl_M_bottom_2 n u0 x1 x2 → ff_M_bottom u0 p0 = fl_M_bottom_2 n u0 x1 x2 → lv_has ls 3 [(0, .ref h), (1, .int x1), (2, .int x2)] → W p l e (headSpec ws_M_bottom rm_M_bottom).room s m ([.ref h, .int p0] : List Value).toArray below meth c s.heap [] 0 0 (MQ below (vp_Si (fun r => r = ff_M_bottom u0 p0)) ([.ref h, .int p0] : List Value).toArray s 0 0 (fun _ => False)) (F0 m 2 ls []) := by
    intro n
    induction n with
    | zero => intro x1 x2 ls hok; exact (show False from hok).elim
    | succ n ih =>
      intro x1 x2 ls hok hf hl
      rw [fl_M_bottom_2] at hf
      rw [okl_M_bottom_2] at hok
      refine lv_aload_n hx hb dd_M_bottom_2 rfl (lv_at hl 0 rfl) ?_
      refine va_get (D := (dC, dI)) (ci := 0) (v := .ref (a 3)) (C := "ClassObjectMirrorModel") (T := TM) (N := 12) hx hb hts inM hown hK hP 0 rfl rfl 3 (by decide) (hts _ gw_304) (fun _ h9 => h9) rfl dd_M_bottom_3 ?_
      refine lv_iload_n hx hb dd_M_bottom_6 rfl (lv_at hl 2 rfl) ?_
      obtain ⟨n1, hok⟩ := hok
      refine va_iald hx hb hK hP 4 3 rfl rfl n1 dd_M_bottom_7 ?_
      refine lv_if_le (tgt := 21) hx hb dd_M_bottom_8 (by decide) (fun c2 => ?_) (fun c2 => ?_)
      · have hf := hf.trans (if_pos c2)
        have hok := hok.1 c2
        refine lv_iload_n hx hb dd_M_bottom_21 rfl (lv_at hl 2 rfl) ?_
        exact W.iret (v := x2) hx hb hr (fun t ht hW => ⟨x2, rfl, hf.symm, ht⟩) (fun _ h => by cases h) dd_M_bottom_22
      · have hf := hf.trans (if_neg c2)
        have hok := hok.2 c2
        refine lv_aload_n hx hb dd_M_bottom_11 rfl (lv_at hl 0 rfl) ?_
        refine va_get (D := (dC, dI)) (ci := 0) (v := .ref (a 2)) (C := "ClassObjectMirrorModel") (T := TM) (N := 12) hx hb hts inM hown hK hP 0 rfl rfl 2 (by decide) (hts _ gw_303) (fun _ h9 => h9) rfl dd_M_bottom_12 ?_
        refine lv_iload_n hx hb dd_M_bottom_15 rfl (lv_at hl 2 rfl) ?_
        obtain ⟨n3, hok⟩ := hok
        refine va_iald hx hb hK hP 3 2 rfl rfl n3 dd_M_bottom_16 ?_
        refine lv_istore_n (lv' := [(2, .int (m_comp u0 x2.toNatClampNeg)), (0, .ref h), (1, .int x1)]) hx hb dd_M_bottom_17 rfl hl (by decide) rfl (fun ls hl => ?_)
        refine lv_goto (tgt := 2) hx hb dd_M_bottom_18 (by decide) ?_
        exact ih x1 (m_comp u0 x2.toNatClampNeg) ls hok hf (lv_sub hl [1, 2, 0] rfl)
  exact loop_2 300 p0 p0 ls hok hf (lv_sub hl [1, 2, 0] rfl)

def ff_M_marks (u0 : SM) (p0 : Int32) : Int32 := (if (ff_M_noType u0 p0) = 0 then (if (m_dims u0 p0.toNatClampNeg) = 0 then m_fm u0 p0.toNatClampNeg else 16 + ((m_fm u0 (ff_M_bottom u0 p0).toNatClampNeg) &&& 7)) else (-1))
def ok_M_marks (u0 : SM) (p0 : Int32) : Prop := ((((ff_M_noType u0 p0) = 0) → (vp_in p0 300) ∧ ((((m_dims u0 p0.toNatClampNeg) = 0) → vp_in p0 22) ∧ (¬ ((m_dims u0 p0.toNatClampNeg) = 0) → (ok_M_bottom u0 p0) ∧ vp_in (ff_M_bottom u0 p0) 22))) ∧ (¬ ((ff_M_noType u0 p0) = 0) → True))
abbrev ws_M_marks : List Cond := .code yy_M_marks bb_M_marks 2 (some .int) :: gW
abbrev rm_M_marks : Room := { frames := 1, cells := 0, slots := 0, locals := 22 }
set_option maxHeartbeats 4000000 in
set_option maxRecDepth 100000 in
theorem mm_M_marks (l : Launch) (dC : Nat → ClassId) (dI : Nat → Nat → Nat) (h : Nat) (a : Nat → Nat) (k : Nat → ClassId) (u0 : SM) (p0 : Int32) (hok : ok_M_marks u0 p0) : Met l yy_M_marks ws_M_marks rm_M_marks (va_Pc [.ref h, .int p0] (pM dC dI h a k u0)) (vp_Si (fun r => r = ff_M_marks u0 p0)) 0 0 (fun _ => False) := by
  refine Met.ofW (cc := bb_M_marks) (maxL := 2) (ret := (some .int)) (by decide) rfl ?_
  intro p e s m args below meth c s₁ B hml hv
  obtain ⟨rfl, hP, hK, hD⟩ := hv
  have hx := B.exec
  have hb := B.bytes
  have hr := B.returns
  have hts : ∀ w ∈ gW, w.before _ s = true := fun w h => atoms_spec (ws := ws_M_marks) B.pre w (List.mem_cons_of_mem _ h)
  have hown : s.vm.findClass "ClassObjectMirrorModel" = some m.cls := findClass_of_methodNamed B.named
  have hlocks := B.notSynchronized
  have hS : va_S (aM h a) s.heap s.heap [] := va_S.rf
  have hl := lv_entry ([.ref h, .int p0]) (n := 2) (Nat.le_of_ble_eq_true rfl)
  rw [lg_entry_eq]
  generalize (lg_sl ([.ref h, .int p0]) ++ List.replicate (2 - (lg_sl ([.ref h, .int p0])).length) Slot.unset).toArray = ls at hl ⊢
  have hl : lv_has ls 2 [(0, .ref h), (1, .int p0)] := hl
  have hf := ff_M_marks.eq_1 u0 p0
  unfold ok_M_marks at hok
  refine lv_aload_n hx hb dd_M_marks_0 rfl (lv_at hl 0 rfl) ?_
  refine lv_iload_n hx hb dd_M_marks_1 rfl (lv_at hl 1 rfl) ?_
  refine vp_callSi (W.runV (As := [.int p0]) (rest := []) ⟨hx, hb, hml, hown, hts⟩ (mm_M_noType l dC dI h a k u0 p0) (cwV 1 hts (gg_V gw_342 gw_344 gs_18 gw_2 gw_345) rfl rfl rfl (by decide +kernel) ⟨Nat.le_of_ble_eq_true rfl, Nat.le_of_ble_eq_true rfl⟩) ⟨pM_bl, va_recv hK hP (ci := 0) (q0 := 0) rfl rfl, fun U hU hW => ⟨rfl, pM_up hP hK hD hU hW⟩⟩ rfl rfl hl.1 rfl (lv_room (Nat.le_of_ble_eq_true rfl)) dd_M_marks_2 ⟨Nat.zero_le _, Nat.zero_le _⟩) (fun r hr9 => ?_)
  subst hr9
  refine lv_if_eq (tgt := 10) hx hb dd_M_marks_5 (by decide) (fun c1 => ?_) (fun c1 => ?_)
  · have hf := hf.trans (if_pos c1)
    have hok := hok.1 c1
    refine lv_aload_n hx hb dd_M_marks_10 rfl (lv_at hl 0 rfl) ?_
    refine va_get (D := (dC, dI)) (ci := 0) (v := .ref (a 3)) (C := "ClassObjectMirrorModel") (T := TM) (N := 12) hx hb hts inM hown hK hP 0 rfl rfl 3 (by decide) (hts _ gw_304) (fun _ h9 => h9) rfl dd_M_marks_11 ?_
    refine lv_iload_n hx hb dd_M_marks_14 rfl (lv_at hl 1 rfl) ?_
    obtain ⟨n2, hok⟩ := hok
    refine va_iald hx hb hK hP 4 3 rfl rfl n2 dd_M_marks_15 ?_
    refine lv_if_ne (tgt := 28) hx hb dd_M_marks_16 (by decide) (fun c3 => ?_) (fun c3 => ?_)
    · have hf := hf.trans (if_neg c3)
      have hok := hok.2 c3
      refine lv_bipush (v := 16) hx hb dd_M_marks_28 (by decide) ?_
      refine lv_aload_n hx hb dd_M_marks_30 rfl (lv_at hl 0 rfl) ?_
      refine va_get (D := (dC, dI)) (ci := 0) (v := .ref (a 0)) (C := "ClassObjectMirrorModel") (T := TM) (N := 12) hx hb hts inM hown hK hP 0 rfl rfl 0 (by decide) (hts _ gw_301) (fun _ h9 => h9) rfl dd_M_marks_31 ?_
      refine lv_aload_n hx hb dd_M_marks_34 rfl (lv_at hl 0 rfl) ?_
      refine lv_iload_n hx hb dd_M_marks_35 rfl (lv_at hl 1 rfl) ?_
      obtain ⟨n4, hok⟩ := hok
      refine vp_callSi (W.runV (As := [.int p0]) (rest := [.ref (a 0), .int 16]) ⟨hx, hb, hml, hown, hts⟩ (mm_M_bottom l dC dI h a k u0 p0 n4) (cwV 1 hts (gg_V gw_377 gw_379 gs_22 gw_2 gw_380) rfl rfl rfl (by decide +kernel) ⟨Nat.le_of_ble_eq_true rfl, Nat.le_of_ble_eq_true rfl⟩) ⟨pM_bl, va_recv hK hP (ci := 0) (q0 := 0) rfl rfl, fun U hU hW => ⟨rfl, pM_up hP hK hD hU hW⟩⟩ rfl rfl hl.1 rfl (lv_room (Nat.le_of_ble_eq_true rfl)) dd_M_marks_36 ⟨Nat.zero_le _, Nat.zero_le _⟩) (fun r hr9 => ?_)
      subst hr9
      have n5 := hok
      refine va_iald hx hb hK hP 1 0 rfl rfl n5 dd_M_marks_39 ?_
      refine lv_bipush (v := 7) hx hb dd_M_marks_40 (by decide) ?_
      refine lv_iand hx hb dd_M_marks_42 ?_
      refine lv_iadd hx hb dd_M_marks_43 ?_
      exact W.iret (v := (16 + ((m_fm u0 (ff_M_bottom u0 p0).toNatClampNeg) &&& 7))) hx hb hr (fun t ht hW => ⟨(16 + ((m_fm u0 (ff_M_bottom u0 p0).toNatClampNeg) &&& 7)), rfl, hf.symm, ht⟩) (fun _ h => by cases h) dd_M_marks_44
    · have hf := hf.trans (if_pos c3)
      have hok := hok.1 c3
      refine lv_aload_n hx hb dd_M_marks_19 rfl (lv_at hl 0 rfl) ?_
      refine va_get (D := (dC, dI)) (ci := 0) (v := .ref (a 0)) (C := "ClassObjectMirrorModel") (T := TM) (N := 12) hx hb hts inM hown hK hP 0 rfl rfl 0 (by decide) (hts _ gw_301) (fun _ h9 => h9) rfl dd_M_marks_20 ?_
      refine lv_iload_n hx hb dd_M_marks_23 rfl (lv_at hl 1 rfl) ?_
      have n6 := hok
      refine va_iald hx hb hK hP 1 0 rfl rfl n6 dd_M_marks_24 ?_
      refine lv_goto (tgt := 44) hx hb dd_M_marks_25 (by decide) ?_
      exact W.iret (v := (m_fm u0 p0.toNatClampNeg)) hx hb hr (fun t ht hW => ⟨(m_fm u0 p0.toNatClampNeg), rfl, hf.symm, ht⟩) (fun _ h => by cases h) dd_M_marks_44
  · have hf := hf.trans (if_neg c1)
    have hok := hok.2 c1
    refine lv_iconst (v := (-1)) hx hb dd_M_marks_8 (by decide) ?_
    exact W.iret (v := ((-1) : Int32)) hx hb hr (fun t ht hW => ⟨((-1) : Int32), rfl, hf.symm, ht⟩) (fun _ h => by cases h) dd_M_marks_9

def ff_M_kinds (u0 : SM) (p0 : Int32) : Int32 := (if (ff_M_noType u0 p0) = 0 then (if (m_dims u0 p0.toNatClampNeg) ≤ 0 then (if 8 < p0 then (if ((m_fm u0 p0.toNatClampNeg) &&& 512) = 0 then (if p0 = 19 then (if p0 < 13 then (0 + 8) + 0 else (0 + 8) + 32) else (if p0 = 20 then (if p0 < 13 then (0 + 16) + 0 else (0 + 16) + 32) else (if p0 < 13 then (0 + 0) + 0 else (0 + 0) + 32))) else (if p0 = 19 then (if p0 < 13 then (2 + 8) + 0 else (2 + 8) + 32) else (if p0 = 20 then (if p0 < 13 then (2 + 16) + 0 else (2 + 16) + 32) else (if p0 < 13 then (2 + 0) + 0 else (2 + 0) + 32)))) else (if p0 = 19 then (if p0 < 13 then (1 + 8) + 0 else (1 + 8) + 32) else (if p0 = 20 then (if p0 < 13 then (1 + 16) + 0 else (1 + 16) + 32) else (if p0 < 13 then (1 + 0) + 0 else (1 + 0) + 32)))) else 4) else (-1))
def ok_M_kinds (u0 : SM) (p0 : Int32) : Prop := ((((ff_M_noType u0 p0) = 0) → (vp_in p0 300) ∧ ((((m_dims u0 p0.toNatClampNeg) ≤ 0) → (((8 < p0) → vp_in p0 22) ∧ (¬ (8 < p0) → True))) ∧ (¬ ((m_dims u0 p0.toNatClampNeg) ≤ 0) → True))) ∧ (¬ ((ff_M_noType u0 p0) = 0) → True))
abbrev ws_M_kinds : List Cond := .code yy_M_kinds bb_M_kinds 3 (some .int) :: gW
abbrev rm_M_kinds : Room := { frames := 1, cells := 0, slots := 0, locals := 21 }
set_option maxHeartbeats 4000000 in
set_option maxRecDepth 100000 in
theorem mm_M_kinds (l : Launch) (dC : Nat → ClassId) (dI : Nat → Nat → Nat) (h : Nat) (a : Nat → Nat) (k : Nat → ClassId) (u0 : SM) (p0 : Int32) (hok : ok_M_kinds u0 p0) : Met l yy_M_kinds ws_M_kinds rm_M_kinds (va_Pc [.ref h, .int p0] (pM dC dI h a k u0)) (vp_Si (fun r => r = ff_M_kinds u0 p0)) 0 0 (fun _ => False) := by
  refine Met.ofW (cc := bb_M_kinds) (maxL := 3) (ret := (some .int)) (by decide) rfl ?_
  intro p e s m args below meth c s₁ B hml hv
  obtain ⟨rfl, hP, hK, hD⟩ := hv
  have hx := B.exec
  have hb := B.bytes
  have hr := B.returns
  have hts : ∀ w ∈ gW, w.before _ s = true := fun w h => atoms_spec (ws := ws_M_kinds) B.pre w (List.mem_cons_of_mem _ h)
  have hown : s.vm.findClass "ClassObjectMirrorModel" = some m.cls := findClass_of_methodNamed B.named
  have hlocks := B.notSynchronized
  have hS : va_S (aM h a) s.heap s.heap [] := va_S.rf
  have hl := lv_entry ([.ref h, .int p0]) (n := 3) (Nat.le_of_ble_eq_true rfl)
  rw [lg_entry_eq]
  generalize (lg_sl ([.ref h, .int p0]) ++ List.replicate (3 - (lg_sl ([.ref h, .int p0])).length) Slot.unset).toArray = ls at hl ⊢
  have hl : lv_has ls 3 [(0, .ref h), (1, .int p0)] := hl
  have hf := ff_M_kinds.eq_1 u0 p0
  unfold ok_M_kinds at hok
  refine lv_aload_n hx hb dd_M_kinds_0 rfl (lv_at hl 0 rfl) ?_
  refine lv_iload_n hx hb dd_M_kinds_1 rfl (lv_at hl 1 rfl) ?_
  refine vp_callSi (W.runV (As := [.int p0]) (rest := []) ⟨hx, hb, hml, hown, hts⟩ (mm_M_noType l dC dI h a k u0 p0) (cwV 1 hts (gg_V gw_342 gw_344 gs_18 gw_2 gw_345) rfl rfl rfl (by decide +kernel) ⟨Nat.le_of_ble_eq_true rfl, Nat.le_of_ble_eq_true rfl⟩) ⟨pM_bl, va_recv hK hP (ci := 0) (q0 := 0) rfl rfl, fun U hU hW => ⟨rfl, pM_up hP hK hD hU hW⟩⟩ rfl rfl hl.1 rfl (lv_room (Nat.le_of_ble_eq_true rfl)) dd_M_kinds_2 ⟨Nat.zero_le _, Nat.zero_le _⟩) (fun r hr9 => ?_)
  subst hr9
  refine lv_if_eq (tgt := 10) hx hb dd_M_kinds_5 (by decide) (fun c1 => ?_) (fun c1 => ?_)
  · have hf := hf.trans (if_pos c1)
    have hok := hok.1 c1
    refine lv_aload_n hx hb dd_M_kinds_10 rfl (lv_at hl 0 rfl) ?_
    refine va_get (D := (dC, dI)) (ci := 0) (v := .ref (a 3)) (C := "ClassObjectMirrorModel") (T := TM) (N := 12) hx hb hts inM hown hK hP 0 rfl rfl 3 (by decide) (hts _ gw_304) (fun _ h9 => h9) rfl dd_M_kinds_11 ?_
    refine lv_iload_n hx hb dd_M_kinds_14 rfl (lv_at hl 1 rfl) ?_
    obtain ⟨n2, hok⟩ := hok
    refine va_iald hx hb hK hP 4 3 rfl rfl n2 dd_M_kinds_15 ?_
    refine lv_if_le (tgt := 21) hx hb dd_M_kinds_16 (by decide) (fun c3 => ?_) (fun c3 => ?_)
    · have hf := hf.trans (if_pos c3)
      have hok := hok.1 c3
      refine lv_iload_n hx hb dd_M_kinds_21 rfl (lv_at hl 1 rfl) ?_
      refine lv_bipush (v := 8) hx hb dd_M_kinds_22 (by decide) ?_
      refine lv_icmp_gt (tgt := 31) hx hb dd_M_kinds_24 (by decide) (fun c4 => ?_) (fun c4 => ?_)
      · have hf := hf.trans (if_pos c4)
        have hok := hok.1 c4
        refine lv_aload_n hx hb dd_M_kinds_31 rfl (lv_at hl 0 rfl) ?_
        refine va_get (D := (dC, dI)) (ci := 0) (v := .ref (a 0)) (C := "ClassObjectMirrorModel") (T := TM) (N := 12) hx hb hts inM hown hK hP 0 rfl rfl 0 (by decide) (hts _ gw_301) (fun _ h9 => h9) rfl dd_M_kinds_32 ?_
        refine lv_iload_n hx hb dd_M_kinds_35 rfl (lv_at hl 1 rfl) ?_
        have n5 := hok
        refine va_iald hx hb hK hP 1 0 rfl rfl n5 dd_M_kinds_36 ?_
        refine lv_sipush (v := 512) hx hb dd_M_kinds_37 (by decide) ?_
        refine lv_iand hx hb dd_M_kinds_40 ?_
        refine lv_if_eq (tgt := 48) hx hb dd_M_kinds_41 (by decide) (fun c6 => ?_) (fun c6 => ?_)
        · have hf := hf.trans (if_pos c6)
          refine lv_iconst (v := 0) hx hb dd_M_kinds_48 (by decide) ?_
          refine lv_istore_n (lv' := [(2, .int 0), (0, .ref h), (1, .int p0)]) hx hb dd_M_kinds_49 rfl hl (by decide) rfl (fun ls hl => ?_)
          refine lv_iload_n hx hb dd_M_kinds_50 rfl (lv_at hl 0 rfl) ?_
          refine lv_iload_n hx hb dd_M_kinds_51 rfl (lv_at hl 2 rfl) ?_
          refine lv_bipush (v := 19) hx hb dd_M_kinds_52 (by decide) ?_
          refine lv_icmp_ne (tgt := 62) hx hb dd_M_kinds_54 (by decide) (fun c7 => ?_) (fun c7 => ?_)
          · have hf := hf.trans (if_neg c7)
            refine lv_iload_n hx hb dd_M_kinds_62 rfl (lv_at hl 2 rfl) ?_
            refine lv_bipush (v := 20) hx hb dd_M_kinds_63 (by decide) ?_
            refine lv_icmp_ne (tgt := 73) hx hb dd_M_kinds_65 (by decide) (fun c8 => ?_) (fun c8 => ?_)
            · have hf := hf.trans (if_neg c8)
              refine lv_iconst (v := 0) hx hb dd_M_kinds_73 (by decide) ?_
              refine lv_iadd hx hb dd_M_kinds_74 ?_
              refine lv_iload_n hx hb dd_M_kinds_75 rfl (lv_at hl 2 rfl) ?_
              refine lv_bipush (v := 13) hx hb dd_M_kinds_76 (by decide) ?_
              refine lv_icmp_lt (tgt := 86) hx hb dd_M_kinds_78 (by decide) (fun c9 => ?_) (fun c9 => ?_)
              · have hf := hf.trans (if_pos c9)
                refine lv_iconst (v := 0) hx hb dd_M_kinds_86 (by decide) ?_
                refine lv_iadd hx hb dd_M_kinds_87 ?_
                exact W.iret (v := ((0 + 0) + 0)) hx hb hr (fun t ht hW => ⟨((0 + 0) + 0), rfl, hf.symm, ht⟩) (fun _ h => by cases h) dd_M_kinds_88
              · have hf := hf.trans (if_neg c9)
                refine lv_bipush (v := 32) hx hb dd_M_kinds_81 (by decide) ?_
                refine lv_goto (tgt := 87) hx hb dd_M_kinds_83 (by decide) ?_
                refine lv_iadd hx hb dd_M_kinds_87 ?_
                exact W.iret (v := ((0 + 0) + 32)) hx hb hr (fun t ht hW => ⟨((0 + 0) + 32), rfl, hf.symm, ht⟩) (fun _ h => by cases h) dd_M_kinds_88
            · have hf := hf.trans (if_pos c8)
              refine lv_bipush (v := 16) hx hb dd_M_kinds_68 (by decide) ?_
              refine lv_goto (tgt := 74) hx hb dd_M_kinds_70 (by decide) ?_
              refine lv_iadd hx hb dd_M_kinds_74 ?_
              refine lv_iload_n hx hb dd_M_kinds_75 rfl (lv_at hl 2 rfl) ?_
              refine lv_bipush (v := 13) hx hb dd_M_kinds_76 (by decide) ?_
              refine lv_icmp_lt (tgt := 86) hx hb dd_M_kinds_78 (by decide) (fun c10 => ?_) (fun c10 => ?_)
              · have hf := hf.trans (if_pos c10)
                refine lv_iconst (v := 0) hx hb dd_M_kinds_86 (by decide) ?_
                refine lv_iadd hx hb dd_M_kinds_87 ?_
                exact W.iret (v := ((0 + 16) + 0)) hx hb hr (fun t ht hW => ⟨((0 + 16) + 0), rfl, hf.symm, ht⟩) (fun _ h => by cases h) dd_M_kinds_88
              · have hf := hf.trans (if_neg c10)
                refine lv_bipush (v := 32) hx hb dd_M_kinds_81 (by decide) ?_
                refine lv_goto (tgt := 87) hx hb dd_M_kinds_83 (by decide) ?_
                refine lv_iadd hx hb dd_M_kinds_87 ?_
                exact W.iret (v := ((0 + 16) + 32)) hx hb hr (fun t ht hW => ⟨((0 + 16) + 32), rfl, hf.symm, ht⟩) (fun _ h => by cases h) dd_M_kinds_88
          · have hf := hf.trans (if_pos c7)
            refine lv_bipush (v := 8) hx hb dd_M_kinds_57 (by decide) ?_
            refine lv_goto (tgt := 74) hx hb dd_M_kinds_59 (by decide) ?_
            refine lv_iadd hx hb dd_M_kinds_74 ?_
            refine lv_iload_n hx hb dd_M_kinds_75 rfl (lv_at hl 2 rfl) ?_
            refine lv_bipush (v := 13) hx hb dd_M_kinds_76 (by decide) ?_
            refine lv_icmp_lt (tgt := 86) hx hb dd_M_kinds_78 (by decide) (fun c11 => ?_) (fun c11 => ?_)
            · have hf := hf.trans (if_pos c11)
              refine lv_iconst (v := 0) hx hb dd_M_kinds_86 (by decide) ?_
              refine lv_iadd hx hb dd_M_kinds_87 ?_
              exact W.iret (v := ((0 + 8) + 0)) hx hb hr (fun t ht hW => ⟨((0 + 8) + 0), rfl, hf.symm, ht⟩) (fun _ h => by cases h) dd_M_kinds_88
            · have hf := hf.trans (if_neg c11)
              refine lv_bipush (v := 32) hx hb dd_M_kinds_81 (by decide) ?_
              refine lv_goto (tgt := 87) hx hb dd_M_kinds_83 (by decide) ?_
              refine lv_iadd hx hb dd_M_kinds_87 ?_
              exact W.iret (v := ((0 + 8) + 32)) hx hb hr (fun t ht hW => ⟨((0 + 8) + 32), rfl, hf.symm, ht⟩) (fun _ h => by cases h) dd_M_kinds_88
        · have hf := hf.trans (if_neg c6)
          refine lv_iconst (v := 2) hx hb dd_M_kinds_44 (by decide) ?_
          refine lv_goto (tgt := 49) hx hb dd_M_kinds_45 (by decide) ?_
          refine lv_istore_n (lv' := [(2, .int 2), (0, .ref h), (1, .int p0)]) hx hb dd_M_kinds_49 rfl hl (by decide) rfl (fun ls hl => ?_)
          refine lv_iload_n hx hb dd_M_kinds_50 rfl (lv_at hl 0 rfl) ?_
          refine lv_iload_n hx hb dd_M_kinds_51 rfl (lv_at hl 2 rfl) ?_
          refine lv_bipush (v := 19) hx hb dd_M_kinds_52 (by decide) ?_
          refine lv_icmp_ne (tgt := 62) hx hb dd_M_kinds_54 (by decide) (fun c12 => ?_) (fun c12 => ?_)
          · have hf := hf.trans (if_neg c12)
            refine lv_iload_n hx hb dd_M_kinds_62 rfl (lv_at hl 2 rfl) ?_
            refine lv_bipush (v := 20) hx hb dd_M_kinds_63 (by decide) ?_
            refine lv_icmp_ne (tgt := 73) hx hb dd_M_kinds_65 (by decide) (fun c13 => ?_) (fun c13 => ?_)
            · have hf := hf.trans (if_neg c13)
              refine lv_iconst (v := 0) hx hb dd_M_kinds_73 (by decide) ?_
              refine lv_iadd hx hb dd_M_kinds_74 ?_
              refine lv_iload_n hx hb dd_M_kinds_75 rfl (lv_at hl 2 rfl) ?_
              refine lv_bipush (v := 13) hx hb dd_M_kinds_76 (by decide) ?_
              refine lv_icmp_lt (tgt := 86) hx hb dd_M_kinds_78 (by decide) (fun c14 => ?_) (fun c14 => ?_)
              · have hf := hf.trans (if_pos c14)
                refine lv_iconst (v := 0) hx hb dd_M_kinds_86 (by decide) ?_
                refine lv_iadd hx hb dd_M_kinds_87 ?_
                exact W.iret (v := ((2 + 0) + 0)) hx hb hr (fun t ht hW => ⟨((2 + 0) + 0), rfl, hf.symm, ht⟩) (fun _ h => by cases h) dd_M_kinds_88
              · have hf := hf.trans (if_neg c14)
                refine lv_bipush (v := 32) hx hb dd_M_kinds_81 (by decide) ?_
                refine lv_goto (tgt := 87) hx hb dd_M_kinds_83 (by decide) ?_
                refine lv_iadd hx hb dd_M_kinds_87 ?_
                exact W.iret (v := ((2 + 0) + 32)) hx hb hr (fun t ht hW => ⟨((2 + 0) + 32), rfl, hf.symm, ht⟩) (fun _ h => by cases h) dd_M_kinds_88
            · have hf := hf.trans (if_pos c13)
              refine lv_bipush (v := 16) hx hb dd_M_kinds_68 (by decide) ?_
              refine lv_goto (tgt := 74) hx hb dd_M_kinds_70 (by decide) ?_
              refine lv_iadd hx hb dd_M_kinds_74 ?_
              refine lv_iload_n hx hb dd_M_kinds_75 rfl (lv_at hl 2 rfl) ?_
              refine lv_bipush (v := 13) hx hb dd_M_kinds_76 (by decide) ?_
              refine lv_icmp_lt (tgt := 86) hx hb dd_M_kinds_78 (by decide) (fun c15 => ?_) (fun c15 => ?_)
              · have hf := hf.trans (if_pos c15)
                refine lv_iconst (v := 0) hx hb dd_M_kinds_86 (by decide) ?_
                refine lv_iadd hx hb dd_M_kinds_87 ?_
                exact W.iret (v := ((2 + 16) + 0)) hx hb hr (fun t ht hW => ⟨((2 + 16) + 0), rfl, hf.symm, ht⟩) (fun _ h => by cases h) dd_M_kinds_88
              · have hf := hf.trans (if_neg c15)
                refine lv_bipush (v := 32) hx hb dd_M_kinds_81 (by decide) ?_
                refine lv_goto (tgt := 87) hx hb dd_M_kinds_83 (by decide) ?_
                refine lv_iadd hx hb dd_M_kinds_87 ?_
                exact W.iret (v := ((2 + 16) + 32)) hx hb hr (fun t ht hW => ⟨((2 + 16) + 32), rfl, hf.symm, ht⟩) (fun _ h => by cases h) dd_M_kinds_88
          · have hf := hf.trans (if_pos c12)
            refine lv_bipush (v := 8) hx hb dd_M_kinds_57 (by decide) ?_
            refine lv_goto (tgt := 74) hx hb dd_M_kinds_59 (by decide) ?_
            refine lv_iadd hx hb dd_M_kinds_74 ?_
            refine lv_iload_n hx hb dd_M_kinds_75 rfl (lv_at hl 2 rfl) ?_
            refine lv_bipush (v := 13) hx hb dd_M_kinds_76 (by decide) ?_
            refine lv_icmp_lt (tgt := 86) hx hb dd_M_kinds_78 (by decide) (fun c16 => ?_) (fun c16 => ?_)
            · have hf := hf.trans (if_pos c16)
              refine lv_iconst (v := 0) hx hb dd_M_kinds_86 (by decide) ?_
              refine lv_iadd hx hb dd_M_kinds_87 ?_
              exact W.iret (v := ((2 + 8) + 0)) hx hb hr (fun t ht hW => ⟨((2 + 8) + 0), rfl, hf.symm, ht⟩) (fun _ h => by cases h) dd_M_kinds_88
            · have hf := hf.trans (if_neg c16)
              refine lv_bipush (v := 32) hx hb dd_M_kinds_81 (by decide) ?_
              refine lv_goto (tgt := 87) hx hb dd_M_kinds_83 (by decide) ?_
              refine lv_iadd hx hb dd_M_kinds_87 ?_
              exact W.iret (v := ((2 + 8) + 32)) hx hb hr (fun t ht hW => ⟨((2 + 8) + 32), rfl, hf.symm, ht⟩) (fun _ h => by cases h) dd_M_kinds_88
      · have hf := hf.trans (if_neg c4)
        have hok := hok.2 c4
        refine lv_iconst (v := 1) hx hb dd_M_kinds_27 (by decide) ?_
        refine lv_goto (tgt := 49) hx hb dd_M_kinds_28 (by decide) ?_
        refine lv_istore_n (lv' := [(2, .int 1), (0, .ref h), (1, .int p0)]) hx hb dd_M_kinds_49 rfl hl (by decide) rfl (fun ls hl => ?_)
        refine lv_iload_n hx hb dd_M_kinds_50 rfl (lv_at hl 0 rfl) ?_
        refine lv_iload_n hx hb dd_M_kinds_51 rfl (lv_at hl 2 rfl) ?_
        refine lv_bipush (v := 19) hx hb dd_M_kinds_52 (by decide) ?_
        refine lv_icmp_ne (tgt := 62) hx hb dd_M_kinds_54 (by decide) (fun c17 => ?_) (fun c17 => ?_)
        · have hf := hf.trans (if_neg c17)
          refine lv_iload_n hx hb dd_M_kinds_62 rfl (lv_at hl 2 rfl) ?_
          refine lv_bipush (v := 20) hx hb dd_M_kinds_63 (by decide) ?_
          refine lv_icmp_ne (tgt := 73) hx hb dd_M_kinds_65 (by decide) (fun c18 => ?_) (fun c18 => ?_)
          · have hf := hf.trans (if_neg c18)
            refine lv_iconst (v := 0) hx hb dd_M_kinds_73 (by decide) ?_
            refine lv_iadd hx hb dd_M_kinds_74 ?_
            refine lv_iload_n hx hb dd_M_kinds_75 rfl (lv_at hl 2 rfl) ?_
            refine lv_bipush (v := 13) hx hb dd_M_kinds_76 (by decide) ?_
            refine lv_icmp_lt (tgt := 86) hx hb dd_M_kinds_78 (by decide) (fun c19 => ?_) (fun c19 => ?_)
            · have hf := hf.trans (if_pos c19)
              refine lv_iconst (v := 0) hx hb dd_M_kinds_86 (by decide) ?_
              refine lv_iadd hx hb dd_M_kinds_87 ?_
              exact W.iret (v := ((1 + 0) + 0)) hx hb hr (fun t ht hW => ⟨((1 + 0) + 0), rfl, hf.symm, ht⟩) (fun _ h => by cases h) dd_M_kinds_88
            · have hf := hf.trans (if_neg c19)
              refine lv_bipush (v := 32) hx hb dd_M_kinds_81 (by decide) ?_
              refine lv_goto (tgt := 87) hx hb dd_M_kinds_83 (by decide) ?_
              refine lv_iadd hx hb dd_M_kinds_87 ?_
              exact W.iret (v := ((1 + 0) + 32)) hx hb hr (fun t ht hW => ⟨((1 + 0) + 32), rfl, hf.symm, ht⟩) (fun _ h => by cases h) dd_M_kinds_88
          · have hf := hf.trans (if_pos c18)
            refine lv_bipush (v := 16) hx hb dd_M_kinds_68 (by decide) ?_
            refine lv_goto (tgt := 74) hx hb dd_M_kinds_70 (by decide) ?_
            refine lv_iadd hx hb dd_M_kinds_74 ?_
            refine lv_iload_n hx hb dd_M_kinds_75 rfl (lv_at hl 2 rfl) ?_
            refine lv_bipush (v := 13) hx hb dd_M_kinds_76 (by decide) ?_
            refine lv_icmp_lt (tgt := 86) hx hb dd_M_kinds_78 (by decide) (fun c20 => ?_) (fun c20 => ?_)
            · have hf := hf.trans (if_pos c20)
              refine lv_iconst (v := 0) hx hb dd_M_kinds_86 (by decide) ?_
              refine lv_iadd hx hb dd_M_kinds_87 ?_
              exact W.iret (v := ((1 + 16) + 0)) hx hb hr (fun t ht hW => ⟨((1 + 16) + 0), rfl, hf.symm, ht⟩) (fun _ h => by cases h) dd_M_kinds_88
            · have hf := hf.trans (if_neg c20)
              refine lv_bipush (v := 32) hx hb dd_M_kinds_81 (by decide) ?_
              refine lv_goto (tgt := 87) hx hb dd_M_kinds_83 (by decide) ?_
              refine lv_iadd hx hb dd_M_kinds_87 ?_
              exact W.iret (v := ((1 + 16) + 32)) hx hb hr (fun t ht hW => ⟨((1 + 16) + 32), rfl, hf.symm, ht⟩) (fun _ h => by cases h) dd_M_kinds_88
        · have hf := hf.trans (if_pos c17)
          refine lv_bipush (v := 8) hx hb dd_M_kinds_57 (by decide) ?_
          refine lv_goto (tgt := 74) hx hb dd_M_kinds_59 (by decide) ?_
          refine lv_iadd hx hb dd_M_kinds_74 ?_
          refine lv_iload_n hx hb dd_M_kinds_75 rfl (lv_at hl 2 rfl) ?_
          refine lv_bipush (v := 13) hx hb dd_M_kinds_76 (by decide) ?_
          refine lv_icmp_lt (tgt := 86) hx hb dd_M_kinds_78 (by decide) (fun c21 => ?_) (fun c21 => ?_)
          · have hf := hf.trans (if_pos c21)
            refine lv_iconst (v := 0) hx hb dd_M_kinds_86 (by decide) ?_
            refine lv_iadd hx hb dd_M_kinds_87 ?_
            exact W.iret (v := ((1 + 8) + 0)) hx hb hr (fun t ht hW => ⟨((1 + 8) + 0), rfl, hf.symm, ht⟩) (fun _ h => by cases h) dd_M_kinds_88
          · have hf := hf.trans (if_neg c21)
            refine lv_bipush (v := 32) hx hb dd_M_kinds_81 (by decide) ?_
            refine lv_goto (tgt := 87) hx hb dd_M_kinds_83 (by decide) ?_
            refine lv_iadd hx hb dd_M_kinds_87 ?_
            exact W.iret (v := ((1 + 8) + 32)) hx hb hr (fun t ht hW => ⟨((1 + 8) + 32), rfl, hf.symm, ht⟩) (fun _ h => by cases h) dd_M_kinds_88
    · have hf := hf.trans (if_neg c3)
      have hok := hok.2 c3
      refine lv_iconst (v := 4) hx hb dd_M_kinds_19 (by decide) ?_
      exact W.iret (v := (4 : Int32)) hx hb hr (fun t ht hW => ⟨(4 : Int32), rfl, hf.symm, ht⟩) (fun _ h => by cases h) dd_M_kinds_20
  · have hf := hf.trans (if_neg c1)
    have hok := hok.2 c1
    refine lv_iconst (v := (-1)) hx hb dd_M_kinds_8 (by decide) ?_
    exact W.iret (v := ((-1) : Int32)) hx hb hr (fun t ht hW => ⟨((-1) : Int32), rfl, hf.symm, ht⟩) (fun _ h => by cases h) dd_M_kinds_9
