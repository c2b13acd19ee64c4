def fl_M_create_33 : Nat → SM → Int32 → Int32 → Int32 → Int32 → Int32 → Int32 × SM
  | 0, u, _, _, _, _, _ => (0, u)
  | n + 1, u, x1, x2, x3, x4, x5 => (if 8 ≤ x5 then (x4, m_u_objs u ((m_objs u) + 1)) else (if x2 < 0 then fl_M_create_33 n (m_u_cell u ((8 * x4) + x5) 0) x1 x2 x3 x4 (x5 + 1) else (if (ff_M_base (m_comp u x1.toNatClampNeg)) = 0 then fl_M_create_33 n (m_u_cell u ((8 * x4) + x5) (-7)) x1 x2 x3 x4 (x5 + 1) else fl_M_create_33 n (m_u_cell u ((8 * x4) + x5) 0) x1 x2 x3 x4 (x5 + 1))))
def okl_M_create_33 : Nat → SM → Int32 → Int32 → Int32 → Int32 → Int32 → Prop
  | 0, _, _, _, _, _, _ => False
  | n + 1, u, x1, x2, x3, x4, x5 => (((8 ≤ x5) → True) ∧ (¬ (8 ≤ x5) → (((x2 < 0) → (vp_in ((8 * x4) + x5) 640) ∧ okl_M_create_33 n (m_u_cell u ((8 * x4) + x5) 0) x1 x2 x3 x4 (x5 + 1)) ∧ (¬ (x2 < 0) → (vp_in x1 300) ∧ ((((ff_M_base (m_comp u x1.toNatClampNeg)) = 0) → (vp_in ((8 * x4) + x5) 640) ∧ okl_M_create_33 n (m_u_cell u ((8 * x4) + x5) (-7)) x1 x2 x3 x4 (x5 + 1)) ∧ (¬ ((ff_M_base (m_comp u x1.toNatClampNeg)) = 0) → (vp_in ((8 * x4) + x5) 640) ∧ okl_M_create_33 n (m_u_cell u ((8 * x4) + x5) 0) x1 x2 x3 x4 (x5 + 1)))))))
def ff_M_create (u0 : SM) (p0 : Int32) (p1 : Int32) (p2 : Int32) : Int32 × SM := fl_M_create_33 400 (m_u_val (m_u_size (m_u_kind u0 (m_objs u0) p0) (m_objs u0) p1) (m_objs u0) p2) p0 p1 p2 (m_objs u0) (0 : Int32)
def ok_M_create (u0 : SM) (p0 : Int32) (p1 : Int32) (p2 : Int32) : Prop := (vp_in (m_objs u0) 80) ∧ (vp_in (m_objs u0) 80) ∧ (vp_in (m_objs u0) 80) ∧ okl_M_create_33 400 (m_u_val (m_u_size (m_u_kind u0 (m_objs u0) p0) (m_objs u0) p1) (m_objs u0) p2) p0 p1 p2 (m_objs u0) (0 : Int32)
abbrev ws_M_create : List Cond := .code yy_M_create bb_M_create 6 (some .int) :: gW
abbrev rm_M_create : Room := { frames := 1, cells := 0, slots := 0, locals := 20 }
set_option maxHeartbeats 4000000 in
set_option maxRecDepth 100000 in
theorem mm_M_create (l : Launch) (dC : Nat → ClassId) (dI : Nat → Nat → Nat) (h : Nat) (a : Nat → Nat) (k : Nat → ClassId) (u0 : SM) (p0 : Int32) (p1 : Int32) (p2 : Int32) (hok : ok_M_create u0 p0 p1 p2) : Met l yy_M_create ws_M_create rm_M_create (va_Pc [.ref h, .int p0, .int p1, .int p2] (pM dC dI h a k u0)) (va_Qi (fun (r : Int32) (v : SM) => (r, v) = ff_M_create u0 p0 p1 p2) (pM dC dI h a k) (aM h a)) 0 0 (aM h a) := by
  refine Met.ofW (cc := bb_M_create) (maxL := 6) (ret := (some .int)) (by decide) rfl ?_
  intro p e s m args below meth c s₁ B hml hv
  obtain ⟨rfl, hP, hK, hD⟩ := hv
  have hx := B.exec
  have hb := B.bytes
  have hr := B.returns
  have hts : ∀ w ∈ gW, w.before _ s = true := fun w h => atoms_spec (ws := ws_M_create) B.pre w (List.mem_cons_of_mem _ h)
  have hown : s.vm.findClass "ClassObjectMirrorModel" = some m.cls := findClass_of_methodNamed B.named
  have hlocks := B.notSynchronized
  have hS : va_S (aM h a) s.heap s.heap [] := va_S.rf
  have hl := lv_entry ([.ref h, .int p0, .int p1, .int p2]) (n := 6) (Nat.le_of_ble_eq_true rfl)
  rw [lg_entry_eq]
  generalize (lg_sl ([.ref h, .int p0, .int p1, .int p2]) ++ List.replicate (6 - (lg_sl ([.ref h, .int p0, .int p1, .int p2])).length) Slot.unset).toArray = ls at hl ⊢
  have hl : lv_has ls 6 [(0, .ref h), (1, .int p0), (2, .int p1), (3, .int p2)] := hl
  have hf := ff_M_create.eq_1 u0 p0 p1 p2
  unfold ok_M_create at hok
  refine lv_aload_n hx hb dd_M_create_0 rfl (lv_at hl 0 rfl) ?_
  refine va_get (D := (dC, dI)) (ci := 0) (v := .int (m_objs u0)) (C := "ClassObjectMirrorModel") (T := TM) (N := 12) hx hb hts inM hown hK hP 0 rfl rfl 9 (by decide) (hts _ gw_310) (fun _ h9 => h9) rfl dd_M_create_1 ?_
  refine lv_istore (lv' := [(4, .int (m_objs u0)), (0, .ref h), (1, .int p0), (2, .int p1), (3, .int p2)]) hx hb dd_M_create_4 hl (by decide) rfl (fun ls hl => ?_)
  refine lv_aload_n hx hb dd_M_create_6 rfl (lv_at hl 1 rfl) ?_
  refine va_get (D := (dC, dI)) (ci := 0) (v := .ref (a 4)) (C := "ClassObjectMirrorModel") (T := TM) (N := 12) hx hb hts inM hown hK hP 0 rfl rfl 5 (by decide) (hts _ gw_306) (fun _ h9 => h9) rfl dd_M_create_7 ?_
  refine lv_iload hx hb dd_M_create_10 (lv_at hl 0 rfl) ?_
  refine lv_iload_n hx hb dd_M_create_12 rfl (lv_at hl 2 rfl) ?_
  obtain ⟨n1, hok⟩ := hok
  refine va_iast hx hb hK hP hD hS 5 4 rfl rfl n1 dd_M_create_13 (fun H locs hP hD hS => ?_)
  have hP : va_P (dC, dI) cls_l (wM h a k (m_u_kind u0 (m_objs u0) p0)) H := hP
  have hD : va_D (aM h a) (wM h a k (m_u_kind u0 (m_objs u0) p0)) := hD
  refine lv_aload_n hx hb dd_M_create_14 rfl (lv_at hl 1 rfl) ?_
  refine va_get (D := (dC, dI)) (ci := 0) (v := .ref (a 5)) (C := "ClassObjectMirrorModel") (T := TM) (N := 12) hx hb hts inM hown hK hP 0 rfl rfl 6 (by decide) (hts _ gw_307) (fun _ h9 => h9) rfl dd_M_create_15 ?_
  refine lv_iload hx hb dd_M_create_18 (lv_at hl 0 rfl) ?_
  refine lv_iload_n hx hb dd_M_create_20 rfl (lv_at hl 3 rfl) ?_
  obtain ⟨n2, hok⟩ := hok
  refine va_iast hx hb hK hP hD hS 6 5 rfl rfl n2 dd_M_create_21 (fun H locs hP hD hS => ?_)
  have hP : va_P (dC, dI) cls_l (wM h a k (m_u_size (m_u_kind u0 (m_objs u0) p0) (m_objs u0) p1)) H := hP
  have hD : va_D (aM h a) (wM h a k (m_u_size (m_u_kind u0 (m_objs u0) p0) (m_objs u0) p1)) := hD
  refine lv_aload_n hx hb dd_M_create_22 rfl (lv_at hl 1 rfl) ?_
  refine va_get (D := (dC, dI)) (ci := 0) (v := .ref (a 6)) (C := "ClassObjectMirrorModel") (T := TM) (N := 12) hx hb hts inM hown hK hP 0 rfl rfl 7 (by decide) (hts _ gw_308) (fun _ h9 => h9) rfl dd_M_create_23 ?_
  refine lv_iload hx hb dd_M_create_26 (lv_at hl 0 rfl) ?_
  refine lv_iload_n hx hb dd_M_create_28 rfl (lv_at hl 4 rfl) ?_
  obtain ⟨n3, hok⟩ := hok
  refine va_iast hx hb hK hP hD hS 7 6 rfl rfl n3 dd_M_create_29 (fun H locs hP hD hS => ?_)
  have hP : va_P (dC, dI) cls_l (wM h a k (m_u_val (m_u_size (m_u_kind u0 (m_objs u0) p0) (m_objs u0) p1) (m_objs u0) p2)) H := hP
  have hD : va_D (aM h a) (wM h a k (m_u_val (m_u_size (m_u_kind u0 (m_objs u0) p0) (m_objs u0) p1) (m_objs u0) p2)) := hD
  refine lv_iconst (v := 0) hx hb dd_M_create_30 (by decide) ?_
  refine lv_istore (lv' := [(5, .int 0), (4, .int (m_objs u0)), (0, .ref h), (1, .int p0), (2, .int p1), (3, .int p2)]) hx hb dd_M_create_31 hl (by decide) rfl (fun ls hl => ?_)
  have loop_33 : ∀ (n : Nat) (u : SM) (H : Heap) (locs : List Loc) (x1 : Int32) (x2 : Int32) (x3 : Int32) (x4 : Int32) (x5 : Int32) (ls : Array Slot), okl_M_create_33 n u x1 x2 x3 x4 x5 → ff_M_create u0 p0 p1 p2 = fl_M_create_33 n u x1 x2 x3 x4 x5 → va_P (dC, dI) cls_l (wM h a k u) H → va_D (aM h a) (wM h a k u) → va_S (aM h a) s.heap H locs → lv_has ls 6 [(0, .ref h), (1, .int x1), (2, .int x2), (3, .int x3), (4, .int x4), (5, .int x5)] → W p l e (headSpec ws_M_create rm_M_create).room s m ([.ref h, .int p0, .int p1, .int p2] : List Value).toArray below meth c H locs 0 0 (MQ below (va_Qi (fun (r : Int32) (v : SM) => (r, v) = ff_M_create u0 p0 p1 p2) (pM dC dI h a k) (aM h a)) ([.ref h, .int p0, .int p1, .int p2] : List Value).toArray s 0 0 (aM h a)) (F0 m 33 ls []) := by
    intro n
    induction n with
    | zero => intro u H locs x1 x2 x3 x4 x5 ls hok; exact (show False from hok).elim
    | succ n ih =>
      intro u H locs x1 x2 x3 x4 x5 ls hok hf hP hD hS hl
      rw [fl_M_create_33] at hf
      rw [okl_M_create_33] at hok
      refine lv_iload hx hb dd_M_create_33 (lv_at hl 5 rfl) ?_
      refine lv_bipush (v := 8) hx hb dd_M_create_35 (by decide) ?_
      refine lv_icmp_ge (tgt := 82) hx hb dd_M_create_37 (by decide) (fun c4 => ?_) (fun c4 => ?_)
      · have hf := hf.trans (if_pos c4)
        have hok := hok.1 c4
        refine lv_aload_n hx hb dd_M_create_82 rfl (lv_at hl 0 rfl) ?_
        refine lv_dup hx hb dd_M_create_83 rfl ?_
        refine va_get (D := (dC, dI)) (ci := 0) (v := .int (m_objs u)) (C := "ClassObjectMirrorModel") (T := TM) (N := 12) hx hb hts inM hown hK hP 0 rfl rfl 9 (by decide) (hts _ gw_310) (fun _ h9 => h9) rfl dd_M_create_84 ?_
        refine lv_iconst (v := 1) hx hb dd_M_create_87 (by decide) ?_
        refine lv_iadd hx hb dd_M_create_88 ?_
        refine va_put (D := (dC, dI)) (ci := 0) (v := .int ((m_objs u) + 1)) (ty := .int) (C := "ClassObjectMirrorModel") (T := TM) (N := 12) hx hb hts inM tyM tyM_ok nmM hown hK hP hD hS 0 rfl rfl 9 (by decide) (hts _ gw_310) (fun _ h9 => h9) rfl (by decide +kernel) rfl rfl (Nat.le_of_ble_eq_true rfl) dd_M_create_89 (fun H locs hP hD hS => ?_)
        have hP : va_P (dC, dI) cls_l (wM h a k (m_u_objs u ((m_objs u) + 1))) H := hP
        have hD : va_D (aM h a) (wM h a k (m_u_objs u ((m_objs u) + 1))) := hD
        refine lv_iload hx hb dd_M_create_92 (lv_at hl 4 rfl) ?_
        exact W.iret (v := x4) hx hb hr (fun t ht hW => ⟨⟨x4, m_u_objs u ((m_objs u) + 1), rfl, hf.symm, pM_up hP hK hD ht hW⟩, hS.F ht⟩) hS.2.2 dd_M_create_94
      · have hf := hf.trans (if_neg c4)
        have hok := hok.2 c4
        refine lv_aload_n hx hb dd_M_create_40 rfl (lv_at hl 0 rfl) ?_
        refine va_get (D := (dC, dI)) (ci := 0) (v := .ref (a 7)) (C := "ClassObjectMirrorModel") (T := TM) (N := 12) hx hb hts inM hown hK hP 0 rfl rfl 8 (by decide) (hts _ gw_309) (fun _ h9 => h9) rfl dd_M_create_41 ?_
        refine lv_bipush (v := 8) hx hb dd_M_create_44 (by decide) ?_
        refine lv_iload hx hb dd_M_create_46 (lv_at hl 4 rfl) ?_
        refine lv_imul hx hb dd_M_create_48 ?_
        refine lv_iload hx hb dd_M_create_49 (lv_at hl 5 rfl) ?_
        refine lv_iadd hx hb dd_M_create_51 ?_
        refine lv_iload_n hx hb dd_M_create_52 rfl (lv_at hl 2 rfl) ?_
        refine lv_if_lt (tgt := 74) hx hb dd_M_create_53 (by decide) (fun c5 => ?_) (fun c5 => ?_)
        · have hf := hf.trans (if_pos c5)
          have hok := hok.1 c5
          refine lv_lconst (v := 0) hx hb dd_M_create_74 (by decide) ?_
          obtain ⟨n6, hok⟩ := hok
          refine va_last hx hb hK hP hD hS 8 7 rfl rfl n6 dd_M_create_75 (fun H locs hP hD hS => ?_)
          have hP : va_P (dC, dI) cls_l (wM h a k (m_u_cell u ((8 * x4) + x5) 0)) H := hP
          have hD : va_D (aM h a) (wM h a k (m_u_cell u ((8 * x4) + x5) 0)) := hD
          refine lv_iinc (v := x5 + 1) (lv' := [(5, .int (x5 + 1)), (0, .ref h), (1, .int x1), (2, .int x2), (3, .int x3), (4, .int x4)]) hx hb dd_M_create_76 hl (k := 5) rfl rfl (by decide) rfl (fun ls hl => ?_)
          refine lv_goto (tgt := 33) hx hb dd_M_create_79 (by decide) ?_
          exact ih (m_u_cell u ((8 * x4) + x5) 0) _ _ x1 x2 x3 x4 (x5 + 1) ls hok hf hP hD hS (lv_sub hl [1, 2, 3, 4, 5, 0] rfl)
        · have hf := hf.trans (if_neg c5)
          have hok := hok.2 c5
          refine lv_aload_n hx hb dd_M_create_56 rfl (lv_at hl 0 rfl) ?_
          refine va_get (D := (dC, dI)) (ci := 0) (v := .ref (a 2)) (C := "ClassObjectMirrorModel") (T := TM) (N := 12) hx hb hts inM hown hK hP 0 rfl rfl 2 (by decide) (hts _ gw_303) (fun _ h9 => h9) rfl dd_M_create_57 ?_
          refine lv_iload_n hx hb dd_M_create_60 rfl (lv_at hl 1 rfl) ?_
          obtain ⟨n7, hok⟩ := hok
          refine va_iald hx hb hK hP 3 2 rfl rfl n7 dd_M_create_61 ?_
          refine vp_callSi (W.runS (As := [.int (m_comp u x1.toNatClampNeg)]) (rest := [.int ((8 * x4) + x5), .ref (a 7)]) ⟨hx, hb, hml, hown, hts⟩ (mm_M_base l (m_comp u x1.toNatClampNeg)) (va_cwS 1 hts (gg_S gw_370 gw_371 gw_2 gw_372) rfl rfl rfl (by decide +kernel) ⟨Nat.le_of_ble_eq_true rfl, Nat.le_of_ble_eq_true rfl⟩) ⟨fun a U g mk q => q, fun U hU hW => ⟨rfl, trivial⟩⟩ rfl rfl hl.1 rfl (lv_room (Nat.le_of_ble_eq_true rfl)) dd_M_create_62 ⟨Nat.zero_le _, Nat.zero_le _⟩) (fun r hr9 => ?_)
          subst hr9
          refine lv_if_ne (tgt := 74) hx hb dd_M_create_65 (by decide) (fun c8 => ?_) (fun c8 => ?_)
          · have hf := hf.trans (if_neg c8)
            have hok := hok.2 c8
            refine lv_lconst (v := 0) hx hb dd_M_create_74 (by decide) ?_
            obtain ⟨n9, hok⟩ := hok
            refine va_last hx hb hK hP hD hS 8 7 rfl rfl n9 dd_M_create_75 (fun H locs hP hD hS => ?_)
            have hP : va_P (dC, dI) cls_l (wM h a k (m_u_cell u ((8 * x4) + x5) 0)) H := hP
            have hD : va_D (aM h a) (wM h a k (m_u_cell u ((8 * x4) + x5) 0)) := hD
            refine lv_iinc (v := x5 + 1) (lv' := [(5, .int (x5 + 1)), (0, .ref h), (1, .int x1), (2, .int x2), (3, .int x3), (4, .int x4)]) hx hb dd_M_create_76 hl (k := 5) rfl rfl (by decide) rfl (fun ls hl => ?_)
            refine lv_goto (tgt := 33) hx hb dd_M_create_79 (by decide) ?_
            exact ih (m_u_cell u ((8 * x4) + x5) 0) _ _ x1 x2 x3 x4 (x5 + 1) ls hok hf hP hD hS (lv_sub hl [1, 2, 3, 4, 5, 0] rfl)
          · have hf := hf.trans (if_pos c8)
            have hok := hok.1 c8
            refine lv_ldc2 (v := (-7)) hx hb hown (hts _ gw_451) dd_M_create_68 ?_
            refine lv_goto (tgt := 75) hx hb dd_M_create_71 (by decide) ?_
            obtain ⟨n10, hok⟩ := hok
            refine va_last hx hb hK hP hD hS 8 7 rfl rfl n10 dd_M_create_75 (fun H locs hP hD hS => ?_)
            have hP : va_P (dC, dI) cls_l (wM h a k (m_u_cell u ((8 * x4) + x5) (-7))) H := hP
            have hD : va_D (aM h a) (wM h a k (m_u_cell u ((8 * x4) + x5) (-7))) := hD
            refine lv_iinc (v := x5 + 1) (lv' := [(5, .int (x5 + 1)), (0, .ref h), (1, .int x1), (2, .int x2), (3, .int x3), (4, .int x4)]) hx hb dd_M_create_76 hl (k := 5) rfl rfl (by decide) rfl (fun ls hl => ?_)
            refine lv_goto (tgt := 33) hx hb dd_M_create_79 (by decide) ?_
            exact ih (m_u_cell u ((8 * x4) + x5) (-7)) _ _ x1 x2 x3 x4 (x5 + 1) ls hok hf hP hD hS (lv_sub hl [1, 2, 3, 4, 5, 0] rfl)
  exact loop_33 400 (m_u_val (m_u_size (m_u_kind u0 (m_objs u0) p0) (m_objs u0) p1) (m_objs u0) p2) _ _ p0 p1 p2 (m_objs u0) (0 : Int32) ls hok hf hP hD hS (lv_sub hl [2, 3, 4, 5, 1, 0] rfl)

def fl_M_make_68 : Nat → SM → Int32 → Int32 → Int32 → Int32 → Int32 → Int32 × SM
  | 0, u, _, _, _, _, _ => (0, u)
  | n + 1, u, x1, x2, x3, x4, x5 => (if (m_objs u) ≤ x5 then (if (m_objs u) = 80 then ((-8), u) else ((ff_M_create u x1 ((-1) : Int32) x4).1, (ff_M_create u x1 ((-1) : Int32) x4).2)) else (if x1 = 19 then (if (m_kind u x5.toNatClampNeg) = 19 then (if (m_val u x5.toNatClampNeg) = x4 then (x5, u) else fl_M_make_68 n u x1 x2 x3 x4 (x5 + 1)) else fl_M_make_68 n u x1 x2 x3 x4 (x5 + 1)) else (if (m_objs u) = 80 then ((-8), u) else ((ff_M_create u x1 ((-1) : Int32) x4).1, (ff_M_create u x1 ((-1) : Int32) x4).2))))
def okl_M_make_68 : Nat → SM → Int32 → Int32 → Int32 → Int32 → Int32 → Prop
  | 0, _, _, _, _, _, _ => False
  | n + 1, u, x1, x2, x3, x4, x5 => ((((m_objs u) ≤ x5) → ((((m_objs u) = 80) → True) ∧ (¬ ((m_objs u) = 80) → ok_M_create u x1 ((-1) : Int32) x4))) ∧ (¬ ((m_objs u) ≤ x5) → (((x1 = 19) → (vp_in x5 80) ∧ ((((m_kind u x5.toNatClampNeg) = 19) → (vp_in x5 80) ∧ ((((m_val u x5.toNatClampNeg) = x4) → True) ∧ (¬ ((m_val u x5.toNatClampNeg) = x4) → okl_M_make_68 n u x1 x2 x3 x4 (x5 + 1)))) ∧ (¬ ((m_kind u x5.toNatClampNeg) = 19) → okl_M_make_68 n u x1 x2 x3 x4 (x5 + 1)))) ∧ (¬ (x1 = 19) → ((((m_objs u) = 80) → True) ∧ (¬ ((m_objs u) = 80) → ok_M_create u x1 ((-1) : Int32) x4))))))
def ff_M_make (u0 : SM) (p0 : Int32) (p1 : Int32) : Int32 × SM := (if (ff_M_noType u0 p0) = 0 then (if p0 = 9 then (if (1 : Int32) = 0 then ((-1), u0) else (if p0 = 19 then fl_M_make_68 400 u0 p0 p1 (1 : Int32) (((p1 - p1 / 3 * 3) + 3) - ((p1 - p1 / 3 * 3) + 3) / 3 * 3) (0 : Int32) else fl_M_make_68 400 u0 p0 p1 (1 : Int32) p1 (0 : Int32))) else (if p0 = 12 then (if (1 : Int32) = 0 then ((-1), u0) else (if p0 = 19 then fl_M_make_68 400 u0 p0 p1 (1 : Int32) (((p1 - p1 / 3 * 3) + 3) - ((p1 - p1 / 3 * 3) + 3) / 3 * 3) (0 : Int32) else fl_M_make_68 400 u0 p0 p1 (1 : Int32) p1 (0 : Int32))) else (if p0 < 16 then (if (0 : Int32) = 0 then ((-1), u0) else (if p0 = 19 then fl_M_make_68 400 u0 p0 p1 (0 : Int32) (((p1 - p1 / 3 * 3) + 3) - ((p1 - p1 / 3 * 3) + 3) / 3 * 3) (0 : Int32) else fl_M_make_68 400 u0 p0 p1 (0 : Int32) p1 (0 : Int32))) else (if 21 < p0 then (if (0 : Int32) = 0 then ((-1), u0) else (if p0 = 19 then fl_M_make_68 400 u0 p0 p1 (0 : Int32) (((p1 - p1 / 3 * 3) + 3) - ((p1 - p1 / 3 * 3) + 3) / 3 * 3) (0 : Int32) else fl_M_make_68 400 u0 p0 p1 (0 : Int32) p1 (0 : Int32))) else (if (1 : Int32) = 0 then ((-1), u0) else (if p0 = 19 then fl_M_make_68 400 u0 p0 p1 (1 : Int32) (((p1 - p1 / 3 * 3) + 3) - ((p1 - p1 / 3 * 3) + 3) / 3 * 3) (0 : Int32) else fl_M_make_68 400 u0 p0 p1 (1 : Int32) p1 (0 : Int32))))))) else ((-1), u0))
def ok_M_make (u0 : SM) (p0 : Int32) (p1 : Int32) : Prop := ((((ff_M_noType u0 p0) = 0) → (((p0 = 9) → ((((1 : Int32) = 0) → True) ∧ (¬ ((1 : Int32) = 0) → (((p0 = 19) → okl_M_make_68 400 u0 p0 p1 (1 : Int32) (((p1 - p1 / 3 * 3) + 3) - ((p1 - p1 / 3 * 3) + 3) / 3 * 3) (0 : Int32)) ∧ (¬ (p0 = 19) → okl_M_make_68 400 u0 p0 p1 (1 : Int32) p1 (0 : Int32)))))) ∧ (¬ (p0 = 9) → (((p0 = 12) → ((((1 : Int32) = 0) → True) ∧ (¬ ((1 : Int32) = 0) → (((p0 = 19) → okl_M_make_68 400 u0 p0 p1 (1 : Int32) (((p1 - p1 / 3 * 3) + 3) - ((p1 - p1 / 3 * 3) + 3) / 3 * 3) (0 : Int32)) ∧ (¬ (p0 = 19) → okl_M_make_68 400 u0 p0 p1 (1 : Int32) p1 (0 : Int32)))))) ∧ (¬ (p0 = 12) → (((p0 < 16) → ((((0 : Int32) = 0) → True) ∧ (¬ ((0 : Int32) = 0) → (((p0 = 19) → okl_M_make_68 400 u0 p0 p1 (0 : Int32) (((p1 - p1 / 3 * 3) + 3) - ((p1 - p1 / 3 * 3) + 3) / 3 * 3) (0 : Int32)) ∧ (¬ (p0 = 19) → okl_M_make_68 400 u0 p0 p1 (0 : Int32) p1 (0 : Int32)))))) ∧ (¬ (p0 < 16) → (((21 < p0) → ((((0 : Int32) = 0) → True) ∧ (¬ ((0 : Int32) = 0) → (((p0 = 19) → okl_M_make_68 400 u0 p0 p1 (0 : Int32) (((p1 - p1 / 3 * 3) + 3) - ((p1 - p1 / 3 * 3) + 3) / 3 * 3) (0 : Int32)) ∧ (¬ (p0 = 19) → okl_M_make_68 400 u0 p0 p1 (0 : Int32) p1 (0 : Int32)))))) ∧ (¬ (21 < p0) → ((((1 : Int32) = 0) → True) ∧ (¬ ((1 : Int32) = 0) → (((p0 = 19) → okl_M_make_68 400 u0 p0 p1 (1 : Int32) (((p1 - p1 / 3 * 3) + 3) - ((p1 - p1 / 3 * 3) + 3) / 3 * 3) (0 : Int32)) ∧ (¬ (p0 = 19) → okl_M_make_68 400 u0 p0 p1 (1 : Int32) p1 (0 : Int32)))))))))))))) ∧ (¬ ((ff_M_noType u0 p0) = 0) → True))
abbrev ws_M_make : List Cond := .code yy_M_make bb_M_make 6 (some .int) :: gW
abbrev rm_M_make : Room := { frames := 2, cells := 0, slots := 0, locals := 45 }
set_option maxHeartbeats 4000000 in
set_option maxRecDepth 100000 in
theorem mm_M_make (l : Launch) (dC : Nat → ClassId) (dI : Nat → Nat → Nat) (h : Nat) (a : Nat → Nat) (k : Nat → ClassId) (u0 : SM) (p0 : Int32) (p1 : Int32) (hok : ok_M_make u0 p0 p1) : Met l yy_M_make ws_M_make rm_M_make (va_Pc [.ref h, .int p0, .int p1] (pM dC dI h a k u0)) (va_Qi (fun (r : Int32) (v : SM) => (r, v) = ff_M_make u0 p0 p1) (pM dC dI h a k) (aM h a)) 0 0 (aM h a) := by
  refine Met.ofW (cc := bb_M_make) (maxL := 6) (ret := (some .int)) (by decide) rfl ?_
  intro p e s m args below meth c s₁ B hml hv
  obtain ⟨rfl, hP, hK, hD⟩ := hv
  have hx := B.exec
  have hb := B.bytes
  have hr := B.returns
  have hts : ∀ w ∈ gW, w.before _ s = true := fun w h => atoms_spec (ws := ws_M_make) B.pre w (List.mem_cons_of_mem _ h)
  have hown : s.vm.findClass "ClassObjectMirrorModel" = some m.cls := findClass_of_methodNamed B.named
  have hlocks := B.notSynchronized
  have hS : va_S (aM h a) s.heap s.heap [] := va_S.rf
  have hl := lv_entry ([.ref h, .int p0, .int p1]) (n := 6) (Nat.le_of_ble_eq_true rfl)
  rw [lg_entry_eq]
  generalize (lg_sl ([.ref h, .int p0, .int p1]) ++ List.replicate (6 - (lg_sl ([.ref h, .int p0, .int p1])).length) Slot.unset).toArray = ls at hl ⊢
  have hl : lv_has ls 6 [(0, .ref h), (1, .int p0), (2, .int p1)] := hl
  have hf := ff_M_make.eq_1 u0 p0 p1
  unfold ok_M_make at hok
  refine lv_aload_n hx hb dd_M_make_0 rfl (lv_at hl 0 rfl) ?_
  refine lv_iload_n hx hb dd_M_make_1 rfl (lv_at hl 1 rfl) ?_
  refine vp_callSi (W.runV (As := [.int p0]) (rest := []) ⟨hx, hb, hml, hown, hts⟩ (mm_M_noType l dC dI h a k u0 p0) (cwV 1 hts (gg_V gw_342 gw_344 gs_18 gw_2 gw_345) rfl rfl rfl (by decide +kernel) ⟨Nat.le_of_ble_eq_true rfl, Nat.le_of_ble_eq_true rfl⟩) ⟨pM_bl, va_recv hK hP (ci := 0) (q0 := 0) rfl rfl, fun U hU hW => ⟨rfl, pM_up hP hK hD hU hW⟩⟩ rfl rfl hl.1 rfl (lv_room (Nat.le_of_ble_eq_true rfl)) dd_M_make_2 ⟨Nat.zero_le _, Nat.zero_le _⟩) (fun r hr9 => ?_)
  subst hr9
  refine lv_if_eq (tgt := 10) hx hb dd_M_make_5 (by decide) (fun c1 => ?_) (fun c1 => ?_)
  · have hf := hf.trans (if_pos c1)
    have hok := hok.1 c1
    refine lv_iload_n hx hb dd_M_make_10 rfl (lv_at hl 1 rfl) ?_
    refine lv_bipush (v := 9) hx hb dd_M_make_11 (by decide) ?_
    refine lv_icmp_eq (tgt := 34) hx hb dd_M_make_13 (by decide) (fun c2 => ?_) (fun c2 => ?_)
    · have hf := hf.trans (if_pos c2)
      have hok := hok.1 c2
      refine lv_iconst (v := 1) hx hb dd_M_make_34 (by decide) ?_
      refine lv_goto (tgt := 39) hx hb dd_M_make_35 (by decide) ?_
      refine lv_istore_n (lv' := [(3, .int 1), (0, .ref h), (1, .int p0), (2, .int p1)]) hx hb dd_M_make_39 rfl hl (by decide) rfl (fun ls hl => ?_)
      refine lv_iload_n hx hb dd_M_make_40 rfl (lv_at hl 0 rfl) ?_
      refine lv_if_ne (tgt := 46) hx hb dd_M_make_41 (by decide) (fun c3 => ?_) (fun c3 => ?_)
      · have hf := hf.trans (if_neg c3)
        have hok := hok.2 c3
        refine lv_iload_n hx hb dd_M_make_46 rfl (lv_at hl 2 rfl) ?_
        refine lv_bipush (v := 19) hx hb dd_M_make_47 (by decide) ?_
        refine lv_icmp_ne (tgt := 62) hx hb dd_M_make_49 (by decide) (fun c4 => ?_) (fun c4 => ?_)
        · have hf := hf.trans (if_neg c4)
          have hok := hok.2 c4
          refine lv_iload_n hx hb dd_M_make_62 rfl (lv_at hl 3 rfl) ?_
          refine lv_istore (lv' := [(4, .int p1), (3, .int 1), (0, .ref h), (1, .int p0), (2, .int p1)]) hx hb dd_M_make_63 hl (by decide) rfl (fun ls hl => ?_)
          refine lv_iconst (v := 0) hx hb dd_M_make_65 (by decide) ?_
          refine lv_istore (lv' := [(5, .int 0), (4, .int p1), (3, .int 1), (0, .ref h), (1, .int p0), (2, .int p1)]) hx hb dd_M_make_66 hl (by decide) rfl (fun ls hl => ?_)
          have loop_68 : ∀ (n : Nat) (u : SM) (H : Heap) (locs : List Loc) (x1 : Int32) (x2 : Int32) (x3 : Int32) (x4 : Int32) (x5 : Int32) (ls : Array Slot), okl_M_make_68 n u x1 x2 x3 x4 x5 → ff_M_make u0 p0 p1 = fl_M_make_68 n u x1 x2 x3 x4 x5 → va_P (dC, dI) cls_l (wM h a k u) H → va_D (aM h a) (wM h a k u) → va_S (aM h a) s.heap H locs → lv_has ls 6 [(0, .ref h), (1, .int x1), (2, .int x2), (3, .int x3), (4, .int x4), (5, .int x5)] → W p l e (headSpec ws_M_make rm_M_make).room s m ([.ref h, .int p0, .int p1] : List Value).toArray below meth c H locs 0 0 (MQ below (va_Qi (fun (r : Int32) (v : SM) => (r, v) = ff_M_make u0 p0 p1) (pM dC dI h a k) (aM h a)) ([.ref h, .int p0, .int p1] : List Value).toArray s 0 0 (aM h a)) (F0 m 68 ls []) := by
            intro n
            induction n with
            | zero => intro u H locs x1 x2 x3 x4 x5 ls hok; exact (show False from hok).elim
            | succ n ih =>
              intro u H locs x1 x2 x3 x4 x5 ls hok hf hP hD hS hl
              rw [fl_M_make_68] at hf
              rw [okl_M_make_68] at hok
              refine lv_iload hx hb dd_M_make_68 (lv_at hl 5 rfl) ?_
              refine lv_aload_n hx hb dd_M_make_70 rfl (lv_at hl 0 rfl) ?_
              refine va_get (D := (dC, dI)) (ci := 0) (v := .int (m_objs u)) (C := "ClassObjectMirrorModel") (T := TM) (N := 12) hx hb hts inM hown hK hP 0 rfl rfl 9 (by decide) (hts _ gw_310) (fun _ h9 => h9) rfl dd_M_make_71 ?_
              refine lv_icmp_ge (tgt := 116) hx hb dd_M_make_74 (by decide) (fun c5 => ?_) (fun c5 => ?_)
              · have hf := hf.trans (if_pos c5)
                have hok := hok.1 c5
                refine lv_aload_n hx hb dd_M_make_116 rfl (lv_at hl 0 rfl) ?_
                refine va_get (D := (dC, dI)) (ci := 0) (v := .int (m_objs u)) (C := "ClassObjectMirrorModel") (T := TM) (N := 12) hx hb hts inM hown hK hP 0 rfl rfl 9 (by decide) (hts _ gw_310) (fun _ h9 => h9) rfl dd_M_make_117 ?_
                refine lv_bipush (v := 80) hx hb dd_M_make_120 (by decide) ?_
                refine lv_icmp_ne (tgt := 130) hx hb dd_M_make_122 (by decide) (fun c6 => ?_) (fun c6 => ?_)
                · have hf := hf.trans (if_neg c6)
                  have hok := hok.2 c6
                  refine lv_aload_n hx hb dd_M_make_130 rfl (lv_at hl 0 rfl) ?_
                  refine lv_iload_n hx hb dd_M_make_131 rfl (lv_at hl 1 rfl) ?_
                  refine lv_iconst (v := (-1)) hx hb dd_M_make_132 (by decide) ?_
                  refine lv_iload hx hb dd_M_make_133 (lv_at hl 4 rfl) ?_
                  have n7 := hok
                  refine va_calli (va_runV (As := [.int x1, .int (-1), .int x4]) (rest := []) ⟨hx, hb, hml, hown, hts⟩ (mm_M_create l dC dI h a k u x1 ((-1) : Int32) x4 n7) (cwV 3 hts (gg_V gw_447 gw_449 gs_28 gw_2 gw_450) rfl rfl rfl (by decide +kernel) ⟨Nat.le_of_ble_eq_true rfl, Nat.le_of_ble_eq_true rfl⟩) ⟨pM_bl, va_recv hK hP (ci := 0) (q0 := 0) rfl rfl, fun U hU hW => ⟨rfl, pM_up hP hK hD hU hW⟩⟩ rfl rfl hl.1 rfl (lv_room (Nat.le_of_ble_eq_true rfl)) dd_M_make_135 ⟨Nat.zero_le _, Nat.zero_le _⟩) hS (fun q _ h => h) (fun q h => h) (fun r9 v9 t9 H locs ht9 hvm9 hw9 hB9 hz9 hk9 hS => ?_)
                  obtain ⟨rfl, rfl⟩ : r9 = (ff_M_create u x1 ((-1) : Int32) x4).1 ∧ v9 = (ff_M_create u x1 ((-1) : Int32) x4).2 := by rw [← hw9]; exact ⟨rfl, rfl⟩
                  obtain ⟨hP, -, hD⟩ := hB9
                  rw [ht9] at hP
                  exact W.iret (v := ((ff_M_create u x1 ((-1) : Int32) x4).1)) hx hb hr (fun t ht hW => ⟨⟨((ff_M_create u x1 ((-1) : Int32) x4).1), (ff_M_create u x1 ((-1) : Int32) x4).2, rfl, hf.symm, pM_up hP hK hD ht hW⟩, hS.F ht⟩) hS.2.2 dd_M_make_138
                · have hf := hf.trans (if_pos c6)
                  have hok := hok.1 c6
                  refine lv_bipush (v := (-8)) hx hb dd_M_make_125 (by decide) ?_
                  refine lv_goto (tgt := 138) hx hb dd_M_make_127 (by decide) ?_
                  exact W.iret (v := ((-8) : Int32)) hx hb hr (fun t ht hW => ⟨⟨((-8) : Int32), u, rfl, hf.symm, pM_up hP hK hD ht hW⟩, hS.F ht⟩) hS.2.2 dd_M_make_138
              · have hf := hf.trans (if_neg c5)
                have hok := hok.2 c5
                refine lv_iload_n hx hb dd_M_make_77 rfl (lv_at hl 1 rfl) ?_
                refine lv_bipush (v := 19) hx hb dd_M_make_78 (by decide) ?_
                refine lv_icmp_ne (tgt := 116) hx hb dd_M_make_80 (by decide) (fun c8 => ?_) (fun c8 => ?_)
                · have hf := hf.trans (if_neg c8)
                  have hok := hok.2 c8
                  refine lv_aload_n hx hb dd_M_make_116 rfl (lv_at hl 0 rfl) ?_
                  refine va_get (D := (dC, dI)) (ci := 0) (v := .int (m_objs u)) (C := "ClassObjectMirrorModel") (T := TM) (N := 12) hx hb hts inM hown hK hP 0 rfl rfl 9 (by decide) (hts _ gw_310) (fun _ h9 => h9) rfl dd_M_make_117 ?_
                  refine lv_bipush (v := 80) hx hb dd_M_make_120 (by decide) ?_
                  refine lv_icmp_ne (tgt := 130) hx hb dd_M_make_122 (by decide) (fun c9 => ?_) (fun c9 => ?_)
                  · have hf := hf.trans (if_neg c9)
                    have hok := hok.2 c9
                    refine lv_aload_n hx hb dd_M_make_130 rfl (lv_at hl 0 rfl) ?_
                    refine lv_iload_n hx hb dd_M_make_131 rfl (lv_at hl 1 rfl) ?_
                    refine lv_iconst (v := (-1)) hx hb dd_M_make_132 (by decide) ?_
                    refine lv_iload hx hb dd_M_make_133 (lv_at hl 4 rfl) ?_
                    have n10 := hok
                    refine va_calli (va_runV (As := [.int x1, .int (-1), .int x4]) (rest := []) ⟨hx, hb, hml, hown, hts⟩ (mm_M_create l dC dI h a k u x1 ((-1) : Int32) x4 n10) (cwV 3 hts (gg_V gw_447 gw_449 gs_28 gw_2 gw_450) rfl rfl rfl (by decide +kernel) ⟨Nat.le_of_ble_eq_true rfl, Nat.le_of_ble_eq_true rfl⟩) ⟨pM_bl, va_recv hK hP (ci := 0) (q0 := 0) rfl rfl, fun U hU hW => ⟨rfl, pM_up hP hK hD hU hW⟩⟩ rfl rfl hl.1 rfl (lv_room (Nat.le_of_ble_eq_true rfl)) dd_M_make_135 ⟨Nat.zero_le _, Nat.zero_le _⟩) hS (fun q _ h => h) (fun q h => h) (fun r9 v9 t9 H locs ht9 hvm9 hw9 hB9 hz9 hk9 hS => ?_)
                    obtain ⟨rfl, rfl⟩ : r9 = (ff_M_create u x1 ((-1) : Int32) x4).1 ∧ v9 = (ff_M_create u x1 ((-1) : Int32) x4).2 := by rw [← hw9]; exact ⟨rfl, rfl⟩
                    obtain ⟨hP, -, hD⟩ := hB9
                    rw [ht9] at hP
                    exact W.iret (v := ((ff_M_create u x1 ((-1) : Int32) x4).1)) hx hb hr (fun t ht hW => ⟨⟨((ff_M_create u x1 ((-1) : Int32) x4).1), (ff_M_create u x1 ((-1) : Int32) x4).2, rfl, hf.symm, pM_up hP hK hD ht hW⟩, hS.F ht⟩) hS.2.2 dd_M_make_138
                  · have hf := hf.trans (if_pos c9)
                    have hok := hok.1 c9
                    refine lv_bipush (v := (-8)) hx hb dd_M_make_125 (by decide) ?_
                    refine lv_goto (tgt := 138) hx hb dd_M_make_127 (by decide) ?_
                    exact W.iret (v := ((-8) : Int32)) hx hb hr (fun t ht hW => ⟨⟨((-8) : Int32), u, rfl, hf.symm, pM_up hP hK hD ht hW⟩, hS.F ht⟩) hS.2.2 dd_M_make_138
                · have hf := hf.trans (if_pos c8)
                  have hok := hok.1 c8
                  refine lv_aload_n hx hb dd_M_make_83 rfl (lv_at hl 0 rfl) ?_
                  refine va_get (D := (dC, dI)) (ci := 0) (v := .ref (a 4)) (C := "ClassObjectMirrorModel") (T := TM) (N := 12) hx hb hts inM hown hK hP 0 rfl rfl 5 (by decide) (hts _ gw_306) (fun _ h9 => h9) rfl dd_M_make_84 ?_
                  refine lv_iload hx hb dd_M_make_87 (lv_at hl 5 rfl) ?_
                  obtain ⟨n11, hok⟩ := hok
                  refine va_iald hx hb hK hP 5 4 rfl rfl n11 dd_M_make_89 ?_
                  refine lv_bipush (v := 19) hx hb dd_M_make_90 (by decide) ?_
                  refine lv_icmp_ne (tgt := 110) hx hb dd_M_make_92 (by decide) (fun c12 => ?_) (fun c12 => ?_)
                  · have hf := hf.trans (if_neg c12)
                    have hok := hok.2 c12
                    refine lv_iinc (v := x5 + 1) (lv' := [(5, .int (x5 + 1)), (0, .ref h), (1, .int x1), (2, .int x2), (3, .int x3), (4, .int x4)]) hx hb dd_M_make_110 hl (k := 5) rfl rfl (by decide) rfl (fun ls hl => ?_)
                    refine lv_goto (tgt := 68) hx hb dd_M_make_113 (by decide) ?_
                    exact ih u _ _ x1 x2 x3 x4 (x5 + 1) ls hok hf hP hD hS (lv_sub hl [1, 2, 3, 4, 5, 0] rfl)
                  · have hf := hf.trans (if_pos c12)
                    have hok := hok.1 c12
                    refine lv_aload_n hx hb dd_M_make_95 rfl (lv_at hl 0 rfl) ?_
                    refine va_get (D := (dC, dI)) (ci := 0) (v := .ref (a 6)) (C := "ClassObjectMirrorModel") (T := TM) (N := 12) hx hb hts inM hown hK hP 0 rfl rfl 7 (by decide) (hts _ gw_308) (fun _ h9 => h9) rfl dd_M_make_96 ?_
                    refine lv_iload hx hb dd_M_make_99 (lv_at hl 5 rfl) ?_
                    obtain ⟨n13, hok⟩ := hok
                    refine va_iald hx hb hK hP 7 6 rfl rfl n13 dd_M_make_101 ?_
                    refine lv_iload hx hb dd_M_make_102 (lv_at hl 4 rfl) ?_
                    refine lv_icmp_ne (tgt := 110) hx hb dd_M_make_104 (by decide) (fun c14 => ?_) (fun c14 => ?_)
                    · have hf := hf.trans (if_neg c14)
                      have hok := hok.2 c14
                      refine lv_iinc (v := x5 + 1) (lv' := [(5, .int (x5 + 1)), (0, .ref h), (1, .int x1), (2, .int x2), (3, .int x3), (4, .int x4)]) hx hb dd_M_make_110 hl (k := 5) rfl rfl (by decide) rfl (fun ls hl => ?_)
                      refine lv_goto (tgt := 68) hx hb dd_M_make_113 (by decide) ?_
                      exact ih u _ _ x1 x2 x3 x4 (x5 + 1) ls hok hf hP hD hS (lv_sub hl [1, 2, 3, 4, 5, 0] rfl)
                    · have hf := hf.trans (if_pos c14)
                      have hok := hok.1 c14
                      refine lv_iload hx hb dd_M_make_107 (lv_at hl 5 rfl) ?_
                      exact W.iret (v := x5) hx hb hr (fun t ht hW => ⟨⟨x5, u, rfl, hf.symm, pM_up hP hK hD ht hW⟩, hS.F ht⟩) hS.2.2 dd_M_make_109
          exact loop_68 400 u0 _ _ p0 p1 (1 : Int32) p1 (0 : Int32) ls hok hf hP hD hS (lv_sub hl [3, 4, 5, 2, 1, 0] rfl)
        · have hf := hf.trans (if_pos c4)
          have hok := hok.1 c4
          refine lv_iload_n hx hb dd_M_make_52 rfl (lv_at hl 3 rfl) ?_
          refine lv_iconst (v := 3) hx hb dd_M_make_53 (by decide) ?_
          refine lv_irem hx hb dd_M_make_54 (by decide) ?_
          refine lv_iconst (v := 3) hx hb dd_M_make_55 (by decide) ?_
          refine lv_iadd hx hb dd_M_make_56 ?_
          refine lv_iconst (v := 3) hx hb dd_M_make_57 (by decide) ?_
          refine lv_irem hx hb dd_M_make_58 (by decide) ?_
          refine lv_goto (tgt := 63) hx hb dd_M_make_59 (by decide) ?_
          refine lv_istore (lv' := [(4, .int (((p1 - p1 / 3 * 3) + 3) - ((p1 - p1 / 3 * 3) + 3) / 3 * 3)), (3, .int 1), (0, .ref h), (1, .int p0), (2, .int p1)]) hx hb dd_M_make_63 hl (by decide) rfl (fun ls hl => ?_)
          refine lv_iconst (v := 0) hx hb dd_M_make_65 (by decide) ?_
          refine lv_istore (lv' := [(5, .int 0), (4, .int (((p1 - p1 / 3 * 3) + 3) - ((p1 - p1 / 3 * 3) + 3) / 3 * 3)), (3, .int 1), (0, .ref h), (1, .int p0), (2, .int p1)]) hx hb dd_M_make_66 hl (by decide) rfl (fun ls hl => ?_)
          have loop_68 : ∀ (n : Nat) (u : SM) (H : Heap) (locs : List Loc) (x1 : Int32) (x2 : Int32) (x3 : Int32) (x4 : Int32) (x5 : Int32) (ls : Array Slot), okl_M_make_68 n u x1 x2 x3 x4 x5 → ff_M_make u0 p0 p1 = fl_M_make_68 n u x1 x2 x3 x4 x5 → va_P (dC, dI) cls_l (wM h a k u) H → va_D (aM h a) (wM h a k u) → va_S (aM h a) s.heap H locs → lv_has ls 6 [(0, .ref h), (1, .int x1), (2, .int x2), (3, .int x3), (4, .int x4), (5, .int x5)] → W p l e (headSpec ws_M_make rm_M_make).room s m ([.ref h, .int p0, .int p1] : List Value).toArray below meth c H locs 0 0 (MQ below (va_Qi (fun (r : Int32) (v : SM) => (r, v) = ff_M_make u0 p0 p1) (pM dC dI h a k) (aM h a)) ([.ref h, .int p0, .int p1] : List Value).toArray s 0 0 (aM h a)) (F0 m 68 ls []) := by
            intro n
            induction n with
            | zero => intro u H locs x1 x2 x3 x4 x5 ls hok; exact (show False from hok).elim
            | succ n ih =>
              intro u H locs x1 x2 x3 x4 x5 ls hok hf hP hD hS hl
              rw [fl_M_make_68] at hf
              rw [okl_M_make_68] at hok
              refine lv_iload hx hb dd_M_make_68 (lv_at hl 5 rfl) ?_
              refine lv_aload_n hx hb dd_M_make_70 rfl (lv_at hl 0 rfl) ?_
              refine va_get (D := (dC, dI)) (ci := 0) (v := .int (m_objs u)) (C := "ClassObjectMirrorModel") (T := TM) (N := 12) hx hb hts inM hown hK hP 0 rfl rfl 9 (by decide) (hts _ gw_310) (fun _ h9 => h9) rfl dd_M_make_71 ?_
              refine lv_icmp_ge (tgt := 116) hx hb dd_M_make_74 (by decide) (fun c15 => ?_) (fun c15 => ?_)
              · have hf := hf.trans (if_pos c15)
                have hok := hok.1 c15
                refine lv_aload_n hx hb dd_M_make_116 rfl (lv_at hl 0 rfl) ?_
                refine va_get (D := (dC, dI)) (ci := 0) (v := .int (m_objs u)) (C := "ClassObjectMirrorModel") (T := TM) (N := 12) hx hb hts inM hown hK hP 0 rfl rfl 9 (by decide) (hts _ gw_310) (fun _ h9 => h9) rfl dd_M_make_117 ?_
                refine lv_bipush (v := 80) hx hb dd_M_make_120 (by decide) ?_
                refine lv_icmp_ne (tgt := 130) hx hb dd_M_make_122 (by decide) (fun c16 => ?_) (fun c16 => ?_)
                · have hf := hf.trans (if_neg c16)
                  have hok := hok.2 c16
                  refine lv_aload_n hx hb dd_M_make_130 rfl (lv_at hl 0 rfl) ?_
                  refine lv_iload_n hx hb dd_M_make_131 rfl (lv_at hl 1 rfl) ?_
                  refine lv_iconst (v := (-1)) hx hb dd_M_make_132 (by decide) ?_
                  refine lv_iload hx hb dd_M_make_133 (lv_at hl 4 rfl) ?_
                  have n17 := hok
                  refine va_calli (va_runV (As := [.int x1, .int (-1), .int x4]) (rest := []) ⟨hx, hb, hml, hown, hts⟩ (mm_M_create l dC dI h a k u x1 ((-1) : Int32) x4 n17) (cwV 3 hts (gg_V gw_447 gw_449 gs_28 gw_2 gw_450) rfl rfl rfl (by decide +kernel) ⟨Nat.le_of_ble_eq_true rfl, Nat.le_of_ble_eq_true rfl⟩) ⟨pM_bl, va_recv hK hP (ci := 0) (q0 := 0) rfl rfl, fun U hU hW => ⟨rfl, pM_up hP hK hD hU hW⟩⟩ rfl rfl hl.1 rfl (lv_room (Nat.le_of_ble_eq_true rfl)) dd_M_make_135 ⟨Nat.zero_le _, Nat.zero_le _⟩) hS (fun q _ h => h) (fun q h => h) (fun r9 v9 t9 H locs ht9 hvm9 hw9 hB9 hz9 hk9 hS => ?_)
                  obtain ⟨rfl, rfl⟩ : r9 = (ff_M_create u x1 ((-1) : Int32) x4).1 ∧ v9 = (ff_M_create u x1 ((-1) : Int32) x4).2 := by rw [← hw9]; exact ⟨rfl, rfl⟩
                  obtain ⟨hP, -, hD⟩ := hB9
                  rw [ht9] at hP
                  exact W.iret (v := ((ff_M_create u x1 ((-1) : Int32) x4).1)) hx hb hr (fun t ht hW => ⟨⟨((ff_M_create u x1 ((-1) : Int32) x4).1), (ff_M_create u x1 ((-1) : Int32) x4).2, rfl, hf.symm, pM_up hP hK hD ht hW⟩, hS.F ht⟩) hS.2.2 dd_M_make_138
                · have hf := hf.trans (if_pos c16)
                  have hok := hok.1 c16
                  refine lv_bipush (v := (-8)) hx hb dd_M_make_125 (by decide) ?_
                  refine lv_goto (tgt := 138) hx hb dd_M_make_127 (by decide) ?_
                  exact W.iret (v := ((-8) : Int32)) hx hb hr (fun t ht hW => ⟨⟨((-8) : Int32), u, rfl, hf.symm, pM_up hP hK hD ht hW⟩, hS.F ht⟩) hS.2.2 dd_M_make_138
              · have hf := hf.trans (if_neg c15)
                have hok := hok.2 c15
                refine lv_iload_n hx hb dd_M_make_77 rfl (lv_at hl 1 rfl) ?_
                refine lv_bipush (v := 19) hx hb dd_M_make_78 (by decide) ?_
                refine lv_icmp_ne (tgt := 116) hx hb dd_M_make_80 (by decide) (fun c18 => ?_) (fun c18 => ?_)
                · have hf := hf.trans (if_neg c18)
                  have hok := hok.2 c18
                  refine lv_aload_n hx hb dd_M_make_116 rfl (lv_at hl 0 rfl) ?_
                  refine va_get (D := (dC, dI)) (ci := 0) (v := .int (m_objs u)) (C := "ClassObjectMirrorModel") (T := TM) (N := 12) hx hb hts inM hown hK hP 0 rfl rfl 9 (by decide) (hts _ gw_310) (fun _ h9 => h9) rfl dd_M_make_117 ?_
                  refine lv_bipush (v := 80) hx hb dd_M_make_120 (by decide) ?_
                  refine lv_icmp_ne (tgt := 130) hx hb dd_M_make_122 (by decide) (fun c19 => ?_) (fun c19 => ?_)
                  · have hf := hf.trans (if_neg c19)
                    have hok := hok.2 c19
                    refine lv_aload_n hx hb dd_M_make_130 rfl (lv_at hl 0 rfl) ?_
                    refine lv_iload_n hx hb dd_M_make_131 rfl (lv_at hl 1 rfl) ?_
                    refine lv_iconst (v := (-1)) hx hb dd_M_make_132 (by decide) ?_
                    refine lv_iload hx hb dd_M_make_133 (lv_at hl 4 rfl) ?_
                    have n20 := hok
                    refine va_calli (va_runV (As := [.int x1, .int (-1), .int x4]) (rest := []) ⟨hx, hb, hml, hown, hts⟩ (mm_M_create l dC dI h a k u x1 ((-1) : Int32) x4 n20) (cwV 3 hts (gg_V gw_447 gw_449 gs_28 gw_2 gw_450) rfl rfl rfl (by decide +kernel) ⟨Nat.le_of_ble_eq_true rfl, Nat.le_of_ble_eq_true rfl⟩) ⟨pM_bl, va_recv hK hP (ci := 0) (q0 := 0) rfl rfl, fun U hU hW => ⟨rfl, pM_up hP hK hD hU hW⟩⟩ rfl rfl hl.1 rfl (lv_room (Nat.le_of_ble_eq_true rfl)) dd_M_make_135 ⟨Nat.zero_le _, Nat.zero_le _⟩) hS (fun q _ h => h) (fun q h => h) (fun r9 v9 t9 H locs ht9 hvm9 hw9 hB9 hz9 hk9 hS => ?_)
                    obtain ⟨rfl, rfl⟩ : r9 = (ff_M_create u x1 ((-1) : Int32) x4).1 ∧ v9 = (ff_M_create u x1 ((-1) : Int32) x4).2 := by rw [← hw9]; exact ⟨rfl, rfl⟩
                    obtain ⟨hP, -, hD⟩ := hB9
                    rw [ht9] at hP
                    exact W.iret (v := ((ff_M_create u x1 ((-1) : Int32) x4).1)) hx hb hr (fun t ht hW => ⟨⟨((ff_M_create u x1 ((-1) : Int32) x4).1), (ff_M_create u x1 ((-1) : Int32) x4).2, rfl, hf.symm, pM_up hP hK hD ht hW⟩, hS.F ht⟩) hS.2.2 dd_M_make_138
                  · have hf := hf.trans (if_pos c19)
                    have hok := hok.1 c19
                    refine lv_bipush (v := (-8)) hx hb dd_M_make_125 (by decide) ?_
                    refine lv_goto (tgt := 138) hx hb dd_M_make_127 (by decide) ?_
                    exact W.iret (v := ((-8) : Int32)) hx hb hr (fun t ht hW => ⟨⟨((-8) : Int32), u, rfl, hf.symm, pM_up hP hK hD ht hW⟩, hS.F ht⟩) hS.2.2 dd_M_make_138
                · have hf := hf.trans (if_pos c18)
                  have hok := hok.1 c18
                  refine lv_aload_n hx hb dd_M_make_83 rfl (lv_at hl 0 rfl) ?_
                  refine va_get (D := (dC, dI)) (ci := 0) (v := .ref (a 4)) (C := "ClassObjectMirrorModel") (T := TM) (N := 12) hx hb hts inM hown hK hP 0 rfl rfl 5 (by decide) (hts _ gw_306) (fun _ h9 => h9) rfl dd_M_make_84 ?_
                  refine lv_iload hx hb dd_M_make_87 (lv_at hl 5 rfl) ?_
                  obtain ⟨n21, hok⟩ := hok
                  refine va_iald hx hb hK hP 5 4 rfl rfl n21 dd_M_make_89 ?_
                  refine lv_bipush (v := 19) hx hb dd_M_make_90 (by decide) ?_
                  refine lv_icmp_ne (tgt := 110) hx hb dd_M_make_92 (by decide) (fun c22 => ?_) (fun c22 => ?_)
                  · have hf := hf.trans (if_neg c22)
                    have hok := hok.2 c22
                    refine lv_iinc (v := x5 + 1) (lv' := [(5, .int (x5 + 1)), (0, .ref h), (1, .int x1), (2, .int x2), (3, .int x3), (4, .int x4)]) hx hb dd_M_make_110 hl (k := 5) rfl rfl (by decide) rfl (fun ls hl => ?_)
                    refine lv_goto (tgt := 68) hx hb dd_M_make_113 (by decide) ?_
                    exact ih u _ _ x1 x2 x3 x4 (x5 + 1) ls hok hf hP hD hS (lv_sub hl [1, 2, 3, 4, 5, 0] rfl)
                  · have hf := hf.trans (if_pos c22)
                    have hok := hok.1 c22
                    refine lv_aload_n hx hb dd_M_make_95 rfl (lv_at hl 0 rfl) ?_
                    refine va_get (D := (dC, dI)) (ci := 0) (v := .ref (a 6)) (C := "ClassObjectMirrorModel") (T := TM) (N := 12) hx hb hts inM hown hK hP 0 rfl rfl 7 (by decide) (hts _ gw_308) (fun _ h9 => h9) rfl dd_M_make_96 ?_
                    refine lv_iload hx hb dd_M_make_99 (lv_at hl 5 rfl) ?_
                    obtain ⟨n23, hok⟩ := hok
                    refine va_iald hx hb hK hP 7 6 rfl rfl n23 dd_M_make_101 ?_
                    refine lv_iload hx hb dd_M_make_102 (lv_at hl 4 rfl) ?_
                    refine lv_icmp_ne (tgt := 110) hx hb dd_M_make_104 (by decide) (fun c24 => ?_) (fun c24 => ?_)
                    · have hf := hf.trans (if_neg c24)
                      have hok := hok.2 c24
                      refine lv_iinc (v := x5 + 1) (lv' := [(5, .int (x5 + 1)), (0, .ref h), (1, .int x1), (2, .int x2), (3, .int x3), (4, .int x4)]) hx hb dd_M_make_110 hl (k := 5) rfl rfl (by decide) rfl (fun ls hl => ?_)
                      refine lv_goto (tgt := 68) hx hb dd_M_make_113 (by decide) ?_
                      exact ih u _ _ x1 x2 x3 x4 (x5 + 1) ls hok hf hP hD hS (lv_sub hl [1, 2, 3, 4, 5, 0] rfl)
                    · have hf := hf.trans (if_pos c24)
                      have hok := hok.1 c24
                      refine lv_iload hx hb dd_M_make_107 (lv_at hl 5 rfl) ?_
                      exact W.iret (v := x5) hx hb hr (fun t ht hW => ⟨⟨x5, u, rfl, hf.symm, pM_up hP hK hD ht hW⟩, hS.F ht⟩) hS.2.2 dd_M_make_109
          exact loop_68 400 u0 _ _ p0 p1 (1 : Int32) (((p1 - p1 / 3 * 3) + 3) - ((p1 - p1 / 3 * 3) + 3) / 3 * 3) (0 : Int32) ls hok hf hP hD hS (lv_sub hl [3, 4, 5, 2, 1, 0] rfl)
      · have hf := hf.trans (if_pos c3)
        have hok := hok.1 c3
        refine lv_iconst (v := (-1)) hx hb dd_M_make_44 (by decide) ?_
        exact W.iret (v := ((-1) : Int32)) hx hb hr (fun t ht hW => ⟨⟨((-1) : Int32), u0, rfl, hf.symm, pM_up hP hK hD ht hW⟩, hS.F ht⟩) hS.2.2 dd_M_make_45
    · have hf := hf.trans (if_neg c2)
      have hok := hok.2 c2
      refine lv_iload_n hx hb dd_M_make_16 rfl (lv_at hl 1 rfl) ?_
      refine lv_bipush (v := 12) hx hb dd_M_make_17 (by decide) ?_
      refine lv_icmp_eq (tgt := 34) hx hb dd_M_make_19 (by decide) (fun c25 => ?_) (fun c25 => ?_)
      · have hf := hf.trans (if_pos c25)
        have hok := hok.1 c25
        refine lv_iconst (v := 1) hx hb dd_M_make_34 (by decide) ?_
        refine lv_goto (tgt := 39) hx hb dd_M_make_35 (by decide) ?_
        refine lv_istore_n (lv' := [(3, .int 1), (0, .ref h), (1, .int p0), (2, .int p1)]) hx hb dd_M_make_39 rfl hl (by decide) rfl (fun ls hl => ?_)
        refine lv_iload_n hx hb dd_M_make_40 rfl (lv_at hl 0 rfl) ?_
        refine lv_if_ne (tgt := 46) hx hb dd_M_make_41 (by decide) (fun c26 => ?_) (fun c26 => ?_)
        · have hf := hf.trans (if_neg c26)
          have hok := hok.2 c26
          refine lv_iload_n hx hb dd_M_make_46 rfl (lv_at hl 2 rfl) ?_
          refine lv_bipush (v := 19) hx hb dd_M_make_47 (by decide) ?_
          refine lv_icmp_ne (tgt := 62) hx hb dd_M_make_49 (by decide) (fun c27 => ?_) (fun c27 => ?_)
          · have hf := hf.trans (if_neg c27)
            have hok := hok.2 c27
            refine lv_iload_n hx hb dd_M_make_62 rfl (lv_at hl 3 rfl) ?_
            refine lv_istore (lv' := [(4, .int p1), (3, .int 1), (0, .ref h), (1, .int p0), (2, .int p1)]) hx hb dd_M_make_63 hl (by decide) rfl (fun ls hl => ?_)
            refine lv_iconst (v := 0) hx hb dd_M_make_65 (by decide) ?_
            refine lv_istore (lv' := [(5, .int 0), (4, .int p1), (3, .int 1), (0, .ref h), (1, .int p0), (2, .int p1)]) hx hb dd_M_make_66 hl (by decide) rfl (fun ls hl => ?_)
            have loop_68 : ∀ (n : Nat) (u : SM) (H : Heap) (locs : List Loc) (x1 : Int32) (x2 : Int32) (x3 : Int32) (x4 : Int32) (x5 : Int32) (ls : Array Slot), okl_M_make_68 n u x1 x2 x3 x4 x5 → ff_M_make u0 p0 p1 = fl_M_make_68 n u x1 x2 x3 x4 x5 → va_P (dC, dI) cls_l (wM h a k u) H → va_D (aM h a) (wM h a k u) → va_S (aM h a) s.heap H locs → lv_has ls 6 [(0, .ref h), (1, .int x1), (2, .int x2), (3, .int x3), (4, .int x4), (5, .int x5)] → W p l e (headSpec ws_M_make rm_M_make).room s m ([.ref h, .int p0, .int p1] : List Value).toArray below meth c H locs 0 0 (MQ below (va_Qi (fun (r : Int32) (v : SM) => (r, v) = ff_M_make u0 p0 p1) (pM dC dI h a k) (aM h a)) ([.ref h, .int p0, .int p1] : List Value).toArray s 0 0 (aM h a)) (F0 m 68 ls []) := by
              intro n
              induction n with
              | zero => intro u H locs x1 x2 x3 x4 x5 ls hok; exact (show False from hok).elim
              | succ n ih =>
                intro u H locs x1 x2 x3 x4 x5 ls hok hf hP hD hS hl
                rw [fl_M_make_68] at hf
                rw [okl_M_make_68] at hok
                refine lv_iload hx hb dd_M_make_68 (lv_at hl 5 rfl) ?_
                refine lv_aload_n hx hb dd_M_make_70 rfl (lv_at hl 0 rfl) ?_
                refine va_get (D := (dC, dI)) (ci := 0) (v := .int (m_objs u)) (C := "ClassObjectMirrorModel") (T := TM) (N := 12) hx hb hts inM hown hK hP 0 rfl rfl 9 (by decide) (hts _ gw_310) (fun _ h9 => h9) rfl dd_M_make_71 ?_
                refine lv_icmp_ge (tgt := 116) hx hb dd_M_make_74 (by decide) (fun c28 => ?_) (fun c28 => ?_)
                · have hf := hf.trans (if_pos c28)
                  have hok := hok.1 c28
                  refine lv_aload_n hx hb dd_M_make_116 rfl (lv_at hl 0 rfl) ?_
                  refine va_get (D := (dC, dI)) (ci := 0) (v := .int (m_objs u)) (C := "ClassObjectMirrorModel") (T := TM) (N := 12) hx hb hts inM hown hK hP 0 rfl rfl 9 (by decide) (hts _ gw_310) (fun _ h9 => h9) rfl dd_M_make_117 ?_
                  refine lv_bipush (v := 80) hx hb dd_M_make_120 (by decide) ?_
                  refine lv_icmp_ne (tgt := 130) hx hb dd_M_make_122 (by decide) (fun c29 => ?_) (fun c29 => ?_)
                  · have hf := hf.trans (if_neg c29)
                    have hok := hok.2 c29
                    refine lv_aload_n hx hb dd_M_make_130 rfl (lv_at hl 0 rfl) ?_
                    refine lv_iload_n hx hb dd_M_make_131 rfl (lv_at hl 1 rfl) ?_
                    refine lv_iconst (v := (-1)) hx hb dd_M_make_132 (by decide) ?_
                    refine lv_iload hx hb dd_M_make_133 (lv_at hl 4 rfl) ?_
                    have n30 := hok
                    refine va_calli (va_runV (As := [.int x1, .int (-1), .int x4]) (rest := []) ⟨hx, hb, hml, hown, hts⟩ (mm_M_create l dC dI h a k u x1 ((-1) : Int32) x4 n30) (cwV 3 hts (gg_V gw_447 gw_449 gs_28 gw_2 gw_450) rfl rfl rfl (by decide +kernel) ⟨Nat.le_of_ble_eq_true rfl, Nat.le_of_ble_eq_true rfl⟩) ⟨pM_bl, va_recv hK hP (ci := 0) (q0 := 0) rfl rfl, fun U hU hW => ⟨rfl, pM_up hP hK hD hU hW⟩⟩ rfl rfl hl.1 rfl (lv_room (Nat.le_of_ble_eq_true rfl)) dd_M_make_135 ⟨Nat.zero_le _, Nat.zero_le _⟩) hS (fun q _ h => h) (fun q h => h) (fun r9 v9 t9 H locs ht9 hvm9 hw9 hB9 hz9 hk9 hS => ?_)
                    obtain ⟨rfl, rfl⟩ : r9 = (ff_M_create u x1 ((-1) : Int32) x4).1 ∧ v9 = (ff_M_create u x1 ((-1) : Int32) x4).2 := by rw [← hw9]; exact ⟨rfl, rfl⟩
                    obtain ⟨hP, -, hD⟩ := hB9
                    rw [ht9] at hP
                    exact W.iret (v := ((ff_M_create u x1 ((-1) : Int32) x4).1)) hx hb hr (fun t ht hW => ⟨⟨((ff_M_create u x1 ((-1) : Int32) x4).1), (ff_M_create u x1 ((-1) : Int32) x4).2, rfl, hf.symm, pM_up hP hK hD ht hW⟩, hS.F ht⟩) hS.2.2 dd_M_make_138
                  · have hf := hf.trans (if_pos c29)
                    have hok := hok.1 c29
                    refine lv_bipush (v := (-8)) hx hb dd_M_make_125 (by decide) ?_
                    refine lv_goto (tgt := 138) hx hb dd_M_make_127 (by decide) ?_
                    exact W.iret (v := ((-8) : Int32)) hx hb hr (fun t ht hW => ⟨⟨((-8) : Int32), u, rfl, hf.symm, pM_up hP hK hD ht hW⟩, hS.F ht⟩) hS.2.2 dd_M_make_138
                · have hf := hf.trans (if_neg c28)
                  have hok := hok.2 c28
                  refine lv_iload_n hx hb dd_M_make_77 rfl (lv_at hl 1 rfl) ?_
                  refine lv_bipush (v := 19) hx hb dd_M_make_78 (by decide) ?_
                  refine lv_icmp_ne (tgt := 116) hx hb dd_M_make_80 (by decide) (fun c31 => ?_) (fun c31 => ?_)
                  · have hf := hf.trans (if_neg c31)
                    have hok := hok.2 c31
                    refine lv_aload_n hx hb dd_M_make_116 rfl (lv_at hl 0 rfl) ?_
                    refine va_get (D := (dC, dI)) (ci := 0) (v := .int (m_objs u)) (C := "ClassObjectMirrorModel") (T := TM) (N := 12) hx hb hts inM hown hK hP 0 rfl rfl 9 (by decide) (hts _ gw_310) (fun _ h9 => h9) rfl dd_M_make_117 ?_
                    refine lv_bipush (v := 80) hx hb dd_M_make_120 (by decide) ?_
                    refine lv_icmp_ne (tgt := 130) hx hb dd_M_make_122 (by decide) (fun c32 => ?_) (fun c32 => ?_)
                    · have hf := hf.trans (if_neg c32)
                      have hok := hok.2 c32
                      refine lv_aload_n hx hb dd_M_make_130 rfl (lv_at hl 0 rfl) ?_
                      refine lv_iload_n hx hb dd_M_make_131 rfl (lv_at hl 1 rfl) ?_
                      refine lv_iconst (v := (-1)) hx hb dd_M_make_132 (by decide) ?_
                      refine lv_iload hx hb dd_M_make_133 (lv_at hl 4 rfl) ?_
                      have n33 := hok
                      refine va_calli (va_runV (As := [.int x1, .int (-1), .int x4]) (rest := []) ⟨hx, hb, hml, hown, hts⟩ (mm_M_create l dC dI h a k u x1 ((-1) : Int32) x4 n33) (cwV 3 hts (gg_V gw_447 gw_449 gs_28 gw_2 gw_450) rfl rfl rfl (by decide +kernel) ⟨Nat.le_of_ble_eq_true rfl, Nat.le_of_ble_eq_true rfl⟩) ⟨pM_bl, va_recv hK hP (ci := 0) (q0 := 0) rfl rfl, fun U hU hW => ⟨rfl, pM_up hP hK hD hU hW⟩⟩ rfl rfl hl.1 rfl (lv_room (Nat.le_of_ble_eq_true rfl)) dd_M_make_135 ⟨Nat.zero_le _, Nat.zero_le _⟩) hS (fun q _ h => h) (fun q h => h) (fun r9 v9 t9 H locs ht9 hvm9 hw9 hB9 hz9 hk9 hS => ?_)
                      obtain ⟨rfl, rfl⟩ : r9 = (ff_M_create u x1 ((-1) : Int32) x4).1 ∧ v9 = (ff_M_create u x1 ((-1) : Int32) x4).2 := by rw [← hw9]; exact ⟨rfl, rfl⟩
                      obtain ⟨hP, -, hD⟩ := hB9
                      rw [ht9] at hP
                      exact W.iret (v := ((ff_M_create u x1 ((-1) : Int32) x4).1)) hx hb hr (fun t ht hW => ⟨⟨((ff_M_create u x1 ((-1) : Int32) x4).1), (ff_M_create u x1 ((-1) : Int32) x4).2, rfl, hf.symm, pM_up hP hK hD ht hW⟩, hS.F ht⟩) hS.2.2 dd_M_make_138
                    · have hf := hf.trans (if_pos c32)
                      have hok := hok.1 c32
                      refine lv_bipush (v := (-8)) hx hb dd_M_make_125 (by decide) ?_
                      refine lv_goto (tgt := 138) hx hb dd_M_make_127 (by decide) ?_
                      exact W.iret (v := ((-8) : Int32)) hx hb hr (fun t ht hW => ⟨⟨((-8) : Int32), u, rfl, hf.symm, pM_up hP hK hD ht hW⟩, hS.F ht⟩) hS.2.2 dd_M_make_138
                  · have hf := hf.trans (if_pos c31)
                    have hok := hok.1 c31
                    refine lv_aload_n hx hb dd_M_make_83 rfl (lv_at hl 0 rfl) ?_
                    refine va_get (D := (dC, dI)) (ci := 0) (v := .ref (a 4)) (C := "ClassObjectMirrorModel") (T := TM) (N := 12) hx hb hts inM hown hK hP 0 rfl rfl 5 (by decide) (hts _ gw_306) (fun _ h9 => h9) rfl dd_M_make_84 ?_
                    refine lv_iload hx hb dd_M_make_87 (lv_at hl 5 rfl) ?_
                    obtain ⟨n34, hok⟩ := hok
                    refine va_iald hx hb hK hP 5 4 rfl rfl n34 dd_M_make_89 ?_
                    refine lv_bipush (v := 19) hx hb dd_M_make_90 (by decide) ?_
                    refine lv_icmp_ne (tgt := 110) hx hb dd_M_make_92 (by decide) (fun c35 => ?_) (fun c35 => ?_)
                    · have hf := hf.trans (if_neg c35)
                      have hok := hok.2 c35
                      refine lv_iinc (v := x5 + 1) (lv' := [(5, .int (x5 + 1)), (0, .ref h), (1, .int x1), (2, .int x2), (3, .int x3), (4, .int x4)]) hx hb dd_M_make_110 hl (k := 5) rfl rfl (by decide) rfl (fun ls hl => ?_)
                      refine lv_goto (tgt := 68) hx hb dd_M_make_113 (by decide) ?_
                      exact ih u _ _ x1 x2 x3 x4 (x5 + 1) ls hok hf hP hD hS (lv_sub hl [1, 2, 3, 4, 5, 0] rfl)
                    · have hf := hf.trans (if_pos c35)
                      have hok := hok.1 c35
                      refine lv_aload_n hx hb dd_M_make_95 rfl (lv_at hl 0 rfl) ?_
                      refine va_get (D := (dC, dI)) (ci := 0) (v := .ref (a 6)) (C := "ClassObjectMirrorModel") (T := TM) (N := 12) hx hb hts inM hown hK hP 0 rfl rfl 7 (by decide) (hts _ gw_308) (fun _ h9 => h9) rfl dd_M_make_96 ?_
                      refine lv_iload hx hb dd_M_make_99 (lv_at hl 5 rfl) ?_
                      obtain ⟨n36, hok⟩ := hok
                      refine va_iald hx hb hK hP 7 6 rfl rfl n36 dd_M_make_101 ?_
                      refine lv_iload hx hb dd_M_make_102 (lv_at hl 4 rfl) ?_
                      refine lv_icmp_ne (tgt := 110) hx hb dd_M_make_104 (by decide) (fun c37 => ?_) (fun c37 => ?_)
                      · have hf := hf.trans (if_neg c37)
                        have hok := hok.2 c37
                        refine lv_iinc (v := x5 + 1) (lv' := [(5, .int (x5 + 1)), (0, .ref h), (1, .int x1), (2, .int x2), (3, .int x3), (4, .int x4)]) hx hb dd_M_make_110 hl (k := 5) rfl rfl (by decide) rfl (fun ls hl => ?_)
                        refine lv_goto (tgt := 68) hx hb dd_M_make_113 (by decide) ?_
                        exact ih u _ _ x1 x2 x3 x4 (x5 + 1) ls hok hf hP hD hS (lv_sub hl [1, 2, 3, 4, 5, 0] rfl)
                      · have hf := hf.trans (if_pos c37)
                        have hok := hok.1 c37
                        refine lv_iload hx hb dd_M_make_107 (lv_at hl 5 rfl) ?_
                        exact W.iret (v := x5) hx hb hr (fun t ht hW => ⟨⟨x5, u, rfl, hf.symm, pM_up hP hK hD ht hW⟩, hS.F ht⟩) hS.2.2 dd_M_make_109
            exact loop_68 400 u0 _ _ p0 p1 (1 : Int32) p1 (0 : Int32) ls hok hf hP hD hS (lv_sub hl [3, 4, 5, 2, 1, 0] rfl)
          · have hf := hf.trans (if_pos c27)
            have hok := hok.1 c27
            refine lv_iload_n hx hb dd_M_make_52 rfl (lv_at hl 3 rfl) ?_
            refine lv_iconst (v := 3) hx hb dd_M_make_53 (by decide) ?_
            refine lv_irem hx hb dd_M_make_54 (by decide) ?_
            refine lv_iconst (v := 3) hx hb dd_M_make_55 (by decide) ?_
            refine lv_iadd hx hb dd_M_make_56 ?_
            refine lv_iconst (v := 3) hx hb dd_M_make_57 (by decide) ?_
            refine lv_irem hx hb dd_M_make_58 (by decide) ?_
            refine lv_goto (tgt := 63) hx hb dd_M_make_59 (by decide) ?_
            refine lv_istore (lv' := [(4, .int (((p1 - p1 / 3 * 3) + 3) - ((p1 - p1 / 3 * 3) + 3) / 3 * 3)), (3, .int 1), (0, .ref h), (1, .int p0), (2, .int p1)]) hx hb dd_M_make_63 hl (by decide) rfl (fun ls hl => ?_)
            refine lv_iconst (v := 0) hx hb dd_M_make_65 (by decide) ?_
            refine lv_istore (lv' := [(5, .int 0), (4, .int (((p1 - p1 / 3 * 3) + 3) - ((p1 - p1 / 3 * 3) + 3) / 3 * 3)), (3, .int 1), (0, .ref h), (1, .int p0), (2, .int p1)]) hx hb dd_M_make_66 hl (by decide) rfl (fun ls hl => ?_)
            have loop_68 : ∀ (n : Nat) (u : SM) (H : Heap) (locs : List Loc) (x1 : Int32) (x2 : Int32) (x3 : Int32) (x4 : Int32) (x5 : Int32) (ls : Array Slot), okl_M_make_68 n u x1 x2 x3 x4 x5 → ff_M_make u0 p0 p1 = fl_M_make_68 n u x1 x2 x3 x4 x5 → va_P (dC, dI) cls_l (wM h a k u) H → va_D (aM h a) (wM h a k u) → va_S (aM h a) s.heap H locs → lv_has ls 6 [(0, .ref h), (1, .int x1), (2, .int x2), (3, .int x3), (4, .int x4), (5, .int x5)] → W p l e (headSpec ws_M_make rm_M_make).room s m ([.ref h, .int p0, .int p1] : List Value).toArray below meth c H locs 0 0 (MQ below (va_Qi (fun (r : Int32) (v : SM) => (r, v) = ff_M_make u0 p0 p1) (pM dC dI h a k) (aM h a)) ([.ref h, .int p0, .int p1] : List Value).toArray s 0 0 (aM h a)) (F0 m 68 ls []) := by
              intro n
              induction n with
              | zero => intro u H locs x1 x2 x3 x4 x5 ls hok; exact (show False from hok).elim
              | succ n ih =>
                intro u H locs x1 x2 x3 x4 x5 ls hok hf hP hD hS hl
                rw [fl_M_make_68] at hf
                rw [okl_M_make_68] at hok
                refine lv_iload hx hb dd_M_make_68 (lv_at hl 5 rfl) ?_
                refine lv_aload_n hx hb dd_M_make_70 rfl (lv_at hl 0 rfl) ?_
                refine va_get (D := (dC, dI)) (ci := 0) (v := .int (m_objs u)) (C := "ClassObjectMirrorModel") (T := TM) (N := 12) hx hb hts inM hown hK hP 0 rfl rfl 9 (by decide) (hts _ gw_310) (fun _ h9 => h9) rfl dd_M_make_71 ?_
                refine lv_icmp_ge (tgt := 116) hx hb dd_M_make_74 (by decide) (fun c38 => ?_) (fun c38 => ?_)
                · have hf := hf.trans (if_pos c38)
                  have hok := hok.1 c38
                  refine lv_aload_n hx hb dd_M_make_116 rfl (lv_at hl 0 rfl) ?_
                  refine va_get (D := (dC, dI)) (ci := 0) (v := .int (m_objs u)) (C := "ClassObjectMirrorModel") (T := TM) (N := 12) hx hb hts inM hown hK hP 0 rfl rfl 9 (by decide) (hts _ gw_310) (fun _ h9 => h9) rfl dd_M_make_117 ?_
                  refine lv_bipush (v := 80) hx hb dd_M_make_120 (by decide) ?_
                  refine lv_icmp_ne (tgt := 130) hx hb dd_M_make_122 (by decide) (fun c39 => ?_) (fun c39 => ?_)
                  · have hf := hf.trans (if_neg c39)
                    have hok := hok.2 c39
                    refine lv_aload_n hx hb dd_M_make_130 rfl (lv_at hl 0 rfl) ?_
                    refine lv_iload_n hx hb dd_M_make_131 rfl (lv_at hl 1 rfl) ?_
                    refine lv_iconst (v := (-1)) hx hb dd_M_make_132 (by decide) ?_
                    refine lv_iload hx hb dd_M_make_133 (lv_at hl 4 rfl) ?_
                    have n40 := hok
                    refine va_calli (va_runV (As := [.int x1, .int (-1), .int x4]) (rest := []) ⟨hx, hb, hml, hown, hts⟩ (mm_M_create l dC dI h a k u x1 ((-1) : Int32) x4 n40) (cwV 3 hts (gg_V gw_447 gw_449 gs_28 gw_2 gw_450) rfl rfl rfl (by decide +kernel) ⟨Nat.le_of_ble_eq_true rfl, Nat.le_of_ble_eq_true rfl⟩) ⟨pM_bl, va_recv hK hP (ci := 0) (q0 := 0) rfl rfl, fun U hU hW => ⟨rfl, pM_up hP hK hD hU hW⟩⟩ rfl rfl hl.1 rfl (lv_room (Nat.le_of_ble_eq_true rfl)) dd_M_make_135 ⟨Nat.zero_le _, Nat.zero_le _⟩) hS (fun q _ h => h) (fun q h => h) (fun r9 v9 t9 H locs ht9 hvm9 hw9 hB9 hz9 hk9 hS => ?_)
                    obtain ⟨rfl, rfl⟩ : r9 = (ff_M_create u x1 ((-1) : Int32) x4).1 ∧ v9 = (ff_M_create u x1 ((-1) : Int32) x4).2 := by rw [← hw9]; exact ⟨rfl, rfl⟩
                    obtain ⟨hP, -, hD⟩ := hB9
                    rw [ht9] at hP
                    exact W.iret (v := ((ff_M_create u x1 ((-1) : Int32) x4).1)) hx hb hr (fun t ht hW => ⟨⟨((ff_M_create u x1 ((-1) : Int32) x4).1), (ff_M_create u x1 ((-1) : Int32) x4).2, rfl, hf.symm, pM_up hP hK hD ht hW⟩, hS.F ht⟩) hS.2.2 dd_M_make_138
                  · have hf := hf.trans (if_pos c39)
                    have hok := hok.1 c39
                    refine lv_bipush (v := (-8)) hx hb dd_M_make_125 (by decide) ?_
                    refine lv_goto (tgt := 138) hx hb dd_M_make_127 (by decide) ?_
                    exact W.iret (v := ((-8) : Int32)) hx hb hr (fun t ht hW => ⟨⟨((-8) : Int32), u, rfl, hf.symm, pM_up hP hK hD ht hW⟩, hS.F ht⟩) hS.2.2 dd_M_make_138
                · have hf := hf.trans (if_neg c38)
                  have hok := hok.2 c38
                  refine lv_iload_n hx hb dd_M_make_77 rfl (lv_at hl 1 rfl) ?_
                  refine lv_bipush (v := 19) hx hb dd_M_make_78 (by decide) ?_
                  refine lv_icmp_ne (tgt := 116) hx hb dd_M_make_80 (by decide) (fun c41 => ?_) (fun c41 => ?_)
                  · have hf := hf.trans (if_neg c41)
                    have hok := hok.2 c41
                    refine lv_aload_n hx hb dd_M_make_116 rfl (lv_at hl 0 rfl) ?_
                    refine va_get (D := (dC, dI)) (ci := 0) (v := .int (m_objs u)) (C := "ClassObjectMirrorModel") (T := TM) (N := 12) hx hb hts inM hown hK hP 0 rfl rfl 9 (by decide) (hts _ gw_310) (fun _ h9 => h9) rfl dd_M_make_117 ?_
                    refine lv_bipush (v := 80) hx hb dd_M_make_120 (by decide) ?_
                    refine lv_icmp_ne (tgt := 130) hx hb dd_M_make_122 (by decide) (fun c42 => ?_) (fun c42 => ?_)
                    · have hf := hf.trans (if_neg c42)
                      have hok := hok.2 c42
                      refine lv_aload_n hx hb dd_M_make_130 rfl (lv_at hl 0 rfl) ?_
                      refine lv_iload_n hx hb dd_M_make_131 rfl (lv_at hl 1 rfl) ?_
                      refine lv_iconst (v := (-1)) hx hb dd_M_make_132 (by decide) ?_
                      refine lv_iload hx hb dd_M_make_133 (lv_at hl 4 rfl) ?_
                      have n43 := hok
                      refine va_calli (va_runV (As := [.int x1, .int (-1), .int x4]) (rest := []) ⟨hx, hb, hml, hown, hts⟩ (mm_M_create l dC dI h a k u x1 ((-1) : Int32) x4 n43) (cwV 3 hts (gg_V gw_447 gw_449 gs_28 gw_2 gw_450) rfl rfl rfl (by decide +kernel) ⟨Nat.le_of_ble_eq_true rfl, Nat.le_of_ble_eq_true rfl⟩) ⟨pM_bl, va_recv hK hP (ci := 0) (q0 := 0) rfl rfl, fun U hU hW => ⟨rfl, pM_up hP hK hD hU hW⟩⟩ rfl rfl hl.1 rfl (lv_room (Nat.le_of_ble_eq_true rfl)) dd_M_make_135 ⟨Nat.zero_le _, Nat.zero_le _⟩) hS (fun q _ h => h) (fun q h => h) (fun r9 v9 t9 H locs ht9 hvm9 hw9 hB9 hz9 hk9 hS => ?_)
                      obtain ⟨rfl, rfl⟩ : r9 = (ff_M_create u x1 ((-1) : Int32) x4).1 ∧ v9 = (ff_M_create u x1 ((-1) : Int32) x4).2 := by rw [← hw9]; exact ⟨rfl, rfl⟩
                      obtain ⟨hP, -, hD⟩ := hB9
                      rw [ht9] at hP
                      exact W.iret (v := ((ff_M_create u x1 ((-1) : Int32) x4).1)) hx hb hr (fun t ht hW => ⟨⟨((ff_M_create u x1 ((-1) : Int32) x4).1), (ff_M_create u x1 ((-1) : Int32) x4).2, rfl, hf.symm, pM_up hP hK hD ht hW⟩, hS.F ht⟩) hS.2.2 dd_M_make_138
                    · have hf := hf.trans (if_pos c42)
                      have hok := hok.1 c42
                      refine lv_bipush (v := (-8)) hx hb dd_M_make_125 (by decide) ?_
                      refine lv_goto (tgt := 138) hx hb dd_M_make_127 (by decide) ?_
                      exact W.iret (v := ((-8) : Int32)) hx hb hr (fun t ht hW => ⟨⟨((-8) : Int32), u, rfl, hf.symm, pM_up hP hK hD ht hW⟩, hS.F ht⟩) hS.2.2 dd_M_make_138
                  · have hf := hf.trans (if_pos c41)
                    have hok := hok.1 c41
                    refine lv_aload_n hx hb dd_M_make_83 rfl (lv_at hl 0 rfl) ?_
                    refine va_get (D := (dC, dI)) (ci := 0) (v := .ref (a 4)) (C := "ClassObjectMirrorModel") (T := TM) (N := 12) hx hb hts inM hown hK hP 0 rfl rfl 5 (by decide) (hts _ gw_306) (fun _ h9 => h9) rfl dd_M_make_84 ?_
                    refine lv_iload hx hb dd_M_make_87 (lv_at hl 5 rfl) ?_
                    obtain ⟨n44, hok⟩ := hok
                    refine va_iald hx hb hK hP 5 4 rfl rfl n44 dd_M_make_89 ?_
                    refine lv_bipush (v := 19) hx hb dd_M_make_90 (by decide) ?_
                    refine lv_icmp_ne (tgt := 110) hx hb dd_M_make_92 (by decide) (fun c45 => ?_) (fun c45 => ?_)
                    · have hf := hf.trans (if_neg c45)
                      have hok := hok.2 c45
                      refine lv_iinc (v := x5 + 1) (lv' := [(5, .int (x5 + 1)), (0, .ref h), (1, .int x1), (2, .int x2), (3, .int x3), (4, .int x4)]) hx hb dd_M_make_110 hl (k := 5) rfl rfl (by decide) rfl (fun ls hl => ?_)
                      refine lv_goto (tgt := 68) hx hb dd_M_make_113 (by decide) ?_
                      exact ih u _ _ x1 x2 x3 x4 (x5 + 1) ls hok hf hP hD hS (lv_sub hl [1, 2, 3, 4, 5, 0] rfl)
                    · have hf := hf.trans (if_pos c45)
                      have hok := hok.1 c45
                      refine lv_aload_n hx hb dd_M_make_95 rfl (lv_at hl 0 rfl) ?_
                      refine va_get (D := (dC, dI)) (ci := 0) (v := .ref (a 6)) (C := "ClassObjectMirrorModel") (T := TM) (N := 12) hx hb hts inM hown hK hP 0 rfl rfl 7 (by decide) (hts _ gw_308) (fun _ h9 => h9) rfl dd_M_make_96 ?_
                      refine lv_iload hx hb dd_M_make_99 (lv_at hl 5 rfl) ?_
                      obtain ⟨n46, hok⟩ := hok
                      refine va_iald hx hb hK hP 7 6 rfl rfl n46 dd_M_make_101 ?_
                      refine lv_iload hx hb dd_M_make_102 (lv_at hl 4 rfl) ?_
                      refine lv_icmp_ne (tgt := 110) hx hb dd_M_make_104 (by decide) (fun c47 => ?_) (fun c47 => ?_)
                      · have hf := hf.trans (if_neg c47)
                        have hok := hok.2 c47
                        refine lv_iinc (v := x5 + 1) (lv' := [(5, .int (x5 + 1)), (0, .ref h), (1, .int x1), (2, .int x2), (3, .int x3), (4, .int x4)]) hx hb dd_M_make_110 hl (k := 5) rfl rfl (by decide) rfl (fun ls hl => ?_)
                        refine lv_goto (tgt := 68) hx hb dd_M_make_113 (by decide) ?_
                        exact ih u _ _ x1 x2 x3 x4 (x5 + 1) ls hok hf hP hD hS (lv_sub hl [1, 2, 3, 4, 5, 0] rfl)
                      · have hf := hf.trans (if_pos c47)
                        have hok := hok.1 c47
                        refine lv_iload hx hb dd_M_make_107 (lv_at hl 5 rfl) ?_
                        exact W.iret (v := x5) hx hb hr (fun t ht hW => ⟨⟨x5, u, rfl, hf.symm, pM_up hP hK hD ht hW⟩, hS.F ht⟩) hS.2.2 dd_M_make_109
            exact loop_68 400 u0 _ _ p0 p1 (1 : Int32) (((p1 - p1 / 3 * 3) + 3) - ((p1 - p1 / 3 * 3) + 3) / 3 * 3) (0 : Int32) ls hok hf hP hD hS (lv_sub hl [3, 4, 5, 2, 1, 0] rfl)
        · have hf := hf.trans (if_pos c26)
          have hok := hok.1 c26
          refine lv_iconst (v := (-1)) hx hb dd_M_make_44 (by decide) ?_
          exact W.iret (v := ((-1) : Int32)) hx hb hr (fun t ht hW => ⟨⟨((-1) : Int32), u0, rfl, hf.symm, pM_up hP hK hD ht hW⟩, hS.F ht⟩) hS.2.2 dd_M_make_45
      · have hf := hf.trans (if_neg c25)
        have hok := hok.2 c25
        refine lv_iload_n hx hb dd_M_make_22 rfl (lv_at hl 1 rfl) ?_
        refine lv_bipush (v := 16) hx hb dd_M_make_23 (by decide) ?_
        refine lv_icmp_lt (tgt := 38) hx hb dd_M_make_25 (by decide) (fun c48 => ?_) (fun c48 => ?_)
        · have hf := hf.trans (if_pos c48)
          have hok := hok.1 c48
          refine lv_iconst (v := 0) hx hb dd_M_make_38 (by decide) ?_
          refine lv_istore_n (lv' := [(3, .int 0), (0, .ref h), (1, .int p0), (2, .int p1)]) hx hb dd_M_make_39 rfl hl (by decide) rfl (fun ls hl => ?_)
          refine lv_iload_n hx hb dd_M_make_40 rfl (lv_at hl 0 rfl) ?_
          refine lv_if_ne (tgt := 46) hx hb dd_M_make_41 (by decide) (fun c49 => ?_) (fun c49 => ?_)
          · have hf := hf.trans (if_neg c49)
            have hok := hok.2 c49
            refine lv_iload_n hx hb dd_M_make_46 rfl (lv_at hl 2 rfl) ?_
            refine lv_bipush (v := 19) hx hb dd_M_make_47 (by decide) ?_
            refine lv_icmp_ne (tgt := 62) hx hb dd_M_make_49 (by decide) (fun c50 => ?_) (fun c50 => ?_)
            · have hf := hf.trans (if_neg c50)
              have hok := hok.2 c50
              refine lv_iload_n hx hb dd_M_make_62 rfl (lv_at hl 3 rfl) ?_
              refine lv_istore (lv' := [(4, .int p1), (3, .int 0), (0, .ref h), (1, .int p0), (2, .int p1)]) hx hb dd_M_make_63 hl (by decide) rfl (fun ls hl => ?_)
              refine lv_iconst (v := 0) hx hb dd_M_make_65 (by decide) ?_
              refine lv_istore (lv' := [(5, .int 0), (4, .int p1), (3, .int 0), (0, .ref h), (1, .int p0), (2, .int p1)]) hx hb dd_M_make_66 hl (by decide) rfl (fun ls hl => ?_)
              have loop_68 : ∀ (n : Nat) (u : SM) (H : Heap) (locs : List Loc) (x1 : Int32) (x2 : Int32) (x3 : Int32) (x4 : Int32) (x5 : Int32) (ls : Array Slot), okl_M_make_68 n u x1 x2 x3 x4 x5 → ff_M_make u0 p0 p1 = fl_M_make_68 n u x1 x2 x3 x4 x5 → va_P (dC, dI) cls_l (wM h a k u) H → va_D (aM h a) (wM h a k u) → va_S (aM h a) s.heap H locs → lv_has ls 6 [(0, .ref h), (1, .int x1), (2, .int x2), (3, .int x3), (4, .int x4), (5, .int x5)] → W p l e (headSpec ws_M_make rm_M_make).room s m ([.ref h, .int p0, .int p1] : List Value).toArray below meth c H locs 0 0 (MQ below (va_Qi (fun (r : Int32) (v : SM) => (r, v) = ff_M_make u0 p0 p1) (pM dC dI h a k) (aM h a)) ([.ref h, .int p0, .int p1] : List Value).toArray s 0 0 (aM h a)) (F0 m 68 ls []) := by
                intro n
                induction n with
                | zero => intro u H locs x1 x2 x3 x4 x5 ls hok; exact (show False from hok).elim
                | succ n ih =>
                  intro u H locs x1 x2 x3 x4 x5 ls hok hf hP hD hS hl
                  rw [fl_M_make_68] at hf
                  rw [okl_M_make_68] at hok
                  refine lv_iload hx hb dd_M_make_68 (lv_at hl 5 rfl) ?_
                  refine lv_aload_n hx hb dd_M_make_70 rfl (lv_at hl 0 rfl) ?_
                  refine va_get (D := (dC, dI)) (ci := 0) (v := .int (m_objs u)) (C := "ClassObjectMirrorModel") (T := TM) (N := 12) hx hb hts inM hown hK hP 0 rfl rfl 9 (by decide) (hts _ gw_310) (fun _ h9 => h9) rfl dd_M_make_71 ?_
                  refine lv_icmp_ge (tgt := 116) hx hb dd_M_make_74 (by decide) (fun c51 => ?_) (fun c51 => ?_)
                  · have hf := hf.trans (if_pos c51)
                    have hok := hok.1 c51
                    refine lv_aload_n hx hb dd_M_make_116 rfl (lv_at hl 0 rfl) ?_
                    refine va_get (D := (dC, dI)) (ci := 0) (v := .int (m_objs u)) (C := "ClassObjectMirrorModel") (T := TM) (N := 12) hx hb hts inM hown hK hP 0 rfl rfl 9 (by decide) (hts _ gw_310) (fun _ h9 => h9) rfl dd_M_make_117 ?_
                    refine lv_bipush (v := 80) hx hb dd_M_make_120 (by decide) ?_
                    refine lv_icmp_ne (tgt := 130) hx hb dd_M_make_122 (by decide) (fun c52 => ?_) (fun c52 => ?_)
                    · have hf := hf.trans (if_neg c52)
                      have hok := hok.2 c52
                      refine lv_aload_n hx hb dd_M_make_130 rfl (lv_at hl 0 rfl) ?_
                      refine lv_iload_n hx hb dd_M_make_131 rfl (lv_at hl 1 rfl) ?_
                      refine lv_iconst (v := (-1)) hx hb dd_M_make_132 (by decide) ?_
                      refine lv_iload hx hb dd_M_make_133 (lv_at hl 4 rfl) ?_
                      have n53 := hok
                      refine va_calli (va_runV (As := [.int x1, .int (-1), .int x4]) (rest := []) ⟨hx, hb, hml, hown, hts⟩ (mm_M_create l dC dI h a k u x1 ((-1) : Int32) x4 n53) (cwV 3 hts (gg_V gw_447 gw_449 gs_28 gw_2 gw_450) rfl rfl rfl (by decide +kernel) ⟨Nat.le_of_ble_eq_true rfl, Nat.le_of_ble_eq_true rfl⟩) ⟨pM_bl, va_recv hK hP (ci := 0) (q0 := 0) rfl rfl, fun U hU hW => ⟨rfl, pM_up hP hK hD hU hW⟩⟩ rfl rfl hl.1 rfl (lv_room (Nat.le_of_ble_eq_true rfl)) dd_M_make_135 ⟨Nat.zero_le _, Nat.zero_le _⟩) hS (fun q _ h => h) (fun q h => h) (fun r9 v9 t9 H locs ht9 hvm9 hw9 hB9 hz9 hk9 hS => ?_)
                      obtain ⟨rfl, rfl⟩ : r9 = (ff_M_create u x1 ((-1) : Int32) x4).1 ∧ v9 = (ff_M_create u x1 ((-1) : Int32) x4).2 := by rw [← hw9]; exact ⟨rfl, rfl⟩
                      obtain ⟨hP, -, hD⟩ := hB9
                      rw [ht9] at hP
                      exact W.iret (v := ((ff_M_create u x1 ((-1) : Int32) x4).1)) hx hb hr (fun t ht hW => ⟨⟨((ff_M_create u x1 ((-1) : Int32) x4).1), (ff_M_create u x1 ((-1) : Int32) x4).2, rfl, hf.symm, pM_up hP hK hD ht hW⟩, hS.F ht⟩) hS.2.2 dd_M_make_138
                    · have hf := hf.trans (if_pos c52)
                      have hok := hok.1 c52
                      refine lv_bipush (v := (-8)) hx hb dd_M_make_125 (by decide) ?_
                      refine lv_goto (tgt := 138) hx hb dd_M_make_127 (by decide) ?_
                      exact W.iret (v := ((-8) : Int32)) hx hb hr (fun t ht hW => ⟨⟨((-8) : Int32), u, rfl, hf.symm, pM_up hP hK hD ht hW⟩, hS.F ht⟩) hS.2.2 dd_M_make_138
                  · have hf := hf.trans (if_neg c51)
                    have hok := hok.2 c51
                    refine lv_iload_n hx hb dd_M_make_77 rfl (lv_at hl 1 rfl) ?_
                    refine lv_bipush (v := 19) hx hb dd_M_make_78 (by decide) ?_
                    refine lv_icmp_ne (tgt := 116) hx hb dd_M_make_80 (by decide) (fun c54 => ?_) (fun c54 => ?_)
                    · have hf := hf.trans (if_neg c54)
                      have hok := hok.2 c54
                      refine lv_aload_n hx hb dd_M_make_116 rfl (lv_at hl 0 rfl) ?_
                      refine va_get (D := (dC, dI)) (ci := 0) (v := .int (m_objs u)) (C := "ClassObjectMirrorModel") (T := TM) (N := 12) hx hb hts inM hown hK hP 0 rfl rfl 9 (by decide) (hts _ gw_310) (fun _ h9 => h9) rfl dd_M_make_117 ?_
                      refine lv_bipush (v := 80) hx hb dd_M_make_120 (by decide) ?_
                      refine lv_icmp_ne (tgt := 130) hx hb dd_M_make_122 (by decide) (fun c55 => ?_) (fun c55 => ?_)
                      · have hf := hf.trans (if_neg c55)
                        have hok := hok.2 c55
                        refine lv_aload_n hx hb dd_M_make_130 rfl (lv_at hl 0 rfl) ?_
                        refine lv_iload_n hx hb dd_M_make_131 rfl (lv_at hl 1 rfl) ?_
                        refine lv_iconst (v := (-1)) hx hb dd_M_make_132 (by decide) ?_
                        refine lv_iload hx hb dd_M_make_133 (lv_at hl 4 rfl) ?_
                        have n56 := hok
                        refine va_calli (va_runV (As := [.int x1, .int (-1), .int x4]) (rest := []) ⟨hx, hb, hml, hown, hts⟩ (mm_M_create l dC dI h a k u x1 ((-1) : Int32) x4 n56) (cwV 3 hts (gg_V gw_447 gw_449 gs_28 gw_2 gw_450) rfl rfl rfl (by decide +kernel) ⟨Nat.le_of_ble_eq_true rfl, Nat.le_of_ble_eq_true rfl⟩) ⟨pM_bl, va_recv hK hP (ci := 0) (q0 := 0) rfl rfl, fun U hU hW => ⟨rfl, pM_up hP hK hD hU hW⟩⟩ rfl rfl hl.1 rfl (lv_room (Nat.le_of_ble_eq_true rfl)) dd_M_make_135 ⟨Nat.zero_le _, Nat.zero_le _⟩) hS (fun q _ h => h) (fun q h => h) (fun r9 v9 t9 H locs ht9 hvm9 hw9 hB9 hz9 hk9 hS => ?_)
                        obtain ⟨rfl, rfl⟩ : r9 = (ff_M_create u x1 ((-1) : Int32) x4).1 ∧ v9 = (ff_M_create u x1 ((-1) : Int32) x4).2 := by rw [← hw9]; exact ⟨rfl, rfl⟩
                        obtain ⟨hP, -, hD⟩ := hB9
                        rw [ht9] at hP
                        exact W.iret (v := ((ff_M_create u x1 ((-1) : Int32) x4).1)) hx hb hr (fun t ht hW => ⟨⟨((ff_M_create u x1 ((-1) : Int32) x4).1), (ff_M_create u x1 ((-1) : Int32) x4).2, rfl, hf.symm, pM_up hP hK hD ht hW⟩, hS.F ht⟩) hS.2.2 dd_M_make_138
                      · have hf := hf.trans (if_pos c55)
                        have hok := hok.1 c55
                        refine lv_bipush (v := (-8)) hx hb dd_M_make_125 (by decide) ?_
                        refine lv_goto (tgt := 138) hx hb dd_M_make_127 (by decide) ?_
                        exact W.iret (v := ((-8) : Int32)) hx hb hr (fun t ht hW => ⟨⟨((-8) : Int32), u, rfl, hf.symm, pM_up hP hK hD ht hW⟩, hS.F ht⟩) hS.2.2 dd_M_make_138
                    · have hf := hf.trans (if_pos c54)
                      have hok := hok.1 c54
                      refine lv_aload_n hx hb dd_M_make_83 rfl (lv_at hl 0 rfl) ?_
                      refine va_get (D := (dC, dI)) (ci := 0) (v := .ref (a 4)) (C := "ClassObjectMirrorModel") (T := TM) (N := 12) hx hb hts inM hown hK hP 0 rfl rfl 5 (by decide) (hts _ gw_306) (fun _ h9 => h9) rfl dd_M_make_84 ?_
                      refine lv_iload hx hb dd_M_make_87 (lv_at hl 5 rfl) ?_
                      obtain ⟨n57, hok⟩ := hok
                      refine va_iald hx hb hK hP 5 4 rfl rfl n57 dd_M_make_89 ?_
                      refine lv_bipush (v := 19) hx hb dd_M_make_90 (by decide) ?_
                      refine lv_icmp_ne (tgt := 110) hx hb dd_M_make_92 (by decide) (fun c58 => ?_) (fun c58 => ?_)
                      · have hf := hf.trans (if_neg c58)
                        have hok := hok.2 c58
                        refine lv_iinc (v := x5 + 1) (lv' := [(5, .int (x5 + 1)), (0, .ref h), (1, .int x1), (2, .int x2), (3, .int x3), (4, .int x4)]) hx hb dd_M_make_110 hl (k := 5) rfl rfl (by decide) rfl (fun ls hl => ?_)
                        refine lv_goto (tgt := 68) hx hb dd_M_make_113 (by decide) ?_
                        exact ih u _ _ x1 x2 x3 x4 (x5 + 1) ls hok hf hP hD hS (lv_sub hl [1, 2, 3, 4, 5, 0] rfl)
                      · have hf := hf.trans (if_pos c58)
                        have hok := hok.1 c58
                        refine lv_aload_n hx hb dd_M_make_95 rfl (lv_at hl 0 rfl) ?_
                        refine va_get (D := (dC, dI)) (ci := 0) (v := .ref (a 6)) (C := "ClassObjectMirrorModel") (T := TM) (N := 12) hx hb hts inM hown hK hP 0 rfl rfl 7 (by decide) (hts _ gw_308) (fun _ h9 => h9) rfl dd_M_make_96 ?_
                        refine lv_iload hx hb dd_M_make_99 (lv_at hl 5 rfl) ?_
                        obtain ⟨n59, hok⟩ := hok
                        refine va_iald hx hb hK hP 7 6 rfl rfl n59 dd_M_make_101 ?_
                        refine lv_iload hx hb dd_M_make_102 (lv_at hl 4 rfl) ?_
                        refine lv_icmp_ne (tgt := 110) hx hb dd_M_make_104 (by decide) (fun c60 => ?_) (fun c60 => ?_)
                        · have hf := hf.trans (if_neg c60)
                          have hok := hok.2 c60
                          refine lv_iinc (v := x5 + 1) (lv' := [(5, .int (x5 + 1)), (0, .ref h), (1, .int x1), (2, .int x2), (3, .int x3), (4, .int x4)]) hx hb dd_M_make_110 hl (k := 5) rfl rfl (by decide) rfl (fun ls hl => ?_)
                          refine lv_goto (tgt := 68) hx hb dd_M_make_113 (by decide) ?_
                          exact ih u _ _ x1 x2 x3 x4 (x5 + 1) ls hok hf hP hD hS (lv_sub hl [1, 2, 3, 4, 5, 0] rfl)
                        · have hf := hf.trans (if_pos c60)
                          have hok := hok.1 c60
                          refine lv_iload hx hb dd_M_make_107 (lv_at hl 5 rfl) ?_
                          exact W.iret (v := x5) hx hb hr (fun t ht hW => ⟨⟨x5, u, rfl, hf.symm, pM_up hP hK hD ht hW⟩, hS.F ht⟩) hS.2.2 dd_M_make_109
              exact loop_68 400 u0 _ _ p0 p1 (0 : Int32) p1 (0 : Int32) ls hok hf hP hD hS (lv_sub hl [3, 4, 5, 2, 1, 0] rfl)
            · have hf := hf.trans (if_pos c50)
              have hok := hok.1 c50
              refine lv_iload_n hx hb dd_M_make_52 rfl (lv_at hl 3 rfl) ?_
              refine lv_iconst (v := 3) hx hb dd_M_make_53 (by decide) ?_
              refine lv_irem hx hb dd_M_make_54 (by decide) ?_
              refine lv_iconst (v := 3) hx hb dd_M_make_55 (by decide) ?_
              refine lv_iadd hx hb dd_M_make_56 ?_
              refine lv_iconst (v := 3) hx hb dd_M_make_57 (by decide) ?_
              refine lv_irem hx hb dd_M_make_58 (by decide) ?_
              refine lv_goto (tgt := 63) hx hb dd_M_make_59 (by decide) ?_
              refine lv_istore (lv' := [(4, .int (((p1 - p1 / 3 * 3) + 3) - ((p1 - p1 / 3 * 3) + 3) / 3 * 3)), (3, .int 0), (0, .ref h), (1, .int p0), (2, .int p1)]) hx hb dd_M_make_63 hl (by decide) rfl (fun ls hl => ?_)
              refine lv_iconst (v := 0) hx hb dd_M_make_65 (by decide) ?_
              refine lv_istore (lv' := [(5, .int 0), (4, .int (((p1 - p1 / 3 * 3) + 3) - ((p1 - p1 / 3 * 3) + 3) / 3 * 3)), (3, .int 0), (0, .ref h), (1, .int p0), (2, .int p1)]) hx hb dd_M_make_66 hl (by decide) rfl (fun ls hl => ?_)
              have loop_68 : ∀ (n : Nat) (u : SM) (H : Heap) (locs : List Loc) (x1 : Int32) (x2 : Int32) (x3 : Int32) (x4 : Int32) (x5 : Int32) (ls : Array Slot), okl_M_make_68 n u x1 x2 x3 x4 x5 → ff_M_make u0 p0 p1 = fl_M_make_68 n u x1 x2 x3 x4 x5 → va_P (dC, dI) cls_l (wM h a k u) H → va_D (aM h a) (wM h a k u) → va_S (aM h a) s.heap H locs → lv_has ls 6 [(0, .ref h), (1, .int x1), (2, .int x2), (3, .int x3), (4, .int x4), (5, .int x5)] → W p l e (headSpec ws_M_make rm_M_make).room s m ([.ref h, .int p0, .int p1] : List Value).toArray below meth c H locs 0 0 (MQ below (va_Qi (fun (r : Int32) (v : SM) => (r, v) = ff_M_make u0 p0 p1) (pM dC dI h a k) (aM h a)) ([.ref h, .int p0, .int p1] : List Value).toArray s 0 0 (aM h a)) (F0 m 68 ls []) := by
                intro n
                induction n with
                | zero => intro u H locs x1 x2 x3 x4 x5 ls hok; exact (show False from hok).elim
                | succ n ih =>
                  intro u H locs x1 x2 x3 x4 x5 ls hok hf hP hD hS hl
                  rw [fl_M_make_68] at hf
                  rw [okl_M_make_68] at hok
                  refine lv_iload hx hb dd_M_make_68 (lv_at hl 5 rfl) ?_
                  refine lv_aload_n hx hb dd_M_make_70 rfl (lv_at hl 0 rfl) ?_
                  refine va_get (D := (dC, dI)) (ci := 0) (v := .int (m_objs u)) (C := "ClassObjectMirrorModel") (T := TM) (N := 12) hx hb hts inM hown hK hP 0 rfl rfl 9 (by decide) (hts _ gw_310) (fun _ h9 => h9) rfl dd_M_make_71 ?_
                  refine lv_icmp_ge (tgt := 116) hx hb dd_M_make_74 (by decide) (fun c61 => ?_) (fun c61 => ?_)
                  · have hf := hf.trans (if_pos c61)
                    have hok := hok.1 c61
                    refine lv_aload_n hx hb dd_M_make_116 rfl (lv_at hl 0 rfl) ?_
                    refine va_get (D := (dC, dI)) (ci := 0) (v := .int (m_objs u)) (C := "ClassObjectMirrorModel") (T := TM) (N := 12) hx hb hts inM hown hK hP 0 rfl rfl 9 (by decide) (hts _ gw_310) (fun _ h9 => h9) rfl dd_M_make_117 ?_
                    refine lv_bipush (v := 80) hx hb dd_M_make_120 (by decide) ?_
                    refine lv_icmp_ne (tgt := 130) hx hb dd_M_make_122 (by decide) (fun c62 => ?_) (fun c62 => ?_)
                    · have hf := hf.trans (if_neg c62)
                      have hok := hok.2 c62
                      refine lv_aload_n hx hb dd_M_make_130 rfl (lv_at hl 0 rfl) ?_
                      refine lv_iload_n hx hb dd_M_make_131 rfl (lv_at hl 1 rfl) ?_
                      refine lv_iconst (v := (-1)) hx hb dd_M_make_132 (by decide) ?_
                      refine lv_iload hx hb dd_M_make_133 (lv_at hl 4 rfl) ?_
                      have n63 := hok
                      refine va_calli (va_runV (As := [.int x1, .int (-1), .int x4]) (rest := []) ⟨hx, hb, hml, hown, hts⟩ (mm_M_create l dC dI h a k u x1 ((-1) : Int32) x4 n63) (cwV 3 hts (gg_V gw_447 gw_449 gs_28 gw_2 gw_450) rfl rfl rfl (by decide +kernel) ⟨Nat.le_of_ble_eq_true rfl, Nat.le_of_ble_eq_true rfl⟩) ⟨pM_bl, va_recv hK hP (ci := 0) (q0 := 0) rfl rfl, fun U hU hW => ⟨rfl, pM_up hP hK hD hU hW⟩⟩ rfl rfl hl.1 rfl (lv_room (Nat.le_of_ble_eq_true rfl)) dd_M_make_135 ⟨Nat.zero_le _, Nat.zero_le _⟩) hS (fun q _ h => h) (fun q h => h) (fun r9 v9 t9 H locs ht9 hvm9 hw9 hB9 hz9 hk9 hS => ?_)
                      obtain ⟨rfl, rfl⟩ : r9 = (ff_M_create u x1 ((-1) : Int32) x4).1 ∧ v9 = (ff_M_create u x1 ((-1) : Int32) x4).2 := by rw [← hw9]; exact ⟨rfl, rfl⟩
                      obtain ⟨hP, -, hD⟩ := hB9
                      rw [ht9] at hP
                      exact W.iret (v := ((ff_M_create u x1 ((-1) : Int32) x4).1)) hx hb hr (fun t ht hW => ⟨⟨((ff_M_create u x1 ((-1) : Int32) x4).1), (ff_M_create u x1 ((-1) : Int32) x4).2, rfl, hf.symm, pM_up hP hK hD ht hW⟩, hS.F ht⟩) hS.2.2 dd_M_make_138
                    · have hf := hf.trans (if_pos c62)
                      have hok := hok.1 c62
                      refine lv_bipush (v := (-8)) hx hb dd_M_make_125 (by decide) ?_
                      refine lv_goto (tgt := 138) hx hb dd_M_make_127 (by decide) ?_
                      exact W.iret (v := ((-8) : Int32)) hx hb hr (fun t ht hW => ⟨⟨((-8) : Int32), u, rfl, hf.symm, pM_up hP hK hD ht hW⟩, hS.F ht⟩) hS.2.2 dd_M_make_138
                  · have hf := hf.trans (if_neg c61)
                    have hok := hok.2 c61
                    refine lv_iload_n hx hb dd_M_make_77 rfl (lv_at hl 1 rfl) ?_
                    refine lv_bipush (v := 19) hx hb dd_M_make_78 (by decide) ?_
                    refine lv_icmp_ne (tgt := 116) hx hb dd_M_make_80 (by decide) (fun c64 => ?_) (fun c64 => ?_)
                    · have hf := hf.trans (if_neg c64)
                      have hok := hok.2 c64
                      refine lv_aload_n hx hb dd_M_make_116 rfl (lv_at hl 0 rfl) ?_
                      refine va_get (D := (dC, dI)) (ci := 0) (v := .int (m_objs u)) (C := "ClassObjectMirrorModel") (T := TM) (N := 12) hx hb hts inM hown hK hP 0 rfl rfl 9 (by decide) (hts _ gw_310) (fun _ h9 => h9) rfl dd_M_make_117 ?_
                      refine lv_bipush (v := 80) hx hb dd_M_make_120 (by decide) ?_
                      refine lv_icmp_ne (tgt := 130) hx hb dd_M_make_122 (by decide) (fun c65 => ?_) (fun c65 => ?_)
                      · have hf := hf.trans (if_neg c65)
                        have hok := hok.2 c65
                        refine lv_aload_n hx hb dd_M_make_130 rfl (lv_at hl 0 rfl) ?_
                        refine lv_iload_n hx hb dd_M_make_131 rfl (lv_at hl 1 rfl) ?_
                        refine lv_iconst (v := (-1)) hx hb dd_M_make_132 (by decide) ?_
                        refine lv_iload hx hb dd_M_make_133 (lv_at hl 4 rfl) ?_
                        have n66 := hok
                        refine va_calli (va_runV (As := [.int x1, .int (-1), .int x4]) (rest := []) ⟨hx, hb, hml, hown, hts⟩ (mm_M_create l dC dI h a k u x1 ((-1) : Int32) x4 n66) (cwV 3 hts (gg_V gw_447 gw_449 gs_28 gw_2 gw_450) rfl rfl rfl (by decide +kernel) ⟨Nat.le_of_ble_eq_true rfl, Nat.le_of_ble_eq_true rfl⟩) ⟨pM_bl, va_recv hK hP (ci := 0) (q0 := 0) rfl rfl, fun U hU hW => ⟨rfl, pM_up hP hK hD hU hW⟩⟩ rfl rfl hl.1 rfl (lv_room (Nat.le_of_ble_eq_true rfl)) dd_M_make_135 ⟨Nat.zero_le _, Nat.zero_le _⟩) hS (fun q _ h => h) (fun q h => h) (fun r9 v9 t9 H locs ht9 hvm9 hw9 hB9 hz9 hk9 hS => ?_)
                        obtain ⟨rfl, rfl⟩ : r9 = (ff_M_create u x1 ((-1) : Int32) x4).1 ∧ v9 = (ff_M_create u x1 ((-1) : Int32) x4).2 := by rw [← hw9]; exact ⟨rfl, rfl⟩
                        obtain ⟨hP, -, hD⟩ := hB9
                        rw [ht9] at hP
                        exact W.iret (v := ((ff_M_create u x1 ((-1) : Int32) x4).1)) hx hb hr (fun t ht hW => ⟨⟨((ff_M_create u x1 ((-1) : Int32) x4).1), (ff_M_create u x1 ((-1) : Int32) x4).2, rfl, hf.symm, pM_up hP hK hD ht hW⟩, hS.F ht⟩) hS.2.2 dd_M_make_138
                      · have hf := hf.trans (if_pos c65)
                        have hok := hok.1 c65
                        refine lv_bipush (v := (-8)) hx hb dd_M_make_125 (by decide) ?_
                        refine lv_goto (tgt := 138) hx hb dd_M_make_127 (by decide) ?_
                        exact W.iret (v := ((-8) : Int32)) hx hb hr (fun t ht hW => ⟨⟨((-8) : Int32), u, rfl, hf.symm, pM_up hP hK hD ht hW⟩, hS.F ht⟩) hS.2.2 dd_M_make_138
                    · have hf := hf.trans (if_pos c64)
                      have hok := hok.1 c64
                      refine lv_aload_n hx hb dd_M_make_83 rfl (lv_at hl 0 rfl) ?_
                      refine va_get (D := (dC, dI)) (ci := 0) (v := .ref (a 4)) (C := "ClassObjectMirrorModel") (T := TM) (N := 12) hx hb hts inM hown hK hP 0 rfl rfl 5 (by decide) (hts _ gw_306) (fun _ h9 => h9) rfl dd_M_make_84 ?_
                      refine lv_iload hx hb dd_M_make_87 (lv_at hl 5 rfl) ?_
                      obtain ⟨n67, hok⟩ := hok
                      refine va_iald hx hb hK hP 5 4 rfl rfl n67 dd_M_make_89 ?_
                      refine lv_bipush (v := 19) hx hb dd_M_make_90 (by decide) ?_
                      refine lv_icmp_ne (tgt := 110) hx hb dd_M_make_92 (by decide) (fun c68 => ?_) (fun c68 => ?_)
                      · have hf := hf.trans (if_neg c68)
                        have hok := hok.2 c68
                        refine lv_iinc (v := x5 + 1) (lv' := [(5, .int (x5 + 1)), (0, .ref h), (1, .int x1), (2, .int x2), (3, .int x3), (4, .int x4)]) hx hb dd_M_make_110 hl (k := 5) rfl rfl (by decide) rfl (fun ls hl => ?_)
                        refine lv_goto (tgt := 68) hx hb dd_M_make_113 (by decide) ?_
                        exact ih u _ _ x1 x2 x3 x4 (x5 + 1) ls hok hf hP hD hS (lv_sub hl [1, 2, 3, 4, 5, 0] rfl)
                      · have hf := hf.trans (if_pos c68)
                        have hok := hok.1 c68
                        refine lv_aload_n hx hb dd_M_make_95 rfl (lv_at hl 0 rfl) ?_
                        refine va_get (D := (dC, dI)) (ci := 0) (v := .ref (a 6)) (C := "ClassObjectMirrorModel") (T := TM) (N := 12) hx hb hts inM hown hK hP 0 rfl rfl 7 (by decide) (hts _ gw_308) (fun _ h9 => h9) rfl dd_M_make_96 ?_
                        refine lv_iload hx hb dd_M_make_99 (lv_at hl 5 rfl) ?_
                        obtain ⟨n69, hok⟩ := hok
                        refine va_iald hx hb hK hP 7 6 rfl rfl n69 dd_M_make_101 ?_
                        refine lv_iload hx hb dd_M_make_102 (lv_at hl 4 rfl) ?_
                        refine lv_icmp_ne (tgt := 110) hx hb dd_M_make_104 (by decide) (fun c70 => ?_) (fun c70 => ?_)
                        · have hf := hf.trans (if_neg c70)
                          have hok := hok.2 c70
                          refine lv_iinc (v := x5 + 1) (lv' := [(5, .int (x5 + 1)), (0, .ref h), (1, .int x1), (2, .int x2), (3, .int x3), (4, .int x4)]) hx hb dd_M_make_110 hl (k := 5) rfl rfl (by decide) rfl (fun ls hl => ?_)
                          refine lv_goto (tgt := 68) hx hb dd_M_make_113 (by decide) ?_
                          exact ih u _ _ x1 x2 x3 x4 (x5 + 1) ls hok hf hP hD hS (lv_sub hl [1, 2, 3, 4, 5, 0] rfl)
                        · have hf := hf.trans (if_pos c70)
                          have hok := hok.1 c70
                          refine lv_iload hx hb dd_M_make_107 (lv_at hl 5 rfl) ?_
                          exact W.iret (v := x5) hx hb hr (fun t ht hW => ⟨⟨x5, u, rfl, hf.symm, pM_up hP hK hD ht hW⟩, hS.F ht⟩) hS.2.2 dd_M_make_109
              exact loop_68 400 u0 _ _ p0 p1 (0 : Int32) (((p1 - p1 / 3 * 3) + 3) - ((p1 - p1 / 3 * 3) + 3) / 3 * 3) (0 : Int32) ls hok hf hP hD hS (lv_sub hl [3, 4, 5, 2, 1, 0] rfl)
          · have hf := hf.trans (if_pos c49)
            have hok := hok.1 c49
            refine lv_iconst (v := (-1)) hx hb dd_M_make_44 (by decide) ?_
            exact W.iret (v := ((-1) : Int32)) hx hb hr (fun t ht hW => ⟨⟨((-1) : Int32), u0, rfl, hf.symm, pM_up hP hK hD ht hW⟩, hS.F ht⟩) hS.2.2 dd_M_make_45
        · have hf := hf.trans (if_neg c48)
          have hok := hok.2 c48
          refine lv_iload_n hx hb dd_M_make_28 rfl (lv_at hl 1 rfl) ?_
          refine lv_bipush (v := 21) hx hb dd_M_make_29 (by decide) ?_
          refine lv_icmp_gt (tgt := 38) hx hb dd_M_make_31 (by decide) (fun c71 => ?_) (fun c71 => ?_)
          · have hf := hf.trans (if_pos c71)
            have hok := hok.1 c71
            refine lv_iconst (v := 0) hx hb dd_M_make_38 (by decide) ?_
            refine lv_istore_n (lv' := [(3, .int 0), (0, .ref h), (1, .int p0), (2, .int p1)]) hx hb dd_M_make_39 rfl hl (by decide) rfl (fun ls hl => ?_)
            refine lv_iload_n hx hb dd_M_make_40 rfl (lv_at hl 0 rfl) ?_
            refine lv_if_ne (tgt := 46) hx hb dd_M_make_41 (by decide) (fun c72 => ?_) (fun c72 => ?_)
            · have hf := hf.trans (if_neg c72)
              have hok := hok.2 c72
              refine lv_iload_n hx hb dd_M_make_46 rfl (lv_at hl 2 rfl) ?_
              refine lv_bipush (v := 19) hx hb dd_M_make_47 (by decide) ?_
              refine lv_icmp_ne (tgt := 62) hx hb dd_M_make_49 (by decide) (fun c73 => ?_) (fun c73 => ?_)
              · have hf := hf.trans (if_neg c73)
                have hok := hok.2 c73
                refine lv_iload_n hx hb dd_M_make_62 rfl (lv_at hl 3 rfl) ?_
                refine lv_istore (lv' := [(4, .int p1), (3, .int 0), (0, .ref h), (1, .int p0), (2, .int p1)]) hx hb dd_M_make_63 hl (by decide) rfl (fun ls hl => ?_)
                refine lv_iconst (v := 0) hx hb dd_M_make_65 (by decide) ?_
                refine lv_istore (lv' := [(5, .int 0), (4, .int p1), (3, .int 0), (0, .ref h), (1, .int p0), (2, .int p1)]) hx hb dd_M_make_66 hl (by decide) rfl (fun ls hl => ?_)
                have loop_68 : ∀ (n : Nat) (u : SM) (H : Heap) (locs : List Loc) (x1 : Int32) (x2 : Int32) (x3 : Int32) (x4 : Int32) (x5 : Int32) (ls : Array Slot), okl_M_make_68 n u x1 x2 x3 x4 x5 → ff_M_make u0 p0 p1 = fl_M_make_68 n u x1 x2 x3 x4 x5 → va_P (dC, dI) cls_l (wM h a k u) H → va_D (aM h a) (wM h a k u) → va_S (aM h a) s.heap H locs → lv_has ls 6 [(0, .ref h), (1, .int x1), (2, .int x2), (3, .int x3), (4, .int x4), (5, .int x5)] → W p l e (headSpec ws_M_make rm_M_make).room s m ([.ref h, .int p0, .int p1] : List Value).toArray below meth c H locs 0 0 (MQ below (va_Qi (fun (r : Int32) (v : SM) => (r, v) = ff_M_make u0 p0 p1) (pM dC dI h a k) (aM h a)) ([.ref h, .int p0, .int p1] : List Value).toArray s 0 0 (aM h a)) (F0 m 68 ls []) := by
                  intro n
                  induction n with
                  | zero => intro u H locs x1 x2 x3 x4 x5 ls hok; exact (show False from hok).elim
                  | succ n ih =>
                    intro u H locs x1 x2 x3 x4 x5 ls hok hf hP hD hS hl
                    rw [fl_M_make_68] at hf
                    rw [okl_M_make_68] at hok
                    refine lv_iload hx hb dd_M_make_68 (lv_at hl 5 rfl) ?_
                    refine lv_aload_n hx hb dd_M_make_70 rfl (lv_at hl 0 rfl) ?_
                    refine va_get (D := (dC, dI)) (ci := 0) (v := .int (m_objs u)) (C := "ClassObjectMirrorModel") (T := TM) (N := 12) hx hb hts inM hown hK hP 0 rfl rfl 9 (by decide) (hts _ gw_310) (fun _ h9 => h9) rfl dd_M_make_71 ?_
                    refine lv_icmp_ge (tgt := 116) hx hb dd_M_make_74 (by decide) (fun c74 => ?_) (fun c74 => ?_)
                    · have hf := hf.trans (if_pos c74)
                      have hok := hok.1 c74
                      refine lv_aload_n hx hb dd_M_make_116 rfl (lv_at hl 0 rfl) ?_
                      refine va_get (D := (dC, dI)) (ci := 0) (v := .int (m_objs u)) (C := "ClassObjectMirrorModel") (T := TM) (N := 12) hx hb hts inM hown hK hP 0 rfl rfl 9 (by decide) (hts _ gw_310) (fun _ h9 => h9) rfl dd_M_make_117 ?_
                      refine lv_bipush (v := 80) hx hb dd_M_make_120 (by decide) ?_
                      refine lv_icmp_ne (tgt := 130) hx hb dd_M_make_122 (by decide) (fun c75 => ?_) (fun c75 => ?_)
                      · have hf := hf.trans (if_neg c75)
                        have hok := hok.2 c75
                        refine lv_aload_n hx hb dd_M_make_130 rfl (lv_at hl 0 rfl) ?_
                        refine lv_iload_n hx hb dd_M_make_131 rfl (lv_at hl 1 rfl) ?_
                        refine lv_iconst (v := (-1)) hx hb dd_M_make_132 (by decide) ?_
                        refine lv_iload hx hb dd_M_make_133 (lv_at hl 4 rfl) ?_
                        have n76 := hok
                        refine va_calli (va_runV (As := [.int x1, .int (-1), .int x4]) (rest := []) ⟨hx, hb, hml, hown, hts⟩ (mm_M_create l dC dI h a k u x1 ((-1) : Int32) x4 n76) (cwV 3 hts (gg_V gw_447 gw_449 gs_28 gw_2 gw_450) rfl rfl rfl (by decide +kernel) ⟨Nat.le_of_ble_eq_true rfl, Nat.le_of_ble_eq_true rfl⟩) ⟨pM_bl, va_recv hK hP (ci := 0) (q0 := 0) rfl rfl, fun U hU hW => ⟨rfl, pM_up hP hK hD hU hW⟩⟩ rfl rfl hl.1 rfl (lv_room (Nat.le_of_ble_eq_true rfl)) dd_M_make_135 ⟨Nat.zero_le _, Nat.zero_le _⟩) hS (fun q _ h => h) (fun q h => h) (fun r9 v9 t9 H locs ht9 hvm9 hw9 hB9 hz9 hk9 hS => ?_)
                        obtain ⟨rfl, rfl⟩ : r9 = (ff_M_create u x1 ((-1) : Int32) x4).1 ∧ v9 = (ff_M_create u x1 ((-1) : Int32) x4).2 := by rw [← hw9]; exact ⟨rfl, rfl⟩
                        obtain ⟨hP, -, hD⟩ := hB9
                        rw [ht9] at hP
                        exact W.iret (v := ((ff_M_create u x1 ((-1) : Int32) x4).1)) hx hb hr (fun t ht hW => ⟨⟨((ff_M_create u x1 ((-1) : Int32) x4).1), (ff_M_create u x1 ((-1) : Int32) x4).2, rfl, hf.symm, pM_up hP hK hD ht hW⟩, hS.F ht⟩) hS.2.2 dd_M_make_138
                      · have hf := hf.trans (if_pos c75)
                        have hok := hok.1 c75
                        refine lv_bipush (v := (-8)) hx hb dd_M_make_125 (by decide) ?_
                        refine lv_goto (tgt := 138) hx hb dd_M_make_127 (by decide) ?_
                        exact W.iret (v := ((-8) : Int32)) hx hb hr (fun t ht hW => ⟨⟨((-8) : Int32), u, rfl, hf.symm, pM_up hP hK hD ht hW⟩, hS.F ht⟩) hS.2.2 dd_M_make_138
                    · have hf := hf.trans (if_neg c74)
                      have hok := hok.2 c74
                      refine lv_iload_n hx hb dd_M_make_77 rfl (lv_at hl 1 rfl) ?_
                      refine lv_bipush (v := 19) hx hb dd_M_make_78 (by decide) ?_
                      refine lv_icmp_ne (tgt := 116) hx hb dd_M_make_80 (by decide) (fun c77 => ?_) (fun c77 => ?_)
                      · have hf := hf.trans (if_neg c77)
                        have hok := hok.2 c77
                        refine lv_aload_n hx hb dd_M_make_116 rfl (lv_at hl 0 rfl) ?_
                        refine va_get (D := (dC, dI)) (ci := 0) (v := .int (m_objs u)) (C := "ClassObjectMirrorModel") (T := TM) (N := 12) hx hb hts inM hown hK hP 0 rfl rfl 9 (by decide) (hts _ gw_310) (fun _ h9 => h9) rfl dd_M_make_117 ?_
                        refine lv_bipush (v := 80) hx hb dd_M_make_120 (by decide) ?_
                        refine lv_icmp_ne (tgt := 130) hx hb dd_M_make_122 (by decide) (fun c78 => ?_) (fun c78 => ?_)
                        · have hf := hf.trans (if_neg c78)
                          have hok := hok.2 c78
                          refine lv_aload_n hx hb dd_M_make_130 rfl (lv_at hl 0 rfl) ?_
                          refine lv_iload_n hx hb dd_M_make_131 rfl (lv_at hl 1 rfl) ?_
                          refine lv_iconst (v := (-1)) hx hb dd_M_make_132 (by decide) ?_
                          refine lv_iload hx hb dd_M_make_133 (lv_at hl 4 rfl) ?_
                          have n79 := hok
                          refine va_calli (va_runV (As := [.int x1, .int (-1), .int x4]) (rest := []) ⟨hx, hb, hml, hown, hts⟩ (mm_M_create l dC dI h a k u x1 ((-1) : Int32) x4 n79) (cwV 3 hts (gg_V gw_447 gw_449 gs_28 gw_2 gw_450) rfl rfl rfl (by decide +kernel) ⟨Nat.le_of_ble_eq_true rfl, Nat.le_of_ble_eq_true rfl⟩) ⟨pM_bl, va_recv hK hP (ci := 0) (q0 := 0) rfl rfl, fun U hU hW => ⟨rfl, pM_up hP hK hD hU hW⟩⟩ rfl rfl hl.1 rfl (lv_room (Nat.le_of_ble_eq_true rfl)) dd_M_make_135 ⟨Nat.zero_le _, Nat.zero_le _⟩) hS (fun q _ h => h) (fun q h => h) (fun r9 v9 t9 H locs ht9 hvm9 hw9 hB9 hz9 hk9 hS => ?_)
                          obtain ⟨rfl, rfl⟩ : r9 = (ff_M_create u x1 ((-1) : Int32) x4).1 ∧ v9 = (ff_M_create u x1 ((-1) : Int32) x4).2 := by rw [← hw9]; exact ⟨rfl, rfl⟩
                          obtain ⟨hP, -, hD⟩ := hB9
                          rw [ht9] at hP
                          exact W.iret (v := ((ff_M_create u x1 ((-1) : Int32) x4).1)) hx hb hr (fun t ht hW => ⟨⟨((ff_M_create u x1 ((-1) : Int32) x4).1), (ff_M_create u x1 ((-1) : Int32) x4).2, rfl, hf.symm, pM_up hP hK hD ht hW⟩, hS.F ht⟩) hS.2.2 dd_M_make_138
                        · have hf := hf.trans (if_pos c78)
                          have hok := hok.1 c78
                          refine lv_bipush (v := (-8)) hx hb dd_M_make_125 (by decide) ?_
                          refine lv_goto (tgt := 138) hx hb dd_M_make_127 (by decide) ?_
                          exact W.iret (v := ((-8) : Int32)) hx hb hr (fun t ht hW => ⟨⟨((-8) : Int32), u, rfl, hf.symm, pM_up hP hK hD ht hW⟩, hS.F ht⟩) hS.2.2 dd_M_make_138
                      · have hf := hf.trans (if_pos c77)
                        have hok := hok.1 c77
                        refine lv_aload_n hx hb dd_M_make_83 rfl (lv_at hl 0 rfl) ?_
                        refine va_get (D := (dC, dI)) (ci := 0) (v := .ref (a 4)) (C := "ClassObjectMirrorModel") (T := TM) (N := 12) hx hb hts inM hown hK hP 0 rfl rfl 5 (by decide) (hts _ gw_306) (fun _ h9 => h9) rfl dd_M_make_84 ?_
                        refine lv_iload hx hb dd_M_make_87 (lv_at hl 5 rfl) ?_
                        obtain ⟨n80, hok⟩ := hok
                        refine va_iald hx hb hK hP 5 4 rfl rfl n80 dd_M_make_89 ?_
                        refine lv_bipush (v := 19) hx hb dd_M_make_90 (by decide) ?_
                        refine lv_icmp_ne (tgt := 110) hx hb dd_M_make_92 (by decide) (fun c81 => ?_) (fun c81 => ?_)
                        · have hf := hf.trans (if_neg c81)
                          have hok := hok.2 c81
                          refine lv_iinc (v := x5 + 1) (lv' := [(5, .int (x5 + 1)), (0, .ref h), (1, .int x1), (2, .int x2), (3, .int x3), (4, .int x4)]) hx hb dd_M_make_110 hl (k := 5) rfl rfl (by decide) rfl (fun ls hl => ?_)
                          refine lv_goto (tgt := 68) hx hb dd_M_make_113 (by decide) ?_
                          exact ih u _ _ x1 x2 x3 x4 (x5 + 1) ls hok hf hP hD hS (lv_sub hl [1, 2, 3, 4, 5, 0] rfl)
                        · have hf := hf.trans (if_pos c81)
                          have hok := hok.1 c81
                          refine lv_aload_n hx hb dd_M_make_95 rfl (lv_at hl 0 rfl) ?_
                          refine va_get (D := (dC, dI)) (ci := 0) (v := .ref (a 6)) (C := "ClassObjectMirrorModel") (T := TM) (N := 12) hx hb hts inM hown hK hP 0 rfl rfl 7 (by decide) (hts _ gw_308) (fun _ h9 => h9) rfl dd_M_make_96 ?_
                          refine lv_iload hx hb dd_M_make_99 (lv_at hl 5 rfl) ?_
                          obtain ⟨n82, hok⟩ := hok
                          refine va_iald hx hb hK hP 7 6 rfl rfl n82 dd_M_make_101 ?_
                          refine lv_iload hx hb dd_M_make_102 (lv_at hl 4 rfl) ?_
                          refine lv_icmp_ne (tgt := 110) hx hb dd_M_make_104 (by decide) (fun c83 => ?_) (fun c83 => ?_)
                          · have hf := hf.trans (if_neg c83)
                            have hok := hok.2 c83
                            refine lv_iinc (v := x5 + 1) (lv' := [(5, .int (x5 + 1)), (0, .ref h), (1, .int x1), (2, .int x2), (3, .int x3), (4, .int x4)]) hx hb dd_M_make_110 hl (k := 5) rfl rfl (by decide) rfl (fun ls hl => ?_)
                            refine lv_goto (tgt := 68) hx hb dd_M_make_113 (by decide) ?_
                            exact ih u _ _ x1 x2 x3 x4 (x5 + 1) ls hok hf hP hD hS (lv_sub hl [1, 2, 3, 4, 5, 0] rfl)
                          · have hf := hf.trans (if_pos c83)
                            have hok := hok.1 c83
                            refine lv_iload hx hb dd_M_make_107 (lv_at hl 5 rfl) ?_
                            exact W.iret (v := x5) hx hb hr (fun t ht hW => ⟨⟨x5, u, rfl, hf.symm, pM_up hP hK hD ht hW⟩, hS.F ht⟩) hS.2.2 dd_M_make_109
                exact loop_68 400 u0 _ _ p0 p1 (0 : Int32) p1 (0 : Int32) ls hok hf hP hD hS (lv_sub hl [3, 4, 5, 2, 1, 0] rfl)
              · have hf := hf.trans (if_pos c73)
                have hok := hok.1 c73
                refine lv_iload_n hx hb dd_M_make_52 rfl (lv_at hl 3 rfl) ?_
                refine lv_iconst (v := 3) hx hb dd_M_make_53 (by decide) ?_
                refine lv_irem hx hb dd_M_make_54 (by decide) ?_
                refine lv_iconst (v := 3) hx hb dd_M_make_55 (by decide) ?_
                refine lv_iadd hx hb dd_M_make_56 ?_
                refine lv_iconst (v := 3) hx hb dd_M_make_57 (by decide) ?_
                refine lv_irem hx hb dd_M_make_58 (by decide) ?_
                refine lv_goto (tgt := 63) hx hb dd_M_make_59 (by decide) ?_
                refine lv_istore (lv' := [(4, .int (((p1 - p1 / 3 * 3) + 3) - ((p1 - p1 / 3 * 3) + 3) / 3 * 3)), (3, .int 0), (0, .ref h), (1, .int p0), (2, .int p1)]) hx hb dd_M_make_63 hl (by decide) rfl (fun ls hl => ?_)
                refine lv_iconst (v := 0) hx hb dd_M_make_65 (by decide) ?_
                refine lv_istore (lv' := [(5, .int 0), (4, .int (((p1 - p1 / 3 * 3) + 3) - ((p1 - p1 / 3 * 3) + 3) / 3 * 3)), (3, .int 0), (0, .ref h), (1, .int p0), (2, .int p1)]) hx hb dd_M_make_66 hl (by decide) rfl (fun ls hl => ?_)
                have loop_68 : ∀ (n : Nat) (u : SM) (H : Heap) (locs : List Loc) (x1 : Int32) (x2 : Int32) (x3 : Int32) (x4 : Int32) (x5 : Int32) (ls : Array Slot), okl_M_make_68 n u x1 x2 x3 x4 x5 → ff_M_make u0 p0 p1 = fl_M_make_68 n u x1 x2 x3 x4 x5 → va_P (dC, dI) cls_l (wM h a k u) H → va_D (aM h a) (wM h a k u) → va_S (aM h a) s.heap H locs → lv_has ls 6 [(0, .ref h), (1, .int x1), (2, .int x2), (3, .int x3), (4, .int x4), (5, .int x5)] → W p l e (headSpec ws_M_make rm_M_make).room s m ([.ref h, .int p0, .int p1] : List Value).toArray below meth c H locs 0 0 (MQ below (va_Qi (fun (r : Int32) (v : SM) => (r, v) = ff_M_make u0 p0 p1) (pM dC dI h a k) (aM h a)) ([.ref h, .int p0, .int p1] : List Value).toArray s 0 0 (aM h a)) (F0 m 68 ls []) := by
                  intro n
                  induction n with
                  | zero => intro u H locs x1 x2 x3 x4 x5 ls hok; exact (show False from hok).elim
                  | succ n ih =>
                    intro u H locs x1 x2 x3 x4 x5 ls hok hf hP hD hS hl
                    rw [fl_M_make_68] at hf
                    rw [okl_M_make_68] at hok
                    refine lv_iload hx hb dd_M_make_68 (lv_at hl 5 rfl) ?_
                    refine lv_aload_n hx hb dd_M_make_70 rfl (lv_at hl 0 rfl) ?_
                    refine va_get (D := (dC, dI)) (ci := 0) (v := .int (m_objs u)) (C := "ClassObjectMirrorModel") (T := TM) (N := 12) hx hb hts inM hown hK hP 0 rfl rfl 9 (by decide) (hts _ gw_310) (fun _ h9 => h9) rfl dd_M_make_71 ?_
                    refine lv_icmp_ge (tgt := 116) hx hb dd_M_make_74 (by decide) (fun c84 => ?_) (fun c84 => ?_)
                    · have hf := hf.trans (if_pos c84)
                      have hok := hok.1 c84
                      refine lv_aload_n hx hb dd_M_make_116 rfl (lv_at hl 0 rfl) ?_
                      refine va_get (D := (dC, dI)) (ci := 0) (v := .int (m_objs u)) (C := "ClassObjectMirrorModel") (T := TM) (N := 12) hx hb hts inM hown hK hP 0 rfl rfl 9 (by decide) (hts _ gw_310) (fun _ h9 => h9) rfl dd_M_make_117 ?_
                      refine lv_bipush (v := 80) hx hb dd_M_make_120 (by decide) ?_
                      refine lv_icmp_ne (tgt := 130) hx hb dd_M_make_122 (by decide) (fun c85 => ?_) (fun c85 => ?_)
                      · have hf := hf.trans (if_neg c85)
                        have hok := hok.2 c85
                        refine lv_aload_n hx hb dd_M_make_130 rfl (lv_at hl 0 rfl) ?_
                        refine lv_iload_n hx hb dd_M_make_131 rfl (lv_at hl 1 rfl) ?_
                        refine lv_iconst (v := (-1)) hx hb dd_M_make_132 (by decide) ?_
                        refine lv_iload hx hb dd_M_make_133 (lv_at hl 4 rfl) ?_
                        have n86 := hok
                        refine va_calli (va_runV (As := [.int x1, .int (-1), .int x4]) (rest := []) ⟨hx, hb, hml, hown, hts⟩ (mm_M_create l dC dI h a k u x1 ((-1) : Int32) x4 n86) (cwV 3 hts (gg_V gw_447 gw_449 gs_28 gw_2 gw_450) rfl rfl rfl (by decide +kernel) ⟨Nat.le_of_ble_eq_true rfl, Nat.le_of_ble_eq_true rfl⟩) ⟨pM_bl, va_recv hK hP (ci := 0) (q0 := 0) rfl rfl, fun U hU hW => ⟨rfl, pM_up hP hK hD hU hW⟩⟩ rfl rfl hl.1 rfl (lv_room (Nat.le_of_ble_eq_true rfl)) dd_M_make_135 ⟨Nat.zero_le _, Nat.zero_le _⟩) hS (fun q _ h => h) (fun q h => h) (fun r9 v9 t9 H locs ht9 hvm9 hw9 hB9 hz9 hk9 hS => ?_)
                        obtain ⟨rfl, rfl⟩ : r9 = (ff_M_create u x1 ((-1) : Int32) x4).1 ∧ v9 = (ff_M_create u x1 ((-1) : Int32) x4).2 := by rw [← hw9]; exact ⟨rfl, rfl⟩
                        obtain ⟨hP, -, hD⟩ := hB9
                        rw [ht9] at hP
                        exact W.iret (v := ((ff_M_create u x1 ((-1) : Int32) x4).1)) hx hb hr (fun t ht hW => ⟨⟨((ff_M_create u x1 ((-1) : Int32) x4).1), (ff_M_create u x1 ((-1) : Int32) x4).2, rfl, hf.symm, pM_up hP hK hD ht hW⟩, hS.F ht⟩) hS.2.2 dd_M_make_138
                      · have hf := hf.trans (if_pos c85)
                        have hok := hok.1 c85
                        refine lv_bipush (v := (-8)) hx hb dd_M_make_125 (by decide) ?_
                        refine lv_goto (tgt := 138) hx hb dd_M_make_127 (by decide) ?_
                        exact W.iret (v := ((-8) : Int32)) hx hb hr (fun t ht hW => ⟨⟨((-8) : Int32), u, rfl, hf.symm, pM_up hP hK hD ht hW⟩, hS.F ht⟩) hS.2.2 dd_M_make_138
                    · have hf := hf.trans (if_neg c84)
                      have hok := hok.2 c84
                      refine lv_iload_n hx hb dd_M_make_77 rfl (lv_at hl 1 rfl) ?_
                      refine lv_bipush (v := 19) hx hb dd_M_make_78 (by decide) ?_
                      refine lv_icmp_ne (tgt := 116) hx hb dd_M_make_80 (by decide) (fun c87 => ?_) (fun c87 => ?_)
                      · have hf := hf.trans (if_neg c87)
                        have hok := hok.2 c87
                        refine lv_aload_n hx hb dd_M_make_116 rfl (lv_at hl 0 rfl) ?_
                        refine va_get (D := (dC, dI)) (ci := 0) (v := .int (m_objs u)) (C := "ClassObjectMirrorModel") (T := TM) (N := 12) hx hb hts inM hown hK hP 0 rfl rfl 9 (by decide) (hts _ gw_310) (fun _ h9 => h9) rfl dd_M_make_117 ?_
                        refine lv_bipush (v := 80) hx hb dd_M_make_120 (by decide) ?_
                        refine lv_icmp_ne (tgt := 130) hx hb dd_M_make_122 (by decide) (fun c88 => ?_) (fun c88 => ?_)
                        · have hf := hf.trans (if_neg c88)
                          have hok := hok.2 c88
                          refine lv_aload_n hx hb dd_M_make_130 rfl (lv_at hl 0 rfl) ?_
                          refine lv_iload_n hx hb dd_M_make_131 rfl (lv_at hl 1 rfl) ?_
                          refine lv_iconst (v := (-1)) hx hb dd_M_make_132 (by decide) ?_
                          refine lv_iload hx hb dd_M_make_133 (lv_at hl 4 rfl) ?_
                          have n89 := hok
                          refine va_calli (va_runV (As := [.int x1, .int (-1), .int x4]) (rest := []) ⟨hx, hb, hml, hown, hts⟩ (mm_M_create l dC dI h a k u x1 ((-1) : Int32) x4 n89) (cwV 3 hts (gg_V gw_447 gw_449 gs_28 gw_2 gw_450) rfl rfl rfl (by decide +kernel) ⟨Nat.le_of_ble_eq_true rfl, Nat.le_of_ble_eq_true rfl⟩) ⟨pM_bl, va_recv hK hP (ci := 0) (q0 := 0) rfl rfl, fun U hU hW => ⟨rfl, pM_up hP hK hD hU hW⟩⟩ rfl rfl hl.1 rfl (lv_room (Nat.le_of_ble_eq_true rfl)) dd_M_make_135 ⟨Nat.zero_le _, Nat.zero_le _⟩) hS (fun q _ h => h) (fun q h => h) (fun r9 v9 t9 H locs ht9 hvm9 hw9 hB9 hz9 hk9 hS => ?_)
                          obtain ⟨rfl, rfl⟩ : r9 = (ff_M_create u x1 ((-1) : Int32) x4).1 ∧ v9 = (ff_M_create u x1 ((-1) : Int32) x4).2 := by rw [← hw9]; exact ⟨rfl, rfl⟩
                          obtain ⟨hP, -, hD⟩ := hB9
                          rw [ht9] at hP
                          exact W.iret (v := ((ff_M_create u x1 ((-1) : Int32) x4).1)) hx hb hr (fun t ht hW => ⟨⟨((ff_M_create u x1 ((-1) : Int32) x4).1), (ff_M_create u x1 ((-1) : Int32) x4).2, rfl, hf.symm, pM_up hP hK hD ht hW⟩, hS.F ht⟩) hS.2.2 dd_M_make_138
                        · have hf := hf.trans (if_pos c88)
                          have hok := hok.1 c88
                          refine lv_bipush (v := (-8)) hx hb dd_M_make_125 (by decide) ?_
                          refine lv_goto (tgt := 138) hx hb dd_M_make_127 (by decide) ?_
                          exact W.iret (v := ((-8) : Int32)) hx hb hr (fun t ht hW => ⟨⟨((-8) : Int32), u, rfl, hf.symm, pM_up hP hK hD ht hW⟩, hS.F ht⟩) hS.2.2 dd_M_make_138
                      · have hf := hf.trans (if_pos c87)
                        have hok := hok.1 c87
                        refine lv_aload_n hx hb dd_M_make_83 rfl (lv_at hl 0 rfl) ?_
                        refine va_get (D := (dC, dI)) (ci := 0) (v := .ref (a 4)) (C := "ClassObjectMirrorModel") (T := TM) (N := 12) hx hb hts inM hown hK hP 0 rfl rfl 5 (by decide) (hts _ gw_306) (fun _ h9 => h9) rfl dd_M_make_84 ?_
                        refine lv_iload hx hb dd_M_make_87 (lv_at hl 5 rfl) ?_
                        obtain ⟨n90, hok⟩ := hok
                        refine va_iald hx hb hK hP 5 4 rfl rfl n90 dd_M_make_89 ?_
                        refine lv_bipush (v := 19) hx hb dd_M_make_90 (by decide) ?_
                        refine lv_icmp_ne (tgt := 110) hx hb dd_M_make_92 (by decide) (fun c91 => ?_) (fun c91 => ?_)
                        · have hf := hf.trans (if_neg c91)
                          have hok := hok.2 c91
                          refine lv_iinc (v := x5 + 1) (lv' := [(5, .int (x5 + 1)), (0, .ref h), (1, .int x1), (2, .int x2), (3, .int x3), (4, .int x4)]) hx hb dd_M_make_110 hl (k := 5) rfl rfl (by decide) rfl (fun ls hl => ?_)
                          refine lv_goto (tgt := 68) hx hb dd_M_make_113 (by decide) ?_
                          exact ih u _ _ x1 x2 x3 x4 (x5 + 1) ls hok hf hP hD hS (lv_sub hl [1, 2, 3, 4, 5, 0] rfl)
                        · have hf := hf.trans (if_pos c91)
                          have hok := hok.1 c91
                          refine lv_aload_n hx hb dd_M_make_95 rfl (lv_at hl 0 rfl) ?_
                          refine va_get (D := (dC, dI)) (ci := 0) (v := .ref (a 6)) (C := "ClassObjectMirrorModel") (T := TM) (N := 12) hx hb hts inM hown hK hP 0 rfl rfl 7 (by decide) (hts _ gw_308) (fun _ h9 => h9) rfl dd_M_make_96 ?_
                          refine lv_iload hx hb dd_M_make_99 (lv_at hl 5 rfl) ?_
                          obtain ⟨n92, hok⟩ := hok
                          refine va_iald hx hb hK hP 7 6 rfl rfl n92 dd_M_make_101 ?_
                          refine lv_iload hx hb dd_M_make_102 (lv_at hl 4 rfl) ?_
                          refine lv_icmp_ne (tgt := 110) hx hb dd_M_make_104 (by decide) (fun c93 => ?_) (fun c93 => ?_)
                          · have hf := hf.trans (if_neg c93)
                            have hok := hok.2 c93
                            refine lv_iinc (v := x5 + 1) (lv' := [(5, .int (x5 + 1)), (0, .ref h), (1, .int x1), (2, .int x2), (3, .int x3), (4, .int x4)]) hx hb dd_M_make_110 hl (k := 5) rfl rfl (by decide) rfl (fun ls hl => ?_)
                            refine lv_goto (tgt := 68) hx hb dd_M_make_113 (by decide) ?_
                            exact ih u _ _ x1 x2 x3 x4 (x5 + 1) ls hok hf hP hD hS (lv_sub hl [1, 2, 3, 4, 5, 0] rfl)
                          · have hf := hf.trans (if_pos c93)
                            have hok := hok.1 c93
                            refine lv_iload hx hb dd_M_make_107 (lv_at hl 5 rfl) ?_
                            exact W.iret (v := x5) hx hb hr (fun t ht hW => ⟨⟨x5, u, rfl, hf.symm, pM_up hP hK hD ht hW⟩, hS.F ht⟩) hS.2.2 dd_M_make_109
                exact loop_68 400 u0 _ _ p0 p1 (0 : Int32) (((p1 - p1 / 3 * 3) + 3) - ((p1 - p1 / 3 * 3) + 3) / 3 * 3) (0 : Int32) ls hok hf hP hD hS (lv_sub hl [3, 4, 5, 2, 1, 0] rfl)
            · have hf := hf.trans (if_pos c72)
              have hok := hok.1 c72
              refine lv_iconst (v := (-1)) hx hb dd_M_make_44 (by decide) ?_
              exact W.iret (v := ((-1) : Int32)) hx hb hr (fun t ht hW => ⟨⟨((-1) : Int32), u0, rfl, hf.symm, pM_up hP hK hD ht hW⟩, hS.F ht⟩) hS.2.2 dd_M_make_45
          · have hf := hf.trans (if_neg c71)
            have hok := hok.2 c71
            refine lv_iconst (v := 1) hx hb dd_M_make_34 (by decide) ?_
            refine lv_goto (tgt := 39) hx hb dd_M_make_35 (by decide) ?_
            refine lv_istore_n (lv' := [(3, .int 1), (0, .ref h), (1, .int p0), (2, .int p1)]) hx hb dd_M_make_39 rfl hl (by decide) rfl (fun ls hl => ?_)
            refine lv_iload_n hx hb dd_M_make_40 rfl (lv_at hl 0 rfl) ?_
            refine lv_if_ne (tgt := 46) hx hb dd_M_make_41 (by decide) (fun c94 => ?_) (fun c94 => ?_)
            · have hf := hf.trans (if_neg c94)
              have hok := hok.2 c94
              refine lv_iload_n hx hb dd_M_make_46 rfl (lv_at hl 2 rfl) ?_
              refine lv_bipush (v := 19) hx hb dd_M_make_47 (by decide) ?_
              refine lv_icmp_ne (tgt := 62) hx hb dd_M_make_49 (by decide) (fun c95 => ?_) (fun c95 => ?_)
              · have hf := hf.trans (if_neg c95)
                have hok := hok.2 c95
                refine lv_iload_n hx hb dd_M_make_62 rfl (lv_at hl 3 rfl) ?_
                refine lv_istore (lv' := [(4, .int p1), (3, .int 1), (0, .ref h), (1, .int p0), (2, .int p1)]) hx hb dd_M_make_63 hl (by decide) rfl (fun ls hl => ?_)
                refine lv_iconst (v := 0) hx hb dd_M_make_65 (by decide) ?_
                refine lv_istore (lv' := [(5, .int 0), (4, .int p1), (3, .int 1), (0, .ref h), (1, .int p0), (2, .int p1)]) hx hb dd_M_make_66 hl (by decide) rfl (fun ls hl => ?_)
                have loop_68 : ∀ (n : Nat) (u : SM) (H : Heap) (locs : List Loc) (x1 : Int32) (x2 : Int32) (x3 : Int32) (x4 : Int32) (x5 : Int32) (ls : Array Slot), okl_M_make_68 n u x1 x2 x3 x4 x5 → ff_M_make u0 p0 p1 = fl_M_make_68 n u x1 x2 x3 x4 x5 → va_P (dC, dI) cls_l (wM h a k u) H → va_D (aM h a) (wM h a k u) → va_S (aM h a) s.heap H locs → lv_has ls 6 [(0, .ref h), (1, .int x1), (2, .int x2), (3, .int x3), (4, .int x4), (5, .int x5)] → W p l e (headSpec ws_M_make rm_M_make).room s m ([.ref h, .int p0, .int p1] : List Value).toArray below meth c H locs 0 0 (MQ below (va_Qi (fun (r : Int32) (v : SM) => (r, v) = ff_M_make u0 p0 p1) (pM dC dI h a k) (aM h a)) ([.ref h, .int p0, .int p1] : List Value).toArray s 0 0 (aM h a)) (F0 m 68 ls []) := by
                  intro n
                  induction n with
                  | zero => intro u H locs x1 x2 x3 x4 x5 ls hok; exact (show False from hok).elim
                  | succ n ih =>
                    intro u H locs x1 x2 x3 x4 x5 ls hok hf hP hD hS hl
                    rw [fl_M_make_68] at hf
                    rw [okl_M_make_68] at hok
                    refine lv_iload hx hb dd_M_make_68 (lv_at hl 5 rfl) ?_
                    refine lv_aload_n hx hb dd_M_make_70 rfl (lv_at hl 0 rfl) ?_
                    refine va_get (D := (dC, dI)) (ci := 0) (v := .int (m_objs u)) (C := "ClassObjectMirrorModel") (T := TM) (N := 12) hx hb hts inM hown hK hP 0 rfl rfl 9 (by decide) (hts _ gw_310) (fun _ h9 => h9) rfl dd_M_make_71 ?_
                    refine lv_icmp_ge (tgt := 116) hx hb dd_M_make_74 (by decide) (fun c96 => ?_) (fun c96 => ?_)
                    · have hf := hf.trans (if_pos c96)
                      have hok := hok.1 c96
                      refine lv_aload_n hx hb dd_M_make_116 rfl (lv_at hl 0 rfl) ?_
                      refine va_get (D := (dC, dI)) (ci := 0) (v := .int (m_objs u)) (C := "ClassObjectMirrorModel") (T := TM) (N := 12) hx hb hts inM hown hK hP 0 rfl rfl 9 (by decide) (hts _ gw_310) (fun _ h9 => h9) rfl dd_M_make_117 ?_
                      refine lv_bipush (v := 80) hx hb dd_M_make_120 (by decide) ?_
                      refine lv_icmp_ne (tgt := 130) hx hb dd_M_make_122 (by decide) (fun c97 => ?_) (fun c97 => ?_)
                      · have hf := hf.trans (if_neg c97)
                        have hok := hok.2 c97
                        refine lv_aload_n hx hb dd_M_make_130 rfl (lv_at hl 0 rfl) ?_
                        refine lv_iload_n hx hb dd_M_make_131 rfl (lv_at hl 1 rfl) ?_
                        refine lv_iconst (v := (-1)) hx hb dd_M_make_132 (by decide) ?_
                        refine lv_iload hx hb dd_M_make_133 (lv_at hl 4 rfl) ?_
                        have n98 := hok
                        refine va_calli (va_runV (As := [.int x1, .int (-1), .int x4]) (rest := []) ⟨hx, hb, hml, hown, hts⟩ (mm_M_create l dC dI h a k u x1 ((-1) : Int32) x4 n98) (cwV 3 hts (gg_V gw_447 gw_449 gs_28 gw_2 gw_450) rfl rfl rfl (by decide +kernel) ⟨Nat.le_of_ble_eq_true rfl, Nat.le_of_ble_eq_true rfl⟩) ⟨pM_bl, va_recv hK hP (ci := 0) (q0 := 0) rfl rfl, fun U hU hW => ⟨rfl, pM_up hP hK hD hU hW⟩⟩ rfl rfl hl.1 rfl (lv_room (Nat.le_of_ble_eq_true rfl)) dd_M_make_135 ⟨Nat.zero_le _, Nat.zero_le _⟩) hS (fun q _ h => h) (fun q h => h) (fun r9 v9 t9 H locs ht9 hvm9 hw9 hB9 hz9 hk9 hS => ?_)
                        obtain ⟨rfl, rfl⟩ : r9 = (ff_M_create u x1 ((-1) : Int32) x4).1 ∧ v9 = (ff_M_create u x1 ((-1) : Int32) x4).2 := by rw [← hw9]; exact ⟨rfl, rfl⟩
                        obtain ⟨hP, -, hD⟩ := hB9
                        rw [ht9] at hP
                        exact W.iret (v := ((ff_M_create u x1 ((-1) : Int32) x4).1)) hx hb hr (fun t ht hW => ⟨⟨((ff_M_create u x1 ((-1) : Int32) x4).1), (ff_M_create u x1 ((-1) : Int32) x4).2, rfl, hf.symm, pM_up hP hK hD ht hW⟩, hS.F ht⟩) hS.2.2 dd_M_make_138
                      · have hf := hf.trans (if_pos c97)
                        have hok := hok.1 c97
                        refine lv_bipush (v := (-8)) hx hb dd_M_make_125 (by decide) ?_
                        refine lv_goto (tgt := 138) hx hb dd_M_make_127 (by decide) ?_
                        exact W.iret (v := ((-8) : Int32)) hx hb hr (fun t ht hW => ⟨⟨((-8) : Int32), u, rfl, hf.symm, pM_up hP hK hD ht hW⟩, hS.F ht⟩) hS.2.2 dd_M_make_138
                    · have hf := hf.trans (if_neg c96)
                      have hok := hok.2 c96
                      refine lv_iload_n hx hb dd_M_make_77 rfl (lv_at hl 1 rfl) ?_
                      refine lv_bipush (v := 19) hx hb dd_M_make_78 (by decide) ?_
                      refine lv_icmp_ne (tgt := 116) hx hb dd_M_make_80 (by decide) (fun c99 => ?_) (fun c99 => ?_)
                      · have hf := hf.trans (if_neg c99)
                        have hok := hok.2 c99
                        refine lv_aload_n hx hb dd_M_make_116 rfl (lv_at hl 0 rfl) ?_
                        refine va_get (D := (dC, dI)) (ci := 0) (v := .int (m_objs u)) (C := "ClassObjectMirrorModel") (T := TM) (N := 12) hx hb hts inM hown hK hP 0 rfl rfl 9 (by decide) (hts _ gw_310) (fun _ h9 => h9) rfl dd_M_make_117 ?_
                        refine lv_bipush (v := 80) hx hb dd_M_make_120 (by decide) ?_
                        refine lv_icmp_ne (tgt := 130) hx hb dd_M_make_122 (by decide) (fun c100 => ?_) (fun c100 => ?_)
                        · have hf := hf.trans (if_neg c100)
                          have hok := hok.2 c100
                          refine lv_aload_n hx hb dd_M_make_130 rfl (lv_at hl 0 rfl) ?_
                          refine lv_iload_n hx hb dd_M_make_131 rfl (lv_at hl 1 rfl) ?_
                          refine lv_iconst (v := (-1)) hx hb dd_M_make_132 (by decide) ?_
                          refine lv_iload hx hb dd_M_make_133 (lv_at hl 4 rfl) ?_
                          have n101 := hok
                          refine va_calli (va_runV (As := [.int x1, .int (-1), .int x4]) (rest := []) ⟨hx, hb, hml, hown, hts⟩ (mm_M_create l dC dI h a k u x1 ((-1) : Int32) x4 n101) (cwV 3 hts (gg_V gw_447 gw_449 gs_28 gw_2 gw_450) rfl rfl rfl (by decide +kernel) ⟨Nat.le_of_ble_eq_true rfl, Nat.le_of_ble_eq_true rfl⟩) ⟨pM_bl, va_recv hK hP (ci := 0) (q0 := 0) rfl rfl, fun U hU hW => ⟨rfl, pM_up hP hK hD hU hW⟩⟩ rfl rfl hl.1 rfl (lv_room (Nat.le_of_ble_eq_true rfl)) dd_M_make_135 ⟨Nat.zero_le _, Nat.zero_le _⟩) hS (fun q _ h => h) (fun q h => h) (fun r9 v9 t9 H locs ht9 hvm9 hw9 hB9 hz9 hk9 hS => ?_)
                          obtain ⟨rfl, rfl⟩ : r9 = (ff_M_create u x1 ((-1) : Int32) x4).1 ∧ v9 = (ff_M_create u x1 ((-1) : Int32) x4).2 := by rw [← hw9]; exact ⟨rfl, rfl⟩
                          obtain ⟨hP, -, hD⟩ := hB9
                          rw [ht9] at hP
                          exact W.iret (v := ((ff_M_create u x1 ((-1) : Int32) x4).1)) hx hb hr (fun t ht hW => ⟨⟨((ff_M_create u x1 ((-1) : Int32) x4).1), (ff_M_create u x1 ((-1) : Int32) x4).2, rfl, hf.symm, pM_up hP hK hD ht hW⟩, hS.F ht⟩) hS.2.2 dd_M_make_138
                        · have hf := hf.trans (if_pos c100)
                          have hok := hok.1 c100
                          refine lv_bipush (v := (-8)) hx hb dd_M_make_125 (by decide) ?_
                          refine lv_goto (tgt := 138) hx hb dd_M_make_127 (by decide) ?_
                          exact W.iret (v := ((-8) : Int32)) hx hb hr (fun t ht hW => ⟨⟨((-8) : Int32), u, rfl, hf.symm, pM_up hP hK hD ht hW⟩, hS.F ht⟩) hS.2.2 dd_M_make_138
                      · have hf := hf.trans (if_pos c99)
                        have hok := hok.1 c99
                        refine lv_aload_n hx hb dd_M_make_83 rfl (lv_at hl 0 rfl) ?_
                        refine va_get (D := (dC, dI)) (ci := 0) (v := .ref (a 4)) (C := "ClassObjectMirrorModel") (T := TM) (N := 12) hx hb hts inM hown hK hP 0 rfl rfl 5 (by decide) (hts _ gw_306) (fun _ h9 => h9) rfl dd_M_make_84 ?_
                        refine lv_iload hx hb dd_M_make_87 (lv_at hl 5 rfl) ?_
                        obtain ⟨n102, hok⟩ := hok
                        refine va_iald hx hb hK hP 5 4 rfl rfl n102 dd_M_make_89 ?_
                        refine lv_bipush (v := 19) hx hb dd_M_make_90 (by decide) ?_
                        refine lv_icmp_ne (tgt := 110) hx hb dd_M_make_92 (by decide) (fun c103 => ?_) (fun c103 => ?_)
                        · have hf := hf.trans (if_neg c103)
                          have hok := hok.2 c103
                          refine lv_iinc (v := x5 + 1) (lv' := [(5, .int (x5 + 1)), (0, .ref h), (1, .int x1), (2, .int x2), (3, .int x3), (4, .int x4)]) hx hb dd_M_make_110 hl (k := 5) rfl rfl (by decide) rfl (fun ls hl => ?_)
                          refine lv_goto (tgt := 68) hx hb dd_M_make_113 (by decide) ?_
                          exact ih u _ _ x1 x2 x3 x4 (x5 + 1) ls hok hf hP hD hS (lv_sub hl [1, 2, 3, 4, 5, 0] rfl)
                        · have hf := hf.trans (if_pos c103)
                          have hok := hok.1 c103
                          refine lv_aload_n hx hb dd_M_make_95 rfl (lv_at hl 0 rfl) ?_
                          refine va_get (D := (dC, dI)) (ci := 0) (v := .ref (a 6)) (C := "ClassObjectMirrorModel") (T := TM) (N := 12) hx hb hts inM hown hK hP 0 rfl rfl 7 (by decide) (hts _ gw_308) (fun _ h9 => h9) rfl dd_M_make_96 ?_
                          refine lv_iload hx hb dd_M_make_99 (lv_at hl 5 rfl) ?_
                          obtain ⟨n104, hok⟩ := hok
                          refine va_iald hx hb hK hP 7 6 rfl rfl n104 dd_M_make_101 ?_
                          refine lv_iload hx hb dd_M_make_102 (lv_at hl 4 rfl) ?_
                          refine lv_icmp_ne (tgt := 110) hx hb dd_M_make_104 (by decide) (fun c105 => ?_) (fun c105 => ?_)
                          · have hf := hf.trans (if_neg c105)
                            have hok := hok.2 c105
                            refine lv_iinc (v := x5 + 1) (lv' := [(5, .int (x5 + 1)), (0, .ref h), (1, .int x1), (2, .int x2), (3, .int x3), (4, .int x4)]) hx hb dd_M_make_110 hl (k := 5) rfl rfl (by decide) rfl (fun ls hl => ?_)
                            refine lv_goto (tgt := 68) hx hb dd_M_make_113 (by decide) ?_
                            exact ih u _ _ x1 x2 x3 x4 (x5 + 1) ls hok hf hP hD hS (lv_sub hl [1, 2, 3, 4, 5, 0] rfl)
                          · have hf := hf.trans (if_pos c105)
                            have hok := hok.1 c105
                            refine lv_iload hx hb dd_M_make_107 (lv_at hl 5 rfl) ?_
                            exact W.iret (v := x5) hx hb hr (fun t ht hW => ⟨⟨x5, u, rfl, hf.symm, pM_up hP hK hD ht hW⟩, hS.F ht⟩) hS.2.2 dd_M_make_109
                exact loop_68 400 u0 _ _ p0 p1 (1 : Int32) p1 (0 : Int32) ls hok hf hP hD hS (lv_sub hl [3, 4, 5, 2, 1, 0] rfl)
              · have hf := hf.trans (if_pos c95)
                have hok := hok.1 c95
                refine lv_iload_n hx hb dd_M_make_52 rfl (lv_at hl 3 rfl) ?_
                refine lv_iconst (v := 3) hx hb dd_M_make_53 (by decide) ?_
                refine lv_irem hx hb dd_M_make_54 (by decide) ?_
                refine lv_iconst (v := 3) hx hb dd_M_make_55 (by decide) ?_
                refine lv_iadd hx hb dd_M_make_56 ?_
                refine lv_iconst (v := 3) hx hb dd_M_make_57 (by decide) ?_
                refine lv_irem hx hb dd_M_make_58 (by decide) ?_
                refine lv_goto (tgt := 63) hx hb dd_M_make_59 (by decide) ?_
                refine lv_istore (lv' := [(4, .int (((p1 - p1 / 3 * 3) + 3) - ((p1 - p1 / 3 * 3) + 3) / 3 * 3)), (3, .int 1), (0, .ref h), (1, .int p0), (2, .int p1)]) hx hb dd_M_make_63 hl (by decide) rfl (fun ls hl => ?_)
                refine lv_iconst (v := 0) hx hb dd_M_make_65 (by decide) ?_
                refine lv_istore (lv' := [(5, .int 0), (4, .int (((p1 - p1 / 3 * 3) + 3) - ((p1 - p1 / 3 * 3) + 3) / 3 * 3)), (3, .int 1), (0, .ref h), (1, .int p0), (2, .int p1)]) hx hb dd_M_make_66 hl (by decide) rfl (fun ls hl => ?_)
                have loop_68 : ∀ (n : Nat) (u : SM) (H : Heap) (locs : List Loc) (x1 : Int32) (x2 : Int32) (x3 : Int32) (x4 : Int32) (x5 : Int32) (ls : Array Slot), okl_M_make_68 n u x1 x2 x3 x4 x5 → ff_M_make u0 p0 p1 = fl_M_make_68 n u x1 x2 x3 x4 x5 → va_P (dC, dI) cls_l (wM h a k u) H → va_D (aM h a) (wM h a k u) → va_S (aM h a) s.heap H locs → lv_has ls 6 [(0, .ref h), (1, .int x1), (2, .int x2), (3, .int x3), (4, .int x4), (5, .int x5)] → W p l e (headSpec ws_M_make rm_M_make).room s m ([.ref h, .int p0, .int p1] : List Value).toArray below meth c H locs 0 0 (MQ below (va_Qi (fun (r : Int32) (v : SM) => (r, v) = ff_M_make u0 p0 p1) (pM dC dI h a k) (aM h a)) ([.ref h, .int p0, .int p1] : List Value).toArray s 0 0 (aM h a)) (F0 m 68 ls []) := by
                  intro n
                  induction n with
                  | zero => intro u H locs x1 x2 x3 x4 x5 ls hok; exact (show False from hok).elim
                  | succ n ih =>
                    intro u H locs x1 x2 x3 x4 x5 ls hok hf hP hD hS hl
                    rw [fl_M_make_68] at hf
                    rw [okl_M_make_68] at hok
                    refine lv_iload hx hb dd_M_make_68 (lv_at hl 5 rfl) ?_
                    refine lv_aload_n hx hb dd_M_make_70 rfl (lv_at hl 0 rfl) ?_
                    refine va_get (D := (dC, dI)) (ci := 0) (v := .int (m_objs u)) (C := "ClassObjectMirrorModel") (T := TM) (N := 12) hx hb hts inM hown hK hP 0 rfl rfl 9 (by decide) (hts _ gw_310) (fun _ h9 => h9) rfl dd_M_make_71 ?_
                    refine lv_icmp_ge (tgt := 116) hx hb dd_M_make_74 (by decide) (fun c106 => ?_) (fun c106 => ?_)
                    · have hf := hf.trans (if_pos c106)
                      have hok := hok.1 c106
                      refine lv_aload_n hx hb dd_M_make_116 rfl (lv_at hl 0 rfl) ?_
                      refine va_get (D := (dC, dI)) (ci := 0) (v := .int (m_objs u)) (C := "ClassObjectMirrorModel") (T := TM) (N := 12) hx hb hts inM hown hK hP 0 rfl rfl 9 (by decide) (hts _ gw_310) (fun _ h9 => h9) rfl dd_M_make_117 ?_
                      refine lv_bipush (v := 80) hx hb dd_M_make_120 (by decide) ?_
                      refine lv_icmp_ne (tgt := 130) hx hb dd_M_make_122 (by decide) (fun c107 => ?_) (fun c107 => ?_)
                      · have hf := hf.trans (if_neg c107)
                        have hok := hok.2 c107
                        refine lv_aload_n hx hb dd_M_make_130 rfl (lv_at hl 0 rfl) ?_
                        refine lv_iload_n hx hb dd_M_make_131 rfl (lv_at hl 1 rfl) ?_
                        refine lv_iconst (v := (-1)) hx hb dd_M_make_132 (by decide) ?_
                        refine lv_iload hx hb dd_M_make_133 (lv_at hl 4 rfl) ?_
                        have n108 := hok
                        refine va_calli (va_runV (As := [.int x1, .int (-1), .int x4]) (rest := []) ⟨hx, hb, hml, hown, hts⟩ (mm_M_create l dC dI h a k u x1 ((-1) : Int32) x4 n108) (cwV 3 hts (gg_V gw_447 gw_449 gs_28 gw_2 gw_450) rfl rfl rfl (by decide +kernel) ⟨Nat.le_of_ble_eq_true rfl, Nat.le_of_ble_eq_true rfl⟩) ⟨pM_bl, va_recv hK hP (ci := 0) (q0 := 0) rfl rfl, fun U hU hW => ⟨rfl, pM_up hP hK hD hU hW⟩⟩ rfl rfl hl.1 rfl (lv_room (Nat.le_of_ble_eq_true rfl)) dd_M_make_135 ⟨Nat.zero_le _, Nat.zero_le _⟩) hS (fun q _ h => h) (fun q h => h) (fun r9 v9 t9 H locs ht9 hvm9 hw9 hB9 hz9 hk9 hS => ?_)
                        obtain ⟨rfl, rfl⟩ : r9 = (ff_M_create u x1 ((-1) : Int32) x4).1 ∧ v9 = (ff_M_create u x1 ((-1) : Int32) x4).2 := by rw [← hw9]; exact ⟨rfl, rfl⟩
                        obtain ⟨hP, -, hD⟩ := hB9
                        rw [ht9] at hP
                        exact W.iret (v := ((ff_M_create u x1 ((-1) : Int32) x4).1)) hx hb hr (fun t ht hW => ⟨⟨((ff_M_create u x1 ((-1) : Int32) x4).1), (ff_M_create u x1 ((-1) : Int32) x4).2, rfl, hf.symm, pM_up hP hK hD ht hW⟩, hS.F ht⟩) hS.2.2 dd_M_make_138
                      · have hf := hf.trans (if_pos c107)
                        have hok := hok.1 c107
                        refine lv_bipush (v := (-8)) hx hb dd_M_make_125 (by decide) ?_
                        refine lv_goto (tgt := 138) hx hb dd_M_make_127 (by decide) ?_
                        exact W.iret (v := ((-8) : Int32)) hx hb hr (fun t ht hW => ⟨⟨((-8) : Int32), u, rfl, hf.symm, pM_up hP hK hD ht hW⟩, hS.F ht⟩) hS.2.2 dd_M_make_138
                    · have hf := hf.trans (if_neg c106)
                      have hok := hok.2 c106
                      refine lv_iload_n hx hb dd_M_make_77 rfl (lv_at hl 1 rfl) ?_
                      refine lv_bipush (v := 19) hx hb dd_M_make_78 (by decide) ?_
                      refine lv_icmp_ne (tgt := 116) hx hb dd_M_make_80 (by decide) (fun c109 => ?_) (fun c109 => ?_)
                      · have hf := hf.trans (if_neg c109)
                        have hok := hok.2 c109
                        refine lv_aload_n hx hb dd_M_make_116 rfl (lv_at hl 0 rfl) ?_
                        refine va_get (D := (dC, dI)) (ci := 0) (v := .int (m_objs u)) (C := "ClassObjectMirrorModel") (T := TM) (N := 12) hx hb hts inM hown hK hP 0 rfl rfl 9 (by decide) (hts _ gw_310) (fun _ h9 => h9) rfl dd_M_make_117 ?_
                        refine lv_bipush (v := 80) hx hb dd_M_make_120 (by decide) ?_
                        refine lv_icmp_ne (tgt := 130) hx hb dd_M_make_122 (by decide) (fun c110 => ?_) (fun c110 => ?_)
                        · have hf := hf.trans (if_neg c110)
                          have hok := hok.2 c110
                          refine lv_aload_n hx hb dd_M_make_130 rfl (lv_at hl 0 rfl) ?_
                          refine lv_iload_n hx hb dd_M_make_131 rfl (lv_at hl 1 rfl) ?_
                          refine lv_iconst (v := (-1)) hx hb dd_M_make_132 (by decide) ?_
                          refine lv_iload hx hb dd_M_make_133 (lv_at hl 4 rfl) ?_
                          have n111 := hok
                          refine va_calli (va_runV (As := [.int x1, .int (-1), .int x4]) (rest := []) ⟨hx, hb, hml, hown, hts⟩ (mm_M_create l dC dI h a k u x1 ((-1) : Int32) x4 n111) (cwV 3 hts (gg_V gw_447 gw_449 gs_28 gw_2 gw_450) rfl rfl rfl (by decide +kernel) ⟨Nat.le_of_ble_eq_true rfl, Nat.le_of_ble_eq_true rfl⟩) ⟨pM_bl, va_recv hK hP (ci := 0) (q0 := 0) rfl rfl, fun U hU hW => ⟨rfl, pM_up hP hK hD hU hW⟩⟩ rfl rfl hl.1 rfl (lv_room (Nat.le_of_ble_eq_true rfl)) dd_M_make_135 ⟨Nat.zero_le _, Nat.zero_le _⟩) hS (fun q _ h => h) (fun q h => h) (fun r9 v9 t9 H locs ht9 hvm9 hw9 hB9 hz9 hk9 hS => ?_)
                          obtain ⟨rfl, rfl⟩ : r9 = (ff_M_create u x1 ((-1) : Int32) x4).1 ∧ v9 = (ff_M_create u x1 ((-1) : Int32) x4).2 := by rw [← hw9]; exact ⟨rfl, rfl⟩
                          obtain ⟨hP, -, hD⟩ := hB9
                          rw [ht9] at hP
                          exact W.iret (v := ((ff_M_create u x1 ((-1) : Int32) x4).1)) hx hb hr (fun t ht hW => ⟨⟨((ff_M_create u x1 ((-1) : Int32) x4).1), (ff_M_create u x1 ((-1) : Int32) x4).2, rfl, hf.symm, pM_up hP hK hD ht hW⟩, hS.F ht⟩) hS.2.2 dd_M_make_138
                        · have hf := hf.trans (if_pos c110)
                          have hok := hok.1 c110
                          refine lv_bipush (v := (-8)) hx hb dd_M_make_125 (by decide) ?_
                          refine lv_goto (tgt := 138) hx hb dd_M_make_127 (by decide) ?_
                          exact W.iret (v := ((-8) : Int32)) hx hb hr (fun t ht hW => ⟨⟨((-8) : Int32), u, rfl, hf.symm, pM_up hP hK hD ht hW⟩, hS.F ht⟩) hS.2.2 dd_M_make_138
                      · have hf := hf.trans (if_pos c109)
                        have hok := hok.1 c109
                        refine lv_aload_n hx hb dd_M_make_83 rfl (lv_at hl 0 rfl) ?_
                        refine va_get (D := (dC, dI)) (ci := 0) (v := .ref (a 4)) (C := "ClassObjectMirrorModel") (T := TM) (N := 12) hx hb hts inM hown hK hP 0 rfl rfl 5 (by decide) (hts _ gw_306) (fun _ h9 => h9) rfl dd_M_make_84 ?_
                        refine lv_iload hx hb dd_M_make_87 (lv_at hl 5 rfl) ?_
                        obtain ⟨n112, hok⟩ := hok
                        refine va_iald hx hb hK hP 5 4 rfl rfl n112 dd_M_make_89 ?_
                        refine lv_bipush (v := 19) hx hb dd_M_make_90 (by decide) ?_
                        refine lv_icmp_ne (tgt := 110) hx hb dd_M_make_92 (by decide) (fun c113 => ?_) (fun c113 => ?_)
                        · have hf := hf.trans (if_neg c113)
                          have hok := hok.2 c113
                          refine lv_iinc (v := x5 + 1) (lv' := [(5, .int (x5 + 1)), (0, .ref h), (1, .int x1), (2, .int x2), (3, .int x3), (4, .int x4)]) hx hb dd_M_make_110 hl (k := 5) rfl rfl (by decide) rfl (fun ls hl => ?_)
                          refine lv_goto (tgt := 68) hx hb dd_M_make_113 (by decide) ?_
                          exact ih u _ _ x1 x2 x3 x4 (x5 + 1) ls hok hf hP hD hS (lv_sub hl [1, 2, 3, 4, 5, 0] rfl)
                        · have hf := hf.trans (if_pos c113)
                          have hok := hok.1 c113
                          refine lv_aload_n hx hb dd_M_make_95 rfl (lv_at hl 0 rfl) ?_
                          refine va_get (D := (dC, dI)) (ci := 0) (v := .ref (a 6)) (C := "ClassObjectMirrorModel") (T := TM) (N := 12) hx hb hts inM hown hK hP 0 rfl rfl 7 (by decide) (hts _ gw_308) (fun _ h9 => h9) rfl dd_M_make_96 ?_
                          refine lv_iload hx hb dd_M_make_99 (lv_at hl 5 rfl) ?_
                          obtain ⟨n114, hok⟩ := hok
                          refine va_iald hx hb hK hP 7 6 rfl rfl n114 dd_M_make_101 ?_
                          refine lv_iload hx hb dd_M_make_102 (lv_at hl 4 rfl) ?_
                          refine lv_icmp_ne (tgt := 110) hx hb dd_M_make_104 (by decide) (fun c115 => ?_) (fun c115 => ?_)
                          · have hf := hf.trans (if_neg c115)
                            have hok := hok.2 c115
                            refine lv_iinc (v := x5 + 1) (lv' := [(5, .int (x5 + 1)), (0, .ref h), (1, .int x1), (2, .int x2), (3, .int x3), (4, .int x4)]) hx hb dd_M_make_110 hl (k := 5) rfl rfl (by decide) rfl (fun ls hl => ?_)
                            refine lv_goto (tgt := 68) hx hb dd_M_make_113 (by decide) ?_
                            exact ih u _ _ x1 x2 x3 x4 (x5 + 1) ls hok hf hP hD hS (lv_sub hl [1, 2, 3, 4, 5, 0] rfl)
                          · have hf := hf.trans (if_pos c115)
                            have hok := hok.1 c115
                            refine lv_iload hx hb dd_M_make_107 (lv_at hl 5 rfl) ?_
                            exact W.iret (v := x5) hx hb hr (fun t ht hW => ⟨⟨x5, u, rfl, hf.symm, pM_up hP hK hD ht hW⟩, hS.F ht⟩) hS.2.2 dd_M_make_109
                exact loop_68 400 u0 _ _ p0 p1 (1 : Int32) (((p1 - p1 / 3 * 3) + 3) - ((p1 - p1 / 3 * 3) + 3) / 3 * 3) (0 : Int32) ls hok hf hP hD hS (lv_sub hl [3, 4, 5, 2, 1, 0] rfl)
            · have hf := hf.trans (if_pos c94)
              have hok := hok.1 c94
              refine lv_iconst (v := (-1)) hx hb dd_M_make_44 (by decide) ?_
              exact W.iret (v := ((-1) : Int32)) hx hb hr (fun t ht hW => ⟨⟨((-1) : Int32), u0, rfl, hf.symm, pM_up hP hK hD ht hW⟩, hS.F ht⟩) hS.2.2 dd_M_make_45
  · have hf := hf.trans (if_neg c1)
    have hok := hok.2 c1
    refine lv_iconst (v := (-1)) hx hb dd_M_make_8 (by decide) ?_
    exact W.iret (v := ((-1) : Int32)) hx hb hr (fun t ht hW => ⟨⟨((-1) : Int32), u0, rfl, hf.symm, pM_up hP hK hD ht hW⟩, hS.F ht⟩) hS.2.2 dd_M_make_9

def ff_M_makeArray (u0 : SM) (p0 : Int32) (p1 : Int32) : Int32 × SM := (if (ff_M_noType u0 p0) = 0 then (if (ff_M_search u0 p0) = (-2) then ((-2), u0) else (if 0 ≤ p1 then (if 8 < p1 then ((-8), u0) else (if (m_objs u0) = 80 then ((-8), u0) else (if (ff_M_search u0 p0) = (-8) then ((-8), u0) else ((ff_M_create (ff_M_enter u0 (ff_M_search u0 p0) p0) (ff_M_search u0 p0) p1 (0 : Int32)).1, (ff_M_create (ff_M_enter u0 (ff_M_search u0 p0) p0) (ff_M_search u0 p0) p1 (0 : Int32)).2)))) else ((-3), u0))) else ((-1), u0))
def ok_M_makeArray (u0 : SM) (p0 : Int32) (p1 : Int32) : Prop := ((((ff_M_noType u0 p0) = 0) → (ok_M_search u0 p0) ∧ ((((ff_M_search u0 p0) = (-2)) → True) ∧ (¬ ((ff_M_search u0 p0) = (-2)) → (((0 ≤ p1) → (((8 < p1) → True) ∧ (¬ (8 < p1) → ((((m_objs u0) = 80) → True) ∧ (¬ ((m_objs u0) = 80) → ((((ff_M_search u0 p0) = (-8)) → True) ∧ (¬ ((ff_M_search u0 p0) = (-8)) → (ok_M_enter u0 (ff_M_search u0 p0) p0) ∧ ok_M_create (ff_M_enter u0 (ff_M_search u0 p0) p0) (ff_M_search u0 p0) p1 (0 : Int32)))))))) ∧ (¬ (0 ≤ p1) → True))))) ∧ (¬ ((ff_M_noType u0 p0) = 0) → True))
abbrev ws_M_makeArray : List Cond := .code yy_M_makeArray bb_M_makeArray 4 (some .int) :: gW
abbrev rm_M_makeArray : Room := { frames := 2, cells := 0, slots := 0, locals := 45 }
set_option maxHeartbeats 4000000 in
set_option maxRecDepth 100000 in
theorem mm_M_makeArray (l : Launch) (dC : Nat → ClassId) (dI : Nat → Nat → Nat) (h : Nat) (a : Nat → Nat) (k : Nat → ClassId) (u0 : SM) (p0 : Int32) (p1 : Int32) (hok : ok_M_makeArray u0 p0 p1) : Met l yy_M_makeArray ws_M_makeArray rm_M_makeArray (va_Pc [.ref h, .int p0, .int p1] (pM dC dI h a k u0)) (va_Qi (fun (r : Int32) (v : SM) => (r, v) = ff_M_makeArray u0 p0 p1) (pM dC dI h a k) (aM h a)) 0 0 (aM h a) := by
  refine Met.ofW (cc := bb_M_makeArray) (maxL := 4) (ret := (some .int)) (by decide) rfl ?_
  intro p e s m args below meth c s₁ B hml hv
  obtain ⟨rfl, hP, hK, hD⟩ := hv
  have hx := B.exec
  have hb := B.bytes
  have hr := B.returns
  have hts : ∀ w ∈ gW, w.before _ s = true := fun w h => atoms_spec (ws := ws_M_makeArray) B.pre w (List.mem_cons_of_mem _ h)
  have hown : s.vm.findClass "ClassObjectMirrorModel" = some m.cls := findClass_of_methodNamed B.named
  have hlocks := B.notSynchronized
  have hS : va_S (aM h a) s.heap s.heap [] := va_S.rf
  have hl := lv_entry ([.ref h, .int p0, .int p1]) (n := 4) (Nat.le_of_ble_eq_true rfl)
  rw [lg_entry_eq]
  generalize (lg_sl ([.ref h, .int p0, .int p1]) ++ List.replicate (4 - (lg_sl ([.ref h, .int p0, .int p1])).length) Slot.unset).toArray = ls at hl ⊢
  have hl : lv_has ls 4 [(0, .ref h), (1, .int p0), (2, .int p1)] := hl
  have hf := ff_M_makeArray.eq_1 u0 p0 p1
  unfold ok_M_makeArray at hok
  refine lv_aload_n hx hb dd_M_makeArray_0 rfl (lv_at hl 0 rfl) ?_
  refine lv_iload_n hx hb dd_M_makeArray_1 rfl (lv_at hl 1 rfl) ?_
  refine vp_callSi (W.runV (As := [.int p0]) (rest := []) ⟨hx, hb, hml, hown, hts⟩ (mm_M_noType l dC dI h a k u0 p0) (cwV 1 hts (gg_V gw_342 gw_344 gs_18 gw_2 gw_345) rfl rfl rfl (by decide +kernel) ⟨Nat.le_of_ble_eq_true rfl, Nat.le_of_ble_eq_true rfl⟩) ⟨pM_bl, va_recv hK hP (ci := 0) (q0 := 0) rfl rfl, fun U hU hW => ⟨rfl, pM_up hP hK hD hU hW⟩⟩ rfl rfl hl.1 rfl (lv_room (Nat.le_of_ble_eq_true rfl)) dd_M_makeArray_2 ⟨Nat.zero_le _, Nat.zero_le _⟩) (fun r hr9 => ?_)
  subst hr9
  refine lv_if_eq (tgt := 10) hx hb dd_M_makeArray_5 (by decide) (fun c1 => ?_) (fun c1 => ?_)
  · have hf := hf.trans (if_pos c1)
    have hok := hok.1 c1
    refine lv_aload_n hx hb dd_M_makeArray_10 rfl (lv_at hl 0 rfl) ?_
    refine lv_iload_n hx hb dd_M_makeArray_11 rfl (lv_at hl 1 rfl) ?_
    obtain ⟨n2, hok⟩ := hok
    refine vp_callSi (W.runV (As := [.int p0]) (rest := []) ⟨hx, hb, hml, hown, hts⟩ (mm_M_search l dC dI h a k u0 p0 n2) (cwV 1 hts (gg_V gw_346 gw_348 gs_19 gw_2 gw_349) rfl rfl rfl (by decide +kernel) ⟨Nat.le_of_ble_eq_true rfl, Nat.le_of_ble_eq_true rfl⟩) ⟨pM_bl, va_recv hK hP (ci := 0) (q0 := 0) rfl rfl, fun U hU hW => ⟨rfl, pM_up hP hK hD hU hW⟩⟩ rfl rfl hl.1 rfl (lv_room (Nat.le_of_ble_eq_true rfl)) dd_M_makeArray_12 ⟨Nat.zero_le _, Nat.zero_le _⟩) (fun r hr9 => ?_)
    subst hr9
    refine lv_istore_n (lv' := [(3, .int (ff_M_search u0 p0)), (0, .ref h), (1, .int p0), (2, .int p1)]) hx hb dd_M_makeArray_15 rfl hl (by decide) rfl (fun ls hl => ?_)
    refine lv_iload_n hx hb dd_M_makeArray_16 rfl (lv_at hl 0 rfl) ?_
    refine lv_bipush (v := (-2)) hx hb dd_M_makeArray_17 (by decide) ?_
    refine lv_icmp_ne (tgt := 25) hx hb dd_M_makeArray_19 (by decide) (fun c3 => ?_) (fun c3 => ?_)
    · have hf := hf.trans (if_neg c3)
      have hok := hok.2 c3
      refine lv_iload_n hx hb dd_M_makeArray_25 rfl (lv_at hl 3 rfl) ?_
      refine lv_if_ge (tgt := 32) hx hb dd_M_makeArray_26 (by decide) (fun c4 => ?_) (fun c4 => ?_)
      · have hf := hf.trans (if_pos c4)
        have hok := hok.1 c4
        refine lv_iload_n hx hb dd_M_makeArray_32 rfl (lv_at hl 3 rfl) ?_
        refine lv_bipush (v := 8) hx hb dd_M_makeArray_33 (by decide) ?_
        refine lv_icmp_gt (tgt := 53) hx hb dd_M_makeArray_35 (by decide) (fun c5 => ?_) (fun c5 => ?_)
        · have hf := hf.trans (if_pos c5)
          have hok := hok.1 c5
          refine lv_bipush (v := (-8)) hx hb dd_M_makeArray_53 (by decide) ?_
          exact W.iret (v := ((-8) : Int32)) hx hb hr (fun t ht hW => ⟨⟨((-8) : Int32), u0, rfl, hf.symm, pM_up hP hK hD ht hW⟩, hS.F ht⟩) hS.2.2 dd_M_makeArray_55
        · have hf := hf.trans (if_neg c5)
          have hok := hok.2 c5
          refine lv_aload_n hx hb dd_M_makeArray_38 rfl (lv_at hl 1 rfl) ?_
          refine va_get (D := (dC, dI)) (ci := 0) (v := .int (m_objs u0)) (C := "ClassObjectMirrorModel") (T := TM) (N := 12) hx hb hts inM hown hK hP 0 rfl rfl 9 (by decide) (hts _ gw_310) (fun _ h9 => h9) rfl dd_M_makeArray_39 ?_
          refine lv_bipush (v := 80) hx hb dd_M_makeArray_42 (by decide) ?_
          refine lv_icmp_eq (tgt := 53) hx hb dd_M_makeArray_44 (by decide) (fun c6 => ?_) (fun c6 => ?_)
          · have hf := hf.trans (if_pos c6)
            have hok := hok.1 c6
            refine lv_bipush (v := (-8)) hx hb dd_M_makeArray_53 (by decide) ?_
            exact W.iret (v := ((-8) : Int32)) hx hb hr (fun t ht hW => ⟨⟨((-8) : Int32), u0, rfl, hf.symm, pM_up hP hK hD ht hW⟩, hS.F ht⟩) hS.2.2 dd_M_makeArray_55
          · have hf := hf.trans (if_neg c6)
            have hok := hok.2 c6
            refine lv_iload_n hx hb dd_M_makeArray_47 rfl (lv_at hl 0 rfl) ?_
            refine lv_bipush (v := (-8)) hx hb dd_M_makeArray_48 (by decide) ?_
            refine lv_icmp_ne (tgt := 56) hx hb dd_M_makeArray_50 (by decide) (fun c7 => ?_) (fun c7 => ?_)
            · have hf := hf.trans (if_neg c7)
              have hok := hok.2 c7
              refine lv_aload_n hx hb dd_M_makeArray_56 rfl (lv_at hl 1 rfl) ?_
              refine lv_iload_n hx hb dd_M_makeArray_57 rfl (lv_at hl 0 rfl) ?_
              refine lv_iload_n hx hb dd_M_makeArray_58 rfl (lv_at hl 2 rfl) ?_
              obtain ⟨n8, hok⟩ := hok
              refine va_callv (va_runV (As := [.int (ff_M_search u0 p0), .int p0]) (rest := []) ⟨hx, hb, hml, hown, hts⟩ (mm_M_enter l dC dI h a k u0 (ff_M_search u0 p0) p0 n8) (cwV 2 hts (gg_V gw_350 gw_352 gs_20 gw_2 gw_353) rfl rfl rfl (by decide +kernel) ⟨Nat.le_of_ble_eq_true rfl, Nat.le_of_ble_eq_true rfl⟩) ⟨pM_bl, va_recv hK hP (ci := 0) (q0 := 0) rfl rfl, fun U hU hW => ⟨rfl, pM_up hP hK hD hU hW⟩⟩ rfl rfl hl.1 rfl (lv_room (Nat.le_of_ble_eq_true rfl)) dd_M_makeArray_59 ⟨Nat.zero_le _, Nat.zero_le _⟩) hS (fun q _ h => h) (fun q h => h) (fun v9 t9 H locs ht9 hvm9 hw9 hB9 hz9 hk9 hS => ?_)
              subst hw9
              obtain ⟨hP, -, hD⟩ := hB9
              rw [ht9] at hP
              refine lv_aload_n hx hb dd_M_makeArray_62 rfl (lv_at hl 1 rfl) ?_
              refine lv_iload_n hx hb dd_M_makeArray_63 rfl (lv_at hl 0 rfl) ?_
              refine lv_iload_n hx hb dd_M_makeArray_64 rfl (lv_at hl 3 rfl) ?_
              refine lv_iconst (v := 0) hx hb dd_M_makeArray_65 (by decide) ?_
              have n9 := hok
              refine va_calli (va_runV (As := [.int (ff_M_search u0 p0), .int p1, .int 0]) (rest := []) ⟨hx, hb, hml, hown, hts⟩ (mm_M_create l dC dI h a k (ff_M_enter u0 (ff_M_search u0 p0) p0) (ff_M_search u0 p0) p1 (0 : Int32) n9) (cwV 3 hts (gg_V gw_447 gw_449 gs_28 gw_2 gw_450) rfl rfl rfl (by decide +kernel) ⟨Nat.le_of_ble_eq_true rfl, Nat.le_of_ble_eq_true rfl⟩) ⟨pM_bl, va_recv hK hP (ci := 0) (q0 := 0) rfl rfl, fun U hU hW => ⟨rfl, pM_up hP hK hD hU hW⟩⟩ rfl rfl hl.1 rfl (lv_room (Nat.le_of_ble_eq_true rfl)) dd_M_makeArray_66 ⟨Nat.zero_le _, Nat.zero_le _⟩) hS (fun q _ h => h) (fun q h => h) (fun r9 v9 t9 H locs ht9 hvm9 hw9 hB9 hz9 hk9 hS => ?_)
              obtain ⟨rfl, rfl⟩ : r9 = (ff_M_create (ff_M_enter u0 (ff_M_search u0 p0) p0) (ff_M_search u0 p0) p1 (0 : Int32)).1 ∧ v9 = (ff_M_create (ff_M_enter u0 (ff_M_search u0 p0) p0) (ff_M_search u0 p0) p1 (0 : Int32)).2 := by rw [← hw9]; exact ⟨rfl, rfl⟩
              obtain ⟨hP, -, hD⟩ := hB9
              rw [ht9] at hP
              exact W.iret (v := ((ff_M_create (ff_M_enter u0 (ff_M_search u0 p0) p0) (ff_M_search u0 p0) p1 (0 : Int32)).1)) hx hb hr (fun t ht hW => ⟨⟨((ff_M_create (ff_M_enter u0 (ff_M_search u0 p0) p0) (ff_M_search u0 p0) p1 (0 : Int32)).1), (ff_M_create (ff_M_enter u0 (ff_M_search u0 p0) p0) (ff_M_search u0 p0) p1 (0 : Int32)).2, rfl, hf.symm, pM_up hP hK hD ht hW⟩, hS.F ht⟩) hS.2.2 dd_M_makeArray_69
            · have hf := hf.trans (if_pos c7)
              have hok := hok.1 c7
              refine lv_bipush (v := (-8)) hx hb dd_M_makeArray_53 (by decide) ?_
              exact W.iret (v := ((-8) : Int32)) hx hb hr (fun t ht hW => ⟨⟨((-8) : Int32), u0, rfl, hf.symm, pM_up hP hK hD ht hW⟩, hS.F ht⟩) hS.2.2 dd_M_makeArray_55
      · have hf := hf.trans (if_neg c4)
        have hok := hok.2 c4
        refine lv_bipush (v := (-3)) hx hb dd_M_makeArray_29 (by decide) ?_
        exact W.iret (v := ((-3) : Int32)) hx hb hr (fun t ht hW => ⟨⟨((-3) : Int32), u0, rfl, hf.symm, pM_up hP hK hD ht hW⟩, hS.F ht⟩) hS.2.2 dd_M_makeArray_31
    · have hf := hf.trans (if_pos c3)
      have hok := hok.1 c3
      refine lv_bipush (v := (-2)) hx hb dd_M_makeArray_22 (by decide) ?_
      exact W.iret (v := ((-2) : Int32)) hx hb hr (fun t ht hW => ⟨⟨((-2) : Int32), u0, rfl, hf.symm, pM_up hP hK hD ht hW⟩, hS.F ht⟩) hS.2.2 dd_M_makeArray_24
  · have hf := hf.trans (if_neg c1)
    have hok := hok.2 c1
    refine lv_iconst (v := (-1)) hx hb dd_M_makeArray_8 (by decide) ?_
    exact W.iret (v := ((-1) : Int32)) hx hb hr (fun t ht hW => ⟨⟨((-1) : Int32), u0, rfl, hf.symm, pM_up hP hK hD ht hW⟩, hS.F ht⟩) hS.2.2 dd_M_makeArray_9

def ff_M_classOf (u0 : SM) (p0 : Int32) : Int32 := (if (ff_M_noObject u0 p0) = 0 then m_kind u0 p0.toNatClampNeg else (-1))
def ok_M_classOf (u0 : SM) (p0 : Int32) : Prop := ((((ff_M_noObject u0 p0) = 0) → vp_in p0 80) ∧ (¬ ((ff_M_noObject u0 p0) = 0) → True))
abbrev ws_M_classOf : List Cond := .code yy_M_classOf bb_M_classOf 2 (some .int) :: gW
abbrev rm_M_classOf : Room := { frames := 1, cells := 0, slots := 0, locals := 21 }
set_option maxHeartbeats 4000000 in
set_option maxRecDepth 100000 in
theorem mm_M_classOf (l : Launch) (dC : Nat → ClassId) (dI : Nat → Nat → Nat) (h : Nat) (a : Nat → Nat) (k : Nat → ClassId) (u0 : SM) (p0 : Int32) (hok : ok_M_classOf u0 p0) : Met l yy_M_classOf ws_M_classOf rm_M_classOf (va_Pc [.ref h, .int p0] (pM dC dI h a k u0)) (vp_Si (fun r => r = ff_M_classOf u0 p0)) 0 0 (fun _ => False) := by
  refine Met.ofW (cc := bb_M_classOf) (maxL := 2) (ret := (some .int)) (by decide) rfl ?_
  intro p e s m args below meth c s₁ B hml hv
  obtain ⟨rfl, hP, hK, hD⟩ := hv
  have hx := B.exec
  have hb := B.bytes
  have hr := B.returns
  have hts : ∀ w ∈ gW, w.before _ s = true := fun w h => atoms_spec (ws := ws_M_classOf) B.pre w (List.mem_cons_of_mem _ h)
  have hown : s.vm.findClass "ClassObjectMirrorModel" = some m.cls := findClass_of_methodNamed B.named
  have hlocks := B.notSynchronized
  have hS : va_S (aM h a) s.heap s.heap [] := va_S.rf
  have hl := lv_entry ([.ref h, .int p0]) (n := 2) (Nat.le_of_ble_eq_true rfl)
  rw [lg_entry_eq]
  generalize (lg_sl ([.ref h, .int p0]) ++ List.replicate (2 - (lg_sl ([.ref h, .int p0])).length) Slot.unset).toArray = ls at hl ⊢
  have hl : lv_has ls 2 [(0, .ref h), (1, .int p0)] := hl
  have hf := ff_M_classOf.eq_1 u0 p0
  unfold ok_M_classOf at hok
  refine lv_aload_n hx hb dd_M_classOf_0 rfl (lv_at hl 0 rfl) ?_
  refine lv_iload_n hx hb dd_M_classOf_1 rfl (lv_at hl 1 rfl) ?_
  refine vp_callSi (W.runV (As := [.int p0]) (rest := []) ⟨hx, hb, hml, hown, hts⟩ (mm_M_noObject l dC dI h a k u0 p0) (cwV 1 hts (gg_V gw_460 gw_462 gs_29 gw_2 gw_463) rfl rfl rfl (by decide +kernel) ⟨Nat.le_of_ble_eq_true rfl, Nat.le_of_ble_eq_true rfl⟩) ⟨pM_bl, va_recv hK hP (ci := 0) (q0 := 0) rfl rfl, fun U hU hW => ⟨rfl, pM_up hP hK hD hU hW⟩⟩ rfl rfl hl.1 rfl (lv_room (Nat.le_of_ble_eq_true rfl)) dd_M_classOf_2 ⟨Nat.zero_le _, Nat.zero_le _⟩) (fun r hr9 => ?_)
  subst hr9
  refine lv_if_eq (tgt := 12) hx hb dd_M_classOf_5 (by decide) (fun c1 => ?_) (fun c1 => ?_)
  · have hf := hf.trans (if_pos c1)
    have hok := hok.1 c1
    refine lv_aload_n hx hb dd_M_classOf_12 rfl (lv_at hl 0 rfl) ?_
    refine va_get (D := (dC, dI)) (ci := 0) (v := .ref (a 4)) (C := "ClassObjectMirrorModel") (T := TM) (N := 12) hx hb hts inM hown hK hP 0 rfl rfl 5 (by decide) (hts _ gw_306) (fun _ h9 => h9) rfl dd_M_classOf_13 ?_
    refine lv_iload_n hx hb dd_M_classOf_16 rfl (lv_at hl 1 rfl) ?_
    have n2 := hok
    refine va_iald hx hb hK hP 5 4 rfl rfl n2 dd_M_classOf_17 ?_
    exact W.iret (v := (m_kind u0 p0.toNatClampNeg)) hx hb hr (fun t ht hW => ⟨(m_kind u0 p0.toNatClampNeg), rfl, hf.symm, ht⟩) (fun _ h => by cases h) dd_M_classOf_18
  · have hf := hf.trans (if_neg c1)
    have hok := hok.2 c1
    refine lv_iconst (v := (-1)) hx hb dd_M_classOf_8 (by decide) ?_
    refine lv_goto (tgt := 18) hx hb dd_M_classOf_9 (by decide) ?_
    exact W.iret (v := ((-1) : Int32)) hx hb hr (fun t ht hW => ⟨((-1) : Int32), rfl, hf.symm, ht⟩) (fun _ h => by cases h) dd_M_classOf_18

def ff_M_instance (u0 : SM) (p0 : Int32) (p1 : Int32) : Int32 := (if (ff_M_noType u0 p0) = 0 then (if (ff_M_noObject u0 p1) = 0 then (if (ff_M_above u0 p0 (m_kind u0 p1.toNatClampNeg)) = 0 then 0 else 1) else (-1)) else (-1))
def ok_M_instance (u0 : SM) (p0 : Int32) (p1 : Int32) : Prop := ((((ff_M_noType u0 p0) = 0) → ((((ff_M_noObject u0 p1) = 0) → (vp_in p1 80) ∧ ok_M_above u0 p0 (m_kind u0 p1.toNatClampNeg)) ∧ (¬ ((ff_M_noObject u0 p1) = 0) → True))) ∧ (¬ ((ff_M_noType u0 p0) = 0) → True))
abbrev ws_M_instance : List Cond := .code yy_M_instance bb_M_instance 3 (some .int) :: gW
abbrev rm_M_instance : Room := { frames := 2, cells := 0, slots := 0, locals := 45 }
set_option maxHeartbeats 4000000 in
set_option maxRecDepth 100000 in
theorem mm_M_instance (l : Launch) (dC : Nat → ClassId) (dI : Nat → Nat → Nat) (h : Nat) (a : Nat → Nat) (k : Nat → ClassId) (u0 : SM) (p0 : Int32) (p1 : Int32) (hok : ok_M_instance u0 p0 p1) : Met l yy_M_instance ws_M_instance rm_M_instance (va_Pc [.ref h, .int p0, .int p1] (pM dC dI h a k u0)) (vp_Si (fun r => r = ff_M_instance u0 p0 p1)) 0 0 (fun _ => False) := by
  refine Met.ofW (cc := bb_M_instance) (maxL := 3) (ret := (some .int)) (by decide) rfl ?_
  intro p e s m args below meth c s₁ B hml hv
  obtain ⟨rfl, hP, hK, hD⟩ := hv
  have hx := B.exec
  have hb := B.bytes
  have hr := B.returns
  have hts : ∀ w ∈ gW, w.before _ s = true := fun w h => atoms_spec (ws := ws_M_instance) B.pre w (List.mem_cons_of_mem _ h)
  have hown : s.vm.findClass "ClassObjectMirrorModel" = some m.cls := findClass_of_methodNamed B.named
  have hlocks := B.notSynchronized
  have hS : va_S (aM h a) s.heap s.heap [] := va_S.rf
  have hl := lv_entry ([.ref h, .int p0, .int p1]) (n := 3) (Nat.le_of_ble_eq_true rfl)
  rw [lg_entry_eq]
  generalize (lg_sl ([.ref h, .int p0, .int p1]) ++ List.replicate (3 - (lg_sl ([.ref h, .int p0, .int p1])).length) Slot.unset).toArray = ls at hl ⊢
  have hl : lv_has ls 3 [(0, .ref h), (1, .int p0), (2, .int p1)] := hl
  have hf := ff_M_instance.eq_1 u0 p0 p1
  unfold ok_M_instance at hok
  refine lv_aload_n hx hb dd_M_instance_0 rfl (lv_at hl 0 rfl) ?_
  refine lv_iload_n hx hb dd_M_instance_1 rfl (lv_at hl 1 rfl) ?_
  refine vp_callSi (W.runV (As := [.int p0]) (rest := []) ⟨hx, hb, hml, hown, hts⟩ (mm_M_noType l dC dI h a k u0 p0) (cwV 1 hts (gg_V gw_342 gw_344 gs_18 gw_2 gw_345) rfl rfl rfl (by decide +kernel) ⟨Nat.le_of_ble_eq_true rfl, Nat.le_of_ble_eq_true rfl⟩) ⟨pM_bl, va_recv hK hP (ci := 0) (q0 := 0) rfl rfl, fun U hU hW => ⟨rfl, pM_up hP hK hD hU hW⟩⟩ rfl rfl hl.1 rfl (lv_room (Nat.le_of_ble_eq_true rfl)) dd_M_instance_2 ⟨Nat.zero_le _, Nat.zero_le _⟩) (fun r hr9 => ?_)
  subst hr9
  refine lv_if_ne (tgt := 16) hx hb dd_M_instance_5 (by decide) (fun c1 => ?_) (fun c1 => ?_)
  · have hf := hf.trans (if_neg c1)
    have hok := hok.2 c1
    refine lv_iconst (v := (-1)) hx hb dd_M_instance_16 (by decide) ?_
    refine lv_goto (tgt := 39) hx hb dd_M_instance_17 (by decide) ?_
    exact W.iret (v := ((-1) : Int32)) hx hb hr (fun t ht hW => ⟨((-1) : Int32), rfl, hf.symm, ht⟩) (fun _ h => by cases h) dd_M_instance_39
  · have hf := hf.trans (if_pos c1)
    have hok := hok.1 c1
    refine lv_aload_n hx hb dd_M_instance_8 rfl (lv_at hl 0 rfl) ?_
    refine lv_iload_n hx hb dd_M_instance_9 rfl (lv_at hl 2 rfl) ?_
    refine vp_callSi (W.runV (As := [.int p1]) (rest := []) ⟨hx, hb, hml, hown, hts⟩ (mm_M_noObject l dC dI h a k u0 p1) (cwV 1 hts (gg_V gw_460 gw_462 gs_29 gw_2 gw_463) rfl rfl rfl (by decide +kernel) ⟨Nat.le_of_ble_eq_true rfl, Nat.le_of_ble_eq_true rfl⟩) ⟨pM_bl, va_recv hK hP (ci := 0) (q0 := 0) rfl rfl, fun U hU hW => ⟨rfl, pM_up hP hK hD hU hW⟩⟩ rfl rfl hl.1 rfl (lv_room (Nat.le_of_ble_eq_true rfl)) dd_M_instance_10 ⟨Nat.zero_le _, Nat.zero_le _⟩) (fun r hr9 => ?_)
    subst hr9
    refine lv_if_eq (tgt := 20) hx hb dd_M_instance_13 (by decide) (fun c2 => ?_) (fun c2 => ?_)
    · have hf := hf.trans (if_pos c2)
      have hok := hok.1 c2
      refine lv_aload_n hx hb dd_M_instance_20 rfl (lv_at hl 0 rfl) ?_
      refine lv_iload_n hx hb dd_M_instance_21 rfl (lv_at hl 1 rfl) ?_
      refine lv_aload_n hx hb dd_M_instance_22 rfl (lv_at hl 0 rfl) ?_
      refine va_get (D := (dC, dI)) (ci := 0) (v := .ref (a 4)) (C := "ClassObjectMirrorModel") (T := TM) (N := 12) hx hb hts inM hown hK hP 0 rfl rfl 5 (by decide) (hts _ gw_306) (fun _ h9 => h9) rfl dd_M_instance_23 ?_
      refine lv_iload_n hx hb dd_M_instance_26 rfl (lv_at hl 2 rfl) ?_
      obtain ⟨n3, hok⟩ := hok
      refine va_iald hx hb hK hP 5 4 rfl rfl n3 dd_M_instance_27 ?_
      have n4 := hok
      refine vp_callSi (W.runV (As := [.int p0, .int (m_kind u0 p1.toNatClampNeg)]) (rest := []) ⟨hx, hb, hml, hown, hts⟩ (mm_M_above l dC dI h a k u0 p0 (m_kind u0 p1.toNatClampNeg) n4) (cwV 2 hts (gg_V gw_366 gw_368 gs_21 gw_2 gw_369) rfl rfl rfl (by decide +kernel) ⟨Nat.le_of_ble_eq_true rfl, Nat.le_of_ble_eq_true rfl⟩) ⟨pM_bl, va_recv hK hP (ci := 0) (q0 := 0) rfl rfl, fun U hU hW => ⟨rfl, pM_up hP hK hD hU hW⟩⟩ rfl rfl hl.1 rfl (lv_room (Nat.le_of_ble_eq_true rfl)) dd_M_instance_28 ⟨Nat.zero_le _, Nat.zero_le _⟩) (fun r hr9 => ?_)
      subst hr9
      refine lv_if_eq (tgt := 38) hx hb dd_M_instance_31 (by decide) (fun c5 => ?_) (fun c5 => ?_)
      · have hf := hf.trans (if_pos c5)
        refine lv_iconst (v := 0) hx hb dd_M_instance_38 (by decide) ?_
        exact W.iret (v := (0 : Int32)) hx hb hr (fun t ht hW => ⟨(0 : Int32), rfl, hf.symm, ht⟩) (fun _ h => by cases h) dd_M_instance_39
      · have hf := hf.trans (if_neg c5)
        refine lv_iconst (v := 1) hx hb dd_M_instance_34 (by decide) ?_
        refine lv_goto (tgt := 39) hx hb dd_M_instance_35 (by decide) ?_
        exact W.iret (v := (1 : Int32)) hx hb hr (fun t ht hW => ⟨(1 : Int32), rfl, hf.symm, ht⟩) (fun _ h => by cases h) dd_M_instance_39
    · have hf := hf.trans (if_neg c2)
      have hok := hok.2 c2
      refine lv_iconst (v := (-1)) hx hb dd_M_instance_16 (by decide) ?_
      refine lv_goto (tgt := 39) hx hb dd_M_instance_17 (by decide) ?_
      exact W.iret (v := ((-1) : Int32)) hx hb hr (fun t ht hW => ⟨((-1) : Int32), rfl, hf.symm, ht⟩) (fun _ h => by cases h) dd_M_instance_39

def ff_M_cast (u0 : SM) (p0 : Int32) (p1 : Int32) : Int32 := (if (ff_M_noType u0 p0) = 0 then (if (ff_M_noObject u0 p1) = 0 then (if p0 ≤ 8 then (-4) else (if (ff_M_above u0 p0 (m_kind u0 p1.toNatClampNeg)) = 0 then (-4) else p1)) else (-1)) else (-1))
def ok_M_cast (u0 : SM) (p0 : Int32) (p1 : Int32) : Prop := ((((ff_M_noType u0 p0) = 0) → ((((ff_M_noObject u0 p1) = 0) → (((p0 ≤ 8) → True) ∧ (¬ (p0 ≤ 8) → (vp_in p1 80) ∧ ok_M_above u0 p0 (m_kind u0 p1.toNatClampNeg)))) ∧ (¬ ((ff_M_noObject u0 p1) = 0) → True))) ∧ (¬ ((ff_M_noType u0 p0) = 0) → True))
abbrev ws_M_cast : List Cond := .code yy_M_cast bb_M_cast 3 (some .int) :: gW
abbrev rm_M_cast : Room := { frames := 2, cells := 0, slots := 0, locals := 45 }
set_option maxHeartbeats 4000000 in
set_option maxRecDepth 100000 in
theorem mm_M_cast (l : Launch) (dC : Nat → ClassId) (dI : Nat → Nat → Nat) (h : Nat) (a : Nat → Nat) (k : Nat → ClassId) (u0 : SM) (p0 : Int32) (p1 : Int32) (hok : ok_M_cast u0 p0 p1) : Met l yy_M_cast ws_M_cast rm_M_cast (va_Pc [.ref h, .int p0, .int p1] (pM dC dI h a k u0)) (vp_Si (fun r => r = ff_M_cast u0 p0 p1)) 0 0 (fun _ => False) := by
  refine Met.ofW (cc := bb_M_cast) (maxL := 3) (ret := (some .int)) (by decide) rfl ?_
  intro p e s m args below meth c s₁ B hml hv
  obtain ⟨rfl, hP, hK, hD⟩ := hv
  have hx := B.exec
  have hb := B.bytes
  have hr := B.returns
  have hts : ∀ w ∈ gW, w.before _ s = true := fun w h => atoms_spec (ws := ws_M_cast) B.pre w (List.mem_cons_of_mem _ h)
  have hown : s.vm.findClass "ClassObjectMirrorModel" = some m.cls := findClass_of_methodNamed B.named
  have hlocks := B.notSynchronized
  have hS : va_S (aM h a) s.heap s.heap [] := va_S.rf
  have hl := lv_entry ([.ref h, .int p0, .int p1]) (n := 3) (Nat.le_of_ble_eq_true rfl)
  rw [lg_entry_eq]
  generalize (lg_sl ([.ref h, .int p0, .int p1]) ++ List.replicate (3 - (lg_sl ([.ref h, .int p0, .int p1])).length) Slot.unset).toArray = ls at hl ⊢
  have hl : lv_has ls 3 [(0, .ref h), (1, .int p0), (2, .int p1)] := hl
  have hf := ff_M_cast.eq_1 u0 p0 p1
  unfold ok_M_cast at hok
  refine lv_aload_n hx hb dd_M_cast_0 rfl (lv_at hl 0 rfl) ?_
  refine lv_iload_n hx hb dd_M_cast_1 rfl (lv_at hl 1 rfl) ?_
  refine vp_callSi (W.runV (As := [.int p0]) (rest := []) ⟨hx, hb, hml, hown, hts⟩ (mm_M_noType l dC dI h a k u0 p0) (cwV 1 hts (gg_V gw_342 gw_344 gs_18 gw_2 gw_345) rfl rfl rfl (by decide +kernel) ⟨Nat.le_of_ble_eq_true rfl, Nat.le_of_ble_eq_true rfl⟩) ⟨pM_bl, va_recv hK hP (ci := 0) (q0 := 0) rfl rfl, fun U hU hW => ⟨rfl, pM_up hP hK hD hU hW⟩⟩ rfl rfl hl.1 rfl (lv_room (Nat.le_of_ble_eq_true rfl)) dd_M_cast_2 ⟨Nat.zero_le _, Nat.zero_le _⟩) (fun r hr9 => ?_)
  subst hr9
  refine lv_if_ne (tgt := 16) hx hb dd_M_cast_5 (by decide) (fun c1 => ?_) (fun c1 => ?_)
  · have hf := hf.trans (if_neg c1)
    have hok := hok.2 c1
    refine lv_iconst (v := (-1)) hx hb dd_M_cast_16 (by decide) ?_
    exact W.iret (v := ((-1) : Int32)) hx hb hr (fun t ht hW => ⟨((-1) : Int32), rfl, hf.symm, ht⟩) (fun _ h => by cases h) dd_M_cast_17
  · have hf := hf.trans (if_pos c1)
    have hok := hok.1 c1
    refine lv_aload_n hx hb dd_M_cast_8 rfl (lv_at hl 0 rfl) ?_
    refine lv_iload_n hx hb dd_M_cast_9 rfl (lv_at hl 2 rfl) ?_
    refine vp_callSi (W.runV (As := [.int p1]) (rest := []) ⟨hx, hb, hml, hown, hts⟩ (mm_M_noObject l dC dI h a k u0 p1) (cwV 1 hts (gg_V gw_460 gw_462 gs_29 gw_2 gw_463) rfl rfl rfl (by decide +kernel) ⟨Nat.le_of_ble_eq_true rfl, Nat.le_of_ble_eq_true rfl⟩) ⟨pM_bl, va_recv hK hP (ci := 0) (q0 := 0) rfl rfl, fun U hU hW => ⟨rfl, pM_up hP hK hD hU hW⟩⟩ rfl rfl hl.1 rfl (lv_room (Nat.le_of_ble_eq_true rfl)) dd_M_cast_10 ⟨Nat.zero_le _, Nat.zero_le _⟩) (fun r hr9 => ?_)
    subst hr9
    refine lv_if_eq (tgt := 18) hx hb dd_M_cast_13 (by decide) (fun c2 => ?_) (fun c2 => ?_)
    · have hf := hf.trans (if_pos c2)
      have hok := hok.1 c2
      refine lv_iload_n hx hb dd_M_cast_18 rfl (lv_at hl 1 rfl) ?_
      refine lv_bipush (v := 8) hx hb dd_M_cast_19 (by decide) ?_
      refine lv_icmp_le (tgt := 42) hx hb dd_M_cast_21 (by decide) (fun c3 => ?_) (fun c3 => ?_)
      · have hf := hf.trans (if_pos c3)
        have hok := hok.1 c3
        refine lv_bipush (v := (-4)) hx hb dd_M_cast_42 (by decide) ?_
        exact W.iret (v := ((-4) : Int32)) hx hb hr (fun t ht hW => ⟨((-4) : Int32), rfl, hf.symm, ht⟩) (fun _ h => by cases h) dd_M_cast_44
      · have hf := hf.trans (if_neg c3)
        have hok := hok.2 c3
        refine lv_aload_n hx hb dd_M_cast_24 rfl (lv_at hl 0 rfl) ?_
        refine lv_iload_n hx hb dd_M_cast_25 rfl (lv_at hl 1 rfl) ?_
        refine lv_aload_n hx hb dd_M_cast_26 rfl (lv_at hl 0 rfl) ?_
        refine va_get (D := (dC, dI)) (ci := 0) (v := .ref (a 4)) (C := "ClassObjectMirrorModel") (T := TM) (N := 12) hx hb hts inM hown hK hP 0 rfl rfl 5 (by decide) (hts _ gw_306) (fun _ h9 => h9) rfl dd_M_cast_27 ?_
        refine lv_iload_n hx hb dd_M_cast_30 rfl (lv_at hl 2 rfl) ?_
        obtain ⟨n4, hok⟩ := hok
        refine va_iald hx hb hK hP 5 4 rfl rfl n4 dd_M_cast_31 ?_
        have n5 := hok
        refine vp_callSi (W.runV (As := [.int p0, .int (m_kind u0 p1.toNatClampNeg)]) (rest := []) ⟨hx, hb, hml, hown, hts⟩ (mm_M_above l dC dI h a k u0 p0 (m_kind u0 p1.toNatClampNeg) n5) (cwV 2 hts (gg_V gw_366 gw_368 gs_21 gw_2 gw_369) rfl rfl rfl (by decide +kernel) ⟨Nat.le_of_ble_eq_true rfl, Nat.le_of_ble_eq_true rfl⟩) ⟨pM_bl, va_recv hK hP (ci := 0) (q0 := 0) rfl rfl, fun U hU hW => ⟨rfl, pM_up hP hK hD hU hW⟩⟩ rfl rfl hl.1 rfl (lv_room (Nat.le_of_ble_eq_true rfl)) dd_M_cast_32 ⟨Nat.zero_le _, Nat.zero_le _⟩) (fun r hr9 => ?_)
        subst hr9
        refine lv_if_eq (tgt := 42) hx hb dd_M_cast_35 (by decide) (fun c6 => ?_) (fun c6 => ?_)
        · have hf := hf.trans (if_pos c6)
          refine lv_bipush (v := (-4)) hx hb dd_M_cast_42 (by decide) ?_
          exact W.iret (v := ((-4) : Int32)) hx hb hr (fun t ht hW => ⟨((-4) : Int32), rfl, hf.symm, ht⟩) (fun _ h => by cases h) dd_M_cast_44
        · have hf := hf.trans (if_neg c6)
          refine lv_iload_n hx hb dd_M_cast_38 rfl (lv_at hl 2 rfl) ?_
          refine lv_goto (tgt := 44) hx hb dd_M_cast_39 (by decide) ?_
          exact W.iret (v := p1) hx hb hr (fun t ht hW => ⟨p1, rfl, hf.symm, ht⟩) (fun _ h => by cases h) dd_M_cast_44
    · have hf := hf.trans (if_neg c2)
      have hok := hok.2 c2
      refine lv_iconst (v := (-1)) hx hb dd_M_cast_16 (by decide) ?_
      exact W.iret (v := ((-1) : Int32)) hx hb hr (fun t ht hW => ⟨((-1) : Int32), rfl, hf.symm, ht⟩) (fun _ h => by cases h) dd_M_cast_17

def ff_M_array (u0 : SM) (p0 : Int32) : Int32 := (if 0 ≤ (m_size u0 p0.toNatClampNeg) then (if (ff_M_base (m_comp u0 (m_kind u0 p0.toNatClampNeg).toNatClampNeg)) = 0 then 2 else 1) else 0)
def ok_M_array (u0 : SM) (p0 : Int32) : Prop := (vp_in p0 80) ∧ (((0 ≤ (m_size u0 p0.toNatClampNeg)) → (vp_in p0 80) ∧ vp_in (m_kind u0 p0.toNatClampNeg) 300) ∧ (¬ (0 ≤ (m_size u0 p0.toNatClampNeg)) → True))
abbrev ws_M_array : List Cond := .code yy_M_array bb_M_array 2 (some .int) :: gW
abbrev rm_M_array : Room := { frames := 1, cells := 0, slots := 0, locals := 20 }
set_option maxHeartbeats 4000000 in
set_option maxRecDepth 100000 in
theorem mm_M_array (l : Launch) (dC : Nat → ClassId) (dI : Nat → Nat → Nat) (h : Nat) (a : Nat → Nat) (k : Nat → ClassId) (u0 : SM) (p0 : Int32) (hok : ok_M_array u0 p0) : Met l yy_M_array ws_M_array rm_M_array (va_Pc [.ref h, .int p0] (pM dC dI h a k u0)) (vp_Si (fun r => r = ff_M_array u0 p0)) 0 0 (fun _ => False) := by
  refine Met.ofW (cc := bb_M_array) (maxL := 2) (ret := (some .int)) (by decide) rfl ?_
  intro p e s m args below meth c s₁ B hml hv
  obtain ⟨rfl, hP, hK, hD⟩ := hv
  have hx := B.exec
  have hb := B.bytes
  have hr := B.returns
  have hts : ∀ w ∈ gW, w.before _ s = true := fun w h => atoms_spec (ws := ws_M_array) B.pre w (List.mem_cons_of_mem _ h)
  have hown : s.vm.findClass "ClassObjectMirrorModel" = some m.cls := findClass_of_methodNamed B.named
  have hlocks := B.notSynchronized
  have hS : va_S (aM h a) s.heap s.heap [] := va_S.rf
  have hl := lv_entry ([.ref h, .int p0]) (n := 2) (Nat.le_of_ble_eq_true rfl)
  rw [lg_entry_eq]
  generalize (lg_sl ([.ref h, .int p0]) ++ List.replicate (2 - (lg_sl ([.ref h, .int p0])).length) Slot.unset).toArray = ls at hl ⊢
  have hl : lv_has ls 2 [(0, .ref h), (1, .int p0)] := hl
  have hf := ff_M_array.eq_1 u0 p0
  unfold ok_M_array at hok
  refine lv_aload_n hx hb dd_M_array_0 rfl (lv_at hl 0 rfl) ?_
  refine va_get (D := (dC, dI)) (ci := 0) (v := .ref (a 5)) (C := "ClassObjectMirrorModel") (T := TM) (N := 12) hx hb hts inM hown hK hP 0 rfl rfl 6 (by decide) (hts _ gw_307) (fun _ h9 => h9) rfl dd_M_array_1 ?_
  refine lv_iload_n hx hb dd_M_array_4 rfl (lv_at hl 1 rfl) ?_
  obtain ⟨n1, hok⟩ := hok
  refine va_iald hx hb hK hP 6 5 rfl rfl n1 dd_M_array_5 ?_
  refine lv_if_ge (tgt := 13) hx hb dd_M_array_6 (by decide) (fun c2 => ?_) (fun c2 => ?_)
  · have hf := hf.trans (if_pos c2)
    have hok := hok.1 c2
    refine lv_aload_n hx hb dd_M_array_13 rfl (lv_at hl 0 rfl) ?_
    refine va_get (D := (dC, dI)) (ci := 0) (v := .ref (a 2)) (C := "ClassObjectMirrorModel") (T := TM) (N := 12) hx hb hts inM hown hK hP 0 rfl rfl 2 (by decide) (hts _ gw_303) (fun _ h9 => h9) rfl dd_M_array_14 ?_
    refine lv_aload_n hx hb dd_M_array_17 rfl (lv_at hl 0 rfl) ?_
    refine va_get (D := (dC, dI)) (ci := 0) (v := .ref (a 4)) (C := "ClassObjectMirrorModel") (T := TM) (N := 12) hx hb hts inM hown hK hP 0 rfl rfl 5 (by decide) (hts _ gw_306) (fun _ h9 => h9) rfl dd_M_array_18 ?_
    refine lv_iload_n hx hb dd_M_array_21 rfl (lv_at hl 1 rfl) ?_
    obtain ⟨n3, hok⟩ := hok
    refine va_iald hx hb hK hP 5 4 rfl rfl n3 dd_M_array_22 ?_
    have n4 := hok
    refine va_iald hx hb hK hP 3 2 rfl rfl n4 dd_M_array_23 ?_
    refine vp_callSi (W.runS (As := [.int (m_comp u0 (m_kind u0 p0.toNatClampNeg).toNatClampNeg)]) (rest := []) ⟨hx, hb, hml, hown, hts⟩ (mm_M_base l (m_comp u0 (m_kind u0 p0.toNatClampNeg).toNatClampNeg)) (va_cwS 1 hts (gg_S gw_370 gw_371 gw_2 gw_372) rfl rfl rfl (by decide +kernel) ⟨Nat.le_of_ble_eq_true rfl, Nat.le_of_ble_eq_true rfl⟩) ⟨fun a U g mk q => q, fun U hU hW => ⟨rfl, trivial⟩⟩ rfl rfl hl.1 rfl (lv_room (Nat.le_of_ble_eq_true rfl)) dd_M_array_24 ⟨Nat.zero_le _, Nat.zero_le _⟩) (fun r hr9 => ?_)
    subst hr9
    refine lv_if_eq (tgt := 34) hx hb dd_M_array_27 (by decide) (fun c5 => ?_) (fun c5 => ?_)
    · have hf := hf.trans (if_pos c5)
      refine lv_iconst (v := 2) hx hb dd_M_array_34 (by decide) ?_
      exact W.iret (v := (2 : Int32)) hx hb hr (fun t ht hW => ⟨(2 : Int32), rfl, hf.symm, ht⟩) (fun _ h => by cases h) dd_M_array_35
    · have hf := hf.trans (if_neg c5)
      refine lv_iconst (v := 1) hx hb dd_M_array_30 (by decide) ?_
      refine lv_goto (tgt := 35) hx hb dd_M_array_31 (by decide) ?_
      exact W.iret (v := (1 : Int32)) hx hb hr (fun t ht hW => ⟨(1 : Int32), rfl, hf.symm, ht⟩) (fun _ h => by cases h) dd_M_array_35
  · have hf := hf.trans (if_neg c2)
    have hok := hok.2 c2
    refine lv_iconst (v := 0) hx hb dd_M_array_9 (by decide) ?_
    refine lv_goto (tgt := 35) hx hb dd_M_array_10 (by decide) ?_
    exact W.iret (v := (0 : Int32)) hx hb hr (fun t ht hW => ⟨(0 : Int32), rfl, hf.symm, ht⟩) (fun _ h => by cases h) dd_M_array_35

def ff_M_outside (u0 : SM) (p0 : Int32) (p1 : Int32) : Int32 := (if p1 < 0 then 1 else (if p1 < (m_size u0 p0.toNatClampNeg) then 0 else 1))
def ok_M_outside (u0 : SM) (p0 : Int32) (p1 : Int32) : Prop := (((p1 < 0) → True) ∧ (¬ (p1 < 0) → vp_in p0 80))
abbrev ws_M_outside : List Cond := .code yy_M_outside bb_M_outside 3 (some .boolean) :: gW
abbrev rm_M_outside : Room := { frames := 0, cells := 0, slots := 0, locals := 0 }
set_option maxHeartbeats 4000000 in
set_option maxRecDepth 100000 in
theorem mm_M_outside (l : Launch) (dC : Nat → ClassId) (dI : Nat → Nat → Nat) (h : Nat) (a : Nat → Nat) (k : Nat → ClassId) (u0 : SM) (p0 : Int32) (p1 : Int32) (hok : ok_M_outside u0 p0 p1) : Met l yy_M_outside ws_M_outside rm_M_outside (va_Pc [.ref h, .int p0, .int p1] (pM dC dI h a k u0)) (vp_Si (fun r => r = ff_M_outside u0 p0 p1)) 0 0 (fun _ => False) := by
  refine Met.ofW (cc := bb_M_outside) (maxL := 3) (ret := (some .boolean)) (by decide) rfl ?_
  intro p e s m args below meth c s₁ B hml hv
  obtain ⟨rfl, hP, hK, hD⟩ := hv
  have hx := B.exec
  have hb := B.bytes
  have hr := B.returns
  have hts : ∀ w ∈ gW, w.before _ s = true := fun w h => atoms_spec (ws := ws_M_outside) B.pre w (List.mem_cons_of_mem _ h)
  have hown : s.vm.findClass "ClassObjectMirrorModel" = some m.cls := findClass_of_methodNamed B.named
  have hlocks := B.notSynchronized
  have hS : va_S (aM h a) s.heap s.heap [] := va_S.rf
  have hl := lv_entry ([.ref h, .int p0, .int p1]) (n := 3) (Nat.le_of_ble_eq_true rfl)
  rw [lg_entry_eq]
  generalize (lg_sl ([.ref h, .int p0, .int p1]) ++ List.replicate (3 - (lg_sl ([.ref h, .int p0, .int p1])).length) Slot.unset).toArray = ls at hl ⊢
  have hl : lv_has ls 3 [(0, .ref h), (1, .int p0), (2, .int p1)] := hl
  have hf := ff_M_outside.eq_1 u0 p0 p1
  unfold ok_M_outside at hok
  refine lv_iload_n hx hb dd_M_outside_0 rfl (lv_at hl 2 rfl) ?_
  refine lv_if_lt (tgt := 14) hx hb dd_M_outside_1 (by decide) (fun c1 => ?_) (fun c1 => ?_)
  · have hf := hf.trans (if_pos c1)
    have hok := hok.1 c1
    refine lv_iconst (v := 1) hx hb dd_M_outside_14 (by decide) ?_
    refine lv_goto (tgt := 19) hx hb dd_M_outside_15 (by decide) ?_
    exact W.zret (ty := .boolean) (v := (1 : Int32)) hx hb hr (by decide) (fun t ht hW => ⟨(1 : Int32), rfl, hf.symm, ht⟩) (fun _ h => by cases h) dd_M_outside_19
  · have hf := hf.trans (if_neg c1)
    have hok := hok.2 c1
    refine lv_iload_n hx hb dd_M_outside_4 rfl (lv_at hl 2 rfl) ?_
    refine lv_aload_n hx hb dd_M_outside_5 rfl (lv_at hl 0 rfl) ?_
    refine va_get (D := (dC, dI)) (ci := 0) (v := .ref (a 5)) (C := "ClassObjectMirrorModel") (T := TM) (N := 12) hx hb hts inM hown hK hP 0 rfl rfl 6 (by decide) (hts _ gw_307) (fun _ h9 => h9) rfl dd_M_outside_6 ?_
    refine lv_iload_n hx hb dd_M_outside_9 rfl (lv_at hl 1 rfl) ?_
    have n2 := hok
    refine va_iald hx hb hK hP 6 5 rfl rfl n2 dd_M_outside_10 ?_
    refine lv_icmp_lt (tgt := 18) hx hb dd_M_outside_11 (by decide) (fun c3 => ?_) (fun c3 => ?_)
    · have hf := hf.trans (if_pos c3)
      refine lv_iconst (v := 0) hx hb dd_M_outside_18 (by decide) ?_
      exact W.zret (ty := .boolean) (v := (0 : Int32)) hx hb hr (by decide) (fun t ht hW => ⟨(0 : Int32), rfl, hf.symm, ht⟩) (fun _ h => by cases h) dd_M_outside_19
    · have hf := hf.trans (if_neg c3)
      refine lv_iconst (v := 1) hx hb dd_M_outside_14 (by decide) ?_
      refine lv_goto (tgt := 19) hx hb dd_M_outside_15 (by decide) ?_
      exact W.zret (ty := .boolean) (v := (1 : Int32)) hx hb hr (by decide) (fun t ht hW => ⟨(1 : Int32), rfl, hf.symm, ht⟩) (fun _ h => by cases h) dd_M_outside_19

def ff_M_store (u0 : SM) (p0 : Int32) (p1 : Int32) (p2 : Int32) : Int32 × SM := (if (ff_M_noObject u0 p0) = 0 then (if p2 = (-7) then (if (ff_M_array u0 p0) = 2 then (if (ff_M_outside u0 p0 p1) = 0 then (if p2 = (-7) then ((m_cell u0 ((8 * p0) + p1).toNatClampNeg).toInt32, m_u_cell u0 ((8 * p0) + p1) p2.toInt64) else (if (ff_M_above u0 (m_comp u0 (m_kind u0 p0.toNatClampNeg).toNatClampNeg) (m_kind u0 p2.toNatClampNeg)) = 0 then ((-6), u0) else ((m_cell u0 ((8 * p0) + p1).toNatClampNeg).toInt32, m_u_cell u0 ((8 * p0) + p1) p2.toInt64))) else ((-5), u0)) else ((-1), u0)) else (if (ff_M_noObject u0 p2) = 0 then (if (ff_M_array u0 p0) = 2 then (if (ff_M_outside u0 p0 p1) = 0 then (if p2 = (-7) then ((m_cell u0 ((8 * p0) + p1).toNatClampNeg).toInt32, m_u_cell u0 ((8 * p0) + p1) p2.toInt64) else (if (ff_M_above u0 (m_comp u0 (m_kind u0 p0.toNatClampNeg).toNatClampNeg) (m_kind u0 p2.toNatClampNeg)) = 0 then ((-6), u0) else ((m_cell u0 ((8 * p0) + p1).toNatClampNeg).toInt32, m_u_cell u0 ((8 * p0) + p1) p2.toInt64))) else ((-5), u0)) else ((-1), u0)) else ((-1), u0))) else ((-1), u0))
def ok_M_store (u0 : SM) (p0 : Int32) (p1 : Int32) (p2 : Int32) : Prop := ((((ff_M_noObject u0 p0) = 0) → (((p2 = (-7)) → (ok_M_array u0 p0) ∧ ((((ff_M_array u0 p0) = 2) → (ok_M_outside u0 p0 p1) ∧ ((((ff_M_outside u0 p0 p1) = 0) → (((p2 = (-7)) → (vp_in ((8 * p0) + p1) 640) ∧ vp_in ((8 * p0) + p1) 640) ∧ (¬ (p2 = (-7)) → (vp_in p0 80) ∧ (vp_in (m_kind u0 p0.toNatClampNeg) 300) ∧ (vp_in p2 80) ∧ (ok_M_above u0 (m_comp u0 (m_kind u0 p0.toNatClampNeg).toNatClampNeg) (m_kind u0 p2.toNatClampNeg)) ∧ ((((ff_M_above u0 (m_comp u0 (m_kind u0 p0.toNatClampNeg).toNatClampNeg) (m_kind u0 p2.toNatClampNeg)) = 0) → True) ∧ (¬ ((ff_M_above u0 (m_comp u0 (m_kind u0 p0.toNatClampNeg).toNatClampNeg) (m_kind u0 p2.toNatClampNeg)) = 0) → (vp_in ((8 * p0) + p1) 640) ∧ vp_in ((8 * p0) + p1) 640))))) ∧ (¬ ((ff_M_outside u0 p0 p1) = 0) → True))) ∧ (¬ ((ff_M_array u0 p0) = 2) → True))) ∧ (¬ (p2 = (-7)) → ((((ff_M_noObject u0 p2) = 0) → (ok_M_array u0 p0) ∧ ((((ff_M_array u0 p0) = 2) → (ok_M_outside u0 p0 p1) ∧ ((((ff_M_outside u0 p0 p1) = 0) → (((p2 = (-7)) → (vp_in ((8 * p0) + p1) 640) ∧ vp_in ((8 * p0) + p1) 640) ∧ (¬ (p2 = (-7)) → (vp_in p0 80) ∧ (vp_in (m_kind u0 p0.toNatClampNeg) 300) ∧ (vp_in p2 80) ∧ (ok_M_above u0 (m_comp u0 (m_kind u0 p0.toNatClampNeg).toNatClampNeg) (m_kind u0 p2.toNatClampNeg)) ∧ ((((ff_M_above u0 (m_comp u0 (m_kind u0 p0.toNatClampNeg).toNatClampNeg) (m_kind u0 p2.toNatClampNeg)) = 0) → True) ∧ (¬ ((ff_M_above u0 (m_comp u0 (m_kind u0 p0.toNatClampNeg).toNatClampNeg) (m_kind u0 p2.toNatClampNeg)) = 0) → (vp_in ((8 * p0) + p1) 640) ∧ vp_in ((8 * p0) + p1) 640))))) ∧ (¬ ((ff_M_outside u0 p0 p1) = 0) → True))) ∧ (¬ ((ff_M_array u0 p0) = 2) → True))) ∧ (¬ ((ff_M_noObject u0 p2) = 0) → True))))) ∧ (¬ ((ff_M_noObject u0 p0) = 0) → True))
abbrev ws_M_store : List Cond := .code yy_M_store bb_M_store 5 (some .int) :: gW
abbrev rm_M_store : Room := { frames := 2, cells := 0, slots := 0, locals := 45 }
set_option maxHeartbeats 4000000 in
set_option maxRecDepth 100000 in
theorem mm_M_store (l : Launch) (dC : Nat → ClassId) (dI : Nat → Nat → Nat) (h : Nat) (a : Nat → Nat) (k : Nat → ClassId) (u0 : SM) (p0 : Int32) (p1 : Int32) (p2 : Int32) (hok : ok_M_store u0 p0 p1 p2) : Met l yy_M_store ws_M_store rm_M_store (va_Pc [.ref h, .int p0, .int p1, .int p2] (pM dC dI h a k u0)) (va_Qi (fun (r : Int32) (v : SM) => (r, v) = ff_M_store u0 p0 p1 p2) (pM dC dI h a k) (aM h a)) 0 0 (aM h a) := by
  refine Met.ofW (cc := bb_M_store) (maxL := 5) (ret := (some .int)) (by decide) rfl ?_
  intro p e s m args below meth c s₁ B hml hv
  obtain ⟨rfl, hP, hK, hD⟩ := hv
  have hx := B.exec
  have hb := B.bytes
  have hr := B.returns
  have hts : ∀ w ∈ gW, w.before _ s = true := fun w h => atoms_spec (ws := ws_M_store) B.pre w (List.mem_cons_of_mem _ h)
  have hown : s.vm.findClass "ClassObjectMirrorModel" = some m.cls := findClass_of_methodNamed B.named
  have hlocks := B.notSynchronized
  have hS : va_S (aM h a) s.heap s.heap [] := va_S.rf
  have hl := lv_entry ([.ref h, .int p0, .int p1, .int p2]) (n := 5) (Nat.le_of_ble_eq_true rfl)
  rw [lg_entry_eq]
  generalize (lg_sl ([.ref h, .int p0, .int p1, .int p2]) ++ List.replicate (5 - (lg_sl ([.ref h, .int p0, .int p1, .int p2])).length) Slot.unset).toArray = ls at hl ⊢
  have hl : lv_has ls 5 [(0, .ref h), (1, .int p0), (2, .int p1), (3, .int p2)] := hl
  have hf := ff_M_store.eq_1 u0 p0 p1 p2
  unfold ok_M_store at hok
  refine lv_aload_n hx hb dd_M_store_0 rfl (lv_at hl 0 rfl) ?_
  refine lv_iload_n hx hb dd_M_store_1 rfl (lv_at hl 1 rfl) ?_
  refine vp_callSi (W.runV (As := [.int p0]) (rest := []) ⟨hx, hb, hml, hown, hts⟩ (mm_M_noObject l dC dI h a k u0 p0) (cwV 1 hts (gg_V gw_460 gw_462 gs_29 gw_2 gw_463) rfl rfl rfl (by decide +kernel) ⟨Nat.le_of_ble_eq_true rfl, Nat.le_of_ble_eq_true rfl⟩) ⟨pM_bl, va_recv hK hP (ci := 0) (q0 := 0) rfl rfl, fun U hU hW => ⟨rfl, pM_up hP hK hD hU hW⟩⟩ rfl rfl hl.1 rfl (lv_room (Nat.le_of_ble_eq_true rfl)) dd_M_store_2 ⟨Nat.zero_le _, Nat.zero_le _⟩) (fun r hr9 => ?_)
  subst hr9
  refine lv_if_ne (tgt := 31) hx hb dd_M_store_5 (by decide) (fun c1 => ?_) (fun c1 => ?_)
  · have hf := hf.trans (if_neg c1)
    have hok := hok.2 c1
    refine lv_iconst (v := (-1)) hx hb dd_M_store_31 (by decide) ?_
    exact W.iret (v := ((-1) : Int32)) hx hb hr (fun t ht hW => ⟨⟨((-1) : Int32), u0, rfl, hf.symm, pM_up hP hK hD ht hW⟩, hS.F ht⟩) hS.2.2 dd_M_store_32
  · have hf := hf.trans (if_pos c1)
    have hok := hok.1 c1
    refine lv_iload_n hx hb dd_M_store_8 rfl (lv_at hl 3 rfl) ?_
    refine lv_bipush (v := (-7)) hx hb dd_M_store_9 (by decide) ?_
    refine lv_icmp_eq (tgt := 22) hx hb dd_M_store_11 (by decide) (fun c2 => ?_) (fun c2 => ?_)
    · have hf := hf.trans (if_pos c2)
      have hok := hok.1 c2
      refine lv_aload_n hx hb dd_M_store_22 rfl (lv_at hl 0 rfl) ?_
      refine lv_iload_n hx hb dd_M_store_23 rfl (lv_at hl 1 rfl) ?_
      obtain ⟨n3, hok⟩ := hok
      refine vp_callSi (W.runV (As := [.int p0]) (rest := []) ⟨hx, hb, hml, hown, hts⟩ (mm_M_array l dC dI h a k u0 p0 n3) (cwV 1 hts (gg_V gw_476 gw_478 gs_30 gw_2 gw_479) rfl rfl rfl (by decide +kernel) ⟨Nat.le_of_ble_eq_true rfl, Nat.le_of_ble_eq_true rfl⟩) ⟨pM_bl, va_recv hK hP (ci := 0) (q0 := 0) rfl rfl, fun U hU hW => ⟨rfl, pM_up hP hK hD hU hW⟩⟩ rfl rfl hl.1 rfl (lv_room (Nat.le_of_ble_eq_true rfl)) dd_M_store_24 ⟨Nat.zero_le _, Nat.zero_le _⟩) (fun r hr9 => ?_)
      subst hr9
      refine lv_iconst (v := 2) hx hb dd_M_store_27 (by decide) ?_
      refine lv_icmp_eq (tgt := 33) hx hb dd_M_store_28 (by decide) (fun c4 => ?_) (fun c4 => ?_)
      · have hf := hf.trans (if_pos c4)
        have hok := hok.1 c4
        refine lv_aload_n hx hb dd_M_store_33 rfl (lv_at hl 0 rfl) ?_
        refine lv_iload_n hx hb dd_M_store_34 rfl (lv_at hl 1 rfl) ?_
        refine lv_iload_n hx hb dd_M_store_35 rfl (lv_at hl 2 rfl) ?_
        obtain ⟨n5, hok⟩ := hok
        refine vp_callSi (W.runV (As := [.int p0, .int p1]) (rest := []) ⟨hx, hb, hml, hown, hts⟩ (mm_M_outside l dC dI h a k u0 p0 p1 n5) (cwV 2 hts (gg_V gw_480 gw_482 gs_31 gw_2 gw_483) rfl rfl rfl (by decide +kernel) ⟨Nat.le_of_ble_eq_true rfl, Nat.le_of_ble_eq_true rfl⟩) ⟨pM_bl, va_recv hK hP (ci := 0) (q0 := 0) rfl rfl, fun U hU hW => ⟨rfl, pM_up hP hK hD hU hW⟩⟩ rfl rfl hl.1 rfl (lv_room (Nat.le_of_ble_eq_true rfl)) dd_M_store_36 ⟨Nat.zero_le _, Nat.zero_le _⟩) (fun r hr9 => ?_)
        subst hr9
        refine lv_if_eq (tgt := 45) hx hb dd_M_store_39 (by decide) (fun c6 => ?_) (fun c6 => ?_)
        · have hf := hf.trans (if_pos c6)
          have hok := hok.1 c6
          refine lv_iload_n hx hb dd_M_store_45 rfl (lv_at hl 3 rfl) ?_
          refine lv_bipush (v := (-7)) hx hb dd_M_store_46 (by decide) ?_
          refine lv_icmp_eq (tgt := 78) hx hb dd_M_store_48 (by decide) (fun c7 => ?_) (fun c7 => ?_)
          · have hf := hf.trans (if_pos c7)
            have hok := hok.1 c7
            refine lv_aload_n hx hb dd_M_store_78 rfl (lv_at hl 0 rfl) ?_
            refine va_get (D := (dC, dI)) (ci := 0) (v := .ref (a 7)) (C := "ClassObjectMirrorModel") (T := TM) (N := 12) hx hb hts inM hown hK hP 0 rfl rfl 8 (by decide) (hts _ gw_309) (fun _ h9 => h9) rfl dd_M_store_79 ?_
            refine lv_bipush (v := 8) hx hb dd_M_store_82 (by decide) ?_
            refine lv_iload_n hx hb dd_M_store_84 rfl (lv_at hl 1 rfl) ?_
            refine lv_imul hx hb dd_M_store_85 ?_
            refine lv_iload_n hx hb dd_M_store_86 rfl (lv_at hl 2 rfl) ?_
            refine lv_iadd hx hb dd_M_store_87 ?_
            obtain ⟨n8, hok⟩ := hok
            refine va_lald hx hb hK hP 8 7 rfl rfl n8 dd_M_store_88 ?_
            refine lv_l2i (v := (m_cell u0 ((8 * p0) + p1).toNatClampNeg).toInt32) hx hb dd_M_store_89 rfl ?_
            refine lv_istore (lv' := [(4, .int ((m_cell u0 ((8 * p0) + p1).toNatClampNeg).toInt32)), (0, .ref h), (1, .int p0), (2, .int p1), (3, .int p2)]) hx hb dd_M_store_90 hl (by decide) rfl (fun ls hl => ?_)
            refine lv_aload_n hx hb dd_M_store_92 rfl (lv_at hl 1 rfl) ?_
            refine va_get (D := (dC, dI)) (ci := 0) (v := .ref (a 7)) (C := "ClassObjectMirrorModel") (T := TM) (N := 12) hx hb hts inM hown hK hP 0 rfl rfl 8 (by decide) (hts _ gw_309) (fun _ h9 => h9) rfl dd_M_store_93 ?_
            refine lv_bipush (v := 8) hx hb dd_M_store_96 (by decide) ?_
            refine lv_iload_n hx hb dd_M_store_98 rfl (lv_at hl 2 rfl) ?_
            refine lv_imul hx hb dd_M_store_99 ?_
            refine lv_iload_n hx hb dd_M_store_100 rfl (lv_at hl 3 rfl) ?_
            refine lv_iadd hx hb dd_M_store_101 ?_
            refine lv_iload_n hx hb dd_M_store_102 rfl (lv_at hl 4 rfl) ?_
            refine lv_i2l (v := p2.toInt64) hx hb dd_M_store_103 rfl ?_
            have n9 := hok
            refine va_last hx hb hK hP hD hS 8 7 rfl rfl n9 dd_M_store_104 (fun H locs hP hD hS => ?_)
            have hP : va_P (dC, dI) cls_l (wM h a k (m_u_cell u0 ((8 * p0) + p1) p2.toInt64)) H := hP
            have hD : va_D (aM h a) (wM h a k (m_u_cell u0 ((8 * p0) + p1) p2.toInt64)) := hD
            refine lv_iload hx hb dd_M_store_105 (lv_at hl 0 rfl) ?_
            exact W.iret (v := ((m_cell u0 ((8 * p0) + p1).toNatClampNeg).toInt32)) hx hb hr (fun t ht hW => ⟨⟨((m_cell u0 ((8 * p0) + p1).toNatClampNeg).toInt32), m_u_cell u0 ((8 * p0) + p1) p2.toInt64, rfl, hf.symm, pM_up hP hK hD ht hW⟩, hS.F ht⟩) hS.2.2 dd_M_store_107
          · have hf := hf.trans (if_neg c7)
            have hok := hok.2 c7
            refine lv_aload_n hx hb dd_M_store_51 rfl (lv_at hl 0 rfl) ?_
            refine lv_aload_n hx hb dd_M_store_52 rfl (lv_at hl 0 rfl) ?_
            refine va_get (D := (dC, dI)) (ci := 0) (v := .ref (a 2)) (C := "ClassObjectMirrorModel") (T := TM) (N := 12) hx hb hts inM hown hK hP 0 rfl rfl 2 (by decide) (hts _ gw_303) (fun _ h9 => h9) rfl dd_M_store_53 ?_
            refine lv_aload_n hx hb dd_M_store_56 rfl (lv_at hl 0 rfl) ?_
            refine va_get (D := (dC, dI)) (ci := 0) (v := .ref (a 4)) (C := "ClassObjectMirrorModel") (T := TM) (N := 12) hx hb hts inM hown hK hP 0 rfl rfl 5 (by decide) (hts _ gw_306) (fun _ h9 => h9) rfl dd_M_store_57 ?_
            refine lv_iload_n hx hb dd_M_store_60 rfl (lv_at hl 1 rfl) ?_
            obtain ⟨n10, hok⟩ := hok
            refine va_iald hx hb hK hP 5 4 rfl rfl n10 dd_M_store_61 ?_
            obtain ⟨n11, hok⟩ := hok
            refine va_iald hx hb hK hP 3 2 rfl rfl n11 dd_M_store_62 ?_
            refine lv_aload_n hx hb dd_M_store_63 rfl (lv_at hl 0 rfl) ?_
            refine va_get (D := (dC, dI)) (ci := 0) (v := .ref (a 4)) (C := "ClassObjectMirrorModel") (T := TM) (N := 12) hx hb hts inM hown hK hP 0 rfl rfl 5 (by decide) (hts _ gw_306) (fun _ h9 => h9) rfl dd_M_store_64 ?_
            refine lv_iload_n hx hb dd_M_store_67 rfl (lv_at hl 3 rfl) ?_
            obtain ⟨n12, hok⟩ := hok
            refine va_iald hx hb hK hP 5 4 rfl rfl n12 dd_M_store_68 ?_
            obtain ⟨n13, hok⟩ := hok
            refine vp_callSi (W.runV (As := [.int (m_comp u0 (m_kind u0 p0.toNatClampNeg).toNatClampNeg), .int (m_kind u0 p2.toNatClampNeg)]) (rest := []) ⟨hx, hb, hml, hown, hts⟩ (mm_M_above l dC dI h a k u0 (m_comp u0 (m_kind u0 p0.toNatClampNeg).toNatClampNeg) (m_kind u0 p2.toNatClampNeg) n13) (cwV 2 hts (gg_V gw_366 gw_368 gs_21 gw_2 gw_369) rfl rfl rfl (by decide +kernel) ⟨Nat.le_of_ble_eq_true rfl, Nat.le_of_ble_eq_true rfl⟩) ⟨pM_bl, va_recv hK hP (ci := 0) (q0 := 0) rfl rfl, fun U hU hW => ⟨rfl, pM_up hP hK hD hU hW⟩⟩ rfl rfl hl.1 rfl (lv_room (Nat.le_of_ble_eq_true rfl)) dd_M_store_69 ⟨Nat.zero_le _, Nat.zero_le _⟩) (fun r hr9 => ?_)
            subst hr9
            refine lv_if_ne (tgt := 78) hx hb dd_M_store_72 (by decide) (fun c14 => ?_) (fun c14 => ?_)
            · have hf := hf.trans (if_neg c14)
              have hok := hok.2 c14
              refine lv_aload_n hx hb dd_M_store_78 rfl (lv_at hl 0 rfl) ?_
              refine va_get (D := (dC, dI)) (ci := 0) (v := .ref (a 7)) (C := "ClassObjectMirrorModel") (T := TM) (N := 12) hx hb hts inM hown hK hP 0 rfl rfl 8 (by decide) (hts _ gw_309) (fun _ h9 => h9) rfl dd_M_store_79 ?_
              refine lv_bipush (v := 8) hx hb dd_M_store_82 (by decide) ?_
              refine lv_iload_n hx hb dd_M_store_84 rfl (lv_at hl 1 rfl) ?_
              refine lv_imul hx hb dd_M_store_85 ?_
              refine lv_iload_n hx hb dd_M_store_86 rfl (lv_at hl 2 rfl) ?_
              refine lv_iadd hx hb dd_M_store_87 ?_
              obtain ⟨n15, hok⟩ := hok
              refine va_lald hx hb hK hP 8 7 rfl rfl n15 dd_M_store_88 ?_
              refine lv_l2i (v := (m_cell u0 ((8 * p0) + p1).toNatClampNeg).toInt32) hx hb dd_M_store_89 rfl ?_
              refine lv_istore (lv' := [(4, .int ((m_cell u0 ((8 * p0) + p1).toNatClampNeg).toInt32)), (0, .ref h), (1, .int p0), (2, .int p1), (3, .int p2)]) hx hb dd_M_store_90 hl (by decide) rfl (fun ls hl => ?_)
              refine lv_aload_n hx hb dd_M_store_92 rfl (lv_at hl 1 rfl) ?_
              refine va_get (D := (dC, dI)) (ci := 0) (v := .ref (a 7)) (C := "ClassObjectMirrorModel") (T := TM) (N := 12) hx hb hts inM hown hK hP 0 rfl rfl 8 (by decide) (hts _ gw_309) (fun _ h9 => h9) rfl dd_M_store_93 ?_
              refine lv_bipush (v := 8) hx hb dd_M_store_96 (by decide) ?_
              refine lv_iload_n hx hb dd_M_store_98 rfl (lv_at hl 2 rfl) ?_
              refine lv_imul hx hb dd_M_store_99 ?_
              refine lv_iload_n hx hb dd_M_store_100 rfl (lv_at hl 3 rfl) ?_
              refine lv_iadd hx hb dd_M_store_101 ?_
              refine lv_iload_n hx hb dd_M_store_102 rfl (lv_at hl 4 rfl) ?_
              refine lv_i2l (v := p2.toInt64) hx hb dd_M_store_103 rfl ?_
              have n16 := hok
              refine va_last hx hb hK hP hD hS 8 7 rfl rfl n16 dd_M_store_104 (fun H locs hP hD hS => ?_)
              have hP : va_P (dC, dI) cls_l (wM h a k (m_u_cell u0 ((8 * p0) + p1) p2.toInt64)) H := hP
              have hD : va_D (aM h a) (wM h a k (m_u_cell u0 ((8 * p0) + p1) p2.toInt64)) := hD
              refine lv_iload hx hb dd_M_store_105 (lv_at hl 0 rfl) ?_
              exact W.iret (v := ((m_cell u0 ((8 * p0) + p1).toNatClampNeg).toInt32)) hx hb hr (fun t ht hW => ⟨⟨((m_cell u0 ((8 * p0) + p1).toNatClampNeg).toInt32), m_u_cell u0 ((8 * p0) + p1) p2.toInt64, rfl, hf.symm, pM_up hP hK hD ht hW⟩, hS.F ht⟩) hS.2.2 dd_M_store_107
            · have hf := hf.trans (if_pos c14)
              have hok := hok.1 c14
              refine lv_bipush (v := (-6)) hx hb dd_M_store_75 (by decide) ?_
              exact W.iret (v := ((-6) : Int32)) hx hb hr (fun t ht hW => ⟨⟨((-6) : Int32), u0, rfl, hf.symm, pM_up hP hK hD ht hW⟩, hS.F ht⟩) hS.2.2 dd_M_store_77
        · have hf := hf.trans (if_neg c6)
          have hok := hok.2 c6
          refine lv_bipush (v := (-5)) hx hb dd_M_store_42 (by decide) ?_
          exact W.iret (v := ((-5) : Int32)) hx hb hr (fun t ht hW => ⟨⟨((-5) : Int32), u0, rfl, hf.symm, pM_up hP hK hD ht hW⟩, hS.F ht⟩) hS.2.2 dd_M_store_44
      · have hf := hf.trans (if_neg c4)
        have hok := hok.2 c4
        refine lv_iconst (v := (-1)) hx hb dd_M_store_31 (by decide) ?_
        exact W.iret (v := ((-1) : Int32)) hx hb hr (fun t ht hW => ⟨⟨((-1) : Int32), u0, rfl, hf.symm, pM_up hP hK hD ht hW⟩, hS.F ht⟩) hS.2.2 dd_M_store_32
    · have hf := hf.trans (if_neg c2)
      have hok := hok.2 c2
      refine lv_aload_n hx hb dd_M_store_14 rfl (lv_at hl 0 rfl) ?_
      refine lv_iload_n hx hb dd_M_store_15 rfl (lv_at hl 3 rfl) ?_
      refine vp_callSi (W.runV (As := [.int p2]) (rest := []) ⟨hx, hb, hml, hown, hts⟩ (mm_M_noObject l dC dI h a k u0 p2) (cwV 1 hts (gg_V gw_460 gw_462 gs_29 gw_2 gw_463) rfl rfl rfl (by decide +kernel) ⟨Nat.le_of_ble_eq_true rfl, Nat.le_of_ble_eq_true rfl⟩) ⟨pM_bl, va_recv hK hP (ci := 0) (q0 := 0) rfl rfl, fun U hU hW => ⟨rfl, pM_up hP hK hD hU hW⟩⟩ rfl rfl hl.1 rfl (lv_room (Nat.le_of_ble_eq_true rfl)) dd_M_store_16 ⟨Nat.zero_le _, Nat.zero_le _⟩) (fun r hr9 => ?_)
      subst hr9
      refine lv_if_ne (tgt := 31) hx hb dd_M_store_19 (by decide) (fun c17 => ?_) (fun c17 => ?_)
      · have hf := hf.trans (if_neg c17)
        have hok := hok.2 c17
        refine lv_iconst (v := (-1)) hx hb dd_M_store_31 (by decide) ?_
        exact W.iret (v := ((-1) : Int32)) hx hb hr (fun t ht hW => ⟨⟨((-1) : Int32), u0, rfl, hf.symm, pM_up hP hK hD ht hW⟩, hS.F ht⟩) hS.2.2 dd_M_store_32
      · have hf := hf.trans (if_pos c17)
        have hok := hok.1 c17
        refine lv_aload_n hx hb dd_M_store_22 rfl (lv_at hl 0 rfl) ?_
        refine lv_iload_n hx hb dd_M_store_23 rfl (lv_at hl 1 rfl) ?_
        obtain ⟨n18, hok⟩ := hok
        refine vp_callSi (W.runV (As := [.int p0]) (rest := []) ⟨hx, hb, hml, hown, hts⟩ (mm_M_array l dC dI h a k u0 p0 n18) (cwV 1 hts (gg_V gw_476 gw_478 gs_30 gw_2 gw_479) rfl rfl rfl (by decide +kernel) ⟨Nat.le_of_ble_eq_true rfl, Nat.le_of_ble_eq_true rfl⟩) ⟨pM_bl, va_recv hK hP (ci := 0) (q0 := 0) rfl rfl, fun U hU hW => ⟨rfl, pM_up hP hK hD hU hW⟩⟩ rfl rfl hl.1 rfl (lv_room (Nat.le_of_ble_eq_true rfl)) dd_M_store_24 ⟨Nat.zero_le _, Nat.zero_le _⟩) (fun r hr9 => ?_)
        subst hr9
        refine lv_iconst (v := 2) hx hb dd_M_store_27 (by decide) ?_
        refine lv_icmp_eq (tgt := 33) hx hb dd_M_store_28 (by decide) (fun c19 => ?_) (fun c19 => ?_)
        · have hf := hf.trans (if_pos c19)
          have hok := hok.1 c19
          refine lv_aload_n hx hb dd_M_store_33 rfl (lv_at hl 0 rfl) ?_
          refine lv_iload_n hx hb dd_M_store_34 rfl (lv_at hl 1 rfl) ?_
          refine lv_iload_n hx hb dd_M_store_35 rfl (lv_at hl 2 rfl) ?_
          obtain ⟨n20, hok⟩ := hok
          refine vp_callSi (W.runV (As := [.int p0, .int p1]) (rest := []) ⟨hx, hb, hml, hown, hts⟩ (mm_M_outside l dC dI h a k u0 p0 p1 n20) (cwV 2 hts (gg_V gw_480 gw_482 gs_31 gw_2 gw_483) rfl rfl rfl (by decide +kernel) ⟨Nat.le_of_ble_eq_true rfl, Nat.le_of_ble_eq_true rfl⟩) ⟨pM_bl, va_recv hK hP (ci := 0) (q0 := 0) rfl rfl, fun U hU hW => ⟨rfl, pM_up hP hK hD hU hW⟩⟩ rfl rfl hl.1 rfl (lv_room (Nat.le_of_ble_eq_true rfl)) dd_M_store_36 ⟨Nat.zero_le _, Nat.zero_le _⟩) (fun r hr9 => ?_)
          subst hr9
          refine lv_if_eq (tgt := 45) hx hb dd_M_store_39 (by decide) (fun c21 => ?_) (fun c21 => ?_)
          · have hf := hf.trans (if_pos c21)
            have hok := hok.1 c21
            refine lv_iload_n hx hb dd_M_store_45 rfl (lv_at hl 3 rfl) ?_
            refine lv_bipush (v := (-7)) hx hb dd_M_store_46 (by decide) ?_
            refine lv_icmp_eq (tgt := 78) hx hb dd_M_store_48 (by decide) (fun c22 => ?_) (fun c22 => ?_)
            · have hf := hf.trans (if_pos c22)
              have hok := hok.1 c22
              refine lv_aload_n hx hb dd_M_store_78 rfl (lv_at hl 0 rfl) ?_
              refine va_get (D := (dC, dI)) (ci := 0) (v := .ref (a 7)) (C := "ClassObjectMirrorModel") (T := TM) (N := 12) hx hb hts inM hown hK hP 0 rfl rfl 8 (by decide) (hts _ gw_309) (fun _ h9 => h9) rfl dd_M_store_79 ?_
              refine lv_bipush (v := 8) hx hb dd_M_store_82 (by decide) ?_
              refine lv_iload_n hx hb dd_M_store_84 rfl (lv_at hl 1 rfl) ?_
              refine lv_imul hx hb dd_M_store_85 ?_
              refine lv_iload_n hx hb dd_M_store_86 rfl (lv_at hl 2 rfl) ?_
              refine lv_iadd hx hb dd_M_store_87 ?_
              obtain ⟨n23, hok⟩ := hok
              refine va_lald hx hb hK hP 8 7 rfl rfl n23 dd_M_store_88 ?_
              refine lv_l2i (v := (m_cell u0 ((8 * p0) + p1).toNatClampNeg).toInt32) hx hb dd_M_store_89 rfl ?_
              refine lv_istore (lv' := [(4, .int ((m_cell u0 ((8 * p0) + p1).toNatClampNeg).toInt32)), (0, .ref h), (1, .int p0), (2, .int p1), (3, .int p2)]) hx hb dd_M_store_90 hl (by decide) rfl (fun ls hl => ?_)
              refine lv_aload_n hx hb dd_M_store_92 rfl (lv_at hl 1 rfl) ?_
              refine va_get (D := (dC, dI)) (ci := 0) (v := .ref (a 7)) (C := "ClassObjectMirrorModel") (T := TM) (N := 12) hx hb hts inM hown hK hP 0 rfl rfl 8 (by decide) (hts _ gw_309) (fun _ h9 => h9) rfl dd_M_store_93 ?_
              refine lv_bipush (v := 8) hx hb dd_M_store_96 (by decide) ?_
              refine lv_iload_n hx hb dd_M_store_98 rfl (lv_at hl 2 rfl) ?_
              refine lv_imul hx hb dd_M_store_99 ?_
              refine lv_iload_n hx hb dd_M_store_100 rfl (lv_at hl 3 rfl) ?_
              refine lv_iadd hx hb dd_M_store_101 ?_
              refine lv_iload_n hx hb dd_M_store_102 rfl (lv_at hl 4 rfl) ?_
              refine lv_i2l (v := p2.toInt64) hx hb dd_M_store_103 rfl ?_
              have n24 := hok
              refine va_last hx hb hK hP hD hS 8 7 rfl rfl n24 dd_M_store_104 (fun H locs hP hD hS => ?_)
              have hP : va_P (dC, dI) cls_l (wM h a k (m_u_cell u0 ((8 * p0) + p1) p2.toInt64)) H := hP
              have hD : va_D (aM h a) (wM h a k (m_u_cell u0 ((8 * p0) + p1) p2.toInt64)) := hD
              refine lv_iload hx hb dd_M_store_105 (lv_at hl 0 rfl) ?_
              exact W.iret (v := ((m_cell u0 ((8 * p0) + p1).toNatClampNeg).toInt32)) hx hb hr (fun t ht hW => ⟨⟨((m_cell u0 ((8 * p0) + p1).toNatClampNeg).toInt32), m_u_cell u0 ((8 * p0) + p1) p2.toInt64, rfl, hf.symm, pM_up hP hK hD ht hW⟩, hS.F ht⟩) hS.2.2 dd_M_store_107
            · have hf := hf.trans (if_neg c22)
              have hok := hok.2 c22
              refine lv_aload_n hx hb dd_M_store_51 rfl (lv_at hl 0 rfl) ?_
              refine lv_aload_n hx hb dd_M_store_52 rfl (lv_at hl 0 rfl) ?_
              refine va_get (D := (dC, dI)) (ci := 0) (v := .ref (a 2)) (C := "ClassObjectMirrorModel") (T := TM) (N := 12) hx hb hts inM hown hK hP 0 rfl rfl 2 (by decide) (hts _ gw_303) (fun _ h9 => h9) rfl dd_M_store_53 ?_
              refine lv_aload_n hx hb dd_M_store_56 rfl (lv_at hl 0 rfl) ?_
              refine va_get (D := (dC, dI)) (ci := 0) (v := .ref (a 4)) (C := "ClassObjectMirrorModel") (T := TM) (N := 12) hx hb hts inM hown hK hP 0 rfl rfl 5 (by decide) (hts _ gw_306) (fun _ h9 => h9) rfl dd_M_store_57 ?_
              refine lv_iload_n hx hb dd_M_store_60 rfl (lv_at hl 1 rfl) ?_
              obtain ⟨n25, hok⟩ := hok
              refine va_iald hx hb hK hP 5 4 rfl rfl n25 dd_M_store_61 ?_
              obtain ⟨n26, hok⟩ := hok
              refine va_iald hx hb hK hP 3 2 rfl rfl n26 dd_M_store_62 ?_
              refine lv_aload_n hx hb dd_M_store_63 rfl (lv_at hl 0 rfl) ?_
              refine va_get (D := (dC, dI)) (ci := 0) (v := .ref (a 4)) (C := "ClassObjectMirrorModel") (T := TM) (N := 12) hx hb hts inM hown hK hP 0 rfl rfl 5 (by decide) (hts _ gw_306) (fun _ h9 => h9) rfl dd_M_store_64 ?_
              refine lv_iload_n hx hb dd_M_store_67 rfl (lv_at hl 3 rfl) ?_
              obtain ⟨n27, hok⟩ := hok
              refine va_iald hx hb hK hP 5 4 rfl rfl n27 dd_M_store_68 ?_
              obtain ⟨n28, hok⟩ := hok
              refine vp_callSi (W.runV (As := [.int (m_comp u0 (m_kind u0 p0.toNatClampNeg).toNatClampNeg), .int (m_kind u0 p2.toNatClampNeg)]) (rest := []) ⟨hx, hb, hml, hown, hts⟩ (mm_M_above l dC dI h a k u0 (m_comp u0 (m_kind u0 p0.toNatClampNeg).toNatClampNeg) (m_kind u0 p2.toNatClampNeg) n28) (cwV 2 hts (gg_V gw_366 gw_368 gs_21 gw_2 gw_369) rfl rfl rfl (by decide +kernel) ⟨Nat.le_of_ble_eq_true rfl, Nat.le_of_ble_eq_true rfl⟩) ⟨pM_bl, va_recv hK hP (ci := 0) (q0 := 0) rfl rfl, fun U hU hW => ⟨rfl, pM_up hP hK hD hU hW⟩⟩ rfl rfl hl.1 rfl (lv_room (Nat.le_of_ble_eq_true rfl)) dd_M_store_69 ⟨Nat.zero_le _, Nat.zero_le _⟩) (fun r hr9 => ?_)
              subst hr9
              refine lv_if_ne (tgt := 78) hx hb dd_M_store_72 (by decide) (fun c29 => ?_) (fun c29 => ?_)
              · have hf := hf.trans (if_neg c29)
                have hok := hok.2 c29
                refine lv_aload_n hx hb dd_M_store_78 rfl (lv_at hl 0 rfl) ?_
                refine va_get (D := (dC, dI)) (ci := 0) (v := .ref (a 7)) (C := "ClassObjectMirrorModel") (T := TM) (N := 12) hx hb hts inM hown hK hP 0 rfl rfl 8 (by decide) (hts _ gw_309) (fun _ h9 => h9) rfl dd_M_store_79 ?_
                refine lv_bipush (v := 8) hx hb dd_M_store_82 (by decide) ?_
                refine lv_iload_n hx hb dd_M_store_84 rfl (lv_at hl 1 rfl) ?_
                refine lv_imul hx hb dd_M_store_85 ?_
                refine lv_iload_n hx hb dd_M_store_86 rfl (lv_at hl 2 rfl) ?_
                refine lv_iadd hx hb dd_M_store_87 ?_
                obtain ⟨n30, hok⟩ := hok
                refine va_lald hx hb hK hP 8 7 rfl rfl n30 dd_M_store_88 ?_
                refine lv_l2i (v := (m_cell u0 ((8 * p0) + p1).toNatClampNeg).toInt32) hx hb dd_M_store_89 rfl ?_
                refine lv_istore (lv' := [(4, .int ((m_cell u0 ((8 * p0) + p1).toNatClampNeg).toInt32)), (0, .ref h), (1, .int p0), (2, .int p1), (3, .int p2)]) hx hb dd_M_store_90 hl (by decide) rfl (fun ls hl => ?_)
                refine lv_aload_n hx hb dd_M_store_92 rfl (lv_at hl 1 rfl) ?_
                refine va_get (D := (dC, dI)) (ci := 0) (v := .ref (a 7)) (C := "ClassObjectMirrorModel") (T := TM) (N := 12) hx hb hts inM hown hK hP 0 rfl rfl 8 (by decide) (hts _ gw_309) (fun _ h9 => h9) rfl dd_M_store_93 ?_
                refine lv_bipush (v := 8) hx hb dd_M_store_96 (by decide) ?_
                refine lv_iload_n hx hb dd_M_store_98 rfl (lv_at hl 2 rfl) ?_
                refine lv_imul hx hb dd_M_store_99 ?_
                refine lv_iload_n hx hb dd_M_store_100 rfl (lv_at hl 3 rfl) ?_
                refine lv_iadd hx hb dd_M_store_101 ?_
                refine lv_iload_n hx hb dd_M_store_102 rfl (lv_at hl 4 rfl) ?_
                refine lv_i2l (v := p2.toInt64) hx hb dd_M_store_103 rfl ?_
                have n31 := hok
                refine va_last hx hb hK hP hD hS 8 7 rfl rfl n31 dd_M_store_104 (fun H locs hP hD hS => ?_)
                have hP : va_P (dC, dI) cls_l (wM h a k (m_u_cell u0 ((8 * p0) + p1) p2.toInt64)) H := hP
                have hD : va_D (aM h a) (wM h a k (m_u_cell u0 ((8 * p0) + p1) p2.toInt64)) := hD
                refine lv_iload hx hb dd_M_store_105 (lv_at hl 0 rfl) ?_
                exact W.iret (v := ((m_cell u0 ((8 * p0) + p1).toNatClampNeg).toInt32)) hx hb hr (fun t ht hW => ⟨⟨((m_cell u0 ((8 * p0) + p1).toNatClampNeg).toInt32), m_u_cell u0 ((8 * p0) + p1) p2.toInt64, rfl, hf.symm, pM_up hP hK hD ht hW⟩, hS.F ht⟩) hS.2.2 dd_M_store_107
              · have hf := hf.trans (if_pos c29)
                have hok := hok.1 c29
                refine lv_bipush (v := (-6)) hx hb dd_M_store_75 (by decide) ?_
                exact W.iret (v := ((-6) : Int32)) hx hb hr (fun t ht hW => ⟨⟨((-6) : Int32), u0, rfl, hf.symm, pM_up hP hK hD ht hW⟩, hS.F ht⟩) hS.2.2 dd_M_store_77
          · have hf := hf.trans (if_neg c21)
            have hok := hok.2 c21
            refine lv_bipush (v := (-5)) hx hb dd_M_store_42 (by decide) ?_
            exact W.iret (v := ((-5) : Int32)) hx hb hr (fun t ht hW => ⟨⟨((-5) : Int32), u0, rfl, hf.symm, pM_up hP hK hD ht hW⟩, hS.F ht⟩) hS.2.2 dd_M_store_44
        · have hf := hf.trans (if_neg c19)
          have hok := hok.2 c19
          refine lv_iconst (v := (-1)) hx hb dd_M_store_31 (by decide) ?_
          exact W.iret (v := ((-1) : Int32)) hx hb hr (fun t ht hW => ⟨⟨((-1) : Int32), u0, rfl, hf.symm, pM_up hP hK hD ht hW⟩, hS.F ht⟩) hS.2.2 dd_M_store_32

def ff_M_load (u0 : SM) (p0 : Int32) (p1 : Int32) : Int32 := (if (ff_M_noObject u0 p0) = 0 then (if (ff_M_array u0 p0) = 2 then (if (ff_M_outside u0 p0 p1) = 0 then (m_cell u0 ((8 * p0) + p1).toNatClampNeg).toInt32 else (-5)) else (-1)) else (-1))
def ok_M_load (u0 : SM) (p0 : Int32) (p1 : Int32) : Prop := ((((ff_M_noObject u0 p0) = 0) → (ok_M_array u0 p0) ∧ ((((ff_M_array u0 p0) = 2) → (ok_M_outside u0 p0 p1) ∧ ((((ff_M_outside u0 p0 p1) = 0) → vp_in ((8 * p0) + p1) 640) ∧ (¬ ((ff_M_outside u0 p0 p1) = 0) → True))) ∧ (¬ ((ff_M_array u0 p0) = 2) → True))) ∧ (¬ ((ff_M_noObject u0 p0) = 0) → True))
abbrev ws_M_load : List Cond := .code yy_M_load bb_M_load 3 (some .int) :: gW
abbrev rm_M_load : Room := { frames := 2, cells := 0, slots := 0, locals := 41 }
set_option maxHeartbeats 4000000 in
set_option maxRecDepth 100000 in
theorem mm_M_load (l : Launch) (dC : Nat → ClassId) (dI : Nat → Nat → Nat) (h : Nat) (a : Nat → Nat) (k : Nat → ClassId) (u0 : SM) (p0 : Int32) (p1 : Int32) (hok : ok_M_load u0 p0 p1) : Met l yy_M_load ws_M_load rm_M_load (va_Pc [.ref h, .int p0, .int p1] (pM dC dI h a k u0)) (vp_Si (fun r => r = ff_M_load u0 p0 p1)) 0 0 (fun _ => False) := by
  refine Met.ofW (cc := bb_M_load) (maxL := 3) (ret := (some .int)) (by decide) rfl ?_
  intro p e s m args below meth c s₁ B hml hv
  obtain ⟨rfl, hP, hK, hD⟩ := hv
  have hx := B.exec
  have hb := B.bytes
  have hr := B.returns
  have hts : ∀ w ∈ gW, w.before _ s = true := fun w h => atoms_spec (ws := ws_M_load) B.pre w (List.mem_cons_of_mem _ h)
  have hown : s.vm.findClass "ClassObjectMirrorModel" = some m.cls := findClass_of_methodNamed B.named
  have hlocks := B.notSynchronized
  have hS : va_S (aM h a) s.heap s.heap [] := va_S.rf
  have hl := lv_entry ([.ref h, .int p0, .int p1]) (n := 3) (Nat.le_of_ble_eq_true rfl)
  rw [lg_entry_eq]
  generalize (lg_sl ([.ref h, .int p0, .int p1]) ++ List.replicate (3 - (lg_sl ([.ref h, .int p0, .int p1])).length) Slot.unset).toArray = ls at hl ⊢
  have hl : lv_has ls 3 [(0, .ref h), (1, .int p0), (2, .int p1)] := hl
  have hf := ff_M_load.eq_1 u0 p0 p1
  unfold ok_M_load at hok
  refine lv_aload_n hx hb dd_M_load_0 rfl (lv_at hl 0 rfl) ?_
  refine lv_iload_n hx hb dd_M_load_1 rfl (lv_at hl 1 rfl) ?_
  refine vp_callSi (W.runV (As := [.int p0]) (rest := []) ⟨hx, hb, hml, hown, hts⟩ (mm_M_noObject l dC dI h a k u0 p0) (cwV 1 hts (gg_V gw_460 gw_462 gs_29 gw_2 gw_463) rfl rfl rfl (by decide +kernel) ⟨Nat.le_of_ble_eq_true rfl, Nat.le_of_ble_eq_true rfl⟩) ⟨pM_bl, va_recv hK hP (ci := 0) (q0 := 0) rfl rfl, fun U hU hW => ⟨rfl, pM_up hP hK hD hU hW⟩⟩ rfl rfl hl.1 rfl (lv_room (Nat.le_of_ble_eq_true rfl)) dd_M_load_2 ⟨Nat.zero_le _, Nat.zero_le _⟩) (fun r hr9 => ?_)
  subst hr9
  refine lv_if_ne (tgt := 17) hx hb dd_M_load_5 (by decide) (fun c1 => ?_) (fun c1 => ?_)
  · have hf := hf.trans (if_neg c1)
    have hok := hok.2 c1
    refine lv_iconst (v := (-1)) hx hb dd_M_load_17 (by decide) ?_
    exact W.iret (v := ((-1) : Int32)) hx hb hr (fun t ht hW => ⟨((-1) : Int32), rfl, hf.symm, ht⟩) (fun _ h => by cases h) dd_M_load_18
  · have hf := hf.trans (if_pos c1)
    have hok := hok.1 c1
    refine lv_aload_n hx hb dd_M_load_8 rfl (lv_at hl 0 rfl) ?_
    refine lv_iload_n hx hb dd_M_load_9 rfl (lv_at hl 1 rfl) ?_
    obtain ⟨n2, hok⟩ := hok
    refine vp_callSi (W.runV (As := [.int p0]) (rest := []) ⟨hx, hb, hml, hown, hts⟩ (mm_M_array l dC dI h a k u0 p0 n2) (cwV 1 hts (gg_V gw_476 gw_478 gs_30 gw_2 gw_479) rfl rfl rfl (by decide +kernel) ⟨Nat.le_of_ble_eq_true rfl, Nat.le_of_ble_eq_true rfl⟩) ⟨pM_bl, va_recv hK hP (ci := 0) (q0 := 0) rfl rfl, fun U hU hW => ⟨rfl, pM_up hP hK hD hU hW⟩⟩ rfl rfl hl.1 rfl (lv_room (Nat.le_of_ble_eq_true rfl)) dd_M_load_10 ⟨Nat.zero_le _, Nat.zero_le _⟩) (fun r hr9 => ?_)
    subst hr9
    refine lv_iconst (v := 2) hx hb dd_M_load_13 (by decide) ?_
    refine lv_icmp_eq (tgt := 19) hx hb dd_M_load_14 (by decide) (fun c3 => ?_) (fun c3 => ?_)
    · have hf := hf.trans (if_pos c3)
      have hok := hok.1 c3
      refine lv_aload_n hx hb dd_M_load_19 rfl (lv_at hl 0 rfl) ?_
      refine lv_iload_n hx hb dd_M_load_20 rfl (lv_at hl 1 rfl) ?_
      refine lv_iload_n hx hb dd_M_load_21 rfl (lv_at hl 2 rfl) ?_
      obtain ⟨n4, hok⟩ := hok
      refine vp_callSi (W.runV (As := [.int p0, .int p1]) (rest := []) ⟨hx, hb, hml, hown, hts⟩ (mm_M_outside l dC dI h a k u0 p0 p1 n4) (cwV 2 hts (gg_V gw_480 gw_482 gs_31 gw_2 gw_483) rfl rfl rfl (by decide +kernel) ⟨Nat.le_of_ble_eq_true rfl, Nat.le_of_ble_eq_true rfl⟩) ⟨pM_bl, va_recv hK hP (ci := 0) (q0 := 0) rfl rfl, fun U hU hW => ⟨rfl, pM_up hP hK hD hU hW⟩⟩ rfl rfl hl.1 rfl (lv_room (Nat.le_of_ble_eq_true rfl)) dd_M_load_22 ⟨Nat.zero_le _, Nat.zero_le _⟩) (fun r hr9 => ?_)
      subst hr9
      refine lv_if_eq (tgt := 33) hx hb dd_M_load_25 (by decide) (fun c5 => ?_) (fun c5 => ?_)
      · have hf := hf.trans (if_pos c5)
        have hok := hok.1 c5
        refine lv_aload_n hx hb dd_M_load_33 rfl (lv_at hl 0 rfl) ?_
        refine va_get (D := (dC, dI)) (ci := 0) (v := .ref (a 7)) (C := "ClassObjectMirrorModel") (T := TM) (N := 12) hx hb hts inM hown hK hP 0 rfl rfl 8 (by decide) (hts _ gw_309) (fun _ h9 => h9) rfl dd_M_load_34 ?_
        refine lv_bipush (v := 8) hx hb dd_M_load_37 (by decide) ?_
        refine lv_iload_n hx hb dd_M_load_39 rfl (lv_at hl 1 rfl) ?_
        refine lv_imul hx hb dd_M_load_40 ?_
        refine lv_iload_n hx hb dd_M_load_41 rfl (lv_at hl 2 rfl) ?_
        refine lv_iadd hx hb dd_M_load_42 ?_
        have n6 := hok
        refine va_lald hx hb hK hP 8 7 rfl rfl n6 dd_M_load_43 ?_
        refine lv_l2i (v := (m_cell u0 ((8 * p0) + p1).toNatClampNeg).toInt32) hx hb dd_M_load_44 rfl ?_
        exact W.iret (v := ((m_cell u0 ((8 * p0) + p1).toNatClampNeg).toInt32)) hx hb hr (fun t ht hW => ⟨((m_cell u0 ((8 * p0) + p1).toNatClampNeg).toInt32), rfl, hf.symm, ht⟩) (fun _ h => by cases h) dd_M_load_45
      · have hf := hf.trans (if_neg c5)
        have hok := hok.2 c5
        refine lv_bipush (v := (-5)) hx hb dd_M_load_28 (by decide) ?_
        refine lv_goto (tgt := 45) hx hb dd_M_load_30 (by decide) ?_
        exact W.iret (v := ((-5) : Int32)) hx hb hr (fun t ht hW => ⟨((-5) : Int32), rfl, hf.symm, ht⟩) (fun _ h => by cases h) dd_M_load_45
    · have hf := hf.trans (if_neg c3)
      have hok := hok.2 c3
      refine lv_iconst (v := (-1)) hx hb dd_M_load_17 (by decide) ?_
      exact W.iret (v := ((-1) : Int32)) hx hb hr (fun t ht hW => ⟨((-1) : Int32), rfl, hf.symm, ht⟩) (fun _ h => by cases h) dd_M_load_18

def fl_M_rounded_16 : Nat → Int64 → Int64 → Int64 → Int64
  | 0, _, _, _ => 0
  | n + 1, x0, x2, x4 => (if (lg_cmp (x2 / x4) 16777216) < 0 then (if 0 < (lg_cmp (2 * (x2 - x2 / x4 * x4)) x4) then (if 0 ≤ (lg_cmp x0 0) then ((x2 / x4) + 1) * x4 else (-((x2 / x4) + 1)) * x4) else (if (lg_cmp (2 * (x2 - x2 / x4 * x4)) x4) = 0 then (if (lg_cmp x4 1) ≤ 0 then (if 0 ≤ (lg_cmp x0 0) then (x2 / x4) * x4 else (-(x2 / x4)) * x4) else (if (lg_cmp ((x2 / x4) - (x2 / x4) / 2 * 2) 1) = 0 then (if 0 ≤ (lg_cmp x0 0) then ((x2 / x4) + 1) * x4 else (-((x2 / x4) + 1)) * x4) else (if 0 ≤ (lg_cmp x0 0) then (x2 / x4) * x4 else (-(x2 / x4)) * x4))) else (if 0 ≤ (lg_cmp x0 0) then (x2 / x4) * x4 else (-(x2 / x4)) * x4))) else fl_M_rounded_16 n x0 x2 (x4 * 2))
def okl_M_rounded_16 : Nat → Int64 → Int64 → Int64 → Prop
  | 0, _, _, _ => False
  | n + 1, x0, x2, x4 => (¬ x4 = 0) ∧ ((((lg_cmp (x2 / x4) 16777216) < 0) → (¬ x4 = 0) ∧ ¬ x4 = 0) ∧ (¬ ((lg_cmp (x2 / x4) 16777216) < 0) → okl_M_rounded_16 n x0 x2 (x4 * 2)))
def ff_M_rounded (p0 : Int64) : Int64 := (if 0 ≤ (lg_cmp p0 0) then fl_M_rounded_16 12 p0 p0 (1 : Int64) else fl_M_rounded_16 12 p0 (-p0) (1 : Int64))
def ok_M_rounded (p0 : Int64) : Prop := (((0 ≤ (lg_cmp p0 0)) → okl_M_rounded_16 12 p0 p0 (1 : Int64)) ∧ (¬ (0 ≤ (lg_cmp p0 0)) → okl_M_rounded_16 12 p0 (-p0) (1 : Int64)))
abbrev ws_M_rounded : List Cond := .code yy_M_rounded bb_M_rounded 10 (some .long) :: gW
abbrev rm_M_rounded : Room := { frames := 0, cells := 0, slots := 0, locals := 0 }
set_option maxHeartbeats 4000000 in
set_option maxRecDepth 100000 in
theorem mm_M_rounded (l : Launch) (p0 : Int64) (hok : ok_M_rounded p0) : Met l yy_M_rounded ws_M_rounded rm_M_rounded (va_Pc [.long p0] (fun _ => True)) (vp_Sl (fun r => r = ff_M_rounded p0)) 0 0 (fun _ => False) := by
  refine Met.ofW (cc := bb_M_rounded) (maxL := 10) (ret := (some .long)) (by decide) rfl ?_
  intro p e s m args below meth c s₁ B hml hv
  obtain ⟨rfl, -⟩ := hv
  have hx := B.exec
  have hb := B.bytes
  have hr := B.returns
  have hts : ∀ w ∈ gW, w.before _ s = true := fun w h => atoms_spec (ws := ws_M_rounded) B.pre w (List.mem_cons_of_mem _ h)
  have hown : s.vm.findClass "ClassObjectMirrorModel" = some m.cls := findClass_of_methodNamed B.named
  have hlocks := B.notSynchronized
  have hl := lv_entry ([.long p0]) (n := 10) (Nat.le_of_ble_eq_true rfl)
  rw [lg_entry_eq]
  generalize (lg_sl ([.long p0]) ++ List.replicate (10 - (lg_sl ([.long p0])).length) Slot.unset).toArray = ls at hl ⊢
  have hl : lv_has ls 10 [(0, .long p0)] := hl
  have hf := ff_M_rounded.eq_1 p0
  unfold ok_M_rounded at hok
  refine lv_lload_n hx hb dd_M_rounded_0 rfl (lv_at hl 0 rfl) ?_
  refine lv_lconst (v := 0) hx hb dd_M_rounded_1 (by decide) ?_
  refine W.lcmp hx hb dd_M_rounded_2 ?_
  refine lv_if_ge (tgt := 11) hx hb dd_M_rounded_3 (by decide) (fun c1 => ?_) (fun c1 => ?_)
  · have hf := hf.trans (if_pos c1)
    have hok := hok.1 c1
    refine lv_lload_n hx hb dd_M_rounded_11 rfl (lv_at hl 0 rfl) ?_
    refine lv_lstore_n (lv' := [(2, .long p0), (0, .long p0)]) hx hb dd_M_rounded_12 rfl hl (by decide) rfl (fun ls hl => ?_)
    refine lv_lconst (v := 1) hx hb dd_M_rounded_13 (by decide) ?_
    refine lv_lstore (lv' := [(4, .long 1), (2, .long p0), (0, .long p0)]) hx hb dd_M_rounded_14 hl (by decide) rfl (fun ls hl => ?_)
    have loop_16 : ∀ (n : Nat) (x0 : Int64) (x2 : Int64) (x4 : Int64) (ls : Array Slot), okl_M_rounded_16 n x0 x2 x4 → ff_M_rounded p0 = fl_M_rounded_16 n x0 x2 x4 → lv_has ls 10 [(0, .long x0), (2, .long x2), (4, .long x4)] → W p l e (headSpec ws_M_rounded rm_M_rounded).room s m ([.long p0] : List Value).toArray below meth c s.heap [] 0 0 (MQ below (vp_Sl (fun r => r = ff_M_rounded p0)) ([.long p0] : List Value).toArray s 0 0 (fun _ => False)) (F0 m 16 ls []) := by
      intro n
      induction n with
      | zero => intro x0 x2 x4 ls hok; exact (show False from hok).elim
      | succ n ih =>
        intro x0 x2 x4 ls hok hf hl
        rw [fl_M_rounded_16] at hf
        rw [okl_M_rounded_16] at hok
        refine lv_lload_n hx hb dd_M_rounded_16 rfl (lv_at hl 1 rfl) ?_
        refine lv_lload hx hb dd_M_rounded_17 (lv_at hl 2 rfl) ?_
        obtain ⟨n2, hok⟩ := hok
        refine lv_ldiv hx hb dd_M_rounded_19 n2 ?_
        refine lv_ldc2 (v := 16777216) hx hb hown (hts _ gw_499) dd_M_rounded_20 ?_
        refine W.lcmp hx hb dd_M_rounded_23 ?_
        refine lv_if_lt (tgt := 38) hx hb dd_M_rounded_24 (by decide) (fun c3 => ?_) (fun c3 => ?_)
        · have hf := hf.trans (if_pos c3)
          have hok := hok.1 c3
          refine lv_lload_n hx hb dd_M_rounded_38 rfl (lv_at hl 1 rfl) ?_
          refine lv_lload hx hb dd_M_rounded_39 (lv_at hl 2 rfl) ?_
          obtain ⟨n4, hok⟩ := hok
          refine lv_ldiv hx hb dd_M_rounded_41 n4 ?_
          refine lv_lstore (lv' := [(6, .long (x2 / x4)), (0, .long x0), (2, .long x2), (4, .long x4)]) hx hb dd_M_rounded_42 hl (by decide) rfl (fun ls hl => ?_)
          refine lv_lload_n hx hb dd_M_rounded_44 rfl (lv_at hl 2 rfl) ?_
          refine lv_lload hx hb dd_M_rounded_45 (lv_at hl 3 rfl) ?_
          have n5 := hok
          refine lv_lrem hx hb dd_M_rounded_47 n5 ?_
          refine lv_lstore (lv' := [(8, .long (x2 - x2 / x4 * x4)), (6, .long (x2 / x4)), (0, .long x0), (2, .long x2), (4, .long x4)]) hx hb dd_M_rounded_48 hl (by decide) rfl (fun ls hl => ?_)
          refine lv_ldc2 (v := 2) hx hb hown (hts _ gw_500) dd_M_rounded_50 ?_
          refine lv_lload hx hb dd_M_rounded_53 (lv_at hl 0 rfl) ?_
          refine lv_lmul hx hb dd_M_rounded_55 ?_
          refine lv_lload hx hb dd_M_rounded_56 (lv_at hl 4 rfl) ?_
          refine W.lcmp hx hb dd_M_rounded_58 ?_
          refine lv_if_gt (tgt := 92) hx hb dd_M_rounded_59 (by decide) (fun c6 => ?_) (fun c6 => ?_)
          · have hf := hf.trans (if_pos c6)
            refine lv_lload hx hb dd_M_rounded_92 (lv_at hl 1 rfl) ?_
            refine lv_lconst (v := 1) hx hb dd_M_rounded_94 (by decide) ?_
            refine lv_ladd hx hb dd_M_rounded_95 ?_
            refine lv_lstore (lv' := [(6, .long ((x2 / x4) + 1)), (8, .long (x2 - x2 / x4 * x4)), (0, .long x0), (2, .long x2), (4, .long x4)]) hx hb dd_M_rounded_96 hl (by decide) rfl (fun ls hl => ?_)
            refine lv_lload_n hx hb dd_M_rounded_98 rfl (lv_at hl 2 rfl) ?_
            refine lv_lconst (v := 0) hx hb dd_M_rounded_99 (by decide) ?_
            refine W.lcmp hx hb dd_M_rounded_100 ?_
            refine lv_if_ge (tgt := 113) hx hb dd_M_rounded_101 (by decide) (fun c7 => ?_) (fun c7 => ?_)
            · have hf := hf.trans (if_pos c7)
              refine lv_lload hx hb dd_M_rounded_113 (lv_at hl 0 rfl) ?_
              refine lv_lload hx hb dd_M_rounded_115 (lv_at hl 4 rfl) ?_
              refine lv_lmul hx hb dd_M_rounded_117 ?_
              exact W.lret (v := (((x2 / x4) + 1) * x4)) hx hb hr (fun t ht hW => ⟨(((x2 / x4) + 1) * x4), rfl, hf.symm, ht⟩) (fun _ h => by cases h) dd_M_rounded_118
            · have hf := hf.trans (if_neg c7)
              refine lv_lload hx hb dd_M_rounded_104 (lv_at hl 0 rfl) ?_
              refine lv_lneg hx hb dd_M_rounded_106 ?_
              refine lv_lload hx hb dd_M_rounded_107 (lv_at hl 4 rfl) ?_
              refine lv_lmul hx hb dd_M_rounded_109 ?_
              refine lv_goto (tgt := 118) hx hb dd_M_rounded_110 (by decide) ?_
              exact W.lret (v := ((-((x2 / x4) + 1)) * x4)) hx hb hr (fun t ht hW => ⟨((-((x2 / x4) + 1)) * x4), rfl, hf.symm, ht⟩) (fun _ h => by cases h) dd_M_rounded_118
          · have hf := hf.trans (if_neg c6)
            refine lv_ldc2 (v := 2) hx hb hown (hts _ gw_500) dd_M_rounded_62 ?_
            refine lv_lload hx hb dd_M_rounded_65 (lv_at hl 0 rfl) ?_
            refine lv_lmul hx hb dd_M_rounded_67 ?_
            refine lv_lload hx hb dd_M_rounded_68 (lv_at hl 4 rfl) ?_
            refine W.lcmp hx hb dd_M_rounded_70 ?_
            refine lv_if_ne (tgt := 98) hx hb dd_M_rounded_71 (by decide) (fun c8 => ?_) (fun c8 => ?_)
            · have hf := hf.trans (if_neg c8)
              refine lv_lload_n hx hb dd_M_rounded_98 rfl (lv_at hl 2 rfl) ?_
              refine lv_lconst (v := 0) hx hb dd_M_rounded_99 (by decide) ?_
              refine W.lcmp hx hb dd_M_rounded_100 ?_
              refine lv_if_ge (tgt := 113) hx hb dd_M_rounded_101 (by decide) (fun c9 => ?_) (fun c9 => ?_)
              · have hf := hf.trans (if_pos c9)
                refine lv_lload hx hb dd_M_rounded_113 (lv_at hl 1 rfl) ?_
                refine lv_lload hx hb dd_M_rounded_115 (lv_at hl 4 rfl) ?_
                refine lv_lmul hx hb dd_M_rounded_117 ?_
                exact W.lret (v := ((x2 / x4) * x4)) hx hb hr (fun t ht hW => ⟨((x2 / x4) * x4), rfl, hf.symm, ht⟩) (fun _ h => by cases h) dd_M_rounded_118
              · have hf := hf.trans (if_neg c9)
                refine lv_lload hx hb dd_M_rounded_104 (lv_at hl 1 rfl) ?_
                refine lv_lneg hx hb dd_M_rounded_106 ?_
                refine lv_lload hx hb dd_M_rounded_107 (lv_at hl 4 rfl) ?_
                refine lv_lmul hx hb dd_M_rounded_109 ?_
                refine lv_goto (tgt := 118) hx hb dd_M_rounded_110 (by decide) ?_
                exact W.lret (v := ((-(x2 / x4)) * x4)) hx hb hr (fun t ht hW => ⟨((-(x2 / x4)) * x4), rfl, hf.symm, ht⟩) (fun _ h => by cases h) dd_M_rounded_118
            · have hf := hf.trans (if_pos c8)
              refine lv_lload hx hb dd_M_rounded_74 (lv_at hl 4 rfl) ?_
              refine lv_lconst (v := 1) hx hb dd_M_rounded_76 (by decide) ?_
              refine W.lcmp hx hb dd_M_rounded_77 ?_
              refine lv_if_le (tgt := 98) hx hb dd_M_rounded_78 (by decide) (fun c10 => ?_) (fun c10 => ?_)
              · have hf := hf.trans (if_pos c10)
                refine lv_lload_n hx hb dd_M_rounded_98 rfl (lv_at hl 2 rfl) ?_
                refine lv_lconst (v := 0) hx hb dd_M_rounded_99 (by decide) ?_
                refine W.lcmp hx hb dd_M_rounded_100 ?_
                refine lv_if_ge (tgt := 113) hx hb dd_M_rounded_101 (by decide) (fun c11 => ?_) (fun c11 => ?_)
                · have hf := hf.trans (if_pos c11)
                  refine lv_lload hx hb dd_M_rounded_113 (lv_at hl 1 rfl) ?_
                  refine lv_lload hx hb dd_M_rounded_115 (lv_at hl 4 rfl) ?_
                  refine lv_lmul hx hb dd_M_rounded_117 ?_
                  exact W.lret (v := ((x2 / x4) * x4)) hx hb hr (fun t ht hW => ⟨((x2 / x4) * x4), rfl, hf.symm, ht⟩) (fun _ h => by cases h) dd_M_rounded_118
                · have hf := hf.trans (if_neg c11)
                  refine lv_lload hx hb dd_M_rounded_104 (lv_at hl 1 rfl) ?_
                  refine lv_lneg hx hb dd_M_rounded_106 ?_
                  refine lv_lload hx hb dd_M_rounded_107 (lv_at hl 4 rfl) ?_
                  refine lv_lmul hx hb dd_M_rounded_109 ?_
                  refine lv_goto (tgt := 118) hx hb dd_M_rounded_110 (by decide) ?_
                  exact W.lret (v := ((-(x2 / x4)) * x4)) hx hb hr (fun t ht hW => ⟨((-(x2 / x4)) * x4), rfl, hf.symm, ht⟩) (fun _ h => by cases h) dd_M_rounded_118
              · have hf := hf.trans (if_neg c10)
                refine lv_lload hx hb dd_M_rounded_81 (lv_at hl 1 rfl) ?_
                refine lv_ldc2 (v := 2) hx hb hown (hts _ gw_500) dd_M_rounded_83 ?_
                refine lv_lrem hx hb dd_M_rounded_86 (by decide) ?_
                refine lv_lconst (v := 1) hx hb dd_M_rounded_87 (by decide) ?_
                refine W.lcmp hx hb dd_M_rounded_88 ?_
                refine lv_if_ne (tgt := 98) hx hb dd_M_rounded_89 (by decide) (fun c12 => ?_) (fun c12 => ?_)
                · have hf := hf.trans (if_neg c12)
                  refine lv_lload_n hx hb dd_M_rounded_98 rfl (lv_at hl 2 rfl) ?_
                  refine lv_lconst (v := 0) hx hb dd_M_rounded_99 (by decide) ?_
                  refine W.lcmp hx hb dd_M_rounded_100 ?_
                  refine lv_if_ge (tgt := 113) hx hb dd_M_rounded_101 (by decide) (fun c13 => ?_) (fun c13 => ?_)
                  · have hf := hf.trans (if_pos c13)
                    refine lv_lload hx hb dd_M_rounded_113 (lv_at hl 1 rfl) ?_
                    refine lv_lload hx hb dd_M_rounded_115 (lv_at hl 4 rfl) ?_
                    refine lv_lmul hx hb dd_M_rounded_117 ?_
                    exact W.lret (v := ((x2 / x4) * x4)) hx hb hr (fun t ht hW => ⟨((x2 / x4) * x4), rfl, hf.symm, ht⟩) (fun _ h => by cases h) dd_M_rounded_118
                  · have hf := hf.trans (if_neg c13)
                    refine lv_lload hx hb dd_M_rounded_104 (lv_at hl 1 rfl) ?_
                    refine lv_lneg hx hb dd_M_rounded_106 ?_
                    refine lv_lload hx hb dd_M_rounded_107 (lv_at hl 4 rfl) ?_
                    refine lv_lmul hx hb dd_M_rounded_109 ?_
                    refine lv_goto (tgt := 118) hx hb dd_M_rounded_110 (by decide) ?_
                    exact W.lret (v := ((-(x2 / x4)) * x4)) hx hb hr (fun t ht hW => ⟨((-(x2 / x4)) * x4), rfl, hf.symm, ht⟩) (fun _ h => by cases h) dd_M_rounded_118
                · have hf := hf.trans (if_pos c12)
                  refine lv_lload hx hb dd_M_rounded_92 (lv_at hl 1 rfl) ?_
                  refine lv_lconst (v := 1) hx hb dd_M_rounded_94 (by decide) ?_
                  refine lv_ladd hx hb dd_M_rounded_95 ?_
                  refine lv_lstore (lv' := [(6, .long ((x2 / x4) + 1)), (8, .long (x2 - x2 / x4 * x4)), (0, .long x0), (2, .long x2), (4, .long x4)]) hx hb dd_M_rounded_96 hl (by decide) rfl (fun ls hl => ?_)
                  refine lv_lload_n hx hb dd_M_rounded_98 rfl (lv_at hl 2 rfl) ?_
                  refine lv_lconst (v := 0) hx hb dd_M_rounded_99 (by decide) ?_
                  refine W.lcmp hx hb dd_M_rounded_100 ?_
                  refine lv_if_ge (tgt := 113) hx hb dd_M_rounded_101 (by decide) (fun c14 => ?_) (fun c14 => ?_)
                  · have hf := hf.trans (if_pos c14)
                    refine lv_lload hx hb dd_M_rounded_113 (lv_at hl 0 rfl) ?_
                    refine lv_lload hx hb dd_M_rounded_115 (lv_at hl 4 rfl) ?_
                    refine lv_lmul hx hb dd_M_rounded_117 ?_
                    exact W.lret (v := (((x2 / x4) + 1) * x4)) hx hb hr (fun t ht hW => ⟨(((x2 / x4) + 1) * x4), rfl, hf.symm, ht⟩) (fun _ h => by cases h) dd_M_rounded_118
                  · have hf := hf.trans (if_neg c14)
                    refine lv_lload hx hb dd_M_rounded_104 (lv_at hl 0 rfl) ?_
                    refine lv_lneg hx hb dd_M_rounded_106 ?_
                    refine lv_lload hx hb dd_M_rounded_107 (lv_at hl 4 rfl) ?_
                    refine lv_lmul hx hb dd_M_rounded_109 ?_
                    refine lv_goto (tgt := 118) hx hb dd_M_rounded_110 (by decide) ?_
                    exact W.lret (v := ((-((x2 / x4) + 1)) * x4)) hx hb hr (fun t ht hW => ⟨((-((x2 / x4) + 1)) * x4), rfl, hf.symm, ht⟩) (fun _ h => by cases h) dd_M_rounded_118
        · have hf := hf.trans (if_neg c3)
          have hok := hok.2 c3
          refine lv_lload hx hb dd_M_rounded_27 (lv_at hl 2 rfl) ?_
          refine lv_ldc2 (v := 2) hx hb hown (hts _ gw_500) dd_M_rounded_29 ?_
          refine lv_lmul hx hb dd_M_rounded_32 ?_
          refine lv_lstore (lv' := [(4, .long (x4 * 2)), (0, .long x0), (2, .long x2)]) hx hb dd_M_rounded_33 hl (by decide) rfl (fun ls hl => ?_)
          refine lv_goto (tgt := 16) hx hb dd_M_rounded_35 (by decide) ?_
          exact ih x0 x2 (x4 * 2) ls hok hf (lv_sub hl [1, 2, 0] rfl)
    exact loop_16 12 p0 p0 (1 : Int64) ls hok hf (lv_sub hl [2, 1, 0] rfl)
  · have hf := hf.trans (if_neg c1)
    have hok := hok.2 c1
    refine lv_lload_n hx hb dd_M_rounded_6 rfl (lv_at hl 0 rfl) ?_
    refine lv_lneg hx hb dd_M_rounded_7 ?_
    refine lv_goto (tgt := 12) hx hb dd_M_rounded_8 (by decide) ?_
    refine lv_lstore_n (lv' := [(2, .long (-p0)), (0, .long p0)]) hx hb dd_M_rounded_12 rfl hl (by decide) rfl (fun ls hl => ?_)
    refine lv_lconst (v := 1) hx hb dd_M_rounded_13 (by decide) ?_
    refine lv_lstore (lv' := [(4, .long 1), (2, .long (-p0)), (0, .long p0)]) hx hb dd_M_rounded_14 hl (by decide) rfl (fun ls hl => ?_)
    have loop_16 : ∀ (n : Nat) (x0 : Int64) (x2 : Int64) (x4 : Int64) (ls : Array Slot), okl_M_rounded_16 n x0 x2 x4 → ff_M_rounded p0 = fl_M_rounded_16 n x0 x2 x4 → lv_has ls 10 [(0, .long x0), (2, .long x2), (4, .long x4)] → W p l e (headSpec ws_M_rounded rm_M_rounded).room s m ([.long p0] : List Value).toArray below meth c s.heap [] 0 0 (MQ below (vp_Sl (fun r => r = ff_M_rounded p0)) ([.long p0] : List Value).toArray s 0 0 (fun _ => False)) (F0 m 16 ls []) := by
      intro n
      induction n with
      | zero => intro x0 x2 x4 ls hok; exact (show False from hok).elim
      | succ n ih =>
        intro x0 x2 x4 ls hok hf hl
        rw [fl_M_rounded_16] at hf
        rw [okl_M_rounded_16] at hok
        refine lv_lload_n hx hb dd_M_rounded_16 rfl (lv_at hl 1 rfl) ?_
        refine lv_lload hx hb dd_M_rounded_17 (lv_at hl 2 rfl) ?_
        obtain ⟨n15, hok⟩ := hok
        refine lv_ldiv hx hb dd_M_rounded_19 n15 ?_
        refine lv_ldc2 (v := 16777216) hx hb hown (hts _ gw_499) dd_M_rounded_20 ?_
        refine W.lcmp hx hb dd_M_rounded_23 ?_
        refine lv_if_lt (tgt := 38) hx hb dd_M_rounded_24 (by decide) (fun c16 => ?_) (fun c16 => ?_)
        · have hf := hf.trans (if_pos c16)
          have hok := hok.1 c16
          refine lv_lload_n hx hb dd_M_rounded_38 rfl (lv_at hl 1 rfl) ?_
          refine lv_lload hx hb dd_M_rounded_39 (lv_at hl 2 rfl) ?_
          obtain ⟨n17, hok⟩ := hok
          refine lv_ldiv hx hb dd_M_rounded_41 n17 ?_
          refine lv_lstore (lv' := [(6, .long (x2 / x4)), (0, .long x0), (2, .long x2), (4, .long x4)]) hx hb dd_M_rounded_42 hl (by decide) rfl (fun ls hl => ?_)
          refine lv_lload_n hx hb dd_M_rounded_44 rfl (lv_at hl 2 rfl) ?_
          refine lv_lload hx hb dd_M_rounded_45 (lv_at hl 3 rfl) ?_
          have n18 := hok
          refine lv_lrem hx hb dd_M_rounded_47 n18 ?_
          refine lv_lstore (lv' := [(8, .long (x2 - x2 / x4 * x4)), (6, .long (x2 / x4)), (0, .long x0), (2, .long x2), (4, .long x4)]) hx hb dd_M_rounded_48 hl (by decide) rfl (fun ls hl => ?_)
          refine lv_ldc2 (v := 2) hx hb hown (hts _ gw_500) dd_M_rounded_50 ?_
          refine lv_lload hx hb dd_M_rounded_53 (lv_at hl 0 rfl) ?_
          refine lv_lmul hx hb dd_M_rounded_55 ?_
          refine lv_lload hx hb dd_M_rounded_56 (lv_at hl 4 rfl) ?_
          refine W.lcmp hx hb dd_M_rounded_58 ?_
          refine lv_if_gt (tgt := 92) hx hb dd_M_rounded_59 (by decide) (fun c19 => ?_) (fun c19 => ?_)
          · have hf := hf.trans (if_pos c19)
            refine lv_lload hx hb dd_M_rounded_92 (lv_at hl 1 rfl) ?_
            refine lv_lconst (v := 1) hx hb dd_M_rounded_94 (by decide) ?_
            refine lv_ladd hx hb dd_M_rounded_95 ?_
            refine lv_lstore (lv' := [(6, .long ((x2 / x4) + 1)), (8, .long (x2 - x2 / x4 * x4)), (0, .long x0), (2, .long x2), (4, .long x4)]) hx hb dd_M_rounded_96 hl (by decide) rfl (fun ls hl => ?_)
            refine lv_lload_n hx hb dd_M_rounded_98 rfl (lv_at hl 2 rfl) ?_
            refine lv_lconst (v := 0) hx hb dd_M_rounded_99 (by decide) ?_
            refine W.lcmp hx hb dd_M_rounded_100 ?_
            refine lv_if_ge (tgt := 113) hx hb dd_M_rounded_101 (by decide) (fun c20 => ?_) (fun c20 => ?_)
            · have hf := hf.trans (if_pos c20)
              refine lv_lload hx hb dd_M_rounded_113 (lv_at hl 0 rfl) ?_
              refine lv_lload hx hb dd_M_rounded_115 (lv_at hl 4 rfl) ?_
              refine lv_lmul hx hb dd_M_rounded_117 ?_
              exact W.lret (v := (((x2 / x4) + 1) * x4)) hx hb hr (fun t ht hW => ⟨(((x2 / x4) + 1) * x4), rfl, hf.symm, ht⟩) (fun _ h => by cases h) dd_M_rounded_118
            · have hf := hf.trans (if_neg c20)
              refine lv_lload hx hb dd_M_rounded_104 (lv_at hl 0 rfl) ?_
              refine lv_lneg hx hb dd_M_rounded_106 ?_
              refine lv_lload hx hb dd_M_rounded_107 (lv_at hl 4 rfl) ?_
              refine lv_lmul hx hb dd_M_rounded_109 ?_
              refine lv_goto (tgt := 118) hx hb dd_M_rounded_110 (by decide) ?_
              exact W.lret (v := ((-((x2 / x4) + 1)) * x4)) hx hb hr (fun t ht hW => ⟨((-((x2 / x4) + 1)) * x4), rfl, hf.symm, ht⟩) (fun _ h => by cases h) dd_M_rounded_118
          · have hf := hf.trans (if_neg c19)
            refine lv_ldc2 (v := 2) hx hb hown (hts _ gw_500) dd_M_rounded_62 ?_
            refine lv_lload hx hb dd_M_rounded_65 (lv_at hl 0 rfl) ?_
            refine lv_lmul hx hb dd_M_rounded_67 ?_
            refine lv_lload hx hb dd_M_rounded_68 (lv_at hl 4 rfl) ?_
            refine W.lcmp hx hb dd_M_rounded_70 ?_
            refine lv_if_ne (tgt := 98) hx hb dd_M_rounded_71 (by decide) (fun c21 => ?_) (fun c21 => ?_)
            · have hf := hf.trans (if_neg c21)
              refine lv_lload_n hx hb dd_M_rounded_98 rfl (lv_at hl 2 rfl) ?_
              refine lv_lconst (v := 0) hx hb dd_M_rounded_99 (by decide) ?_
              refine W.lcmp hx hb dd_M_rounded_100 ?_
              refine lv_if_ge (tgt := 113) hx hb dd_M_rounded_101 (by decide) (fun c22 => ?_) (fun c22 => ?_)
              · have hf := hf.trans (if_pos c22)
                refine lv_lload hx hb dd_M_rounded_113 (lv_at hl 1 rfl) ?_
                refine lv_lload hx hb dd_M_rounded_115 (lv_at hl 4 rfl) ?_
                refine lv_lmul hx hb dd_M_rounded_117 ?_
                exact W.lret (v := ((x2 / x4) * x4)) hx hb hr (fun t ht hW => ⟨((x2 / x4) * x4), rfl, hf.symm, ht⟩) (fun _ h => by cases h) dd_M_rounded_118
              · have hf := hf.trans (if_neg c22)
                refine lv_lload hx hb dd_M_rounded_104 (lv_at hl 1 rfl) ?_
                refine lv_lneg hx hb dd_M_rounded_106 ?_
                refine lv_lload hx hb dd_M_rounded_107 (lv_at hl 4 rfl) ?_
                refine lv_lmul hx hb dd_M_rounded_109 ?_
                refine lv_goto (tgt := 118) hx hb dd_M_rounded_110 (by decide) ?_
                exact W.lret (v := ((-(x2 / x4)) * x4)) hx hb hr (fun t ht hW => ⟨((-(x2 / x4)) * x4), rfl, hf.symm, ht⟩) (fun _ h => by cases h) dd_M_rounded_118
            · have hf := hf.trans (if_pos c21)
              refine lv_lload hx hb dd_M_rounded_74 (lv_at hl 4 rfl) ?_
              refine lv_lconst (v := 1) hx hb dd_M_rounded_76 (by decide) ?_
              refine W.lcmp hx hb dd_M_rounded_77 ?_
              refine lv_if_le (tgt := 98) hx hb dd_M_rounded_78 (by decide) (fun c23 => ?_) (fun c23 => ?_)
              · have hf := hf.trans (if_pos c23)
                refine lv_lload_n hx hb dd_M_rounded_98 rfl (lv_at hl 2 rfl) ?_
                refine lv_lconst (v := 0) hx hb dd_M_rounded_99 (by decide) ?_
                refine W.lcmp hx hb dd_M_rounded_100 ?_
                refine lv_if_ge (tgt := 113) hx hb dd_M_rounded_101 (by decide) (fun c24 => ?_) (fun c24 => ?_)
                · have hf := hf.trans (if_pos c24)
                  refine lv_lload hx hb dd_M_rounded_113 (lv_at hl 1 rfl) ?_
                  refine lv_lload hx hb dd_M_rounded_115 (lv_at hl 4 rfl) ?_
                  refine lv_lmul hx hb dd_M_rounded_117 ?_
                  exact W.lret (v := ((x2 / x4) * x4)) hx hb hr (fun t ht hW => ⟨((x2 / x4) * x4), rfl, hf.symm, ht⟩) (fun _ h => by cases h) dd_M_rounded_118
                · have hf := hf.trans (if_neg c24)
                  refine lv_lload hx hb dd_M_rounded_104 (lv_at hl 1 rfl) ?_
                  refine lv_lneg hx hb dd_M_rounded_106 ?_
                  refine lv_lload hx hb dd_M_rounded_107 (lv_at hl 4 rfl) ?_
                  refine lv_lmul hx hb dd_M_rounded_109 ?_
                  refine lv_goto (tgt := 118) hx hb dd_M_rounded_110 (by decide) ?_
                  exact W.lret (v := ((-(x2 / x4)) * x4)) hx hb hr (fun t ht hW => ⟨((-(x2 / x4)) * x4), rfl, hf.symm, ht⟩) (fun _ h => by cases h) dd_M_rounded_118
              · have hf := hf.trans (if_neg c23)
                refine lv_lload hx hb dd_M_rounded_81 (lv_at hl 1 rfl) ?_
                refine lv_ldc2 (v := 2) hx hb hown (hts _ gw_500) dd_M_rounded_83 ?_
                refine lv_lrem hx hb dd_M_rounded_86 (by decide) ?_
                refine lv_lconst (v := 1) hx hb dd_M_rounded_87 (by decide) ?_
                refine W.lcmp hx hb dd_M_rounded_88 ?_
                refine lv_if_ne (tgt := 98) hx hb dd_M_rounded_89 (by decide) (fun c25 => ?_) (fun c25 => ?_)
                · have hf := hf.trans (if_neg c25)
                  refine lv_lload_n hx hb dd_M_rounded_98 rfl (lv_at hl 2 rfl) ?_
                  refine lv_lconst (v := 0) hx hb dd_M_rounded_99 (by decide) ?_
                  refine W.lcmp hx hb dd_M_rounded_100 ?_
                  refine lv_if_ge (tgt := 113) hx hb dd_M_rounded_101 (by decide) (fun c26 => ?_) (fun c26 => ?_)
                  · have hf := hf.trans (if_pos c26)
                    refine lv_lload hx hb dd_M_rounded_113 (lv_at hl 1 rfl) ?_
                    refine lv_lload hx hb dd_M_rounded_115 (lv_at hl 4 rfl) ?_
                    refine lv_lmul hx hb dd_M_rounded_117 ?_
                    exact W.lret (v := ((x2 / x4) * x4)) hx hb hr (fun t ht hW => ⟨((x2 / x4) * x4), rfl, hf.symm, ht⟩) (fun _ h => by cases h) dd_M_rounded_118
                  · have hf := hf.trans (if_neg c26)
                    refine lv_lload hx hb dd_M_rounded_104 (lv_at hl 1 rfl) ?_
                    refine lv_lneg hx hb dd_M_rounded_106 ?_
                    refine lv_lload hx hb dd_M_rounded_107 (lv_at hl 4 rfl) ?_
                    refine lv_lmul hx hb dd_M_rounded_109 ?_
                    refine lv_goto (tgt := 118) hx hb dd_M_rounded_110 (by decide) ?_
                    exact W.lret (v := ((-(x2 / x4)) * x4)) hx hb hr (fun t ht hW => ⟨((-(x2 / x4)) * x4), rfl, hf.symm, ht⟩) (fun _ h => by cases h) dd_M_rounded_118
                · have hf := hf.trans (if_pos c25)
                  refine lv_lload hx hb dd_M_rounded_92 (lv_at hl 1 rfl) ?_
                  refine lv_lconst (v := 1) hx hb dd_M_rounded_94 (by decide) ?_
                  refine lv_ladd hx hb dd_M_rounded_95 ?_
                  refine lv_lstore (lv' := [(6, .long ((x2 / x4) + 1)), (8, .long (x2 - x2 / x4 * x4)), (0, .long x0), (2, .long x2), (4, .long x4)]) hx hb dd_M_rounded_96 hl (by decide) rfl (fun ls hl => ?_)
                  refine lv_lload_n hx hb dd_M_rounded_98 rfl (lv_at hl 2 rfl) ?_
                  refine lv_lconst (v := 0) hx hb dd_M_rounded_99 (by decide) ?_
                  refine W.lcmp hx hb dd_M_rounded_100 ?_
                  refine lv_if_ge (tgt := 113) hx hb dd_M_rounded_101 (by decide) (fun c27 => ?_) (fun c27 => ?_)
                  · have hf := hf.trans (if_pos c27)
                    refine lv_lload hx hb dd_M_rounded_113 (lv_at hl 0 rfl) ?_
                    refine lv_lload hx hb dd_M_rounded_115 (lv_at hl 4 rfl) ?_
                    refine lv_lmul hx hb dd_M_rounded_117 ?_
                    exact W.lret (v := (((x2 / x4) + 1) * x4)) hx hb hr (fun t ht hW => ⟨(((x2 / x4) + 1) * x4), rfl, hf.symm, ht⟩) (fun _ h => by cases h) dd_M_rounded_118
                  · have hf := hf.trans (if_neg c27)
                    refine lv_lload hx hb dd_M_rounded_104 (lv_at hl 0 rfl) ?_
                    refine lv_lneg hx hb dd_M_rounded_106 ?_
                    refine lv_lload hx hb dd_M_rounded_107 (lv_at hl 4 rfl) ?_
                    refine lv_lmul hx hb dd_M_rounded_109 ?_
                    refine lv_goto (tgt := 118) hx hb dd_M_rounded_110 (by decide) ?_
                    exact W.lret (v := ((-((x2 / x4) + 1)) * x4)) hx hb hr (fun t ht hW => ⟨((-((x2 / x4) + 1)) * x4), rfl, hf.symm, ht⟩) (fun _ h => by cases h) dd_M_rounded_118
        · have hf := hf.trans (if_neg c16)
          have hok := hok.2 c16
          refine lv_lload hx hb dd_M_rounded_27 (lv_at hl 2 rfl) ?_
          refine lv_ldc2 (v := 2) hx hb hown (hts _ gw_500) dd_M_rounded_29 ?_
          refine lv_lmul hx hb dd_M_rounded_32 ?_
          refine lv_lstore (lv' := [(4, .long (x4 * 2)), (0, .long x0), (2, .long x2)]) hx hb dd_M_rounded_33 hl (by decide) rfl (fun ls hl => ?_)
          refine lv_goto (tgt := 16) hx hb dd_M_rounded_35 (by decide) ?_
          exact ih x0 x2 (x4 * 2) ls hok hf (lv_sub hl [1, 2, 0] rfl)
    exact loop_16 12 p0 (-p0) (1 : Int64) ls hok hf (lv_sub hl [2, 1, 0] rfl)

def ff_M_as (p0 : Int32) (p1 : Int32) : Int64 := (if p0 = 0 then (if p1 = 0 then 0 else 1) else (if p0 = 1 then p1.toInt8.toInt32.toInt64 else (if p0 = 2 then (p1 &&& 65535).toInt64 else (if p0 = 3 then p1.toInt16.toInt32.toInt64 else (if p0 = 4 then p1.toInt64 else (if p0 = 5 then p1.toInt64 else (if p0 = 6 then ff_M_rounded p1.toInt64 else p1.toInt64)))))))
def ok_M_as (p0 : Int32) (p1 : Int32) : Prop := (((p0 = 0) → True) ∧ (¬ (p0 = 0) → (((p0 = 1) → True) ∧ (¬ (p0 = 1) → (((p0 = 2) → True) ∧ (¬ (p0 = 2) → (((p0 = 3) → True) ∧ (¬ (p0 = 3) → (((p0 = 4) → True) ∧ (¬ (p0 = 4) → (((p0 = 5) → True) ∧ (¬ (p0 = 5) → (((p0 = 6) → ok_M_rounded p1.toInt64) ∧ (¬ (p0 = 6) → True))))))))))))))
abbrev ws_M_as : List Cond := .code yy_M_as bb_M_as 2 (some .long) :: gW
abbrev rm_M_as : Room := { frames := 1, cells := 0, slots := 0, locals := 29 }
set_option maxHeartbeats 4000000 in
set_option maxRecDepth 100000 in
theorem mm_M_as (l : Launch) (p0 : Int32) (p1 : Int32) (hok : ok_M_as p0 p1) : Met l yy_M_as ws_M_as rm_M_as (va_Pc [.int p0, .int p1] (fun _ => True)) (vp_Sl (fun r => r = ff_M_as p0 p1)) 0 0 (fun _ => False) := by
  refine Met.ofW (cc := bb_M_as) (maxL := 2) (ret := (some .long)) (by decide) rfl ?_
  intro p e s m args below meth c s₁ B hml hv
  obtain ⟨rfl, -⟩ := hv
  have hx := B.exec
  have hb := B.bytes
  have hr := B.returns
  have hts : ∀ w ∈ gW, w.before _ s = true := fun w h => atoms_spec (ws := ws_M_as) B.pre w (List.mem_cons_of_mem _ h)
  have hown : s.vm.findClass "ClassObjectMirrorModel" = some m.cls := findClass_of_methodNamed B.named
  have hlocks := B.notSynchronized
  have hl := lv_entry ([.int p0, .int p1]) (n := 2) (Nat.le_of_ble_eq_true rfl)
  rw [lg_entry_eq]
  generalize (lg_sl ([.int p0, .int p1]) ++ List.replicate (2 - (lg_sl ([.int p0, .int p1])).length) Slot.unset).toArray = ls at hl ⊢
  have hl : lv_has ls 2 [(0, .int p0), (1, .int p1)] := hl
  have hf := ff_M_as.eq_1 p0 p1
  unfold ok_M_as at hok
  refine lv_iload_n hx hb dd_M_as_0 rfl (lv_at hl 0 rfl) ?_
  by_cases c1 : p0 = 0
  · have hf := hf.trans (if_pos c1)
    have hok := hok.1 c1
    refine lv_tableIn (off := 43) (tgt := 44) hx hb dd_M_as_1 (by rw [c1]; decide) (by rw [c1]; decide) (by rw [c1]; decide) (by decide) ?_
    refine lv_iload_n hx hb dd_M_as_44 rfl (lv_at hl 1 rfl) ?_
    refine lv_if_eq (tgt := 52) hx hb dd_M_as_45 (by decide) (fun c9 => ?_) (fun c9 => ?_)
    · have hf := hf.trans (if_pos c9)
      refine lv_lconst (v := 0) hx hb dd_M_as_52 (by decide) ?_
      exact W.lret (v := (0 : Int64)) hx hb hr (fun t ht hW => ⟨(0 : Int64), rfl, hf.symm, ht⟩) (fun _ h => by cases h) dd_M_as_53
    · have hf := hf.trans (if_neg c9)
      refine lv_lconst (v := 1) hx hb dd_M_as_48 (by decide) ?_
      refine lv_goto (tgt := 53) hx hb dd_M_as_49 (by decide) ?_
      exact W.lret (v := (1 : Int64)) hx hb hr (fun t ht hW => ⟨(1 : Int64), rfl, hf.symm, ht⟩) (fun _ h => by cases h) dd_M_as_53
  · have hf := hf.trans (if_neg c1)
    have hok := hok.2 c1
    by_cases c2 : p0 = 1
    · have hf := hf.trans (if_pos c2)
      have hok := hok.1 c2
      refine lv_tableIn (off := 53) (tgt := 54) hx hb dd_M_as_1 (by rw [c2]; decide) (by rw [c2]; decide) (by rw [c2]; decide) (by decide) ?_
      refine lv_iload_n hx hb dd_M_as_54 rfl (lv_at hl 1 rfl) ?_
      refine lv_i2b (v := p1.toInt8.toInt32) hx hb dd_M_as_55 rfl ?_
      refine lv_i2l (v := p1.toInt8.toInt32.toInt64) hx hb dd_M_as_56 rfl ?_
      exact W.lret (v := p1.toInt8.toInt32.toInt64) hx hb hr (fun t ht hW => ⟨p1.toInt8.toInt32.toInt64, rfl, hf.symm, ht⟩) (fun _ h => by cases h) dd_M_as_57
    · have hf := hf.trans (if_neg c2)
      have hok := hok.2 c2
      by_cases c3 : p0 = 2
      · have hf := hf.trans (if_pos c3)
        have hok := hok.1 c3
        refine lv_tableIn (off := 57) (tgt := 58) hx hb dd_M_as_1 (by rw [c3]; decide) (by rw [c3]; decide) (by rw [c3]; decide) (by decide) ?_
        refine lv_iload_n hx hb dd_M_as_58 rfl (lv_at hl 1 rfl) ?_
        refine lv_ldc (v := 65535) hx hb hown (hts _ gw_495) dd_M_as_59 ?_
        refine lv_iand hx hb dd_M_as_61 ?_
        refine lv_i2l (v := (p1 &&& 65535).toInt64) hx hb dd_M_as_62 rfl ?_
        exact W.lret (v := ((p1 &&& 65535).toInt64)) hx hb hr (fun t ht hW => ⟨((p1 &&& 65535).toInt64), rfl, hf.symm, ht⟩) (fun _ h => by cases h) dd_M_as_63
      · have hf := hf.trans (if_neg c3)
        have hok := hok.2 c3
        by_cases c4 : p0 = 3
        · have hf := hf.trans (if_pos c4)
          have hok := hok.1 c4
          refine lv_tableIn (off := 63) (tgt := 64) hx hb dd_M_as_1 (by rw [c4]; decide) (by rw [c4]; decide) (by rw [c4]; decide) (by decide) ?_
          refine lv_iload_n hx hb dd_M_as_64 rfl (lv_at hl 1 rfl) ?_
          refine lv_i2s (v := p1.toInt16.toInt32) hx hb dd_M_as_65 rfl ?_
          refine lv_i2l (v := p1.toInt16.toInt32.toInt64) hx hb dd_M_as_66 rfl ?_
          exact W.lret (v := p1.toInt16.toInt32.toInt64) hx hb hr (fun t ht hW => ⟨p1.toInt16.toInt32.toInt64, rfl, hf.symm, ht⟩) (fun _ h => by cases h) dd_M_as_67
        · have hf := hf.trans (if_neg c4)
          have hok := hok.2 c4
          by_cases c5 : p0 = 4
          · have hf := hf.trans (if_pos c5)
            have hok := hok.1 c5
            refine lv_tableIn (off := 73) (tgt := 74) hx hb dd_M_as_1 (by rw [c5]; decide) (by rw [c5]; decide) (by rw [c5]; decide) (by decide) ?_
            refine lv_iload_n hx hb dd_M_as_74 rfl (lv_at hl 1 rfl) ?_
            refine lv_i2l (v := p1.toInt64) hx hb dd_M_as_75 rfl ?_
            exact W.lret (v := p1.toInt64) hx hb hr (fun t ht hW => ⟨p1.toInt64, rfl, hf.symm, ht⟩) (fun _ h => by cases h) dd_M_as_76
          · have hf := hf.trans (if_neg c5)
            have hok := hok.2 c5
            by_cases c6 : p0 = 5
            · have hf := hf.trans (if_pos c6)
              have hok := hok.1 c6
              refine lv_tableIn (off := 73) (tgt := 74) hx hb dd_M_as_1 (by rw [c6]; decide) (by rw [c6]; decide) (by rw [c6]; decide) (by decide) ?_
              refine lv_iload_n hx hb dd_M_as_74 rfl (lv_at hl 1 rfl) ?_
              refine lv_i2l (v := p1.toInt64) hx hb dd_M_as_75 rfl ?_
              exact W.lret (v := p1.toInt64) hx hb hr (fun t ht hW => ⟨p1.toInt64, rfl, hf.symm, ht⟩) (fun _ h => by cases h) dd_M_as_76
            · have hf := hf.trans (if_neg c6)
              have hok := hok.2 c6
              by_cases c7 : p0 = 6
              · have hf := hf.trans (if_pos c7)
                have hok := hok.1 c7
                refine lv_tableIn (off := 67) (tgt := 68) hx hb dd_M_as_1 (by rw [c7]; decide) (by rw [c7]; decide) (by rw [c7]; decide) (by decide) ?_
                refine lv_iload_n hx hb dd_M_as_68 rfl (lv_at hl 1 rfl) ?_
                refine lv_i2l (v := p1.toInt64) hx hb dd_M_as_69 rfl ?_
                have n8 := hok
                refine vp_callSl (W.runS (As := [.long p1.toInt64]) (rest := []) ⟨hx, hb, hml, hown, hts⟩ (mm_M_rounded l p1.toInt64 n8) (va_cwS 1 hts (gg_S gw_496 gw_497 gw_2 gw_498) rfl rfl rfl (by decide +kernel) ⟨Nat.le_of_ble_eq_true rfl, Nat.le_of_ble_eq_true rfl⟩) ⟨fun a U g mk q => q, fun U hU hW => ⟨rfl, trivial⟩⟩ rfl rfl hl.1 rfl (lv_room (Nat.le_of_ble_eq_true rfl)) dd_M_as_70 ⟨Nat.zero_le _, Nat.zero_le _⟩) (fun r hr9 => ?_)
                subst hr9
                exact W.lret (v := (ff_M_rounded p1.toInt64)) hx hb hr (fun t ht hW => ⟨(ff_M_rounded p1.toInt64), rfl, hf.symm, ht⟩) (fun _ h => by cases h) dd_M_as_73
              · have hf := hf.trans (if_neg c7)
                have hok := hok.2 c7
                refine lv_tableOut (tgt := 74) hx hb dd_M_as_1 ?_ (by decide) ?_
                · rcases sw_tab p0 0 6 7 (by decide) with hsw | ⟨j9, hj9, ej9⟩
                  · exact hsw
                  · exfalso
                    rcases (show j9 = 0 ∨ j9 = 1 ∨ j9 = 2 ∨ j9 = 3 ∨ j9 = 4 ∨ j9 = 5 ∨ j9 = 6 by omega) with rfl | rfl | rfl | rfl | rfl | rfl | rfl
                    · exact c1 (ej9.trans (by decide))
                    · exact c2 (ej9.trans (by decide))
                    · exact c3 (ej9.trans (by decide))
                    · exact c4 (ej9.trans (by decide))
                    · exact c5 (ej9.trans (by decide))
                    · exact c6 (ej9.trans (by decide))
                    · exact c7 (ej9.trans (by decide))
                · skip
                  refine lv_iload_n hx hb dd_M_as_74 rfl (lv_at hl 1 rfl) ?_
                  refine lv_i2l (v := p1.toInt64) hx hb dd_M_as_75 rfl ?_
                  exact W.lret (v := p1.toInt64) hx hb hr (fun t ht hW => ⟨p1.toInt64, rfl, hf.symm, ht⟩) (fun _ h => by cases h) dd_M_as_76

def ff_M_put (u0 : SM) (p0 : Int32) (p1 : Int32) (p2 : Int32) : Int32 × SM := (if (ff_M_noObject u0 p0) = 0 then (if (ff_M_array u0 p0) = 1 then (if (ff_M_outside u0 p0 p1) = 0 then (0, m_u_cell u0 ((8 * p0) + p1) (ff_M_as (m_comp u0 (m_kind u0 p0.toNatClampNeg).toNatClampNeg) p2)) else ((-5), u0)) else ((-1), u0)) else ((-1), u0))
def ok_M_put (u0 : SM) (p0 : Int32) (p1 : Int32) (p2 : Int32) : Prop := ((((ff_M_noObject u0 p0) = 0) → (ok_M_array u0 p0) ∧ ((((ff_M_array u0 p0) = 1) → (ok_M_outside u0 p0 p1) ∧ ((((ff_M_outside u0 p0 p1) = 0) → (vp_in p0 80) ∧ (vp_in (m_kind u0 p0.toNatClampNeg) 300) ∧ (ok_M_as (m_comp u0 (m_kind u0 p0.toNatClampNeg).toNatClampNeg) p2) ∧ vp_in ((8 * p0) + p1) 640) ∧ (¬ ((ff_M_outside u0 p0 p1) = 0) → True))) ∧ (¬ ((ff_M_array u0 p0) = 1) → True))) ∧ (¬ ((ff_M_noObject u0 p0) = 0) → True))
abbrev ws_M_put : List Cond := .code yy_M_put bb_M_put 4 (some .int) :: gW
abbrev rm_M_put : Room := { frames := 2, cells := 0, slots := 0, locals := 50 }
set_option maxHeartbeats 4000000 in
set_option maxRecDepth 100000 in
theorem mm_M_put (l : Launch) (dC : Nat → ClassId) (dI : Nat → Nat → Nat) (h : Nat) (a : Nat → Nat) (k : Nat → ClassId) (u0 : SM) (p0 : Int32) (p1 : Int32) (p2 : Int32) (hok : ok_M_put u0 p0 p1 p2) : Met l yy_M_put ws_M_put rm_M_put (va_Pc [.ref h, .int p0, .int p1, .int p2] (pM dC dI h a k u0)) (va_Qi (fun (r : Int32) (v : SM) => (r, v) = ff_M_put u0 p0 p1 p2) (pM dC dI h a k) (aM h a)) 0 0 (aM h a) := by
  refine Met.ofW (cc := bb_M_put) (maxL := 4) (ret := (some .int)) (by decide) rfl ?_
  intro p e s m args below meth c s₁ B hml hv
  obtain ⟨rfl, hP, hK, hD⟩ := hv
  have hx := B.exec
  have hb := B.bytes
  have hr := B.returns
  have hts : ∀ w ∈ gW, w.before _ s = true := fun w h => atoms_spec (ws := ws_M_put) B.pre w (List.mem_cons_of_mem _ h)
  have hown : s.vm.findClass "ClassObjectMirrorModel" = some m.cls := findClass_of_methodNamed B.named
  have hlocks := B.notSynchronized
  have hS : va_S (aM h a) s.heap s.heap [] := va_S.rf
  have hl := lv_entry ([.ref h, .int p0, .int p1, .int p2]) (n := 4) (Nat.le_of_ble_eq_true rfl)
  rw [lg_entry_eq]
  generalize (lg_sl ([.ref h, .int p0, .int p1, .int p2]) ++ List.replicate (4 - (lg_sl ([.ref h, .int p0, .int p1, .int p2])).length) Slot.unset).toArray = ls at hl ⊢
  have hl : lv_has ls 4 [(0, .ref h), (1, .int p0), (2, .int p1), (3, .int p2)] := hl
  have hf := ff_M_put.eq_1 u0 p0 p1 p2
  unfold ok_M_put at hok
  refine lv_aload_n hx hb dd_M_put_0 rfl (lv_at hl 0 rfl) ?_
  refine lv_iload_n hx hb dd_M_put_1 rfl (lv_at hl 1 rfl) ?_
  refine vp_callSi (W.runV (As := [.int p0]) (rest := []) ⟨hx, hb, hml, hown, hts⟩ (mm_M_noObject l dC dI h a k u0 p0) (cwV 1 hts (gg_V gw_460 gw_462 gs_29 gw_2 gw_463) rfl rfl rfl (by decide +kernel) ⟨Nat.le_of_ble_eq_true rfl, Nat.le_of_ble_eq_true rfl⟩) ⟨pM_bl, va_recv hK hP (ci := 0) (q0 := 0) rfl rfl, fun U hU hW => ⟨rfl, pM_up hP hK hD hU hW⟩⟩ rfl rfl hl.1 rfl (lv_room (Nat.le_of_ble_eq_true rfl)) dd_M_put_2 ⟨Nat.zero_le _, Nat.zero_le _⟩) (fun r hr9 => ?_)
  subst hr9
  refine lv_if_ne (tgt := 17) hx hb dd_M_put_5 (by decide) (fun c1 => ?_) (fun c1 => ?_)
  · have hf := hf.trans (if_neg c1)
    have hok := hok.2 c1
    refine lv_iconst (v := (-1)) hx hb dd_M_put_17 (by decide) ?_
    exact W.iret (v := ((-1) : Int32)) hx hb hr (fun t ht hW => ⟨⟨((-1) : Int32), u0, rfl, hf.symm, pM_up hP hK hD ht hW⟩, hS.F ht⟩) hS.2.2 dd_M_put_18
  · have hf := hf.trans (if_pos c1)
    have hok := hok.1 c1
    refine lv_aload_n hx hb dd_M_put_8 rfl (lv_at hl 0 rfl) ?_
    refine lv_iload_n hx hb dd_M_put_9 rfl (lv_at hl 1 rfl) ?_
    obtain ⟨n2, hok⟩ := hok
    refine vp_callSi (W.runV (As := [.int p0]) (rest := []) ⟨hx, hb, hml, hown, hts⟩ (mm_M_array l dC dI h a k u0 p0 n2) (cwV 1 hts (gg_V gw_476 gw_478 gs_30 gw_2 gw_479) rfl rfl rfl (by decide +kernel) ⟨Nat.le_of_ble_eq_true rfl, Nat.le_of_ble_eq_true rfl⟩) ⟨pM_bl, va_recv hK hP (ci := 0) (q0 := 0) rfl rfl, fun U hU hW => ⟨rfl, pM_up hP hK hD hU hW⟩⟩ rfl rfl hl.1 rfl (lv_room (Nat.le_of_ble_eq_true rfl)) dd_M_put_10 ⟨Nat.zero_le _, Nat.zero_le _⟩) (fun r hr9 => ?_)
    subst hr9
    refine lv_iconst (v := 1) hx hb dd_M_put_13 (by decide) ?_
    refine lv_icmp_eq (tgt := 19) hx hb dd_M_put_14 (by decide) (fun c3 => ?_) (fun c3 => ?_)
    · have hf := hf.trans (if_pos c3)
      have hok := hok.1 c3
      refine lv_aload_n hx hb dd_M_put_19 rfl (lv_at hl 0 rfl) ?_
      refine lv_iload_n hx hb dd_M_put_20 rfl (lv_at hl 1 rfl) ?_
      refine lv_iload_n hx hb dd_M_put_21 rfl (lv_at hl 2 rfl) ?_
      obtain ⟨n4, hok⟩ := hok
      refine vp_callSi (W.runV (As := [.int p0, .int p1]) (rest := []) ⟨hx, hb, hml, hown, hts⟩ (mm_M_outside l dC dI h a k u0 p0 p1 n4) (cwV 2 hts (gg_V gw_480 gw_482 gs_31 gw_2 gw_483) rfl rfl rfl (by decide +kernel) ⟨Nat.le_of_ble_eq_true rfl, Nat.le_of_ble_eq_true rfl⟩) ⟨pM_bl, va_recv hK hP (ci := 0) (q0 := 0) rfl rfl, fun U hU hW => ⟨rfl, pM_up hP hK hD hU hW⟩⟩ rfl rfl hl.1 rfl (lv_room (Nat.le_of_ble_eq_true rfl)) dd_M_put_22 ⟨Nat.zero_le _, Nat.zero_le _⟩) (fun r hr9 => ?_)
      subst hr9
      refine lv_if_eq (tgt := 31) hx hb dd_M_put_25 (by decide) (fun c5 => ?_) (fun c5 => ?_)
      · have hf := hf.trans (if_pos c5)
        have hok := hok.1 c5
        refine lv_aload_n hx hb dd_M_put_31 rfl (lv_at hl 0 rfl) ?_
        refine va_get (D := (dC, dI)) (ci := 0) (v := .ref (a 7)) (C := "ClassObjectMirrorModel") (T := TM) (N := 12) hx hb hts inM hown hK hP 0 rfl rfl 8 (by decide) (hts _ gw_309) (fun _ h9 => h9) rfl dd_M_put_32 ?_
        refine lv_bipush (v := 8) hx hb dd_M_put_35 (by decide) ?_
        refine lv_iload_n hx hb dd_M_put_37 rfl (lv_at hl 1 rfl) ?_
        refine lv_imul hx hb dd_M_put_38 ?_
        refine lv_iload_n hx hb dd_M_put_39 rfl (lv_at hl 2 rfl) ?_
        refine lv_iadd hx hb dd_M_put_40 ?_
        refine lv_aload_n hx hb dd_M_put_41 rfl (lv_at hl 0 rfl) ?_
        refine va_get (D := (dC, dI)) (ci := 0) (v := .ref (a 2)) (C := "ClassObjectMirrorModel") (T := TM) (N := 12) hx hb hts inM hown hK hP 0 rfl rfl 2 (by decide) (hts _ gw_303) (fun _ h9 => h9) rfl dd_M_put_42 ?_
        refine lv_aload_n hx hb dd_M_put_45 rfl (lv_at hl 0 rfl) ?_
        refine va_get (D := (dC, dI)) (ci := 0) (v := .ref (a 4)) (C := "ClassObjectMirrorModel") (T := TM) (N := 12) hx hb hts inM hown hK hP 0 rfl rfl 5 (by decide) (hts _ gw_306) (fun _ h9 => h9) rfl dd_M_put_46 ?_
        refine lv_iload_n hx hb dd_M_put_49 rfl (lv_at hl 1 rfl) ?_
        obtain ⟨n6, hok⟩ := hok
        refine va_iald hx hb hK hP 5 4 rfl rfl n6 dd_M_put_50 ?_
        obtain ⟨n7, hok⟩ := hok
        refine va_iald hx hb hK hP 3 2 rfl rfl n7 dd_M_put_51 ?_
        refine lv_iload_n hx hb dd_M_put_52 rfl (lv_at hl 3 rfl) ?_
        obtain ⟨n8, hok⟩ := hok
        refine vp_callSl (W.runS (As := [.int (m_comp u0 (m_kind u0 p0.toNatClampNeg).toNatClampNeg), .int p2]) (rest := [.int ((8 * p0) + p1), .ref (a 7)]) ⟨hx, hb, hml, hown, hts⟩ (mm_M_as l (m_comp u0 (m_kind u0 p0.toNatClampNeg).toNatClampNeg) p2 n8) (va_cwS 2 hts (gg_S gw_492 gw_493 gw_2 gw_494) rfl rfl rfl (by decide +kernel) ⟨Nat.le_of_ble_eq_true rfl, Nat.le_of_ble_eq_true rfl⟩) ⟨fun a U g mk q => q, fun U hU hW => ⟨rfl, trivial⟩⟩ rfl rfl hl.1 rfl (lv_room (Nat.le_of_ble_eq_true rfl)) dd_M_put_53 ⟨Nat.zero_le _, Nat.zero_le _⟩) (fun r hr9 => ?_)
        subst hr9
        have n9 := hok
        refine va_last hx hb hK hP hD hS 8 7 rfl rfl n9 dd_M_put_56 (fun H locs hP hD hS => ?_)
        have hP : va_P (dC, dI) cls_l (wM h a k (m_u_cell u0 ((8 * p0) + p1) (ff_M_as (m_comp u0 (m_kind u0 p0.toNatClampNeg).toNatClampNeg) p2))) H := hP
        have hD : va_D (aM h a) (wM h a k (m_u_cell u0 ((8 * p0) + p1) (ff_M_as (m_comp u0 (m_kind u0 p0.toNatClampNeg).toNatClampNeg) p2))) := hD
        refine lv_iconst (v := 0) hx hb dd_M_put_57 (by decide) ?_
        exact W.iret (v := (0 : Int32)) hx hb hr (fun t ht hW => ⟨⟨(0 : Int32), m_u_cell u0 ((8 * p0) + p1) (ff_M_as (m_comp u0 (m_kind u0 p0.toNatClampNeg).toNatClampNeg) p2), rfl, hf.symm, pM_up hP hK hD ht hW⟩, hS.F ht⟩) hS.2.2 dd_M_put_58
      · have hf := hf.trans (if_neg c5)
        have hok := hok.2 c5
        refine lv_bipush (v := (-5)) hx hb dd_M_put_28 (by decide) ?_
        exact W.iret (v := ((-5) : Int32)) hx hb hr (fun t ht hW => ⟨⟨((-5) : Int32), u0, rfl, hf.symm, pM_up hP hK hD ht hW⟩, hS.F ht⟩) hS.2.2 dd_M_put_30
    · have hf := hf.trans (if_neg c3)
      have hok := hok.2 c3
      refine lv_iconst (v := (-1)) hx hb dd_M_put_17 (by decide) ?_
      exact W.iret (v := ((-1) : Int32)) hx hb hr (fun t ht hW => ⟨⟨((-1) : Int32), u0, rfl, hf.symm, pM_up hP hK hD ht hW⟩, hS.F ht⟩) hS.2.2 dd_M_put_18

def ff_M_get (u0 : SM) (p0 : Int32) (p1 : Int32) : Int64 := (if (ff_M_noObject u0 p0) = 0 then (if (ff_M_array u0 p0) = 1 then (if (ff_M_outside u0 p0 p1) = 0 then m_cell u0 ((8 * p0) + p1).toNatClampNeg else 10000000000) else 10000000000) else 10000000000)
def ok_M_get (u0 : SM) (p0 : Int32) (p1 : Int32) : Prop := ((((ff_M_noObject u0 p0) = 0) → (ok_M_array u0 p0) ∧ ((((ff_M_array u0 p0) = 1) → (ok_M_outside u0 p0 p1) ∧ ((((ff_M_outside u0 p0 p1) = 0) → vp_in ((8 * p0) + p1) 640) ∧ (¬ ((ff_M_outside u0 p0 p1) = 0) → True))) ∧ (¬ ((ff_M_array u0 p0) = 1) → True))) ∧ (¬ ((ff_M_noObject u0 p0) = 0) → True))
abbrev ws_M_get : List Cond := .code yy_M_get bb_M_get 3 (some .long) :: gW
abbrev rm_M_get : Room := { frames := 2, cells := 0, slots := 0, locals := 41 }
set_option maxHeartbeats 4000000 in
set_option maxRecDepth 100000 in
theorem mm_M_get (l : Launch) (dC : Nat → ClassId) (dI : Nat → Nat → Nat) (h : Nat) (a : Nat → Nat) (k : Nat → ClassId) (u0 : SM) (p0 : Int32) (p1 : Int32) (hok : ok_M_get u0 p0 p1) : Met l yy_M_get ws_M_get rm_M_get (va_Pc [.ref h, .int p0, .int p1] (pM dC dI h a k u0)) (vp_Sl (fun r => r = ff_M_get u0 p0 p1)) 0 0 (fun _ => False) := by
  refine Met.ofW (cc := bb_M_get) (maxL := 3) (ret := (some .long)) (by decide) rfl ?_
  intro p e s m args below meth c s₁ B hml hv
  obtain ⟨rfl, hP, hK, hD⟩ := hv
  have hx := B.exec
  have hb := B.bytes
  have hr := B.returns
  have hts : ∀ w ∈ gW, w.before _ s = true := fun w h => atoms_spec (ws := ws_M_get) B.pre w (List.mem_cons_of_mem _ h)
  have hown : s.vm.findClass "ClassObjectMirrorModel" = some m.cls := findClass_of_methodNamed B.named
  have hlocks := B.notSynchronized
  have hS : va_S (aM h a) s.heap s.heap [] := va_S.rf
  have hl := lv_entry ([.ref h, .int p0, .int p1]) (n := 3) (Nat.le_of_ble_eq_true rfl)
  rw [lg_entry_eq]
  generalize (lg_sl ([.ref h, .int p0, .int p1]) ++ List.replicate (3 - (lg_sl ([.ref h, .int p0, .int p1])).length) Slot.unset).toArray = ls at hl ⊢
  have hl : lv_has ls 3 [(0, .ref h), (1, .int p0), (2, .int p1)] := hl
  have hf := ff_M_get.eq_1 u0 p0 p1
  unfold ok_M_get at hok
  refine lv_aload_n hx hb dd_M_get_0 rfl (lv_at hl 0 rfl) ?_
  refine lv_iload_n hx hb dd_M_get_1 rfl (lv_at hl 1 rfl) ?_
  refine vp_callSi (W.runV (As := [.int p0]) (rest := []) ⟨hx, hb, hml, hown, hts⟩ (mm_M_noObject l dC dI h a k u0 p0) (cwV 1 hts (gg_V gw_460 gw_462 gs_29 gw_2 gw_463) rfl rfl rfl (by decide +kernel) ⟨Nat.le_of_ble_eq_true rfl, Nat.le_of_ble_eq_true rfl⟩) ⟨pM_bl, va_recv hK hP (ci := 0) (q0 := 0) rfl rfl, fun U hU hW => ⟨rfl, pM_up hP hK hD hU hW⟩⟩ rfl rfl hl.1 rfl (lv_room (Nat.le_of_ble_eq_true rfl)) dd_M_get_2 ⟨Nat.zero_le _, Nat.zero_le _⟩) (fun r hr9 => ?_)
  subst hr9
  refine lv_if_ne (tgt := 26) hx hb dd_M_get_5 (by decide) (fun c1 => ?_) (fun c1 => ?_)
  · have hf := hf.trans (if_neg c1)
    have hok := hok.2 c1
    refine lv_ldc2 (v := 10000000000) hx hb hown (hts _ gw_505) dd_M_get_26 ?_
    refine lv_goto (tgt := 43) hx hb dd_M_get_29 (by decide) ?_
    exact W.lret (v := (10000000000 : Int64)) hx hb hr (fun t ht hW => ⟨(10000000000 : Int64), rfl, hf.symm, ht⟩) (fun _ h => by cases h) dd_M_get_43
  · have hf := hf.trans (if_pos c1)
    have hok := hok.1 c1
    refine lv_aload_n hx hb dd_M_get_8 rfl (lv_at hl 0 rfl) ?_
    refine lv_iload_n hx hb dd_M_get_9 rfl (lv_at hl 1 rfl) ?_
    obtain ⟨n2, hok⟩ := hok
    refine vp_callSi (W.runV (As := [.int p0]) (rest := []) ⟨hx, hb, hml, hown, hts⟩ (mm_M_array l dC dI h a k u0 p0 n2) (cwV 1 hts (gg_V gw_476 gw_478 gs_30 gw_2 gw_479) rfl rfl rfl (by decide +kernel) ⟨Nat.le_of_ble_eq_true rfl, Nat.le_of_ble_eq_true rfl⟩) ⟨pM_bl, va_recv hK hP (ci := 0) (q0 := 0) rfl rfl, fun U hU hW => ⟨rfl, pM_up hP hK hD hU hW⟩⟩ rfl rfl hl.1 rfl (lv_room (Nat.le_of_ble_eq_true rfl)) dd_M_get_10 ⟨Nat.zero_le _, Nat.zero_le _⟩) (fun r hr9 => ?_)
    subst hr9
    refine lv_iconst (v := 1) hx hb dd_M_get_13 (by decide) ?_
    refine lv_icmp_ne (tgt := 26) hx hb dd_M_get_14 (by decide) (fun c3 => ?_) (fun c3 => ?_)
    · have hf := hf.trans (if_neg c3)
      have hok := hok.2 c3
      refine lv_ldc2 (v := 10000000000) hx hb hown (hts _ gw_505) dd_M_get_26 ?_
      refine lv_goto (tgt := 43) hx hb dd_M_get_29 (by decide) ?_
      exact W.lret (v := (10000000000 : Int64)) hx hb hr (fun t ht hW => ⟨(10000000000 : Int64), rfl, hf.symm, ht⟩) (fun _ h => by cases h) dd_M_get_43
    · have hf := hf.trans (if_pos c3)
      have hok := hok.1 c3
      refine lv_aload_n hx hb dd_M_get_17 rfl (lv_at hl 0 rfl) ?_
      refine lv_iload_n hx hb dd_M_get_18 rfl (lv_at hl 1 rfl) ?_
      refine lv_iload_n hx hb dd_M_get_19 rfl (lv_at hl 2 rfl) ?_
      obtain ⟨n4, hok⟩ := hok
      refine vp_callSi (W.runV (As := [.int p0, .int p1]) (rest := []) ⟨hx, hb, hml, hown, hts⟩ (mm_M_outside l dC dI h a k u0 p0 p1 n4) (cwV 2 hts (gg_V gw_480 gw_482 gs_31 gw_2 gw_483) rfl rfl rfl (by decide +kernel) ⟨Nat.le_of_ble_eq_true rfl, Nat.le_of_ble_eq_true rfl⟩) ⟨pM_bl, va_recv hK hP (ci := 0) (q0 := 0) rfl rfl, fun U hU hW => ⟨rfl, pM_up hP hK hD hU hW⟩⟩ rfl rfl hl.1 rfl (lv_room (Nat.le_of_ble_eq_true rfl)) dd_M_get_20 ⟨Nat.zero_le _, Nat.zero_le _⟩) (fun r hr9 => ?_)
      subst hr9
      refine lv_if_eq (tgt := 32) hx hb dd_M_get_23 (by decide) (fun c5 => ?_) (fun c5 => ?_)
      · have hf := hf.trans (if_pos c5)
        have hok := hok.1 c5
        refine lv_aload_n hx hb dd_M_get_32 rfl (lv_at hl 0 rfl) ?_
        refine va_get (D := (dC, dI)) (ci := 0) (v := .ref (a 7)) (C := "ClassObjectMirrorModel") (T := TM) (N := 12) hx hb hts inM hown hK hP 0 rfl rfl 8 (by decide) (hts _ gw_309) (fun _ h9 => h9) rfl dd_M_get_33 ?_
        refine lv_bipush (v := 8) hx hb dd_M_get_36 (by decide) ?_
        refine lv_iload_n hx hb dd_M_get_38 rfl (lv_at hl 1 rfl) ?_
        refine lv_imul hx hb dd_M_get_39 ?_
        refine lv_iload_n hx hb dd_M_get_40 rfl (lv_at hl 2 rfl) ?_
        refine lv_iadd hx hb dd_M_get_41 ?_
        have n6 := hok
        refine va_lald hx hb hK hP 8 7 rfl rfl n6 dd_M_get_42 ?_
        exact W.lret (v := (m_cell u0 ((8 * p0) + p1).toNatClampNeg)) hx hb hr (fun t ht hW => ⟨(m_cell u0 ((8 * p0) + p1).toNatClampNeg), rfl, hf.symm, ht⟩) (fun _ h => by cases h) dd_M_get_43
      · have hf := hf.trans (if_neg c5)
        have hok := hok.2 c5
        refine lv_ldc2 (v := 10000000000) hx hb hown (hts _ gw_505) dd_M_get_26 ?_
        refine lv_goto (tgt := 43) hx hb dd_M_get_29 (by decide) ?_
        exact W.lret (v := (10000000000 : Int64)) hx hb hr (fun t ht hW => ⟨(10000000000 : Int64), rfl, hf.symm, ht⟩) (fun _ h => by cases h) dd_M_get_43

def ff_M_length (u0 : SM) (p0 : Int32) : Int32 := (if (ff_M_noObject u0 p0) = 0 then (if 0 ≤ (m_size u0 p0.toNatClampNeg) then m_size u0 p0.toNatClampNeg else (-1)) else (-1))
def ok_M_length (u0 : SM) (p0 : Int32) : Prop := ((((ff_M_noObject u0 p0) = 0) → (vp_in p0 80) ∧ (((0 ≤ (m_size u0 p0.toNatClampNeg)) → vp_in p0 80) ∧ (¬ (0 ≤ (m_size u0 p0.toNatClampNeg)) → True))) ∧ (¬ ((ff_M_noObject u0 p0) = 0) → True))
abbrev ws_M_length : List Cond := .code yy_M_length bb_M_length 2 (some .int) :: gW
abbrev rm_M_length : Room := { frames := 1, cells := 0, slots := 0, locals := 21 }
set_option maxHeartbeats 4000000 in
set_option maxRecDepth 100000 in
theorem mm_M_length (l : Launch) (dC : Nat → ClassId) (dI : Nat → Nat → Nat) (h : Nat) (a : Nat → Nat) (k : Nat → ClassId) (u0 : SM) (p0 : Int32) (hok : ok_M_length u0 p0) : Met l yy_M_length ws_M_length rm_M_length (va_Pc [.ref h, .int p0] (pM dC dI h a k u0)) (vp_Si (fun r => r = ff_M_length u0 p0)) 0 0 (fun _ => False) := by
  refine Met.ofW (cc := bb_M_length) (maxL := 2) (ret := (some .int)) (by decide) rfl ?_
  intro p e s m args below meth c s₁ B hml hv
  obtain ⟨rfl, hP, hK, hD⟩ := hv
  have hx := B.exec
  have hb := B.bytes
  have hr := B.returns
  have hts : ∀ w ∈ gW, w.before _ s = true := fun w h => atoms_spec (ws := ws_M_length) B.pre w (List.mem_cons_of_mem _ h)
  have hown : s.vm.findClass "ClassObjectMirrorModel" = some m.cls := findClass_of_methodNamed B.named
  have hlocks := B.notSynchronized
  have hS : va_S (aM h a) s.heap s.heap [] := va_S.rf
  have hl := lv_entry ([.ref h, .int p0]) (n := 2) (Nat.le_of_ble_eq_true rfl)
  rw [lg_entry_eq]
  generalize (lg_sl ([.ref h, .int p0]) ++ List.replicate (2 - (lg_sl ([.ref h, .int p0])).length) Slot.unset).toArray = ls at hl ⊢
  have hl : lv_has ls 2 [(0, .ref h), (1, .int p0)] := hl
  have hf := ff_M_length.eq_1 u0 p0
  unfold ok_M_length at hok
  refine lv_aload_n hx hb dd_M_length_0 rfl (lv_at hl 0 rfl) ?_
  refine lv_iload_n hx hb dd_M_length_1 rfl (lv_at hl 1 rfl) ?_
  refine vp_callSi (W.runV (As := [.int p0]) (rest := []) ⟨hx, hb, hml, hown, hts⟩ (mm_M_noObject l dC dI h a k u0 p0) (cwV 1 hts (gg_V gw_460 gw_462 gs_29 gw_2 gw_463) rfl rfl rfl (by decide +kernel) ⟨Nat.le_of_ble_eq_true rfl, Nat.le_of_ble_eq_true rfl⟩) ⟨pM_bl, va_recv hK hP (ci := 0) (q0 := 0) rfl rfl, fun U hU hW => ⟨rfl, pM_up hP hK hD hU hW⟩⟩ rfl rfl hl.1 rfl (lv_room (Nat.le_of_ble_eq_true rfl)) dd_M_length_2 ⟨Nat.zero_le _, Nat.zero_le _⟩) (fun r hr9 => ?_)
  subst hr9
  refine lv_if_ne (tgt := 17) hx hb dd_M_length_5 (by decide) (fun c1 => ?_) (fun c1 => ?_)
  · have hf := hf.trans (if_neg c1)
    have hok := hok.2 c1
    refine lv_iconst (v := (-1)) hx hb dd_M_length_17 (by decide) ?_
    refine lv_goto (tgt := 27) hx hb dd_M_length_18 (by decide) ?_
    exact W.iret (v := ((-1) : Int32)) hx hb hr (fun t ht hW => ⟨((-1) : Int32), rfl, hf.symm, ht⟩) (fun _ h => by cases h) dd_M_length_27
  · have hf := hf.trans (if_pos c1)
    have hok := hok.1 c1
    refine lv_aload_n hx hb dd_M_length_8 rfl (lv_at hl 0 rfl) ?_
    refine va_get (D := (dC, dI)) (ci := 0) (v := .ref (a 5)) (C := "ClassObjectMirrorModel") (T := TM) (N := 12) hx hb hts inM hown hK hP 0 rfl rfl 6 (by decide) (hts _ gw_307) (fun _ h9 => h9) rfl dd_M_length_9 ?_
    refine lv_iload_n hx hb dd_M_length_12 rfl (lv_at hl 1 rfl) ?_
    obtain ⟨n2, hok⟩ := hok
    refine va_iald hx hb hK hP 6 5 rfl rfl n2 dd_M_length_13 ?_
    refine lv_if_ge (tgt := 21) hx hb dd_M_length_14 (by decide) (fun c3 => ?_) (fun c3 => ?_)
    · have hf := hf.trans (if_pos c3)
      have hok := hok.1 c3
      refine lv_aload_n hx hb dd_M_length_21 rfl (lv_at hl 0 rfl) ?_
      refine va_get (D := (dC, dI)) (ci := 0) (v := .ref (a 5)) (C := "ClassObjectMirrorModel") (T := TM) (N := 12) hx hb hts inM hown hK hP 0 rfl rfl 6 (by decide) (hts _ gw_307) (fun _ h9 => h9) rfl dd_M_length_22 ?_
      refine lv_iload_n hx hb dd_M_length_25 rfl (lv_at hl 1 rfl) ?_
      have n4 := hok
      refine va_iald hx hb hK hP 6 5 rfl rfl n4 dd_M_length_26 ?_
      exact W.iret (v := (m_size u0 p0.toNatClampNeg)) hx hb hr (fun t ht hW => ⟨(m_size u0 p0.toNatClampNeg), rfl, hf.symm, ht⟩) (fun _ h => by cases h) dd_M_length_27
    · have hf := hf.trans (if_neg c3)
      have hok := hok.2 c3
      refine lv_iconst (v := (-1)) hx hb dd_M_length_17 (by decide) ?_
      refine lv_goto (tgt := 27) hx hb dd_M_length_18 (by decide) ?_
      exact W.iret (v := ((-1) : Int32)) hx hb hr (fun t ht hW => ⟨((-1) : Int32), rfl, hf.symm, ht⟩) (fun _ h => by cases h) dd_M_length_27

def fl_M_copy_51 : Nat → SM → Int32 → Int32 → Int32 → Int32 × SM
  | 0, u, _, _, _ => (0, u)
  | n + 1, u, x1, x2, x3 => (if 8 ≤ x3 then (x2, u) else fl_M_copy_51 n (m_u_cell u ((8 * x2) + x3) (m_cell u ((8 * x1) + x3).toNatClampNeg)) x1 x2 (x3 + 1))
def okl_M_copy_51 : Nat → SM → Int32 → Int32 → Int32 → Prop
  | 0, _, _, _, _ => False
  | n + 1, u, x1, x2, x3 => (((8 ≤ x3) → True) ∧ (¬ (8 ≤ x3) → (vp_in ((8 * x1) + x3) 640) ∧ (vp_in ((8 * x2) + x3) 640) ∧ okl_M_copy_51 n (m_u_cell u ((8 * x2) + x3) (m_cell u ((8 * x1) + x3).toNatClampNeg)) x1 x2 (x3 + 1)))
def ff_M_copy (u0 : SM) (p0 : Int32) : Int32 × SM := (if (ff_M_noObject u0 p0) = 0 then (if 0 ≤ (m_size u0 p0.toNatClampNeg) then (if (m_objs u0) = 80 then ((-8), u0) else fl_M_copy_51 400 ((ff_M_create u0 (m_kind u0 p0.toNatClampNeg) (m_size u0 p0.toNatClampNeg) (0 : Int32)).2) p0 ((ff_M_create u0 (m_kind u0 p0.toNatClampNeg) (m_size u0 p0.toNatClampNeg) (0 : Int32)).1) (0 : Int32)) else ((-1), u0)) else ((-1), u0))
def ok_M_copy (u0 : SM) (p0 : Int32) : Prop := ((((ff_M_noObject u0 p0) = 0) → (vp_in p0 80) ∧ (((0 ≤ (m_size u0 p0.toNatClampNeg)) → ((((m_objs u0) = 80) → True) ∧ (¬ ((m_objs u0) = 80) → (vp_in p0 80) ∧ (vp_in p0 80) ∧ (ok_M_create u0 (m_kind u0 p0.toNatClampNeg) (m_size u0 p0.toNatClampNeg) (0 : Int32)) ∧ okl_M_copy_51 400 ((ff_M_create u0 (m_kind u0 p0.toNatClampNeg) (m_size u0 p0.toNatClampNeg) (0 : Int32)).2) p0 ((ff_M_create u0 (m_kind u0 p0.toNatClampNeg) (m_size u0 p0.toNatClampNeg) (0 : Int32)).1) (0 : Int32)))) ∧ (¬ (0 ≤ (m_size u0 p0.toNatClampNeg)) → True))) ∧ (¬ ((ff_M_noObject u0 p0) = 0) → True))
abbrev ws_M_copy : List Cond := .code yy_M_copy bb_M_copy 4 (some .int) :: gW
abbrev rm_M_copy : Room := { frames := 2, cells := 0, slots := 0, locals := 45 }
set_option maxHeartbeats 4000000 in
set_option maxRecDepth 100000 in
theorem mm_M_copy (l : Launch) (dC : Nat → ClassId) (dI : Nat → Nat → Nat) (h : Nat) (a : Nat → Nat) (k : Nat → ClassId) (u0 : SM) (p0 : Int32) (hok : ok_M_copy u0 p0) : Met l yy_M_copy ws_M_copy rm_M_copy (va_Pc [.ref h, .int p0] (pM dC dI h a k u0)) (va_Qi (fun (r : Int32) (v : SM) => (r, v) = ff_M_copy u0 p0) (pM dC dI h a k) (aM h a)) 0 0 (aM h a) := by
  refine Met.ofW (cc := bb_M_copy) (maxL := 4) (ret := (some .int)) (by decide) rfl ?_
  intro p e s m args below meth c s₁ B hml hv
  obtain ⟨rfl, hP, hK, hD⟩ := hv
  have hx := B.exec
  have hb := B.bytes
  have hr := B.returns
  have hts : ∀ w ∈ gW, w.before _ s = true := fun w h => atoms_spec (ws := ws_M_copy) B.pre w (List.mem_cons_of_mem _ h)
  have hown : s.vm.findClass "ClassObjectMirrorModel" = some m.cls := findClass_of_methodNamed B.named
  have hlocks := B.notSynchronized
  have hS : va_S (aM h a) s.heap s.heap [] := va_S.rf
  have hl := lv_entry ([.ref h, .int p0]) (n := 4) (Nat.le_of_ble_eq_true rfl)
  rw [lg_entry_eq]
  generalize (lg_sl ([.ref h, .int p0]) ++ List.replicate (4 - (lg_sl ([.ref h, .int p0])).length) Slot.unset).toArray = ls at hl ⊢
  have hl : lv_has ls 4 [(0, .ref h), (1, .int p0)] := hl
  have hf := ff_M_copy.eq_1 u0 p0
  unfold ok_M_copy at hok
  refine lv_aload_n hx hb dd_M_copy_0 rfl (lv_at hl 0 rfl) ?_
  refine lv_iload_n hx hb dd_M_copy_1 rfl (lv_at hl 1 rfl) ?_
  refine vp_callSi (W.runV (As := [.int p0]) (rest := []) ⟨hx, hb, hml, hown, hts⟩ (mm_M_noObject l dC dI h a k u0 p0) (cwV 1 hts (gg_V gw_460 gw_462 gs_29 gw_2 gw_463) rfl rfl rfl (by decide +kernel) ⟨Nat.le_of_ble_eq_true rfl, Nat.le_of_ble_eq_true rfl⟩) ⟨pM_bl, va_recv hK hP (ci := 0) (q0 := 0) rfl rfl, fun U hU hW => ⟨rfl, pM_up hP hK hD hU hW⟩⟩ rfl rfl hl.1 rfl (lv_room (Nat.le_of_ble_eq_true rfl)) dd_M_copy_2 ⟨Nat.zero_le _, Nat.zero_le _⟩) (fun r hr9 => ?_)
  subst hr9
  refine lv_if_ne (tgt := 17) hx hb dd_M_copy_5 (by decide) (fun c1 => ?_) (fun c1 => ?_)
  · have hf := hf.trans (if_neg c1)
    have hok := hok.2 c1
    refine lv_iconst (v := (-1)) hx hb dd_M_copy_17 (by decide) ?_
    exact W.iret (v := ((-1) : Int32)) hx hb hr (fun t ht hW => ⟨⟨((-1) : Int32), u0, rfl, hf.symm, pM_up hP hK hD ht hW⟩, hS.F ht⟩) hS.2.2 dd_M_copy_18
  · have hf := hf.trans (if_pos c1)
    have hok := hok.1 c1
    refine lv_aload_n hx hb dd_M_copy_8 rfl (lv_at hl 0 rfl) ?_
    refine va_get (D := (dC, dI)) (ci := 0) (v := .ref (a 5)) (C := "ClassObjectMirrorModel") (T := TM) (N := 12) hx hb hts inM hown hK hP 0 rfl rfl 6 (by decide) (hts _ gw_307) (fun _ h9 => h9) rfl dd_M_copy_9 ?_
    refine lv_iload_n hx hb dd_M_copy_12 rfl (lv_at hl 1 rfl) ?_
    obtain ⟨n2, hok⟩ := hok
    refine va_iald hx hb hK hP 6 5 rfl rfl n2 dd_M_copy_13 ?_
    refine lv_if_ge (tgt := 19) hx hb dd_M_copy_14 (by decide) (fun c3 => ?_) (fun c3 => ?_)
    · have hf := hf.trans (if_pos c3)
      have hok := hok.1 c3
      refine lv_aload_n hx hb dd_M_copy_19 rfl (lv_at hl 0 rfl) ?_
      refine va_get (D := (dC, dI)) (ci := 0) (v := .int (m_objs u0)) (C := "ClassObjectMirrorModel") (T := TM) (N := 12) hx hb hts inM hown hK hP 0 rfl rfl 9 (by decide) (hts _ gw_310) (fun _ h9 => h9) rfl dd_M_copy_20 ?_
      refine lv_bipush (v := 80) hx hb dd_M_copy_23 (by decide) ?_
      refine lv_icmp_ne (tgt := 31) hx hb dd_M_copy_25 (by decide) (fun c4 => ?_) (fun c4 => ?_)
      · have hf := hf.trans (if_neg c4)
        have hok := hok.2 c4
        refine lv_aload_n hx hb dd_M_copy_31 rfl (lv_at hl 0 rfl) ?_
        refine lv_aload_n hx hb dd_M_copy_32 rfl (lv_at hl 0 rfl) ?_
        refine va_get (D := (dC, dI)) (ci := 0) (v := .ref (a 4)) (C := "ClassObjectMirrorModel") (T := TM) (N := 12) hx hb hts inM hown hK hP 0 rfl rfl 5 (by decide) (hts _ gw_306) (fun _ h9 => h9) rfl dd_M_copy_33 ?_
        refine lv_iload_n hx hb dd_M_copy_36 rfl (lv_at hl 1 rfl) ?_
        obtain ⟨n5, hok⟩ := hok
        refine va_iald hx hb hK hP 5 4 rfl rfl n5 dd_M_copy_37 ?_
        refine lv_aload_n hx hb dd_M_copy_38 rfl (lv_at hl 0 rfl) ?_
        refine va_get (D := (dC, dI)) (ci := 0) (v := .ref (a 5)) (C := "ClassObjectMirrorModel") (T := TM) (N := 12) hx hb hts inM hown hK hP 0 rfl rfl 6 (by decide) (hts _ gw_307) (fun _ h9 => h9) rfl dd_M_copy_39 ?_
        refine lv_iload_n hx hb dd_M_copy_42 rfl (lv_at hl 1 rfl) ?_
        obtain ⟨n6, hok⟩ := hok
        refine va_iald hx hb hK hP 6 5 rfl rfl n6 dd_M_copy_43 ?_
        refine lv_iconst (v := 0) hx hb dd_M_copy_44 (by decide) ?_
        obtain ⟨n7, hok⟩ := hok
        refine va_calli (va_runV (As := [.int (m_kind u0 p0.toNatClampNeg), .int (m_size u0 p0.toNatClampNeg), .int 0]) (rest := []) ⟨hx, hb, hml, hown, hts⟩ (mm_M_create l dC dI h a k u0 (m_kind u0 p0.toNatClampNeg) (m_size u0 p0.toNatClampNeg) (0 : Int32) n7) (cwV 3 hts (gg_V gw_447 gw_449 gs_28 gw_2 gw_450) rfl rfl rfl (by decide +kernel) ⟨Nat.le_of_ble_eq_true rfl, Nat.le_of_ble_eq_true rfl⟩) ⟨pM_bl, va_recv hK hP (ci := 0) (q0 := 0) rfl rfl, fun U hU hW => ⟨rfl, pM_up hP hK hD hU hW⟩⟩ rfl rfl hl.1 rfl (lv_room (Nat.le_of_ble_eq_true rfl)) dd_M_copy_45 ⟨Nat.zero_le _, Nat.zero_le _⟩) hS (fun q _ h => h) (fun q h => h) (fun r9 v9 t9 H locs ht9 hvm9 hw9 hB9 hz9 hk9 hS => ?_)
        obtain ⟨rfl, rfl⟩ : r9 = (ff_M_create u0 (m_kind u0 p0.toNatClampNeg) (m_size u0 p0.toNatClampNeg) (0 : Int32)).1 ∧ v9 = (ff_M_create u0 (m_kind u0 p0.toNatClampNeg) (m_size u0 p0.toNatClampNeg) (0 : Int32)).2 := by rw [← hw9]; exact ⟨rfl, rfl⟩
        obtain ⟨hP, -, hD⟩ := hB9
        rw [ht9] at hP
        refine lv_istore_n (lv' := [(2, .int ((ff_M_create u0 (m_kind u0 p0.toNatClampNeg) (m_size u0 p0.toNatClampNeg) (0 : Int32)).1)), (0, .ref h), (1, .int p0)]) hx hb dd_M_copy_48 rfl hl (by decide) rfl (fun ls hl => ?_)
        refine lv_iconst (v := 0) hx hb dd_M_copy_49 (by decide) ?_
        refine lv_istore_n (lv' := [(3, .int 0), (2, .int ((ff_M_create u0 (m_kind u0 p0.toNatClampNeg) (m_size u0 p0.toNatClampNeg) (0 : Int32)).1)), (0, .ref h), (1, .int p0)]) hx hb dd_M_copy_50 rfl hl (by decide) rfl (fun ls hl => ?_)
        have loop_51 : ∀ (n : Nat) (u : SM) (H : Heap) (locs : List Loc) (x1 : Int32) (x2 : Int32) (x3 : Int32) (ls : Array Slot), okl_M_copy_51 n u x1 x2 x3 → ff_M_copy u0 p0 = fl_M_copy_51 n u x1 x2 x3 → va_P (dC, dI) cls_l (wM h a k u) H → va_D (aM h a) (wM h a k u) → va_S (aM h a) s.heap H locs → lv_has ls 4 [(0, .ref h), (1, .int x1), (2, .int x2), (3, .int x3)] → W p l e (headSpec ws_M_copy rm_M_copy).room s m ([.ref h, .int p0] : List Value).toArray below meth c H locs 0 0 (MQ below (va_Qi (fun (r : Int32) (v : SM) => (r, v) = ff_M_copy u0 p0) (pM dC dI h a k) (aM h a)) ([.ref h, .int p0] : List Value).toArray s 0 0 (aM h a)) (F0 m 51 ls []) := by
          intro n
          induction n with
          | zero => intro u H locs x1 x2 x3 ls hok; exact (show False from hok).elim
          | succ n ih =>
            intro u H locs x1 x2 x3 ls hok hf hP hD hS hl
            rw [fl_M_copy_51] at hf
            rw [okl_M_copy_51] at hok
            refine lv_iload_n hx hb dd_M_copy_51 rfl (lv_at hl 3 rfl) ?_
            refine lv_bipush (v := 8) hx hb dd_M_copy_52 (by decide) ?_
            refine lv_icmp_ge (tgt := 85) hx hb dd_M_copy_54 (by decide) (fun c8 => ?_) (fun c8 => ?_)
            · have hf := hf.trans (if_pos c8)
              have hok := hok.1 c8
              refine lv_iload_n hx hb dd_M_copy_85 rfl (lv_at hl 2 rfl) ?_
              exact W.iret (v := x2) hx hb hr (fun t ht hW => ⟨⟨x2, u, rfl, hf.symm, pM_up hP hK hD ht hW⟩, hS.F ht⟩) hS.2.2 dd_M_copy_86
            · have hf := hf.trans (if_neg c8)
              have hok := hok.2 c8
              refine lv_aload_n hx hb dd_M_copy_57 rfl (lv_at hl 0 rfl) ?_
              refine va_get (D := (dC, dI)) (ci := 0) (v := .ref (a 7)) (C := "ClassObjectMirrorModel") (T := TM) (N := 12) hx hb hts inM hown hK hP 0 rfl rfl 8 (by decide) (hts _ gw_309) (fun _ h9 => h9) rfl dd_M_copy_58 ?_
              refine lv_bipush (v := 8) hx hb dd_M_copy_61 (by decide) ?_
              refine lv_iload_n hx hb dd_M_copy_63 rfl (lv_at hl 2 rfl) ?_
              refine lv_imul hx hb dd_M_copy_64 ?_
              refine lv_iload_n hx hb dd_M_copy_65 rfl (lv_at hl 3 rfl) ?_
              refine lv_iadd hx hb dd_M_copy_66 ?_
              refine lv_aload_n hx hb dd_M_copy_67 rfl (lv_at hl 0 rfl) ?_
              refine va_get (D := (dC, dI)) (ci := 0) (v := .ref (a 7)) (C := "ClassObjectMirrorModel") (T := TM) (N := 12) hx hb hts inM hown hK hP 0 rfl rfl 8 (by decide) (hts _ gw_309) (fun _ h9 => h9) rfl dd_M_copy_68 ?_
              refine lv_bipush (v := 8) hx hb dd_M_copy_71 (by decide) ?_
              refine lv_iload_n hx hb dd_M_copy_73 rfl (lv_at hl 1 rfl) ?_
              refine lv_imul hx hb dd_M_copy_74 ?_
              refine lv_iload_n hx hb dd_M_copy_75 rfl (lv_at hl 3 rfl) ?_
              refine lv_iadd hx hb dd_M_copy_76 ?_
              obtain ⟨n9, hok⟩ := hok
              refine va_lald hx hb hK hP 8 7 rfl rfl n9 dd_M_copy_77 ?_
              obtain ⟨n10, hok⟩ := hok
              refine va_last hx hb hK hP hD hS 8 7 rfl rfl n10 dd_M_copy_78 (fun H locs hP hD hS => ?_)
              have hP : va_P (dC, dI) cls_l (wM h a k (m_u_cell u ((8 * x2) + x3) (m_cell u ((8 * x1) + x3).toNatClampNeg))) H := hP
              have hD : va_D (aM h a) (wM h a k (m_u_cell u ((8 * x2) + x3) (m_cell u ((8 * x1) + x3).toNatClampNeg))) := hD
              refine lv_iinc (v := x3 + 1) (lv' := [(3, .int (x3 + 1)), (0, .ref h), (1, .int x1), (2, .int x2)]) hx hb dd_M_copy_79 hl (k := 3) rfl rfl (by decide) rfl (fun ls hl => ?_)
              refine lv_goto (tgt := 51) hx hb dd_M_copy_82 (by decide) ?_
              exact ih (m_u_cell u ((8 * x2) + x3) (m_cell u ((8 * x1) + x3).toNatClampNeg)) _ _ x1 x2 (x3 + 1) ls hok hf hP hD hS (lv_sub hl [1, 2, 3, 0] rfl)
        exact loop_51 400 ((ff_M_create u0 (m_kind u0 p0.toNatClampNeg) (m_size u0 p0.toNatClampNeg) (0 : Int32)).2) _ _ p0 ((ff_M_create u0 (m_kind u0 p0.toNatClampNeg) (m_size u0 p0.toNatClampNeg) (0 : Int32)).1) (0 : Int32) ls hok hf hP hD hS (lv_sub hl [2, 3, 1, 0] rfl)
      · have hf := hf.trans (if_pos c4)
        have hok := hok.1 c4
        refine lv_bipush (v := (-8)) hx hb dd_M_copy_28 (by decide) ?_
        exact W.iret (v := ((-8) : Int32)) hx hb hr (fun t ht hW => ⟨⟨((-8) : Int32), u0, rfl, hf.symm, pM_up hP hK hD ht hW⟩, hS.F ht⟩) hS.2.2 dd_M_copy_30
    · have hf := hf.trans (if_neg c3)
      have hok := hok.2 c3
      refine lv_iconst (v := (-1)) hx hb dd_M_copy_17 (by decide) ?_
      exact W.iret (v := ((-1) : Int32)) hx hb hr (fun t ht hW => ⟨⟨((-1) : Int32), u0, rfl, hf.symm, pM_up hP hK hD ht hW⟩, hS.F ht⟩) hS.2.2 dd_M_copy_18

def ff_M_label (u0 : SM) (p0 : Int32) : Int32 := (if (ff_M_noObject u0 p0) = 0 then (if (m_kind u0 p0.toNatClampNeg) = 16 then (if (100 : Int32) = 0 then (-1) else 100 + (m_val u0 p0.toNatClampNeg)) else (if (m_kind u0 p0.toNatClampNeg) = 17 then (if (100 : Int32) = 0 then (-1) else 100 + (m_val u0 p0.toNatClampNeg)) else (if (m_kind u0 p0.toNatClampNeg) = 18 then (if (200 : Int32) = 0 then (-1) else 200 + (m_val u0 p0.toNatClampNeg)) else (if (m_kind u0 p0.toNatClampNeg) = 20 then (if (300 : Int32) = 0 then (-1) else 300 + (m_val u0 p0.toNatClampNeg)) else (if (m_kind u0 p0.toNatClampNeg) = 19 then (if (400 : Int32) = 0 then (-1) else 400 + (m_val u0 p0.toNatClampNeg)) else (if (0 : Int32) = 0 then (-1) else 0 + (m_val u0 p0.toNatClampNeg))))))) else (-1))
def ok_M_label (u0 : SM) (p0 : Int32) : Prop := ((((ff_M_noObject u0 p0) = 0) → (vp_in p0 80) ∧ ((((m_kind u0 p0.toNatClampNeg) = 16) → ((((100 : Int32) = 0) → True) ∧ (¬ ((100 : Int32) = 0) → vp_in p0 80))) ∧ (¬ ((m_kind u0 p0.toNatClampNeg) = 16) → ((((m_kind u0 p0.toNatClampNeg) = 17) → ((((100 : Int32) = 0) → True) ∧ (¬ ((100 : Int32) = 0) → vp_in p0 80))) ∧ (¬ ((m_kind u0 p0.toNatClampNeg) = 17) → ((((m_kind u0 p0.toNatClampNeg) = 18) → ((((200 : Int32) = 0) → True) ∧ (¬ ((200 : Int32) = 0) → vp_in p0 80))) ∧ (¬ ((m_kind u0 p0.toNatClampNeg) = 18) → ((((m_kind u0 p0.toNatClampNeg) = 20) → ((((300 : Int32) = 0) → True) ∧ (¬ ((300 : Int32) = 0) → vp_in p0 80))) ∧ (¬ ((m_kind u0 p0.toNatClampNeg) = 20) → ((((m_kind u0 p0.toNatClampNeg) = 19) → ((((400 : Int32) = 0) → True) ∧ (¬ ((400 : Int32) = 0) → vp_in p0 80))) ∧ (¬ ((m_kind u0 p0.toNatClampNeg) = 19) → ((((0 : Int32) = 0) → True) ∧ (¬ ((0 : Int32) = 0) → vp_in p0 80))))))))))))) ∧ (¬ ((ff_M_noObject u0 p0) = 0) → True))
abbrev ws_M_label : List Cond := .code yy_M_label bb_M_label 4 (some .int) :: gW
abbrev rm_M_label : Room := { frames := 1, cells := 0, slots := 0, locals := 21 }
set_option maxHeartbeats 4000000 in
set_option maxRecDepth 100000 in
theorem mm_M_label (l : Launch) (dC : Nat → ClassId) (dI : Nat → Nat → Nat) (h : Nat) (a : Nat → Nat) (k : Nat → ClassId) (u0 : SM) (p0 : Int32) (hok : ok_M_label u0 p0) : Met l yy_M_label ws_M_label rm_M_label (va_Pc [.ref h, .int p0] (pM dC dI h a k u0)) (vp_Si (fun r => r = ff_M_label u0 p0)) 0 0 (fun _ => False) := by
  refine Met.ofW (cc := bb_M_label) (maxL := 4) (ret := (some .int)) (by decide) rfl ?_
  intro p e s m args below meth c s₁ B hml hv
  obtain ⟨rfl, hP, hK, hD⟩ := hv
  have hx := B.exec
  have hb := B.bytes
  have hr := B.returns
  have hts : ∀ w ∈ gW, w.before _ s = true := fun w h => atoms_spec (ws := ws_M_label) B.pre w (List.mem_cons_of_mem _ h)
  have hown : s.vm.findClass "ClassObjectMirrorModel" = some m.cls := findClass_of_methodNamed B.named
  have hlocks := B.notSynchronized
  have hS : va_S (aM h a) s.heap s.heap [] := va_S.rf
  have hl := lv_entry ([.ref h, .int p0]) (n := 4) (Nat.le_of_ble_eq_true rfl)
  rw [lg_entry_eq]
  generalize (lg_sl ([.ref h, .int p0]) ++ List.replicate (4 - (lg_sl ([.ref h, .int p0])).length) Slot.unset).toArray = ls at hl ⊢
  have hl : lv_has ls 4 [(0, .ref h), (1, .int p0)] := hl
  have hf := ff_M_label.eq_1 u0 p0
  unfold ok_M_label at hok
  refine lv_aload_n hx hb dd_M_label_0 rfl (lv_at hl 0 rfl) ?_
  refine lv_iload_n hx hb dd_M_label_1 rfl (lv_at hl 1 rfl) ?_
  refine vp_callSi (W.runV (As := [.int p0]) (rest := []) ⟨hx, hb, hml, hown, hts⟩ (mm_M_noObject l dC dI h a k u0 p0) (cwV 1 hts (gg_V gw_460 gw_462 gs_29 gw_2 gw_463) rfl rfl rfl (by decide +kernel) ⟨Nat.le_of_ble_eq_true rfl, Nat.le_of_ble_eq_true rfl⟩) ⟨pM_bl, va_recv hK hP (ci := 0) (q0 := 0) rfl rfl, fun U hU hW => ⟨rfl, pM_up hP hK hD hU hW⟩⟩ rfl rfl hl.1 rfl (lv_room (Nat.le_of_ble_eq_true rfl)) dd_M_label_2 ⟨Nat.zero_le _, Nat.zero_le _⟩) (fun r hr9 => ?_)
  subst hr9
  refine lv_if_eq (tgt := 10) hx hb dd_M_label_5 (by decide) (fun c1 => ?_) (fun c1 => ?_)
  · have hf := hf.trans (if_pos c1)
    have hok := hok.1 c1
    refine lv_aload_n hx hb dd_M_label_10 rfl (lv_at hl 0 rfl) ?_
    refine va_get (D := (dC, dI)) (ci := 0) (v := .ref (a 4)) (C := "ClassObjectMirrorModel") (T := TM) (N := 12) hx hb hts inM hown hK hP 0 rfl rfl 5 (by decide) (hts _ gw_306) (fun _ h9 => h9) rfl dd_M_label_11 ?_
    refine lv_iload_n hx hb dd_M_label_14 rfl (lv_at hl 1 rfl) ?_
    obtain ⟨n2, hok⟩ := hok
    refine va_iald hx hb hK hP 5 4 rfl rfl n2 dd_M_label_15 ?_
    refine lv_istore_n (lv' := [(2, .int (m_kind u0 p0.toNatClampNeg)), (0, .ref h), (1, .int p0)]) hx hb dd_M_label_16 rfl hl (by decide) rfl (fun ls hl => ?_)
    refine lv_iload_n hx hb dd_M_label_17 rfl (lv_at hl 0 rfl) ?_
    refine lv_bipush (v := 16) hx hb dd_M_label_18 (by decide) ?_
    refine lv_icmp_eq (tgt := 29) hx hb dd_M_label_20 (by decide) (fun c3 => ?_) (fun c3 => ?_)
    · have hf := hf.trans (if_pos c3)
      have hok := hok.1 c3
      refine lv_bipush (v := 100) hx hb dd_M_label_29 (by decide) ?_
      refine lv_goto (tgt := 71) hx hb dd_M_label_31 (by decide) ?_
      refine lv_istore_n (lv' := [(3, .int 100), (2, .int (m_kind u0 p0.toNatClampNeg)), (0, .ref h), (1, .int p0)]) hx hb dd_M_label_71 rfl hl (by decide) rfl (fun ls hl => ?_)
      refine lv_iload_n hx hb dd_M_label_72 rfl (lv_at hl 0 rfl) ?_
      refine lv_if_ne (tgt := 80) hx hb dd_M_label_73 (by decide) (fun c4 => ?_) (fun c4 => ?_)
      · have hf := hf.trans (if_neg c4)
        have hok := hok.2 c4
        refine lv_iload_n hx hb dd_M_label_80 rfl (lv_at hl 0 rfl) ?_
        refine lv_aload_n hx hb dd_M_label_81 rfl (lv_at hl 2 rfl) ?_
        refine va_get (D := (dC, dI)) (ci := 0) (v := .ref (a 6)) (C := "ClassObjectMirrorModel") (T := TM) (N := 12) hx hb hts inM hown hK hP 0 rfl rfl 7 (by decide) (hts _ gw_308) (fun _ h9 => h9) rfl dd_M_label_82 ?_
        refine lv_iload_n hx hb dd_M_label_85 rfl (lv_at hl 3 rfl) ?_
        have n5 := hok
        refine va_iald hx hb hK hP 7 6 rfl rfl n5 dd_M_label_86 ?_
        refine lv_iadd hx hb dd_M_label_87 ?_
        exact W.iret (v := (100 + (m_val u0 p0.toNatClampNeg))) hx hb hr (fun t ht hW => ⟨(100 + (m_val u0 p0.toNatClampNeg)), rfl, hf.symm, ht⟩) (fun _ h => by cases h) dd_M_label_88
      · have hf := hf.trans (if_pos c4)
        have hok := hok.1 c4
        refine lv_iconst (v := (-1)) hx hb dd_M_label_76 (by decide) ?_
        refine lv_goto (tgt := 88) hx hb dd_M_label_77 (by decide) ?_
        exact W.iret (v := ((-1) : Int32)) hx hb hr (fun t ht hW => ⟨((-1) : Int32), rfl, hf.symm, ht⟩) (fun _ h => by cases h) dd_M_label_88
    · have hf := hf.trans (if_neg c3)
      have hok := hok.2 c3
      refine lv_iload_n hx hb dd_M_label_23 rfl (lv_at hl 0 rfl) ?_
      refine lv_bipush (v := 17) hx hb dd_M_label_24 (by decide) ?_
      refine lv_icmp_ne (tgt := 34) hx hb dd_M_label_26 (by decide) (fun c6 => ?_) (fun c6 => ?_)
      · have hf := hf.trans (if_neg c6)
        have hok := hok.2 c6
        refine lv_iload_n hx hb dd_M_label_34 rfl (lv_at hl 0 rfl) ?_
        refine lv_bipush (v := 18) hx hb dd_M_label_35 (by decide) ?_
        refine lv_icmp_ne (tgt := 46) hx hb dd_M_label_37 (by decide) (fun c7 => ?_) (fun c7 => ?_)
        · have hf := hf.trans (if_neg c7)
          have hok := hok.2 c7
          refine lv_iload_n hx hb dd_M_label_46 rfl (lv_at hl 0 rfl) ?_
          refine lv_bipush (v := 20) hx hb dd_M_label_47 (by decide) ?_
          refine lv_icmp_ne (tgt := 58) hx hb dd_M_label_49 (by decide) (fun c8 => ?_) (fun c8 => ?_)
          · have hf := hf.trans (if_neg c8)
            have hok := hok.2 c8
            refine lv_iload_n hx hb dd_M_label_58 rfl (lv_at hl 0 rfl) ?_
            refine lv_bipush (v := 19) hx hb dd_M_label_59 (by decide) ?_
            refine lv_icmp_ne (tgt := 70) hx hb dd_M_label_61 (by decide) (fun c9 => ?_) (fun c9 => ?_)
            · have hf := hf.trans (if_neg c9)
              have hok := hok.2 c9
              refine lv_iconst (v := 0) hx hb dd_M_label_70 (by decide) ?_
              refine lv_istore_n (lv' := [(3, .int 0), (2, .int (m_kind u0 p0.toNatClampNeg)), (0, .ref h), (1, .int p0)]) hx hb dd_M_label_71 rfl hl (by decide) rfl (fun ls hl => ?_)
              refine lv_iload_n hx hb dd_M_label_72 rfl (lv_at hl 0 rfl) ?_
              refine lv_if_ne (tgt := 80) hx hb dd_M_label_73 (by decide) (fun c10 => ?_) (fun c10 => ?_)
              · have hf := hf.trans (if_neg c10)
                have hok := hok.2 c10
                refine lv_iload_n hx hb dd_M_label_80 rfl (lv_at hl 0 rfl) ?_
                refine lv_aload_n hx hb dd_M_label_81 rfl (lv_at hl 2 rfl) ?_
                refine va_get (D := (dC, dI)) (ci := 0) (v := .ref (a 6)) (C := "ClassObjectMirrorModel") (T := TM) (N := 12) hx hb hts inM hown hK hP 0 rfl rfl 7 (by decide) (hts _ gw_308) (fun _ h9 => h9) rfl dd_M_label_82 ?_
                refine lv_iload_n hx hb dd_M_label_85 rfl (lv_at hl 3 rfl) ?_
                have n11 := hok
                refine va_iald hx hb hK hP 7 6 rfl rfl n11 dd_M_label_86 ?_
                refine lv_iadd hx hb dd_M_label_87 ?_
                exact W.iret (v := (0 + (m_val u0 p0.toNatClampNeg))) hx hb hr (fun t ht hW => ⟨(0 + (m_val u0 p0.toNatClampNeg)), rfl, hf.symm, ht⟩) (fun _ h => by cases h) dd_M_label_88
              · have hf := hf.trans (if_pos c10)
                have hok := hok.1 c10
                refine lv_iconst (v := (-1)) hx hb dd_M_label_76 (by decide) ?_
                refine lv_goto (tgt := 88) hx hb dd_M_label_77 (by decide) ?_
                exact W.iret (v := ((-1) : Int32)) hx hb hr (fun t ht hW => ⟨((-1) : Int32), rfl, hf.symm, ht⟩) (fun _ h => by cases h) dd_M_label_88
            · have hf := hf.trans (if_pos c9)
              have hok := hok.1 c9
              refine lv_sipush (v := 400) hx hb dd_M_label_64 (by decide) ?_
              refine lv_goto (tgt := 71) hx hb dd_M_label_67 (by decide) ?_
              refine lv_istore_n (lv' := [(3, .int 400), (2, .int (m_kind u0 p0.toNatClampNeg)), (0, .ref h), (1, .int p0)]) hx hb dd_M_label_71 rfl hl (by decide) rfl (fun ls hl => ?_)
              refine lv_iload_n hx hb dd_M_label_72 rfl (lv_at hl 0 rfl) ?_
              refine lv_if_ne (tgt := 80) hx hb dd_M_label_73 (by decide) (fun c12 => ?_) (fun c12 => ?_)
              · have hf := hf.trans (if_neg c12)
                have hok := hok.2 c12
                refine lv_iload_n hx hb dd_M_label_80 rfl (lv_at hl 0 rfl) ?_
                refine lv_aload_n hx hb dd_M_label_81 rfl (lv_at hl 2 rfl) ?_
                refine va_get (D := (dC, dI)) (ci := 0) (v := .ref (a 6)) (C := "ClassObjectMirrorModel") (T := TM) (N := 12) hx hb hts inM hown hK hP 0 rfl rfl 7 (by decide) (hts _ gw_308) (fun _ h9 => h9) rfl dd_M_label_82 ?_
                refine lv_iload_n hx hb dd_M_label_85 rfl (lv_at hl 3 rfl) ?_
                have n13 := hok
                refine va_iald hx hb hK hP 7 6 rfl rfl n13 dd_M_label_86 ?_
                refine lv_iadd hx hb dd_M_label_87 ?_
                exact W.iret (v := (400 + (m_val u0 p0.toNatClampNeg))) hx hb hr (fun t ht hW => ⟨(400 + (m_val u0 p0.toNatClampNeg)), rfl, hf.symm, ht⟩) (fun _ h => by cases h) dd_M_label_88
              · have hf := hf.trans (if_pos c12)
                have hok := hok.1 c12
                refine lv_iconst (v := (-1)) hx hb dd_M_label_76 (by decide) ?_
                refine lv_goto (tgt := 88) hx hb dd_M_label_77 (by decide) ?_
                exact W.iret (v := ((-1) : Int32)) hx hb hr (fun t ht hW => ⟨((-1) : Int32), rfl, hf.symm, ht⟩) (fun _ h => by cases h) dd_M_label_88
          · have hf := hf.trans (if_pos c8)
            have hok := hok.1 c8
            refine lv_sipush (v := 300) hx hb dd_M_label_52 (by decide) ?_
            refine lv_goto (tgt := 71) hx hb dd_M_label_55 (by decide) ?_
            refine lv_istore_n (lv' := [(3, .int 300), (2, .int (m_kind u0 p0.toNatClampNeg)), (0, .ref h), (1, .int p0)]) hx hb dd_M_label_71 rfl hl (by decide) rfl (fun ls hl => ?_)
            refine lv_iload_n hx hb dd_M_label_72 rfl (lv_at hl 0 rfl) ?_
            refine lv_if_ne (tgt := 80) hx hb dd_M_label_73 (by decide) (fun c14 => ?_) (fun c14 => ?_)
            · have hf := hf.trans (if_neg c14)
              have hok := hok.2 c14
              refine lv_iload_n hx hb dd_M_label_80 rfl (lv_at hl 0 rfl) ?_
              refine lv_aload_n hx hb dd_M_label_81 rfl (lv_at hl 2 rfl) ?_
              refine va_get (D := (dC, dI)) (ci := 0) (v := .ref (a 6)) (C := "ClassObjectMirrorModel") (T := TM) (N := 12) hx hb hts inM hown hK hP 0 rfl rfl 7 (by decide) (hts _ gw_308) (fun _ h9 => h9) rfl dd_M_label_82 ?_
              refine lv_iload_n hx hb dd_M_label_85 rfl (lv_at hl 3 rfl) ?_
              have n15 := hok
              refine va_iald hx hb hK hP 7 6 rfl rfl n15 dd_M_label_86 ?_
              refine lv_iadd hx hb dd_M_label_87 ?_
              exact W.iret (v := (300 + (m_val u0 p0.toNatClampNeg))) hx hb hr (fun t ht hW => ⟨(300 + (m_val u0 p0.toNatClampNeg)), rfl, hf.symm, ht⟩) (fun _ h => by cases h) dd_M_label_88
            · have hf := hf.trans (if_pos c14)
              have hok := hok.1 c14
              refine lv_iconst (v := (-1)) hx hb dd_M_label_76 (by decide) ?_
              refine lv_goto (tgt := 88) hx hb dd_M_label_77 (by decide) ?_
              exact W.iret (v := ((-1) : Int32)) hx hb hr (fun t ht hW => ⟨((-1) : Int32), rfl, hf.symm, ht⟩) (fun _ h => by cases h) dd_M_label_88
        · have hf := hf.trans (if_pos c7)
          have hok := hok.1 c7
          refine lv_sipush (v := 200) hx hb dd_M_label_40 (by decide) ?_
          refine lv_goto (tgt := 71) hx hb dd_M_label_43 (by decide) ?_
          refine lv_istore_n (lv' := [(3, .int 200), (2, .int (m_kind u0 p0.toNatClampNeg)), (0, .ref h), (1, .int p0)]) hx hb dd_M_label_71 rfl hl (by decide) rfl (fun ls hl => ?_)
          refine lv_iload_n hx hb dd_M_label_72 rfl (lv_at hl 0 rfl) ?_
          refine lv_if_ne (tgt := 80) hx hb dd_M_label_73 (by decide) (fun c16 => ?_) (fun c16 => ?_)
          · have hf := hf.trans (if_neg c16)
            have hok := hok.2 c16
            refine lv_iload_n hx hb dd_M_label_80 rfl (lv_at hl 0 rfl) ?_
            refine lv_aload_n hx hb dd_M_label_81 rfl (lv_at hl 2 rfl) ?_
            refine va_get (D := (dC, dI)) (ci := 0) (v := .ref (a 6)) (C := "ClassObjectMirrorModel") (T := TM) (N := 12) hx hb hts inM hown hK hP 0 rfl rfl 7 (by decide) (hts _ gw_308) (fun _ h9 => h9) rfl dd_M_label_82 ?_
            refine lv_iload_n hx hb dd_M_label_85 rfl (lv_at hl 3 rfl) ?_
            have n17 := hok
            refine va_iald hx hb hK hP 7 6 rfl rfl n17 dd_M_label_86 ?_
            refine lv_iadd hx hb dd_M_label_87 ?_
            exact W.iret (v := (200 + (m_val u0 p0.toNatClampNeg))) hx hb hr (fun t ht hW => ⟨(200 + (m_val u0 p0.toNatClampNeg)), rfl, hf.symm, ht⟩) (fun _ h => by cases h) dd_M_label_88
          · have hf := hf.trans (if_pos c16)
            have hok := hok.1 c16
            refine lv_iconst (v := (-1)) hx hb dd_M_label_76 (by decide) ?_
            refine lv_goto (tgt := 88) hx hb dd_M_label_77 (by decide) ?_
            exact W.iret (v := ((-1) : Int32)) hx hb hr (fun t ht hW => ⟨((-1) : Int32), rfl, hf.symm, ht⟩) (fun _ h => by cases h) dd_M_label_88
      · have hf := hf.trans (if_pos c6)
        have hok := hok.1 c6
        refine lv_bipush (v := 100) hx hb dd_M_label_29 (by decide) ?_
        refine lv_goto (tgt := 71) hx hb dd_M_label_31 (by decide) ?_
        refine lv_istore_n (lv' := [(3, .int 100), (2, .int (m_kind u0 p0.toNatClampNeg)), (0, .ref h), (1, .int p0)]) hx hb dd_M_label_71 rfl hl (by decide) rfl (fun ls hl => ?_)
        refine lv_iload_n hx hb dd_M_label_72 rfl (lv_at hl 0 rfl) ?_
        refine lv_if_ne (tgt := 80) hx hb dd_M_label_73 (by decide) (fun c18 => ?_) (fun c18 => ?_)
        · have hf := hf.trans (if_neg c18)
          have hok := hok.2 c18
          refine lv_iload_n hx hb dd_M_label_80 rfl (lv_at hl 0 rfl) ?_
          refine lv_aload_n hx hb dd_M_label_81 rfl (lv_at hl 2 rfl) ?_
          refine va_get (D := (dC, dI)) (ci := 0) (v := .ref (a 6)) (C := "ClassObjectMirrorModel") (T := TM) (N := 12) hx hb hts inM hown hK hP 0 rfl rfl 7 (by decide) (hts _ gw_308) (fun _ h9 => h9) rfl dd_M_label_82 ?_
          refine lv_iload_n hx hb dd_M_label_85 rfl (lv_at hl 3 rfl) ?_
          have n19 := hok
          refine va_iald hx hb hK hP 7 6 rfl rfl n19 dd_M_label_86 ?_
          refine lv_iadd hx hb dd_M_label_87 ?_
          exact W.iret (v := (100 + (m_val u0 p0.toNatClampNeg))) hx hb hr (fun t ht hW => ⟨(100 + (m_val u0 p0.toNatClampNeg)), rfl, hf.symm, ht⟩) (fun _ h => by cases h) dd_M_label_88
        · have hf := hf.trans (if_pos c18)
          have hok := hok.1 c18
          refine lv_iconst (v := (-1)) hx hb dd_M_label_76 (by decide) ?_
          refine lv_goto (tgt := 88) hx hb dd_M_label_77 (by decide) ?_
          exact W.iret (v := ((-1) : Int32)) hx hb hr (fun t ht hW => ⟨((-1) : Int32), rfl, hf.symm, ht⟩) (fun _ h => by cases h) dd_M_label_88
  · have hf := hf.trans (if_neg c1)
    have hok := hok.2 c1
    refine lv_iconst (v := (-1)) hx hb dd_M_label_8 (by decide) ?_
    exact W.iret (v := ((-1) : Int32)) hx hb hr (fun t ht hW => ⟨((-1) : Int32), rfl, hf.symm, ht⟩) (fun _ h => by cases h) dd_M_label_9

def ff_M_count (u0 : SM) (p0 : Int32) : Int32 := (if p0 = 0 then m_types u0 else (if p0 = 1 then m_objs u0 else (-1)))
abbrev ws_M_count : List Cond := .code yy_M_count bb_M_count 2 (some .int) :: gW
abbrev rm_M_count : Room := { frames := 0, cells := 0, slots := 0, locals := 0 }
set_option maxHeartbeats 4000000 in
set_option maxRecDepth 100000 in
theorem mm_M_count (l : Launch) (dC : Nat → ClassId) (dI : Nat → Nat → Nat) (h : Nat) (a : Nat → Nat) (k : Nat → ClassId) (u0 : SM) (p0 : Int32) : Met l yy_M_count ws_M_count rm_M_count (va_Pc [.ref h, .int p0] (pM dC dI h a k u0)) (vp_Si (fun r => r = ff_M_count u0 p0)) 0 0 (fun _ => False) := by
  refine Met.ofW (cc := bb_M_count) (maxL := 2) (ret := (some .int)) (by decide) rfl ?_
  intro p e s m args below meth c s₁ B hml hv
  obtain ⟨rfl, hP, hK, hD⟩ := hv
  have hx := B.exec
  have hb := B.bytes
  have hr := B.returns
  have hts : ∀ w ∈ gW, w.before _ s = true := fun w h => atoms_spec (ws := ws_M_count) B.pre w (List.mem_cons_of_mem _ h)
  have hown : s.vm.findClass "ClassObjectMirrorModel" = some m.cls := findClass_of_methodNamed B.named
  have hlocks := B.notSynchronized
  have hS : va_S (aM h a) s.heap s.heap [] := va_S.rf
  have hl := lv_entry ([.ref h, .int p0]) (n := 2) (Nat.le_of_ble_eq_true rfl)
  rw [lg_entry_eq]
  generalize (lg_sl ([.ref h, .int p0]) ++ List.replicate (2 - (lg_sl ([.ref h, .int p0])).length) Slot.unset).toArray = ls at hl ⊢
  have hl : lv_has ls 2 [(0, .ref h), (1, .int p0)] := hl
  have hf := ff_M_count.eq_1 u0 p0
  refine lv_iload_n hx hb dd_M_count_0 rfl (lv_at hl 1 rfl) ?_
  refine lv_if_ne (tgt := 11) hx hb dd_M_count_1 (by decide) (fun c1 => ?_) (fun c1 => ?_)
  · have hf := hf.trans (if_neg c1)
    refine lv_iload_n hx hb dd_M_count_11 rfl (lv_at hl 1 rfl) ?_
    refine lv_iconst (v := 1) hx hb dd_M_count_12 (by decide) ?_
    refine lv_icmp_ne (tgt := 23) hx hb dd_M_count_13 (by decide) (fun c2 => ?_) (fun c2 => ?_)
    · have hf := hf.trans (if_neg c2)
      refine lv_iconst (v := (-1)) hx hb dd_M_count_23 (by decide) ?_
      exact W.iret (v := ((-1) : Int32)) hx hb hr (fun t ht hW => ⟨((-1) : Int32), rfl, hf.symm, ht⟩) (fun _ h => by cases h) dd_M_count_24
    · have hf := hf.trans (if_pos c2)
      refine lv_aload_n hx hb dd_M_count_16 rfl (lv_at hl 0 rfl) ?_
      refine va_get (D := (dC, dI)) (ci := 0) (v := .int (m_objs u0)) (C := "ClassObjectMirrorModel") (T := TM) (N := 12) hx hb hts inM hown hK hP 0 rfl rfl 9 (by decide) (hts _ gw_310) (fun _ h9 => h9) rfl dd_M_count_17 ?_
      refine lv_goto (tgt := 24) hx hb dd_M_count_20 (by decide) ?_
      exact W.iret (v := (m_objs u0)) hx hb hr (fun t ht hW => ⟨(m_objs u0), rfl, hf.symm, ht⟩) (fun _ h => by cases h) dd_M_count_24
  · have hf := hf.trans (if_pos c1)
    refine lv_aload_n hx hb dd_M_count_4 rfl (lv_at hl 0 rfl) ?_
    refine va_get (D := (dC, dI)) (ci := 0) (v := .int (m_types u0)) (C := "ClassObjectMirrorModel") (T := TM) (N := 12) hx hb hts inM hown hK hP 0 rfl rfl 4 (by decide) (hts _ gw_305) (fun _ h9 => h9) rfl dd_M_count_5 ?_
    refine lv_goto (tgt := 24) hx hb dd_M_count_8 (by decide) ?_
    exact W.iret (v := (m_types u0)) hx hb hr (fun t ht hW => ⟨(m_types u0), rfl, hf.symm, ht⟩) (fun _ h => by cases h) dd_M_count_24
