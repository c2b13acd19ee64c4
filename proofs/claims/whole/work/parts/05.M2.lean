def ff_M_letter (u0 : SM) (p0 : Int32) : SM := m_u_wr (m_u_out u0 (m_wr u0) p0) ((m_wr (m_u_out u0 (m_wr u0) p0)) + 1)
def ok_M_letter (u0 : SM) (p0 : Int32) : Prop := vp_in (m_wr u0) 900
abbrev ws_M_letter : List Cond := .code yy_M_letter bb_M_letter 2 (none) :: gW
abbrev rm_M_letter : Room := { frames := 0, cells := 0, slots := 0, locals := 0 }
set_option maxHeartbeats 4000000 in
set_option maxRecDepth 100000 in
theorem mm_M_letter (l : Launch) (dC : Nat → ClassId) (dI : Nat → Nat → Nat) (h : Nat) (a : Nat → Nat) (k : Nat → ClassId) (u0 : SM) (p0 : Int32) (hok : ok_M_letter u0 p0) : Met l yy_M_letter ws_M_letter rm_M_letter (va_Pc [.ref h, .int p0] (pM dC dI h a k u0)) (va_Qv (fun v : SM => v = ff_M_letter u0 p0) (pM dC dI h a k) (aM h a)) 0 0 (aM h a) := by
  refine Met.ofW (cc := bb_M_letter) (maxL := 2) (ret := (none)) (by decide) rfl ?_
  intro p e s m args below meth c s₁ B hml hv
  obtain ⟨rfl, hP, hK, hD⟩ := hv
  have hx := B.exec
  have hb := B.bytes
  have hr := B.returns
  have hts : ∀ w ∈ gW, w.before _ s = true := fun w h => atoms_spec (ws := ws_M_letter) B.pre w (List.mem_cons_of_mem _ h)
  have hown : s.vm.findClass "ClassObjectMirrorModel" = some m.cls := findClass_of_methodNamed B.named
  have hlocks := B.notSynchronized
  have hS : va_S (aM h a) s.heap s.heap [] := va_S.rf
  have hl := lv_entry ([.ref h, .int p0]) (n := 2) (Nat.le_of_ble_eq_true rfl)
  rw [lg_entry_eq]
  generalize (lg_sl ([.ref h, .int p0]) ++ List.replicate (2 - (lg_sl ([.ref h, .int p0])).length) Slot.unset).toArray = ls at hl ⊢
  have hl : lv_has ls 2 [(0, .ref h), (1, .int p0)] := hl
  have hf := ff_M_letter.eq_1 u0 p0
  unfold ok_M_letter at hok
  refine lv_aload_n hx hb dd_M_letter_0 rfl (lv_at hl 0 rfl) ?_
  refine va_get (D := (dC, dI)) (ci := 0) (v := .ref (a 8)) (C := "ClassObjectMirrorModel") (T := TM) (N := 12) hx hb hts inM hown hK hP 0 rfl rfl 10 (by decide) (hts _ gw_311) (fun _ h9 => h9) rfl dd_M_letter_1 ?_
  refine lv_aload_n hx hb dd_M_letter_4 rfl (lv_at hl 0 rfl) ?_
  refine va_get (D := (dC, dI)) (ci := 0) (v := .int (m_wr u0)) (C := "ClassObjectMirrorModel") (T := TM) (N := 12) hx hb hts inM hown hK hP 0 rfl rfl 11 (by decide) (hts _ gw_312) (fun _ h9 => h9) rfl dd_M_letter_5 ?_
  refine lv_iload_n hx hb dd_M_letter_8 rfl (lv_at hl 1 rfl) ?_
  have n1 := hok
  refine va_iast hx hb hK hP hD hS 9 8 rfl rfl n1 dd_M_letter_9 (fun H locs hP hD hS => ?_)
  have hP : va_P (dC, dI) cls_l (wM h a k (m_u_out u0 (m_wr u0) p0)) H := hP
  have hD : va_D (aM h a) (wM h a k (m_u_out u0 (m_wr u0) p0)) := hD
  refine lv_aload_n hx hb dd_M_letter_10 rfl (lv_at hl 0 rfl) ?_
  refine lv_dup hx hb dd_M_letter_11 rfl ?_
  refine va_get (D := (dC, dI)) (ci := 0) (v := .int (m_wr (m_u_out u0 (m_wr u0) p0))) (C := "ClassObjectMirrorModel") (T := TM) (N := 12) hx hb hts inM hown hK hP 0 rfl rfl 11 (by decide) (hts _ gw_312) (fun _ h9 => h9) rfl dd_M_letter_12 ?_
  refine lv_iconst (v := 1) hx hb dd_M_letter_15 (by decide) ?_
  refine lv_iadd hx hb dd_M_letter_16 ?_
  refine va_put (D := (dC, dI)) (ci := 0) (v := .int ((m_wr (m_u_out u0 (m_wr u0) p0)) + 1)) (ty := .int) (C := "ClassObjectMirrorModel") (T := TM) (N := 12) hx hb hts inM tyM tyM_ok nmM hown hK hP hD hS 0 rfl rfl 11 (by decide) (hts _ gw_312) (fun _ h9 => h9) rfl (by decide +kernel) rfl rfl (Nat.le_of_ble_eq_true rfl) dd_M_letter_17 (fun H locs hP hD hS => ?_)
  have hP : va_P (dC, dI) cls_l (wM h a k (m_u_wr (m_u_out u0 (m_wr u0) p0) ((m_wr (m_u_out u0 (m_wr u0) p0)) + 1))) H := hP
  have hD : va_D (aM h a) (wM h a k (m_u_wr (m_u_out u0 (m_wr u0) p0) ((m_wr (m_u_out u0 (m_wr u0) p0)) + 1))) := hD
  exact W.vret hx hb hr (fun t ht hW => ⟨⟨m_u_wr (m_u_out u0 (m_wr u0) p0) ((m_wr (m_u_out u0 (m_wr u0) p0)) + 1), rfl, hf.symm, pM_up hP hK hD ht hW⟩, hS.F ht⟩) hS.2.2 dd_M_letter_20

def fl_M_word_21 : Nat → SM → Int64 → Int64 → SM
  | 0, u, _, _ => u
  | n + 1, u, x1, x3 => (if (lg_cmp x3 0) ≤ 0 then u else fl_M_word_21 n (ff_M_letter u (((x1 / x3) - (x1 / x3) / 128 * 128).toInt32)) x1 (x3 / 128))
def okl_M_word_21 : Nat → SM → Int64 → Int64 → Prop
  | 0, _, _, _ => False
  | n + 1, u, x1, x3 => ((((lg_cmp x3 0) ≤ 0) → True) ∧ (¬ ((lg_cmp x3 0) ≤ 0) → (¬ x3 = 0) ∧ (ok_M_letter u (((x1 / x3) - (x1 / x3) / 128 * 128).toInt32)) ∧ okl_M_word_21 n (ff_M_letter u (((x1 / x3) - (x1 / x3) / 128 * 128).toInt32)) x1 (x3 / 128)))
def fl_M_word_2 : Nat → SM → Int64 → Int64 → SM
  | 0, u, _, _ => u
  | n + 1, u, x1, x3 => (if (lg_cmp (x1 / x3) 128) < 0 then fl_M_word_21 12 u x1 x3 else fl_M_word_2 n u x1 (x3 * 128))
def okl_M_word_2 : Nat → SM → Int64 → Int64 → Prop
  | 0, _, _, _ => False
  | n + 1, u, x1, x3 => (¬ x3 = 0) ∧ ((((lg_cmp (x1 / x3) 128) < 0) → okl_M_word_21 12 u x1 x3) ∧ (¬ ((lg_cmp (x1 / x3) 128) < 0) → okl_M_word_2 n u x1 (x3 * 128)))
def ff_M_word (u0 : SM) (p0 : Int64) : SM := fl_M_word_2 12 u0 p0 (1 : Int64)
def ok_M_word (u0 : SM) (p0 : Int64) : Prop := okl_M_word_2 12 u0 p0 (1 : Int64)
abbrev ws_M_word : List Cond := .code yy_M_word bb_M_word 5 (none) :: gW
abbrev rm_M_word : Room := { frames := 1, cells := 0, slots := 0, locals := 21 }
set_option maxHeartbeats 4000000 in
set_option maxRecDepth 100000 in
theorem mm_M_word (l : Launch) (dC : Nat → ClassId) (dI : Nat → Nat → Nat) (h : Nat) (a : Nat → Nat) (k : Nat → ClassId) (u0 : SM) (p0 : Int64) (hok : ok_M_word u0 p0) : Met l yy_M_word ws_M_word rm_M_word (va_Pc [.ref h, .long p0] (pM dC dI h a k u0)) (va_Qv (fun v : SM => v = ff_M_word u0 p0) (pM dC dI h a k) (aM h a)) 0 0 (aM h a) := by
  refine Met.ofW (cc := bb_M_word) (maxL := 5) (ret := (none)) (by decide) rfl ?_
  intro p e s m args below meth c s₁ B hml hv
  obtain ⟨rfl, hP, hK, hD⟩ := hv
  have hx := B.exec
  have hb := B.bytes
  have hr := B.returns
  have hts : ∀ w ∈ gW, w.before _ s = true := fun w h => atoms_spec (ws := ws_M_word) B.pre w (List.mem_cons_of_mem _ h)
  have hown : s.vm.findClass "ClassObjectMirrorModel" = some m.cls := findClass_of_methodNamed B.named
  have hlocks := B.notSynchronized
  have hS : va_S (aM h a) s.heap s.heap [] := va_S.rf
  have hl := lv_entry ([.ref h, .long p0]) (n := 5) (Nat.le_of_ble_eq_true rfl)
  rw [lg_entry_eq]
  generalize (lg_sl ([.ref h, .long p0]) ++ List.replicate (5 - (lg_sl ([.ref h, .long p0])).length) Slot.unset).toArray = ls at hl ⊢
  have hl : lv_has ls 5 [(0, .ref h), (1, .long p0)] := hl
  have hf := ff_M_word.eq_1 u0 p0
  unfold ok_M_word at hok
  refine lv_lconst (v := 1) hx hb dd_M_word_0 (by decide) ?_
  refine lv_lstore_n (lv' := [(3, .long 1), (0, .ref h), (1, .long p0)]) hx hb dd_M_word_1 rfl hl (by decide) rfl (fun ls hl => ?_)
  have loop_2 : ∀ (n : Nat) (u : SM) (H : Heap) (locs : List Loc) (x1 : Int64) (x3 : Int64) (ls : Array Slot), okl_M_word_2 n u x1 x3 → ff_M_word u0 p0 = fl_M_word_2 n u x1 x3 → va_P (dC, dI) cls_l (wM h a k u) H → va_D (aM h a) (wM h a k u) → va_S (aM h a) s.heap H locs → lv_has ls 5 [(0, .ref h), (1, .long x1), (3, .long x3)] → W p l e (headSpec ws_M_word rm_M_word).room s m ([.ref h, .long p0] : List Value).toArray below meth c H locs 0 0 (MQ below (va_Qv (fun v : SM => v = ff_M_word u0 p0) (pM dC dI h a k) (aM h a)) ([.ref h, .long p0] : List Value).toArray s 0 0 (aM h a)) (F0 m 2 ls []) := by
    intro n
    induction n with
    | zero => intro u H locs x1 x3 ls hok; exact (show False from hok).elim
    | succ n ih =>
      intro u H locs x1 x3 ls hok hf hP hD hS hl
      rw [fl_M_word_2] at hf
      rw [okl_M_word_2] at hok
      refine lv_lload_n hx hb dd_M_word_2 rfl (lv_at hl 1 rfl) ?_
      refine lv_lload_n hx hb dd_M_word_3 rfl (lv_at hl 2 rfl) ?_
      obtain ⟨n1, hok⟩ := hok
      refine lv_ldiv hx hb dd_M_word_4 n1 ?_
      refine lv_ldc2 (v := 128) hx hb hown (hts _ gw_409) dd_M_word_5 ?_
      refine W.lcmp hx hb dd_M_word_8 ?_
      refine lv_if_lt (tgt := 21) hx hb dd_M_word_9 (by decide) (fun c2 => ?_) (fun c2 => ?_)
      · have hf := hf.trans (if_pos c2)
        have hok := hok.1 c2
        have loop_21 : ∀ (n : Nat) (u : SM) (H : Heap) (locs : List Loc) (x1 : Int64) (x3 : Int64) (ls : Array Slot), okl_M_word_21 n u x1 x3 → ff_M_word u0 p0 = fl_M_word_21 n u x1 x3 → va_P (dC, dI) cls_l (wM h a k u) H → va_D (aM h a) (wM h a k u) → va_S (aM h a) s.heap H locs → lv_has ls 5 [(0, .ref h), (1, .long x1), (3, .long x3)] → W p l e (headSpec ws_M_word rm_M_word).room s m ([.ref h, .long p0] : List Value).toArray below meth c H locs 0 0 (MQ below (va_Qv (fun v : SM => v = ff_M_word u0 p0) (pM dC dI h a k) (aM h a)) ([.ref h, .long p0] : List Value).toArray s 0 0 (aM h a)) (F0 m 21 ls []) := by
          intro n
          induction n with
          | zero => intro u H locs x1 x3 ls hok; exact (show False from hok).elim
          | succ n ih =>
            intro u H locs x1 x3 ls hok hf hP hD hS hl
            rw [fl_M_word_21] at hf
            rw [okl_M_word_21] at hok
            refine lv_lload_n hx hb dd_M_word_21 rfl (lv_at hl 2 rfl) ?_
            refine lv_lconst (v := 0) hx hb dd_M_word_22 (by decide) ?_
            refine W.lcmp hx hb dd_M_word_23 ?_
            refine lv_if_le (tgt := 48) hx hb dd_M_word_24 (by decide) (fun c3 => ?_) (fun c3 => ?_)
            · have hf := hf.trans (if_pos c3)
              have hok := hok.1 c3
              exact W.vret hx hb hr (fun t ht hW => ⟨⟨u, rfl, hf.symm, pM_up hP hK hD ht hW⟩, hS.F ht⟩) hS.2.2 dd_M_word_48
            · have hf := hf.trans (if_neg c3)
              have hok := hok.2 c3
              refine lv_aload_n hx hb dd_M_word_27 rfl (lv_at hl 0 rfl) ?_
              refine lv_lload_n hx hb dd_M_word_28 rfl (lv_at hl 1 rfl) ?_
              refine lv_lload_n hx hb dd_M_word_29 rfl (lv_at hl 2 rfl) ?_
              obtain ⟨n4, hok⟩ := hok
              refine lv_ldiv hx hb dd_M_word_30 n4 ?_
              refine lv_ldc2 (v := 128) hx hb hown (hts _ gw_409) dd_M_word_31 ?_
              refine lv_lrem hx hb dd_M_word_34 (by decide) ?_
              refine lv_l2i (v := ((x1 / x3) - (x1 / x3) / 128 * 128).toInt32) hx hb dd_M_word_35 rfl ?_
              obtain ⟨n5, hok⟩ := hok
              refine va_callv (va_runV (As := [.int (((x1 / x3) - (x1 / x3) / 128 * 128).toInt32)]) (rest := []) ⟨hx, hb, hml, hown, hts⟩ (mm_M_letter l dC dI h a k u (((x1 / x3) - (x1 / x3) / 128 * 128).toInt32) n5) (cwV 1 hts (gg_V gw_393 gw_395 gs_24 gw_2 gw_396) rfl rfl rfl (by decide +kernel) ⟨Nat.le_of_ble_eq_true rfl, Nat.le_of_ble_eq_true rfl⟩) ⟨pM_bl, va_recv hK hP (ci := 0) (q0 := 0) rfl rfl, fun U hU hW => ⟨rfl, pM_up hP hK hD hU hW⟩⟩ rfl rfl hl.1 rfl (lv_room (Nat.le_of_ble_eq_true rfl)) dd_M_word_36 ⟨Nat.zero_le _, Nat.zero_le _⟩) hS (fun q _ h => h) (fun q h => h) (fun v9 t9 H locs ht9 hvm9 hw9 hB9 hz9 hk9 hS => ?_)
              subst hw9
              obtain ⟨hP, -, hD⟩ := hB9
              rw [ht9] at hP
              refine lv_lload_n hx hb dd_M_word_39 rfl (lv_at hl 2 rfl) ?_
              refine lv_ldc2 (v := 128) hx hb hown (hts _ gw_409) dd_M_word_40 ?_
              refine lv_ldiv hx hb dd_M_word_43 (by decide) ?_
              refine lv_lstore_n (lv' := [(3, .long (x3 / 128)), (0, .ref h), (1, .long x1)]) hx hb dd_M_word_44 rfl hl (by decide) rfl (fun ls hl => ?_)
              refine lv_goto (tgt := 21) hx hb dd_M_word_45 (by decide) ?_
              exact ih (ff_M_letter u (((x1 / x3) - (x1 / x3) / 128 * 128).toInt32)) _ _ x1 (x3 / 128) ls hok hf hP hD hS (lv_sub hl [1, 2, 0] rfl)
        exact loop_21 12 u _ _ x1 x3 ls hok hf hP hD hS (lv_sub hl [0, 1, 2] rfl)
      · have hf := hf.trans (if_neg c2)
        have hok := hok.2 c2
        refine lv_lload_n hx hb dd_M_word_12 rfl (lv_at hl 2 rfl) ?_
        refine lv_ldc2 (v := 128) hx hb hown (hts _ gw_409) dd_M_word_13 ?_
        refine lv_lmul hx hb dd_M_word_16 ?_
        refine lv_lstore_n (lv' := [(3, .long (x3 * 128)), (0, .ref h), (1, .long x1)]) hx hb dd_M_word_17 rfl hl (by decide) rfl (fun ls hl => ?_)
        refine lv_goto (tgt := 2) hx hb dd_M_word_18 (by decide) ?_
        exact ih u _ _ x1 (x3 * 128) ls hok hf hP hD hS (lv_sub hl [1, 2, 0] rfl)
  exact loop_2 12 u0 _ _ p0 (1 : Int64) ls hok hf hP hD hS (lv_sub hl [1, 2, 0] rfl)

def ff_M_simple (u0 : SM) (p0 : Int32) : SM := (if p0 = 0 then ff_M_word u0 (434852513542382 : Int64) else (if p0 = 1 then ff_M_word u0 (207518309 : Int64) else (if p0 = 2 then ff_M_word u0 (209334514 : Int64) else (if p0 = 3 then ff_M_word u0 (31090014580 : Int64) else (if p0 = 4 then ff_M_word u0 (1734516 : Int64) else (if p0 = 5 then ff_M_word u0 (228325223 : Int64) else (if p0 = 6 then ff_M_word u0 (27608740084 : Int64) else (if p0 = 7 then ff_M_word u0 (3466017158757 : Int64) else (if p0 = 8 then ff_M_word u0 (249296100 : Int64) else (if p0 = 9 then ff_M_word u0 (2740949971444 : Int64) else (if p0 = 10 then ff_M_word (ff_M_word u0 (38196479574700396 : Int64)) (101 : Int64) else (if p0 = 11 then ff_M_word (ff_M_word u0 (47172994232694010 : Int64)) (205043301 : Int64) else (if p0 = 12 then ff_M_word u0 (2883237607271 : Int64) else (if p0 = 13 then ff_M_word u0 (22499850341 : Int64) else (if p0 = 14 then ff_M_word u0 (21143188196 : Int64) else (if p0 = 15 then ff_M_word u0 (140016101 : Int64) else (if p0 = 16 then ff_M_word u0 (2330528904805 : Int64) else (if p0 = 17 then ff_M_word u0 (2882438461797 : Int64) else (if p0 = 18 then ff_M_word u0 (177895013 : Int64) else (if p0 = 19 then ff_M_word u0 (18219743218 : Int64) else (if p0 = 20 then ff_M_word u0 (21709354868 : Int64) else ff_M_word u0 (2503925641970 : Int64))))))))))))))))))))))
def ok_M_simple (u0 : SM) (p0 : Int32) : Prop := (((p0 = 0) → ok_M_word u0 (434852513542382 : Int64)) ∧ (¬ (p0 = 0) → (((p0 = 1) → ok_M_word u0 (207518309 : Int64)) ∧ (¬ (p0 = 1) → (((p0 = 2) → ok_M_word u0 (209334514 : Int64)) ∧ (¬ (p0 = 2) → (((p0 = 3) → ok_M_word u0 (31090014580 : Int64)) ∧ (¬ (p0 = 3) → (((p0 = 4) → ok_M_word u0 (1734516 : Int64)) ∧ (¬ (p0 = 4) → (((p0 = 5) → ok_M_word u0 (228325223 : Int64)) ∧ (¬ (p0 = 5) → (((p0 = 6) → ok_M_word u0 (27608740084 : Int64)) ∧ (¬ (p0 = 6) → (((p0 = 7) → ok_M_word u0 (3466017158757 : Int64)) ∧ (¬ (p0 = 7) → (((p0 = 8) → ok_M_word u0 (249296100 : Int64)) ∧ (¬ (p0 = 8) → (((p0 = 9) → ok_M_word u0 (2740949971444 : Int64)) ∧ (¬ (p0 = 9) → (((p0 = 10) → (ok_M_word u0 (38196479574700396 : Int64)) ∧ ok_M_word (ff_M_word u0 (38196479574700396 : Int64)) (101 : Int64)) ∧ (¬ (p0 = 10) → (((p0 = 11) → (ok_M_word u0 (47172994232694010 : Int64)) ∧ ok_M_word (ff_M_word u0 (47172994232694010 : Int64)) (205043301 : Int64)) ∧ (¬ (p0 = 11) → (((p0 = 12) → ok_M_word u0 (2883237607271 : Int64)) ∧ (¬ (p0 = 12) → (((p0 = 13) → ok_M_word u0 (22499850341 : Int64)) ∧ (¬ (p0 = 13) → (((p0 = 14) → ok_M_word u0 (21143188196 : Int64)) ∧ (¬ (p0 = 14) → (((p0 = 15) → ok_M_word u0 (140016101 : Int64)) ∧ (¬ (p0 = 15) → (((p0 = 16) → ok_M_word u0 (2330528904805 : Int64)) ∧ (¬ (p0 = 16) → (((p0 = 17) → ok_M_word u0 (2882438461797 : Int64)) ∧ (¬ (p0 = 17) → (((p0 = 18) → ok_M_word u0 (177895013 : Int64)) ∧ (¬ (p0 = 18) → (((p0 = 19) → ok_M_word u0 (18219743218 : Int64)) ∧ (¬ (p0 = 19) → (((p0 = 20) → ok_M_word u0 (21709354868 : Int64)) ∧ (¬ (p0 = 20) → ok_M_word u0 (2503925641970 : Int64)))))))))))))))))))))))))))))))))))))))))))
abbrev ws_M_simple : List Cond := .code yy_M_simple bb_M_simple 2 (none) :: gW
abbrev rm_M_simple : Room := { frames := 2, cells := 0, slots := 0, locals := 45 }
set_option maxHeartbeats 4000000 in
set_option maxRecDepth 100000 in
theorem mm_M_simple (l : Launch) (dC : Nat → ClassId) (dI : Nat → Nat → Nat) (h : Nat) (a : Nat → Nat) (k : Nat → ClassId) (u0 : SM) (p0 : Int32) (hok : ok_M_simple u0 p0) : Met l yy_M_simple ws_M_simple rm_M_simple (va_Pc [.ref h, .int p0] (pM dC dI h a k u0)) (va_Qv (fun v : SM => v = ff_M_simple u0 p0) (pM dC dI h a k) (aM h a)) 0 0 (aM h a) := by
  refine Met.ofW (cc := bb_M_simple) (maxL := 2) (ret := (none)) (by decide) rfl ?_
  intro p e s m args below meth c s₁ B hml hv
  obtain ⟨rfl, hP, hK, hD⟩ := hv
  have hx := B.exec
  have hb := B.bytes
  have hr := B.returns
  have hts : ∀ w ∈ gW, w.before _ s = true := fun w h => atoms_spec (ws := ws_M_simple) B.pre w (List.mem_cons_of_mem _ h)
  have hown : s.vm.findClass "ClassObjectMirrorModel" = some m.cls := findClass_of_methodNamed B.named
  have hlocks := B.notSynchronized
  have hS : va_S (aM h a) s.heap s.heap [] := va_S.rf
  have hl := lv_entry ([.ref h, .int p0]) (n := 2) (Nat.le_of_ble_eq_true rfl)
  rw [lg_entry_eq]
  generalize (lg_sl ([.ref h, .int p0]) ++ List.replicate (2 - (lg_sl ([.ref h, .int p0])).length) Slot.unset).toArray = ls at hl ⊢
  have hl : lv_has ls 2 [(0, .ref h), (1, .int p0)] := hl
  have hf := ff_M_simple.eq_1 u0 p0
  unfold ok_M_simple at hok
  refine lv_iload_n hx hb dd_M_simple_0 rfl (lv_at hl 1 rfl) ?_
  by_cases c1 : p0 = 0
  · have hf := hf.trans (if_pos c1)
    have hok := hok.1 c1
    refine lv_tableIn (off := 99) (tgt := 100) hx hb dd_M_simple_1 (by rw [c1]; decide) (by rw [c1]; decide) (by rw [c1]; decide) (by decide) ?_
    refine lv_aload_n hx hb dd_M_simple_100 rfl (lv_at hl 0 rfl) ?_
    refine lv_ldc2 (v := 434852513542382) hx hb hown (hts _ gw_419) dd_M_simple_101 ?_
    have n45 := hok
    refine va_callv (va_runV (As := [.long 434852513542382]) (rest := []) ⟨hx, hb, hml, hown, hts⟩ (mm_M_word l dC dI h a k u0 (434852513542382 : Int64) n45) (cwV 1 hts (gg_V gw_405 gw_407 gs_26 gw_2 gw_408) rfl rfl rfl (by decide +kernel) ⟨Nat.le_of_ble_eq_true rfl, Nat.le_of_ble_eq_true rfl⟩) ⟨pM_bl, va_recv hK hP (ci := 0) (q0 := 0) rfl rfl, fun U hU hW => ⟨rfl, pM_up hP hK hD hU hW⟩⟩ rfl rfl hl.1 rfl (lv_room (Nat.le_of_ble_eq_true rfl)) dd_M_simple_104 ⟨Nat.zero_le _, Nat.zero_le _⟩) hS (fun q _ h => h) (fun q h => h) (fun v9 t9 H locs ht9 hvm9 hw9 hB9 hz9 hk9 hS => ?_)
    subst hw9
    obtain ⟨hP, -, hD⟩ := hB9
    rw [ht9] at hP
    refine lv_goto (tgt := 331) hx hb dd_M_simple_107 (by decide) ?_
    exact W.vret hx hb hr (fun t ht hW => ⟨⟨ff_M_word u0 (434852513542382 : Int64), rfl, hf.symm, pM_up hP hK hD ht hW⟩, hS.F ht⟩) hS.2.2 dd_M_simple_331
  · have hf := hf.trans (if_neg c1)
    have hok := hok.2 c1
    by_cases c2 : p0 = 1
    · have hf := hf.trans (if_pos c2)
      have hok := hok.1 c2
      refine lv_tableIn (off := 109) (tgt := 110) hx hb dd_M_simple_1 (by rw [c2]; decide) (by rw [c2]; decide) (by rw [c2]; decide) (by decide) ?_
      refine lv_aload_n hx hb dd_M_simple_110 rfl (lv_at hl 0 rfl) ?_
      refine lv_ldc2 (v := 207518309) hx hb hown (hts _ gw_420) dd_M_simple_111 ?_
      have n44 := hok
      refine va_callv (va_runV (As := [.long 207518309]) (rest := []) ⟨hx, hb, hml, hown, hts⟩ (mm_M_word l dC dI h a k u0 (207518309 : Int64) n44) (cwV 1 hts (gg_V gw_405 gw_407 gs_26 gw_2 gw_408) rfl rfl rfl (by decide +kernel) ⟨Nat.le_of_ble_eq_true rfl, Nat.le_of_ble_eq_true rfl⟩) ⟨pM_bl, va_recv hK hP (ci := 0) (q0 := 0) rfl rfl, fun U hU hW => ⟨rfl, pM_up hP hK hD hU hW⟩⟩ rfl rfl hl.1 rfl (lv_room (Nat.le_of_ble_eq_true rfl)) dd_M_simple_114 ⟨Nat.zero_le _, Nat.zero_le _⟩) hS (fun q _ h => h) (fun q h => h) (fun v9 t9 H locs ht9 hvm9 hw9 hB9 hz9 hk9 hS => ?_)
      subst hw9
      obtain ⟨hP, -, hD⟩ := hB9
      rw [ht9] at hP
      refine lv_goto (tgt := 331) hx hb dd_M_simple_117 (by decide) ?_
      exact W.vret hx hb hr (fun t ht hW => ⟨⟨ff_M_word u0 (207518309 : Int64), rfl, hf.symm, pM_up hP hK hD ht hW⟩, hS.F ht⟩) hS.2.2 dd_M_simple_331
    · have hf := hf.trans (if_neg c2)
      have hok := hok.2 c2
      by_cases c3 : p0 = 2
      · have hf := hf.trans (if_pos c3)
        have hok := hok.1 c3
        refine lv_tableIn (off := 119) (tgt := 120) hx hb dd_M_simple_1 (by rw [c3]; decide) (by rw [c3]; decide) (by rw [c3]; decide) (by decide) ?_
        refine lv_aload_n hx hb dd_M_simple_120 rfl (lv_at hl 0 rfl) ?_
        refine lv_ldc2 (v := 209334514) hx hb hown (hts _ gw_421) dd_M_simple_121 ?_
        have n43 := hok
        refine va_callv (va_runV (As := [.long 209334514]) (rest := []) ⟨hx, hb, hml, hown, hts⟩ (mm_M_word l dC dI h a k u0 (209334514 : Int64) n43) (cwV 1 hts (gg_V gw_405 gw_407 gs_26 gw_2 gw_408) rfl rfl rfl (by decide +kernel) ⟨Nat.le_of_ble_eq_true rfl, Nat.le_of_ble_eq_true rfl⟩) ⟨pM_bl, va_recv hK hP (ci := 0) (q0 := 0) rfl rfl, fun U hU hW => ⟨rfl, pM_up hP hK hD hU hW⟩⟩ rfl rfl hl.1 rfl (lv_room (Nat.le_of_ble_eq_true rfl)) dd_M_simple_124 ⟨Nat.zero_le _, Nat.zero_le _⟩) hS (fun q _ h => h) (fun q h => h) (fun v9 t9 H locs ht9 hvm9 hw9 hB9 hz9 hk9 hS => ?_)
        subst hw9
        obtain ⟨hP, -, hD⟩ := hB9
        rw [ht9] at hP
        refine lv_goto (tgt := 331) hx hb dd_M_simple_127 (by decide) ?_
        exact W.vret hx hb hr (fun t ht hW => ⟨⟨ff_M_word u0 (209334514 : Int64), rfl, hf.symm, pM_up hP hK hD ht hW⟩, hS.F ht⟩) hS.2.2 dd_M_simple_331
      · have hf := hf.trans (if_neg c3)
        have hok := hok.2 c3
        by_cases c4 : p0 = 3
        · have hf := hf.trans (if_pos c4)
          have hok := hok.1 c4
          refine lv_tableIn (off := 129) (tgt := 130) hx hb dd_M_simple_1 (by rw [c4]; decide) (by rw [c4]; decide) (by rw [c4]; decide) (by decide) ?_
          refine lv_aload_n hx hb dd_M_simple_130 rfl (lv_at hl 0 rfl) ?_
          refine lv_ldc2 (v := 31090014580) hx hb hown (hts _ gw_422) dd_M_simple_131 ?_
          have n42 := hok
          refine va_callv (va_runV (As := [.long 31090014580]) (rest := []) ⟨hx, hb, hml, hown, hts⟩ (mm_M_word l dC dI h a k u0 (31090014580 : Int64) n42) (cwV 1 hts (gg_V gw_405 gw_407 gs_26 gw_2 gw_408) rfl rfl rfl (by decide +kernel) ⟨Nat.le_of_ble_eq_true rfl, Nat.le_of_ble_eq_true rfl⟩) ⟨pM_bl, va_recv hK hP (ci := 0) (q0 := 0) rfl rfl, fun U hU hW => ⟨rfl, pM_up hP hK hD hU hW⟩⟩ rfl rfl hl.1 rfl (lv_room (Nat.le_of_ble_eq_true rfl)) dd_M_simple_134 ⟨Nat.zero_le _, Nat.zero_le _⟩) hS (fun q _ h => h) (fun q h => h) (fun v9 t9 H locs ht9 hvm9 hw9 hB9 hz9 hk9 hS => ?_)
          subst hw9
          obtain ⟨hP, -, hD⟩ := hB9
          rw [ht9] at hP
          refine lv_goto (tgt := 331) hx hb dd_M_simple_137 (by decide) ?_
          exact W.vret hx hb hr (fun t ht hW => ⟨⟨ff_M_word u0 (31090014580 : Int64), rfl, hf.symm, pM_up hP hK hD ht hW⟩, hS.F ht⟩) hS.2.2 dd_M_simple_331
        · have hf := hf.trans (if_neg c4)
          have hok := hok.2 c4
          by_cases c5 : p0 = 4
          · have hf := hf.trans (if_pos c5)
            have hok := hok.1 c5
            refine lv_tableIn (off := 139) (tgt := 140) hx hb dd_M_simple_1 (by rw [c5]; decide) (by rw [c5]; decide) (by rw [c5]; decide) (by decide) ?_
            refine lv_aload_n hx hb dd_M_simple_140 rfl (lv_at hl 0 rfl) ?_
            refine lv_ldc2 (v := 1734516) hx hb hown (hts _ gw_423) dd_M_simple_141 ?_
            have n41 := hok
            refine va_callv (va_runV (As := [.long 1734516]) (rest := []) ⟨hx, hb, hml, hown, hts⟩ (mm_M_word l dC dI h a k u0 (1734516 : Int64) n41) (cwV 1 hts (gg_V gw_405 gw_407 gs_26 gw_2 gw_408) rfl rfl rfl (by decide +kernel) ⟨Nat.le_of_ble_eq_true rfl, Nat.le_of_ble_eq_true rfl⟩) ⟨pM_bl, va_recv hK hP (ci := 0) (q0 := 0) rfl rfl, fun U hU hW => ⟨rfl, pM_up hP hK hD hU hW⟩⟩ rfl rfl hl.1 rfl (lv_room (Nat.le_of_ble_eq_true rfl)) dd_M_simple_144 ⟨Nat.zero_le _, Nat.zero_le _⟩) hS (fun q _ h => h) (fun q h => h) (fun v9 t9 H locs ht9 hvm9 hw9 hB9 hz9 hk9 hS => ?_)
            subst hw9
            obtain ⟨hP, -, hD⟩ := hB9
            rw [ht9] at hP
            refine lv_goto (tgt := 331) hx hb dd_M_simple_147 (by decide) ?_
            exact W.vret hx hb hr (fun t ht hW => ⟨⟨ff_M_word u0 (1734516 : Int64), rfl, hf.symm, pM_up hP hK hD ht hW⟩, hS.F ht⟩) hS.2.2 dd_M_simple_331
          · have hf := hf.trans (if_neg c5)
            have hok := hok.2 c5
            by_cases c6 : p0 = 5
            · have hf := hf.trans (if_pos c6)
              have hok := hok.1 c6
              refine lv_tableIn (off := 149) (tgt := 150) hx hb dd_M_simple_1 (by rw [c6]; decide) (by rw [c6]; decide) (by rw [c6]; decide) (by decide) ?_
              refine lv_aload_n hx hb dd_M_simple_150 rfl (lv_at hl 0 rfl) ?_
              refine lv_ldc2 (v := 228325223) hx hb hown (hts _ gw_424) dd_M_simple_151 ?_
              have n40 := hok
              refine va_callv (va_runV (As := [.long 228325223]) (rest := []) ⟨hx, hb, hml, hown, hts⟩ (mm_M_word l dC dI h a k u0 (228325223 : Int64) n40) (cwV 1 hts (gg_V gw_405 gw_407 gs_26 gw_2 gw_408) rfl rfl rfl (by decide +kernel) ⟨Nat.le_of_ble_eq_true rfl, Nat.le_of_ble_eq_true rfl⟩) ⟨pM_bl, va_recv hK hP (ci := 0) (q0 := 0) rfl rfl, fun U hU hW => ⟨rfl, pM_up hP hK hD hU hW⟩⟩ rfl rfl hl.1 rfl (lv_room (Nat.le_of_ble_eq_true rfl)) dd_M_simple_154 ⟨Nat.zero_le _, Nat.zero_le _⟩) hS (fun q _ h => h) (fun q h => h) (fun v9 t9 H locs ht9 hvm9 hw9 hB9 hz9 hk9 hS => ?_)
              subst hw9
              obtain ⟨hP, -, hD⟩ := hB9
              rw [ht9] at hP
              refine lv_goto (tgt := 331) hx hb dd_M_simple_157 (by decide) ?_
              exact W.vret hx hb hr (fun t ht hW => ⟨⟨ff_M_word u0 (228325223 : Int64), rfl, hf.symm, pM_up hP hK hD ht hW⟩, hS.F ht⟩) hS.2.2 dd_M_simple_331
            · have hf := hf.trans (if_neg c6)
              have hok := hok.2 c6
              by_cases c7 : p0 = 6
              · have hf := hf.trans (if_pos c7)
                have hok := hok.1 c7
                refine lv_tableIn (off := 159) (tgt := 160) hx hb dd_M_simple_1 (by rw [c7]; decide) (by rw [c7]; decide) (by rw [c7]; decide) (by decide) ?_
                refine lv_aload_n hx hb dd_M_simple_160 rfl (lv_at hl 0 rfl) ?_
                refine lv_ldc2 (v := 27608740084) hx hb hown (hts _ gw_425) dd_M_simple_161 ?_
                have n39 := hok
                refine va_callv (va_runV (As := [.long 27608740084]) (rest := []) ⟨hx, hb, hml, hown, hts⟩ (mm_M_word l dC dI h a k u0 (27608740084 : Int64) n39) (cwV 1 hts (gg_V gw_405 gw_407 gs_26 gw_2 gw_408) rfl rfl rfl (by decide +kernel) ⟨Nat.le_of_ble_eq_true rfl, Nat.le_of_ble_eq_true rfl⟩) ⟨pM_bl, va_recv hK hP (ci := 0) (q0 := 0) rfl rfl, fun U hU hW => ⟨rfl, pM_up hP hK hD hU hW⟩⟩ rfl rfl hl.1 rfl (lv_room (Nat.le_of_ble_eq_true rfl)) dd_M_simple_164 ⟨Nat.zero_le _, Nat.zero_le _⟩) hS (fun q _ h => h) (fun q h => h) (fun v9 t9 H locs ht9 hvm9 hw9 hB9 hz9 hk9 hS => ?_)
                subst hw9
                obtain ⟨hP, -, hD⟩ := hB9
                rw [ht9] at hP
                refine lv_goto (tgt := 331) hx hb dd_M_simple_167 (by decide) ?_
                exact W.vret hx hb hr (fun t ht hW => ⟨⟨ff_M_word u0 (27608740084 : Int64), rfl, hf.symm, pM_up hP hK hD ht hW⟩, hS.F ht⟩) hS.2.2 dd_M_simple_331
              · have hf := hf.trans (if_neg c7)
                have hok := hok.2 c7
                by_cases c8 : p0 = 7
                · have hf := hf.trans (if_pos c8)
                  have hok := hok.1 c8
                  refine lv_tableIn (off := 169) (tgt := 170) hx hb dd_M_simple_1 (by rw [c8]; decide) (by rw [c8]; decide) (by rw [c8]; decide) (by decide) ?_
                  refine lv_aload_n hx hb dd_M_simple_170 rfl (lv_at hl 0 rfl) ?_
                  refine lv_ldc2 (v := 3466017158757) hx hb hown (hts _ gw_426) dd_M_simple_171 ?_
                  have n38 := hok
                  refine va_callv (va_runV (As := [.long 3466017158757]) (rest := []) ⟨hx, hb, hml, hown, hts⟩ (mm_M_word l dC dI h a k u0 (3466017158757 : Int64) n38) (cwV 1 hts (gg_V gw_405 gw_407 gs_26 gw_2 gw_408) rfl rfl rfl (by decide +kernel) ⟨Nat.le_of_ble_eq_true rfl, Nat.le_of_ble_eq_true rfl⟩) ⟨pM_bl, va_recv hK hP (ci := 0) (q0 := 0) rfl rfl, fun U hU hW => ⟨rfl, pM_up hP hK hD hU hW⟩⟩ rfl rfl hl.1 rfl (lv_room (Nat.le_of_ble_eq_true rfl)) dd_M_simple_174 ⟨Nat.zero_le _, Nat.zero_le _⟩) hS (fun q _ h => h) (fun q h => h) (fun v9 t9 H locs ht9 hvm9 hw9 hB9 hz9 hk9 hS => ?_)
                  subst hw9
                  obtain ⟨hP, -, hD⟩ := hB9
                  rw [ht9] at hP
                  refine lv_goto (tgt := 331) hx hb dd_M_simple_177 (by decide) ?_
                  exact W.vret hx hb hr (fun t ht hW => ⟨⟨ff_M_word u0 (3466017158757 : Int64), rfl, hf.symm, pM_up hP hK hD ht hW⟩, hS.F ht⟩) hS.2.2 dd_M_simple_331
                · have hf := hf.trans (if_neg c8)
                  have hok := hok.2 c8
                  by_cases c9 : p0 = 8
                  · have hf := hf.trans (if_pos c9)
                    have hok := hok.1 c9
                    refine lv_tableIn (off := 179) (tgt := 180) hx hb dd_M_simple_1 (by rw [c9]; decide) (by rw [c9]; decide) (by rw [c9]; decide) (by decide) ?_
                    refine lv_aload_n hx hb dd_M_simple_180 rfl (lv_at hl 0 rfl) ?_
                    refine lv_ldc2 (v := 249296100) hx hb hown (hts _ gw_427) dd_M_simple_181 ?_
                    have n37 := hok
                    refine va_callv (va_runV (As := [.long 249296100]) (rest := []) ⟨hx, hb, hml, hown, hts⟩ (mm_M_word l dC dI h a k u0 (249296100 : Int64) n37) (cwV 1 hts (gg_V gw_405 gw_407 gs_26 gw_2 gw_408) rfl rfl rfl (by decide +kernel) ⟨Nat.le_of_ble_eq_true rfl, Nat.le_of_ble_eq_true rfl⟩) ⟨pM_bl, va_recv hK hP (ci := 0) (q0 := 0) rfl rfl, fun U hU hW => ⟨rfl, pM_up hP hK hD hU hW⟩⟩ rfl rfl hl.1 rfl (lv_room (Nat.le_of_ble_eq_true rfl)) dd_M_simple_184 ⟨Nat.zero_le _, Nat.zero_le _⟩) hS (fun q _ h => h) (fun q h => h) (fun v9 t9 H locs ht9 hvm9 hw9 hB9 hz9 hk9 hS => ?_)
                    subst hw9
                    obtain ⟨hP, -, hD⟩ := hB9
                    rw [ht9] at hP
                    refine lv_goto (tgt := 331) hx hb dd_M_simple_187 (by decide) ?_
                    exact W.vret hx hb hr (fun t ht hW => ⟨⟨ff_M_word u0 (249296100 : Int64), rfl, hf.symm, pM_up hP hK hD ht hW⟩, hS.F ht⟩) hS.2.2 dd_M_simple_331
                  · have hf := hf.trans (if_neg c9)
                    have hok := hok.2 c9
                    by_cases c10 : p0 = 9
                    · have hf := hf.trans (if_pos c10)
                      have hok := hok.1 c10
                      refine lv_tableIn (off := 189) (tgt := 190) hx hb dd_M_simple_1 (by rw [c10]; decide) (by rw [c10]; decide) (by rw [c10]; decide) (by decide) ?_
                      refine lv_aload_n hx hb dd_M_simple_190 rfl (lv_at hl 0 rfl) ?_
                      refine lv_ldc2 (v := 2740949971444) hx hb hown (hts _ gw_428) dd_M_simple_191 ?_
                      have n36 := hok
                      refine va_callv (va_runV (As := [.long 2740949971444]) (rest := []) ⟨hx, hb, hml, hown, hts⟩ (mm_M_word l dC dI h a k u0 (2740949971444 : Int64) n36) (cwV 1 hts (gg_V gw_405 gw_407 gs_26 gw_2 gw_408) rfl rfl rfl (by decide +kernel) ⟨Nat.le_of_ble_eq_true rfl, Nat.le_of_ble_eq_true rfl⟩) ⟨pM_bl, va_recv hK hP (ci := 0) (q0 := 0) rfl rfl, fun U hU hW => ⟨rfl, pM_up hP hK hD hU hW⟩⟩ rfl rfl hl.1 rfl (lv_room (Nat.le_of_ble_eq_true rfl)) dd_M_simple_194 ⟨Nat.zero_le _, Nat.zero_le _⟩) hS (fun q _ h => h) (fun q h => h) (fun v9 t9 H locs ht9 hvm9 hw9 hB9 hz9 hk9 hS => ?_)
                      subst hw9
                      obtain ⟨hP, -, hD⟩ := hB9
                      rw [ht9] at hP
                      refine lv_goto (tgt := 331) hx hb dd_M_simple_197 (by decide) ?_
                      exact W.vret hx hb hr (fun t ht hW => ⟨⟨ff_M_word u0 (2740949971444 : Int64), rfl, hf.symm, pM_up hP hK hD ht hW⟩, hS.F ht⟩) hS.2.2 dd_M_simple_331
                    · have hf := hf.trans (if_neg c10)
                      have hok := hok.2 c10
                      by_cases c11 : p0 = 10
                      · have hf := hf.trans (if_pos c11)
                        have hok := hok.1 c11
                        refine lv_tableIn (off := 199) (tgt := 200) hx hb dd_M_simple_1 (by rw [c11]; decide) (by rw [c11]; decide) (by rw [c11]; decide) (by decide) ?_
                        refine lv_aload_n hx hb dd_M_simple_200 rfl (lv_at hl 0 rfl) ?_
                        refine lv_ldc2 (v := 38196479574700396) hx hb hown (hts _ gw_429) dd_M_simple_201 ?_
                        obtain ⟨n34, hok⟩ := hok
                        refine va_callv (va_runV (As := [.long 38196479574700396]) (rest := []) ⟨hx, hb, hml, hown, hts⟩ (mm_M_word l dC dI h a k u0 (38196479574700396 : Int64) n34) (cwV 1 hts (gg_V gw_405 gw_407 gs_26 gw_2 gw_408) rfl rfl rfl (by decide +kernel) ⟨Nat.le_of_ble_eq_true rfl, Nat.le_of_ble_eq_true rfl⟩) ⟨pM_bl, va_recv hK hP (ci := 0) (q0 := 0) rfl rfl, fun U hU hW => ⟨rfl, pM_up hP hK hD hU hW⟩⟩ rfl rfl hl.1 rfl (lv_room (Nat.le_of_ble_eq_true rfl)) dd_M_simple_204 ⟨Nat.zero_le _, Nat.zero_le _⟩) hS (fun q _ h => h) (fun q h => h) (fun v9 t9 H locs ht9 hvm9 hw9 hB9 hz9 hk9 hS => ?_)
                        subst hw9
                        obtain ⟨hP, -, hD⟩ := hB9
                        rw [ht9] at hP
                        refine lv_aload_n hx hb dd_M_simple_207 rfl (lv_at hl 0 rfl) ?_
                        refine lv_ldc2 (v := 101) hx hb hown (hts _ gw_430) dd_M_simple_208 ?_
                        have n35 := hok
                        refine va_callv (va_runV (As := [.long 101]) (rest := []) ⟨hx, hb, hml, hown, hts⟩ (mm_M_word l dC dI h a k (ff_M_word u0 (38196479574700396 : Int64)) (101 : Int64) n35) (cwV 1 hts (gg_V gw_405 gw_407 gs_26 gw_2 gw_408) rfl rfl rfl (by decide +kernel) ⟨Nat.le_of_ble_eq_true rfl, Nat.le_of_ble_eq_true rfl⟩) ⟨pM_bl, va_recv hK hP (ci := 0) (q0 := 0) rfl rfl, fun U hU hW => ⟨rfl, pM_up hP hK hD hU hW⟩⟩ rfl rfl hl.1 rfl (lv_room (Nat.le_of_ble_eq_true rfl)) dd_M_simple_211 ⟨Nat.zero_le _, Nat.zero_le _⟩) hS (fun q _ h => h) (fun q h => h) (fun v9 t9 H locs ht9 hvm9 hw9 hB9 hz9 hk9 hS => ?_)
                        subst hw9
                        obtain ⟨hP, -, hD⟩ := hB9
                        rw [ht9] at hP
                        refine lv_goto (tgt := 331) hx hb dd_M_simple_214 (by decide) ?_
                        exact W.vret hx hb hr (fun t ht hW => ⟨⟨ff_M_word (ff_M_word u0 (38196479574700396 : Int64)) (101 : Int64), rfl, hf.symm, pM_up hP hK hD ht hW⟩, hS.F ht⟩) hS.2.2 dd_M_simple_331
                      · have hf := hf.trans (if_neg c11)
                        have hok := hok.2 c11
                        by_cases c12 : p0 = 11
                        · have hf := hf.trans (if_pos c12)
                          have hok := hok.1 c12
                          refine lv_tableIn (off := 216) (tgt := 217) hx hb dd_M_simple_1 (by rw [c12]; decide) (by rw [c12]; decide) (by rw [c12]; decide) (by decide) ?_
                          refine lv_aload_n hx hb dd_M_simple_217 rfl (lv_at hl 0 rfl) ?_
                          refine lv_ldc2 (v := 47172994232694010) hx hb hown (hts _ gw_431) dd_M_simple_218 ?_
                          obtain ⟨n32, hok⟩ := hok
                          refine va_callv (va_runV (As := [.long 47172994232694010]) (rest := []) ⟨hx, hb, hml, hown, hts⟩ (mm_M_word l dC dI h a k u0 (47172994232694010 : Int64) n32) (cwV 1 hts (gg_V gw_405 gw_407 gs_26 gw_2 gw_408) rfl rfl rfl (by decide +kernel) ⟨Nat.le_of_ble_eq_true rfl, Nat.le_of_ble_eq_true rfl⟩) ⟨pM_bl, va_recv hK hP (ci := 0) (q0 := 0) rfl rfl, fun U hU hW => ⟨rfl, pM_up hP hK hD hU hW⟩⟩ rfl rfl hl.1 rfl (lv_room (Nat.le_of_ble_eq_true rfl)) dd_M_simple_221 ⟨Nat.zero_le _, Nat.zero_le _⟩) hS (fun q _ h => h) (fun q h => h) (fun v9 t9 H locs ht9 hvm9 hw9 hB9 hz9 hk9 hS => ?_)
                          subst hw9
                          obtain ⟨hP, -, hD⟩ := hB9
                          rw [ht9] at hP
                          refine lv_aload_n hx hb dd_M_simple_224 rfl (lv_at hl 0 rfl) ?_
                          refine lv_ldc2 (v := 205043301) hx hb hown (hts _ gw_432) dd_M_simple_225 ?_
                          have n33 := hok
                          refine va_callv (va_runV (As := [.long 205043301]) (rest := []) ⟨hx, hb, hml, hown, hts⟩ (mm_M_word l dC dI h a k (ff_M_word u0 (47172994232694010 : Int64)) (205043301 : Int64) n33) (cwV 1 hts (gg_V gw_405 gw_407 gs_26 gw_2 gw_408) rfl rfl rfl (by decide +kernel) ⟨Nat.le_of_ble_eq_true rfl, Nat.le_of_ble_eq_true rfl⟩) ⟨pM_bl, va_recv hK hP (ci := 0) (q0 := 0) rfl rfl, fun U hU hW => ⟨rfl, pM_up hP hK hD hU hW⟩⟩ rfl rfl hl.1 rfl (lv_room (Nat.le_of_ble_eq_true rfl)) dd_M_simple_228 ⟨Nat.zero_le _, Nat.zero_le _⟩) hS (fun q _ h => h) (fun q h => h) (fun v9 t9 H locs ht9 hvm9 hw9 hB9 hz9 hk9 hS => ?_)
                          subst hw9
                          obtain ⟨hP, -, hD⟩ := hB9
                          rw [ht9] at hP
                          refine lv_goto (tgt := 331) hx hb dd_M_simple_231 (by decide) ?_
                          exact W.vret hx hb hr (fun t ht hW => ⟨⟨ff_M_word (ff_M_word u0 (47172994232694010 : Int64)) (205043301 : Int64), rfl, hf.symm, pM_up hP hK hD ht hW⟩, hS.F ht⟩) hS.2.2 dd_M_simple_331
                        · have hf := hf.trans (if_neg c12)
                          have hok := hok.2 c12
                          by_cases c13 : p0 = 12
                          · have hf := hf.trans (if_pos c13)
                            have hok := hok.1 c13
                            refine lv_tableIn (off := 233) (tgt := 234) hx hb dd_M_simple_1 (by rw [c13]; decide) (by rw [c13]; decide) (by rw [c13]; decide) (by decide) ?_
                            refine lv_aload_n hx hb dd_M_simple_234 rfl (lv_at hl 0 rfl) ?_
                            refine lv_ldc2 (v := 2883237607271) hx hb hown (hts _ gw_433) dd_M_simple_235 ?_
                            have n31 := hok
                            refine va_callv (va_runV (As := [.long 2883237607271]) (rest := []) ⟨hx, hb, hml, hown, hts⟩ (mm_M_word l dC dI h a k u0 (2883237607271 : Int64) n31) (cwV 1 hts (gg_V gw_405 gw_407 gs_26 gw_2 gw_408) rfl rfl rfl (by decide +kernel) ⟨Nat.le_of_ble_eq_true rfl, Nat.le_of_ble_eq_true rfl⟩) ⟨pM_bl, va_recv hK hP (ci := 0) (q0 := 0) rfl rfl, fun U hU hW => ⟨rfl, pM_up hP hK hD hU hW⟩⟩ rfl rfl hl.1 rfl (lv_room (Nat.le_of_ble_eq_true rfl)) dd_M_simple_238 ⟨Nat.zero_le _, Nat.zero_le _⟩) hS (fun q _ h => h) (fun q h => h) (fun v9 t9 H locs ht9 hvm9 hw9 hB9 hz9 hk9 hS => ?_)
                            subst hw9
                            obtain ⟨hP, -, hD⟩ := hB9
                            rw [ht9] at hP
                            refine lv_goto (tgt := 331) hx hb dd_M_simple_241 (by decide) ?_
                            exact W.vret hx hb hr (fun t ht hW => ⟨⟨ff_M_word u0 (2883237607271 : Int64), rfl, hf.symm, pM_up hP hK hD ht hW⟩, hS.F ht⟩) hS.2.2 dd_M_simple_331
                          · have hf := hf.trans (if_neg c13)
                            have hok := hok.2 c13
                            by_cases c14 : p0 = 13
                            · have hf := hf.trans (if_pos c14)
                              have hok := hok.1 c14
                              refine lv_tableIn (off := 243) (tgt := 244) hx hb dd_M_simple_1 (by rw [c14]; decide) (by rw [c14]; decide) (by rw [c14]; decide) (by decide) ?_
                              refine lv_aload_n hx hb dd_M_simple_244 rfl (lv_at hl 0 rfl) ?_
                              refine lv_ldc2 (v := 22499850341) hx hb hown (hts _ gw_434) dd_M_simple_245 ?_
                              have n30 := hok
                              refine va_callv (va_runV (As := [.long 22499850341]) (rest := []) ⟨hx, hb, hml, hown, hts⟩ (mm_M_word l dC dI h a k u0 (22499850341 : Int64) n30) (cwV 1 hts (gg_V gw_405 gw_407 gs_26 gw_2 gw_408) rfl rfl rfl (by decide +kernel) ⟨Nat.le_of_ble_eq_true rfl, Nat.le_of_ble_eq_true rfl⟩) ⟨pM_bl, va_recv hK hP (ci := 0) (q0 := 0) rfl rfl, fun U hU hW => ⟨rfl, pM_up hP hK hD hU hW⟩⟩ rfl rfl hl.1 rfl (lv_room (Nat.le_of_ble_eq_true rfl)) dd_M_simple_248 ⟨Nat.zero_le _, Nat.zero_le _⟩) hS (fun q _ h => h) (fun q h => h) (fun v9 t9 H locs ht9 hvm9 hw9 hB9 hz9 hk9 hS => ?_)
                              subst hw9
                              obtain ⟨hP, -, hD⟩ := hB9
                              rw [ht9] at hP
                              refine lv_goto (tgt := 331) hx hb dd_M_simple_251 (by decide) ?_
                              exact W.vret hx hb hr (fun t ht hW => ⟨⟨ff_M_word u0 (22499850341 : Int64), rfl, hf.symm, pM_up hP hK hD ht hW⟩, hS.F ht⟩) hS.2.2 dd_M_simple_331
                            · have hf := hf.trans (if_neg c14)
                              have hok := hok.2 c14
                              by_cases c15 : p0 = 14
                              · have hf := hf.trans (if_pos c15)
                                have hok := hok.1 c15
                                refine lv_tableIn (off := 253) (tgt := 254) hx hb dd_M_simple_1 (by rw [c15]; decide) (by rw [c15]; decide) (by rw [c15]; decide) (by decide) ?_
                                refine lv_aload_n hx hb dd_M_simple_254 rfl (lv_at hl 0 rfl) ?_
                                refine lv_ldc2 (v := 21143188196) hx hb hown (hts _ gw_435) dd_M_simple_255 ?_
                                have n29 := hok
                                refine va_callv (va_runV (As := [.long 21143188196]) (rest := []) ⟨hx, hb, hml, hown, hts⟩ (mm_M_word l dC dI h a k u0 (21143188196 : Int64) n29) (cwV 1 hts (gg_V gw_405 gw_407 gs_26 gw_2 gw_408) rfl rfl rfl (by decide +kernel) ⟨Nat.le_of_ble_eq_true rfl, Nat.le_of_ble_eq_true rfl⟩) ⟨pM_bl, va_recv hK hP (ci := 0) (q0 := 0) rfl rfl, fun U hU hW => ⟨rfl, pM_up hP hK hD hU hW⟩⟩ rfl rfl hl.1 rfl (lv_room (Nat.le_of_ble_eq_true rfl)) dd_M_simple_258 ⟨Nat.zero_le _, Nat.zero_le _⟩) hS (fun q _ h => h) (fun q h => h) (fun v9 t9 H locs ht9 hvm9 hw9 hB9 hz9 hk9 hS => ?_)
                                subst hw9
                                obtain ⟨hP, -, hD⟩ := hB9
                                rw [ht9] at hP
                                refine lv_goto (tgt := 331) hx hb dd_M_simple_261 (by decide) ?_
                                exact W.vret hx hb hr (fun t ht hW => ⟨⟨ff_M_word u0 (21143188196 : Int64), rfl, hf.symm, pM_up hP hK hD ht hW⟩, hS.F ht⟩) hS.2.2 dd_M_simple_331
                              · have hf := hf.trans (if_neg c15)
                                have hok := hok.2 c15
                                by_cases c16 : p0 = 15
                                · have hf := hf.trans (if_pos c16)
                                  have hok := hok.1 c16
                                  refine lv_tableIn (off := 263) (tgt := 264) hx hb dd_M_simple_1 (by rw [c16]; decide) (by rw [c16]; decide) (by rw [c16]; decide) (by decide) ?_
                                  refine lv_aload_n hx hb dd_M_simple_264 rfl (lv_at hl 0 rfl) ?_
                                  refine lv_ldc2 (v := 140016101) hx hb hown (hts _ gw_436) dd_M_simple_265 ?_
                                  have n28 := hok
                                  refine va_callv (va_runV (As := [.long 140016101]) (rest := []) ⟨hx, hb, hml, hown, hts⟩ (mm_M_word l dC dI h a k u0 (140016101 : Int64) n28) (cwV 1 hts (gg_V gw_405 gw_407 gs_26 gw_2 gw_408) rfl rfl rfl (by decide +kernel) ⟨Nat.le_of_ble_eq_true rfl, Nat.le_of_ble_eq_true rfl⟩) ⟨pM_bl, va_recv hK hP (ci := 0) (q0 := 0) rfl rfl, fun U hU hW => ⟨rfl, pM_up hP hK hD hU hW⟩⟩ rfl rfl hl.1 rfl (lv_room (Nat.le_of_ble_eq_true rfl)) dd_M_simple_268 ⟨Nat.zero_le _, Nat.zero_le _⟩) hS (fun q _ h => h) (fun q h => h) (fun v9 t9 H locs ht9 hvm9 hw9 hB9 hz9 hk9 hS => ?_)
                                  subst hw9
                                  obtain ⟨hP, -, hD⟩ := hB9
                                  rw [ht9] at hP
                                  refine lv_goto (tgt := 331) hx hb dd_M_simple_271 (by decide) ?_
                                  exact W.vret hx hb hr (fun t ht hW => ⟨⟨ff_M_word u0 (140016101 : Int64), rfl, hf.symm, pM_up hP hK hD ht hW⟩, hS.F ht⟩) hS.2.2 dd_M_simple_331
                                · have hf := hf.trans (if_neg c16)
                                  have hok := hok.2 c16
                                  by_cases c17 : p0 = 16
                                  · have hf := hf.trans (if_pos c17)
                                    have hok := hok.1 c17
                                    refine lv_tableIn (off := 273) (tgt := 274) hx hb dd_M_simple_1 (by rw [c17]; decide) (by rw [c17]; decide) (by rw [c17]; decide) (by decide) ?_
                                    refine lv_aload_n hx hb dd_M_simple_274 rfl (lv_at hl 0 rfl) ?_
                                    refine lv_ldc2 (v := 2330528904805) hx hb hown (hts _ gw_437) dd_M_simple_275 ?_
                                    have n27 := hok
                                    refine va_callv (va_runV (As := [.long 2330528904805]) (rest := []) ⟨hx, hb, hml, hown, hts⟩ (mm_M_word l dC dI h a k u0 (2330528904805 : Int64) n27) (cwV 1 hts (gg_V gw_405 gw_407 gs_26 gw_2 gw_408) rfl rfl rfl (by decide +kernel) ⟨Nat.le_of_ble_eq_true rfl, Nat.le_of_ble_eq_true rfl⟩) ⟨pM_bl, va_recv hK hP (ci := 0) (q0 := 0) rfl rfl, fun U hU hW => ⟨rfl, pM_up hP hK hD hU hW⟩⟩ rfl rfl hl.1 rfl (lv_room (Nat.le_of_ble_eq_true rfl)) dd_M_simple_278 ⟨Nat.zero_le _, Nat.zero_le _⟩) hS (fun q _ h => h) (fun q h => h) (fun v9 t9 H locs ht9 hvm9 hw9 hB9 hz9 hk9 hS => ?_)
                                    subst hw9
                                    obtain ⟨hP, -, hD⟩ := hB9
                                    rw [ht9] at hP
                                    refine lv_goto (tgt := 331) hx hb dd_M_simple_281 (by decide) ?_
                                    exact W.vret hx hb hr (fun t ht hW => ⟨⟨ff_M_word u0 (2330528904805 : Int64), rfl, hf.symm, pM_up hP hK hD ht hW⟩, hS.F ht⟩) hS.2.2 dd_M_simple_331
                                  · have hf := hf.trans (if_neg c17)
                                    have hok := hok.2 c17
                                    by_cases c18 : p0 = 17
                                    · have hf := hf.trans (if_pos c18)
                                      have hok := hok.1 c18
                                      refine lv_tableIn (off := 283) (tgt := 284) hx hb dd_M_simple_1 (by rw [c18]; decide) (by rw [c18]; decide) (by rw [c18]; decide) (by decide) ?_
                                      refine lv_aload_n hx hb dd_M_simple_284 rfl (lv_at hl 0 rfl) ?_
                                      refine lv_ldc2 (v := 2882438461797) hx hb hown (hts _ gw_438) dd_M_simple_285 ?_
                                      have n26 := hok
                                      refine va_callv (va_runV (As := [.long 2882438461797]) (rest := []) ⟨hx, hb, hml, hown, hts⟩ (mm_M_word l dC dI h a k u0 (2882438461797 : Int64) n26) (cwV 1 hts (gg_V gw_405 gw_407 gs_26 gw_2 gw_408) rfl rfl rfl (by decide +kernel) ⟨Nat.le_of_ble_eq_true rfl, Nat.le_of_ble_eq_true rfl⟩) ⟨pM_bl, va_recv hK hP (ci := 0) (q0 := 0) rfl rfl, fun U hU hW => ⟨rfl, pM_up hP hK hD hU hW⟩⟩ rfl rfl hl.1 rfl (lv_room (Nat.le_of_ble_eq_true rfl)) dd_M_simple_288 ⟨Nat.zero_le _, Nat.zero_le _⟩) hS (fun q _ h => h) (fun q h => h) (fun v9 t9 H locs ht9 hvm9 hw9 hB9 hz9 hk9 hS => ?_)
                                      subst hw9
                                      obtain ⟨hP, -, hD⟩ := hB9
                                      rw [ht9] at hP
                                      refine lv_goto (tgt := 331) hx hb dd_M_simple_291 (by decide) ?_
                                      exact W.vret hx hb hr (fun t ht hW => ⟨⟨ff_M_word u0 (2882438461797 : Int64), rfl, hf.symm, pM_up hP hK hD ht hW⟩, hS.F ht⟩) hS.2.2 dd_M_simple_331
                                    · have hf := hf.trans (if_neg c18)
                                      have hok := hok.2 c18
                                      by_cases c19 : p0 = 18
                                      · have hf := hf.trans (if_pos c19)
                                        have hok := hok.1 c19
                                        refine lv_tableIn (off := 293) (tgt := 294) hx hb dd_M_simple_1 (by rw [c19]; decide) (by rw [c19]; decide) (by rw [c19]; decide) (by decide) ?_
                                        refine lv_aload_n hx hb dd_M_simple_294 rfl (lv_at hl 0 rfl) ?_
                                        refine lv_ldc2 (v := 177895013) hx hb hown (hts _ gw_439) dd_M_simple_295 ?_
                                        have n25 := hok
                                        refine va_callv (va_runV (As := [.long 177895013]) (rest := []) ⟨hx, hb, hml, hown, hts⟩ (mm_M_word l dC dI h a k u0 (177895013 : Int64) n25) (cwV 1 hts (gg_V gw_405 gw_407 gs_26 gw_2 gw_408) rfl rfl rfl (by decide +kernel) ⟨Nat.le_of_ble_eq_true rfl, Nat.le_of_ble_eq_true rfl⟩) ⟨pM_bl, va_recv hK hP (ci := 0) (q0 := 0) rfl rfl, fun U hU hW => ⟨rfl, pM_up hP hK hD hU hW⟩⟩ rfl rfl hl.1 rfl (lv_room (Nat.le_of_ble_eq_true rfl)) dd_M_simple_298 ⟨Nat.zero_le _, Nat.zero_le _⟩) hS (fun q _ h => h) (fun q h => h) (fun v9 t9 H locs ht9 hvm9 hw9 hB9 hz9 hk9 hS => ?_)
                                        subst hw9
                                        obtain ⟨hP, -, hD⟩ := hB9
                                        rw [ht9] at hP
                                        refine lv_goto (tgt := 331) hx hb dd_M_simple_301 (by decide) ?_
                                        exact W.vret hx hb hr (fun t ht hW => ⟨⟨ff_M_word u0 (177895013 : Int64), rfl, hf.symm, pM_up hP hK hD ht hW⟩, hS.F ht⟩) hS.2.2 dd_M_simple_331
                                      · have hf := hf.trans (if_neg c19)
                                        have hok := hok.2 c19
                                        by_cases c20 : p0 = 19
                                        · have hf := hf.trans (if_pos c20)
                                          have hok := hok.1 c20
                                          refine lv_tableIn (off := 303) (tgt := 304) hx hb dd_M_simple_1 (by rw [c20]; decide) (by rw [c20]; decide) (by rw [c20]; decide) (by decide) ?_
                                          refine lv_aload_n hx hb dd_M_simple_304 rfl (lv_at hl 0 rfl) ?_
                                          refine lv_ldc2 (v := 18219743218) hx hb hown (hts _ gw_440) dd_M_simple_305 ?_
                                          have n24 := hok
                                          refine va_callv (va_runV (As := [.long 18219743218]) (rest := []) ⟨hx, hb, hml, hown, hts⟩ (mm_M_word l dC dI h a k u0 (18219743218 : Int64) n24) (cwV 1 hts (gg_V gw_405 gw_407 gs_26 gw_2 gw_408) rfl rfl rfl (by decide +kernel) ⟨Nat.le_of_ble_eq_true rfl, Nat.le_of_ble_eq_true rfl⟩) ⟨pM_bl, va_recv hK hP (ci := 0) (q0 := 0) rfl rfl, fun U hU hW => ⟨rfl, pM_up hP hK hD hU hW⟩⟩ rfl rfl hl.1 rfl (lv_room (Nat.le_of_ble_eq_true rfl)) dd_M_simple_308 ⟨Nat.zero_le _, Nat.zero_le _⟩) hS (fun q _ h => h) (fun q h => h) (fun v9 t9 H locs ht9 hvm9 hw9 hB9 hz9 hk9 hS => ?_)
                                          subst hw9
                                          obtain ⟨hP, -, hD⟩ := hB9
                                          rw [ht9] at hP
                                          refine lv_goto (tgt := 331) hx hb dd_M_simple_311 (by decide) ?_
                                          exact W.vret hx hb hr (fun t ht hW => ⟨⟨ff_M_word u0 (18219743218 : Int64), rfl, hf.symm, pM_up hP hK hD ht hW⟩, hS.F ht⟩) hS.2.2 dd_M_simple_331
                                        · have hf := hf.trans (if_neg c20)
                                          have hok := hok.2 c20
                                          by_cases c21 : p0 = 20
                                          · have hf := hf.trans (if_pos c21)
                                            have hok := hok.1 c21
                                            refine lv_tableIn (off := 313) (tgt := 314) hx hb dd_M_simple_1 (by rw [c21]; decide) (by rw [c21]; decide) (by rw [c21]; decide) (by decide) ?_
                                            refine lv_aload_n hx hb dd_M_simple_314 rfl (lv_at hl 0 rfl) ?_
                                            refine lv_ldc2 (v := 21709354868) hx hb hown (hts _ gw_441) dd_M_simple_315 ?_
                                            have n23 := hok
                                            refine va_callv (va_runV (As := [.long 21709354868]) (rest := []) ⟨hx, hb, hml, hown, hts⟩ (mm_M_word l dC dI h a k u0 (21709354868 : Int64) n23) (cwV 1 hts (gg_V gw_405 gw_407 gs_26 gw_2 gw_408) rfl rfl rfl (by decide +kernel) ⟨Nat.le_of_ble_eq_true rfl, Nat.le_of_ble_eq_true rfl⟩) ⟨pM_bl, va_recv hK hP (ci := 0) (q0 := 0) rfl rfl, fun U hU hW => ⟨rfl, pM_up hP hK hD hU hW⟩⟩ rfl rfl hl.1 rfl (lv_room (Nat.le_of_ble_eq_true rfl)) dd_M_simple_318 ⟨Nat.zero_le _, Nat.zero_le _⟩) hS (fun q _ h => h) (fun q h => h) (fun v9 t9 H locs ht9 hvm9 hw9 hB9 hz9 hk9 hS => ?_)
                                            subst hw9
                                            obtain ⟨hP, -, hD⟩ := hB9
                                            rw [ht9] at hP
                                            refine lv_goto (tgt := 331) hx hb dd_M_simple_321 (by decide) ?_
                                            exact W.vret hx hb hr (fun t ht hW => ⟨⟨ff_M_word u0 (21709354868 : Int64), rfl, hf.symm, pM_up hP hK hD ht hW⟩, hS.F ht⟩) hS.2.2 dd_M_simple_331
                                          · have hf := hf.trans (if_neg c21)
                                            have hok := hok.2 c21
                                            refine lv_tableOut (tgt := 324) hx hb dd_M_simple_1 ?_ (by decide) ?_
                                            · rcases sw_tab p0 0 20 21 (by decide) with hsw | ⟨j9, hj9, ej9⟩
                                              · exact hsw
                                              · exfalso
                                                rcases (show j9 = 0 ∨ j9 = 1 ∨ j9 = 2 ∨ j9 = 3 ∨ j9 = 4 ∨ j9 = 5 ∨ j9 = 6 ∨ j9 = 7 ∨ j9 = 8 ∨ j9 = 9 ∨ j9 = 10 ∨ j9 = 11 ∨ j9 = 12 ∨ j9 = 13 ∨ j9 = 14 ∨ j9 = 15 ∨ j9 = 16 ∨ j9 = 17 ∨ j9 = 18 ∨ j9 = 19 ∨ j9 = 20 by omega) with rfl | rfl | rfl | rfl | rfl | rfl | rfl | rfl | rfl | rfl | rfl | rfl | rfl | rfl | rfl | rfl | rfl | rfl | rfl | rfl | rfl
                                                · exact c1 (ej9.trans (by decide))
                                                · exact c2 (ej9.trans (by decide))
                                                · exact c3 (ej9.trans (by decide))
                                                · exact c4 (ej9.trans (by decide))
                                                · exact c5 (ej9.trans (by decide))
                                                · exact c6 (ej9.trans (by decide))
                                                · exact c7 (ej9.trans (by decide))
                                                · exact c8 (ej9.trans (by decide))
                                                · exact c9 (ej9.trans (by decide))
                                                · exact c10 (ej9.trans (by decide))
                                                · exact c11 (ej9.trans (by decide))
                                                · exact c12 (ej9.trans (by decide))
                                                · exact c13 (ej9.trans (by decide))
                                                · exact c14 (ej9.trans (by decide))
                                                · exact c15 (ej9.trans (by decide))
                                                · exact c16 (ej9.trans (by decide))
                                                · exact c17 (ej9.trans (by decide))
                                                · exact c18 (ej9.trans (by decide))
                                                · exact c19 (ej9.trans (by decide))
                                                · exact c20 (ej9.trans (by decide))
                                                · exact c21 (ej9.trans (by decide))
                                            · skip
                                              refine lv_aload_n hx hb dd_M_simple_324 rfl (lv_at hl 0 rfl) ?_
                                              refine lv_ldc2 (v := 2503925641970) hx hb hown (hts _ gw_442) dd_M_simple_325 ?_
                                              have n22 := hok
                                              refine va_callv (va_runV (As := [.long 2503925641970]) (rest := []) ⟨hx, hb, hml, hown, hts⟩ (mm_M_word l dC dI h a k u0 (2503925641970 : Int64) n22) (cwV 1 hts (gg_V gw_405 gw_407 gs_26 gw_2 gw_408) rfl rfl rfl (by decide +kernel) ⟨Nat.le_of_ble_eq_true rfl, Nat.le_of_ble_eq_true rfl⟩) ⟨pM_bl, va_recv hK hP (ci := 0) (q0 := 0) rfl rfl, fun U hU hW => ⟨rfl, pM_up hP hK hD hU hW⟩⟩ rfl rfl hl.1 rfl (lv_room (Nat.le_of_ble_eq_true rfl)) dd_M_simple_328 ⟨Nat.zero_le _, Nat.zero_le _⟩) hS (fun q _ h => h) (fun q h => h) (fun v9 t9 H locs ht9 hvm9 hw9 hB9 hz9 hk9 hS => ?_)
                                              subst hw9
                                              obtain ⟨hP, -, hD⟩ := hB9
                                              rw [ht9] at hP
                                              exact W.vret hx hb hr (fun t ht hW => ⟨⟨ff_M_word u0 (2503925641970 : Int64), rfl, hf.symm, pM_up hP hK hD ht hW⟩, hS.F ht⟩) hS.2.2 dd_M_simple_331

def ff_M_name (u0 : SM) (p0 : Int32) : SM := (if p0 < 9 then (if p0 < 13 then ff_M_simple u0 p0 else ff_M_simple (ff_M_word (ff_M_word (ff_M_word u0 (38195999909605738 : Int64)) (57297358521416047 : Int64)) (14628 : Int64)) p0) else (if 12 < p0 then (if p0 < 13 then ff_M_simple u0 p0 else ff_M_simple (ff_M_word (ff_M_word (ff_M_word u0 (38195999909605738 : Int64)) (57297358521416047 : Int64)) (14628 : Int64)) p0) else (if p0 = 11 then (if p0 < 13 then ff_M_simple (ff_M_letter (ff_M_word (ff_M_word u0 (28659527854 : Int64)) (13551 : Int64)) (46 : Int32)) p0 else ff_M_simple (ff_M_word (ff_M_word (ff_M_word (ff_M_letter (ff_M_word (ff_M_word u0 (28659527854 : Int64)) (13551 : Int64)) (46 : Int32)) (38195999909605738 : Int64)) (57297358521416047 : Int64)) (14628 : Int64)) p0) else (if p0 < 13 then ff_M_simple (ff_M_letter (ff_M_word (ff_M_word u0 (28659527854 : Int64)) (228095847 : Int64)) (46 : Int32)) p0 else ff_M_simple (ff_M_word (ff_M_word (ff_M_word (ff_M_letter (ff_M_word (ff_M_word u0 (28659527854 : Int64)) (228095847 : Int64)) (46 : Int32)) (38195999909605738 : Int64)) (57297358521416047 : Int64)) (14628 : Int64)) p0))))
def ok_M_name (u0 : SM) (p0 : Int32) : Prop := (((p0 < 9) → (((p0 < 13) → ok_M_simple u0 p0) ∧ (¬ (p0 < 13) → (ok_M_word u0 (38195999909605738 : Int64)) ∧ (ok_M_word (ff_M_word u0 (38195999909605738 : Int64)) (57297358521416047 : Int64)) ∧ (ok_M_word (ff_M_word (ff_M_word u0 (38195999909605738 : Int64)) (57297358521416047 : Int64)) (14628 : Int64)) ∧ ok_M_simple (ff_M_word (ff_M_word (ff_M_word u0 (38195999909605738 : Int64)) (57297358521416047 : Int64)) (14628 : Int64)) p0))) ∧ (¬ (p0 < 9) → (((12 < p0) → (((p0 < 13) → ok_M_simple u0 p0) ∧ (¬ (p0 < 13) → (ok_M_word u0 (38195999909605738 : Int64)) ∧ (ok_M_word (ff_M_word u0 (38195999909605738 : Int64)) (57297358521416047 : Int64)) ∧ (ok_M_word (ff_M_word (ff_M_word u0 (38195999909605738 : Int64)) (57297358521416047 : Int64)) (14628 : Int64)) ∧ ok_M_simple (ff_M_word (ff_M_word (ff_M_word u0 (38195999909605738 : Int64)) (57297358521416047 : Int64)) (14628 : Int64)) p0))) ∧ (¬ (12 < p0) → (ok_M_word u0 (28659527854 : Int64)) ∧ (((p0 = 11) → (ok_M_word (ff_M_word u0 (28659527854 : Int64)) (13551 : Int64)) ∧ (ok_M_letter (ff_M_word (ff_M_word u0 (28659527854 : Int64)) (13551 : Int64)) (46 : Int32)) ∧ (((p0 < 13) → ok_M_simple (ff_M_letter (ff_M_word (ff_M_word u0 (28659527854 : Int64)) (13551 : Int64)) (46 : Int32)) p0) ∧ (¬ (p0 < 13) → (ok_M_word (ff_M_letter (ff_M_word (ff_M_word u0 (28659527854 : Int64)) (13551 : Int64)) (46 : Int32)) (38195999909605738 : Int64)) ∧ (ok_M_word (ff_M_word (ff_M_letter (ff_M_word (ff_M_word u0 (28659527854 : Int64)) (13551 : Int64)) (46 : Int32)) (38195999909605738 : Int64)) (57297358521416047 : Int64)) ∧ (ok_M_word (ff_M_word (ff_M_word (ff_M_letter (ff_M_word (ff_M_word u0 (28659527854 : Int64)) (13551 : Int64)) (46 : Int32)) (38195999909605738 : Int64)) (57297358521416047 : Int64)) (14628 : Int64)) ∧ ok_M_simple (ff_M_word (ff_M_word (ff_M_word (ff_M_letter (ff_M_word (ff_M_word u0 (28659527854 : Int64)) (13551 : Int64)) (46 : Int32)) (38195999909605738 : Int64)) (57297358521416047 : Int64)) (14628 : Int64)) p0))) ∧ (¬ (p0 = 11) → (ok_M_word (ff_M_word u0 (28659527854 : Int64)) (228095847 : Int64)) ∧ (ok_M_letter (ff_M_word (ff_M_word u0 (28659527854 : Int64)) (228095847 : Int64)) (46 : Int32)) ∧ (((p0 < 13) → ok_M_simple (ff_M_letter (ff_M_word (ff_M_word u0 (28659527854 : Int64)) (228095847 : Int64)) (46 : Int32)) p0) ∧ (¬ (p0 < 13) → (ok_M_word (ff_M_letter (ff_M_word (ff_M_word u0 (28659527854 : Int64)) (228095847 : Int64)) (46 : Int32)) (38195999909605738 : Int64)) ∧ (ok_M_word (ff_M_word (ff_M_letter (ff_M_word (ff_M_word u0 (28659527854 : Int64)) (228095847 : Int64)) (46 : Int32)) (38195999909605738 : Int64)) (57297358521416047 : Int64)) ∧ (ok_M_word (ff_M_word (ff_M_word (ff_M_letter (ff_M_word (ff_M_word u0 (28659527854 : Int64)) (228095847 : Int64)) (46 : Int32)) (38195999909605738 : Int64)) (57297358521416047 : Int64)) (14628 : Int64)) ∧ ok_M_simple (ff_M_word (ff_M_word (ff_M_word (ff_M_letter (ff_M_word (ff_M_word u0 (28659527854 : Int64)) (228095847 : Int64)) (46 : Int32)) (38195999909605738 : Int64)) (57297358521416047 : Int64)) (14628 : Int64)) p0))))))))
abbrev ws_M_name : List Cond := .code yy_M_name bb_M_name 2 (none) :: gW
abbrev rm_M_name : Room := { frames := 3, cells := 0, slots := 0, locals := 66 }
set_option maxHeartbeats 4000000 in
set_option maxRecDepth 100000 in
theorem mm_M_name (l : Launch) (dC : Nat → ClassId) (dI : Nat → Nat → Nat) (h : Nat) (a : Nat → Nat) (k : Nat → ClassId) (u0 : SM) (p0 : Int32) (hok : ok_M_name u0 p0) : Met l yy_M_name ws_M_name rm_M_name (va_Pc [.ref h, .int p0] (pM dC dI h a k u0)) (va_Qv (fun v : SM => v = ff_M_name u0 p0) (pM dC dI h a k) (aM h a)) 0 0 (aM h a) := by
  refine Met.ofW (cc := bb_M_name) (maxL := 2) (ret := (none)) (by decide) rfl ?_
  intro p e s m args below meth c s₁ B hml hv
  obtain ⟨rfl, hP, hK, hD⟩ := hv
  have hx := B.exec
  have hb := B.bytes
  have hr := B.returns
  have hts : ∀ w ∈ gW, w.before _ s = true := fun w h => atoms_spec (ws := ws_M_name) B.pre w (List.mem_cons_of_mem _ h)
  have hown : s.vm.findClass "ClassObjectMirrorModel" = some m.cls := findClass_of_methodNamed B.named
  have hlocks := B.notSynchronized
  have hS : va_S (aM h a) s.heap s.heap [] := va_S.rf
  have hl := lv_entry ([.ref h, .int p0]) (n := 2) (Nat.le_of_ble_eq_true rfl)
  rw [lg_entry_eq]
  generalize (lg_sl ([.ref h, .int p0]) ++ List.replicate (2 - (lg_sl ([.ref h, .int p0])).length) Slot.unset).toArray = ls at hl ⊢
  have hl : lv_has ls 2 [(0, .ref h), (1, .int p0)] := hl
  have hf := ff_M_name.eq_1 u0 p0
  unfold ok_M_name at hok
  refine lv_iload_n hx hb dd_M_name_0 rfl (lv_at hl 1 rfl) ?_
  refine lv_bipush (v := 9) hx hb dd_M_name_1 (by decide) ?_
  refine lv_icmp_lt (tgt := 48) hx hb dd_M_name_3 (by decide) (fun c1 => ?_) (fun c1 => ?_)
  · have hf := hf.trans (if_pos c1)
    have hok := hok.1 c1
    refine lv_iload_n hx hb dd_M_name_48 rfl (lv_at hl 1 rfl) ?_
    refine lv_bipush (v := 13) hx hb dd_M_name_49 (by decide) ?_
    refine lv_icmp_lt (tgt := 75) hx hb dd_M_name_51 (by decide) (fun c2 => ?_) (fun c2 => ?_)
    · have hf := hf.trans (if_pos c2)
      have hok := hok.1 c2
      refine lv_aload_n hx hb dd_M_name_75 rfl (lv_at hl 0 rfl) ?_
      refine lv_iload_n hx hb dd_M_name_76 rfl (lv_at hl 1 rfl) ?_
      have n3 := hok
      refine va_callv (va_runV (As := [.int p0]) (rest := []) ⟨hx, hb, hml, hown, hts⟩ (mm_M_simple l dC dI h a k u0 p0 n3) (cwV 1 hts (gg_V gw_415 gw_417 gs_27 gw_2 gw_418) rfl rfl rfl (by decide +kernel) ⟨Nat.le_of_ble_eq_true rfl, Nat.le_of_ble_eq_true rfl⟩) ⟨pM_bl, va_recv hK hP (ci := 0) (q0 := 0) rfl rfl, fun U hU hW => ⟨rfl, pM_up hP hK hD hU hW⟩⟩ rfl rfl hl.1 rfl (lv_room (Nat.le_of_ble_eq_true rfl)) dd_M_name_77 ⟨Nat.zero_le _, Nat.zero_le _⟩) hS (fun q _ h => h) (fun q h => h) (fun v9 t9 H locs ht9 hvm9 hw9 hB9 hz9 hk9 hS => ?_)
      subst hw9
      obtain ⟨hP, -, hD⟩ := hB9
      rw [ht9] at hP
      exact W.vret hx hb hr (fun t ht hW => ⟨⟨ff_M_simple u0 p0, rfl, hf.symm, pM_up hP hK hD ht hW⟩, hS.F ht⟩) hS.2.2 dd_M_name_80
    · have hf := hf.trans (if_neg c2)
      have hok := hok.2 c2
      refine lv_aload_n hx hb dd_M_name_54 rfl (lv_at hl 0 rfl) ?_
      refine lv_ldc2 (v := 38195999909605738) hx hb hown (hts _ gw_412) dd_M_name_55 ?_
      obtain ⟨n4, hok⟩ := hok
      refine va_callv (va_runV (As := [.long 38195999909605738]) (rest := []) ⟨hx, hb, hml, hown, hts⟩ (mm_M_word l dC dI h a k u0 (38195999909605738 : Int64) n4) (cwV 1 hts (gg_V gw_405 gw_407 gs_26 gw_2 gw_408) rfl rfl rfl (by decide +kernel) ⟨Nat.le_of_ble_eq_true rfl, Nat.le_of_ble_eq_true rfl⟩) ⟨pM_bl, va_recv hK hP (ci := 0) (q0 := 0) rfl rfl, fun U hU hW => ⟨rfl, pM_up hP hK hD hU hW⟩⟩ rfl rfl hl.1 rfl (lv_room (Nat.le_of_ble_eq_true rfl)) dd_M_name_58 ⟨Nat.zero_le _, Nat.zero_le _⟩) hS (fun q _ h => h) (fun q h => h) (fun v9 t9 H locs ht9 hvm9 hw9 hB9 hz9 hk9 hS => ?_)
      subst hw9
      obtain ⟨hP, -, hD⟩ := hB9
      rw [ht9] at hP
      refine lv_aload_n hx hb dd_M_name_61 rfl (lv_at hl 0 rfl) ?_
      refine lv_ldc2 (v := 57297358521416047) hx hb hown (hts _ gw_413) dd_M_name_62 ?_
      obtain ⟨n5, hok⟩ := hok
      refine va_callv (va_runV (As := [.long 57297358521416047]) (rest := []) ⟨hx, hb, hml, hown, hts⟩ (mm_M_word l dC dI h a k (ff_M_word u0 (38195999909605738 : Int64)) (57297358521416047 : Int64) n5) (cwV 1 hts (gg_V gw_405 gw_407 gs_26 gw_2 gw_408) rfl rfl rfl (by decide +kernel) ⟨Nat.le_of_ble_eq_true rfl, Nat.le_of_ble_eq_true rfl⟩) ⟨pM_bl, va_recv hK hP (ci := 0) (q0 := 0) rfl rfl, fun U hU hW => ⟨rfl, pM_up hP hK hD hU hW⟩⟩ rfl rfl hl.1 rfl (lv_room (Nat.le_of_ble_eq_true rfl)) dd_M_name_65 ⟨Nat.zero_le _, Nat.zero_le _⟩) hS (fun q _ h => h) (fun q h => h) (fun v9 t9 H locs ht9 hvm9 hw9 hB9 hz9 hk9 hS => ?_)
      subst hw9
      obtain ⟨hP, -, hD⟩ := hB9
      rw [ht9] at hP
      refine lv_aload_n hx hb dd_M_name_68 rfl (lv_at hl 0 rfl) ?_
      refine lv_ldc2 (v := 14628) hx hb hown (hts _ gw_414) dd_M_name_69 ?_
      obtain ⟨n6, hok⟩ := hok
      refine va_callv (va_runV (As := [.long 14628]) (rest := []) ⟨hx, hb, hml, hown, hts⟩ (mm_M_word l dC dI h a k (ff_M_word (ff_M_word u0 (38195999909605738 : Int64)) (57297358521416047 : Int64)) (14628 : Int64) n6) (cwV 1 hts (gg_V gw_405 gw_407 gs_26 gw_2 gw_408) rfl rfl rfl (by decide +kernel) ⟨Nat.le_of_ble_eq_true rfl, Nat.le_of_ble_eq_true rfl⟩) ⟨pM_bl, va_recv hK hP (ci := 0) (q0 := 0) rfl rfl, fun U hU hW => ⟨rfl, pM_up hP hK hD hU hW⟩⟩ rfl rfl hl.1 rfl (lv_room (Nat.le_of_ble_eq_true rfl)) dd_M_name_72 ⟨Nat.zero_le _, Nat.zero_le _⟩) hS (fun q _ h => h) (fun q h => h) (fun v9 t9 H locs ht9 hvm9 hw9 hB9 hz9 hk9 hS => ?_)
      subst hw9
      obtain ⟨hP, -, hD⟩ := hB9
      rw [ht9] at hP
      refine lv_aload_n hx hb dd_M_name_75 rfl (lv_at hl 0 rfl) ?_
      refine lv_iload_n hx hb dd_M_name_76 rfl (lv_at hl 1 rfl) ?_
      have n7 := hok
      refine va_callv (va_runV (As := [.int p0]) (rest := []) ⟨hx, hb, hml, hown, hts⟩ (mm_M_simple l dC dI h a k (ff_M_word (ff_M_word (ff_M_word u0 (38195999909605738 : Int64)) (57297358521416047 : Int64)) (14628 : Int64)) p0 n7) (cwV 1 hts (gg_V gw_415 gw_417 gs_27 gw_2 gw_418) rfl rfl rfl (by decide +kernel) ⟨Nat.le_of_ble_eq_true rfl, Nat.le_of_ble_eq_true rfl⟩) ⟨pM_bl, va_recv hK hP (ci := 0) (q0 := 0) rfl rfl, fun U hU hW => ⟨rfl, pM_up hP hK hD hU hW⟩⟩ rfl rfl hl.1 rfl (lv_room (Nat.le_of_ble_eq_true rfl)) dd_M_name_77 ⟨Nat.zero_le _, Nat.zero_le _⟩) hS (fun q _ h => h) (fun q h => h) (fun v9 t9 H locs ht9 hvm9 hw9 hB9 hz9 hk9 hS => ?_)
      subst hw9
      obtain ⟨hP, -, hD⟩ := hB9
      rw [ht9] at hP
      exact W.vret hx hb hr (fun t ht hW => ⟨⟨ff_M_simple (ff_M_word (ff_M_word (ff_M_word u0 (38195999909605738 : Int64)) (57297358521416047 : Int64)) (14628 : Int64)) p0, rfl, hf.symm, pM_up hP hK hD ht hW⟩, hS.F ht⟩) hS.2.2 dd_M_name_80
  · have hf := hf.trans (if_neg c1)
    have hok := hok.2 c1
    refine lv_iload_n hx hb dd_M_name_6 rfl (lv_at hl 1 rfl) ?_
    refine lv_bipush (v := 12) hx hb dd_M_name_7 (by decide) ?_
    refine lv_icmp_gt (tgt := 48) hx hb dd_M_name_9 (by decide) (fun c8 => ?_) (fun c8 => ?_)
    · have hf := hf.trans (if_pos c8)
      have hok := hok.1 c8
      refine lv_iload_n hx hb dd_M_name_48 rfl (lv_at hl 1 rfl) ?_
      refine lv_bipush (v := 13) hx hb dd_M_name_49 (by decide) ?_
      refine lv_icmp_lt (tgt := 75) hx hb dd_M_name_51 (by decide) (fun c9 => ?_) (fun c9 => ?_)
      · have hf := hf.trans (if_pos c9)
        have hok := hok.1 c9
        refine lv_aload_n hx hb dd_M_name_75 rfl (lv_at hl 0 rfl) ?_
        refine lv_iload_n hx hb dd_M_name_76 rfl (lv_at hl 1 rfl) ?_
        have n10 := hok
        refine va_callv (va_runV (As := [.int p0]) (rest := []) ⟨hx, hb, hml, hown, hts⟩ (mm_M_simple l dC dI h a k u0 p0 n10) (cwV 1 hts (gg_V gw_415 gw_417 gs_27 gw_2 gw_418) rfl rfl rfl (by decide +kernel) ⟨Nat.le_of_ble_eq_true rfl, Nat.le_of_ble_eq_true rfl⟩) ⟨pM_bl, va_recv hK hP (ci := 0) (q0 := 0) rfl rfl, fun U hU hW => ⟨rfl, pM_up hP hK hD hU hW⟩⟩ rfl rfl hl.1 rfl (lv_room (Nat.le_of_ble_eq_true rfl)) dd_M_name_77 ⟨Nat.zero_le _, Nat.zero_le _⟩) hS (fun q _ h => h) (fun q h => h) (fun v9 t9 H locs ht9 hvm9 hw9 hB9 hz9 hk9 hS => ?_)
        subst hw9
        obtain ⟨hP, -, hD⟩ := hB9
        rw [ht9] at hP
        exact W.vret hx hb hr (fun t ht hW => ⟨⟨ff_M_simple u0 p0, rfl, hf.symm, pM_up hP hK hD ht hW⟩, hS.F ht⟩) hS.2.2 dd_M_name_80
      · have hf := hf.trans (if_neg c9)
        have hok := hok.2 c9
        refine lv_aload_n hx hb dd_M_name_54 rfl (lv_at hl 0 rfl) ?_
        refine lv_ldc2 (v := 38195999909605738) hx hb hown (hts _ gw_412) dd_M_name_55 ?_
        obtain ⟨n11, hok⟩ := hok
        refine va_callv (va_runV (As := [.long 38195999909605738]) (rest := []) ⟨hx, hb, hml, hown, hts⟩ (mm_M_word l dC dI h a k u0 (38195999909605738 : Int64) n11) (cwV 1 hts (gg_V gw_405 gw_407 gs_26 gw_2 gw_408) rfl rfl rfl (by decide +kernel) ⟨Nat.le_of_ble_eq_true rfl, Nat.le_of_ble_eq_true rfl⟩) ⟨pM_bl, va_recv hK hP (ci := 0) (q0 := 0) rfl rfl, fun U hU hW => ⟨rfl, pM_up hP hK hD hU hW⟩⟩ rfl rfl hl.1 rfl (lv_room (Nat.le_of_ble_eq_true rfl)) dd_M_name_58 ⟨Nat.zero_le _, Nat.zero_le _⟩) hS (fun q _ h => h) (fun q h => h) (fun v9 t9 H locs ht9 hvm9 hw9 hB9 hz9 hk9 hS => ?_)
        subst hw9
        obtain ⟨hP, -, hD⟩ := hB9
        rw [ht9] at hP
        refine lv_aload_n hx hb dd_M_name_61 rfl (lv_at hl 0 rfl) ?_
        refine lv_ldc2 (v := 57297358521416047) hx hb hown (hts _ gw_413) dd_M_name_62 ?_
        obtain ⟨n12, hok⟩ := hok
        refine va_callv (va_runV (As := [.long 57297358521416047]) (rest := []) ⟨hx, hb, hml, hown, hts⟩ (mm_M_word l dC dI h a k (ff_M_word u0 (38195999909605738 : Int64)) (57297358521416047 : Int64) n12) (cwV 1 hts (gg_V gw_405 gw_407 gs_26 gw_2 gw_408) rfl rfl rfl (by decide +kernel) ⟨Nat.le_of_ble_eq_true rfl, Nat.le_of_ble_eq_true rfl⟩) ⟨pM_bl, va_recv hK hP (ci := 0) (q0 := 0) rfl rfl, fun U hU hW => ⟨rfl, pM_up hP hK hD hU hW⟩⟩ rfl rfl hl.1 rfl (lv_room (Nat.le_of_ble_eq_true rfl)) dd_M_name_65 ⟨Nat.zero_le _, Nat.zero_le _⟩) hS (fun q _ h => h) (fun q h => h) (fun v9 t9 H locs ht9 hvm9 hw9 hB9 hz9 hk9 hS => ?_)
        subst hw9
        obtain ⟨hP, -, hD⟩ := hB9
        rw [ht9] at hP
        refine lv_aload_n hx hb dd_M_name_68 rfl (lv_at hl 0 rfl) ?_
        refine lv_ldc2 (v := 14628) hx hb hown (hts _ gw_414) dd_M_name_69 ?_
        obtain ⟨n13, hok⟩ := hok
        refine va_callv (va_runV (As := [.long 14628]) (rest := []) ⟨hx, hb, hml, hown, hts⟩ (mm_M_word l dC dI h a k (ff_M_word (ff_M_word u0 (38195999909605738 : Int64)) (57297358521416047 : Int64)) (14628 : Int64) n13) (cwV 1 hts (gg_V gw_405 gw_407 gs_26 gw_2 gw_408) rfl rfl rfl (by decide +kernel) ⟨Nat.le_of_ble_eq_true rfl, Nat.le_of_ble_eq_true rfl⟩) ⟨pM_bl, va_recv hK hP (ci := 0) (q0 := 0) rfl rfl, fun U hU hW => ⟨rfl, pM_up hP hK hD hU hW⟩⟩ rfl rfl hl.1 rfl (lv_room (Nat.le_of_ble_eq_true rfl)) dd_M_name_72 ⟨Nat.zero_le _, Nat.zero_le _⟩) hS (fun q _ h => h) (fun q h => h) (fun v9 t9 H locs ht9 hvm9 hw9 hB9 hz9 hk9 hS => ?_)
        subst hw9
        obtain ⟨hP, -, hD⟩ := hB9
        rw [ht9] at hP
        refine lv_aload_n hx hb dd_M_name_75 rfl (lv_at hl 0 rfl) ?_
        refine lv_iload_n hx hb dd_M_name_76 rfl (lv_at hl 1 rfl) ?_
        have n14 := hok
        refine va_callv (va_runV (As := [.int p0]) (rest := []) ⟨hx, hb, hml, hown, hts⟩ (mm_M_simple l dC dI h a k (ff_M_word (ff_M_word (ff_M_word u0 (38195999909605738 : Int64)) (57297358521416047 : Int64)) (14628 : Int64)) p0 n14) (cwV 1 hts (gg_V gw_415 gw_417 gs_27 gw_2 gw_418) rfl rfl rfl (by decide +kernel) ⟨Nat.le_of_ble_eq_true rfl, Nat.le_of_ble_eq_true rfl⟩) ⟨pM_bl, va_recv hK hP (ci := 0) (q0 := 0) rfl rfl, fun U hU hW => ⟨rfl, pM_up hP hK hD hU hW⟩⟩ rfl rfl hl.1 rfl (lv_room (Nat.le_of_ble_eq_true rfl)) dd_M_name_77 ⟨Nat.zero_le _, Nat.zero_le _⟩) hS (fun q _ h => h) (fun q h => h) (fun v9 t9 H locs ht9 hvm9 hw9 hB9 hz9 hk9 hS => ?_)
        subst hw9
        obtain ⟨hP, -, hD⟩ := hB9
        rw [ht9] at hP
        exact W.vret hx hb hr (fun t ht hW => ⟨⟨ff_M_simple (ff_M_word (ff_M_word (ff_M_word u0 (38195999909605738 : Int64)) (57297358521416047 : Int64)) (14628 : Int64)) p0, rfl, hf.symm, pM_up hP hK hD ht hW⟩, hS.F ht⟩) hS.2.2 dd_M_name_80
    · have hf := hf.trans (if_neg c8)
      have hok := hok.2 c8
      refine lv_aload_n hx hb dd_M_name_12 rfl (lv_at hl 0 rfl) ?_
      refine lv_ldc2 (v := 28659527854) hx hb hown (hts _ gw_404) dd_M_name_13 ?_
      obtain ⟨n15, hok⟩ := hok
      refine va_callv (va_runV (As := [.long 28659527854]) (rest := []) ⟨hx, hb, hml, hown, hts⟩ (mm_M_word l dC dI h a k u0 (28659527854 : Int64) n15) (cwV 1 hts (gg_V gw_405 gw_407 gs_26 gw_2 gw_408) rfl rfl rfl (by decide +kernel) ⟨Nat.le_of_ble_eq_true rfl, Nat.le_of_ble_eq_true rfl⟩) ⟨pM_bl, va_recv hK hP (ci := 0) (q0 := 0) rfl rfl, fun U hU hW => ⟨rfl, pM_up hP hK hD hU hW⟩⟩ rfl rfl hl.1 rfl (lv_room (Nat.le_of_ble_eq_true rfl)) dd_M_name_16 ⟨Nat.zero_le _, Nat.zero_le _⟩) hS (fun q _ h => h) (fun q h => h) (fun v9 t9 H locs ht9 hvm9 hw9 hB9 hz9 hk9 hS => ?_)
      subst hw9
      obtain ⟨hP, -, hD⟩ := hB9
      rw [ht9] at hP
      refine lv_iload_n hx hb dd_M_name_19 rfl (lv_at hl 1 rfl) ?_
      refine lv_bipush (v := 11) hx hb dd_M_name_20 (by decide) ?_
      refine lv_icmp_ne (tgt := 35) hx hb dd_M_name_22 (by decide) (fun c16 => ?_) (fun c16 => ?_)
      · have hf := hf.trans (if_neg c16)
        have hok := hok.2 c16
        refine lv_aload_n hx hb dd_M_name_35 rfl (lv_at hl 0 rfl) ?_
        refine lv_ldc2 (v := 228095847) hx hb hown (hts _ gw_411) dd_M_name_36 ?_
        obtain ⟨n17, hok⟩ := hok
        refine va_callv (va_runV (As := [.long 228095847]) (rest := []) ⟨hx, hb, hml, hown, hts⟩ (mm_M_word l dC dI h a k (ff_M_word u0 (28659527854 : Int64)) (228095847 : Int64) n17) (cwV 1 hts (gg_V gw_405 gw_407 gs_26 gw_2 gw_408) rfl rfl rfl (by decide +kernel) ⟨Nat.le_of_ble_eq_true rfl, Nat.le_of_ble_eq_true rfl⟩) ⟨pM_bl, va_recv hK hP (ci := 0) (q0 := 0) rfl rfl, fun U hU hW => ⟨rfl, pM_up hP hK hD hU hW⟩⟩ rfl rfl hl.1 rfl (lv_room (Nat.le_of_ble_eq_true rfl)) dd_M_name_39 ⟨Nat.zero_le _, Nat.zero_le _⟩) hS (fun q _ h => h) (fun q h => h) (fun v9 t9 H locs ht9 hvm9 hw9 hB9 hz9 hk9 hS => ?_)
        subst hw9
        obtain ⟨hP, -, hD⟩ := hB9
        rw [ht9] at hP
        refine lv_aload_n hx hb dd_M_name_42 rfl (lv_at hl 0 rfl) ?_
        refine lv_bipush (v := 46) hx hb dd_M_name_43 (by decide) ?_
        obtain ⟨n18, hok⟩ := hok
        refine va_callv (va_runV (As := [.int 46]) (rest := []) ⟨hx, hb, hml, hown, hts⟩ (mm_M_letter l dC dI h a k (ff_M_word (ff_M_word u0 (28659527854 : Int64)) (228095847 : Int64)) (46 : Int32) n18) (cwV 1 hts (gg_V gw_393 gw_395 gs_24 gw_2 gw_396) rfl rfl rfl (by decide +kernel) ⟨Nat.le_of_ble_eq_true rfl, Nat.le_of_ble_eq_true rfl⟩) ⟨pM_bl, va_recv hK hP (ci := 0) (q0 := 0) rfl rfl, fun U hU hW => ⟨rfl, pM_up hP hK hD hU hW⟩⟩ rfl rfl hl.1 rfl (lv_room (Nat.le_of_ble_eq_true rfl)) dd_M_name_45 ⟨Nat.zero_le _, Nat.zero_le _⟩) hS (fun q _ h => h) (fun q h => h) (fun v9 t9 H locs ht9 hvm9 hw9 hB9 hz9 hk9 hS => ?_)
        subst hw9
        obtain ⟨hP, -, hD⟩ := hB9
        rw [ht9] at hP
        refine lv_iload_n hx hb dd_M_name_48 rfl (lv_at hl 1 rfl) ?_
        refine lv_bipush (v := 13) hx hb dd_M_name_49 (by decide) ?_
        refine lv_icmp_lt (tgt := 75) hx hb dd_M_name_51 (by decide) (fun c19 => ?_) (fun c19 => ?_)
        · have hf := hf.trans (if_pos c19)
          have hok := hok.1 c19
          refine lv_aload_n hx hb dd_M_name_75 rfl (lv_at hl 0 rfl) ?_
          refine lv_iload_n hx hb dd_M_name_76 rfl (lv_at hl 1 rfl) ?_
          have n20 := hok
          refine va_callv (va_runV (As := [.int p0]) (rest := []) ⟨hx, hb, hml, hown, hts⟩ (mm_M_simple l dC dI h a k (ff_M_letter (ff_M_word (ff_M_word u0 (28659527854 : Int64)) (228095847 : Int64)) (46 : Int32)) p0 n20) (cwV 1 hts (gg_V gw_415 gw_417 gs_27 gw_2 gw_418) rfl rfl rfl (by decide +kernel) ⟨Nat.le_of_ble_eq_true rfl, Nat.le_of_ble_eq_true rfl⟩) ⟨pM_bl, va_recv hK hP (ci := 0) (q0 := 0) rfl rfl, fun U hU hW => ⟨rfl, pM_up hP hK hD hU hW⟩⟩ rfl rfl hl.1 rfl (lv_room (Nat.le_of_ble_eq_true rfl)) dd_M_name_77 ⟨Nat.zero_le _, Nat.zero_le _⟩) hS (fun q _ h => h) (fun q h => h) (fun v9 t9 H locs ht9 hvm9 hw9 hB9 hz9 hk9 hS => ?_)
          subst hw9
          obtain ⟨hP, -, hD⟩ := hB9
          rw [ht9] at hP
          exact W.vret hx hb hr (fun t ht hW => ⟨⟨ff_M_simple (ff_M_letter (ff_M_word (ff_M_word u0 (28659527854 : Int64)) (228095847 : Int64)) (46 : Int32)) p0, rfl, hf.symm, pM_up hP hK hD ht hW⟩, hS.F ht⟩) hS.2.2 dd_M_name_80
        · have hf := hf.trans (if_neg c19)
          have hok := hok.2 c19
          refine lv_aload_n hx hb dd_M_name_54 rfl (lv_at hl 0 rfl) ?_
          refine lv_ldc2 (v := 38195999909605738) hx hb hown (hts _ gw_412) dd_M_name_55 ?_
          obtain ⟨n21, hok⟩ := hok
          refine va_callv (va_runV (As := [.long 38195999909605738]) (rest := []) ⟨hx, hb, hml, hown, hts⟩ (mm_M_word l dC dI h a k (ff_M_letter (ff_M_word (ff_M_word u0 (28659527854 : Int64)) (228095847 : Int64)) (46 : Int32)) (38195999909605738 : Int64) n21) (cwV 1 hts (gg_V gw_405 gw_407 gs_26 gw_2 gw_408) rfl rfl rfl (by decide +kernel) ⟨Nat.le_of_ble_eq_true rfl, Nat.le_of_ble_eq_true rfl⟩) ⟨pM_bl, va_recv hK hP (ci := 0) (q0 := 0) rfl rfl, fun U hU hW => ⟨rfl, pM_up hP hK hD hU hW⟩⟩ rfl rfl hl.1 rfl (lv_room (Nat.le_of_ble_eq_true rfl)) dd_M_name_58 ⟨Nat.zero_le _, Nat.zero_le _⟩) hS (fun q _ h => h) (fun q h => h) (fun v9 t9 H locs ht9 hvm9 hw9 hB9 hz9 hk9 hS => ?_)
          subst hw9
          obtain ⟨hP, -, hD⟩ := hB9
          rw [ht9] at hP
          refine lv_aload_n hx hb dd_M_name_61 rfl (lv_at hl 0 rfl) ?_
          refine lv_ldc2 (v := 57297358521416047) hx hb hown (hts _ gw_413) dd_M_name_62 ?_
          obtain ⟨n22, hok⟩ := hok
          refine va_callv (va_runV (As := [.long 57297358521416047]) (rest := []) ⟨hx, hb, hml, hown, hts⟩ (mm_M_word l dC dI h a k (ff_M_word (ff_M_letter (ff_M_word (ff_M_word u0 (28659527854 : Int64)) (228095847 : Int64)) (46 : Int32)) (38195999909605738 : Int64)) (57297358521416047 : Int64) n22) (cwV 1 hts (gg_V gw_405 gw_407 gs_26 gw_2 gw_408) rfl rfl rfl (by decide +kernel) ⟨Nat.le_of_ble_eq_true rfl, Nat.le_of_ble_eq_true rfl⟩) ⟨pM_bl, va_recv hK hP (ci := 0) (q0 := 0) rfl rfl, fun U hU hW => ⟨rfl, pM_up hP hK hD hU hW⟩⟩ rfl rfl hl.1 rfl (lv_room (Nat.le_of_ble_eq_true rfl)) dd_M_name_65 ⟨Nat.zero_le _, Nat.zero_le _⟩) hS (fun q _ h => h) (fun q h => h) (fun v9 t9 H locs ht9 hvm9 hw9 hB9 hz9 hk9 hS => ?_)
          subst hw9
          obtain ⟨hP, -, hD⟩ := hB9
          rw [ht9] at hP
          refine lv_aload_n hx hb dd_M_name_68 rfl (lv_at hl 0 rfl) ?_
          refine lv_ldc2 (v := 14628) hx hb hown (hts _ gw_414) dd_M_name_69 ?_
          obtain ⟨n23, hok⟩ := hok
          refine va_callv (va_runV (As := [.long 14628]) (rest := []) ⟨hx, hb, hml, hown, hts⟩ (mm_M_word l dC dI h a k (ff_M_word (ff_M_word (ff_M_letter (ff_M_word (ff_M_word u0 (28659527854 : Int64)) (228095847 : Int64)) (46 : Int32)) (38195999909605738 : Int64)) (57297358521416047 : Int64)) (14628 : Int64) n23) (cwV 1 hts (gg_V gw_405 gw_407 gs_26 gw_2 gw_408) rfl rfl rfl (by decide +kernel) ⟨Nat.le_of_ble_eq_true rfl, Nat.le_of_ble_eq_true rfl⟩) ⟨pM_bl, va_recv hK hP (ci := 0) (q0 := 0) rfl rfl, fun U hU hW => ⟨rfl, pM_up hP hK hD hU hW⟩⟩ rfl rfl hl.1 rfl (lv_room (Nat.le_of_ble_eq_true rfl)) dd_M_name_72 ⟨Nat.zero_le _, Nat.zero_le _⟩) hS (fun q _ h => h) (fun q h => h) (fun v9 t9 H locs ht9 hvm9 hw9 hB9 hz9 hk9 hS => ?_)
          subst hw9
          obtain ⟨hP, -, hD⟩ := hB9
          rw [ht9] at hP
          refine lv_aload_n hx hb dd_M_name_75 rfl (lv_at hl 0 rfl) ?_
          refine lv_iload_n hx hb dd_M_name_76 rfl (lv_at hl 1 rfl) ?_
          have n24 := hok
          refine va_callv (va_runV (As := [.int p0]) (rest := []) ⟨hx, hb, hml, hown, hts⟩ (mm_M_simple l dC dI h a k (ff_M_word (ff_M_word (ff_M_word (ff_M_letter (ff_M_word (ff_M_word u0 (28659527854 : Int64)) (228095847 : Int64)) (46 : Int32)) (38195999909605738 : Int64)) (57297358521416047 : Int64)) (14628 : Int64)) p0 n24) (cwV 1 hts (gg_V gw_415 gw_417 gs_27 gw_2 gw_418) rfl rfl rfl (by decide +kernel) ⟨Nat.le_of_ble_eq_true rfl, Nat.le_of_ble_eq_true rfl⟩) ⟨pM_bl, va_recv hK hP (ci := 0) (q0 := 0) rfl rfl, fun U hU hW => ⟨rfl, pM_up hP hK hD hU hW⟩⟩ rfl rfl hl.1 rfl (lv_room (Nat.le_of_ble_eq_true rfl)) dd_M_name_77 ⟨Nat.zero_le _, Nat.zero_le _⟩) hS (fun q _ h => h) (fun q h => h) (fun v9 t9 H locs ht9 hvm9 hw9 hB9 hz9 hk9 hS => ?_)
          subst hw9
          obtain ⟨hP, -, hD⟩ := hB9
          rw [ht9] at hP
          exact W.vret hx hb hr (fun t ht hW => ⟨⟨ff_M_simple (ff_M_word (ff_M_word (ff_M_word (ff_M_letter (ff_M_word (ff_M_word u0 (28659527854 : Int64)) (228095847 : Int64)) (46 : Int32)) (38195999909605738 : Int64)) (57297358521416047 : Int64)) (14628 : Int64)) p0, rfl, hf.symm, pM_up hP hK hD ht hW⟩, hS.F ht⟩) hS.2.2 dd_M_name_80
      · have hf := hf.trans (if_pos c16)
        have hok := hok.1 c16
        refine lv_aload_n hx hb dd_M_name_25 rfl (lv_at hl 0 rfl) ?_
        refine lv_ldc2 (v := 13551) hx hb hown (hts _ gw_410) dd_M_name_26 ?_
        obtain ⟨n25, hok⟩ := hok
        refine va_callv (va_runV (As := [.long 13551]) (rest := []) ⟨hx, hb, hml, hown, hts⟩ (mm_M_word l dC dI h a k (ff_M_word u0 (28659527854 : Int64)) (13551 : Int64) n25) (cwV 1 hts (gg_V gw_405 gw_407 gs_26 gw_2 gw_408) rfl rfl rfl (by decide +kernel) ⟨Nat.le_of_ble_eq_true rfl, Nat.le_of_ble_eq_true rfl⟩) ⟨pM_bl, va_recv hK hP (ci := 0) (q0 := 0) rfl rfl, fun U hU hW => ⟨rfl, pM_up hP hK hD hU hW⟩⟩ rfl rfl hl.1 rfl (lv_room (Nat.le_of_ble_eq_true rfl)) dd_M_name_29 ⟨Nat.zero_le _, Nat.zero_le _⟩) hS (fun q _ h => h) (fun q h => h) (fun v9 t9 H locs ht9 hvm9 hw9 hB9 hz9 hk9 hS => ?_)
        subst hw9
        obtain ⟨hP, -, hD⟩ := hB9
        rw [ht9] at hP
        refine lv_goto (tgt := 42) hx hb dd_M_name_32 (by decide) ?_
        refine lv_aload_n hx hb dd_M_name_42 rfl (lv_at hl 0 rfl) ?_
        refine lv_bipush (v := 46) hx hb dd_M_name_43 (by decide) ?_
        obtain ⟨n26, hok⟩ := hok
        refine va_callv (va_runV (As := [.int 46]) (rest := []) ⟨hx, hb, hml, hown, hts⟩ (mm_M_letter l dC dI h a k (ff_M_word (ff_M_word u0 (28659527854 : Int64)) (13551 : Int64)) (46 : Int32) n26) (cwV 1 hts (gg_V gw_393 gw_395 gs_24 gw_2 gw_396) rfl rfl rfl (by decide +kernel) ⟨Nat.le_of_ble_eq_true rfl, Nat.le_of_ble_eq_true rfl⟩) ⟨pM_bl, va_recv hK hP (ci := 0) (q0 := 0) rfl rfl, fun U hU hW => ⟨rfl, pM_up hP hK hD hU hW⟩⟩ rfl rfl hl.1 rfl (lv_room (Nat.le_of_ble_eq_true rfl)) dd_M_name_45 ⟨Nat.zero_le _, Nat.zero_le _⟩) hS (fun q _ h => h) (fun q h => h) (fun v9 t9 H locs ht9 hvm9 hw9 hB9 hz9 hk9 hS => ?_)
        subst hw9
        obtain ⟨hP, -, hD⟩ := hB9
        rw [ht9] at hP
        refine lv_iload_n hx hb dd_M_name_48 rfl (lv_at hl 1 rfl) ?_
        refine lv_bipush (v := 13) hx hb dd_M_name_49 (by decide) ?_
        refine lv_icmp_lt (tgt := 75) hx hb dd_M_name_51 (by decide) (fun c27 => ?_) (fun c27 => ?_)
        · have hf := hf.trans (if_pos c27)
          have hok := hok.1 c27
          refine lv_aload_n hx hb dd_M_name_75 rfl (lv_at hl 0 rfl) ?_
          refine lv_iload_n hx hb dd_M_name_76 rfl (lv_at hl 1 rfl) ?_
          have n28 := hok
          refine va_callv (va_runV (As := [.int p0]) (rest := []) ⟨hx, hb, hml, hown, hts⟩ (mm_M_simple l dC dI h a k (ff_M_letter (ff_M_word (ff_M_word u0 (28659527854 : Int64)) (13551 : Int64)) (46 : Int32)) p0 n28) (cwV 1 hts (gg_V gw_415 gw_417 gs_27 gw_2 gw_418) rfl rfl rfl (by decide +kernel) ⟨Nat.le_of_ble_eq_true rfl, Nat.le_of_ble_eq_true rfl⟩) ⟨pM_bl, va_recv hK hP (ci := 0) (q0 := 0) rfl rfl, fun U hU hW => ⟨rfl, pM_up hP hK hD hU hW⟩⟩ rfl rfl hl.1 rfl (lv_room (Nat.le_of_ble_eq_true rfl)) dd_M_name_77 ⟨Nat.zero_le _, Nat.zero_le _⟩) hS (fun q _ h => h) (fun q h => h) (fun v9 t9 H locs ht9 hvm9 hw9 hB9 hz9 hk9 hS => ?_)
          subst hw9
          obtain ⟨hP, -, hD⟩ := hB9
          rw [ht9] at hP
          exact W.vret hx hb hr (fun t ht hW => ⟨⟨ff_M_simple (ff_M_letter (ff_M_word (ff_M_word u0 (28659527854 : Int64)) (13551 : Int64)) (46 : Int32)) p0, rfl, hf.symm, pM_up hP hK hD ht hW⟩, hS.F ht⟩) hS.2.2 dd_M_name_80
        · have hf := hf.trans (if_neg c27)
          have hok := hok.2 c27
          refine lv_aload_n hx hb dd_M_name_54 rfl (lv_at hl 0 rfl) ?_
          refine lv_ldc2 (v := 38195999909605738) hx hb hown (hts _ gw_412) dd_M_name_55 ?_
          obtain ⟨n29, hok⟩ := hok
          refine va_callv (va_runV (As := [.long 38195999909605738]) (rest := []) ⟨hx, hb, hml, hown, hts⟩ (mm_M_word l dC dI h a k (ff_M_letter (ff_M_word (ff_M_word u0 (28659527854 : Int64)) (13551 : Int64)) (46 : Int32)) (38195999909605738 : Int64) n29) (cwV 1 hts (gg_V gw_405 gw_407 gs_26 gw_2 gw_408) rfl rfl rfl (by decide +kernel) ⟨Nat.le_of_ble_eq_true rfl, Nat.le_of_ble_eq_true rfl⟩) ⟨pM_bl, va_recv hK hP (ci := 0) (q0 := 0) rfl rfl, fun U hU hW => ⟨rfl, pM_up hP hK hD hU hW⟩⟩ rfl rfl hl.1 rfl (lv_room (Nat.le_of_ble_eq_true rfl)) dd_M_name_58 ⟨Nat.zero_le _, Nat.zero_le _⟩) hS (fun q _ h => h) (fun q h => h) (fun v9 t9 H locs ht9 hvm9 hw9 hB9 hz9 hk9 hS => ?_)
          subst hw9
          obtain ⟨hP, -, hD⟩ := hB9
          rw [ht9] at hP
          refine lv_aload_n hx hb dd_M_name_61 rfl (lv_at hl 0 rfl) ?_
          refine lv_ldc2 (v := 57297358521416047) hx hb hown (hts _ gw_413) dd_M_name_62 ?_
          obtain ⟨n30, hok⟩ := hok
          refine va_callv (va_runV (As := [.long 57297358521416047]) (rest := []) ⟨hx, hb, hml, hown, hts⟩ (mm_M_word l dC dI h a k (ff_M_word (ff_M_letter (ff_M_word (ff_M_word u0 (28659527854 : Int64)) (13551 : Int64)) (46 : Int32)) (38195999909605738 : Int64)) (57297358521416047 : Int64) n30) (cwV 1 hts (gg_V gw_405 gw_407 gs_26 gw_2 gw_408) rfl rfl rfl (by decide +kernel) ⟨Nat.le_of_ble_eq_true rfl, Nat.le_of_ble_eq_true rfl⟩) ⟨pM_bl, va_recv hK hP (ci := 0) (q0 := 0) rfl rfl, fun U hU hW => ⟨rfl, pM_up hP hK hD hU hW⟩⟩ rfl rfl hl.1 rfl (lv_room (Nat.le_of_ble_eq_true rfl)) dd_M_name_65 ⟨Nat.zero_le _, Nat.zero_le _⟩) hS (fun q _ h => h) (fun q h => h) (fun v9 t9 H locs ht9 hvm9 hw9 hB9 hz9 hk9 hS => ?_)
          subst hw9
          obtain ⟨hP, -, hD⟩ := hB9
          rw [ht9] at hP
          refine lv_aload_n hx hb dd_M_name_68 rfl (lv_at hl 0 rfl) ?_
          refine lv_ldc2 (v := 14628) hx hb hown (hts _ gw_414) dd_M_name_69 ?_
          obtain ⟨n31, hok⟩ := hok
          refine va_callv (va_runV (As := [.long 14628]) (rest := []) ⟨hx, hb, hml, hown, hts⟩ (mm_M_word l dC dI h a k (ff_M_word (ff_M_word (ff_M_letter (ff_M_word (ff_M_word u0 (28659527854 : Int64)) (13551 : Int64)) (46 : Int32)) (38195999909605738 : Int64)) (57297358521416047 : Int64)) (14628 : Int64) n31) (cwV 1 hts (gg_V gw_405 gw_407 gs_26 gw_2 gw_408) rfl rfl rfl (by decide +kernel) ⟨Nat.le_of_ble_eq_true rfl, Nat.le_of_ble_eq_true rfl⟩) ⟨pM_bl, va_recv hK hP (ci := 0) (q0 := 0) rfl rfl, fun U hU hW => ⟨rfl, pM_up hP hK hD hU hW⟩⟩ rfl rfl hl.1 rfl (lv_room (Nat.le_of_ble_eq_true rfl)) dd_M_name_72 ⟨Nat.zero_le _, Nat.zero_le _⟩) hS (fun q _ h => h) (fun q h => h) (fun v9 t9 H locs ht9 hvm9 hw9 hB9 hz9 hk9 hS => ?_)
          subst hw9
          obtain ⟨hP, -, hD⟩ := hB9
          rw [ht9] at hP
          refine lv_aload_n hx hb dd_M_name_75 rfl (lv_at hl 0 rfl) ?_
          refine lv_iload_n hx hb dd_M_name_76 rfl (lv_at hl 1 rfl) ?_
          have n32 := hok
          refine va_callv (va_runV (As := [.int p0]) (rest := []) ⟨hx, hb, hml, hown, hts⟩ (mm_M_simple l dC dI h a k (ff_M_word (ff_M_word (ff_M_word (ff_M_letter (ff_M_word (ff_M_word u0 (28659527854 : Int64)) (13551 : Int64)) (46 : Int32)) (38195999909605738 : Int64)) (57297358521416047 : Int64)) (14628 : Int64)) p0 n32) (cwV 1 hts (gg_V gw_415 gw_417 gs_27 gw_2 gw_418) rfl rfl rfl (by decide +kernel) ⟨Nat.le_of_ble_eq_true rfl, Nat.le_of_ble_eq_true rfl⟩) ⟨pM_bl, va_recv hK hP (ci := 0) (q0 := 0) rfl rfl, fun U hU hW => ⟨rfl, pM_up hP hK hD hU hW⟩⟩ rfl rfl hl.1 rfl (lv_room (Nat.le_of_ble_eq_true rfl)) dd_M_name_77 ⟨Nat.zero_le _, Nat.zero_le _⟩) hS (fun q _ h => h) (fun q h => h) (fun v9 t9 H locs ht9 hvm9 hw9 hB9 hz9 hk9 hS => ?_)
          subst hw9
          obtain ⟨hP, -, hD⟩ := hB9
          rw [ht9] at hP
          exact W.vret hx hb hr (fun t ht hW => ⟨⟨ff_M_simple (ff_M_word (ff_M_word (ff_M_word (ff_M_letter (ff_M_word (ff_M_word u0 (28659527854 : Int64)) (13551 : Int64)) (46 : Int32)) (38195999909605738 : Int64)) (57297358521416047 : Int64)) (14628 : Int64)) p0, rfl, hf.symm, pM_up hP hK hD ht hW⟩, hS.F ht⟩) hS.2.2 dd_M_name_80

def ff_M_code (p0 : Int32) : Int32 := (if p0 = 0 then 90 else (if p0 = 1 then 66 else (if p0 = 2 then 67 else (if p0 = 3 then 83 else (if p0 = 4 then 73 else (if p0 = 5 then 74 else (if p0 = 6 then 70 else (if p0 = 7 then 68 else 86))))))))
abbrev ws_M_code : List Cond := .code yy_M_code bb_M_code 1 (some .int) :: gW
abbrev rm_M_code : Room := { frames := 0, cells := 0, slots := 0, locals := 0 }
set_option maxHeartbeats 4000000 in
set_option maxRecDepth 100000 in
theorem mm_M_code (l : Launch) (p0 : Int32) : Met l yy_M_code ws_M_code rm_M_code (va_Pc [.int p0] (fun _ => True)) (vp_Si (fun r => r = ff_M_code p0)) 0 0 (fun _ => False) := by
  refine Met.ofW (cc := bb_M_code) (maxL := 1) (ret := (some .int)) (by decide) rfl ?_
  intro p e s m args below meth c s₁ B hml hv
  obtain ⟨rfl, -⟩ := hv
  have hx := B.exec
  have hb := B.bytes
  have hr := B.returns
  have hts : ∀ w ∈ gW, w.before _ s = true := fun w h => atoms_spec (ws := ws_M_code) B.pre w (List.mem_cons_of_mem _ h)
  have hown : s.vm.findClass "ClassObjectMirrorModel" = some m.cls := findClass_of_methodNamed B.named
  have hlocks := B.notSynchronized
  have hl := lv_entry ([.int p0]) (n := 1) (Nat.le_of_ble_eq_true rfl)
  rw [lg_entry_eq]
  generalize (lg_sl ([.int p0]) ++ List.replicate (1 - (lg_sl ([.int p0])).length) Slot.unset).toArray = ls at hl ⊢
  have hl : lv_has ls 1 [(0, .int p0)] := hl
  have hf := ff_M_code.eq_1 p0
  refine lv_iload_n hx hb dd_M_code_0 rfl (lv_at hl 0 rfl) ?_
  by_cases c1 : p0 = 0
  · have hf := hf.trans (if_pos c1)
    refine lv_tableIn (off := 47) (tgt := 48) hx hb dd_M_code_1 (by rw [c1]; decide) (by rw [c1]; decide) (by rw [c1]; decide) (by decide) ?_
    refine lv_bipush (v := 90) hx hb dd_M_code_48 (by decide) ?_
    exact W.iret (v := (90 : Int32)) hx hb hr (fun t ht hW => ⟨(90 : Int32), rfl, hf.symm, ht⟩) (fun _ h => by cases h) dd_M_code_50
  · have hf := hf.trans (if_neg c1)
    by_cases c2 : p0 = 1
    · have hf := hf.trans (if_pos c2)
      refine lv_tableIn (off := 50) (tgt := 51) hx hb dd_M_code_1 (by rw [c2]; decide) (by rw [c2]; decide) (by rw [c2]; decide) (by decide) ?_
      refine lv_bipush (v := 66) hx hb dd_M_code_51 (by decide) ?_
      exact W.iret (v := (66 : Int32)) hx hb hr (fun t ht hW => ⟨(66 : Int32), rfl, hf.symm, ht⟩) (fun _ h => by cases h) dd_M_code_53
    · have hf := hf.trans (if_neg c2)
      by_cases c3 : p0 = 2
      · have hf := hf.trans (if_pos c3)
        refine lv_tableIn (off := 53) (tgt := 54) hx hb dd_M_code_1 (by rw [c3]; decide) (by rw [c3]; decide) (by rw [c3]; decide) (by decide) ?_
        refine lv_bipush (v := 67) hx hb dd_M_code_54 (by decide) ?_
        exact W.iret (v := (67 : Int32)) hx hb hr (fun t ht hW => ⟨(67 : Int32), rfl, hf.symm, ht⟩) (fun _ h => by cases h) dd_M_code_56
      · have hf := hf.trans (if_neg c3)
        by_cases c4 : p0 = 3
        · have hf := hf.trans (if_pos c4)
          refine lv_tableIn (off := 56) (tgt := 57) hx hb dd_M_code_1 (by rw [c4]; decide) (by rw [c4]; decide) (by rw [c4]; decide) (by decide) ?_
          refine lv_bipush (v := 83) hx hb dd_M_code_57 (by decide) ?_
          exact W.iret (v := (83 : Int32)) hx hb hr (fun t ht hW => ⟨(83 : Int32), rfl, hf.symm, ht⟩) (fun _ h => by cases h) dd_M_code_59
        · have hf := hf.trans (if_neg c4)
          by_cases c5 : p0 = 4
          · have hf := hf.trans (if_pos c5)
            refine lv_tableIn (off := 59) (tgt := 60) hx hb dd_M_code_1 (by rw [c5]; decide) (by rw [c5]; decide) (by rw [c5]; decide) (by decide) ?_
            refine lv_bipush (v := 73) hx hb dd_M_code_60 (by decide) ?_
            exact W.iret (v := (73 : Int32)) hx hb hr (fun t ht hW => ⟨(73 : Int32), rfl, hf.symm, ht⟩) (fun _ h => by cases h) dd_M_code_62
          · have hf := hf.trans (if_neg c5)
            by_cases c6 : p0 = 5
            · have hf := hf.trans (if_pos c6)
              refine lv_tableIn (off := 62) (tgt := 63) hx hb dd_M_code_1 (by rw [c6]; decide) (by rw [c6]; decide) (by rw [c6]; decide) (by decide) ?_
              refine lv_bipush (v := 74) hx hb dd_M_code_63 (by decide) ?_
              exact W.iret (v := (74 : Int32)) hx hb hr (fun t ht hW => ⟨(74 : Int32), rfl, hf.symm, ht⟩) (fun _ h => by cases h) dd_M_code_65
            · have hf := hf.trans (if_neg c6)
              by_cases c7 : p0 = 6
              · have hf := hf.trans (if_pos c7)
                refine lv_tableIn (off := 65) (tgt := 66) hx hb dd_M_code_1 (by rw [c7]; decide) (by rw [c7]; decide) (by rw [c7]; decide) (by decide) ?_
                refine lv_bipush (v := 70) hx hb dd_M_code_66 (by decide) ?_
                exact W.iret (v := (70 : Int32)) hx hb hr (fun t ht hW => ⟨(70 : Int32), rfl, hf.symm, ht⟩) (fun _ h => by cases h) dd_M_code_68
              · have hf := hf.trans (if_neg c7)
                by_cases c8 : p0 = 7
                · have hf := hf.trans (if_pos c8)
                  refine lv_tableIn (off := 68) (tgt := 69) hx hb dd_M_code_1 (by rw [c8]; decide) (by rw [c8]; decide) (by rw [c8]; decide) (by decide) ?_
                  refine lv_bipush (v := 68) hx hb dd_M_code_69 (by decide) ?_
                  exact W.iret (v := (68 : Int32)) hx hb hr (fun t ht hW => ⟨(68 : Int32), rfl, hf.symm, ht⟩) (fun _ h => by cases h) dd_M_code_71
                · have hf := hf.trans (if_neg c8)
                  refine lv_tableOut (tgt := 72) hx hb dd_M_code_1 ?_ (by decide) ?_
                  · rcases sw_tab p0 0 7 8 (by decide) with hsw | ⟨j9, hj9, ej9⟩
                    · exact hsw
                    · exfalso
                      rcases (show j9 = 0 ∨ j9 = 1 ∨ j9 = 2 ∨ j9 = 3 ∨ j9 = 4 ∨ j9 = 5 ∨ j9 = 6 ∨ j9 = 7 by omega) with rfl | rfl | rfl | rfl | rfl | rfl | rfl | rfl
                      · exact c1 (ej9.trans (by decide))
                      · exact c2 (ej9.trans (by decide))
                      · exact c3 (ej9.trans (by decide))
                      · exact c4 (ej9.trans (by decide))
                      · exact c5 (ej9.trans (by decide))
                      · exact c6 (ej9.trans (by decide))
                      · exact c7 (ej9.trans (by decide))
                      · exact c8 (ej9.trans (by decide))
                  · skip
                    refine lv_bipush (v := 86) hx hb dd_M_code_72 (by decide) ?_
                    exact W.iret (v := (86 : Int32)) hx hb hr (fun t ht hW => ⟨(86 : Int32), rfl, hf.symm, ht⟩) (fun _ h => by cases h) dd_M_code_74

def fl_M_describe_66 : Nat → SM → Int32 → Int32 → Int32 → Int32 → Int32 → SM
  | 0, u, _, _, _, _, _ => u
  | n + 1, u, x1, x2, x3, x4, x5 => (if (m_wr u) ≤ x5 then ff_M_letter u (59 : Int32) else (if x2 = 0 then fl_M_describe_66 n u x1 x2 x3 x4 (x5 + 1) else (if (m_out u x5.toNatClampNeg) = 46 then fl_M_describe_66 n (m_u_out u x5 47) x1 x2 x3 x4 (x5 + 1) else fl_M_describe_66 n u x1 x2 x3 x4 (x5 + 1))))
def okl_M_describe_66 : Nat → SM → Int32 → Int32 → Int32 → Int32 → Int32 → Prop
  | 0, _, _, _, _, _, _ => False
  | n + 1, u, x1, x2, x3, x4, x5 => ((((m_wr u) ≤ x5) → ok_M_letter u (59 : Int32)) ∧ (¬ ((m_wr u) ≤ x5) → (((x2 = 0) → okl_M_describe_66 n u x1 x2 x3 x4 (x5 + 1)) ∧ (¬ (x2 = 0) → (vp_in x5 900) ∧ ((((m_out u x5.toNatClampNeg) = 46) → (vp_in x5 900) ∧ okl_M_describe_66 n (m_u_out u x5 47) x1 x2 x3 x4 (x5 + 1)) ∧ (¬ ((m_out u x5.toNatClampNeg) = 46) → okl_M_describe_66 n u x1 x2 x3 x4 (x5 + 1)))))))
def fl_M_describe_2 : Nat → SM → Int32 → Int32 → Int32 → SM
  | 0, u, _, _, _ => u
  | n + 1, u, x1, x2, x3 => (if (m_dims u x1.toNatClampNeg) ≤ x3 then (if 8 < (ff_M_bottom u x1) then fl_M_describe_66 400 (ff_M_name (ff_M_letter u (76 : Int32)) (ff_M_bottom u x1)) x1 x2 (ff_M_bottom u x1) (m_wr (ff_M_letter u (76 : Int32))) (m_wr (ff_M_letter u (76 : Int32))) else ff_M_letter u (ff_M_code (ff_M_bottom u x1))) else fl_M_describe_2 n (ff_M_letter u (91 : Int32)) x1 x2 (x3 + 1))
def okl_M_describe_2 : Nat → SM → Int32 → Int32 → Int32 → Prop
  | 0, _, _, _, _ => False
  | n + 1, u, x1, x2, x3 => (vp_in x1 300) ∧ ((((m_dims u x1.toNatClampNeg) ≤ x3) → (ok_M_bottom u x1) ∧ (((8 < (ff_M_bottom u x1)) → (ok_M_letter u (76 : Int32)) ∧ (ok_M_name (ff_M_letter u (76 : Int32)) (ff_M_bottom u x1)) ∧ okl_M_describe_66 400 (ff_M_name (ff_M_letter u (76 : Int32)) (ff_M_bottom u x1)) x1 x2 (ff_M_bottom u x1) (m_wr (ff_M_letter u (76 : Int32))) (m_wr (ff_M_letter u (76 : Int32)))) ∧ (¬ (8 < (ff_M_bottom u x1)) → ok_M_letter u (ff_M_code (ff_M_bottom u x1))))) ∧ (¬ ((m_dims u x1.toNatClampNeg) ≤ x3) → (ok_M_letter u (91 : Int32)) ∧ okl_M_describe_2 n (ff_M_letter u (91 : Int32)) x1 x2 (x3 + 1)))
def ff_M_describe (u0 : SM) (p0 : Int32) (p1 : Int32) : SM := fl_M_describe_2 400 u0 p0 p1 (0 : Int32)
def ok_M_describe (u0 : SM) (p0 : Int32) (p1 : Int32) : Prop := okl_M_describe_2 400 u0 p0 p1 (0 : Int32)
abbrev ws_M_describe : List Cond := .code yy_M_describe bb_M_describe 6 (none) :: gW
abbrev rm_M_describe : Room := { frames := 4, cells := 0, slots := 0, locals := 87 }
set_option maxHeartbeats 4000000 in
set_option maxRecDepth 100000 in
theorem mm_M_describe (l : Launch) (dC : Nat → ClassId) (dI : Nat → Nat → Nat) (h : Nat) (a : Nat → Nat) (k : Nat → ClassId) (u0 : SM) (p0 : Int32) (p1 : Int32) (hok : ok_M_describe u0 p0 p1) : Met l yy_M_describe ws_M_describe rm_M_describe (va_Pc [.ref h, .int p0, .int p1] (pM dC dI h a k u0)) (va_Qv (fun v : SM => v = ff_M_describe u0 p0 p1) (pM dC dI h a k) (aM h a)) 0 0 (aM h a) := by
  refine Met.ofW (cc := bb_M_describe) (maxL := 6) (ret := (none)) (by decide) rfl ?_
  intro p e s m args below meth c s₁ B hml hv
  obtain ⟨rfl, hP, hK, hD⟩ := hv
  have hx := B.exec
  have hb := B.bytes
  have hr := B.returns
  have hts : ∀ w ∈ gW, w.before _ s = true := fun w h => atoms_spec (ws := ws_M_describe) B.pre w (List.mem_cons_of_mem _ h)
  have hown : s.vm.findClass "ClassObjectMirrorModel" = some m.cls := findClass_of_methodNamed B.named
  have hlocks := B.notSynchronized
  have hS : va_S (aM h a) s.heap s.heap [] := va_S.rf
  have hl := lv_entry ([.ref h, .int p0, .int p1]) (n := 6) (Nat.le_of_ble_eq_true rfl)
  rw [lg_entry_eq]
  generalize (lg_sl ([.ref h, .int p0, .int p1]) ++ List.replicate (6 - (lg_sl ([.ref h, .int p0, .int p1])).length) Slot.unset).toArray = ls at hl ⊢
  have hl : lv_has ls 6 [(0, .ref h), (1, .int p0), (2, .int p1)] := hl
  have hf := ff_M_describe.eq_1 u0 p0 p1
  unfold ok_M_describe at hok
  refine lv_iconst (v := 0) hx hb dd_M_describe_0 (by decide) ?_
  refine lv_istore_n (lv' := [(3, .int 0), (0, .ref h), (1, .int p0), (2, .int p1)]) hx hb dd_M_describe_1 rfl hl (by decide) rfl (fun ls hl => ?_)
  have loop_2 : ∀ (n : Nat) (u : SM) (H : Heap) (locs : List Loc) (x1 : Int32) (x2 : Int32) (x3 : Int32) (ls : Array Slot), okl_M_describe_2 n u x1 x2 x3 → ff_M_describe u0 p0 p1 = fl_M_describe_2 n u x1 x2 x3 → va_P (dC, dI) cls_l (wM h a k u) H → va_D (aM h a) (wM h a k u) → va_S (aM h a) s.heap H locs → lv_has ls 6 [(0, .ref h), (1, .int x1), (2, .int x2), (3, .int x3)] → W p l e (headSpec ws_M_describe rm_M_describe).room s m ([.ref h, .int p0, .int p1] : List Value).toArray below meth c H locs 0 0 (MQ below (va_Qv (fun v : SM => v = ff_M_describe u0 p0 p1) (pM dC dI h a k) (aM h a)) ([.ref h, .int p0, .int p1] : List Value).toArray s 0 0 (aM h a)) (F0 m 2 ls []) := by
    intro n
    induction n with
    | zero => intro u H locs x1 x2 x3 ls hok; exact (show False from hok).elim
    | succ n ih =>
      intro u H locs x1 x2 x3 ls hok hf hP hD hS hl
      rw [fl_M_describe_2] at hf
      rw [okl_M_describe_2] at hok
      refine lv_iload_n hx hb dd_M_describe_2 rfl (lv_at hl 3 rfl) ?_
      refine lv_aload_n hx hb dd_M_describe_3 rfl (lv_at hl 0 rfl) ?_
      refine va_get (D := (dC, dI)) (ci := 0) (v := .ref (a 3)) (C := "ClassObjectMirrorModel") (T := TM) (N := 12) hx hb hts inM hown hK hP 0 rfl rfl 3 (by decide) (hts _ gw_304) (fun _ h9 => h9) rfl dd_M_describe_4 ?_
      refine lv_iload_n hx hb dd_M_describe_7 rfl (lv_at hl 1 rfl) ?_
      obtain ⟨n1, hok⟩ := hok
      refine va_iald hx hb hK hP 4 3 rfl rfl n1 dd_M_describe_8 ?_
      refine lv_icmp_ge (tgt := 24) hx hb dd_M_describe_9 (by decide) (fun c2 => ?_) (fun c2 => ?_)
      · have hf := hf.trans (if_pos c2)
        have hok := hok.1 c2
        refine lv_aload_n hx hb dd_M_describe_24 rfl (lv_at hl 0 rfl) ?_
        refine lv_iload_n hx hb dd_M_describe_25 rfl (lv_at hl 1 rfl) ?_
        obtain ⟨n3, hok⟩ := hok
        refine vp_callSi (W.runV (As := [.int x1]) (rest := []) ⟨hx, hb, hml, hown, hts⟩ (mm_M_bottom l dC dI h a k u x1 n3) (cwV 1 hts (gg_V gw_377 gw_379 gs_22 gw_2 gw_380) rfl rfl rfl (by decide +kernel) ⟨Nat.le_of_ble_eq_true rfl, Nat.le_of_ble_eq_true rfl⟩) ⟨pM_bl, va_recv hK hP (ci := 0) (q0 := 0) rfl rfl, fun U hU hW => ⟨rfl, pM_up hP hK hD hU hW⟩⟩ rfl rfl hl.1 rfl (lv_room (Nat.le_of_ble_eq_true rfl)) dd_M_describe_26 ⟨Nat.zero_le _, Nat.zero_le _⟩) (fun r hr9 => ?_)
        subst hr9
        refine lv_istore_n (lv' := [(3, .int (ff_M_bottom u x1)), (0, .ref h), (1, .int x1), (2, .int x2)]) hx hb dd_M_describe_29 rfl hl (by decide) rfl (fun ls hl => ?_)
        refine lv_iload_n hx hb dd_M_describe_30 rfl (lv_at hl 0 rfl) ?_
        refine lv_bipush (v := 8) hx hb dd_M_describe_31 (by decide) ?_
        refine lv_icmp_gt (tgt := 45) hx hb dd_M_describe_33 (by decide) (fun c4 => ?_) (fun c4 => ?_)
        · have hf := hf.trans (if_pos c4)
          have hok := hok.1 c4
          refine lv_aload_n hx hb dd_M_describe_45 rfl (lv_at hl 1 rfl) ?_
          refine lv_bipush (v := 76) hx hb dd_M_describe_46 (by decide) ?_
          obtain ⟨n5, hok⟩ := hok
          refine va_callv (va_runV (As := [.int 76]) (rest := []) ⟨hx, hb, hml, hown, hts⟩ (mm_M_letter l dC dI h a k u (76 : Int32) n5) (cwV 1 hts (gg_V gw_393 gw_395 gs_24 gw_2 gw_396) rfl rfl rfl (by decide +kernel) ⟨Nat.le_of_ble_eq_true rfl, Nat.le_of_ble_eq_true rfl⟩) ⟨pM_bl, va_recv hK hP (ci := 0) (q0 := 0) rfl rfl, fun U hU hW => ⟨rfl, pM_up hP hK hD hU hW⟩⟩ rfl rfl hl.1 rfl (lv_room (Nat.le_of_ble_eq_true rfl)) dd_M_describe_48 ⟨Nat.zero_le _, Nat.zero_le _⟩) hS (fun q _ h => h) (fun q h => h) (fun v9 t9 H locs ht9 hvm9 hw9 hB9 hz9 hk9 hS => ?_)
          subst hw9
          obtain ⟨hP, -, hD⟩ := hB9
          rw [ht9] at hP
          refine lv_aload_n hx hb dd_M_describe_51 rfl (lv_at hl 1 rfl) ?_
          refine va_get (D := (dC, dI)) (ci := 0) (v := .int (m_wr (ff_M_letter u (76 : Int32)))) (C := "ClassObjectMirrorModel") (T := TM) (N := 12) hx hb hts inM hown hK hP 0 rfl rfl 11 (by decide) (hts _ gw_312) (fun _ h9 => h9) rfl dd_M_describe_52 ?_
          refine lv_istore (lv' := [(4, .int (m_wr (ff_M_letter u (76 : Int32)))), (3, .int (ff_M_bottom u x1)), (0, .ref h), (1, .int x1), (2, .int x2)]) hx hb dd_M_describe_55 hl (by decide) rfl (fun ls hl => ?_)
          refine lv_aload_n hx hb dd_M_describe_57 rfl (lv_at hl 2 rfl) ?_
          refine lv_iload_n hx hb dd_M_describe_58 rfl (lv_at hl 1 rfl) ?_
          obtain ⟨n6, hok⟩ := hok
          refine va_callv (va_runV (As := [.int (ff_M_bottom u x1)]) (rest := []) ⟨hx, hb, hml, hown, hts⟩ (mm_M_name l dC dI h a k (ff_M_letter u (76 : Int32)) (ff_M_bottom u x1) n6) (cwV 1 hts (gg_V gw_400 gw_402 gs_25 gw_2 gw_403) rfl rfl rfl (by decide +kernel) ⟨Nat.le_of_ble_eq_true rfl, Nat.le_of_ble_eq_true rfl⟩) ⟨pM_bl, va_recv hK hP (ci := 0) (q0 := 0) rfl rfl, fun U hU hW => ⟨rfl, pM_up hP hK hD hU hW⟩⟩ rfl rfl hl.1 rfl (lv_room (Nat.le_of_ble_eq_true rfl)) dd_M_describe_59 ⟨Nat.zero_le _, Nat.zero_le _⟩) hS (fun q _ h => h) (fun q h => h) (fun v9 t9 H locs ht9 hvm9 hw9 hB9 hz9 hk9 hS => ?_)
          subst hw9
          obtain ⟨hP, -, hD⟩ := hB9
          rw [ht9] at hP
          refine lv_iload hx hb dd_M_describe_62 (lv_at hl 0 rfl) ?_
          refine lv_istore (lv' := [(5, .int (m_wr (ff_M_letter u (76 : Int32)))), (4, .int (m_wr (ff_M_letter u (76 : Int32)))), (3, .int (ff_M_bottom u x1)), (0, .ref h), (1, .int x1), (2, .int x2)]) hx hb dd_M_describe_64 hl (by decide) rfl (fun ls hl => ?_)
          have loop_66 : ∀ (n : Nat) (u : SM) (H : Heap) (locs : List Loc) (x1 : Int32) (x2 : Int32) (x3 : Int32) (x4 : Int32) (x5 : Int32) (ls : Array Slot), okl_M_describe_66 n u x1 x2 x3 x4 x5 → ff_M_describe u0 p0 p1 = fl_M_describe_66 n u x1 x2 x3 x4 x5 → va_P (dC, dI) cls_l (wM h a k u) H → va_D (aM h a) (wM h a k u) → va_S (aM h a) s.heap H locs → lv_has ls 6 [(0, .ref h), (1, .int x1), (2, .int x2), (3, .int x3), (4, .int x4), (5, .int x5)] → W p l e (headSpec ws_M_describe rm_M_describe).room s m ([.ref h, .int p0, .int p1] : List Value).toArray below meth c H locs 0 0 (MQ below (va_Qv (fun v : SM => v = ff_M_describe u0 p0 p1) (pM dC dI h a k) (aM h a)) ([.ref h, .int p0, .int p1] : List Value).toArray s 0 0 (aM h a)) (F0 m 66 ls []) := by
            intro n
            induction n with
            | zero => intro u H locs x1 x2 x3 x4 x5 ls hok; exact (show False from hok).elim
            | succ n ih =>
              intro u H locs x1 x2 x3 x4 x5 ls hok hf hP hD hS hl
              rw [fl_M_describe_66] at hf
              rw [okl_M_describe_66] at hok
              refine lv_iload hx hb dd_M_describe_66 (lv_at hl 5 rfl) ?_
              refine lv_aload_n hx hb dd_M_describe_68 rfl (lv_at hl 0 rfl) ?_
              refine va_get (D := (dC, dI)) (ci := 0) (v := .int (m_wr u)) (C := "ClassObjectMirrorModel") (T := TM) (N := 12) hx hb hts inM hown hK hP 0 rfl rfl 11 (by decide) (hts _ gw_312) (fun _ h9 => h9) rfl dd_M_describe_69 ?_
              refine lv_icmp_ge (tgt := 106) hx hb dd_M_describe_72 (by decide) (fun c7 => ?_) (fun c7 => ?_)
              · have hf := hf.trans (if_pos c7)
                have hok := hok.1 c7
                refine lv_aload_n hx hb dd_M_describe_106 rfl (lv_at hl 0 rfl) ?_
                refine lv_bipush (v := 59) hx hb dd_M_describe_107 (by decide) ?_
                have n8 := hok
                refine va_callv (va_runV (As := [.int 59]) (rest := []) ⟨hx, hb, hml, hown, hts⟩ (mm_M_letter l dC dI h a k u (59 : Int32) n8) (cwV 1 hts (gg_V gw_393 gw_395 gs_24 gw_2 gw_396) rfl rfl rfl (by decide +kernel) ⟨Nat.le_of_ble_eq_true rfl, Nat.le_of_ble_eq_true rfl⟩) ⟨pM_bl, va_recv hK hP (ci := 0) (q0 := 0) rfl rfl, fun U hU hW => ⟨rfl, pM_up hP hK hD hU hW⟩⟩ rfl rfl hl.1 rfl (lv_room (Nat.le_of_ble_eq_true rfl)) dd_M_describe_109 ⟨Nat.zero_le _, Nat.zero_le _⟩) hS (fun q _ h => h) (fun q h => h) (fun v9 t9 H locs ht9 hvm9 hw9 hB9 hz9 hk9 hS => ?_)
                subst hw9
                obtain ⟨hP, -, hD⟩ := hB9
                rw [ht9] at hP
                exact W.vret hx hb hr (fun t ht hW => ⟨⟨ff_M_letter u (59 : Int32), rfl, hf.symm, pM_up hP hK hD ht hW⟩, hS.F ht⟩) hS.2.2 dd_M_describe_112
              · have hf := hf.trans (if_neg c7)
                have hok := hok.2 c7
                refine lv_iload_n hx hb dd_M_describe_75 rfl (lv_at hl 2 rfl) ?_
                refine lv_if_eq (tgt := 100) hx hb dd_M_describe_76 (by decide) (fun c9 => ?_) (fun c9 => ?_)
                · have hf := hf.trans (if_pos c9)
                  have hok := hok.1 c9
                  refine lv_iinc (v := x5 + 1) (lv' := [(5, .int (x5 + 1)), (0, .ref h), (1, .int x1), (2, .int x2), (3, .int x3), (4, .int x4)]) hx hb dd_M_describe_100 hl (k := 5) rfl rfl (by decide) rfl (fun ls hl => ?_)
                  refine lv_goto (tgt := 66) hx hb dd_M_describe_103 (by decide) ?_
                  exact ih u _ _ x1 x2 x3 x4 (x5 + 1) ls hok hf hP hD hS (lv_sub hl [1, 2, 3, 4, 5, 0] rfl)
                · have hf := hf.trans (if_neg c9)
                  have hok := hok.2 c9
                  refine lv_aload_n hx hb dd_M_describe_79 rfl (lv_at hl 0 rfl) ?_
                  refine va_get (D := (dC, dI)) (ci := 0) (v := .ref (a 8)) (C := "ClassObjectMirrorModel") (T := TM) (N := 12) hx hb hts inM hown hK hP 0 rfl rfl 10 (by decide) (hts _ gw_311) (fun _ h9 => h9) rfl dd_M_describe_80 ?_
                  refine lv_iload hx hb dd_M_describe_83 (lv_at hl 5 rfl) ?_
                  obtain ⟨n10, hok⟩ := hok
                  refine va_iald hx hb hK hP 9 8 rfl rfl n10 dd_M_describe_85 ?_
                  refine lv_bipush (v := 46) hx hb dd_M_describe_86 (by decide) ?_
                  refine lv_icmp_ne (tgt := 100) hx hb dd_M_describe_88 (by decide) (fun c11 => ?_) (fun c11 => ?_)
                  · have hf := hf.trans (if_neg c11)
                    have hok := hok.2 c11
                    refine lv_iinc (v := x5 + 1) (lv' := [(5, .int (x5 + 1)), (0, .ref h), (1, .int x1), (2, .int x2), (3, .int x3), (4, .int x4)]) hx hb dd_M_describe_100 hl (k := 5) rfl rfl (by decide) rfl (fun ls hl => ?_)
                    refine lv_goto (tgt := 66) hx hb dd_M_describe_103 (by decide) ?_
                    exact ih u _ _ x1 x2 x3 x4 (x5 + 1) ls hok hf hP hD hS (lv_sub hl [1, 2, 3, 4, 5, 0] rfl)
                  · have hf := hf.trans (if_pos c11)
                    have hok := hok.1 c11
                    refine lv_aload_n hx hb dd_M_describe_91 rfl (lv_at hl 0 rfl) ?_
                    refine va_get (D := (dC, dI)) (ci := 0) (v := .ref (a 8)) (C := "ClassObjectMirrorModel") (T := TM) (N := 12) hx hb hts inM hown hK hP 0 rfl rfl 10 (by decide) (hts _ gw_311) (fun _ h9 => h9) rfl dd_M_describe_92 ?_
                    refine lv_iload hx hb dd_M_describe_95 (lv_at hl 5 rfl) ?_
                    refine lv_bipush (v := 47) hx hb dd_M_describe_97 (by decide) ?_
                    obtain ⟨n12, hok⟩ := hok
                    refine va_iast hx hb hK hP hD hS 9 8 rfl rfl n12 dd_M_describe_99 (fun H locs hP hD hS => ?_)
                    have hP : va_P (dC, dI) cls_l (wM h a k (m_u_out u x5 47)) H := hP
                    have hD : va_D (aM h a) (wM h a k (m_u_out u x5 47)) := hD
                    refine lv_iinc (v := x5 + 1) (lv' := [(5, .int (x5 + 1)), (0, .ref h), (1, .int x1), (2, .int x2), (3, .int x3), (4, .int x4)]) hx hb dd_M_describe_100 hl (k := 5) rfl rfl (by decide) rfl (fun ls hl => ?_)
                    refine lv_goto (tgt := 66) hx hb dd_M_describe_103 (by decide) ?_
                    exact ih (m_u_out u x5 47) _ _ x1 x2 x3 x4 (x5 + 1) ls hok hf hP hD hS (lv_sub hl [1, 2, 3, 4, 5, 0] rfl)
          exact loop_66 400 (ff_M_name (ff_M_letter u (76 : Int32)) (ff_M_bottom u x1)) _ _ x1 x2 (ff_M_bottom u x1) (m_wr (ff_M_letter u (76 : Int32))) (m_wr (ff_M_letter u (76 : Int32))) ls hok hf hP hD hS (lv_sub hl [3, 4, 5, 2, 1, 0] rfl)
        · have hf := hf.trans (if_neg c4)
          have hok := hok.2 c4
          refine lv_aload_n hx hb dd_M_describe_36 rfl (lv_at hl 1 rfl) ?_
          refine lv_iload_n hx hb dd_M_describe_37 rfl (lv_at hl 0 rfl) ?_
          refine vp_callSi (W.runS (As := [.int (ff_M_bottom u x1)]) (rest := [.ref h]) ⟨hx, hb, hml, hown, hts⟩ (mm_M_code l (ff_M_bottom u x1)) (va_cwS 1 hts (gg_S gw_397 gw_398 gw_2 gw_399) rfl rfl rfl (by decide +kernel) ⟨Nat.le_of_ble_eq_true rfl, Nat.le_of_ble_eq_true rfl⟩) ⟨fun a U g mk q => q, fun U hU hW => ⟨rfl, trivial⟩⟩ rfl rfl hl.1 rfl (lv_room (Nat.le_of_ble_eq_true rfl)) dd_M_describe_38 ⟨Nat.zero_le _, Nat.zero_le _⟩) (fun r hr9 => ?_)
          subst hr9
          have n13 := hok
          refine va_callv (va_runV (As := [.int (ff_M_code (ff_M_bottom u x1))]) (rest := []) ⟨hx, hb, hml, hown, hts⟩ (mm_M_letter l dC dI h a k u (ff_M_code (ff_M_bottom u x1)) n13) (cwV 1 hts (gg_V gw_393 gw_395 gs_24 gw_2 gw_396) rfl rfl rfl (by decide +kernel) ⟨Nat.le_of_ble_eq_true rfl, Nat.le_of_ble_eq_true rfl⟩) ⟨pM_bl, va_recv hK hP (ci := 0) (q0 := 0) rfl rfl, fun U hU hW => ⟨rfl, pM_up hP hK hD hU hW⟩⟩ rfl rfl hl.1 rfl (lv_room (Nat.le_of_ble_eq_true rfl)) dd_M_describe_41 ⟨Nat.zero_le _, Nat.zero_le _⟩) hS (fun q _ h => h) (fun q h => h) (fun v9 t9 H locs ht9 hvm9 hw9 hB9 hz9 hk9 hS => ?_)
          subst hw9
          obtain ⟨hP, -, hD⟩ := hB9
          rw [ht9] at hP
          exact W.vret hx hb hr (fun t ht hW => ⟨⟨ff_M_letter u (ff_M_code (ff_M_bottom u x1)), rfl, hf.symm, pM_up hP hK hD ht hW⟩, hS.F ht⟩) hS.2.2 dd_M_describe_44
      · have hf := hf.trans (if_neg c2)
        have hok := hok.2 c2
        refine lv_aload_n hx hb dd_M_describe_12 rfl (lv_at hl 0 rfl) ?_
        refine lv_bipush (v := 91) hx hb dd_M_describe_13 (by decide) ?_
        obtain ⟨n14, hok⟩ := hok
        refine va_callv (va_runV (As := [.int 91]) (rest := []) ⟨hx, hb, hml, hown, hts⟩ (mm_M_letter l dC dI h a k u (91 : Int32) n14) (cwV 1 hts (gg_V gw_393 gw_395 gs_24 gw_2 gw_396) rfl rfl rfl (by decide +kernel) ⟨Nat.le_of_ble_eq_true rfl, Nat.le_of_ble_eq_true rfl⟩) ⟨pM_bl, va_recv hK hP (ci := 0) (q0 := 0) rfl rfl, fun U hU hW => ⟨rfl, pM_up hP hK hD hU hW⟩⟩ rfl rfl hl.1 rfl (lv_room (Nat.le_of_ble_eq_true rfl)) dd_M_describe_15 ⟨Nat.zero_le _, Nat.zero_le _⟩) hS (fun q _ h => h) (fun q h => h) (fun v9 t9 H locs ht9 hvm9 hw9 hB9 hz9 hk9 hS => ?_)
        subst hw9
        obtain ⟨hP, -, hD⟩ := hB9
        rw [ht9] at hP
        refine lv_iinc (v := x3 + 1) (lv' := [(3, .int (x3 + 1)), (0, .ref h), (1, .int x1), (2, .int x2)]) hx hb dd_M_describe_18 hl (k := 3) rfl rfl (by decide) rfl (fun ls hl => ?_)
        refine lv_goto (tgt := 2) hx hb dd_M_describe_21 (by decide) ?_
        exact ih (ff_M_letter u (91 : Int32)) _ _ x1 x2 (x3 + 1) ls hok hf hP hD hS (lv_sub hl [1, 2, 3, 0] rfl)
  exact loop_2 400 u0 _ _ p0 p1 (0 : Int32) ls hok hf hP hD hS (lv_sub hl [1, 2, 3, 0] rfl)

def fl_M_text_84 : Nat → SM → Int32 → Int32 → Int32 → Int32 → Int32 × SM
  | 0, u, _, _, _, _ => (0, u)
  | n + 1, u, x1, x2, x3, x4 => (if (m_dims u x1.toNatClampNeg) ≤ x4 then (if x3 < 0 then ((-1), u) else (if x3 < (m_wr u) then (m_out u x3.toNatClampNeg, u) else ((-1), u))) else (if x2 = 1 then fl_M_text_84 n (ff_M_letter (ff_M_letter u (91 : Int32)) (93 : Int32)) x1 x2 x3 (x4 + 1) else (if x3 < 0 then ((-1), u) else (if x3 < (m_wr u) then (m_out u x3.toNatClampNeg, u) else ((-1), u)))))
def okl_M_text_84 : Nat → SM → Int32 → Int32 → Int32 → Int32 → Prop
  | 0, _, _, _, _, _ => False
  | n + 1, u, x1, x2, x3, x4 => (vp_in x1 300) ∧ ((((m_dims u x1.toNatClampNeg) ≤ x4) → (((x3 < 0) → True) ∧ (¬ (x3 < 0) → (((x3 < (m_wr u)) → vp_in x3 900) ∧ (¬ (x3 < (m_wr u)) → True))))) ∧ (¬ ((m_dims u x1.toNatClampNeg) ≤ x4) → (((x2 = 1) → (ok_M_letter u (91 : Int32)) ∧ (ok_M_letter (ff_M_letter u (91 : Int32)) (93 : Int32)) ∧ okl_M_text_84 n (ff_M_letter (ff_M_letter u (91 : Int32)) (93 : Int32)) x1 x2 x3 (x4 + 1)) ∧ (¬ (x2 = 1) → (((x3 < 0) → True) ∧ (¬ (x3 < 0) → (((x3 < (m_wr u)) → vp_in x3 900) ∧ (¬ (x3 < (m_wr u)) → True))))))))
def ff_M_text (u0 : SM) (p0 : Int32) (p1 : Int32) (p2 : Int32) : Int32 × SM := (if (ff_M_noType u0 p0) = 0 then (if p1 < 0 then ((-1), u0) else (if p1 ≤ 2 then (if p1 = 2 then fl_M_text_84 400 (ff_M_describe (m_u_wr u0 0) p0 (1 : Int32)) p0 p1 p2 (0 : Int32) else (if p1 = 0 then (if (m_dims (m_u_wr u0 0) p0.toNatClampNeg) ≤ 0 then (if p1 = 0 then fl_M_text_84 400 (ff_M_name (m_u_wr u0 0) p0) p0 p1 p2 (0 : Int32) else fl_M_text_84 400 (ff_M_simple (m_u_wr u0 0) (ff_M_bottom (m_u_wr u0 0) p0)) p0 p1 p2 (0 : Int32)) else fl_M_text_84 400 (ff_M_describe (m_u_wr u0 0) p0 (0 : Int32)) p0 p1 p2 (0 : Int32)) else (if p1 = 0 then fl_M_text_84 400 (ff_M_name (m_u_wr u0 0) p0) p0 p1 p2 (0 : Int32) else fl_M_text_84 400 (ff_M_simple (m_u_wr u0 0) (ff_M_bottom (m_u_wr u0 0) p0)) p0 p1 p2 (0 : Int32)))) else ((-1), u0))) else ((-1), u0))
def ok_M_text (u0 : SM) (p0 : Int32) (p1 : Int32) (p2 : Int32) : Prop := ((((ff_M_noType u0 p0) = 0) → (((p1 < 0) → True) ∧ (¬ (p1 < 0) → (((p1 ≤ 2) → (((p1 = 2) → (ok_M_describe (m_u_wr u0 0) p0 (1 : Int32)) ∧ okl_M_text_84 400 (ff_M_describe (m_u_wr u0 0) p0 (1 : Int32)) p0 p1 p2 (0 : Int32)) ∧ (¬ (p1 = 2) → (((p1 = 0) → (vp_in p0 300) ∧ ((((m_dims (m_u_wr u0 0) p0.toNatClampNeg) ≤ 0) → (((p1 = 0) → (ok_M_name (m_u_wr u0 0) p0) ∧ okl_M_text_84 400 (ff_M_name (m_u_wr u0 0) p0) p0 p1 p2 (0 : Int32)) ∧ (¬ (p1 = 0) → (ok_M_bottom (m_u_wr u0 0) p0) ∧ (ok_M_simple (m_u_wr u0 0) (ff_M_bottom (m_u_wr u0 0) p0)) ∧ okl_M_text_84 400 (ff_M_simple (m_u_wr u0 0) (ff_M_bottom (m_u_wr u0 0) p0)) p0 p1 p2 (0 : Int32)))) ∧ (¬ ((m_dims (m_u_wr u0 0) p0.toNatClampNeg) ≤ 0) → (ok_M_describe (m_u_wr u0 0) p0 (0 : Int32)) ∧ okl_M_text_84 400 (ff_M_describe (m_u_wr u0 0) p0 (0 : Int32)) p0 p1 p2 (0 : Int32)))) ∧ (¬ (p1 = 0) → (((p1 = 0) → (ok_M_name (m_u_wr u0 0) p0) ∧ okl_M_text_84 400 (ff_M_name (m_u_wr u0 0) p0) p0 p1 p2 (0 : Int32)) ∧ (¬ (p1 = 0) → (ok_M_bottom (m_u_wr u0 0) p0) ∧ (ok_M_simple (m_u_wr u0 0) (ff_M_bottom (m_u_wr u0 0) p0)) ∧ okl_M_text_84 400 (ff_M_simple (m_u_wr u0 0) (ff_M_bottom (m_u_wr u0 0) p0)) p0 p1 p2 (0 : Int32)))))))) ∧ (¬ (p1 ≤ 2) → True))))) ∧ (¬ ((ff_M_noType u0 p0) = 0) → True))
abbrev ws_M_text : List Cond := .code yy_M_text bb_M_text 5 (some .int) :: gW
abbrev rm_M_text : Room := { frames := 5, cells := 0, slots := 0, locals := 112 }
set_option maxHeartbeats 4000000 in
set_option maxRecDepth 100000 in
theorem mm_M_text (l : Launch) (dC : Nat → ClassId) (dI : Nat → Nat → Nat) (h : Nat) (a : Nat → Nat) (k : Nat → ClassId) (u0 : SM) (p0 : Int32) (p1 : Int32) (p2 : Int32) (hok : ok_M_text u0 p0 p1 p2) : Met l yy_M_text ws_M_text rm_M_text (va_Pc [.ref h, .int p0, .int p1, .int p2] (pM dC dI h a k u0)) (va_Qi (fun (r : Int32) (v : SM) => (r, v) = ff_M_text u0 p0 p1 p2) (pM dC dI h a k) (aM h a)) 0 0 (aM h a) := by
  refine Met.ofW (cc := bb_M_text) (maxL := 5) (ret := (some .int)) (by decide) rfl ?_
  intro p e s m args below meth c s₁ B hml hv
  obtain ⟨rfl, hP, hK, hD⟩ := hv
  have hx := B.exec
  have hb := B.bytes
  have hr := B.returns
  have hts : ∀ w ∈ gW, w.before _ s = true := fun w h => atoms_spec (ws := ws_M_text) B.pre w (List.mem_cons_of_mem _ h)
  have hown : s.vm.findClass "ClassObjectMirrorModel" = some m.cls := findClass_of_methodNamed B.named
  have hlocks := B.notSynchronized
  have hS : va_S (aM h a) s.heap s.heap [] := va_S.rf
  have hl := lv_entry ([.ref h, .int p0, .int p1, .int p2]) (n := 5) (Nat.le_of_ble_eq_true rfl)
  rw [lg_entry_eq]
  generalize (lg_sl ([.ref h, .int p0, .int p1, .int p2]) ++ List.replicate (5 - (lg_sl ([.ref h, .int p0, .int p1, .int p2])).length) Slot.unset).toArray = ls at hl ⊢
  have hl : lv_has ls 5 [(0, .ref h), (1, .int p0), (2, .int p1), (3, .int p2)] := hl
  have hf := ff_M_text.eq_1 u0 p0 p1 p2
  unfold ok_M_text at hok
  refine lv_aload_n hx hb dd_M_text_0 rfl (lv_at hl 0 rfl) ?_
  refine lv_iload_n hx hb dd_M_text_1 rfl (lv_at hl 1 rfl) ?_
  refine vp_callSi (W.runV (As := [.int p0]) (rest := []) ⟨hx, hb, hml, hown, hts⟩ (mm_M_noType l dC dI h a k u0 p0) (cwV 1 hts (gg_V gw_342 gw_344 gs_18 gw_2 gw_345) rfl rfl rfl (by decide +kernel) ⟨Nat.le_of_ble_eq_true rfl, Nat.le_of_ble_eq_true rfl⟩) ⟨pM_bl, va_recv hK hP (ci := 0) (q0 := 0) rfl rfl, fun U hU hW => ⟨rfl, pM_up hP hK hD hU hW⟩⟩ rfl rfl hl.1 rfl (lv_room (Nat.le_of_ble_eq_true rfl)) dd_M_text_2 ⟨Nat.zero_le _, Nat.zero_le _⟩) (fun r hr9 => ?_)
  subst hr9
  refine lv_if_ne (tgt := 17) hx hb dd_M_text_5 (by decide) (fun c1 => ?_) (fun c1 => ?_)
  · have hf := hf.trans (if_neg c1)
    have hok := hok.2 c1
    refine lv_iconst (v := (-1)) hx hb dd_M_text_17 (by decide) ?_
    exact W.iret (v := ((-1) : Int32)) hx hb hr (fun t ht hW => ⟨⟨((-1) : Int32), u0, rfl, hf.symm, pM_up hP hK hD ht hW⟩, hS.F ht⟩) hS.2.2 dd_M_text_18
  · have hf := hf.trans (if_pos c1)
    have hok := hok.1 c1
    refine lv_iload_n hx hb dd_M_text_8 rfl (lv_at hl 2 rfl) ?_
    refine lv_if_lt (tgt := 17) hx hb dd_M_text_9 (by decide) (fun c2 => ?_) (fun c2 => ?_)
    · have hf := hf.trans (if_pos c2)
      have hok := hok.1 c2
      refine lv_iconst (v := (-1)) hx hb dd_M_text_17 (by decide) ?_
      exact W.iret (v := ((-1) : Int32)) hx hb hr (fun t ht hW => ⟨⟨((-1) : Int32), u0, rfl, hf.symm, pM_up hP hK hD ht hW⟩, hS.F ht⟩) hS.2.2 dd_M_text_18
    · have hf := hf.trans (if_neg c2)
      have hok := hok.2 c2
      refine lv_iload_n hx hb dd_M_text_12 rfl (lv_at hl 2 rfl) ?_
      refine lv_iconst (v := 2) hx hb dd_M_text_13 (by decide) ?_
      refine lv_icmp_le (tgt := 19) hx hb dd_M_text_14 (by decide) (fun c3 => ?_) (fun c3 => ?_)
      · have hf := hf.trans (if_pos c3)
        have hok := hok.1 c3
        refine lv_aload_n hx hb dd_M_text_19 rfl (lv_at hl 0 rfl) ?_
        refine lv_iconst (v := 0) hx hb dd_M_text_20 (by decide) ?_
        refine va_put (D := (dC, dI)) (ci := 0) (v := .int 0) (ty := .int) (C := "ClassObjectMirrorModel") (T := TM) (N := 12) hx hb hts inM tyM tyM_ok nmM hown hK hP hD hS 0 rfl rfl 11 (by decide) (hts _ gw_312) (fun _ h9 => h9) rfl (by decide +kernel) rfl rfl (Nat.le_of_ble_eq_true rfl) dd_M_text_21 (fun H locs hP hD hS => ?_)
        have hP : va_P (dC, dI) cls_l (wM h a k (m_u_wr u0 0)) H := hP
        have hD : va_D (aM h a) (wM h a k (m_u_wr u0 0)) := hD
        refine lv_iload_n hx hb dd_M_text_24 rfl (lv_at hl 2 rfl) ?_
        refine lv_iconst (v := 2) hx hb dd_M_text_25 (by decide) ?_
        refine lv_icmp_ne (tgt := 38) hx hb dd_M_text_26 (by decide) (fun c4 => ?_) (fun c4 => ?_)
        · have hf := hf.trans (if_neg c4)
          have hok := hok.2 c4
          refine lv_iload_n hx hb dd_M_text_38 rfl (lv_at hl 2 rfl) ?_
          refine lv_if_ne (tgt := 60) hx hb dd_M_text_39 (by decide) (fun c5 => ?_) (fun c5 => ?_)
          · have hf := hf.trans (if_neg c5)
            have hok := hok.2 c5
            refine lv_iload_n hx hb dd_M_text_60 rfl (lv_at hl 2 rfl) ?_
            refine lv_if_ne (tgt := 72) hx hb dd_M_text_61 (by decide) (fun c6 => ?_) (fun c6 => ?_)
            · have hf := hf.trans (if_neg c6)
              have hok := hok.2 c6
              refine lv_aload_n hx hb dd_M_text_72 rfl (lv_at hl 0 rfl) ?_
              refine lv_aload_n hx hb dd_M_text_73 rfl (lv_at hl 0 rfl) ?_
              refine lv_iload_n hx hb dd_M_text_74 rfl (lv_at hl 1 rfl) ?_
              obtain ⟨n7, hok⟩ := hok
              refine vp_callSi (W.runV (As := [.int p0]) (rest := [.ref h]) ⟨hx, hb, hml, hown, hts⟩ (mm_M_bottom l dC dI h a k (m_u_wr u0 0) p0 n7) (cwV 1 hts (gg_V gw_377 gw_379 gs_22 gw_2 gw_380) rfl rfl rfl (by decide +kernel) ⟨Nat.le_of_ble_eq_true rfl, Nat.le_of_ble_eq_true rfl⟩) ⟨pM_bl, va_recv hK hP (ci := 0) (q0 := 0) rfl rfl, fun U hU hW => ⟨rfl, pM_up hP hK hD hU hW⟩⟩ rfl rfl hl.1 rfl (lv_room (Nat.le_of_ble_eq_true rfl)) dd_M_text_75 ⟨Nat.zero_le _, Nat.zero_le _⟩) (fun r hr9 => ?_)
              subst hr9
              obtain ⟨n8, hok⟩ := hok
              refine va_callv (va_runV (As := [.int (ff_M_bottom (m_u_wr u0 0) p0)]) (rest := []) ⟨hx, hb, hml, hown, hts⟩ (mm_M_simple l dC dI h a k (m_u_wr u0 0) (ff_M_bottom (m_u_wr u0 0) p0) n8) (cwV 1 hts (gg_V gw_415 gw_417 gs_27 gw_2 gw_418) rfl rfl rfl (by decide +kernel) ⟨Nat.le_of_ble_eq_true rfl, Nat.le_of_ble_eq_true rfl⟩) ⟨pM_bl, va_recv hK hP (ci := 0) (q0 := 0) rfl rfl, fun U hU hW => ⟨rfl, pM_up hP hK hD hU hW⟩⟩ rfl rfl hl.1 rfl (lv_room (Nat.le_of_ble_eq_true rfl)) dd_M_text_78 ⟨Nat.zero_le _, Nat.zero_le _⟩) hS (fun q _ h => h) (fun q h => h) (fun v9 t9 H locs ht9 hvm9 hw9 hB9 hz9 hk9 hS => ?_)
              subst hw9
              obtain ⟨hP, -, hD⟩ := hB9
              rw [ht9] at hP
              refine lv_iconst (v := 0) hx hb dd_M_text_81 (by decide) ?_
              refine lv_istore (lv' := [(4, .int 0), (0, .ref h), (1, .int p0), (2, .int p1), (3, .int p2)]) hx hb dd_M_text_82 hl (by decide) rfl (fun ls hl => ?_)
              have loop_84 : ∀ (n : Nat) (u : SM) (H : Heap) (locs : List Loc) (x1 : Int32) (x2 : Int32) (x3 : Int32) (x4 : Int32) (ls : Array Slot), okl_M_text_84 n u x1 x2 x3 x4 → ff_M_text u0 p0 p1 p2 = fl_M_text_84 n u x1 x2 x3 x4 → va_P (dC, dI) cls_l (wM h a k u) H → va_D (aM h a) (wM h a k u) → va_S (aM h a) s.heap H locs → lv_has ls 5 [(0, .ref h), (1, .int x1), (2, .int x2), (3, .int x3), (4, .int x4)] → W p l e (headSpec ws_M_text rm_M_text).room s m ([.ref h, .int p0, .int p1, .int p2] : List Value).toArray below meth c H locs 0 0 (MQ below (va_Qi (fun (r : Int32) (v : SM) => (r, v) = ff_M_text u0 p0 p1 p2) (pM dC dI h a k) (aM h a)) ([.ref h, .int p0, .int p1, .int p2] : List Value).toArray s 0 0 (aM h a)) (F0 m 84 ls []) := by
                intro n
                induction n with
                | zero => intro u H locs x1 x2 x3 x4 ls hok; exact (show False from hok).elim
                | succ n ih =>
                  intro u H locs x1 x2 x3 x4 ls hok hf hP hD hS hl
                  rw [fl_M_text_84] at hf
                  rw [okl_M_text_84] at hok
                  refine lv_iload hx hb dd_M_text_84 (lv_at hl 4 rfl) ?_
                  refine lv_aload_n hx hb dd_M_text_86 rfl (lv_at hl 0 rfl) ?_
                  refine va_get (D := (dC, dI)) (ci := 0) (v := .ref (a 3)) (C := "ClassObjectMirrorModel") (T := TM) (N := 12) hx hb hts inM hown hK hP 0 rfl rfl 3 (by decide) (hts _ gw_304) (fun _ h9 => h9) rfl dd_M_text_87 ?_
                  refine lv_iload_n hx hb dd_M_text_90 rfl (lv_at hl 1 rfl) ?_
                  obtain ⟨n9, hok⟩ := hok
                  refine va_iald hx hb hK hP 4 3 rfl rfl n9 dd_M_text_91 ?_
                  refine lv_icmp_ge (tgt := 118) hx hb dd_M_text_92 (by decide) (fun c10 => ?_) (fun c10 => ?_)
                  · have hf := hf.trans (if_pos c10)
                    have hok := hok.1 c10
                    refine lv_iload_n hx hb dd_M_text_118 rfl (lv_at hl 3 rfl) ?_
                    refine lv_if_lt (tgt := 130) hx hb dd_M_text_119 (by decide) (fun c11 => ?_) (fun c11 => ?_)
                    · have hf := hf.trans (if_pos c11)
                      have hok := hok.1 c11
                      refine lv_iconst (v := (-1)) hx hb dd_M_text_130 (by decide) ?_
                      refine lv_goto (tgt := 140) hx hb dd_M_text_131 (by decide) ?_
                      exact W.iret (v := ((-1) : Int32)) hx hb hr (fun t ht hW => ⟨⟨((-1) : Int32), u, rfl, hf.symm, pM_up hP hK hD ht hW⟩, hS.F ht⟩) hS.2.2 dd_M_text_140
                    · have hf := hf.trans (if_neg c11)
                      have hok := hok.2 c11
                      refine lv_iload_n hx hb dd_M_text_122 rfl (lv_at hl 3 rfl) ?_
                      refine lv_aload_n hx hb dd_M_text_123 rfl (lv_at hl 0 rfl) ?_
                      refine va_get (D := (dC, dI)) (ci := 0) (v := .int (m_wr u)) (C := "ClassObjectMirrorModel") (T := TM) (N := 12) hx hb hts inM hown hK hP 0 rfl rfl 11 (by decide) (hts _ gw_312) (fun _ h9 => h9) rfl dd_M_text_124 ?_
                      refine lv_icmp_lt (tgt := 134) hx hb dd_M_text_127 (by decide) (fun c12 => ?_) (fun c12 => ?_)
                      · have hf := hf.trans (if_pos c12)
                        have hok := hok.1 c12
                        refine lv_aload_n hx hb dd_M_text_134 rfl (lv_at hl 0 rfl) ?_
                        refine va_get (D := (dC, dI)) (ci := 0) (v := .ref (a 8)) (C := "ClassObjectMirrorModel") (T := TM) (N := 12) hx hb hts inM hown hK hP 0 rfl rfl 10 (by decide) (hts _ gw_311) (fun _ h9 => h9) rfl dd_M_text_135 ?_
                        refine lv_iload_n hx hb dd_M_text_138 rfl (lv_at hl 3 rfl) ?_
                        have n13 := hok
                        refine va_iald hx hb hK hP 9 8 rfl rfl n13 dd_M_text_139 ?_
                        exact W.iret (v := (m_out u x3.toNatClampNeg)) hx hb hr (fun t ht hW => ⟨⟨(m_out u x3.toNatClampNeg), u, rfl, hf.symm, pM_up hP hK hD ht hW⟩, hS.F ht⟩) hS.2.2 dd_M_text_140
                      · have hf := hf.trans (if_neg c12)
                        have hok := hok.2 c12
                        refine lv_iconst (v := (-1)) hx hb dd_M_text_130 (by decide) ?_
                        refine lv_goto (tgt := 140) hx hb dd_M_text_131 (by decide) ?_
                        exact W.iret (v := ((-1) : Int32)) hx hb hr (fun t ht hW => ⟨⟨((-1) : Int32), u, rfl, hf.symm, pM_up hP hK hD ht hW⟩, hS.F ht⟩) hS.2.2 dd_M_text_140
                  · have hf := hf.trans (if_neg c10)
                    have hok := hok.2 c10
                    refine lv_iload_n hx hb dd_M_text_95 rfl (lv_at hl 2 rfl) ?_
                    refine lv_iconst (v := 1) hx hb dd_M_text_96 (by decide) ?_
                    refine lv_icmp_ne (tgt := 118) hx hb dd_M_text_97 (by decide) (fun c14 => ?_) (fun c14 => ?_)
                    · have hf := hf.trans (if_neg c14)
                      have hok := hok.2 c14
                      refine lv_iload_n hx hb dd_M_text_118 rfl (lv_at hl 3 rfl) ?_
                      refine lv_if_lt (tgt := 130) hx hb dd_M_text_119 (by decide) (fun c15 => ?_) (fun c15 => ?_)
                      · have hf := hf.trans (if_pos c15)
                        have hok := hok.1 c15
                        refine lv_iconst (v := (-1)) hx hb dd_M_text_130 (by decide) ?_
                        refine lv_goto (tgt := 140) hx hb dd_M_text_131 (by decide) ?_
                        exact W.iret (v := ((-1) : Int32)) hx hb hr (fun t ht hW => ⟨⟨((-1) : Int32), u, rfl, hf.symm, pM_up hP hK hD ht hW⟩, hS.F ht⟩) hS.2.2 dd_M_text_140
                      · have hf := hf.trans (if_neg c15)
                        have hok := hok.2 c15
                        refine lv_iload_n hx hb dd_M_text_122 rfl (lv_at hl 3 rfl) ?_
                        refine lv_aload_n hx hb dd_M_text_123 rfl (lv_at hl 0 rfl) ?_
                        refine va_get (D := (dC, dI)) (ci := 0) (v := .int (m_wr u)) (C := "ClassObjectMirrorModel") (T := TM) (N := 12) hx hb hts inM hown hK hP 0 rfl rfl 11 (by decide) (hts _ gw_312) (fun _ h9 => h9) rfl dd_M_text_124 ?_
                        refine lv_icmp_lt (tgt := 134) hx hb dd_M_text_127 (by decide) (fun c16 => ?_) (fun c16 => ?_)
                        · have hf := hf.trans (if_pos c16)
                          have hok := hok.1 c16
                          refine lv_aload_n hx hb dd_M_text_134 rfl (lv_at hl 0 rfl) ?_
                          refine va_get (D := (dC, dI)) (ci := 0) (v := .ref (a 8)) (C := "ClassObjectMirrorModel") (T := TM) (N := 12) hx hb hts inM hown hK hP 0 rfl rfl 10 (by decide) (hts _ gw_311) (fun _ h9 => h9) rfl dd_M_text_135 ?_
                          refine lv_iload_n hx hb dd_M_text_138 rfl (lv_at hl 3 rfl) ?_
                          have n17 := hok
                          refine va_iald hx hb hK hP 9 8 rfl rfl n17 dd_M_text_139 ?_
                          exact W.iret (v := (m_out u x3.toNatClampNeg)) hx hb hr (fun t ht hW => ⟨⟨(m_out u x3.toNatClampNeg), u, rfl, hf.symm, pM_up hP hK hD ht hW⟩, hS.F ht⟩) hS.2.2 dd_M_text_140
                        · have hf := hf.trans (if_neg c16)
                          have hok := hok.2 c16
                          refine lv_iconst (v := (-1)) hx hb dd_M_text_130 (by decide) ?_
                          refine lv_goto (tgt := 140) hx hb dd_M_text_131 (by decide) ?_
                          exact W.iret (v := ((-1) : Int32)) hx hb hr (fun t ht hW => ⟨⟨((-1) : Int32), u, rfl, hf.symm, pM_up hP hK hD ht hW⟩, hS.F ht⟩) hS.2.2 dd_M_text_140
                    · have hf := hf.trans (if_pos c14)
                      have hok := hok.1 c14
                      refine lv_aload_n hx hb dd_M_text_100 rfl (lv_at hl 0 rfl) ?_
                      refine lv_bipush (v := 91) hx hb dd_M_text_101 (by decide) ?_
                      obtain ⟨n18, hok⟩ := hok
                      refine va_callv (va_runV (As := [.int 91]) (rest := []) ⟨hx, hb, hml, hown, hts⟩ (mm_M_letter l dC dI h a k u (91 : Int32) n18) (cwV 1 hts (gg_V gw_393 gw_395 gs_24 gw_2 gw_396) rfl rfl rfl (by decide +kernel) ⟨Nat.le_of_ble_eq_true rfl, Nat.le_of_ble_eq_true rfl⟩) ⟨pM_bl, va_recv hK hP (ci := 0) (q0 := 0) rfl rfl, fun U hU hW => ⟨rfl, pM_up hP hK hD hU hW⟩⟩ rfl rfl hl.1 rfl (lv_room (Nat.le_of_ble_eq_true rfl)) dd_M_text_103 ⟨Nat.zero_le _, Nat.zero_le _⟩) hS (fun q _ h => h) (fun q h => h) (fun v9 t9 H locs ht9 hvm9 hw9 hB9 hz9 hk9 hS => ?_)
                      subst hw9
                      obtain ⟨hP, -, hD⟩ := hB9
                      rw [ht9] at hP
                      refine lv_aload_n hx hb dd_M_text_106 rfl (lv_at hl 0 rfl) ?_
                      refine lv_bipush (v := 93) hx hb dd_M_text_107 (by decide) ?_
                      obtain ⟨n19, hok⟩ := hok
                      refine va_callv (va_runV (As := [.int 93]) (rest := []) ⟨hx, hb, hml, hown, hts⟩ (mm_M_letter l dC dI h a k (ff_M_letter u (91 : Int32)) (93 : Int32) n19) (cwV 1 hts (gg_V gw_393 gw_395 gs_24 gw_2 gw_396) rfl rfl rfl (by decide +kernel) ⟨Nat.le_of_ble_eq_true rfl, Nat.le_of_ble_eq_true rfl⟩) ⟨pM_bl, va_recv hK hP (ci := 0) (q0 := 0) rfl rfl, fun U hU hW => ⟨rfl, pM_up hP hK hD hU hW⟩⟩ rfl rfl hl.1 rfl (lv_room (Nat.le_of_ble_eq_true rfl)) dd_M_text_109 ⟨Nat.zero_le _, Nat.zero_le _⟩) hS (fun q _ h => h) (fun q h => h) (fun v9 t9 H locs ht9 hvm9 hw9 hB9 hz9 hk9 hS => ?_)
                      subst hw9
                      obtain ⟨hP, -, hD⟩ := hB9
                      rw [ht9] at hP
                      refine lv_iinc (v := x4 + 1) (lv' := [(4, .int (x4 + 1)), (0, .ref h), (1, .int x1), (2, .int x2), (3, .int x3)]) hx hb dd_M_text_112 hl (k := 4) rfl rfl (by decide) rfl (fun ls hl => ?_)
                      refine lv_goto (tgt := 84) hx hb dd_M_text_115 (by decide) ?_
                      exact ih (ff_M_letter (ff_M_letter u (91 : Int32)) (93 : Int32)) _ _ x1 x2 x3 (x4 + 1) ls hok hf hP hD hS (lv_sub hl [1, 2, 3, 4, 0] rfl)
              exact loop_84 400 (ff_M_simple (m_u_wr u0 0) (ff_M_bottom (m_u_wr u0 0) p0)) _ _ p0 p1 p2 (0 : Int32) ls hok hf hP hD hS (lv_sub hl [1, 2, 3, 4, 0] rfl)
            · have hf := hf.trans (if_pos c6)
              have hok := hok.1 c6
              refine lv_aload_n hx hb dd_M_text_64 rfl (lv_at hl 0 rfl) ?_
              refine lv_iload_n hx hb dd_M_text_65 rfl (lv_at hl 1 rfl) ?_
              obtain ⟨n20, hok⟩ := hok
              refine va_callv (va_runV (As := [.int p0]) (rest := []) ⟨hx, hb, hml, hown, hts⟩ (mm_M_name l dC dI h a k (m_u_wr u0 0) p0 n20) (cwV 1 hts (gg_V gw_400 gw_402 gs_25 gw_2 gw_403) rfl rfl rfl (by decide +kernel) ⟨Nat.le_of_ble_eq_true rfl, Nat.le_of_ble_eq_true rfl⟩) ⟨pM_bl, va_recv hK hP (ci := 0) (q0 := 0) rfl rfl, fun U hU hW => ⟨rfl, pM_up hP hK hD hU hW⟩⟩ rfl rfl hl.1 rfl (lv_room (Nat.le_of_ble_eq_true rfl)) dd_M_text_66 ⟨Nat.zero_le _, Nat.zero_le _⟩) hS (fun q _ h => h) (fun q h => h) (fun v9 t9 H locs ht9 hvm9 hw9 hB9 hz9 hk9 hS => ?_)
              subst hw9
              obtain ⟨hP, -, hD⟩ := hB9
              rw [ht9] at hP
              refine lv_goto (tgt := 81) hx hb dd_M_text_69 (by decide) ?_
              refine lv_iconst (v := 0) hx hb dd_M_text_81 (by decide) ?_
              refine lv_istore (lv' := [(4, .int 0), (0, .ref h), (1, .int p0), (2, .int p1), (3, .int p2)]) hx hb dd_M_text_82 hl (by decide) rfl (fun ls hl => ?_)
              have loop_84 : ∀ (n : Nat) (u : SM) (H : Heap) (locs : List Loc) (x1 : Int32) (x2 : Int32) (x3 : Int32) (x4 : Int32) (ls : Array Slot), okl_M_text_84 n u x1 x2 x3 x4 → ff_M_text u0 p0 p1 p2 = fl_M_text_84 n u x1 x2 x3 x4 → va_P (dC, dI) cls_l (wM h a k u) H → va_D (aM h a) (wM h a k u) → va_S (aM h a) s.heap H locs → lv_has ls 5 [(0, .ref h), (1, .int x1), (2, .int x2), (3, .int x3), (4, .int x4)] → W p l e (headSpec ws_M_text rm_M_text).room s m ([.ref h, .int p0, .int p1, .int p2] : List Value).toArray below meth c H locs 0 0 (MQ below (va_Qi (fun (r : Int32) (v : SM) => (r, v) = ff_M_text u0 p0 p1 p2) (pM dC dI h a k) (aM h a)) ([.ref h, .int p0, .int p1, .int p2] : List Value).toArray s 0 0 (aM h a)) (F0 m 84 ls []) := by
                intro n
                induction n with
                | zero => intro u H locs x1 x2 x3 x4 ls hok; exact (show False from hok).elim
                | succ n ih =>
                  intro u H locs x1 x2 x3 x4 ls hok hf hP hD hS hl
                  rw [fl_M_text_84] at hf
                  rw [okl_M_text_84] at hok
                  refine lv_iload hx hb dd_M_text_84 (lv_at hl 4 rfl) ?_
                  refine lv_aload_n hx hb dd_M_text_86 rfl (lv_at hl 0 rfl) ?_
                  refine va_get (D := (dC, dI)) (ci := 0) (v := .ref (a 3)) (C := "ClassObjectMirrorModel") (T := TM) (N := 12) hx hb hts inM hown hK hP 0 rfl rfl 3 (by decide) (hts _ gw_304) (fun _ h9 => h9) rfl dd_M_text_87 ?_
                  refine lv_iload_n hx hb dd_M_text_90 rfl (lv_at hl 1 rfl) ?_
                  obtain ⟨n21, hok⟩ := hok
                  refine va_iald hx hb hK hP 4 3 rfl rfl n21 dd_M_text_91 ?_
                  refine lv_icmp_ge (tgt := 118) hx hb dd_M_text_92 (by decide) (fun c22 => ?_) (fun c22 => ?_)
                  · have hf := hf.trans (if_pos c22)
                    have hok := hok.1 c22
                    refine lv_iload_n hx hb dd_M_text_118 rfl (lv_at hl 3 rfl) ?_
                    refine lv_if_lt (tgt := 130) hx hb dd_M_text_119 (by decide) (fun c23 => ?_) (fun c23 => ?_)
                    · have hf := hf.trans (if_pos c23)
                      have hok := hok.1 c23
                      refine lv_iconst (v := (-1)) hx hb dd_M_text_130 (by decide) ?_
                      refine lv_goto (tgt := 140) hx hb dd_M_text_131 (by decide) ?_
                      exact W.iret (v := ((-1) : Int32)) hx hb hr (fun t ht hW => ⟨⟨((-1) : Int32), u, rfl, hf.symm, pM_up hP hK hD ht hW⟩, hS.F ht⟩) hS.2.2 dd_M_text_140
                    · have hf := hf.trans (if_neg c23)
                      have hok := hok.2 c23
                      refine lv_iload_n hx hb dd_M_text_122 rfl (lv_at hl 3 rfl) ?_
                      refine lv_aload_n hx hb dd_M_text_123 rfl (lv_at hl 0 rfl) ?_
                      refine va_get (D := (dC, dI)) (ci := 0) (v := .int (m_wr u)) (C := "ClassObjectMirrorModel") (T := TM) (N := 12) hx hb hts inM hown hK hP 0 rfl rfl 11 (by decide) (hts _ gw_312) (fun _ h9 => h9) rfl dd_M_text_124 ?_
                      refine lv_icmp_lt (tgt := 134) hx hb dd_M_text_127 (by decide) (fun c24 => ?_) (fun c24 => ?_)
                      · have hf := hf.trans (if_pos c24)
                        have hok := hok.1 c24
                        refine lv_aload_n hx hb dd_M_text_134 rfl (lv_at hl 0 rfl) ?_
                        refine va_get (D := (dC, dI)) (ci := 0) (v := .ref (a 8)) (C := "ClassObjectMirrorModel") (T := TM) (N := 12) hx hb hts inM hown hK hP 0 rfl rfl 10 (by decide) (hts _ gw_311) (fun _ h9 => h9) rfl dd_M_text_135 ?_
                        refine lv_iload_n hx hb dd_M_text_138 rfl (lv_at hl 3 rfl) ?_
                        have n25 := hok
                        refine va_iald hx hb hK hP 9 8 rfl rfl n25 dd_M_text_139 ?_
                        exact W.iret (v := (m_out u x3.toNatClampNeg)) hx hb hr (fun t ht hW => ⟨⟨(m_out u x3.toNatClampNeg), u, rfl, hf.symm, pM_up hP hK hD ht hW⟩, hS.F ht⟩) hS.2.2 dd_M_text_140
                      · have hf := hf.trans (if_neg c24)
                        have hok := hok.2 c24
                        refine lv_iconst (v := (-1)) hx hb dd_M_text_130 (by decide) ?_
                        refine lv_goto (tgt := 140) hx hb dd_M_text_131 (by decide) ?_
                        exact W.iret (v := ((-1) : Int32)) hx hb hr (fun t ht hW => ⟨⟨((-1) : Int32), u, rfl, hf.symm, pM_up hP hK hD ht hW⟩, hS.F ht⟩) hS.2.2 dd_M_text_140
                  · have hf := hf.trans (if_neg c22)
                    have hok := hok.2 c22
                    refine lv_iload_n hx hb dd_M_text_95 rfl (lv_at hl 2 rfl) ?_
                    refine lv_iconst (v := 1) hx hb dd_M_text_96 (by decide) ?_
                    refine lv_icmp_ne (tgt := 118) hx hb dd_M_text_97 (by decide) (fun c26 => ?_) (fun c26 => ?_)
                    · have hf := hf.trans (if_neg c26)
                      have hok := hok.2 c26
                      refine lv_iload_n hx hb dd_M_text_118 rfl (lv_at hl 3 rfl) ?_
                      refine lv_if_lt (tgt := 130) hx hb dd_M_text_119 (by decide) (fun c27 => ?_) (fun c27 => ?_)
                      · have hf := hf.trans (if_pos c27)
                        have hok := hok.1 c27
                        refine lv_iconst (v := (-1)) hx hb dd_M_text_130 (by decide) ?_
                        refine lv_goto (tgt := 140) hx hb dd_M_text_131 (by decide) ?_
                        exact W.iret (v := ((-1) : Int32)) hx hb hr (fun t ht hW => ⟨⟨((-1) : Int32), u, rfl, hf.symm, pM_up hP hK hD ht hW⟩, hS.F ht⟩) hS.2.2 dd_M_text_140
                      · have hf := hf.trans (if_neg c27)
                        have hok := hok.2 c27
                        refine lv_iload_n hx hb dd_M_text_122 rfl (lv_at hl 3 rfl) ?_
                        refine lv_aload_n hx hb dd_M_text_123 rfl (lv_at hl 0 rfl) ?_
                        refine va_get (D := (dC, dI)) (ci := 0) (v := .int (m_wr u)) (C := "ClassObjectMirrorModel") (T := TM) (N := 12) hx hb hts inM hown hK hP 0 rfl rfl 11 (by decide) (hts _ gw_312) (fun _ h9 => h9) rfl dd_M_text_124 ?_
                        refine lv_icmp_lt (tgt := 134) hx hb dd_M_text_127 (by decide) (fun c28 => ?_) (fun c28 => ?_)
                        · have hf := hf.trans (if_pos c28)
                          have hok := hok.1 c28
                          refine lv_aload_n hx hb dd_M_text_134 rfl (lv_at hl 0 rfl) ?_
                          refine va_get (D := (dC, dI)) (ci := 0) (v := .ref (a 8)) (C := "ClassObjectMirrorModel") (T := TM) (N := 12) hx hb hts inM hown hK hP 0 rfl rfl 10 (by decide) (hts _ gw_311) (fun _ h9 => h9) rfl dd_M_text_135 ?_
                          refine lv_iload_n hx hb dd_M_text_138 rfl (lv_at hl 3 rfl) ?_
                          have n29 := hok
                          refine va_iald hx hb hK hP 9 8 rfl rfl n29 dd_M_text_139 ?_
                          exact W.iret (v := (m_out u x3.toNatClampNeg)) hx hb hr (fun t ht hW => ⟨⟨(m_out u x3.toNatClampNeg), u, rfl, hf.symm, pM_up hP hK hD ht hW⟩, hS.F ht⟩) hS.2.2 dd_M_text_140
                        · have hf := hf.trans (if_neg c28)
                          have hok := hok.2 c28
                          refine lv_iconst (v := (-1)) hx hb dd_M_text_130 (by decide) ?_
                          refine lv_goto (tgt := 140) hx hb dd_M_text_131 (by decide) ?_
                          exact W.iret (v := ((-1) : Int32)) hx hb hr (fun t ht hW => ⟨⟨((-1) : Int32), u, rfl, hf.symm, pM_up hP hK hD ht hW⟩, hS.F ht⟩) hS.2.2 dd_M_text_140
                    · have hf := hf.trans (if_pos c26)
                      have hok := hok.1 c26
                      refine lv_aload_n hx hb dd_M_text_100 rfl (lv_at hl 0 rfl) ?_
                      refine lv_bipush (v := 91) hx hb dd_M_text_101 (by decide) ?_
                      obtain ⟨n30, hok⟩ := hok
                      refine va_callv (va_runV (As := [.int 91]) (rest := []) ⟨hx, hb, hml, hown, hts⟩ (mm_M_letter l dC dI h a k u (91 : Int32) n30) (cwV 1 hts (gg_V gw_393 gw_395 gs_24 gw_2 gw_396) rfl rfl rfl (by decide +kernel) ⟨Nat.le_of_ble_eq_true rfl, Nat.le_of_ble_eq_true rfl⟩) ⟨pM_bl, va_recv hK hP (ci := 0) (q0 := 0) rfl rfl, fun U hU hW => ⟨rfl, pM_up hP hK hD hU hW⟩⟩ rfl rfl hl.1 rfl (lv_room (Nat.le_of_ble_eq_true rfl)) dd_M_text_103 ⟨Nat.zero_le _, Nat.zero_le _⟩) hS (fun q _ h => h) (fun q h => h) (fun v9 t9 H locs ht9 hvm9 hw9 hB9 hz9 hk9 hS => ?_)
                      subst hw9
                      obtain ⟨hP, -, hD⟩ := hB9
                      rw [ht9] at hP
                      refine lv_aload_n hx hb dd_M_text_106 rfl (lv_at hl 0 rfl) ?_
                      refine lv_bipush (v := 93) hx hb dd_M_text_107 (by decide) ?_
                      obtain ⟨n31, hok⟩ := hok
                      refine va_callv (va_runV (As := [.int 93]) (rest := []) ⟨hx, hb, hml, hown, hts⟩ (mm_M_letter l dC dI h a k (ff_M_letter u (91 : Int32)) (93 : Int32) n31) (cwV 1 hts (gg_V gw_393 gw_395 gs_24 gw_2 gw_396) rfl rfl rfl (by decide +kernel) ⟨Nat.le_of_ble_eq_true rfl, Nat.le_of_ble_eq_true rfl⟩) ⟨pM_bl, va_recv hK hP (ci := 0) (q0 := 0) rfl rfl, fun U hU hW => ⟨rfl, pM_up hP hK hD hU hW⟩⟩ rfl rfl hl.1 rfl (lv_room (Nat.le_of_ble_eq_true rfl)) dd_M_text_109 ⟨Nat.zero_le _, Nat.zero_le _⟩) hS (fun q _ h => h) (fun q h => h) (fun v9 t9 H locs ht9 hvm9 hw9 hB9 hz9 hk9 hS => ?_)
                      subst hw9
                      obtain ⟨hP, -, hD⟩ := hB9
                      rw [ht9] at hP
                      refine lv_iinc (v := x4 + 1) (lv' := [(4, .int (x4 + 1)), (0, .ref h), (1, .int x1), (2, .int x2), (3, .int x3)]) hx hb dd_M_text_112 hl (k := 4) rfl rfl (by decide) rfl (fun ls hl => ?_)
                      refine lv_goto (tgt := 84) hx hb dd_M_text_115 (by decide) ?_
                      exact ih (ff_M_letter (ff_M_letter u (91 : Int32)) (93 : Int32)) _ _ x1 x2 x3 (x4 + 1) ls hok hf hP hD hS (lv_sub hl [1, 2, 3, 4, 0] rfl)
              exact loop_84 400 (ff_M_name (m_u_wr u0 0) p0) _ _ p0 p1 p2 (0 : Int32) ls hok hf hP hD hS (lv_sub hl [1, 2, 3, 4, 0] rfl)
          · have hf := hf.trans (if_pos c5)
            have hok := hok.1 c5
            refine lv_aload_n hx hb dd_M_text_42 rfl (lv_at hl 0 rfl) ?_
            refine va_get (D := (dC, dI)) (ci := 0) (v := .ref (a 3)) (C := "ClassObjectMirrorModel") (T := TM) (N := 12) hx hb hts inM hown hK hP 0 rfl rfl 3 (by decide) (hts _ gw_304) (fun _ h9 => h9) rfl dd_M_text_43 ?_
            refine lv_iload_n hx hb dd_M_text_46 rfl (lv_at hl 1 rfl) ?_
            obtain ⟨n32, hok⟩ := hok
            refine va_iald hx hb hK hP 4 3 rfl rfl n32 dd_M_text_47 ?_
            refine lv_if_le (tgt := 60) hx hb dd_M_text_48 (by decide) (fun c33 => ?_) (fun c33 => ?_)
            · have hf := hf.trans (if_pos c33)
              have hok := hok.1 c33
              refine lv_iload_n hx hb dd_M_text_60 rfl (lv_at hl 2 rfl) ?_
              refine lv_if_ne (tgt := 72) hx hb dd_M_text_61 (by decide) (fun c34 => ?_) (fun c34 => ?_)
              · have hf := hf.trans (if_neg c34)
                have hok := hok.2 c34
                refine lv_aload_n hx hb dd_M_text_72 rfl (lv_at hl 0 rfl) ?_
                refine lv_aload_n hx hb dd_M_text_73 rfl (lv_at hl 0 rfl) ?_
                refine lv_iload_n hx hb dd_M_text_74 rfl (lv_at hl 1 rfl) ?_
                obtain ⟨n35, hok⟩ := hok
                refine vp_callSi (W.runV (As := [.int p0]) (rest := [.ref h]) ⟨hx, hb, hml, hown, hts⟩ (mm_M_bottom l dC dI h a k (m_u_wr u0 0) p0 n35) (cwV 1 hts (gg_V gw_377 gw_379 gs_22 gw_2 gw_380) rfl rfl rfl (by decide +kernel) ⟨Nat.le_of_ble_eq_true rfl, Nat.le_of_ble_eq_true rfl⟩) ⟨pM_bl, va_recv hK hP (ci := 0) (q0 := 0) rfl rfl, fun U hU hW => ⟨rfl, pM_up hP hK hD hU hW⟩⟩ rfl rfl hl.1 rfl (lv_room (Nat.le_of_ble_eq_true rfl)) dd_M_text_75 ⟨Nat.zero_le _, Nat.zero_le _⟩) (fun r hr9 => ?_)
                subst hr9
                obtain ⟨n36, hok⟩ := hok
                refine va_callv (va_runV (As := [.int (ff_M_bottom (m_u_wr u0 0) p0)]) (rest := []) ⟨hx, hb, hml, hown, hts⟩ (mm_M_simple l dC dI h a k (m_u_wr u0 0) (ff_M_bottom (m_u_wr u0 0) p0) n36) (cwV 1 hts (gg_V gw_415 gw_417 gs_27 gw_2 gw_418) rfl rfl rfl (by decide +kernel) ⟨Nat.le_of_ble_eq_true rfl, Nat.le_of_ble_eq_true rfl⟩) ⟨pM_bl, va_recv hK hP (ci := 0) (q0 := 0) rfl rfl, fun U hU hW => ⟨rfl, pM_up hP hK hD hU hW⟩⟩ rfl rfl hl.1 rfl (lv_room (Nat.le_of_ble_eq_true rfl)) dd_M_text_78 ⟨Nat.zero_le _, Nat.zero_le _⟩) hS (fun q _ h => h) (fun q h => h) (fun v9 t9 H locs ht9 hvm9 hw9 hB9 hz9 hk9 hS => ?_)
                subst hw9
                obtain ⟨hP, -, hD⟩ := hB9
                rw [ht9] at hP
                refine lv_iconst (v := 0) hx hb dd_M_text_81 (by decide) ?_
                refine lv_istore (lv' := [(4, .int 0), (0, .ref h), (1, .int p0), (2, .int p1), (3, .int p2)]) hx hb dd_M_text_82 hl (by decide) rfl (fun ls hl => ?_)
                have loop_84 : ∀ (n : Nat) (u : SM) (H : Heap) (locs : List Loc) (x1 : Int32) (x2 : Int32) (x3 : Int32) (x4 : Int32) (ls : Array Slot), okl_M_text_84 n u x1 x2 x3 x4 → ff_M_text u0 p0 p1 p2 = fl_M_text_84 n u x1 x2 x3 x4 → va_P (dC, dI) cls_l (wM h a k u) H → va_D (aM h a) (wM h a k u) → va_S (aM h a) s.heap H locs → lv_has ls 5 [(0, .ref h), (1, .int x1), (2, .int x2), (3, .int x3), (4, .int x4)] → W p l e (headSpec ws_M_text rm_M_text).room s m ([.ref h, .int p0, .int p1, .int p2] : List Value).toArray below meth c H locs 0 0 (MQ below (va_Qi (fun (r : Int32) (v : SM) => (r, v) = ff_M_text u0 p0 p1 p2) (pM dC dI h a k) (aM h a)) ([.ref h, .int p0, .int p1, .int p2] : List Value).toArray s 0 0 (aM h a)) (F0 m 84 ls []) := by
                  intro n
                  induction n with
                  | zero => intro u H locs x1 x2 x3 x4 ls hok; exact (show False from hok).elim
                  | succ n ih =>
                    intro u H locs x1 x2 x3 x4 ls hok hf hP hD hS hl
                    rw [fl_M_text_84] at hf
                    rw [okl_M_text_84] at hok
                    refine lv_iload hx hb dd_M_text_84 (lv_at hl 4 rfl) ?_
                    refine lv_aload_n hx hb dd_M_text_86 rfl (lv_at hl 0 rfl) ?_
                    refine va_get (D := (dC, dI)) (ci := 0) (v := .ref (a 3)) (C := "ClassObjectMirrorModel") (T := TM) (N := 12) hx hb hts inM hown hK hP 0 rfl rfl 3 (by decide) (hts _ gw_304) (fun _ h9 => h9) rfl dd_M_text_87 ?_
                    refine lv_iload_n hx hb dd_M_text_90 rfl (lv_at hl 1 rfl) ?_
                    obtain ⟨n37, hok⟩ := hok
                    refine va_iald hx hb hK hP 4 3 rfl rfl n37 dd_M_text_91 ?_
                    refine lv_icmp_ge (tgt := 118) hx hb dd_M_text_92 (by decide) (fun c38 => ?_) (fun c38 => ?_)
                    · have hf := hf.trans (if_pos c38)
                      have hok := hok.1 c38
                      refine lv_iload_n hx hb dd_M_text_118 rfl (lv_at hl 3 rfl) ?_
                      refine lv_if_lt (tgt := 130) hx hb dd_M_text_119 (by decide) (fun c39 => ?_) (fun c39 => ?_)
                      · have hf := hf.trans (if_pos c39)
                        have hok := hok.1 c39
                        refine lv_iconst (v := (-1)) hx hb dd_M_text_130 (by decide) ?_
                        refine lv_goto (tgt := 140) hx hb dd_M_text_131 (by decide) ?_
                        exact W.iret (v := ((-1) : Int32)) hx hb hr (fun t ht hW => ⟨⟨((-1) : Int32), u, rfl, hf.symm, pM_up hP hK hD ht hW⟩, hS.F ht⟩) hS.2.2 dd_M_text_140
                      · have hf := hf.trans (if_neg c39)
                        have hok := hok.2 c39
                        refine lv_iload_n hx hb dd_M_text_122 rfl (lv_at hl 3 rfl) ?_
                        refine lv_aload_n hx hb dd_M_text_123 rfl (lv_at hl 0 rfl) ?_
                        refine va_get (D := (dC, dI)) (ci := 0) (v := .int (m_wr u)) (C := "ClassObjectMirrorModel") (T := TM) (N := 12) hx hb hts inM hown hK hP 0 rfl rfl 11 (by decide) (hts _ gw_312) (fun _ h9 => h9) rfl dd_M_text_124 ?_
                        refine lv_icmp_lt (tgt := 134) hx hb dd_M_text_127 (by decide) (fun c40 => ?_) (fun c40 => ?_)
                        · have hf := hf.trans (if_pos c40)
                          have hok := hok.1 c40
                          refine lv_aload_n hx hb dd_M_text_134 rfl (lv_at hl 0 rfl) ?_
                          refine va_get (D := (dC, dI)) (ci := 0) (v := .ref (a 8)) (C := "ClassObjectMirrorModel") (T := TM) (N := 12) hx hb hts inM hown hK hP 0 rfl rfl 10 (by decide) (hts _ gw_311) (fun _ h9 => h9) rfl dd_M_text_135 ?_
                          refine lv_iload_n hx hb dd_M_text_138 rfl (lv_at hl 3 rfl) ?_
                          have n41 := hok
                          refine va_iald hx hb hK hP 9 8 rfl rfl n41 dd_M_text_139 ?_
                          exact W.iret (v := (m_out u x3.toNatClampNeg)) hx hb hr (fun t ht hW => ⟨⟨(m_out u x3.toNatClampNeg), u, rfl, hf.symm, pM_up hP hK hD ht hW⟩, hS.F ht⟩) hS.2.2 dd_M_text_140
                        · have hf := hf.trans (if_neg c40)
                          have hok := hok.2 c40
                          refine lv_iconst (v := (-1)) hx hb dd_M_text_130 (by decide) ?_
                          refine lv_goto (tgt := 140) hx hb dd_M_text_131 (by decide) ?_
                          exact W.iret (v := ((-1) : Int32)) hx hb hr (fun t ht hW => ⟨⟨((-1) : Int32), u, rfl, hf.symm, pM_up hP hK hD ht hW⟩, hS.F ht⟩) hS.2.2 dd_M_text_140
                    · have hf := hf.trans (if_neg c38)
                      have hok := hok.2 c38
                      refine lv_iload_n hx hb dd_M_text_95 rfl (lv_at hl 2 rfl) ?_
                      refine lv_iconst (v := 1) hx hb dd_M_text_96 (by decide) ?_
                      refine lv_icmp_ne (tgt := 118) hx hb dd_M_text_97 (by decide) (fun c42 => ?_) (fun c42 => ?_)
                      · have hf := hf.trans (if_neg c42)
                        have hok := hok.2 c42
                        refine lv_iload_n hx hb dd_M_text_118 rfl (lv_at hl 3 rfl) ?_
                        refine lv_if_lt (tgt := 130) hx hb dd_M_text_119 (by decide) (fun c43 => ?_) (fun c43 => ?_)
                        · have hf := hf.trans (if_pos c43)
                          have hok := hok.1 c43
                          refine lv_iconst (v := (-1)) hx hb dd_M_text_130 (by decide) ?_
                          refine lv_goto (tgt := 140) hx hb dd_M_text_131 (by decide) ?_
                          exact W.iret (v := ((-1) : Int32)) hx hb hr (fun t ht hW => ⟨⟨((-1) : Int32), u, rfl, hf.symm, pM_up hP hK hD ht hW⟩, hS.F ht⟩) hS.2.2 dd_M_text_140
                        · have hf := hf.trans (if_neg c43)
                          have hok := hok.2 c43
                          refine lv_iload_n hx hb dd_M_text_122 rfl (lv_at hl 3 rfl) ?_
                          refine lv_aload_n hx hb dd_M_text_123 rfl (lv_at hl 0 rfl) ?_
                          refine va_get (D := (dC, dI)) (ci := 0) (v := .int (m_wr u)) (C := "ClassObjectMirrorModel") (T := TM) (N := 12) hx hb hts inM hown hK hP 0 rfl rfl 11 (by decide) (hts _ gw_312) (fun _ h9 => h9) rfl dd_M_text_124 ?_
                          refine lv_icmp_lt (tgt := 134) hx hb dd_M_text_127 (by decide) (fun c44 => ?_) (fun c44 => ?_)
                          · have hf := hf.trans (if_pos c44)
                            have hok := hok.1 c44
                            refine lv_aload_n hx hb dd_M_text_134 rfl (lv_at hl 0 rfl) ?_
                            refine va_get (D := (dC, dI)) (ci := 0) (v := .ref (a 8)) (C := "ClassObjectMirrorModel") (T := TM) (N := 12) hx hb hts inM hown hK hP 0 rfl rfl 10 (by decide) (hts _ gw_311) (fun _ h9 => h9) rfl dd_M_text_135 ?_
                            refine lv_iload_n hx hb dd_M_text_138 rfl (lv_at hl 3 rfl) ?_
                            have n45 := hok
                            refine va_iald hx hb hK hP 9 8 rfl rfl n45 dd_M_text_139 ?_
                            exact W.iret (v := (m_out u x3.toNatClampNeg)) hx hb hr (fun t ht hW => ⟨⟨(m_out u x3.toNatClampNeg), u, rfl, hf.symm, pM_up hP hK hD ht hW⟩, hS.F ht⟩) hS.2.2 dd_M_text_140
                          · have hf := hf.trans (if_neg c44)
                            have hok := hok.2 c44
                            refine lv_iconst (v := (-1)) hx hb dd_M_text_130 (by decide) ?_
                            refine lv_goto (tgt := 140) hx hb dd_M_text_131 (by decide) ?_
                            exact W.iret (v := ((-1) : Int32)) hx hb hr (fun t ht hW => ⟨⟨((-1) : Int32), u, rfl, hf.symm, pM_up hP hK hD ht hW⟩, hS.F ht⟩) hS.2.2 dd_M_text_140
                      · have hf := hf.trans (if_pos c42)
                        have hok := hok.1 c42
                        refine lv_aload_n hx hb dd_M_text_100 rfl (lv_at hl 0 rfl) ?_
                        refine lv_bipush (v := 91) hx hb dd_M_text_101 (by decide) ?_
                        obtain ⟨n46, hok⟩ := hok
                        refine va_callv (va_runV (As := [.int 91]) (rest := []) ⟨hx, hb, hml, hown, hts⟩ (mm_M_letter l dC dI h a k u (91 : Int32) n46) (cwV 1 hts (gg_V gw_393 gw_395 gs_24 gw_2 gw_396) rfl rfl rfl (by decide +kernel) ⟨Nat.le_of_ble_eq_true rfl, Nat.le_of_ble_eq_true rfl⟩) ⟨pM_bl, va_recv hK hP (ci := 0) (q0 := 0) rfl rfl, fun U hU hW => ⟨rfl, pM_up hP hK hD hU hW⟩⟩ rfl rfl hl.1 rfl (lv_room (Nat.le_of_ble_eq_true rfl)) dd_M_text_103 ⟨Nat.zero_le _, Nat.zero_le _⟩) hS (fun q _ h => h) (fun q h => h) (fun v9 t9 H locs ht9 hvm9 hw9 hB9 hz9 hk9 hS => ?_)
                        subst hw9
                        obtain ⟨hP, -, hD⟩ := hB9
                        rw [ht9] at hP
                        refine lv_aload_n hx hb dd_M_text_106 rfl (lv_at hl 0 rfl) ?_
                        refine lv_bipush (v := 93) hx hb dd_M_text_107 (by decide) ?_
                        obtain ⟨n47, hok⟩ := hok
                        refine va_callv (va_runV (As := [.int 93]) (rest := []) ⟨hx, hb, hml, hown, hts⟩ (mm_M_letter l dC dI h a k (ff_M_letter u (91 : Int32)) (93 : Int32) n47) (cwV 1 hts (gg_V gw_393 gw_395 gs_24 gw_2 gw_396) rfl rfl rfl (by decide +kernel) ⟨Nat.le_of_ble_eq_true rfl, Nat.le_of_ble_eq_true rfl⟩) ⟨pM_bl, va_recv hK hP (ci := 0) (q0 := 0) rfl rfl, fun U hU hW => ⟨rfl, pM_up hP hK hD hU hW⟩⟩ rfl rfl hl.1 rfl (lv_room (Nat.le_of_ble_eq_true rfl)) dd_M_text_109 ⟨Nat.zero_le _, Nat.zero_le _⟩) hS (fun q _ h => h) (fun q h => h) (fun v9 t9 H locs ht9 hvm9 hw9 hB9 hz9 hk9 hS => ?_)
                        subst hw9
                        obtain ⟨hP, -, hD⟩ := hB9
                        rw [ht9] at hP
                        refine lv_iinc (v := x4 + 1) (lv' := [(4, .int (x4 + 1)), (0, .ref h), (1, .int x1), (2, .int x2), (3, .int x3)]) hx hb dd_M_text_112 hl (k := 4) rfl rfl (by decide) rfl (fun ls hl => ?_)
                        refine lv_goto (tgt := 84) hx hb dd_M_text_115 (by decide) ?_
                        exact ih (ff_M_letter (ff_M_letter u (91 : Int32)) (93 : Int32)) _ _ x1 x2 x3 (x4 + 1) ls hok hf hP hD hS (lv_sub hl [1, 2, 3, 4, 0] rfl)
                exact loop_84 400 (ff_M_simple (m_u_wr u0 0) (ff_M_bottom (m_u_wr u0 0) p0)) _ _ p0 p1 p2 (0 : Int32) ls hok hf hP hD hS (lv_sub hl [1, 2, 3, 4, 0] rfl)
              · have hf := hf.trans (if_pos c34)
                have hok := hok.1 c34
                refine lv_aload_n hx hb dd_M_text_64 rfl (lv_at hl 0 rfl) ?_
                refine lv_iload_n hx hb dd_M_text_65 rfl (lv_at hl 1 rfl) ?_
                obtain ⟨n48, hok⟩ := hok
                refine va_callv (va_runV (As := [.int p0]) (rest := []) ⟨hx, hb, hml, hown, hts⟩ (mm_M_name l dC dI h a k (m_u_wr u0 0) p0 n48) (cwV 1 hts (gg_V gw_400 gw_402 gs_25 gw_2 gw_403) rfl rfl rfl (by decide +kernel) ⟨Nat.le_of_ble_eq_true rfl, Nat.le_of_ble_eq_true rfl⟩) ⟨pM_bl, va_recv hK hP (ci := 0) (q0 := 0) rfl rfl, fun U hU hW => ⟨rfl, pM_up hP hK hD hU hW⟩⟩ rfl rfl hl.1 rfl (lv_room (Nat.le_of_ble_eq_true rfl)) dd_M_text_66 ⟨Nat.zero_le _, Nat.zero_le _⟩) hS (fun q _ h => h) (fun q h => h) (fun v9 t9 H locs ht9 hvm9 hw9 hB9 hz9 hk9 hS => ?_)
                subst hw9
                obtain ⟨hP, -, hD⟩ := hB9
                rw [ht9] at hP
                refine lv_goto (tgt := 81) hx hb dd_M_text_69 (by decide) ?_
                refine lv_iconst (v := 0) hx hb dd_M_text_81 (by decide) ?_
                refine lv_istore (lv' := [(4, .int 0), (0, .ref h), (1, .int p0), (2, .int p1), (3, .int p2)]) hx hb dd_M_text_82 hl (by decide) rfl (fun ls hl => ?_)
                have loop_84 : ∀ (n : Nat) (u : SM) (H : Heap) (locs : List Loc) (x1 : Int32) (x2 : Int32) (x3 : Int32) (x4 : Int32) (ls : Array Slot), okl_M_text_84 n u x1 x2 x3 x4 → ff_M_text u0 p0 p1 p2 = fl_M_text_84 n u x1 x2 x3 x4 → va_P (dC, dI) cls_l (wM h a k u) H → va_D (aM h a) (wM h a k u) → va_S (aM h a) s.heap H locs → lv_has ls 5 [(0, .ref h), (1, .int x1), (2, .int x2), (3, .int x3), (4, .int x4)] → W p l e (headSpec ws_M_text rm_M_text).room s m ([.ref h, .int p0, .int p1, .int p2] : List Value).toArray below meth c H locs 0 0 (MQ below (va_Qi (fun (r : Int32) (v : SM) => (r, v) = ff_M_text u0 p0 p1 p2) (pM dC dI h a k) (aM h a)) ([.ref h, .int p0, .int p1, .int p2] : List Value).toArray s 0 0 (aM h a)) (F0 m 84 ls []) := by
                  intro n
                  induction n with
                  | zero => intro u H locs x1 x2 x3 x4 ls hok; exact (show False from hok).elim
                  | succ n ih =>
                    intro u H locs x1 x2 x3 x4 ls hok hf hP hD hS hl
                    rw [fl_M_text_84] at hf
                    rw [okl_M_text_84] at hok
                    refine lv_iload hx hb dd_M_text_84 (lv_at hl 4 rfl) ?_
                    refine lv_aload_n hx hb dd_M_text_86 rfl (lv_at hl 0 rfl) ?_
                    refine va_get (D := (dC, dI)) (ci := 0) (v := .ref (a 3)) (C := "ClassObjectMirrorModel") (T := TM) (N := 12) hx hb hts inM hown hK hP 0 rfl rfl 3 (by decide) (hts _ gw_304) (fun _ h9 => h9) rfl dd_M_text_87 ?_
                    refine lv_iload_n hx hb dd_M_text_90 rfl (lv_at hl 1 rfl) ?_
                    obtain ⟨n49, hok⟩ := hok
                    refine va_iald hx hb hK hP 4 3 rfl rfl n49 dd_M_text_91 ?_
                    refine lv_icmp_ge (tgt := 118) hx hb dd_M_text_92 (by decide) (fun c50 => ?_) (fun c50 => ?_)
                    · have hf := hf.trans (if_pos c50)
                      have hok := hok.1 c50
                      refine lv_iload_n hx hb dd_M_text_118 rfl (lv_at hl 3 rfl) ?_
                      refine lv_if_lt (tgt := 130) hx hb dd_M_text_119 (by decide) (fun c51 => ?_) (fun c51 => ?_)
                      · have hf := hf.trans (if_pos c51)
                        have hok := hok.1 c51
                        refine lv_iconst (v := (-1)) hx hb dd_M_text_130 (by decide) ?_
                        refine lv_goto (tgt := 140) hx hb dd_M_text_131 (by decide) ?_
                        exact W.iret (v := ((-1) : Int32)) hx hb hr (fun t ht hW => ⟨⟨((-1) : Int32), u, rfl, hf.symm, pM_up hP hK hD ht hW⟩, hS.F ht⟩) hS.2.2 dd_M_text_140
                      · have hf := hf.trans (if_neg c51)
                        have hok := hok.2 c51
                        refine lv_iload_n hx hb dd_M_text_122 rfl (lv_at hl 3 rfl) ?_
                        refine lv_aload_n hx hb dd_M_text_123 rfl (lv_at hl 0 rfl) ?_
                        refine va_get (D := (dC, dI)) (ci := 0) (v := .int (m_wr u)) (C := "ClassObjectMirrorModel") (T := TM) (N := 12) hx hb hts inM hown hK hP 0 rfl rfl 11 (by decide) (hts _ gw_312) (fun _ h9 => h9) rfl dd_M_text_124 ?_
                        refine lv_icmp_lt (tgt := 134) hx hb dd_M_text_127 (by decide) (fun c52 => ?_) (fun c52 => ?_)
                        · have hf := hf.trans (if_pos c52)
                          have hok := hok.1 c52
                          refine lv_aload_n hx hb dd_M_text_134 rfl (lv_at hl 0 rfl) ?_
                          refine va_get (D := (dC, dI)) (ci := 0) (v := .ref (a 8)) (C := "ClassObjectMirrorModel") (T := TM) (N := 12) hx hb hts inM hown hK hP 0 rfl rfl 10 (by decide) (hts _ gw_311) (fun _ h9 => h9) rfl dd_M_text_135 ?_
                          refine lv_iload_n hx hb dd_M_text_138 rfl (lv_at hl 3 rfl) ?_
                          have n53 := hok
                          refine va_iald hx hb hK hP 9 8 rfl rfl n53 dd_M_text_139 ?_
                          exact W.iret (v := (m_out u x3.toNatClampNeg)) hx hb hr (fun t ht hW => ⟨⟨(m_out u x3.toNatClampNeg), u, rfl, hf.symm, pM_up hP hK hD ht hW⟩, hS.F ht⟩) hS.2.2 dd_M_text_140
                        · have hf := hf.trans (if_neg c52)
                          have hok := hok.2 c52
                          refine lv_iconst (v := (-1)) hx hb dd_M_text_130 (by decide) ?_
                          refine lv_goto (tgt := 140) hx hb dd_M_text_131 (by decide) ?_
                          exact W.iret (v := ((-1) : Int32)) hx hb hr (fun t ht hW => ⟨⟨((-1) : Int32), u, rfl, hf.symm, pM_up hP hK hD ht hW⟩, hS.F ht⟩) hS.2.2 dd_M_text_140
                    · have hf := hf.trans (if_neg c50)
                      have hok := hok.2 c50
                      refine lv_iload_n hx hb dd_M_text_95 rfl (lv_at hl 2 rfl) ?_
                      refine lv_iconst (v := 1) hx hb dd_M_text_96 (by decide) ?_
                      refine lv_icmp_ne (tgt := 118) hx hb dd_M_text_97 (by decide) (fun c54 => ?_) (fun c54 => ?_)
                      · have hf := hf.trans (if_neg c54)
                        have hok := hok.2 c54
                        refine lv_iload_n hx hb dd_M_text_118 rfl (lv_at hl 3 rfl) ?_
                        refine lv_if_lt (tgt := 130) hx hb dd_M_text_119 (by decide) (fun c55 => ?_) (fun c55 => ?_)
                        · have hf := hf.trans (if_pos c55)
                          have hok := hok.1 c55
                          refine lv_iconst (v := (-1)) hx hb dd_M_text_130 (by decide) ?_
                          refine lv_goto (tgt := 140) hx hb dd_M_text_131 (by decide) ?_
                          exact W.iret (v := ((-1) : Int32)) hx hb hr (fun t ht hW => ⟨⟨((-1) : Int32), u, rfl, hf.symm, pM_up hP hK hD ht hW⟩, hS.F ht⟩) hS.2.2 dd_M_text_140
                        · have hf := hf.trans (if_neg c55)
                          have hok := hok.2 c55
                          refine lv_iload_n hx hb dd_M_text_122 rfl (lv_at hl 3 rfl) ?_
                          refine lv_aload_n hx hb dd_M_text_123 rfl (lv_at hl 0 rfl) ?_
                          refine va_get (D := (dC, dI)) (ci := 0) (v := .int (m_wr u)) (C := "ClassObjectMirrorModel") (T := TM) (N := 12) hx hb hts inM hown hK hP 0 rfl rfl 11 (by decide) (hts _ gw_312) (fun _ h9 => h9) rfl dd_M_text_124 ?_
                          refine lv_icmp_lt (tgt := 134) hx hb dd_M_text_127 (by decide) (fun c56 => ?_) (fun c56 => ?_)
                          · have hf := hf.trans (if_pos c56)
                            have hok := hok.1 c56
                            refine lv_aload_n hx hb dd_M_text_134 rfl (lv_at hl 0 rfl) ?_
                            refine va_get (D := (dC, dI)) (ci := 0) (v := .ref (a 8)) (C := "ClassObjectMirrorModel") (T := TM) (N := 12) hx hb hts inM hown hK hP 0 rfl rfl 10 (by decide) (hts _ gw_311) (fun _ h9 => h9) rfl dd_M_text_135 ?_
                            refine lv_iload_n hx hb dd_M_text_138 rfl (lv_at hl 3 rfl) ?_
                            have n57 := hok
                            refine va_iald hx hb hK hP 9 8 rfl rfl n57 dd_M_text_139 ?_
                            exact W.iret (v := (m_out u x3.toNatClampNeg)) hx hb hr (fun t ht hW => ⟨⟨(m_out u x3.toNatClampNeg), u, rfl, hf.symm, pM_up hP hK hD ht hW⟩, hS.F ht⟩) hS.2.2 dd_M_text_140
                          · have hf := hf.trans (if_neg c56)
                            have hok := hok.2 c56
                            refine lv_iconst (v := (-1)) hx hb dd_M_text_130 (by decide) ?_
                            refine lv_goto (tgt := 140) hx hb dd_M_text_131 (by decide) ?_
                            exact W.iret (v := ((-1) : Int32)) hx hb hr (fun t ht hW => ⟨⟨((-1) : Int32), u, rfl, hf.symm, pM_up hP hK hD ht hW⟩, hS.F ht⟩) hS.2.2 dd_M_text_140
                      · have hf := hf.trans (if_pos c54)
                        have hok := hok.1 c54
                        refine lv_aload_n hx hb dd_M_text_100 rfl (lv_at hl 0 rfl) ?_
                        refine lv_bipush (v := 91) hx hb dd_M_text_101 (by decide) ?_
                        obtain ⟨n58, hok⟩ := hok
                        refine va_callv (va_runV (As := [.int 91]) (rest := []) ⟨hx, hb, hml, hown, hts⟩ (mm_M_letter l dC dI h a k u (91 : Int32) n58) (cwV 1 hts (gg_V gw_393 gw_395 gs_24 gw_2 gw_396) rfl rfl rfl (by decide +kernel) ⟨Nat.le_of_ble_eq_true rfl, Nat.le_of_ble_eq_true rfl⟩) ⟨pM_bl, va_recv hK hP (ci := 0) (q0 := 0) rfl rfl, fun U hU hW => ⟨rfl, pM_up hP hK hD hU hW⟩⟩ rfl rfl hl.1 rfl (lv_room (Nat.le_of_ble_eq_true rfl)) dd_M_text_103 ⟨Nat.zero_le _, Nat.zero_le _⟩) hS (fun q _ h => h) (fun q h => h) (fun v9 t9 H locs ht9 hvm9 hw9 hB9 hz9 hk9 hS => ?_)
                        subst hw9
                        obtain ⟨hP, -, hD⟩ := hB9
                        rw [ht9] at hP
                        refine lv_aload_n hx hb dd_M_text_106 rfl (lv_at hl 0 rfl) ?_
                        refine lv_bipush (v := 93) hx hb dd_M_text_107 (by decide) ?_
                        obtain ⟨n59, hok⟩ := hok
                        refine va_callv (va_runV (As := [.int 93]) (rest := []) ⟨hx, hb, hml, hown, hts⟩ (mm_M_letter l dC dI h a k (ff_M_letter u (91 : Int32)) (93 : Int32) n59) (cwV 1 hts (gg_V gw_393 gw_395 gs_24 gw_2 gw_396) rfl rfl rfl (by decide +kernel) ⟨Nat.le_of_ble_eq_true rfl, Nat.le_of_ble_eq_true rfl⟩) ⟨pM_bl, va_recv hK hP (ci := 0) (q0 := 0) rfl rfl, fun U hU hW => ⟨rfl, pM_up hP hK hD hU hW⟩⟩ rfl rfl hl.1 rfl (lv_room (Nat.le_of_ble_eq_true rfl)) dd_M_text_109 ⟨Nat.zero_le _, Nat.zero_le _⟩) hS (fun q _ h => h) (fun q h => h) (fun v9 t9 H locs ht9 hvm9 hw9 hB9 hz9 hk9 hS => ?_)
                        subst hw9
                        obtain ⟨hP, -, hD⟩ := hB9
                        rw [ht9] at hP
                        refine lv_iinc (v := x4 + 1) (lv' := [(4, .int (x4 + 1)), (0, .ref h), (1, .int x1), (2, .int x2), (3, .int x3)]) hx hb dd_M_text_112 hl (k := 4) rfl rfl (by decide) rfl (fun ls hl => ?_)
                        refine lv_goto (tgt := 84) hx hb dd_M_text_115 (by decide) ?_
                        exact ih (ff_M_letter (ff_M_letter u (91 : Int32)) (93 : Int32)) _ _ x1 x2 x3 (x4 + 1) ls hok hf hP hD hS (lv_sub hl [1, 2, 3, 4, 0] rfl)
                exact loop_84 400 (ff_M_name (m_u_wr u0 0) p0) _ _ p0 p1 p2 (0 : Int32) ls hok hf hP hD hS (lv_sub hl [1, 2, 3, 4, 0] rfl)
            · have hf := hf.trans (if_neg c33)
              have hok := hok.2 c33
              refine lv_aload_n hx hb dd_M_text_51 rfl (lv_at hl 0 rfl) ?_
              refine lv_iload_n hx hb dd_M_text_52 rfl (lv_at hl 1 rfl) ?_
              refine lv_iconst (v := 0) hx hb dd_M_text_53 (by decide) ?_
              obtain ⟨n60, hok⟩ := hok
              refine va_callv (va_runV (As := [.int p0, .int 0]) (rest := []) ⟨hx, hb, hml, hown, hts⟩ (mm_M_describe l dC dI h a k (m_u_wr u0 0) p0 (0 : Int32) n60) (cwV 2 hts (gg_V gw_389 gw_391 gs_23 gw_2 gw_392) rfl rfl rfl (by decide +kernel) ⟨Nat.le_of_ble_eq_true rfl, Nat.le_of_ble_eq_true rfl⟩) ⟨pM_bl, va_recv hK hP (ci := 0) (q0 := 0) rfl rfl, fun U hU hW => ⟨rfl, pM_up hP hK hD hU hW⟩⟩ rfl rfl hl.1 rfl (lv_room (Nat.le_of_ble_eq_true rfl)) dd_M_text_54 ⟨Nat.zero_le _, Nat.zero_le _⟩) hS (fun q _ h => h) (fun q h => h) (fun v9 t9 H locs ht9 hvm9 hw9 hB9 hz9 hk9 hS => ?_)
              subst hw9
              obtain ⟨hP, -, hD⟩ := hB9
              rw [ht9] at hP
              refine lv_goto (tgt := 81) hx hb dd_M_text_57 (by decide) ?_
              refine lv_iconst (v := 0) hx hb dd_M_text_81 (by decide) ?_
              refine lv_istore (lv' := [(4, .int 0), (0, .ref h), (1, .int p0), (2, .int p1), (3, .int p2)]) hx hb dd_M_text_82 hl (by decide) rfl (fun ls hl => ?_)
              have loop_84 : ∀ (n : Nat) (u : SM) (H : Heap) (locs : List Loc) (x1 : Int32) (x2 : Int32) (x3 : Int32) (x4 : Int32) (ls : Array Slot), okl_M_text_84 n u x1 x2 x3 x4 → ff_M_text u0 p0 p1 p2 = fl_M_text_84 n u x1 x2 x3 x4 → va_P (dC, dI) cls_l (wM h a k u) H → va_D (aM h a) (wM h a k u) → va_S (aM h a) s.heap H locs → lv_has ls 5 [(0, .ref h), (1, .int x1), (2, .int x2), (3, .int x3), (4, .int x4)] → W p l e (headSpec ws_M_text rm_M_text).room s m ([.ref h, .int p0, .int p1, .int p2] : List Value).toArray below meth c H locs 0 0 (MQ below (va_Qi (fun (r : Int32) (v : SM) => (r, v) = ff_M_text u0 p0 p1 p2) (pM dC dI h a k) (aM h a)) ([.ref h, .int p0, .int p1, .int p2] : List Value).toArray s 0 0 (aM h a)) (F0 m 84 ls []) := by
                intro n
                induction n with
                | zero => intro u H locs x1 x2 x3 x4 ls hok; exact (show False from hok).elim
                | succ n ih =>
                  intro u H locs x1 x2 x3 x4 ls hok hf hP hD hS hl
                  rw [fl_M_text_84] at hf
                  rw [okl_M_text_84] at hok
                  refine lv_iload hx hb dd_M_text_84 (lv_at hl 4 rfl) ?_
                  refine lv_aload_n hx hb dd_M_text_86 rfl (lv_at hl 0 rfl) ?_
                  refine va_get (D := (dC, dI)) (ci := 0) (v := .ref (a 3)) (C := "ClassObjectMirrorModel") (T := TM) (N := 12) hx hb hts inM hown hK hP 0 rfl rfl 3 (by decide) (hts _ gw_304) (fun _ h9 => h9) rfl dd_M_text_87 ?_
                  refine lv_iload_n hx hb dd_M_text_90 rfl (lv_at hl 1 rfl) ?_
                  obtain ⟨n61, hok⟩ := hok
                  refine va_iald hx hb hK hP 4 3 rfl rfl n61 dd_M_text_91 ?_
                  refine lv_icmp_ge (tgt := 118) hx hb dd_M_text_92 (by decide) (fun c62 => ?_) (fun c62 => ?_)
                  · have hf := hf.trans (if_pos c62)
                    have hok := hok.1 c62
                    refine lv_iload_n hx hb dd_M_text_118 rfl (lv_at hl 3 rfl) ?_
                    refine lv_if_lt (tgt := 130) hx hb dd_M_text_119 (by decide) (fun c63 => ?_) (fun c63 => ?_)
                    · have hf := hf.trans (if_pos c63)
                      have hok := hok.1 c63
                      refine lv_iconst (v := (-1)) hx hb dd_M_text_130 (by decide) ?_
                      refine lv_goto (tgt := 140) hx hb dd_M_text_131 (by decide) ?_
                      exact W.iret (v := ((-1) : Int32)) hx hb hr (fun t ht hW => ⟨⟨((-1) : Int32), u, rfl, hf.symm, pM_up hP hK hD ht hW⟩, hS.F ht⟩) hS.2.2 dd_M_text_140
                    · have hf := hf.trans (if_neg c63)
                      have hok := hok.2 c63
                      refine lv_iload_n hx hb dd_M_text_122 rfl (lv_at hl 3 rfl) ?_
                      refine lv_aload_n hx hb dd_M_text_123 rfl (lv_at hl 0 rfl) ?_
                      refine va_get (D := (dC, dI)) (ci := 0) (v := .int (m_wr u)) (C := "ClassObjectMirrorModel") (T := TM) (N := 12) hx hb hts inM hown hK hP 0 rfl rfl 11 (by decide) (hts _ gw_312) (fun _ h9 => h9) rfl dd_M_text_124 ?_
                      refine lv_icmp_lt (tgt := 134) hx hb dd_M_text_127 (by decide) (fun c64 => ?_) (fun c64 => ?_)
                      · have hf := hf.trans (if_pos c64)
                        have hok := hok.1 c64
                        refine lv_aload_n hx hb dd_M_text_134 rfl (lv_at hl 0 rfl) ?_
                        refine va_get (D := (dC, dI)) (ci := 0) (v := .ref (a 8)) (C := "ClassObjectMirrorModel") (T := TM) (N := 12) hx hb hts inM hown hK hP 0 rfl rfl 10 (by decide) (hts _ gw_311) (fun _ h9 => h9) rfl dd_M_text_135 ?_
                        refine lv_iload_n hx hb dd_M_text_138 rfl (lv_at hl 3 rfl) ?_
                        have n65 := hok
                        refine va_iald hx hb hK hP 9 8 rfl rfl n65 dd_M_text_139 ?_
                        exact W.iret (v := (m_out u x3.toNatClampNeg)) hx hb hr (fun t ht hW => ⟨⟨(m_out u x3.toNatClampNeg), u, rfl, hf.symm, pM_up hP hK hD ht hW⟩, hS.F ht⟩) hS.2.2 dd_M_text_140
                      · have hf := hf.trans (if_neg c64)
                        have hok := hok.2 c64
                        refine lv_iconst (v := (-1)) hx hb dd_M_text_130 (by decide) ?_
                        refine lv_goto (tgt := 140) hx hb dd_M_text_131 (by decide) ?_
                        exact W.iret (v := ((-1) : Int32)) hx hb hr (fun t ht hW => ⟨⟨((-1) : Int32), u, rfl, hf.symm, pM_up hP hK hD ht hW⟩, hS.F ht⟩) hS.2.2 dd_M_text_140
                  · have hf := hf.trans (if_neg c62)
                    have hok := hok.2 c62
                    refine lv_iload_n hx hb dd_M_text_95 rfl (lv_at hl 2 rfl) ?_
                    refine lv_iconst (v := 1) hx hb dd_M_text_96 (by decide) ?_
                    refine lv_icmp_ne (tgt := 118) hx hb dd_M_text_97 (by decide) (fun c66 => ?_) (fun c66 => ?_)
                    · have hf := hf.trans (if_neg c66)
                      have hok := hok.2 c66
                      refine lv_iload_n hx hb dd_M_text_118 rfl (lv_at hl 3 rfl) ?_
                      refine lv_if_lt (tgt := 130) hx hb dd_M_text_119 (by decide) (fun c67 => ?_) (fun c67 => ?_)
                      · have hf := hf.trans (if_pos c67)
                        have hok := hok.1 c67
                        refine lv_iconst (v := (-1)) hx hb dd_M_text_130 (by decide) ?_
                        refine lv_goto (tgt := 140) hx hb dd_M_text_131 (by decide) ?_
                        exact W.iret (v := ((-1) : Int32)) hx hb hr (fun t ht hW => ⟨⟨((-1) : Int32), u, rfl, hf.symm, pM_up hP hK hD ht hW⟩, hS.F ht⟩) hS.2.2 dd_M_text_140
                      · have hf := hf.trans (if_neg c67)
                        have hok := hok.2 c67
                        refine lv_iload_n hx hb dd_M_text_122 rfl (lv_at hl 3 rfl) ?_
                        refine lv_aload_n hx hb dd_M_text_123 rfl (lv_at hl 0 rfl) ?_
                        refine va_get (D := (dC, dI)) (ci := 0) (v := .int (m_wr u)) (C := "ClassObjectMirrorModel") (T := TM) (N := 12) hx hb hts inM hown hK hP 0 rfl rfl 11 (by decide) (hts _ gw_312) (fun _ h9 => h9) rfl dd_M_text_124 ?_
                        refine lv_icmp_lt (tgt := 134) hx hb dd_M_text_127 (by decide) (fun c68 => ?_) (fun c68 => ?_)
                        · have hf := hf.trans (if_pos c68)
                          have hok := hok.1 c68
                          refine lv_aload_n hx hb dd_M_text_134 rfl (lv_at hl 0 rfl) ?_
                          refine va_get (D := (dC, dI)) (ci := 0) (v := .ref (a 8)) (C := "ClassObjectMirrorModel") (T := TM) (N := 12) hx hb hts inM hown hK hP 0 rfl rfl 10 (by decide) (hts _ gw_311) (fun _ h9 => h9) rfl dd_M_text_135 ?_
                          refine lv_iload_n hx hb dd_M_text_138 rfl (lv_at hl 3 rfl) ?_
                          have n69 := hok
                          refine va_iald hx hb hK hP 9 8 rfl rfl n69 dd_M_text_139 ?_
                          exact W.iret (v := (m_out u x3.toNatClampNeg)) hx hb hr (fun t ht hW => ⟨⟨(m_out u x3.toNatClampNeg), u, rfl, hf.symm, pM_up hP hK hD ht hW⟩, hS.F ht⟩) hS.2.2 dd_M_text_140
                        · have hf := hf.trans (if_neg c68)
                          have hok := hok.2 c68
                          refine lv_iconst (v := (-1)) hx hb dd_M_text_130 (by decide) ?_
                          refine lv_goto (tgt := 140) hx hb dd_M_text_131 (by decide) ?_
                          exact W.iret (v := ((-1) : Int32)) hx hb hr (fun t ht hW => ⟨⟨((-1) : Int32), u, rfl, hf.symm, pM_up hP hK hD ht hW⟩, hS.F ht⟩) hS.2.2 dd_M_text_140
                    · have hf := hf.trans (if_pos c66)
                      have hok := hok.1 c66
                      refine lv_aload_n hx hb dd_M_text_100 rfl (lv_at hl 0 rfl) ?_
                      refine lv_bipush (v := 91) hx hb dd_M_text_101 (by decide) ?_
                      obtain ⟨n70, hok⟩ := hok
                      refine va_callv (va_runV (As := [.int 91]) (rest := []) ⟨hx, hb, hml, hown, hts⟩ (mm_M_letter l dC dI h a k u (91 : Int32) n70) (cwV 1 hts (gg_V gw_393 gw_395 gs_24 gw_2 gw_396) rfl rfl rfl (by decide +kernel) ⟨Nat.le_of_ble_eq_true rfl, Nat.le_of_ble_eq_true rfl⟩) ⟨pM_bl, va_recv hK hP (ci := 0) (q0 := 0) rfl rfl, fun U hU hW => ⟨rfl, pM_up hP hK hD hU hW⟩⟩ rfl rfl hl.1 rfl (lv_room (Nat.le_of_ble_eq_true rfl)) dd_M_text_103 ⟨Nat.zero_le _, Nat.zero_le _⟩) hS (fun q _ h => h) (fun q h => h) (fun v9 t9 H locs ht9 hvm9 hw9 hB9 hz9 hk9 hS => ?_)
                      subst hw9
                      obtain ⟨hP, -, hD⟩ := hB9
                      rw [ht9] at hP
                      refine lv_aload_n hx hb dd_M_text_106 rfl (lv_at hl 0 rfl) ?_
                      refine lv_bipush (v := 93) hx hb dd_M_text_107 (by decide) ?_
                      obtain ⟨n71, hok⟩ := hok
                      refine va_callv (va_runV (As := [.int 93]) (rest := []) ⟨hx, hb, hml, hown, hts⟩ (mm_M_letter l dC dI h a k (ff_M_letter u (91 : Int32)) (93 : Int32) n71) (cwV 1 hts (gg_V gw_393 gw_395 gs_24 gw_2 gw_396) rfl rfl rfl (by decide +kernel) ⟨Nat.le_of_ble_eq_true rfl, Nat.le_of_ble_eq_true rfl⟩) ⟨pM_bl, va_recv hK hP (ci := 0) (q0 := 0) rfl rfl, fun U hU hW => ⟨rfl, pM_up hP hK hD hU hW⟩⟩ rfl rfl hl.1 rfl (lv_room (Nat.le_of_ble_eq_true rfl)) dd_M_text_109 ⟨Nat.zero_le _, Nat.zero_le _⟩) hS (fun q _ h => h) (fun q h => h) (fun v9 t9 H locs ht9 hvm9 hw9 hB9 hz9 hk9 hS => ?_)
                      subst hw9
                      obtain ⟨hP, -, hD⟩ := hB9
                      rw [ht9] at hP
                      refine lv_iinc (v := x4 + 1) (lv' := [(4, .int (x4 + 1)), (0, .ref h), (1, .int x1), (2, .int x2), (3, .int x3)]) hx hb dd_M_text_112 hl (k := 4) rfl rfl (by decide) rfl (fun ls hl => ?_)
                      refine lv_goto (tgt := 84) hx hb dd_M_text_115 (by decide) ?_
                      exact ih (ff_M_letter (ff_M_letter u (91 : Int32)) (93 : Int32)) _ _ x1 x2 x3 (x4 + 1) ls hok hf hP hD hS (lv_sub hl [1, 2, 3, 4, 0] rfl)
              exact loop_84 400 (ff_M_describe (m_u_wr u0 0) p0 (0 : Int32)) _ _ p0 p1 p2 (0 : Int32) ls hok hf hP hD hS (lv_sub hl [1, 2, 3, 4, 0] rfl)
        · have hf := hf.trans (if_pos c4)
          have hok := hok.1 c4
          refine lv_aload_n hx hb dd_M_text_29 rfl (lv_at hl 0 rfl) ?_
          refine lv_iload_n hx hb dd_M_text_30 rfl (lv_at hl 1 rfl) ?_
          refine lv_iconst (v := 1) hx hb dd_M_text_31 (by decide) ?_
          obtain ⟨n72, hok⟩ := hok
          refine va_callv (va_runV (As := [.int p0, .int 1]) (rest := []) ⟨hx, hb, hml, hown, hts⟩ (mm_M_describe l dC dI h a k (m_u_wr u0 0) p0 (1 : Int32) n72) (cwV 2 hts (gg_V gw_389 gw_391 gs_23 gw_2 gw_392) rfl rfl rfl (by decide +kernel) ⟨Nat.le_of_ble_eq_true rfl, Nat.le_of_ble_eq_true rfl⟩) ⟨pM_bl, va_recv hK hP (ci := 0) (q0 := 0) rfl rfl, fun U hU hW => ⟨rfl, pM_up hP hK hD hU hW⟩⟩ rfl rfl hl.1 rfl (lv_room (Nat.le_of_ble_eq_true rfl)) dd_M_text_32 ⟨Nat.zero_le _, Nat.zero_le _⟩) hS (fun q _ h => h) (fun q h => h) (fun v9 t9 H locs ht9 hvm9 hw9 hB9 hz9 hk9 hS => ?_)
          subst hw9
          obtain ⟨hP, -, hD⟩ := hB9
          rw [ht9] at hP
          refine lv_goto (tgt := 81) hx hb dd_M_text_35 (by decide) ?_
          refine lv_iconst (v := 0) hx hb dd_M_text_81 (by decide) ?_
          refine lv_istore (lv' := [(4, .int 0), (0, .ref h), (1, .int p0), (2, .int p1), (3, .int p2)]) hx hb dd_M_text_82 hl (by decide) rfl (fun ls hl => ?_)
          have loop_84 : ∀ (n : Nat) (u : SM) (H : Heap) (locs : List Loc) (x1 : Int32) (x2 : Int32) (x3 : Int32) (x4 : Int32) (ls : Array Slot), okl_M_text_84 n u x1 x2 x3 x4 → ff_M_text u0 p0 p1 p2 = fl_M_text_84 n u x1 x2 x3 x4 → va_P (dC, dI) cls_l (wM h a k u) H → va_D (aM h a) (wM h a k u) → va_S (aM h a) s.heap H locs → lv_has ls 5 [(0, .ref h), (1, .int x1), (2, .int x2), (3, .int x3), (4, .int x4)] → W p l e (headSpec ws_M_text rm_M_text).room s m ([.ref h, .int p0, .int p1, .int p2] : List Value).toArray below meth c H locs 0 0 (MQ below (va_Qi (fun (r : Int32) (v : SM) => (r, v) = ff_M_text u0 p0 p1 p2) (pM dC dI h a k) (aM h a)) ([.ref h, .int p0, .int p1, .int p2] : List Value).toArray s 0 0 (aM h a)) (F0 m 84 ls []) := by
            intro n
            induction n with
            | zero => intro u H locs x1 x2 x3 x4 ls hok; exact (show False from hok).elim
            | succ n ih =>
              intro u H locs x1 x2 x3 x4 ls hok hf hP hD hS hl
              rw [fl_M_text_84] at hf
              rw [okl_M_text_84] at hok
              refine lv_iload hx hb dd_M_text_84 (lv_at hl 4 rfl) ?_
              refine lv_aload_n hx hb dd_M_text_86 rfl (lv_at hl 0 rfl) ?_
              refine va_get (D := (dC, dI)) (ci := 0) (v := .ref (a 3)) (C := "ClassObjectMirrorModel") (T := TM) (N := 12) hx hb hts inM hown hK hP 0 rfl rfl 3 (by decide) (hts _ gw_304) (fun _ h9 => h9) rfl dd_M_text_87 ?_
              refine lv_iload_n hx hb dd_M_text_90 rfl (lv_at hl 1 rfl) ?_
              obtain ⟨n73, hok⟩ := hok
              refine va_iald hx hb hK hP 4 3 rfl rfl n73 dd_M_text_91 ?_
              refine lv_icmp_ge (tgt := 118) hx hb dd_M_text_92 (by decide) (fun c74 => ?_) (fun c74 => ?_)
              · have hf := hf.trans (if_pos c74)
                have hok := hok.1 c74
                refine lv_iload_n hx hb dd_M_text_118 rfl (lv_at hl 3 rfl) ?_
                refine lv_if_lt (tgt := 130) hx hb dd_M_text_119 (by decide) (fun c75 => ?_) (fun c75 => ?_)
                · have hf := hf.trans (if_pos c75)
                  have hok := hok.1 c75
                  refine lv_iconst (v := (-1)) hx hb dd_M_text_130 (by decide) ?_
                  refine lv_goto (tgt := 140) hx hb dd_M_text_131 (by decide) ?_
                  exact W.iret (v := ((-1) : Int32)) hx hb hr (fun t ht hW => ⟨⟨((-1) : Int32), u, rfl, hf.symm, pM_up hP hK hD ht hW⟩, hS.F ht⟩) hS.2.2 dd_M_text_140
                · have hf := hf.trans (if_neg c75)
                  have hok := hok.2 c75
                  refine lv_iload_n hx hb dd_M_text_122 rfl (lv_at hl 3 rfl) ?_
                  refine lv_aload_n hx hb dd_M_text_123 rfl (lv_at hl 0 rfl) ?_
                  refine va_get (D := (dC, dI)) (ci := 0) (v := .int (m_wr u)) (C := "ClassObjectMirrorModel") (T := TM) (N := 12) hx hb hts inM hown hK hP 0 rfl rfl 11 (by decide) (hts _ gw_312) (fun _ h9 => h9) rfl dd_M_text_124 ?_
                  refine lv_icmp_lt (tgt := 134) hx hb dd_M_text_127 (by decide) (fun c76 => ?_) (fun c76 => ?_)
                  · have hf := hf.trans (if_pos c76)
                    have hok := hok.1 c76
                    refine lv_aload_n hx hb dd_M_text_134 rfl (lv_at hl 0 rfl) ?_
                    refine va_get (D := (dC, dI)) (ci := 0) (v := .ref (a 8)) (C := "ClassObjectMirrorModel") (T := TM) (N := 12) hx hb hts inM hown hK hP 0 rfl rfl 10 (by decide) (hts _ gw_311) (fun _ h9 => h9) rfl dd_M_text_135 ?_
                    refine lv_iload_n hx hb dd_M_text_138 rfl (lv_at hl 3 rfl) ?_
                    have n77 := hok
                    refine va_iald hx hb hK hP 9 8 rfl rfl n77 dd_M_text_139 ?_
                    exact W.iret (v := (m_out u x3.toNatClampNeg)) hx hb hr (fun t ht hW => ⟨⟨(m_out u x3.toNatClampNeg), u, rfl, hf.symm, pM_up hP hK hD ht hW⟩, hS.F ht⟩) hS.2.2 dd_M_text_140
                  · have hf := hf.trans (if_neg c76)
                    have hok := hok.2 c76
                    refine lv_iconst (v := (-1)) hx hb dd_M_text_130 (by decide) ?_
                    refine lv_goto (tgt := 140) hx hb dd_M_text_131 (by decide) ?_
                    exact W.iret (v := ((-1) : Int32)) hx hb hr (fun t ht hW => ⟨⟨((-1) : Int32), u, rfl, hf.symm, pM_up hP hK hD ht hW⟩, hS.F ht⟩) hS.2.2 dd_M_text_140
              · have hf := hf.trans (if_neg c74)
                have hok := hok.2 c74
                refine lv_iload_n hx hb dd_M_text_95 rfl (lv_at hl 2 rfl) ?_
                refine lv_iconst (v := 1) hx hb dd_M_text_96 (by decide) ?_
                refine lv_icmp_ne (tgt := 118) hx hb dd_M_text_97 (by decide) (fun c78 => ?_) (fun c78 => ?_)
                · have hf := hf.trans (if_neg c78)
                  have hok := hok.2 c78
                  refine lv_iload_n hx hb dd_M_text_118 rfl (lv_at hl 3 rfl) ?_
                  refine lv_if_lt (tgt := 130) hx hb dd_M_text_119 (by decide) (fun c79 => ?_) (fun c79 => ?_)
                  · have hf := hf.trans (if_pos c79)
                    have hok := hok.1 c79
                    refine lv_iconst (v := (-1)) hx hb dd_M_text_130 (by decide) ?_
                    refine lv_goto (tgt := 140) hx hb dd_M_text_131 (by decide) ?_
                    exact W.iret (v := ((-1) : Int32)) hx hb hr (fun t ht hW => ⟨⟨((-1) : Int32), u, rfl, hf.symm, pM_up hP hK hD ht hW⟩, hS.F ht⟩) hS.2.2 dd_M_text_140
                  · have hf := hf.trans (if_neg c79)
                    have hok := hok.2 c79
                    refine lv_iload_n hx hb dd_M_text_122 rfl (lv_at hl 3 rfl) ?_
                    refine lv_aload_n hx hb dd_M_text_123 rfl (lv_at hl 0 rfl) ?_
                    refine va_get (D := (dC, dI)) (ci := 0) (v := .int (m_wr u)) (C := "ClassObjectMirrorModel") (T := TM) (N := 12) hx hb hts inM hown hK hP 0 rfl rfl 11 (by decide) (hts _ gw_312) (fun _ h9 => h9) rfl dd_M_text_124 ?_
                    refine lv_icmp_lt (tgt := 134) hx hb dd_M_text_127 (by decide) (fun c80 => ?_) (fun c80 => ?_)
                    · have hf := hf.trans (if_pos c80)
                      have hok := hok.1 c80
                      refine lv_aload_n hx hb dd_M_text_134 rfl (lv_at hl 0 rfl) ?_
                      refine va_get (D := (dC, dI)) (ci := 0) (v := .ref (a 8)) (C := "ClassObjectMirrorModel") (T := TM) (N := 12) hx hb hts inM hown hK hP 0 rfl rfl 10 (by decide) (hts _ gw_311) (fun _ h9 => h9) rfl dd_M_text_135 ?_
                      refine lv_iload_n hx hb dd_M_text_138 rfl (lv_at hl 3 rfl) ?_
                      have n81 := hok
                      refine va_iald hx hb hK hP 9 8 rfl rfl n81 dd_M_text_139 ?_
                      exact W.iret (v := (m_out u x3.toNatClampNeg)) hx hb hr (fun t ht hW => ⟨⟨(m_out u x3.toNatClampNeg), u, rfl, hf.symm, pM_up hP hK hD ht hW⟩, hS.F ht⟩) hS.2.2 dd_M_text_140
                    · have hf := hf.trans (if_neg c80)
                      have hok := hok.2 c80
                      refine lv_iconst (v := (-1)) hx hb dd_M_text_130 (by decide) ?_
                      refine lv_goto (tgt := 140) hx hb dd_M_text_131 (by decide) ?_
                      exact W.iret (v := ((-1) : Int32)) hx hb hr (fun t ht hW => ⟨⟨((-1) : Int32), u, rfl, hf.symm, pM_up hP hK hD ht hW⟩, hS.F ht⟩) hS.2.2 dd_M_text_140
                · have hf := hf.trans (if_pos c78)
                  have hok := hok.1 c78
                  refine lv_aload_n hx hb dd_M_text_100 rfl (lv_at hl 0 rfl) ?_
                  refine lv_bipush (v := 91) hx hb dd_M_text_101 (by decide) ?_
                  obtain ⟨n82, hok⟩ := hok
                  refine va_callv (va_runV (As := [.int 91]) (rest := []) ⟨hx, hb, hml, hown, hts⟩ (mm_M_letter l dC dI h a k u (91 : Int32) n82) (cwV 1 hts (gg_V gw_393 gw_395 gs_24 gw_2 gw_396) rfl rfl rfl (by decide +kernel) ⟨Nat.le_of_ble_eq_true rfl, Nat.le_of_ble_eq_true rfl⟩) ⟨pM_bl, va_recv hK hP (ci := 0) (q0 := 0) rfl rfl, fun U hU hW => ⟨rfl, pM_up hP hK hD hU hW⟩⟩ rfl rfl hl.1 rfl (lv_room (Nat.le_of_ble_eq_true rfl)) dd_M_text_103 ⟨Nat.zero_le _, Nat.zero_le _⟩) hS (fun q _ h => h) (fun q h => h) (fun v9 t9 H locs ht9 hvm9 hw9 hB9 hz9 hk9 hS => ?_)
                  subst hw9
                  obtain ⟨hP, -, hD⟩ := hB9
                  rw [ht9] at hP
                  refine lv_aload_n hx hb dd_M_text_106 rfl (lv_at hl 0 rfl) ?_
                  refine lv_bipush (v := 93) hx hb dd_M_text_107 (by decide) ?_
                  obtain ⟨n83, hok⟩ := hok
                  refine va_callv (va_runV (As := [.int 93]) (rest := []) ⟨hx, hb, hml, hown, hts⟩ (mm_M_letter l dC dI h a k (ff_M_letter u (91 : Int32)) (93 : Int32) n83) (cwV 1 hts (gg_V gw_393 gw_395 gs_24 gw_2 gw_396) rfl rfl rfl (by decide +kernel) ⟨Nat.le_of_ble_eq_true rfl, Nat.le_of_ble_eq_true rfl⟩) ⟨pM_bl, va_recv hK hP (ci := 0) (q0 := 0) rfl rfl, fun U hU hW => ⟨rfl, pM_up hP hK hD hU hW⟩⟩ rfl rfl hl.1 rfl (lv_room (Nat.le_of_ble_eq_true rfl)) dd_M_text_109 ⟨Nat.zero_le _, Nat.zero_le _⟩) hS (fun q _ h => h) (fun q h => h) (fun v9 t9 H locs ht9 hvm9 hw9 hB9 hz9 hk9 hS => ?_)
                  subst hw9
                  obtain ⟨hP, -, hD⟩ := hB9
                  rw [ht9] at hP
                  refine lv_iinc (v := x4 + 1) (lv' := [(4, .int (x4 + 1)), (0, .ref h), (1, .int x1), (2, .int x2), (3, .int x3)]) hx hb dd_M_text_112 hl (k := 4) rfl rfl (by decide) rfl (fun ls hl => ?_)
                  refine lv_goto (tgt := 84) hx hb dd_M_text_115 (by decide) ?_
                  exact ih (ff_M_letter (ff_M_letter u (91 : Int32)) (93 : Int32)) _ _ x1 x2 x3 (x4 + 1) ls hok hf hP hD hS (lv_sub hl [1, 2, 3, 4, 0] rfl)
          exact loop_84 400 (ff_M_describe (m_u_wr u0 0) p0 (1 : Int32)) _ _ p0 p1 p2 (0 : Int32) ls hok hf hP hD hS (lv_sub hl [1, 2, 3, 4, 0] rfl)
      · have hf := hf.trans (if_neg c3)
        have hok := hok.2 c3
        refine lv_iconst (v := (-1)) hx hb dd_M_text_17 (by decide) ?_
        exact W.iret (v := ((-1) : Int32)) hx hb hr (fun t ht hW => ⟨⟨((-1) : Int32), u0, rfl, hf.symm, pM_up hP hK hD ht hW⟩, hS.F ht⟩) hS.2.2 dd_M_text_18
