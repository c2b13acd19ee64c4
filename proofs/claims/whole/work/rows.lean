section
/-! whole at c447ebb is FALSE as stated: a start that meets every premise (thirteen enum constants with null in 'code'), the script [6, 9, 2, 0]: the law never returns -/
def zz_g : JFrame := { method := ⟨0, 0⟩, pc := 0, locals := #[], stack := [], locked := none }
def zz_b : List Frame := [.java zz_g]
/-- the printed witness' own tables and heap, another script, a bytecode frame below -/
def zz_s : State := { start1.aboutOf #[.int 6, .int 9, .int 2, .int 0] with threads := #[{ frames := .invoking ⟨0, 0⟩ start1.args0 :: zz_b }] }
theorem zz_w : (Cond.code x code maxLocals ret :: tables_1).all (fun c => c.onTables || c.before start1.args0 zz_s) = true := by decide +kernel
theorem zz_words : ∀ c ∈ (Cond.code x code maxLocals ret :: tables_1), c.before start1.args0 zz_s = true := fun c h => by
  have h1 := List.all_eq_true.mp zz_w c h
  cases hc : c.onTables with
  | true => exact va_tabs hc (u := start1.about) rfl (start1.words c h)
  | false => simpa [hc] using h1
theorem zz_at : AtStart classFile x code maxLocals ret World_1 tables_1 room_1 Calls_1 rest_1 Pre_1 launch0 start1.p0 start1.e0 zz_s ⟨0, 0⟩ start1.args0 zz_b :=
  ⟨lists_1, trivial, launch0.admits_env _ _ _, launch0.least_env, fairChoices_fair.cas, fairChoices_fair.clock, rfl, by decide +kernel, by decide +kernel,
    (Spec.applies_iff rfl).mpr ⟨rfl, rfl, rfl, by decide +kernel, by decide +kernel, by decide +kernel, launch0.hasRoom_least _ room_1 (by decide +kernel) (by decide +kernel) (by decide +kernel) (by decide +kernel) (by decide +kernel) (by decide +kernel), atoms_intro zz_words⟩,
    trivial, (show rest_1_c.before start1.args0 zz_s = true by decide +kernel), (show (Cond.and given_1 narrow_1).before start1.args0 zz_s = true by decide +kernel)⟩
/-- the VM is to throw, above four frames that hold no monitor: codedCharacter, codedCharacterOf, text, law -/
def zz_chk (fs : List Frame) : Bool := match fs with
  | .throwNew _ _ _ :: .java f4 :: .java f3 :: .java f2 :: .java f1 :: .java _ :: [] =>
    (decide (f4.method = ⟨11, 1⟩) && (f4.locked.isNone && f4.entered.isEmpty)) && ((decide (f3.method = ⟨2, 29⟩) && (f3.locked.isNone && f3.entered.isEmpty)) && ((decide (f2.method = ⟨2, 7⟩) && (f2.locked.isNone && f2.entered.isEmpty)) && (decide (f1.method = ⟨0, 0⟩) && (f1.locked.isNone && f1.entered.isEmpty))))
  | _ => false
def zz_run (tb : Tables) (e : Env) : Nat → State → Bool
  | 0, s => zz_chk s.frames
  | n + 1, s => match s.status, s.curStatus?, s.alone with
    | .running, some .runnable, true => decide (2 ≤ s.frames.length) && zz_run tb e n (stepThread tb e s).1
    | _, _, _ => false
theorem zz_run_spec (tb : Tables) (e : Env) : ∀ (n : Nat) (s : State), zz_run tb e n s = true → zz_chk (stepsAlone tb e n s).frames = true ∧ ∀ k, k < n → 2 ≤ (stepsAlone tb e k s).frames.length := by
  intro n
  induction n with
  | zero => intro s h; exact ⟨h, fun k hk => absurd hk (Nat.not_lt_zero k)⟩
  | succ n ih =>
    intro s h
    unfold zz_run at h
    split at h
    · rename_i h1 h2 h3
      simp only [Bool.and_eq_true, decide_eq_true_eq] at h
      obtain ⟨a, b⟩ := ih _ h.2
      refine ⟨by unfold stepsAlone; simp only [h1, h2, h3]; exact a, ?_⟩
      intro k hk
      cases k with
      | zero => exact h.1
      | succ k => unfold stepsAlone; simp only [h1, h2, h3]; exact b k (by omega)
    · cases h
set_option maxRecDepth 1000000 in
theorem zz_runs : zz_run start1.p0.tables start1.e0 719 zz_s = true := by decide +kernel
theorem zz_shape {fs : List Frame} (h : zz_chk fs = true) : ∃ (N : Frame) (f4 f3 f2 f1 b : JFrame), fs = N :: .java f4 :: .java f3 :: .java f2 :: .java f1 :: .java b :: [] ∧ Refuse.Thr N ∧ (f4.method = ⟨11, 1⟩ ∧ f4.locked = none ∧ f4.entered = []) ∧ (f3.method = ⟨2, 29⟩ ∧ f3.locked = none ∧ f3.entered = []) ∧ (f2.method = ⟨2, 7⟩ ∧ f2.locked = none ∧ f2.entered = []) ∧ (f1.method = ⟨0, 0⟩ ∧ f1.locked = none ∧ f1.entered = []) := by
  unfold zz_chk at h
  split at h
  · rename_i a1 a2 a3 f4 f3 f2 f1 b
    simp only [Bool.and_eq_true, decide_eq_true_eq, Option.isNone_iff_eq_none, List.isEmpty_iff] at h
    exact ⟨_, f4, f3, f2, f1, b, rfl, trivial, h.1, h.2.1, h.2.2.1, h.2.2.2⟩
  · cases h
/-- a method of the start, by its word -/
theorem zz_meth {y : MethodName} {b : ByteArray} {n : Nat} {r : Option FieldType} {m : MethodId} (hm : zz_s.methodNamed? y = some m) (hw : Cond.code y b n r ∈ (Cond.code x code maxLocals ret :: tables_1)) :
    ∃ meth c, zz_s.vm.method? m = some meth ∧ meth.code = some c ∧ meth.locks = false ∧ c.exceptionTable = #[] := by
  obtain ⟨meth, c, h1, h2, -, -, -, h6, h7, -⟩ := Cond.code_spec hm (zz_words _ hw)
  exact ⟨meth, c, h1, h2, h6, by simpa using h7⟩
theorem zz_false : ¬ (Claimed_1_1 ∧ Claimed_1_2) := by
  intro hcl
  obtain ⟨hL, hW, hadm, hleast, hcas, hclk, hfr, hfit, hheap, happ, hcalls, hrest, hpre⟩ := zz_at
  obtain ⟨n, o, hw, hrun, hend, hpost⟩ := hcl.1 launch0 rfl hL hW start1.p0 start1.e0 hadm hcas hclk zz_s ⟨0, 0⟩ start1.args0 zz_b hfr hfit hheap happ ⟨hcalls, hrest, hpre⟩
  have hret : ∃ v, o = .returned v := by
    cases o with
    | returned v => exact ⟨v, rfl⟩
    | threw a => exact absurd hpost.1 (by simp [postC, limb_1_1, Cond.after, Cond.holds, Cond.value])
  obtain ⟨v, rfl⟩ := hret
  have hlen : (stepsAlone start1.p0.tables start1.e0 n zz_s).frames.length = 1 := Ended.length_returned hend
  obtain ⟨hchk, hlt⟩ := zz_run_spec _ _ 719 zz_s zz_runs
  rcases Nat.lt_or_ge n 719 with h | h
  · have h2 := hlt n h
    rw [hlen] at h2
    exact absurd h2 (by decide)
  · obtain ⟨N, f4, f3, f2, f1, b, hT, hN, ⟨e4, l4, n4⟩, ⟨e3, l3, n3⟩, ⟨e2, l2, n2⟩, ⟨e1, l1, n1⟩⟩ := zz_shape hchk
    obtain ⟨j, rfl⟩ := Nat.exists_eq_add_of_le h
    cases j with
    | zero =>
      rw [Nat.add_zero, hT] at hlen
      simp at hlen
    | succ j =>
      obtain ⟨above, hab, -, -⟩ := hw 719 (by omega)
      rw [hT] at hab
      have hbb : [Frame.java b] = zz_b := List.append_inj_right' (show [N, .java f4, .java f3, .java f2, .java f1] ++ [Frame.java b] = above ++ zz_b from hab) rfl
      obtain ⟨mt4, c4, q4, r4, s4, t4⟩ := zz_meth (y := ⟨"ClassObjectMirror$FixedType", "codedCharacter", "(IC)I"⟩) (b := prog_2_method_7_code) (n := 4) (r := some .int) (m := ⟨11, 1⟩) (by decide +kernel) (List.mem_cons_of_mem _ (List.mem_append_left _ (List.mem_of_getElem? (i := 113) rfl)))
      obtain ⟨mt3, c3, q3, r3, s3, t3⟩ := zz_meth (y := ⟨"ClassObjectMirror", "codedCharacterOf", "(IIC)I"⟩) (b := prog_1_method_30_code) (n := 5) (r := some .int) (m := ⟨2, 29⟩) (by decide +kernel) (List.mem_cons_of_mem _ (List.mem_append_left _ (List.mem_of_getElem? (i := 108) rfl)))
      obtain ⟨mt2, c2, q2, r2, s2, t2⟩ := zz_meth (y := ⟨"ClassObjectMirror", "text", "(III)I"⟩) (b := prog_1_method_8_code) (n := 4) (r := some .int) (m := ⟨2, 7⟩) (by decide +kernel) (List.mem_cons_of_mem _ (List.mem_append_left _ (List.mem_of_getElem? (i := 104) rfl)))
      obtain ⟨mt1, c1, q1, r1, s1, t1⟩ := zz_meth (y := x) (b := code) (n := maxLocals) (r := ret) (m := ⟨0, 0⟩) (by decide +kernel) List.mem_cons_self
      have H4 := Refuse.holds_raise (tb := start1.p0.tables) (below := .java f3 :: .java f2 :: .java f1 :: zz_b) (f := f4) (Refuse.Misses.of_empty t4) r4 s4 e4 l4 n4
      have H3 := Refuse.holds_via (below := .java f2 :: .java f1 :: zz_b) (g := f3) H4 (Refuse.Misses.of_empty t3) r3 s3 e3 l3 n3
      have H2 := Refuse.holds_via (below := .java f1 :: zz_b) (g := f2) H3 (Refuse.Misses.of_empty t2) r2 s2 e2 l2 n2
      have H1 := Refuse.holds_via (below := zz_b) (g := f1) H2 (Refuse.Misses.of_empty t1) r1 s1 e1 l1 n1
      have hk : ∀ {m : MethodId} {mt : Method}, zz_s.vm.method? m = some mt → (stepsAlone start1.p0.tables start1.e0 719 zz_s).vm.method? m = some mt := fun q => Refuse.stepsAlone_method? _ _ 719 q
      have hC : Refuse.Cert start1.p0.tables zz_b (stepsAlone start1.p0.tables start1.e0 719 zz_s) :=
        ⟨_, _, H1, ⟨⟨⟨hk q4, hk q3⟩, hk q2⟩, hk q1⟩, .inl (.inl (.inl (.inl (.inl ⟨[], N, by rw [hT, ← hbb]; rfl, hN.mark, trivial⟩))))⟩
      have hA := hC.doomed start1.e0 (j + 1) (fun k hk9 => by rw [← stepsAlone_add]; exact hw (719 + k) (by omega))
      rw [← stepsAlone_add] at hA
      rcases hA with hA | ⟨a, hA⟩ | ⟨g, g0, r, i, -, hA⟩
      · exact hend.not_within hA
      · rw [hA] at hlen
        simp [zz_b] at hlen
      · cases i with
        | zero => cases hA
        | succ i => simp [zz_b] at hA
theorem i_vc : Claimed_1_1 ∧ Claimed_1_2 := sorry
end
