/-! a row at c447ebb is FALSE as stated: a start that meets every premise (thirteen enum constants with null in 'code'), the script [6, 9, 2, 0]: the law never returns. One text for whole and for every p row: no number of a method, a word or a step in it -/
def zz_g : JFrame := { method := ⟨0, 0⟩, pc := 0, locals := #[], stack := [], locked := none }
def zz_b : List Frame := [.java zz_g]
/-- the printed witness' own tables and heap, another script, a bytecode frame below -/
def zz_s : State := { start1.aboutOf #[.int 6, .int 9, .int 2, .int 0] with threads := #[{ frames := .invoking ⟨0, 0⟩ start1.args0 :: zz_b }] }
theorem zz_w : (Cond.code x code maxLocals ret :: tables_1).all (fun c => c.onTables || c.before start1.args0 zz_s) = true := by decide +kernel
theorem zz_words : ∀ c ∈ (Cond.code x code maxLocals ret :: tables_1), c.before start1.args0 zz_s = true := fun c h => by
  have h1 := List.all_eq_true.mp zz_w c h
  cases hc : c.onTables with
  | true => exact va_tabs hc (u := start1.about) rfl (start1.words c h)
  | false => simpa [hc] using h1
theorem zz_at : AtStart classFile x code maxLocals ret World_1 tables_1 room_1 Calls_1 rest_1 Pre_1 launch0 start1.p0 start1.e0 zz_s ⟨0, 0⟩ start1.args0 zz_b :=
  ⟨lists_1, trivial, launch0.admits_env _ _ _, launch0.least_env, fairChoices_fair.cas, fairChoices_fair.clock, rfl, by decide +kernel, by decide +kernel,
    (Spec.applies_iff rfl).mpr ⟨rfl, rfl, rfl, by decide +kernel, by decide +kernel, by decide +kernel, launch0.hasRoom_least _ room_1 (by decide +kernel) (by decide +kernel) (by decide +kernel) (by decide +kernel) (by decide +kernel) (by decide +kernel), atoms_intro zz_words⟩,
    trivial, (show rest_1_c.before start1.args0 zz_s = true by decide +kernel), (show (Cond.and given_1 narrow_1).before start1.args0 zz_s = true by decide +kernel)⟩
/-- the frame's method, as the start has it, has no handler and no lock; the frame holds no monitor -/
def zz_ok (f : JFrame) : Bool := (f.locked.isNone && f.entered.isEmpty) && (match zz_s.vm.method? f.method with
  | some mt => (match mt.code with
    | some c => !mt.locks && c.exceptionTable.isEmpty
    | none => false)
  | none => false)
theorem zz_ok_spec {f : JFrame} (h : zz_ok f = true) : f.locked = none ∧ f.entered = [] ∧ ∃ mt c, zz_s.vm.method? f.method = some mt ∧ mt.code = some c ∧ mt.locks = false ∧ c.exceptionTable = #[] := by
  unfold zz_ok at h
  simp only [Bool.and_eq_true, Option.isNone_iff_eq_none, List.isEmpty_iff] at h
  obtain ⟨⟨h1, h2⟩, h3⟩ := h
  refine ⟨h1, h2, ?_⟩
  split at h3
  · rename_i mt hm
    split at h3
    · rename_i c hc
      simp only [Bool.and_eq_true, Bool.not_eq_true', Array.isEmpty_iff] at h3
      exact ⟨mt, c, hm, hc, h3.1, h3.2⟩
    · cases h3
  · cases h3
/-- the VM is to throw, above four such frames (codedCharacter, codedCharacterOf, text, law) and the one below -/
def zz_chk (fs : List Frame) : Bool := match fs with
  | .throwNew _ _ _ :: .java f4 :: .java f3 :: .java f2 :: .java f1 :: .java _ :: [] => (zz_ok f4 && zz_ok f3) && (zz_ok f2 && zz_ok f1)
  | _ => false
def zz_run (tb : Tables) (e : Env) : Nat → State → Bool
  | 0, s => zz_chk s.frames
  | n + 1, s => match zz_chk s.frames with
    | true => true
    | false => match s.status, s.curStatus?, s.alone with
      | .running, some .runnable, true => decide (2 ≤ s.frames.length) && zz_run tb e n (stepThread tb e s).1
      | _, _, _ => false
theorem zz_run_spec (tb : Tables) (e : Env) : ∀ (m : Nat) (s : State), zz_run tb e m s = true → ∃ n, zz_chk (stepsAlone tb e n s).frames = true ∧ ∀ k, k < n → 2 ≤ (stepsAlone tb e k s).frames.length := by
  intro m
  induction m with
  | zero => intro s h; exact ⟨0, h, fun k hk => absurd hk (Nat.not_lt_zero k)⟩
  | succ m ih =>
    intro s h
    unfold zz_run at h
    split at h
    · rename_i hc
      exact ⟨0, hc, fun k hk => absurd hk (Nat.not_lt_zero k)⟩
    · split at h
      · rename_i h1 h2 h3
        simp only [Bool.and_eq_true, decide_eq_true_eq] at h
        obtain ⟨n, a, b⟩ := ih _ h.2
        refine ⟨n + 1, by unfold stepsAlone; simp only [h1, h2, h3]; exact a, ?_⟩
        intro k hk
        cases k with
        | zero => exact h.1
        | succ k => unfold stepsAlone; simp only [h1, h2, h3]; exact b k (by omega)
      · cases h
set_option maxRecDepth 1000000 in
theorem zz_runs : zz_run start1.p0.tables start1.e0 1000 zz_s = true := by decide +kernel
theorem zz_shape {fs : List Frame} (h : zz_chk fs = true) : ∃ (N : Frame) (f4 f3 f2 f1 b : JFrame), fs = N :: .java f4 :: .java f3 :: .java f2 :: .java f1 :: .java b :: [] ∧ Refuse.Thr N ∧ zz_ok f4 = true ∧ zz_ok f3 = true ∧ zz_ok f2 = true ∧ zz_ok f1 = true := by
  unfold zz_chk at h
  split at h
  · rename_i a1 a2 a3 f4 f3 f2 f1 b
    simp only [Bool.and_eq_true] at h
    exact ⟨_, f4, f3, f2, f1, b, rfl, trivial, h.1.1, h.1.2, h.2.1, h.2.2⟩
  · cases h
theorem zz_false : ¬ (Claimed_1_1 ∧ Claimed_1_2) := by
  intro hcl
  obtain ⟨hL, hW, hadm, hleast, hcas, hclk, hfr, hfit, hheap, happ, hcalls, hrest, hpre⟩ := zz_at
  obtain ⟨n, o, hw, hrun, hend, hpost⟩ := hcl.1 launch0 rfl hL hW start1.p0 start1.e0 hadm hcas hclk zz_s ⟨0, 0⟩ start1.args0 zz_b hfr hfit hheap happ ⟨hcalls, hrest, hpre⟩
  have hret : ∃ v, o = .returned v := by
    cases o with
    | returned v => exact ⟨v, rfl⟩
    | threw a => exact absurd hpost.1 (by simp [postC, limb_1_1, Cond.after, Cond.holds, Cond.value])
  obtain ⟨v, rfl⟩ := hret
  have hlen : (stepsAlone start1.p0.tables start1.e0 n zz_s).frames.length = 1 := Ended.length_returned hend
  obtain ⟨w, hchk, hlt⟩ := zz_run_spec _ _ 1000 zz_s zz_runs
  rcases Nat.lt_or_ge n w with h | h
  · have h2 := hlt n h
    rw [hlen] at h2
    exact absurd h2 (by decide)
  · obtain ⟨N, f4, f3, f2, f1, b, hT, hN, k4, k3, k2, k1⟩ := zz_shape hchk
    obtain ⟨j, rfl⟩ := Nat.exists_eq_add_of_le h
    cases j with
    | zero =>
      rw [Nat.add_zero, hT] at hlen
      simp at hlen
    | succ j =>
      obtain ⟨above, hab, -, -⟩ := hw w (by omega)
      rw [hT] at hab
      have hbb : [Frame.java b] = zz_b := List.append_inj_right' (show [N, .java f4, .java f3, .java f2, .java f1] ++ [Frame.java b] = above ++ zz_b from hab) rfl
      obtain ⟨l4, n4, mt4, c4, q4, r4, s4, t4⟩ := zz_ok_spec k4
      obtain ⟨l3, n3, mt3, c3, q3, r3, s3, t3⟩ := zz_ok_spec k3
      obtain ⟨l2, n2, mt2, c2, q2, r2, s2, t2⟩ := zz_ok_spec k2
      obtain ⟨l1, n1, mt1, c1, q1, r1, s1, t1⟩ := zz_ok_spec k1
      have H4 := Refuse.holds_raise (tb := start1.p0.tables) (below := .java f3 :: .java f2 :: .java f1 :: zz_b) (f := f4) (Refuse.Misses.of_empty t4) r4 s4 rfl l4 n4
      have H3 := Refuse.holds_via (below := .java f2 :: .java f1 :: zz_b) (g := f3) H4 (Refuse.Misses.of_empty t3) r3 s3 rfl l3 n3
      have H2 := Refuse.holds_via (below := .java f1 :: zz_b) (g := f2) H3 (Refuse.Misses.of_empty t2) r2 s2 rfl l2 n2
      have H1 := Refuse.holds_via (below := zz_b) (g := f1) H2 (Refuse.Misses.of_empty t1) r1 s1 rfl l1 n1
      have hk : ∀ {m : MethodId} {mt : Method}, zz_s.vm.method? m = some mt → (stepsAlone start1.p0.tables start1.e0 w zz_s).vm.method? m = some mt := fun q => Refuse.stepsAlone_method? _ _ w q
      have hC : Refuse.Cert start1.p0.tables zz_b (stepsAlone start1.p0.tables start1.e0 w zz_s) :=
        ⟨_, _, H1, ⟨⟨⟨hk q4, hk q3⟩, hk q2⟩, hk q1⟩, .inl (.inl (.inl (.inl (.inl ⟨[], N, by rw [hT, ← hbb]; rfl, hN.mark, trivial⟩))))⟩
      have hA := hC.doomed start1.e0 (j + 1) (fun k hk9 => by rw [← stepsAlone_add]; exact hw (w + k) (by omega))
      rw [← stepsAlone_add] at hA
      rcases hA with hA | ⟨a, hA⟩ | ⟨g, g0, r, i, -, hA⟩
      · exact hend.not_within hA
      · rw [hA] at hlen
        simp [zz_b] at hlen
      · cases i with
        | zero => cases hA
        | succ i => simp [zz_b] at hA
theorem i_vc : Claimed_1_1 ∧ Claimed_1_2 := sorry
