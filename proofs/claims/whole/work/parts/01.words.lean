-- ===== PART A: goes FIRST, ahead of the names: the tables' words, and 'selects' of the private methods out of them =====
/-- a private method of a class that the tables say can be made, by its rows of tables_1 -/
def lw_okq (q : MethodName × Nat) : Prop := (q.1.cls ≠ "java/lang/invoke/MethodHandle" ∧ q.1.cls ≠ "java/lang/invoke/VarHandle") ∧ Cond.instantiable q.1.cls q.2 ∈ tables_1 ∧ Cond.privateMethod q.1 ∈ tables_1 ∧ Cond.instanceMethod q.1 ∈ tables_1
theorem lw_p0 : lw_okq (⟨"ClassObjectMirror", "isType", "(I)Z"⟩, 11) := ⟨⟨by decide +kernel, by decide +kernel⟩, List.mem_of_getElem? (i := 10) (by decide +kernel), List.mem_of_getElem? (i := 58) (by decide +kernel), List.mem_of_getElem? (i := 59) (by decide +kernel)⟩
theorem lw_p1 : lw_okq (⟨"ClassObjectMirror", "canBeComponent", "(I)Z"⟩, 11) := ⟨⟨by decide +kernel, by decide +kernel⟩, List.mem_of_getElem? (i := 10) (by decide +kernel), List.mem_of_getElem? (i := 62) (by decide +kernel), List.mem_of_getElem? (i := 63) (by decide +kernel)⟩
theorem lw_p2 : lw_okq (⟨"ClassObjectMirror", "arrayTypeFor", "(I)I"⟩, 11) := ⟨⟨by decide +kernel, by decide +kernel⟩, List.mem_of_getElem? (i := 10) (by decide +kernel), List.mem_of_getElem? (i := 66) (by decide +kernel), List.mem_of_getElem? (i := 67) (by decide +kernel)⟩
theorem lw_p3 : lw_okq (⟨"ClassObjectMirror", "isSupertype", "(II)Z"⟩, 11) := ⟨⟨by decide +kernel, by decide +kernel⟩, List.mem_of_getElem? (i := 10) (by decide +kernel), List.mem_of_getElem? (i := 82) (by decide +kernel), List.mem_of_getElem? (i := 83) (by decide +kernel)⟩
theorem lw_p4 : lw_okq (⟨"ClassObjectMirror", "codedCharacterOf", "(IIC)I"⟩, 11) := ⟨⟨by decide +kernel, by decide +kernel⟩, List.mem_of_getElem? (i := 10) (by decide +kernel), List.mem_of_getElem? (i := 106) (by decide +kernel), List.mem_of_getElem? (i := 107) (by decide +kernel)⟩
theorem lw_p5 : lw_okq (⟨"ClassObjectMirror$FixedType", "codedCharacter", "(IC)I"⟩, 9) := ⟨⟨by decide +kernel, by decide +kernel⟩, List.mem_of_getElem? (i := 112) (by decide +kernel), List.mem_of_getElem? (i := 110) (by decide +kernel), List.mem_of_getElem? (i := 111) (by decide +kernel)⟩
theorem lw_p6 : lw_okq (⟨"ClassObjectMirror", "simpleCharacterOf", "(II)I"⟩, 11) := ⟨⟨by decide +kernel, by decide +kernel⟩, List.mem_of_getElem? (i := 10) (by decide +kernel), List.mem_of_getElem? (i := 172) (by decide +kernel), List.mem_of_getElem? (i := 173) (by decide +kernel)⟩
theorem lw_p7 : lw_okq (⟨"ClassObjectMirror$FixedType", "simpleLength", "()I"⟩, 9) := ⟨⟨by decide +kernel, by decide +kernel⟩, List.mem_of_getElem? (i := 112) (by decide +kernel), List.mem_of_getElem? (i := 176) (by decide +kernel), List.mem_of_getElem? (i := 177) (by decide +kernel)⟩
theorem lw_p8 : lw_okq (⟨"ClassObjectMirror", "newObject", "(II)I"⟩, 11) := ⟨⟨by decide +kernel, by decide +kernel⟩, List.mem_of_getElem? (i := 10) (by decide +kernel), List.mem_of_getElem? (i := 184) (by decide +kernel), List.mem_of_getElem? (i := 185) (by decide +kernel)⟩
theorem lw_p9 : lw_okq (⟨"ClassObjectMirror", "colorConstant", "(I)I"⟩, 11) := ⟨⟨by decide +kernel, by decide +kernel⟩, List.mem_of_getElem? (i := 10) (by decide +kernel), List.mem_of_getElem? (i := 191) (by decide +kernel), List.mem_of_getElem? (i := 192) (by decide +kernel)⟩
theorem lw_p10 : lw_okq (⟨"ClassObjectMirror", "newArray", "(II)I"⟩, 11) := ⟨⟨by decide +kernel, by decide +kernel⟩, List.mem_of_getElem? (i := 10) (by decide +kernel), List.mem_of_getElem? (i := 199) (by decide +kernel), List.mem_of_getElem? (i := 200) (by decide +kernel)⟩
theorem lw_p11 : lw_okq (⟨"ClassObjectMirror", "isObject", "(I)Z"⟩, 11) := ⟨⟨by decide +kernel, by decide +kernel⟩, List.mem_of_getElem? (i := 10) (by decide +kernel), List.mem_of_getElem? (i := 214) (by decide +kernel), List.mem_of_getElem? (i := 215) (by decide +kernel)⟩
theorem lw_p12 : lw_okq (⟨"ClassObjectMirror", "isInstance", "(II)Z"⟩, 11) := ⟨⟨by decide +kernel, by decide +kernel⟩, List.mem_of_getElem? (i := 10) (by decide +kernel), List.mem_of_getElem? (i := 222) (by decide +kernel), List.mem_of_getElem? (i := 223) (by decide +kernel)⟩
theorem lw_p13 : lw_okq (⟨"ClassObjectMirror", "isArrayOfObjects", "(I)Z"⟩, 11) := ⟨⟨by decide +kernel, by decide +kernel⟩, List.mem_of_getElem? (i := 10) (by decide +kernel), List.mem_of_getElem? (i := 234) (by decide +kernel), List.mem_of_getElem? (i := 235) (by decide +kernel)⟩
theorem lw_p14 : lw_okq (⟨"ClassObjectMirror", "isArray", "(I)Z"⟩, 11) := ⟨⟨by decide +kernel, by decide +kernel⟩, List.mem_of_getElem? (i := 10) (by decide +kernel), List.mem_of_getElem? (i := 238) (by decide +kernel), List.mem_of_getElem? (i := 239) (by decide +kernel)⟩
theorem lw_p15 : lw_okq (⟨"ClassObjectMirror", "componentOfArray", "(I)I"⟩, 11) := ⟨⟨by decide +kernel, by decide +kernel⟩, List.mem_of_getElem? (i := 10) (by decide +kernel), List.mem_of_getElem? (i := 242) (by decide +kernel), List.mem_of_getElem? (i := 243) (by decide +kernel)⟩
def lw_privs_1 : List (MethodName × Nat) := [(⟨"ClassObjectMirror", "isType", "(I)Z"⟩, 11), (⟨"ClassObjectMirror", "canBeComponent", "(I)Z"⟩, 11), (⟨"ClassObjectMirror", "arrayTypeFor", "(I)I"⟩, 11), (⟨"ClassObjectMirror", "isSupertype", "(II)Z"⟩, 11), (⟨"ClassObjectMirror", "codedCharacterOf", "(IIC)I"⟩, 11), (⟨"ClassObjectMirror$FixedType", "codedCharacter", "(IC)I"⟩, 9), (⟨"ClassObjectMirror", "simpleCharacterOf", "(II)I"⟩, 11), (⟨"ClassObjectMirror$FixedType", "simpleLength", "()I"⟩, 9), (⟨"ClassObjectMirror", "newObject", "(II)I"⟩, 11), (⟨"ClassObjectMirror", "colorConstant", "(I)I"⟩, 11), (⟨"ClassObjectMirror", "newArray", "(II)I"⟩, 11), (⟨"ClassObjectMirror", "isObject", "(I)Z"⟩, 11), (⟨"ClassObjectMirror", "isInstance", "(II)Z"⟩, 11), (⟨"ClassObjectMirror", "isArrayOfObjects", "(I)Z"⟩, 11), (⟨"ClassObjectMirror", "isArray", "(I)Z"⟩, 11), (⟨"ClassObjectMirror", "componentOfArray", "(I)I"⟩, 11)]
theorem lw_r1 : ∀ q ∈ lw_privs_1, lw_okq q := List.forall_mem_cons.mpr ⟨lw_p0, List.forall_mem_cons.mpr ⟨lw_p1, List.forall_mem_cons.mpr ⟨lw_p2, List.forall_mem_cons.mpr ⟨lw_p3, List.forall_mem_cons.mpr ⟨lw_p4, List.forall_mem_cons.mpr ⟨lw_p5, List.forall_mem_cons.mpr ⟨lw_p6, List.forall_mem_cons.mpr ⟨lw_p7, List.forall_mem_cons.mpr ⟨lw_p8, List.forall_mem_cons.mpr ⟨lw_p9, List.forall_mem_cons.mpr ⟨lw_p10, List.forall_mem_cons.mpr ⟨lw_p11, List.forall_mem_cons.mpr ⟨lw_p12, List.forall_mem_cons.mpr ⟨lw_p13, List.forall_mem_cons.mpr ⟨lw_p14, List.forall_mem_cons.mpr ⟨lw_p15, fun _ h => absurd h List.not_mem_nil⟩⟩⟩⟩⟩⟩⟩⟩⟩⟩⟩⟩⟩⟩⟩⟩
theorem lw_p16 : lw_okq (⟨"ClassObjectMirror", "isIndex", "(II)Z"⟩, 11) := ⟨⟨by decide +kernel, by decide +kernel⟩, List.mem_of_getElem? (i := 10) (by decide +kernel), List.mem_of_getElem? (i := 246) (by decide +kernel), List.mem_of_getElem? (i := 247) (by decide +kernel)⟩
theorem lw_p17 : lw_okq (⟨"ClassObjectMirror", "isArrayOfBases", "(I)Z"⟩, 11) := ⟨⟨by decide +kernel, by decide +kernel⟩, List.mem_of_getElem? (i := 10) (by decide +kernel), List.mem_of_getElem? (i := 258) (by decide +kernel), List.mem_of_getElem? (i := 259) (by decide +kernel)⟩
theorem lw_p18 : lw_okq (⟨"ClassObjectMirrorModel", "noType", "(I)Z"⟩, 12) := ⟨⟨by decide +kernel, by decide +kernel⟩, List.mem_of_getElem? (i := 289) (by decide +kernel), List.mem_of_getElem? (i := 343) (by decide +kernel), List.mem_of_getElem? (i := 344) (by decide +kernel)⟩
theorem lw_p19 : lw_okq (⟨"ClassObjectMirrorModel", "search", "(I)I"⟩, 12) := ⟨⟨by decide +kernel, by decide +kernel⟩, List.mem_of_getElem? (i := 289) (by decide +kernel), List.mem_of_getElem? (i := 347) (by decide +kernel), List.mem_of_getElem? (i := 348) (by decide +kernel)⟩
theorem lw_p20 : lw_okq (⟨"ClassObjectMirrorModel", "enter", "(II)V"⟩, 12) := ⟨⟨by decide +kernel, by decide +kernel⟩, List.mem_of_getElem? (i := 289) (by decide +kernel), List.mem_of_getElem? (i := 351) (by decide +kernel), List.mem_of_getElem? (i := 352) (by decide +kernel)⟩
theorem lw_p21 : lw_okq (⟨"ClassObjectMirrorModel", "above", "(II)Z"⟩, 12) := ⟨⟨by decide +kernel, by decide +kernel⟩, List.mem_of_getElem? (i := 289) (by decide +kernel), List.mem_of_getElem? (i := 367) (by decide +kernel), List.mem_of_getElem? (i := 368) (by decide +kernel)⟩
theorem lw_p22 : lw_okq (⟨"ClassObjectMirrorModel", "bottom", "(I)I"⟩, 12) := ⟨⟨by decide +kernel, by decide +kernel⟩, List.mem_of_getElem? (i := 289) (by decide +kernel), List.mem_of_getElem? (i := 378) (by decide +kernel), List.mem_of_getElem? (i := 379) (by decide +kernel)⟩
theorem lw_p23 : lw_okq (⟨"ClassObjectMirrorModel", "describe", "(IZ)V"⟩, 12) := ⟨⟨by decide +kernel, by decide +kernel⟩, List.mem_of_getElem? (i := 289) (by decide +kernel), List.mem_of_getElem? (i := 390) (by decide +kernel), List.mem_of_getElem? (i := 391) (by decide +kernel)⟩
theorem lw_p24 : lw_okq (⟨"ClassObjectMirrorModel", "letter", "(I)V"⟩, 12) := ⟨⟨by decide +kernel, by decide +kernel⟩, List.mem_of_getElem? (i := 289) (by decide +kernel), List.mem_of_getElem? (i := 394) (by decide +kernel), List.mem_of_getElem? (i := 395) (by decide +kernel)⟩
theorem lw_p25 : lw_okq (⟨"ClassObjectMirrorModel", "name", "(I)V"⟩, 12) := ⟨⟨by decide +kernel, by decide +kernel⟩, List.mem_of_getElem? (i := 289) (by decide +kernel), List.mem_of_getElem? (i := 401) (by decide +kernel), List.mem_of_getElem? (i := 402) (by decide +kernel)⟩
theorem lw_p26 : lw_okq (⟨"ClassObjectMirrorModel", "word", "(J)V"⟩, 12) := ⟨⟨by decide +kernel, by decide +kernel⟩, List.mem_of_getElem? (i := 289) (by decide +kernel), List.mem_of_getElem? (i := 406) (by decide +kernel), List.mem_of_getElem? (i := 407) (by decide +kernel)⟩
theorem lw_p27 : lw_okq (⟨"ClassObjectMirrorModel", "simple", "(I)V"⟩, 12) := ⟨⟨by decide +kernel, by decide +kernel⟩, List.mem_of_getElem? (i := 289) (by decide +kernel), List.mem_of_getElem? (i := 416) (by decide +kernel), List.mem_of_getElem? (i := 417) (by decide +kernel)⟩
theorem lw_p28 : lw_okq (⟨"ClassObjectMirrorModel", "create", "(III)I"⟩, 12) := ⟨⟨by decide +kernel, by decide +kernel⟩, List.mem_of_getElem? (i := 289) (by decide +kernel), List.mem_of_getElem? (i := 448) (by decide +kernel), List.mem_of_getElem? (i := 449) (by decide +kernel)⟩
theorem lw_p29 : lw_okq (⟨"ClassObjectMirrorModel", "noObject", "(I)Z"⟩, 12) := ⟨⟨by decide +kernel, by decide +kernel⟩, List.mem_of_getElem? (i := 289) (by decide +kernel), List.mem_of_getElem? (i := 461) (by decide +kernel), List.mem_of_getElem? (i := 462) (by decide +kernel)⟩
theorem lw_p30 : lw_okq (⟨"ClassObjectMirrorModel", "array", "(I)I"⟩, 12) := ⟨⟨by decide +kernel, by decide +kernel⟩, List.mem_of_getElem? (i := 289) (by decide +kernel), List.mem_of_getElem? (i := 477) (by decide +kernel), List.mem_of_getElem? (i := 478) (by decide +kernel)⟩
theorem lw_p31 : lw_okq (⟨"ClassObjectMirrorModel", "outside", "(II)Z"⟩, 12) := ⟨⟨by decide +kernel, by decide +kernel⟩, List.mem_of_getElem? (i := 289) (by decide +kernel), List.mem_of_getElem? (i := 481) (by decide +kernel), List.mem_of_getElem? (i := 482) (by decide +kernel)⟩
def lw_privs_2 : List (MethodName × Nat) := [(⟨"ClassObjectMirror", "isIndex", "(II)Z"⟩, 11), (⟨"ClassObjectMirror", "isArrayOfBases", "(I)Z"⟩, 11), (⟨"ClassObjectMirrorModel", "noType", "(I)Z"⟩, 12), (⟨"ClassObjectMirrorModel", "search", "(I)I"⟩, 12), (⟨"ClassObjectMirrorModel", "enter", "(II)V"⟩, 12), (⟨"ClassObjectMirrorModel", "above", "(II)Z"⟩, 12), (⟨"ClassObjectMirrorModel", "bottom", "(I)I"⟩, 12), (⟨"ClassObjectMirrorModel", "describe", "(IZ)V"⟩, 12), (⟨"ClassObjectMirrorModel", "letter", "(I)V"⟩, 12), (⟨"ClassObjectMirrorModel", "name", "(I)V"⟩, 12), (⟨"ClassObjectMirrorModel", "word", "(J)V"⟩, 12), (⟨"ClassObjectMirrorModel", "simple", "(I)V"⟩, 12), (⟨"ClassObjectMirrorModel", "create", "(III)I"⟩, 12), (⟨"ClassObjectMirrorModel", "noObject", "(I)Z"⟩, 12), (⟨"ClassObjectMirrorModel", "array", "(I)I"⟩, 12), (⟨"ClassObjectMirrorModel", "outside", "(II)Z"⟩, 12)]
theorem lw_r2 : ∀ q ∈ lw_privs_2, lw_okq q := List.forall_mem_cons.mpr ⟨lw_p16, List.forall_mem_cons.mpr ⟨lw_p17, List.forall_mem_cons.mpr ⟨lw_p18, List.forall_mem_cons.mpr ⟨lw_p19, List.forall_mem_cons.mpr ⟨lw_p20, List.forall_mem_cons.mpr ⟨lw_p21, List.forall_mem_cons.mpr ⟨lw_p22, List.forall_mem_cons.mpr ⟨lw_p23, List.forall_mem_cons.mpr ⟨lw_p24, List.forall_mem_cons.mpr ⟨lw_p25, List.forall_mem_cons.mpr ⟨lw_p26, List.forall_mem_cons.mpr ⟨lw_p27, List.forall_mem_cons.mpr ⟨lw_p28, List.forall_mem_cons.mpr ⟨lw_p29, List.forall_mem_cons.mpr ⟨lw_p30, List.forall_mem_cons.mpr ⟨lw_p31, fun _ h => absurd h List.not_mem_nil⟩⟩⟩⟩⟩⟩⟩⟩⟩⟩⟩⟩⟩⟩⟩⟩
def lw_privs : List (MethodName × Nat) := lw_privs_1 ++ (lw_privs_2)
def lw_tbl : List Cond := k2_sels lw_privs ++ tables_1
theorem lw_privs_ok : ∀ q ∈ lw_privs, lw_okq q := by
  show ∀ q ∈ lw_privs_1 ++ (lw_privs_2), lw_okq q
  exact List.forall_mem_append.mpr ⟨lw_r1, lw_r2⟩
/-! the words that may be handed on to a callee, one list for all methods -/
def gW : List Cond := lw_tbl.filter goodWord
theorem gW_in : ∀ w ∈ gW, w ∈ lw_tbl := fun w h => (List.mem_filter.mp h).1
theorem gW_good : GoodIn gW gW := fun w h => ⟨h, good_of_word (List.mem_filter.mp h).2⟩
theorem gW_1 {w : Cond} {i : Nat} (h : tables_1_1[i]? = some w) (g : goodWord w = true) : w ∈ gW := List.mem_filter.mpr ⟨List.mem_append_right _ (List.mem_append_left _ (List.mem_of_getElem? h)), g⟩
theorem gW_2 {w : Cond} {i : Nat} (h : tables_1_2[i]? = some w) (g : goodWord w = true) : w ∈ gW := List.mem_filter.mpr ⟨List.mem_append_right _ (List.mem_append_right _ (List.mem_append_left _ (List.mem_of_getElem? h))), g⟩
theorem gW_3 {w : Cond} {i : Nat} (h : tables_1_3[i]? = some w) (g : goodWord w = true) : w ∈ gW := List.mem_filter.mpr ⟨List.mem_append_right _ (List.mem_append_right _ (List.mem_append_right _ (List.mem_of_getElem? h))), g⟩
theorem gW_s1 {w : Cond} {i : Nat} (h : (k2_sels lw_privs_1)[i]? = some w) (g : goodWord w = true) : w ∈ gW := List.mem_filter.mpr ⟨List.mem_append_left _ (by unfold lw_privs k2_sels; rw [List.map_append]; exact List.mem_append_left _ (List.mem_of_getElem? h)), g⟩
theorem gW_s2 {w : Cond} {i : Nat} (h : (k2_sels lw_privs_2)[i]? = some w) (g : goodWord w = true) : w ∈ gW := List.mem_filter.mpr ⟨List.mem_append_left _ (by unfold lw_privs k2_sels; rw [List.map_append]; exact List.mem_append_right _ (List.mem_of_getElem? h)), g⟩
def yy_X_init : MethodName := ⟨"ClassObjectMirror", "<init>", "()V"⟩
def yy_X_arrayOf : MethodName := ⟨"ClassObjectMirror", "arrayOf", "(I)I"⟩
def yy_X_arrayTypeFor : MethodName := ⟨"ClassObjectMirror", "arrayTypeFor", "(I)I"⟩
def yy_X_asBaseHasIt : MethodName := ⟨"ClassObjectMirror", "asBaseHasIt", "(II)J"⟩
def yy_X_canBeComponent : MethodName := ⟨"ClassObjectMirror", "canBeComponent", "(I)Z"⟩
def yy_X_cast : MethodName := ⟨"ClassObjectMirror", "cast", "(II)I"⟩
def yy_X_characterOf : MethodName := ⟨"ClassObjectMirror", "characterOf", "(Ljava/lang/String;I)I"⟩
def yy_X_classOf : MethodName := ⟨"ClassObjectMirror", "classOf", "(I)I"⟩
def yy_X_codedCharacterOf : MethodName := ⟨"ClassObjectMirror", "codedCharacterOf", "(IIC)I"⟩
def yy_X_colorConstant : MethodName := ⟨"ClassObjectMirror", "colorConstant", "(I)I"⟩
def yy_X_component : MethodName := ⟨"ClassObjectMirror", "component", "(I)I"⟩
def yy_X_componentOfArray : MethodName := ⟨"ClassObjectMirror", "componentOfArray", "(I)I"⟩
def yy_X_copy : MethodName := ⟨"ClassObjectMirror", "copy", "(I)I"⟩
def yy_X_count : MethodName := ⟨"ClassObjectMirror", "count", "(I)I"⟩
def yy_X_dimensions : MethodName := ⟨"ClassObjectMirror", "dimensions", "(I)I"⟩
def yy_X_get : MethodName := ⟨"ClassObjectMirror", "get", "(II)J"⟩
def yy_X_instance : MethodName := ⟨"ClassObjectMirror", "instance", "(II)I"⟩
def yy_X_isAboveEveryArray : MethodName := ⟨"ClassObjectMirror", "isAboveEveryArray", "(I)Z"⟩
def yy_X_isArray : MethodName := ⟨"ClassObjectMirror", "isArray", "(I)Z"⟩
def yy_X_isArrayOfBases : MethodName := ⟨"ClassObjectMirror", "isArrayOfBases", "(I)Z"⟩
def yy_X_isArrayOfObjects : MethodName := ⟨"ClassObjectMirror", "isArrayOfObjects", "(I)Z"⟩
def yy_X_isArrayType : MethodName := ⟨"ClassObjectMirror", "isArrayType", "(I)Z"⟩
def yy_X_isBase : MethodName := ⟨"ClassObjectMirror", "isBase", "(I)Z"⟩
def yy_X_isIndex : MethodName := ⟨"ClassObjectMirror", "isIndex", "(II)Z"⟩
def yy_X_isInstance : MethodName := ⟨"ClassObjectMirror", "isInstance", "(II)Z"⟩
def yy_X_isObject : MethodName := ⟨"ClassObjectMirror", "isObject", "(I)Z"⟩
def yy_X_isSupertype : MethodName := ⟨"ClassObjectMirror", "isSupertype", "(II)Z"⟩
def yy_X_isType : MethodName := ⟨"ClassObjectMirror", "isType", "(I)Z"⟩
def yy_X_kinds : MethodName := ⟨"ClassObjectMirror", "kinds", "(I)I"⟩
def yy_X_label : MethodName := ⟨"ClassObjectMirror", "label", "(I)I"⟩
def yy_X_length : MethodName := ⟨"ClassObjectMirror", "length", "(I)I"⟩
def yy_X_load : MethodName := ⟨"ClassObjectMirror", "load", "(II)I"⟩
def yy_X_make : MethodName := ⟨"ClassObjectMirror", "make", "(II)I"⟩
def yy_X_makeArray : MethodName := ⟨"ClassObjectMirror", "makeArray", "(II)I"⟩
def yy_X_marks : MethodName := ⟨"ClassObjectMirror", "marks", "(I)I"⟩
def yy_X_newArray : MethodName := ⟨"ClassObjectMirror", "newArray", "(II)I"⟩
def yy_X_newObject : MethodName := ⟨"ClassObjectMirror", "newObject", "(II)I"⟩
def yy_X_placeOf : MethodName := ⟨"ClassObjectMirror", "placeOf", "(II)I"⟩
def yy_X_put : MethodName := ⟨"ClassObjectMirror", "put", "(III)I"⟩
def yy_X_simpleCharacterOf : MethodName := ⟨"ClassObjectMirror", "simpleCharacterOf", "(II)I"⟩
def yy_X_store : MethodName := ⟨"ClassObjectMirror", "store", "(III)I"⟩
def yy_X_supertype : MethodName := ⟨"ClassObjectMirror", "supertype", "(II)I"⟩
def yy_X_text : MethodName := ⟨"ClassObjectMirror", "text", "(III)I"⟩
def yy_E_codedCharacter : MethodName := ⟨"ClassObjectMirror$FixedType", "codedCharacter", "(IC)I"⟩
def yy_E_simpleLength : MethodName := ⟨"ClassObjectMirror$FixedType", "simpleLength", "()I"⟩
def yy_M_init : MethodName := ⟨"ClassObjectMirrorModel", "<init>", "()V"⟩
def yy_M_above : MethodName := ⟨"ClassObjectMirrorModel", "above", "(II)Z"⟩
def yy_M_array : MethodName := ⟨"ClassObjectMirrorModel", "array", "(I)I"⟩
def yy_M_arrayOf : MethodName := ⟨"ClassObjectMirrorModel", "arrayOf", "(I)I"⟩
def yy_M_as : MethodName := ⟨"ClassObjectMirrorModel", "as", "(II)J"⟩
def yy_M_base : MethodName := ⟨"ClassObjectMirrorModel", "base", "(I)Z"⟩
def yy_M_bottom : MethodName := ⟨"ClassObjectMirrorModel", "bottom", "(I)I"⟩
def yy_M_cast : MethodName := ⟨"ClassObjectMirrorModel", "cast", "(II)I"⟩
def yy_M_classOf : MethodName := ⟨"ClassObjectMirrorModel", "classOf", "(I)I"⟩
def yy_M_code : MethodName := ⟨"ClassObjectMirrorModel", "code", "(I)I"⟩
def yy_M_component : MethodName := ⟨"ClassObjectMirrorModel", "component", "(I)I"⟩
def yy_M_copy : MethodName := ⟨"ClassObjectMirrorModel", "copy", "(I)I"⟩
def yy_M_count : MethodName := ⟨"ClassObjectMirrorModel", "count", "(I)I"⟩
def yy_M_create : MethodName := ⟨"ClassObjectMirrorModel", "create", "(III)I"⟩
def yy_M_describe : MethodName := ⟨"ClassObjectMirrorModel", "describe", "(IZ)V"⟩
def yy_M_dimensions : MethodName := ⟨"ClassObjectMirrorModel", "dimensions", "(I)I"⟩
def yy_M_enter : MethodName := ⟨"ClassObjectMirrorModel", "enter", "(II)V"⟩
def yy_M_get : MethodName := ⟨"ClassObjectMirrorModel", "get", "(II)J"⟩
def yy_M_instance : MethodName := ⟨"ClassObjectMirrorModel", "instance", "(II)I"⟩
def yy_M_kinds : MethodName := ⟨"ClassObjectMirrorModel", "kinds", "(I)I"⟩
def yy_M_label : MethodName := ⟨"ClassObjectMirrorModel", "label", "(I)I"⟩
def yy_M_length : MethodName := ⟨"ClassObjectMirrorModel", "length", "(I)I"⟩
def yy_M_letter : MethodName := ⟨"ClassObjectMirrorModel", "letter", "(I)V"⟩
def yy_M_load : MethodName := ⟨"ClassObjectMirrorModel", "load", "(II)I"⟩
def yy_M_make : MethodName := ⟨"ClassObjectMirrorModel", "make", "(II)I"⟩
def yy_M_makeArray : MethodName := ⟨"ClassObjectMirrorModel", "makeArray", "(II)I"⟩
def yy_M_marks : MethodName := ⟨"ClassObjectMirrorModel", "marks", "(I)I"⟩
def yy_M_name : MethodName := ⟨"ClassObjectMirrorModel", "name", "(I)V"⟩
def yy_M_noObject : MethodName := ⟨"ClassObjectMirrorModel", "noObject", "(I)Z"⟩
def yy_M_noType : MethodName := ⟨"ClassObjectMirrorModel", "noType", "(I)Z"⟩
def yy_M_outside : MethodName := ⟨"ClassObjectMirrorModel", "outside", "(II)Z"⟩
def yy_M_put : MethodName := ⟨"ClassObjectMirrorModel", "put", "(III)I"⟩
def yy_M_rounded : MethodName := ⟨"ClassObjectMirrorModel", "rounded", "(J)J"⟩
def yy_M_search : MethodName := ⟨"ClassObjectMirrorModel", "search", "(I)I"⟩
def yy_M_simple : MethodName := ⟨"ClassObjectMirrorModel", "simple", "(I)V"⟩
def yy_M_store : MethodName := ⟨"ClassObjectMirrorModel", "store", "(III)I"⟩
def yy_M_supertype : MethodName := ⟨"ClassObjectMirrorModel", "supertype", "(II)I"⟩
def yy_M_text : MethodName := ⟨"ClassObjectMirrorModel", "text", "(III)I"⟩
def yy_M_word : MethodName := ⟨"ClassObjectMirrorModel", "word", "(J)V"⟩
def yy_J_floorMod : MethodName := ⟨"java/lang/Math", "floorMod", "(II)I"⟩
def yy_O_init : MethodName := ⟨"java/lang/Object", "<init>", "()V"⟩
def yy_S_charAt : MethodName := ⟨"java/lang/String", "charAt", "(I)C"⟩
def yy_S_checkIndex : MethodName := ⟨"java/lang/String", "checkIndex", "(II)V"⟩
def yy_S_coder : MethodName := ⟨"java/lang/String", "coder", "()B"⟩
def yy_S_isEmpty : MethodName := ⟨"java/lang/String", "isEmpty", "()Z"⟩
def yy_S_isLatin1 : MethodName := ⟨"java/lang/String", "isLatin1", "()Z"⟩
def yy_S_length : MethodName := ⟨"java/lang/String", "length", "()I"⟩
def yy_T_charAt : MethodName := ⟨"java/lang/StringLatin1", "charAt", "([BI)C"⟩
def yy_U_charAt : MethodName := ⟨"java/lang/StringUTF16", "charAt", "([BI)C"⟩
def yy_U_checkIndex : MethodName := ⟨"java/lang/StringUTF16", "checkIndex", "(I[B)V"⟩
def yy_U_getChar : MethodName := ⟨"java/lang/StringUTF16", "getChar", "([BI)C"⟩
def yy_U_length : MethodName := ⟨"java/lang/StringUTF16", "length", "([B)I"⟩
def yy_P_checkIndex : MethodName := ⟨"jdk/internal/util/Preconditions", "checkIndex", "(IILjava/util/function/BiFunction;)I"⟩
abbrev bb_X_init : ByteArray := prog_1_method_1_code
abbrev bb_X_arrayOf : ByteArray := prog_1_method_2_code
abbrev bb_X_arrayTypeFor : ByteArray := prog_1_method_26_code
abbrev bb_X_asBaseHasIt : ByteArray := prog_1_method_43_code
abbrev bb_X_canBeComponent : ByteArray := prog_1_method_25_code
abbrev bb_X_cast : ByteArray := prog_1_method_13_code
abbrev bb_X_characterOf : ByteArray := prog_1_method_29_code
abbrev bb_X_classOf : ByteArray := prog_1_method_11_code
abbrev bb_X_codedCharacterOf : ByteArray := prog_1_method_30_code
abbrev bb_X_colorConstant : ByteArray := prog_1_method_42_code
abbrev bb_X_component : ByteArray := prog_1_method_3_code
abbrev bb_X_componentOfArray : ByteArray := prog_1_method_36_code
abbrev bb_X_copy : ByteArray := prog_1_method_19_code
abbrev bb_X_count : ByteArray := prog_1_method_21_code
abbrev bb_X_dimensions : ByteArray := prog_1_method_4_code
abbrev bb_X_get : ByteArray := prog_1_method_17_code
abbrev bb_X_instance : ByteArray := prog_1_method_12_code
abbrev bb_X_isAboveEveryArray : ByteArray := prog_1_method_28_code
abbrev bb_X_isArray : ByteArray := prog_1_method_33_code
abbrev bb_X_isArrayOfBases : ByteArray := prog_1_method_34_code
abbrev bb_X_isArrayOfObjects : ByteArray := prog_1_method_35_code
abbrev bb_X_isArrayType : ByteArray := prog_1_method_23_code
abbrev bb_X_isBase : ByteArray := prog_1_method_24_code
abbrev bb_X_isIndex : ByteArray := prog_1_method_38_code
abbrev bb_X_isInstance : ByteArray := prog_1_method_37_code
abbrev bb_X_isObject : ByteArray := prog_1_method_32_code
abbrev bb_X_isSupertype : ByteArray := prog_1_method_27_code
abbrev bb_X_isType : ByteArray := prog_1_method_22_code
abbrev bb_X_kinds : ByteArray := prog_1_method_7_code
abbrev bb_X_label : ByteArray := prog_1_method_20_code
abbrev bb_X_length : ByteArray := prog_1_method_18_code
abbrev bb_X_load : ByteArray := prog_1_method_15_code
abbrev bb_X_make : ByteArray := prog_1_method_9_code
abbrev bb_X_makeArray : ByteArray := prog_1_method_10_code
abbrev bb_X_marks : ByteArray := prog_1_method_6_code
abbrev bb_X_newArray : ByteArray := prog_1_method_41_code
abbrev bb_X_newObject : ByteArray := prog_1_method_40_code
abbrev bb_X_placeOf : ByteArray := prog_1_method_39_code
abbrev bb_X_put : ByteArray := prog_1_method_16_code
abbrev bb_X_simpleCharacterOf : ByteArray := prog_1_method_31_code
abbrev bb_X_store : ByteArray := prog_1_method_14_code
abbrev bb_X_supertype : ByteArray := prog_1_method_5_code
abbrev bb_X_text : ByteArray := prog_1_method_8_code
abbrev bb_E_codedCharacter : ByteArray := prog_2_method_7_code
abbrev bb_E_simpleLength : ByteArray := prog_2_method_6_code
abbrev bb_M_init : ByteArray := prog_4_method_1_code
abbrev bb_M_above : ByteArray := prog_4_method_10_code
abbrev bb_M_array : ByteArray := prog_4_method_28_code
abbrev bb_M_arrayOf : ByteArray := prog_4_method_7_code
abbrev bb_M_as : ByteArray := prog_4_method_33_code
abbrev bb_M_base : ByteArray := prog_4_method_4_code
abbrev bb_M_bottom : ByteArray := prog_4_method_12_code
abbrev bb_M_cast : ByteArray := prog_4_method_27_code
abbrev bb_M_classOf : ByteArray := prog_4_method_25_code
abbrev bb_M_code : ByteArray := prog_4_method_19_code
abbrev bb_M_component : ByteArray := prog_4_method_8_code
abbrev bb_M_copy : ByteArray := prog_4_method_37_code
abbrev bb_M_count : ByteArray := prog_4_method_39_code
abbrev bb_M_create : ByteArray := prog_4_method_22_code
abbrev bb_M_describe : ByteArray := prog_4_method_20_code
abbrev bb_M_dimensions : ByteArray := prog_4_method_9_code
abbrev bb_M_enter : ByteArray := prog_4_method_6_code
abbrev bb_M_get : ByteArray := prog_4_method_35_code
abbrev bb_M_instance : ByteArray := prog_4_method_26_code
abbrev bb_M_kinds : ByteArray := prog_4_method_14_code
abbrev bb_M_label : ByteArray := prog_4_method_38_code
abbrev bb_M_length : ByteArray := prog_4_method_36_code
abbrev bb_M_letter : ByteArray := prog_4_method_15_code
abbrev bb_M_load : ByteArray := prog_4_method_31_code
abbrev bb_M_make : ByteArray := prog_4_method_23_code
abbrev bb_M_makeArray : ByteArray := prog_4_method_24_code
abbrev bb_M_marks : ByteArray := prog_4_method_13_code
abbrev bb_M_name : ByteArray := prog_4_method_18_code
abbrev bb_M_noObject : ByteArray := prog_4_method_3_code
abbrev bb_M_noType : ByteArray := prog_4_method_2_code
abbrev bb_M_outside : ByteArray := prog_4_method_29_code
abbrev bb_M_put : ByteArray := prog_4_method_34_code
abbrev bb_M_rounded : ByteArray := prog_4_method_32_code
abbrev bb_M_search : ByteArray := prog_4_method_5_code
abbrev bb_M_simple : ByteArray := prog_4_method_17_code
abbrev bb_M_store : ByteArray := prog_4_method_30_code
abbrev bb_M_supertype : ByteArray := prog_4_method_11_code
abbrev bb_M_text : ByteArray := prog_4_method_21_code
abbrev bb_M_word : ByteArray := prog_4_method_16_code
abbrev bb_J_floorMod : ByteArray := prog_6_method_50_code
abbrev bb_O_init : ByteArray := object_method_1_code
abbrev bb_S_charAt : ByteArray := prog_7_method_56_code
abbrev bb_S_checkIndex : ByteArray := prog_7_method_155_code
abbrev bb_S_coder : ByteArray := prog_7_method_152_code
abbrev bb_S_isEmpty : ByteArray := prog_7_method_55_code
abbrev bb_S_isLatin1 : ByteArray := prog_7_method_154_code
abbrev bb_S_length : ByteArray := prog_7_method_54_code
abbrev bb_T_charAt : ByteArray := prog_8_method_2_code
abbrev bb_U_charAt : ByteArray := prog_9_method_83_code
abbrev bb_U_checkIndex : ByteArray := prog_9_method_91_code
abbrev bb_U_getChar : ByteArray := prog_9_method_5_code
abbrev bb_U_length : ByteArray := prog_9_method_6_code
abbrev bb_P_checkIndex : ByteArray := prog_11_method_11_code
theorem gw_0 : (Cond.initialized "ClassObjectMirrorLaw") ∈ gW := gW_1 (i := 0) rfl rfl
theorem gw_1 : (Cond.initialized "ClassObjectMirror") ∈ gW := gW_1 (i := 1) rfl rfl
theorem gw_2 : (Cond.initialized "ClassObjectMirrorModel") ∈ gW := gW_1 (i := 2) rfl rfl
theorem gw_3 : (Cond.initialized "java/lang/String") ∈ gW := gW_1 (i := 3) rfl rfl
theorem gw_4 : (Cond.initialized "java/lang/StringLatin1") ∈ gW := gW_1 (i := 4) rfl rfl
theorem gw_5 : (Cond.initialized "jdk/internal/util/Preconditions") ∈ gW := gW_1 (i := 5) rfl rfl
theorem gw_6 : (Cond.initialized "java/lang/StringUTF16") ∈ gW := gW_1 (i := 6) rfl rfl
theorem gw_7 : (Cond.initialized "java/lang/Math") ∈ gW := gW_1 (i := 7) rfl rfl
theorem gw_8 : (Cond.initialized "java/lang/System") ∈ gW := gW_1 (i := 8) rfl rfl
theorem gw_9 : (Cond.classLink "ClassObjectMirrorLaw" 7 "ClassObjectMirror") ∈ gW := gW_1 (i := 9) rfl rfl
theorem gw_10 : (Cond.instantiable "ClassObjectMirror" 11) ∈ gW := gW_1 (i := 10) rfl rfl
theorem gw_11 : (Cond.methodLink "ClassObjectMirrorLaw" 9 yy_X_init) ∈ gW := gW_1 (i := 11) rfl rfl
theorem gw_12 : (Cond.instanceMethod yy_X_init) ∈ gW := gW_1 (i := 12) rfl rfl
theorem gw_13 : (Cond.code yy_X_init prog_1_method_1_code 2 (Option.none : Option FieldType)) ∈ gW := gW_1 (i := 13) rfl rfl
theorem gw_14 : (Cond.methodLink "ClassObjectMirror" 1 yy_O_init) ∈ gW := gW_1 (i := 14) rfl rfl
theorem gw_15 : (Cond.instanceMethod yy_O_init) ∈ gW := gW_1 (i := 15) rfl rfl
theorem gw_16 : (Cond.code yy_O_init object_method_1_code 1 (Option.none : Option FieldType)) ∈ gW := gW_1 (i := 16) rfl rfl
theorem gw_17 : (Cond.fieldLink "ClassObjectMirror" 9 "ClassObjectMirror" "typeCount" "I") ∈ gW := gW_1 (i := 17) rfl rfl
theorem gw_18 : (Cond.fieldLink "ClassObjectMirror" 13 "ClassObjectMirror" "componentOfType" "[I") ∈ gW := gW_1 (i := 18) rfl rfl
theorem gw_19 : (Cond.fieldLink "ClassObjectMirror" 17 "ClassObjectMirror" "dimensionsOfType" "[I") ∈ gW := gW_1 (i := 19) rfl rfl
theorem gw_20 : (Cond.fieldLink "ClassObjectMirror" 20 "ClassObjectMirror" "rootOfType" "[I") ∈ gW := gW_1 (i := 20) rfl rfl
theorem gw_21 : (Cond.fieldLink "ClassObjectMirror" 23 "ClassObjectMirror" "arrayTypeOfType" "[I") ∈ gW := gW_1 (i := 21) rfl rfl
theorem gw_22 : (Cond.fieldLink "ClassObjectMirror" 26 "ClassObjectMirror" "objectCount" "I") ∈ gW := gW_1 (i := 22) rfl rfl
theorem gw_23 : (Cond.fieldLink "ClassObjectMirror" 29 "ClassObjectMirror" "classOfObject" "[I") ∈ gW := gW_1 (i := 23) rfl rfl
theorem gw_24 : (Cond.fieldLink "ClassObjectMirror" 32 "ClassObjectMirror" "valueOfObject" "[I") ∈ gW := gW_1 (i := 24) rfl rfl
theorem gw_25 : (Cond.fieldLink "ClassObjectMirror" 35 "ClassObjectMirror" "lengthOfObject" "[I") ∈ gW := gW_1 (i := 25) rfl rfl
theorem gw_26 : (Cond.fieldLink "ClassObjectMirror" 38 "ClassObjectMirror" "elements" "[J") ∈ gW := gW_1 (i := 26) rfl rfl
theorem gw_27 : (Cond.fieldLink "ClassObjectMirror" 42 "ClassObjectMirror" "objectOfColor" "[I") ∈ gW := gW_1 (i := 27) rfl rfl
theorem gw_28 : (Cond.lays "ClassObjectMirror" "ClassObjectMirror" "typeCount" "I") ∈ gW := gW_1 (i := 28) rfl rfl
theorem gw_30 : (Cond.laysFinal "ClassObjectMirror" "ClassObjectMirror" "componentOfType" "[I") ∈ gW := gW_1 (i := 30) rfl rfl
theorem gw_32 : (Cond.laysFinal "ClassObjectMirror" "ClassObjectMirror" "dimensionsOfType" "[I") ∈ gW := gW_1 (i := 32) rfl rfl
theorem gw_34 : (Cond.laysFinal "ClassObjectMirror" "ClassObjectMirror" "rootOfType" "[I") ∈ gW := gW_1 (i := 34) rfl rfl
theorem gw_36 : (Cond.laysFinal "ClassObjectMirror" "ClassObjectMirror" "arrayTypeOfType" "[I") ∈ gW := gW_1 (i := 36) rfl rfl
theorem gw_38 : (Cond.lays "ClassObjectMirror" "ClassObjectMirror" "objectCount" "I") ∈ gW := gW_1 (i := 38) rfl rfl
theorem gw_40 : (Cond.laysFinal "ClassObjectMirror" "ClassObjectMirror" "classOfObject" "[I") ∈ gW := gW_1 (i := 40) rfl rfl
theorem gw_42 : (Cond.laysFinal "ClassObjectMirror" "ClassObjectMirror" "valueOfObject" "[I") ∈ gW := gW_1 (i := 42) rfl rfl
theorem gw_44 : (Cond.laysFinal "ClassObjectMirror" "ClassObjectMirror" "lengthOfObject" "[I") ∈ gW := gW_1 (i := 44) rfl rfl
theorem gw_46 : (Cond.laysFinal "ClassObjectMirror" "ClassObjectMirror" "elements" "[J") ∈ gW := gW_1 (i := 46) rfl rfl
theorem gw_48 : (Cond.laysFinal "ClassObjectMirror" "ClassObjectMirror" "objectOfColor" "[I") ∈ gW := gW_1 (i := 48) rfl rfl
theorem gw_51 : (Cond.arrayClass FieldType.int) ∈ gW := gW_1 (i := 51) rfl rfl
theorem gw_52 : (Cond.arrayClass FieldType.long) ∈ gW := gW_1 (i := 52) rfl rfl
theorem gw_53 : (Cond.methodLink "ClassObjectMirrorLaw" 13 yy_X_arrayOf) ∈ gW := gW_1 (i := 53) rfl rfl
theorem gw_54 : (Cond.instanceMethod yy_X_arrayOf) ∈ gW := gW_1 (i := 54) rfl rfl
theorem gw_55 : (Cond.selects "ClassObjectMirror" yy_X_arrayOf yy_X_arrayOf) ∈ gW := gW_1 (i := 55) rfl rfl
theorem gw_56 : (Cond.code yy_X_arrayOf prog_1_method_2_code 2 (Option.some FieldType.int)) ∈ gW := gW_1 (i := 56) rfl rfl
theorem gw_57 : (Cond.methodLink "ClassObjectMirror" 45 yy_X_isType) ∈ gW := gW_1 (i := 57) rfl rfl
theorem gw_59 : (Cond.instanceMethod yy_X_isType) ∈ gW := gW_1 (i := 59) rfl rfl
theorem gw_60 : (Cond.code yy_X_isType prog_1_method_22_code 2 (Option.some FieldType.boolean)) ∈ gW := gW_1 (i := 60) rfl rfl
theorem gw_61 : (Cond.methodLink "ClassObjectMirror" 49 yy_X_canBeComponent) ∈ gW := gW_1 (i := 61) rfl rfl
theorem gw_63 : (Cond.instanceMethod yy_X_canBeComponent) ∈ gW := gW_1 (i := 63) rfl rfl
theorem gw_64 : (Cond.code yy_X_canBeComponent prog_1_method_25_code 2 (Option.some FieldType.boolean)) ∈ gW := gW_1 (i := 64) rfl rfl
theorem gw_65 : (Cond.methodLink "ClassObjectMirror" 52 yy_X_arrayTypeFor) ∈ gW := gW_1 (i := 65) rfl rfl
theorem gw_67 : (Cond.instanceMethod yy_X_arrayTypeFor) ∈ gW := gW_1 (i := 67) rfl rfl
theorem gw_68 : (Cond.code yy_X_arrayTypeFor prog_1_method_26_code 3 (Option.some FieldType.int)) ∈ gW := gW_1 (i := 68) rfl rfl
theorem gw_69 : (Cond.methodLink "ClassObjectMirrorLaw" 18 yy_X_component) ∈ gW := gW_1 (i := 69) rfl rfl
theorem gw_70 : (Cond.instanceMethod yy_X_component) ∈ gW := gW_1 (i := 70) rfl rfl
theorem gw_71 : (Cond.selects "ClassObjectMirror" yy_X_component yy_X_component) ∈ gW := gW_1 (i := 71) rfl rfl
theorem gw_72 : (Cond.code yy_X_component prog_1_method_3_code 2 (Option.some FieldType.int)) ∈ gW := gW_1 (i := 72) rfl rfl
theorem gw_73 : (Cond.methodLink "ClassObjectMirrorLaw" 22 yy_X_dimensions) ∈ gW := gW_1 (i := 73) rfl rfl
theorem gw_74 : (Cond.instanceMethod yy_X_dimensions) ∈ gW := gW_1 (i := 74) rfl rfl
theorem gw_75 : (Cond.selects "ClassObjectMirror" yy_X_dimensions yy_X_dimensions) ∈ gW := gW_1 (i := 75) rfl rfl
theorem gw_76 : (Cond.code yy_X_dimensions prog_1_method_4_code 2 (Option.some FieldType.int)) ∈ gW := gW_1 (i := 76) rfl rfl
theorem gw_77 : (Cond.methodLink "ClassObjectMirrorLaw" 26 yy_X_supertype) ∈ gW := gW_1 (i := 77) rfl rfl
theorem gw_78 : (Cond.instanceMethod yy_X_supertype) ∈ gW := gW_1 (i := 78) rfl rfl
theorem gw_79 : (Cond.selects "ClassObjectMirror" yy_X_supertype yy_X_supertype) ∈ gW := gW_1 (i := 79) rfl rfl
theorem gw_80 : (Cond.code yy_X_supertype prog_1_method_5_code 3 (Option.some FieldType.int)) ∈ gW := gW_1 (i := 80) rfl rfl
theorem gw_81 : (Cond.methodLink "ClassObjectMirror" 56 yy_X_isSupertype) ∈ gW := gW_1 (i := 81) rfl rfl
theorem gw_83 : (Cond.instanceMethod yy_X_isSupertype) ∈ gW := gW_1 (i := 83) rfl rfl
theorem gw_84 : (Cond.code yy_X_isSupertype prog_1_method_27_code 4 (Option.some FieldType.boolean)) ∈ gW := gW_1 (i := 84) rfl rfl
theorem gw_85 : (Cond.fieldLink "ClassObjectMirror" 60 "ClassObjectMirror" "FIXED" "[LClassObjectMirror$FixedType;") ∈ gW := gW_1 (i := 85) rfl rfl
theorem gw_87 : (Cond.methodLink "ClassObjectMirror" 144 yy_X_isAboveEveryArray) ∈ gW := gW_1 (i := 87) rfl rfl
theorem gw_88 : (Cond.static yy_X_isAboveEveryArray) ∈ gW := gW_1 (i := 88) rfl rfl
theorem gw_89 : (Cond.code yy_X_isAboveEveryArray prog_1_method_28_code 1 (Option.some FieldType.boolean)) ∈ gW := gW_1 (i := 89) rfl rfl
theorem gw_90 : (Cond.methodLink "ClassObjectMirrorLaw" 31 yy_X_marks) ∈ gW := gW_1 (i := 90) rfl rfl
theorem gw_91 : (Cond.instanceMethod yy_X_marks) ∈ gW := gW_1 (i := 91) rfl rfl
theorem gw_92 : (Cond.selects "ClassObjectMirror" yy_X_marks yy_X_marks) ∈ gW := gW_1 (i := 92) rfl rfl
theorem gw_93 : (Cond.code yy_X_marks prog_1_method_6_code 3 (Option.some FieldType.int)) ∈ gW := gW_1 (i := 93) rfl rfl
theorem gw_94 : (Cond.methodLink "ClassObjectMirror" 69 yy_X_isArrayType) ∈ gW := gW_1 (i := 94) rfl rfl
theorem gw_95 : (Cond.static yy_X_isArrayType) ∈ gW := gW_1 (i := 95) rfl rfl
theorem gw_96 : (Cond.code yy_X_isArrayType prog_1_method_23_code 1 (Option.some FieldType.boolean)) ∈ gW := gW_1 (i := 96) rfl rfl
theorem gw_97 : (Cond.methodLink "ClassObjectMirrorLaw" 35 yy_X_kinds) ∈ gW := gW_1 (i := 97) rfl rfl
theorem gw_98 : (Cond.instanceMethod yy_X_kinds) ∈ gW := gW_1 (i := 98) rfl rfl
theorem gw_99 : (Cond.selects "ClassObjectMirror" yy_X_kinds yy_X_kinds) ∈ gW := gW_1 (i := 99) rfl rfl
theorem gw_100 : (Cond.code yy_X_kinds prog_1_method_7_code 2 (Option.some FieldType.int)) ∈ gW := gW_1 (i := 100) rfl rfl
theorem gw_101 : (Cond.methodLink "ClassObjectMirrorLaw" 39 yy_X_text) ∈ gW := gW_1 (i := 101) rfl rfl
theorem gw_102 : (Cond.instanceMethod yy_X_text) ∈ gW := gW_1 (i := 102) rfl rfl
theorem gw_103 : (Cond.selects "ClassObjectMirror" yy_X_text yy_X_text) ∈ gW := gW_1 (i := 103) rfl rfl
theorem gw_104 : (Cond.code yy_X_text prog_1_method_8_code 4 (Option.some FieldType.int)) ∈ gW := gW_1 (i := 104) rfl rfl
theorem gw_105 : (Cond.methodLink "ClassObjectMirror" 75 yy_X_codedCharacterOf) ∈ gW := gW_1 (i := 105) rfl rfl
theorem gw_107 : (Cond.instanceMethod yy_X_codedCharacterOf) ∈ gW := gW_1 (i := 107) rfl rfl
theorem gw_108 : (Cond.code yy_X_codedCharacterOf prog_1_method_30_code 5 (Option.some FieldType.int)) ∈ gW := gW_1 (i := 108) rfl rfl
theorem gw_111 : (Cond.instanceMethod yy_E_codedCharacter) ∈ gW := gW_1 (i := 111) rfl rfl
theorem gw_112 : (Cond.instantiable "ClassObjectMirror$FixedType" 9) ∈ gW := gW_1 (i := 112) rfl rfl
theorem gw_113 : (Cond.code yy_E_codedCharacter prog_2_method_7_code 4 (Option.some FieldType.int)) ∈ gW := gW_1 (i := 113) rfl rfl
theorem gw_114 : (Cond.methodLink "ClassObjectMirror$FixedType" 127 yy_S_isEmpty) ∈ gW := gW_1 (i := 114) rfl rfl
theorem gw_115 : (Cond.instanceMethod yy_S_isEmpty) ∈ gW := gW_1 (i := 115) rfl rfl
theorem gw_116 : (Cond.selects "java/lang/String" yy_S_isEmpty yy_S_isEmpty) ∈ gW := gW_1 (i := 116) rfl rfl
theorem gw_117 : (Cond.code yy_S_isEmpty prog_7_method_55_code 1 (Option.some FieldType.boolean)) ∈ gW := gW_1 (i := 117) rfl rfl
theorem gw_119 : (Cond.static yy_X_characterOf) ∈ gW := gW_1 (i := 119) rfl rfl
theorem gw_120 : (Cond.code yy_X_characterOf prog_1_method_29_code 2 (Option.some FieldType.int)) ∈ gW := gW_1 (i := 120) rfl rfl
theorem gw_121 : (Cond.methodLink "ClassObjectMirror" 147 yy_S_length) ∈ gW := gW_1 (i := 121) rfl rfl
theorem gw_122 : (Cond.instanceMethod yy_S_length) ∈ gW := gW_1 (i := 122) rfl rfl
theorem gw_123 : (Cond.selects "java/lang/String" yy_S_length yy_S_length) ∈ gW := gW_1 (i := 123) rfl rfl
theorem gw_124 : (Cond.code yy_S_length prog_7_method_54_code 1 (Option.some FieldType.int)) ∈ gW := gW_1 (i := 124) rfl rfl
theorem gw_125 : (Cond.methodLink "java/lang/String" 335 yy_S_coder) ∈ gW := gW_1 (i := 125) rfl rfl
theorem gw_126 : (Cond.instanceMethod yy_S_coder) ∈ gW := gW_1 (i := 126) rfl rfl
theorem gw_127 : (Cond.selects "java/lang/String" yy_S_coder yy_S_coder) ∈ gW := gW_1 (i := 127) rfl rfl
theorem gw_128 : (Cond.code yy_S_coder prog_7_method_152_code 1 (Option.some FieldType.byte)) ∈ gW := gW_1 (i := 128) rfl rfl
theorem gw_129 : (Cond.fieldLink "java/lang/String" 38 "java/lang/String" "COMPACT_STRINGS" "Z") ∈ gW := gW_1 (i := 129) rfl rfl
theorem gw_131 : (Cond.methodLink "ClassObjectMirror" 153 yy_S_charAt) ∈ gW := gW_1 (i := 131) rfl rfl
theorem gw_132 : (Cond.instanceMethod yy_S_charAt) ∈ gW := gW_1 (i := 132) rfl rfl
theorem gw_133 : (Cond.selects "java/lang/String" yy_S_charAt yy_S_charAt) ∈ gW := gW_1 (i := 133) rfl rfl
theorem gw_134 : (Cond.code yy_S_charAt prog_7_method_56_code 2 (Option.some FieldType.char)) ∈ gW := gW_1 (i := 134) rfl rfl
theorem gw_135 : (Cond.methodLink "java/lang/String" 492 yy_S_isLatin1) ∈ gW := gW_1 (i := 135) rfl rfl
theorem gw_136 : (Cond.instanceMethod yy_S_isLatin1) ∈ gW := gW_1 (i := 136) rfl rfl
theorem gw_137 : (Cond.selects "java/lang/String" yy_S_isLatin1 yy_S_isLatin1) ∈ gW := gW_1 (i := 137) rfl rfl
theorem gw_138 : (Cond.code yy_S_isLatin1 prog_7_method_154_code 1 (Option.some FieldType.boolean)) ∈ gW := gW_1 (i := 138) rfl rfl
theorem gw_139 : (Cond.methodLink "java/lang/String" 495 yy_T_charAt) ∈ gW := gW_1 (i := 139) rfl rfl
theorem gw_140 : (Cond.static yy_T_charAt) ∈ gW := gW_1 (i := 140) rfl rfl
theorem gw_141 : (Cond.code yy_T_charAt prog_8_method_2_code 2 (Option.some FieldType.char)) ∈ gW := gW_1 (i := 141) rfl rfl
theorem gw_142 : (Cond.methodLink "java/lang/StringLatin1" 9 yy_S_checkIndex) ∈ gW := gW_1 (i := 142) rfl rfl
theorem gw_143 : (Cond.static yy_S_checkIndex) ∈ gW := gW_1 (i := 143) rfl rfl
theorem gw_144 : (Cond.code yy_S_checkIndex prog_7_method_155_code 2 (Option.none : Option FieldType)) ∈ gW := gW_1 (i := 144) rfl rfl
theorem gw_145 : (Cond.fieldLink "java/lang/String" 1053 "jdk/internal/util/Preconditions" "SIOOBE_FORMATTER" "Ljava/util/function/BiFunction;") ∈ gW := gW_1 (i := 145) rfl rfl
theorem gw_147 : (Cond.methodLink "java/lang/String" 1059 yy_P_checkIndex) ∈ gW := gW_1 (i := 147) rfl rfl
theorem gw_148 : (Cond.static yy_P_checkIndex) ∈ gW := gW_1 (i := 148) rfl rfl
theorem gw_149 : (Cond.code yy_P_checkIndex prog_11_method_11_code 3 (Option.some FieldType.int)) ∈ gW := gW_1 (i := 149) rfl rfl
theorem gw_150 : (Cond.methodLink "java/lang/String" 498 yy_U_charAt) ∈ gW := gW_1 (i := 150) rfl rfl
theorem gw_151 : (Cond.static yy_U_charAt) ∈ gW := gW_1 (i := 151) rfl rfl
theorem gw_152 : (Cond.code yy_U_charAt prog_9_method_83_code 2 (Option.some FieldType.char)) ∈ gW := gW_1 (i := 152) rfl rfl
theorem gw_153 : (Cond.methodLink "java/lang/StringUTF16" 67 yy_U_checkIndex) ∈ gW := gW_1 (i := 153) rfl rfl
theorem gw_154 : (Cond.static yy_U_checkIndex) ∈ gW := gW_1 (i := 154) rfl rfl
theorem gw_155 : (Cond.code yy_U_checkIndex prog_9_method_91_code 2 (Option.none : Option FieldType)) ∈ gW := gW_1 (i := 155) rfl rfl
theorem gw_156 : (Cond.methodLink "java/lang/StringUTF16" 48 yy_U_length) ∈ gW := gW_1 (i := 156) rfl rfl
theorem gw_157 : (Cond.static yy_U_length) ∈ gW := gW_1 (i := 157) rfl rfl
theorem gw_158 : (Cond.code yy_U_length prog_9_method_6_code 1 (Option.some FieldType.int)) ∈ gW := gW_1 (i := 158) rfl rfl
theorem gw_159 : (Cond.methodLink "java/lang/StringUTF16" 414 yy_S_checkIndex) ∈ gW := gW_1 (i := 159) rfl rfl
theorem gw_160 : (Cond.methodLink "java/lang/StringUTF16" 71 yy_U_getChar) ∈ gW := gW_1 (i := 160) rfl rfl
theorem gw_161 : (Cond.static yy_U_getChar) ∈ gW := gW_1 (i := 161) rfl rfl
theorem gw_162 : (Cond.code yy_U_getChar prog_9_method_5_code 2 (Option.some FieldType.char)) ∈ gW := gW_1 (i := 162) rfl rfl
theorem gw_163 : (Cond.fieldLink "java/lang/StringUTF16" 44 "java/lang/StringUTF16" "$assertionsDisabled" "Z") ∈ gW := gW_1 (i := 163) rfl rfl
theorem gw_165 : (Cond.fieldLink "java/lang/StringUTF16" 59 "java/lang/StringUTF16" "HI_BYTE_SHIFT" "I") ∈ gW := gW_1 (i := 165) rfl rfl
theorem gw_167 : (Cond.fieldLink "java/lang/StringUTF16" 63 "java/lang/StringUTF16" "LO_BYTE_SHIFT" "I") ∈ gW := gW_1 (i := 167) rfl rfl
theorem gw_169 : (Cond.methodLink "ClassObjectMirror$FixedType" 117 yy_S_length) ∈ gW := gW_1 (i := 169) rfl rfl
theorem gw_170 : (Cond.methodLink "ClassObjectMirror" 83 yy_X_characterOf) ∈ gW := gW_1 (i := 170) rfl rfl
theorem gw_171 : (Cond.methodLink "ClassObjectMirror" 87 yy_X_simpleCharacterOf) ∈ gW := gW_1 (i := 171) rfl rfl
theorem gw_173 : (Cond.instanceMethod yy_X_simpleCharacterOf) ∈ gW := gW_1 (i := 173) rfl rfl
theorem gw_174 : (Cond.code yy_X_simpleCharacterOf prog_1_method_31_code 5 (Option.some FieldType.int)) ∈ gW := gW_1 (i := 174) rfl rfl
theorem gw_177 : (Cond.instanceMethod yy_E_simpleLength) ∈ gW := gW_1 (i := 177) rfl rfl
theorem gw_178 : (Cond.code yy_E_simpleLength prog_2_method_6_code 1 (Option.some FieldType.int)) ∈ gW := gW_1 (i := 178) rfl rfl
theorem gw_179 : (Cond.methodLink "ClassObjectMirrorLaw" 44 yy_X_make) ∈ gW := gW_1 (i := 179) rfl rfl
theorem gw_180 : (Cond.instanceMethod yy_X_make) ∈ gW := gW_1 (i := 180) rfl rfl
theorem gw_181 : (Cond.selects "ClassObjectMirror" yy_X_make yy_X_make) ∈ gW := gW_1 (i := 181) rfl rfl
theorem gw_182 : (Cond.code yy_X_make prog_1_method_9_code 3 (Option.some FieldType.int)) ∈ gW := gW_1 (i := 182) rfl rfl
theorem gw_183 : (Cond.methodLink "ClassObjectMirror" 91 yy_X_newObject) ∈ gW := gW_1 (i := 183) rfl rfl
theorem gw_185 : (Cond.instanceMethod yy_X_newObject) ∈ gW := gW_1 (i := 185) rfl rfl
theorem gw_186 : (Cond.code yy_X_newObject prog_1_method_40_code 4 (Option.some FieldType.int)) ∈ gW := gW_1 (i := 186) rfl rfl
theorem gw_187 : (Cond.methodLink "ClassObjectMirror" 94 yy_J_floorMod) ∈ gW := gW_1 (i := 187) rfl rfl
theorem gw_188 : (Cond.static yy_J_floorMod) ∈ gW := gW_1 (i := 188) rfl rfl
theorem gw_189 : (Cond.code yy_J_floorMod prog_6_method_50_code 3 (Option.some FieldType.int)) ∈ gW := gW_1 (i := 189) rfl rfl
theorem gw_190 : (Cond.methodLink "ClassObjectMirror" 99 yy_X_colorConstant) ∈ gW := gW_1 (i := 190) rfl rfl
theorem gw_192 : (Cond.instanceMethod yy_X_colorConstant) ∈ gW := gW_1 (i := 192) rfl rfl
theorem gw_193 : (Cond.code yy_X_colorConstant prog_1_method_42_code 3 (Option.some FieldType.int)) ∈ gW := gW_1 (i := 193) rfl rfl
theorem gw_194 : (Cond.methodLink "ClassObjectMirrorLaw" 48 yy_X_makeArray) ∈ gW := gW_1 (i := 194) rfl rfl
theorem gw_195 : (Cond.instanceMethod yy_X_makeArray) ∈ gW := gW_1 (i := 195) rfl rfl
theorem gw_196 : (Cond.selects "ClassObjectMirror" yy_X_makeArray yy_X_makeArray) ∈ gW := gW_1 (i := 196) rfl rfl
theorem gw_197 : (Cond.code yy_X_makeArray prog_1_method_10_code 4 (Option.some FieldType.int)) ∈ gW := gW_1 (i := 197) rfl rfl
theorem gw_198 : (Cond.methodLink "ClassObjectMirror" 102 yy_X_newArray) ∈ gW := gW_1 (i := 198) rfl rfl
theorem gw_200 : (Cond.instanceMethod yy_X_newArray) ∈ gW := gW_1 (i := 200) rfl rfl
theorem gw_201 : (Cond.code yy_X_newArray prog_1_method_41_code 7 (Option.some FieldType.int)) ∈ gW := gW_1 (i := 201) rfl rfl
theorem gw_202 : (Cond.methodLink "ClassObjectMirror" 167 yy_X_isBase) ∈ gW := gW_1 (i := 202) rfl rfl
theorem gw_203 : (Cond.static yy_X_isBase) ∈ gW := gW_1 (i := 203) rfl rfl
theorem gw_204 : (Cond.code yy_X_isBase prog_1_method_24_code 1 (Option.some FieldType.boolean)) ∈ gW := gW_1 (i := 204) rfl rfl
theorem gw_205 : (Cond.constantLong "ClassObjectMirror" 170 (-7 : Int64)) ∈ gW := gW_1 (i := 205) rfl rfl
theorem gw_206 : (Cond.methodLink "ClassObjectMirror" 120 yy_X_placeOf) ∈ gW := gW_1 (i := 206) rfl rfl
theorem gw_207 : (Cond.static yy_X_placeOf) ∈ gW := gW_1 (i := 207) rfl rfl
theorem gw_208 : (Cond.code yy_X_placeOf prog_1_method_39_code 2 (Option.some FieldType.int)) ∈ gW := gW_1 (i := 208) rfl rfl
theorem gw_209 : (Cond.methodLink "ClassObjectMirrorLaw" 52 yy_X_classOf) ∈ gW := gW_1 (i := 209) rfl rfl
theorem gw_210 : (Cond.instanceMethod yy_X_classOf) ∈ gW := gW_1 (i := 210) rfl rfl
theorem gw_211 : (Cond.selects "ClassObjectMirror" yy_X_classOf yy_X_classOf) ∈ gW := gW_1 (i := 211) rfl rfl
theorem gw_212 : (Cond.code yy_X_classOf prog_1_method_11_code 2 (Option.some FieldType.int)) ∈ gW := gW_1 (i := 212) rfl rfl
theorem gw_213 : (Cond.methodLink "ClassObjectMirror" 105 yy_X_isObject) ∈ gW := gW_1 (i := 213) rfl rfl
theorem gw_215 : (Cond.instanceMethod yy_X_isObject) ∈ gW := gW_1 (i := 215) rfl rfl
theorem gw_216 : (Cond.code yy_X_isObject prog_1_method_32_code 2 (Option.some FieldType.boolean)) ∈ gW := gW_1 (i := 216) rfl rfl
theorem gw_217 : (Cond.methodLink "ClassObjectMirrorLaw" 56 yy_X_instance) ∈ gW := gW_1 (i := 217) rfl rfl
theorem gw_218 : (Cond.instanceMethod yy_X_instance) ∈ gW := gW_1 (i := 218) rfl rfl
theorem gw_219 : (Cond.selects "ClassObjectMirror" yy_X_instance yy_X_instance) ∈ gW := gW_1 (i := 219) rfl rfl
theorem gw_220 : (Cond.code yy_X_instance prog_1_method_12_code 3 (Option.some FieldType.int)) ∈ gW := gW_1 (i := 220) rfl rfl
theorem gw_221 : (Cond.methodLink "ClassObjectMirror" 108 yy_X_isInstance) ∈ gW := gW_1 (i := 221) rfl rfl
theorem gw_223 : (Cond.instanceMethod yy_X_isInstance) ∈ gW := gW_1 (i := 223) rfl rfl
theorem gw_224 : (Cond.code yy_X_isInstance prog_1_method_37_code 3 (Option.some FieldType.boolean)) ∈ gW := gW_1 (i := 224) rfl rfl
theorem gw_225 : (Cond.methodLink "ClassObjectMirrorLaw" 60 yy_X_cast) ∈ gW := gW_1 (i := 225) rfl rfl
theorem gw_226 : (Cond.instanceMethod yy_X_cast) ∈ gW := gW_1 (i := 226) rfl rfl
theorem gw_227 : (Cond.selects "ClassObjectMirror" yy_X_cast yy_X_cast) ∈ gW := gW_1 (i := 227) rfl rfl
theorem gw_228 : (Cond.code yy_X_cast prog_1_method_13_code 3 (Option.some FieldType.int)) ∈ gW := gW_1 (i := 228) rfl rfl
theorem gw_229 : (Cond.methodLink "ClassObjectMirrorLaw" 64 yy_X_store) ∈ gW := gW_1 (i := 229) rfl rfl
theorem gw_230 : (Cond.instanceMethod yy_X_store) ∈ gW := gW_1 (i := 230) rfl rfl
theorem gw_231 : (Cond.selects "ClassObjectMirror" yy_X_store yy_X_store) ∈ gW := gW_1 (i := 231) rfl rfl
theorem gw_232 : (Cond.code yy_X_store prog_1_method_14_code 6 (Option.some FieldType.int)) ∈ gW := gW_1 (i := 232) rfl rfl
theorem gw_233 : (Cond.methodLink "ClassObjectMirror" 111 yy_X_isArrayOfObjects) ∈ gW := gW_1 (i := 233) rfl rfl
theorem gw_235 : (Cond.instanceMethod yy_X_isArrayOfObjects) ∈ gW := gW_1 (i := 235) rfl rfl
theorem gw_236 : (Cond.code yy_X_isArrayOfObjects prog_1_method_35_code 2 (Option.some FieldType.boolean)) ∈ gW := gW_1 (i := 236) rfl rfl
theorem gw_237 : (Cond.methodLink "ClassObjectMirror" 132 yy_X_isArray) ∈ gW := gW_1 (i := 237) rfl rfl
theorem gw_239 : (Cond.instanceMethod yy_X_isArray) ∈ gW := gW_1 (i := 239) rfl rfl
theorem gw_240 : (Cond.code yy_X_isArray prog_1_method_33_code 2 (Option.some FieldType.boolean)) ∈ gW := gW_2 (i := 0) rfl rfl
theorem gw_241 : (Cond.methodLink "ClassObjectMirror" 117 yy_X_componentOfArray) ∈ gW := gW_2 (i := 1) rfl rfl
theorem gw_243 : (Cond.instanceMethod yy_X_componentOfArray) ∈ gW := gW_2 (i := 3) rfl rfl
theorem gw_244 : (Cond.code yy_X_componentOfArray prog_1_method_36_code 2 (Option.some FieldType.int)) ∈ gW := gW_2 (i := 4) rfl rfl
theorem gw_245 : (Cond.methodLink "ClassObjectMirror" 114 yy_X_isIndex) ∈ gW := gW_2 (i := 5) rfl rfl
theorem gw_247 : (Cond.instanceMethod yy_X_isIndex) ∈ gW := gW_2 (i := 7) rfl rfl
theorem gw_248 : (Cond.code yy_X_isIndex prog_1_method_38_code 3 (Option.some FieldType.boolean)) ∈ gW := gW_2 (i := 8) rfl rfl
theorem gw_249 : (Cond.methodLink "ClassObjectMirrorLaw" 68 yy_X_load) ∈ gW := gW_2 (i := 9) rfl rfl
theorem gw_250 : (Cond.instanceMethod yy_X_load) ∈ gW := gW_2 (i := 10) rfl rfl
theorem gw_251 : (Cond.selects "ClassObjectMirror" yy_X_load yy_X_load) ∈ gW := gW_2 (i := 11) rfl rfl
theorem gw_252 : (Cond.code yy_X_load prog_1_method_15_code 3 (Option.some FieldType.int)) ∈ gW := gW_2 (i := 12) rfl rfl
theorem gw_253 : (Cond.methodLink "ClassObjectMirrorLaw" 72 yy_X_put) ∈ gW := gW_2 (i := 13) rfl rfl
theorem gw_254 : (Cond.instanceMethod yy_X_put) ∈ gW := gW_2 (i := 14) rfl rfl
theorem gw_255 : (Cond.selects "ClassObjectMirror" yy_X_put yy_X_put) ∈ gW := gW_2 (i := 15) rfl rfl
theorem gw_256 : (Cond.code yy_X_put prog_1_method_16_code 4 (Option.some FieldType.int)) ∈ gW := gW_2 (i := 16) rfl rfl
theorem gw_257 : (Cond.methodLink "ClassObjectMirror" 123 yy_X_isArrayOfBases) ∈ gW := gW_2 (i := 17) rfl rfl
theorem gw_259 : (Cond.instanceMethod yy_X_isArrayOfBases) ∈ gW := gW_2 (i := 19) rfl rfl
theorem gw_260 : (Cond.code yy_X_isArrayOfBases prog_1_method_34_code 2 (Option.some FieldType.boolean)) ∈ gW := gW_2 (i := 20) rfl rfl
theorem gw_261 : (Cond.methodLink "ClassObjectMirror" 126 yy_X_asBaseHasIt) ∈ gW := gW_2 (i := 21) rfl rfl
theorem gw_262 : (Cond.static yy_X_asBaseHasIt) ∈ gW := gW_2 (i := 22) rfl rfl
theorem gw_263 : (Cond.code yy_X_asBaseHasIt prog_1_method_43_code 2 (Option.some FieldType.long)) ∈ gW := gW_2 (i := 23) rfl rfl
theorem gw_264 : (Cond.methodLink "ClassObjectMirrorLaw" 76 yy_X_get) ∈ gW := gW_2 (i := 24) rfl rfl
theorem gw_265 : (Cond.instanceMethod yy_X_get) ∈ gW := gW_2 (i := 25) rfl rfl
theorem gw_266 : (Cond.selects "ClassObjectMirror" yy_X_get yy_X_get) ∈ gW := gW_2 (i := 26) rfl rfl
theorem gw_267 : (Cond.code yy_X_get prog_1_method_17_code 3 (Option.some FieldType.long)) ∈ gW := gW_2 (i := 27) rfl rfl
theorem gw_268 : (Cond.constantLong "ClassObjectMirror" 130 (10000000000 : Int64)) ∈ gW := gW_2 (i := 28) rfl rfl
theorem gw_269 : (Cond.methodLink "ClassObjectMirrorLaw" 81 yy_X_length) ∈ gW := gW_2 (i := 29) rfl rfl
theorem gw_270 : (Cond.instanceMethod yy_X_length) ∈ gW := gW_2 (i := 30) rfl rfl
theorem gw_271 : (Cond.selects "ClassObjectMirror" yy_X_length yy_X_length) ∈ gW := gW_2 (i := 31) rfl rfl
theorem gw_272 : (Cond.code yy_X_length prog_1_method_18_code 2 (Option.some FieldType.int)) ∈ gW := gW_2 (i := 32) rfl rfl
theorem gw_273 : (Cond.methodLink "ClassObjectMirrorLaw" 85 yy_X_copy) ∈ gW := gW_2 (i := 33) rfl rfl
theorem gw_274 : (Cond.instanceMethod yy_X_copy) ∈ gW := gW_2 (i := 34) rfl rfl
theorem gw_275 : (Cond.selects "ClassObjectMirror" yy_X_copy yy_X_copy) ∈ gW := gW_2 (i := 35) rfl rfl
theorem gw_276 : (Cond.code yy_X_copy prog_1_method_19_code 3 (Option.some FieldType.int)) ∈ gW := gW_2 (i := 36) rfl rfl
theorem gw_277 : (Cond.methodLink "ClassObjectMirror" 135 ⟨"java/lang/System", "arraycopy", "(Ljava/lang/Object;ILjava/lang/Object;II)V"⟩) ∈ gW := gW_2 (i := 37) rfl rfl
theorem gw_278 : (Cond.static ⟨"java/lang/System", "arraycopy", "(Ljava/lang/Object;ILjava/lang/Object;II)V"⟩) ∈ gW := gW_2 (i := 38) rfl rfl
theorem gw_279 : (Cond.native ⟨"java/lang/System", "arraycopy", "(Ljava/lang/Object;ILjava/lang/Object;II)V"⟩) ∈ gW := gW_2 (i := 39) rfl rfl
theorem gw_280 : (Cond.methodLink "ClassObjectMirrorLaw" 89 yy_X_label) ∈ gW := gW_2 (i := 40) rfl rfl
theorem gw_281 : (Cond.instanceMethod yy_X_label) ∈ gW := gW_2 (i := 41) rfl rfl
theorem gw_282 : (Cond.selects "ClassObjectMirror" yy_X_label yy_X_label) ∈ gW := gW_2 (i := 42) rfl rfl
theorem gw_283 : (Cond.code yy_X_label prog_1_method_20_code 3 (Option.some FieldType.int)) ∈ gW := gW_2 (i := 43) rfl rfl
theorem gw_284 : (Cond.methodLink "ClassObjectMirrorLaw" 93 yy_X_count) ∈ gW := gW_2 (i := 44) rfl rfl
theorem gw_285 : (Cond.instanceMethod yy_X_count) ∈ gW := gW_2 (i := 45) rfl rfl
theorem gw_286 : (Cond.selects "ClassObjectMirror" yy_X_count yy_X_count) ∈ gW := gW_2 (i := 46) rfl rfl
theorem gw_287 : (Cond.code yy_X_count prog_1_method_21_code 2 (Option.some FieldType.int)) ∈ gW := gW_2 (i := 47) rfl rfl
theorem gw_288 : (Cond.classLink "ClassObjectMirrorLaw" 10 "ClassObjectMirrorModel") ∈ gW := gW_2 (i := 48) rfl rfl
theorem gw_289 : (Cond.instantiable "ClassObjectMirrorModel" 12) ∈ gW := gW_2 (i := 49) rfl rfl
theorem gw_290 : (Cond.methodLink "ClassObjectMirrorLaw" 12 yy_M_init) ∈ gW := gW_2 (i := 50) rfl rfl
theorem gw_291 : (Cond.instanceMethod yy_M_init) ∈ gW := gW_2 (i := 51) rfl rfl
theorem gw_292 : (Cond.code yy_M_init prog_4_method_1_code 1 (Option.none : Option FieldType)) ∈ gW := gW_2 (i := 52) rfl rfl
theorem gw_293 : (Cond.methodLink "ClassObjectMirrorModel" 1 yy_O_init) ∈ gW := gW_2 (i := 53) rfl rfl
theorem gw_294 : (Cond.constant "ClassObjectMirrorModel" 13 (49664 : Int32)) ∈ gW := gW_2 (i := 54) rfl rfl
theorem gw_295 : (Cond.constant "ClassObjectMirrorModel" 14 (123392 : Int32)) ∈ gW := gW_2 (i := 55) rfl rfl
theorem gw_296 : (Cond.constant "ClassObjectMirrorModel" 15 (180736 : Int32)) ∈ gW := gW_2 (i := 56) rfl rfl
theorem gw_297 : (Cond.constant "ClassObjectMirrorModel" 16 (443904 : Int32)) ∈ gW := gW_2 (i := 57) rfl rfl
theorem gw_298 : (Cond.constant "ClassObjectMirrorModel" 17 (543232 : Int32)) ∈ gW := gW_2 (i := 58) rfl rfl
theorem gw_299 : (Cond.constant "ClassObjectMirrorModel" 18 (1065472 : Int32)) ∈ gW := gW_2 (i := 59) rfl rfl
theorem gw_300 : (Cond.constant "ClassObjectMirrorModel" 19 (2097664 : Int32)) ∈ gW := gW_2 (i := 60) rfl rfl
theorem gw_301 : (Cond.fieldLink "ClassObjectMirrorModel" 7 "ClassObjectMirrorModel" "fixedMarks" "[I") ∈ gW := gW_2 (i := 61) rfl rfl
theorem gw_302 : (Cond.fieldLink "ClassObjectMirrorModel" 20 "ClassObjectMirrorModel" "fixedAbove" "[I") ∈ gW := gW_2 (i := 62) rfl rfl
theorem gw_303 : (Cond.fieldLink "ClassObjectMirrorModel" 23 "ClassObjectMirrorModel" "component" "[I") ∈ gW := gW_2 (i := 63) rfl rfl
theorem gw_304 : (Cond.fieldLink "ClassObjectMirrorModel" 26 "ClassObjectMirrorModel" "dims" "[I") ∈ gW := gW_2 (i := 64) rfl rfl
theorem gw_305 : (Cond.fieldLink "ClassObjectMirrorModel" 29 "ClassObjectMirrorModel" "types" "I") ∈ gW := gW_2 (i := 65) rfl rfl
theorem gw_306 : (Cond.fieldLink "ClassObjectMirrorModel" 33 "ClassObjectMirrorModel" "kind" "[I") ∈ gW := gW_2 (i := 66) rfl rfl
theorem gw_307 : (Cond.fieldLink "ClassObjectMirrorModel" 36 "ClassObjectMirrorModel" "size" "[I") ∈ gW := gW_2 (i := 67) rfl rfl
theorem gw_308 : (Cond.fieldLink "ClassObjectMirrorModel" 39 "ClassObjectMirrorModel" "value" "[I") ∈ gW := gW_2 (i := 68) rfl rfl
theorem gw_309 : (Cond.fieldLink "ClassObjectMirrorModel" 42 "ClassObjectMirrorModel" "cell" "[J") ∈ gW := gW_2 (i := 69) rfl rfl
theorem gw_310 : (Cond.fieldLink "ClassObjectMirrorModel" 49 "ClassObjectMirrorModel" "objects" "I") ∈ gW := gW_2 (i := 70) rfl rfl
theorem gw_311 : (Cond.fieldLink "ClassObjectMirrorModel" 46 "ClassObjectMirrorModel" "out" "[I") ∈ gW := gW_2 (i := 71) rfl rfl
theorem gw_312 : (Cond.fieldLink "ClassObjectMirrorModel" 74 "ClassObjectMirrorModel" "written" "I") ∈ gW := gW_2 (i := 72) rfl rfl
theorem gw_313 : (Cond.laysFinal "ClassObjectMirrorModel" "ClassObjectMirrorModel" "fixedMarks" "[I") ∈ gW := gW_2 (i := 73) rfl rfl
theorem gw_315 : (Cond.laysFinal "ClassObjectMirrorModel" "ClassObjectMirrorModel" "fixedAbove" "[I") ∈ gW := gW_2 (i := 75) rfl rfl
theorem gw_317 : (Cond.laysFinal "ClassObjectMirrorModel" "ClassObjectMirrorModel" "component" "[I") ∈ gW := gW_2 (i := 77) rfl rfl
theorem gw_319 : (Cond.laysFinal "ClassObjectMirrorModel" "ClassObjectMirrorModel" "dims" "[I") ∈ gW := gW_2 (i := 79) rfl rfl
theorem gw_321 : (Cond.lays "ClassObjectMirrorModel" "ClassObjectMirrorModel" "types" "I") ∈ gW := gW_2 (i := 81) rfl rfl
theorem gw_323 : (Cond.laysFinal "ClassObjectMirrorModel" "ClassObjectMirrorModel" "kind" "[I") ∈ gW := gW_2 (i := 83) rfl rfl
theorem gw_325 : (Cond.laysFinal "ClassObjectMirrorModel" "ClassObjectMirrorModel" "size" "[I") ∈ gW := gW_2 (i := 85) rfl rfl
theorem gw_327 : (Cond.laysFinal "ClassObjectMirrorModel" "ClassObjectMirrorModel" "value" "[I") ∈ gW := gW_2 (i := 87) rfl rfl
theorem gw_329 : (Cond.laysFinal "ClassObjectMirrorModel" "ClassObjectMirrorModel" "cell" "[J") ∈ gW := gW_2 (i := 89) rfl rfl
theorem gw_331 : (Cond.lays "ClassObjectMirrorModel" "ClassObjectMirrorModel" "objects" "I") ∈ gW := gW_2 (i := 91) rfl rfl
theorem gw_333 : (Cond.laysFinal "ClassObjectMirrorModel" "ClassObjectMirrorModel" "out" "[I") ∈ gW := gW_2 (i := 93) rfl rfl
theorem gw_335 : (Cond.lays "ClassObjectMirrorModel" "ClassObjectMirrorModel" "written" "I") ∈ gW := gW_2 (i := 95) rfl rfl
theorem gw_338 : (Cond.methodLink "ClassObjectMirrorLaw" 17 yy_M_arrayOf) ∈ gW := gW_2 (i := 98) rfl rfl
theorem gw_339 : (Cond.instanceMethod yy_M_arrayOf) ∈ gW := gW_2 (i := 99) rfl rfl
theorem gw_340 : (Cond.selects "ClassObjectMirrorModel" yy_M_arrayOf yy_M_arrayOf) ∈ gW := gW_2 (i := 100) rfl rfl
theorem gw_341 : (Cond.code yy_M_arrayOf prog_4_method_7_code 3 (Option.some FieldType.int)) ∈ gW := gW_2 (i := 101) rfl rfl
theorem gw_342 : (Cond.methodLink "ClassObjectMirrorModel" 52 yy_M_noType) ∈ gW := gW_2 (i := 102) rfl rfl
theorem gw_344 : (Cond.instanceMethod yy_M_noType) ∈ gW := gW_2 (i := 104) rfl rfl
theorem gw_345 : (Cond.code yy_M_noType prog_4_method_2_code 2 (Option.some FieldType.boolean)) ∈ gW := gW_2 (i := 105) rfl rfl
theorem gw_346 : (Cond.methodLink "ClassObjectMirrorModel" 56 yy_M_search) ∈ gW := gW_2 (i := 106) rfl rfl
theorem gw_348 : (Cond.instanceMethod yy_M_search) ∈ gW := gW_2 (i := 108) rfl rfl
theorem gw_349 : (Cond.code yy_M_search prog_4_method_5_code 3 (Option.some FieldType.int)) ∈ gW := gW_2 (i := 109) rfl rfl
theorem gw_350 : (Cond.methodLink "ClassObjectMirrorModel" 60 yy_M_enter) ∈ gW := gW_2 (i := 110) rfl rfl
theorem gw_352 : (Cond.instanceMethod yy_M_enter) ∈ gW := gW_2 (i := 112) rfl rfl
theorem gw_353 : (Cond.code yy_M_enter prog_4_method_6_code 3 (Option.none : Option FieldType)) ∈ gW := gW_2 (i := 113) rfl rfl
theorem gw_354 : (Cond.methodLink "ClassObjectMirrorLaw" 21 yy_M_component) ∈ gW := gW_2 (i := 114) rfl rfl
theorem gw_355 : (Cond.instanceMethod yy_M_component) ∈ gW := gW_2 (i := 115) rfl rfl
theorem gw_356 : (Cond.selects "ClassObjectMirrorModel" yy_M_component yy_M_component) ∈ gW := gW_2 (i := 116) rfl rfl
theorem gw_357 : (Cond.code yy_M_component prog_4_method_8_code 2 (Option.some FieldType.int)) ∈ gW := gW_2 (i := 117) rfl rfl
theorem gw_358 : (Cond.methodLink "ClassObjectMirrorLaw" 25 yy_M_dimensions) ∈ gW := gW_2 (i := 118) rfl rfl
theorem gw_359 : (Cond.instanceMethod yy_M_dimensions) ∈ gW := gW_2 (i := 119) rfl rfl
theorem gw_360 : (Cond.selects "ClassObjectMirrorModel" yy_M_dimensions yy_M_dimensions) ∈ gW := gW_2 (i := 120) rfl rfl
theorem gw_361 : (Cond.code yy_M_dimensions prog_4_method_9_code 2 (Option.some FieldType.int)) ∈ gW := gW_2 (i := 121) rfl rfl
theorem gw_362 : (Cond.methodLink "ClassObjectMirrorLaw" 30 yy_M_supertype) ∈ gW := gW_2 (i := 122) rfl rfl
theorem gw_363 : (Cond.instanceMethod yy_M_supertype) ∈ gW := gW_2 (i := 123) rfl rfl
theorem gw_364 : (Cond.selects "ClassObjectMirrorModel" yy_M_supertype yy_M_supertype) ∈ gW := gW_2 (i := 124) rfl rfl
theorem gw_365 : (Cond.code yy_M_supertype prog_4_method_11_code 3 (Option.some FieldType.int)) ∈ gW := gW_2 (i := 125) rfl rfl
theorem gw_366 : (Cond.methodLink "ClassObjectMirrorModel" 67 yy_M_above) ∈ gW := gW_2 (i := 126) rfl rfl
theorem gw_368 : (Cond.instanceMethod yy_M_above) ∈ gW := gW_2 (i := 128) rfl rfl
theorem gw_369 : (Cond.code yy_M_above prog_4_method_10_code 6 (Option.some FieldType.boolean)) ∈ gW := gW_2 (i := 129) rfl rfl
theorem gw_370 : (Cond.methodLink "ClassObjectMirrorModel" 64 yy_M_base) ∈ gW := gW_2 (i := 130) rfl rfl
theorem gw_371 : (Cond.static yy_M_base) ∈ gW := gW_2 (i := 131) rfl rfl
theorem gw_372 : (Cond.code yy_M_base prog_4_method_4_code 1 (Option.some FieldType.boolean)) ∈ gW := gW_2 (i := 132) rfl rfl
theorem gw_373 : (Cond.methodLink "ClassObjectMirrorLaw" 34 yy_M_marks) ∈ gW := gW_2 (i := 133) rfl rfl
theorem gw_374 : (Cond.instanceMethod yy_M_marks) ∈ gW := gW_2 (i := 134) rfl rfl
theorem gw_375 : (Cond.selects "ClassObjectMirrorModel" yy_M_marks yy_M_marks) ∈ gW := gW_2 (i := 135) rfl rfl
theorem gw_376 : (Cond.code yy_M_marks prog_4_method_13_code 2 (Option.some FieldType.int)) ∈ gW := gW_2 (i := 136) rfl rfl
theorem gw_377 : (Cond.methodLink "ClassObjectMirrorModel" 71 yy_M_bottom) ∈ gW := gW_2 (i := 137) rfl rfl
theorem gw_379 : (Cond.instanceMethod yy_M_bottom) ∈ gW := gW_2 (i := 139) rfl rfl
theorem gw_380 : (Cond.code yy_M_bottom prog_4_method_12_code 3 (Option.some FieldType.int)) ∈ gW := gW_2 (i := 140) rfl rfl
theorem gw_381 : (Cond.methodLink "ClassObjectMirrorLaw" 38 yy_M_kinds) ∈ gW := gW_2 (i := 141) rfl rfl
theorem gw_382 : (Cond.instanceMethod yy_M_kinds) ∈ gW := gW_2 (i := 142) rfl rfl
theorem gw_383 : (Cond.selects "ClassObjectMirrorModel" yy_M_kinds yy_M_kinds) ∈ gW := gW_2 (i := 143) rfl rfl
theorem gw_384 : (Cond.code yy_M_kinds prog_4_method_14_code 3 (Option.some FieldType.int)) ∈ gW := gW_2 (i := 144) rfl rfl
theorem gw_385 : (Cond.methodLink "ClassObjectMirrorLaw" 43 yy_M_text) ∈ gW := gW_2 (i := 145) rfl rfl
theorem gw_386 : (Cond.instanceMethod yy_M_text) ∈ gW := gW_2 (i := 146) rfl rfl
theorem gw_387 : (Cond.selects "ClassObjectMirrorModel" yy_M_text yy_M_text) ∈ gW := gW_2 (i := 147) rfl rfl
theorem gw_388 : (Cond.code yy_M_text prog_4_method_21_code 5 (Option.some FieldType.int)) ∈ gW := gW_2 (i := 148) rfl rfl
theorem gw_389 : (Cond.methodLink "ClassObjectMirrorModel" 156 yy_M_describe) ∈ gW := gW_2 (i := 149) rfl rfl
theorem gw_391 : (Cond.instanceMethod yy_M_describe) ∈ gW := gW_2 (i := 151) rfl rfl
theorem gw_392 : (Cond.code yy_M_describe prog_4_method_20_code 6 (Option.none : Option FieldType)) ∈ gW := gW_2 (i := 152) rfl rfl
theorem gw_393 : (Cond.methodLink "ClassObjectMirrorModel" 79 yy_M_letter) ∈ gW := gW_2 (i := 153) rfl rfl
theorem gw_395 : (Cond.instanceMethod yy_M_letter) ∈ gW := gW_2 (i := 155) rfl rfl
theorem gw_396 : (Cond.code yy_M_letter prog_4_method_15_code 2 (Option.none : Option FieldType)) ∈ gW := gW_2 (i := 156) rfl rfl
theorem gw_397 : (Cond.methodLink "ClassObjectMirrorModel" 150 yy_M_code) ∈ gW := gW_2 (i := 157) rfl rfl
theorem gw_398 : (Cond.static yy_M_code) ∈ gW := gW_2 (i := 158) rfl rfl
theorem gw_399 : (Cond.code yy_M_code prog_4_method_19_code 1 (Option.some FieldType.int)) ∈ gW := gW_2 (i := 159) rfl rfl
theorem gw_400 : (Cond.methodLink "ClassObjectMirrorModel" 153 yy_M_name) ∈ gW := gW_2 (i := 160) rfl rfl
theorem gw_402 : (Cond.instanceMethod yy_M_name) ∈ gW := gW_2 (i := 162) rfl rfl
theorem gw_403 : (Cond.code yy_M_name prog_4_method_18_code 2 (Option.none : Option FieldType)) ∈ gW := gW_2 (i := 163) rfl rfl
theorem gw_404 : (Cond.constantLong "ClassObjectMirrorModel" 135 (28659527854 : Int64)) ∈ gW := gW_2 (i := 164) rfl rfl
theorem gw_405 : (Cond.methodLink "ClassObjectMirrorModel" 85 yy_M_word) ∈ gW := gW_2 (i := 165) rfl rfl
theorem gw_407 : (Cond.instanceMethod yy_M_word) ∈ gW := gW_2 (i := 167) rfl rfl
theorem gw_408 : (Cond.code yy_M_word prog_4_method_16_code 5 (Option.none : Option FieldType)) ∈ gW := gW_2 (i := 168) rfl rfl
theorem gw_409 : (Cond.constantLong "ClassObjectMirrorModel" 77 (128 : Int64)) ∈ gW := gW_2 (i := 169) rfl rfl
theorem gw_410 : (Cond.constantLong "ClassObjectMirrorModel" 137 (13551 : Int64)) ∈ gW := gW_2 (i := 170) rfl rfl
theorem gw_411 : (Cond.constantLong "ClassObjectMirrorModel" 139 (228095847 : Int64)) ∈ gW := gW_2 (i := 171) rfl rfl
theorem gw_412 : (Cond.constantLong "ClassObjectMirrorModel" 141 (38195999909605738 : Int64)) ∈ gW := gW_2 (i := 172) rfl rfl
theorem gw_413 : (Cond.constantLong "ClassObjectMirrorModel" 143 (57297358521416047 : Int64)) ∈ gW := gW_2 (i := 173) rfl rfl
theorem gw_414 : (Cond.constantLong "ClassObjectMirrorModel" 145 (14628 : Int64)) ∈ gW := gW_2 (i := 174) rfl rfl
theorem gw_415 : (Cond.methodLink "ClassObjectMirrorModel" 147 yy_M_simple) ∈ gW := gW_2 (i := 175) rfl rfl
theorem gw_417 : (Cond.instanceMethod yy_M_simple) ∈ gW := gW_2 (i := 177) rfl rfl
theorem gw_418 : (Cond.code yy_M_simple prog_4_method_17_code 2 (Option.none : Option FieldType)) ∈ gW := gW_2 (i := 178) rfl rfl
theorem gw_419 : (Cond.constantLong "ClassObjectMirrorModel" 83 (434852513542382 : Int64)) ∈ gW := gW_2 (i := 179) rfl rfl
theorem gw_420 : (Cond.constantLong "ClassObjectMirrorModel" 89 (207518309 : Int64)) ∈ gW := gW_2 (i := 180) rfl rfl
theorem gw_421 : (Cond.constantLong "ClassObjectMirrorModel" 91 (209334514 : Int64)) ∈ gW := gW_2 (i := 181) rfl rfl
theorem gw_422 : (Cond.constantLong "ClassObjectMirrorModel" 93 (31090014580 : Int64)) ∈ gW := gW_2 (i := 182) rfl rfl
theorem gw_423 : (Cond.constantLong "ClassObjectMirrorModel" 95 (1734516 : Int64)) ∈ gW := gW_2 (i := 183) rfl rfl
theorem gw_424 : (Cond.constantLong "ClassObjectMirrorModel" 97 (228325223 : Int64)) ∈ gW := gW_2 (i := 184) rfl rfl
theorem gw_425 : (Cond.constantLong "ClassObjectMirrorModel" 99 (27608740084 : Int64)) ∈ gW := gW_2 (i := 185) rfl rfl
theorem gw_426 : (Cond.constantLong "ClassObjectMirrorModel" 101 (3466017158757 : Int64)) ∈ gW := gW_2 (i := 186) rfl rfl
theorem gw_427 : (Cond.constantLong "ClassObjectMirrorModel" 103 (249296100 : Int64)) ∈ gW := gW_2 (i := 187) rfl rfl
theorem gw_428 : (Cond.constantLong "ClassObjectMirrorModel" 105 (2740949971444 : Int64)) ∈ gW := gW_2 (i := 188) rfl rfl
theorem gw_429 : (Cond.constantLong "ClassObjectMirrorModel" 107 (38196479574700396 : Int64)) ∈ gW := gW_2 (i := 189) rfl rfl
theorem gw_430 : (Cond.constantLong "ClassObjectMirrorModel" 109 (101 : Int64)) ∈ gW := gW_2 (i := 190) rfl rfl
theorem gw_431 : (Cond.constantLong "ClassObjectMirrorModel" 111 (47172994232694010 : Int64)) ∈ gW := gW_2 (i := 191) rfl rfl
theorem gw_432 : (Cond.constantLong "ClassObjectMirrorModel" 113 (205043301 : Int64)) ∈ gW := gW_2 (i := 192) rfl rfl
theorem gw_433 : (Cond.constantLong "ClassObjectMirrorModel" 115 (2883237607271 : Int64)) ∈ gW := gW_2 (i := 193) rfl rfl
theorem gw_434 : (Cond.constantLong "ClassObjectMirrorModel" 117 (22499850341 : Int64)) ∈ gW := gW_2 (i := 194) rfl rfl
theorem gw_435 : (Cond.constantLong "ClassObjectMirrorModel" 119 (21143188196 : Int64)) ∈ gW := gW_2 (i := 195) rfl rfl
theorem gw_436 : (Cond.constantLong "ClassObjectMirrorModel" 121 (140016101 : Int64)) ∈ gW := gW_2 (i := 196) rfl rfl
theorem gw_437 : (Cond.constantLong "ClassObjectMirrorModel" 123 (2330528904805 : Int64)) ∈ gW := gW_2 (i := 197) rfl rfl
theorem gw_438 : (Cond.constantLong "ClassObjectMirrorModel" 125 (2882438461797 : Int64)) ∈ gW := gW_2 (i := 198) rfl rfl
theorem gw_439 : (Cond.constantLong "ClassObjectMirrorModel" 127 (177895013 : Int64)) ∈ gW := gW_2 (i := 199) rfl rfl
theorem gw_440 : (Cond.constantLong "ClassObjectMirrorModel" 129 (18219743218 : Int64)) ∈ gW := gW_2 (i := 200) rfl rfl
theorem gw_441 : (Cond.constantLong "ClassObjectMirrorModel" 131 (21709354868 : Int64)) ∈ gW := gW_2 (i := 201) rfl rfl
theorem gw_442 : (Cond.constantLong "ClassObjectMirrorModel" 133 (2503925641970 : Int64)) ∈ gW := gW_2 (i := 202) rfl rfl
theorem gw_443 : (Cond.methodLink "ClassObjectMirrorLaw" 47 yy_M_make) ∈ gW := gW_2 (i := 203) rfl rfl
theorem gw_444 : (Cond.instanceMethod yy_M_make) ∈ gW := gW_2 (i := 204) rfl rfl
theorem gw_445 : (Cond.selects "ClassObjectMirrorModel" yy_M_make yy_M_make) ∈ gW := gW_2 (i := 205) rfl rfl
theorem gw_446 : (Cond.code yy_M_make prog_4_method_23_code 6 (Option.some FieldType.int)) ∈ gW := gW_2 (i := 206) rfl rfl
theorem gw_447 : (Cond.methodLink "ClassObjectMirrorModel" 162 yy_M_create) ∈ gW := gW_2 (i := 207) rfl rfl
theorem gw_449 : (Cond.instanceMethod yy_M_create) ∈ gW := gW_2 (i := 209) rfl rfl
theorem gw_450 : (Cond.code yy_M_create prog_4_method_22_code 6 (Option.some FieldType.int)) ∈ gW := gW_2 (i := 210) rfl rfl
theorem gw_451 : (Cond.constantLong "ClassObjectMirrorModel" 160 (-7 : Int64)) ∈ gW := gW_2 (i := 211) rfl rfl
theorem gw_452 : (Cond.methodLink "ClassObjectMirrorLaw" 51 yy_M_makeArray) ∈ gW := gW_2 (i := 212) rfl rfl
theorem gw_453 : (Cond.instanceMethod yy_M_makeArray) ∈ gW := gW_2 (i := 213) rfl rfl
theorem gw_454 : (Cond.selects "ClassObjectMirrorModel" yy_M_makeArray yy_M_makeArray) ∈ gW := gW_2 (i := 214) rfl rfl
theorem gw_455 : (Cond.code yy_M_makeArray prog_4_method_24_code 4 (Option.some FieldType.int)) ∈ gW := gW_2 (i := 215) rfl rfl
theorem gw_456 : (Cond.methodLink "ClassObjectMirrorLaw" 55 yy_M_classOf) ∈ gW := gW_2 (i := 216) rfl rfl
theorem gw_457 : (Cond.instanceMethod yy_M_classOf) ∈ gW := gW_2 (i := 217) rfl rfl
theorem gw_458 : (Cond.selects "ClassObjectMirrorModel" yy_M_classOf yy_M_classOf) ∈ gW := gW_2 (i := 218) rfl rfl
theorem gw_459 : (Cond.code yy_M_classOf prog_4_method_25_code 2 (Option.some FieldType.int)) ∈ gW := gW_2 (i := 219) rfl rfl
theorem gw_460 : (Cond.methodLink "ClassObjectMirrorModel" 166 yy_M_noObject) ∈ gW := gW_2 (i := 220) rfl rfl
theorem gw_462 : (Cond.instanceMethod yy_M_noObject) ∈ gW := gW_2 (i := 222) rfl rfl
theorem gw_463 : (Cond.code yy_M_noObject prog_4_method_3_code 2 (Option.some FieldType.boolean)) ∈ gW := gW_2 (i := 223) rfl rfl
theorem gw_464 : (Cond.methodLink "ClassObjectMirrorLaw" 59 yy_M_instance) ∈ gW := gW_2 (i := 224) rfl rfl
theorem gw_465 : (Cond.instanceMethod yy_M_instance) ∈ gW := gW_2 (i := 225) rfl rfl
theorem gw_466 : (Cond.selects "ClassObjectMirrorModel" yy_M_instance yy_M_instance) ∈ gW := gW_2 (i := 226) rfl rfl
theorem gw_467 : (Cond.code yy_M_instance prog_4_method_26_code 3 (Option.some FieldType.int)) ∈ gW := gW_2 (i := 227) rfl rfl
theorem gw_468 : (Cond.methodLink "ClassObjectMirrorLaw" 63 yy_M_cast) ∈ gW := gW_2 (i := 228) rfl rfl
theorem gw_469 : (Cond.instanceMethod yy_M_cast) ∈ gW := gW_2 (i := 229) rfl rfl
theorem gw_470 : (Cond.selects "ClassObjectMirrorModel" yy_M_cast yy_M_cast) ∈ gW := gW_2 (i := 230) rfl rfl
theorem gw_471 : (Cond.code yy_M_cast prog_4_method_27_code 3 (Option.some FieldType.int)) ∈ gW := gW_2 (i := 231) rfl rfl
theorem gw_472 : (Cond.methodLink "ClassObjectMirrorLaw" 67 yy_M_store) ∈ gW := gW_2 (i := 232) rfl rfl
theorem gw_473 : (Cond.instanceMethod yy_M_store) ∈ gW := gW_2 (i := 233) rfl rfl
theorem gw_474 : (Cond.selects "ClassObjectMirrorModel" yy_M_store yy_M_store) ∈ gW := gW_2 (i := 234) rfl rfl
theorem gw_475 : (Cond.code yy_M_store prog_4_method_30_code 5 (Option.some FieldType.int)) ∈ gW := gW_2 (i := 235) rfl rfl
theorem gw_476 : (Cond.methodLink "ClassObjectMirrorModel" 169 yy_M_array) ∈ gW := gW_2 (i := 236) rfl rfl
theorem gw_478 : (Cond.instanceMethod yy_M_array) ∈ gW := gW_2 (i := 238) rfl rfl
theorem gw_479 : (Cond.code yy_M_array prog_4_method_28_code 2 (Option.some FieldType.int)) ∈ gW := gW_2 (i := 239) rfl rfl
theorem gw_480 : (Cond.methodLink "ClassObjectMirrorModel" 172 yy_M_outside) ∈ gW := gW_3 (i := 0) rfl rfl
theorem gw_482 : (Cond.instanceMethod yy_M_outside) ∈ gW := gW_3 (i := 2) rfl rfl
theorem gw_483 : (Cond.code yy_M_outside prog_4_method_29_code 3 (Option.some FieldType.boolean)) ∈ gW := gW_3 (i := 3) rfl rfl
theorem gw_484 : (Cond.methodLink "ClassObjectMirrorLaw" 71 yy_M_load) ∈ gW := gW_3 (i := 4) rfl rfl
theorem gw_485 : (Cond.instanceMethod yy_M_load) ∈ gW := gW_3 (i := 5) rfl rfl
theorem gw_486 : (Cond.selects "ClassObjectMirrorModel" yy_M_load yy_M_load) ∈ gW := gW_3 (i := 6) rfl rfl
theorem gw_487 : (Cond.code yy_M_load prog_4_method_31_code 3 (Option.some FieldType.int)) ∈ gW := gW_3 (i := 7) rfl rfl
theorem gw_488 : (Cond.methodLink "ClassObjectMirrorLaw" 75 yy_M_put) ∈ gW := gW_3 (i := 8) rfl rfl
theorem gw_489 : (Cond.instanceMethod yy_M_put) ∈ gW := gW_3 (i := 9) rfl rfl
theorem gw_490 : (Cond.selects "ClassObjectMirrorModel" yy_M_put yy_M_put) ∈ gW := gW_3 (i := 10) rfl rfl
theorem gw_491 : (Cond.code yy_M_put prog_4_method_34_code 4 (Option.some FieldType.int)) ∈ gW := gW_3 (i := 11) rfl rfl
theorem gw_492 : (Cond.methodLink "ClassObjectMirrorModel" 184 yy_M_as) ∈ gW := gW_3 (i := 12) rfl rfl
theorem gw_493 : (Cond.static yy_M_as) ∈ gW := gW_3 (i := 13) rfl rfl
theorem gw_494 : (Cond.code yy_M_as prog_4_method_33_code 2 (Option.some FieldType.long)) ∈ gW := gW_3 (i := 14) rfl rfl
theorem gw_495 : (Cond.constant "ClassObjectMirrorModel" 179 (65535 : Int32)) ∈ gW := gW_3 (i := 15) rfl rfl
theorem gw_496 : (Cond.methodLink "ClassObjectMirrorModel" 180 yy_M_rounded) ∈ gW := gW_3 (i := 16) rfl rfl
theorem gw_497 : (Cond.static yy_M_rounded) ∈ gW := gW_3 (i := 17) rfl rfl
theorem gw_498 : (Cond.code yy_M_rounded prog_4_method_32_code 10 (Option.some FieldType.long)) ∈ gW := gW_3 (i := 18) rfl rfl
theorem gw_499 : (Cond.constantLong "ClassObjectMirrorModel" 175 (16777216 : Int64)) ∈ gW := gW_3 (i := 19) rfl rfl
theorem gw_500 : (Cond.constantLong "ClassObjectMirrorModel" 177 (2 : Int64)) ∈ gW := gW_3 (i := 20) rfl rfl
theorem gw_501 : (Cond.methodLink "ClassObjectMirrorLaw" 80 yy_M_get) ∈ gW := gW_3 (i := 21) rfl rfl
theorem gw_502 : (Cond.instanceMethod yy_M_get) ∈ gW := gW_3 (i := 22) rfl rfl
theorem gw_503 : (Cond.selects "ClassObjectMirrorModel" yy_M_get yy_M_get) ∈ gW := gW_3 (i := 23) rfl rfl
theorem gw_504 : (Cond.code yy_M_get prog_4_method_35_code 3 (Option.some FieldType.long)) ∈ gW := gW_3 (i := 24) rfl rfl
theorem gw_505 : (Cond.constantLong "ClassObjectMirrorModel" 188 (10000000000 : Int64)) ∈ gW := gW_3 (i := 25) rfl rfl
theorem gw_506 : (Cond.methodLink "ClassObjectMirrorLaw" 84 yy_M_length) ∈ gW := gW_3 (i := 26) rfl rfl
theorem gw_507 : (Cond.instanceMethod yy_M_length) ∈ gW := gW_3 (i := 27) rfl rfl
theorem gw_508 : (Cond.selects "ClassObjectMirrorModel" yy_M_length yy_M_length) ∈ gW := gW_3 (i := 28) rfl rfl
theorem gw_509 : (Cond.code yy_M_length prog_4_method_36_code 2 (Option.some FieldType.int)) ∈ gW := gW_3 (i := 29) rfl rfl
theorem gw_510 : (Cond.methodLink "ClassObjectMirrorLaw" 88 yy_M_copy) ∈ gW := gW_3 (i := 30) rfl rfl
theorem gw_511 : (Cond.instanceMethod yy_M_copy) ∈ gW := gW_3 (i := 31) rfl rfl
theorem gw_512 : (Cond.selects "ClassObjectMirrorModel" yy_M_copy yy_M_copy) ∈ gW := gW_3 (i := 32) rfl rfl
theorem gw_513 : (Cond.code yy_M_copy prog_4_method_37_code 4 (Option.some FieldType.int)) ∈ gW := gW_3 (i := 33) rfl rfl
theorem gw_514 : (Cond.methodLink "ClassObjectMirrorLaw" 92 yy_M_label) ∈ gW := gW_3 (i := 34) rfl rfl
theorem gw_515 : (Cond.instanceMethod yy_M_label) ∈ gW := gW_3 (i := 35) rfl rfl
theorem gw_516 : (Cond.selects "ClassObjectMirrorModel" yy_M_label yy_M_label) ∈ gW := gW_3 (i := 36) rfl rfl
theorem gw_517 : (Cond.code yy_M_label prog_4_method_38_code 4 (Option.some FieldType.int)) ∈ gW := gW_3 (i := 37) rfl rfl
theorem gw_518 : (Cond.methodLink "ClassObjectMirrorLaw" 96 yy_M_count) ∈ gW := gW_3 (i := 38) rfl rfl
theorem gw_519 : (Cond.instanceMethod yy_M_count) ∈ gW := gW_3 (i := 39) rfl rfl
theorem gw_520 : (Cond.selects "ClassObjectMirrorModel" yy_M_count yy_M_count) ∈ gW := gW_3 (i := 40) rfl rfl
theorem gw_521 : (Cond.code yy_M_count prog_4_method_39_code 2 (Option.some FieldType.int)) ∈ gW := gW_3 (i := 41) rfl rfl
theorem gw_525 : (Cond.fieldLink "ClassObjectMirror$FixedType" 99 "ClassObjectMirror$FixedType" "code" "Ljava/lang/String;") ∈ gW := gW_3 (i := 45) rfl rfl
theorem gw_526 : (Cond.fieldLink "java/lang/String" 9 "java/lang/String" "value" "[B") ∈ gW := gW_3 (i := 46) rfl rfl
theorem gw_527 : (Cond.fieldLink "java/lang/String" 15 "java/lang/String" "coder" "B") ∈ gW := gW_3 (i := 47) rfl rfl
theorem gw_528 : (Cond.fieldLink "ClassObjectMirror$FixedType" 91 "ClassObjectMirror$FixedType" "fullName" "Ljava/lang/String;") ∈ gW := gW_3 (i := 48) rfl rfl
theorem gw_530 : (Cond.fieldLink "ClassObjectMirror$FixedType" 95 "ClassObjectMirror$FixedType" "simpleStart" "I") ∈ gW := gW_3 (i := 50) rfl rfl
theorem gw_555 : (Cond.arrayClass FieldType.byte) ∈ gW := gW_3 (i := 75) rfl rfl
theorem gs_0 : Cond.selects "ClassObjectMirror" yy_X_isType yy_X_isType ∈ gW := gW_s1 (i := 0) rfl rfl
theorem gs_1 : Cond.selects "ClassObjectMirror" yy_X_canBeComponent yy_X_canBeComponent ∈ gW := gW_s1 (i := 1) rfl rfl
theorem gs_2 : Cond.selects "ClassObjectMirror" yy_X_arrayTypeFor yy_X_arrayTypeFor ∈ gW := gW_s1 (i := 2) rfl rfl
theorem gs_3 : Cond.selects "ClassObjectMirror" yy_X_isSupertype yy_X_isSupertype ∈ gW := gW_s1 (i := 3) rfl rfl
theorem gs_4 : Cond.selects "ClassObjectMirror" yy_X_codedCharacterOf yy_X_codedCharacterOf ∈ gW := gW_s1 (i := 4) rfl rfl
theorem gs_5 : Cond.selects "ClassObjectMirror$FixedType" yy_E_codedCharacter yy_E_codedCharacter ∈ gW := gW_s1 (i := 5) rfl rfl
theorem gs_6 : Cond.selects "ClassObjectMirror" yy_X_simpleCharacterOf yy_X_simpleCharacterOf ∈ gW := gW_s1 (i := 6) rfl rfl
theorem gs_7 : Cond.selects "ClassObjectMirror$FixedType" yy_E_simpleLength yy_E_simpleLength ∈ gW := gW_s1 (i := 7) rfl rfl
theorem gs_8 : Cond.selects "ClassObjectMirror" yy_X_newObject yy_X_newObject ∈ gW := gW_s1 (i := 8) rfl rfl
theorem gs_9 : Cond.selects "ClassObjectMirror" yy_X_colorConstant yy_X_colorConstant ∈ gW := gW_s1 (i := 9) rfl rfl
theorem gs_10 : Cond.selects "ClassObjectMirror" yy_X_newArray yy_X_newArray ∈ gW := gW_s1 (i := 10) rfl rfl
theorem gs_11 : Cond.selects "ClassObjectMirror" yy_X_isObject yy_X_isObject ∈ gW := gW_s1 (i := 11) rfl rfl
theorem gs_12 : Cond.selects "ClassObjectMirror" yy_X_isInstance yy_X_isInstance ∈ gW := gW_s1 (i := 12) rfl rfl
theorem gs_13 : Cond.selects "ClassObjectMirror" yy_X_isArrayOfObjects yy_X_isArrayOfObjects ∈ gW := gW_s1 (i := 13) rfl rfl
theorem gs_14 : Cond.selects "ClassObjectMirror" yy_X_isArray yy_X_isArray ∈ gW := gW_s1 (i := 14) rfl rfl
theorem gs_15 : Cond.selects "ClassObjectMirror" yy_X_componentOfArray yy_X_componentOfArray ∈ gW := gW_s1 (i := 15) rfl rfl
theorem gs_16 : Cond.selects "ClassObjectMirror" yy_X_isIndex yy_X_isIndex ∈ gW := gW_s2 (i := 0) rfl rfl
theorem gs_17 : Cond.selects "ClassObjectMirror" yy_X_isArrayOfBases yy_X_isArrayOfBases ∈ gW := gW_s2 (i := 1) rfl rfl
theorem gs_18 : Cond.selects "ClassObjectMirrorModel" yy_M_noType yy_M_noType ∈ gW := gW_s2 (i := 2) rfl rfl
theorem gs_19 : Cond.selects "ClassObjectMirrorModel" yy_M_search yy_M_search ∈ gW := gW_s2 (i := 3) rfl rfl
theorem gs_20 : Cond.selects "ClassObjectMirrorModel" yy_M_enter yy_M_enter ∈ gW := gW_s2 (i := 4) rfl rfl
theorem gs_21 : Cond.selects "ClassObjectMirrorModel" yy_M_above yy_M_above ∈ gW := gW_s2 (i := 5) rfl rfl
theorem gs_22 : Cond.selects "ClassObjectMirrorModel" yy_M_bottom yy_M_bottom ∈ gW := gW_s2 (i := 6) rfl rfl
theorem gs_23 : Cond.selects "ClassObjectMirrorModel" yy_M_describe yy_M_describe ∈ gW := gW_s2 (i := 7) rfl rfl
theorem gs_24 : Cond.selects "ClassObjectMirrorModel" yy_M_letter yy_M_letter ∈ gW := gW_s2 (i := 8) rfl rfl
theorem gs_25 : Cond.selects "ClassObjectMirrorModel" yy_M_name yy_M_name ∈ gW := gW_s2 (i := 9) rfl rfl
theorem gs_26 : Cond.selects "ClassObjectMirrorModel" yy_M_word yy_M_word ∈ gW := gW_s2 (i := 10) rfl rfl
theorem gs_27 : Cond.selects "ClassObjectMirrorModel" yy_M_simple yy_M_simple ∈ gW := gW_s2 (i := 11) rfl rfl
theorem gs_28 : Cond.selects "ClassObjectMirrorModel" yy_M_create yy_M_create ∈ gW := gW_s2 (i := 12) rfl rfl
theorem gs_29 : Cond.selects "ClassObjectMirrorModel" yy_M_noObject yy_M_noObject ∈ gW := gW_s2 (i := 13) rfl rfl
theorem gs_30 : Cond.selects "ClassObjectMirrorModel" yy_M_array yy_M_array ∈ gW := gW_s2 (i := 14) rfl rfl
theorem gs_31 : Cond.selects "ClassObjectMirrorModel" yy_M_outside yy_M_outside ∈ gW := gW_s2 (i := 15) rfl rfl
/-- a callee's words, of a virtual call -/
theorem gg_V {own C : String} {idx n : Nat} {y : MethodName} {b : ByteArray} {r : Option FieldType} (h1 : Cond.methodLink own idx y ∈ gW) (h2 : Cond.instanceMethod y ∈ gW) (h3 : Cond.selects C y y ∈ gW) (h4 : Cond.initialized C ∈ gW) (h5 : Cond.code y b n r ∈ gW) : GoodIn gW (wsV own idx C y (.code y b n r :: gW)) := by
  intro w h
  simp only [wsV, List.cons_append, List.nil_append, List.mem_cons] at h
  rcases h with rfl | rfl | rfl | rfl | rfl | h
  · exact gW_good _ h1
  · exact gW_good _ h2
  · exact gW_good _ h3
  · exact gW_good _ h4
  · exact gW_good _ h5
  · exact gW_good _ h
theorem gg_S {own : String} {idx n : Nat} {y : MethodName} {b : ByteArray} {r : Option FieldType} (h1 : Cond.methodLink own idx y ∈ gW) (h2 : Cond.static y ∈ gW) (h4 : Cond.initialized y.cls ∈ gW) (h5 : Cond.code y b n r ∈ gW) : GoodIn gW (va_wsS own idx y (.code y b n r :: gW)) := by
  intro w h
  simp only [va_wsS, List.cons_append, List.nil_append, List.mem_cons] at h
  rcases h with rfl | rfl | rfl | rfl | h
  · exact gW_good _ h1
  · exact gW_good _ h2
  · exact gW_good _ h4
  · exact gW_good _ h5
  · exact gW_good _ h
theorem gg_I {n : Nat} {y : MethodName} {b : ByteArray} {r : Option FieldType} (h5 : Cond.code y b n r ∈ gW) : GoodIn gW (.code y b n r :: gW) := by
  intro w h
  rcases List.mem_cons.mp h with rfl | h
  · exact gW_good _ h5
  · exact gW_good _ h
