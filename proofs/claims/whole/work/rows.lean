section
-- ===== PART A: goes FIRST, ahead of the names: the tables' words, and 'selects' of the private methods out of them =====
/-- a private method of a class that the tables say can be made, by its rows of tables_1 -/
def lw_okq (q : MethodName × Nat) : Prop := (q.1.cls ≠ "java/lang/invoke/MethodHandle" ∧ q.1.cls ≠ "java/lang/invoke/VarHandle") ∧ Cond.instantiable q.1.cls q.2 ∈ tables_1 ∧ Cond.privateMethod q.1 ∈ tables_1 ∧ Cond.instanceMethod q.1 ∈ tables_1
theorem lw_p0 : lw_okq (⟨"ClassObjectMirror", "isType", "(I)Z"⟩, 11) := ⟨⟨by decide +kernel, by decide +kernel⟩, List.mem_of_getElem? (i := 10) (by decide +kernel), List.mem_of_getElem? (i := 58) (by decide +kernel), List.mem_of_getElem? (i := 59) (by decide +kernel)⟩
theorem lw_p1 : lw_okq (⟨"ClassObjectMirror", "canBeComponent", "(I)Z"⟩, 11) := ⟨⟨by decide +kernel, by decide +kernel⟩, List.mem_of_getElem? (i := 10) (by decide +kernel), List.mem_of_getElem? (i := 62) (by decide +kernel), List.mem_of_getElem? (i := 63) (by decide +kernel)⟩
theorem lw_p2 : lw_okq (⟨"ClassObjectMirror", "arrayTypeFor", "(I)I"⟩, 11) := ⟨⟨by decide +kernel, by decide +kernel⟩, List.mem_of_getElem? (i := 10) (by decide +kernel), List.mem_of_getElem? (i := 66) (by decide +kernel), List.mem_of_getElem? (i := 67) (by decide +kernel)⟩
theorem lw_p3 : lw_okq (⟨"ClassObjectMirror", "isSupertype", "(II)Z"⟩, 11) := ⟨⟨by decide +kernel, by decide +kernel⟩, List.mem_of_getElem? (i := 10) (by decide +kernel), List.mem_of_getElem? (i := 82) (by decide +kernel), List.mem_of_getElem? (i := 83) (by decide +kernel)⟩
theorem lw_p4 : lw_okq (⟨"ClassObjectMirror", "codedCharacterOf", "(IIC)I"⟩, 11) := ⟨⟨by decide +kernel, by decide +kernel⟩, List.mem_of_getElem? (i := 10) (by decide +kernel), List.mem_of_getElem? (i := 106) (by decide +kernel), List.mem_of_getElem? (i := 107) (by decide +kernel)⟩
theorem lw_p5 : lw_okq (⟨"ClassObjectMirror$FixedType", "codedCharacter", "(IC)I"⟩, 9) := ⟨⟨by decide +kernel, by decide +kernel⟩, List.mem_of_getElem? (i := 112) (by decide +kernel), List.mem_of_getElem? (i := 110) (by decide +kernel), List.mem_of_getElem? (i := 111) (by decide +kernel)⟩
theorem lw_p6 : lw_okq (⟨"ClassObjectMirror", "simpleCharacterOf", "(II)I"⟩, 11) := ⟨⟨by decide +kernel, by decide +kernel⟩, List.mem_of_getElem? (i := 10) (by decide +kernel), List.mem_of_getElem? (i := 172) (by decide +kernel), List.mem_of_getElem? (i := 173) (by decide +kernel)⟩
theorem lw_p7 : lw_okq (⟨"ClassObjectMirror$FixedType", "simpleLength", "()I"⟩, 9) := ⟨⟨by decide +kernel, by decide +kernel⟩, List.mem_of_getElem? (i := 112) (by decide +kernel), List.mem_of_getElem? (i := 176) (by decide +kernel), List.mem_of_getElem? (i := 177) (by decide +kernel)⟩
theorem lw_p8 : lw_okq (⟨"ClassObjectMirror", "newObject", "(II)I"⟩, 11) := ⟨⟨by decide +kernel, by decide +kernel⟩, List.mem_of_getElem? (i := 10) (by decide +kernel), List.mem_of_getElem? (i := 184) (by decide +kernel), List.mem_of_getElem? (i := 185) (by decide +kernel)⟩
theorem lw_p9 : lw_okq (⟨"ClassObjectMirror", "colorConstant", "(I)I"⟩, 11) := ⟨⟨by decide +kernel, by decide +kernel⟩, List.mem_of_getElem? (i := 10) (by decide +kernel), List.mem_of_getElem? (i := 191) (by decide +kernel), List.mem_of_getElem? (i := 192) (by decide +kernel)⟩
theorem lw_p10 : lw_okq (⟨"ClassObjectMirror", "newArray", "(II)I"⟩, 11) := ⟨⟨by decide +kernel, by decide +kernel⟩, List.mem_of_getElem? (i := 10) (by decide +kernel), List.mem_of_getElem? (i := 199) (by decide +kernel), List.mem_of_getElem? (i := 200) (by decide +kernel)⟩
theorem lw_p11 : lw_okq (⟨"ClassObjectMirror", "isObject", "(I)Z"⟩, 11) := ⟨⟨by decide +kernel, by decide +kernel⟩, List.mem_of_getElem? (i := 10) (by decide +kernel), List.mem_of_getElem? (i := 214) (by decide +kernel), List.mem_of_getElem? (i := 215) (by decide +kernel)⟩
theorem lw_p12 : lw_okq (⟨"ClassObjectMirror", "isInstance", "(II)Z"⟩, 11) := ⟨⟨by decide +kernel, by decide +kernel⟩, List.mem_of_getElem? (i := 10) (by decide +kernel), List.mem_of_getElem? (i := 222) (by decide +kernel), List.mem_of_getElem? (i := 223) (by decide +kernel)⟩
theorem lw_p13 : lw_okq (⟨"ClassObjectMirror", "isArrayOfObjects", "(I)Z"⟩, 11) := ⟨⟨by decide +kernel, by decide +kernel⟩, List.mem_of_getElem? (i := 10) (by decide +kernel), List.mem_of_getElem? (i := 234) (by decide +kernel), List.mem_of_getElem? (i := 235) (by decide +kernel)⟩
theorem lw_p14 : lw_okq (⟨"ClassObjectMirror", "isArray", "(I)Z"⟩, 11) := ⟨⟨by decide +kernel, by decide +kernel⟩, List.mem_of_getElem? (i := 10) (by decide +kernel), List.mem_of_getElem? (i := 238) (by decide +kernel), List.mem_of_getElem? (i := 239) (by decide +kernel)⟩
theorem lw_p15 : lw_okq (⟨"ClassObjectMirror", "componentOfArray", "(I)I"⟩, 11) := ⟨⟨by decide +kernel, by decide +kernel⟩, List.mem_of_getElem? (i := 10) (by decide +kernel), List.mem_of_getElem? (i := 242) (by decide +kernel), List.mem_of_getElem? (i := 243) (by decide +kernel)⟩
def lw_privs_1 : List (MethodName × Nat) := [(⟨"ClassObjectMirror", "isType", "(I)Z"⟩, 11), (⟨"ClassObjectMirror", "canBeComponent", "(I)Z"⟩, 11), (⟨"ClassObjectMirror", "arrayTypeFor", "(I)I"⟩, 11), (⟨"ClassObjectMirror", "isSupertype", "(II)Z"⟩, 11), (⟨"ClassObjectMirror", "codedCharacterOf", "(IIC)I"⟩, 11), (⟨"ClassObjectMirror$FixedType", "codedCharacter", "(IC)I"⟩, 9), (⟨"ClassObjectMirror", "simpleCharacterOf", "(II)I"⟩, 11), (⟨"ClassObjectMirror$FixedType", "simpleLength", "()I"⟩, 9), (⟨"ClassObjectMirror", "newObject", "(II)I"⟩, 11), (⟨"ClassObjectMirror", "colorConstant", "(I)I"⟩, 11), (⟨"ClassObjectMirror", "newArray", "(II)I"⟩, 11), (⟨"ClassObjectMirror", "isObject", "(I)Z"⟩, 11), (⟨"ClassObjectMirror", "isInstance", "(II)Z"⟩, 11), (⟨"ClassObjectMirror", "isArrayOfObjects", "(I)Z"⟩, 11), (⟨"ClassObjectMirror", "isArray", "(I)Z"⟩, 11), (⟨"ClassObjectMirror", "componentOfArray", "(I)I"⟩, 11)]
theorem lw_r1 : ∀ q ∈ lw_privs_1, lw_okq q := List.forall_mem_cons.mpr ⟨lw_p0, List.forall_mem_cons.mpr ⟨lw_p1, List.forall_mem_cons.mpr ⟨lw_p2, List.forall_mem_cons.mpr ⟨lw_p3, List.forall_mem_cons.mpr ⟨lw_p4, List.forall_mem_cons.mpr ⟨lw_p5, List.forall_mem_cons.mpr ⟨lw_p6, List.forall_mem_cons.mpr ⟨lw_p7, List.forall_mem_cons.mpr ⟨lw_p8, List.forall_mem_cons.mpr ⟨lw_p9, List.forall_mem_cons.mpr ⟨lw_p10, List.forall_mem_cons.mpr ⟨lw_p11, List.forall_mem_cons.mpr ⟨lw_p12, List.forall_mem_cons.mpr ⟨lw_p13, List.forall_mem_cons.mpr ⟨lw_p14, List.forall_mem_cons.mpr ⟨lw_p15, fun _ h => absurd h List.not_mem_nil⟩⟩⟩⟩⟩⟩⟩⟩⟩⟩⟩⟩⟩⟩⟩⟩
theorem lw_p16 : lw_okq (⟨"ClassObjectMirror", "isIndex", "(II)Z"⟩, 11) := ⟨⟨by decide +kernel, by decide +kernel⟩, List.mem_of_getElem? (i := 10) (by decide +kernel), List.mem_of_getElem? (i := 246) (by decide +kernel), List.mem_of_getElem? (i := 247) (by decide +kernel)⟩
theorem lw_p17 : lw_okq (⟨"ClassObjectMirror", "isArrayOfBases", "(I)Z"⟩, 11) := ⟨⟨by decide +kernel, by decide +kernel⟩, List.mem_of_getElem? (i := 10) (by decide +kernel), List.mem_of_getElem? (i := 258) (by decide +kernel), List.mem_of_getElem? (i := 259) (by decide +kernel)⟩
theorem lw_p18 : lw_okq (⟨"ClassObjectMirrorModel", "noType", "(I)Z"⟩, 12) := ⟨⟨by decide +kernel, by decide +kernel⟩, List.mem_of_getElem? (i := 289) (by decide +kernel), List.mem_of_getElem? (i := 343) (by decide +kernel), List.mem_of_getElem? (i := 344) (by decide +kernel)⟩
theorem lw_p19 : lw_okq (⟨"ClassObjectMirrorModel", "search", "(I)I"⟩, 12) := ⟨⟨by decide +kernel, by decide +kernel⟩, List.mem_of_getElem? (i := 289) (by decide +kernel), List.mem_of_getElem? (i := 347) (by decide +kernel), List.mem_of_getElem? (i := 348) (by decide +kernel)⟩
theorem lw_p20 : lw_okq (⟨"ClassObjectMirrorModel", "enter", "(II)V"⟩, 12) := ⟨⟨by decide +kernel, by decide +kernel⟩, List.mem_of_getElem? (i := 289) (by decide +kernel), List.mem_of_getElem? (i := 351) (by decide +kernel), List.mem_of_getElem? (i := 352) (by decide +kernel)⟩
theorem lw_p21 : lw_okq (⟨"ClassObjectMirrorModel", "above", "(II)Z"⟩, 12) := ⟨⟨by decide +kernel, by decide +kernel⟩, List.mem_of_getElem? (i := 289) (by decide +kernel), List.mem_of_getElem? (i := 367) (by decide +kernel), List.mem_of_getElem? (i := 368) (by decide +kernel)⟩
theorem lw_p22 : lw_okq (⟨"ClassObjectMirrorModel", "bottom", "(I)I"⟩, 12) := ⟨⟨by decide +kernel, by decide +kernel⟩, List.mem_of_getElem? (i := 289) (by decide +kernel), List.mem_of_getElem? (i := 378) (by decide +kernel), List.mem_of_getElem? (i := 379) (by decide +kernel)⟩
theorem lw_p23 : lw_okq (⟨"ClassObjectMirrorModel", "describe", "(IZ)V"⟩, 12) := ⟨⟨by decide +kernel, by decide +kernel⟩, List.mem_of_getElem? (i := 289) (by decide +kernel), List.mem_of_getElem? (i := 390) (by decide +kernel), List.mem_of_getElem? (i := 391) (by decide +kernel)⟩
theorem lw_p24 : lw_okq (⟨"ClassObjectMirrorModel", "letter", "(I)V"⟩, 12) := ⟨⟨by decide +kernel, by decide +kernel⟩, List.mem_of_getElem? (i := 289) (by decide +kernel), List.mem_of_getElem? (i := 394) (by decide +kernel), List.mem_of_getElem? (i := 395) (by decide +kernel)⟩
theorem lw_p25 : lw_okq (⟨"ClassObjectMirrorModel", "name", "(I)V"⟩, 12) := ⟨⟨by decide +kernel, by decide +kernel⟩, List.mem_of_getElem? (i := 289) (by decide +kernel), List.mem_of_getElem? (i := 401) (by decide +kernel), List.mem_of_getElem? (i := 402) (by decide +kernel)⟩
theorem lw_p26 : lw_okq (⟨"ClassObjectMirrorModel", "word", "(J)V"⟩, 12) := ⟨⟨by decide +kernel, by decide +kernel⟩, List.mem_of_getElem? (i := 289) (by decide +kernel), List.mem_of_getElem? (i := 406) (by decide +kernel), List.mem_of_getElem? (i := 407) (by decide +kernel)⟩
theorem lw_p27 : lw_okq (⟨"ClassObjectMirrorModel", "simple", "(I)V"⟩, 12) := ⟨⟨by decide +kernel, by decide +kernel⟩, List.mem_of_getElem? (i := 289) (by decide +kernel), List.mem_of_getElem? (i := 416) (by decide +kernel), List.mem_of_getElem? (i := 417) (by decide +kernel)⟩
theorem lw_p28 : lw_okq (⟨"ClassObjectMirrorModel", "create", "(III)I"⟩, 12) := ⟨⟨by decide +kernel, by decide +kernel⟩, List.mem_of_getElem? (i := 289) (by decide +kernel), List.mem_of_getElem? (i := 448) (by decide +kernel), List.mem_of_getElem? (i := 449) (by decide +kernel)⟩
theorem lw_p29 : lw_okq (⟨"ClassObjectMirrorModel", "noObject", "(I)Z"⟩, 12) := ⟨⟨by decide +kernel, by decide +kernel⟩, List.mem_of_getElem? (i := 289) (by decide +kernel), List.mem_of_getElem? (i := 461) (by decide +kernel), List.mem_of_getElem? (i := 462) (by decide +kernel)⟩
theorem lw_p30 : lw_okq (⟨"ClassObjectMirrorModel", "array", "(I)I"⟩, 12) := ⟨⟨by decide +kernel, by decide +kernel⟩, List.mem_of_getElem? (i := 289) (by decide +kernel), List.mem_of_getElem? (i := 477) (by decide +kernel), List.mem_of_getElem? (i := 478) (by decide +kernel)⟩
theorem lw_p31 : lw_okq (⟨"ClassObjectMirrorModel", "outside", "(II)Z"⟩, 12) := ⟨⟨by decide +kernel, by decide +kernel⟩, List.mem_of_getElem? (i := 289) (by decide +kernel), List.mem_of_getElem? (i := 481) (by decide +kernel), List.mem_of_getElem? (i := 482) (by decide +kernel)⟩
def lw_privs_2 : List (MethodName × Nat) := [(⟨"ClassObjectMirror", "isIndex", "(II)Z"⟩, 11), (⟨"ClassObjectMirror", "isArrayOfBases", "(I)Z"⟩, 11), (⟨"ClassObjectMirrorModel", "noType", "(I)Z"⟩, 12), (⟨"ClassObjectMirrorModel", "search", "(I)I"⟩, 12), (⟨"ClassObjectMirrorModel", "enter", "(II)V"⟩, 12), (⟨"ClassObjectMirrorModel", "above", "(II)Z"⟩, 12), (⟨"ClassObjectMirrorModel", "bottom", "(I)I"⟩, 12), (⟨"ClassObjectMirrorModel", "describe", "(IZ)V"⟩, 12), (⟨"ClassObjectMirrorModel", "letter", "(I)V"⟩, 12), (⟨"ClassObjectMirrorModel", "name", "(I)V"⟩, 12), (⟨"ClassObjectMirrorModel", "word", "(J)V"⟩, 12), (⟨"ClassObjectMirrorModel", "simple", "(I)V"⟩, 12), (⟨"ClassObjectMirrorModel", "create", "(III)I"⟩, 12), (⟨"ClassObjectMirrorModel", "noObject", "(I)Z"⟩, 12), (⟨"ClassObjectMirrorModel", "array", "(I)I"⟩, 12), (⟨"ClassObjectMirrorModel", "outside", "(II)Z"⟩, 12)]
theorem lw_r2 : ∀ q ∈ lw_privs_2, lw_okq q := List.forall_mem_cons.mpr ⟨lw_p16, List.forall_mem_cons.mpr ⟨lw_p17, List.forall_mem_cons.mpr ⟨lw_p18, List.forall_mem_cons.mpr ⟨lw_p19, List.forall_mem_cons.mpr ⟨lw_p20, List.forall_mem_cons.mpr ⟨lw_p21, List.forall_mem_cons.mpr ⟨lw_p22, List.forall_mem_cons.mpr ⟨lw_p23, List.forall_mem_cons.mpr ⟨lw_p24, List.forall_mem_cons.mpr ⟨lw_p25, List.forall_mem_cons.mpr ⟨lw_p26, List.forall_mem_cons.mpr ⟨lw_p27, List.forall_mem_cons.mpr ⟨lw_p28, List.forall_mem_cons.mpr ⟨lw_p29, List.forall_mem_cons.mpr ⟨lw_p30, List.forall_mem_cons.mpr ⟨lw_p31, fun _ h => absurd h List.not_mem_nil⟩⟩⟩⟩⟩⟩⟩⟩⟩⟩⟩⟩⟩⟩⟩⟩
def lw_privs : List (MethodName × Nat) := lw_privs_1 ++ (lw_privs_2)
def lw_tbl : List Cond := k2_sels lw_privs ++ tables_1
theorem lw_privs_ok : ∀ q ∈ lw_privs, lw_okq q := by
  show ∀ q ∈ lw_privs_1 ++ (lw_privs_2), lw_okq q
  exact List.forall_mem_append.mpr ⟨lw_r1, lw_r2⟩
/-! the words that may be handed on to a callee, one list for all methods -/
def gW : List Cond := lw_tbl.filter goodWord
theorem gW_in : ∀ w ∈ gW, w ∈ lw_tbl := fun w h => (List.mem_filter.mp h).1
theorem gW_good : GoodIn gW gW := fun w h => ⟨h, good_of_word (List.mem_filter.mp h).2⟩
theorem gW_1 {w : Cond} {i : Nat} (h : tables_1_1[i]? = some w) (g : goodWord w = true) : w ∈ gW := List.mem_filter.mpr ⟨List.mem_append_right _ (List.mem_append_left _ (List.mem_of_getElem? h)), g⟩
theorem gW_2 {w : Cond} {i : Nat} (h : tables_1_2[i]? = some w) (g : goodWord w = true) : w ∈ gW := List.mem_filter.mpr ⟨List.mem_append_right _ (List.mem_append_right _ (List.mem_append_left _ (List.mem_of_getElem? h))), g⟩
theorem gW_3 {w : Cond} {i : Nat} (h : tables_1_3[i]? = some w) (g : goodWord w = true) : w ∈ gW := List.mem_filter.mpr ⟨List.mem_append_right _ (List.mem_append_right _ (List.mem_append_right _ (List.mem_of_getElem? h))), g⟩
theorem gW_s1 {w : Cond} {i : Nat} (h : (k2_sels lw_privs_1)[i]? = some w) (g : goodWord w = true) : w ∈ gW := List.mem_filter.mpr ⟨List.mem_append_left _ (by unfold lw_privs k2_sels; rw [List.map_append]; exact List.mem_append_left _ (List.mem_of_getElem? h)), g⟩
theorem gW_s2 {w : Cond} {i : Nat} (h : (k2_sels lw_privs_2)[i]? = some w) (g : goodWord w = true) : w ∈ gW := List.mem_filter.mpr ⟨List.mem_append_left _ (by unfold lw_privs k2_sels; rw [List.map_append]; exact List.mem_append_right _ (List.mem_of_getElem? h)), g⟩
def yy_X_init : MethodName := ⟨"ClassObjectMirror", "<init>", "()V"⟩
def yy_X_arrayOf : MethodName := ⟨"ClassObjectMirror", "arrayOf", "(I)I"⟩
def yy_X_arrayTypeFor : MethodName := ⟨"ClassObjectMirror", "arrayTypeFor", "(I)I"⟩
def yy_X_asBaseHasIt : MethodName := ⟨"ClassObjectMirror", "asBaseHasIt", "(II)J"⟩
def yy_X_canBeComponent : MethodName := ⟨"ClassObjectMirror", "canBeComponent", "(I)Z"⟩
def yy_X_cast : MethodName := ⟨"ClassObjectMirror", "cast", "(II)I"⟩
def yy_X_characterOf : MethodName := ⟨"ClassObjectMirror", "characterOf", "(Ljava/lang/String;I)I"⟩
def yy_X_classOf : MethodName := ⟨"ClassObjectMirror", "classOf", "(I)I"⟩
def yy_X_codedCharacterOf : MethodName := ⟨"ClassObjectMirror", "codedCharacterOf", "(IIC)I"⟩
def yy_X_colorConstant : MethodName := ⟨"ClassObjectMirror", "colorConstant", "(I)I"⟩
def yy_X_component : MethodName := ⟨"ClassObjectMirror", "component", "(I)I"⟩
def yy_X_componentOfArray : MethodName := ⟨"ClassObjectMirror", "componentOfArray", "(I)I"⟩
def yy_X_copy : MethodName := ⟨"ClassObjectMirror", "copy", "(I)I"⟩
def yy_X_count : MethodName := ⟨"ClassObjectMirror", "count", "(I)I"⟩
def yy_X_dimensions : MethodName := ⟨"ClassObjectMirror", "dimensions", "(I)I"⟩
def yy_X_get : MethodName := ⟨"ClassObjectMirror", "get", "(II)J"⟩
def yy_X_instance : MethodName := ⟨"ClassObjectMirror", "instance", "(II)I"⟩
def yy_X_isAboveEveryArray : MethodName := ⟨"ClassObjectMirror", "isAboveEveryArray", "(I)Z"⟩
def yy_X_isArray : MethodName := ⟨"ClassObjectMirror", "isArray", "(I)Z"⟩
def yy_X_isArrayOfBases : MethodName := ⟨"ClassObjectMirror", "isArrayOfBases", "(I)Z"⟩
def yy_X_isArrayOfObjects : MethodName := ⟨"ClassObjectMirror", "isArrayOfObjects", "(I)Z"⟩
def yy_X_isArrayType : MethodName := ⟨"ClassObjectMirror", "isArrayType", "(I)Z"⟩
def yy_X_isBase : MethodName := ⟨"ClassObjectMirror", "isBase", "(I)Z"⟩
def yy_X_isIndex : MethodName := ⟨"ClassObjectMirror", "isIndex", "(II)Z"⟩
def yy_X_isInstance : MethodName := ⟨"ClassObjectMirror", "isInstance", "(II)Z"⟩
def yy_X_isObject : MethodName := ⟨"ClassObjectMirror", "isObject", "(I)Z"⟩
def yy_X_isSupertype : MethodName := ⟨"ClassObjectMirror", "isSupertype", "(II)Z"⟩
def yy_X_isType : MethodName := ⟨"ClassObjectMirror", "isType", "(I)Z"⟩
def yy_X_kinds : MethodName := ⟨"ClassObjectMirror", "kinds", "(I)I"⟩
def yy_X_label : MethodName := ⟨"ClassObjectMirror", "label", "(I)I"⟩
def yy_X_length : MethodName := ⟨"ClassObjectMirror", "length", "(I)I"⟩
def yy_X_load : MethodName := ⟨"ClassObjectMirror", "load", "(II)I"⟩
def yy_X_make : MethodName := ⟨"ClassObjectMirror", "make", "(II)I"⟩
def yy_X_makeArray : MethodName := ⟨"ClassObjectMirror", "makeArray", "(II)I"⟩
def yy_X_marks : MethodName := ⟨"ClassObjectMirror", "marks", "(I)I"⟩
def yy_X_newArray : MethodName := ⟨"ClassObjectMirror", "newArray", "(II)I"⟩
def yy_X_newObject : MethodName := ⟨"ClassObjectMirror", "newObject", "(II)I"⟩
def yy_X_placeOf : MethodName := ⟨"ClassObjectMirror", "placeOf", "(II)I"⟩
def yy_X_put : MethodName := ⟨"ClassObjectMirror", "put", "(III)I"⟩
def yy_X_simpleCharacterOf : MethodName := ⟨"ClassObjectMirror", "simpleCharacterOf", "(II)I"⟩
def yy_X_store : MethodName := ⟨"ClassObjectMirror", "store", "(III)I"⟩
def yy_X_supertype : MethodName := ⟨"ClassObjectMirror", "supertype", "(II)I"⟩
def yy_X_text : MethodName := ⟨"ClassObjectMirror", "text", "(III)I"⟩
def yy_E_codedCharacter : MethodName := ⟨"ClassObjectMirror$FixedType", "codedCharacter", "(IC)I"⟩
def yy_E_simpleLength : MethodName := ⟨"ClassObjectMirror$FixedType", "simpleLength", "()I"⟩
def yy_M_init : MethodName := ⟨"ClassObjectMirrorModel", "<init>", "()V"⟩
def yy_M_above : MethodName := ⟨"ClassObjectMirrorModel", "above", "(II)Z"⟩
def yy_M_array : MethodName := ⟨"ClassObjectMirrorModel", "array", "(I)I"⟩
def yy_M_arrayOf : MethodName := ⟨"ClassObjectMirrorModel", "arrayOf", "(I)I"⟩
def yy_M_as : MethodName := ⟨"ClassObjectMirrorModel", "as", "(II)J"⟩
def yy_M_base : MethodName := ⟨"ClassObjectMirrorModel", "base", "(I)Z"⟩
def yy_M_bottom : MethodName := ⟨"ClassObjectMirrorModel", "bottom", "(I)I"⟩
def yy_M_cast : MethodName := ⟨"ClassObjectMirrorModel", "cast", "(II)I"⟩
def yy_M_classOf : MethodName := ⟨"ClassObjectMirrorModel", "classOf", "(I)I"⟩
def yy_M_code : MethodName := ⟨"ClassObjectMirrorModel", "code", "(I)I"⟩
def yy_M_component : MethodName := ⟨"ClassObjectMirrorModel", "component", "(I)I"⟩
def yy_M_copy : MethodName := ⟨"ClassObjectMirrorModel", "copy", "(I)I"⟩
def yy_M_count : MethodName := ⟨"ClassObjectMirrorModel", "count", "(I)I"⟩
def yy_M_create : MethodName := ⟨"ClassObjectMirrorModel", "create", "(III)I"⟩
def yy_M_describe : MethodName := ⟨"ClassObjectMirrorModel", "describe", "(IZ)V"⟩
def yy_M_dimensions : MethodName := ⟨"ClassObjectMirrorModel", "dimensions", "(I)I"⟩
def yy_M_enter : MethodName := ⟨"ClassObjectMirrorModel", "enter", "(II)V"⟩
def yy_M_get : MethodName := ⟨"ClassObjectMirrorModel", "get", "(II)J"⟩
def yy_M_instance : MethodName := ⟨"ClassObjectMirrorModel", "instance", "(II)I"⟩
def yy_M_kinds : MethodName := ⟨"ClassObjectMirrorModel", "kinds", "(I)I"⟩
def yy_M_label : MethodName := ⟨"ClassObjectMirrorModel", "label", "(I)I"⟩
def yy_M_length : MethodName := ⟨"ClassObjectMirrorModel", "length", "(I)I"⟩
def yy_M_letter : MethodName := ⟨"ClassObjectMirrorModel", "letter", "(I)V"⟩
def yy_M_load : MethodName := ⟨"ClassObjectMirrorModel", "load", "(II)I"⟩
def yy_M_make : MethodName := ⟨"ClassObjectMirrorModel", "make", "(II)I"⟩
def yy_M_makeArray : MethodName := ⟨"ClassObjectMirrorModel", "makeArray", "(II)I"⟩
def yy_M_marks : MethodName := ⟨"ClassObjectMirrorModel", "marks", "(I)I"⟩
def yy_M_name : MethodName := ⟨"ClassObjectMirrorModel", "name", "(I)V"⟩
def yy_M_noObject : MethodName := ⟨"ClassObjectMirrorModel", "noObject", "(I)Z"⟩
def yy_M_noType : MethodName := ⟨"ClassObjectMirrorModel", "noType", "(I)Z"⟩
def yy_M_outside : MethodName := ⟨"ClassObjectMirrorModel", "outside", "(II)Z"⟩
def yy_M_put : MethodName := ⟨"ClassObjectMirrorModel", "put", "(III)I"⟩
def yy_M_rounded : MethodName := ⟨"ClassObjectMirrorModel", "rounded", "(J)J"⟩
def yy_M_search : MethodName := ⟨"ClassObjectMirrorModel", "search", "(I)I"⟩
def yy_M_simple : MethodName := ⟨"ClassObjectMirrorModel", "simple", "(I)V"⟩
def yy_M_store : MethodName := ⟨"ClassObjectMirrorModel", "store", "(III)I"⟩
def yy_M_supertype : MethodName := ⟨"ClassObjectMirrorModel", "supertype", "(II)I"⟩
def yy_M_text : MethodName := ⟨"ClassObjectMirrorModel", "text", "(III)I"⟩
def yy_M_word : MethodName := ⟨"ClassObjectMirrorModel", "word", "(J)V"⟩
def yy_J_floorMod : MethodName := ⟨"java/lang/Math", "floorMod", "(II)I"⟩
def yy_O_init : MethodName := ⟨"java/lang/Object", "<init>", "()V"⟩
def yy_S_charAt : MethodName := ⟨"java/lang/String", "charAt", "(I)C"⟩
def yy_S_checkIndex : MethodName := ⟨"java/lang/String", "checkIndex", "(II)V"⟩
def yy_S_coder : MethodName := ⟨"java/lang/String", "coder", "()B"⟩
def yy_S_isEmpty : MethodName := ⟨"java/lang/String", "isEmpty", "()Z"⟩
def yy_S_isLatin1 : MethodName := ⟨"java/lang/String", "isLatin1", "()Z"⟩
def yy_S_length : MethodName := ⟨"java/lang/String", "length", "()I"⟩
def yy_T_charAt : MethodName := ⟨"java/lang/StringLatin1", "charAt", "([BI)C"⟩
def yy_U_charAt : MethodName := ⟨"java/lang/StringUTF16", "charAt", "([BI)C"⟩
def yy_U_checkIndex : MethodName := ⟨"java/lang/StringUTF16", "checkIndex", "(I[B)V"⟩
def yy_U_getChar : MethodName := ⟨"java/lang/StringUTF16", "getChar", "([BI)C"⟩
def yy_U_length : MethodName := ⟨"java/lang/StringUTF16", "length", "([B)I"⟩
def yy_P_checkIndex : MethodName := ⟨"jdk/internal/util/Preconditions", "checkIndex", "(IILjava/util/function/BiFunction;)I"⟩
abbrev bb_X_init : ByteArray := prog_1_method_1_code
abbrev bb_X_arrayOf : ByteArray := prog_1_method_2_code
abbrev bb_X_arrayTypeFor : ByteArray := prog_1_method_26_code
abbrev bb_X_asBaseHasIt : ByteArray := prog_1_method_43_code
abbrev bb_X_canBeComponent : ByteArray := prog_1_method_25_code
abbrev bb_X_cast : ByteArray := prog_1_method_13_code
abbrev bb_X_characterOf : ByteArray := prog_1_method_29_code
abbrev bb_X_classOf : ByteArray := prog_1_method_11_code
abbrev bb_X_codedCharacterOf : ByteArray := prog_1_method_30_code
abbrev bb_X_colorConstant : ByteArray := prog_1_method_42_code
abbrev bb_X_component : ByteArray := prog_1_method_3_code
abbrev bb_X_componentOfArray : ByteArray := prog_1_method_36_code
abbrev bb_X_copy : ByteArray := prog_1_method_19_code
abbrev bb_X_count : ByteArray := prog_1_method_21_code
abbrev bb_X_dimensions : ByteArray := prog_1_method_4_code
abbrev bb_X_get : ByteArray := prog_1_method_17_code
abbrev bb_X_instance : ByteArray := prog_1_method_12_code
abbrev bb_X_isAboveEveryArray : ByteArray := prog_1_method_28_code
abbrev bb_X_isArray : ByteArray := prog_1_method_33_code
abbrev bb_X_isArrayOfBases : ByteArray := prog_1_method_34_code
abbrev bb_X_isArrayOfObjects : ByteArray := prog_1_method_35_code
abbrev bb_X_isArrayType : ByteArray := prog_1_method_23_code
abbrev bb_X_isBase : ByteArray := prog_1_method_24_code
abbrev bb_X_isIndex : ByteArray := prog_1_method_38_code
abbrev bb_X_isInstance : ByteArray := prog_1_method_37_code
abbrev bb_X_isObject : ByteArray := prog_1_method_32_code
abbrev bb_X_isSupertype : ByteArray := prog_1_method_27_code
abbrev bb_X_isType : ByteArray := prog_1_method_22_code
abbrev bb_X_kinds : ByteArray := prog_1_method_7_code
abbrev bb_X_label : ByteArray := prog_1_method_20_code
abbrev bb_X_length : ByteArray := prog_1_method_18_code
abbrev bb_X_load : ByteArray := prog_1_method_15_code
abbrev bb_X_make : ByteArray := prog_1_method_9_code
abbrev bb_X_makeArray : ByteArray := prog_1_method_10_code
abbrev bb_X_marks : ByteArray := prog_1_method_6_code
abbrev bb_X_newArray : ByteArray := prog_1_method_41_code
abbrev bb_X_newObject : ByteArray := prog_1_method_40_code
abbrev bb_X_placeOf : ByteArray := prog_1_method_39_code
abbrev bb_X_put : ByteArray := prog_1_method_16_code
abbrev bb_X_simpleCharacterOf : ByteArray := prog_1_method_31_code
abbrev bb_X_store : ByteArray := prog_1_method_14_code
abbrev bb_X_supertype : ByteArray := prog_1_method_5_code
abbrev bb_X_text : ByteArray := prog_1_method_8_code
abbrev bb_E_codedCharacter : ByteArray := prog_2_method_7_code
abbrev bb_E_simpleLength : ByteArray := prog_2_method_6_code
abbrev bb_M_init : ByteArray := prog_4_method_1_code
abbrev bb_M_above : ByteArray := prog_4_method_10_code
abbrev bb_M_array : ByteArray := prog_4_method_28_code
abbrev bb_M_arrayOf : ByteArray := prog_4_method_7_code
abbrev bb_M_as : ByteArray := prog_4_method_33_code
abbrev bb_M_base : ByteArray := prog_4_method_4_code
abbrev bb_M_bottom : ByteArray := prog_4_method_12_code
abbrev bb_M_cast : ByteArray := prog_4_method_27_code
abbrev bb_M_classOf : ByteArray := prog_4_method_25_code
abbrev bb_M_code : ByteArray := prog_4_method_19_code
abbrev bb_M_component : ByteArray := prog_4_method_8_code
abbrev bb_M_copy : ByteArray := prog_4_method_37_code
abbrev bb_M_count : ByteArray := prog_4_method_39_code
abbrev bb_M_create : ByteArray := prog_4_method_22_code
abbrev bb_M_describe : ByteArray := prog_4_method_20_code
abbrev bb_M_dimensions : ByteArray := prog_4_method_9_code
abbrev bb_M_enter : ByteArray := prog_4_method_6_code
abbrev bb_M_get : ByteArray := prog_4_method_35_code
abbrev bb_M_instance : ByteArray := prog_4_method_26_code
abbrev bb_M_kinds : ByteArray := prog_4_method_14_code
abbrev bb_M_label : ByteArray := prog_4_method_38_code
abbrev bb_M_length : ByteArray := prog_4_method_36_code
abbrev bb_M_letter : ByteArray := prog_4_method_15_code
abbrev bb_M_load : ByteArray := prog_4_method_31_code
abbrev bb_M_make : ByteArray := prog_4_method_23_code
abbrev bb_M_makeArray : ByteArray := prog_4_method_24_code
abbrev bb_M_marks : ByteArray := prog_4_method_13_code
abbrev bb_M_name : ByteArray := prog_4_method_18_code
abbrev bb_M_noObject : ByteArray := prog_4_method_3_code
abbrev bb_M_noType : ByteArray := prog_4_method_2_code
abbrev bb_M_outside : ByteArray := prog_4_method_29_code
abbrev bb_M_put : ByteArray := prog_4_method_34_code
abbrev bb_M_rounded : ByteArray := prog_4_method_32_code
abbrev bb_M_search : ByteArray := prog_4_method_5_code
abbrev bb_M_simple : ByteArray := prog_4_method_17_code
abbrev bb_M_store : ByteArray := prog_4_method_30_code
abbrev bb_M_supertype : ByteArray := prog_4_method_11_code
abbrev bb_M_text : ByteArray := prog_4_method_21_code
abbrev bb_M_word : ByteArray := prog_4_method_16_code
abbrev bb_J_floorMod : ByteArray := prog_6_method_50_code
abbrev bb_O_init : ByteArray := object_method_1_code
abbrev bb_S_charAt : ByteArray := prog_7_method_56_code
abbrev bb_S_checkIndex : ByteArray := prog_7_method_155_code
abbrev bb_S_coder : ByteArray := prog_7_method_152_code
abbrev bb_S_isEmpty : ByteArray := prog_7_method_55_code
abbrev bb_S_isLatin1 : ByteArray := prog_7_method_154_code
abbrev bb_S_length : ByteArray := prog_7_method_54_code
abbrev bb_T_charAt : ByteArray := prog_8_method_2_code
abbrev bb_U_charAt : ByteArray := prog_9_method_83_code
abbrev bb_U_checkIndex : ByteArray := prog_9_method_91_code
abbrev bb_U_getChar : ByteArray := prog_9_method_5_code
abbrev bb_U_length : ByteArray := prog_9_method_6_code
abbrev bb_P_checkIndex : ByteArray := prog_11_method_11_code
theorem gw_0 : (Cond.initialized "ClassObjectMirrorLaw") ∈ gW := gW_1 (i := 0) rfl rfl
theorem gw_1 : (Cond.initialized "ClassObjectMirror") ∈ gW := gW_1 (i := 1) rfl rfl
theorem gw_2 : (Cond.initialized "ClassObjectMirrorModel") ∈ gW := gW_1 (i := 2) rfl rfl
theorem gw_3 : (Cond.initialized "java/lang/String") ∈ gW := gW_1 (i := 3) rfl rfl
theorem gw_4 : (Cond.initialized "java/lang/StringLatin1") ∈ gW := gW_1 (i := 4) rfl rfl
theorem gw_5 : (Cond.initialized "jdk/internal/util/Preconditions") ∈ gW := gW_1 (i := 5) rfl rfl
theorem gw_6 : (Cond.initialized "java/lang/StringUTF16") ∈ gW := gW_1 (i := 6) rfl rfl
theorem gw_7 : (Cond.initialized "java/lang/Math") ∈ gW := gW_1 (i := 7) rfl rfl
theorem gw_8 : (Cond.initialized "java/lang/System") ∈ gW := gW_1 (i := 8) rfl rfl
theorem gw_9 : (Cond.classLink "ClassObjectMirrorLaw" 7 "ClassObjectMirror") ∈ gW := gW_1 (i := 9) rfl rfl
theorem gw_10 : (Cond.instantiable "ClassObjectMirror" 11) ∈ gW := gW_1 (i := 10) rfl rfl
theorem gw_11 : (Cond.methodLink "ClassObjectMirrorLaw" 9 yy_X_init) ∈ gW := gW_1 (i := 11) rfl rfl
theorem gw_12 : (Cond.instanceMethod yy_X_init) ∈ gW := gW_1 (i := 12) rfl rfl
theorem gw_13 : (Cond.code yy_X_init prog_1_method_1_code 2 (Option.none : Option FieldType)) ∈ gW := gW_1 (i := 13) rfl rfl
theorem gw_14 : (Cond.methodLink "ClassObjectMirror" 1 yy_O_init) ∈ gW := gW_1 (i := 14) rfl rfl
theorem gw_15 : (Cond.instanceMethod yy_O_init) ∈ gW := gW_1 (i := 15) rfl rfl
theorem gw_16 : (Cond.code yy_O_init object_method_1_code 1 (Option.none : Option FieldType)) ∈ gW := gW_1 (i := 16) rfl rfl
theorem gw_17 : (Cond.fieldLink "ClassObjectMirror" 9 "ClassObjectMirror" "typeCount" "I") ∈ gW := gW_1 (i := 17) rfl rfl
theorem gw_18 : (Cond.fieldLink "ClassObjectMirror" 13 "ClassObjectMirror" "componentOfType" "[I") ∈ gW := gW_1 (i := 18) rfl rfl
theorem gw_19 : (Cond.fieldLink "ClassObjectMirror" 17 "ClassObjectMirror" "dimensionsOfType" "[I") ∈ gW := gW_1 (i := 19) rfl rfl
theorem gw_20 : (Cond.fieldLink "ClassObjectMirror" 20 "ClassObjectMirror" "rootOfType" "[I") ∈ gW := gW_1 (i := 20) rfl rfl
theorem gw_21 : (Cond.fieldLink "ClassObjectMirror" 23 "ClassObjectMirror" "arrayTypeOfType" "[I") ∈ gW := gW_1 (i := 21) rfl rfl
theorem gw_22 : (Cond.fieldLink "ClassObjectMirror" 26 "ClassObjectMirror" "objectCount" "I") ∈ gW := gW_1 (i := 22) rfl rfl
theorem gw_23 : (Cond.fieldLink "ClassObjectMirror" 29 "ClassObjectMirror" "classOfObject" "[I") ∈ gW := gW_1 (i := 23) rfl rfl
theorem gw_24 : (Cond.fieldLink "ClassObjectMirror" 32 "ClassObjectMirror" "valueOfObject" "[I") ∈ gW := gW_1 (i := 24) rfl rfl
theorem gw_25 : (Cond.fieldLink "ClassObjectMirror" 35 "ClassObjectMirror" "lengthOfObject" "[I") ∈ gW := gW_1 (i := 25) rfl rfl
theorem gw_26 : (Cond.fieldLink "ClassObjectMirror" 38 "ClassObjectMirror" "elements" "[J") ∈ gW := gW_1 (i := 26) rfl rfl
theorem gw_27 : (Cond.fieldLink "ClassObjectMirror" 42 "ClassObjectMirror" "objectOfColor" "[I") ∈ gW := gW_1 (i := 27) rfl rfl
theorem gw_28 : (Cond.lays "ClassObjectMirror" "ClassObjectMirror" "typeCount" "I") ∈ gW := gW_1 (i := 28) rfl rfl
theorem gw_30 : (Cond.laysFinal "ClassObjectMirror" "ClassObjectMirror" "componentOfType" "[I") ∈ gW := gW_1 (i := 30) rfl rfl
theorem gw_32 : (Cond.laysFinal "ClassObjectMirror" "ClassObjectMirror" "dimensionsOfType" "[I") ∈ gW := gW_1 (i := 32) rfl rfl
theorem gw_34 : (Cond.laysFinal "ClassObjectMirror" "ClassObjectMirror" "rootOfType" "[I") ∈ gW := gW_1 (i := 34) rfl rfl
theorem gw_36 : (Cond.laysFinal "ClassObjectMirror" "ClassObjectMirror" "arrayTypeOfType" "[I") ∈ gW := gW_1 (i := 36) rfl rfl
theorem gw_38 : (Cond.lays "ClassObjectMirror" "ClassObjectMirror" "objectCount" "I") ∈ gW := gW_1 (i := 38) rfl rfl
theorem gw_40 : (Cond.laysFinal "ClassObjectMirror" "ClassObjectMirror" "classOfObject" "[I") ∈ gW := gW_1 (i := 40) rfl rfl
theorem gw_42 : (Cond.laysFinal "ClassObjectMirror" "ClassObjectMirror" "valueOfObject" "[I") ∈ gW := gW_1 (i := 42) rfl rfl
theorem gw_44 : (Cond.laysFinal "ClassObjectMirror" "ClassObjectMirror" "lengthOfObject" "[I") ∈ gW := gW_1 (i := 44) rfl rfl
theorem gw_46 : (Cond.laysFinal "ClassObjectMirror" "ClassObjectMirror" "elements" "[J") ∈ gW := gW_1 (i := 46) rfl rfl
theorem gw_48 : (Cond.laysFinal "ClassObjectMirror" "ClassObjectMirror" "objectOfColor" "[I") ∈ gW := gW_1 (i := 48) rfl rfl
theorem gw_51 : (Cond.arrayClass FieldType.int) ∈ gW := gW_1 (i := 51) rfl rfl
theorem gw_52 : (Cond.arrayClass FieldType.long) ∈ gW := gW_1 (i := 52) rfl rfl
theorem gw_53 : (Cond.methodLink "ClassObjectMirrorLaw" 13 yy_X_arrayOf) ∈ gW := gW_1 (i := 53) rfl rfl
theorem gw_54 : (Cond.instanceMethod yy_X_arrayOf) ∈ gW := gW_1 (i := 54) rfl rfl
theorem gw_55 : (Cond.selects "ClassObjectMirror" yy_X_arrayOf yy_X_arrayOf) ∈ gW := gW_1 (i := 55) rfl rfl
theorem gw_56 : (Cond.code yy_X_arrayOf prog_1_method_2_code 2 (Option.some FieldType.int)) ∈ gW := gW_1 (i := 56) rfl rfl
theorem gw_57 : (Cond.methodLink "ClassObjectMirror" 45 yy_X_isType) ∈ gW := gW_1 (i := 57) rfl rfl
theorem gw_59 : (Cond.instanceMethod yy_X_isType) ∈ gW := gW_1 (i := 59) rfl rfl
theorem gw_60 : (Cond.code yy_X_isType prog_1_method_22_code 2 (Option.some FieldType.boolean)) ∈ gW := gW_1 (i := 60) rfl rfl
theorem gw_61 : (Cond.methodLink "ClassObjectMirror" 49 yy_X_canBeComponent) ∈ gW := gW_1 (i := 61) rfl rfl
theorem gw_63 : (Cond.instanceMethod yy_X_canBeComponent) ∈ gW := gW_1 (i := 63) rfl rfl
theorem gw_64 : (Cond.code yy_X_canBeComponent prog_1_method_25_code 2 (Option.some FieldType.boolean)) ∈ gW := gW_1 (i := 64) rfl rfl
theorem gw_65 : (Cond.methodLink "ClassObjectMirror" 52 yy_X_arrayTypeFor) ∈ gW := gW_1 (i := 65) rfl rfl
theorem gw_67 : (Cond.instanceMethod yy_X_arrayTypeFor) ∈ gW := gW_1 (i := 67) rfl rfl
theorem gw_68 : (Cond.code yy_X_arrayTypeFor prog_1_method_26_code 3 (Option.some FieldType.int)) ∈ gW := gW_1 (i := 68) rfl rfl
theorem gw_69 : (Cond.methodLink "ClassObjectMirrorLaw" 18 yy_X_component) ∈ gW := gW_1 (i := 69) rfl rfl
theorem gw_70 : (Cond.instanceMethod yy_X_component) ∈ gW := gW_1 (i := 70) rfl rfl
theorem gw_71 : (Cond.selects "ClassObjectMirror" yy_X_component yy_X_component) ∈ gW := gW_1 (i := 71) rfl rfl
theorem gw_72 : (Cond.code yy_X_component prog_1_method_3_code 2 (Option.some FieldType.int)) ∈ gW := gW_1 (i := 72) rfl rfl
theorem gw_73 : (Cond.methodLink "ClassObjectMirrorLaw" 22 yy_X_dimensions) ∈ gW := gW_1 (i := 73) rfl rfl
theorem gw_74 : (Cond.instanceMethod yy_X_dimensions) ∈ gW := gW_1 (i := 74) rfl rfl
theorem gw_75 : (Cond.selects "ClassObjectMirror" yy_X_dimensions yy_X_dimensions) ∈ gW := gW_1 (i := 75) rfl rfl
theorem gw_76 : (Cond.code yy_X_dimensions prog_1_method_4_code 2 (Option.some FieldType.int)) ∈ gW := gW_1 (i := 76) rfl rfl
theorem gw_77 : (Cond.methodLink "ClassObjectMirrorLaw" 26 yy_X_supertype) ∈ gW := gW_1 (i := 77) rfl rfl
theorem gw_78 : (Cond.instanceMethod yy_X_supertype) ∈ gW := gW_1 (i := 78) rfl rfl
theorem gw_79 : (Cond.selects "ClassObjectMirror" yy_X_supertype yy_X_supertype) ∈ gW := gW_1 (i := 79) rfl rfl
theorem gw_80 : (Cond.code yy_X_supertype prog_1_method_5_code 3 (Option.some FieldType.int)) ∈ gW := gW_1 (i := 80) rfl rfl
theorem gw_81 : (Cond.methodLink "ClassObjectMirror" 56 yy_X_isSupertype) ∈ gW := gW_1 (i := 81) rfl rfl
theorem gw_83 : (Cond.instanceMethod yy_X_isSupertype) ∈ gW := gW_1 (i := 83) rfl rfl
theorem gw_84 : (Cond.code yy_X_isSupertype prog_1_method_27_code 4 (Option.some FieldType.boolean)) ∈ gW := gW_1 (i := 84) rfl rfl
theorem gw_85 : (Cond.fieldLink "ClassObjectMirror" 60 "ClassObjectMirror" "FIXED" "[LClassObjectMirror$FixedType;") ∈ gW := gW_1 (i := 85) rfl rfl
theorem gw_87 : (Cond.methodLink "ClassObjectMirror" 144 yy_X_isAboveEveryArray) ∈ gW := gW_1 (i := 87) rfl rfl
theorem gw_88 : (Cond.static yy_X_isAboveEveryArray) ∈ gW := gW_1 (i := 88) rfl rfl
theorem gw_89 : (Cond.code yy_X_isAboveEveryArray prog_1_method_28_code 1 (Option.some FieldType.boolean)) ∈ gW := gW_1 (i := 89) rfl rfl
theorem gw_90 : (Cond.methodLink "ClassObjectMirrorLaw" 31 yy_X_marks) ∈ gW := gW_1 (i := 90) rfl rfl
theorem gw_91 : (Cond.instanceMethod yy_X_marks) ∈ gW := gW_1 (i := 91) rfl rfl
theorem gw_92 : (Cond.selects "ClassObjectMirror" yy_X_marks yy_X_marks) ∈ gW := gW_1 (i := 92) rfl rfl
theorem gw_93 : (Cond.code yy_X_marks prog_1_method_6_code 3 (Option.some FieldType.int)) ∈ gW := gW_1 (i := 93) rfl rfl
theorem gw_94 : (Cond.methodLink "ClassObjectMirror" 69 yy_X_isArrayType) ∈ gW := gW_1 (i := 94) rfl rfl
theorem gw_95 : (Cond.static yy_X_isArrayType) ∈ gW := gW_1 (i := 95) rfl rfl
theorem gw_96 : (Cond.code yy_X_isArrayType prog_1_method_23_code 1 (Option.some FieldType.boolean)) ∈ gW := gW_1 (i := 96) rfl rfl
theorem gw_97 : (Cond.methodLink "ClassObjectMirrorLaw" 35 yy_X_kinds) ∈ gW := gW_1 (i := 97) rfl rfl
theorem gw_98 : (Cond.instanceMethod yy_X_kinds) ∈ gW := gW_1 (i := 98) rfl rfl
theorem gw_99 : (Cond.selects "ClassObjectMirror" yy_X_kinds yy_X_kinds) ∈ gW := gW_1 (i := 99) rfl rfl
theorem gw_100 : (Cond.code yy_X_kinds prog_1_method_7_code 2 (Option.some FieldType.int)) ∈ gW := gW_1 (i := 100) rfl rfl
theorem gw_101 : (Cond.methodLink "ClassObjectMirrorLaw" 39 yy_X_text) ∈ gW := gW_1 (i := 101) rfl rfl
theorem gw_102 : (Cond.instanceMethod yy_X_text) ∈ gW := gW_1 (i := 102) rfl rfl
theorem gw_103 : (Cond.selects "ClassObjectMirror" yy_X_text yy_X_text) ∈ gW := gW_1 (i := 103) rfl rfl
theorem gw_104 : (Cond.code yy_X_text prog_1_method_8_code 4 (Option.some FieldType.int)) ∈ gW := gW_1 (i := 104) rfl rfl
theorem gw_105 : (Cond.methodLink "ClassObjectMirror" 75 yy_X_codedCharacterOf) ∈ gW := gW_1 (i := 105) rfl rfl
theorem gw_107 : (Cond.instanceMethod yy_X_codedCharacterOf) ∈ gW := gW_1 (i := 107) rfl rfl
theorem gw_108 : (Cond.code yy_X_codedCharacterOf prog_1_method_30_code 5 (Option.some FieldType.int)) ∈ gW := gW_1 (i := 108) rfl rfl
theorem gw_111 : (Cond.instanceMethod yy_E_codedCharacter) ∈ gW := gW_1 (i := 111) rfl rfl
theorem gw_112 : (Cond.instantiable "ClassObjectMirror$FixedType" 9) ∈ gW := gW_1 (i := 112) rfl rfl
theorem gw_113 : (Cond.code yy_E_codedCharacter prog_2_method_7_code 4 (Option.some FieldType.int)) ∈ gW := gW_1 (i := 113) rfl rfl
theorem gw_114 : (Cond.methodLink "ClassObjectMirror$FixedType" 127 yy_S_isEmpty) ∈ gW := gW_1 (i := 114) rfl rfl
theorem gw_115 : (Cond.instanceMethod yy_S_isEmpty) ∈ gW := gW_1 (i := 115) rfl rfl
theorem gw_116 : (Cond.selects "java/lang/String" yy_S_isEmpty yy_S_isEmpty) ∈ gW := gW_1 (i := 116) rfl rfl
theorem gw_117 : (Cond.code yy_S_isEmpty prog_7_method_55_code 1 (Option.some FieldType.boolean)) ∈ gW := gW_1 (i := 117) rfl rfl
theorem gw_119 : (Cond.static yy_X_characterOf) ∈ gW := gW_1 (i := 119) rfl rfl
theorem gw_120 : (Cond.code yy_X_characterOf prog_1_method_29_code 2 (Option.some FieldType.int)) ∈ gW := gW_1 (i := 120) rfl rfl
theorem gw_121 : (Cond.methodLink "ClassObjectMirror" 147 yy_S_length) ∈ gW := gW_1 (i := 121) rfl rfl
theorem gw_122 : (Cond.instanceMethod yy_S_length) ∈ gW := gW_1 (i := 122) rfl rfl
theorem gw_123 : (Cond.selects "java/lang/String" yy_S_length yy_S_length) ∈ gW := gW_1 (i := 123) rfl rfl
theorem gw_124 : (Cond.code yy_S_length prog_7_method_54_code 1 (Option.some FieldType.int)) ∈ gW := gW_1 (i := 124) rfl rfl
theorem gw_125 : (Cond.methodLink "java/lang/String" 335 yy_S_coder) ∈ gW := gW_1 (i := 125) rfl rfl
theorem gw_126 : (Cond.instanceMethod yy_S_coder) ∈ gW := gW_1 (i := 126) rfl rfl
theorem gw_127 : (Cond.selects "java/lang/String" yy_S_coder yy_S_coder) ∈ gW := gW_1 (i := 127) rfl rfl
theorem gw_128 : (Cond.code yy_S_coder prog_7_method_152_code 1 (Option.some FieldType.byte)) ∈ gW := gW_1 (i := 128) rfl rfl
theorem gw_129 : (Cond.fieldLink "java/lang/String" 38 "java/lang/String" "COMPACT_STRINGS" "Z") ∈ gW := gW_1 (i := 129) rfl rfl
theorem gw_131 : (Cond.methodLink "ClassObjectMirror" 153 yy_S_charAt) ∈ gW := gW_1 (i := 131) rfl rfl
theorem gw_132 : (Cond.instanceMethod yy_S_charAt) ∈ gW := gW_1 (i := 132) rfl rfl
theorem gw_133 : (Cond.selects "java/lang/String" yy_S_charAt yy_S_charAt) ∈ gW := gW_1 (i := 133) rfl rfl
theorem gw_134 : (Cond.code yy_S_charAt prog_7_method_56_code 2 (Option.some FieldType.char)) ∈ gW := gW_1 (i := 134) rfl rfl
theorem gw_135 : (Cond.methodLink "java/lang/String" 492 yy_S_isLatin1) ∈ gW := gW_1 (i := 135) rfl rfl
theorem gw_136 : (Cond.instanceMethod yy_S_isLatin1) ∈ gW := gW_1 (i := 136) rfl rfl
theorem gw_137 : (Cond.selects "java/lang/String" yy_S_isLatin1 yy_S_isLatin1) ∈ gW := gW_1 (i := 137) rfl rfl
theorem gw_138 : (Cond.code yy_S_isLatin1 prog_7_method_154_code 1 (Option.some FieldType.boolean)) ∈ gW := gW_1 (i := 138) rfl rfl
theorem gw_139 : (Cond.methodLink "java/lang/String" 495 yy_T_charAt) ∈ gW := gW_1 (i := 139) rfl rfl
theorem gw_140 : (Cond.static yy_T_charAt) ∈ gW := gW_1 (i := 140) rfl rfl
theorem gw_141 : (Cond.code yy_T_charAt prog_8_method_2_code 2 (Option.some FieldType.char)) ∈ gW := gW_1 (i := 141) rfl rfl
theorem gw_142 : (Cond.methodLink "java/lang/StringLatin1" 9 yy_S_checkIndex) ∈ gW := gW_1 (i := 142) rfl rfl
theorem gw_143 : (Cond.static yy_S_checkIndex) ∈ gW := gW_1 (i := 143) rfl rfl
theorem gw_144 : (Cond.code yy_S_checkIndex prog_7_method_155_code 2 (Option.none : Option FieldType)) ∈ gW := gW_1 (i := 144) rfl rfl
theorem gw_145 : (Cond.fieldLink "java/lang/String" 1053 "jdk/internal/util/Preconditions" "SIOOBE_FORMATTER" "Ljava/util/function/BiFunction;") ∈ gW := gW_1 (i := 145) rfl rfl
theorem gw_147 : (Cond.methodLink "java/lang/String" 1059 yy_P_checkIndex) ∈ gW := gW_1 (i := 147) rfl rfl
theorem gw_148 : (Cond.static yy_P_checkIndex) ∈ gW := gW_1 (i := 148) rfl rfl
theorem gw_149 : (Cond.code yy_P_checkIndex prog_11_method_11_code 3 (Option.some FieldType.int)) ∈ gW := gW_1 (i := 149) rfl rfl
theorem gw_150 : (Cond.methodLink "java/lang/String" 498 yy_U_charAt) ∈ gW := gW_1 (i := 150) rfl rfl
theorem gw_151 : (Cond.static yy_U_charAt) ∈ gW := gW_1 (i := 151) rfl rfl
theorem gw_152 : (Cond.code yy_U_charAt prog_9_method_83_code 2 (Option.some FieldType.char)) ∈ gW := gW_1 (i := 152) rfl rfl
theorem gw_153 : (Cond.methodLink "java/lang/StringUTF16" 67 yy_U_checkIndex) ∈ gW := gW_1 (i := 153) rfl rfl
theorem gw_154 : (Cond.static yy_U_checkIndex) ∈ gW := gW_1 (i := 154) rfl rfl
theorem gw_155 : (Cond.code yy_U_checkIndex prog_9_method_91_code 2 (Option.none : Option FieldType)) ∈ gW := gW_1 (i := 155) rfl rfl
theorem gw_156 : (Cond.methodLink "java/lang/StringUTF16" 48 yy_U_length) ∈ gW := gW_1 (i := 156) rfl rfl
theorem gw_157 : (Cond.static yy_U_length) ∈ gW := gW_1 (i := 157) rfl rfl
theorem gw_158 : (Cond.code yy_U_length prog_9_method_6_code 1 (Option.some FieldType.int)) ∈ gW := gW_1 (i := 158) rfl rfl
theorem gw_159 : (Cond.methodLink "java/lang/StringUTF16" 414 yy_S_checkIndex) ∈ gW := gW_1 (i := 159) rfl rfl
theorem gw_160 : (Cond.methodLink "java/lang/StringUTF16" 71 yy_U_getChar) ∈ gW := gW_1 (i := 160) rfl rfl
theorem gw_161 : (Cond.static yy_U_getChar) ∈ gW := gW_1 (i := 161) rfl rfl
theorem gw_162 : (Cond.code yy_U_getChar prog_9_method_5_code 2 (Option.some FieldType.char)) ∈ gW := gW_1 (i := 162) rfl rfl
theorem gw_163 : (Cond.fieldLink "java/lang/StringUTF16" 44 "java/lang/StringUTF16" "$assertionsDisabled" "Z") ∈ gW := gW_1 (i := 163) rfl rfl
theorem gw_165 : (Cond.fieldLink "java/lang/StringUTF16" 59 "java/lang/StringUTF16" "HI_BYTE_SHIFT" "I") ∈ gW := gW_1 (i := 165) rfl rfl
theorem gw_167 : (Cond.fieldLink "java/lang/StringUTF16" 63 "java/lang/StringUTF16" "LO_BYTE_SHIFT" "I") ∈ gW := gW_1 (i := 167) rfl rfl
theorem gw_169 : (Cond.methodLink "ClassObjectMirror$FixedType" 117 yy_S_length) ∈ gW := gW_1 (i := 169) rfl rfl
theorem gw_170 : (Cond.methodLink "ClassObjectMirror" 83 yy_X_characterOf) ∈ gW := gW_1 (i := 170) rfl rfl
theorem gw_171 : (Cond.methodLink "ClassObjectMirror" 87 yy_X_simpleCharacterOf) ∈ gW := gW_1 (i := 171) rfl rfl
theorem gw_173 : (Cond.instanceMethod yy_X_simpleCharacterOf) ∈ gW := gW_1 (i := 173) rfl rfl
theorem gw_174 : (Cond.code yy_X_simpleCharacterOf prog_1_method_31_code 5 (Option.some FieldType.int)) ∈ gW := gW_1 (i := 174) rfl rfl
theorem gw_177 : (Cond.instanceMethod yy_E_simpleLength) ∈ gW := gW_1 (i := 177) rfl rfl
theorem gw_178 : (Cond.code yy_E_simpleLength prog_2_method_6_code 1 (Option.some FieldType.int)) ∈ gW := gW_1 (i := 178) rfl rfl
theorem gw_179 : (Cond.methodLink "ClassObjectMirrorLaw" 44 yy_X_make) ∈ gW := gW_1 (i := 179) rfl rfl
theorem gw_180 : (Cond.instanceMethod yy_X_make) ∈ gW := gW_1 (i := 180) rfl rfl
theorem gw_181 : (Cond.selects "ClassObjectMirror" yy_X_make yy_X_make) ∈ gW := gW_1 (i := 181) rfl rfl
theorem gw_182 : (Cond.code yy_X_make prog_1_method_9_code 3 (Option.some FieldType.int)) ∈ gW := gW_1 (i := 182) rfl rfl
theorem gw_183 : (Cond.methodLink "ClassObjectMirror" 91 yy_X_newObject) ∈ gW := gW_1 (i := 183) rfl rfl
theorem gw_185 : (Cond.instanceMethod yy_X_newObject) ∈ gW := gW_1 (i := 185) rfl rfl
theorem gw_186 : (Cond.code yy_X_newObject prog_1_method_40_code 4 (Option.some FieldType.int)) ∈ gW := gW_1 (i := 186) rfl rfl
theorem gw_187 : (Cond.methodLink "ClassObjectMirror" 94 yy_J_floorMod) ∈ gW := gW_1 (i := 187) rfl rfl
theorem gw_188 : (Cond.static yy_J_floorMod) ∈ gW := gW_1 (i := 188) rfl rfl
theorem gw_189 : (Cond.code yy_J_floorMod prog_6_method_50_code 3 (Option.some FieldType.int)) ∈ gW := gW_1 (i := 189) rfl rfl
theorem gw_190 : (Cond.methodLink "ClassObjectMirror" 99 yy_X_colorConstant) ∈ gW := gW_1 (i := 190) rfl rfl
theorem gw_192 : (Cond.instanceMethod yy_X_colorConstant) ∈ gW := gW_1 (i := 192) rfl rfl
theorem gw_193 : (Cond.code yy_X_colorConstant prog_1_method_42_code 3 (Option.some FieldType.int)) ∈ gW := gW_1 (i := 193) rfl rfl
theorem gw_194 : (Cond.methodLink "ClassObjectMirrorLaw" 48 yy_X_makeArray) ∈ gW := gW_1 (i := 194) rfl rfl
theorem gw_195 : (Cond.instanceMethod yy_X_makeArray) ∈ gW := gW_1 (i := 195) rfl rfl
theorem gw_196 : (Cond.selects "ClassObjectMirror" yy_X_makeArray yy_X_makeArray) ∈ gW := gW_1 (i := 196) rfl rfl
theorem gw_197 : (Cond.code yy_X_makeArray prog_1_method_10_code 4 (Option.some FieldType.int)) ∈ gW := gW_1 (i := 197) rfl rfl
theorem gw_198 : (Cond.methodLink "ClassObjectMirror" 102 yy_X_newArray) ∈ gW := gW_1 (i := 198) rfl rfl
theorem gw_200 : (Cond.instanceMethod yy_X_newArray) ∈ gW := gW_1 (i := 200) rfl rfl
theorem gw_201 : (Cond.code yy_X_newArray prog_1_method_41_code 7 (Option.some FieldType.int)) ∈ gW := gW_1 (i := 201) rfl rfl
theorem gw_202 : (Cond.methodLink "ClassObjectMirror" 167 yy_X_isBase) ∈ gW := gW_1 (i := 202) rfl rfl
theorem gw_203 : (Cond.static yy_X_isBase) ∈ gW := gW_1 (i := 203) rfl rfl
theorem gw_204 : (Cond.code yy_X_isBase prog_1_method_24_code 1 (Option.some FieldType.boolean)) ∈ gW := gW_1 (i := 204) rfl rfl
theorem gw_205 : (Cond.constantLong "ClassObjectMirror" 170 (-7 : Int64)) ∈ gW := gW_1 (i := 205) rfl rfl
theorem gw_206 : (Cond.methodLink "ClassObjectMirror" 120 yy_X_placeOf) ∈ gW := gW_1 (i := 206) rfl rfl
theorem gw_207 : (Cond.static yy_X_placeOf) ∈ gW := gW_1 (i := 207) rfl rfl
theorem gw_208 : (Cond.code yy_X_placeOf prog_1_method_39_code 2 (Option.some FieldType.int)) ∈ gW := gW_1 (i := 208) rfl rfl
theorem gw_209 : (Cond.methodLink "ClassObjectMirrorLaw" 52 yy_X_classOf) ∈ gW := gW_1 (i := 209) rfl rfl
theorem gw_210 : (Cond.instanceMethod yy_X_classOf) ∈ gW := gW_1 (i := 210) rfl rfl
theorem gw_211 : (Cond.selects "ClassObjectMirror" yy_X_classOf yy_X_classOf) ∈ gW := gW_1 (i := 211) rfl rfl
theorem gw_212 : (Cond.code yy_X_classOf prog_1_method_11_code 2 (Option.some FieldType.int)) ∈ gW := gW_1 (i := 212) rfl rfl
theorem gw_213 : (Cond.methodLink "ClassObjectMirror" 105 yy_X_isObject) ∈ gW := gW_1 (i := 213) rfl rfl
theorem gw_215 : (Cond.instanceMethod yy_X_isObject) ∈ gW := gW_1 (i := 215) rfl rfl
theorem gw_216 : (Cond.code yy_X_isObject prog_1_method_32_code 2 (Option.some FieldType.boolean)) ∈ gW := gW_1 (i := 216) rfl rfl
theorem gw_217 : (Cond.methodLink "ClassObjectMirrorLaw" 56 yy_X_instance) ∈ gW := gW_1 (i := 217) rfl rfl
theorem gw_218 : (Cond.instanceMethod yy_X_instance) ∈ gW := gW_1 (i := 218) rfl rfl
theorem gw_219 : (Cond.selects "ClassObjectMirror" yy_X_instance yy_X_instance) ∈ gW := gW_1 (i := 219) rfl rfl
theorem gw_220 : (Cond.code yy_X_instance prog_1_method_12_code 3 (Option.some FieldType.int)) ∈ gW := gW_1 (i := 220) rfl rfl
theorem gw_221 : (Cond.methodLink "ClassObjectMirror" 108 yy_X_isInstance) ∈ gW := gW_1 (i := 221) rfl rfl
theorem gw_223 : (Cond.instanceMethod yy_X_isInstance) ∈ gW := gW_1 (i := 223) rfl rfl
theorem gw_224 : (Cond.code yy_X_isInstance prog_1_method_37_code 3 (Option.some FieldType.boolean)) ∈ gW := gW_1 (i := 224) rfl rfl
theorem gw_225 : (Cond.methodLink "ClassObjectMirrorLaw" 60 yy_X_cast) ∈ gW := gW_1 (i := 225) rfl rfl
theorem gw_226 : (Cond.instanceMethod yy_X_cast) ∈ gW := gW_1 (i := 226) rfl rfl
theorem gw_227 : (Cond.selects "ClassObjectMirror" yy_X_cast yy_X_cast) ∈ gW := gW_1 (i := 227) rfl rfl
theorem gw_228 : (Cond.code yy_X_cast prog_1_method_13_code 3 (Option.some FieldType.int)) ∈ gW := gW_1 (i := 228) rfl rfl
theorem gw_229 : (Cond.methodLink "ClassObjectMirrorLaw" 64 yy_X_store) ∈ gW := gW_1 (i := 229) rfl rfl
theorem gw_230 : (Cond.instanceMethod yy_X_store) ∈ gW := gW_1 (i := 230) rfl rfl
theorem gw_231 : (Cond.selects "ClassObjectMirror" yy_X_store yy_X_store) ∈ gW := gW_1 (i := 231) rfl rfl
theorem gw_232 : (Cond.code yy_X_store prog_1_method_14_code 6 (Option.some FieldType.int)) ∈ gW := gW_1 (i := 232) rfl rfl
theorem gw_233 : (Cond.methodLink "ClassObjectMirror" 111 yy_X_isArrayOfObjects) ∈ gW := gW_1 (i := 233) rfl rfl
theorem gw_235 : (Cond.instanceMethod yy_X_isArrayOfObjects) ∈ gW := gW_1 (i := 235) rfl rfl
theorem gw_236 : (Cond.code yy_X_isArrayOfObjects prog_1_method_35_code 2 (Option.some FieldType.boolean)) ∈ gW := gW_1 (i := 236) rfl rfl
theorem gw_237 : (Cond.methodLink "ClassObjectMirror" 132 yy_X_isArray) ∈ gW := gW_1 (i := 237) rfl rfl
theorem gw_239 : (Cond.instanceMethod yy_X_isArray) ∈ gW := gW_1 (i := 239) rfl rfl
theorem gw_240 : (Cond.code yy_X_isArray prog_1_method_33_code 2 (Option.some FieldType.boolean)) ∈ gW := gW_2 (i := 0) rfl rfl
theorem gw_241 : (Cond.methodLink "ClassObjectMirror" 117 yy_X_componentOfArray) ∈ gW := gW_2 (i := 1) rfl rfl
theorem gw_243 : (Cond.instanceMethod yy_X_componentOfArray) ∈ gW := gW_2 (i := 3) rfl rfl
theorem gw_244 : (Cond.code yy_X_componentOfArray prog_1_method_36_code 2 (Option.some FieldType.int)) ∈ gW := gW_2 (i := 4) rfl rfl
theorem gw_245 : (Cond.methodLink "ClassObjectMirror" 114 yy_X_isIndex) ∈ gW := gW_2 (i := 5) rfl rfl
theorem gw_247 : (Cond.instanceMethod yy_X_isIndex) ∈ gW := gW_2 (i := 7) rfl rfl
theorem gw_248 : (Cond.code yy_X_isIndex prog_1_method_38_code 3 (Option.some FieldType.boolean)) ∈ gW := gW_2 (i := 8) rfl rfl
theorem gw_249 : (Cond.methodLink "ClassObjectMirrorLaw" 68 yy_X_load) ∈ gW := gW_2 (i := 9) rfl rfl
theorem gw_250 : (Cond.instanceMethod yy_X_load) ∈ gW := gW_2 (i := 10) rfl rfl
theorem gw_251 : (Cond.selects "ClassObjectMirror" yy_X_load yy_X_load) ∈ gW := gW_2 (i := 11) rfl rfl
theorem gw_252 : (Cond.code yy_X_load prog_1_method_15_code 3 (Option.some FieldType.int)) ∈ gW := gW_2 (i := 12) rfl rfl
theorem gw_253 : (Cond.methodLink "ClassObjectMirrorLaw" 72 yy_X_put) ∈ gW := gW_2 (i := 13) rfl rfl
theorem gw_254 : (Cond.instanceMethod yy_X_put) ∈ gW := gW_2 (i := 14) rfl rfl
theorem gw_255 : (Cond.selects "ClassObjectMirror" yy_X_put yy_X_put) ∈ gW := gW_2 (i := 15) rfl rfl
theorem gw_256 : (Cond.code yy_X_put prog_1_method_16_code 4 (Option.some FieldType.int)) ∈ gW := gW_2 (i := 16) rfl rfl
theorem gw_257 : (Cond.methodLink "ClassObjectMirror" 123 yy_X_isArrayOfBases) ∈ gW := gW_2 (i := 17) rfl rfl
theorem gw_259 : (Cond.instanceMethod yy_X_isArrayOfBases) ∈ gW := gW_2 (i := 19) rfl rfl
theorem gw_260 : (Cond.code yy_X_isArrayOfBases prog_1_method_34_code 2 (Option.some FieldType.boolean)) ∈ gW := gW_2 (i := 20) rfl rfl
theorem gw_261 : (Cond.methodLink "ClassObjectMirror" 126 yy_X_asBaseHasIt) ∈ gW := gW_2 (i := 21) rfl rfl
theorem gw_262 : (Cond.static yy_X_asBaseHasIt) ∈ gW := gW_2 (i := 22) rfl rfl
theorem gw_263 : (Cond.code yy_X_asBaseHasIt prog_1_method_43_code 2 (Option.some FieldType.long)) ∈ gW := gW_2 (i := 23) rfl rfl
theorem gw_264 : (Cond.methodLink "ClassObjectMirrorLaw" 76 yy_X_get) ∈ gW := gW_2 (i := 24) rfl rfl
theorem gw_265 : (Cond.instanceMethod yy_X_get) ∈ gW := gW_2 (i := 25) rfl rfl
theorem gw_266 : (Cond.selects "ClassObjectMirror" yy_X_get yy_X_get) ∈ gW := gW_2 (i := 26) rfl rfl
theorem gw_267 : (Cond.code yy_X_get prog_1_method_17_code 3 (Option.some FieldType.long)) ∈ gW := gW_2 (i := 27) rfl rfl
theorem gw_268 : (Cond.constantLong "ClassObjectMirror" 130 (10000000000 : Int64)) ∈ gW := gW_2 (i := 28) rfl rfl
theorem gw_269 : (Cond.methodLink "ClassObjectMirrorLaw" 81 yy_X_length) ∈ gW := gW_2 (i := 29) rfl rfl
theorem gw_270 : (Cond.instanceMethod yy_X_length) ∈ gW := gW_2 (i := 30) rfl rfl
theorem gw_271 : (Cond.selects "ClassObjectMirror" yy_X_length yy_X_length) ∈ gW := gW_2 (i := 31) rfl rfl
theorem gw_272 : (Cond.code yy_X_length prog_1_method_18_code 2 (Option.some FieldType.int)) ∈ gW := gW_2 (i := 32) rfl rfl
theorem gw_273 : (Cond.methodLink "ClassObjectMirrorLaw" 85 yy_X_copy) ∈ gW := gW_2 (i := 33) rfl rfl
theorem gw_274 : (Cond.instanceMethod yy_X_copy) ∈ gW := gW_2 (i := 34) rfl rfl
theorem gw_275 : (Cond.selects "ClassObjectMirror" yy_X_copy yy_X_copy) ∈ gW := gW_2 (i := 35) rfl rfl
theorem gw_276 : (Cond.code yy_X_copy prog_1_method_19_code 3 (Option.some FieldType.int)) ∈ gW := gW_2 (i := 36) rfl rfl
theorem gw_277 : (Cond.methodLink "ClassObjectMirror" 135 ⟨"java/lang/System", "arraycopy", "(Ljava/lang/Object;ILjava/lang/Object;II)V"⟩) ∈ gW := gW_2 (i := 37) rfl rfl
theorem gw_278 : (Cond.static ⟨"java/lang/System", "arraycopy", "(Ljava/lang/Object;ILjava/lang/Object;II)V"⟩) ∈ gW := gW_2 (i := 38) rfl rfl
theorem gw_279 : (Cond.native ⟨"java/lang/System", "arraycopy", "(Ljava/lang/Object;ILjava/lang/Object;II)V"⟩) ∈ gW := gW_2 (i := 39) rfl rfl
theorem gw_280 : (Cond.methodLink "ClassObjectMirrorLaw" 89 yy_X_label) ∈ gW := gW_2 (i := 40) rfl rfl
theorem gw_281 : (Cond.instanceMethod yy_X_label) ∈ gW := gW_2 (i := 41) rfl rfl
theorem gw_282 : (Cond.selects "ClassObjectMirror" yy_X_label yy_X_label) ∈ gW := gW_2 (i := 42) rfl rfl
theorem gw_283 : (Cond.code yy_X_label prog_1_method_20_code 3 (Option.some FieldType.int)) ∈ gW := gW_2 (i := 43) rfl rfl
theorem gw_284 : (Cond.methodLink "ClassObjectMirrorLaw" 93 yy_X_count) ∈ gW := gW_2 (i := 44) rfl rfl
theorem gw_285 : (Cond.instanceMethod yy_X_count) ∈ gW := gW_2 (i := 45) rfl rfl
theorem gw_286 : (Cond.selects "ClassObjectMirror" yy_X_count yy_X_count) ∈ gW := gW_2 (i := 46) rfl rfl
theorem gw_287 : (Cond.code yy_X_count prog_1_method_21_code 2 (Option.some FieldType.int)) ∈ gW := gW_2 (i := 47) rfl rfl
theorem gw_288 : (Cond.classLink "ClassObjectMirrorLaw" 10 "ClassObjectMirrorModel") ∈ gW := gW_2 (i := 48) rfl rfl
theorem gw_289 : (Cond.instantiable "ClassObjectMirrorModel" 12) ∈ gW := gW_2 (i := 49) rfl rfl
theorem gw_290 : (Cond.methodLink "ClassObjectMirrorLaw" 12 yy_M_init) ∈ gW := gW_2 (i := 50) rfl rfl
theorem gw_291 : (Cond.instanceMethod yy_M_init) ∈ gW := gW_2 (i := 51) rfl rfl
theorem gw_292 : (Cond.code yy_M_init prog_4_method_1_code 1 (Option.none : Option FieldType)) ∈ gW := gW_2 (i := 52) rfl rfl
theorem gw_293 : (Cond.methodLink "ClassObjectMirrorModel" 1 yy_O_init) ∈ gW := gW_2 (i := 53) rfl rfl
theorem gw_294 : (Cond.constant "ClassObjectMirrorModel" 13 (49664 : Int32)) ∈ gW := gW_2 (i := 54) rfl rfl
theorem gw_295 : (Cond.constant "ClassObjectMirrorModel" 14 (123392 : Int32)) ∈ gW := gW_2 (i := 55) rfl rfl
theorem gw_296 : (Cond.constant "ClassObjectMirrorModel" 15 (180736 : Int32)) ∈ gW := gW_2 (i := 56) rfl rfl
theorem gw_297 : (Cond.constant "ClassObjectMirrorModel" 16 (443904 : Int32)) ∈ gW := gW_2 (i := 57) rfl rfl
theorem gw_298 : (Cond.constant "ClassObjectMirrorModel" 17 (543232 : Int32)) ∈ gW := gW_2 (i := 58) rfl rfl
theorem gw_299 : (Cond.constant "ClassObjectMirrorModel" 18 (1065472 : Int32)) ∈ gW := gW_2 (i := 59) rfl rfl
theorem gw_300 : (Cond.constant "ClassObjectMirrorModel" 19 (2097664 : Int32)) ∈ gW := gW_2 (i := 60) rfl rfl
theorem gw_301 : (Cond.fieldLink "ClassObjectMirrorModel" 7 "ClassObjectMirrorModel" "fixedMarks" "[I") ∈ gW := gW_2 (i := 61) rfl rfl
theorem gw_302 : (Cond.fieldLink "ClassObjectMirrorModel" 20 "ClassObjectMirrorModel" "fixedAbove" "[I") ∈ gW := gW_2 (i := 62) rfl rfl
theorem gw_303 : (Cond.fieldLink "ClassObjectMirrorModel" 23 "ClassObjectMirrorModel" "component" "[I") ∈ gW := gW_2 (i := 63) rfl rfl
theorem gw_304 : (Cond.fieldLink "ClassObjectMirrorModel" 26 "ClassObjectMirrorModel" "dims" "[I") ∈ gW := gW_2 (i := 64) rfl rfl
theorem gw_305 : (Cond.fieldLink "ClassObjectMirrorModel" 29 "ClassObjectMirrorModel" "types" "I") ∈ gW := gW_2 (i := 65) rfl rfl
theorem gw_306 : (Cond.fieldLink "ClassObjectMirrorModel" 33 "ClassObjectMirrorModel" "kind" "[I") ∈ gW := gW_2 (i := 66) rfl rfl
theorem gw_307 : (Cond.fieldLink "ClassObjectMirrorModel" 36 "ClassObjectMirrorModel" "size" "[I") ∈ gW := gW_2 (i := 67) rfl rfl
theorem gw_308 : (Cond.fieldLink "ClassObjectMirrorModel" 39 "ClassObjectMirrorModel" "value" "[I") ∈ gW := gW_2 (i := 68) rfl rfl
theorem gw_309 : (Cond.fieldLink "ClassObjectMirrorModel" 42 "ClassObjectMirrorModel" "cell" "[J") ∈ gW := gW_2 (i := 69) rfl rfl
theorem gw_310 : (Cond.fieldLink "ClassObjectMirrorModel" 49 "ClassObjectMirrorModel" "objects" "I") ∈ gW := gW_2 (i := 70) rfl rfl
theorem gw_311 : (Cond.fieldLink "ClassObjectMirrorModel" 46 "ClassObjectMirrorModel" "out" "[I") ∈ gW := gW_2 (i := 71) rfl rfl
theorem gw_312 : (Cond.fieldLink "ClassObjectMirrorModel" 74 "ClassObjectMirrorModel" "written" "I") ∈ gW := gW_2 (i := 72) rfl rfl
theorem gw_313 : (Cond.laysFinal "ClassObjectMirrorModel" "ClassObjectMirrorModel" "fixedMarks" "[I") ∈ gW := gW_2 (i := 73) rfl rfl
theorem gw_315 : (Cond.laysFinal "ClassObjectMirrorModel" "ClassObjectMirrorModel" "fixedAbove" "[I") ∈ gW := gW_2 (i := 75) rfl rfl
theorem gw_317 : (Cond.laysFinal "ClassObjectMirrorModel" "ClassObjectMirrorModel" "component" "[I") ∈ gW := gW_2 (i := 77) rfl rfl
theorem gw_319 : (Cond.laysFinal "ClassObjectMirrorModel" "ClassObjectMirrorModel" "dims" "[I") ∈ gW := gW_2 (i := 79) rfl rfl
theorem gw_321 : (Cond.lays "ClassObjectMirrorModel" "ClassObjectMirrorModel" "types" "I") ∈ gW := gW_2 (i := 81) rfl rfl
theorem gw_323 : (Cond.laysFinal "ClassObjectMirrorModel" "ClassObjectMirrorModel" "kind" "[I") ∈ gW := gW_2 (i := 83) rfl rfl
theorem gw_325 : (Cond.laysFinal "ClassObjectMirrorModel" "ClassObjectMirrorModel" "size" "[I") ∈ gW := gW_2 (i := 85) rfl rfl
theorem gw_327 : (Cond.laysFinal "ClassObjectMirrorModel" "ClassObjectMirrorModel" "value" "[I") ∈ gW := gW_2 (i := 87) rfl rfl
theorem gw_329 : (Cond.laysFinal "ClassObjectMirrorModel" "ClassObjectMirrorModel" "cell" "[J") ∈ gW := gW_2 (i := 89) rfl rfl
theorem gw_331 : (Cond.lays "ClassObjectMirrorModel" "ClassObjectMirrorModel" "objects" "I") ∈ gW := gW_2 (i := 91) rfl rfl
theorem gw_333 : (Cond.laysFinal "ClassObjectMirrorModel" "ClassObjectMirrorModel" "out" "[I") ∈ gW := gW_2 (i := 93) rfl rfl
theorem gw_335 : (Cond.lays "ClassObjectMirrorModel" "ClassObjectMirrorModel" "written" "I") ∈ gW := gW_2 (i := 95) rfl rfl
theorem gw_338 : (Cond.methodLink "ClassObjectMirrorLaw" 17 yy_M_arrayOf) ∈ gW := gW_2 (i := 98) rfl rfl
theorem gw_339 : (Cond.instanceMethod yy_M_arrayOf) ∈ gW := gW_2 (i := 99) rfl rfl
theorem gw_340 : (Cond.selects "ClassObjectMirrorModel" yy_M_arrayOf yy_M_arrayOf) ∈ gW := gW_2 (i := 100) rfl rfl
theorem gw_341 : (Cond.code yy_M_arrayOf prog_4_method_7_code 3 (Option.some FieldType.int)) ∈ gW := gW_2 (i := 101) rfl rfl
theorem gw_342 : (Cond.methodLink "ClassObjectMirrorModel" 52 yy_M_noType) ∈ gW := gW_2 (i := 102) rfl rfl
theorem gw_344 : (Cond.instanceMethod yy_M_noType) ∈ gW := gW_2 (i := 104) rfl rfl
theorem gw_345 : (Cond.code yy_M_noType prog_4_method_2_code 2 (Option.some FieldType.boolean)) ∈ gW := gW_2 (i := 105) rfl rfl
theorem gw_346 : (Cond.methodLink "ClassObjectMirrorModel" 56 yy_M_search) ∈ gW := gW_2 (i := 106) rfl rfl
theorem gw_348 : (Cond.instanceMethod yy_M_search) ∈ gW := gW_2 (i := 108) rfl rfl
theorem gw_349 : (Cond.code yy_M_search prog_4_method_5_code 3 (Option.some FieldType.int)) ∈ gW := gW_2 (i := 109) rfl rfl
theorem gw_350 : (Cond.methodLink "ClassObjectMirrorModel" 60 yy_M_enter) ∈ gW := gW_2 (i := 110) rfl rfl
theorem gw_352 : (Cond.instanceMethod yy_M_enter) ∈ gW := gW_2 (i := 112) rfl rfl
theorem gw_353 : (Cond.code yy_M_enter prog_4_method_6_code 3 (Option.none : Option FieldType)) ∈ gW := gW_2 (i := 113) rfl rfl
theorem gw_354 : (Cond.methodLink "ClassObjectMirrorLaw" 21 yy_M_component) ∈ gW := gW_2 (i := 114) rfl rfl
theorem gw_355 : (Cond.instanceMethod yy_M_component) ∈ gW := gW_2 (i := 115) rfl rfl
theorem gw_356 : (Cond.selects "ClassObjectMirrorModel" yy_M_component yy_M_component) ∈ gW := gW_2 (i := 116) rfl rfl
theorem gw_357 : (Cond.code yy_M_component prog_4_method_8_code 2 (Option.some FieldType.int)) ∈ gW := gW_2 (i := 117) rfl rfl
theorem gw_358 : (Cond.methodLink "ClassObjectMirrorLaw" 25 yy_M_dimensions) ∈ gW := gW_2 (i := 118) rfl rfl
theorem gw_359 : (Cond.instanceMethod yy_M_dimensions) ∈ gW := gW_2 (i := 119) rfl rfl
theorem gw_360 : (Cond.selects "ClassObjectMirrorModel" yy_M_dimensions yy_M_dimensions) ∈ gW := gW_2 (i := 120) rfl rfl
theorem gw_361 : (Cond.code yy_M_dimensions prog_4_method_9_code 2 (Option.some FieldType.int)) ∈ gW := gW_2 (i := 121) rfl rfl
theorem gw_362 : (Cond.methodLink "ClassObjectMirrorLaw" 30 yy_M_supertype) ∈ gW := gW_2 (i := 122) rfl rfl
theorem gw_363 : (Cond.instanceMethod yy_M_supertype) ∈ gW := gW_2 (i := 123) rfl rfl
theorem gw_364 : (Cond.selects "ClassObjectMirrorModel" yy_M_supertype yy_M_supertype) ∈ gW := gW_2 (i := 124) rfl rfl
theorem gw_365 : (Cond.code yy_M_supertype prog_4_method_11_code 3 (Option.some FieldType.int)) ∈ gW := gW_2 (i := 125) rfl rfl
theorem gw_366 : (Cond.methodLink "ClassObjectMirrorModel" 67 yy_M_above) ∈ gW := gW_2 (i := 126) rfl rfl
theorem gw_368 : (Cond.instanceMethod yy_M_above) ∈ gW := gW_2 (i := 128) rfl rfl
theorem gw_369 : (Cond.code yy_M_above prog_4_method_10_code 6 (Option.some FieldType.boolean)) ∈ gW := gW_2 (i := 129) rfl rfl
theorem gw_370 : (Cond.methodLink "ClassObjectMirrorModel" 64 yy_M_base) ∈ gW := gW_2 (i := 130) rfl rfl
theorem gw_371 : (Cond.static yy_M_base) ∈ gW := gW_2 (i := 131) rfl rfl
theorem gw_372 : (Cond.code yy_M_base prog_4_method_4_code 1 (Option.some FieldType.boolean)) ∈ gW := gW_2 (i := 132) rfl rfl
theorem gw_373 : (Cond.methodLink "ClassObjectMirrorLaw" 34 yy_M_marks) ∈ gW := gW_2 (i := 133) rfl rfl
theorem gw_374 : (Cond.instanceMethod yy_M_marks) ∈ gW := gW_2 (i := 134) rfl rfl
theorem gw_375 : (Cond.selects "ClassObjectMirrorModel" yy_M_marks yy_M_marks) ∈ gW := gW_2 (i := 135) rfl rfl
theorem gw_376 : (Cond.code yy_M_marks prog_4_method_13_code 2 (Option.some FieldType.int)) ∈ gW := gW_2 (i := 136) rfl rfl
theorem gw_377 : (Cond.methodLink "ClassObjectMirrorModel" 71 yy_M_bottom) ∈ gW := gW_2 (i := 137) rfl rfl
theorem gw_379 : (Cond.instanceMethod yy_M_bottom) ∈ gW := gW_2 (i := 139) rfl rfl
theorem gw_380 : (Cond.code yy_M_bottom prog_4_method_12_code 3 (Option.some FieldType.int)) ∈ gW := gW_2 (i := 140) rfl rfl
theorem gw_381 : (Cond.methodLink "ClassObjectMirrorLaw" 38 yy_M_kinds) ∈ gW := gW_2 (i := 141) rfl rfl
theorem gw_382 : (Cond.instanceMethod yy_M_kinds) ∈ gW := gW_2 (i := 142) rfl rfl
theorem gw_383 : (Cond.selects "ClassObjectMirrorModel" yy_M_kinds yy_M_kinds) ∈ gW := gW_2 (i := 143) rfl rfl
theorem gw_384 : (Cond.code yy_M_kinds prog_4_method_14_code 3 (Option.some FieldType.int)) ∈ gW := gW_2 (i := 144) rfl rfl
theorem gw_385 : (Cond.methodLink "ClassObjectMirrorLaw" 43 yy_M_text) ∈ gW := gW_2 (i := 145) rfl rfl
theorem gw_386 : (Cond.instanceMethod yy_M_text) ∈ gW := gW_2 (i := 146) rfl rfl
theorem gw_387 : (Cond.selects "ClassObjectMirrorModel" yy_M_text yy_M_text) ∈ gW := gW_2 (i := 147) rfl rfl
theorem gw_388 : (Cond.code yy_M_text prog_4_method_21_code 5 (Option.some FieldType.int)) ∈ gW := gW_2 (i := 148) rfl rfl
theorem gw_389 : (Cond.methodLink "ClassObjectMirrorModel" 156 yy_M_describe) ∈ gW := gW_2 (i := 149) rfl rfl
theorem gw_391 : (Cond.instanceMethod yy_M_describe) ∈ gW := gW_2 (i := 151) rfl rfl
theorem gw_392 : (Cond.code yy_M_describe prog_4_method_20_code 6 (Option.none : Option FieldType)) ∈ gW := gW_2 (i := 152) rfl rfl
theorem gw_393 : (Cond.methodLink "ClassObjectMirrorModel" 79 yy_M_letter) ∈ gW := gW_2 (i := 153) rfl rfl
theorem gw_395 : (Cond.instanceMethod yy_M_letter) ∈ gW := gW_2 (i := 155) rfl rfl
theorem gw_396 : (Cond.code yy_M_letter prog_4_method_15_code 2 (Option.none : Option FieldType)) ∈ gW := gW_2 (i := 156) rfl rfl
theorem gw_397 : (Cond.methodLink "ClassObjectMirrorModel" 150 yy_M_code) ∈ gW := gW_2 (i := 157) rfl rfl
theorem gw_398 : (Cond.static yy_M_code) ∈ gW := gW_2 (i := 158) rfl rfl
theorem gw_399 : (Cond.code yy_M_code prog_4_method_19_code 1 (Option.some FieldType.int)) ∈ gW := gW_2 (i := 159) rfl rfl
theorem gw_400 : (Cond.methodLink "ClassObjectMirrorModel" 153 yy_M_name) ∈ gW := gW_2 (i := 160) rfl rfl
theorem gw_402 : (Cond.instanceMethod yy_M_name) ∈ gW := gW_2 (i := 162) rfl rfl
theorem gw_403 : (Cond.code yy_M_name prog_4_method_18_code 2 (Option.none : Option FieldType)) ∈ gW := gW_2 (i := 163) rfl rfl
theorem gw_404 : (Cond.constantLong "ClassObjectMirrorModel" 135 (28659527854 : Int64)) ∈ gW := gW_2 (i := 164) rfl rfl
theorem gw_405 : (Cond.methodLink "ClassObjectMirrorModel" 85 yy_M_word) ∈ gW := gW_2 (i := 165) rfl rfl
theorem gw_407 : (Cond.instanceMethod yy_M_word) ∈ gW := gW_2 (i := 167) rfl rfl
theorem gw_408 : (Cond.code yy_M_word prog_4_method_16_code 5 (Option.none : Option FieldType)) ∈ gW := gW_2 (i := 168) rfl rfl
theorem gw_409 : (Cond.constantLong "ClassObjectMirrorModel" 77 (128 : Int64)) ∈ gW := gW_2 (i := 169) rfl rfl
theorem gw_410 : (Cond.constantLong "ClassObjectMirrorModel" 137 (13551 : Int64)) ∈ gW := gW_2 (i := 170) rfl rfl
theorem gw_411 : (Cond.constantLong "ClassObjectMirrorModel" 139 (228095847 : Int64)) ∈ gW := gW_2 (i := 171) rfl rfl
theorem gw_412 : (Cond.constantLong "ClassObjectMirrorModel" 141 (38195999909605738 : Int64)) ∈ gW := gW_2 (i := 172) rfl rfl
theorem gw_413 : (Cond.constantLong "ClassObjectMirrorModel" 143 (57297358521416047 : Int64)) ∈ gW := gW_2 (i := 173) rfl rfl
theorem gw_414 : (Cond.constantLong "ClassObjectMirrorModel" 145 (14628 : Int64)) ∈ gW := gW_2 (i := 174) rfl rfl
theorem gw_415 : (Cond.methodLink "ClassObjectMirrorModel" 147 yy_M_simple) ∈ gW := gW_2 (i := 175) rfl rfl
theorem gw_417 : (Cond.instanceMethod yy_M_simple) ∈ gW := gW_2 (i := 177) rfl rfl
theorem gw_418 : (Cond.code yy_M_simple prog_4_method_17_code 2 (Option.none : Option FieldType)) ∈ gW := gW_2 (i := 178) rfl rfl
theorem gw_419 : (Cond.constantLong "ClassObjectMirrorModel" 83 (434852513542382 : Int64)) ∈ gW := gW_2 (i := 179) rfl rfl
theorem gw_420 : (Cond.constantLong "ClassObjectMirrorModel" 89 (207518309 : Int64)) ∈ gW := gW_2 (i := 180) rfl rfl
theorem gw_421 : (Cond.constantLong "ClassObjectMirrorModel" 91 (209334514 : Int64)) ∈ gW := gW_2 (i := 181) rfl rfl
theorem gw_422 : (Cond.constantLong "ClassObjectMirrorModel" 93 (31090014580 : Int64)) ∈ gW := gW_2 (i := 182) rfl rfl
theorem gw_423 : (Cond.constantLong "ClassObjectMirrorModel" 95 (1734516 : Int64)) ∈ gW := gW_2 (i := 183) rfl rfl
theorem gw_424 : (Cond.constantLong "ClassObjectMirrorModel" 97 (228325223 : Int64)) ∈ gW := gW_2 (i := 184) rfl rfl
theorem gw_425 : (Cond.constantLong "ClassObjectMirrorModel" 99 (27608740084 : Int64)) ∈ gW := gW_2 (i := 185) rfl rfl
theorem gw_426 : (Cond.constantLong "ClassObjectMirrorModel" 101 (3466017158757 : Int64)) ∈ gW := gW_2 (i := 186) rfl rfl
theorem gw_427 : (Cond.constantLong "ClassObjectMirrorModel" 103 (249296100 : Int64)) ∈ gW := gW_2 (i := 187) rfl rfl
theorem gw_428 : (Cond.constantLong "ClassObjectMirrorModel" 105 (2740949971444 : Int64)) ∈ gW := gW_2 (i := 188) rfl rfl
theorem gw_429 : (Cond.constantLong "ClassObjectMirrorModel" 107 (38196479574700396 : Int64)) ∈ gW := gW_2 (i := 189) rfl rfl
theorem gw_430 : (Cond.constantLong "ClassObjectMirrorModel" 109 (101 : Int64)) ∈ gW := gW_2 (i := 190) rfl rfl
theorem gw_431 : (Cond.constantLong "ClassObjectMirrorModel" 111 (47172994232694010 : Int64)) ∈ gW := gW_2 (i := 191) rfl rfl
theorem gw_432 : (Cond.constantLong "ClassObjectMirrorModel" 113 (205043301 : Int64)) ∈ gW := gW_2 (i := 192) rfl rfl
theorem gw_433 : (Cond.constantLong "ClassObjectMirrorModel" 115 (2883237607271 : Int64)) ∈ gW := gW_2 (i := 193) rfl rfl
theorem gw_434 : (Cond.constantLong "ClassObjectMirrorModel" 117 (22499850341 : Int64)) ∈ gW := gW_2 (i := 194) rfl rfl
theorem gw_435 : (Cond.constantLong "ClassObjectMirrorModel" 119 (21143188196 : Int64)) ∈ gW := gW_2 (i := 195) rfl rfl
theorem gw_436 : (Cond.constantLong "ClassObjectMirrorModel" 121 (140016101 : Int64)) ∈ gW := gW_2 (i := 196) rfl rfl
theorem gw_437 : (Cond.constantLong "ClassObjectMirrorModel" 123 (2330528904805 : Int64)) ∈ gW := gW_2 (i := 197) rfl rfl
theorem gw_438 : (Cond.constantLong "ClassObjectMirrorModel" 125 (2882438461797 : Int64)) ∈ gW := gW_2 (i := 198) rfl rfl
theorem gw_439 : (Cond.constantLong "ClassObjectMirrorModel" 127 (177895013 : Int64)) ∈ gW := gW_2 (i := 199) rfl rfl
theorem gw_440 : (Cond.constantLong "ClassObjectMirrorModel" 129 (18219743218 : Int64)) ∈ gW := gW_2 (i := 200) rfl rfl
theorem gw_441 : (Cond.constantLong "ClassObjectMirrorModel" 131 (21709354868 : Int64)) ∈ gW := gW_2 (i := 201) rfl rfl
theorem gw_442 : (Cond.constantLong "ClassObjectMirrorModel" 133 (2503925641970 : Int64)) ∈ gW := gW_2 (i := 202) rfl rfl
theorem gw_443 : (Cond.methodLink "ClassObjectMirrorLaw" 47 yy_M_make) ∈ gW := gW_2 (i := 203) rfl rfl
theorem gw_444 : (Cond.instanceMethod yy_M_make) ∈ gW := gW_2 (i := 204) rfl rfl
theorem gw_445 : (Cond.selects "ClassObjectMirrorModel" yy_M_make yy_M_make) ∈ gW := gW_2 (i := 205) rfl rfl
theorem gw_446 : (Cond.code yy_M_make prog_4_method_23_code 6 (Option.some FieldType.int)) ∈ gW := gW_2 (i := 206) rfl rfl
theorem gw_447 : (Cond.methodLink "ClassObjectMirrorModel" 162 yy_M_create) ∈ gW := gW_2 (i := 207) rfl rfl
theorem gw_449 : (Cond.instanceMethod yy_M_create) ∈ gW := gW_2 (i := 209) rfl rfl
theorem gw_450 : (Cond.code yy_M_create prog_4_method_22_code 6 (Option.some FieldType.int)) ∈ gW := gW_2 (i := 210) rfl rfl
theorem gw_451 : (Cond.constantLong "ClassObjectMirrorModel" 160 (-7 : Int64)) ∈ gW := gW_2 (i := 211) rfl rfl
theorem gw_452 : (Cond.methodLink "ClassObjectMirrorLaw" 51 yy_M_makeArray) ∈ gW := gW_2 (i := 212) rfl rfl
theorem gw_453 : (Cond.instanceMethod yy_M_makeArray) ∈ gW := gW_2 (i := 213) rfl rfl
theorem gw_454 : (Cond.selects "ClassObjectMirrorModel" yy_M_makeArray yy_M_makeArray) ∈ gW := gW_2 (i := 214) rfl rfl
theorem gw_455 : (Cond.code yy_M_makeArray prog_4_method_24_code 4 (Option.some FieldType.int)) ∈ gW := gW_2 (i := 215) rfl rfl
theorem gw_456 : (Cond.methodLink "ClassObjectMirrorLaw" 55 yy_M_classOf) ∈ gW := gW_2 (i := 216) rfl rfl
theorem gw_457 : (Cond.instanceMethod yy_M_classOf) ∈ gW := gW_2 (i := 217) rfl rfl
theorem gw_458 : (Cond.selects "ClassObjectMirrorModel" yy_M_classOf yy_M_classOf) ∈ gW := gW_2 (i := 218) rfl rfl
theorem gw_459 : (Cond.code yy_M_classOf prog_4_method_25_code 2 (Option.some FieldType.int)) ∈ gW := gW_2 (i := 219) rfl rfl
theorem gw_460 : (Cond.methodLink "ClassObjectMirrorModel" 166 yy_M_noObject) ∈ gW := gW_2 (i := 220) rfl rfl
theorem gw_462 : (Cond.instanceMethod yy_M_noObject) ∈ gW := gW_2 (i := 222) rfl rfl
theorem gw_463 : (Cond.code yy_M_noObject prog_4_method_3_code 2 (Option.some FieldType.boolean)) ∈ gW := gW_2 (i := 223) rfl rfl
theorem gw_464 : (Cond.methodLink "ClassObjectMirrorLaw" 59 yy_M_instance) ∈ gW := gW_2 (i := 224) rfl rfl
theorem gw_465 : (Cond.instanceMethod yy_M_instance) ∈ gW := gW_2 (i := 225) rfl rfl
theorem gw_466 : (Cond.selects "ClassObjectMirrorModel" yy_M_instance yy_M_instance) ∈ gW := gW_2 (i := 226) rfl rfl
theorem gw_467 : (Cond.code yy_M_instance prog_4_method_26_code 3 (Option.some FieldType.int)) ∈ gW := gW_2 (i := 227) rfl rfl
theorem gw_468 : (Cond.methodLink "ClassObjectMirrorLaw" 63 yy_M_cast) ∈ gW := gW_2 (i := 228) rfl rfl
theorem gw_469 : (Cond.instanceMethod yy_M_cast) ∈ gW := gW_2 (i := 229) rfl rfl
theorem gw_470 : (Cond.selects "ClassObjectMirrorModel" yy_M_cast yy_M_cast) ∈ gW := gW_2 (i := 230) rfl rfl
theorem gw_471 : (Cond.code yy_M_cast prog_4_method_27_code 3 (Option.some FieldType.int)) ∈ gW := gW_2 (i := 231) rfl rfl
theorem gw_472 : (Cond.methodLink "ClassObjectMirrorLaw" 67 yy_M_store) ∈ gW := gW_2 (i := 232) rfl rfl
theorem gw_473 : (Cond.instanceMethod yy_M_store) ∈ gW := gW_2 (i := 233) rfl rfl
theorem gw_474 : (Cond.selects "ClassObjectMirrorModel" yy_M_store yy_M_store) ∈ gW := gW_2 (i := 234) rfl rfl
theorem gw_475 : (Cond.code yy_M_store prog_4_method_30_code 5 (Option.some FieldType.int)) ∈ gW := gW_2 (i := 235) rfl rfl
theorem gw_476 : (Cond.methodLink "ClassObjectMirrorModel" 169 yy_M_array) ∈ gW := gW_2 (i := 236) rfl rfl
theorem gw_478 : (Cond.instanceMethod yy_M_array) ∈ gW := gW_2 (i := 238) rfl rfl
theorem gw_479 : (Cond.code yy_M_array prog_4_method_28_code 2 (Option.some FieldType.int)) ∈ gW := gW_2 (i := 239) rfl rfl
theorem gw_480 : (Cond.methodLink "ClassObjectMirrorModel" 172 yy_M_outside) ∈ gW := gW_3 (i := 0) rfl rfl
theorem gw_482 : (Cond.instanceMethod yy_M_outside) ∈ gW := gW_3 (i := 2) rfl rfl
theorem gw_483 : (Cond.code yy_M_outside prog_4_method_29_code 3 (Option.some FieldType.boolean)) ∈ gW := gW_3 (i := 3) rfl rfl
theorem gw_484 : (Cond.methodLink "ClassObjectMirrorLaw" 71 yy_M_load) ∈ gW := gW_3 (i := 4) rfl rfl
theorem gw_485 : (Cond.instanceMethod yy_M_load) ∈ gW := gW_3 (i := 5) rfl rfl
theorem gw_486 : (Cond.selects "ClassObjectMirrorModel" yy_M_load yy_M_load) ∈ gW := gW_3 (i := 6) rfl rfl
theorem gw_487 : (Cond.code yy_M_load prog_4_method_31_code 3 (Option.some FieldType.int)) ∈ gW := gW_3 (i := 7) rfl rfl
theorem gw_488 : (Cond.methodLink "ClassObjectMirrorLaw" 75 yy_M_put) ∈ gW := gW_3 (i := 8) rfl rfl
theorem gw_489 : (Cond.instanceMethod yy_M_put) ∈ gW := gW_3 (i := 9) rfl rfl
theorem gw_490 : (Cond.selects "ClassObjectMirrorModel" yy_M_put yy_M_put) ∈ gW := gW_3 (i := 10) rfl rfl
theorem gw_491 : (Cond.code yy_M_put prog_4_method_34_code 4 (Option.some FieldType.int)) ∈ gW := gW_3 (i := 11) rfl rfl
theorem gw_492 : (Cond.methodLink "ClassObjectMirrorModel" 184 yy_M_as) ∈ gW := gW_3 (i := 12) rfl rfl
theorem gw_493 : (Cond.static yy_M_as) ∈ gW := gW_3 (i := 13) rfl rfl
theorem gw_494 : (Cond.code yy_M_as prog_4_method_33_code 2 (Option.some FieldType.long)) ∈ gW := gW_3 (i := 14) rfl rfl
theorem gw_495 : (Cond.constant "ClassObjectMirrorModel" 179 (65535 : Int32)) ∈ gW := gW_3 (i := 15) rfl rfl
theorem gw_496 : (Cond.methodLink "ClassObjectMirrorModel" 180 yy_M_rounded) ∈ gW := gW_3 (i := 16) rfl rfl
theorem gw_497 : (Cond.static yy_M_rounded) ∈ gW := gW_3 (i := 17) rfl rfl
theorem gw_498 : (Cond.code yy_M_rounded prog_4_method_32_code 10 (Option.some FieldType.long)) ∈ gW := gW_3 (i := 18) rfl rfl
theorem gw_499 : (Cond.constantLong "ClassObjectMirrorModel" 175 (16777216 : Int64)) ∈ gW := gW_3 (i := 19) rfl rfl
theorem gw_500 : (Cond.constantLong "ClassObjectMirrorModel" 177 (2 : Int64)) ∈ gW := gW_3 (i := 20) rfl rfl
theorem gw_501 : (Cond.methodLink "ClassObjectMirrorLaw" 80 yy_M_get) ∈ gW := gW_3 (i := 21) rfl rfl
theorem gw_502 : (Cond.instanceMethod yy_M_get) ∈ gW := gW_3 (i := 22) rfl rfl
theorem gw_503 : (Cond.selects "ClassObjectMirrorModel" yy_M_get yy_M_get) ∈ gW := gW_3 (i := 23) rfl rfl
theorem gw_504 : (Cond.code yy_M_get prog_4_method_35_code 3 (Option.some FieldType.long)) ∈ gW := gW_3 (i := 24) rfl rfl
theorem gw_505 : (Cond.constantLong "ClassObjectMirrorModel" 188 (10000000000 : Int64)) ∈ gW := gW_3 (i := 25) rfl rfl
theorem gw_506 : (Cond.methodLink "ClassObjectMirrorLaw" 84 yy_M_length) ∈ gW := gW_3 (i := 26) rfl rfl
theorem gw_507 : (Cond.instanceMethod yy_M_length) ∈ gW := gW_3 (i := 27) rfl rfl
theorem gw_508 : (Cond.selects "ClassObjectMirrorModel" yy_M_length yy_M_length) ∈ gW := gW_3 (i := 28) rfl rfl
theorem gw_509 : (Cond.code yy_M_length prog_4_method_36_code 2 (Option.some FieldType.int)) ∈ gW := gW_3 (i := 29) rfl rfl
theorem gw_510 : (Cond.methodLink "ClassObjectMirrorLaw" 88 yy_M_copy) ∈ gW := gW_3 (i := 30) rfl rfl
theorem gw_511 : (Cond.instanceMethod yy_M_copy) ∈ gW := gW_3 (i := 31) rfl rfl
theorem gw_512 : (Cond.selects "ClassObjectMirrorModel" yy_M_copy yy_M_copy) ∈ gW := gW_3 (i := 32) rfl rfl
theorem gw_513 : (Cond.code yy_M_copy prog_4_method_37_code 4 (Option.some FieldType.int)) ∈ gW := gW_3 (i := 33) rfl rfl
theorem gw_514 : (Cond.methodLink "ClassObjectMirrorLaw" 92 yy_M_label) ∈ gW := gW_3 (i := 34) rfl rfl
theorem gw_515 : (Cond.instanceMethod yy_M_label) ∈ gW := gW_3 (i := 35) rfl rfl
theorem gw_516 : (Cond.selects "ClassObjectMirrorModel" yy_M_label yy_M_label) ∈ gW := gW_3 (i := 36) rfl rfl
theorem gw_517 : (Cond.code yy_M_label prog_4_method_38_code 4 (Option.some FieldType.int)) ∈ gW := gW_3 (i := 37) rfl rfl
theorem gw_518 : (Cond.methodLink "ClassObjectMirrorLaw" 96 yy_M_count) ∈ gW := gW_3 (i := 38) rfl rfl
theorem gw_519 : (Cond.instanceMethod yy_M_count) ∈ gW := gW_3 (i := 39) rfl rfl
theorem gw_520 : (Cond.selects "ClassObjectMirrorModel" yy_M_count yy_M_count) ∈ gW := gW_3 (i := 40) rfl rfl
theorem gw_521 : (Cond.code yy_M_count prog_4_method_39_code 2 (Option.some FieldType.int)) ∈ gW := gW_3 (i := 41) rfl rfl
theorem gw_525 : (Cond.fieldLink "ClassObjectMirror$FixedType" 99 "ClassObjectMirror$FixedType" "code" "Ljava/lang/String;") ∈ gW := gW_3 (i := 45) rfl rfl
theorem gw_526 : (Cond.fieldLink "java/lang/String" 9 "java/lang/String" "value" "[B") ∈ gW := gW_3 (i := 46) rfl rfl
theorem gw_527 : (Cond.fieldLink "java/lang/String" 15 "java/lang/String" "coder" "B") ∈ gW := gW_3 (i := 47) rfl rfl
theorem gw_528 : (Cond.fieldLink "ClassObjectMirror$FixedType" 91 "ClassObjectMirror$FixedType" "fullName" "Ljava/lang/String;") ∈ gW := gW_3 (i := 48) rfl rfl
theorem gw_530 : (Cond.fieldLink "ClassObjectMirror$FixedType" 95 "ClassObjectMirror$FixedType" "simpleStart" "I") ∈ gW := gW_3 (i := 50) rfl rfl
theorem gw_555 : (Cond.arrayClass FieldType.byte) ∈ gW := gW_3 (i := 75) rfl rfl
theorem gs_0 : Cond.selects "ClassObjectMirror" yy_X_isType yy_X_isType ∈ gW := gW_s1 (i := 0) rfl rfl
theorem gs_1 : Cond.selects "ClassObjectMirror" yy_X_canBeComponent yy_X_canBeComponent ∈ gW := gW_s1 (i := 1) rfl rfl
theorem gs_2 : Cond.selects "ClassObjectMirror" yy_X_arrayTypeFor yy_X_arrayTypeFor ∈ gW := gW_s1 (i := 2) rfl rfl
theorem gs_3 : Cond.selects "ClassObjectMirror" yy_X_isSupertype yy_X_isSupertype ∈ gW := gW_s1 (i := 3) rfl rfl
theorem gs_4 : Cond.selects "ClassObjectMirror" yy_X_codedCharacterOf yy_X_codedCharacterOf ∈ gW := gW_s1 (i := 4) rfl rfl
theorem gs_5 : Cond.selects "ClassObjectMirror$FixedType" yy_E_codedCharacter yy_E_codedCharacter ∈ gW := gW_s1 (i := 5) rfl rfl
theorem gs_6 : Cond.selects "ClassObjectMirror" yy_X_simpleCharacterOf yy_X_simpleCharacterOf ∈ gW := gW_s1 (i := 6) rfl rfl
theorem gs_7 : Cond.selects "ClassObjectMirror$FixedType" yy_E_simpleLength yy_E_simpleLength ∈ gW := gW_s1 (i := 7) rfl rfl
theorem gs_8 : Cond.selects "ClassObjectMirror" yy_X_newObject yy_X_newObject ∈ gW := gW_s1 (i := 8) rfl rfl
theorem gs_9 : Cond.selects "ClassObjectMirror" yy_X_colorConstant yy_X_colorConstant ∈ gW := gW_s1 (i := 9) rfl rfl
theorem gs_10 : Cond.selects "ClassObjectMirror" yy_X_newArray yy_X_newArray ∈ gW := gW_s1 (i := 10) rfl rfl
theorem gs_11 : Cond.selects "ClassObjectMirror" yy_X_isObject yy_X_isObject ∈ gW := gW_s1 (i := 11) rfl rfl
theorem gs_12 : Cond.selects "ClassObjectMirror" yy_X_isInstance yy_X_isInstance ∈ gW := gW_s1 (i := 12) rfl rfl
theorem gs_13 : Cond.selects "ClassObjectMirror" yy_X_isArrayOfObjects yy_X_isArrayOfObjects ∈ gW := gW_s1 (i := 13) rfl rfl
theorem gs_14 : Cond.selects "ClassObjectMirror" yy_X_isArray yy_X_isArray ∈ gW := gW_s1 (i := 14) rfl rfl
theorem gs_15 : Cond.selects "ClassObjectMirror" yy_X_componentOfArray yy_X_componentOfArray ∈ gW := gW_s1 (i := 15) rfl rfl
theorem gs_16 : Cond.selects "ClassObjectMirror" yy_X_isIndex yy_X_isIndex ∈ gW := gW_s2 (i := 0) rfl rfl
theorem gs_17 : Cond.selects "ClassObjectMirror" yy_X_isArrayOfBases yy_X_isArrayOfBases ∈ gW := gW_s2 (i := 1) rfl rfl
theorem gs_18 : Cond.selects "ClassObjectMirrorModel" yy_M_noType yy_M_noType ∈ gW := gW_s2 (i := 2) rfl rfl
theorem gs_19 : Cond.selects "ClassObjectMirrorModel" yy_M_search yy_M_search ∈ gW := gW_s2 (i := 3) rfl rfl
theorem gs_20 : Cond.selects "ClassObjectMirrorModel" yy_M_enter yy_M_enter ∈ gW := gW_s2 (i := 4) rfl rfl
theorem gs_21 : Cond.selects "ClassObjectMirrorModel" yy_M_above yy_M_above ∈ gW := gW_s2 (i := 5) rfl rfl
theorem gs_22 : Cond.selects "ClassObjectMirrorModel" yy_M_bottom yy_M_bottom ∈ gW := gW_s2 (i := 6) rfl rfl
theorem gs_23 : Cond.selects "ClassObjectMirrorModel" yy_M_describe yy_M_describe ∈ gW := gW_s2 (i := 7) rfl rfl
theorem gs_24 : Cond.selects "ClassObjectMirrorModel" yy_M_letter yy_M_letter ∈ gW := gW_s2 (i := 8) rfl rfl
theorem gs_25 : Cond.selects "ClassObjectMirrorModel" yy_M_name yy_M_name ∈ gW := gW_s2 (i := 9) rfl rfl
theorem gs_26 : Cond.selects "ClassObjectMirrorModel" yy_M_word yy_M_word ∈ gW := gW_s2 (i := 10) rfl rfl
theorem gs_27 : Cond.selects "ClassObjectMirrorModel" yy_M_simple yy_M_simple ∈ gW := gW_s2 (i := 11) rfl rfl
theorem gs_28 : Cond.selects "ClassObjectMirrorModel" yy_M_create yy_M_create ∈ gW := gW_s2 (i := 12) rfl rfl
theorem gs_29 : Cond.selects "ClassObjectMirrorModel" yy_M_noObject yy_M_noObject ∈ gW := gW_s2 (i := 13) rfl rfl
theorem gs_30 : Cond.selects "ClassObjectMirrorModel" yy_M_array yy_M_array ∈ gW := gW_s2 (i := 14) rfl rfl
theorem gs_31 : Cond.selects "ClassObjectMirrorModel" yy_M_outside yy_M_outside ∈ gW := gW_s2 (i := 15) rfl rfl
/-- a callee's words, of a virtual call -/
theorem gg_V {own C : String} {idx n : Nat} {y : MethodName} {b : ByteArray} {r : Option FieldType} (h1 : Cond.methodLink own idx y ∈ gW) (h2 : Cond.instanceMethod y ∈ gW) (h3 : Cond.selects C y y ∈ gW) (h4 : Cond.initialized C ∈ gW) (h5 : Cond.code y b n r ∈ gW) : GoodIn gW (wsV own idx C y (.code y b n r :: gW)) := by
  intro w h
  simp only [wsV, List.cons_append, List.nil_append, List.mem_cons] at h
  rcases h with rfl | rfl | rfl | rfl | rfl | h
  · exact gW_good _ h1
  · exact gW_good _ h2
  · exact gW_good _ h3
  · exact gW_good _ h4
  · exact gW_good _ h5
  · exact gW_good _ h
theorem gg_S {own : String} {idx n : Nat} {y : MethodName} {b : ByteArray} {r : Option FieldType} (h1 : Cond.methodLink own idx y ∈ gW) (h2 : Cond.static y ∈ gW) (h4 : Cond.initialized y.cls ∈ gW) (h5 : Cond.code y b n r ∈ gW) : GoodIn gW (va_wsS own idx y (.code y b n r :: gW)) := by
  intro w h
  simp only [va_wsS, List.cons_append, List.nil_append, List.mem_cons] at h
  rcases h with rfl | rfl | rfl | rfl | h
  · exact gW_good _ h1
  · exact gW_good _ h2
  · exact gW_good _ h4
  · exact gW_good _ h5
  · exact gW_good _ h
theorem gg_I {n : Nat} {y : MethodName} {b : ByteArray} {r : Option FieldType} (h5 : Cond.code y b n r ∈ gW) : GoodIn gW (.code y b n r :: gW) := by
  intro w h
  rcases List.mem_cons.mp h with rfl | h
  · exact gW_good _ h5
  · exact gW_good _ h
end
section
theorem dd_M_init_0 : decode bb_M_init 0 = .ok (.aload_n 0, 1) := by decide +kernel
theorem dd_M_init_1 : decode bb_M_init 1 = .ok (.invokespecial 1, 3) := by decide +kernel
theorem dd_M_init_4 : decode bb_M_init 4 = .ok (.aload_n 0, 1) := by decide +kernel
theorem dd_M_init_5 : decode bb_M_init 5 = .ok (.bipush 22, 2) := by decide +kernel
theorem dd_M_init_7 : decode bb_M_init 7 = .ok (.newarray .int, 2) := by decide +kernel
theorem dd_M_init_9 : decode bb_M_init 9 = .ok (.dup, 1) := by decide +kernel
theorem dd_M_init_10 : decode bb_M_init 10 = .ok (.iconst 0, 1) := by decide +kernel
theorem dd_M_init_11 : decode bb_M_init 11 = .ok (.sipush 1041, 3) := by decide +kernel
theorem dd_M_init_14 : decode bb_M_init 14 = .ok (.iastore, 1) := by decide +kernel
theorem dd_M_init_15 : decode bb_M_init 15 = .ok (.dup, 1) := by decide +kernel
theorem dd_M_init_16 : decode bb_M_init 16 = .ok (.iconst 1, 1) := by decide +kernel
theorem dd_M_init_17 : decode bb_M_init 17 = .ok (.sipush 1041, 3) := by decide +kernel
theorem dd_M_init_20 : decode bb_M_init 20 = .ok (.iastore, 1) := by decide +kernel
theorem dd_M_init_21 : decode bb_M_init 21 = .ok (.dup, 1) := by decide +kernel
theorem dd_M_init_22 : decode bb_M_init 22 = .ok (.iconst 2, 1) := by decide +kernel
theorem dd_M_init_23 : decode bb_M_init 23 = .ok (.sipush 1041, 3) := by decide +kernel
theorem dd_M_init_26 : decode bb_M_init 26 = .ok (.iastore, 1) := by decide +kernel
theorem dd_M_init_27 : decode bb_M_init 27 = .ok (.dup, 1) := by decide +kernel
theorem dd_M_init_28 : decode bb_M_init 28 = .ok (.iconst 3, 1) := by decide +kernel
theorem dd_M_init_29 : decode bb_M_init 29 = .ok (.sipush 1041, 3) := by decide +kernel
theorem dd_M_init_32 : decode bb_M_init 32 = .ok (.iastore, 1) := by decide +kernel
theorem dd_M_init_33 : decode bb_M_init 33 = .ok (.dup, 1) := by decide +kernel
theorem dd_M_init_34 : decode bb_M_init 34 = .ok (.iconst 4, 1) := by decide +kernel
theorem dd_M_init_35 : decode bb_M_init 35 = .ok (.sipush 1041, 3) := by decide +kernel
theorem dd_M_init_38 : decode bb_M_init 38 = .ok (.iastore, 1) := by decide +kernel
theorem dd_M_init_39 : decode bb_M_init 39 = .ok (.dup, 1) := by decide +kernel
theorem dd_M_init_40 : decode bb_M_init 40 = .ok (.iconst 5, 1) := by decide +kernel
theorem dd_M_init_41 : decode bb_M_init 41 = .ok (.sipush 1041, 3) := by decide +kernel
theorem dd_M_init_44 : decode bb_M_init 44 = .ok (.iastore, 1) := by decide +kernel
theorem dd_M_init_45 : decode bb_M_init 45 = .ok (.dup, 1) := by decide +kernel
theorem dd_M_init_46 : decode bb_M_init 46 = .ok (.bipush 6, 2) := by decide +kernel
theorem dd_M_init_48 : decode bb_M_init 48 = .ok (.sipush 1041, 3) := by decide +kernel
theorem dd_M_init_51 : decode bb_M_init 51 = .ok (.iastore, 1) := by decide +kernel
theorem dd_M_init_52 : decode bb_M_init 52 = .ok (.dup, 1) := by decide +kernel
theorem dd_M_init_53 : decode bb_M_init 53 = .ok (.bipush 7, 2) := by decide +kernel
theorem dd_M_init_55 : decode bb_M_init 55 = .ok (.sipush 1041, 3) := by decide +kernel
theorem dd_M_init_58 : decode bb_M_init 58 = .ok (.iastore, 1) := by decide +kernel
theorem dd_M_init_59 : decode bb_M_init 59 = .ok (.dup, 1) := by decide +kernel
theorem dd_M_init_60 : decode bb_M_init 60 = .ok (.bipush 8, 2) := by decide +kernel
theorem dd_M_init_62 : decode bb_M_init 62 = .ok (.sipush 1041, 3) := by decide +kernel
theorem dd_M_init_65 : decode bb_M_init 65 = .ok (.iastore, 1) := by decide +kernel
theorem dd_M_init_66 : decode bb_M_init 66 = .ok (.dup, 1) := by decide +kernel
theorem dd_M_init_67 : decode bb_M_init 67 = .ok (.bipush 9, 2) := by decide +kernel
theorem dd_M_init_69 : decode bb_M_init 69 = .ok (.iconst 1, 1) := by decide +kernel
theorem dd_M_init_70 : decode bb_M_init 70 = .ok (.iastore, 1) := by decide +kernel
theorem dd_M_init_71 : decode bb_M_init 71 = .ok (.dup, 1) := by decide +kernel
theorem dd_M_init_72 : decode bb_M_init 72 = .ok (.bipush 10, 2) := by decide +kernel
theorem dd_M_init_74 : decode bb_M_init 74 = .ok (.sipush 1537, 3) := by decide +kernel
theorem dd_M_init_77 : decode bb_M_init 77 = .ok (.iastore, 1) := by decide +kernel
theorem dd_M_init_78 : decode bb_M_init 78 = .ok (.dup, 1) := by decide +kernel
theorem dd_M_init_79 : decode bb_M_init 79 = .ok (.bipush 11, 2) := by decide +kernel
theorem dd_M_init_81 : decode bb_M_init 81 = .ok (.sipush 1537, 3) := by decide +kernel
theorem dd_M_init_84 : decode bb_M_init 84 = .ok (.iastore, 1) := by decide +kernel
theorem dd_M_init_85 : decode bb_M_init 85 = .ok (.dup, 1) := by decide +kernel
theorem dd_M_init_86 : decode bb_M_init 86 = .ok (.bipush 12, 2) := by decide +kernel
theorem dd_M_init_88 : decode bb_M_init 88 = .ok (.bipush 17, 2) := by decide +kernel
theorem dd_M_init_90 : decode bb_M_init 90 = .ok (.iastore, 1) := by decide +kernel
theorem dd_M_init_91 : decode bb_M_init 91 = .ok (.dup, 1) := by decide +kernel
theorem dd_M_init_92 : decode bb_M_init 92 = .ok (.bipush 13, 2) := by decide +kernel
theorem dd_M_init_94 : decode bb_M_init 94 = .ok (.sipush 1546, 3) := by decide +kernel
theorem dd_M_init_97 : decode bb_M_init 97 = .ok (.iastore, 1) := by decide +kernel
theorem dd_M_init_98 : decode bb_M_init 98 = .ok (.dup, 1) := by decide +kernel
theorem dd_M_init_99 : decode bb_M_init 99 = .ok (.bipush 14, 2) := by decide +kernel
theorem dd_M_init_101 : decode bb_M_init 101 = .ok (.sipush 1544, 3) := by decide +kernel
theorem dd_M_init_104 : decode bb_M_init 104 = .ok (.iastore, 1) := by decide +kernel
theorem dd_M_init_105 : decode bb_M_init 105 = .ok (.dup, 1) := by decide +kernel
theorem dd_M_init_106 : decode bb_M_init 106 = .ok (.bipush 15, 2) := by decide +kernel
theorem dd_M_init_108 : decode bb_M_init 108 = .ok (.sipush 1034, 3) := by decide +kernel
theorem dd_M_init_111 : decode bb_M_init 111 = .ok (.iastore, 1) := by decide +kernel
theorem dd_M_init_112 : decode bb_M_init 112 = .ok (.dup, 1) := by decide +kernel
theorem dd_M_init_113 : decode bb_M_init 113 = .ok (.bipush 16, 2) := by decide +kernel
theorem dd_M_init_115 : decode bb_M_init 115 = .ok (.bipush 26, 2) := by decide +kernel
theorem dd_M_init_117 : decode bb_M_init 117 = .ok (.iastore, 1) := by decide +kernel
theorem dd_M_init_118 : decode bb_M_init 118 = .ok (.dup, 1) := by decide +kernel
theorem dd_M_init_119 : decode bb_M_init 119 = .ok (.bipush 17, 2) := by decide +kernel
theorem dd_M_init_121 : decode bb_M_init 121 = .ok (.bipush 10, 2) := by decide +kernel
theorem dd_M_init_123 : decode bb_M_init 123 = .ok (.iastore, 1) := by decide +kernel
theorem dd_M_init_124 : decode bb_M_init 124 = .ok (.dup, 1) := by decide +kernel
theorem dd_M_init_125 : decode bb_M_init 125 = .ok (.bipush 18, 2) := by decide +kernel
theorem dd_M_init_127 : decode bb_M_init 127 = .ok (.bipush 24, 2) := by decide +kernel
theorem dd_M_init_129 : decode bb_M_init 129 = .ok (.iastore, 1) := by decide +kernel
theorem dd_M_init_130 : decode bb_M_init 130 = .ok (.dup, 1) := by decide +kernel
theorem dd_M_init_131 : decode bb_M_init 131 = .ok (.bipush 19, 2) := by decide +kernel
theorem dd_M_init_133 : decode bb_M_init 133 = .ok (.bipush 26, 2) := by decide +kernel
theorem dd_M_init_135 : decode bb_M_init 135 = .ok (.iastore, 1) := by decide +kernel
theorem dd_M_init_136 : decode bb_M_init 136 = .ok (.dup, 1) := by decide +kernel
theorem dd_M_init_137 : decode bb_M_init 137 = .ok (.bipush 20, 2) := by decide +kernel
theorem dd_M_init_139 : decode bb_M_init 139 = .ok (.bipush 26, 2) := by decide +kernel
theorem dd_M_init_141 : decode bb_M_init 141 = .ok (.iastore, 1) := by decide +kernel
theorem dd_M_init_142 : decode bb_M_init 142 = .ok (.dup, 1) := by decide +kernel
theorem dd_M_init_143 : decode bb_M_init 143 = .ok (.bipush 21, 2) := by decide +kernel
theorem dd_M_init_145 : decode bb_M_init 145 = .ok (.bipush 8, 2) := by decide +kernel
theorem dd_M_init_147 : decode bb_M_init 147 = .ok (.iastore, 1) := by decide +kernel
theorem dd_M_init_148 : decode bb_M_init 148 = .ok (.putfield 7, 3) := by decide +kernel
theorem dd_M_init_151 : decode bb_M_init 151 = .ok (.aload_n 0, 1) := by decide +kernel
theorem dd_M_init_152 : decode bb_M_init 152 = .ok (.bipush 22, 2) := by decide +kernel
theorem dd_M_init_154 : decode bb_M_init 154 = .ok (.newarray .int, 2) := by decide +kernel
theorem dd_M_init_156 : decode bb_M_init 156 = .ok (.dup, 1) := by decide +kernel
theorem dd_M_init_157 : decode bb_M_init 157 = .ok (.iconst 0, 1) := by decide +kernel
theorem dd_M_init_158 : decode bb_M_init 158 = .ok (.iconst 1, 1) := by decide +kernel
theorem dd_M_init_159 : decode bb_M_init 159 = .ok (.iastore, 1) := by decide +kernel
theorem dd_M_init_160 : decode bb_M_init 160 = .ok (.dup, 1) := by decide +kernel
theorem dd_M_init_161 : decode bb_M_init 161 = .ok (.iconst 1, 1) := by decide +kernel
theorem dd_M_init_162 : decode bb_M_init 162 = .ok (.iconst 2, 1) := by decide +kernel
theorem dd_M_init_163 : decode bb_M_init 163 = .ok (.iastore, 1) := by decide +kernel
theorem dd_M_init_164 : decode bb_M_init 164 = .ok (.dup, 1) := by decide +kernel
theorem dd_M_init_165 : decode bb_M_init 165 = .ok (.iconst 2, 1) := by decide +kernel
theorem dd_M_init_166 : decode bb_M_init 166 = .ok (.iconst 4, 1) := by decide +kernel
theorem dd_M_init_167 : decode bb_M_init 167 = .ok (.iastore, 1) := by decide +kernel
theorem dd_M_init_168 : decode bb_M_init 168 = .ok (.dup, 1) := by decide +kernel
theorem dd_M_init_169 : decode bb_M_init 169 = .ok (.iconst 3, 1) := by decide +kernel
theorem dd_M_init_170 : decode bb_M_init 170 = .ok (.bipush 8, 2) := by decide +kernel
theorem dd_M_init_172 : decode bb_M_init 172 = .ok (.iastore, 1) := by decide +kernel
theorem dd_M_init_173 : decode bb_M_init 173 = .ok (.dup, 1) := by decide +kernel
theorem dd_M_init_174 : decode bb_M_init 174 = .ok (.iconst 4, 1) := by decide +kernel
theorem dd_M_init_175 : decode bb_M_init 175 = .ok (.bipush 16, 2) := by decide +kernel
theorem dd_M_init_177 : decode bb_M_init 177 = .ok (.iastore, 1) := by decide +kernel
theorem dd_M_init_178 : decode bb_M_init 178 = .ok (.dup, 1) := by decide +kernel
theorem dd_M_init_179 : decode bb_M_init 179 = .ok (.iconst 5, 1) := by decide +kernel
theorem dd_M_init_180 : decode bb_M_init 180 = .ok (.bipush 32, 2) := by decide +kernel
theorem dd_M_init_182 : decode bb_M_init 182 = .ok (.iastore, 1) := by decide +kernel
theorem dd_M_init_183 : decode bb_M_init 183 = .ok (.dup, 1) := by decide +kernel
theorem dd_M_init_184 : decode bb_M_init 184 = .ok (.bipush 6, 2) := by decide +kernel
theorem dd_M_init_186 : decode bb_M_init 186 = .ok (.bipush 64, 2) := by decide +kernel
theorem dd_M_init_188 : decode bb_M_init 188 = .ok (.iastore, 1) := by decide +kernel
theorem dd_M_init_189 : decode bb_M_init 189 = .ok (.dup, 1) := by decide +kernel
theorem dd_M_init_190 : decode bb_M_init 190 = .ok (.bipush 7, 2) := by decide +kernel
theorem dd_M_init_192 : decode bb_M_init 192 = .ok (.sipush 128, 3) := by decide +kernel
theorem dd_M_init_195 : decode bb_M_init 195 = .ok (.iastore, 1) := by decide +kernel
theorem dd_M_init_196 : decode bb_M_init 196 = .ok (.dup, 1) := by decide +kernel
theorem dd_M_init_197 : decode bb_M_init 197 = .ok (.bipush 8, 2) := by decide +kernel
theorem dd_M_init_199 : decode bb_M_init 199 = .ok (.sipush 256, 3) := by decide +kernel
theorem dd_M_init_202 : decode bb_M_init 202 = .ok (.iastore, 1) := by decide +kernel
theorem dd_M_init_203 : decode bb_M_init 203 = .ok (.dup, 1) := by decide +kernel
theorem dd_M_init_204 : decode bb_M_init 204 = .ok (.bipush 9, 2) := by decide +kernel
theorem dd_M_init_206 : decode bb_M_init 206 = .ok (.sipush 512, 3) := by decide +kernel
theorem dd_M_init_209 : decode bb_M_init 209 = .ok (.iastore, 1) := by decide +kernel
theorem dd_M_init_210 : decode bb_M_init 210 = .ok (.dup, 1) := by decide +kernel
theorem dd_M_init_211 : decode bb_M_init 211 = .ok (.bipush 10, 2) := by decide +kernel
theorem dd_M_init_213 : decode bb_M_init 213 = .ok (.sipush 1536, 3) := by decide +kernel
theorem dd_M_init_216 : decode bb_M_init 216 = .ok (.iastore, 1) := by decide +kernel
theorem dd_M_init_217 : decode bb_M_init 217 = .ok (.dup, 1) := by decide +kernel
theorem dd_M_init_218 : decode bb_M_init 218 = .ok (.bipush 11, 2) := by decide +kernel
theorem dd_M_init_220 : decode bb_M_init 220 = .ok (.sipush 2560, 3) := by decide +kernel
theorem dd_M_init_223 : decode bb_M_init 223 = .ok (.iastore, 1) := by decide +kernel
theorem dd_M_init_224 : decode bb_M_init 224 = .ok (.dup, 1) := by decide +kernel
theorem dd_M_init_225 : decode bb_M_init 225 = .ok (.bipush 12, 2) := by decide +kernel
theorem dd_M_init_227 : decode bb_M_init 227 = .ok (.sipush 6656, 3) := by decide +kernel
theorem dd_M_init_230 : decode bb_M_init 230 = .ok (.iastore, 1) := by decide +kernel
theorem dd_M_init_231 : decode bb_M_init 231 = .ok (.dup, 1) := by decide +kernel
theorem dd_M_init_232 : decode bb_M_init 232 = .ok (.bipush 13, 2) := by decide +kernel
theorem dd_M_init_234 : decode bb_M_init 234 = .ok (.sipush 8704, 3) := by decide +kernel
theorem dd_M_init_237 : decode bb_M_init 237 = .ok (.iastore, 1) := by decide +kernel
theorem dd_M_init_238 : decode bb_M_init 238 = .ok (.dup, 1) := by decide +kernel
theorem dd_M_init_239 : decode bb_M_init 239 = .ok (.bipush 14, 2) := by decide +kernel
theorem dd_M_init_241 : decode bb_M_init 241 = .ok (.sipush 16896, 3) := by decide +kernel
theorem dd_M_init_244 : decode bb_M_init 244 = .ok (.iastore, 1) := by decide +kernel
theorem dd_M_init_245 : decode bb_M_init 245 = .ok (.dup, 1) := by decide +kernel
theorem dd_M_init_246 : decode bb_M_init 246 = .ok (.bipush 15, 2) := by decide +kernel
theorem dd_M_init_248 : decode bb_M_init 248 = .ok (.ldc 13, 2) := by decide +kernel
theorem dd_M_init_250 : decode bb_M_init 250 = .ok (.iastore, 1) := by decide +kernel
theorem dd_M_init_251 : decode bb_M_init 251 = .ok (.dup, 1) := by decide +kernel
theorem dd_M_init_252 : decode bb_M_init 252 = .ok (.bipush 16, 2) := by decide +kernel
theorem dd_M_init_254 : decode bb_M_init 254 = .ok (.ldc 14, 2) := by decide +kernel
theorem dd_M_init_256 : decode bb_M_init 256 = .ok (.iastore, 1) := by decide +kernel
theorem dd_M_init_257 : decode bb_M_init 257 = .ok (.dup, 1) := by decide +kernel
theorem dd_M_init_258 : decode bb_M_init 258 = .ok (.bipush 17, 2) := by decide +kernel
theorem dd_M_init_260 : decode bb_M_init 260 = .ok (.ldc 15, 2) := by decide +kernel
theorem dd_M_init_262 : decode bb_M_init 262 = .ok (.iastore, 1) := by decide +kernel
theorem dd_M_init_263 : decode bb_M_init 263 = .ok (.dup, 1) := by decide +kernel
theorem dd_M_init_264 : decode bb_M_init 264 = .ok (.bipush 18, 2) := by decide +kernel
theorem dd_M_init_266 : decode bb_M_init 266 = .ok (.ldc 16, 2) := by decide +kernel
theorem dd_M_init_268 : decode bb_M_init 268 = .ok (.iastore, 1) := by decide +kernel
theorem dd_M_init_269 : decode bb_M_init 269 = .ok (.dup, 1) := by decide +kernel
theorem dd_M_init_270 : decode bb_M_init 270 = .ok (.bipush 19, 2) := by decide +kernel
theorem dd_M_init_272 : decode bb_M_init 272 = .ok (.ldc 17, 2) := by decide +kernel
theorem dd_M_init_274 : decode bb_M_init 274 = .ok (.iastore, 1) := by decide +kernel
theorem dd_M_init_275 : decode bb_M_init 275 = .ok (.dup, 1) := by decide +kernel
theorem dd_M_init_276 : decode bb_M_init 276 = .ok (.bipush 20, 2) := by decide +kernel
theorem dd_M_init_278 : decode bb_M_init 278 = .ok (.ldc 18, 2) := by decide +kernel
theorem dd_M_init_280 : decode bb_M_init 280 = .ok (.iastore, 1) := by decide +kernel
theorem dd_M_init_281 : decode bb_M_init 281 = .ok (.dup, 1) := by decide +kernel
theorem dd_M_init_282 : decode bb_M_init 282 = .ok (.bipush 21, 2) := by decide +kernel
theorem dd_M_init_284 : decode bb_M_init 284 = .ok (.ldc 19, 2) := by decide +kernel
theorem dd_M_init_286 : decode bb_M_init 286 = .ok (.iastore, 1) := by decide +kernel
theorem dd_M_init_287 : decode bb_M_init 287 = .ok (.putfield 20, 3) := by decide +kernel
theorem dd_M_init_290 : decode bb_M_init 290 = .ok (.aload_n 0, 1) := by decide +kernel
theorem dd_M_init_291 : decode bb_M_init 291 = .ok (.sipush 300, 3) := by decide +kernel
theorem dd_M_init_294 : decode bb_M_init 294 = .ok (.newarray .int, 2) := by decide +kernel
theorem dd_M_init_296 : decode bb_M_init 296 = .ok (.putfield 23, 3) := by decide +kernel
theorem dd_M_init_299 : decode bb_M_init 299 = .ok (.aload_n 0, 1) := by decide +kernel
theorem dd_M_init_300 : decode bb_M_init 300 = .ok (.sipush 300, 3) := by decide +kernel
theorem dd_M_init_303 : decode bb_M_init 303 = .ok (.newarray .int, 2) := by decide +kernel
theorem dd_M_init_305 : decode bb_M_init 305 = .ok (.putfield 26, 3) := by decide +kernel
theorem dd_M_init_308 : decode bb_M_init 308 = .ok (.aload_n 0, 1) := by decide +kernel
theorem dd_M_init_309 : decode bb_M_init 309 = .ok (.bipush 22, 2) := by decide +kernel
theorem dd_M_init_311 : decode bb_M_init 311 = .ok (.putfield 29, 3) := by decide +kernel
theorem dd_M_init_314 : decode bb_M_init 314 = .ok (.aload_n 0, 1) := by decide +kernel
theorem dd_M_init_315 : decode bb_M_init 315 = .ok (.bipush 80, 2) := by decide +kernel
theorem dd_M_init_317 : decode bb_M_init 317 = .ok (.newarray .int, 2) := by decide +kernel
theorem dd_M_init_319 : decode bb_M_init 319 = .ok (.putfield 33, 3) := by decide +kernel
theorem dd_M_init_322 : decode bb_M_init 322 = .ok (.aload_n 0, 1) := by decide +kernel
theorem dd_M_init_323 : decode bb_M_init 323 = .ok (.bipush 80, 2) := by decide +kernel
theorem dd_M_init_325 : decode bb_M_init 325 = .ok (.newarray .int, 2) := by decide +kernel
theorem dd_M_init_327 : decode bb_M_init 327 = .ok (.putfield 36, 3) := by decide +kernel
theorem dd_M_init_330 : decode bb_M_init 330 = .ok (.aload_n 0, 1) := by decide +kernel
theorem dd_M_init_331 : decode bb_M_init 331 = .ok (.bipush 80, 2) := by decide +kernel
theorem dd_M_init_333 : decode bb_M_init 333 = .ok (.newarray .int, 2) := by decide +kernel
theorem dd_M_init_335 : decode bb_M_init 335 = .ok (.putfield 39, 3) := by decide +kernel
theorem dd_M_init_338 : decode bb_M_init 338 = .ok (.aload_n 0, 1) := by decide +kernel
theorem dd_M_init_339 : decode bb_M_init 339 = .ok (.sipush 640, 3) := by decide +kernel
theorem dd_M_init_342 : decode bb_M_init 342 = .ok (.newarray .long, 2) := by decide +kernel
theorem dd_M_init_344 : decode bb_M_init 344 = .ok (.putfield 42, 3) := by decide +kernel
theorem dd_M_init_347 : decode bb_M_init 347 = .ok (.aload_n 0, 1) := by decide +kernel
theorem dd_M_init_348 : decode bb_M_init 348 = .ok (.sipush 900, 3) := by decide +kernel
theorem dd_M_init_351 : decode bb_M_init 351 = .ok (.newarray .int, 2) := by decide +kernel
theorem dd_M_init_353 : decode bb_M_init 353 = .ok (.putfield 46, 3) := by decide +kernel
theorem dd_M_init_356 : decode bb_M_init 356 = .ok (.return_, 1) := by decide +kernel
theorem dd_M_above_0 : decode bb_M_above 0 = .ok (.iload_n 1, 1) := by decide +kernel
theorem dd_M_above_1 : decode bb_M_above 1 = .ok (.istore_n 3, 1) := by decide +kernel
theorem dd_M_above_2 : decode bb_M_above 2 = .ok (.iload_n 2, 1) := by decide +kernel
theorem dd_M_above_3 : decode bb_M_above 3 = .ok (.istore 4, 2) := by decide +kernel
theorem dd_M_above_5 : decode bb_M_above 5 = .ok (.iconst 0, 1) := by decide +kernel
theorem dd_M_above_6 : decode bb_M_above 6 = .ok (.istore 5, 2) := by decide +kernel
theorem dd_M_above_8 : decode bb_M_above 8 = .ok (.iload 5, 2) := by decide +kernel
theorem dd_M_above_10 : decode bb_M_above 10 = .ok (.sipush 300, 3) := by decide +kernel
theorem dd_M_above_13 : decode bb_M_above 13 = .ok (.if_icmp .ge 130, 3) := by decide +kernel
theorem dd_M_above_16 : decode bb_M_above 16 = .ok (.iload_n 3, 1) := by decide +kernel
theorem dd_M_above_17 : decode bb_M_above 17 = .ok (.iload 4, 2) := by decide +kernel
theorem dd_M_above_19 : decode bb_M_above 19 = .ok (.if_icmp .eq 25, 3) := by decide +kernel
theorem dd_M_above_22 : decode bb_M_above 22 = .ok (.aload_n 0, 1) := by decide +kernel
theorem dd_M_above_23 : decode bb_M_above 23 = .ok (.getfield 26, 3) := by decide +kernel
theorem dd_M_above_26 : decode bb_M_above 26 = .ok (.iload 4, 2) := by decide +kernel
theorem dd_M_above_28 : decode bb_M_above 28 = .ok (.iaload, 1) := by decide +kernel
theorem dd_M_above_29 : decode bb_M_above 29 = .ok (.ifCond .le 17, 3) := by decide +kernel
theorem dd_M_above_32 : decode bb_M_above 32 = .ok (.iload_n 3, 1) := by decide +kernel
theorem dd_M_above_33 : decode bb_M_above 33 = .ok (.bipush 9, 2) := by decide +kernel
theorem dd_M_above_35 : decode bb_M_above 35 = .ok (.if_icmp .lt 11, 3) := by decide +kernel
theorem dd_M_above_38 : decode bb_M_above 38 = .ok (.iload_n 3, 1) := by decide +kernel
theorem dd_M_above_39 : decode bb_M_above 39 = .ok (.bipush 11, 2) := by decide +kernel
theorem dd_M_above_41 : decode bb_M_above 41 = .ok (.if_icmp .gt 5, 3) := by decide +kernel
theorem dd_M_above_44 : decode bb_M_above 44 = .ok (.iconst 1, 1) := by decide +kernel
theorem dd_M_above_45 : decode bb_M_above 45 = .ok (.ireturn, 1) := by decide +kernel
theorem dd_M_above_46 : decode bb_M_above 46 = .ok (.aload_n 0, 1) := by decide +kernel
theorem dd_M_above_47 : decode bb_M_above 47 = .ok (.getfield 26, 3) := by decide +kernel
theorem dd_M_above_50 : decode bb_M_above 50 = .ok (.iload 4, 2) := by decide +kernel
theorem dd_M_above_52 : decode bb_M_above 52 = .ok (.iaload, 1) := by decide +kernel
theorem dd_M_above_53 : decode bb_M_above 53 = .ok (.ifCond .ne 32, 3) := by decide +kernel
theorem dd_M_above_56 : decode bb_M_above 56 = .ok (.aload_n 0, 1) := by decide +kernel
theorem dd_M_above_57 : decode bb_M_above 57 = .ok (.getfield 26, 3) := by decide +kernel
theorem dd_M_above_60 : decode bb_M_above 60 = .ok (.iload_n 3, 1) := by decide +kernel
theorem dd_M_above_61 : decode bb_M_above 61 = .ok (.iaload, 1) := by decide +kernel
theorem dd_M_above_62 : decode bb_M_above 62 = .ok (.ifCond .ne 21, 3) := by decide +kernel
theorem dd_M_above_65 : decode bb_M_above 65 = .ok (.aload_n 0, 1) := by decide +kernel
theorem dd_M_above_66 : decode bb_M_above 66 = .ok (.getfield 20, 3) := by decide +kernel
theorem dd_M_above_69 : decode bb_M_above 69 = .ok (.iload 4, 2) := by decide +kernel
theorem dd_M_above_71 : decode bb_M_above 71 = .ok (.iaload, 1) := by decide +kernel
theorem dd_M_above_72 : decode bb_M_above 72 = .ok (.iload_n 3, 1) := by decide +kernel
theorem dd_M_above_73 : decode bb_M_above 73 = .ok (.ishr, 1) := by decide +kernel
theorem dd_M_above_74 : decode bb_M_above 74 = .ok (.iconst 1, 1) := by decide +kernel
theorem dd_M_above_75 : decode bb_M_above 75 = .ok (.iand, 1) := by decide +kernel
theorem dd_M_above_76 : decode bb_M_above 76 = .ok (.ifCond .eq 7, 3) := by decide +kernel
theorem dd_M_above_79 : decode bb_M_above 79 = .ok (.iconst 1, 1) := by decide +kernel
theorem dd_M_above_80 : decode bb_M_above 80 = .ok (.goto 4, 3) := by decide +kernel
theorem dd_M_above_83 : decode bb_M_above 83 = .ok (.iconst 0, 1) := by decide +kernel
theorem dd_M_above_84 : decode bb_M_above 84 = .ok (.ireturn, 1) := by decide +kernel
theorem dd_M_above_85 : decode bb_M_above 85 = .ok (.aload_n 0, 1) := by decide +kernel
theorem dd_M_above_86 : decode bb_M_above 86 = .ok (.getfield 26, 3) := by decide +kernel
theorem dd_M_above_89 : decode bb_M_above 89 = .ok (.iload_n 3, 1) := by decide +kernel
theorem dd_M_above_90 : decode bb_M_above 90 = .ok (.iaload, 1) := by decide +kernel
theorem dd_M_above_91 : decode bb_M_above 91 = .ok (.ifCond .eq 28, 3) := by decide +kernel
theorem dd_M_above_94 : decode bb_M_above 94 = .ok (.aload_n 0, 1) := by decide +kernel
theorem dd_M_above_95 : decode bb_M_above 95 = .ok (.getfield 23, 3) := by decide +kernel
theorem dd_M_above_98 : decode bb_M_above 98 = .ok (.iload_n 3, 1) := by decide +kernel
theorem dd_M_above_99 : decode bb_M_above 99 = .ok (.iaload, 1) := by decide +kernel
theorem dd_M_above_100 : decode bb_M_above 100 = .ok (.invokestatic 64, 3) := by decide +kernel
theorem dd_M_above_103 : decode bb_M_above 103 = .ok (.ifCond .ne 16, 3) := by decide +kernel
theorem dd_M_above_106 : decode bb_M_above 106 = .ok (.aload_n 0, 1) := by decide +kernel
theorem dd_M_above_107 : decode bb_M_above 107 = .ok (.getfield 23, 3) := by decide +kernel
theorem dd_M_above_110 : decode bb_M_above 110 = .ok (.iload 4, 2) := by decide +kernel
theorem dd_M_above_112 : decode bb_M_above 112 = .ok (.iaload, 1) := by decide +kernel
theorem dd_M_above_113 : decode bb_M_above 113 = .ok (.invokestatic 64, 3) := by decide +kernel
theorem dd_M_above_116 : decode bb_M_above 116 = .ok (.ifCond .eq 5, 3) := by decide +kernel
theorem dd_M_above_119 : decode bb_M_above 119 = .ok (.iconst 0, 1) := by decide +kernel
theorem dd_M_above_120 : decode bb_M_above 120 = .ok (.ireturn, 1) := by decide +kernel
theorem dd_M_above_121 : decode bb_M_above 121 = .ok (.aload_n 0, 1) := by decide +kernel
theorem dd_M_above_122 : decode bb_M_above 122 = .ok (.getfield 23, 3) := by decide +kernel
theorem dd_M_above_125 : decode bb_M_above 125 = .ok (.iload_n 3, 1) := by decide +kernel
theorem dd_M_above_126 : decode bb_M_above 126 = .ok (.iaload, 1) := by decide +kernel
theorem dd_M_above_127 : decode bb_M_above 127 = .ok (.istore_n 3, 1) := by decide +kernel
theorem dd_M_above_128 : decode bb_M_above 128 = .ok (.aload_n 0, 1) := by decide +kernel
theorem dd_M_above_129 : decode bb_M_above 129 = .ok (.getfield 23, 3) := by decide +kernel
theorem dd_M_above_132 : decode bb_M_above 132 = .ok (.iload 4, 2) := by decide +kernel
theorem dd_M_above_134 : decode bb_M_above 134 = .ok (.iaload, 1) := by decide +kernel
theorem dd_M_above_135 : decode bb_M_above 135 = .ok (.istore 4, 2) := by decide +kernel
theorem dd_M_above_137 : decode bb_M_above 137 = .ok (.iinc 5 1, 3) := by decide +kernel
theorem dd_M_above_140 : decode bb_M_above 140 = .ok (.goto (-132), 3) := by decide +kernel
theorem dd_M_above_143 : decode bb_M_above 143 = .ok (.iconst 0, 1) := by decide +kernel
theorem dd_M_above_144 : decode bb_M_above 144 = .ok (.ireturn, 1) := by decide +kernel
theorem dd_M_array_0 : decode bb_M_array 0 = .ok (.aload_n 0, 1) := by decide +kernel
theorem dd_M_array_1 : decode bb_M_array 1 = .ok (.getfield 36, 3) := by decide +kernel
theorem dd_M_array_4 : decode bb_M_array 4 = .ok (.iload_n 1, 1) := by decide +kernel
theorem dd_M_array_5 : decode bb_M_array 5 = .ok (.iaload, 1) := by decide +kernel
theorem dd_M_array_6 : decode bb_M_array 6 = .ok (.ifCond .ge 7, 3) := by decide +kernel
theorem dd_M_array_9 : decode bb_M_array 9 = .ok (.iconst 0, 1) := by decide +kernel
theorem dd_M_array_10 : decode bb_M_array 10 = .ok (.goto 25, 3) := by decide +kernel
theorem dd_M_array_13 : decode bb_M_array 13 = .ok (.aload_n 0, 1) := by decide +kernel
theorem dd_M_array_14 : decode bb_M_array 14 = .ok (.getfield 23, 3) := by decide +kernel
theorem dd_M_array_17 : decode bb_M_array 17 = .ok (.aload_n 0, 1) := by decide +kernel
theorem dd_M_array_18 : decode bb_M_array 18 = .ok (.getfield 33, 3) := by decide +kernel
theorem dd_M_array_21 : decode bb_M_array 21 = .ok (.iload_n 1, 1) := by decide +kernel
theorem dd_M_array_22 : decode bb_M_array 22 = .ok (.iaload, 1) := by decide +kernel
theorem dd_M_array_23 : decode bb_M_array 23 = .ok (.iaload, 1) := by decide +kernel
theorem dd_M_array_24 : decode bb_M_array 24 = .ok (.invokestatic 64, 3) := by decide +kernel
theorem dd_M_array_27 : decode bb_M_array 27 = .ok (.ifCond .eq 7, 3) := by decide +kernel
theorem dd_M_array_30 : decode bb_M_array 30 = .ok (.iconst 1, 1) := by decide +kernel
theorem dd_M_array_31 : decode bb_M_array 31 = .ok (.goto 4, 3) := by decide +kernel
theorem dd_M_array_34 : decode bb_M_array 34 = .ok (.iconst 2, 1) := by decide +kernel
theorem dd_M_array_35 : decode bb_M_array 35 = .ok (.ireturn, 1) := by decide +kernel
theorem dd_M_arrayOf_0 : decode bb_M_arrayOf 0 = .ok (.aload_n 0, 1) := by decide +kernel
theorem dd_M_arrayOf_1 : decode bb_M_arrayOf 1 = .ok (.iload_n 1, 1) := by decide +kernel
theorem dd_M_arrayOf_2 : decode bb_M_arrayOf 2 = .ok (.invokevirtual 52, 3) := by decide +kernel
theorem dd_M_arrayOf_5 : decode bb_M_arrayOf 5 = .ok (.ifCond .eq 5, 3) := by decide +kernel
theorem dd_M_arrayOf_8 : decode bb_M_arrayOf 8 = .ok (.iconst (-1), 1) := by decide +kernel
theorem dd_M_arrayOf_9 : decode bb_M_arrayOf 9 = .ok (.ireturn, 1) := by decide +kernel
theorem dd_M_arrayOf_10 : decode bb_M_arrayOf 10 = .ok (.aload_n 0, 1) := by decide +kernel
theorem dd_M_arrayOf_11 : decode bb_M_arrayOf 11 = .ok (.iload_n 1, 1) := by decide +kernel
theorem dd_M_arrayOf_12 : decode bb_M_arrayOf 12 = .ok (.invokevirtual 56, 3) := by decide +kernel
theorem dd_M_arrayOf_15 : decode bb_M_arrayOf 15 = .ok (.istore_n 2, 1) := by decide +kernel
theorem dd_M_arrayOf_16 : decode bb_M_arrayOf 16 = .ok (.iload_n 2, 1) := by decide +kernel
theorem dd_M_arrayOf_17 : decode bb_M_arrayOf 17 = .ok (.ifCond .lt 9, 3) := by decide +kernel
theorem dd_M_arrayOf_20 : decode bb_M_arrayOf 20 = .ok (.aload_n 0, 1) := by decide +kernel
theorem dd_M_arrayOf_21 : decode bb_M_arrayOf 21 = .ok (.iload_n 2, 1) := by decide +kernel
theorem dd_M_arrayOf_22 : decode bb_M_arrayOf 22 = .ok (.iload_n 1, 1) := by decide +kernel
theorem dd_M_arrayOf_23 : decode bb_M_arrayOf 23 = .ok (.invokevirtual 60, 3) := by decide +kernel
theorem dd_M_arrayOf_26 : decode bb_M_arrayOf 26 = .ok (.iload_n 2, 1) := by decide +kernel
theorem dd_M_arrayOf_27 : decode bb_M_arrayOf 27 = .ok (.ireturn, 1) := by decide +kernel
theorem dd_M_as_0 : decode bb_M_as 0 = .ok (.iload_n 0, 1) := by decide +kernel
theorem dd_M_as_1 : decode bb_M_as 1 = .ok (.tableswitch 73 0 6 #[43, 53, 57, 63, 73, 73, 67], 43) := by decide +kernel
theorem dd_M_as_44 : decode bb_M_as 44 = .ok (.iload_n 1, 1) := by decide +kernel
theorem dd_M_as_45 : decode bb_M_as 45 = .ok (.ifCond .eq 7, 3) := by decide +kernel
theorem dd_M_as_48 : decode bb_M_as 48 = .ok (.lconst 1, 1) := by decide +kernel
theorem dd_M_as_49 : decode bb_M_as 49 = .ok (.goto 4, 3) := by decide +kernel
theorem dd_M_as_52 : decode bb_M_as 52 = .ok (.lconst 0, 1) := by decide +kernel
theorem dd_M_as_53 : decode bb_M_as 53 = .ok (.lreturn, 1) := by decide +kernel
theorem dd_M_as_54 : decode bb_M_as 54 = .ok (.iload_n 1, 1) := by decide +kernel
theorem dd_M_as_55 : decode bb_M_as 55 = .ok (.i2b, 1) := by decide +kernel
theorem dd_M_as_56 : decode bb_M_as 56 = .ok (.i2l, 1) := by decide +kernel
theorem dd_M_as_57 : decode bb_M_as 57 = .ok (.lreturn, 1) := by decide +kernel
theorem dd_M_as_58 : decode bb_M_as 58 = .ok (.iload_n 1, 1) := by decide +kernel
theorem dd_M_as_59 : decode bb_M_as 59 = .ok (.ldc 179, 2) := by decide +kernel
theorem dd_M_as_61 : decode bb_M_as 61 = .ok (.iand, 1) := by decide +kernel
theorem dd_M_as_62 : decode bb_M_as 62 = .ok (.i2l, 1) := by decide +kernel
theorem dd_M_as_63 : decode bb_M_as 63 = .ok (.lreturn, 1) := by decide +kernel
theorem dd_M_as_64 : decode bb_M_as 64 = .ok (.iload_n 1, 1) := by decide +kernel
theorem dd_M_as_65 : decode bb_M_as 65 = .ok (.i2s, 1) := by decide +kernel
theorem dd_M_as_66 : decode bb_M_as 66 = .ok (.i2l, 1) := by decide +kernel
theorem dd_M_as_67 : decode bb_M_as 67 = .ok (.lreturn, 1) := by decide +kernel
theorem dd_M_as_68 : decode bb_M_as 68 = .ok (.iload_n 1, 1) := by decide +kernel
theorem dd_M_as_69 : decode bb_M_as 69 = .ok (.i2l, 1) := by decide +kernel
theorem dd_M_as_70 : decode bb_M_as 70 = .ok (.invokestatic 180, 3) := by decide +kernel
theorem dd_M_as_73 : decode bb_M_as 73 = .ok (.lreturn, 1) := by decide +kernel
theorem dd_M_as_74 : decode bb_M_as 74 = .ok (.iload_n 1, 1) := by decide +kernel
theorem dd_M_as_75 : decode bb_M_as 75 = .ok (.i2l, 1) := by decide +kernel
theorem dd_M_as_76 : decode bb_M_as 76 = .ok (.lreturn, 1) := by decide +kernel
theorem dd_M_base_0 : decode bb_M_base 0 = .ok (.iload_n 0, 1) := by decide +kernel
theorem dd_M_base_1 : decode bb_M_base 1 = .ok (.ifCond .lt 13, 3) := by decide +kernel
theorem dd_M_base_4 : decode bb_M_base 4 = .ok (.iload_n 0, 1) := by decide +kernel
theorem dd_M_base_5 : decode bb_M_base 5 = .ok (.bipush 7, 2) := by decide +kernel
theorem dd_M_base_7 : decode bb_M_base 7 = .ok (.if_icmp .gt 7, 3) := by decide +kernel
theorem dd_M_base_10 : decode bb_M_base 10 = .ok (.iconst 1, 1) := by decide +kernel
theorem dd_M_base_11 : decode bb_M_base 11 = .ok (.goto 4, 3) := by decide +kernel
theorem dd_M_base_14 : decode bb_M_base 14 = .ok (.iconst 0, 1) := by decide +kernel
theorem dd_M_base_15 : decode bb_M_base 15 = .ok (.ireturn, 1) := by decide +kernel
theorem dd_M_bottom_0 : decode bb_M_bottom 0 = .ok (.iload_n 1, 1) := by decide +kernel
theorem dd_M_bottom_1 : decode bb_M_bottom 1 = .ok (.istore_n 2, 1) := by decide +kernel
theorem dd_M_bottom_2 : decode bb_M_bottom 2 = .ok (.aload_n 0, 1) := by decide +kernel
theorem dd_M_bottom_3 : decode bb_M_bottom 3 = .ok (.getfield 26, 3) := by decide +kernel
theorem dd_M_bottom_6 : decode bb_M_bottom 6 = .ok (.iload_n 2, 1) := by decide +kernel
theorem dd_M_bottom_7 : decode bb_M_bottom 7 = .ok (.iaload, 1) := by decide +kernel
theorem dd_M_bottom_8 : decode bb_M_bottom 8 = .ok (.ifCond .le 13, 3) := by decide +kernel
theorem dd_M_bottom_11 : decode bb_M_bottom 11 = .ok (.aload_n 0, 1) := by decide +kernel
theorem dd_M_bottom_12 : decode bb_M_bottom 12 = .ok (.getfield 23, 3) := by decide +kernel
theorem dd_M_bottom_15 : decode bb_M_bottom 15 = .ok (.iload_n 2, 1) := by decide +kernel
theorem dd_M_bottom_16 : decode bb_M_bottom 16 = .ok (.iaload, 1) := by decide +kernel
theorem dd_M_bottom_17 : decode bb_M_bottom 17 = .ok (.istore_n 2, 1) := by decide +kernel
theorem dd_M_bottom_18 : decode bb_M_bottom 18 = .ok (.goto (-16), 3) := by decide +kernel
theorem dd_M_bottom_21 : decode bb_M_bottom 21 = .ok (.iload_n 2, 1) := by decide +kernel
theorem dd_M_bottom_22 : decode bb_M_bottom 22 = .ok (.ireturn, 1) := by decide +kernel
theorem dd_M_cast_0 : decode bb_M_cast 0 = .ok (.aload_n 0, 1) := by decide +kernel
theorem dd_M_cast_1 : decode bb_M_cast 1 = .ok (.iload_n 1, 1) := by decide +kernel
theorem dd_M_cast_2 : decode bb_M_cast 2 = .ok (.invokevirtual 52, 3) := by decide +kernel
theorem dd_M_cast_5 : decode bb_M_cast 5 = .ok (.ifCond .ne 11, 3) := by decide +kernel
theorem dd_M_cast_8 : decode bb_M_cast 8 = .ok (.aload_n 0, 1) := by decide +kernel
theorem dd_M_cast_9 : decode bb_M_cast 9 = .ok (.iload_n 2, 1) := by decide +kernel
theorem dd_M_cast_10 : decode bb_M_cast 10 = .ok (.invokevirtual 166, 3) := by decide +kernel
theorem dd_M_cast_13 : decode bb_M_cast 13 = .ok (.ifCond .eq 5, 3) := by decide +kernel
theorem dd_M_cast_16 : decode bb_M_cast 16 = .ok (.iconst (-1), 1) := by decide +kernel
theorem dd_M_cast_17 : decode bb_M_cast 17 = .ok (.ireturn, 1) := by decide +kernel
theorem dd_M_cast_18 : decode bb_M_cast 18 = .ok (.iload_n 1, 1) := by decide +kernel
theorem dd_M_cast_19 : decode bb_M_cast 19 = .ok (.bipush 8, 2) := by decide +kernel
theorem dd_M_cast_21 : decode bb_M_cast 21 = .ok (.if_icmp .le 21, 3) := by decide +kernel
theorem dd_M_cast_24 : decode bb_M_cast 24 = .ok (.aload_n 0, 1) := by decide +kernel
theorem dd_M_cast_25 : decode bb_M_cast 25 = .ok (.iload_n 1, 1) := by decide +kernel
theorem dd_M_cast_26 : decode bb_M_cast 26 = .ok (.aload_n 0, 1) := by decide +kernel
theorem dd_M_cast_27 : decode bb_M_cast 27 = .ok (.getfield 33, 3) := by decide +kernel
theorem dd_M_cast_30 : decode bb_M_cast 30 = .ok (.iload_n 2, 1) := by decide +kernel
theorem dd_M_cast_31 : decode bb_M_cast 31 = .ok (.iaload, 1) := by decide +kernel
theorem dd_M_cast_32 : decode bb_M_cast 32 = .ok (.invokevirtual 67, 3) := by decide +kernel
theorem dd_M_cast_35 : decode bb_M_cast 35 = .ok (.ifCond .eq 7, 3) := by decide +kernel
theorem dd_M_cast_38 : decode bb_M_cast 38 = .ok (.iload_n 2, 1) := by decide +kernel
theorem dd_M_cast_39 : decode bb_M_cast 39 = .ok (.goto 5, 3) := by decide +kernel
theorem dd_M_cast_42 : decode bb_M_cast 42 = .ok (.bipush (-4), 2) := by decide +kernel
theorem dd_M_cast_44 : decode bb_M_cast 44 = .ok (.ireturn, 1) := by decide +kernel
theorem dd_M_classOf_0 : decode bb_M_classOf 0 = .ok (.aload_n 0, 1) := by decide +kernel
theorem dd_M_classOf_1 : decode bb_M_classOf 1 = .ok (.iload_n 1, 1) := by decide +kernel
theorem dd_M_classOf_2 : decode bb_M_classOf 2 = .ok (.invokevirtual 166, 3) := by decide +kernel
theorem dd_M_classOf_5 : decode bb_M_classOf 5 = .ok (.ifCond .eq 7, 3) := by decide +kernel
theorem dd_M_classOf_8 : decode bb_M_classOf 8 = .ok (.iconst (-1), 1) := by decide +kernel
theorem dd_M_classOf_9 : decode bb_M_classOf 9 = .ok (.goto 9, 3) := by decide +kernel
theorem dd_M_classOf_12 : decode bb_M_classOf 12 = .ok (.aload_n 0, 1) := by decide +kernel
theorem dd_M_classOf_13 : decode bb_M_classOf 13 = .ok (.getfield 33, 3) := by decide +kernel
theorem dd_M_classOf_16 : decode bb_M_classOf 16 = .ok (.iload_n 1, 1) := by decide +kernel
theorem dd_M_classOf_17 : decode bb_M_classOf 17 = .ok (.iaload, 1) := by decide +kernel
theorem dd_M_classOf_18 : decode bb_M_classOf 18 = .ok (.ireturn, 1) := by decide +kernel
theorem dd_M_code_0 : decode bb_M_code 0 = .ok (.iload_n 0, 1) := by decide +kernel
theorem dd_M_code_1 : decode bb_M_code 1 = .ok (.tableswitch 71 0 7 #[47, 50, 53, 56, 59, 62, 65, 68], 47) := by decide +kernel
theorem dd_M_code_48 : decode bb_M_code 48 = .ok (.bipush 90, 2) := by decide +kernel
theorem dd_M_code_50 : decode bb_M_code 50 = .ok (.ireturn, 1) := by decide +kernel
theorem dd_M_code_51 : decode bb_M_code 51 = .ok (.bipush 66, 2) := by decide +kernel
theorem dd_M_code_53 : decode bb_M_code 53 = .ok (.ireturn, 1) := by decide +kernel
theorem dd_M_code_54 : decode bb_M_code 54 = .ok (.bipush 67, 2) := by decide +kernel
theorem dd_M_code_56 : decode bb_M_code 56 = .ok (.ireturn, 1) := by decide +kernel
theorem dd_M_code_57 : decode bb_M_code 57 = .ok (.bipush 83, 2) := by decide +kernel
theorem dd_M_code_59 : decode bb_M_code 59 = .ok (.ireturn, 1) := by decide +kernel
theorem dd_M_code_60 : decode bb_M_code 60 = .ok (.bipush 73, 2) := by decide +kernel
theorem dd_M_code_62 : decode bb_M_code 62 = .ok (.ireturn, 1) := by decide +kernel
theorem dd_M_code_63 : decode bb_M_code 63 = .ok (.bipush 74, 2) := by decide +kernel
theorem dd_M_code_65 : decode bb_M_code 65 = .ok (.ireturn, 1) := by decide +kernel
theorem dd_M_code_66 : decode bb_M_code 66 = .ok (.bipush 70, 2) := by decide +kernel
theorem dd_M_code_68 : decode bb_M_code 68 = .ok (.ireturn, 1) := by decide +kernel
theorem dd_M_code_69 : decode bb_M_code 69 = .ok (.bipush 68, 2) := by decide +kernel
theorem dd_M_code_71 : decode bb_M_code 71 = .ok (.ireturn, 1) := by decide +kernel
theorem dd_M_code_72 : decode bb_M_code 72 = .ok (.bipush 86, 2) := by decide +kernel
theorem dd_M_code_74 : decode bb_M_code 74 = .ok (.ireturn, 1) := by decide +kernel
theorem dd_M_component_0 : decode bb_M_component 0 = .ok (.aload_n 0, 1) := by decide +kernel
theorem dd_M_component_1 : decode bb_M_component 1 = .ok (.iload_n 1, 1) := by decide +kernel
theorem dd_M_component_2 : decode bb_M_component 2 = .ok (.invokevirtual 52, 3) := by decide +kernel
theorem dd_M_component_5 : decode bb_M_component 5 = .ok (.ifCond .eq 7, 3) := by decide +kernel
theorem dd_M_component_8 : decode bb_M_component 8 = .ok (.iconst (-1), 1) := by decide +kernel
theorem dd_M_component_9 : decode bb_M_component 9 = .ok (.goto 23, 3) := by decide +kernel
theorem dd_M_component_12 : decode bb_M_component 12 = .ok (.aload_n 0, 1) := by decide +kernel
theorem dd_M_component_13 : decode bb_M_component 13 = .ok (.getfield 26, 3) := by decide +kernel
theorem dd_M_component_16 : decode bb_M_component 16 = .ok (.iload_n 1, 1) := by decide +kernel
theorem dd_M_component_17 : decode bb_M_component 17 = .ok (.iaload, 1) := by decide +kernel
theorem dd_M_component_18 : decode bb_M_component 18 = .ok (.ifCond .ne 8, 3) := by decide +kernel
theorem dd_M_component_21 : decode bb_M_component 21 = .ok (.bipush (-7), 2) := by decide +kernel
theorem dd_M_component_23 : decode bb_M_component 23 = .ok (.goto 9, 3) := by decide +kernel
theorem dd_M_component_26 : decode bb_M_component 26 = .ok (.aload_n 0, 1) := by decide +kernel
theorem dd_M_component_27 : decode bb_M_component 27 = .ok (.getfield 23, 3) := by decide +kernel
theorem dd_M_component_30 : decode bb_M_component 30 = .ok (.iload_n 1, 1) := by decide +kernel
theorem dd_M_component_31 : decode bb_M_component 31 = .ok (.iaload, 1) := by decide +kernel
theorem dd_M_component_32 : decode bb_M_component 32 = .ok (.ireturn, 1) := by decide +kernel
theorem dd_M_copy_0 : decode bb_M_copy 0 = .ok (.aload_n 0, 1) := by decide +kernel
theorem dd_M_copy_1 : decode bb_M_copy 1 = .ok (.iload_n 1, 1) := by decide +kernel
theorem dd_M_copy_2 : decode bb_M_copy 2 = .ok (.invokevirtual 166, 3) := by decide +kernel
theorem dd_M_copy_5 : decode bb_M_copy 5 = .ok (.ifCond .ne 12, 3) := by decide +kernel
theorem dd_M_copy_8 : decode bb_M_copy 8 = .ok (.aload_n 0, 1) := by decide +kernel
theorem dd_M_copy_9 : decode bb_M_copy 9 = .ok (.getfield 36, 3) := by decide +kernel
theorem dd_M_copy_12 : decode bb_M_copy 12 = .ok (.iload_n 1, 1) := by decide +kernel
theorem dd_M_copy_13 : decode bb_M_copy 13 = .ok (.iaload, 1) := by decide +kernel
theorem dd_M_copy_14 : decode bb_M_copy 14 = .ok (.ifCond .ge 5, 3) := by decide +kernel
theorem dd_M_copy_17 : decode bb_M_copy 17 = .ok (.iconst (-1), 1) := by decide +kernel
theorem dd_M_copy_18 : decode bb_M_copy 18 = .ok (.ireturn, 1) := by decide +kernel
theorem dd_M_copy_19 : decode bb_M_copy 19 = .ok (.aload_n 0, 1) := by decide +kernel
theorem dd_M_copy_20 : decode bb_M_copy 20 = .ok (.getfield 49, 3) := by decide +kernel
theorem dd_M_copy_23 : decode bb_M_copy 23 = .ok (.bipush 80, 2) := by decide +kernel
theorem dd_M_copy_25 : decode bb_M_copy 25 = .ok (.if_icmp .ne 6, 3) := by decide +kernel
theorem dd_M_copy_28 : decode bb_M_copy 28 = .ok (.bipush (-8), 2) := by decide +kernel
theorem dd_M_copy_30 : decode bb_M_copy 30 = .ok (.ireturn, 1) := by decide +kernel
theorem dd_M_copy_31 : decode bb_M_copy 31 = .ok (.aload_n 0, 1) := by decide +kernel
theorem dd_M_copy_32 : decode bb_M_copy 32 = .ok (.aload_n 0, 1) := by decide +kernel
theorem dd_M_copy_33 : decode bb_M_copy 33 = .ok (.getfield 33, 3) := by decide +kernel
theorem dd_M_copy_36 : decode bb_M_copy 36 = .ok (.iload_n 1, 1) := by decide +kernel
theorem dd_M_copy_37 : decode bb_M_copy 37 = .ok (.iaload, 1) := by decide +kernel
theorem dd_M_copy_38 : decode bb_M_copy 38 = .ok (.aload_n 0, 1) := by decide +kernel
theorem dd_M_copy_39 : decode bb_M_copy 39 = .ok (.getfield 36, 3) := by decide +kernel
theorem dd_M_copy_42 : decode bb_M_copy 42 = .ok (.iload_n 1, 1) := by decide +kernel
theorem dd_M_copy_43 : decode bb_M_copy 43 = .ok (.iaload, 1) := by decide +kernel
theorem dd_M_copy_44 : decode bb_M_copy 44 = .ok (.iconst 0, 1) := by decide +kernel
theorem dd_M_copy_45 : decode bb_M_copy 45 = .ok (.invokevirtual 162, 3) := by decide +kernel
theorem dd_M_copy_48 : decode bb_M_copy 48 = .ok (.istore_n 2, 1) := by decide +kernel
theorem dd_M_copy_49 : decode bb_M_copy 49 = .ok (.iconst 0, 1) := by decide +kernel
theorem dd_M_copy_50 : decode bb_M_copy 50 = .ok (.istore_n 3, 1) := by decide +kernel
theorem dd_M_copy_51 : decode bb_M_copy 51 = .ok (.iload_n 3, 1) := by decide +kernel
theorem dd_M_copy_52 : decode bb_M_copy 52 = .ok (.bipush 8, 2) := by decide +kernel
theorem dd_M_copy_54 : decode bb_M_copy 54 = .ok (.if_icmp .ge 31, 3) := by decide +kernel
theorem dd_M_copy_57 : decode bb_M_copy 57 = .ok (.aload_n 0, 1) := by decide +kernel
theorem dd_M_copy_58 : decode bb_M_copy 58 = .ok (.getfield 42, 3) := by decide +kernel
theorem dd_M_copy_61 : decode bb_M_copy 61 = .ok (.bipush 8, 2) := by decide +kernel
theorem dd_M_copy_63 : decode bb_M_copy 63 = .ok (.iload_n 2, 1) := by decide +kernel
theorem dd_M_copy_64 : decode bb_M_copy 64 = .ok (.imul, 1) := by decide +kernel
theorem dd_M_copy_65 : decode bb_M_copy 65 = .ok (.iload_n 3, 1) := by decide +kernel
theorem dd_M_copy_66 : decode bb_M_copy 66 = .ok (.iadd, 1) := by decide +kernel
theorem dd_M_copy_67 : decode bb_M_copy 67 = .ok (.aload_n 0, 1) := by decide +kernel
theorem dd_M_copy_68 : decode bb_M_copy 68 = .ok (.getfield 42, 3) := by decide +kernel
theorem dd_M_copy_71 : decode bb_M_copy 71 = .ok (.bipush 8, 2) := by decide +kernel
theorem dd_M_copy_73 : decode bb_M_copy 73 = .ok (.iload_n 1, 1) := by decide +kernel
theorem dd_M_copy_74 : decode bb_M_copy 74 = .ok (.imul, 1) := by decide +kernel
theorem dd_M_copy_75 : decode bb_M_copy 75 = .ok (.iload_n 3, 1) := by decide +kernel
theorem dd_M_copy_76 : decode bb_M_copy 76 = .ok (.iadd, 1) := by decide +kernel
theorem dd_M_copy_77 : decode bb_M_copy 77 = .ok (.laload, 1) := by decide +kernel
theorem dd_M_copy_78 : decode bb_M_copy 78 = .ok (.lastore, 1) := by decide +kernel
theorem dd_M_copy_79 : decode bb_M_copy 79 = .ok (.iinc 3 1, 3) := by decide +kernel
theorem dd_M_copy_82 : decode bb_M_copy 82 = .ok (.goto (-31), 3) := by decide +kernel
theorem dd_M_copy_85 : decode bb_M_copy 85 = .ok (.iload_n 2, 1) := by decide +kernel
theorem dd_M_copy_86 : decode bb_M_copy 86 = .ok (.ireturn, 1) := by decide +kernel
theorem dd_M_count_0 : decode bb_M_count 0 = .ok (.iload_n 1, 1) := by decide +kernel
theorem dd_M_count_1 : decode bb_M_count 1 = .ok (.ifCond .ne 10, 3) := by decide +kernel
theorem dd_M_count_4 : decode bb_M_count 4 = .ok (.aload_n 0, 1) := by decide +kernel
theorem dd_M_count_5 : decode bb_M_count 5 = .ok (.getfield 29, 3) := by decide +kernel
theorem dd_M_count_8 : decode bb_M_count 8 = .ok (.goto 16, 3) := by decide +kernel
theorem dd_M_count_11 : decode bb_M_count 11 = .ok (.iload_n 1, 1) := by decide +kernel
theorem dd_M_count_12 : decode bb_M_count 12 = .ok (.iconst 1, 1) := by decide +kernel
theorem dd_M_count_13 : decode bb_M_count 13 = .ok (.if_icmp .ne 10, 3) := by decide +kernel
theorem dd_M_count_16 : decode bb_M_count 16 = .ok (.aload_n 0, 1) := by decide +kernel
theorem dd_M_count_17 : decode bb_M_count 17 = .ok (.getfield 49, 3) := by decide +kernel
theorem dd_M_count_20 : decode bb_M_count 20 = .ok (.goto 4, 3) := by decide +kernel
theorem dd_M_count_23 : decode bb_M_count 23 = .ok (.iconst (-1), 1) := by decide +kernel
theorem dd_M_count_24 : decode bb_M_count 24 = .ok (.ireturn, 1) := by decide +kernel
theorem dd_M_create_0 : decode bb_M_create 0 = .ok (.aload_n 0, 1) := by decide +kernel
theorem dd_M_create_1 : decode bb_M_create 1 = .ok (.getfield 49, 3) := by decide +kernel
theorem dd_M_create_4 : decode bb_M_create 4 = .ok (.istore 4, 2) := by decide +kernel
theorem dd_M_create_6 : decode bb_M_create 6 = .ok (.aload_n 0, 1) := by decide +kernel
theorem dd_M_create_7 : decode bb_M_create 7 = .ok (.getfield 33, 3) := by decide +kernel
theorem dd_M_create_10 : decode bb_M_create 10 = .ok (.iload 4, 2) := by decide +kernel
theorem dd_M_create_12 : decode bb_M_create 12 = .ok (.iload_n 1, 1) := by decide +kernel
theorem dd_M_create_13 : decode bb_M_create 13 = .ok (.iastore, 1) := by decide +kernel
theorem dd_M_create_14 : decode bb_M_create 14 = .ok (.aload_n 0, 1) := by decide +kernel
theorem dd_M_create_15 : decode bb_M_create 15 = .ok (.getfield 36, 3) := by decide +kernel
theorem dd_M_create_18 : decode bb_M_create 18 = .ok (.iload 4, 2) := by decide +kernel
theorem dd_M_create_20 : decode bb_M_create 20 = .ok (.iload_n 2, 1) := by decide +kernel
theorem dd_M_create_21 : decode bb_M_create 21 = .ok (.iastore, 1) := by decide +kernel
theorem dd_M_create_22 : decode bb_M_create 22 = .ok (.aload_n 0, 1) := by decide +kernel
theorem dd_M_create_23 : decode bb_M_create 23 = .ok (.getfield 39, 3) := by decide +kernel
theorem dd_M_create_26 : decode bb_M_create 26 = .ok (.iload 4, 2) := by decide +kernel
theorem dd_M_create_28 : decode bb_M_create 28 = .ok (.iload_n 3, 1) := by decide +kernel
theorem dd_M_create_29 : decode bb_M_create 29 = .ok (.iastore, 1) := by decide +kernel
theorem dd_M_create_30 : decode bb_M_create 30 = .ok (.iconst 0, 1) := by decide +kernel
theorem dd_M_create_31 : decode bb_M_create 31 = .ok (.istore 5, 2) := by decide +kernel
theorem dd_M_create_33 : decode bb_M_create 33 = .ok (.iload 5, 2) := by decide +kernel
theorem dd_M_create_35 : decode bb_M_create 35 = .ok (.bipush 8, 2) := by decide +kernel
theorem dd_M_create_37 : decode bb_M_create 37 = .ok (.if_icmp .ge 45, 3) := by decide +kernel
theorem dd_M_create_40 : decode bb_M_create 40 = .ok (.aload_n 0, 1) := by decide +kernel
theorem dd_M_create_41 : decode bb_M_create 41 = .ok (.getfield 42, 3) := by decide +kernel
theorem dd_M_create_44 : decode bb_M_create 44 = .ok (.bipush 8, 2) := by decide +kernel
theorem dd_M_create_46 : decode bb_M_create 46 = .ok (.iload 4, 2) := by decide +kernel
theorem dd_M_create_48 : decode bb_M_create 48 = .ok (.imul, 1) := by decide +kernel
theorem dd_M_create_49 : decode bb_M_create 49 = .ok (.iload 5, 2) := by decide +kernel
theorem dd_M_create_51 : decode bb_M_create 51 = .ok (.iadd, 1) := by decide +kernel
theorem dd_M_create_52 : decode bb_M_create 52 = .ok (.iload_n 2, 1) := by decide +kernel
theorem dd_M_create_53 : decode bb_M_create 53 = .ok (.ifCond .lt 21, 3) := by decide +kernel
theorem dd_M_create_56 : decode bb_M_create 56 = .ok (.aload_n 0, 1) := by decide +kernel
theorem dd_M_create_57 : decode bb_M_create 57 = .ok (.getfield 23, 3) := by decide +kernel
theorem dd_M_create_60 : decode bb_M_create 60 = .ok (.iload_n 1, 1) := by decide +kernel
theorem dd_M_create_61 : decode bb_M_create 61 = .ok (.iaload, 1) := by decide +kernel
theorem dd_M_create_62 : decode bb_M_create 62 = .ok (.invokestatic 64, 3) := by decide +kernel
theorem dd_M_create_65 : decode bb_M_create 65 = .ok (.ifCond .ne 9, 3) := by decide +kernel
theorem dd_M_create_68 : decode bb_M_create 68 = .ok (.ldc2_w 160, 3) := by decide +kernel
theorem dd_M_create_71 : decode bb_M_create 71 = .ok (.goto 4, 3) := by decide +kernel
theorem dd_M_create_74 : decode bb_M_create 74 = .ok (.lconst 0, 1) := by decide +kernel
theorem dd_M_create_75 : decode bb_M_create 75 = .ok (.lastore, 1) := by decide +kernel
theorem dd_M_create_76 : decode bb_M_create 76 = .ok (.iinc 5 1, 3) := by decide +kernel
theorem dd_M_create_79 : decode bb_M_create 79 = .ok (.goto (-46), 3) := by decide +kernel
theorem dd_M_create_82 : decode bb_M_create 82 = .ok (.aload_n 0, 1) := by decide +kernel
theorem dd_M_create_83 : decode bb_M_create 83 = .ok (.dup, 1) := by decide +kernel
theorem dd_M_create_84 : decode bb_M_create 84 = .ok (.getfield 49, 3) := by decide +kernel
theorem dd_M_create_87 : decode bb_M_create 87 = .ok (.iconst 1, 1) := by decide +kernel
theorem dd_M_create_88 : decode bb_M_create 88 = .ok (.iadd, 1) := by decide +kernel
theorem dd_M_create_89 : decode bb_M_create 89 = .ok (.putfield 49, 3) := by decide +kernel
theorem dd_M_create_92 : decode bb_M_create 92 = .ok (.iload 4, 2) := by decide +kernel
theorem dd_M_create_94 : decode bb_M_create 94 = .ok (.ireturn, 1) := by decide +kernel
theorem dd_M_describe_0 : decode bb_M_describe 0 = .ok (.iconst 0, 1) := by decide +kernel
theorem dd_M_describe_1 : decode bb_M_describe 1 = .ok (.istore_n 3, 1) := by decide +kernel
theorem dd_M_describe_2 : decode bb_M_describe 2 = .ok (.iload_n 3, 1) := by decide +kernel
theorem dd_M_describe_3 : decode bb_M_describe 3 = .ok (.aload_n 0, 1) := by decide +kernel
theorem dd_M_describe_4 : decode bb_M_describe 4 = .ok (.getfield 26, 3) := by decide +kernel
theorem dd_M_describe_7 : decode bb_M_describe 7 = .ok (.iload_n 1, 1) := by decide +kernel
theorem dd_M_describe_8 : decode bb_M_describe 8 = .ok (.iaload, 1) := by decide +kernel
theorem dd_M_describe_9 : decode bb_M_describe 9 = .ok (.if_icmp .ge 15, 3) := by decide +kernel
theorem dd_M_describe_12 : decode bb_M_describe 12 = .ok (.aload_n 0, 1) := by decide +kernel
theorem dd_M_describe_13 : decode bb_M_describe 13 = .ok (.bipush 91, 2) := by decide +kernel
theorem dd_M_describe_15 : decode bb_M_describe 15 = .ok (.invokevirtual 79, 3) := by decide +kernel
theorem dd_M_describe_18 : decode bb_M_describe 18 = .ok (.iinc 3 1, 3) := by decide +kernel
theorem dd_M_describe_21 : decode bb_M_describe 21 = .ok (.goto (-19), 3) := by decide +kernel
theorem dd_M_describe_24 : decode bb_M_describe 24 = .ok (.aload_n 0, 1) := by decide +kernel
theorem dd_M_describe_25 : decode bb_M_describe 25 = .ok (.iload_n 1, 1) := by decide +kernel
theorem dd_M_describe_26 : decode bb_M_describe 26 = .ok (.invokevirtual 71, 3) := by decide +kernel
theorem dd_M_describe_29 : decode bb_M_describe 29 = .ok (.istore_n 3, 1) := by decide +kernel
theorem dd_M_describe_30 : decode bb_M_describe 30 = .ok (.iload_n 3, 1) := by decide +kernel
theorem dd_M_describe_31 : decode bb_M_describe 31 = .ok (.bipush 8, 2) := by decide +kernel
theorem dd_M_describe_33 : decode bb_M_describe 33 = .ok (.if_icmp .gt 12, 3) := by decide +kernel
theorem dd_M_describe_36 : decode bb_M_describe 36 = .ok (.aload_n 0, 1) := by decide +kernel
theorem dd_M_describe_37 : decode bb_M_describe 37 = .ok (.iload_n 3, 1) := by decide +kernel
theorem dd_M_describe_38 : decode bb_M_describe 38 = .ok (.invokestatic 150, 3) := by decide +kernel
theorem dd_M_describe_41 : decode bb_M_describe 41 = .ok (.invokevirtual 79, 3) := by decide +kernel
theorem dd_M_describe_44 : decode bb_M_describe 44 = .ok (.return_, 1) := by decide +kernel
theorem dd_M_describe_45 : decode bb_M_describe 45 = .ok (.aload_n 0, 1) := by decide +kernel
theorem dd_M_describe_46 : decode bb_M_describe 46 = .ok (.bipush 76, 2) := by decide +kernel
theorem dd_M_describe_48 : decode bb_M_describe 48 = .ok (.invokevirtual 79, 3) := by decide +kernel
theorem dd_M_describe_51 : decode bb_M_describe 51 = .ok (.aload_n 0, 1) := by decide +kernel
theorem dd_M_describe_52 : decode bb_M_describe 52 = .ok (.getfield 74, 3) := by decide +kernel
theorem dd_M_describe_55 : decode bb_M_describe 55 = .ok (.istore 4, 2) := by decide +kernel
theorem dd_M_describe_57 : decode bb_M_describe 57 = .ok (.aload_n 0, 1) := by decide +kernel
theorem dd_M_describe_58 : decode bb_M_describe 58 = .ok (.iload_n 3, 1) := by decide +kernel
theorem dd_M_describe_59 : decode bb_M_describe 59 = .ok (.invokevirtual 153, 3) := by decide +kernel
theorem dd_M_describe_62 : decode bb_M_describe 62 = .ok (.iload 4, 2) := by decide +kernel
theorem dd_M_describe_64 : decode bb_M_describe 64 = .ok (.istore 5, 2) := by decide +kernel
theorem dd_M_describe_66 : decode bb_M_describe 66 = .ok (.iload 5, 2) := by decide +kernel
theorem dd_M_describe_68 : decode bb_M_describe 68 = .ok (.aload_n 0, 1) := by decide +kernel
theorem dd_M_describe_69 : decode bb_M_describe 69 = .ok (.getfield 74, 3) := by decide +kernel
theorem dd_M_describe_72 : decode bb_M_describe 72 = .ok (.if_icmp .ge 34, 3) := by decide +kernel
theorem dd_M_describe_75 : decode bb_M_describe 75 = .ok (.iload_n 2, 1) := by decide +kernel
theorem dd_M_describe_76 : decode bb_M_describe 76 = .ok (.ifCond .eq 24, 3) := by decide +kernel
theorem dd_M_describe_79 : decode bb_M_describe 79 = .ok (.aload_n 0, 1) := by decide +kernel
theorem dd_M_describe_80 : decode bb_M_describe 80 = .ok (.getfield 46, 3) := by decide +kernel
theorem dd_M_describe_83 : decode bb_M_describe 83 = .ok (.iload 5, 2) := by decide +kernel
theorem dd_M_describe_85 : decode bb_M_describe 85 = .ok (.iaload, 1) := by decide +kernel
theorem dd_M_describe_86 : decode bb_M_describe 86 = .ok (.bipush 46, 2) := by decide +kernel
theorem dd_M_describe_88 : decode bb_M_describe 88 = .ok (.if_icmp .ne 12, 3) := by decide +kernel
theorem dd_M_describe_91 : decode bb_M_describe 91 = .ok (.aload_n 0, 1) := by decide +kernel
theorem dd_M_describe_92 : decode bb_M_describe 92 = .ok (.getfield 46, 3) := by decide +kernel
theorem dd_M_describe_95 : decode bb_M_describe 95 = .ok (.iload 5, 2) := by decide +kernel
theorem dd_M_describe_97 : decode bb_M_describe 97 = .ok (.bipush 47, 2) := by decide +kernel
theorem dd_M_describe_99 : decode bb_M_describe 99 = .ok (.iastore, 1) := by decide +kernel
theorem dd_M_describe_100 : decode bb_M_describe 100 = .ok (.iinc 5 1, 3) := by decide +kernel
theorem dd_M_describe_103 : decode bb_M_describe 103 = .ok (.goto (-37), 3) := by decide +kernel
theorem dd_M_describe_106 : decode bb_M_describe 106 = .ok (.aload_n 0, 1) := by decide +kernel
theorem dd_M_describe_107 : decode bb_M_describe 107 = .ok (.bipush 59, 2) := by decide +kernel
theorem dd_M_describe_109 : decode bb_M_describe 109 = .ok (.invokevirtual 79, 3) := by decide +kernel
theorem dd_M_describe_112 : decode bb_M_describe 112 = .ok (.return_, 1) := by decide +kernel
theorem dd_M_dimensions_0 : decode bb_M_dimensions 0 = .ok (.aload_n 0, 1) := by decide +kernel
theorem dd_M_dimensions_1 : decode bb_M_dimensions 1 = .ok (.iload_n 1, 1) := by decide +kernel
theorem dd_M_dimensions_2 : decode bb_M_dimensions 2 = .ok (.invokevirtual 52, 3) := by decide +kernel
theorem dd_M_dimensions_5 : decode bb_M_dimensions 5 = .ok (.ifCond .eq 7, 3) := by decide +kernel
theorem dd_M_dimensions_8 : decode bb_M_dimensions 8 = .ok (.iconst (-1), 1) := by decide +kernel
theorem dd_M_dimensions_9 : decode bb_M_dimensions 9 = .ok (.goto 9, 3) := by decide +kernel
theorem dd_M_dimensions_12 : decode bb_M_dimensions 12 = .ok (.aload_n 0, 1) := by decide +kernel
theorem dd_M_dimensions_13 : decode bb_M_dimensions 13 = .ok (.getfield 26, 3) := by decide +kernel
theorem dd_M_dimensions_16 : decode bb_M_dimensions 16 = .ok (.iload_n 1, 1) := by decide +kernel
theorem dd_M_dimensions_17 : decode bb_M_dimensions 17 = .ok (.iaload, 1) := by decide +kernel
theorem dd_M_dimensions_18 : decode bb_M_dimensions 18 = .ok (.ireturn, 1) := by decide +kernel
theorem dd_M_enter_0 : decode bb_M_enter 0 = .ok (.iload_n 1, 1) := by decide +kernel
theorem dd_M_enter_1 : decode bb_M_enter 1 = .ok (.aload_n 0, 1) := by decide +kernel
theorem dd_M_enter_2 : decode bb_M_enter 2 = .ok (.getfield 29, 3) := by decide +kernel
theorem dd_M_enter_5 : decode bb_M_enter 5 = .ok (.if_icmp .ge 4, 3) := by decide +kernel
theorem dd_M_enter_8 : decode bb_M_enter 8 = .ok (.return_, 1) := by decide +kernel
theorem dd_M_enter_9 : decode bb_M_enter 9 = .ok (.aload_n 0, 1) := by decide +kernel
theorem dd_M_enter_10 : decode bb_M_enter 10 = .ok (.getfield 23, 3) := by decide +kernel
theorem dd_M_enter_13 : decode bb_M_enter 13 = .ok (.iload_n 1, 1) := by decide +kernel
theorem dd_M_enter_14 : decode bb_M_enter 14 = .ok (.iload_n 2, 1) := by decide +kernel
theorem dd_M_enter_15 : decode bb_M_enter 15 = .ok (.iastore, 1) := by decide +kernel
theorem dd_M_enter_16 : decode bb_M_enter 16 = .ok (.aload_n 0, 1) := by decide +kernel
theorem dd_M_enter_17 : decode bb_M_enter 17 = .ok (.getfield 26, 3) := by decide +kernel
theorem dd_M_enter_20 : decode bb_M_enter 20 = .ok (.iload_n 1, 1) := by decide +kernel
theorem dd_M_enter_21 : decode bb_M_enter 21 = .ok (.aload_n 0, 1) := by decide +kernel
theorem dd_M_enter_22 : decode bb_M_enter 22 = .ok (.getfield 26, 3) := by decide +kernel
theorem dd_M_enter_25 : decode bb_M_enter 25 = .ok (.iload_n 2, 1) := by decide +kernel
theorem dd_M_enter_26 : decode bb_M_enter 26 = .ok (.iaload, 1) := by decide +kernel
theorem dd_M_enter_27 : decode bb_M_enter 27 = .ok (.iconst 1, 1) := by decide +kernel
theorem dd_M_enter_28 : decode bb_M_enter 28 = .ok (.iadd, 1) := by decide +kernel
theorem dd_M_enter_29 : decode bb_M_enter 29 = .ok (.iastore, 1) := by decide +kernel
theorem dd_M_enter_30 : decode bb_M_enter 30 = .ok (.aload_n 0, 1) := by decide +kernel
theorem dd_M_enter_31 : decode bb_M_enter 31 = .ok (.dup, 1) := by decide +kernel
theorem dd_M_enter_32 : decode bb_M_enter 32 = .ok (.getfield 29, 3) := by decide +kernel
theorem dd_M_enter_35 : decode bb_M_enter 35 = .ok (.iconst 1, 1) := by decide +kernel
theorem dd_M_enter_36 : decode bb_M_enter 36 = .ok (.iadd, 1) := by decide +kernel
theorem dd_M_enter_37 : decode bb_M_enter 37 = .ok (.putfield 29, 3) := by decide +kernel
theorem dd_M_enter_40 : decode bb_M_enter 40 = .ok (.return_, 1) := by decide +kernel
theorem dd_M_get_0 : decode bb_M_get 0 = .ok (.aload_n 0, 1) := by decide +kernel
theorem dd_M_get_1 : decode bb_M_get 1 = .ok (.iload_n 1, 1) := by decide +kernel
theorem dd_M_get_2 : decode bb_M_get 2 = .ok (.invokevirtual 166, 3) := by decide +kernel
theorem dd_M_get_5 : decode bb_M_get 5 = .ok (.ifCond .ne 21, 3) := by decide +kernel
theorem dd_M_get_8 : decode bb_M_get 8 = .ok (.aload_n 0, 1) := by decide +kernel
theorem dd_M_get_9 : decode bb_M_get 9 = .ok (.iload_n 1, 1) := by decide +kernel
theorem dd_M_get_10 : decode bb_M_get 10 = .ok (.invokevirtual 169, 3) := by decide +kernel
theorem dd_M_get_13 : decode bb_M_get 13 = .ok (.iconst 1, 1) := by decide +kernel
theorem dd_M_get_14 : decode bb_M_get 14 = .ok (.if_icmp .ne 12, 3) := by decide +kernel
theorem dd_M_get_17 : decode bb_M_get 17 = .ok (.aload_n 0, 1) := by decide +kernel
theorem dd_M_get_18 : decode bb_M_get 18 = .ok (.iload_n 1, 1) := by decide +kernel
theorem dd_M_get_19 : decode bb_M_get 19 = .ok (.iload_n 2, 1) := by decide +kernel
theorem dd_M_get_20 : decode bb_M_get 20 = .ok (.invokevirtual 172, 3) := by decide +kernel
theorem dd_M_get_23 : decode bb_M_get 23 = .ok (.ifCond .eq 9, 3) := by decide +kernel
theorem dd_M_get_26 : decode bb_M_get 26 = .ok (.ldc2_w 188, 3) := by decide +kernel
theorem dd_M_get_29 : decode bb_M_get 29 = .ok (.goto 14, 3) := by decide +kernel
theorem dd_M_get_32 : decode bb_M_get 32 = .ok (.aload_n 0, 1) := by decide +kernel
theorem dd_M_get_33 : decode bb_M_get 33 = .ok (.getfield 42, 3) := by decide +kernel
theorem dd_M_get_36 : decode bb_M_get 36 = .ok (.bipush 8, 2) := by decide +kernel
theorem dd_M_get_38 : decode bb_M_get 38 = .ok (.iload_n 1, 1) := by decide +kernel
theorem dd_M_get_39 : decode bb_M_get 39 = .ok (.imul, 1) := by decide +kernel
theorem dd_M_get_40 : decode bb_M_get 40 = .ok (.iload_n 2, 1) := by decide +kernel
theorem dd_M_get_41 : decode bb_M_get 41 = .ok (.iadd, 1) := by decide +kernel
theorem dd_M_get_42 : decode bb_M_get 42 = .ok (.laload, 1) := by decide +kernel
theorem dd_M_get_43 : decode bb_M_get 43 = .ok (.lreturn, 1) := by decide +kernel
theorem dd_M_instance_0 : decode bb_M_instance 0 = .ok (.aload_n 0, 1) := by decide +kernel
theorem dd_M_instance_1 : decode bb_M_instance 1 = .ok (.iload_n 1, 1) := by decide +kernel
theorem dd_M_instance_2 : decode bb_M_instance 2 = .ok (.invokevirtual 52, 3) := by decide +kernel
theorem dd_M_instance_5 : decode bb_M_instance 5 = .ok (.ifCond .ne 11, 3) := by decide +kernel
theorem dd_M_instance_8 : decode bb_M_instance 8 = .ok (.aload_n 0, 1) := by decide +kernel
theorem dd_M_instance_9 : decode bb_M_instance 9 = .ok (.iload_n 2, 1) := by decide +kernel
theorem dd_M_instance_10 : decode bb_M_instance 10 = .ok (.invokevirtual 166, 3) := by decide +kernel
theorem dd_M_instance_13 : decode bb_M_instance 13 = .ok (.ifCond .eq 7, 3) := by decide +kernel
theorem dd_M_instance_16 : decode bb_M_instance 16 = .ok (.iconst (-1), 1) := by decide +kernel
theorem dd_M_instance_17 : decode bb_M_instance 17 = .ok (.goto 22, 3) := by decide +kernel
theorem dd_M_instance_20 : decode bb_M_instance 20 = .ok (.aload_n 0, 1) := by decide +kernel
theorem dd_M_instance_21 : decode bb_M_instance 21 = .ok (.iload_n 1, 1) := by decide +kernel
theorem dd_M_instance_22 : decode bb_M_instance 22 = .ok (.aload_n 0, 1) := by decide +kernel
theorem dd_M_instance_23 : decode bb_M_instance 23 = .ok (.getfield 33, 3) := by decide +kernel
theorem dd_M_instance_26 : decode bb_M_instance 26 = .ok (.iload_n 2, 1) := by decide +kernel
theorem dd_M_instance_27 : decode bb_M_instance 27 = .ok (.iaload, 1) := by decide +kernel
theorem dd_M_instance_28 : decode bb_M_instance 28 = .ok (.invokevirtual 67, 3) := by decide +kernel
theorem dd_M_instance_31 : decode bb_M_instance 31 = .ok (.ifCond .eq 7, 3) := by decide +kernel
theorem dd_M_instance_34 : decode bb_M_instance 34 = .ok (.iconst 1, 1) := by decide +kernel
theorem dd_M_instance_35 : decode bb_M_instance 35 = .ok (.goto 4, 3) := by decide +kernel
theorem dd_M_instance_38 : decode bb_M_instance 38 = .ok (.iconst 0, 1) := by decide +kernel
theorem dd_M_instance_39 : decode bb_M_instance 39 = .ok (.ireturn, 1) := by decide +kernel
theorem dd_M_kinds_0 : decode bb_M_kinds 0 = .ok (.aload_n 0, 1) := by decide +kernel
theorem dd_M_kinds_1 : decode bb_M_kinds 1 = .ok (.iload_n 1, 1) := by decide +kernel
theorem dd_M_kinds_2 : decode bb_M_kinds 2 = .ok (.invokevirtual 52, 3) := by decide +kernel
theorem dd_M_kinds_5 : decode bb_M_kinds 5 = .ok (.ifCond .eq 5, 3) := by decide +kernel
theorem dd_M_kinds_8 : decode bb_M_kinds 8 = .ok (.iconst (-1), 1) := by decide +kernel
theorem dd_M_kinds_9 : decode bb_M_kinds 9 = .ok (.ireturn, 1) := by decide +kernel
theorem dd_M_kinds_10 : decode bb_M_kinds 10 = .ok (.aload_n 0, 1) := by decide +kernel
theorem dd_M_kinds_11 : decode bb_M_kinds 11 = .ok (.getfield 26, 3) := by decide +kernel
theorem dd_M_kinds_14 : decode bb_M_kinds 14 = .ok (.iload_n 1, 1) := by decide +kernel
theorem dd_M_kinds_15 : decode bb_M_kinds 15 = .ok (.iaload, 1) := by decide +kernel
theorem dd_M_kinds_16 : decode bb_M_kinds 16 = .ok (.ifCond .le 5, 3) := by decide +kernel
theorem dd_M_kinds_19 : decode bb_M_kinds 19 = .ok (.iconst 4, 1) := by decide +kernel
theorem dd_M_kinds_20 : decode bb_M_kinds 20 = .ok (.ireturn, 1) := by decide +kernel
theorem dd_M_kinds_21 : decode bb_M_kinds 21 = .ok (.iload_n 1, 1) := by decide +kernel
theorem dd_M_kinds_22 : decode bb_M_kinds 22 = .ok (.bipush 8, 2) := by decide +kernel
theorem dd_M_kinds_24 : decode bb_M_kinds 24 = .ok (.if_icmp .gt 7, 3) := by decide +kernel
theorem dd_M_kinds_27 : decode bb_M_kinds 27 = .ok (.iconst 1, 1) := by decide +kernel
theorem dd_M_kinds_28 : decode bb_M_kinds 28 = .ok (.goto 21, 3) := by decide +kernel
theorem dd_M_kinds_31 : decode bb_M_kinds 31 = .ok (.aload_n 0, 1) := by decide +kernel
theorem dd_M_kinds_32 : decode bb_M_kinds 32 = .ok (.getfield 7, 3) := by decide +kernel
theorem dd_M_kinds_35 : decode bb_M_kinds 35 = .ok (.iload_n 1, 1) := by decide +kernel
theorem dd_M_kinds_36 : decode bb_M_kinds 36 = .ok (.iaload, 1) := by decide +kernel
theorem dd_M_kinds_37 : decode bb_M_kinds 37 = .ok (.sipush 512, 3) := by decide +kernel
theorem dd_M_kinds_40 : decode bb_M_kinds 40 = .ok (.iand, 1) := by decide +kernel
theorem dd_M_kinds_41 : decode bb_M_kinds 41 = .ok (.ifCond .eq 7, 3) := by decide +kernel
theorem dd_M_kinds_44 : decode bb_M_kinds 44 = .ok (.iconst 2, 1) := by decide +kernel
theorem dd_M_kinds_45 : decode bb_M_kinds 45 = .ok (.goto 4, 3) := by decide +kernel
theorem dd_M_kinds_48 : decode bb_M_kinds 48 = .ok (.iconst 0, 1) := by decide +kernel
theorem dd_M_kinds_49 : decode bb_M_kinds 49 = .ok (.istore_n 2, 1) := by decide +kernel
theorem dd_M_kinds_50 : decode bb_M_kinds 50 = .ok (.iload_n 2, 1) := by decide +kernel
theorem dd_M_kinds_51 : decode bb_M_kinds 51 = .ok (.iload_n 1, 1) := by decide +kernel
theorem dd_M_kinds_52 : decode bb_M_kinds 52 = .ok (.bipush 19, 2) := by decide +kernel
theorem dd_M_kinds_54 : decode bb_M_kinds 54 = .ok (.if_icmp .ne 8, 3) := by decide +kernel
theorem dd_M_kinds_57 : decode bb_M_kinds 57 = .ok (.bipush 8, 2) := by decide +kernel
theorem dd_M_kinds_59 : decode bb_M_kinds 59 = .ok (.goto 15, 3) := by decide +kernel
theorem dd_M_kinds_62 : decode bb_M_kinds 62 = .ok (.iload_n 1, 1) := by decide +kernel
theorem dd_M_kinds_63 : decode bb_M_kinds 63 = .ok (.bipush 20, 2) := by decide +kernel
theorem dd_M_kinds_65 : decode bb_M_kinds 65 = .ok (.if_icmp .ne 8, 3) := by decide +kernel
theorem dd_M_kinds_68 : decode bb_M_kinds 68 = .ok (.bipush 16, 2) := by decide +kernel
theorem dd_M_kinds_70 : decode bb_M_kinds 70 = .ok (.goto 4, 3) := by decide +kernel
theorem dd_M_kinds_73 : decode bb_M_kinds 73 = .ok (.iconst 0, 1) := by decide +kernel
theorem dd_M_kinds_74 : decode bb_M_kinds 74 = .ok (.iadd, 1) := by decide +kernel
theorem dd_M_kinds_75 : decode bb_M_kinds 75 = .ok (.iload_n 1, 1) := by decide +kernel
theorem dd_M_kinds_76 : decode bb_M_kinds 76 = .ok (.bipush 13, 2) := by decide +kernel
theorem dd_M_kinds_78 : decode bb_M_kinds 78 = .ok (.if_icmp .lt 8, 3) := by decide +kernel
theorem dd_M_kinds_81 : decode bb_M_kinds 81 = .ok (.bipush 32, 2) := by decide +kernel
theorem dd_M_kinds_83 : decode bb_M_kinds 83 = .ok (.goto 4, 3) := by decide +kernel
theorem dd_M_kinds_86 : decode bb_M_kinds 86 = .ok (.iconst 0, 1) := by decide +kernel
theorem dd_M_kinds_87 : decode bb_M_kinds 87 = .ok (.iadd, 1) := by decide +kernel
theorem dd_M_kinds_88 : decode bb_M_kinds 88 = .ok (.ireturn, 1) := by decide +kernel
theorem dd_M_label_0 : decode bb_M_label 0 = .ok (.aload_n 0, 1) := by decide +kernel
theorem dd_M_label_1 : decode bb_M_label 1 = .ok (.iload_n 1, 1) := by decide +kernel
theorem dd_M_label_2 : decode bb_M_label 2 = .ok (.invokevirtual 166, 3) := by decide +kernel
theorem dd_M_label_5 : decode bb_M_label 5 = .ok (.ifCond .eq 5, 3) := by decide +kernel
theorem dd_M_label_8 : decode bb_M_label 8 = .ok (.iconst (-1), 1) := by decide +kernel
theorem dd_M_label_9 : decode bb_M_label 9 = .ok (.ireturn, 1) := by decide +kernel
theorem dd_M_label_10 : decode bb_M_label 10 = .ok (.aload_n 0, 1) := by decide +kernel
theorem dd_M_label_11 : decode bb_M_label 11 = .ok (.getfield 33, 3) := by decide +kernel
theorem dd_M_label_14 : decode bb_M_label 14 = .ok (.iload_n 1, 1) := by decide +kernel
theorem dd_M_label_15 : decode bb_M_label 15 = .ok (.iaload, 1) := by decide +kernel
theorem dd_M_label_16 : decode bb_M_label 16 = .ok (.istore_n 2, 1) := by decide +kernel
theorem dd_M_label_17 : decode bb_M_label 17 = .ok (.iload_n 2, 1) := by decide +kernel
theorem dd_M_label_18 : decode bb_M_label 18 = .ok (.bipush 16, 2) := by decide +kernel
theorem dd_M_label_20 : decode bb_M_label 20 = .ok (.if_icmp .eq 9, 3) := by decide +kernel
theorem dd_M_label_23 : decode bb_M_label 23 = .ok (.iload_n 2, 1) := by decide +kernel
theorem dd_M_label_24 : decode bb_M_label 24 = .ok (.bipush 17, 2) := by decide +kernel
theorem dd_M_label_26 : decode bb_M_label 26 = .ok (.if_icmp .ne 8, 3) := by decide +kernel
theorem dd_M_label_29 : decode bb_M_label 29 = .ok (.bipush 100, 2) := by decide +kernel
theorem dd_M_label_31 : decode bb_M_label 31 = .ok (.goto 40, 3) := by decide +kernel
theorem dd_M_label_34 : decode bb_M_label 34 = .ok (.iload_n 2, 1) := by decide +kernel
theorem dd_M_label_35 : decode bb_M_label 35 = .ok (.bipush 18, 2) := by decide +kernel
theorem dd_M_label_37 : decode bb_M_label 37 = .ok (.if_icmp .ne 9, 3) := by decide +kernel
theorem dd_M_label_40 : decode bb_M_label 40 = .ok (.sipush 200, 3) := by decide +kernel
theorem dd_M_label_43 : decode bb_M_label 43 = .ok (.goto 28, 3) := by decide +kernel
theorem dd_M_label_46 : decode bb_M_label 46 = .ok (.iload_n 2, 1) := by decide +kernel
theorem dd_M_label_47 : decode bb_M_label 47 = .ok (.bipush 20, 2) := by decide +kernel
theorem dd_M_label_49 : decode bb_M_label 49 = .ok (.if_icmp .ne 9, 3) := by decide +kernel
theorem dd_M_label_52 : decode bb_M_label 52 = .ok (.sipush 300, 3) := by decide +kernel
theorem dd_M_label_55 : decode bb_M_label 55 = .ok (.goto 16, 3) := by decide +kernel
theorem dd_M_label_58 : decode bb_M_label 58 = .ok (.iload_n 2, 1) := by decide +kernel
theorem dd_M_label_59 : decode bb_M_label 59 = .ok (.bipush 19, 2) := by decide +kernel
theorem dd_M_label_61 : decode bb_M_label 61 = .ok (.if_icmp .ne 9, 3) := by decide +kernel
theorem dd_M_label_64 : decode bb_M_label 64 = .ok (.sipush 400, 3) := by decide +kernel
theorem dd_M_label_67 : decode bb_M_label 67 = .ok (.goto 4, 3) := by decide +kernel
theorem dd_M_label_70 : decode bb_M_label 70 = .ok (.iconst 0, 1) := by decide +kernel
theorem dd_M_label_71 : decode bb_M_label 71 = .ok (.istore_n 3, 1) := by decide +kernel
theorem dd_M_label_72 : decode bb_M_label 72 = .ok (.iload_n 3, 1) := by decide +kernel
theorem dd_M_label_73 : decode bb_M_label 73 = .ok (.ifCond .ne 7, 3) := by decide +kernel
theorem dd_M_label_76 : decode bb_M_label 76 = .ok (.iconst (-1), 1) := by decide +kernel
theorem dd_M_label_77 : decode bb_M_label 77 = .ok (.goto 11, 3) := by decide +kernel
theorem dd_M_label_80 : decode bb_M_label 80 = .ok (.iload_n 3, 1) := by decide +kernel
theorem dd_M_label_81 : decode bb_M_label 81 = .ok (.aload_n 0, 1) := by decide +kernel
theorem dd_M_label_82 : decode bb_M_label 82 = .ok (.getfield 39, 3) := by decide +kernel
theorem dd_M_label_85 : decode bb_M_label 85 = .ok (.iload_n 1, 1) := by decide +kernel
theorem dd_M_label_86 : decode bb_M_label 86 = .ok (.iaload, 1) := by decide +kernel
theorem dd_M_label_87 : decode bb_M_label 87 = .ok (.iadd, 1) := by decide +kernel
theorem dd_M_label_88 : decode bb_M_label 88 = .ok (.ireturn, 1) := by decide +kernel
theorem dd_M_length_0 : decode bb_M_length 0 = .ok (.aload_n 0, 1) := by decide +kernel
theorem dd_M_length_1 : decode bb_M_length 1 = .ok (.iload_n 1, 1) := by decide +kernel
theorem dd_M_length_2 : decode bb_M_length 2 = .ok (.invokevirtual 166, 3) := by decide +kernel
theorem dd_M_length_5 : decode bb_M_length 5 = .ok (.ifCond .ne 12, 3) := by decide +kernel
theorem dd_M_length_8 : decode bb_M_length 8 = .ok (.aload_n 0, 1) := by decide +kernel
theorem dd_M_length_9 : decode bb_M_length 9 = .ok (.getfield 36, 3) := by decide +kernel
theorem dd_M_length_12 : decode bb_M_length 12 = .ok (.iload_n 1, 1) := by decide +kernel
theorem dd_M_length_13 : decode bb_M_length 13 = .ok (.iaload, 1) := by decide +kernel
theorem dd_M_length_14 : decode bb_M_length 14 = .ok (.ifCond .ge 7, 3) := by decide +kernel
theorem dd_M_length_17 : decode bb_M_length 17 = .ok (.iconst (-1), 1) := by decide +kernel
theorem dd_M_length_18 : decode bb_M_length 18 = .ok (.goto 9, 3) := by decide +kernel
theorem dd_M_length_21 : decode bb_M_length 21 = .ok (.aload_n 0, 1) := by decide +kernel
theorem dd_M_length_22 : decode bb_M_length 22 = .ok (.getfield 36, 3) := by decide +kernel
theorem dd_M_length_25 : decode bb_M_length 25 = .ok (.iload_n 1, 1) := by decide +kernel
theorem dd_M_length_26 : decode bb_M_length 26 = .ok (.iaload, 1) := by decide +kernel
theorem dd_M_length_27 : decode bb_M_length 27 = .ok (.ireturn, 1) := by decide +kernel
theorem dd_M_letter_0 : decode bb_M_letter 0 = .ok (.aload_n 0, 1) := by decide +kernel
theorem dd_M_letter_1 : decode bb_M_letter 1 = .ok (.getfield 46, 3) := by decide +kernel
theorem dd_M_letter_4 : decode bb_M_letter 4 = .ok (.aload_n 0, 1) := by decide +kernel
theorem dd_M_letter_5 : decode bb_M_letter 5 = .ok (.getfield 74, 3) := by decide +kernel
theorem dd_M_letter_8 : decode bb_M_letter 8 = .ok (.iload_n 1, 1) := by decide +kernel
theorem dd_M_letter_9 : decode bb_M_letter 9 = .ok (.iastore, 1) := by decide +kernel
theorem dd_M_letter_10 : decode bb_M_letter 10 = .ok (.aload_n 0, 1) := by decide +kernel
theorem dd_M_letter_11 : decode bb_M_letter 11 = .ok (.dup, 1) := by decide +kernel
theorem dd_M_letter_12 : decode bb_M_letter 12 = .ok (.getfield 74, 3) := by decide +kernel
theorem dd_M_letter_15 : decode bb_M_letter 15 = .ok (.iconst 1, 1) := by decide +kernel
theorem dd_M_letter_16 : decode bb_M_letter 16 = .ok (.iadd, 1) := by decide +kernel
theorem dd_M_letter_17 : decode bb_M_letter 17 = .ok (.putfield 74, 3) := by decide +kernel
theorem dd_M_letter_20 : decode bb_M_letter 20 = .ok (.return_, 1) := by decide +kernel
theorem dd_M_load_0 : decode bb_M_load 0 = .ok (.aload_n 0, 1) := by decide +kernel
theorem dd_M_load_1 : decode bb_M_load 1 = .ok (.iload_n 1, 1) := by decide +kernel
theorem dd_M_load_2 : decode bb_M_load 2 = .ok (.invokevirtual 166, 3) := by decide +kernel
theorem dd_M_load_5 : decode bb_M_load 5 = .ok (.ifCond .ne 12, 3) := by decide +kernel
theorem dd_M_load_8 : decode bb_M_load 8 = .ok (.aload_n 0, 1) := by decide +kernel
theorem dd_M_load_9 : decode bb_M_load 9 = .ok (.iload_n 1, 1) := by decide +kernel
theorem dd_M_load_10 : decode bb_M_load 10 = .ok (.invokevirtual 169, 3) := by decide +kernel
theorem dd_M_load_13 : decode bb_M_load 13 = .ok (.iconst 2, 1) := by decide +kernel
theorem dd_M_load_14 : decode bb_M_load 14 = .ok (.if_icmp .eq 5, 3) := by decide +kernel
theorem dd_M_load_17 : decode bb_M_load 17 = .ok (.iconst (-1), 1) := by decide +kernel
theorem dd_M_load_18 : decode bb_M_load 18 = .ok (.ireturn, 1) := by decide +kernel
theorem dd_M_load_19 : decode bb_M_load 19 = .ok (.aload_n 0, 1) := by decide +kernel
theorem dd_M_load_20 : decode bb_M_load 20 = .ok (.iload_n 1, 1) := by decide +kernel
theorem dd_M_load_21 : decode bb_M_load 21 = .ok (.iload_n 2, 1) := by decide +kernel
theorem dd_M_load_22 : decode bb_M_load 22 = .ok (.invokevirtual 172, 3) := by decide +kernel
theorem dd_M_load_25 : decode bb_M_load 25 = .ok (.ifCond .eq 8, 3) := by decide +kernel
theorem dd_M_load_28 : decode bb_M_load 28 = .ok (.bipush (-5), 2) := by decide +kernel
theorem dd_M_load_30 : decode bb_M_load 30 = .ok (.goto 15, 3) := by decide +kernel
theorem dd_M_load_33 : decode bb_M_load 33 = .ok (.aload_n 0, 1) := by decide +kernel
theorem dd_M_load_34 : decode bb_M_load 34 = .ok (.getfield 42, 3) := by decide +kernel
theorem dd_M_load_37 : decode bb_M_load 37 = .ok (.bipush 8, 2) := by decide +kernel
theorem dd_M_load_39 : decode bb_M_load 39 = .ok (.iload_n 1, 1) := by decide +kernel
theorem dd_M_load_40 : decode bb_M_load 40 = .ok (.imul, 1) := by decide +kernel
theorem dd_M_load_41 : decode bb_M_load 41 = .ok (.iload_n 2, 1) := by decide +kernel
theorem dd_M_load_42 : decode bb_M_load 42 = .ok (.iadd, 1) := by decide +kernel
theorem dd_M_load_43 : decode bb_M_load 43 = .ok (.laload, 1) := by decide +kernel
theorem dd_M_load_44 : decode bb_M_load 44 = .ok (.l2i, 1) := by decide +kernel
theorem dd_M_load_45 : decode bb_M_load 45 = .ok (.ireturn, 1) := by decide +kernel
theorem dd_M_make_0 : decode bb_M_make 0 = .ok (.aload_n 0, 1) := by decide +kernel
theorem dd_M_make_1 : decode bb_M_make 1 = .ok (.iload_n 1, 1) := by decide +kernel
theorem dd_M_make_2 : decode bb_M_make 2 = .ok (.invokevirtual 52, 3) := by decide +kernel
theorem dd_M_make_5 : decode bb_M_make 5 = .ok (.ifCond .eq 5, 3) := by decide +kernel
theorem dd_M_make_8 : decode bb_M_make 8 = .ok (.iconst (-1), 1) := by decide +kernel
theorem dd_M_make_9 : decode bb_M_make 9 = .ok (.ireturn, 1) := by decide +kernel
theorem dd_M_make_10 : decode bb_M_make 10 = .ok (.iload_n 1, 1) := by decide +kernel
theorem dd_M_make_11 : decode bb_M_make 11 = .ok (.bipush 9, 2) := by decide +kernel
theorem dd_M_make_13 : decode bb_M_make 13 = .ok (.if_icmp .eq 21, 3) := by decide +kernel
theorem dd_M_make_16 : decode bb_M_make 16 = .ok (.iload_n 1, 1) := by decide +kernel
theorem dd_M_make_17 : decode bb_M_make 17 = .ok (.bipush 12, 2) := by decide +kernel
theorem dd_M_make_19 : decode bb_M_make 19 = .ok (.if_icmp .eq 15, 3) := by decide +kernel
theorem dd_M_make_22 : decode bb_M_make 22 = .ok (.iload_n 1, 1) := by decide +kernel
theorem dd_M_make_23 : decode bb_M_make 23 = .ok (.bipush 16, 2) := by decide +kernel
theorem dd_M_make_25 : decode bb_M_make 25 = .ok (.if_icmp .lt 13, 3) := by decide +kernel
theorem dd_M_make_28 : decode bb_M_make 28 = .ok (.iload_n 1, 1) := by decide +kernel
theorem dd_M_make_29 : decode bb_M_make 29 = .ok (.bipush 21, 2) := by decide +kernel
theorem dd_M_make_31 : decode bb_M_make 31 = .ok (.if_icmp .gt 7, 3) := by decide +kernel
theorem dd_M_make_34 : decode bb_M_make 34 = .ok (.iconst 1, 1) := by decide +kernel
theorem dd_M_make_35 : decode bb_M_make 35 = .ok (.goto 4, 3) := by decide +kernel
theorem dd_M_make_38 : decode bb_M_make 38 = .ok (.iconst 0, 1) := by decide +kernel
theorem dd_M_make_39 : decode bb_M_make 39 = .ok (.istore_n 3, 1) := by decide +kernel
theorem dd_M_make_40 : decode bb_M_make 40 = .ok (.iload_n 3, 1) := by decide +kernel
theorem dd_M_make_41 : decode bb_M_make 41 = .ok (.ifCond .ne 5, 3) := by decide +kernel
theorem dd_M_make_44 : decode bb_M_make 44 = .ok (.iconst (-1), 1) := by decide +kernel
theorem dd_M_make_45 : decode bb_M_make 45 = .ok (.ireturn, 1) := by decide +kernel
theorem dd_M_make_46 : decode bb_M_make 46 = .ok (.iload_n 1, 1) := by decide +kernel
theorem dd_M_make_47 : decode bb_M_make 47 = .ok (.bipush 19, 2) := by decide +kernel
theorem dd_M_make_49 : decode bb_M_make 49 = .ok (.if_icmp .ne 13, 3) := by decide +kernel
theorem dd_M_make_52 : decode bb_M_make 52 = .ok (.iload_n 2, 1) := by decide +kernel
theorem dd_M_make_53 : decode bb_M_make 53 = .ok (.iconst 3, 1) := by decide +kernel
theorem dd_M_make_54 : decode bb_M_make 54 = .ok (.irem, 1) := by decide +kernel
theorem dd_M_make_55 : decode bb_M_make 55 = .ok (.iconst 3, 1) := by decide +kernel
theorem dd_M_make_56 : decode bb_M_make 56 = .ok (.iadd, 1) := by decide +kernel
theorem dd_M_make_57 : decode bb_M_make 57 = .ok (.iconst 3, 1) := by decide +kernel
theorem dd_M_make_58 : decode bb_M_make 58 = .ok (.irem, 1) := by decide +kernel
theorem dd_M_make_59 : decode bb_M_make 59 = .ok (.goto 4, 3) := by decide +kernel
theorem dd_M_make_62 : decode bb_M_make 62 = .ok (.iload_n 2, 1) := by decide +kernel
theorem dd_M_make_63 : decode bb_M_make 63 = .ok (.istore 4, 2) := by decide +kernel
theorem dd_M_make_65 : decode bb_M_make 65 = .ok (.iconst 0, 1) := by decide +kernel
theorem dd_M_make_66 : decode bb_M_make 66 = .ok (.istore 5, 2) := by decide +kernel
theorem dd_M_make_68 : decode bb_M_make 68 = .ok (.iload 5, 2) := by decide +kernel
theorem dd_M_make_70 : decode bb_M_make 70 = .ok (.aload_n 0, 1) := by decide +kernel
theorem dd_M_make_71 : decode bb_M_make 71 = .ok (.getfield 49, 3) := by decide +kernel
theorem dd_M_make_74 : decode bb_M_make 74 = .ok (.if_icmp .ge 42, 3) := by decide +kernel
theorem dd_M_make_77 : decode bb_M_make 77 = .ok (.iload_n 1, 1) := by decide +kernel
theorem dd_M_make_78 : decode bb_M_make 78 = .ok (.bipush 19, 2) := by decide +kernel
theorem dd_M_make_80 : decode bb_M_make 80 = .ok (.if_icmp .ne 36, 3) := by decide +kernel
theorem dd_M_make_83 : decode bb_M_make 83 = .ok (.aload_n 0, 1) := by decide +kernel
theorem dd_M_make_84 : decode bb_M_make 84 = .ok (.getfield 33, 3) := by decide +kernel
theorem dd_M_make_87 : decode bb_M_make 87 = .ok (.iload 5, 2) := by decide +kernel
theorem dd_M_make_89 : decode bb_M_make 89 = .ok (.iaload, 1) := by decide +kernel
theorem dd_M_make_90 : decode bb_M_make 90 = .ok (.bipush 19, 2) := by decide +kernel
theorem dd_M_make_92 : decode bb_M_make 92 = .ok (.if_icmp .ne 18, 3) := by decide +kernel
theorem dd_M_make_95 : decode bb_M_make 95 = .ok (.aload_n 0, 1) := by decide +kernel
theorem dd_M_make_96 : decode bb_M_make 96 = .ok (.getfield 39, 3) := by decide +kernel
theorem dd_M_make_99 : decode bb_M_make 99 = .ok (.iload 5, 2) := by decide +kernel
theorem dd_M_make_101 : decode bb_M_make 101 = .ok (.iaload, 1) := by decide +kernel
theorem dd_M_make_102 : decode bb_M_make 102 = .ok (.iload 4, 2) := by decide +kernel
theorem dd_M_make_104 : decode bb_M_make 104 = .ok (.if_icmp .ne 6, 3) := by decide +kernel
theorem dd_M_make_107 : decode bb_M_make 107 = .ok (.iload 5, 2) := by decide +kernel
theorem dd_M_make_109 : decode bb_M_make 109 = .ok (.ireturn, 1) := by decide +kernel
theorem dd_M_make_110 : decode bb_M_make 110 = .ok (.iinc 5 1, 3) := by decide +kernel
theorem dd_M_make_113 : decode bb_M_make 113 = .ok (.goto (-45), 3) := by decide +kernel
theorem dd_M_make_116 : decode bb_M_make 116 = .ok (.aload_n 0, 1) := by decide +kernel
theorem dd_M_make_117 : decode bb_M_make 117 = .ok (.getfield 49, 3) := by decide +kernel
theorem dd_M_make_120 : decode bb_M_make 120 = .ok (.bipush 80, 2) := by decide +kernel
theorem dd_M_make_122 : decode bb_M_make 122 = .ok (.if_icmp .ne 8, 3) := by decide +kernel
theorem dd_M_make_125 : decode bb_M_make 125 = .ok (.bipush (-8), 2) := by decide +kernel
theorem dd_M_make_127 : decode bb_M_make 127 = .ok (.goto 11, 3) := by decide +kernel
theorem dd_M_make_130 : decode bb_M_make 130 = .ok (.aload_n 0, 1) := by decide +kernel
theorem dd_M_make_131 : decode bb_M_make 131 = .ok (.iload_n 1, 1) := by decide +kernel
theorem dd_M_make_132 : decode bb_M_make 132 = .ok (.iconst (-1), 1) := by decide +kernel
theorem dd_M_make_133 : decode bb_M_make 133 = .ok (.iload 4, 2) := by decide +kernel
theorem dd_M_make_135 : decode bb_M_make 135 = .ok (.invokevirtual 162, 3) := by decide +kernel
theorem dd_M_make_138 : decode bb_M_make 138 = .ok (.ireturn, 1) := by decide +kernel
theorem dd_M_makeArray_0 : decode bb_M_makeArray 0 = .ok (.aload_n 0, 1) := by decide +kernel
theorem dd_M_makeArray_1 : decode bb_M_makeArray 1 = .ok (.iload_n 1, 1) := by decide +kernel
theorem dd_M_makeArray_2 : decode bb_M_makeArray 2 = .ok (.invokevirtual 52, 3) := by decide +kernel
theorem dd_M_makeArray_5 : decode bb_M_makeArray 5 = .ok (.ifCond .eq 5, 3) := by decide +kernel
theorem dd_M_makeArray_8 : decode bb_M_makeArray 8 = .ok (.iconst (-1), 1) := by decide +kernel
theorem dd_M_makeArray_9 : decode bb_M_makeArray 9 = .ok (.ireturn, 1) := by decide +kernel
theorem dd_M_makeArray_10 : decode bb_M_makeArray 10 = .ok (.aload_n 0, 1) := by decide +kernel
theorem dd_M_makeArray_11 : decode bb_M_makeArray 11 = .ok (.iload_n 1, 1) := by decide +kernel
theorem dd_M_makeArray_12 : decode bb_M_makeArray 12 = .ok (.invokevirtual 56, 3) := by decide +kernel
theorem dd_M_makeArray_15 : decode bb_M_makeArray 15 = .ok (.istore_n 3, 1) := by decide +kernel
theorem dd_M_makeArray_16 : decode bb_M_makeArray 16 = .ok (.iload_n 3, 1) := by decide +kernel
theorem dd_M_makeArray_17 : decode bb_M_makeArray 17 = .ok (.bipush (-2), 2) := by decide +kernel
theorem dd_M_makeArray_19 : decode bb_M_makeArray 19 = .ok (.if_icmp .ne 6, 3) := by decide +kernel
theorem dd_M_makeArray_22 : decode bb_M_makeArray 22 = .ok (.bipush (-2), 2) := by decide +kernel
theorem dd_M_makeArray_24 : decode bb_M_makeArray 24 = .ok (.ireturn, 1) := by decide +kernel
theorem dd_M_makeArray_25 : decode bb_M_makeArray 25 = .ok (.iload_n 2, 1) := by decide +kernel
theorem dd_M_makeArray_26 : decode bb_M_makeArray 26 = .ok (.ifCond .ge 6, 3) := by decide +kernel
theorem dd_M_makeArray_29 : decode bb_M_makeArray 29 = .ok (.bipush (-3), 2) := by decide +kernel
theorem dd_M_makeArray_31 : decode bb_M_makeArray 31 = .ok (.ireturn, 1) := by decide +kernel
theorem dd_M_makeArray_32 : decode bb_M_makeArray 32 = .ok (.iload_n 2, 1) := by decide +kernel
theorem dd_M_makeArray_33 : decode bb_M_makeArray 33 = .ok (.bipush 8, 2) := by decide +kernel
theorem dd_M_makeArray_35 : decode bb_M_makeArray 35 = .ok (.if_icmp .gt 18, 3) := by decide +kernel
theorem dd_M_makeArray_38 : decode bb_M_makeArray 38 = .ok (.aload_n 0, 1) := by decide +kernel
theorem dd_M_makeArray_39 : decode bb_M_makeArray 39 = .ok (.getfield 49, 3) := by decide +kernel
theorem dd_M_makeArray_42 : decode bb_M_makeArray 42 = .ok (.bipush 80, 2) := by decide +kernel
theorem dd_M_makeArray_44 : decode bb_M_makeArray 44 = .ok (.if_icmp .eq 9, 3) := by decide +kernel
theorem dd_M_makeArray_47 : decode bb_M_makeArray 47 = .ok (.iload_n 3, 1) := by decide +kernel
theorem dd_M_makeArray_48 : decode bb_M_makeArray 48 = .ok (.bipush (-8), 2) := by decide +kernel
theorem dd_M_makeArray_50 : decode bb_M_makeArray 50 = .ok (.if_icmp .ne 6, 3) := by decide +kernel
theorem dd_M_makeArray_53 : decode bb_M_makeArray 53 = .ok (.bipush (-8), 2) := by decide +kernel
theorem dd_M_makeArray_55 : decode bb_M_makeArray 55 = .ok (.ireturn, 1) := by decide +kernel
theorem dd_M_makeArray_56 : decode bb_M_makeArray 56 = .ok (.aload_n 0, 1) := by decide +kernel
theorem dd_M_makeArray_57 : decode bb_M_makeArray 57 = .ok (.iload_n 3, 1) := by decide +kernel
theorem dd_M_makeArray_58 : decode bb_M_makeArray 58 = .ok (.iload_n 1, 1) := by decide +kernel
theorem dd_M_makeArray_59 : decode bb_M_makeArray 59 = .ok (.invokevirtual 60, 3) := by decide +kernel
theorem dd_M_makeArray_62 : decode bb_M_makeArray 62 = .ok (.aload_n 0, 1) := by decide +kernel
theorem dd_M_makeArray_63 : decode bb_M_makeArray 63 = .ok (.iload_n 3, 1) := by decide +kernel
theorem dd_M_makeArray_64 : decode bb_M_makeArray 64 = .ok (.iload_n 2, 1) := by decide +kernel
theorem dd_M_makeArray_65 : decode bb_M_makeArray 65 = .ok (.iconst 0, 1) := by decide +kernel
theorem dd_M_makeArray_66 : decode bb_M_makeArray 66 = .ok (.invokevirtual 162, 3) := by decide +kernel
theorem dd_M_makeArray_69 : decode bb_M_makeArray 69 = .ok (.ireturn, 1) := by decide +kernel
theorem dd_M_marks_0 : decode bb_M_marks 0 = .ok (.aload_n 0, 1) := by decide +kernel
theorem dd_M_marks_1 : decode bb_M_marks 1 = .ok (.iload_n 1, 1) := by decide +kernel
theorem dd_M_marks_2 : decode bb_M_marks 2 = .ok (.invokevirtual 52, 3) := by decide +kernel
theorem dd_M_marks_5 : decode bb_M_marks 5 = .ok (.ifCond .eq 5, 3) := by decide +kernel
theorem dd_M_marks_8 : decode bb_M_marks 8 = .ok (.iconst (-1), 1) := by decide +kernel
theorem dd_M_marks_9 : decode bb_M_marks 9 = .ok (.ireturn, 1) := by decide +kernel
theorem dd_M_marks_10 : decode bb_M_marks 10 = .ok (.aload_n 0, 1) := by decide +kernel
theorem dd_M_marks_11 : decode bb_M_marks 11 = .ok (.getfield 26, 3) := by decide +kernel
theorem dd_M_marks_14 : decode bb_M_marks 14 = .ok (.iload_n 1, 1) := by decide +kernel
theorem dd_M_marks_15 : decode bb_M_marks 15 = .ok (.iaload, 1) := by decide +kernel
theorem dd_M_marks_16 : decode bb_M_marks 16 = .ok (.ifCond .ne 12, 3) := by decide +kernel
theorem dd_M_marks_19 : decode bb_M_marks 19 = .ok (.aload_n 0, 1) := by decide +kernel
theorem dd_M_marks_20 : decode bb_M_marks 20 = .ok (.getfield 7, 3) := by decide +kernel
theorem dd_M_marks_23 : decode bb_M_marks 23 = .ok (.iload_n 1, 1) := by decide +kernel
theorem dd_M_marks_24 : decode bb_M_marks 24 = .ok (.iaload, 1) := by decide +kernel
theorem dd_M_marks_25 : decode bb_M_marks 25 = .ok (.goto 19, 3) := by decide +kernel
theorem dd_M_marks_28 : decode bb_M_marks 28 = .ok (.bipush 16, 2) := by decide +kernel
theorem dd_M_marks_30 : decode bb_M_marks 30 = .ok (.aload_n 0, 1) := by decide +kernel
theorem dd_M_marks_31 : decode bb_M_marks 31 = .ok (.getfield 7, 3) := by decide +kernel
theorem dd_M_marks_34 : decode bb_M_marks 34 = .ok (.aload_n 0, 1) := by decide +kernel
theorem dd_M_marks_35 : decode bb_M_marks 35 = .ok (.iload_n 1, 1) := by decide +kernel
theorem dd_M_marks_36 : decode bb_M_marks 36 = .ok (.invokevirtual 71, 3) := by decide +kernel
theorem dd_M_marks_39 : decode bb_M_marks 39 = .ok (.iaload, 1) := by decide +kernel
theorem dd_M_marks_40 : decode bb_M_marks 40 = .ok (.bipush 7, 2) := by decide +kernel
theorem dd_M_marks_42 : decode bb_M_marks 42 = .ok (.iand, 1) := by decide +kernel
theorem dd_M_marks_43 : decode bb_M_marks 43 = .ok (.iadd, 1) := by decide +kernel
theorem dd_M_marks_44 : decode bb_M_marks 44 = .ok (.ireturn, 1) := by decide +kernel
theorem dd_M_name_0 : decode bb_M_name 0 = .ok (.iload_n 1, 1) := by decide +kernel
theorem dd_M_name_1 : decode bb_M_name 1 = .ok (.bipush 9, 2) := by decide +kernel
theorem dd_M_name_3 : decode bb_M_name 3 = .ok (.if_icmp .lt 45, 3) := by decide +kernel
theorem dd_M_name_6 : decode bb_M_name 6 = .ok (.iload_n 1, 1) := by decide +kernel
theorem dd_M_name_7 : decode bb_M_name 7 = .ok (.bipush 12, 2) := by decide +kernel
theorem dd_M_name_9 : decode bb_M_name 9 = .ok (.if_icmp .gt 39, 3) := by decide +kernel
theorem dd_M_name_12 : decode bb_M_name 12 = .ok (.aload_n 0, 1) := by decide +kernel
theorem dd_M_name_13 : decode bb_M_name 13 = .ok (.ldc2_w 135, 3) := by decide +kernel
theorem dd_M_name_16 : decode bb_M_name 16 = .ok (.invokevirtual 85, 3) := by decide +kernel
theorem dd_M_name_19 : decode bb_M_name 19 = .ok (.iload_n 1, 1) := by decide +kernel
theorem dd_M_name_20 : decode bb_M_name 20 = .ok (.bipush 11, 2) := by decide +kernel
theorem dd_M_name_22 : decode bb_M_name 22 = .ok (.if_icmp .ne 13, 3) := by decide +kernel
theorem dd_M_name_25 : decode bb_M_name 25 = .ok (.aload_n 0, 1) := by decide +kernel
theorem dd_M_name_26 : decode bb_M_name 26 = .ok (.ldc2_w 137, 3) := by decide +kernel
theorem dd_M_name_29 : decode bb_M_name 29 = .ok (.invokevirtual 85, 3) := by decide +kernel
theorem dd_M_name_32 : decode bb_M_name 32 = .ok (.goto 10, 3) := by decide +kernel
theorem dd_M_name_35 : decode bb_M_name 35 = .ok (.aload_n 0, 1) := by decide +kernel
theorem dd_M_name_36 : decode bb_M_name 36 = .ok (.ldc2_w 139, 3) := by decide +kernel
theorem dd_M_name_39 : decode bb_M_name 39 = .ok (.invokevirtual 85, 3) := by decide +kernel
theorem dd_M_name_42 : decode bb_M_name 42 = .ok (.aload_n 0, 1) := by decide +kernel
theorem dd_M_name_43 : decode bb_M_name 43 = .ok (.bipush 46, 2) := by decide +kernel
theorem dd_M_name_45 : decode bb_M_name 45 = .ok (.invokevirtual 79, 3) := by decide +kernel
theorem dd_M_name_48 : decode bb_M_name 48 = .ok (.iload_n 1, 1) := by decide +kernel
theorem dd_M_name_49 : decode bb_M_name 49 = .ok (.bipush 13, 2) := by decide +kernel
theorem dd_M_name_51 : decode bb_M_name 51 = .ok (.if_icmp .lt 24, 3) := by decide +kernel
theorem dd_M_name_54 : decode bb_M_name 54 = .ok (.aload_n 0, 1) := by decide +kernel
theorem dd_M_name_55 : decode bb_M_name 55 = .ok (.ldc2_w 141, 3) := by decide +kernel
theorem dd_M_name_58 : decode bb_M_name 58 = .ok (.invokevirtual 85, 3) := by decide +kernel
theorem dd_M_name_61 : decode bb_M_name 61 = .ok (.aload_n 0, 1) := by decide +kernel
theorem dd_M_name_62 : decode bb_M_name 62 = .ok (.ldc2_w 143, 3) := by decide +kernel
theorem dd_M_name_65 : decode bb_M_name 65 = .ok (.invokevirtual 85, 3) := by decide +kernel
theorem dd_M_name_68 : decode bb_M_name 68 = .ok (.aload_n 0, 1) := by decide +kernel
theorem dd_M_name_69 : decode bb_M_name 69 = .ok (.ldc2_w 145, 3) := by decide +kernel
theorem dd_M_name_72 : decode bb_M_name 72 = .ok (.invokevirtual 85, 3) := by decide +kernel
theorem dd_M_name_75 : decode bb_M_name 75 = .ok (.aload_n 0, 1) := by decide +kernel
theorem dd_M_name_76 : decode bb_M_name 76 = .ok (.iload_n 1, 1) := by decide +kernel
theorem dd_M_name_77 : decode bb_M_name 77 = .ok (.invokevirtual 147, 3) := by decide +kernel
theorem dd_M_name_80 : decode bb_M_name 80 = .ok (.return_, 1) := by decide +kernel
theorem dd_M_noObject_0 : decode bb_M_noObject 0 = .ok (.iload_n 1, 1) := by decide +kernel
theorem dd_M_noObject_1 : decode bb_M_noObject 1 = .ok (.ifCond .lt 11, 3) := by decide +kernel
theorem dd_M_noObject_4 : decode bb_M_noObject 4 = .ok (.iload_n 1, 1) := by decide +kernel
theorem dd_M_noObject_5 : decode bb_M_noObject 5 = .ok (.aload_n 0, 1) := by decide +kernel
theorem dd_M_noObject_6 : decode bb_M_noObject 6 = .ok (.getfield 49, 3) := by decide +kernel
theorem dd_M_noObject_9 : decode bb_M_noObject 9 = .ok (.if_icmp .lt 7, 3) := by decide +kernel
theorem dd_M_noObject_12 : decode bb_M_noObject 12 = .ok (.iconst 1, 1) := by decide +kernel
theorem dd_M_noObject_13 : decode bb_M_noObject 13 = .ok (.goto 4, 3) := by decide +kernel
theorem dd_M_noObject_16 : decode bb_M_noObject 16 = .ok (.iconst 0, 1) := by decide +kernel
theorem dd_M_noObject_17 : decode bb_M_noObject 17 = .ok (.ireturn, 1) := by decide +kernel
theorem dd_M_noType_0 : decode bb_M_noType 0 = .ok (.iload_n 1, 1) := by decide +kernel
theorem dd_M_noType_1 : decode bb_M_noType 1 = .ok (.ifCond .lt 11, 3) := by decide +kernel
theorem dd_M_noType_4 : decode bb_M_noType 4 = .ok (.iload_n 1, 1) := by decide +kernel
theorem dd_M_noType_5 : decode bb_M_noType 5 = .ok (.aload_n 0, 1) := by decide +kernel
theorem dd_M_noType_6 : decode bb_M_noType 6 = .ok (.getfield 29, 3) := by decide +kernel
theorem dd_M_noType_9 : decode bb_M_noType 9 = .ok (.if_icmp .lt 7, 3) := by decide +kernel
theorem dd_M_noType_12 : decode bb_M_noType 12 = .ok (.iconst 1, 1) := by decide +kernel
theorem dd_M_noType_13 : decode bb_M_noType 13 = .ok (.goto 4, 3) := by decide +kernel
theorem dd_M_noType_16 : decode bb_M_noType 16 = .ok (.iconst 0, 1) := by decide +kernel
theorem dd_M_noType_17 : decode bb_M_noType 17 = .ok (.ireturn, 1) := by decide +kernel
theorem dd_M_outside_0 : decode bb_M_outside 0 = .ok (.iload_n 2, 1) := by decide +kernel
theorem dd_M_outside_1 : decode bb_M_outside 1 = .ok (.ifCond .lt 13, 3) := by decide +kernel
theorem dd_M_outside_4 : decode bb_M_outside 4 = .ok (.iload_n 2, 1) := by decide +kernel
theorem dd_M_outside_5 : decode bb_M_outside 5 = .ok (.aload_n 0, 1) := by decide +kernel
theorem dd_M_outside_6 : decode bb_M_outside 6 = .ok (.getfield 36, 3) := by decide +kernel
theorem dd_M_outside_9 : decode bb_M_outside 9 = .ok (.iload_n 1, 1) := by decide +kernel
theorem dd_M_outside_10 : decode bb_M_outside 10 = .ok (.iaload, 1) := by decide +kernel
theorem dd_M_outside_11 : decode bb_M_outside 11 = .ok (.if_icmp .lt 7, 3) := by decide +kernel
theorem dd_M_outside_14 : decode bb_M_outside 14 = .ok (.iconst 1, 1) := by decide +kernel
theorem dd_M_outside_15 : decode bb_M_outside 15 = .ok (.goto 4, 3) := by decide +kernel
theorem dd_M_outside_18 : decode bb_M_outside 18 = .ok (.iconst 0, 1) := by decide +kernel
theorem dd_M_outside_19 : decode bb_M_outside 19 = .ok (.ireturn, 1) := by decide +kernel
theorem dd_M_put_0 : decode bb_M_put 0 = .ok (.aload_n 0, 1) := by decide +kernel
theorem dd_M_put_1 : decode bb_M_put 1 = .ok (.iload_n 1, 1) := by decide +kernel
theorem dd_M_put_2 : decode bb_M_put 2 = .ok (.invokevirtual 166, 3) := by decide +kernel
theorem dd_M_put_5 : decode bb_M_put 5 = .ok (.ifCond .ne 12, 3) := by decide +kernel
theorem dd_M_put_8 : decode bb_M_put 8 = .ok (.aload_n 0, 1) := by decide +kernel
theorem dd_M_put_9 : decode bb_M_put 9 = .ok (.iload_n 1, 1) := by decide +kernel
theorem dd_M_put_10 : decode bb_M_put 10 = .ok (.invokevirtual 169, 3) := by decide +kernel
theorem dd_M_put_13 : decode bb_M_put 13 = .ok (.iconst 1, 1) := by decide +kernel
theorem dd_M_put_14 : decode bb_M_put 14 = .ok (.if_icmp .eq 5, 3) := by decide +kernel
theorem dd_M_put_17 : decode bb_M_put 17 = .ok (.iconst (-1), 1) := by decide +kernel
theorem dd_M_put_18 : decode bb_M_put 18 = .ok (.ireturn, 1) := by decide +kernel
theorem dd_M_put_19 : decode bb_M_put 19 = .ok (.aload_n 0, 1) := by decide +kernel
theorem dd_M_put_20 : decode bb_M_put 20 = .ok (.iload_n 1, 1) := by decide +kernel
theorem dd_M_put_21 : decode bb_M_put 21 = .ok (.iload_n 2, 1) := by decide +kernel
theorem dd_M_put_22 : decode bb_M_put 22 = .ok (.invokevirtual 172, 3) := by decide +kernel
theorem dd_M_put_25 : decode bb_M_put 25 = .ok (.ifCond .eq 6, 3) := by decide +kernel
theorem dd_M_put_28 : decode bb_M_put 28 = .ok (.bipush (-5), 2) := by decide +kernel
theorem dd_M_put_30 : decode bb_M_put 30 = .ok (.ireturn, 1) := by decide +kernel
theorem dd_M_put_31 : decode bb_M_put 31 = .ok (.aload_n 0, 1) := by decide +kernel
theorem dd_M_put_32 : decode bb_M_put 32 = .ok (.getfield 42, 3) := by decide +kernel
theorem dd_M_put_35 : decode bb_M_put 35 = .ok (.bipush 8, 2) := by decide +kernel
theorem dd_M_put_37 : decode bb_M_put 37 = .ok (.iload_n 1, 1) := by decide +kernel
theorem dd_M_put_38 : decode bb_M_put 38 = .ok (.imul, 1) := by decide +kernel
theorem dd_M_put_39 : decode bb_M_put 39 = .ok (.iload_n 2, 1) := by decide +kernel
theorem dd_M_put_40 : decode bb_M_put 40 = .ok (.iadd, 1) := by decide +kernel
theorem dd_M_put_41 : decode bb_M_put 41 = .ok (.aload_n 0, 1) := by decide +kernel
theorem dd_M_put_42 : decode bb_M_put 42 = .ok (.getfield 23, 3) := by decide +kernel
theorem dd_M_put_45 : decode bb_M_put 45 = .ok (.aload_n 0, 1) := by decide +kernel
theorem dd_M_put_46 : decode bb_M_put 46 = .ok (.getfield 33, 3) := by decide +kernel
theorem dd_M_put_49 : decode bb_M_put 49 = .ok (.iload_n 1, 1) := by decide +kernel
theorem dd_M_put_50 : decode bb_M_put 50 = .ok (.iaload, 1) := by decide +kernel
theorem dd_M_put_51 : decode bb_M_put 51 = .ok (.iaload, 1) := by decide +kernel
theorem dd_M_put_52 : decode bb_M_put 52 = .ok (.iload_n 3, 1) := by decide +kernel
theorem dd_M_put_53 : decode bb_M_put 53 = .ok (.invokestatic 184, 3) := by decide +kernel
theorem dd_M_put_56 : decode bb_M_put 56 = .ok (.lastore, 1) := by decide +kernel
theorem dd_M_put_57 : decode bb_M_put 57 = .ok (.iconst 0, 1) := by decide +kernel
theorem dd_M_put_58 : decode bb_M_put 58 = .ok (.ireturn, 1) := by decide +kernel
theorem dd_M_rounded_0 : decode bb_M_rounded 0 = .ok (.lload_n 0, 1) := by decide +kernel
theorem dd_M_rounded_1 : decode bb_M_rounded 1 = .ok (.lconst 0, 1) := by decide +kernel
theorem dd_M_rounded_2 : decode bb_M_rounded 2 = .ok (.lcmp, 1) := by decide +kernel
theorem dd_M_rounded_3 : decode bb_M_rounded 3 = .ok (.ifCond .ge 8, 3) := by decide +kernel
theorem dd_M_rounded_6 : decode bb_M_rounded 6 = .ok (.lload_n 0, 1) := by decide +kernel
theorem dd_M_rounded_7 : decode bb_M_rounded 7 = .ok (.lneg, 1) := by decide +kernel
theorem dd_M_rounded_8 : decode bb_M_rounded 8 = .ok (.goto 4, 3) := by decide +kernel
theorem dd_M_rounded_11 : decode bb_M_rounded 11 = .ok (.lload_n 0, 1) := by decide +kernel
theorem dd_M_rounded_12 : decode bb_M_rounded 12 = .ok (.lstore_n 2, 1) := by decide +kernel
theorem dd_M_rounded_13 : decode bb_M_rounded 13 = .ok (.lconst 1, 1) := by decide +kernel
theorem dd_M_rounded_14 : decode bb_M_rounded 14 = .ok (.lstore 4, 2) := by decide +kernel
theorem dd_M_rounded_16 : decode bb_M_rounded 16 = .ok (.lload_n 2, 1) := by decide +kernel
theorem dd_M_rounded_17 : decode bb_M_rounded 17 = .ok (.lload 4, 2) := by decide +kernel
theorem dd_M_rounded_19 : decode bb_M_rounded 19 = .ok (.ldiv, 1) := by decide +kernel
theorem dd_M_rounded_20 : decode bb_M_rounded 20 = .ok (.ldc2_w 175, 3) := by decide +kernel
theorem dd_M_rounded_23 : decode bb_M_rounded 23 = .ok (.lcmp, 1) := by decide +kernel
theorem dd_M_rounded_24 : decode bb_M_rounded 24 = .ok (.ifCond .lt 14, 3) := by decide +kernel
theorem dd_M_rounded_27 : decode bb_M_rounded 27 = .ok (.lload 4, 2) := by decide +kernel
theorem dd_M_rounded_29 : decode bb_M_rounded 29 = .ok (.ldc2_w 177, 3) := by decide +kernel
theorem dd_M_rounded_32 : decode bb_M_rounded 32 = .ok (.lmul, 1) := by decide +kernel
theorem dd_M_rounded_33 : decode bb_M_rounded 33 = .ok (.lstore 4, 2) := by decide +kernel
theorem dd_M_rounded_35 : decode bb_M_rounded 35 = .ok (.goto (-19), 3) := by decide +kernel
theorem dd_M_rounded_38 : decode bb_M_rounded 38 = .ok (.lload_n 2, 1) := by decide +kernel
theorem dd_M_rounded_39 : decode bb_M_rounded 39 = .ok (.lload 4, 2) := by decide +kernel
theorem dd_M_rounded_41 : decode bb_M_rounded 41 = .ok (.ldiv, 1) := by decide +kernel
theorem dd_M_rounded_42 : decode bb_M_rounded 42 = .ok (.lstore 6, 2) := by decide +kernel
theorem dd_M_rounded_44 : decode bb_M_rounded 44 = .ok (.lload_n 2, 1) := by decide +kernel
theorem dd_M_rounded_45 : decode bb_M_rounded 45 = .ok (.lload 4, 2) := by decide +kernel
theorem dd_M_rounded_47 : decode bb_M_rounded 47 = .ok (.lrem, 1) := by decide +kernel
theorem dd_M_rounded_48 : decode bb_M_rounded 48 = .ok (.lstore 8, 2) := by decide +kernel
theorem dd_M_rounded_50 : decode bb_M_rounded 50 = .ok (.ldc2_w 177, 3) := by decide +kernel
theorem dd_M_rounded_53 : decode bb_M_rounded 53 = .ok (.lload 8, 2) := by decide +kernel
theorem dd_M_rounded_55 : decode bb_M_rounded 55 = .ok (.lmul, 1) := by decide +kernel
theorem dd_M_rounded_56 : decode bb_M_rounded 56 = .ok (.lload 4, 2) := by decide +kernel
theorem dd_M_rounded_58 : decode bb_M_rounded 58 = .ok (.lcmp, 1) := by decide +kernel
theorem dd_M_rounded_59 : decode bb_M_rounded 59 = .ok (.ifCond .gt 33, 3) := by decide +kernel
theorem dd_M_rounded_62 : decode bb_M_rounded 62 = .ok (.ldc2_w 177, 3) := by decide +kernel
theorem dd_M_rounded_65 : decode bb_M_rounded 65 = .ok (.lload 8, 2) := by decide +kernel
theorem dd_M_rounded_67 : decode bb_M_rounded 67 = .ok (.lmul, 1) := by decide +kernel
theorem dd_M_rounded_68 : decode bb_M_rounded 68 = .ok (.lload 4, 2) := by decide +kernel
theorem dd_M_rounded_70 : decode bb_M_rounded 70 = .ok (.lcmp, 1) := by decide +kernel
theorem dd_M_rounded_71 : decode bb_M_rounded 71 = .ok (.ifCond .ne 27, 3) := by decide +kernel
theorem dd_M_rounded_74 : decode bb_M_rounded 74 = .ok (.lload 4, 2) := by decide +kernel
theorem dd_M_rounded_76 : decode bb_M_rounded 76 = .ok (.lconst 1, 1) := by decide +kernel
theorem dd_M_rounded_77 : decode bb_M_rounded 77 = .ok (.lcmp, 1) := by decide +kernel
theorem dd_M_rounded_78 : decode bb_M_rounded 78 = .ok (.ifCond .le 20, 3) := by decide +kernel
theorem dd_M_rounded_81 : decode bb_M_rounded 81 = .ok (.lload 6, 2) := by decide +kernel
theorem dd_M_rounded_83 : decode bb_M_rounded 83 = .ok (.ldc2_w 177, 3) := by decide +kernel
theorem dd_M_rounded_86 : decode bb_M_rounded 86 = .ok (.lrem, 1) := by decide +kernel
theorem dd_M_rounded_87 : decode bb_M_rounded 87 = .ok (.lconst 1, 1) := by decide +kernel
theorem dd_M_rounded_88 : decode bb_M_rounded 88 = .ok (.lcmp, 1) := by decide +kernel
theorem dd_M_rounded_89 : decode bb_M_rounded 89 = .ok (.ifCond .ne 9, 3) := by decide +kernel
theorem dd_M_rounded_92 : decode bb_M_rounded 92 = .ok (.lload 6, 2) := by decide +kernel
theorem dd_M_rounded_94 : decode bb_M_rounded 94 = .ok (.lconst 1, 1) := by decide +kernel
theorem dd_M_rounded_95 : decode bb_M_rounded 95 = .ok (.ladd, 1) := by decide +kernel
theorem dd_M_rounded_96 : decode bb_M_rounded 96 = .ok (.lstore 6, 2) := by decide +kernel
theorem dd_M_rounded_98 : decode bb_M_rounded 98 = .ok (.lload_n 0, 1) := by decide +kernel
theorem dd_M_rounded_99 : decode bb_M_rounded 99 = .ok (.lconst 0, 1) := by decide +kernel
theorem dd_M_rounded_100 : decode bb_M_rounded 100 = .ok (.lcmp, 1) := by decide +kernel
theorem dd_M_rounded_101 : decode bb_M_rounded 101 = .ok (.ifCond .ge 12, 3) := by decide +kernel
theorem dd_M_rounded_104 : decode bb_M_rounded 104 = .ok (.lload 6, 2) := by decide +kernel
theorem dd_M_rounded_106 : decode bb_M_rounded 106 = .ok (.lneg, 1) := by decide +kernel
theorem dd_M_rounded_107 : decode bb_M_rounded 107 = .ok (.lload 4, 2) := by decide +kernel
theorem dd_M_rounded_109 : decode bb_M_rounded 109 = .ok (.lmul, 1) := by decide +kernel
theorem dd_M_rounded_110 : decode bb_M_rounded 110 = .ok (.goto 8, 3) := by decide +kernel
theorem dd_M_rounded_113 : decode bb_M_rounded 113 = .ok (.lload 6, 2) := by decide +kernel
theorem dd_M_rounded_115 : decode bb_M_rounded 115 = .ok (.lload 4, 2) := by decide +kernel
theorem dd_M_rounded_117 : decode bb_M_rounded 117 = .ok (.lmul, 1) := by decide +kernel
theorem dd_M_rounded_118 : decode bb_M_rounded 118 = .ok (.lreturn, 1) := by decide +kernel
theorem dd_M_search_0 : decode bb_M_search 0 = .ok (.iload_n 1, 1) := by decide +kernel
theorem dd_M_search_1 : decode bb_M_search 1 = .ok (.bipush 8, 2) := by decide +kernel
theorem dd_M_search_3 : decode bb_M_search 3 = .ok (.if_icmp .eq 15, 3) := by decide +kernel
theorem dd_M_search_6 : decode bb_M_search 6 = .ok (.aload_n 0, 1) := by decide +kernel
theorem dd_M_search_7 : decode bb_M_search 7 = .ok (.getfield 26, 3) := by decide +kernel
theorem dd_M_search_10 : decode bb_M_search 10 = .ok (.iload_n 1, 1) := by decide +kernel
theorem dd_M_search_11 : decode bb_M_search 11 = .ok (.iaload, 1) := by decide +kernel
theorem dd_M_search_12 : decode bb_M_search 12 = .ok (.sipush 255, 3) := by decide +kernel
theorem dd_M_search_15 : decode bb_M_search 15 = .ok (.if_icmp .ne 6, 3) := by decide +kernel
theorem dd_M_search_18 : decode bb_M_search 18 = .ok (.bipush (-2), 2) := by decide +kernel
theorem dd_M_search_20 : decode bb_M_search 20 = .ok (.ireturn, 1) := by decide +kernel
theorem dd_M_search_21 : decode bb_M_search 21 = .ok (.bipush 22, 2) := by decide +kernel
theorem dd_M_search_23 : decode bb_M_search 23 = .ok (.istore_n 2, 1) := by decide +kernel
theorem dd_M_search_24 : decode bb_M_search 24 = .ok (.iload_n 2, 1) := by decide +kernel
theorem dd_M_search_25 : decode bb_M_search 25 = .ok (.aload_n 0, 1) := by decide +kernel
theorem dd_M_search_26 : decode bb_M_search 26 = .ok (.getfield 29, 3) := by decide +kernel
theorem dd_M_search_29 : decode bb_M_search 29 = .ok (.if_icmp .ge 21, 3) := by decide +kernel
theorem dd_M_search_32 : decode bb_M_search 32 = .ok (.aload_n 0, 1) := by decide +kernel
theorem dd_M_search_33 : decode bb_M_search 33 = .ok (.getfield 23, 3) := by decide +kernel
theorem dd_M_search_36 : decode bb_M_search 36 = .ok (.iload_n 2, 1) := by decide +kernel
theorem dd_M_search_37 : decode bb_M_search 37 = .ok (.iaload, 1) := by decide +kernel
theorem dd_M_search_38 : decode bb_M_search 38 = .ok (.iload_n 1, 1) := by decide +kernel
theorem dd_M_search_39 : decode bb_M_search 39 = .ok (.if_icmp .ne 5, 3) := by decide +kernel
theorem dd_M_search_42 : decode bb_M_search 42 = .ok (.iload_n 2, 1) := by decide +kernel
theorem dd_M_search_43 : decode bb_M_search 43 = .ok (.ireturn, 1) := by decide +kernel
theorem dd_M_search_44 : decode bb_M_search 44 = .ok (.iinc 2 1, 3) := by decide +kernel
theorem dd_M_search_47 : decode bb_M_search 47 = .ok (.goto (-23), 3) := by decide +kernel
theorem dd_M_search_50 : decode bb_M_search 50 = .ok (.aload_n 0, 1) := by decide +kernel
theorem dd_M_search_51 : decode bb_M_search 51 = .ok (.getfield 29, 3) := by decide +kernel
theorem dd_M_search_54 : decode bb_M_search 54 = .ok (.sipush 300, 3) := by decide +kernel
theorem dd_M_search_57 : decode bb_M_search 57 = .ok (.if_icmp .ne 8, 3) := by decide +kernel
theorem dd_M_search_60 : decode bb_M_search 60 = .ok (.bipush (-8), 2) := by decide +kernel
theorem dd_M_search_62 : decode bb_M_search 62 = .ok (.goto 7, 3) := by decide +kernel
theorem dd_M_search_65 : decode bb_M_search 65 = .ok (.aload_n 0, 1) := by decide +kernel
theorem dd_M_search_66 : decode bb_M_search 66 = .ok (.getfield 29, 3) := by decide +kernel
theorem dd_M_search_69 : decode bb_M_search 69 = .ok (.ireturn, 1) := by decide +kernel
theorem dd_M_simple_0 : decode bb_M_simple 0 = .ok (.iload_n 1, 1) := by decide +kernel
theorem dd_M_simple_1 : decode bb_M_simple 1 = .ok (.tableswitch 323 0 20 #[99, 109, 119, 129, 139, 149, 159, 169, 179, 189, 199, 216, 233, 243, 253, 263, 273, 283, 293, 303, 313], 99) := by decide +kernel
theorem dd_M_simple_100 : decode bb_M_simple 100 = .ok (.aload_n 0, 1) := by decide +kernel
theorem dd_M_simple_101 : decode bb_M_simple 101 = .ok (.ldc2_w 83, 3) := by decide +kernel
theorem dd_M_simple_104 : decode bb_M_simple 104 = .ok (.invokevirtual 85, 3) := by decide +kernel
theorem dd_M_simple_107 : decode bb_M_simple 107 = .ok (.goto 224, 3) := by decide +kernel
theorem dd_M_simple_110 : decode bb_M_simple 110 = .ok (.aload_n 0, 1) := by decide +kernel
theorem dd_M_simple_111 : decode bb_M_simple 111 = .ok (.ldc2_w 89, 3) := by decide +kernel
theorem dd_M_simple_114 : decode bb_M_simple 114 = .ok (.invokevirtual 85, 3) := by decide +kernel
theorem dd_M_simple_117 : decode bb_M_simple 117 = .ok (.goto 214, 3) := by decide +kernel
theorem dd_M_simple_120 : decode bb_M_simple 120 = .ok (.aload_n 0, 1) := by decide +kernel
theorem dd_M_simple_121 : decode bb_M_simple 121 = .ok (.ldc2_w 91, 3) := by decide +kernel
theorem dd_M_simple_124 : decode bb_M_simple 124 = .ok (.invokevirtual 85, 3) := by decide +kernel
theorem dd_M_simple_127 : decode bb_M_simple 127 = .ok (.goto 204, 3) := by decide +kernel
theorem dd_M_simple_130 : decode bb_M_simple 130 = .ok (.aload_n 0, 1) := by decide +kernel
theorem dd_M_simple_131 : decode bb_M_simple 131 = .ok (.ldc2_w 93, 3) := by decide +kernel
theorem dd_M_simple_134 : decode bb_M_simple 134 = .ok (.invokevirtual 85, 3) := by decide +kernel
theorem dd_M_simple_137 : decode bb_M_simple 137 = .ok (.goto 194, 3) := by decide +kernel
theorem dd_M_simple_140 : decode bb_M_simple 140 = .ok (.aload_n 0, 1) := by decide +kernel
theorem dd_M_simple_141 : decode bb_M_simple 141 = .ok (.ldc2_w 95, 3) := by decide +kernel
theorem dd_M_simple_144 : decode bb_M_simple 144 = .ok (.invokevirtual 85, 3) := by decide +kernel
theorem dd_M_simple_147 : decode bb_M_simple 147 = .ok (.goto 184, 3) := by decide +kernel
theorem dd_M_simple_150 : decode bb_M_simple 150 = .ok (.aload_n 0, 1) := by decide +kernel
theorem dd_M_simple_151 : decode bb_M_simple 151 = .ok (.ldc2_w 97, 3) := by decide +kernel
theorem dd_M_simple_154 : decode bb_M_simple 154 = .ok (.invokevirtual 85, 3) := by decide +kernel
theorem dd_M_simple_157 : decode bb_M_simple 157 = .ok (.goto 174, 3) := by decide +kernel
theorem dd_M_simple_160 : decode bb_M_simple 160 = .ok (.aload_n 0, 1) := by decide +kernel
theorem dd_M_simple_161 : decode bb_M_simple 161 = .ok (.ldc2_w 99, 3) := by decide +kernel
theorem dd_M_simple_164 : decode bb_M_simple 164 = .ok (.invokevirtual 85, 3) := by decide +kernel
theorem dd_M_simple_167 : decode bb_M_simple 167 = .ok (.goto 164, 3) := by decide +kernel
theorem dd_M_simple_170 : decode bb_M_simple 170 = .ok (.aload_n 0, 1) := by decide +kernel
theorem dd_M_simple_171 : decode bb_M_simple 171 = .ok (.ldc2_w 101, 3) := by decide +kernel
theorem dd_M_simple_174 : decode bb_M_simple 174 = .ok (.invokevirtual 85, 3) := by decide +kernel
theorem dd_M_simple_177 : decode bb_M_simple 177 = .ok (.goto 154, 3) := by decide +kernel
theorem dd_M_simple_180 : decode bb_M_simple 180 = .ok (.aload_n 0, 1) := by decide +kernel
theorem dd_M_simple_181 : decode bb_M_simple 181 = .ok (.ldc2_w 103, 3) := by decide +kernel
theorem dd_M_simple_184 : decode bb_M_simple 184 = .ok (.invokevirtual 85, 3) := by decide +kernel
theorem dd_M_simple_187 : decode bb_M_simple 187 = .ok (.goto 144, 3) := by decide +kernel
theorem dd_M_simple_190 : decode bb_M_simple 190 = .ok (.aload_n 0, 1) := by decide +kernel
theorem dd_M_simple_191 : decode bb_M_simple 191 = .ok (.ldc2_w 105, 3) := by decide +kernel
theorem dd_M_simple_194 : decode bb_M_simple 194 = .ok (.invokevirtual 85, 3) := by decide +kernel
theorem dd_M_simple_197 : decode bb_M_simple 197 = .ok (.goto 134, 3) := by decide +kernel
theorem dd_M_simple_200 : decode bb_M_simple 200 = .ok (.aload_n 0, 1) := by decide +kernel
theorem dd_M_simple_201 : decode bb_M_simple 201 = .ok (.ldc2_w 107, 3) := by decide +kernel
theorem dd_M_simple_204 : decode bb_M_simple 204 = .ok (.invokevirtual 85, 3) := by decide +kernel
theorem dd_M_simple_207 : decode bb_M_simple 207 = .ok (.aload_n 0, 1) := by decide +kernel
theorem dd_M_simple_208 : decode bb_M_simple 208 = .ok (.ldc2_w 109, 3) := by decide +kernel
theorem dd_M_simple_211 : decode bb_M_simple 211 = .ok (.invokevirtual 85, 3) := by decide +kernel
theorem dd_M_simple_214 : decode bb_M_simple 214 = .ok (.goto 117, 3) := by decide +kernel
theorem dd_M_simple_217 : decode bb_M_simple 217 = .ok (.aload_n 0, 1) := by decide +kernel
theorem dd_M_simple_218 : decode bb_M_simple 218 = .ok (.ldc2_w 111, 3) := by decide +kernel
theorem dd_M_simple_221 : decode bb_M_simple 221 = .ok (.invokevirtual 85, 3) := by decide +kernel
theorem dd_M_simple_224 : decode bb_M_simple 224 = .ok (.aload_n 0, 1) := by decide +kernel
theorem dd_M_simple_225 : decode bb_M_simple 225 = .ok (.ldc2_w 113, 3) := by decide +kernel
theorem dd_M_simple_228 : decode bb_M_simple 228 = .ok (.invokevirtual 85, 3) := by decide +kernel
theorem dd_M_simple_231 : decode bb_M_simple 231 = .ok (.goto 100, 3) := by decide +kernel
theorem dd_M_simple_234 : decode bb_M_simple 234 = .ok (.aload_n 0, 1) := by decide +kernel
theorem dd_M_simple_235 : decode bb_M_simple 235 = .ok (.ldc2_w 115, 3) := by decide +kernel
theorem dd_M_simple_238 : decode bb_M_simple 238 = .ok (.invokevirtual 85, 3) := by decide +kernel
theorem dd_M_simple_241 : decode bb_M_simple 241 = .ok (.goto 90, 3) := by decide +kernel
theorem dd_M_simple_244 : decode bb_M_simple 244 = .ok (.aload_n 0, 1) := by decide +kernel
theorem dd_M_simple_245 : decode bb_M_simple 245 = .ok (.ldc2_w 117, 3) := by decide +kernel
theorem dd_M_simple_248 : decode bb_M_simple 248 = .ok (.invokevirtual 85, 3) := by decide +kernel
theorem dd_M_simple_251 : decode bb_M_simple 251 = .ok (.goto 80, 3) := by decide +kernel
theorem dd_M_simple_254 : decode bb_M_simple 254 = .ok (.aload_n 0, 1) := by decide +kernel
theorem dd_M_simple_255 : decode bb_M_simple 255 = .ok (.ldc2_w 119, 3) := by decide +kernel
theorem dd_M_simple_258 : decode bb_M_simple 258 = .ok (.invokevirtual 85, 3) := by decide +kernel
theorem dd_M_simple_261 : decode bb_M_simple 261 = .ok (.goto 70, 3) := by decide +kernel
theorem dd_M_simple_264 : decode bb_M_simple 264 = .ok (.aload_n 0, 1) := by decide +kernel
theorem dd_M_simple_265 : decode bb_M_simple 265 = .ok (.ldc2_w 121, 3) := by decide +kernel
theorem dd_M_simple_268 : decode bb_M_simple 268 = .ok (.invokevirtual 85, 3) := by decide +kernel
theorem dd_M_simple_271 : decode bb_M_simple 271 = .ok (.goto 60, 3) := by decide +kernel
theorem dd_M_simple_274 : decode bb_M_simple 274 = .ok (.aload_n 0, 1) := by decide +kernel
theorem dd_M_simple_275 : decode bb_M_simple 275 = .ok (.ldc2_w 123, 3) := by decide +kernel
theorem dd_M_simple_278 : decode bb_M_simple 278 = .ok (.invokevirtual 85, 3) := by decide +kernel
theorem dd_M_simple_281 : decode bb_M_simple 281 = .ok (.goto 50, 3) := by decide +kernel
theorem dd_M_simple_284 : decode bb_M_simple 284 = .ok (.aload_n 0, 1) := by decide +kernel
theorem dd_M_simple_285 : decode bb_M_simple 285 = .ok (.ldc2_w 125, 3) := by decide +kernel
theorem dd_M_simple_288 : decode bb_M_simple 288 = .ok (.invokevirtual 85, 3) := by decide +kernel
theorem dd_M_simple_291 : decode bb_M_simple 291 = .ok (.goto 40, 3) := by decide +kernel
theorem dd_M_simple_294 : decode bb_M_simple 294 = .ok (.aload_n 0, 1) := by decide +kernel
theorem dd_M_simple_295 : decode bb_M_simple 295 = .ok (.ldc2_w 127, 3) := by decide +kernel
theorem dd_M_simple_298 : decode bb_M_simple 298 = .ok (.invokevirtual 85, 3) := by decide +kernel
theorem dd_M_simple_301 : decode bb_M_simple 301 = .ok (.goto 30, 3) := by decide +kernel
theorem dd_M_simple_304 : decode bb_M_simple 304 = .ok (.aload_n 0, 1) := by decide +kernel
theorem dd_M_simple_305 : decode bb_M_simple 305 = .ok (.ldc2_w 129, 3) := by decide +kernel
theorem dd_M_simple_308 : decode bb_M_simple 308 = .ok (.invokevirtual 85, 3) := by decide +kernel
theorem dd_M_simple_311 : decode bb_M_simple 311 = .ok (.goto 20, 3) := by decide +kernel
theorem dd_M_simple_314 : decode bb_M_simple 314 = .ok (.aload_n 0, 1) := by decide +kernel
theorem dd_M_simple_315 : decode bb_M_simple 315 = .ok (.ldc2_w 131, 3) := by decide +kernel
theorem dd_M_simple_318 : decode bb_M_simple 318 = .ok (.invokevirtual 85, 3) := by decide +kernel
theorem dd_M_simple_321 : decode bb_M_simple 321 = .ok (.goto 10, 3) := by decide +kernel
theorem dd_M_simple_324 : decode bb_M_simple 324 = .ok (.aload_n 0, 1) := by decide +kernel
theorem dd_M_simple_325 : decode bb_M_simple 325 = .ok (.ldc2_w 133, 3) := by decide +kernel
theorem dd_M_simple_328 : decode bb_M_simple 328 = .ok (.invokevirtual 85, 3) := by decide +kernel
theorem dd_M_simple_331 : decode bb_M_simple 331 = .ok (.return_, 1) := by decide +kernel
theorem dd_M_store_0 : decode bb_M_store 0 = .ok (.aload_n 0, 1) := by decide +kernel
theorem dd_M_store_1 : decode bb_M_store 1 = .ok (.iload_n 1, 1) := by decide +kernel
theorem dd_M_store_2 : decode bb_M_store 2 = .ok (.invokevirtual 166, 3) := by decide +kernel
theorem dd_M_store_5 : decode bb_M_store 5 = .ok (.ifCond .ne 26, 3) := by decide +kernel
theorem dd_M_store_8 : decode bb_M_store 8 = .ok (.iload_n 3, 1) := by decide +kernel
theorem dd_M_store_9 : decode bb_M_store 9 = .ok (.bipush (-7), 2) := by decide +kernel
theorem dd_M_store_11 : decode bb_M_store 11 = .ok (.if_icmp .eq 11, 3) := by decide +kernel
theorem dd_M_store_14 : decode bb_M_store 14 = .ok (.aload_n 0, 1) := by decide +kernel
theorem dd_M_store_15 : decode bb_M_store 15 = .ok (.iload_n 3, 1) := by decide +kernel
theorem dd_M_store_16 : decode bb_M_store 16 = .ok (.invokevirtual 166, 3) := by decide +kernel
theorem dd_M_store_19 : decode bb_M_store 19 = .ok (.ifCond .ne 12, 3) := by decide +kernel
theorem dd_M_store_22 : decode bb_M_store 22 = .ok (.aload_n 0, 1) := by decide +kernel
theorem dd_M_store_23 : decode bb_M_store 23 = .ok (.iload_n 1, 1) := by decide +kernel
theorem dd_M_store_24 : decode bb_M_store 24 = .ok (.invokevirtual 169, 3) := by decide +kernel
theorem dd_M_store_27 : decode bb_M_store 27 = .ok (.iconst 2, 1) := by decide +kernel
theorem dd_M_store_28 : decode bb_M_store 28 = .ok (.if_icmp .eq 5, 3) := by decide +kernel
theorem dd_M_store_31 : decode bb_M_store 31 = .ok (.iconst (-1), 1) := by decide +kernel
theorem dd_M_store_32 : decode bb_M_store 32 = .ok (.ireturn, 1) := by decide +kernel
theorem dd_M_store_33 : decode bb_M_store 33 = .ok (.aload_n 0, 1) := by decide +kernel
theorem dd_M_store_34 : decode bb_M_store 34 = .ok (.iload_n 1, 1) := by decide +kernel
theorem dd_M_store_35 : decode bb_M_store 35 = .ok (.iload_n 2, 1) := by decide +kernel
theorem dd_M_store_36 : decode bb_M_store 36 = .ok (.invokevirtual 172, 3) := by decide +kernel
theorem dd_M_store_39 : decode bb_M_store 39 = .ok (.ifCond .eq 6, 3) := by decide +kernel
theorem dd_M_store_42 : decode bb_M_store 42 = .ok (.bipush (-5), 2) := by decide +kernel
theorem dd_M_store_44 : decode bb_M_store 44 = .ok (.ireturn, 1) := by decide +kernel
theorem dd_M_store_45 : decode bb_M_store 45 = .ok (.iload_n 3, 1) := by decide +kernel
theorem dd_M_store_46 : decode bb_M_store 46 = .ok (.bipush (-7), 2) := by decide +kernel
theorem dd_M_store_48 : decode bb_M_store 48 = .ok (.if_icmp .eq 30, 3) := by decide +kernel
theorem dd_M_store_51 : decode bb_M_store 51 = .ok (.aload_n 0, 1) := by decide +kernel
theorem dd_M_store_52 : decode bb_M_store 52 = .ok (.aload_n 0, 1) := by decide +kernel
theorem dd_M_store_53 : decode bb_M_store 53 = .ok (.getfield 23, 3) := by decide +kernel
theorem dd_M_store_56 : decode bb_M_store 56 = .ok (.aload_n 0, 1) := by decide +kernel
theorem dd_M_store_57 : decode bb_M_store 57 = .ok (.getfield 33, 3) := by decide +kernel
theorem dd_M_store_60 : decode bb_M_store 60 = .ok (.iload_n 1, 1) := by decide +kernel
theorem dd_M_store_61 : decode bb_M_store 61 = .ok (.iaload, 1) := by decide +kernel
theorem dd_M_store_62 : decode bb_M_store 62 = .ok (.iaload, 1) := by decide +kernel
theorem dd_M_store_63 : decode bb_M_store 63 = .ok (.aload_n 0, 1) := by decide +kernel
theorem dd_M_store_64 : decode bb_M_store 64 = .ok (.getfield 33, 3) := by decide +kernel
theorem dd_M_store_67 : decode bb_M_store 67 = .ok (.iload_n 3, 1) := by decide +kernel
theorem dd_M_store_68 : decode bb_M_store 68 = .ok (.iaload, 1) := by decide +kernel
theorem dd_M_store_69 : decode bb_M_store 69 = .ok (.invokevirtual 67, 3) := by decide +kernel
theorem dd_M_store_72 : decode bb_M_store 72 = .ok (.ifCond .ne 6, 3) := by decide +kernel
theorem dd_M_store_75 : decode bb_M_store 75 = .ok (.bipush (-6), 2) := by decide +kernel
theorem dd_M_store_77 : decode bb_M_store 77 = .ok (.ireturn, 1) := by decide +kernel
theorem dd_M_store_78 : decode bb_M_store 78 = .ok (.aload_n 0, 1) := by decide +kernel
theorem dd_M_store_79 : decode bb_M_store 79 = .ok (.getfield 42, 3) := by decide +kernel
theorem dd_M_store_82 : decode bb_M_store 82 = .ok (.bipush 8, 2) := by decide +kernel
theorem dd_M_store_84 : decode bb_M_store 84 = .ok (.iload_n 1, 1) := by decide +kernel
theorem dd_M_store_85 : decode bb_M_store 85 = .ok (.imul, 1) := by decide +kernel
theorem dd_M_store_86 : decode bb_M_store 86 = .ok (.iload_n 2, 1) := by decide +kernel
theorem dd_M_store_87 : decode bb_M_store 87 = .ok (.iadd, 1) := by decide +kernel
theorem dd_M_store_88 : decode bb_M_store 88 = .ok (.laload, 1) := by decide +kernel
theorem dd_M_store_89 : decode bb_M_store 89 = .ok (.l2i, 1) := by decide +kernel
theorem dd_M_store_90 : decode bb_M_store 90 = .ok (.istore 4, 2) := by decide +kernel
theorem dd_M_store_92 : decode bb_M_store 92 = .ok (.aload_n 0, 1) := by decide +kernel
theorem dd_M_store_93 : decode bb_M_store 93 = .ok (.getfield 42, 3) := by decide +kernel
theorem dd_M_store_96 : decode bb_M_store 96 = .ok (.bipush 8, 2) := by decide +kernel
theorem dd_M_store_98 : decode bb_M_store 98 = .ok (.iload_n 1, 1) := by decide +kernel
theorem dd_M_store_99 : decode bb_M_store 99 = .ok (.imul, 1) := by decide +kernel
theorem dd_M_store_100 : decode bb_M_store 100 = .ok (.iload_n 2, 1) := by decide +kernel
theorem dd_M_store_101 : decode bb_M_store 101 = .ok (.iadd, 1) := by decide +kernel
theorem dd_M_store_102 : decode bb_M_store 102 = .ok (.iload_n 3, 1) := by decide +kernel
theorem dd_M_store_103 : decode bb_M_store 103 = .ok (.i2l, 1) := by decide +kernel
theorem dd_M_store_104 : decode bb_M_store 104 = .ok (.lastore, 1) := by decide +kernel
theorem dd_M_store_105 : decode bb_M_store 105 = .ok (.iload 4, 2) := by decide +kernel
theorem dd_M_store_107 : decode bb_M_store 107 = .ok (.ireturn, 1) := by decide +kernel
theorem dd_M_supertype_0 : decode bb_M_supertype 0 = .ok (.aload_n 0, 1) := by decide +kernel
theorem dd_M_supertype_1 : decode bb_M_supertype 1 = .ok (.iload_n 1, 1) := by decide +kernel
theorem dd_M_supertype_2 : decode bb_M_supertype 2 = .ok (.invokevirtual 52, 3) := by decide +kernel
theorem dd_M_supertype_5 : decode bb_M_supertype 5 = .ok (.ifCond .ne 11, 3) := by decide +kernel
theorem dd_M_supertype_8 : decode bb_M_supertype 8 = .ok (.aload_n 0, 1) := by decide +kernel
theorem dd_M_supertype_9 : decode bb_M_supertype 9 = .ok (.iload_n 2, 1) := by decide +kernel
theorem dd_M_supertype_10 : decode bb_M_supertype 10 = .ok (.invokevirtual 52, 3) := by decide +kernel
theorem dd_M_supertype_13 : decode bb_M_supertype 13 = .ok (.ifCond .eq 7, 3) := by decide +kernel
theorem dd_M_supertype_16 : decode bb_M_supertype 16 = .ok (.iconst (-1), 1) := by decide +kernel
theorem dd_M_supertype_17 : decode bb_M_supertype 17 = .ok (.goto 17, 3) := by decide +kernel
theorem dd_M_supertype_20 : decode bb_M_supertype 20 = .ok (.aload_n 0, 1) := by decide +kernel
theorem dd_M_supertype_21 : decode bb_M_supertype 21 = .ok (.iload_n 1, 1) := by decide +kernel
theorem dd_M_supertype_22 : decode bb_M_supertype 22 = .ok (.iload_n 2, 1) := by decide +kernel
theorem dd_M_supertype_23 : decode bb_M_supertype 23 = .ok (.invokevirtual 67, 3) := by decide +kernel
theorem dd_M_supertype_26 : decode bb_M_supertype 26 = .ok (.ifCond .eq 7, 3) := by decide +kernel
theorem dd_M_supertype_29 : decode bb_M_supertype 29 = .ok (.iconst 1, 1) := by decide +kernel
theorem dd_M_supertype_30 : decode bb_M_supertype 30 = .ok (.goto 4, 3) := by decide +kernel
theorem dd_M_supertype_33 : decode bb_M_supertype 33 = .ok (.iconst 0, 1) := by decide +kernel
theorem dd_M_supertype_34 : decode bb_M_supertype 34 = .ok (.ireturn, 1) := by decide +kernel
theorem dd_M_text_0 : decode bb_M_text 0 = .ok (.aload_n 0, 1) := by decide +kernel
theorem dd_M_text_1 : decode bb_M_text 1 = .ok (.iload_n 1, 1) := by decide +kernel
theorem dd_M_text_2 : decode bb_M_text 2 = .ok (.invokevirtual 52, 3) := by decide +kernel
theorem dd_M_text_5 : decode bb_M_text 5 = .ok (.ifCond .ne 12, 3) := by decide +kernel
theorem dd_M_text_8 : decode bb_M_text 8 = .ok (.iload_n 2, 1) := by decide +kernel
theorem dd_M_text_9 : decode bb_M_text 9 = .ok (.ifCond .lt 8, 3) := by decide +kernel
theorem dd_M_text_12 : decode bb_M_text 12 = .ok (.iload_n 2, 1) := by decide +kernel
theorem dd_M_text_13 : decode bb_M_text 13 = .ok (.iconst 2, 1) := by decide +kernel
theorem dd_M_text_14 : decode bb_M_text 14 = .ok (.if_icmp .le 5, 3) := by decide +kernel
theorem dd_M_text_17 : decode bb_M_text 17 = .ok (.iconst (-1), 1) := by decide +kernel
theorem dd_M_text_18 : decode bb_M_text 18 = .ok (.ireturn, 1) := by decide +kernel
theorem dd_M_text_19 : decode bb_M_text 19 = .ok (.aload_n 0, 1) := by decide +kernel
theorem dd_M_text_20 : decode bb_M_text 20 = .ok (.iconst 0, 1) := by decide +kernel
theorem dd_M_text_21 : decode bb_M_text 21 = .ok (.putfield 74, 3) := by decide +kernel
theorem dd_M_text_24 : decode bb_M_text 24 = .ok (.iload_n 2, 1) := by decide +kernel
theorem dd_M_text_25 : decode bb_M_text 25 = .ok (.iconst 2, 1) := by decide +kernel
theorem dd_M_text_26 : decode bb_M_text 26 = .ok (.if_icmp .ne 12, 3) := by decide +kernel
theorem dd_M_text_29 : decode bb_M_text 29 = .ok (.aload_n 0, 1) := by decide +kernel
theorem dd_M_text_30 : decode bb_M_text 30 = .ok (.iload_n 1, 1) := by decide +kernel
theorem dd_M_text_31 : decode bb_M_text 31 = .ok (.iconst 1, 1) := by decide +kernel
theorem dd_M_text_32 : decode bb_M_text 32 = .ok (.invokevirtual 156, 3) := by decide +kernel
theorem dd_M_text_35 : decode bb_M_text 35 = .ok (.goto 46, 3) := by decide +kernel
theorem dd_M_text_38 : decode bb_M_text 38 = .ok (.iload_n 2, 1) := by decide +kernel
theorem dd_M_text_39 : decode bb_M_text 39 = .ok (.ifCond .ne 21, 3) := by decide +kernel
theorem dd_M_text_42 : decode bb_M_text 42 = .ok (.aload_n 0, 1) := by decide +kernel
theorem dd_M_text_43 : decode bb_M_text 43 = .ok (.getfield 26, 3) := by decide +kernel
theorem dd_M_text_46 : decode bb_M_text 46 = .ok (.iload_n 1, 1) := by decide +kernel
theorem dd_M_text_47 : decode bb_M_text 47 = .ok (.iaload, 1) := by decide +kernel
theorem dd_M_text_48 : decode bb_M_text 48 = .ok (.ifCond .le 12, 3) := by decide +kernel
theorem dd_M_text_51 : decode bb_M_text 51 = .ok (.aload_n 0, 1) := by decide +kernel
theorem dd_M_text_52 : decode bb_M_text 52 = .ok (.iload_n 1, 1) := by decide +kernel
theorem dd_M_text_53 : decode bb_M_text 53 = .ok (.iconst 0, 1) := by decide +kernel
theorem dd_M_text_54 : decode bb_M_text 54 = .ok (.invokevirtual 156, 3) := by decide +kernel
theorem dd_M_text_57 : decode bb_M_text 57 = .ok (.goto 24, 3) := by decide +kernel
theorem dd_M_text_60 : decode bb_M_text 60 = .ok (.iload_n 2, 1) := by decide +kernel
theorem dd_M_text_61 : decode bb_M_text 61 = .ok (.ifCond .ne 11, 3) := by decide +kernel
theorem dd_M_text_64 : decode bb_M_text 64 = .ok (.aload_n 0, 1) := by decide +kernel
theorem dd_M_text_65 : decode bb_M_text 65 = .ok (.iload_n 1, 1) := by decide +kernel
theorem dd_M_text_66 : decode bb_M_text 66 = .ok (.invokevirtual 153, 3) := by decide +kernel
theorem dd_M_text_69 : decode bb_M_text 69 = .ok (.goto 12, 3) := by decide +kernel
theorem dd_M_text_72 : decode bb_M_text 72 = .ok (.aload_n 0, 1) := by decide +kernel
theorem dd_M_text_73 : decode bb_M_text 73 = .ok (.aload_n 0, 1) := by decide +kernel
theorem dd_M_text_74 : decode bb_M_text 74 = .ok (.iload_n 1, 1) := by decide +kernel
theorem dd_M_text_75 : decode bb_M_text 75 = .ok (.invokevirtual 71, 3) := by decide +kernel
theorem dd_M_text_78 : decode bb_M_text 78 = .ok (.invokevirtual 147, 3) := by decide +kernel
theorem dd_M_text_81 : decode bb_M_text 81 = .ok (.iconst 0, 1) := by decide +kernel
theorem dd_M_text_82 : decode bb_M_text 82 = .ok (.istore 4, 2) := by decide +kernel
theorem dd_M_text_84 : decode bb_M_text 84 = .ok (.iload 4, 2) := by decide +kernel
theorem dd_M_text_86 : decode bb_M_text 86 = .ok (.aload_n 0, 1) := by decide +kernel
theorem dd_M_text_87 : decode bb_M_text 87 = .ok (.getfield 26, 3) := by decide +kernel
theorem dd_M_text_90 : decode bb_M_text 90 = .ok (.iload_n 1, 1) := by decide +kernel
theorem dd_M_text_91 : decode bb_M_text 91 = .ok (.iaload, 1) := by decide +kernel
theorem dd_M_text_92 : decode bb_M_text 92 = .ok (.if_icmp .ge 26, 3) := by decide +kernel
theorem dd_M_text_95 : decode bb_M_text 95 = .ok (.iload_n 2, 1) := by decide +kernel
theorem dd_M_text_96 : decode bb_M_text 96 = .ok (.iconst 1, 1) := by decide +kernel
theorem dd_M_text_97 : decode bb_M_text 97 = .ok (.if_icmp .ne 21, 3) := by decide +kernel
theorem dd_M_text_100 : decode bb_M_text 100 = .ok (.aload_n 0, 1) := by decide +kernel
theorem dd_M_text_101 : decode bb_M_text 101 = .ok (.bipush 91, 2) := by decide +kernel
theorem dd_M_text_103 : decode bb_M_text 103 = .ok (.invokevirtual 79, 3) := by decide +kernel
theorem dd_M_text_106 : decode bb_M_text 106 = .ok (.aload_n 0, 1) := by decide +kernel
theorem dd_M_text_107 : decode bb_M_text 107 = .ok (.bipush 93, 2) := by decide +kernel
theorem dd_M_text_109 : decode bb_M_text 109 = .ok (.invokevirtual 79, 3) := by decide +kernel
theorem dd_M_text_112 : decode bb_M_text 112 = .ok (.iinc 4 1, 3) := by decide +kernel
theorem dd_M_text_115 : decode bb_M_text 115 = .ok (.goto (-31), 3) := by decide +kernel
theorem dd_M_text_118 : decode bb_M_text 118 = .ok (.iload_n 3, 1) := by decide +kernel
theorem dd_M_text_119 : decode bb_M_text 119 = .ok (.ifCond .lt 11, 3) := by decide +kernel
theorem dd_M_text_122 : decode bb_M_text 122 = .ok (.iload_n 3, 1) := by decide +kernel
theorem dd_M_text_123 : decode bb_M_text 123 = .ok (.aload_n 0, 1) := by decide +kernel
theorem dd_M_text_124 : decode bb_M_text 124 = .ok (.getfield 74, 3) := by decide +kernel
theorem dd_M_text_127 : decode bb_M_text 127 = .ok (.if_icmp .lt 7, 3) := by decide +kernel
theorem dd_M_text_130 : decode bb_M_text 130 = .ok (.iconst (-1), 1) := by decide +kernel
theorem dd_M_text_131 : decode bb_M_text 131 = .ok (.goto 9, 3) := by decide +kernel
theorem dd_M_text_134 : decode bb_M_text 134 = .ok (.aload_n 0, 1) := by decide +kernel
theorem dd_M_text_135 : decode bb_M_text 135 = .ok (.getfield 46, 3) := by decide +kernel
theorem dd_M_text_138 : decode bb_M_text 138 = .ok (.iload_n 3, 1) := by decide +kernel
theorem dd_M_text_139 : decode bb_M_text 139 = .ok (.iaload, 1) := by decide +kernel
theorem dd_M_text_140 : decode bb_M_text 140 = .ok (.ireturn, 1) := by decide +kernel
theorem dd_M_word_0 : decode bb_M_word 0 = .ok (.lconst 1, 1) := by decide +kernel
theorem dd_M_word_1 : decode bb_M_word 1 = .ok (.lstore_n 3, 1) := by decide +kernel
theorem dd_M_word_2 : decode bb_M_word 2 = .ok (.lload_n 1, 1) := by decide +kernel
theorem dd_M_word_3 : decode bb_M_word 3 = .ok (.lload_n 3, 1) := by decide +kernel
theorem dd_M_word_4 : decode bb_M_word 4 = .ok (.ldiv, 1) := by decide +kernel
theorem dd_M_word_5 : decode bb_M_word 5 = .ok (.ldc2_w 77, 3) := by decide +kernel
theorem dd_M_word_8 : decode bb_M_word 8 = .ok (.lcmp, 1) := by decide +kernel
theorem dd_M_word_9 : decode bb_M_word 9 = .ok (.ifCond .lt 12, 3) := by decide +kernel
theorem dd_M_word_12 : decode bb_M_word 12 = .ok (.lload_n 3, 1) := by decide +kernel
theorem dd_M_word_13 : decode bb_M_word 13 = .ok (.ldc2_w 77, 3) := by decide +kernel
theorem dd_M_word_16 : decode bb_M_word 16 = .ok (.lmul, 1) := by decide +kernel
theorem dd_M_word_17 : decode bb_M_word 17 = .ok (.lstore_n 3, 1) := by decide +kernel
theorem dd_M_word_18 : decode bb_M_word 18 = .ok (.goto (-16), 3) := by decide +kernel
theorem dd_M_word_21 : decode bb_M_word 21 = .ok (.lload_n 3, 1) := by decide +kernel
theorem dd_M_word_22 : decode bb_M_word 22 = .ok (.lconst 0, 1) := by decide +kernel
theorem dd_M_word_23 : decode bb_M_word 23 = .ok (.lcmp, 1) := by decide +kernel
theorem dd_M_word_24 : decode bb_M_word 24 = .ok (.ifCond .le 24, 3) := by decide +kernel
theorem dd_M_word_27 : decode bb_M_word 27 = .ok (.aload_n 0, 1) := by decide +kernel
theorem dd_M_word_28 : decode bb_M_word 28 = .ok (.lload_n 1, 1) := by decide +kernel
theorem dd_M_word_29 : decode bb_M_word 29 = .ok (.lload_n 3, 1) := by decide +kernel
theorem dd_M_word_30 : decode bb_M_word 30 = .ok (.ldiv, 1) := by decide +kernel
theorem dd_M_word_31 : decode bb_M_word 31 = .ok (.ldc2_w 77, 3) := by decide +kernel
theorem dd_M_word_34 : decode bb_M_word 34 = .ok (.lrem, 1) := by decide +kernel
theorem dd_M_word_35 : decode bb_M_word 35 = .ok (.l2i, 1) := by decide +kernel
theorem dd_M_word_36 : decode bb_M_word 36 = .ok (.invokevirtual 79, 3) := by decide +kernel
theorem dd_M_word_39 : decode bb_M_word 39 = .ok (.lload_n 3, 1) := by decide +kernel
theorem dd_M_word_40 : decode bb_M_word 40 = .ok (.ldc2_w 77, 3) := by decide +kernel
theorem dd_M_word_43 : decode bb_M_word 43 = .ok (.ldiv, 1) := by decide +kernel
theorem dd_M_word_44 : decode bb_M_word 44 = .ok (.lstore_n 3, 1) := by decide +kernel
theorem dd_M_word_45 : decode bb_M_word 45 = .ok (.goto (-24), 3) := by decide +kernel
theorem dd_M_word_48 : decode bb_M_word 48 = .ok (.return_, 1) := by decide +kernel
end
section
def TM : u_T := fun k => match k with
  | 0 => ("ClassObjectMirrorModel", "fixedMarks", "[I", true)
  | 1 => ("ClassObjectMirrorModel", "fixedAbove", "[I", true)
  | 2 => ("ClassObjectMirrorModel", "component", "[I", true)
  | 3 => ("ClassObjectMirrorModel", "dims", "[I", true)
  | 4 => ("ClassObjectMirrorModel", "types", "I", false)
  | 5 => ("ClassObjectMirrorModel", "kind", "[I", true)
  | 6 => ("ClassObjectMirrorModel", "size", "[I", true)
  | 7 => ("ClassObjectMirrorModel", "value", "[I", true)
  | 8 => ("ClassObjectMirrorModel", "cell", "[J", true)
  | 9 => ("ClassObjectMirrorModel", "objects", "I", false)
  | 10 => ("ClassObjectMirrorModel", "out", "[I", true)
  | _ => ("ClassObjectMirrorModel", "written", "I", false)
def tyM : Nat → FieldType := fun k => match k with
  | 0 => .array .int
  | 1 => .array .int
  | 2 => .array .int
  | 3 => .array .int
  | 4 => .int
  | 5 => .array .int
  | 6 => .array .int
  | 7 => .array .int
  | 8 => .array .long
  | 9 => .int
  | 10 => .array .int
  | _ => .int
theorem nmM : ∀ a, a < 12 → ∀ b, b < 12 → a ≠ b → (TM a).2.1 ≠ (TM b).2.1 := by decide +kernel
theorem tyM_ok : ∀ k, k < 12 → parseFieldDescriptor (TM k).2.2.1 = some (tyM k) := by decide +kernel
abbrev SM : Type := (Nat → Int32) × (Nat → Int32) × (Nat → Int32) × (Nat → Int32) × (Int32) × (Nat → Int32) × (Nat → Int32) × (Nat → Int32) × (Nat → Int64) × (Int32) × (Nat → Int32) × (Int32)
def m_fm (u : SM) : Nat → Int32 := u.1
def m_fa (u : SM) : Nat → Int32 := u.2.1
def m_comp (u : SM) : Nat → Int32 := u.2.2.1
def m_dims (u : SM) : Nat → Int32 := u.2.2.2.1
def m_types (u : SM) : Int32 := u.2.2.2.2.1
def m_kind (u : SM) : Nat → Int32 := u.2.2.2.2.2.1
def m_size (u : SM) : Nat → Int32 := u.2.2.2.2.2.2.1
def m_val (u : SM) : Nat → Int32 := u.2.2.2.2.2.2.2.1
def m_cell (u : SM) : Nat → Int64 := u.2.2.2.2.2.2.2.2.1
def m_objs (u : SM) : Int32 := u.2.2.2.2.2.2.2.2.2.1
def m_out (u : SM) : Nat → Int32 := u.2.2.2.2.2.2.2.2.2.2.1
def m_wr (u : SM) : Int32 := u.2.2.2.2.2.2.2.2.2.2.2
def m_u_fm (u : SM) (i v : Int32) : SM := (upd (m_fm u) i.toNatClampNeg v, m_fa u, m_comp u, m_dims u, m_types u, m_kind u, m_size u, m_val u, m_cell u, m_objs u, m_out u, m_wr u)
def m_u_fa (u : SM) (i v : Int32) : SM := (m_fm u, upd (m_fa u) i.toNatClampNeg v, m_comp u, m_dims u, m_types u, m_kind u, m_size u, m_val u, m_cell u, m_objs u, m_out u, m_wr u)
def m_u_comp (u : SM) (i v : Int32) : SM := (m_fm u, m_fa u, upd (m_comp u) i.toNatClampNeg v, m_dims u, m_types u, m_kind u, m_size u, m_val u, m_cell u, m_objs u, m_out u, m_wr u)
def m_u_dims (u : SM) (i v : Int32) : SM := (m_fm u, m_fa u, m_comp u, upd (m_dims u) i.toNatClampNeg v, m_types u, m_kind u, m_size u, m_val u, m_cell u, m_objs u, m_out u, m_wr u)
def m_u_types (u : SM) (v : Int32) : SM := (m_fm u, m_fa u, m_comp u, m_dims u, v, m_kind u, m_size u, m_val u, m_cell u, m_objs u, m_out u, m_wr u)
def m_u_kind (u : SM) (i v : Int32) : SM := (m_fm u, m_fa u, m_comp u, m_dims u, m_types u, upd (m_kind u) i.toNatClampNeg v, m_size u, m_val u, m_cell u, m_objs u, m_out u, m_wr u)
def m_u_size (u : SM) (i v : Int32) : SM := (m_fm u, m_fa u, m_comp u, m_dims u, m_types u, m_kind u, upd (m_size u) i.toNatClampNeg v, m_val u, m_cell u, m_objs u, m_out u, m_wr u)
def m_u_val (u : SM) (i v : Int32) : SM := (m_fm u, m_fa u, m_comp u, m_dims u, m_types u, m_kind u, m_size u, upd (m_val u) i.toNatClampNeg v, m_cell u, m_objs u, m_out u, m_wr u)
def m_u_cell (u : SM) (i : Int32) (v : Int64) : SM := (m_fm u, m_fa u, m_comp u, m_dims u, m_types u, m_kind u, m_size u, m_val u, vp_updL (m_cell u) i.toNatClampNeg v, m_objs u, m_out u, m_wr u)
def m_u_objs (u : SM) (v : Int32) : SM := (m_fm u, m_fa u, m_comp u, m_dims u, m_types u, m_kind u, m_size u, m_val u, m_cell u, v, m_out u, m_wr u)
def m_u_out (u : SM) (i v : Int32) : SM := (m_fm u, m_fa u, m_comp u, m_dims u, m_types u, m_kind u, m_size u, m_val u, m_cell u, m_objs u, upd (m_out u) i.toNatClampNeg v, m_wr u)
def m_u_wr (u : SM) (v : Int32) : SM := (m_fm u, m_fa u, m_comp u, m_dims u, m_types u, m_kind u, m_size u, m_val u, m_cell u, m_objs u, m_out u, v)
def wM (h : Nat) (a : Nat → Nat) (k : Nat → ClassId) (u : SM) : va_W := [(h, .inr (0, [.ref (a 0), .ref (a 1), .ref (a 2), .ref (a 3), .int (m_types u), .ref (a 4), .ref (a 5), .ref (a 6), .ref (a 7), .int (m_objs u), .ref (a 8), .int (m_wr u)])), (a 0, .inl (k 0, 22, .inl (m_fm u))), (a 1, .inl (k 1, 22, .inl (m_fa u))), (a 2, .inl (k 2, 300, .inl (m_comp u))), (a 3, .inl (k 3, 300, .inl (m_dims u))), (a 4, .inl (k 4, 80, .inl (m_kind u))), (a 5, .inl (k 5, 80, .inl (m_size u))), (a 6, .inl (k 6, 80, .inl (m_val u))), (a 7, .inl (k 7, 640, .inr (.inl (m_cell u)))), (a 8, .inl (k 8, 900, .inl (m_out u)))]
def tM (k : Nat → ClassId) : List (ClassId × FieldType) := [(k 0, .int), (k 1, .int), (k 2, .int), (k 3, .int), (k 4, .int), (k 5, .int), (k 6, .int), (k 7, .long), (k 8, .int)]
def aM (h : Nat) (a : Nat → Nat) : Nat → Prop := fun q => q = h ∨ ∃ i, i < 9 ∧ q = a i
abbrev cls_l : List vw_C := [("ClassObjectMirrorModel", TM, 12)]
def pM (dC : Nat → ClassId) (dI : Nat → Nat → Nat) (h : Nat) (a : Nat → Nat) (k : Nat → ClassId) (u : SM) (U : State) : Prop := va_P (dC, dI) cls_l (wM h a k u) U.heap ∧ va_K (dC, dI) cls_l (tM k) U ∧ va_D (aM h a) (wM h a k u)
theorem pM_up {dC : Nat → ClassId} {dI : Nat → Nat → Nat} {h : Nat} {a : Nat → Nat} {k : Nat → ClassId} {u : SM} {s U : State} {H : Heap} (hP : va_P (dC, dI) cls_l (wM h a k u) H) (hK : va_K (dC, dI) cls_l (tM k) s) (hD : va_D (aM h a) (wM h a k u)) (hU : U.heap = H) (hW : s.WarmedH U.vm) : pM dC dI h a k u U := ⟨by rw [hU]; exact hP, va_K.moved hW.alike hK, hD⟩
theorem pM_bl {dC : Nat → ClassId} {dI : Nat → Nat → Nat} {h : Nat} {a : Nat → Nat} {k : Nat → ClassId} {u : SM} {av : List Value} : FrameBlind (va_Pc av (pM dC dI h a k u)) := fun a U g mk q => ⟨q.1, q.2.1, va_K.moved (u := U) (U := U.calling g mk a) (Vm.Alike.refl U.vm) q.2.2.1, q.2.2.2⟩
theorem inM : ∀ w ∈ u_ws "ClassObjectMirrorModel" TM 12, w ∈ gW := by
  intro w h
  obtain ⟨k, hk, rfl⟩ := List.mem_map.mp h
  have hk := List.mem_range.mp hk
  rcases (show k = 0 ∨ k = 1 ∨ k = 2 ∨ k = 3 ∨ k = 4 ∨ k = 5 ∨ k = 6 ∨ k = 7 ∨ k = 8 ∨ k = 9 ∨ k = 10 ∨ k = 11 by omega) with rfl | rfl | rfl | rfl | rfl | rfl | rfl | rfl | rfl | rfl | rfl | rfl
  · exact gw_313
  · exact gw_315
  · exact gw_317
  · exact gw_319
  · exact gw_321
  · exact gw_323
  · exact gw_325
  · exact gw_327
  · exact gw_329
  · exact gw_331
  · exact gw_333
  · exact gw_335
/-- a switch's number: outside, or one of its places -/
theorem sw_tab (x : Int32) (lo hi : Int) (n : Nat) (hn : hi = lo + n - 1) : (x.toInt < lo ∨ hi < x.toInt) ∨ ∃ j : Nat, j < n ∧ x = Int32.ofInt (lo + (j : Int)) := by
  by_cases h1 : x.toInt < lo
  · exact Or.inl (Or.inl h1)
  · by_cases h2 : hi < x.toInt
    · exact Or.inl (Or.inr h2)
    · refine Or.inr ⟨(x.toInt - lo).toNat, by omega, ?_⟩
      rw [show lo + (((x.toInt - lo).toNat : Nat) : Int) = x.toInt by omega]
      exact (Int32.ofInt_toInt x).symm
end
section
def ff_M_noType (u0 : SM) (p0 : Int32) : Int32 := (if p0 < 0 then 1 else (if p0 < (m_types u0) then 0 else 1))
abbrev ws_M_noType : List Cond := .code yy_M_noType bb_M_noType 2 (some .boolean) :: gW
abbrev rm_M_noType : Room := { frames := 0, cells := 0, slots := 0, locals := 0 }
set_option maxHeartbeats 4000000 in
set_option maxRecDepth 100000 in
theorem mm_M_noType (l : Launch) (dC : Nat → ClassId) (dI : Nat → Nat → Nat) (h : Nat) (a : Nat → Nat) (k : Nat → ClassId) (u0 : SM) (p0 : Int32) : Met l yy_M_noType ws_M_noType rm_M_noType (va_Pc [.ref h, .int p0] (pM dC dI h a k u0)) (vp_Si (fun r => r = ff_M_noType u0 p0)) 0 0 (fun _ => False) := by
  refine Met.ofW (cc := bb_M_noType) (maxL := 2) (ret := (some .boolean)) (by decide) rfl ?_
  intro p e s m args below meth c s₁ B hml hv
  obtain ⟨rfl, hP, hK, hD⟩ := hv
  have hx := B.exec
  have hb := B.bytes
  have hr := B.returns
  have hts : ∀ w ∈ gW, w.before _ s = true := fun w h => atoms_spec (ws := ws_M_noType) B.pre w (List.mem_cons_of_mem _ h)
  have hown : s.vm.findClass "ClassObjectMirrorModel" = some m.cls := findClass_of_methodNamed B.named
  have hlocks := B.notSynchronized
  have hS : va_S (aM h a) s.heap s.heap [] := va_S.rf
  have hl := lv_entry ([.ref h, .int p0]) (n := 2) (Nat.le_of_ble_eq_true rfl)
  rw [lg_entry_eq]
  generalize (lg_sl ([.ref h, .int p0]) ++ List.replicate (2 - (lg_sl ([.ref h, .int p0])).length) Slot.unset).toArray = ls at hl ⊢
  have hl : lv_has ls 2 [(0, .ref h), (1, .int p0)] := hl
  have hf := ff_M_noType.eq_1 u0 p0
  refine lv_iload_n hx hb dd_M_noType_0 rfl (lv_at hl 1 rfl) ?_
  refine lv_if_lt (tgt := 12) hx hb dd_M_noType_1 (by decide) (fun c1 => ?_) (fun c1 => ?_)
  · have hf := hf.trans (if_pos c1)
    refine lv_iconst (v := 1) hx hb dd_M_noType_12 (by decide) ?_
    refine lv_goto (tgt := 17) hx hb dd_M_noType_13 (by decide) ?_
    exact W.zret (ty := .boolean) (v := (1 : Int32)) hx hb hr (by decide) (fun t ht hW => ⟨(1 : Int32), rfl, hf.symm, ht⟩) (fun _ h => by cases h) dd_M_noType_17
  · have hf := hf.trans (if_neg c1)
    refine lv_iload_n hx hb dd_M_noType_4 rfl (lv_at hl 1 rfl) ?_
    refine lv_aload_n hx hb dd_M_noType_5 rfl (lv_at hl 0 rfl) ?_
    refine va_get (D := (dC, dI)) (ci := 0) (v := .int (m_types u0)) (C := "ClassObjectMirrorModel") (T := TM) (N := 12) hx hb hts inM hown hK hP 0 rfl rfl 4 (by decide) (hts _ gw_305) (fun _ h9 => h9) rfl dd_M_noType_6 ?_
    refine lv_icmp_lt (tgt := 16) hx hb dd_M_noType_9 (by decide) (fun c2 => ?_) (fun c2 => ?_)
    · have hf := hf.trans (if_pos c2)
      refine lv_iconst (v := 0) hx hb dd_M_noType_16 (by decide) ?_
      exact W.zret (ty := .boolean) (v := (0 : Int32)) hx hb hr (by decide) (fun t ht hW => ⟨(0 : Int32), rfl, hf.symm, ht⟩) (fun _ h => by cases h) dd_M_noType_17
    · have hf := hf.trans (if_neg c2)
      refine lv_iconst (v := 1) hx hb dd_M_noType_12 (by decide) ?_
      refine lv_goto (tgt := 17) hx hb dd_M_noType_13 (by decide) ?_
      exact W.zret (ty := .boolean) (v := (1 : Int32)) hx hb hr (by decide) (fun t ht hW => ⟨(1 : Int32), rfl, hf.symm, ht⟩) (fun _ h => by cases h) dd_M_noType_17

def ff_M_noObject (u0 : SM) (p0 : Int32) : Int32 := (if p0 < 0 then 1 else (if p0 < (m_objs u0) then 0 else 1))
abbrev ws_M_noObject : List Cond := .code yy_M_noObject bb_M_noObject 2 (some .boolean) :: gW
abbrev rm_M_noObject : Room := { frames := 0, cells := 0, slots := 0, locals := 0 }
set_option maxHeartbeats 4000000 in
set_option maxRecDepth 100000 in
theorem mm_M_noObject (l : Launch) (dC : Nat → ClassId) (dI : Nat → Nat → Nat) (h : Nat) (a : Nat → Nat) (k : Nat → ClassId) (u0 : SM) (p0 : Int32) : Met l yy_M_noObject ws_M_noObject rm_M_noObject (va_Pc [.ref h, .int p0] (pM dC dI h a k u0)) (vp_Si (fun r => r = ff_M_noObject u0 p0)) 0 0 (fun _ => False) := by
  refine Met.ofW (cc := bb_M_noObject) (maxL := 2) (ret := (some .boolean)) (by decide) rfl ?_
  intro p e s m args below meth c s₁ B hml hv
  obtain ⟨rfl, hP, hK, hD⟩ := hv
  have hx := B.exec
  have hb := B.bytes
  have hr := B.returns
  have hts : ∀ w ∈ gW, w.before _ s = true := fun w h => atoms_spec (ws := ws_M_noObject) B.pre w (List.mem_cons_of_mem _ h)
  have hown : s.vm.findClass "ClassObjectMirrorModel" = some m.cls := findClass_of_methodNamed B.named
  have hlocks := B.notSynchronized
  have hS : va_S (aM h a) s.heap s.heap [] := va_S.rf
  have hl := lv_entry ([.ref h, .int p0]) (n := 2) (Nat.le_of_ble_eq_true rfl)
  rw [lg_entry_eq]
  generalize (lg_sl ([.ref h, .int p0]) ++ List.replicate (2 - (lg_sl ([.ref h, .int p0])).length) Slot.unset).toArray = ls at hl ⊢
  have hl : lv_has ls 2 [(0, .ref h), (1, .int p0)] := hl
  have hf := ff_M_noObject.eq_1 u0 p0
  refine lv_iload_n hx hb dd_M_noObject_0 rfl (lv_at hl 1 rfl) ?_
  refine lv_if_lt (tgt := 12) hx hb dd_M_noObject_1 (by decide) (fun c1 => ?_) (fun c1 => ?_)
  · have hf := hf.trans (if_pos c1)
    refine lv_iconst (v := 1) hx hb dd_M_noObject_12 (by decide) ?_
    refine lv_goto (tgt := 17) hx hb dd_M_noObject_13 (by decide) ?_
    exact W.zret (ty := .boolean) (v := (1 : Int32)) hx hb hr (by decide) (fun t ht hW => ⟨(1 : Int32), rfl, hf.symm, ht⟩) (fun _ h => by cases h) dd_M_noObject_17
  · have hf := hf.trans (if_neg c1)
    refine lv_iload_n hx hb dd_M_noObject_4 rfl (lv_at hl 1 rfl) ?_
    refine lv_aload_n hx hb dd_M_noObject_5 rfl (lv_at hl 0 rfl) ?_
    refine va_get (D := (dC, dI)) (ci := 0) (v := .int (m_objs u0)) (C := "ClassObjectMirrorModel") (T := TM) (N := 12) hx hb hts inM hown hK hP 0 rfl rfl 9 (by decide) (hts _ gw_310) (fun _ h9 => h9) rfl dd_M_noObject_6 ?_
    refine lv_icmp_lt (tgt := 16) hx hb dd_M_noObject_9 (by decide) (fun c2 => ?_) (fun c2 => ?_)
    · have hf := hf.trans (if_pos c2)
      refine lv_iconst (v := 0) hx hb dd_M_noObject_16 (by decide) ?_
      exact W.zret (ty := .boolean) (v := (0 : Int32)) hx hb hr (by decide) (fun t ht hW => ⟨(0 : Int32), rfl, hf.symm, ht⟩) (fun _ h => by cases h) dd_M_noObject_17
    · have hf := hf.trans (if_neg c2)
      refine lv_iconst (v := 1) hx hb dd_M_noObject_12 (by decide) ?_
      refine lv_goto (tgt := 17) hx hb dd_M_noObject_13 (by decide) ?_
      exact W.zret (ty := .boolean) (v := (1 : Int32)) hx hb hr (by decide) (fun t ht hW => ⟨(1 : Int32), rfl, hf.symm, ht⟩) (fun _ h => by cases h) dd_M_noObject_17

def ff_M_base (p0 : Int32) : Int32 := (if p0 < 0 then 0 else (if 7 < p0 then 0 else 1))
abbrev ws_M_base : List Cond := .code yy_M_base bb_M_base 1 (some .boolean) :: gW
abbrev rm_M_base : Room := { frames := 0, cells := 0, slots := 0, locals := 0 }
set_option maxHeartbeats 4000000 in
set_option maxRecDepth 100000 in
theorem mm_M_base (l : Launch) (p0 : Int32) : Met l yy_M_base ws_M_base rm_M_base (va_Pc [.int p0] (fun _ => True)) (vp_Si (fun r => r = ff_M_base p0)) 0 0 (fun _ => False) := by
  refine Met.ofW (cc := bb_M_base) (maxL := 1) (ret := (some .boolean)) (by decide) rfl ?_
  intro p e s m args below meth c s₁ B hml hv
  obtain ⟨rfl, -⟩ := hv
  have hx := B.exec
  have hb := B.bytes
  have hr := B.returns
  have hts : ∀ w ∈ gW, w.before _ s = true := fun w h => atoms_spec (ws := ws_M_base) B.pre w (List.mem_cons_of_mem _ h)
  have hown : s.vm.findClass "ClassObjectMirrorModel" = some m.cls := findClass_of_methodNamed B.named
  have hlocks := B.notSynchronized
  have hl := lv_entry ([.int p0]) (n := 1) (Nat.le_of_ble_eq_true rfl)
  rw [lg_entry_eq]
  generalize (lg_sl ([.int p0]) ++ List.replicate (1 - (lg_sl ([.int p0])).length) Slot.unset).toArray = ls at hl ⊢
  have hl : lv_has ls 1 [(0, .int p0)] := hl
  have hf := ff_M_base.eq_1 p0
  refine lv_iload_n hx hb dd_M_base_0 rfl (lv_at hl 0 rfl) ?_
  refine lv_if_lt (tgt := 14) hx hb dd_M_base_1 (by decide) (fun c1 => ?_) (fun c1 => ?_)
  · have hf := hf.trans (if_pos c1)
    refine lv_iconst (v := 0) hx hb dd_M_base_14 (by decide) ?_
    exact W.zret (ty := .boolean) (v := (0 : Int32)) hx hb hr (by decide) (fun t ht hW => ⟨(0 : Int32), rfl, hf.symm, ht⟩) (fun _ h => by cases h) dd_M_base_15
  · have hf := hf.trans (if_neg c1)
    refine lv_iload_n hx hb dd_M_base_4 rfl (lv_at hl 0 rfl) ?_
    refine lv_bipush (v := 7) hx hb dd_M_base_5 (by decide) ?_
    refine lv_icmp_gt (tgt := 14) hx hb dd_M_base_7 (by decide) (fun c2 => ?_) (fun c2 => ?_)
    · have hf := hf.trans (if_pos c2)
      refine lv_iconst (v := 0) hx hb dd_M_base_14 (by decide) ?_
      exact W.zret (ty := .boolean) (v := (0 : Int32)) hx hb hr (by decide) (fun t ht hW => ⟨(0 : Int32), rfl, hf.symm, ht⟩) (fun _ h => by cases h) dd_M_base_15
    · have hf := hf.trans (if_neg c2)
      refine lv_iconst (v := 1) hx hb dd_M_base_10 (by decide) ?_
      refine lv_goto (tgt := 15) hx hb dd_M_base_11 (by decide) ?_
      exact W.zret (ty := .boolean) (v := (1 : Int32)) hx hb hr (by decide) (fun t ht hW => ⟨(1 : Int32), rfl, hf.symm, ht⟩) (fun _ h => by cases h) dd_M_base_15

def fl_M_search_24 : Nat → SM → Int32 → Int32 → Int32
  | 0, _, _, _ => 0
  | n + 1, u0, x1, x2 => (if (m_types u0) ≤ x2 then (if (m_types u0) = 300 then (-8) else m_types u0) else (if (m_comp u0 x2.toNatClampNeg) = x1 then x2 else fl_M_search_24 n u0 x1 (x2 + 1)))
def okl_M_search_24 : Nat → SM → Int32 → Int32 → Prop
  | 0, _, _, _ => False
  | n + 1, u0, x1, x2 => ((((m_types u0) ≤ x2) → True) ∧ (¬ ((m_types u0) ≤ x2) → (vp_in x2 300) ∧ ((((m_comp u0 x2.toNatClampNeg) = x1) → True) ∧ (¬ ((m_comp u0 x2.toNatClampNeg) = x1) → okl_M_search_24 n u0 x1 (x2 + 1)))))
def ff_M_search (u0 : SM) (p0 : Int32) : Int32 := (if p0 = 8 then (-2) else (if (m_dims u0 p0.toNatClampNeg) = 255 then (-2) else fl_M_search_24 300 u0 p0 (22 : Int32)))
def ok_M_search (u0 : SM) (p0 : Int32) : Prop := (((p0 = 8) → True) ∧ (¬ (p0 = 8) → (vp_in p0 300) ∧ ((((m_dims u0 p0.toNatClampNeg) = 255) → True) ∧ (¬ ((m_dims u0 p0.toNatClampNeg) = 255) → okl_M_search_24 300 u0 p0 (22 : Int32)))))
abbrev ws_M_search : List Cond := .code yy_M_search bb_M_search 3 (some .int) :: gW
abbrev rm_M_search : Room := { frames := 0, cells := 0, slots := 0, locals := 0 }
set_option maxHeartbeats 4000000 in
set_option maxRecDepth 100000 in
theorem mm_M_search (l : Launch) (dC : Nat → ClassId) (dI : Nat → Nat → Nat) (h : Nat) (a : Nat → Nat) (k : Nat → ClassId) (u0 : SM) (p0 : Int32) (hok : ok_M_search u0 p0) : Met l yy_M_search ws_M_search rm_M_search (va_Pc [.ref h, .int p0] (pM dC dI h a k u0)) (vp_Si (fun r => r = ff_M_search u0 p0)) 0 0 (fun _ => False) := by
  refine Met.ofW (cc := bb_M_search) (maxL := 3) (ret := (some .int)) (by decide) rfl ?_
  intro p e s m args below meth c s₁ B hml hv
  obtain ⟨rfl, hP, hK, hD⟩ := hv
  have hx := B.exec
  have hb := B.bytes
  have hr := B.returns
  have hts : ∀ w ∈ gW, w.before _ s = true := fun w h => atoms_spec (ws := ws_M_search) B.pre w (List.mem_cons_of_mem _ h)
  have hown : s.vm.findClass "ClassObjectMirrorModel" = some m.cls := findClass_of_methodNamed B.named
  have hlocks := B.notSynchronized
  have hS : va_S (aM h a) s.heap s.heap [] := va_S.rf
  have hl := lv_entry ([.ref h, .int p0]) (n := 3) (Nat.le_of_ble_eq_true rfl)
  rw [lg_entry_eq]
  generalize (lg_sl ([.ref h, .int p0]) ++ List.replicate (3 - (lg_sl ([.ref h, .int p0])).length) Slot.unset).toArray = ls at hl ⊢
  have hl : lv_has ls 3 [(0, .ref h), (1, .int p0)] := hl
  have hf := ff_M_search.eq_1 u0 p0
  unfold ok_M_search at hok
  refine lv_iload_n hx hb dd_M_search_0 rfl (lv_at hl 1 rfl) ?_
  refine lv_bipush (v := 8) hx hb dd_M_search_1 (by decide) ?_
  refine lv_icmp_eq (tgt := 18) hx hb dd_M_search_3 (by decide) (fun c1 => ?_) (fun c1 => ?_)
  · have hf := hf.trans (if_pos c1)
    have hok := hok.1 c1
    refine lv_bipush (v := (-2)) hx hb dd_M_search_18 (by decide) ?_
    exact W.iret (v := ((-2) : Int32)) hx hb hr (fun t ht hW => ⟨((-2) : Int32), rfl, hf.symm, ht⟩) (fun _ h => by cases h) dd_M_search_20
  · have hf := hf.trans (if_neg c1)
    have hok := hok.2 c1
    refine lv_aload_n hx hb dd_M_search_6 rfl (lv_at hl 0 rfl) ?_
    refine va_get (D := (dC, dI)) (ci := 0) (v := .ref (a 3)) (C := "ClassObjectMirrorModel") (T := TM) (N := 12) hx hb hts inM hown hK hP 0 rfl rfl 3 (by decide) (hts _ gw_304) (fun _ h9 => h9) rfl dd_M_search_7 ?_
    refine lv_iload_n hx hb dd_M_search_10 rfl (lv_at hl 1 rfl) ?_
    obtain ⟨n2, hok⟩ := hok
    refine va_iald hx hb hK hP 4 3 rfl rfl n2 dd_M_search_11 ?_
    refine lv_sipush (v := 255) hx hb dd_M_search_12 (by decide) ?_
    refine lv_icmp_ne (tgt := 21) hx hb dd_M_search_15 (by decide) (fun c3 => ?_) (fun c3 => ?_)
    · have hf := hf.trans (if_neg c3)
      have hok := hok.2 c3
      refine lv_bipush (v := 22) hx hb dd_M_search_21 (by decide) ?_
      refine lv_istore_n (lv' := [(2, .int 22), (0, .ref h), (1, .int p0)]) hx hb dd_M_search_23 rfl hl (by decide) rfl (fun ls hl => ?_)
      have loop_24 : ∀ (n : Nat) (x1 : Int32) (x2 : Int32) (ls : Array Slot), okl_M_search_24 n u0 x1 x2 → ff_M_search u0 p0 = fl_M_search_24 n u0 x1 x2 → lv_has ls 3 [(0, .ref h), (1, .int x1), (2, .int x2)] → W p l e (headSpec ws_M_search rm_M_search).room s m ([.ref h, .int p0] : List Value).toArray below meth c s.heap [] 0 0 (MQ below (vp_Si (fun r => r = ff_M_search u0 p0)) ([.ref h, .int p0] : List Value).toArray s 0 0 (fun _ => False)) (F0 m 24 ls []) := by
        intro n
        induction n with
        | zero => intro x1 x2 ls hok; exact (show False from hok).elim
        | succ n ih =>
          intro x1 x2 ls hok hf hl
          rw [fl_M_search_24] at hf
          rw [okl_M_search_24] at hok
          refine lv_iload_n hx hb dd_M_search_24 rfl (lv_at hl 2 rfl) ?_
          refine lv_aload_n hx hb dd_M_search_25 rfl (lv_at hl 0 rfl) ?_
          refine va_get (D := (dC, dI)) (ci := 0) (v := .int (m_types u0)) (C := "ClassObjectMirrorModel") (T := TM) (N := 12) hx hb hts inM hown hK hP 0 rfl rfl 4 (by decide) (hts _ gw_305) (fun _ h9 => h9) rfl dd_M_search_26 ?_
          refine lv_icmp_ge (tgt := 50) hx hb dd_M_search_29 (by decide) (fun c4 => ?_) (fun c4 => ?_)
          · have hf := hf.trans (if_pos c4)
            have hok := hok.1 c4
            refine lv_aload_n hx hb dd_M_search_50 rfl (lv_at hl 0 rfl) ?_
            refine va_get (D := (dC, dI)) (ci := 0) (v := .int (m_types u0)) (C := "ClassObjectMirrorModel") (T := TM) (N := 12) hx hb hts inM hown hK hP 0 rfl rfl 4 (by decide) (hts _ gw_305) (fun _ h9 => h9) rfl dd_M_search_51 ?_
            refine lv_sipush (v := 300) hx hb dd_M_search_54 (by decide) ?_
            refine lv_icmp_ne (tgt := 65) hx hb dd_M_search_57 (by decide) (fun c5 => ?_) (fun c5 => ?_)
            · have hf := hf.trans (if_neg c5)
              refine lv_aload_n hx hb dd_M_search_65 rfl (lv_at hl 0 rfl) ?_
              refine va_get (D := (dC, dI)) (ci := 0) (v := .int (m_types u0)) (C := "ClassObjectMirrorModel") (T := TM) (N := 12) hx hb hts inM hown hK hP 0 rfl rfl 4 (by decide) (hts _ gw_305) (fun _ h9 => h9) rfl dd_M_search_66 ?_
              exact W.iret (v := (m_types u0)) hx hb hr (fun t ht hW => ⟨(m_types u0), rfl, hf.symm, ht⟩) (fun _ h => by cases h) dd_M_search_69
            · have hf := hf.trans (if_pos c5)
              refine lv_bipush (v := (-8)) hx hb dd_M_search_60 (by decide) ?_
              refine lv_goto (tgt := 69) hx hb dd_M_search_62 (by decide) ?_
              exact W.iret (v := ((-8) : Int32)) hx hb hr (fun t ht hW => ⟨((-8) : Int32), rfl, hf.symm, ht⟩) (fun _ h => by cases h) dd_M_search_69
          · have hf := hf.trans (if_neg c4)
            have hok := hok.2 c4
            refine lv_aload_n hx hb dd_M_search_32 rfl (lv_at hl 0 rfl) ?_
            refine va_get (D := (dC, dI)) (ci := 0) (v := .ref (a 2)) (C := "ClassObjectMirrorModel") (T := TM) (N := 12) hx hb hts inM hown hK hP 0 rfl rfl 2 (by decide) (hts _ gw_303) (fun _ h9 => h9) rfl dd_M_search_33 ?_
            refine lv_iload_n hx hb dd_M_search_36 rfl (lv_at hl 2 rfl) ?_
            obtain ⟨n6, hok⟩ := hok
            refine va_iald hx hb hK hP 3 2 rfl rfl n6 dd_M_search_37 ?_
            refine lv_iload_n hx hb dd_M_search_38 rfl (lv_at hl 1 rfl) ?_
            refine lv_icmp_ne (tgt := 44) hx hb dd_M_search_39 (by decide) (fun c7 => ?_) (fun c7 => ?_)
            · have hf := hf.trans (if_neg c7)
              have hok := hok.2 c7
              refine lv_iinc (v := x2 + 1) (lv' := [(2, .int (x2 + 1)), (0, .ref h), (1, .int x1)]) hx hb dd_M_search_44 hl (k := 2) rfl rfl (by decide) rfl (fun ls hl => ?_)
              refine lv_goto (tgt := 24) hx hb dd_M_search_47 (by decide) ?_
              exact ih x1 (x2 + 1) ls hok hf (lv_sub hl [1, 2, 0] rfl)
            · have hf := hf.trans (if_pos c7)
              have hok := hok.1 c7
              refine lv_iload_n hx hb dd_M_search_42 rfl (lv_at hl 2 rfl) ?_
              exact W.iret (v := x2) hx hb hr (fun t ht hW => ⟨x2, rfl, hf.symm, ht⟩) (fun _ h => by cases h) dd_M_search_43
      exact loop_24 300 p0 (22 : Int32) ls hok hf (lv_sub hl [1, 2, 0] rfl)
    · have hf := hf.trans (if_pos c3)
      have hok := hok.1 c3
      refine lv_bipush (v := (-2)) hx hb dd_M_search_18 (by decide) ?_
      exact W.iret (v := ((-2) : Int32)) hx hb hr (fun t ht hW => ⟨((-2) : Int32), rfl, hf.symm, ht⟩) (fun _ h => by cases h) dd_M_search_20

def ff_M_enter (u0 : SM) (p0 : Int32) (p1 : Int32) : SM := (if (m_types u0) ≤ p0 then m_u_types (m_u_dims (m_u_comp u0 p0 p1) p0 ((m_dims (m_u_comp u0 p0 p1) p1.toNatClampNeg) + 1)) ((m_types (m_u_dims (m_u_comp u0 p0 p1) p0 ((m_dims (m_u_comp u0 p0 p1) p1.toNatClampNeg) + 1))) + 1) else u0)
def ok_M_enter (u0 : SM) (p0 : Int32) (p1 : Int32) : Prop := ((((m_types u0) ≤ p0) → (vp_in p0 300) ∧ (vp_in p1 300) ∧ vp_in p0 300) ∧ (¬ ((m_types u0) ≤ p0) → True))
abbrev ws_M_enter : List Cond := .code yy_M_enter bb_M_enter 3 (none) :: gW
abbrev rm_M_enter : Room := { frames := 0, cells := 0, slots := 0, locals := 0 }
set_option maxHeartbeats 4000000 in
set_option maxRecDepth 100000 in
theorem mm_M_enter (l : Launch) (dC : Nat → ClassId) (dI : Nat → Nat → Nat) (h : Nat) (a : Nat → Nat) (k : Nat → ClassId) (u0 : SM) (p0 : Int32) (p1 : Int32) (hok : ok_M_enter u0 p0 p1) : Met l yy_M_enter ws_M_enter rm_M_enter (va_Pc [.ref h, .int p0, .int p1] (pM dC dI h a k u0)) (va_Qv (fun v : SM => v = ff_M_enter u0 p0 p1) (pM dC dI h a k) (aM h a)) 0 0 (aM h a) := by
  refine Met.ofW (cc := bb_M_enter) (maxL := 3) (ret := (none)) (by decide) rfl ?_
  intro p e s m args below meth c s₁ B hml hv
  obtain ⟨rfl, hP, hK, hD⟩ := hv
  have hx := B.exec
  have hb := B.bytes
  have hr := B.returns
  have hts : ∀ w ∈ gW, w.before _ s = true := fun w h => atoms_spec (ws := ws_M_enter) B.pre w (List.mem_cons_of_mem _ h)
  have hown : s.vm.findClass "ClassObjectMirrorModel" = some m.cls := findClass_of_methodNamed B.named
  have hlocks := B.notSynchronized
  have hS : va_S (aM h a) s.heap s.heap [] := va_S.rf
  have hl := lv_entry ([.ref h, .int p0, .int p1]) (n := 3) (Nat.le_of_ble_eq_true rfl)
  rw [lg_entry_eq]
  generalize (lg_sl ([.ref h, .int p0, .int p1]) ++ List.replicate (3 - (lg_sl ([.ref h, .int p0, .int p1])).length) Slot.unset).toArray = ls at hl ⊢
  have hl : lv_has ls 3 [(0, .ref h), (1, .int p0), (2, .int p1)] := hl
  have hf := ff_M_enter.eq_1 u0 p0 p1
  unfold ok_M_enter at hok
  refine lv_iload_n hx hb dd_M_enter_0 rfl (lv_at hl 1 rfl) ?_
  refine lv_aload_n hx hb dd_M_enter_1 rfl (lv_at hl 0 rfl) ?_
  refine va_get (D := (dC, dI)) (ci := 0) (v := .int (m_types u0)) (C := "ClassObjectMirrorModel") (T := TM) (N := 12) hx hb hts inM hown hK hP 0 rfl rfl 4 (by decide) (hts _ gw_305) (fun _ h9 => h9) rfl dd_M_enter_2 ?_
  refine lv_icmp_ge (tgt := 9) hx hb dd_M_enter_5 (by decide) (fun c1 => ?_) (fun c1 => ?_)
  · have hf := hf.trans (if_pos c1)
    have hok := hok.1 c1
    refine lv_aload_n hx hb dd_M_enter_9 rfl (lv_at hl 0 rfl) ?_
    refine va_get (D := (dC, dI)) (ci := 0) (v := .ref (a 2)) (C := "ClassObjectMirrorModel") (T := TM) (N := 12) hx hb hts inM hown hK hP 0 rfl rfl 2 (by decide) (hts _ gw_303) (fun _ h9 => h9) rfl dd_M_enter_10 ?_
    refine lv_iload_n hx hb dd_M_enter_13 rfl (lv_at hl 1 rfl) ?_
    refine lv_iload_n hx hb dd_M_enter_14 rfl (lv_at hl 2 rfl) ?_
    obtain ⟨n2, hok⟩ := hok
    refine va_iast hx hb hK hP hD hS 3 2 rfl rfl n2 dd_M_enter_15 (fun H locs hP hD hS => ?_)
    have hP : va_P (dC, dI) cls_l (wM h a k (m_u_comp u0 p0 p1)) H := hP
    have hD : va_D (aM h a) (wM h a k (m_u_comp u0 p0 p1)) := hD
    refine lv_aload_n hx hb dd_M_enter_16 rfl (lv_at hl 0 rfl) ?_
    refine va_get (D := (dC, dI)) (ci := 0) (v := .ref (a 3)) (C := "ClassObjectMirrorModel") (T := TM) (N := 12) hx hb hts inM hown hK hP 0 rfl rfl 3 (by decide) (hts _ gw_304) (fun _ h9 => h9) rfl dd_M_enter_17 ?_
    refine lv_iload_n hx hb dd_M_enter_20 rfl (lv_at hl 1 rfl) ?_
    refine lv_aload_n hx hb dd_M_enter_21 rfl (lv_at hl 0 rfl) ?_
    refine va_get (D := (dC, dI)) (ci := 0) (v := .ref (a 3)) (C := "ClassObjectMirrorModel") (T := TM) (N := 12) hx hb hts inM hown hK hP 0 rfl rfl 3 (by decide) (hts _ gw_304) (fun _ h9 => h9) rfl dd_M_enter_22 ?_
    refine lv_iload_n hx hb dd_M_enter_25 rfl (lv_at hl 2 rfl) ?_
    obtain ⟨n3, hok⟩ := hok
    refine va_iald hx hb hK hP 4 3 rfl rfl n3 dd_M_enter_26 ?_
    refine lv_iconst (v := 1) hx hb dd_M_enter_27 (by decide) ?_
    refine lv_iadd hx hb dd_M_enter_28 ?_
    have n4 := hok
    refine va_iast hx hb hK hP hD hS 4 3 rfl rfl n4 dd_M_enter_29 (fun H locs hP hD hS => ?_)
    have hP : va_P (dC, dI) cls_l (wM h a k (m_u_dims (m_u_comp u0 p0 p1) p0 ((m_dims (m_u_comp u0 p0 p1) p1.toNatClampNeg) + 1))) H := hP
    have hD : va_D (aM h a) (wM h a k (m_u_dims (m_u_comp u0 p0 p1) p0 ((m_dims (m_u_comp u0 p0 p1) p1.toNatClampNeg) + 1))) := hD
    refine lv_aload_n hx hb dd_M_enter_30 rfl (lv_at hl 0 rfl) ?_
    refine lv_dup hx hb dd_M_enter_31 rfl ?_
    refine va_get (D := (dC, dI)) (ci := 0) (v := .int (m_types (m_u_dims (m_u_comp u0 p0 p1) p0 ((m_dims (m_u_comp u0 p0 p1) p1.toNatClampNeg) + 1)))) (C := "ClassObjectMirrorModel") (T := TM) (N := 12) hx hb hts inM hown hK hP 0 rfl rfl 4 (by decide) (hts _ gw_305) (fun _ h9 => h9) rfl dd_M_enter_32 ?_
    refine lv_iconst (v := 1) hx hb dd_M_enter_35 (by decide) ?_
    refine lv_iadd hx hb dd_M_enter_36 ?_
    refine va_put (D := (dC, dI)) (ci := 0) (v := .int ((m_types (m_u_dims (m_u_comp u0 p0 p1) p0 ((m_dims (m_u_comp u0 p0 p1) p1.toNatClampNeg) + 1))) + 1)) (ty := .int) (C := "ClassObjectMirrorModel") (T := TM) (N := 12) hx hb hts inM tyM tyM_ok nmM hown hK hP hD hS 0 rfl rfl 4 (by decide) (hts _ gw_305) (fun _ h9 => h9) rfl (by decide +kernel) rfl rfl (Nat.le_of_ble_eq_true rfl) dd_M_enter_37 (fun H locs hP hD hS => ?_)
    have hP : va_P (dC, dI) cls_l (wM h a k (m_u_types (m_u_dims (m_u_comp u0 p0 p1) p0 ((m_dims (m_u_comp u0 p0 p1) p1.toNatClampNeg) + 1)) ((m_types (m_u_dims (m_u_comp u0 p0 p1) p0 ((m_dims (m_u_comp u0 p0 p1) p1.toNatClampNeg) + 1))) + 1))) H := hP
    have hD : va_D (aM h a) (wM h a k (m_u_types (m_u_dims (m_u_comp u0 p0 p1) p0 ((m_dims (m_u_comp u0 p0 p1) p1.toNatClampNeg) + 1)) ((m_types (m_u_dims (m_u_comp u0 p0 p1) p0 ((m_dims (m_u_comp u0 p0 p1) p1.toNatClampNeg) + 1))) + 1))) := hD
    exact W.vret hx hb hr (fun t ht hW => ⟨⟨m_u_types (m_u_dims (m_u_comp u0 p0 p1) p0 ((m_dims (m_u_comp u0 p0 p1) p1.toNatClampNeg) + 1)) ((m_types (m_u_dims (m_u_comp u0 p0 p1) p0 ((m_dims (m_u_comp u0 p0 p1) p1.toNatClampNeg) + 1))) + 1), rfl, hf.symm, pM_up hP hK hD ht hW⟩, hS.F ht⟩) hS.2.2 dd_M_enter_40
  · have hf := hf.trans (if_neg c1)
    have hok := hok.2 c1
    exact W.vret hx hb hr (fun t ht hW => ⟨⟨u0, rfl, hf.symm, pM_up hP hK hD ht hW⟩, hS.F ht⟩) hS.2.2 dd_M_enter_8

def ff_M_arrayOf (u0 : SM) (p0 : Int32) : Int32 × SM := (if (ff_M_noType u0 p0) = 0 then (if (ff_M_search u0 p0) < 0 then (ff_M_search u0 p0, u0) else (ff_M_search u0 p0, ff_M_enter u0 (ff_M_search u0 p0) p0)) else ((-1), u0))
def ok_M_arrayOf (u0 : SM) (p0 : Int32) : Prop := ((((ff_M_noType u0 p0) = 0) → (ok_M_search u0 p0) ∧ ((((ff_M_search u0 p0) < 0) → True) ∧ (¬ ((ff_M_search u0 p0) < 0) → ok_M_enter u0 (ff_M_search u0 p0) p0))) ∧ (¬ ((ff_M_noType u0 p0) = 0) → True))
abbrev ws_M_arrayOf : List Cond := .code yy_M_arrayOf bb_M_arrayOf 3 (some .int) :: gW
abbrev rm_M_arrayOf : Room := { frames := 1, cells := 0, slots := 0, locals := 22 }
set_option maxHeartbeats 4000000 in
set_option maxRecDepth 100000 in
theorem mm_M_arrayOf (l : Launch) (dC : Nat → ClassId) (dI : Nat → Nat → Nat) (h : Nat) (a : Nat → Nat) (k : Nat → ClassId) (u0 : SM) (p0 : Int32) (hok : ok_M_arrayOf u0 p0) : Met l yy_M_arrayOf ws_M_arrayOf rm_M_arrayOf (va_Pc [.ref h, .int p0] (pM dC dI h a k u0)) (va_Qi (fun (r : Int32) (v : SM) => (r, v) = ff_M_arrayOf u0 p0) (pM dC dI h a k) (aM h a)) 0 0 (aM h a) := by
  refine Met.ofW (cc := bb_M_arrayOf) (maxL := 3) (ret := (some .int)) (by decide) rfl ?_
  intro p e s m args below meth c s₁ B hml hv
  obtain ⟨rfl, hP, hK, hD⟩ := hv
  have hx := B.exec
  have hb := B.bytes
  have hr := B.returns
  have hts : ∀ w ∈ gW, w.before _ s = true := fun w h => atoms_spec (ws := ws_M_arrayOf) B.pre w (List.mem_cons_of_mem _ h)
  have hown : s.vm.findClass "ClassObjectMirrorModel" = some m.cls := findClass_of_methodNamed B.named
  have hlocks := B.notSynchronized
  have hS : va_S (aM h a) s.heap s.heap [] := va_S.rf
  have hl := lv_entry ([.ref h, .int p0]) (n := 3) (Nat.le_of_ble_eq_true rfl)
  rw [lg_entry_eq]
  generalize (lg_sl ([.ref h, .int p0]) ++ List.replicate (3 - (lg_sl ([.ref h, .int p0])).length) Slot.unset).toArray = ls at hl ⊢
  have hl : lv_has ls 3 [(0, .ref h), (1, .int p0)] := hl
  have hf := ff_M_arrayOf.eq_1 u0 p0
  unfold ok_M_arrayOf at hok
  refine lv_aload_n hx hb dd_M_arrayOf_0 rfl (lv_at hl 0 rfl) ?_
  refine lv_iload_n hx hb dd_M_arrayOf_1 rfl (lv_at hl 1 rfl) ?_
  refine vp_callSi (W.runV (As := [.int p0]) (rest := []) ⟨hx, hb, hml, hown, hts⟩ (mm_M_noType l dC dI h a k u0 p0) (cwV 1 hts (gg_V gw_342 gw_344 gs_18 gw_2 gw_345) rfl rfl rfl (by decide +kernel) ⟨Nat.le_of_ble_eq_true rfl, Nat.le_of_ble_eq_true rfl⟩) ⟨pM_bl, va_recv hK hP (ci := 0) (q0 := 0) rfl rfl, fun U hU hW => ⟨rfl, pM_up hP hK hD hU hW⟩⟩ rfl rfl hl.1 rfl (lv_room (Nat.le_of_ble_eq_true rfl)) dd_M_arrayOf_2 ⟨Nat.zero_le _, Nat.zero_le _⟩) (fun r hr9 => ?_)
  subst hr9
  refine lv_if_eq (tgt := 10) hx hb dd_M_arrayOf_5 (by decide) (fun c1 => ?_) (fun c1 => ?_)
  · have hf := hf.trans (if_pos c1)
    have hok := hok.1 c1
    refine lv_aload_n hx hb dd_M_arrayOf_10 rfl (lv_at hl 0 rfl) ?_
    refine lv_iload_n hx hb dd_M_arrayOf_11 rfl (lv_at hl 1 rfl) ?_
    obtain ⟨n2, hok⟩ := hok
    refine vp_callSi (W.runV (As := [.int p0]) (rest := []) ⟨hx, hb, hml, hown, hts⟩ (mm_M_search l dC dI h a k u0 p0 n2) (cwV 1 hts (gg_V gw_346 gw_348 gs_19 gw_2 gw_349) rfl rfl rfl (by decide +kernel) ⟨Nat.le_of_ble_eq_true rfl, Nat.le_of_ble_eq_true rfl⟩) ⟨pM_bl, va_recv hK hP (ci := 0) (q0 := 0) rfl rfl, fun U hU hW => ⟨rfl, pM_up hP hK hD hU hW⟩⟩ rfl rfl hl.1 rfl (lv_room (Nat.le_of_ble_eq_true rfl)) dd_M_arrayOf_12 ⟨Nat.zero_le _, Nat.zero_le _⟩) (fun r hr9 => ?_)
    subst hr9
    refine lv_istore_n (lv' := [(2, .int (ff_M_search u0 p0)), (0, .ref h), (1, .int p0)]) hx hb dd_M_arrayOf_15 rfl hl (by decide) rfl (fun ls hl => ?_)
    refine lv_iload_n hx hb dd_M_arrayOf_16 rfl (lv_at hl 0 rfl) ?_
    refine lv_if_lt (tgt := 26) hx hb dd_M_arrayOf_17 (by decide) (fun c3 => ?_) (fun c3 => ?_)
    · have hf := hf.trans (if_pos c3)
      have hok := hok.1 c3
      refine lv_iload_n hx hb dd_M_arrayOf_26 rfl (lv_at hl 0 rfl) ?_
      exact W.iret (v := (ff_M_search u0 p0)) hx hb hr (fun t ht hW => ⟨⟨(ff_M_search u0 p0), u0, rfl, hf.symm, pM_up hP hK hD ht hW⟩, hS.F ht⟩) hS.2.2 dd_M_arrayOf_27
    · have hf := hf.trans (if_neg c3)
      have hok := hok.2 c3
      refine lv_aload_n hx hb dd_M_arrayOf_20 rfl (lv_at hl 1 rfl) ?_
      refine lv_iload_n hx hb dd_M_arrayOf_21 rfl (lv_at hl 0 rfl) ?_
      refine lv_iload_n hx hb dd_M_arrayOf_22 rfl (lv_at hl 2 rfl) ?_
      have n4 := hok
      refine va_callv (va_runV (As := [.int (ff_M_search u0 p0), .int p0]) (rest := []) ⟨hx, hb, hml, hown, hts⟩ (mm_M_enter l dC dI h a k u0 (ff_M_search u0 p0) p0 n4) (cwV 2 hts (gg_V gw_350 gw_352 gs_20 gw_2 gw_353) rfl rfl rfl (by decide +kernel) ⟨Nat.le_of_ble_eq_true rfl, Nat.le_of_ble_eq_true rfl⟩) ⟨pM_bl, va_recv hK hP (ci := 0) (q0 := 0) rfl rfl, fun U hU hW => ⟨rfl, pM_up hP hK hD hU hW⟩⟩ rfl rfl hl.1 rfl (lv_room (Nat.le_of_ble_eq_true rfl)) dd_M_arrayOf_23 ⟨Nat.zero_le _, Nat.zero_le _⟩) hS (fun q _ h => h) (fun q h => h) (fun v9 t9 H locs ht9 hvm9 hw9 hB9 hz9 hk9 hS => ?_)
      subst hw9
      obtain ⟨hP, -, hD⟩ := hB9
      rw [ht9] at hP
      refine lv_iload_n hx hb dd_M_arrayOf_26 rfl (lv_at hl 0 rfl) ?_
      exact W.iret (v := (ff_M_search u0 p0)) hx hb hr (fun t ht hW => ⟨⟨(ff_M_search u0 p0), ff_M_enter u0 (ff_M_search u0 p0) p0, rfl, hf.symm, pM_up hP hK hD ht hW⟩, hS.F ht⟩) hS.2.2 dd_M_arrayOf_27
  · have hf := hf.trans (if_neg c1)
    have hok := hok.2 c1
    refine lv_iconst (v := (-1)) hx hb dd_M_arrayOf_8 (by decide) ?_
    exact W.iret (v := ((-1) : Int32)) hx hb hr (fun t ht hW => ⟨⟨((-1) : Int32), u0, rfl, hf.symm, pM_up hP hK hD ht hW⟩, hS.F ht⟩) hS.2.2 dd_M_arrayOf_9

def ff_M_component (u0 : SM) (p0 : Int32) : Int32 := (if (ff_M_noType u0 p0) = 0 then (if (m_dims u0 p0.toNatClampNeg) = 0 then (-7) else m_comp u0 p0.toNatClampNeg) else (-1))
def ok_M_component (u0 : SM) (p0 : Int32) : Prop := ((((ff_M_noType u0 p0) = 0) → (vp_in p0 300) ∧ ((((m_dims u0 p0.toNatClampNeg) = 0) → True) ∧ (¬ ((m_dims u0 p0.toNatClampNeg) = 0) → vp_in p0 300))) ∧ (¬ ((ff_M_noType u0 p0) = 0) → True))
abbrev ws_M_component : List Cond := .code yy_M_component bb_M_component 2 (some .int) :: gW
abbrev rm_M_component : Room := { frames := 1, cells := 0, slots := 0, locals := 21 }
set_option maxHeartbeats 4000000 in
set_option maxRecDepth 100000 in
theorem mm_M_component (l : Launch) (dC : Nat → ClassId) (dI : Nat → Nat → Nat) (h : Nat) (a : Nat → Nat) (k : Nat → ClassId) (u0 : SM) (p0 : Int32) (hok : ok_M_component u0 p0) : Met l yy_M_component ws_M_component rm_M_component (va_Pc [.ref h, .int p0] (pM dC dI h a k u0)) (vp_Si (fun r => r = ff_M_component u0 p0)) 0 0 (fun _ => False) := by
  refine Met.ofW (cc := bb_M_component) (maxL := 2) (ret := (some .int)) (by decide) rfl ?_
  intro p e s m args below meth c s₁ B hml hv
  obtain ⟨rfl, hP, hK, hD⟩ := hv
  have hx := B.exec
  have hb := B.bytes
  have hr := B.returns
  have hts : ∀ w ∈ gW, w.before _ s = true := fun w h => atoms_spec (ws := ws_M_component) B.pre w (List.mem_cons_of_mem _ h)
  have hown : s.vm.findClass "ClassObjectMirrorModel" = some m.cls := findClass_of_methodNamed B.named
  have hlocks := B.notSynchronized
  have hS : va_S (aM h a) s.heap s.heap [] := va_S.rf
  have hl := lv_entry ([.ref h, .int p0]) (n := 2) (Nat.le_of_ble_eq_true rfl)
  rw [lg_entry_eq]
  generalize (lg_sl ([.ref h, .int p0]) ++ List.replicate (2 - (lg_sl ([.ref h, .int p0])).length) Slot.unset).toArray = ls at hl ⊢
  have hl : lv_has ls 2 [(0, .ref h), (1, .int p0)] := hl
  have hf := ff_M_component.eq_1 u0 p0
  unfold ok_M_component at hok
  refine lv_aload_n hx hb dd_M_component_0 rfl (lv_at hl 0 rfl) ?_
  refine lv_iload_n hx hb dd_M_component_1 rfl (lv_at hl 1 rfl) ?_
  refine vp_callSi (W.runV (As := [.int p0]) (rest := []) ⟨hx, hb, hml, hown, hts⟩ (mm_M_noType l dC dI h a k u0 p0) (cwV 1 hts (gg_V gw_342 gw_344 gs_18 gw_2 gw_345) rfl rfl rfl (by decide +kernel) ⟨Nat.le_of_ble_eq_true rfl, Nat.le_of_ble_eq_true rfl⟩) ⟨pM_bl, va_recv hK hP (ci := 0) (q0 := 0) rfl rfl, fun U hU hW => ⟨rfl, pM_up hP hK hD hU hW⟩⟩ rfl rfl hl.1 rfl (lv_room (Nat.le_of_ble_eq_true rfl)) dd_M_component_2 ⟨Nat.zero_le _, Nat.zero_le _⟩) (fun r hr9 => ?_)
  subst hr9
  refine lv_if_eq (tgt := 12) hx hb dd_M_component_5 (by decide) (fun c1 => ?_) (fun c1 => ?_)
  · have hf := hf.trans (if_pos c1)
    have hok := hok.1 c1
    refine lv_aload_n hx hb dd_M_component_12 rfl (lv_at hl 0 rfl) ?_
    refine va_get (D := (dC, dI)) (ci := 0) (v := .ref (a 3)) (C := "ClassObjectMirrorModel") (T := TM) (N := 12) hx hb hts inM hown hK hP 0 rfl rfl 3 (by decide) (hts _ gw_304) (fun _ h9 => h9) rfl dd_M_component_13 ?_
    refine lv_iload_n hx hb dd_M_component_16 rfl (lv_at hl 1 rfl) ?_
    obtain ⟨n2, hok⟩ := hok
    refine va_iald hx hb hK hP 4 3 rfl rfl n2 dd_M_component_17 ?_
    refine lv_if_ne (tgt := 26) hx hb dd_M_component_18 (by decide) (fun c3 => ?_) (fun c3 => ?_)
    · have hf := hf.trans (if_neg c3)
      have hok := hok.2 c3
      refine lv_aload_n hx hb dd_M_component_26 rfl (lv_at hl 0 rfl) ?_
      refine va_get (D := (dC, dI)) (ci := 0) (v := .ref (a 2)) (C := "ClassObjectMirrorModel") (T := TM) (N := 12) hx hb hts inM hown hK hP 0 rfl rfl 2 (by decide) (hts _ gw_303) (fun _ h9 => h9) rfl dd_M_component_27 ?_
      refine lv_iload_n hx hb dd_M_component_30 rfl (lv_at hl 1 rfl) ?_
      have n4 := hok
      refine va_iald hx hb hK hP 3 2 rfl rfl n4 dd_M_component_31 ?_
      exact W.iret (v := (m_comp u0 p0.toNatClampNeg)) hx hb hr (fun t ht hW => ⟨(m_comp u0 p0.toNatClampNeg), rfl, hf.symm, ht⟩) (fun _ h => by cases h) dd_M_component_32
    · have hf := hf.trans (if_pos c3)
      have hok := hok.1 c3
      refine lv_bipush (v := (-7)) hx hb dd_M_component_21 (by decide) ?_
      refine lv_goto (tgt := 32) hx hb dd_M_component_23 (by decide) ?_
      exact W.iret (v := ((-7) : Int32)) hx hb hr (fun t ht hW => ⟨((-7) : Int32), rfl, hf.symm, ht⟩) (fun _ h => by cases h) dd_M_component_32
  · have hf := hf.trans (if_neg c1)
    have hok := hok.2 c1
    refine lv_iconst (v := (-1)) hx hb dd_M_component_8 (by decide) ?_
    refine lv_goto (tgt := 32) hx hb dd_M_component_9 (by decide) ?_
    exact W.iret (v := ((-1) : Int32)) hx hb hr (fun t ht hW => ⟨((-1) : Int32), rfl, hf.symm, ht⟩) (fun _ h => by cases h) dd_M_component_32

def ff_M_dimensions (u0 : SM) (p0 : Int32) : Int32 := (if (ff_M_noType u0 p0) = 0 then m_dims u0 p0.toNatClampNeg else (-1))
def ok_M_dimensions (u0 : SM) (p0 : Int32) : Prop := ((((ff_M_noType u0 p0) = 0) → vp_in p0 300) ∧ (¬ ((ff_M_noType u0 p0) = 0) → True))
abbrev ws_M_dimensions : List Cond := .code yy_M_dimensions bb_M_dimensions 2 (some .int) :: gW
abbrev rm_M_dimensions : Room := { frames := 1, cells := 0, slots := 0, locals := 21 }
set_option maxHeartbeats 4000000 in
set_option maxRecDepth 100000 in
theorem mm_M_dimensions (l : Launch) (dC : Nat → ClassId) (dI : Nat → Nat → Nat) (h : Nat) (a : Nat → Nat) (k : Nat → ClassId) (u0 : SM) (p0 : Int32) (hok : ok_M_dimensions u0 p0) : Met l yy_M_dimensions ws_M_dimensions rm_M_dimensions (va_Pc [.ref h, .int p0] (pM dC dI h a k u0)) (vp_Si (fun r => r = ff_M_dimensions u0 p0)) 0 0 (fun _ => False) := by
  refine Met.ofW (cc := bb_M_dimensions) (maxL := 2) (ret := (some .int)) (by decide) rfl ?_
  intro p e s m args below meth c s₁ B hml hv
  obtain ⟨rfl, hP, hK, hD⟩ := hv
  have hx := B.exec
  have hb := B.bytes
  have hr := B.returns
  have hts : ∀ w ∈ gW, w.before _ s = true := fun w h => atoms_spec (ws := ws_M_dimensions) B.pre w (List.mem_cons_of_mem _ h)
  have hown : s.vm.findClass "ClassObjectMirrorModel" = some m.cls := findClass_of_methodNamed B.named
  have hlocks := B.notSynchronized
  have hS : va_S (aM h a) s.heap s.heap [] := va_S.rf
  have hl := lv_entry ([.ref h, .int p0]) (n := 2) (Nat.le_of_ble_eq_true rfl)
  rw [lg_entry_eq]
  generalize (lg_sl ([.ref h, .int p0]) ++ List.replicate (2 - (lg_sl ([.ref h, .int p0])).length) Slot.unset).toArray = ls at hl ⊢
  have hl : lv_has ls 2 [(0, .ref h), (1, .int p0)] := hl
  have hf := ff_M_dimensions.eq_1 u0 p0
  unfold ok_M_dimensions at hok
  refine lv_aload_n hx hb dd_M_dimensions_0 rfl (lv_at hl 0 rfl) ?_
  refine lv_iload_n hx hb dd_M_dimensions_1 rfl (lv_at hl 1 rfl) ?_
  refine vp_callSi (W.runV (As := [.int p0]) (rest := []) ⟨hx, hb, hml, hown, hts⟩ (mm_M_noType l dC dI h a k u0 p0) (cwV 1 hts (gg_V gw_342 gw_344 gs_18 gw_2 gw_345) rfl rfl rfl (by decide +kernel) ⟨Nat.le_of_ble_eq_true rfl, Nat.le_of_ble_eq_true rfl⟩) ⟨pM_bl, va_recv hK hP (ci := 0) (q0 := 0) rfl rfl, fun U hU hW => ⟨rfl, pM_up hP hK hD hU hW⟩⟩ rfl rfl hl.1 rfl (lv_room (Nat.le_of_ble_eq_true rfl)) dd_M_dimensions_2 ⟨Nat.zero_le _, Nat.zero_le _⟩) (fun r hr9 => ?_)
  subst hr9
  refine lv_if_eq (tgt := 12) hx hb dd_M_dimensions_5 (by decide) (fun c1 => ?_) (fun c1 => ?_)
  · have hf := hf.trans (if_pos c1)
    have hok := hok.1 c1
    refine lv_aload_n hx hb dd_M_dimensions_12 rfl (lv_at hl 0 rfl) ?_
    refine va_get (D := (dC, dI)) (ci := 0) (v := .ref (a 3)) (C := "ClassObjectMirrorModel") (T := TM) (N := 12) hx hb hts inM hown hK hP 0 rfl rfl 3 (by decide) (hts _ gw_304) (fun _ h9 => h9) rfl dd_M_dimensions_13 ?_
    refine lv_iload_n hx hb dd_M_dimensions_16 rfl (lv_at hl 1 rfl) ?_
    have n2 := hok
    refine va_iald hx hb hK hP 4 3 rfl rfl n2 dd_M_dimensions_17 ?_
    exact W.iret (v := (m_dims u0 p0.toNatClampNeg)) hx hb hr (fun t ht hW => ⟨(m_dims u0 p0.toNatClampNeg), rfl, hf.symm, ht⟩) (fun _ h => by cases h) dd_M_dimensions_18
  · have hf := hf.trans (if_neg c1)
    have hok := hok.2 c1
    refine lv_iconst (v := (-1)) hx hb dd_M_dimensions_8 (by decide) ?_
    refine lv_goto (tgt := 18) hx hb dd_M_dimensions_9 (by decide) ?_
    exact W.iret (v := ((-1) : Int32)) hx hb hr (fun t ht hW => ⟨((-1) : Int32), rfl, hf.symm, ht⟩) (fun _ h => by cases h) dd_M_dimensions_18

def fl_M_above_8 : Nat → SM → Int32 → Int32 → Int32 → Int32 → Int32 → Int32
  | 0, _, _, _, _, _, _ => 0
  | n + 1, u0, x1, x2, x3, x4, x5 => (if 300 ≤ x5 then 0 else (if x3 = x4 then 1 else (if (m_dims u0 x4.toNatClampNeg) ≤ 0 then (if (m_dims u0 x4.toNatClampNeg) = 0 then (if (m_dims u0 x3.toNatClampNeg) = 0 then (if (((m_fa u0 x4.toNatClampNeg) >>> (x3 &&& 31)) &&& 1) = 0 then 0 else 1) else 0) else (if (m_dims u0 x3.toNatClampNeg) = 0 then 0 else (if (ff_M_base (m_comp u0 x3.toNatClampNeg)) = 0 then (if (ff_M_base (m_comp u0 x4.toNatClampNeg)) = 0 then fl_M_above_8 n u0 x1 x2 (m_comp u0 x3.toNatClampNeg) (m_comp u0 x4.toNatClampNeg) (x5 + 1) else 0) else 0))) else (if x3 < 9 then (if (m_dims u0 x4.toNatClampNeg) = 0 then (if (m_dims u0 x3.toNatClampNeg) = 0 then (if (((m_fa u0 x4.toNatClampNeg) >>> (x3 &&& 31)) &&& 1) = 0 then 0 else 1) else 0) else (if (m_dims u0 x3.toNatClampNeg) = 0 then 0 else (if (ff_M_base (m_comp u0 x3.toNatClampNeg)) = 0 then (if (ff_M_base (m_comp u0 x4.toNatClampNeg)) = 0 then fl_M_above_8 n u0 x1 x2 (m_comp u0 x3.toNatClampNeg) (m_comp u0 x4.toNatClampNeg) (x5 + 1) else 0) else 0))) else (if 11 < x3 then (if (m_dims u0 x4.toNatClampNeg) = 0 then (if (m_dims u0 x3.toNatClampNeg) = 0 then (if (((m_fa u0 x4.toNatClampNeg) >>> (x3 &&& 31)) &&& 1) = 0 then 0 else 1) else 0) else (if (m_dims u0 x3.toNatClampNeg) = 0 then 0 else (if (ff_M_base (m_comp u0 x3.toNatClampNeg)) = 0 then (if (ff_M_base (m_comp u0 x4.toNatClampNeg)) = 0 then fl_M_above_8 n u0 x1 x2 (m_comp u0 x3.toNatClampNeg) (m_comp u0 x4.toNatClampNeg) (x5 + 1) else 0) else 0))) else 1)))))
def okl_M_above_8 : Nat → SM → Int32 → Int32 → Int32 → Int32 → Int32 → Prop
  | 0, _, _, _, _, _, _ => False
  | n + 1, u0, x1, x2, x3, x4, x5 => (((300 ≤ x5) → True) ∧ (¬ (300 ≤ x5) → (((x3 = x4) → True) ∧ (¬ (x3 = x4) → (vp_in x4 300) ∧ ((((m_dims u0 x4.toNatClampNeg) ≤ 0) → (vp_in x4 300) ∧ ((((m_dims u0 x4.toNatClampNeg) = 0) → (vp_in x3 300) ∧ ((((m_dims u0 x3.toNatClampNeg) = 0) → vp_in x4 22) ∧ (¬ ((m_dims u0 x3.toNatClampNeg) = 0) → True))) ∧ (¬ ((m_dims u0 x4.toNatClampNeg) = 0) → (vp_in x3 300) ∧ ((((m_dims u0 x3.toNatClampNeg) = 0) → True) ∧ (¬ ((m_dims u0 x3.toNatClampNeg) = 0) → (vp_in x3 300) ∧ ((((ff_M_base (m_comp u0 x3.toNatClampNeg)) = 0) → (vp_in x4 300) ∧ ((((ff_M_base (m_comp u0 x4.toNatClampNeg)) = 0) → (vp_in x3 300) ∧ (vp_in x4 300) ∧ okl_M_above_8 n u0 x1 x2 (m_comp u0 x3.toNatClampNeg) (m_comp u0 x4.toNatClampNeg) (x5 + 1)) ∧ (¬ ((ff_M_base (m_comp u0 x4.toNatClampNeg)) = 0) → True))) ∧ (¬ ((ff_M_base (m_comp u0 x3.toNatClampNeg)) = 0) → True))))))) ∧ (¬ ((m_dims u0 x4.toNatClampNeg) ≤ 0) → (((x3 < 9) → (vp_in x4 300) ∧ ((((m_dims u0 x4.toNatClampNeg) = 0) → (vp_in x3 300) ∧ ((((m_dims u0 x3.toNatClampNeg) = 0) → vp_in x4 22) ∧ (¬ ((m_dims u0 x3.toNatClampNeg) = 0) → True))) ∧ (¬ ((m_dims u0 x4.toNatClampNeg) = 0) → (vp_in x3 300) ∧ ((((m_dims u0 x3.toNatClampNeg) = 0) → True) ∧ (¬ ((m_dims u0 x3.toNatClampNeg) = 0) → (vp_in x3 300) ∧ ((((ff_M_base (m_comp u0 x3.toNatClampNeg)) = 0) → (vp_in x4 300) ∧ ((((ff_M_base (m_comp u0 x4.toNatClampNeg)) = 0) → (vp_in x3 300) ∧ (vp_in x4 300) ∧ okl_M_above_8 n u0 x1 x2 (m_comp u0 x3.toNatClampNeg) (m_comp u0 x4.toNatClampNeg) (x5 + 1)) ∧ (¬ ((ff_M_base (m_comp u0 x4.toNatClampNeg)) = 0) → True))) ∧ (¬ ((ff_M_base (m_comp u0 x3.toNatClampNeg)) = 0) → True))))))) ∧ (¬ (x3 < 9) → (((11 < x3) → (vp_in x4 300) ∧ ((((m_dims u0 x4.toNatClampNeg) = 0) → (vp_in x3 300) ∧ ((((m_dims u0 x3.toNatClampNeg) = 0) → vp_in x4 22) ∧ (¬ ((m_dims u0 x3.toNatClampNeg) = 0) → True))) ∧ (¬ ((m_dims u0 x4.toNatClampNeg) = 0) → (vp_in x3 300) ∧ ((((m_dims u0 x3.toNatClampNeg) = 0) → True) ∧ (¬ ((m_dims u0 x3.toNatClampNeg) = 0) → (vp_in x3 300) ∧ ((((ff_M_base (m_comp u0 x3.toNatClampNeg)) = 0) → (vp_in x4 300) ∧ ((((ff_M_base (m_comp u0 x4.toNatClampNeg)) = 0) → (vp_in x3 300) ∧ (vp_in x4 300) ∧ okl_M_above_8 n u0 x1 x2 (m_comp u0 x3.toNatClampNeg) (m_comp u0 x4.toNatClampNeg) (x5 + 1)) ∧ (¬ ((ff_M_base (m_comp u0 x4.toNatClampNeg)) = 0) → True))) ∧ (¬ ((ff_M_base (m_comp u0 x3.toNatClampNeg)) = 0) → True))))))) ∧ (¬ (11 < x3) → True))))))))))
def ff_M_above (u0 : SM) (p0 : Int32) (p1 : Int32) : Int32 := fl_M_above_8 301 u0 p0 p1 p0 p1 (0 : Int32)
def ok_M_above (u0 : SM) (p0 : Int32) (p1 : Int32) : Prop := okl_M_above_8 301 u0 p0 p1 p0 p1 (0 : Int32)
abbrev ws_M_above : List Cond := .code yy_M_above bb_M_above 6 (some .boolean) :: gW
abbrev rm_M_above : Room := { frames := 1, cells := 0, slots := 0, locals := 20 }
set_option maxHeartbeats 4000000 in
set_option maxRecDepth 100000 in
theorem mm_M_above (l : Launch) (dC : Nat → ClassId) (dI : Nat → Nat → Nat) (h : Nat) (a : Nat → Nat) (k : Nat → ClassId) (u0 : SM) (p0 : Int32) (p1 : Int32) (hok : ok_M_above u0 p0 p1) : Met l yy_M_above ws_M_above rm_M_above (va_Pc [.ref h, .int p0, .int p1] (pM dC dI h a k u0)) (vp_Si (fun r => r = ff_M_above u0 p0 p1)) 0 0 (fun _ => False) := by
  refine Met.ofW (cc := bb_M_above) (maxL := 6) (ret := (some .boolean)) (by decide) rfl ?_
  intro p e s m args below meth c s₁ B hml hv
  obtain ⟨rfl, hP, hK, hD⟩ := hv
  have hx := B.exec
  have hb := B.bytes
  have hr := B.returns
  have hts : ∀ w ∈ gW, w.before _ s = true := fun w h => atoms_spec (ws := ws_M_above) B.pre w (List.mem_cons_of_mem _ h)
  have hown : s.vm.findClass "ClassObjectMirrorModel" = some m.cls := findClass_of_methodNamed B.named
  have hlocks := B.notSynchronized
  have hS : va_S (aM h a) s.heap s.heap [] := va_S.rf
  have hl := lv_entry ([.ref h, .int p0, .int p1]) (n := 6) (Nat.le_of_ble_eq_true rfl)
  rw [lg_entry_eq]
  generalize (lg_sl ([.ref h, .int p0, .int p1]) ++ List.replicate (6 - (lg_sl ([.ref h, .int p0, .int p1])).length) Slot.unset).toArray = ls at hl ⊢
  have hl : lv_has ls 6 [(0, .ref h), (1, .int p0), (2, .int p1)] := hl
  have hf := ff_M_above.eq_1 u0 p0 p1
  unfold ok_M_above at hok
  refine lv_iload_n hx hb dd_M_above_0 rfl (lv_at hl 1 rfl) ?_
  refine lv_istore_n (lv' := [(3, .int p0), (0, .ref h), (1, .int p0), (2, .int p1)]) hx hb dd_M_above_1 rfl hl (by decide) rfl (fun ls hl => ?_)
  refine lv_iload_n hx hb dd_M_above_2 rfl (lv_at hl 3 rfl) ?_
  refine lv_istore (lv' := [(4, .int p1), (3, .int p0), (0, .ref h), (1, .int p0), (2, .int p1)]) hx hb dd_M_above_3 hl (by decide) rfl (fun ls hl => ?_)
  refine lv_iconst (v := 0) hx hb dd_M_above_5 (by decide) ?_
  refine lv_istore (lv' := [(5, .int 0), (4, .int p1), (3, .int p0), (0, .ref h), (1, .int p0), (2, .int p1)]) hx hb dd_M_above_6 hl (by decide) rfl (fun ls hl => ?_)
  have loop_8 : ∀ (n : Nat) (x1 : Int32) (x2 : Int32) (x3 : Int32) (x4 : Int32) (x5 : Int32) (ls : Array Slot), okl_M_above_8 n u0 x1 x2 x3 x4 x5 → ff_M_above u0 p0 p1 = fl_M_above_8 n u0 x1 x2 x3 x4 x5 → lv_has ls 6 [(0, .ref h), (1, .int x1), (2, .int x2), (3, .int x3), (4, .int x4), (5, .int x5)] → W p l e (headSpec ws_M_above rm_M_above).room s m ([.ref h, .int p0, .int p1] : List Value).toArray below meth c s.heap [] 0 0 (MQ below (vp_Si (fun r => r = ff_M_above u0 p0 p1)) ([.ref h, .int p0, .int p1] : List Value).toArray s 0 0 (fun _ => False)) (F0 m 8 ls []) := by
    intro n
    induction n with
    | zero => intro x1 x2 x3 x4 x5 ls hok; exact (show False from hok).elim
    | succ n ih =>
      intro x1 x2 x3 x4 x5 ls hok hf hl
      rw [fl_M_above_8] at hf
      rw [okl_M_above_8] at hok
      refine lv_iload hx hb dd_M_above_8 (lv_at hl 5 rfl) ?_
      refine lv_sipush (v := 300) hx hb dd_M_above_10 (by decide) ?_
      refine lv_icmp_ge (tgt := 143) hx hb dd_M_above_13 (by decide) (fun c1 => ?_) (fun c1 => ?_)
      · have hf := hf.trans (if_pos c1)
        have hok := hok.1 c1
        refine lv_iconst (v := 0) hx hb dd_M_above_143 (by decide) ?_
        exact W.zret (ty := .boolean) (v := (0 : Int32)) hx hb hr (by decide) (fun t ht hW => ⟨(0 : Int32), rfl, hf.symm, ht⟩) (fun _ h => by cases h) dd_M_above_144
      · have hf := hf.trans (if_neg c1)
        have hok := hok.2 c1
        refine lv_iload_n hx hb dd_M_above_16 rfl (lv_at hl 3 rfl) ?_
        refine lv_iload hx hb dd_M_above_17 (lv_at hl 4 rfl) ?_
        refine lv_icmp_eq (tgt := 44) hx hb dd_M_above_19 (by decide) (fun c2 => ?_) (fun c2 => ?_)
        · have hf := hf.trans (if_pos c2)
          have hok := hok.1 c2
          refine lv_iconst (v := 1) hx hb dd_M_above_44 (by decide) ?_
          exact W.zret (ty := .boolean) (v := (1 : Int32)) hx hb hr (by decide) (fun t ht hW => ⟨(1 : Int32), rfl, hf.symm, ht⟩) (fun _ h => by cases h) dd_M_above_45
        · have hf := hf.trans (if_neg c2)
          have hok := hok.2 c2
          refine lv_aload_n hx hb dd_M_above_22 rfl (lv_at hl 0 rfl) ?_
          refine va_get (D := (dC, dI)) (ci := 0) (v := .ref (a 3)) (C := "ClassObjectMirrorModel") (T := TM) (N := 12) hx hb hts inM hown hK hP 0 rfl rfl 3 (by decide) (hts _ gw_304) (fun _ h9 => h9) rfl dd_M_above_23 ?_
          refine lv_iload hx hb dd_M_above_26 (lv_at hl 4 rfl) ?_
          obtain ⟨n3, hok⟩ := hok
          refine va_iald hx hb hK hP 4 3 rfl rfl n3 dd_M_above_28 ?_
          refine lv_if_le (tgt := 46) hx hb dd_M_above_29 (by decide) (fun c4 => ?_) (fun c4 => ?_)
          · have hf := hf.trans (if_pos c4)
            have hok := hok.1 c4
            refine lv_aload_n hx hb dd_M_above_46 rfl (lv_at hl 0 rfl) ?_
            refine va_get (D := (dC, dI)) (ci := 0) (v := .ref (a 3)) (C := "ClassObjectMirrorModel") (T := TM) (N := 12) hx hb hts inM hown hK hP 0 rfl rfl 3 (by decide) (hts _ gw_304) (fun _ h9 => h9) rfl dd_M_above_47 ?_
            refine lv_iload hx hb dd_M_above_50 (lv_at hl 4 rfl) ?_
            obtain ⟨n5, hok⟩ := hok
            refine va_iald hx hb hK hP 4 3 rfl rfl n5 dd_M_above_52 ?_
            refine lv_if_ne (tgt := 85) hx hb dd_M_above_53 (by decide) (fun c6 => ?_) (fun c6 => ?_)
            · have hf := hf.trans (if_neg c6)
              have hok := hok.2 c6
              refine lv_aload_n hx hb dd_M_above_85 rfl (lv_at hl 0 rfl) ?_
              refine va_get (D := (dC, dI)) (ci := 0) (v := .ref (a 3)) (C := "ClassObjectMirrorModel") (T := TM) (N := 12) hx hb hts inM hown hK hP 0 rfl rfl 3 (by decide) (hts _ gw_304) (fun _ h9 => h9) rfl dd_M_above_86 ?_
              refine lv_iload_n hx hb dd_M_above_89 rfl (lv_at hl 3 rfl) ?_
              obtain ⟨n7, hok⟩ := hok
              refine va_iald hx hb hK hP 4 3 rfl rfl n7 dd_M_above_90 ?_
              refine lv_if_eq (tgt := 119) hx hb dd_M_above_91 (by decide) (fun c8 => ?_) (fun c8 => ?_)
              · have hf := hf.trans (if_pos c8)
                have hok := hok.1 c8
                refine lv_iconst (v := 0) hx hb dd_M_above_119 (by decide) ?_
                exact W.zret (ty := .boolean) (v := (0 : Int32)) hx hb hr (by decide) (fun t ht hW => ⟨(0 : Int32), rfl, hf.symm, ht⟩) (fun _ h => by cases h) dd_M_above_120
              · have hf := hf.trans (if_neg c8)
                have hok := hok.2 c8
                refine lv_aload_n hx hb dd_M_above_94 rfl (lv_at hl 0 rfl) ?_
                refine va_get (D := (dC, dI)) (ci := 0) (v := .ref (a 2)) (C := "ClassObjectMirrorModel") (T := TM) (N := 12) hx hb hts inM hown hK hP 0 rfl rfl 2 (by decide) (hts _ gw_303) (fun _ h9 => h9) rfl dd_M_above_95 ?_
                refine lv_iload_n hx hb dd_M_above_98 rfl (lv_at hl 3 rfl) ?_
                obtain ⟨n9, hok⟩ := hok
                refine va_iald hx hb hK hP 3 2 rfl rfl n9 dd_M_above_99 ?_
                refine vp_callSi (W.runS (As := [.int (m_comp u0 x3.toNatClampNeg)]) (rest := []) ⟨hx, hb, hml, hown, hts⟩ (mm_M_base l (m_comp u0 x3.toNatClampNeg)) (va_cwS 1 hts (gg_S gw_370 gw_371 gw_2 gw_372) rfl rfl rfl (by decide +kernel) ⟨Nat.le_of_ble_eq_true rfl, Nat.le_of_ble_eq_true rfl⟩) ⟨fun a U g mk q => q, fun U hU hW => ⟨rfl, trivial⟩⟩ rfl rfl hl.1 rfl (lv_room (Nat.le_of_ble_eq_true rfl)) dd_M_above_100 ⟨Nat.zero_le _, Nat.zero_le _⟩) (fun r hr9 => ?_)
                subst hr9
                refine lv_if_ne (tgt := 119) hx hb dd_M_above_103 (by decide) (fun c10 => ?_) (fun c10 => ?_)
                · have hf := hf.trans (if_neg c10)
                  have hok := hok.2 c10
                  refine lv_iconst (v := 0) hx hb dd_M_above_119 (by decide) ?_
                  exact W.zret (ty := .boolean) (v := (0 : Int32)) hx hb hr (by decide) (fun t ht hW => ⟨(0 : Int32), rfl, hf.symm, ht⟩) (fun _ h => by cases h) dd_M_above_120
                · have hf := hf.trans (if_pos c10)
                  have hok := hok.1 c10
                  refine lv_aload_n hx hb dd_M_above_106 rfl (lv_at hl 0 rfl) ?_
                  refine va_get (D := (dC, dI)) (ci := 0) (v := .ref (a 2)) (C := "ClassObjectMirrorModel") (T := TM) (N := 12) hx hb hts inM hown hK hP 0 rfl rfl 2 (by decide) (hts _ gw_303) (fun _ h9 => h9) rfl dd_M_above_107 ?_
                  refine lv_iload hx hb dd_M_above_110 (lv_at hl 4 rfl) ?_
                  obtain ⟨n11, hok⟩ := hok
                  refine va_iald hx hb hK hP 3 2 rfl rfl n11 dd_M_above_112 ?_
                  refine vp_callSi (W.runS (As := [.int (m_comp u0 x4.toNatClampNeg)]) (rest := []) ⟨hx, hb, hml, hown, hts⟩ (mm_M_base l (m_comp u0 x4.toNatClampNeg)) (va_cwS 1 hts (gg_S gw_370 gw_371 gw_2 gw_372) rfl rfl rfl (by decide +kernel) ⟨Nat.le_of_ble_eq_true rfl, Nat.le_of_ble_eq_true rfl⟩) ⟨fun a U g mk q => q, fun U hU hW => ⟨rfl, trivial⟩⟩ rfl rfl hl.1 rfl (lv_room (Nat.le_of_ble_eq_true rfl)) dd_M_above_113 ⟨Nat.zero_le _, Nat.zero_le _⟩) (fun r hr9 => ?_)
                  subst hr9
                  refine lv_if_eq (tgt := 121) hx hb dd_M_above_116 (by decide) (fun c12 => ?_) (fun c12 => ?_)
                  · have hf := hf.trans (if_pos c12)
                    have hok := hok.1 c12
                    refine lv_aload_n hx hb dd_M_above_121 rfl (lv_at hl 0 rfl) ?_
                    refine va_get (D := (dC, dI)) (ci := 0) (v := .ref (a 2)) (C := "ClassObjectMirrorModel") (T := TM) (N := 12) hx hb hts inM hown hK hP 0 rfl rfl 2 (by decide) (hts _ gw_303) (fun _ h9 => h9) rfl dd_M_above_122 ?_
                    refine lv_iload_n hx hb dd_M_above_125 rfl (lv_at hl 3 rfl) ?_
                    obtain ⟨n13, hok⟩ := hok
                    refine va_iald hx hb hK hP 3 2 rfl rfl n13 dd_M_above_126 ?_
                    refine lv_istore_n (lv' := [(3, .int (m_comp u0 x3.toNatClampNeg)), (0, .ref h), (1, .int x1), (2, .int x2), (4, .int x4), (5, .int x5)]) hx hb dd_M_above_127 rfl hl (by decide) rfl (fun ls hl => ?_)
                    refine lv_aload_n hx hb dd_M_above_128 rfl (lv_at hl 1 rfl) ?_
                    refine va_get (D := (dC, dI)) (ci := 0) (v := .ref (a 2)) (C := "ClassObjectMirrorModel") (T := TM) (N := 12) hx hb hts inM hown hK hP 0 rfl rfl 2 (by decide) (hts _ gw_303) (fun _ h9 => h9) rfl dd_M_above_129 ?_
                    refine lv_iload hx hb dd_M_above_132 (lv_at hl 4 rfl) ?_
                    obtain ⟨n14, hok⟩ := hok
                    refine va_iald hx hb hK hP 3 2 rfl rfl n14 dd_M_above_134 ?_
                    refine lv_istore (lv' := [(4, .int (m_comp u0 x4.toNatClampNeg)), (3, .int (m_comp u0 x3.toNatClampNeg)), (0, .ref h), (1, .int x1), (2, .int x2), (5, .int x5)]) hx hb dd_M_above_135 hl (by decide) rfl (fun ls hl => ?_)
                    refine lv_iinc (v := x5 + 1) (lv' := [(5, .int (x5 + 1)), (4, .int (m_comp u0 x4.toNatClampNeg)), (3, .int (m_comp u0 x3.toNatClampNeg)), (0, .ref h), (1, .int x1), (2, .int x2)]) hx hb dd_M_above_137 hl (k := 5) rfl rfl (by decide) rfl (fun ls hl => ?_)
                    refine lv_goto (tgt := 8) hx hb dd_M_above_140 (by decide) ?_
                    exact ih x1 x2 (m_comp u0 x3.toNatClampNeg) (m_comp u0 x4.toNatClampNeg) (x5 + 1) ls hok hf (lv_sub hl [3, 4, 5, 2, 1, 0] rfl)
                  · have hf := hf.trans (if_neg c12)
                    have hok := hok.2 c12
                    refine lv_iconst (v := 0) hx hb dd_M_above_119 (by decide) ?_
                    exact W.zret (ty := .boolean) (v := (0 : Int32)) hx hb hr (by decide) (fun t ht hW => ⟨(0 : Int32), rfl, hf.symm, ht⟩) (fun _ h => by cases h) dd_M_above_120
            · have hf := hf.trans (if_pos c6)
              have hok := hok.1 c6
              refine lv_aload_n hx hb dd_M_above_56 rfl (lv_at hl 0 rfl) ?_
              refine va_get (D := (dC, dI)) (ci := 0) (v := .ref (a 3)) (C := "ClassObjectMirrorModel") (T := TM) (N := 12) hx hb hts inM hown hK hP 0 rfl rfl 3 (by decide) (hts _ gw_304) (fun _ h9 => h9) rfl dd_M_above_57 ?_
              refine lv_iload_n hx hb dd_M_above_60 rfl (lv_at hl 3 rfl) ?_
              obtain ⟨n15, hok⟩ := hok
              refine va_iald hx hb hK hP 4 3 rfl rfl n15 dd_M_above_61 ?_
              refine lv_if_ne (tgt := 83) hx hb dd_M_above_62 (by decide) (fun c16 => ?_) (fun c16 => ?_)
              · have hf := hf.trans (if_neg c16)
                have hok := hok.2 c16
                refine lv_iconst (v := 0) hx hb dd_M_above_83 (by decide) ?_
                exact W.zret (ty := .boolean) (v := (0 : Int32)) hx hb hr (by decide) (fun t ht hW => ⟨(0 : Int32), rfl, hf.symm, ht⟩) (fun _ h => by cases h) dd_M_above_84
              · have hf := hf.trans (if_pos c16)
                have hok := hok.1 c16
                refine lv_aload_n hx hb dd_M_above_65 rfl (lv_at hl 0 rfl) ?_
                refine va_get (D := (dC, dI)) (ci := 0) (v := .ref (a 1)) (C := "ClassObjectMirrorModel") (T := TM) (N := 12) hx hb hts inM hown hK hP 0 rfl rfl 1 (by decide) (hts _ gw_302) (fun _ h9 => h9) rfl dd_M_above_66 ?_
                refine lv_iload hx hb dd_M_above_69 (lv_at hl 4 rfl) ?_
                have n17 := hok
                refine va_iald hx hb hK hP 2 1 rfl rfl n17 dd_M_above_71 ?_
                refine lv_iload_n hx hb dd_M_above_72 rfl (lv_at hl 3 rfl) ?_
                refine lv_ishr hx hb dd_M_above_73 ?_
                refine lv_iconst (v := 1) hx hb dd_M_above_74 (by decide) ?_
                refine lv_iand hx hb dd_M_above_75 ?_
                refine lv_if_eq (tgt := 83) hx hb dd_M_above_76 (by decide) (fun c18 => ?_) (fun c18 => ?_)
                · have hf := hf.trans (if_pos c18)
                  refine lv_iconst (v := 0) hx hb dd_M_above_83 (by decide) ?_
                  exact W.zret (ty := .boolean) (v := (0 : Int32)) hx hb hr (by decide) (fun t ht hW => ⟨(0 : Int32), rfl, hf.symm, ht⟩) (fun _ h => by cases h) dd_M_above_84
                · have hf := hf.trans (if_neg c18)
                  refine lv_iconst (v := 1) hx hb dd_M_above_79 (by decide) ?_
                  refine lv_goto (tgt := 84) hx hb dd_M_above_80 (by decide) ?_
                  exact W.zret (ty := .boolean) (v := (1 : Int32)) hx hb hr (by decide) (fun t ht hW => ⟨(1 : Int32), rfl, hf.symm, ht⟩) (fun _ h => by cases h) dd_M_above_84
          · have hf := hf.trans (if_neg c4)
            have hok := hok.2 c4
            refine lv_iload_n hx hb dd_M_above_32 rfl (lv_at hl 3 rfl) ?_
            refine lv_bipush (v := 9) hx hb dd_M_above_33 (by decide) ?_
            refine lv_icmp_lt (tgt := 46) hx hb dd_M_above_35 (by decide) (fun c19 => ?_) (fun c19 => ?_)
            · have hf := hf.trans (if_pos c19)
              have hok := hok.1 c19
              refine lv_aload_n hx hb dd_M_above_46 rfl (lv_at hl 0 rfl) ?_
              refine va_get (D := (dC, dI)) (ci := 0) (v := .ref (a 3)) (C := "ClassObjectMirrorModel") (T := TM) (N := 12) hx hb hts inM hown hK hP 0 rfl rfl 3 (by decide) (hts _ gw_304) (fun _ h9 => h9) rfl dd_M_above_47 ?_
              refine lv_iload hx hb dd_M_above_50 (lv_at hl 4 rfl) ?_
              obtain ⟨n20, hok⟩ := hok
              refine va_iald hx hb hK hP 4 3 rfl rfl n20 dd_M_above_52 ?_
              refine lv_if_ne (tgt := 85) hx hb dd_M_above_53 (by decide) (fun c21 => ?_) (fun c21 => ?_)
              · have hf := hf.trans (if_neg c21)
                have hok := hok.2 c21
                refine lv_aload_n hx hb dd_M_above_85 rfl (lv_at hl 0 rfl) ?_
                refine va_get (D := (dC, dI)) (ci := 0) (v := .ref (a 3)) (C := "ClassObjectMirrorModel") (T := TM) (N := 12) hx hb hts inM hown hK hP 0 rfl rfl 3 (by decide) (hts _ gw_304) (fun _ h9 => h9) rfl dd_M_above_86 ?_
                refine lv_iload_n hx hb dd_M_above_89 rfl (lv_at hl 3 rfl) ?_
                obtain ⟨n22, hok⟩ := hok
                refine va_iald hx hb hK hP 4 3 rfl rfl n22 dd_M_above_90 ?_
                refine lv_if_eq (tgt := 119) hx hb dd_M_above_91 (by decide) (fun c23 => ?_) (fun c23 => ?_)
                · have hf := hf.trans (if_pos c23)
                  have hok := hok.1 c23
                  refine lv_iconst (v := 0) hx hb dd_M_above_119 (by decide) ?_
                  exact W.zret (ty := .boolean) (v := (0 : Int32)) hx hb hr (by decide) (fun t ht hW => ⟨(0 : Int32), rfl, hf.symm, ht⟩) (fun _ h => by cases h) dd_M_above_120
                · have hf := hf.trans (if_neg c23)
                  have hok := hok.2 c23
                  refine lv_aload_n hx hb dd_M_above_94 rfl (lv_at hl 0 rfl) ?_
                  refine va_get (D := (dC, dI)) (ci := 0) (v := .ref (a 2)) (C := "ClassObjectMirrorModel") (T := TM) (N := 12) hx hb hts inM hown hK hP 0 rfl rfl 2 (by decide) (hts _ gw_303) (fun _ h9 => h9) rfl dd_M_above_95 ?_
                  refine lv_iload_n hx hb dd_M_above_98 rfl (lv_at hl 3 rfl) ?_
                  obtain ⟨n24, hok⟩ := hok
                  refine va_iald hx hb hK hP 3 2 rfl rfl n24 dd_M_above_99 ?_
                  refine vp_callSi (W.runS (As := [.int (m_comp u0 x3.toNatClampNeg)]) (rest := []) ⟨hx, hb, hml, hown, hts⟩ (mm_M_base l (m_comp u0 x3.toNatClampNeg)) (va_cwS 1 hts (gg_S gw_370 gw_371 gw_2 gw_372) rfl rfl rfl (by decide +kernel) ⟨Nat.le_of_ble_eq_true rfl, Nat.le_of_ble_eq_true rfl⟩) ⟨fun a U g mk q => q, fun U hU hW => ⟨rfl, trivial⟩⟩ rfl rfl hl.1 rfl (lv_room (Nat.le_of_ble_eq_true rfl)) dd_M_above_100 ⟨Nat.zero_le _, Nat.zero_le _⟩) (fun r hr9 => ?_)
                  subst hr9
                  refine lv_if_ne (tgt := 119) hx hb dd_M_above_103 (by decide) (fun c25 => ?_) (fun c25 => ?_)
                  · have hf := hf.trans (if_neg c25)
                    have hok := hok.2 c25
                    refine lv_iconst (v := 0) hx hb dd_M_above_119 (by decide) ?_
                    exact W.zret (ty := .boolean) (v := (0 : Int32)) hx hb hr (by decide) (fun t ht hW => ⟨(0 : Int32), rfl, hf.symm, ht⟩) (fun _ h => by cases h) dd_M_above_120
                  · have hf := hf.trans (if_pos c25)
                    have hok := hok.1 c25
                    refine lv_aload_n hx hb dd_M_above_106 rfl (lv_at hl 0 rfl) ?_
                    refine va_get (D := (dC, dI)) (ci := 0) (v := .ref (a 2)) (C := "ClassObjectMirrorModel") (T := TM) (N := 12) hx hb hts inM hown hK hP 0 rfl rfl 2 (by decide) (hts _ gw_303) (fun _ h9 => h9) rfl dd_M_above_107 ?_
                    refine lv_iload hx hb dd_M_above_110 (lv_at hl 4 rfl) ?_
                    obtain ⟨n26, hok⟩ := hok
                    refine va_iald hx hb hK hP 3 2 rfl rfl n26 dd_M_above_112 ?_
                    refine vp_callSi (W.runS (As := [.int (m_comp u0 x4.toNatClampNeg)]) (rest := []) ⟨hx, hb, hml, hown, hts⟩ (mm_M_base l (m_comp u0 x4.toNatClampNeg)) (va_cwS 1 hts (gg_S gw_370 gw_371 gw_2 gw_372) rfl rfl rfl (by decide +kernel) ⟨Nat.le_of_ble_eq_true rfl, Nat.le_of_ble_eq_true rfl⟩) ⟨fun a U g mk q => q, fun U hU hW => ⟨rfl, trivial⟩⟩ rfl rfl hl.1 rfl (lv_room (Nat.le_of_ble_eq_true rfl)) dd_M_above_113 ⟨Nat.zero_le _, Nat.zero_le _⟩) (fun r hr9 => ?_)
                    subst hr9
                    refine lv_if_eq (tgt := 121) hx hb dd_M_above_116 (by decide) (fun c27 => ?_) (fun c27 => ?_)
                    · have hf := hf.trans (if_pos c27)
                      have hok := hok.1 c27
                      refine lv_aload_n hx hb dd_M_above_121 rfl (lv_at hl 0 rfl) ?_
                      refine va_get (D := (dC, dI)) (ci := 0) (v := .ref (a 2)) (C := "ClassObjectMirrorModel") (T := TM) (N := 12) hx hb hts inM hown hK hP 0 rfl rfl 2 (by decide) (hts _ gw_303) (fun _ h9 => h9) rfl dd_M_above_122 ?_
                      refine lv_iload_n hx hb dd_M_above_125 rfl (lv_at hl 3 rfl) ?_
                      obtain ⟨n28, hok⟩ := hok
                      refine va_iald hx hb hK hP 3 2 rfl rfl n28 dd_M_above_126 ?_
                      refine lv_istore_n (lv' := [(3, .int (m_comp u0 x3.toNatClampNeg)), (0, .ref h), (1, .int x1), (2, .int x2), (4, .int x4), (5, .int x5)]) hx hb dd_M_above_127 rfl hl (by decide) rfl (fun ls hl => ?_)
                      refine lv_aload_n hx hb dd_M_above_128 rfl (lv_at hl 1 rfl) ?_
                      refine va_get (D := (dC, dI)) (ci := 0) (v := .ref (a 2)) (C := "ClassObjectMirrorModel") (T := TM) (N := 12) hx hb hts inM hown hK hP 0 rfl rfl 2 (by decide) (hts _ gw_303) (fun _ h9 => h9) rfl dd_M_above_129 ?_
                      refine lv_iload hx hb dd_M_above_132 (lv_at hl 4 rfl) ?_
                      obtain ⟨n29, hok⟩ := hok
                      refine va_iald hx hb hK hP 3 2 rfl rfl n29 dd_M_above_134 ?_
                      refine lv_istore (lv' := [(4, .int (m_comp u0 x4.toNatClampNeg)), (3, .int (m_comp u0 x3.toNatClampNeg)), (0, .ref h), (1, .int x1), (2, .int x2), (5, .int x5)]) hx hb dd_M_above_135 hl (by decide) rfl (fun ls hl => ?_)
                      refine lv_iinc (v := x5 + 1) (lv' := [(5, .int (x5 + 1)), (4, .int (m_comp u0 x4.toNatClampNeg)), (3, .int (m_comp u0 x3.toNatClampNeg)), (0, .ref h), (1, .int x1), (2, .int x2)]) hx hb dd_M_above_137 hl (k := 5) rfl rfl (by decide) rfl (fun ls hl => ?_)
                      refine lv_goto (tgt := 8) hx hb dd_M_above_140 (by decide) ?_
                      exact ih x1 x2 (m_comp u0 x3.toNatClampNeg) (m_comp u0 x4.toNatClampNeg) (x5 + 1) ls hok hf (lv_sub hl [3, 4, 5, 2, 1, 0] rfl)
                    · have hf := hf.trans (if_neg c27)
                      have hok := hok.2 c27
                      refine lv_iconst (v := 0) hx hb dd_M_above_119 (by decide) ?_
                      exact W.zret (ty := .boolean) (v := (0 : Int32)) hx hb hr (by decide) (fun t ht hW => ⟨(0 : Int32), rfl, hf.symm, ht⟩) (fun _ h => by cases h) dd_M_above_120
              · have hf := hf.trans (if_pos c21)
                have hok := hok.1 c21
                refine lv_aload_n hx hb dd_M_above_56 rfl (lv_at hl 0 rfl) ?_
                refine va_get (D := (dC, dI)) (ci := 0) (v := .ref (a 3)) (C := "ClassObjectMirrorModel") (T := TM) (N := 12) hx hb hts inM hown hK hP 0 rfl rfl 3 (by decide) (hts _ gw_304) (fun _ h9 => h9) rfl dd_M_above_57 ?_
                refine lv_iload_n hx hb dd_M_above_60 rfl (lv_at hl 3 rfl) ?_
                obtain ⟨n30, hok⟩ := hok
                refine va_iald hx hb hK hP 4 3 rfl rfl n30 dd_M_above_61 ?_
                refine lv_if_ne (tgt := 83) hx hb dd_M_above_62 (by decide) (fun c31 => ?_) (fun c31 => ?_)
                · have hf := hf.trans (if_neg c31)
                  have hok := hok.2 c31
                  refine lv_iconst (v := 0) hx hb dd_M_above_83 (by decide) ?_
                  exact W.zret (ty := .boolean) (v := (0 : Int32)) hx hb hr (by decide) (fun t ht hW => ⟨(0 : Int32), rfl, hf.symm, ht⟩) (fun _ h => by cases h) dd_M_above_84
                · have hf := hf.trans (if_pos c31)
                  have hok := hok.1 c31
                  refine lv_aload_n hx hb dd_M_above_65 rfl (lv_at hl 0 rfl) ?_
                  refine va_get (D := (dC, dI)) (ci := 0) (v := .ref (a 1)) (C := "ClassObjectMirrorModel") (T := TM) (N := 12) hx hb hts inM hown hK hP 0 rfl rfl 1 (by decide) (hts _ gw_302) (fun _ h9 => h9) rfl dd_M_above_66 ?_
                  refine lv_iload hx hb dd_M_above_69 (lv_at hl 4 rfl) ?_
                  have n32 := hok
                  refine va_iald hx hb hK hP 2 1 rfl rfl n32 dd_M_above_71 ?_
                  refine lv_iload_n hx hb dd_M_above_72 rfl (lv_at hl 3 rfl) ?_
                  refine lv_ishr hx hb dd_M_above_73 ?_
                  refine lv_iconst (v := 1) hx hb dd_M_above_74 (by decide) ?_
                  refine lv_iand hx hb dd_M_above_75 ?_
                  refine lv_if_eq (tgt := 83) hx hb dd_M_above_76 (by decide) (fun c33 => ?_) (fun c33 => ?_)
                  · have hf := hf.trans (if_pos c33)
                    refine lv_iconst (v := 0) hx hb dd_M_above_83 (by decide) ?_
                    exact W.zret (ty := .boolean) (v := (0 : Int32)) hx hb hr (by decide) (fun t ht hW => ⟨(0 : Int32), rfl, hf.symm, ht⟩) (fun _ h => by cases h) dd_M_above_84
                  · have hf := hf.trans (if_neg c33)
                    refine lv_iconst (v := 1) hx hb dd_M_above_79 (by decide) ?_
                    refine lv_goto (tgt := 84) hx hb dd_M_above_80 (by decide) ?_
                    exact W.zret (ty := .boolean) (v := (1 : Int32)) hx hb hr (by decide) (fun t ht hW => ⟨(1 : Int32), rfl, hf.symm, ht⟩) (fun _ h => by cases h) dd_M_above_84
            · have hf := hf.trans (if_neg c19)
              have hok := hok.2 c19
              refine lv_iload_n hx hb dd_M_above_38 rfl (lv_at hl 3 rfl) ?_
              refine lv_bipush (v := 11) hx hb dd_M_above_39 (by decide) ?_
              refine lv_icmp_gt (tgt := 46) hx hb dd_M_above_41 (by decide) (fun c34 => ?_) (fun c34 => ?_)
              · have hf := hf.trans (if_pos c34)
                have hok := hok.1 c34
                refine lv_aload_n hx hb dd_M_above_46 rfl (lv_at hl 0 rfl) ?_
                refine va_get (D := (dC, dI)) (ci := 0) (v := .ref (a 3)) (C := "ClassObjectMirrorModel") (T := TM) (N := 12) hx hb hts inM hown hK hP 0 rfl rfl 3 (by decide) (hts _ gw_304) (fun _ h9 => h9) rfl dd_M_above_47 ?_
                refine lv_iload hx hb dd_M_above_50 (lv_at hl 4 rfl) ?_
                obtain ⟨n35, hok⟩ := hok
                refine va_iald hx hb hK hP 4 3 rfl rfl n35 dd_M_above_52 ?_
                refine lv_if_ne (tgt := 85) hx hb dd_M_above_53 (by decide) (fun c36 => ?_) (fun c36 => ?_)
                · have hf := hf.trans (if_neg c36)
                  have hok := hok.2 c36
                  refine lv_aload_n hx hb dd_M_above_85 rfl (lv_at hl 0 rfl) ?_
                  refine va_get (D := (dC, dI)) (ci := 0) (v := .ref (a 3)) (C := "ClassObjectMirrorModel") (T := TM) (N := 12) hx hb hts inM hown hK hP 0 rfl rfl 3 (by decide) (hts _ gw_304) (fun _ h9 => h9) rfl dd_M_above_86 ?_
                  refine lv_iload_n hx hb dd_M_above_89 rfl (lv_at hl 3 rfl) ?_
                  obtain ⟨n37, hok⟩ := hok
                  refine va_iald hx hb hK hP 4 3 rfl rfl n37 dd_M_above_90 ?_
                  refine lv_if_eq (tgt := 119) hx hb dd_M_above_91 (by decide) (fun c38 => ?_) (fun c38 => ?_)
                  · have hf := hf.trans (if_pos c38)
                    have hok := hok.1 c38
                    refine lv_iconst (v := 0) hx hb dd_M_above_119 (by decide) ?_
                    exact W.zret (ty := .boolean) (v := (0 : Int32)) hx hb hr (by decide) (fun t ht hW => ⟨(0 : Int32), rfl, hf.symm, ht⟩) (fun _ h => by cases h) dd_M_above_120
                  · have hf := hf.trans (if_neg c38)
                    have hok := hok.2 c38
                    refine lv_aload_n hx hb dd_M_above_94 rfl (lv_at hl 0 rfl) ?_
                    refine va_get (D := (dC, dI)) (ci := 0) (v := .ref (a 2)) (C := "ClassObjectMirrorModel") (T := TM) (N := 12) hx hb hts inM hown hK hP 0 rfl rfl 2 (by decide) (hts _ gw_303) (fun _ h9 => h9) rfl dd_M_above_95 ?_
                    refine lv_iload_n hx hb dd_M_above_98 rfl (lv_at hl 3 rfl) ?_
                    obtain ⟨n39, hok⟩ := hok
                    refine va_iald hx hb hK hP 3 2 rfl rfl n39 dd_M_above_99 ?_
                    refine vp_callSi (W.runS (As := [.int (m_comp u0 x3.toNatClampNeg)]) (rest := []) ⟨hx, hb, hml, hown, hts⟩ (mm_M_base l (m_comp u0 x3.toNatClampNeg)) (va_cwS 1 hts (gg_S gw_370 gw_371 gw_2 gw_372) rfl rfl rfl (by decide +kernel) ⟨Nat.le_of_ble_eq_true rfl, Nat.le_of_ble_eq_true rfl⟩) ⟨fun a U g mk q => q, fun U hU hW => ⟨rfl, trivial⟩⟩ rfl rfl hl.1 rfl (lv_room (Nat.le_of_ble_eq_true rfl)) dd_M_above_100 ⟨Nat.zero_le _, Nat.zero_le _⟩) (fun r hr9 => ?_)
                    subst hr9
                    refine lv_if_ne (tgt := 119) hx hb dd_M_above_103 (by decide) (fun c40 => ?_) (fun c40 => ?_)
                    · have hf := hf.trans (if_neg c40)
                      have hok := hok.2 c40
                      refine lv_iconst (v := 0) hx hb dd_M_above_119 (by decide) ?_
                      exact W.zret (ty := .boolean) (v := (0 : Int32)) hx hb hr (by decide) (fun t ht hW => ⟨(0 : Int32), rfl, hf.symm, ht⟩) (fun _ h => by cases h) dd_M_above_120
                    · have hf := hf.trans (if_pos c40)
                      have hok := hok.1 c40
                      refine lv_aload_n hx hb dd_M_above_106 rfl (lv_at hl 0 rfl) ?_
                      refine va_get (D := (dC, dI)) (ci := 0) (v := .ref (a 2)) (C := "ClassObjectMirrorModel") (T := TM) (N := 12) hx hb hts inM hown hK hP 0 rfl rfl 2 (by decide) (hts _ gw_303) (fun _ h9 => h9) rfl dd_M_above_107 ?_
                      refine lv_iload hx hb dd_M_above_110 (lv_at hl 4 rfl) ?_
                      obtain ⟨n41, hok⟩ := hok
                      refine va_iald hx hb hK hP 3 2 rfl rfl n41 dd_M_above_112 ?_
                      refine vp_callSi (W.runS (As := [.int (m_comp u0 x4.toNatClampNeg)]) (rest := []) ⟨hx, hb, hml, hown, hts⟩ (mm_M_base l (m_comp u0 x4.toNatClampNeg)) (va_cwS 1 hts (gg_S gw_370 gw_371 gw_2 gw_372) rfl rfl rfl (by decide +kernel) ⟨Nat.le_of_ble_eq_true rfl, Nat.le_of_ble_eq_true rfl⟩) ⟨fun a U g mk q => q, fun U hU hW => ⟨rfl, trivial⟩⟩ rfl rfl hl.1 rfl (lv_room (Nat.le_of_ble_eq_true rfl)) dd_M_above_113 ⟨Nat.zero_le _, Nat.zero_le _⟩) (fun r hr9 => ?_)
                      subst hr9
                      refine lv_if_eq (tgt := 121) hx hb dd_M_above_116 (by decide) (fun c42 => ?_) (fun c42 => ?_)
                      · have hf := hf.trans (if_pos c42)
                        have hok := hok.1 c42
                        refine lv_aload_n hx hb dd_M_above_121 rfl (lv_at hl 0 rfl) ?_
                        refine va_get (D := (dC, dI)) (ci := 0) (v := .ref (a 2)) (C := "ClassObjectMirrorModel") (T := TM) (N := 12) hx hb hts inM hown hK hP 0 rfl rfl 2 (by decide) (hts _ gw_303) (fun _ h9 => h9) rfl dd_M_above_122 ?_
                        refine lv_iload_n hx hb dd_M_above_125 rfl (lv_at hl 3 rfl) ?_
                        obtain ⟨n43, hok⟩ := hok
                        refine va_iald hx hb hK hP 3 2 rfl rfl n43 dd_M_above_126 ?_
                        refine lv_istore_n (lv' := [(3, .int (m_comp u0 x3.toNatClampNeg)), (0, .ref h), (1, .int x1), (2, .int x2), (4, .int x4), (5, .int x5)]) hx hb dd_M_above_127 rfl hl (by decide) rfl (fun ls hl => ?_)
                        refine lv_aload_n hx hb dd_M_above_128 rfl (lv_at hl 1 rfl) ?_
                        refine va_get (D := (dC, dI)) (ci := 0) (v := .ref (a 2)) (C := "ClassObjectMirrorModel") (T := TM) (N := 12) hx hb hts inM hown hK hP 0 rfl rfl 2 (by decide) (hts _ gw_303) (fun _ h9 => h9) rfl dd_M_above_129 ?_
                        refine lv_iload hx hb dd_M_above_132 (lv_at hl 4 rfl) ?_
                        obtain ⟨n44, hok⟩ := hok
                        refine va_iald hx hb hK hP 3 2 rfl rfl n44 dd_M_above_134 ?_
                        refine lv_istore (lv' := [(4, .int (m_comp u0 x4.toNatClampNeg)), (3, .int (m_comp u0 x3.toNatClampNeg)), (0, .ref h), (1, .int x1), (2, .int x2), (5, .int x5)]) hx hb dd_M_above_135 hl (by decide) rfl (fun ls hl => ?_)
                        refine lv_iinc (v := x5 + 1) (lv' := [(5, .int (x5 + 1)), (4, .int (m_comp u0 x4.toNatClampNeg)), (3, .int (m_comp u0 x3.toNatClampNeg)), (0, .ref h), (1, .int x1), (2, .int x2)]) hx hb dd_M_above_137 hl (k := 5) rfl rfl (by decide) rfl (fun ls hl => ?_)
                        refine lv_goto (tgt := 8) hx hb dd_M_above_140 (by decide) ?_
                        exact ih x1 x2 (m_comp u0 x3.toNatClampNeg) (m_comp u0 x4.toNatClampNeg) (x5 + 1) ls hok hf (lv_sub hl [3, 4, 5, 2, 1, 0] rfl)
                      · have hf := hf.trans (if_neg c42)
                        have hok := hok.2 c42
                        refine lv_iconst (v := 0) hx hb dd_M_above_119 (by decide) ?_
                        exact W.zret (ty := .boolean) (v := (0 : Int32)) hx hb hr (by decide) (fun t ht hW => ⟨(0 : Int32), rfl, hf.symm, ht⟩) (fun _ h => by cases h) dd_M_above_120
                · have hf := hf.trans (if_pos c36)
                  have hok := hok.1 c36
                  refine lv_aload_n hx hb dd_M_above_56 rfl (lv_at hl 0 rfl) ?_
                  refine va_get (D := (dC, dI)) (ci := 0) (v := .ref (a 3)) (C := "ClassObjectMirrorModel") (T := TM) (N := 12) hx hb hts inM hown hK hP 0 rfl rfl 3 (by decide) (hts _ gw_304) (fun _ h9 => h9) rfl dd_M_above_57 ?_
                  refine lv_iload_n hx hb dd_M_above_60 rfl (lv_at hl 3 rfl) ?_
                  obtain ⟨n45, hok⟩ := hok
                  refine va_iald hx hb hK hP 4 3 rfl rfl n45 dd_M_above_61 ?_
                  refine lv_if_ne (tgt := 83) hx hb dd_M_above_62 (by decide) (fun c46 => ?_) (fun c46 => ?_)
                  · have hf := hf.trans (if_neg c46)
                    have hok := hok.2 c46
                    refine lv_iconst (v := 0) hx hb dd_M_above_83 (by decide) ?_
                    exact W.zret (ty := .boolean) (v := (0 : Int32)) hx hb hr (by decide) (fun t ht hW => ⟨(0 : Int32), rfl, hf.symm, ht⟩) (fun _ h => by cases h) dd_M_above_84
                  · have hf := hf.trans (if_pos c46)
                    have hok := hok.1 c46
                    refine lv_aload_n hx hb dd_M_above_65 rfl (lv_at hl 0 rfl) ?_
                    refine va_get (D := (dC, dI)) (ci := 0) (v := .ref (a 1)) (C := "ClassObjectMirrorModel") (T := TM) (N := 12) hx hb hts inM hown hK hP 0 rfl rfl 1 (by decide) (hts _ gw_302) (fun _ h9 => h9) rfl dd_M_above_66 ?_
                    refine lv_iload hx hb dd_M_above_69 (lv_at hl 4 rfl) ?_
                    have n47 := hok
                    refine va_iald hx hb hK hP 2 1 rfl rfl n47 dd_M_above_71 ?_
                    refine lv_iload_n hx hb dd_M_above_72 rfl (lv_at hl 3 rfl) ?_
                    refine lv_ishr hx hb dd_M_above_73 ?_
                    refine lv_iconst (v := 1) hx hb dd_M_above_74 (by decide) ?_
                    refine lv_iand hx hb dd_M_above_75 ?_
                    refine lv_if_eq (tgt := 83) hx hb dd_M_above_76 (by decide) (fun c48 => ?_) (fun c48 => ?_)
                    · have hf := hf.trans (if_pos c48)
                      refine lv_iconst (v := 0) hx hb dd_M_above_83 (by decide) ?_
                      exact W.zret (ty := .boolean) (v := (0 : Int32)) hx hb hr (by decide) (fun t ht hW => ⟨(0 : Int32), rfl, hf.symm, ht⟩) (fun _ h => by cases h) dd_M_above_84
                    · have hf := hf.trans (if_neg c48)
                      refine lv_iconst (v := 1) hx hb dd_M_above_79 (by decide) ?_
                      refine lv_goto (tgt := 84) hx hb dd_M_above_80 (by decide) ?_
                      exact W.zret (ty := .boolean) (v := (1 : Int32)) hx hb hr (by decide) (fun t ht hW => ⟨(1 : Int32), rfl, hf.symm, ht⟩) (fun _ h => by cases h) dd_M_above_84
              · have hf := hf.trans (if_neg c34)
                have hok := hok.2 c34
                refine lv_iconst (v := 1) hx hb dd_M_above_44 (by decide) ?_
                exact W.zret (ty := .boolean) (v := (1 : Int32)) hx hb hr (by decide) (fun t ht hW => ⟨(1 : Int32), rfl, hf.symm, ht⟩) (fun _ h => by cases h) dd_M_above_45
  exact loop_8 301 p0 p1 p0 p1 (0 : Int32) ls hok hf (lv_sub hl [3, 4, 5, 2, 1, 0] rfl)

def ff_M_supertype (u0 : SM) (p0 : Int32) (p1 : Int32) : Int32 := (if (ff_M_noType u0 p0) = 0 then (if (ff_M_noType u0 p1) = 0 then (if (ff_M_above u0 p0 p1) = 0 then 0 else 1) else (-1)) else (-1))
def ok_M_supertype (u0 : SM) (p0 : Int32) (p1 : Int32) : Prop := ((((ff_M_noType u0 p0) = 0) → ((((ff_M_noType u0 p1) = 0) → ok_M_above u0 p0 p1) ∧ (¬ ((ff_M_noType u0 p1) = 0) → True))) ∧ (¬ ((ff_M_noType u0 p0) = 0) → True))
abbrev ws_M_supertype : List Cond := .code yy_M_supertype bb_M_supertype 3 (some .int) :: gW
abbrev rm_M_supertype : Room := { frames := 2, cells := 0, slots := 0, locals := 45 }
set_option maxHeartbeats 4000000 in
set_option maxRecDepth 100000 in
theorem mm_M_supertype (l : Launch) (dC : Nat → ClassId) (dI : Nat → Nat → Nat) (h : Nat) (a : Nat → Nat) (k : Nat → ClassId) (u0 : SM) (p0 : Int32) (p1 : Int32) (hok : ok_M_supertype u0 p0 p1) : Met l yy_M_supertype ws_M_supertype rm_M_supertype (va_Pc [.ref h, .int p0, .int p1] (pM dC dI h a k u0)) (vp_Si (fun r => r = ff_M_supertype u0 p0 p1)) 0 0 (fun _ => False) := by
  refine Met.ofW (cc := bb_M_supertype) (maxL := 3) (ret := (some .int)) (by decide) rfl ?_
  intro p e s m args below meth c s₁ B hml hv
  obtain ⟨rfl, hP, hK, hD⟩ := hv
  have hx := B.exec
  have hb := B.bytes
  have hr := B.returns
  have hts : ∀ w ∈ gW, w.before _ s = true := fun w h => atoms_spec (ws := ws_M_supertype) B.pre w (List.mem_cons_of_mem _ h)
  have hown : s.vm.findClass "ClassObjectMirrorModel" = some m.cls := findClass_of_methodNamed B.named
  have hlocks := B.notSynchronized
  have hS : va_S (aM h a) s.heap s.heap [] := va_S.rf
  have hl := lv_entry ([.ref h, .int p0, .int p1]) (n := 3) (Nat.le_of_ble_eq_true rfl)
  rw [lg_entry_eq]
  generalize (lg_sl ([.ref h, .int p0, .int p1]) ++ List.replicate (3 - (lg_sl ([.ref h, .int p0, .int p1])).length) Slot.unset).toArray = ls at hl ⊢
  have hl : lv_has ls 3 [(0, .ref h), (1, .int p0), (2, .int p1)] := hl
  have hf := ff_M_supertype.eq_1 u0 p0 p1
  unfold ok_M_supertype at hok
  refine lv_aload_n hx hb dd_M_supertype_0 rfl (lv_at hl 0 rfl) ?_
  refine lv_iload_n hx hb dd_M_supertype_1 rfl (lv_at hl 1 rfl) ?_
  refine vp_callSi (W.runV (As := [.int p0]) (rest := []) ⟨hx, hb, hml, hown, hts⟩ (mm_M_noType l dC dI h a k u0 p0) (cwV 1 hts (gg_V gw_342 gw_344 gs_18 gw_2 gw_345) rfl rfl rfl (by decide +kernel) ⟨Nat.le_of_ble_eq_true rfl, Nat.le_of_ble_eq_true rfl⟩) ⟨pM_bl, va_recv hK hP (ci := 0) (q0 := 0) rfl rfl, fun U hU hW => ⟨rfl, pM_up hP hK hD hU hW⟩⟩ rfl rfl hl.1 rfl (lv_room (Nat.le_of_ble_eq_true rfl)) dd_M_supertype_2 ⟨Nat.zero_le _, Nat.zero_le _⟩) (fun r hr9 => ?_)
  subst hr9
  refine lv_if_ne (tgt := 16) hx hb dd_M_supertype_5 (by decide) (fun c1 => ?_) (fun c1 => ?_)
  · have hf := hf.trans (if_neg c1)
    have hok := hok.2 c1
    refine lv_iconst (v := (-1)) hx hb dd_M_supertype_16 (by decide) ?_
    refine lv_goto (tgt := 34) hx hb dd_M_supertype_17 (by decide) ?_
    exact W.iret (v := ((-1) : Int32)) hx hb hr (fun t ht hW => ⟨((-1) : Int32), rfl, hf.symm, ht⟩) (fun _ h => by cases h) dd_M_supertype_34
  · have hf := hf.trans (if_pos c1)
    have hok := hok.1 c1
    refine lv_aload_n hx hb dd_M_supertype_8 rfl (lv_at hl 0 rfl) ?_
    refine lv_iload_n hx hb dd_M_supertype_9 rfl (lv_at hl 2 rfl) ?_
    refine vp_callSi (W.runV (As := [.int p1]) (rest := []) ⟨hx, hb, hml, hown, hts⟩ (mm_M_noType l dC dI h a k u0 p1) (cwV 1 hts (gg_V gw_342 gw_344 gs_18 gw_2 gw_345) rfl rfl rfl (by decide +kernel) ⟨Nat.le_of_ble_eq_true rfl, Nat.le_of_ble_eq_true rfl⟩) ⟨pM_bl, va_recv hK hP (ci := 0) (q0 := 0) rfl rfl, fun U hU hW => ⟨rfl, pM_up hP hK hD hU hW⟩⟩ rfl rfl hl.1 rfl (lv_room (Nat.le_of_ble_eq_true rfl)) dd_M_supertype_10 ⟨Nat.zero_le _, Nat.zero_le _⟩) (fun r hr9 => ?_)
    subst hr9
    refine lv_if_eq (tgt := 20) hx hb dd_M_supertype_13 (by decide) (fun c2 => ?_) (fun c2 => ?_)
    · have hf := hf.trans (if_pos c2)
      have hok := hok.1 c2
      refine lv_aload_n hx hb dd_M_supertype_20 rfl (lv_at hl 0 rfl) ?_
      refine lv_iload_n hx hb dd_M_supertype_21 rfl (lv_at hl 1 rfl) ?_
      refine lv_iload_n hx hb dd_M_supertype_22 rfl (lv_at hl 2 rfl) ?_
      have n3 := hok
      refine vp_callSi (W.runV (As := [.int p0, .int p1]) (rest := []) ⟨hx, hb, hml, hown, hts⟩ (mm_M_above l dC dI h a k u0 p0 p1 n3) (cwV 2 hts (gg_V gw_366 gw_368 gs_21 gw_2 gw_369) rfl rfl rfl (by decide +kernel) ⟨Nat.le_of_ble_eq_true rfl, Nat.le_of_ble_eq_true rfl⟩) ⟨pM_bl, va_recv hK hP (ci := 0) (q0 := 0) rfl rfl, fun U hU hW => ⟨rfl, pM_up hP hK hD hU hW⟩⟩ rfl rfl hl.1 rfl (lv_room (Nat.le_of_ble_eq_true rfl)) dd_M_supertype_23 ⟨Nat.zero_le _, Nat.zero_le _⟩) (fun r hr9 => ?_)
      subst hr9
      refine lv_if_eq (tgt := 33) hx hb dd_M_supertype_26 (by decide) (fun c4 => ?_) (fun c4 => ?_)
      · have hf := hf.trans (if_pos c4)
        refine lv_iconst (v := 0) hx hb dd_M_supertype_33 (by decide) ?_
        exact W.iret (v := (0 : Int32)) hx hb hr (fun t ht hW => ⟨(0 : Int32), rfl, hf.symm, ht⟩) (fun _ h => by cases h) dd_M_supertype_34
      · have hf := hf.trans (if_neg c4)
        refine lv_iconst (v := 1) hx hb dd_M_supertype_29 (by decide) ?_
        refine lv_goto (tgt := 34) hx hb dd_M_supertype_30 (by decide) ?_
        exact W.iret (v := (1 : Int32)) hx hb hr (fun t ht hW => ⟨(1 : Int32), rfl, hf.symm, ht⟩) (fun _ h => by cases h) dd_M_supertype_34
    · have hf := hf.trans (if_neg c2)
      have hok := hok.2 c2
      refine lv_iconst (v := (-1)) hx hb dd_M_supertype_16 (by decide) ?_
      refine lv_goto (tgt := 34) hx hb dd_M_supertype_17 (by decide) ?_
      exact W.iret (v := ((-1) : Int32)) hx hb hr (fun t ht hW => ⟨((-1) : Int32), rfl, hf.symm, ht⟩) (fun _ h => by cases h) dd_M_supertype_34

def fl_M_bottom_2 : Nat → SM → Int32 → Int32 → Int32
  | 0, _, _, _ => 0
  | n + 1, u0, x1, x2 => (if (m_dims u0 x2.toNatClampNeg) ≤ 0 then x2 else fl_M_bottom_2 n u0 x1 (m_comp u0 x2.toNatClampNeg))
def okl_M_bottom_2 : Nat → SM → Int32 → Int32 → Prop
  | 0, _, _, _ => False
  | n + 1, u0, x1, x2 => (vp_in x2 300) ∧ ((((m_dims u0 x2.toNatClampNeg) ≤ 0) → True) ∧ (¬ ((m_dims u0 x2.toNatClampNeg) ≤ 0) → (vp_in x2 300) ∧ okl_M_bottom_2 n u0 x1 (m_comp u0 x2.toNatClampNeg)))
def ff_M_bottom (u0 : SM) (p0 : Int32) : Int32 := fl_M_bottom_2 300 u0 p0 p0
def ok_M_bottom (u0 : SM) (p0 : Int32) : Prop := okl_M_bottom_2 300 u0 p0 p0
abbrev ws_M_bottom : List Cond := .code yy_M_bottom bb_M_bottom 3 (some .int) :: gW
abbrev rm_M_bottom : Room := { frames := 0, cells := 0, slots := 0, locals := 0 }
set_option maxHeartbeats 4000000 in
set_option maxRecDepth 100000 in
theorem mm_M_bottom (l : Launch) (dC : Nat → ClassId) (dI : Nat → Nat → Nat) (h : Nat) (a : Nat → Nat) (k : Nat → ClassId) (u0 : SM) (p0 : Int32) (hok : ok_M_bottom u0 p0) : Met l yy_M_bottom ws_M_bottom rm_M_bottom (va_Pc [.ref h, .int p0] (pM dC dI h a k u0)) (vp_Si (fun r => r = ff_M_bottom u0 p0)) 0 0 (fun _ => False) := by
  refine Met.ofW (cc := bb_M_bottom) (maxL := 3) (ret := (some .int)) (by decide) rfl ?_
  intro p e s m args below meth c s₁ B hml hv
  obtain ⟨rfl, hP, hK, hD⟩ := hv
  have hx := B.exec
  have hb := B.bytes
  have hr := B.returns
  have hts : ∀ w ∈ gW, w.before _ s = true := fun w h => atoms_spec (ws := ws_M_bottom) B.pre w (List.mem_cons_of_mem _ h)
  have hown : s.vm.findClass "ClassObjectMirrorModel" = some m.cls := findClass_of_methodNamed B.named
  have hlocks := B.notSynchronized
  have hS : va_S (aM h a) s.heap s.heap [] := va_S.rf
  have hl := lv_entry ([.ref h, .int p0]) (n := 3) (Nat.le_of_ble_eq_true rfl)
  rw [lg_entry_eq]
  generalize (lg_sl ([.ref h, .int p0]) ++ List.replicate (3 - (lg_sl ([.ref h, .int p0])).length) Slot.unset).toArray = ls at hl ⊢
  have hl : lv_has ls 3 [(0, .ref h), (1, .int p0)] := hl
  have hf := ff_M_bottom.eq_1 u0 p0
  unfold ok_M_bottom at hok
  refine lv_iload_n hx hb dd_M_bottom_0 rfl (lv_at hl 1 rfl) ?_
  refine lv_istore_n (lv' := [(2, .int p0), (0, .ref h), (1, .int p0)]) hx hb dd_M_bottom_1 rfl hl (by decide) rfl (fun ls hl => ?_)
  have loop_2 : ∀ (n : Nat) (x1 : Int32) (x2 : Int32) (ls : Array Slot), okl_M_bottom_2 n u0 x1 x2 → ff_M_bottom u0 p0 = fl_M_bottom_2 n u0 x1 x2 → lv_has ls 3 [(0, .ref h), (1, .int x1), (2, .int x2)] → W p l e (headSpec ws_M_bottom rm_M_bottom).room s m ([.ref h, .int p0] : List Value).toArray below meth c s.heap [] 0 0 (MQ below (vp_Si (fun r => r = ff_M_bottom u0 p0)) ([.ref h, .int p0] : List Value).toArray s 0 0 (fun _ => False)) (F0 m 2 ls []) := by
    intro n
    induction n with
    | zero => intro x1 x2 ls hok; exact (show False from hok).elim
    | succ n ih =>
      intro x1 x2 ls hok hf hl
      rw [fl_M_bottom_2] at hf
      rw [okl_M_bottom_2] at hok
      refine lv_aload_n hx hb dd_M_bottom_2 rfl (lv_at hl 0 rfl) ?_
      refine va_get (D := (dC, dI)) (ci := 0) (v := .ref (a 3)) (C := "ClassObjectMirrorModel") (T := TM) (N := 12) hx hb hts inM hown hK hP 0 rfl rfl 3 (by decide) (hts _ gw_304) (fun _ h9 => h9) rfl dd_M_bottom_3 ?_
      refine lv_iload_n hx hb dd_M_bottom_6 rfl (lv_at hl 2 rfl) ?_
      obtain ⟨n1, hok⟩ := hok
      refine va_iald hx hb hK hP 4 3 rfl rfl n1 dd_M_bottom_7 ?_
      refine lv_if_le (tgt := 21) hx hb dd_M_bottom_8 (by decide) (fun c2 => ?_) (fun c2 => ?_)
      · have hf := hf.trans (if_pos c2)
        have hok := hok.1 c2
        refine lv_iload_n hx hb dd_M_bottom_21 rfl (lv_at hl 2 rfl) ?_
        exact W.iret (v := x2) hx hb hr (fun t ht hW => ⟨x2, rfl, hf.symm, ht⟩) (fun _ h => by cases h) dd_M_bottom_22
      · have hf := hf.trans (if_neg c2)
        have hok := hok.2 c2
        refine lv_aload_n hx hb dd_M_bottom_11 rfl (lv_at hl 0 rfl) ?_
        refine va_get (D := (dC, dI)) (ci := 0) (v := .ref (a 2)) (C := "ClassObjectMirrorModel") (T := TM) (N := 12) hx hb hts inM hown hK hP 0 rfl rfl 2 (by decide) (hts _ gw_303) (fun _ h9 => h9) rfl dd_M_bottom_12 ?_
        refine lv_iload_n hx hb dd_M_bottom_15 rfl (lv_at hl 2 rfl) ?_
        obtain ⟨n3, hok⟩ := hok
        refine va_iald hx hb hK hP 3 2 rfl rfl n3 dd_M_bottom_16 ?_
        refine lv_istore_n (lv' := [(2, .int (m_comp u0 x2.toNatClampNeg)), (0, .ref h), (1, .int x1)]) hx hb dd_M_bottom_17 rfl hl (by decide) rfl (fun ls hl => ?_)
        refine lv_goto (tgt := 2) hx hb dd_M_bottom_18 (by decide) ?_
        exact ih x1 (m_comp u0 x2.toNatClampNeg) ls hok hf (lv_sub hl [1, 2, 0] rfl)
  exact loop_2 300 p0 p0 ls hok hf (lv_sub hl [1, 2, 0] rfl)

def ff_M_marks (u0 : SM) (p0 : Int32) : Int32 := (if (ff_M_noType u0 p0) = 0 then (if (m_dims u0 p0.toNatClampNeg) = 0 then m_fm u0 p0.toNatClampNeg else 16 + ((m_fm u0 (ff_M_bottom u0 p0).toNatClampNeg) &&& 7)) else (-1))
def ok_M_marks (u0 : SM) (p0 : Int32) : Prop := ((((ff_M_noType u0 p0) = 0) → (vp_in p0 300) ∧ ((((m_dims u0 p0.toNatClampNeg) = 0) → vp_in p0 22) ∧ (¬ ((m_dims u0 p0.toNatClampNeg) = 0) → (ok_M_bottom u0 p0) ∧ vp_in (ff_M_bottom u0 p0) 22))) ∧ (¬ ((ff_M_noType u0 p0) = 0) → True))
abbrev ws_M_marks : List Cond := .code yy_M_marks bb_M_marks 2 (some .int) :: gW
abbrev rm_M_marks : Room := { frames := 1, cells := 0, slots := 0, locals := 22 }
set_option maxHeartbeats 4000000 in
set_option maxRecDepth 100000 in
theorem mm_M_marks (l : Launch) (dC : Nat → ClassId) (dI : Nat → Nat → Nat) (h : Nat) (a : Nat → Nat) (k : Nat → ClassId) (u0 : SM) (p0 : Int32) (hok : ok_M_marks u0 p0) : Met l yy_M_marks ws_M_marks rm_M_marks (va_Pc [.ref h, .int p0] (pM dC dI h a k u0)) (vp_Si (fun r => r = ff_M_marks u0 p0)) 0 0 (fun _ => False) := by
  refine Met.ofW (cc := bb_M_marks) (maxL := 2) (ret := (some .int)) (by decide) rfl ?_
  intro p e s m args below meth c s₁ B hml hv
  obtain ⟨rfl, hP, hK, hD⟩ := hv
  have hx := B.exec
  have hb := B.bytes
  have hr := B.returns
  have hts : ∀ w ∈ gW, w.before _ s = true := fun w h => atoms_spec (ws := ws_M_marks) B.pre w (List.mem_cons_of_mem _ h)
  have hown : s.vm.findClass "ClassObjectMirrorModel" = some m.cls := findClass_of_methodNamed B.named
  have hlocks := B.notSynchronized
  have hS : va_S (aM h a) s.heap s.heap [] := va_S.rf
  have hl := lv_entry ([.ref h, .int p0]) (n := 2) (Nat.le_of_ble_eq_true rfl)
  rw [lg_entry_eq]
  generalize (lg_sl ([.ref h, .int p0]) ++ List.replicate (2 - (lg_sl ([.ref h, .int p0])).length) Slot.unset).toArray = ls at hl ⊢
  have hl : lv_has ls 2 [(0, .ref h), (1, .int p0)] := hl
  have hf := ff_M_marks.eq_1 u0 p0
  unfold ok_M_marks at hok
  refine lv_aload_n hx hb dd_M_marks_0 rfl (lv_at hl 0 rfl) ?_
  refine lv_iload_n hx hb dd_M_marks_1 rfl (lv_at hl 1 rfl) ?_
  refine vp_callSi (W.runV (As := [.int p0]) (rest := []) ⟨hx, hb, hml, hown, hts⟩ (mm_M_noType l dC dI h a k u0 p0) (cwV 1 hts (gg_V gw_342 gw_344 gs_18 gw_2 gw_345) rfl rfl rfl (by decide +kernel) ⟨Nat.le_of_ble_eq_true rfl, Nat.le_of_ble_eq_true rfl⟩) ⟨pM_bl, va_recv hK hP (ci := 0) (q0 := 0) rfl rfl, fun U hU hW => ⟨rfl, pM_up hP hK hD hU hW⟩⟩ rfl rfl hl.1 rfl (lv_room (Nat.le_of_ble_eq_true rfl)) dd_M_marks_2 ⟨Nat.zero_le _, Nat.zero_le _⟩) (fun r hr9 => ?_)
  subst hr9
  refine lv_if_eq (tgt := 10) hx hb dd_M_marks_5 (by decide) (fun c1 => ?_) (fun c1 => ?_)
  · have hf := hf.trans (if_pos c1)
    have hok := hok.1 c1
    refine lv_aload_n hx hb dd_M_marks_10 rfl (lv_at hl 0 rfl) ?_
    refine va_get (D := (dC, dI)) (ci := 0) (v := .ref (a 3)) (C := "ClassObjectMirrorModel") (T := TM) (N := 12) hx hb hts inM hown hK hP 0 rfl rfl 3 (by decide) (hts _ gw_304) (fun _ h9 => h9) rfl dd_M_marks_11 ?_
    refine lv_iload_n hx hb dd_M_marks_14 rfl (lv_at hl 1 rfl) ?_
    obtain ⟨n2, hok⟩ := hok
    refine va_iald hx hb hK hP 4 3 rfl rfl n2 dd_M_marks_15 ?_
    refine lv_if_ne (tgt := 28) hx hb dd_M_marks_16 (by decide) (fun c3 => ?_) (fun c3 => ?_)
    · have hf := hf.trans (if_neg c3)
      have hok := hok.2 c3
      refine lv_bipush (v := 16) hx hb dd_M_marks_28 (by decide) ?_
      refine lv_aload_n hx hb dd_M_marks_30 rfl (lv_at hl 0 rfl) ?_
      refine va_get (D := (dC, dI)) (ci := 0) (v := .ref (a 0)) (C := "ClassObjectMirrorModel") (T := TM) (N := 12) hx hb hts inM hown hK hP 0 rfl rfl 0 (by decide) (hts _ gw_301) (fun _ h9 => h9) rfl dd_M_marks_31 ?_
      refine lv_aload_n hx hb dd_M_marks_34 rfl (lv_at hl 0 rfl) ?_
      refine lv_iload_n hx hb dd_M_marks_35 rfl (lv_at hl 1 rfl) ?_
      obtain ⟨n4, hok⟩ := hok
      refine vp_callSi (W.runV (As := [.int p0]) (rest := [.ref (a 0), .int 16]) ⟨hx, hb, hml, hown, hts⟩ (mm_M_bottom l dC dI h a k u0 p0 n4) (cwV 1 hts (gg_V gw_377 gw_379 gs_22 gw_2 gw_380) rfl rfl rfl (by decide +kernel) ⟨Nat.le_of_ble_eq_true rfl, Nat.le_of_ble_eq_true rfl⟩) ⟨pM_bl, va_recv hK hP (ci := 0) (q0 := 0) rfl rfl, fun U hU hW => ⟨rfl, pM_up hP hK hD hU hW⟩⟩ rfl rfl hl.1 rfl (lv_room (Nat.le_of_ble_eq_true rfl)) dd_M_marks_36 ⟨Nat.zero_le _, Nat.zero_le _⟩) (fun r hr9 => ?_)
      subst hr9
      have n5 := hok
      refine va_iald hx hb hK hP 1 0 rfl rfl n5 dd_M_marks_39 ?_
      refine lv_bipush (v := 7) hx hb dd_M_marks_40 (by decide) ?_
      refine lv_iand hx hb dd_M_marks_42 ?_
      refine lv_iadd hx hb dd_M_marks_43 ?_
      exact W.iret (v := (16 + ((m_fm u0 (ff_M_bottom u0 p0).toNatClampNeg) &&& 7))) hx hb hr (fun t ht hW => ⟨(16 + ((m_fm u0 (ff_M_bottom u0 p0).toNatClampNeg) &&& 7)), rfl, hf.symm, ht⟩) (fun _ h => by cases h) dd_M_marks_44
    · have hf := hf.trans (if_pos c3)
      have hok := hok.1 c3
      refine lv_aload_n hx hb dd_M_marks_19 rfl (lv_at hl 0 rfl) ?_
      refine va_get (D := (dC, dI)) (ci := 0) (v := .ref (a 0)) (C := "ClassObjectMirrorModel") (T := TM) (N := 12) hx hb hts inM hown hK hP 0 rfl rfl 0 (by decide) (hts _ gw_301) (fun _ h9 => h9) rfl dd_M_marks_20 ?_
      refine lv_iload_n hx hb dd_M_marks_23 rfl (lv_at hl 1 rfl) ?_
      have n6 := hok
      refine va_iald hx hb hK hP 1 0 rfl rfl n6 dd_M_marks_24 ?_
      refine lv_goto (tgt := 44) hx hb dd_M_marks_25 (by decide) ?_
      exact W.iret (v := (m_fm u0 p0.toNatClampNeg)) hx hb hr (fun t ht hW => ⟨(m_fm u0 p0.toNatClampNeg), rfl, hf.symm, ht⟩) (fun _ h => by cases h) dd_M_marks_44
  · have hf := hf.trans (if_neg c1)
    have hok := hok.2 c1
    refine lv_iconst (v := (-1)) hx hb dd_M_marks_8 (by decide) ?_
    exact W.iret (v := ((-1) : Int32)) hx hb hr (fun t ht hW => ⟨((-1) : Int32), rfl, hf.symm, ht⟩) (fun _ h => by cases h) dd_M_marks_9

def ff_M_kinds (u0 : SM) (p0 : Int32) : Int32 := (if (ff_M_noType u0 p0) = 0 then (if (m_dims u0 p0.toNatClampNeg) ≤ 0 then (if 8 < p0 then (if ((m_fm u0 p0.toNatClampNeg) &&& 512) = 0 then (if p0 = 19 then (if p0 < 13 then (0 + 8) + 0 else (0 + 8) + 32) else (if p0 = 20 then (if p0 < 13 then (0 + 16) + 0 else (0 + 16) + 32) else (if p0 < 13 then (0 + 0) + 0 else (0 + 0) + 32))) else (if p0 = 19 then (if p0 < 13 then (2 + 8) + 0 else (2 + 8) + 32) else (if p0 = 20 then (if p0 < 13 then (2 + 16) + 0 else (2 + 16) + 32) else (if p0 < 13 then (2 + 0) + 0 else (2 + 0) + 32)))) else (if p0 = 19 then (if p0 < 13 then (1 + 8) + 0 else (1 + 8) + 32) else (if p0 = 20 then (if p0 < 13 then (1 + 16) + 0 else (1 + 16) + 32) else (if p0 < 13 then (1 + 0) + 0 else (1 + 0) + 32)))) else 4) else (-1))
def ok_M_kinds (u0 : SM) (p0 : Int32) : Prop := ((((ff_M_noType u0 p0) = 0) → (vp_in p0 300) ∧ ((((m_dims u0 p0.toNatClampNeg) ≤ 0) → (((8 < p0) → vp_in p0 22) ∧ (¬ (8 < p0) → True))) ∧ (¬ ((m_dims u0 p0.toNatClampNeg) ≤ 0) → True))) ∧ (¬ ((ff_M_noType u0 p0) = 0) → True))
abbrev ws_M_kinds : List Cond := .code yy_M_kinds bb_M_kinds 3 (some .int) :: gW
abbrev rm_M_kinds : Room := { frames := 1, cells := 0, slots := 0, locals := 21 }
set_option maxHeartbeats 4000000 in
set_option maxRecDepth 100000 in
theorem mm_M_kinds (l : Launch) (dC : Nat → ClassId) (dI : Nat → Nat → Nat) (h : Nat) (a : Nat → Nat) (k : Nat → ClassId) (u0 : SM) (p0 : Int32) (hok : ok_M_kinds u0 p0) : Met l yy_M_kinds ws_M_kinds rm_M_kinds (va_Pc [.ref h, .int p0] (pM dC dI h a k u0)) (vp_Si (fun r => r = ff_M_kinds u0 p0)) 0 0 (fun _ => False) := by
  refine Met.ofW (cc := bb_M_kinds) (maxL := 3) (ret := (some .int)) (by decide) rfl ?_
  intro p e s m args below meth c s₁ B hml hv
  obtain ⟨rfl, hP, hK, hD⟩ := hv
  have hx := B.exec
  have hb := B.bytes
  have hr := B.returns
  have hts : ∀ w ∈ gW, w.before _ s = true := fun w h => atoms_spec (ws := ws_M_kinds) B.pre w (List.mem_cons_of_mem _ h)
  have hown : s.vm.findClass "ClassObjectMirrorModel" = some m.cls := findClass_of_methodNamed B.named
  have hlocks := B.notSynchronized
  have hS : va_S (aM h a) s.heap s.heap [] := va_S.rf
  have hl := lv_entry ([.ref h, .int p0]) (n := 3) (Nat.le_of_ble_eq_true rfl)
  rw [lg_entry_eq]
  generalize (lg_sl ([.ref h, .int p0]) ++ List.replicate (3 - (lg_sl ([.ref h, .int p0])).length) Slot.unset).toArray = ls at hl ⊢
  have hl : lv_has ls 3 [(0, .ref h), (1, .int p0)] := hl
  have hf := ff_M_kinds.eq_1 u0 p0
  unfold ok_M_kinds at hok
  refine lv_aload_n hx hb dd_M_kinds_0 rfl (lv_at hl 0 rfl) ?_
  refine lv_iload_n hx hb dd_M_kinds_1 rfl (lv_at hl 1 rfl) ?_
  refine vp_callSi (W.runV (As := [.int p0]) (rest := []) ⟨hx, hb, hml, hown, hts⟩ (mm_M_noType l dC dI h a k u0 p0) (cwV 1 hts (gg_V gw_342 gw_344 gs_18 gw_2 gw_345) rfl rfl rfl (by decide +kernel) ⟨Nat.le_of_ble_eq_true rfl, Nat.le_of_ble_eq_true rfl⟩) ⟨pM_bl, va_recv hK hP (ci := 0) (q0 := 0) rfl rfl, fun U hU hW => ⟨rfl, pM_up hP hK hD hU hW⟩⟩ rfl rfl hl.1 rfl (lv_room (Nat.le_of_ble_eq_true rfl)) dd_M_kinds_2 ⟨Nat.zero_le _, Nat.zero_le _⟩) (fun r hr9 => ?_)
  subst hr9
  refine lv_if_eq (tgt := 10) hx hb dd_M_kinds_5 (by decide) (fun c1 => ?_) (fun c1 => ?_)
  · have hf := hf.trans (if_pos c1)
    have hok := hok.1 c1
    refine lv_aload_n hx hb dd_M_kinds_10 rfl (lv_at hl 0 rfl) ?_
    refine va_get (D := (dC, dI)) (ci := 0) (v := .ref (a 3)) (C := "ClassObjectMirrorModel") (T := TM) (N := 12) hx hb hts inM hown hK hP 0 rfl rfl 3 (by decide) (hts _ gw_304) (fun _ h9 => h9) rfl dd_M_kinds_11 ?_
    refine lv_iload_n hx hb dd_M_kinds_14 rfl (lv_at hl 1 rfl) ?_
    obtain ⟨n2, hok⟩ := hok
    refine va_iald hx hb hK hP 4 3 rfl rfl n2 dd_M_kinds_15 ?_
    refine lv_if_le (tgt := 21) hx hb dd_M_kinds_16 (by decide) (fun c3 => ?_) (fun c3 => ?_)
    · have hf := hf.trans (if_pos c3)
      have hok := hok.1 c3
      refine lv_iload_n hx hb dd_M_kinds_21 rfl (lv_at hl 1 rfl) ?_
      refine lv_bipush (v := 8) hx hb dd_M_kinds_22 (by decide) ?_
      refine lv_icmp_gt (tgt := 31) hx hb dd_M_kinds_24 (by decide) (fun c4 => ?_) (fun c4 => ?_)
      · have hf := hf.trans (if_pos c4)
        have hok := hok.1 c4
        refine lv_aload_n hx hb dd_M_kinds_31 rfl (lv_at hl 0 rfl) ?_
        refine va_get (D := (dC, dI)) (ci := 0) (v := .ref (a 0)) (C := "ClassObjectMirrorModel") (T := TM) (N := 12) hx hb hts inM hown hK hP 0 rfl rfl 0 (by decide) (hts _ gw_301) (fun _ h9 => h9) rfl dd_M_kinds_32 ?_
        refine lv_iload_n hx hb dd_M_kinds_35 rfl (lv_at hl 1 rfl) ?_
        have n5 := hok
        refine va_iald hx hb hK hP 1 0 rfl rfl n5 dd_M_kinds_36 ?_
        refine lv_sipush (v := 512) hx hb dd_M_kinds_37 (by decide) ?_
        refine lv_iand hx hb dd_M_kinds_40 ?_
        refine lv_if_eq (tgt := 48) hx hb dd_M_kinds_41 (by decide) (fun c6 => ?_) (fun c6 => ?_)
        · have hf := hf.trans (if_pos c6)
          refine lv_iconst (v := 0) hx hb dd_M_kinds_48 (by decide) ?_
          refine lv_istore_n (lv' := [(2, .int 0), (0, .ref h), (1, .int p0)]) hx hb dd_M_kinds_49 rfl hl (by decide) rfl (fun ls hl => ?_)
          refine lv_iload_n hx hb dd_M_kinds_50 rfl (lv_at hl 0 rfl) ?_
          refine lv_iload_n hx hb dd_M_kinds_51 rfl (lv_at hl 2 rfl) ?_
          refine lv_bipush (v := 19) hx hb dd_M_kinds_52 (by decide) ?_
          refine lv_icmp_ne (tgt := 62) hx hb dd_M_kinds_54 (by decide) (fun c7 => ?_) (fun c7 => ?_)
          · have hf := hf.trans (if_neg c7)
            refine lv_iload_n hx hb dd_M_kinds_62 rfl (lv_at hl 2 rfl) ?_
            refine lv_bipush (v := 20) hx hb dd_M_kinds_63 (by decide) ?_
            refine lv_icmp_ne (tgt := 73) hx hb dd_M_kinds_65 (by decide) (fun c8 => ?_) (fun c8 => ?_)
            · have hf := hf.trans (if_neg c8)
              refine lv_iconst (v := 0) hx hb dd_M_kinds_73 (by decide) ?_
              refine lv_iadd hx hb dd_M_kinds_74 ?_
              refine lv_iload_n hx hb dd_M_kinds_75 rfl (lv_at hl 2 rfl) ?_
              refine lv_bipush (v := 13) hx hb dd_M_kinds_76 (by decide) ?_
              refine lv_icmp_lt (tgt := 86) hx hb dd_M_kinds_78 (by decide) (fun c9 => ?_) (fun c9 => ?_)
              · have hf := hf.trans (if_pos c9)
                refine lv_iconst (v := 0) hx hb dd_M_kinds_86 (by decide) ?_
                refine lv_iadd hx hb dd_M_kinds_87 ?_
                exact W.iret (v := ((0 + 0) + 0)) hx hb hr (fun t ht hW => ⟨((0 + 0) + 0), rfl, hf.symm, ht⟩) (fun _ h => by cases h) dd_M_kinds_88
              · have hf := hf.trans (if_neg c9)
                refine lv_bipush (v := 32) hx hb dd_M_kinds_81 (by decide) ?_
                refine lv_goto (tgt := 87) hx hb dd_M_kinds_83 (by decide) ?_
                refine lv_iadd hx hb dd_M_kinds_87 ?_
                exact W.iret (v := ((0 + 0) + 32)) hx hb hr (fun t ht hW => ⟨((0 + 0) + 32), rfl, hf.symm, ht⟩) (fun _ h => by cases h) dd_M_kinds_88
            · have hf := hf.trans (if_pos c8)
              refine lv_bipush (v := 16) hx hb dd_M_kinds_68 (by decide) ?_
              refine lv_goto (tgt := 74) hx hb dd_M_kinds_70 (by decide) ?_
              refine lv_iadd hx hb dd_M_kinds_74 ?_
              refine lv_iload_n hx hb dd_M_kinds_75 rfl (lv_at hl 2 rfl) ?_
              refine lv_bipush (v := 13) hx hb dd_M_kinds_76 (by decide) ?_
              refine lv_icmp_lt (tgt := 86) hx hb dd_M_kinds_78 (by decide) (fun c10 => ?_) (fun c10 => ?_)
              · have hf := hf.trans (if_pos c10)
                refine lv_iconst (v := 0) hx hb dd_M_kinds_86 (by decide) ?_
                refine lv_iadd hx hb dd_M_kinds_87 ?_
                exact W.iret (v := ((0 + 16) + 0)) hx hb hr (fun t ht hW => ⟨((0 + 16) + 0), rfl, hf.symm, ht⟩) (fun _ h => by cases h) dd_M_kinds_88
              · have hf := hf.trans (if_neg c10)
                refine lv_bipush (v := 32) hx hb dd_M_kinds_81 (by decide) ?_
                refine lv_goto (tgt := 87) hx hb dd_M_kinds_83 (by decide) ?_
                refine lv_iadd hx hb dd_M_kinds_87 ?_
                exact W.iret (v := ((0 + 16) + 32)) hx hb hr (fun t ht hW => ⟨((0 + 16) + 32), rfl, hf.symm, ht⟩) (fun _ h => by cases h) dd_M_kinds_88
          · have hf := hf.trans (if_pos c7)
            refine lv_bipush (v := 8) hx hb dd_M_kinds_57 (by decide) ?_
            refine lv_goto (tgt := 74) hx hb dd_M_kinds_59 (by decide) ?_
            refine lv_iadd hx hb dd_M_kinds_74 ?_
            refine lv_iload_n hx hb dd_M_kinds_75 rfl (lv_at hl 2 rfl) ?_
            refine lv_bipush (v := 13) hx hb dd_M_kinds_76 (by decide) ?_
            refine lv_icmp_lt (tgt := 86) hx hb dd_M_kinds_78 (by decide) (fun c11 => ?_) (fun c11 => ?_)
            · have hf := hf.trans (if_pos c11)
              refine lv_iconst (v := 0) hx hb dd_M_kinds_86 (by decide) ?_
              refine lv_iadd hx hb dd_M_kinds_87 ?_
              exact W.iret (v := ((0 + 8) + 0)) hx hb hr (fun t ht hW => ⟨((0 + 8) + 0), rfl, hf.symm, ht⟩) (fun _ h => by cases h) dd_M_kinds_88
            · have hf := hf.trans (if_neg c11)
              refine lv_bipush (v := 32) hx hb dd_M_kinds_81 (by decide) ?_
              refine lv_goto (tgt := 87) hx hb dd_M_kinds_83 (by decide) ?_
              refine lv_iadd hx hb dd_M_kinds_87 ?_
              exact W.iret (v := ((0 + 8) + 32)) hx hb hr (fun t ht hW => ⟨((0 + 8) + 32), rfl, hf.symm, ht⟩) (fun _ h => by cases h) dd_M_kinds_88
        · have hf := hf.trans (if_neg c6)
          refine lv_iconst (v := 2) hx hb dd_M_kinds_44 (by decide) ?_
          refine lv_goto (tgt := 49) hx hb dd_M_kinds_45 (by decide) ?_
          refine lv_istore_n (lv' := [(2, .int 2), (0, .ref h), (1, .int p0)]) hx hb dd_M_kinds_49 rfl hl (by decide) rfl (fun ls hl => ?_)
          refine lv_iload_n hx hb dd_M_kinds_50 rfl (lv_at hl 0 rfl) ?_
          refine lv_iload_n hx hb dd_M_kinds_51 rfl (lv_at hl 2 rfl) ?_
          refine lv_bipush (v := 19) hx hb dd_M_kinds_52 (by decide) ?_
          refine lv_icmp_ne (tgt := 62) hx hb dd_M_kinds_54 (by decide) (fun c12 => ?_) (fun c12 => ?_)
          · have hf := hf.trans (if_neg c12)
            refine lv_iload_n hx hb dd_M_kinds_62 rfl (lv_at hl 2 rfl) ?_
            refine lv_bipush (v := 20) hx hb dd_M_kinds_63 (by decide) ?_
            refine lv_icmp_ne (tgt := 73) hx hb dd_M_kinds_65 (by decide) (fun c13 => ?_) (fun c13 => ?_)
            · have hf := hf.trans (if_neg c13)
              refine lv_iconst (v := 0) hx hb dd_M_kinds_73 (by decide) ?_
              refine lv_iadd hx hb dd_M_kinds_74 ?_
              refine lv_iload_n hx hb dd_M_kinds_75 rfl (lv_at hl 2 rfl) ?_
              refine lv_bipush (v := 13) hx hb dd_M_kinds_76 (by decide) ?_
              refine lv_icmp_lt (tgt := 86) hx hb dd_M_kinds_78 (by decide) (fun c14 => ?_) (fun c14 => ?_)
              · have hf := hf.trans (if_pos c14)
                refine lv_iconst (v := 0) hx hb dd_M_kinds_86 (by decide) ?_
                refine lv_iadd hx hb dd_M_kinds_87 ?_
                exact W.iret (v := ((2 + 0) + 0)) hx hb hr (fun t ht hW => ⟨((2 + 0) + 0), rfl, hf.symm, ht⟩) (fun _ h => by cases h) dd_M_kinds_88
              · have hf := hf.trans (if_neg c14)
                refine lv_bipush (v := 32) hx hb dd_M_kinds_81 (by decide) ?_
                refine lv_goto (tgt := 87) hx hb dd_M_kinds_83 (by decide) ?_
                refine lv_iadd hx hb dd_M_kinds_87 ?_
                exact W.iret (v := ((2 + 0) + 32)) hx hb hr (fun t ht hW => ⟨((2 + 0) + 32), rfl, hf.symm, ht⟩) (fun _ h => by cases h) dd_M_kinds_88
            · have hf := hf.trans (if_pos c13)
              refine lv_bipush (v := 16) hx hb dd_M_kinds_68 (by decide) ?_
              refine lv_goto (tgt := 74) hx hb dd_M_kinds_70 (by decide) ?_
              refine lv_iadd hx hb dd_M_kinds_74 ?_
              refine lv_iload_n hx hb dd_M_kinds_75 rfl (lv_at hl 2 rfl) ?_
              refine lv_bipush (v := 13) hx hb dd_M_kinds_76 (by decide) ?_
              refine lv_icmp_lt (tgt := 86) hx hb dd_M_kinds_78 (by decide) (fun c15 => ?_) (fun c15 => ?_)
              · have hf := hf.trans (if_pos c15)
                refine lv_iconst (v := 0) hx hb dd_M_kinds_86 (by decide) ?_
                refine lv_iadd hx hb dd_M_kinds_87 ?_
                exact W.iret (v := ((2 + 16) + 0)) hx hb hr (fun t ht hW => ⟨((2 + 16) + 0), rfl, hf.symm, ht⟩) (fun _ h => by cases h) dd_M_kinds_88
              · have hf := hf.trans (if_neg c15)
                refine lv_bipush (v := 32) hx hb dd_M_kinds_81 (by decide) ?_
                refine lv_goto (tgt := 87) hx hb dd_M_kinds_83 (by decide) ?_
                refine lv_iadd hx hb dd_M_kinds_87 ?_
                exact W.iret (v := ((2 + 16) + 32)) hx hb hr (fun t ht hW => ⟨((2 + 16) + 32), rfl, hf.symm, ht⟩) (fun _ h => by cases h) dd_M_kinds_88
          · have hf := hf.trans (if_pos c12)
            refine lv_bipush (v := 8) hx hb dd_M_kinds_57 (by decide) ?_
            refine lv_goto (tgt := 74) hx hb dd_M_kinds_59 (by decide) ?_
            refine lv_iadd hx hb dd_M_kinds_74 ?_
            refine lv_iload_n hx hb dd_M_kinds_75 rfl (lv_at hl 2 rfl) ?_
            refine lv_bipush (v := 13) hx hb dd_M_kinds_76 (by decide) ?_
            refine lv_icmp_lt (tgt := 86) hx hb dd_M_kinds_78 (by decide) (fun c16 => ?_) (fun c16 => ?_)
            · have hf := hf.trans (if_pos c16)
              refine lv_iconst (v := 0) hx hb dd_M_kinds_86 (by decide) ?_
              refine lv_iadd hx hb dd_M_kinds_87 ?_
              exact W.iret (v := ((2 + 8) + 0)) hx hb hr (fun t ht hW => ⟨((2 + 8) + 0), rfl, hf.symm, ht⟩) (fun _ h => by cases h) dd_M_kinds_88
            · have hf := hf.trans (if_neg c16)
              refine lv_bipush (v := 32) hx hb dd_M_kinds_81 (by decide) ?_
              refine lv_goto (tgt := 87) hx hb dd_M_kinds_83 (by decide) ?_
              refine lv_iadd hx hb dd_M_kinds_87 ?_
              exact W.iret (v := ((2 + 8) + 32)) hx hb hr (fun t ht hW => ⟨((2 + 8) + 32), rfl, hf.symm, ht⟩) (fun _ h => by cases h) dd_M_kinds_88
      · have hf := hf.trans (if_neg c4)
        have hok := hok.2 c4
        refine lv_iconst (v := 1) hx hb dd_M_kinds_27 (by decide) ?_
        refine lv_goto (tgt := 49) hx hb dd_M_kinds_28 (by decide) ?_
        refine lv_istore_n (lv' := [(2, .int 1), (0, .ref h), (1, .int p0)]) hx hb dd_M_kinds_49 rfl hl (by decide) rfl (fun ls hl => ?_)
        refine lv_iload_n hx hb dd_M_kinds_50 rfl (lv_at hl 0 rfl) ?_
        refine lv_iload_n hx hb dd_M_kinds_51 rfl (lv_at hl 2 rfl) ?_
        refine lv_bipush (v := 19) hx hb dd_M_kinds_52 (by decide) ?_
        refine lv_icmp_ne (tgt := 62) hx hb dd_M_kinds_54 (by decide) (fun c17 => ?_) (fun c17 => ?_)
        · have hf := hf.trans (if_neg c17)
          refine lv_iload_n hx hb dd_M_kinds_62 rfl (lv_at hl 2 rfl) ?_
          refine lv_bipush (v := 20) hx hb dd_M_kinds_63 (by decide) ?_
          refine lv_icmp_ne (tgt := 73) hx hb dd_M_kinds_65 (by decide) (fun c18 => ?_) (fun c18 => ?_)
          · have hf := hf.trans (if_neg c18)
            refine lv_iconst (v := 0) hx hb dd_M_kinds_73 (by decide) ?_
            refine lv_iadd hx hb dd_M_kinds_74 ?_
            refine lv_iload_n hx hb dd_M_kinds_75 rfl (lv_at hl 2 rfl) ?_
            refine lv_bipush (v := 13) hx hb dd_M_kinds_76 (by decide) ?_
            refine lv_icmp_lt (tgt := 86) hx hb dd_M_kinds_78 (by decide) (fun c19 => ?_) (fun c19 => ?_)
            · have hf := hf.trans (if_pos c19)
              refine lv_iconst (v := 0) hx hb dd_M_kinds_86 (by decide) ?_
              refine lv_iadd hx hb dd_M_kinds_87 ?_
              exact W.iret (v := ((1 + 0) + 0)) hx hb hr (fun t ht hW => ⟨((1 + 0) + 0), rfl, hf.symm, ht⟩) (fun _ h => by cases h) dd_M_kinds_88
            · have hf := hf.trans (if_neg c19)
              refine lv_bipush (v := 32) hx hb dd_M_kinds_81 (by decide) ?_
              refine lv_goto (tgt := 87) hx hb dd_M_kinds_83 (by decide) ?_
              refine lv_iadd hx hb dd_M_kinds_87 ?_
              exact W.iret (v := ((1 + 0) + 32)) hx hb hr (fun t ht hW => ⟨((1 + 0) + 32), rfl, hf.symm, ht⟩) (fun _ h => by cases h) dd_M_kinds_88
          · have hf := hf.trans (if_pos c18)
            refine lv_bipush (v := 16) hx hb dd_M_kinds_68 (by decide) ?_
            refine lv_goto (tgt := 74) hx hb dd_M_kinds_70 (by decide) ?_
            refine lv_iadd hx hb dd_M_kinds_74 ?_
            refine lv_iload_n hx hb dd_M_kinds_75 rfl (lv_at hl 2 rfl) ?_
            refine lv_bipush (v := 13) hx hb dd_M_kinds_76 (by decide) ?_
            refine lv_icmp_lt (tgt := 86) hx hb dd_M_kinds_78 (by decide) (fun c20 => ?_) (fun c20 => ?_)
            · have hf := hf.trans (if_pos c20)
              refine lv_iconst (v := 0) hx hb dd_M_kinds_86 (by decide) ?_
              refine lv_iadd hx hb dd_M_kinds_87 ?_
              exact W.iret (v := ((1 + 16) + 0)) hx hb hr (fun t ht hW => ⟨((1 + 16) + 0), rfl, hf.symm, ht⟩) (fun _ h => by cases h) dd_M_kinds_88
            · have hf := hf.trans (if_neg c20)
              refine lv_bipush (v := 32) hx hb dd_M_kinds_81 (by decide) ?_
              refine lv_goto (tgt := 87) hx hb dd_M_kinds_83 (by decide) ?_
              refine lv_iadd hx hb dd_M_kinds_87 ?_
              exact W.iret (v := ((1 + 16) + 32)) hx hb hr (fun t ht hW => ⟨((1 + 16) + 32), rfl, hf.symm, ht⟩) (fun _ h => by cases h) dd_M_kinds_88
        · have hf := hf.trans (if_pos c17)
          refine lv_bipush (v := 8) hx hb dd_M_kinds_57 (by decide) ?_
          refine lv_goto (tgt := 74) hx hb dd_M_kinds_59 (by decide) ?_
          refine lv_iadd hx hb dd_M_kinds_74 ?_
          refine lv_iload_n hx hb dd_M_kinds_75 rfl (lv_at hl 2 rfl) ?_
          refine lv_bipush (v := 13) hx hb dd_M_kinds_76 (by decide) ?_
          refine lv_icmp_lt (tgt := 86) hx hb dd_M_kinds_78 (by decide) (fun c21 => ?_) (fun c21 => ?_)
          · have hf := hf.trans (if_pos c21)
            refine lv_iconst (v := 0) hx hb dd_M_kinds_86 (by decide) ?_
            refine lv_iadd hx hb dd_M_kinds_87 ?_
            exact W.iret (v := ((1 + 8) + 0)) hx hb hr (fun t ht hW => ⟨((1 + 8) + 0), rfl, hf.symm, ht⟩) (fun _ h => by cases h) dd_M_kinds_88
          · have hf := hf.trans (if_neg c21)
            refine lv_bipush (v := 32) hx hb dd_M_kinds_81 (by decide) ?_
            refine lv_goto (tgt := 87) hx hb dd_M_kinds_83 (by decide) ?_
            refine lv_iadd hx hb dd_M_kinds_87 ?_
            exact W.iret (v := ((1 + 8) + 32)) hx hb hr (fun t ht hW => ⟨((1 + 8) + 32), rfl, hf.symm, ht⟩) (fun _ h => by cases h) dd_M_kinds_88
    · have hf := hf.trans (if_neg c3)
      have hok := hok.2 c3
      refine lv_iconst (v := 4) hx hb dd_M_kinds_19 (by decide) ?_
      exact W.iret (v := (4 : Int32)) hx hb hr (fun t ht hW => ⟨(4 : Int32), rfl, hf.symm, ht⟩) (fun _ h => by cases h) dd_M_kinds_20
  · have hf := hf.trans (if_neg c1)
    have hok := hok.2 c1
    refine lv_iconst (v := (-1)) hx hb dd_M_kinds_8 (by decide) ?_
    exact W.iret (v := ((-1) : Int32)) hx hb hr (fun t ht hW => ⟨((-1) : Int32), rfl, hf.symm, ht⟩) (fun _ h => by cases h) dd_M_kinds_9
end
section
def ff_M_letter (u0 : SM) (p0 : Int32) : SM := m_u_wr (m_u_out u0 (m_wr u0) p0) ((m_wr (m_u_out u0 (m_wr u0) p0)) + 1)
def ok_M_letter (u0 : SM) (p0 : Int32) : Prop := vp_in (m_wr u0) 900
abbrev ws_M_letter : List Cond := .code yy_M_letter bb_M_letter 2 (none) :: gW
abbrev rm_M_letter : Room := { frames := 0, cells := 0, slots := 0, locals := 0 }
set_option maxHeartbeats 4000000 in
set_option maxRecDepth 100000 in
theorem mm_M_letter (l : Launch) (dC : Nat → ClassId) (dI : Nat → Nat → Nat) (h : Nat) (a : Nat → Nat) (k : Nat → ClassId) (u0 : SM) (p0 : Int32) (hok : ok_M_letter u0 p0) : Met l yy_M_letter ws_M_letter rm_M_letter (va_Pc [.ref h, .int p0] (pM dC dI h a k u0)) (va_Qv (fun v : SM => v = ff_M_letter u0 p0) (pM dC dI h a k) (aM h a)) 0 0 (aM h a) := by
  refine Met.ofW (cc := bb_M_letter) (maxL := 2) (ret := (none)) (by decide) rfl ?_
  intro p e s m args below meth c s₁ B hml hv
  obtain ⟨rfl, hP, hK, hD⟩ := hv
  have hx := B.exec
  have hb := B.bytes
  have hr := B.returns
  have hts : ∀ w ∈ gW, w.before _ s = true := fun w h => atoms_spec (ws := ws_M_letter) B.pre w (List.mem_cons_of_mem _ h)
  have hown : s.vm.findClass "ClassObjectMirrorModel" = some m.cls := findClass_of_methodNamed B.named
  have hlocks := B.notSynchronized
  have hS : va_S (aM h a) s.heap s.heap [] := va_S.rf
  have hl := lv_entry ([.ref h, .int p0]) (n := 2) (Nat.le_of_ble_eq_true rfl)
  rw [lg_entry_eq]
  generalize (lg_sl ([.ref h, .int p0]) ++ List.replicate (2 - (lg_sl ([.ref h, .int p0])).length) Slot.unset).toArray = ls at hl ⊢
  have hl : lv_has ls 2 [(0, .ref h), (1, .int p0)] := hl
  have hf := ff_M_letter.eq_1 u0 p0
  unfold ok_M_letter at hok
  refine lv_aload_n hx hb dd_M_letter_0 rfl (lv_at hl 0 rfl) ?_
  refine va_get (D := (dC, dI)) (ci := 0) (v := .ref (a 8)) (C := "ClassObjectMirrorModel") (T := TM) (N := 12) hx hb hts inM hown hK hP 0 rfl rfl 10 (by decide) (hts _ gw_311) (fun _ h9 => h9) rfl dd_M_letter_1 ?_
  refine lv_aload_n hx hb dd_M_letter_4 rfl (lv_at hl 0 rfl) ?_
  refine va_get (D := (dC, dI)) (ci := 0) (v := .int (m_wr u0)) (C := "ClassObjectMirrorModel") (T := TM) (N := 12) hx hb hts inM hown hK hP 0 rfl rfl 11 (by decide) (hts _ gw_312) (fun _ h9 => h9) rfl dd_M_letter_5 ?_
  refine lv_iload_n hx hb dd_M_letter_8 rfl (lv_at hl 1 rfl) ?_
  have n1 := hok
  refine va_iast hx hb hK hP hD hS 9 8 rfl rfl n1 dd_M_letter_9 (fun H locs hP hD hS => ?_)
  have hP : va_P (dC, dI) cls_l (wM h a k (m_u_out u0 (m_wr u0) p0)) H := hP
  have hD : va_D (aM h a) (wM h a k (m_u_out u0 (m_wr u0) p0)) := hD
  refine lv_aload_n hx hb dd_M_letter_10 rfl (lv_at hl 0 rfl) ?_
  refine lv_dup hx hb dd_M_letter_11 rfl ?_
  refine va_get (D := (dC, dI)) (ci := 0) (v := .int (m_wr (m_u_out u0 (m_wr u0) p0))) (C := "ClassObjectMirrorModel") (T := TM) (N := 12) hx hb hts inM hown hK hP 0 rfl rfl 11 (by decide) (hts _ gw_312) (fun _ h9 => h9) rfl dd_M_letter_12 ?_
  refine lv_iconst (v := 1) hx hb dd_M_letter_15 (by decide) ?_
  refine lv_iadd hx hb dd_M_letter_16 ?_
  refine va_put (D := (dC, dI)) (ci := 0) (v := .int ((m_wr (m_u_out u0 (m_wr u0) p0)) + 1)) (ty := .int) (C := "ClassObjectMirrorModel") (T := TM) (N := 12) hx hb hts inM tyM tyM_ok nmM hown hK hP hD hS 0 rfl rfl 11 (by decide) (hts _ gw_312) (fun _ h9 => h9) rfl (by decide +kernel) rfl rfl (Nat.le_of_ble_eq_true rfl) dd_M_letter_17 (fun H locs hP hD hS => ?_)
  have hP : va_P (dC, dI) cls_l (wM h a k (m_u_wr (m_u_out u0 (m_wr u0) p0) ((m_wr (m_u_out u0 (m_wr u0) p0)) + 1))) H := hP
  have hD : va_D (aM h a) (wM h a k (m_u_wr (m_u_out u0 (m_wr u0) p0) ((m_wr (m_u_out u0 (m_wr u0) p0)) + 1))) := hD
  exact W.vret hx hb hr (fun t ht hW => ⟨⟨m_u_wr (m_u_out u0 (m_wr u0) p0) ((m_wr (m_u_out u0 (m_wr u0) p0)) + 1), rfl, hf.symm, pM_up hP hK hD ht hW⟩, hS.F ht⟩) hS.2.2 dd_M_letter_20

def fl_M_word_21 : Nat → SM → Int64 → Int64 → SM
  | 0, u, _, _ => u
  | n + 1, u, x1, x3 => (if (lg_cmp x3 0) ≤ 0 then u else fl_M_word_21 n (ff_M_letter u (((x1 / x3) - (x1 / x3) / 128 * 128).toInt32)) x1 (x3 / 128))
def okl_M_word_21 : Nat → SM → Int64 → Int64 → Prop
  | 0, _, _, _ => False
  | n + 1, u, x1, x3 => ((((lg_cmp x3 0) ≤ 0) → True) ∧ (¬ ((lg_cmp x3 0) ≤ 0) → (¬ x3 = 0) ∧ (ok_M_letter u (((x1 / x3) - (x1 / x3) / 128 * 128).toInt32)) ∧ okl_M_word_21 n (ff_M_letter u (((x1 / x3) - (x1 / x3) / 128 * 128).toInt32)) x1 (x3 / 128)))
def fl_M_word_2 : Nat → SM → Int64 → Int64 → SM
  | 0, u, _, _ => u
  | n + 1, u, x1, x3 => (if (lg_cmp (x1 / x3) 128) < 0 then fl_M_word_21 12 u x1 x3 else fl_M_word_2 n u x1 (x3 * 128))
def okl_M_word_2 : Nat → SM → Int64 → Int64 → Prop
  | 0, _, _, _ => False
  | n + 1, u, x1, x3 => (¬ x3 = 0) ∧ ((((lg_cmp (x1 / x3) 128) < 0) → okl_M_word_21 12 u x1 x3) ∧ (¬ ((lg_cmp (x1 / x3) 128) < 0) → okl_M_word_2 n u x1 (x3 * 128)))
def ff_M_word (u0 : SM) (p0 : Int64) : SM := fl_M_word_2 12 u0 p0 (1 : Int64)
def ok_M_word (u0 : SM) (p0 : Int64) : Prop := okl_M_word_2 12 u0 p0 (1 : Int64)
abbrev ws_M_word : List Cond := .code yy_M_word bb_M_word 5 (none) :: gW
abbrev rm_M_word : Room := { frames := 1, cells := 0, slots := 0, locals := 21 }
set_option maxHeartbeats 4000000 in
set_option maxRecDepth 100000 in
theorem mm_M_word (l : Launch) (dC : Nat → ClassId) (dI : Nat → Nat → Nat) (h : Nat) (a : Nat → Nat) (k : Nat → ClassId) (u0 : SM) (p0 : Int64) (hok : ok_M_word u0 p0) : Met l yy_M_word ws_M_word rm_M_word (va_Pc [.ref h, .long p0] (pM dC dI h a k u0)) (va_Qv (fun v : SM => v = ff_M_word u0 p0) (pM dC dI h a k) (aM h a)) 0 0 (aM h a) := by
  refine Met.ofW (cc := bb_M_word) (maxL := 5) (ret := (none)) (by decide) rfl ?_
  intro p e s m args below meth c s₁ B hml hv
  obtain ⟨rfl, hP, hK, hD⟩ := hv
  have hx := B.exec
  have hb := B.bytes
  have hr := B.returns
  have hts : ∀ w ∈ gW, w.before _ s = true := fun w h => atoms_spec (ws := ws_M_word) B.pre w (List.mem_cons_of_mem _ h)
  have hown : s.vm.findClass "ClassObjectMirrorModel" = some m.cls := findClass_of_methodNamed B.named
  have hlocks := B.notSynchronized
  have hS : va_S (aM h a) s.heap s.heap [] := va_S.rf
  have hl := lv_entry ([.ref h, .long p0]) (n := 5) (Nat.le_of_ble_eq_true rfl)
  rw [lg_entry_eq]
  generalize (lg_sl ([.ref h, .long p0]) ++ List.replicate (5 - (lg_sl ([.ref h, .long p0])).length) Slot.unset).toArray = ls at hl ⊢
  have hl : lv_has ls 5 [(0, .ref h), (1, .long p0)] := hl
  have hf := ff_M_word.eq_1 u0 p0
  unfold ok_M_word at hok
  refine lv_lconst (v := 1) hx hb dd_M_word_0 (by decide) ?_
  refine lv_lstore_n (lv' := [(3, .long 1), (0, .ref h), (1, .long p0)]) hx hb dd_M_word_1 rfl hl (by decide) rfl (fun ls hl => ?_)
  have loop_2 : ∀ (n : Nat) (u : SM) (H : Heap) (locs : List Loc) (x1 : Int64) (x3 : Int64) (ls : Array Slot), okl_M_word_2 n u x1 x3 → ff_M_word u0 p0 = fl_M_word_2 n u x1 x3 → va_P (dC, dI) cls_l (wM h a k u) H → va_D (aM h a) (wM h a k u) → va_S (aM h a) s.heap H locs → lv_has ls 5 [(0, .ref h), (1, .long x1), (3, .long x3)] → W p l e (headSpec ws_M_word rm_M_word).room s m ([.ref h, .long p0] : List Value).toArray below meth c H locs 0 0 (MQ below (va_Qv (fun v : SM => v = ff_M_word u0 p0) (pM dC dI h a k) (aM h a)) ([.ref h, .long p0] : List Value).toArray s 0 0 (aM h a)) (F0 m 2 ls []) := by
    intro n
    induction n with
    | zero => intro u H locs x1 x3 ls hok; exact (show False from hok).elim
    | succ n ih =>
      intro u H locs x1 x3 ls hok hf hP hD hS hl
      rw [fl_M_word_2] at hf
      rw [okl_M_word_2] at hok
      refine lv_lload_n hx hb dd_M_word_2 rfl (lv_at hl 1 rfl) ?_
      refine lv_lload_n hx hb dd_M_word_3 rfl (lv_at hl 2 rfl) ?_
      obtain ⟨n1, hok⟩ := hok
      refine lv_ldiv hx hb dd_M_word_4 n1 ?_
      refine lv_ldc2 (v := 128) hx hb hown (hts _ gw_409) dd_M_word_5 ?_
      refine W.lcmp hx hb dd_M_word_8 ?_
      refine lv_if_lt (tgt := 21) hx hb dd_M_word_9 (by decide) (fun c2 => ?_) (fun c2 => ?_)
      · have hf := hf.trans (if_pos c2)
        have hok := hok.1 c2
        have loop_21 : ∀ (n : Nat) (u : SM) (H : Heap) (locs : List Loc) (x1 : Int64) (x3 : Int64) (ls : Array Slot), okl_M_word_21 n u x1 x3 → ff_M_word u0 p0 = fl_M_word_21 n u x1 x3 → va_P (dC, dI) cls_l (wM h a k u) H → va_D (aM h a) (wM h a k u) → va_S (aM h a) s.heap H locs → lv_has ls 5 [(0, .ref h), (1, .long x1), (3, .long x3)] → W p l e (headSpec ws_M_word rm_M_word).room s m ([.ref h, .long p0] : List Value).toArray below meth c H locs 0 0 (MQ below (va_Qv (fun v : SM => v = ff_M_word u0 p0) (pM dC dI h a k) (aM h a)) ([.ref h, .long p0] : List Value).toArray s 0 0 (aM h a)) (F0 m 21 ls []) := by
          intro n
          induction n with
          | zero => intro u H locs x1 x3 ls hok; exact (show False from hok).elim
          | succ n ih =>
            intro u H locs x1 x3 ls hok hf hP hD hS hl
            rw [fl_M_word_21] at hf
            rw [okl_M_word_21] at hok
            refine lv_lload_n hx hb dd_M_word_21 rfl (lv_at hl 2 rfl) ?_
            refine lv_lconst (v := 0) hx hb dd_M_word_22 (by decide) ?_
            refine W.lcmp hx hb dd_M_word_23 ?_
            refine lv_if_le (tgt := 48) hx hb dd_M_word_24 (by decide) (fun c3 => ?_) (fun c3 => ?_)
            · have hf := hf.trans (if_pos c3)
              have hok := hok.1 c3
              exact W.vret hx hb hr (fun t ht hW => ⟨⟨u, rfl, hf.symm, pM_up hP hK hD ht hW⟩, hS.F ht⟩) hS.2.2 dd_M_word_48
            · have hf := hf.trans (if_neg c3)
              have hok := hok.2 c3
              refine lv_aload_n hx hb dd_M_word_27 rfl (lv_at hl 0 rfl) ?_
              refine lv_lload_n hx hb dd_M_word_28 rfl (lv_at hl 1 rfl) ?_
              refine lv_lload_n hx hb dd_M_word_29 rfl (lv_at hl 2 rfl) ?_
              obtain ⟨n4, hok⟩ := hok
              refine lv_ldiv hx hb dd_M_word_30 n4 ?_
              refine lv_ldc2 (v := 128) hx hb hown (hts _ gw_409) dd_M_word_31 ?_
              refine lv_lrem hx hb dd_M_word_34 (by decide) ?_
              refine lv_l2i (v := ((x1 / x3) - (x1 / x3) / 128 * 128).toInt32) hx hb dd_M_word_35 rfl ?_
              obtain ⟨n5, hok⟩ := hok
              refine va_callv (va_runV (As := [.int (((x1 / x3) - (x1 / x3) / 128 * 128).toInt32)]) (rest := []) ⟨hx, hb, hml, hown, hts⟩ (mm_M_letter l dC dI h a k u (((x1 / x3) - (x1 / x3) / 128 * 128).toInt32) n5) (cwV 1 hts (gg_V gw_393 gw_395 gs_24 gw_2 gw_396) rfl rfl rfl (by decide +kernel) ⟨Nat.le_of_ble_eq_true rfl, Nat.le_of_ble_eq_true rfl⟩) ⟨pM_bl, va_recv hK hP (ci := 0) (q0 := 0) rfl rfl, fun U hU hW => ⟨rfl, pM_up hP hK hD hU hW⟩⟩ rfl rfl hl.1 rfl (lv_room (Nat.le_of_ble_eq_true rfl)) dd_M_word_36 ⟨Nat.zero_le _, Nat.zero_le _⟩) hS (fun q _ h => h) (fun q h => h) (fun v9 t9 H locs ht9 hvm9 hw9 hB9 hz9 hk9 hS => ?_)
              subst hw9
              obtain ⟨hP, -, hD⟩ := hB9
              rw [ht9] at hP
              refine lv_lload_n hx hb dd_M_word_39 rfl (lv_at hl 2 rfl) ?_
              refine lv_ldc2 (v := 128) hx hb hown (hts _ gw_409) dd_M_word_40 ?_
              refine lv_ldiv hx hb dd_M_word_43 (by decide) ?_
              refine lv_lstore_n (lv' := [(3, .long (x3 / 128)), (0, .ref h), (1, .long x1)]) hx hb dd_M_word_44 rfl hl (by decide) rfl (fun ls hl => ?_)
              refine lv_goto (tgt := 21) hx hb dd_M_word_45 (by decide) ?_
              exact ih (ff_M_letter u (((x1 / x3) - (x1 / x3) / 128 * 128).toInt32)) _ _ x1 (x3 / 128) ls hok hf hP hD hS (lv_sub hl [1, 2, 0] rfl)
        exact loop_21 12 u _ _ x1 x3 ls hok hf hP hD hS (lv_sub hl [0, 1, 2] rfl)
      · have hf := hf.trans (if_neg c2)
        have hok := hok.2 c2
        refine lv_lload_n hx hb dd_M_word_12 rfl (lv_at hl 2 rfl) ?_
        refine lv_ldc2 (v := 128) hx hb hown (hts _ gw_409) dd_M_word_13 ?_
        refine lv_lmul hx hb dd_M_word_16 ?_
        refine lv_lstore_n (lv' := [(3, .long (x3 * 128)), (0, .ref h), (1, .long x1)]) hx hb dd_M_word_17 rfl hl (by decide) rfl (fun ls hl => ?_)
        refine lv_goto (tgt := 2) hx hb dd_M_word_18 (by decide) ?_
        exact ih u _ _ x1 (x3 * 128) ls hok hf hP hD hS (lv_sub hl [1, 2, 0] rfl)
  exact loop_2 12 u0 _ _ p0 (1 : Int64) ls hok hf hP hD hS (lv_sub hl [1, 2, 0] rfl)

def ff_M_simple (u0 : SM) (p0 : Int32) : SM := (if p0 = 0 then ff_M_word u0 (434852513542382 : Int64) else (if p0 = 1 then ff_M_word u0 (207518309 : Int64) else (if p0 = 2 then ff_M_word u0 (209334514 : Int64) else (if p0 = 3 then ff_M_word u0 (31090014580 : Int64) else (if p0 = 4 then ff_M_word u0 (1734516 : Int64) else (if p0 = 5 then ff_M_word u0 (228325223 : Int64) else (if p0 = 6 then ff_M_word u0 (27608740084 : Int64) else (if p0 = 7 then ff_M_word u0 (3466017158757 : Int64) else (if p0 = 8 then ff_M_word u0 (249296100 : Int64) else (if p0 = 9 then ff_M_word u0 (2740949971444 : Int64) else (if p0 = 10 then ff_M_word (ff_M_word u0 (38196479574700396 : Int64)) (101 : Int64) else (if p0 = 11 then ff_M_word (ff_M_word u0 (47172994232694010 : Int64)) (205043301 : Int64) else (if p0 = 12 then ff_M_word u0 (2883237607271 : Int64) else (if p0 = 13 then ff_M_word u0 (22499850341 : Int64) else (if p0 = 14 then ff_M_word u0 (21143188196 : Int64) else (if p0 = 15 then ff_M_word u0 (140016101 : Int64) else (if p0 = 16 then ff_M_word u0 (2330528904805 : Int64) else (if p0 = 17 then ff_M_word u0 (2882438461797 : Int64) else (if p0 = 18 then ff_M_word u0 (177895013 : Int64) else (if p0 = 19 then ff_M_word u0 (18219743218 : Int64) else (if p0 = 20 then ff_M_word u0 (21709354868 : Int64) else ff_M_word u0 (2503925641970 : Int64))))))))))))))))))))))
def ok_M_simple (u0 : SM) (p0 : Int32) : Prop := (((p0 = 0) → ok_M_word u0 (434852513542382 : Int64)) ∧ (¬ (p0 = 0) → (((p0 = 1) → ok_M_word u0 (207518309 : Int64)) ∧ (¬ (p0 = 1) → (((p0 = 2) → ok_M_word u0 (209334514 : Int64)) ∧ (¬ (p0 = 2) → (((p0 = 3) → ok_M_word u0 (31090014580 : Int64)) ∧ (¬ (p0 = 3) → (((p0 = 4) → ok_M_word u0 (1734516 : Int64)) ∧ (¬ (p0 = 4) → (((p0 = 5) → ok_M_word u0 (228325223 : Int64)) ∧ (¬ (p0 = 5) → (((p0 = 6) → ok_M_word u0 (27608740084 : Int64)) ∧ (¬ (p0 = 6) → (((p0 = 7) → ok_M_word u0 (3466017158757 : Int64)) ∧ (¬ (p0 = 7) → (((p0 = 8) → ok_M_word u0 (249296100 : Int64)) ∧ (¬ (p0 = 8) → (((p0 = 9) → ok_M_word u0 (2740949971444 : Int64)) ∧ (¬ (p0 = 9) → (((p0 = 10) → (ok_M_word u0 (38196479574700396 : Int64)) ∧ ok_M_word (ff_M_word u0 (38196479574700396 : Int64)) (101 : Int64)) ∧ (¬ (p0 = 10) → (((p0 = 11) → (ok_M_word u0 (47172994232694010 : Int64)) ∧ ok_M_word (ff_M_word u0 (47172994232694010 : Int64)) (205043301 : Int64)) ∧ (¬ (p0 = 11) → (((p0 = 12) → ok_M_word u0 (2883237607271 : Int64)) ∧ (¬ (p0 = 12) → (((p0 = 13) → ok_M_word u0 (22499850341 : Int64)) ∧ (¬ (p0 = 13) → (((p0 = 14) → ok_M_word u0 (21143188196 : Int64)) ∧ (¬ (p0 = 14) → (((p0 = 15) → ok_M_word u0 (140016101 : Int64)) ∧ (¬ (p0 = 15) → (((p0 = 16) → ok_M_word u0 (2330528904805 : Int64)) ∧ (¬ (p0 = 16) → (((p0 = 17) → ok_M_word u0 (2882438461797 : Int64)) ∧ (¬ (p0 = 17) → (((p0 = 18) → ok_M_word u0 (177895013 : Int64)) ∧ (¬ (p0 = 18) → (((p0 = 19) → ok_M_word u0 (18219743218 : Int64)) ∧ (¬ (p0 = 19) → (((p0 = 20) → ok_M_word u0 (21709354868 : Int64)) ∧ (¬ (p0 = 20) → ok_M_word u0 (2503925641970 : Int64)))))))))))))))))))))))))))))))))))))))))))
abbrev ws_M_simple : List Cond := .code yy_M_simple bb_M_simple 2 (none) :: gW
abbrev rm_M_simple : Room := { frames := 2, cells := 0, slots := 0, locals := 45 }
set_option maxHeartbeats 4000000 in
set_option maxRecDepth 100000 in
theorem mm_M_simple (l : Launch) (dC : Nat → ClassId) (dI : Nat → Nat → Nat) (h : Nat) (a : Nat → Nat) (k : Nat → ClassId) (u0 : SM) (p0 : Int32) (hok : ok_M_simple u0 p0) : Met l yy_M_simple ws_M_simple rm_M_simple (va_Pc [.ref h, .int p0] (pM dC dI h a k u0)) (va_Qv (fun v : SM => v = ff_M_simple u0 p0) (pM dC dI h a k) (aM h a)) 0 0 (aM h a) := by
  refine Met.ofW (cc := bb_M_simple) (maxL := 2) (ret := (none)) (by decide) rfl ?_
  intro p e s m args below meth c s₁ B hml hv
  obtain ⟨rfl, hP, hK, hD⟩ := hv
  have hx := B.exec
  have hb := B.bytes
  have hr := B.returns
  have hts : ∀ w ∈ gW, w.before _ s = true := fun w h => atoms_spec (ws := ws_M_simple) B.pre w (List.mem_cons_of_mem _ h)
  have hown : s.vm.findClass "ClassObjectMirrorModel" = some m.cls := findClass_of_methodNamed B.named
  have hlocks := B.notSynchronized
  have hS : va_S (aM h a) s.heap s.heap [] := va_S.rf
  have hl := lv_entry ([.ref h, .int p0]) (n := 2) (Nat.le_of_ble_eq_true rfl)
  rw [lg_entry_eq]
  generalize (lg_sl ([.ref h, .int p0]) ++ List.replicate (2 - (lg_sl ([.ref h, .int p0])).length) Slot.unset).toArray = ls at hl ⊢
  have hl : lv_has ls 2 [(0, .ref h), (1, .int p0)] := hl
  have hf := ff_M_simple.eq_1 u0 p0
  unfold ok_M_simple at hok
  refine lv_iload_n hx hb dd_M_simple_0 rfl (lv_at hl 1 rfl) ?_
  by_cases c1 : p0 = 0
  · have hf := hf.trans (if_pos c1)
    have hok := hok.1 c1
    refine lv_tableIn (off := 99) (tgt := 100) hx hb dd_M_simple_1 (by rw [c1]; decide) (by rw [c1]; decide) (by rw [c1]; decide) (by decide) ?_
    refine lv_aload_n hx hb dd_M_simple_100 rfl (lv_at hl 0 rfl) ?_
    refine lv_ldc2 (v := 434852513542382) hx hb hown (hts _ gw_419) dd_M_simple_101 ?_
    have n45 := hok
    refine va_callv (va_runV (As := [.long 434852513542382]) (rest := []) ⟨hx, hb, hml, hown, hts⟩ (mm_M_word l dC dI h a k u0 (434852513542382 : Int64) n45) (cwV 1 hts (gg_V gw_405 gw_407 gs_26 gw_2 gw_408) rfl rfl rfl (by decide +kernel) ⟨Nat.le_of_ble_eq_true rfl, Nat.le_of_ble_eq_true rfl⟩) ⟨pM_bl, va_recv hK hP (ci := 0) (q0 := 0) rfl rfl, fun U hU hW => ⟨rfl, pM_up hP hK hD hU hW⟩⟩ rfl rfl hl.1 rfl (lv_room (Nat.le_of_ble_eq_true rfl)) dd_M_simple_104 ⟨Nat.zero_le _, Nat.zero_le _⟩) hS (fun q _ h => h) (fun q h => h) (fun v9 t9 H locs ht9 hvm9 hw9 hB9 hz9 hk9 hS => ?_)
    subst hw9
    obtain ⟨hP, -, hD⟩ := hB9
    rw [ht9] at hP
    refine lv_goto (tgt := 331) hx hb dd_M_simple_107 (by decide) ?_
    exact W.vret hx hb hr (fun t ht hW => ⟨⟨ff_M_word u0 (434852513542382 : Int64), rfl, hf.symm, pM_up hP hK hD ht hW⟩, hS.F ht⟩) hS.2.2 dd_M_simple_331
  · have hf := hf.trans (if_neg c1)
    have hok := hok.2 c1
    by_cases c2 : p0 = 1
    · have hf := hf.trans (if_pos c2)
      have hok := hok.1 c2
      refine lv_tableIn (off := 109) (tgt := 110) hx hb dd_M_simple_1 (by rw [c2]; decide) (by rw [c2]; decide) (by rw [c2]; decide) (by decide) ?_
      refine lv_aload_n hx hb dd_M_simple_110 rfl (lv_at hl 0 rfl) ?_
      refine lv_ldc2 (v := 207518309) hx hb hown (hts _ gw_420) dd_M_simple_111 ?_
      have n44 := hok
      refine va_callv (va_runV (As := [.long 207518309]) (rest := []) ⟨hx, hb, hml, hown, hts⟩ (mm_M_word l dC dI h a k u0 (207518309 : Int64) n44) (cwV 1 hts (gg_V gw_405 gw_407 gs_26 gw_2 gw_408) rfl rfl rfl (by decide +kernel) ⟨Nat.le_of_ble_eq_true rfl, Nat.le_of_ble_eq_true rfl⟩) ⟨pM_bl, va_recv hK hP (ci := 0) (q0 := 0) rfl rfl, fun U hU hW => ⟨rfl, pM_up hP hK hD hU hW⟩⟩ rfl rfl hl.1 rfl (lv_room (Nat.le_of_ble_eq_true rfl)) dd_M_simple_114 ⟨Nat.zero_le _, Nat.zero_le _⟩) hS (fun q _ h => h) (fun q h => h) (fun v9 t9 H locs ht9 hvm9 hw9 hB9 hz9 hk9 hS => ?_)
      subst hw9
      obtain ⟨hP, -, hD⟩ := hB9
      rw [ht9] at hP
      refine lv_goto (tgt := 331) hx hb dd_M_simple_117 (by decide) ?_
      exact W.vret hx hb hr (fun t ht hW => ⟨⟨ff_M_word u0 (207518309 : Int64), rfl, hf.symm, pM_up hP hK hD ht hW⟩, hS.F ht⟩) hS.2.2 dd_M_simple_331
    · have hf := hf.trans (if_neg c2)
      have hok := hok.2 c2
      by_cases c3 : p0 = 2
      · have hf := hf.trans (if_pos c3)
        have hok := hok.1 c3
        refine lv_tableIn (off := 119) (tgt := 120) hx hb dd_M_simple_1 (by rw [c3]; decide) (by rw [c3]; decide) (by rw [c3]; decide) (by decide) ?_
        refine lv_aload_n hx hb dd_M_simple_120 rfl (lv_at hl 0 rfl) ?_
        refine lv_ldc2 (v := 209334514) hx hb hown (hts _ gw_421) dd_M_simple_121 ?_
        have n43 := hok
        refine va_callv (va_runV (As := [.long 209334514]) (rest := []) ⟨hx, hb, hml, hown, hts⟩ (mm_M_word l dC dI h a k u0 (209334514 : Int64) n43) (cwV 1 hts (gg_V gw_405 gw_407 gs_26 gw_2 gw_408) rfl rfl rfl (by decide +kernel) ⟨Nat.le_of_ble_eq_true rfl, Nat.le_of_ble_eq_true rfl⟩) ⟨pM_bl, va_recv hK hP (ci := 0) (q0 := 0) rfl rfl, fun U hU hW => ⟨rfl, pM_up hP hK hD hU hW⟩⟩ rfl rfl hl.1 rfl (lv_room (Nat.le_of_ble_eq_true rfl)) dd_M_simple_124 ⟨Nat.zero_le _, Nat.zero_le _⟩) hS (fun q _ h => h) (fun q h => h) (fun v9 t9 H locs ht9 hvm9 hw9 hB9 hz9 hk9 hS => ?_)
        subst hw9
        obtain ⟨hP, -, hD⟩ := hB9
        rw [ht9] at hP
        refine lv_goto (tgt := 331) hx hb dd_M_simple_127 (by decide) ?_
        exact W.vret hx hb hr (fun t ht hW => ⟨⟨ff_M_word u0 (209334514 : Int64), rfl, hf.symm, pM_up hP hK hD ht hW⟩, hS.F ht⟩) hS.2.2 dd_M_simple_331
      · have hf := hf.trans (if_neg c3)
        have hok := hok.2 c3
        by_cases c4 : p0 = 3
        · have hf := hf.trans (if_pos c4)
          have hok := hok.1 c4
          refine lv_tableIn (off := 129) (tgt := 130) hx hb dd_M_simple_1 (by rw [c4]; decide) (by rw [c4]; decide) (by rw [c4]; decide) (by decide) ?_
          refine lv_aload_n hx hb dd_M_simple_130 rfl (lv_at hl 0 rfl) ?_
          refine lv_ldc2 (v := 31090014580) hx hb hown (hts _ gw_422) dd_M_simple_131 ?_
          have n42 := hok
          refine va_callv (va_runV (As := [.long 31090014580]) (rest := []) ⟨hx, hb, hml, hown, hts⟩ (mm_M_word l dC dI h a k u0 (31090014580 : Int64) n42) (cwV 1 hts (gg_V gw_405 gw_407 gs_26 gw_2 gw_408) rfl rfl rfl (by decide +kernel) ⟨Nat.le_of_ble_eq_true rfl, Nat.le_of_ble_eq_true rfl⟩) ⟨pM_bl, va_recv hK hP (ci := 0) (q0 := 0) rfl rfl, fun U hU hW => ⟨rfl, pM_up hP hK hD hU hW⟩⟩ rfl rfl hl.1 rfl (lv_room (Nat.le_of_ble_eq_true rfl)) dd_M_simple_134 ⟨Nat.zero_le _, Nat.zero_le _⟩) hS (fun q _ h => h) (fun q h => h) (fun v9 t9 H locs ht9 hvm9 hw9 hB9 hz9 hk9 hS => ?_)
          subst hw9
          obtain ⟨hP, -, hD⟩ := hB9
          rw [ht9] at hP
          refine lv_goto (tgt := 331) hx hb dd_M_simple_137 (by decide) ?_
          exact W.vret hx hb hr (fun t ht hW => ⟨⟨ff_M_word u0 (31090014580 : Int64), rfl, hf.symm, pM_up hP hK hD ht hW⟩, hS.F ht⟩) hS.2.2 dd_M_simple_331
        · have hf := hf.trans (if_neg c4)
          have hok := hok.2 c4
          by_cases c5 : p0 = 4
          · have hf := hf.trans (if_pos c5)
            have hok := hok.1 c5
            refine lv_tableIn (off := 139) (tgt := 140) hx hb dd_M_simple_1 (by rw [c5]; decide) (by rw [c5]; decide) (by rw [c5]; decide) (by decide) ?_
            refine lv_aload_n hx hb dd_M_simple_140 rfl (lv_at hl 0 rfl) ?_
            refine lv_ldc2 (v := 1734516) hx hb hown (hts _ gw_423) dd_M_simple_141 ?_
            have n41 := hok
            refine va_callv (va_runV (As := [.long 1734516]) (rest := []) ⟨hx, hb, hml, hown, hts⟩ (mm_M_word l dC dI h a k u0 (1734516 : Int64) n41) (cwV 1 hts (gg_V gw_405 gw_407 gs_26 gw_2 gw_408) rfl rfl rfl (by decide +kernel) ⟨Nat.le_of_ble_eq_true rfl, Nat.le_of_ble_eq_true rfl⟩) ⟨pM_bl, va_recv hK hP (ci := 0) (q0 := 0) rfl rfl, fun U hU hW => ⟨rfl, pM_up hP hK hD hU hW⟩⟩ rfl rfl hl.1 rfl (lv_room (Nat.le_of_ble_eq_true rfl)) dd_M_simple_144 ⟨Nat.zero_le _, Nat.zero_le _⟩) hS (fun q _ h => h) (fun q h => h) (fun v9 t9 H locs ht9 hvm9 hw9 hB9 hz9 hk9 hS => ?_)
            subst hw9
            obtain ⟨hP, -, hD⟩ := hB9
            rw [ht9] at hP
            refine lv_goto (tgt := 331) hx hb dd_M_simple_147 (by decide) ?_
            exact W.vret hx hb hr (fun t ht hW => ⟨⟨ff_M_word u0 (1734516 : Int64), rfl, hf.symm, pM_up hP hK hD ht hW⟩, hS.F ht⟩) hS.2.2 dd_M_simple_331
          · have hf := hf.trans (if_neg c5)
            have hok := hok.2 c5
            by_cases c6 : p0 = 5
            · have hf := hf.trans (if_pos c6)
              have hok := hok.1 c6
              refine lv_tableIn (off := 149) (tgt := 150) hx hb dd_M_simple_1 (by rw [c6]; decide) (by rw [c6]; decide) (by rw [c6]; decide) (by decide) ?_
              refine lv_aload_n hx hb dd_M_simple_150 rfl (lv_at hl 0 rfl) ?_
              refine lv_ldc2 (v := 228325223) hx hb hown (hts _ gw_424) dd_M_simple_151 ?_
              have n40 := hok
              refine va_callv (va_runV (As := [.long 228325223]) (rest := []) ⟨hx, hb, hml, hown, hts⟩ (mm_M_word l dC dI h a k u0 (228325223 : Int64) n40) (cwV 1 hts (gg_V gw_405 gw_407 gs_26 gw_2 gw_408) rfl rfl rfl (by decide +kernel) ⟨Nat.le_of_ble_eq_true rfl, Nat.le_of_ble_eq_true rfl⟩) ⟨pM_bl, va_recv hK hP (ci := 0) (q0 := 0) rfl rfl, fun U hU hW => ⟨rfl, pM_up hP hK hD hU hW⟩⟩ rfl rfl hl.1 rfl (lv_room (Nat.le_of_ble_eq_true rfl)) dd_M_simple_154 ⟨Nat.zero_le _, Nat.zero_le _⟩) hS (fun q _ h => h) (fun q h => h) (fun v9 t9 H locs ht9 hvm9 hw9 hB9 hz9 hk9 hS => ?_)
              subst hw9
              obtain ⟨hP, -, hD⟩ := hB9
              rw [ht9] at hP
              refine lv_goto (tgt := 331) hx hb dd_M_simple_157 (by decide) ?_
              exact W.vret hx hb hr (fun t ht hW => ⟨⟨ff_M_word u0 (228325223 : Int64), rfl, hf.symm, pM_up hP hK hD ht hW⟩, hS.F ht⟩) hS.2.2 dd_M_simple_331
            · have hf := hf.trans (if_neg c6)
              have hok := hok.2 c6
              by_cases c7 : p0 = 6
              · have hf := hf.trans (if_pos c7)
                have hok := hok.1 c7
                refine lv_tableIn (off := 159) (tgt := 160) hx hb dd_M_simple_1 (by rw [c7]; decide) (by rw [c7]; decide) (by rw [c7]; decide) (by decide) ?_
                refine lv_aload_n hx hb dd_M_simple_160 rfl (lv_at hl 0 rfl) ?_
                refine lv_ldc2 (v := 27608740084) hx hb hown (hts _ gw_425) dd_M_simple_161 ?_
                have n39 := hok
                refine va_callv (va_runV (As := [.long 27608740084]) (rest := []) ⟨hx, hb, hml, hown, hts⟩ (mm_M_word l dC dI h a k u0 (27608740084 : Int64) n39) (cwV 1 hts (gg_V gw_405 gw_407 gs_26 gw_2 gw_408) rfl rfl rfl (by decide +kernel) ⟨Nat.le_of_ble_eq_true rfl, Nat.le_of_ble_eq_true rfl⟩) ⟨pM_bl, va_recv hK hP (ci := 0) (q0 := 0) rfl rfl, fun U hU hW => ⟨rfl, pM_up hP hK hD hU hW⟩⟩ rfl rfl hl.1 rfl (lv_room (Nat.le_of_ble_eq_true rfl)) dd_M_simple_164 ⟨Nat.zero_le _, Nat.zero_le _⟩) hS (fun q _ h => h) (fun q h => h) (fun v9 t9 H locs ht9 hvm9 hw9 hB9 hz9 hk9 hS => ?_)
                subst hw9
                obtain ⟨hP, -, hD⟩ := hB9
                rw [ht9] at hP
                refine lv_goto (tgt := 331) hx hb dd_M_simple_167 (by decide) ?_
                exact W.vret hx hb hr (fun t ht hW => ⟨⟨ff_M_word u0 (27608740084 : Int64), rfl, hf.symm, pM_up hP hK hD ht hW⟩, hS.F ht⟩) hS.2.2 dd_M_simple_331
              · have hf := hf.trans (if_neg c7)
                have hok := hok.2 c7
                by_cases c8 : p0 = 7
                · have hf := hf.trans (if_pos c8)
                  have hok := hok.1 c8
                  refine lv_tableIn (off := 169) (tgt := 170) hx hb dd_M_simple_1 (by rw [c8]; decide) (by rw [c8]; decide) (by rw [c8]; decide) (by decide) ?_
                  refine lv_aload_n hx hb dd_M_simple_170 rfl (lv_at hl 0 rfl) ?_
                  refine lv_ldc2 (v := 3466017158757) hx hb hown (hts _ gw_426) dd_M_simple_171 ?_
                  have n38 := hok
                  refine va_callv (va_runV (As := [.long 3466017158757]) (rest := []) ⟨hx, hb, hml, hown, hts⟩ (mm_M_word l dC dI h a k u0 (3466017158757 : Int64) n38) (cwV 1 hts (gg_V gw_405 gw_407 gs_26 gw_2 gw_408) rfl rfl rfl (by decide +kernel) ⟨Nat.le_of_ble_eq_true rfl, Nat.le_of_ble_eq_true rfl⟩) ⟨pM_bl, va_recv hK hP (ci := 0) (q0 := 0) rfl rfl, fun U hU hW => ⟨rfl, pM_up hP hK hD hU hW⟩⟩ rfl rfl hl.1 rfl (lv_room (Nat.le_of_ble_eq_true rfl)) dd_M_simple_174 ⟨Nat.zero_le _, Nat.zero_le _⟩) hS (fun q _ h => h) (fun q h => h) (fun v9 t9 H locs ht9 hvm9 hw9 hB9 hz9 hk9 hS => ?_)
                  subst hw9
                  obtain ⟨hP, -, hD⟩ := hB9
                  rw [ht9] at hP
                  refine lv_goto (tgt := 331) hx hb dd_M_simple_177 (by decide) ?_
                  exact W.vret hx hb hr (fun t ht hW => ⟨⟨ff_M_word u0 (3466017158757 : Int64), rfl, hf.symm, pM_up hP hK hD ht hW⟩, hS.F ht⟩) hS.2.2 dd_M_simple_331
                · have hf := hf.trans (if_neg c8)
                  have hok := hok.2 c8
                  by_cases c9 : p0 = 8
                  · have hf := hf.trans (if_pos c9)
                    have hok := hok.1 c9
                    refine lv_tableIn (off := 179) (tgt := 180) hx hb dd_M_simple_1 (by rw [c9]; decide) (by rw [c9]; decide) (by rw [c9]; decide) (by decide) ?_
                    refine lv_aload_n hx hb dd_M_simple_180 rfl (lv_at hl 0 rfl) ?_
                    refine lv_ldc2 (v := 249296100) hx hb hown (hts _ gw_427) dd_M_simple_181 ?_
                    have n37 := hok
                    refine va_callv (va_runV (As := [.long 249296100]) (rest := []) ⟨hx, hb, hml, hown, hts⟩ (mm_M_word l dC dI h a k u0 (249296100 : Int64) n37) (cwV 1 hts (gg_V gw_405 gw_407 gs_26 gw_2 gw_408) rfl rfl rfl (by decide +kernel) ⟨Nat.le_of_ble_eq_true rfl, Nat.le_of_ble_eq_true rfl⟩) ⟨pM_bl, va_recv hK hP (ci := 0) (q0 := 0) rfl rfl, fun U hU hW => ⟨rfl, pM_up hP hK hD hU hW⟩⟩ rfl rfl hl.1 rfl (lv_room (Nat.le_of_ble_eq_true rfl)) dd_M_simple_184 ⟨Nat.zero_le _, Nat.zero_le _⟩) hS (fun q _ h => h) (fun q h => h) (fun v9 t9 H locs ht9 hvm9 hw9 hB9 hz9 hk9 hS => ?_)
                    subst hw9
                    obtain ⟨hP, -, hD⟩ := hB9
                    rw [ht9] at hP
                    refine lv_goto (tgt := 331) hx hb dd_M_simple_187 (by decide) ?_
                    exact W.vret hx hb hr (fun t ht hW => ⟨⟨ff_M_word u0 (249296100 : Int64), rfl, hf.symm, pM_up hP hK hD ht hW⟩, hS.F ht⟩) hS.2.2 dd_M_simple_331
                  · have hf := hf.trans (if_neg c9)
                    have hok := hok.2 c9
                    by_cases c10 : p0 = 9
                    · have hf := hf.trans (if_pos c10)
                      have hok := hok.1 c10
                      refine lv_tableIn (off := 189) (tgt := 190) hx hb dd_M_simple_1 (by rw [c10]; decide) (by rw [c10]; decide) (by rw [c10]; decide) (by decide) ?_
                      refine lv_aload_n hx hb dd_M_simple_190 rfl (lv_at hl 0 rfl) ?_
                      refine lv_ldc2 (v := 2740949971444) hx hb hown (hts _ gw_428) dd_M_simple_191 ?_
                      have n36 := hok
                      refine va_callv (va_runV (As := [.long 2740949971444]) (rest := []) ⟨hx, hb, hml, hown, hts⟩ (mm_M_word l dC dI h a k u0 (2740949971444 : Int64) n36) (cwV 1 hts (gg_V gw_405 gw_407 gs_26 gw_2 gw_408) rfl rfl rfl (by decide +kernel) ⟨Nat.le_of_ble_eq_true rfl, Nat.le_of_ble_eq_true rfl⟩) ⟨pM_bl, va_recv hK hP (ci := 0) (q0 := 0) rfl rfl, fun U hU hW => ⟨rfl, pM_up hP hK hD hU hW⟩⟩ rfl rfl hl.1 rfl (lv_room (Nat.le_of_ble_eq_true rfl)) dd_M_simple_194 ⟨Nat.zero_le _, Nat.zero_le _⟩) hS (fun q _ h => h) (fun q h => h) (fun v9 t9 H locs ht9 hvm9 hw9 hB9 hz9 hk9 hS => ?_)
                      subst hw9
                      obtain ⟨hP, -, hD⟩ := hB9
                      rw [ht9] at hP
                      refine lv_goto (tgt := 331) hx hb dd_M_simple_197 (by decide) ?_
                      exact W.vret hx hb hr (fun t ht hW => ⟨⟨ff_M_word u0 (2740949971444 : Int64), rfl, hf.symm, pM_up hP hK hD ht hW⟩, hS.F ht⟩) hS.2.2 dd_M_simple_331
                    · have hf := hf.trans (if_neg c10)
                      have hok := hok.2 c10
                      by_cases c11 : p0 = 10
                      · have hf := hf.trans (if_pos c11)
                        have hok := hok.1 c11
                        refine lv_tableIn (off := 199) (tgt := 200) hx hb dd_M_simple_1 (by rw [c11]; decide) (by rw [c11]; decide) (by rw [c11]; decide) (by decide) ?_
                        refine lv_aload_n hx hb dd_M_simple_200 rfl (lv_at hl 0 rfl) ?_
                        refine lv_ldc2 (v := 38196479574700396) hx hb hown (hts _ gw_429) dd_M_simple_201 ?_
                        obtain ⟨n34, hok⟩ := hok
                        refine va_callv (va_runV (As := [.long 38196479574700396]) (rest := []) ⟨hx, hb, hml, hown, hts⟩ (mm_M_word l dC dI h a k u0 (38196479574700396 : Int64) n34) (cwV 1 hts (gg_V gw_405 gw_407 gs_26 gw_2 gw_408) rfl rfl rfl (by decide +kernel) ⟨Nat.le_of_ble_eq_true rfl, Nat.le_of_ble_eq_true rfl⟩) ⟨pM_bl, va_recv hK hP (ci := 0) (q0 := 0) rfl rfl, fun U hU hW => ⟨rfl, pM_up hP hK hD hU hW⟩⟩ rfl rfl hl.1 rfl (lv_room (Nat.le_of_ble_eq_true rfl)) dd_M_simple_204 ⟨Nat.zero_le _, Nat.zero_le _⟩) hS (fun q _ h => h) (fun q h => h) (fun v9 t9 H locs ht9 hvm9 hw9 hB9 hz9 hk9 hS => ?_)
                        subst hw9
                        obtain ⟨hP, -, hD⟩ := hB9
                        rw [ht9] at hP
                        refine lv_aload_n hx hb dd_M_simple_207 rfl (lv_at hl 0 rfl) ?_
                        refine lv_ldc2 (v := 101) hx hb hown (hts _ gw_430) dd_M_simple_208 ?_
                        have n35 := hok
                        refine va_callv (va_runV (As := [.long 101]) (rest := []) ⟨hx, hb, hml, hown, hts⟩ (mm_M_word l dC dI h a k (ff_M_word u0 (38196479574700396 : Int64)) (101 : Int64) n35) (cwV 1 hts (gg_V gw_405 gw_407 gs_26 gw_2 gw_408) rfl rfl rfl (by decide +kernel) ⟨Nat.le_of_ble_eq_true rfl, Nat.le_of_ble_eq_true rfl⟩) ⟨pM_bl, va_recv hK hP (ci := 0) (q0 := 0) rfl rfl, fun U hU hW => ⟨rfl, pM_up hP hK hD hU hW⟩⟩ rfl rfl hl.1 rfl (lv_room (Nat.le_of_ble_eq_true rfl)) dd_M_simple_211 ⟨Nat.zero_le _, Nat.zero_le _⟩) hS (fun q _ h => h) (fun q h => h) (fun v9 t9 H locs ht9 hvm9 hw9 hB9 hz9 hk9 hS => ?_)
                        subst hw9
                        obtain ⟨hP, -, hD⟩ := hB9
                        rw [ht9] at hP
                        refine lv_goto (tgt := 331) hx hb dd_M_simple_214 (by decide) ?_
                        exact W.vret hx hb hr (fun t ht hW => ⟨⟨ff_M_word (ff_M_word u0 (38196479574700396 : Int64)) (101 : Int64), rfl, hf.symm, pM_up hP hK hD ht hW⟩, hS.F ht⟩) hS.2.2 dd_M_simple_331
                      · have hf := hf.trans (if_neg c11)
                        have hok := hok.2 c11
                        by_cases c12 : p0 = 11
                        · have hf := hf.trans (if_pos c12)
                          have hok := hok.1 c12
                          refine lv_tableIn (off := 216) (tgt := 217) hx hb dd_M_simple_1 (by rw [c12]; decide) (by rw [c12]; decide) (by rw [c12]; decide) (by decide) ?_
                          refine lv_aload_n hx hb dd_M_simple_217 rfl (lv_at hl 0 rfl) ?_
                          refine lv_ldc2 (v := 47172994232694010) hx hb hown (hts _ gw_431) dd_M_simple_218 ?_
                          obtain ⟨n32, hok⟩ := hok
                          refine va_callv (va_runV (As := [.long 47172994232694010]) (rest := []) ⟨hx, hb, hml, hown, hts⟩ (mm_M_word l dC dI h a k u0 (47172994232694010 : Int64) n32) (cwV 1 hts (gg_V gw_405 gw_407 gs_26 gw_2 gw_408) rfl rfl rfl (by decide +kernel) ⟨Nat.le_of_ble_eq_true rfl, Nat.le_of_ble_eq_true rfl⟩) ⟨pM_bl, va_recv hK hP (ci := 0) (q0 := 0) rfl rfl, fun U hU hW => ⟨rfl, pM_up hP hK hD hU hW⟩⟩ rfl rfl hl.1 rfl (lv_room (Nat.le_of_ble_eq_true rfl)) dd_M_simple_221 ⟨Nat.zero_le _, Nat.zero_le _⟩) hS (fun q _ h => h) (fun q h => h) (fun v9 t9 H locs ht9 hvm9 hw9 hB9 hz9 hk9 hS => ?_)
                          subst hw9
                          obtain ⟨hP, -, hD⟩ := hB9
                          rw [ht9] at hP
                          refine lv_aload_n hx hb dd_M_simple_224 rfl (lv_at hl 0 rfl) ?_
                          refine lv_ldc2 (v := 205043301) hx hb hown (hts _ gw_432) dd_M_simple_225 ?_
                          have n33 := hok
                          refine va_callv (va_runV (As := [.long 205043301]) (rest := []) ⟨hx, hb, hml, hown, hts⟩ (mm_M_word l dC dI h a k (ff_M_word u0 (47172994232694010 : Int64)) (205043301 : Int64) n33) (cwV 1 hts (gg_V gw_405 gw_407 gs_26 gw_2 gw_408) rfl rfl rfl (by decide +kernel) ⟨Nat.le_of_ble_eq_true rfl, Nat.le_of_ble_eq_true rfl⟩) ⟨pM_bl, va_recv hK hP (ci := 0) (q0 := 0) rfl rfl, fun U hU hW => ⟨rfl, pM_up hP hK hD hU hW⟩⟩ rfl rfl hl.1 rfl (lv_room (Nat.le_of_ble_eq_true rfl)) dd_M_simple_228 ⟨Nat.zero_le _, Nat.zero_le _⟩) hS (fun q _ h => h) (fun q h => h) (fun v9 t9 H locs ht9 hvm9 hw9 hB9 hz9 hk9 hS => ?_)
                          subst hw9
                          obtain ⟨hP, -, hD⟩ := hB9
                          rw [ht9] at hP
                          refine lv_goto (tgt := 331) hx hb dd_M_simple_231 (by decide) ?_
                          exact W.vret hx hb hr (fun t ht hW => ⟨⟨ff_M_word (ff_M_word u0 (47172994232694010 : Int64)) (205043301 : Int64), rfl, hf.symm, pM_up hP hK hD ht hW⟩, hS.F ht⟩) hS.2.2 dd_M_simple_331
                        · have hf := hf.trans (if_neg c12)
                          have hok := hok.2 c12
                          by_cases c13 : p0 = 12
                          · have hf := hf.trans (if_pos c13)
                            have hok := hok.1 c13
                            refine lv_tableIn (off := 233) (tgt := 234) hx hb dd_M_simple_1 (by rw [c13]; decide) (by rw [c13]; decide) (by rw [c13]; decide) (by decide) ?_
                            refine lv_aload_n hx hb dd_M_simple_234 rfl (lv_at hl 0 rfl) ?_
                            refine lv_ldc2 (v := 2883237607271) hx hb hown (hts _ gw_433) dd_M_simple_235 ?_
                            have n31 := hok
                            refine va_callv (va_runV (As := [.long 2883237607271]) (rest := []) ⟨hx, hb, hml, hown, hts⟩ (mm_M_word l dC dI h a k u0 (2883237607271 : Int64) n31) (cwV 1 hts (gg_V gw_405 gw_407 gs_26 gw_2 gw_408) rfl rfl rfl (by decide +kernel) ⟨Nat.le_of_ble_eq_true rfl, Nat.le_of_ble_eq_true rfl⟩) ⟨pM_bl, va_recv hK hP (ci := 0) (q0 := 0) rfl rfl, fun U hU hW => ⟨rfl, pM_up hP hK hD hU hW⟩⟩ rfl rfl hl.1 rfl (lv_room (Nat.le_of_ble_eq_true rfl)) dd_M_simple_238 ⟨Nat.zero_le _, Nat.zero_le _⟩) hS (fun q _ h => h) (fun q h => h) (fun v9 t9 H locs ht9 hvm9 hw9 hB9 hz9 hk9 hS => ?_)
                            subst hw9
                            obtain ⟨hP, -, hD⟩ := hB9
                            rw [ht9] at hP
                            refine lv_goto (tgt := 331) hx hb dd_M_simple_241 (by decide) ?_
                            exact W.vret hx hb hr (fun t ht hW => ⟨⟨ff_M_word u0 (2883237607271 : Int64), rfl, hf.symm, pM_up hP hK hD ht hW⟩, hS.F ht⟩) hS.2.2 dd_M_simple_331
                          · have hf := hf.trans (if_neg c13)
                            have hok := hok.2 c13
                            by_cases c14 : p0 = 13
                            · have hf := hf.trans (if_pos c14)
                              have hok := hok.1 c14
                              refine lv_tableIn (off := 243) (tgt := 244) hx hb dd_M_simple_1 (by rw [c14]; decide) (by rw [c14]; decide) (by rw [c14]; decide) (by decide) ?_
                              refine lv_aload_n hx hb dd_M_simple_244 rfl (lv_at hl 0 rfl) ?_
                              refine lv_ldc2 (v := 22499850341) hx hb hown (hts _ gw_434) dd_M_simple_245 ?_
                              have n30 := hok
                              refine va_callv (va_runV (As := [.long 22499850341]) (rest := []) ⟨hx, hb, hml, hown, hts⟩ (mm_M_word l dC dI h a k u0 (22499850341 : Int64) n30) (cwV 1 hts (gg_V gw_405 gw_407 gs_26 gw_2 gw_408) rfl rfl rfl (by decide +kernel) ⟨Nat.le_of_ble_eq_true rfl, Nat.le_of_ble_eq_true rfl⟩) ⟨pM_bl, va_recv hK hP (ci := 0) (q0 := 0) rfl rfl, fun U hU hW => ⟨rfl, pM_up hP hK hD hU hW⟩⟩ rfl rfl hl.1 rfl (lv_room (Nat.le_of_ble_eq_true rfl)) dd_M_simple_248 ⟨Nat.zero_le _, Nat.zero_le _⟩) hS (fun q _ h => h) (fun q h => h) (fun v9 t9 H locs ht9 hvm9 hw9 hB9 hz9 hk9 hS => ?_)
                              subst hw9
                              obtain ⟨hP, -, hD⟩ := hB9
                              rw [ht9] at hP
                              refine lv_goto (tgt := 331) hx hb dd_M_simple_251 (by decide) ?_
                              exact W.vret hx hb hr (fun t ht hW => ⟨⟨ff_M_word u0 (22499850341 : Int64), rfl, hf.symm, pM_up hP hK hD ht hW⟩, hS.F ht⟩) hS.2.2 dd_M_simple_331
                            · have hf := hf.trans (if_neg c14)
                              have hok := hok.2 c14
                              by_cases c15 : p0 = 14
                              · have hf := hf.trans (if_pos c15)
                                have hok := hok.1 c15
                                refine lv_tableIn (off := 253) (tgt := 254) hx hb dd_M_simple_1 (by rw [c15]; decide) (by rw [c15]; decide) (by rw [c15]; decide) (by decide) ?_
                                refine lv_aload_n hx hb dd_M_simple_254 rfl (lv_at hl 0 rfl) ?_
                                refine lv_ldc2 (v := 21143188196) hx hb hown (hts _ gw_435) dd_M_simple_255 ?_
                                have n29 := hok
                                refine va_callv (va_runV (As := [.long 21143188196]) (rest := []) ⟨hx, hb, hml, hown, hts⟩ (mm_M_word l dC dI h a k u0 (21143188196 : Int64) n29) (cwV 1 hts (gg_V gw_405 gw_407 gs_26 gw_2 gw_408) rfl rfl rfl (by decide +kernel) ⟨Nat.le_of_ble_eq_true rfl, Nat.le_of_ble_eq_true rfl⟩) ⟨pM_bl, va_recv hK hP (ci := 0) (q0 := 0) rfl rfl, fun U hU hW => ⟨rfl, pM_up hP hK hD hU hW⟩⟩ rfl rfl hl.1 rfl (lv_room (Nat.le_of_ble_eq_true rfl)) dd_M_simple_258 ⟨Nat.zero_le _, Nat.zero_le _⟩) hS (fun q _ h => h) (fun q h => h) (fun v9 t9 H locs ht9 hvm9 hw9 hB9 hz9 hk9 hS => ?_)
                                subst hw9
                                obtain ⟨hP, -, hD⟩ := hB9
                                rw [ht9] at hP
                                refine lv_goto (tgt := 331) hx hb dd_M_simple_261 (by decide) ?_
                                exact W.vret hx hb hr (fun t ht hW => ⟨⟨ff_M_word u0 (21143188196 : Int64), rfl, hf.symm, pM_up hP hK hD ht hW⟩, hS.F ht⟩) hS.2.2 dd_M_simple_331
                              · have hf := hf.trans (if_neg c15)
                                have hok := hok.2 c15
                                by_cases c16 : p0 = 15
                                · have hf := hf.trans (if_pos c16)
                                  have hok := hok.1 c16
                                  refine lv_tableIn (off := 263) (tgt := 264) hx hb dd_M_simple_1 (by rw [c16]; decide) (by rw [c16]; decide) (by rw [c16]; decide) (by decide) ?_
                                  refine lv_aload_n hx hb dd_M_simple_264 rfl (lv_at hl 0 rfl) ?_
                                  refine lv_ldc2 (v := 140016101) hx hb hown (hts _ gw_436) dd_M_simple_265 ?_
                                  have n28 := hok
                                  refine va_callv (va_runV (As := [.long 140016101]) (rest := []) ⟨hx, hb, hml, hown, hts⟩ (mm_M_word l dC dI h a k u0 (140016101 : Int64) n28) (cwV 1 hts (gg_V gw_405 gw_407 gs_26 gw_2 gw_408) rfl rfl rfl (by decide +kernel) ⟨Nat.le_of_ble_eq_true rfl, Nat.le_of_ble_eq_true rfl⟩) ⟨pM_bl, va_recv hK hP (ci := 0) (q0 := 0) rfl rfl, fun U hU hW => ⟨rfl, pM_up hP hK hD hU hW⟩⟩ rfl rfl hl.1 rfl (lv_room (Nat.le_of_ble_eq_true rfl)) dd_M_simple_268 ⟨Nat.zero_le _, Nat.zero_le _⟩) hS (fun q _ h => h) (fun q h => h) (fun v9 t9 H locs ht9 hvm9 hw9 hB9 hz9 hk9 hS => ?_)
                                  subst hw9
                                  obtain ⟨hP, -, hD⟩ := hB9
                                  rw [ht9] at hP
                                  refine lv_goto (tgt := 331) hx hb dd_M_simple_271 (by decide) ?_
                                  exact W.vret hx hb hr (fun t ht hW => ⟨⟨ff_M_word u0 (140016101 : Int64), rfl, hf.symm, pM_up hP hK hD ht hW⟩, hS.F ht⟩) hS.2.2 dd_M_simple_331
                                · have hf := hf.trans (if_neg c16)
                                  have hok := hok.2 c16
                                  by_cases c17 : p0 = 16
                                  · have hf := hf.trans (if_pos c17)
                                    have hok := hok.1 c17
                                    refine lv_tableIn (off := 273) (tgt := 274) hx hb dd_M_simple_1 (by rw [c17]; decide) (by rw [c17]; decide) (by rw [c17]; decide) (by decide) ?_
                                    refine lv_aload_n hx hb dd_M_simple_274 rfl (lv_at hl 0 rfl) ?_
                                    refine lv_ldc2 (v := 2330528904805) hx hb hown (hts _ gw_437) dd_M_simple_275 ?_
                                    have n27 := hok
                                    refine va_callv (va_runV (As := [.long 2330528904805]) (rest := []) ⟨hx, hb, hml, hown, hts⟩ (mm_M_word l dC dI h a k u0 (2330528904805 : Int64) n27) (cwV 1 hts (gg_V gw_405 gw_407 gs_26 gw_2 gw_408) rfl rfl rfl (by decide +kernel) ⟨Nat.le_of_ble_eq_true rfl, Nat.le_of_ble_eq_true rfl⟩) ⟨pM_bl, va_recv hK hP (ci := 0) (q0 := 0) rfl rfl, fun U hU hW => ⟨rfl, pM_up hP hK hD hU hW⟩⟩ rfl rfl hl.1 rfl (lv_room (Nat.le_of_ble_eq_true rfl)) dd_M_simple_278 ⟨Nat.zero_le _, Nat.zero_le _⟩) hS (fun q _ h => h) (fun q h => h) (fun v9 t9 H locs ht9 hvm9 hw9 hB9 hz9 hk9 hS => ?_)
                                    subst hw9
                                    obtain ⟨hP, -, hD⟩ := hB9
                                    rw [ht9] at hP
                                    refine lv_goto (tgt := 331) hx hb dd_M_simple_281 (by decide) ?_
                                    exact W.vret hx hb hr (fun t ht hW => ⟨⟨ff_M_word u0 (2330528904805 : Int64), rfl, hf.symm, pM_up hP hK hD ht hW⟩, hS.F ht⟩) hS.2.2 dd_M_simple_331
                                  · have hf := hf.trans (if_neg c17)
                                    have hok := hok.2 c17
                                    by_cases c18 : p0 = 17
                                    · have hf := hf.trans (if_pos c18)
                                      have hok := hok.1 c18
                                      refine lv_tableIn (off := 283) (tgt := 284) hx hb dd_M_simple_1 (by rw [c18]; decide) (by rw [c18]; decide) (by rw [c18]; decide) (by decide) ?_
                                      refine lv_aload_n hx hb dd_M_simple_284 rfl (lv_at hl 0 rfl) ?_
                                      refine lv_ldc2 (v := 2882438461797) hx hb hown (hts _ gw_438) dd_M_simple_285 ?_
                                      have n26 := hok
                                      refine va_callv (va_runV (As := [.long 2882438461797]) (rest := []) ⟨hx, hb, hml, hown, hts⟩ (mm_M_word l dC dI h a k u0 (2882438461797 : Int64) n26) (cwV 1 hts (gg_V gw_405 gw_407 gs_26 gw_2 gw_408) rfl rfl rfl (by decide +kernel) ⟨Nat.le_of_ble_eq_true rfl, Nat.le_of_ble_eq_true rfl⟩) ⟨pM_bl, va_recv hK hP (ci := 0) (q0 := 0) rfl rfl, fun U hU hW => ⟨rfl, pM_up hP hK hD hU hW⟩⟩ rfl rfl hl.1 rfl (lv_room (Nat.le_of_ble_eq_true rfl)) dd_M_simple_288 ⟨Nat.zero_le _, Nat.zero_le _⟩) hS (fun q _ h => h) (fun q h => h) (fun v9 t9 H locs ht9 hvm9 hw9 hB9 hz9 hk9 hS => ?_)
                                      subst hw9
                                      obtain ⟨hP, -, hD⟩ := hB9
                                      rw [ht9] at hP
                                      refine lv_goto (tgt := 331) hx hb dd_M_simple_291 (by decide) ?_
                                      exact W.vret hx hb hr (fun t ht hW => ⟨⟨ff_M_word u0 (2882438461797 : Int64), rfl, hf.symm, pM_up hP hK hD ht hW⟩, hS.F ht⟩) hS.2.2 dd_M_simple_331
                                    · have hf := hf.trans (if_neg c18)
                                      have hok := hok.2 c18
                                      by_cases c19 : p0 = 18
                                      · have hf := hf.trans (if_pos c19)
                                        have hok := hok.1 c19
                                        refine lv_tableIn (off := 293) (tgt := 294) hx hb dd_M_simple_1 (by rw [c19]; decide) (by rw [c19]; decide) (by rw [c19]; decide) (by decide) ?_
                                        refine lv_aload_n hx hb dd_M_simple_294 rfl (lv_at hl 0 rfl) ?_
                                        refine lv_ldc2 (v := 177895013) hx hb hown (hts _ gw_439) dd_M_simple_295 ?_
                                        have n25 := hok
                                        refine va_callv (va_runV (As := [.long 177895013]) (rest := []) ⟨hx, hb, hml, hown, hts⟩ (mm_M_word l dC dI h a k u0 (177895013 : Int64) n25) (cwV 1 hts (gg_V gw_405 gw_407 gs_26 gw_2 gw_408) rfl rfl rfl (by decide +kernel) ⟨Nat.le_of_ble_eq_true rfl, Nat.le_of_ble_eq_true rfl⟩) ⟨pM_bl, va_recv hK hP (ci := 0) (q0 := 0) rfl rfl, fun U hU hW => ⟨rfl, pM_up hP hK hD hU hW⟩⟩ rfl rfl hl.1 rfl (lv_room (Nat.le_of_ble_eq_true rfl)) dd_M_simple_298 ⟨Nat.zero_le _, Nat.zero_le _⟩) hS (fun q _ h => h) (fun q h => h) (fun v9 t9 H locs ht9 hvm9 hw9 hB9 hz9 hk9 hS => ?_)
                                        subst hw9
                                        obtain ⟨hP, -, hD⟩ := hB9
                                        rw [ht9] at hP
                                        refine lv_goto (tgt := 331) hx hb dd_M_simple_301 (by decide) ?_
                                        exact W.vret hx hb hr (fun t ht hW => ⟨⟨ff_M_word u0 (177895013 : Int64), rfl, hf.symm, pM_up hP hK hD ht hW⟩, hS.F ht⟩) hS.2.2 dd_M_simple_331
                                      · have hf := hf.trans (if_neg c19)
                                        have hok := hok.2 c19
                                        by_cases c20 : p0 = 19
                                        · have hf := hf.trans (if_pos c20)
                                          have hok := hok.1 c20
                                          refine lv_tableIn (off := 303) (tgt := 304) hx hb dd_M_simple_1 (by rw [c20]; decide) (by rw [c20]; decide) (by rw [c20]; decide) (by decide) ?_
                                          refine lv_aload_n hx hb dd_M_simple_304 rfl (lv_at hl 0 rfl) ?_
                                          refine lv_ldc2 (v := 18219743218) hx hb hown (hts _ gw_440) dd_M_simple_305 ?_
                                          have n24 := hok
                                          refine va_callv (va_runV (As := [.long 18219743218]) (rest := []) ⟨hx, hb, hml, hown, hts⟩ (mm_M_word l dC dI h a k u0 (18219743218 : Int64) n24) (cwV 1 hts (gg_V gw_405 gw_407 gs_26 gw_2 gw_408) rfl rfl rfl (by decide +kernel) ⟨Nat.le_of_ble_eq_true rfl, Nat.le_of_ble_eq_true rfl⟩) ⟨pM_bl, va_recv hK hP (ci := 0) (q0 := 0) rfl rfl, fun U hU hW => ⟨rfl, pM_up hP hK hD hU hW⟩⟩ rfl rfl hl.1 rfl (lv_room (Nat.le_of_ble_eq_true rfl)) dd_M_simple_308 ⟨Nat.zero_le _, Nat.zero_le _⟩) hS (fun q _ h => h) (fun q h => h) (fun v9 t9 H locs ht9 hvm9 hw9 hB9 hz9 hk9 hS => ?_)
                                          subst hw9
                                          obtain ⟨hP, -, hD⟩ := hB9
                                          rw [ht9] at hP
                                          refine lv_goto (tgt := 331) hx hb dd_M_simple_311 (by decide) ?_
                                          exact W.vret hx hb hr (fun t ht hW => ⟨⟨ff_M_word u0 (18219743218 : Int64), rfl, hf.symm, pM_up hP hK hD ht hW⟩, hS.F ht⟩) hS.2.2 dd_M_simple_331
                                        · have hf := hf.trans (if_neg c20)
                                          have hok := hok.2 c20
                                          by_cases c21 : p0 = 20
                                          · have hf := hf.trans (if_pos c21)
                                            have hok := hok.1 c21
                                            refine lv_tableIn (off := 313) (tgt := 314) hx hb dd_M_simple_1 (by rw [c21]; decide) (by rw [c21]; decide) (by rw [c21]; decide) (by decide) ?_
                                            refine lv_aload_n hx hb dd_M_simple_314 rfl (lv_at hl 0 rfl) ?_
                                            refine lv_ldc2 (v := 21709354868) hx hb hown (hts _ gw_441) dd_M_simple_315 ?_
                                            have n23 := hok
                                            refine va_callv (va_runV (As := [.long 21709354868]) (rest := []) ⟨hx, hb, hml, hown, hts⟩ (mm_M_word l dC dI h a k u0 (21709354868 : Int64) n23) (cwV 1 hts (gg_V gw_405 gw_407 gs_26 gw_2 gw_408) rfl rfl rfl (by decide +kernel) ⟨Nat.le_of_ble_eq_true rfl, Nat.le_of_ble_eq_true rfl⟩) ⟨pM_bl, va_recv hK hP (ci := 0) (q0 := 0) rfl rfl, fun U hU hW => ⟨rfl, pM_up hP hK hD hU hW⟩⟩ rfl rfl hl.1 rfl (lv_room (Nat.le_of_ble_eq_true rfl)) dd_M_simple_318 ⟨Nat.zero_le _, Nat.zero_le _⟩) hS (fun q _ h => h) (fun q h => h) (fun v9 t9 H locs ht9 hvm9 hw9 hB9 hz9 hk9 hS => ?_)
                                            subst hw9
                                            obtain ⟨hP, -, hD⟩ := hB9
                                            rw [ht9] at hP
                                            refine lv_goto (tgt := 331) hx hb dd_M_simple_321 (by decide) ?_
                                            exact W.vret hx hb hr (fun t ht hW => ⟨⟨ff_M_word u0 (21709354868 : Int64), rfl, hf.symm, pM_up hP hK hD ht hW⟩, hS.F ht⟩) hS.2.2 dd_M_simple_331
                                          · have hf := hf.trans (if_neg c21)
                                            have hok := hok.2 c21
                                            refine lv_tableOut (tgt := 324) hx hb dd_M_simple_1 ?_ (by decide) ?_
                                            · rcases sw_tab p0 0 20 21 (by decide) with hsw | ⟨j9, hj9, ej9⟩
                                              · exact hsw
                                              · exfalso
                                                rcases (show j9 = 0 ∨ j9 = 1 ∨ j9 = 2 ∨ j9 = 3 ∨ j9 = 4 ∨ j9 = 5 ∨ j9 = 6 ∨ j9 = 7 ∨ j9 = 8 ∨ j9 = 9 ∨ j9 = 10 ∨ j9 = 11 ∨ j9 = 12 ∨ j9 = 13 ∨ j9 = 14 ∨ j9 = 15 ∨ j9 = 16 ∨ j9 = 17 ∨ j9 = 18 ∨ j9 = 19 ∨ j9 = 20 by omega) with rfl | rfl | rfl | rfl | rfl | rfl | rfl | rfl | rfl | rfl | rfl | rfl | rfl | rfl | rfl | rfl | rfl | rfl | rfl | rfl | rfl
                                                · exact c1 (ej9.trans (by decide))
                                                · exact c2 (ej9.trans (by decide))
                                                · exact c3 (ej9.trans (by decide))
                                                · exact c4 (ej9.trans (by decide))
                                                · exact c5 (ej9.trans (by decide))
                                                · exact c6 (ej9.trans (by decide))
                                                · exact c7 (ej9.trans (by decide))
                                                · exact c8 (ej9.trans (by decide))
                                                · exact c9 (ej9.trans (by decide))
                                                · exact c10 (ej9.trans (by decide))
                                                · exact c11 (ej9.trans (by decide))
                                                · exact c12 (ej9.trans (by decide))
                                                · exact c13 (ej9.trans (by decide))
                                                · exact c14 (ej9.trans (by decide))
                                                · exact c15 (ej9.trans (by decide))
                                                · exact c16 (ej9.trans (by decide))
                                                · exact c17 (ej9.trans (by decide))
                                                · exact c18 (ej9.trans (by decide))
                                                · exact c19 (ej9.trans (by decide))
                                                · exact c20 (ej9.trans (by decide))
                                                · exact c21 (ej9.trans (by decide))
                                            · skip
                                              refine lv_aload_n hx hb dd_M_simple_324 rfl (lv_at hl 0 rfl) ?_
                                              refine lv_ldc2 (v := 2503925641970) hx hb hown (hts _ gw_442) dd_M_simple_325 ?_
                                              have n22 := hok
                                              refine va_callv (va_runV (As := [.long 2503925641970]) (rest := []) ⟨hx, hb, hml, hown, hts⟩ (mm_M_word l dC dI h a k u0 (2503925641970 : Int64) n22) (cwV 1 hts (gg_V gw_405 gw_407 gs_26 gw_2 gw_408) rfl rfl rfl (by decide +kernel) ⟨Nat.le_of_ble_eq_true rfl, Nat.le_of_ble_eq_true rfl⟩) ⟨pM_bl, va_recv hK hP (ci := 0) (q0 := 0) rfl rfl, fun U hU hW => ⟨rfl, pM_up hP hK hD hU hW⟩⟩ rfl rfl hl.1 rfl (lv_room (Nat.le_of_ble_eq_true rfl)) dd_M_simple_328 ⟨Nat.zero_le _, Nat.zero_le _⟩) hS (fun q _ h => h) (fun q h => h) (fun v9 t9 H locs ht9 hvm9 hw9 hB9 hz9 hk9 hS => ?_)
                                              subst hw9
                                              obtain ⟨hP, -, hD⟩ := hB9
                                              rw [ht9] at hP
                                              exact W.vret hx hb hr (fun t ht hW => ⟨⟨ff_M_word u0 (2503925641970 : Int64), rfl, hf.symm, pM_up hP hK hD ht hW⟩, hS.F ht⟩) hS.2.2 dd_M_simple_331

def ff_M_name (u0 : SM) (p0 : Int32) : SM := (if p0 < 9 then (if p0 < 13 then ff_M_simple u0 p0 else ff_M_simple (ff_M_word (ff_M_word (ff_M_word u0 (38195999909605738 : Int64)) (57297358521416047 : Int64)) (14628 : Int64)) p0) else (if 12 < p0 then (if p0 < 13 then ff_M_simple u0 p0 else ff_M_simple (ff_M_word (ff_M_word (ff_M_word u0 (38195999909605738 : Int64)) (57297358521416047 : Int64)) (14628 : Int64)) p0) else (if p0 = 11 then (if p0 < 13 then ff_M_simple (ff_M_letter (ff_M_word (ff_M_word u0 (28659527854 : Int64)) (13551 : Int64)) (46 : Int32)) p0 else ff_M_simple (ff_M_word (ff_M_word (ff_M_word (ff_M_letter (ff_M_word (ff_M_word u0 (28659527854 : Int64)) (13551 : Int64)) (46 : Int32)) (38195999909605738 : Int64)) (57297358521416047 : Int64)) (14628 : Int64)) p0) else (if p0 < 13 then ff_M_simple (ff_M_letter (ff_M_word (ff_M_word u0 (28659527854 : Int64)) (228095847 : Int64)) (46 : Int32)) p0 else ff_M_simple (ff_M_word (ff_M_word (ff_M_word (ff_M_letter (ff_M_word (ff_M_word u0 (28659527854 : Int64)) (228095847 : Int64)) (46 : Int32)) (38195999909605738 : Int64)) (57297358521416047 : Int64)) (14628 : Int64)) p0))))
def ok_M_name (u0 : SM) (p0 : Int32) : Prop := (((p0 < 9) → (((p0 < 13) → ok_M_simple u0 p0) ∧ (¬ (p0 < 13) → (ok_M_word u0 (38195999909605738 : Int64)) ∧ (ok_M_word (ff_M_word u0 (38195999909605738 : Int64)) (57297358521416047 : Int64)) ∧ (ok_M_word (ff_M_word (ff_M_word u0 (38195999909605738 : Int64)) (57297358521416047 : Int64)) (14628 : Int64)) ∧ ok_M_simple (ff_M_word (ff_M_word (ff_M_word u0 (38195999909605738 : Int64)) (57297358521416047 : Int64)) (14628 : Int64)) p0))) ∧ (¬ (p0 < 9) → (((12 < p0) → (((p0 < 13) → ok_M_simple u0 p0) ∧ (¬ (p0 < 13) → (ok_M_word u0 (38195999909605738 : Int64)) ∧ (ok_M_word (ff_M_word u0 (38195999909605738 : Int64)) (57297358521416047 : Int64)) ∧ (ok_M_word (ff_M_word (ff_M_word u0 (38195999909605738 : Int64)) (57297358521416047 : Int64)) (14628 : Int64)) ∧ ok_M_simple (ff_M_word (ff_M_word (ff_M_word u0 (38195999909605738 : Int64)) (57297358521416047 : Int64)) (14628 : Int64)) p0))) ∧ (¬ (12 < p0) → (ok_M_word u0 (28659527854 : Int64)) ∧ (((p0 = 11) → (ok_M_word (ff_M_word u0 (28659527854 : Int64)) (13551 : Int64)) ∧ (ok_M_letter (ff_M_word (ff_M_word u0 (28659527854 : Int64)) (13551 : Int64)) (46 : Int32)) ∧ (((p0 < 13) → ok_M_simple (ff_M_letter (ff_M_word (ff_M_word u0 (28659527854 : Int64)) (13551 : Int64)) (46 : Int32)) p0) ∧ (¬ (p0 < 13) → (ok_M_word (ff_M_letter (ff_M_word (ff_M_word u0 (28659527854 : Int64)) (13551 : Int64)) (46 : Int32)) (38195999909605738 : Int64)) ∧ (ok_M_word (ff_M_word (ff_M_letter (ff_M_word (ff_M_word u0 (28659527854 : Int64)) (13551 : Int64)) (46 : Int32)) (38195999909605738 : Int64)) (57297358521416047 : Int64)) ∧ (ok_M_word (ff_M_word (ff_M_word (ff_M_letter (ff_M_word (ff_M_word u0 (28659527854 : Int64)) (13551 : Int64)) (46 : Int32)) (38195999909605738 : Int64)) (57297358521416047 : Int64)) (14628 : Int64)) ∧ ok_M_simple (ff_M_word (ff_M_word (ff_M_word (ff_M_letter (ff_M_word (ff_M_word u0 (28659527854 : Int64)) (13551 : Int64)) (46 : Int32)) (38195999909605738 : Int64)) (57297358521416047 : Int64)) (14628 : Int64)) p0))) ∧ (¬ (p0 = 11) → (ok_M_word (ff_M_word u0 (28659527854 : Int64)) (228095847 : Int64)) ∧ (ok_M_letter (ff_M_word (ff_M_word u0 (28659527854 : Int64)) (228095847 : Int64)) (46 : Int32)) ∧ (((p0 < 13) → ok_M_simple (ff_M_letter (ff_M_word (ff_M_word u0 (28659527854 : Int64)) (228095847 : Int64)) (46 : Int32)) p0) ∧ (¬ (p0 < 13) → (ok_M_word (ff_M_letter (ff_M_word (ff_M_word u0 (28659527854 : Int64)) (228095847 : Int64)) (46 : Int32)) (38195999909605738 : Int64)) ∧ (ok_M_word (ff_M_word (ff_M_letter (ff_M_word (ff_M_word u0 (28659527854 : Int64)) (228095847 : Int64)) (46 : Int32)) (38195999909605738 : Int64)) (57297358521416047 : Int64)) ∧ (ok_M_word (ff_M_word (ff_M_word (ff_M_letter (ff_M_word (ff_M_word u0 (28659527854 : Int64)) (228095847 : Int64)) (46 : Int32)) (38195999909605738 : Int64)) (57297358521416047 : Int64)) (14628 : Int64)) ∧ ok_M_simple (ff_M_word (ff_M_word (ff_M_word (ff_M_letter (ff_M_word (ff_M_word u0 (28659527854 : Int64)) (228095847 : Int64)) (46 : Int32)) (38195999909605738 : Int64)) (57297358521416047 : Int64)) (14628 : Int64)) p0))))))))
abbrev ws_M_name : List Cond := .code yy_M_name bb_M_name 2 (none) :: gW
abbrev rm_M_name : Room := { frames := 3, cells := 0, slots := 0, locals := 66 }
set_option maxHeartbeats 4000000 in
set_option maxRecDepth 100000 in
theorem mm_M_name (l : Launch) (dC : Nat → ClassId) (dI : Nat → Nat → Nat) (h : Nat) (a : Nat → Nat) (k : Nat → ClassId) (u0 : SM) (p0 : Int32) (hok : ok_M_name u0 p0) : Met l yy_M_name ws_M_name rm_M_name (va_Pc [.ref h, .int p0] (pM dC dI h a k u0)) (va_Qv (fun v : SM => v = ff_M_name u0 p0) (pM dC dI h a k) (aM h a)) 0 0 (aM h a) := by
  refine Met.ofW (cc := bb_M_name) (maxL := 2) (ret := (none)) (by decide) rfl ?_
  intro p e s m args below meth c s₁ B hml hv
  obtain ⟨rfl, hP, hK, hD⟩ := hv
  have hx := B.exec
  have hb := B.bytes
  have hr := B.returns
  have hts : ∀ w ∈ gW, w.before _ s = true := fun w h => atoms_spec (ws := ws_M_name) B.pre w (List.mem_cons_of_mem _ h)
  have hown : s.vm.findClass "ClassObjectMirrorModel" = some m.cls := findClass_of_methodNamed B.named
  have hlocks := B.notSynchronized
  have hS : va_S (aM h a) s.heap s.heap [] := va_S.rf
  have hl := lv_entry ([.ref h, .int p0]) (n := 2) (Nat.le_of_ble_eq_true rfl)
  rw [lg_entry_eq]
  generalize (lg_sl ([.ref h, .int p0]) ++ List.replicate (2 - (lg_sl ([.ref h, .int p0])).length) Slot.unset).toArray = ls at hl ⊢
  have hl : lv_has ls 2 [(0, .ref h), (1, .int p0)] := hl
  have hf := ff_M_name.eq_1 u0 p0
  unfold ok_M_name at hok
  refine lv_iload_n hx hb dd_M_name_0 rfl (lv_at hl 1 rfl) ?_
  refine lv_bipush (v := 9) hx hb dd_M_name_1 (by decide) ?_
  refine lv_icmp_lt (tgt := 48) hx hb dd_M_name_3 (by decide) (fun c1 => ?_) (fun c1 => ?_)
  · have hf := hf.trans (if_pos c1)
    have hok := hok.1 c1
    refine lv_iload_n hx hb dd_M_name_48 rfl (lv_at hl 1 rfl) ?_
    refine lv_bipush (v := 13) hx hb dd_M_name_49 (by decide) ?_
    refine lv_icmp_lt (tgt := 75) hx hb dd_M_name_51 (by decide) (fun c2 => ?_) (fun c2 => ?_)
    · have hf := hf.trans (if_pos c2)
      have hok := hok.1 c2
      refine lv_aload_n hx hb dd_M_name_75 rfl (lv_at hl 0 rfl) ?_
      refine lv_iload_n hx hb dd_M_name_76 rfl (lv_at hl 1 rfl) ?_
      have n3 := hok
      refine va_callv (va_runV (As := [.int p0]) (rest := []) ⟨hx, hb, hml, hown, hts⟩ (mm_M_simple l dC dI h a k u0 p0 n3) (cwV 1 hts (gg_V gw_415 gw_417 gs_27 gw_2 gw_418) rfl rfl rfl (by decide +kernel) ⟨Nat.le_of_ble_eq_true rfl, Nat.le_of_ble_eq_true rfl⟩) ⟨pM_bl, va_recv hK hP (ci := 0) (q0 := 0) rfl rfl, fun U hU hW => ⟨rfl, pM_up hP hK hD hU hW⟩⟩ rfl rfl hl.1 rfl (lv_room (Nat.le_of_ble_eq_true rfl)) dd_M_name_77 ⟨Nat.zero_le _, Nat.zero_le _⟩) hS (fun q _ h => h) (fun q h => h) (fun v9 t9 H locs ht9 hvm9 hw9 hB9 hz9 hk9 hS => ?_)
      subst hw9
      obtain ⟨hP, -, hD⟩ := hB9
      rw [ht9] at hP
      exact W.vret hx hb hr (fun t ht hW => ⟨⟨ff_M_simple u0 p0, rfl, hf.symm, pM_up hP hK hD ht hW⟩, hS.F ht⟩) hS.2.2 dd_M_name_80
    · have hf := hf.trans (if_neg c2)
      have hok := hok.2 c2
      refine lv_aload_n hx hb dd_M_name_54 rfl (lv_at hl 0 rfl) ?_
      refine lv_ldc2 (v := 38195999909605738) hx hb hown (hts _ gw_412) dd_M_name_55 ?_
      obtain ⟨n4, hok⟩ := hok
      refine va_callv (va_runV (As := [.long 38195999909605738]) (rest := []) ⟨hx, hb, hml, hown, hts⟩ (mm_M_word l dC dI h a k u0 (38195999909605738 : Int64) n4) (cwV 1 hts (gg_V gw_405 gw_407 gs_26 gw_2 gw_408) rfl rfl rfl (by decide +kernel) ⟨Nat.le_of_ble_eq_true rfl, Nat.le_of_ble_eq_true rfl⟩) ⟨pM_bl, va_recv hK hP (ci := 0) (q0 := 0) rfl rfl, fun U hU hW => ⟨rfl, pM_up hP hK hD hU hW⟩⟩ rfl rfl hl.1 rfl (lv_room (Nat.le_of_ble_eq_true rfl)) dd_M_name_58 ⟨Nat.zero_le _, Nat.zero_le _⟩) hS (fun q _ h => h) (fun q h => h) (fun v9 t9 H locs ht9 hvm9 hw9 hB9 hz9 hk9 hS => ?_)
      subst hw9
      obtain ⟨hP, -, hD⟩ := hB9
      rw [ht9] at hP
      refine lv_aload_n hx hb dd_M_name_61 rfl (lv_at hl 0 rfl) ?_
      refine lv_ldc2 (v := 57297358521416047) hx hb hown (hts _ gw_413) dd_M_name_62 ?_
      obtain ⟨n5, hok⟩ := hok
      refine va_callv (va_runV (As := [.long 57297358521416047]) (rest := []) ⟨hx, hb, hml, hown, hts⟩ (mm_M_word l dC dI h a k (ff_M_word u0 (38195999909605738 : Int64)) (57297358521416047 : Int64) n5) (cwV 1 hts (gg_V gw_405 gw_407 gs_26 gw_2 gw_408) rfl rfl rfl (by decide +kernel) ⟨Nat.le_of_ble_eq_true rfl, Nat.le_of_ble_eq_true rfl⟩) ⟨pM_bl, va_recv hK hP (ci := 0) (q0 := 0) rfl rfl, fun U hU hW => ⟨rfl, pM_up hP hK hD hU hW⟩⟩ rfl rfl hl.1 rfl (lv_room (Nat.le_of_ble_eq_true rfl)) dd_M_name_65 ⟨Nat.zero_le _, Nat.zero_le _⟩) hS (fun q _ h => h) (fun q h => h) (fun v9 t9 H locs ht9 hvm9 hw9 hB9 hz9 hk9 hS => ?_)
      subst hw9
      obtain ⟨hP, -, hD⟩ := hB9
      rw [ht9] at hP
      refine lv_aload_n hx hb dd_M_name_68 rfl (lv_at hl 0 rfl) ?_
      refine lv_ldc2 (v := 14628) hx hb hown (hts _ gw_414) dd_M_name_69 ?_
      obtain ⟨n6, hok⟩ := hok
      refine va_callv (va_runV (As := [.long 14628]) (rest := []) ⟨hx, hb, hml, hown, hts⟩ (mm_M_word l dC dI h a k (ff_M_word (ff_M_word u0 (38195999909605738 : Int64)) (57297358521416047 : Int64)) (14628 : Int64) n6) (cwV 1 hts (gg_V gw_405 gw_407 gs_26 gw_2 gw_408) rfl rfl rfl (by decide +kernel) ⟨Nat.le_of_ble_eq_true rfl, Nat.le_of_ble_eq_true rfl⟩) ⟨pM_bl, va_recv hK hP (ci := 0) (q0 := 0) rfl rfl, fun U hU hW => ⟨rfl, pM_up hP hK hD hU hW⟩⟩ rfl rfl hl.1 rfl (lv_room (Nat.le_of_ble_eq_true rfl)) dd_M_name_72 ⟨Nat.zero_le _, Nat.zero_le _⟩) hS (fun q _ h => h) (fun q h => h) (fun v9 t9 H locs ht9 hvm9 hw9 hB9 hz9 hk9 hS => ?_)
      subst hw9
      obtain ⟨hP, -, hD⟩ := hB9
      rw [ht9] at hP
      refine lv_aload_n hx hb dd_M_name_75 rfl (lv_at hl 0 rfl) ?_
      refine lv_iload_n hx hb dd_M_name_76 rfl (lv_at hl 1 rfl) ?_
      have n7 := hok
      refine va_callv (va_runV (As := [.int p0]) (rest := []) ⟨hx, hb, hml, hown, hts⟩ (mm_M_simple l dC dI h a k (ff_M_word (ff_M_word (ff_M_word u0 (38195999909605738 : Int64)) (57297358521416047 : Int64)) (14628 : Int64)) p0 n7) (cwV 1 hts (gg_V gw_415 gw_417 gs_27 gw_2 gw_418) rfl rfl rfl (by decide +kernel) ⟨Nat.le_of_ble_eq_true rfl, Nat.le_of_ble_eq_true rfl⟩) ⟨pM_bl, va_recv hK hP (ci := 0) (q0 := 0) rfl rfl, fun U hU hW => ⟨rfl, pM_up hP hK hD hU hW⟩⟩ rfl rfl hl.1 rfl (lv_room (Nat.le_of_ble_eq_true rfl)) dd_M_name_77 ⟨Nat.zero_le _, Nat.zero_le _⟩) hS (fun q _ h => h) (fun q h => h) (fun v9 t9 H locs ht9 hvm9 hw9 hB9 hz9 hk9 hS => ?_)
      subst hw9
      obtain ⟨hP, -, hD⟩ := hB9
      rw [ht9] at hP
      exact W.vret hx hb hr (fun t ht hW => ⟨⟨ff_M_simple (ff_M_word (ff_M_word (ff_M_word u0 (38195999909605738 : Int64)) (57297358521416047 : Int64)) (14628 : Int64)) p0, rfl, hf.symm, pM_up hP hK hD ht hW⟩, hS.F ht⟩) hS.2.2 dd_M_name_80
  · have hf := hf.trans (if_neg c1)
    have hok := hok.2 c1
    refine lv_iload_n hx hb dd_M_name_6 rfl (lv_at hl 1 rfl) ?_
    refine lv_bipush (v := 12) hx hb dd_M_name_7 (by decide) ?_
    refine lv_icmp_gt (tgt := 48) hx hb dd_M_name_9 (by decide) (fun c8 => ?_) (fun c8 => ?_)
    · have hf := hf.trans (if_pos c8)
      have hok := hok.1 c8
      refine lv_iload_n hx hb dd_M_name_48 rfl (lv_at hl 1 rfl) ?_
      refine lv_bipush (v := 13) hx hb dd_M_name_49 (by decide) ?_
      refine lv_icmp_lt (tgt := 75) hx hb dd_M_name_51 (by decide) (fun c9 => ?_) (fun c9 => ?_)
      · have hf := hf.trans (if_pos c9)
        have hok := hok.1 c9
        refine lv_aload_n hx hb dd_M_name_75 rfl (lv_at hl 0 rfl) ?_
        refine lv_iload_n hx hb dd_M_name_76 rfl (lv_at hl 1 rfl) ?_
        have n10 := hok
        refine va_callv (va_runV (As := [.int p0]) (rest := []) ⟨hx, hb, hml, hown, hts⟩ (mm_M_simple l dC dI h a k u0 p0 n10) (cwV 1 hts (gg_V gw_415 gw_417 gs_27 gw_2 gw_418) rfl rfl rfl (by decide +kernel) ⟨Nat.le_of_ble_eq_true rfl, Nat.le_of_ble_eq_true rfl⟩) ⟨pM_bl, va_recv hK hP (ci := 0) (q0 := 0) rfl rfl, fun U hU hW => ⟨rfl, pM_up hP hK hD hU hW⟩⟩ rfl rfl hl.1 rfl (lv_room (Nat.le_of_ble_eq_true rfl)) dd_M_name_77 ⟨Nat.zero_le _, Nat.zero_le _⟩) hS (fun q _ h => h) (fun q h => h) (fun v9 t9 H locs ht9 hvm9 hw9 hB9 hz9 hk9 hS => ?_)
        subst hw9
        obtain ⟨hP, -, hD⟩ := hB9
        rw [ht9] at hP
        exact W.vret hx hb hr (fun t ht hW => ⟨⟨ff_M_simple u0 p0, rfl, hf.symm, pM_up hP hK hD ht hW⟩, hS.F ht⟩) hS.2.2 dd_M_name_80
      · have hf := hf.trans (if_neg c9)
        have hok := hok.2 c9
        refine lv_aload_n hx hb dd_M_name_54 rfl (lv_at hl 0 rfl) ?_
        refine lv_ldc2 (v := 38195999909605738) hx hb hown (hts _ gw_412) dd_M_name_55 ?_
        obtain ⟨n11, hok⟩ := hok
        refine va_callv (va_runV (As := [.long 38195999909605738]) (rest := []) ⟨hx, hb, hml, hown, hts⟩ (mm_M_word l dC dI h a k u0 (38195999909605738 : Int64) n11) (cwV 1 hts (gg_V gw_405 gw_407 gs_26 gw_2 gw_408) rfl rfl rfl (by decide +kernel) ⟨Nat.le_of_ble_eq_true rfl, Nat.le_of_ble_eq_true rfl⟩) ⟨pM_bl, va_recv hK hP (ci := 0) (q0 := 0) rfl rfl, fun U hU hW => ⟨rfl, pM_up hP hK hD hU hW⟩⟩ rfl rfl hl.1 rfl (lv_room (Nat.le_of_ble_eq_true rfl)) dd_M_name_58 ⟨Nat.zero_le _, Nat.zero_le _⟩) hS (fun q _ h => h) (fun q h => h) (fun v9 t9 H locs ht9 hvm9 hw9 hB9 hz9 hk9 hS => ?_)
        subst hw9
        obtain ⟨hP, -, hD⟩ := hB9
        rw [ht9] at hP
        refine lv_aload_n hx hb dd_M_name_61 rfl (lv_at hl 0 rfl) ?_
        refine lv_ldc2 (v := 57297358521416047) hx hb hown (hts _ gw_413) dd_M_name_62 ?_
        obtain ⟨n12, hok⟩ := hok
        refine va_callv (va_runV (As := [.long 57297358521416047]) (rest := []) ⟨hx, hb, hml, hown, hts⟩ (mm_M_word l dC dI h a k (ff_M_word u0 (38195999909605738 : Int64)) (57297358521416047 : Int64) n12) (cwV 1 hts (gg_V gw_405 gw_407 gs_26 gw_2 gw_408) rfl rfl rfl (by decide +kernel) ⟨Nat.le_of_ble_eq_true rfl, Nat.le_of_ble_eq_true rfl⟩) ⟨pM_bl, va_recv hK hP (ci := 0) (q0 := 0) rfl rfl, fun U hU hW => ⟨rfl, pM_up hP hK hD hU hW⟩⟩ rfl rfl hl.1 rfl (lv_room (Nat.le_of_ble_eq_true rfl)) dd_M_name_65 ⟨Nat.zero_le _, Nat.zero_le _⟩) hS (fun q _ h => h) (fun q h => h) (fun v9 t9 H locs ht9 hvm9 hw9 hB9 hz9 hk9 hS => ?_)
        subst hw9
        obtain ⟨hP, -, hD⟩ := hB9
        rw [ht9] at hP
        refine lv_aload_n hx hb dd_M_name_68 rfl (lv_at hl 0 rfl) ?_
        refine lv_ldc2 (v := 14628) hx hb hown (hts _ gw_414) dd_M_name_69 ?_
        obtain ⟨n13, hok⟩ := hok
        refine va_callv (va_runV (As := [.long 14628]) (rest := []) ⟨hx, hb, hml, hown, hts⟩ (mm_M_word l dC dI h a k (ff_M_word (ff_M_word u0 (38195999909605738 : Int64)) (57297358521416047 : Int64)) (14628 : Int64) n13) (cwV 1 hts (gg_V gw_405 gw_407 gs_26 gw_2 gw_408) rfl rfl rfl (by decide +kernel) ⟨Nat.le_of_ble_eq_true rfl, Nat.le_of_ble_eq_true rfl⟩) ⟨pM_bl, va_recv hK hP (ci := 0) (q0 := 0) rfl rfl, fun U hU hW => ⟨rfl, pM_up hP hK hD hU hW⟩⟩ rfl rfl hl.1 rfl (lv_room (Nat.le_of_ble_eq_true rfl)) dd_M_name_72 ⟨Nat.zero_le _, Nat.zero_le _⟩) hS (fun q _ h => h) (fun q h => h) (fun v9 t9 H locs ht9 hvm9 hw9 hB9 hz9 hk9 hS => ?_)
        subst hw9
        obtain ⟨hP, -, hD⟩ := hB9
        rw [ht9] at hP
        refine lv_aload_n hx hb dd_M_name_75 rfl (lv_at hl 0 rfl) ?_
        refine lv_iload_n hx hb dd_M_name_76 rfl (lv_at hl 1 rfl) ?_
        have n14 := hok
        refine va_callv (va_runV (As := [.int p0]) (rest := []) ⟨hx, hb, hml, hown, hts⟩ (mm_M_simple l dC dI h a k (ff_M_word (ff_M_word (ff_M_word u0 (38195999909605738 : Int64)) (57297358521416047 : Int64)) (14628 : Int64)) p0 n14) (cwV 1 hts (gg_V gw_415 gw_417 gs_27 gw_2 gw_418) rfl rfl rfl (by decide +kernel) ⟨Nat.le_of_ble_eq_true rfl, Nat.le_of_ble_eq_true rfl⟩) ⟨pM_bl, va_recv hK hP (ci := 0) (q0 := 0) rfl rfl, fun U hU hW => ⟨rfl, pM_up hP hK hD hU hW⟩⟩ rfl rfl hl.1 rfl (lv_room (Nat.le_of_ble_eq_true rfl)) dd_M_name_77 ⟨Nat.zero_le _, Nat.zero_le _⟩) hS (fun q _ h => h) (fun q h => h) (fun v9 t9 H locs ht9 hvm9 hw9 hB9 hz9 hk9 hS => ?_)
        subst hw9
        obtain ⟨hP, -, hD⟩ := hB9
        rw [ht9] at hP
        exact W.vret hx hb hr (fun t ht hW => ⟨⟨ff_M_simple (ff_M_word (ff_M_word (ff_M_word u0 (38195999909605738 : Int64)) (57297358521416047 : Int64)) (14628 : Int64)) p0, rfl, hf.symm, pM_up hP hK hD ht hW⟩, hS.F ht⟩) hS.2.2 dd_M_name_80
    · have hf := hf.trans (if_neg c8)
      have hok := hok.2 c8
      refine lv_aload_n hx hb dd_M_name_12 rfl (lv_at hl 0 rfl) ?_
      refine lv_ldc2 (v := 28659527854) hx hb hown (hts _ gw_404) dd_M_name_13 ?_
      obtain ⟨n15, hok⟩ := hok
      refine va_callv (va_runV (As := [.long 28659527854]) (rest := []) ⟨hx, hb, hml, hown, hts⟩ (mm_M_word l dC dI h a k u0 (28659527854 : Int64) n15) (cwV 1 hts (gg_V gw_405 gw_407 gs_26 gw_2 gw_408) rfl rfl rfl (by decide +kernel) ⟨Nat.le_of_ble_eq_true rfl, Nat.le_of_ble_eq_true rfl⟩) ⟨pM_bl, va_recv hK hP (ci := 0) (q0 := 0) rfl rfl, fun U hU hW => ⟨rfl, pM_up hP hK hD hU hW⟩⟩ rfl rfl hl.1 rfl (lv_room (Nat.le_of_ble_eq_true rfl)) dd_M_name_16 ⟨Nat.zero_le _, Nat.zero_le _⟩) hS (fun q _ h => h) (fun q h => h) (fun v9 t9 H locs ht9 hvm9 hw9 hB9 hz9 hk9 hS => ?_)
      subst hw9
      obtain ⟨hP, -, hD⟩ := hB9
      rw [ht9] at hP
      refine lv_iload_n hx hb dd_M_name_19 rfl (lv_at hl 1 rfl) ?_
      refine lv_bipush (v := 11) hx hb dd_M_name_20 (by decide) ?_
      refine lv_icmp_ne (tgt := 35) hx hb dd_M_name_22 (by decide) (fun c16 => ?_) (fun c16 => ?_)
      · have hf := hf.trans (if_neg c16)
        have hok := hok.2 c16
        refine lv_aload_n hx hb dd_M_name_35 rfl (lv_at hl 0 rfl) ?_
        refine lv_ldc2 (v := 228095847) hx hb hown (hts _ gw_411) dd_M_name_36 ?_
        obtain ⟨n17, hok⟩ := hok
        refine va_callv (va_runV (As := [.long 228095847]) (rest := []) ⟨hx, hb, hml, hown, hts⟩ (mm_M_word l dC dI h a k (ff_M_word u0 (28659527854 : Int64)) (228095847 : Int64) n17) (cwV 1 hts (gg_V gw_405 gw_407 gs_26 gw_2 gw_408) rfl rfl rfl (by decide +kernel) ⟨Nat.le_of_ble_eq_true rfl, Nat.le_of_ble_eq_true rfl⟩) ⟨pM_bl, va_recv hK hP (ci := 0) (q0 := 0) rfl rfl, fun U hU hW => ⟨rfl, pM_up hP hK hD hU hW⟩⟩ rfl rfl hl.1 rfl (lv_room (Nat.le_of_ble_eq_true rfl)) dd_M_name_39 ⟨Nat.zero_le _, Nat.zero_le _⟩) hS (fun q _ h => h) (fun q h => h) (fun v9 t9 H locs ht9 hvm9 hw9 hB9 hz9 hk9 hS => ?_)
        subst hw9
        obtain ⟨hP, -, hD⟩ := hB9
        rw [ht9] at hP
        refine lv_aload_n hx hb dd_M_name_42 rfl (lv_at hl 0 rfl) ?_
        refine lv_bipush (v := 46) hx hb dd_M_name_43 (by decide) ?_
        obtain ⟨n18, hok⟩ := hok
        refine va_callv (va_runV (As := [.int 46]) (rest := []) ⟨hx, hb, hml, hown, hts⟩ (mm_M_letter l dC dI h a k (ff_M_word (ff_M_word u0 (28659527854 : Int64)) (228095847 : Int64)) (46 : Int32) n18) (cwV 1 hts (gg_V gw_393 gw_395 gs_24 gw_2 gw_396) rfl rfl rfl (by decide +kernel) ⟨Nat.le_of_ble_eq_true rfl, Nat.le_of_ble_eq_true rfl⟩) ⟨pM_bl, va_recv hK hP (ci := 0) (q0 := 0) rfl rfl, fun U hU hW => ⟨rfl, pM_up hP hK hD hU hW⟩⟩ rfl rfl hl.1 rfl (lv_room (Nat.le_of_ble_eq_true rfl)) dd_M_name_45 ⟨Nat.zero_le _, Nat.zero_le _⟩) hS (fun q _ h => h) (fun q h => h) (fun v9 t9 H locs ht9 hvm9 hw9 hB9 hz9 hk9 hS => ?_)
        subst hw9
        obtain ⟨hP, -, hD⟩ := hB9
        rw [ht9] at hP
        refine lv_iload_n hx hb dd_M_name_48 rfl (lv_at hl 1 rfl) ?_
        refine lv_bipush (v := 13) hx hb dd_M_name_49 (by decide) ?_
        refine lv_icmp_lt (tgt := 75) hx hb dd_M_name_51 (by decide) (fun c19 => ?_) (fun c19 => ?_)
        · have hf := hf.trans (if_pos c19)
          have hok := hok.1 c19
          refine lv_aload_n hx hb dd_M_name_75 rfl (lv_at hl 0 rfl) ?_
          refine lv_iload_n hx hb dd_M_name_76 rfl (lv_at hl 1 rfl) ?_
          have n20 := hok
          refine va_callv (va_runV (As := [.int p0]) (rest := []) ⟨hx, hb, hml, hown, hts⟩ (mm_M_simple l dC dI h a k (ff_M_letter (ff_M_word (ff_M_word u0 (28659527854 : Int64)) (228095847 : Int64)) (46 : Int32)) p0 n20) (cwV 1 hts (gg_V gw_415 gw_417 gs_27 gw_2 gw_418) rfl rfl rfl (by decide +kernel) ⟨Nat.le_of_ble_eq_true rfl, Nat.le_of_ble_eq_true rfl⟩) ⟨pM_bl, va_recv hK hP (ci := 0) (q0 := 0) rfl rfl, fun U hU hW => ⟨rfl, pM_up hP hK hD hU hW⟩⟩ rfl rfl hl.1 rfl (lv_room (Nat.le_of_ble_eq_true rfl)) dd_M_name_77 ⟨Nat.zero_le _, Nat.zero_le _⟩) hS (fun q _ h => h) (fun q h => h) (fun v9 t9 H locs ht9 hvm9 hw9 hB9 hz9 hk9 hS => ?_)
          subst hw9
          obtain ⟨hP, -, hD⟩ := hB9
          rw [ht9] at hP
          exact W.vret hx hb hr (fun t ht hW => ⟨⟨ff_M_simple (ff_M_letter (ff_M_word (ff_M_word u0 (28659527854 : Int64)) (228095847 : Int64)) (46 : Int32)) p0, rfl, hf.symm, pM_up hP hK hD ht hW⟩, hS.F ht⟩) hS.2.2 dd_M_name_80
        · have hf := hf.trans (if_neg c19)
          have hok := hok.2 c19
          refine lv_aload_n hx hb dd_M_name_54 rfl (lv_at hl 0 rfl) ?_
          refine lv_ldc2 (v := 38195999909605738) hx hb hown (hts _ gw_412) dd_M_name_55 ?_
          obtain ⟨n21, hok⟩ := hok
          refine va_callv (va_runV (As := [.long 38195999909605738]) (rest := []) ⟨hx, hb, hml, hown, hts⟩ (mm_M_word l dC dI h a k (ff_M_letter (ff_M_word (ff_M_word u0 (28659527854 : Int64)) (228095847 : Int64)) (46 : Int32)) (38195999909605738 : Int64) n21) (cwV 1 hts (gg_V gw_405 gw_407 gs_26 gw_2 gw_408) rfl rfl rfl (by decide +kernel) ⟨Nat.le_of_ble_eq_true rfl, Nat.le_of_ble_eq_true rfl⟩) ⟨pM_bl, va_recv hK hP (ci := 0) (q0 := 0) rfl rfl, fun U hU hW => ⟨rfl, pM_up hP hK hD hU hW⟩⟩ rfl rfl hl.1 rfl (lv_room (Nat.le_of_ble_eq_true rfl)) dd_M_name_58 ⟨Nat.zero_le _, Nat.zero_le _⟩) hS (fun q _ h => h) (fun q h => h) (fun v9 t9 H locs ht9 hvm9 hw9 hB9 hz9 hk9 hS => ?_)
          subst hw9
          obtain ⟨hP, -, hD⟩ := hB9
          rw [ht9] at hP
          refine lv_aload_n hx hb dd_M_name_61 rfl (lv_at hl 0 rfl) ?_
          refine lv_ldc2 (v := 57297358521416047) hx hb hown (hts _ gw_413) dd_M_name_62 ?_
          obtain ⟨n22, hok⟩ := hok
          refine va_callv (va_runV (As := [.long 57297358521416047]) (rest := []) ⟨hx, hb, hml, hown, hts⟩ (mm_M_word l dC dI h a k (ff_M_word (ff_M_letter (ff_M_word (ff_M_word u0 (28659527854 : Int64)) (228095847 : Int64)) (46 : Int32)) (38195999909605738 : Int64)) (57297358521416047 : Int64) n22) (cwV 1 hts (gg_V gw_405 gw_407 gs_26 gw_2 gw_408) rfl rfl rfl (by decide +kernel) ⟨Nat.le_of_ble_eq_true rfl, Nat.le_of_ble_eq_true rfl⟩) ⟨pM_bl, va_recv hK hP (ci := 0) (q0 := 0) rfl rfl, fun U hU hW => ⟨rfl, pM_up hP hK hD hU hW⟩⟩ rfl rfl hl.1 rfl (lv_room (Nat.le_of_ble_eq_true rfl)) dd_M_name_65 ⟨Nat.zero_le _, Nat.zero_le _⟩) hS (fun q _ h => h) (fun q h => h) (fun v9 t9 H locs ht9 hvm9 hw9 hB9 hz9 hk9 hS => ?_)
          subst hw9
          obtain ⟨hP, -, hD⟩ := hB9
          rw [ht9] at hP
          refine lv_aload_n hx hb dd_M_name_68 rfl (lv_at hl 0 rfl) ?_
          refine lv_ldc2 (v := 14628) hx hb hown (hts _ gw_414) dd_M_name_69 ?_
          obtain ⟨n23, hok⟩ := hok
          refine va_callv (va_runV (As := [.long 14628]) (rest := []) ⟨hx, hb, hml, hown, hts⟩ (mm_M_word l dC dI h a k (ff_M_word (ff_M_word (ff_M_letter (ff_M_word (ff_M_word u0 (28659527854 : Int64)) (228095847 : Int64)) (46 : Int32)) (38195999909605738 : Int64)) (57297358521416047 : Int64)) (14628 : Int64) n23) (cwV 1 hts (gg_V gw_405 gw_407 gs_26 gw_2 gw_408) rfl rfl rfl (by decide +kernel) ⟨Nat.le_of_ble_eq_true rfl, Nat.le_of_ble_eq_true rfl⟩) ⟨pM_bl, va_recv hK hP (ci := 0) (q0 := 0) rfl rfl, fun U hU hW => ⟨rfl, pM_up hP hK hD hU hW⟩⟩ rfl rfl hl.1 rfl (lv_room (Nat.le_of_ble_eq_true rfl)) dd_M_name_72 ⟨Nat.zero_le _, Nat.zero_le _⟩) hS (fun q _ h => h) (fun q h => h) (fun v9 t9 H locs ht9 hvm9 hw9 hB9 hz9 hk9 hS => ?_)
          subst hw9
          obtain ⟨hP, -, hD⟩ := hB9
          rw [ht9] at hP
          refine lv_aload_n hx hb dd_M_name_75 rfl (lv_at hl 0 rfl) ?_
          refine lv_iload_n hx hb dd_M_name_76 rfl (lv_at hl 1 rfl) ?_
          have n24 := hok
          refine va_callv (va_runV (As := [.int p0]) (rest := []) ⟨hx, hb, hml, hown, hts⟩ (mm_M_simple l dC dI h a k (ff_M_word (ff_M_word (ff_M_word (ff_M_letter (ff_M_word (ff_M_word u0 (28659527854 : Int64)) (228095847 : Int64)) (46 : Int32)) (38195999909605738 : Int64)) (57297358521416047 : Int64)) (14628 : Int64)) p0 n24) (cwV 1 hts (gg_V gw_415 gw_417 gs_27 gw_2 gw_418) rfl rfl rfl (by decide +kernel) ⟨Nat.le_of_ble_eq_true rfl, Nat.le_of_ble_eq_true rfl⟩) ⟨pM_bl, va_recv hK hP (ci := 0) (q0 := 0) rfl rfl, fun U hU hW => ⟨rfl, pM_up hP hK hD hU hW⟩⟩ rfl rfl hl.1 rfl (lv_room (Nat.le_of_ble_eq_true rfl)) dd_M_name_77 ⟨Nat.zero_le _, Nat.zero_le _⟩) hS (fun q _ h => h) (fun q h => h) (fun v9 t9 H locs ht9 hvm9 hw9 hB9 hz9 hk9 hS => ?_)
          subst hw9
          obtain ⟨hP, -, hD⟩ := hB9
          rw [ht9] at hP
          exact W.vret hx hb hr (fun t ht hW => ⟨⟨ff_M_simple (ff_M_word (ff_M_word (ff_M_word (ff_M_letter (ff_M_word (ff_M_word u0 (28659527854 : Int64)) (228095847 : Int64)) (46 : Int32)) (38195999909605738 : Int64)) (57297358521416047 : Int64)) (14628 : Int64)) p0, rfl, hf.symm, pM_up hP hK hD ht hW⟩, hS.F ht⟩) hS.2.2 dd_M_name_80
      · have hf := hf.trans (if_pos c16)
        have hok := hok.1 c16
        refine lv_aload_n hx hb dd_M_name_25 rfl (lv_at hl 0 rfl) ?_
        refine lv_ldc2 (v := 13551) hx hb hown (hts _ gw_410) dd_M_name_26 ?_
        obtain ⟨n25, hok⟩ := hok
        refine va_callv (va_runV (As := [.long 13551]) (rest := []) ⟨hx, hb, hml, hown, hts⟩ (mm_M_word l dC dI h a k (ff_M_word u0 (28659527854 : Int64)) (13551 : Int64) n25) (cwV 1 hts (gg_V gw_405 gw_407 gs_26 gw_2 gw_408) rfl rfl rfl (by decide +kernel) ⟨Nat.le_of_ble_eq_true rfl, Nat.le_of_ble_eq_true rfl⟩) ⟨pM_bl, va_recv hK hP (ci := 0) (q0 := 0) rfl rfl, fun U hU hW => ⟨rfl, pM_up hP hK hD hU hW⟩⟩ rfl rfl hl.1 rfl (lv_room (Nat.le_of_ble_eq_true rfl)) dd_M_name_29 ⟨Nat.zero_le _, Nat.zero_le _⟩) hS (fun q _ h => h) (fun q h => h) (fun v9 t9 H locs ht9 hvm9 hw9 hB9 hz9 hk9 hS => ?_)
        subst hw9
        obtain ⟨hP, -, hD⟩ := hB9
        rw [ht9] at hP
        refine lv_goto (tgt := 42) hx hb dd_M_name_32 (by decide) ?_
        refine lv_aload_n hx hb dd_M_name_42 rfl (lv_at hl 0 rfl) ?_
        refine lv_bipush (v := 46) hx hb dd_M_name_43 (by decide) ?_
        obtain ⟨n26, hok⟩ := hok
        refine va_callv (va_runV (As := [.int 46]) (rest := []) ⟨hx, hb, hml, hown, hts⟩ (mm_M_letter l dC dI h a k (ff_M_word (ff_M_word u0 (28659527854 : Int64)) (13551 : Int64)) (46 : Int32) n26) (cwV 1 hts (gg_V gw_393 gw_395 gs_24 gw_2 gw_396) rfl rfl rfl (by decide +kernel) ⟨Nat.le_of_ble_eq_true rfl, Nat.le_of_ble_eq_true rfl⟩) ⟨pM_bl, va_recv hK hP (ci := 0) (q0 := 0) rfl rfl, fun U hU hW => ⟨rfl, pM_up hP hK hD hU hW⟩⟩ rfl rfl hl.1 rfl (lv_room (Nat.le_of_ble_eq_true rfl)) dd_M_name_45 ⟨Nat.zero_le _, Nat.zero_le _⟩) hS (fun q _ h => h) (fun q h => h) (fun v9 t9 H locs ht9 hvm9 hw9 hB9 hz9 hk9 hS => ?_)
        subst hw9
        obtain ⟨hP, -, hD⟩ := hB9
        rw [ht9] at hP
        refine lv_iload_n hx hb dd_M_name_48 rfl (lv_at hl 1 rfl) ?_
        refine lv_bipush (v := 13) hx hb dd_M_name_49 (by decide) ?_
        refine lv_icmp_lt (tgt := 75) hx hb dd_M_name_51 (by decide) (fun c27 => ?_) (fun c27 => ?_)
        · have hf := hf.trans (if_pos c27)
          have hok := hok.1 c27
          refine lv_aload_n hx hb dd_M_name_75 rfl (lv_at hl 0 rfl) ?_
          refine lv_iload_n hx hb dd_M_name_76 rfl (lv_at hl 1 rfl) ?_
          have n28 := hok
          refine va_callv (va_runV (As := [.int p0]) (rest := []) ⟨hx, hb, hml, hown, hts⟩ (mm_M_simple l dC dI h a k (ff_M_letter (ff_M_word (ff_M_word u0 (28659527854 : Int64)) (13551 : Int64)) (46 : Int32)) p0 n28) (cwV 1 hts (gg_V gw_415 gw_417 gs_27 gw_2 gw_418) rfl rfl rfl (by decide +kernel) ⟨Nat.le_of_ble_eq_true rfl, Nat.le_of_ble_eq_true rfl⟩) ⟨pM_bl, va_recv hK hP (ci := 0) (q0 := 0) rfl rfl, fun U hU hW => ⟨rfl, pM_up hP hK hD hU hW⟩⟩ rfl rfl hl.1 rfl (lv_room (Nat.le_of_ble_eq_true rfl)) dd_M_name_77 ⟨Nat.zero_le _, Nat.zero_le _⟩) hS (fun q _ h => h) (fun q h => h) (fun v9 t9 H locs ht9 hvm9 hw9 hB9 hz9 hk9 hS => ?_)
          subst hw9
          obtain ⟨hP, -, hD⟩ := hB9
          rw [ht9] at hP
          exact W.vret hx hb hr (fun t ht hW => ⟨⟨ff_M_simple (ff_M_letter (ff_M_word (ff_M_word u0 (28659527854 : Int64)) (13551 : Int64)) (46 : Int32)) p0, rfl, hf.symm, pM_up hP hK hD ht hW⟩, hS.F ht⟩) hS.2.2 dd_M_name_80
        · have hf := hf.trans (if_neg c27)
          have hok := hok.2 c27
          refine lv_aload_n hx hb dd_M_name_54 rfl (lv_at hl 0 rfl) ?_
          refine lv_ldc2 (v := 38195999909605738) hx hb hown (hts _ gw_412) dd_M_name_55 ?_
          obtain ⟨n29, hok⟩ := hok
          refine va_callv (va_runV (As := [.long 38195999909605738]) (rest := []) ⟨hx, hb, hml, hown, hts⟩ (mm_M_word l dC dI h a k (ff_M_letter (ff_M_word (ff_M_word u0 (28659527854 : Int64)) (13551 : Int64)) (46 : Int32)) (38195999909605738 : Int64) n29) (cwV 1 hts (gg_V gw_405 gw_407 gs_26 gw_2 gw_408) rfl rfl rfl (by decide +kernel) ⟨Nat.le_of_ble_eq_true rfl, Nat.le_of_ble_eq_true rfl⟩) ⟨pM_bl, va_recv hK hP (ci := 0) (q0 := 0) rfl rfl, fun U hU hW => ⟨rfl, pM_up hP hK hD hU hW⟩⟩ rfl rfl hl.1 rfl (lv_room (Nat.le_of_ble_eq_true rfl)) dd_M_name_58 ⟨Nat.zero_le _, Nat.zero_le _⟩) hS (fun q _ h => h) (fun q h => h) (fun v9 t9 H locs ht9 hvm9 hw9 hB9 hz9 hk9 hS => ?_)
          subst hw9
          obtain ⟨hP, -, hD⟩ := hB9
          rw [ht9] at hP
          refine lv_aload_n hx hb dd_M_name_61 rfl (lv_at hl 0 rfl) ?_
          refine lv_ldc2 (v := 57297358521416047) hx hb hown (hts _ gw_413) dd_M_name_62 ?_
          obtain ⟨n30, hok⟩ := hok
          refine va_callv (va_runV (As := [.long 57297358521416047]) (rest := []) ⟨hx, hb, hml, hown, hts⟩ (mm_M_word l dC dI h a k (ff_M_word (ff_M_letter (ff_M_word (ff_M_word u0 (28659527854 : Int64)) (13551 : Int64)) (46 : Int32)) (38195999909605738 : Int64)) (57297358521416047 : Int64) n30) (cwV 1 hts (gg_V gw_405 gw_407 gs_26 gw_2 gw_408) rfl rfl rfl (by decide +kernel) ⟨Nat.le_of_ble_eq_true rfl, Nat.le_of_ble_eq_true rfl⟩) ⟨pM_bl, va_recv hK hP (ci := 0) (q0 := 0) rfl rfl, fun U hU hW => ⟨rfl, pM_up hP hK hD hU hW⟩⟩ rfl rfl hl.1 rfl (lv_room (Nat.le_of_ble_eq_true rfl)) dd_M_name_65 ⟨Nat.zero_le _, Nat.zero_le _⟩) hS (fun q _ h => h) (fun q h => h) (fun v9 t9 H locs ht9 hvm9 hw9 hB9 hz9 hk9 hS => ?_)
          subst hw9
          obtain ⟨hP, -, hD⟩ := hB9
          rw [ht9] at hP
          refine lv_aload_n hx hb dd_M_name_68 rfl (lv_at hl 0 rfl) ?_
          refine lv_ldc2 (v := 14628) hx hb hown (hts _ gw_414) dd_M_name_69 ?_
          obtain ⟨n31, hok⟩ := hok
          refine va_callv (va_runV (As := [.long 14628]) (rest := []) ⟨hx, hb, hml, hown, hts⟩ (mm_M_word l dC dI h a k (ff_M_word (ff_M_word (ff_M_letter (ff_M_word (ff_M_word u0 (28659527854 : Int64)) (13551 : Int64)) (46 : Int32)) (38195999909605738 : Int64)) (57297358521416047 : Int64)) (14628 : Int64) n31) (cwV 1 hts (gg_V gw_405 gw_407 gs_26 gw_2 gw_408) rfl rfl rfl (by decide +kernel) ⟨Nat.le_of_ble_eq_true rfl, Nat.le_of_ble_eq_true rfl⟩) ⟨pM_bl, va_recv hK hP (ci := 0) (q0 := 0) rfl rfl, fun U hU hW => ⟨rfl, pM_up hP hK hD hU hW⟩⟩ rfl rfl hl.1 rfl (lv_room (Nat.le_of_ble_eq_true rfl)) dd_M_name_72 ⟨Nat.zero_le _, Nat.zero_le _⟩) hS (fun q _ h => h) (fun q h => h) (fun v9 t9 H locs ht9 hvm9 hw9 hB9 hz9 hk9 hS => ?_)
          subst hw9
          obtain ⟨hP, -, hD⟩ := hB9
          rw [ht9] at hP
          refine lv_aload_n hx hb dd_M_name_75 rfl (lv_at hl 0 rfl) ?_
          refine lv_iload_n hx hb dd_M_name_76 rfl (lv_at hl 1 rfl) ?_
          have n32 := hok
          refine va_callv (va_runV (As := [.int p0]) (rest := []) ⟨hx, hb, hml, hown, hts⟩ (mm_M_simple l dC dI h a k (ff_M_word (ff_M_word (ff_M_word (ff_M_letter (ff_M_word (ff_M_word u0 (28659527854 : Int64)) (13551 : Int64)) (46 : Int32)) (38195999909605738 : Int64)) (57297358521416047 : Int64)) (14628 : Int64)) p0 n32) (cwV 1 hts (gg_V gw_415 gw_417 gs_27 gw_2 gw_418) rfl rfl rfl (by decide +kernel) ⟨Nat.le_of_ble_eq_true rfl, Nat.le_of_ble_eq_true rfl⟩) ⟨pM_bl, va_recv hK hP (ci := 0) (q0 := 0) rfl rfl, fun U hU hW => ⟨rfl, pM_up hP hK hD hU hW⟩⟩ rfl rfl hl.1 rfl (lv_room (Nat.le_of_ble_eq_true rfl)) dd_M_name_77 ⟨Nat.zero_le _, Nat.zero_le _⟩) hS (fun q _ h => h) (fun q h => h) (fun v9 t9 H locs ht9 hvm9 hw9 hB9 hz9 hk9 hS => ?_)
          subst hw9
          obtain ⟨hP, -, hD⟩ := hB9
          rw [ht9] at hP
          exact W.vret hx hb hr (fun t ht hW => ⟨⟨ff_M_simple (ff_M_word (ff_M_word (ff_M_word (ff_M_letter (ff_M_word (ff_M_word u0 (28659527854 : Int64)) (13551 : Int64)) (46 : Int32)) (38195999909605738 : Int64)) (57297358521416047 : Int64)) (14628 : Int64)) p0, rfl, hf.symm, pM_up hP hK hD ht hW⟩, hS.F ht⟩) hS.2.2 dd_M_name_80

def ff_M_code (p0 : Int32) : Int32 := (if p0 = 0 then 90 else (if p0 = 1 then 66 else (if p0 = 2 then 67 else (if p0 = 3 then 83 else (if p0 = 4 then 73 else (if p0 = 5 then 74 else (if p0 = 6 then 70 else (if p0 = 7 then 68 else 86))))))))
abbrev ws_M_code : List Cond := .code yy_M_code bb_M_code 1 (some .int) :: gW
abbrev rm_M_code : Room := { frames := 0, cells := 0, slots := 0, locals := 0 }
set_option maxHeartbeats 4000000 in
set_option maxRecDepth 100000 in
theorem mm_M_code (l : Launch) (p0 : Int32) : Met l yy_M_code ws_M_code rm_M_code (va_Pc [.int p0] (fun _ => True)) (vp_Si (fun r => r = ff_M_code p0)) 0 0 (fun _ => False) := by
  refine Met.ofW (cc := bb_M_code) (maxL := 1) (ret := (some .int)) (by decide) rfl ?_
  intro p e s m args below meth c s₁ B hml hv
  obtain ⟨rfl, -⟩ := hv
  have hx := B.exec
  have hb := B.bytes
  have hr := B.returns
  have hts : ∀ w ∈ gW, w.before _ s = true := fun w h => atoms_spec (ws := ws_M_code) B.pre w (List.mem_cons_of_mem _ h)
  have hown : s.vm.findClass "ClassObjectMirrorModel" = some m.cls := findClass_of_methodNamed B.named
  have hlocks := B.notSynchronized
  have hl := lv_entry ([.int p0]) (n := 1) (Nat.le_of_ble_eq_true rfl)
  rw [lg_entry_eq]
  generalize (lg_sl ([.int p0]) ++ List.replicate (1 - (lg_sl ([.int p0])).length) Slot.unset).toArray = ls at hl ⊢
  have hl : lv_has ls 1 [(0, .int p0)] := hl
  have hf := ff_M_code.eq_1 p0
  refine lv_iload_n hx hb dd_M_code_0 rfl (lv_at hl 0 rfl) ?_
  by_cases c1 : p0 = 0
  · have hf := hf.trans (if_pos c1)
    refine lv_tableIn (off := 47) (tgt := 48) hx hb dd_M_code_1 (by rw [c1]; decide) (by rw [c1]; decide) (by rw [c1]; decide) (by decide) ?_
    refine lv_bipush (v := 90) hx hb dd_M_code_48 (by decide) ?_
    exact W.iret (v := (90 : Int32)) hx hb hr (fun t ht hW => ⟨(90 : Int32), rfl, hf.symm, ht⟩) (fun _ h => by cases h) dd_M_code_50
  · have hf := hf.trans (if_neg c1)
    by_cases c2 : p0 = 1
    · have hf := hf.trans (if_pos c2)
      refine lv_tableIn (off := 50) (tgt := 51) hx hb dd_M_code_1 (by rw [c2]; decide) (by rw [c2]; decide) (by rw [c2]; decide) (by decide) ?_
      refine lv_bipush (v := 66) hx hb dd_M_code_51 (by decide) ?_
      exact W.iret (v := (66 : Int32)) hx hb hr (fun t ht hW => ⟨(66 : Int32), rfl, hf.symm, ht⟩) (fun _ h => by cases h) dd_M_code_53
    · have hf := hf.trans (if_neg c2)
      by_cases c3 : p0 = 2
      · have hf := hf.trans (if_pos c3)
        refine lv_tableIn (off := 53) (tgt := 54) hx hb dd_M_code_1 (by rw [c3]; decide) (by rw [c3]; decide) (by rw [c3]; decide) (by decide) ?_
        refine lv_bipush (v := 67) hx hb dd_M_code_54 (by decide) ?_
        exact W.iret (v := (67 : Int32)) hx hb hr (fun t ht hW => ⟨(67 : Int32), rfl, hf.symm, ht⟩) (fun _ h => by cases h) dd_M_code_56
      · have hf := hf.trans (if_neg c3)
        by_cases c4 : p0 = 3
        · have hf := hf.trans (if_pos c4)
          refine lv_tableIn (off := 56) (tgt := 57) hx hb dd_M_code_1 (by rw [c4]; decide) (by rw [c4]; decide) (by rw [c4]; decide) (by decide) ?_
          refine lv_bipush (v := 83) hx hb dd_M_code_57 (by decide) ?_
          exact W.iret (v := (83 : Int32)) hx hb hr (fun t ht hW => ⟨(83 : Int32), rfl, hf.symm, ht⟩) (fun _ h => by cases h) dd_M_code_59
        · have hf := hf.trans (if_neg c4)
          by_cases c5 : p0 = 4
          · have hf := hf.trans (if_pos c5)
            refine lv_tableIn (off := 59) (tgt := 60) hx hb dd_M_code_1 (by rw [c5]; decide) (by rw [c5]; decide) (by rw [c5]; decide) (by decide) ?_
            refine lv_bipush (v := 73) hx hb dd_M_code_60 (by decide) ?_
            exact W.iret (v := (73 : Int32)) hx hb hr (fun t ht hW => ⟨(73 : Int32), rfl, hf.symm, ht⟩) (fun _ h => by cases h) dd_M_code_62
          · have hf := hf.trans (if_neg c5)
            by_cases c6 : p0 = 5
            · have hf := hf.trans (if_pos c6)
              refine lv_tableIn (off := 62) (tgt := 63) hx hb dd_M_code_1 (by rw [c6]; decide) (by rw [c6]; decide) (by rw [c6]; decide) (by decide) ?_
              refine lv_bipush (v := 74) hx hb dd_M_code_63 (by decide) ?_
              exact W.iret (v := (74 : Int32)) hx hb hr (fun t ht hW => ⟨(74 : Int32), rfl, hf.symm, ht⟩) (fun _ h => by cases h) dd_M_code_65
            · have hf := hf.trans (if_neg c6)
              by_cases c7 : p0 = 6
              · have hf := hf.trans (if_pos c7)
                refine lv_tableIn (off := 65) (tgt := 66) hx hb dd_M_code_1 (by rw [c7]; decide) (by rw [c7]; decide) (by rw [c7]; decide) (by decide) ?_
                refine lv_bipush (v := 70) hx hb dd_M_code_66 (by decide) ?_
                exact W.iret (v := (70 : Int32)) hx hb hr (fun t ht hW => ⟨(70 : Int32), rfl, hf.symm, ht⟩) (fun _ h => by cases h) dd_M_code_68
              · have hf := hf.trans (if_neg c7)
                by_cases c8 : p0 = 7
                · have hf := hf.trans (if_pos c8)
                  refine lv_tableIn (off := 68) (tgt := 69) hx hb dd_M_code_1 (by rw [c8]; decide) (by rw [c8]; decide) (by rw [c8]; decide) (by decide) ?_
                  refine lv_bipush (v := 68) hx hb dd_M_code_69 (by decide) ?_
                  exact W.iret (v := (68 : Int32)) hx hb hr (fun t ht hW => ⟨(68 : Int32), rfl, hf.symm, ht⟩) (fun _ h => by cases h) dd_M_code_71
                · have hf := hf.trans (if_neg c8)
                  refine lv_tableOut (tgt := 72) hx hb dd_M_code_1 ?_ (by decide) ?_
                  · rcases sw_tab p0 0 7 8 (by decide) with hsw | ⟨j9, hj9, ej9⟩
                    · exact hsw
                    · exfalso
                      rcases (show j9 = 0 ∨ j9 = 1 ∨ j9 = 2 ∨ j9 = 3 ∨ j9 = 4 ∨ j9 = 5 ∨ j9 = 6 ∨ j9 = 7 by omega) with rfl | rfl | rfl | rfl | rfl | rfl | rfl | rfl
                      · exact c1 (ej9.trans (by decide))
                      · exact c2 (ej9.trans (by decide))
                      · exact c3 (ej9.trans (by decide))
                      · exact c4 (ej9.trans (by decide))
                      · exact c5 (ej9.trans (by decide))
                      · exact c6 (ej9.trans (by decide))
                      · exact c7 (ej9.trans (by decide))
                      · exact c8 (ej9.trans (by decide))
                  · skip
                    refine lv_bipush (v := 86) hx hb dd_M_code_72 (by decide) ?_
                    exact W.iret (v := (86 : Int32)) hx hb hr (fun t ht hW => ⟨(86 : Int32), rfl, hf.symm, ht⟩) (fun _ h => by cases h) dd_M_code_74

def fl_M_describe_66 : Nat → SM → Int32 → Int32 → Int32 → Int32 → Int32 → SM
  | 0, u, _, _, _, _, _ => u
  | n + 1, u, x1, x2, x3, x4, x5 => (if (m_wr u) ≤ x5 then ff_M_letter u (59 : Int32) else (if x2 = 0 then fl_M_describe_66 n u x1 x2 x3 x4 (x5 + 1) else (if (m_out u x5.toNatClampNeg) = 46 then fl_M_describe_66 n (m_u_out u x5 47) x1 x2 x3 x4 (x5 + 1) else fl_M_describe_66 n u x1 x2 x3 x4 (x5 + 1))))
def okl_M_describe_66 : Nat → SM → Int32 → Int32 → Int32 → Int32 → Int32 → Prop
  | 0, _, _, _, _, _, _ => False
  | n + 1, u, x1, x2, x3, x4, x5 => ((((m_wr u) ≤ x5) → ok_M_letter u (59 : Int32)) ∧ (¬ ((m_wr u) ≤ x5) → (((x2 = 0) → okl_M_describe_66 n u x1 x2 x3 x4 (x5 + 1)) ∧ (¬ (x2 = 0) → (vp_in x5 900) ∧ ((((m_out u x5.toNatClampNeg) = 46) → (vp_in x5 900) ∧ okl_M_describe_66 n (m_u_out u x5 47) x1 x2 x3 x4 (x5 + 1)) ∧ (¬ ((m_out u x5.toNatClampNeg) = 46) → okl_M_describe_66 n u x1 x2 x3 x4 (x5 + 1)))))))
def fl_M_describe_2 : Nat → SM → Int32 → Int32 → Int32 → SM
  | 0, u, _, _, _ => u
  | n + 1, u, x1, x2, x3 => (if (m_dims u x1.toNatClampNeg) ≤ x3 then (if 8 < (ff_M_bottom u x1) then fl_M_describe_66 400 (ff_M_name (ff_M_letter u (76 : Int32)) (ff_M_bottom u x1)) x1 x2 (ff_M_bottom u x1) (m_wr (ff_M_letter u (76 : Int32))) (m_wr (ff_M_letter u (76 : Int32))) else ff_M_letter u (ff_M_code (ff_M_bottom u x1))) else fl_M_describe_2 n (ff_M_letter u (91 : Int32)) x1 x2 (x3 + 1))
def okl_M_describe_2 : Nat → SM → Int32 → Int32 → Int32 → Prop
  | 0, _, _, _, _ => False
  | n + 1, u, x1, x2, x3 => (vp_in x1 300) ∧ ((((m_dims u x1.toNatClampNeg) ≤ x3) → (ok_M_bottom u x1) ∧ (((8 < (ff_M_bottom u x1)) → (ok_M_letter u (76 : Int32)) ∧ (ok_M_name (ff_M_letter u (76 : Int32)) (ff_M_bottom u x1)) ∧ okl_M_describe_66 400 (ff_M_name (ff_M_letter u (76 : Int32)) (ff_M_bottom u x1)) x1 x2 (ff_M_bottom u x1) (m_wr (ff_M_letter u (76 : Int32))) (m_wr (ff_M_letter u (76 : Int32)))) ∧ (¬ (8 < (ff_M_bottom u x1)) → ok_M_letter u (ff_M_code (ff_M_bottom u x1))))) ∧ (¬ ((m_dims u x1.toNatClampNeg) ≤ x3) → (ok_M_letter u (91 : Int32)) ∧ okl_M_describe_2 n (ff_M_letter u (91 : Int32)) x1 x2 (x3 + 1)))
def ff_M_describe (u0 : SM) (p0 : Int32) (p1 : Int32) : SM := fl_M_describe_2 400 u0 p0 p1 (0 : Int32)
def ok_M_describe (u0 : SM) (p0 : Int32) (p1 : Int32) : Prop := okl_M_describe_2 400 u0 p0 p1 (0 : Int32)
abbrev ws_M_describe : List Cond := .code yy_M_describe bb_M_describe 6 (none) :: gW
abbrev rm_M_describe : Room := { frames := 4, cells := 0, slots := 0, locals := 87 }
set_option maxHeartbeats 4000000 in
set_option maxRecDepth 100000 in
theorem mm_M_describe (l : Launch) (dC : Nat → ClassId) (dI : Nat → Nat → Nat) (h : Nat) (a : Nat → Nat) (k : Nat → ClassId) (u0 : SM) (p0 : Int32) (p1 : Int32) (hok : ok_M_describe u0 p0 p1) : Met l yy_M_describe ws_M_describe rm_M_describe (va_Pc [.ref h, .int p0, .int p1] (pM dC dI h a k u0)) (va_Qv (fun v : SM => v = ff_M_describe u0 p0 p1) (pM dC dI h a k) (aM h a)) 0 0 (aM h a) := by
  refine Met.ofW (cc := bb_M_describe) (maxL := 6) (ret := (none)) (by decide) rfl ?_
  intro p e s m args below meth c s₁ B hml hv
  obtain ⟨rfl, hP, hK, hD⟩ := hv
  have hx := B.exec
  have hb := B.bytes
  have hr := B.returns
  have hts : ∀ w ∈ gW, w.before _ s = true := fun w h => atoms_spec (ws := ws_M_describe) B.pre w (List.mem_cons_of_mem _ h)
  have hown : s.vm.findClass "ClassObjectMirrorModel" = some m.cls := findClass_of_methodNamed B.named
  have hlocks := B.notSynchronized
  have hS : va_S (aM h a) s.heap s.heap [] := va_S.rf
  have hl := lv_entry ([.ref h, .int p0, .int p1]) (n := 6) (Nat.le_of_ble_eq_true rfl)
  rw [lg_entry_eq]
  generalize (lg_sl ([.ref h, .int p0, .int p1]) ++ List.replicate (6 - (lg_sl ([.ref h, .int p0, .int p1])).length) Slot.unset).toArray = ls at hl ⊢
  have hl : lv_has ls 6 [(0, .ref h), (1, .int p0), (2, .int p1)] := hl
  have hf := ff_M_describe.eq_1 u0 p0 p1
  unfold ok_M_describe at hok
  refine lv_iconst (v := 0) hx hb dd_M_describe_0 (by decide) ?_
  refine lv_istore_n (lv' := [(3, .int 0), (0, .ref h), (1, .int p0), (2, .int p1)]) hx hb dd_M_describe_1 rfl hl (by decide) rfl (fun ls hl => ?_)
  have loop_2 : ∀ (n : Nat) (u : SM) (H : Heap) (locs : List Loc) (x1 : Int32) (x2 : Int32) (x3 : Int32) (ls : Array Slot), okl_M_describe_2 n u x1 x2 x3 → ff_M_describe u0 p0 p1 = fl_M_describe_2 n u x1 x2 x3 → va_P (dC, dI) cls_l (wM h a k u) H → va_D (aM h a) (wM h a k u) → va_S (aM h a) s.heap H locs → lv_has ls 6 [(0, .ref h), (1, .int x1), (2, .int x2), (3, .int x3)] → W p l e (headSpec ws_M_describe rm_M_describe).room s m ([.ref h, .int p0, .int p1] : List Value).toArray below meth c H locs 0 0 (MQ below (va_Qv (fun v : SM => v = ff_M_describe u0 p0 p1) (pM dC dI h a k) (aM h a)) ([.ref h, .int p0, .int p1] : List Value).toArray s 0 0 (aM h a)) (F0 m 2 ls []) := by
    intro n
    induction n with
    | zero => intro u H locs x1 x2 x3 ls hok; exact (show False from hok).elim
    | succ n ih =>
      intro u H locs x1 x2 x3 ls hok hf hP hD hS hl
      rw [fl_M_describe_2] at hf
      rw [okl_M_describe_2] at hok
      refine lv_iload_n hx hb dd_M_describe_2 rfl (lv_at hl 3 rfl) ?_
      refine lv_aload_n hx hb dd_M_describe_3 rfl (lv_at hl 0 rfl) ?_
      refine va_get (D := (dC, dI)) (ci := 0) (v := .ref (a 3)) (C := "ClassObjectMirrorModel") (T := TM) (N := 12) hx hb hts inM hown hK hP 0 rfl rfl 3 (by decide) (hts _ gw_304) (fun _ h9 => h9) rfl dd_M_describe_4 ?_
      refine lv_iload_n hx hb dd_M_describe_7 rfl (lv_at hl 1 rfl) ?_
      obtain ⟨n1, hok⟩ := hok
      refine va_iald hx hb hK hP 4 3 rfl rfl n1 dd_M_describe_8 ?_
      refine lv_icmp_ge (tgt := 24) hx hb dd_M_describe_9 (by decide) (fun c2 => ?_) (fun c2 => ?_)
      · have hf := hf.trans (if_pos c2)
        have hok := hok.1 c2
        refine lv_aload_n hx hb dd_M_describe_24 rfl (lv_at hl 0 rfl) ?_
        refine lv_iload_n hx hb dd_M_describe_25 rfl (lv_at hl 1 rfl) ?_
        obtain ⟨n3, hok⟩ := hok
        refine vp_callSi (W.runV (As := [.int x1]) (rest := []) ⟨hx, hb, hml, hown, hts⟩ (mm_M_bottom l dC dI h a k u x1 n3) (cwV 1 hts (gg_V gw_377 gw_379 gs_22 gw_2 gw_380) rfl rfl rfl (by decide +kernel) ⟨Nat.le_of_ble_eq_true rfl, Nat.le_of_ble_eq_true rfl⟩) ⟨pM_bl, va_recv hK hP (ci := 0) (q0 := 0) rfl rfl, fun U hU hW => ⟨rfl, pM_up hP hK hD hU hW⟩⟩ rfl rfl hl.1 rfl (lv_room (Nat.le_of_ble_eq_true rfl)) dd_M_describe_26 ⟨Nat.zero_le _, Nat.zero_le _⟩) (fun r hr9 => ?_)
        subst hr9
        refine lv_istore_n (lv' := [(3, .int (ff_M_bottom u x1)), (0, .ref h), (1, .int x1), (2, .int x2)]) hx hb dd_M_describe_29 rfl hl (by decide) rfl (fun ls hl => ?_)
        refine lv_iload_n hx hb dd_M_describe_30 rfl (lv_at hl 0 rfl) ?_
        refine lv_bipush (v := 8) hx hb dd_M_describe_31 (by decide) ?_
        refine lv_icmp_gt (tgt := 45) hx hb dd_M_describe_33 (by decide) (fun c4 => ?_) (fun c4 => ?_)
        · have hf := hf.trans (if_pos c4)
          have hok := hok.1 c4
          refine lv_aload_n hx hb dd_M_describe_45 rfl (lv_at hl 1 rfl) ?_
          refine lv_bipush (v := 76) hx hb dd_M_describe_46 (by decide) ?_
          obtain ⟨n5, hok⟩ := hok
          refine va_callv (va_runV (As := [.int 76]) (rest := []) ⟨hx, hb, hml, hown, hts⟩ (mm_M_letter l dC dI h a k u (76 : Int32) n5) (cwV 1 hts (gg_V gw_393 gw_395 gs_24 gw_2 gw_396) rfl rfl rfl (by decide +kernel) ⟨Nat.le_of_ble_eq_true rfl, Nat.le_of_ble_eq_true rfl⟩) ⟨pM_bl, va_recv hK hP (ci := 0) (q0 := 0) rfl rfl, fun U hU hW => ⟨rfl, pM_up hP hK hD hU hW⟩⟩ rfl rfl hl.1 rfl (lv_room (Nat.le_of_ble_eq_true rfl)) dd_M_describe_48 ⟨Nat.zero_le _, Nat.zero_le _⟩) hS (fun q _ h => h) (fun q h => h) (fun v9 t9 H locs ht9 hvm9 hw9 hB9 hz9 hk9 hS => ?_)
          subst hw9
          obtain ⟨hP, -, hD⟩ := hB9
          rw [ht9] at hP
          refine lv_aload_n hx hb dd_M_describe_51 rfl (lv_at hl 1 rfl) ?_
          refine va_get (D := (dC, dI)) (ci := 0) (v := .int (m_wr (ff_M_letter u (76 : Int32)))) (C := "ClassObjectMirrorModel") (T := TM) (N := 12) hx hb hts inM hown hK hP 0 rfl rfl 11 (by decide) (hts _ gw_312) (fun _ h9 => h9) rfl dd_M_describe_52 ?_
          refine lv_istore (lv' := [(4, .int (m_wr (ff_M_letter u (76 : Int32)))), (3, .int (ff_M_bottom u x1)), (0, .ref h), (1, .int x1), (2, .int x2)]) hx hb dd_M_describe_55 hl (by decide) rfl (fun ls hl => ?_)
          refine lv_aload_n hx hb dd_M_describe_57 rfl (lv_at hl 2 rfl) ?_
          refine lv_iload_n hx hb dd_M_describe_58 rfl (lv_at hl 1 rfl) ?_
          obtain ⟨n6, hok⟩ := hok
          refine va_callv (va_runV (As := [.int (ff_M_bottom u x1)]) (rest := []) ⟨hx, hb, hml, hown, hts⟩ (mm_M_name l dC dI h a k (ff_M_letter u (76 : Int32)) (ff_M_bottom u x1) n6) (cwV 1 hts (gg_V gw_400 gw_402 gs_25 gw_2 gw_403) rfl rfl rfl (by decide +kernel) ⟨Nat.le_of_ble_eq_true rfl, Nat.le_of_ble_eq_true rfl⟩) ⟨pM_bl, va_recv hK hP (ci := 0) (q0 := 0) rfl rfl, fun U hU hW => ⟨rfl, pM_up hP hK hD hU hW⟩⟩ rfl rfl hl.1 rfl (lv_room (Nat.le_of_ble_eq_true rfl)) dd_M_describe_59 ⟨Nat.zero_le _, Nat.zero_le _⟩) hS (fun q _ h => h) (fun q h => h) (fun v9 t9 H locs ht9 hvm9 hw9 hB9 hz9 hk9 hS => ?_)
          subst hw9
          obtain ⟨hP, -, hD⟩ := hB9
          rw [ht9] at hP
          refine lv_iload hx hb dd_M_describe_62 (lv_at hl 0 rfl) ?_
          refine lv_istore (lv' := [(5, .int (m_wr (ff_M_letter u (76 : Int32)))), (4, .int (m_wr (ff_M_letter u (76 : Int32)))), (3, .int (ff_M_bottom u x1)), (0, .ref h), (1, .int x1), (2, .int x2)]) hx hb dd_M_describe_64 hl (by decide) rfl (fun ls hl => ?_)
          have loop_66 : ∀ (n : Nat) (u : SM) (H : Heap) (locs : List Loc) (x1 : Int32) (x2 : Int32) (x3 : Int32) (x4 : Int32) (x5 : Int32) (ls : Array Slot), okl_M_describe_66 n u x1 x2 x3 x4 x5 → ff_M_describe u0 p0 p1 = fl_M_describe_66 n u x1 x2 x3 x4 x5 → va_P (dC, dI) cls_l (wM h a k u) H → va_D (aM h a) (wM h a k u) → va_S (aM h a) s.heap H locs → lv_has ls 6 [(0, .ref h), (1, .int x1), (2, .int x2), (3, .int x3), (4, .int x4), (5, .int x5)] → W p l e (headSpec ws_M_describe rm_M_describe).room s m ([.ref h, .int p0, .int p1] : List Value).toArray below meth c H locs 0 0 (MQ below (va_Qv (fun v : SM => v = ff_M_describe u0 p0 p1) (pM dC dI h a k) (aM h a)) ([.ref h, .int p0, .int p1] : List Value).toArray s 0 0 (aM h a)) (F0 m 66 ls []) := by
            intro n
            induction n with
            | zero => intro u H locs x1 x2 x3 x4 x5 ls hok; exact (show False from hok).elim
            | succ n ih =>
              intro u H locs x1 x2 x3 x4 x5 ls hok hf hP hD hS hl
              rw [fl_M_describe_66] at hf
              rw [okl_M_describe_66] at hok
              refine lv_iload hx hb dd_M_describe_66 (lv_at hl 5 rfl) ?_
              refine lv_aload_n hx hb dd_M_describe_68 rfl (lv_at hl 0 rfl) ?_
              refine va_get (D := (dC, dI)) (ci := 0) (v := .int (m_wr u)) (C := "ClassObjectMirrorModel") (T := TM) (N := 12) hx hb hts inM hown hK hP 0 rfl rfl 11 (by decide) (hts _ gw_312) (fun _ h9 => h9) rfl dd_M_describe_69 ?_
              refine lv_icmp_ge (tgt := 106) hx hb dd_M_describe_72 (by decide) (fun c7 => ?_) (fun c7 => ?_)
              · have hf := hf.trans (if_pos c7)
                have hok := hok.1 c7
                refine lv_aload_n hx hb dd_M_describe_106 rfl (lv_at hl 0 rfl) ?_
                refine lv_bipush (v := 59) hx hb dd_M_describe_107 (by decide) ?_
                have n8 := hok
                refine va_callv (va_runV (As := [.int 59]) (rest := []) ⟨hx, hb, hml, hown, hts⟩ (mm_M_letter l dC dI h a k u (59 : Int32) n8) (cwV 1 hts (gg_V gw_393 gw_395 gs_24 gw_2 gw_396) rfl rfl rfl (by decide +kernel) ⟨Nat.le_of_ble_eq_true rfl, Nat.le_of_ble_eq_true rfl⟩) ⟨pM_bl, va_recv hK hP (ci := 0) (q0 := 0) rfl rfl, fun U hU hW => ⟨rfl, pM_up hP hK hD hU hW⟩⟩ rfl rfl hl.1 rfl (lv_room (Nat.le_of_ble_eq_true rfl)) dd_M_describe_109 ⟨Nat.zero_le _, Nat.zero_le _⟩) hS (fun q _ h => h) (fun q h => h) (fun v9 t9 H locs ht9 hvm9 hw9 hB9 hz9 hk9 hS => ?_)
                subst hw9
                obtain ⟨hP, -, hD⟩ := hB9
                rw [ht9] at hP
                exact W.vret hx hb hr (fun t ht hW => ⟨⟨ff_M_letter u (59 : Int32), rfl, hf.symm, pM_up hP hK hD ht hW⟩, hS.F ht⟩) hS.2.2 dd_M_describe_112
              · have hf := hf.trans (if_neg c7)
                have hok := hok.2 c7
                refine lv_iload_n hx hb dd_M_describe_75 rfl (lv_at hl 2 rfl) ?_
                refine lv_if_eq (tgt := 100) hx hb dd_M_describe_76 (by decide) (fun c9 => ?_) (fun c9 => ?_)
                · have hf := hf.trans (if_pos c9)
                  have hok := hok.1 c9
                  refine lv_iinc (v := x5 + 1) (lv' := [(5, .int (x5 + 1)), (0, .ref h), (1, .int x1), (2, .int x2), (3, .int x3), (4, .int x4)]) hx hb dd_M_describe_100 hl (k := 5) rfl rfl (by decide) rfl (fun ls hl => ?_)
                  refine lv_goto (tgt := 66) hx hb dd_M_describe_103 (by decide) ?_
                  exact ih u _ _ x1 x2 x3 x4 (x5 + 1) ls hok hf hP hD hS (lv_sub hl [1, 2, 3, 4, 5, 0] rfl)
                · have hf := hf.trans (if_neg c9)
                  have hok := hok.2 c9
                  refine lv_aload_n hx hb dd_M_describe_79 rfl (lv_at hl 0 rfl) ?_
                  refine va_get (D := (dC, dI)) (ci := 0) (v := .ref (a 8)) (C := "ClassObjectMirrorModel") (T := TM) (N := 12) hx hb hts inM hown hK hP 0 rfl rfl 10 (by decide) (hts _ gw_311) (fun _ h9 => h9) rfl dd_M_describe_80 ?_
                  refine lv_iload hx hb dd_M_describe_83 (lv_at hl 5 rfl) ?_
                  obtain ⟨n10, hok⟩ := hok
                  refine va_iald hx hb hK hP 9 8 rfl rfl n10 dd_M_describe_85 ?_
                  refine lv_bipush (v := 46) hx hb dd_M_describe_86 (by decide) ?_
                  refine lv_icmp_ne (tgt := 100) hx hb dd_M_describe_88 (by decide) (fun c11 => ?_) (fun c11 => ?_)
                  · have hf := hf.trans (if_neg c11)
                    have hok := hok.2 c11
                    refine lv_iinc (v := x5 + 1) (lv' := [(5, .int (x5 + 1)), (0, .ref h), (1, .int x1), (2, .int x2), (3, .int x3), (4, .int x4)]) hx hb dd_M_describe_100 hl (k := 5) rfl rfl (by decide) rfl (fun ls hl => ?_)
                    refine lv_goto (tgt := 66) hx hb dd_M_describe_103 (by decide) ?_
                    exact ih u _ _ x1 x2 x3 x4 (x5 + 1) ls hok hf hP hD hS (lv_sub hl [1, 2, 3, 4, 5, 0] rfl)
                  · have hf := hf.trans (if_pos c11)
                    have hok := hok.1 c11
                    refine lv_aload_n hx hb dd_M_describe_91 rfl (lv_at hl 0 rfl) ?_
                    refine va_get (D := (dC, dI)) (ci := 0) (v := .ref (a 8)) (C := "ClassObjectMirrorModel") (T := TM) (N := 12) hx hb hts inM hown hK hP 0 rfl rfl 10 (by decide) (hts _ gw_311) (fun _ h9 => h9) rfl dd_M_describe_92 ?_
                    refine lv_iload hx hb dd_M_describe_95 (lv_at hl 5 rfl) ?_
                    refine lv_bipush (v := 47) hx hb dd_M_describe_97 (by decide) ?_
                    obtain ⟨n12, hok⟩ := hok
                    refine va_iast hx hb hK hP hD hS 9 8 rfl rfl n12 dd_M_describe_99 (fun H locs hP hD hS => ?_)
                    have hP : va_P (dC, dI) cls_l (wM h a k (m_u_out u x5 47)) H := hP
                    have hD : va_D (aM h a) (wM h a k (m_u_out u x5 47)) := hD
                    refine lv_iinc (v := x5 + 1) (lv' := [(5, .int (x5 + 1)), (0, .ref h), (1, .int x1), (2, .int x2), (3, .int x3), (4, .int x4)]) hx hb dd_M_describe_100 hl (k := 5) rfl rfl (by decide) rfl (fun ls hl => ?_)
                    refine lv_goto (tgt := 66) hx hb dd_M_describe_103 (by decide) ?_
                    exact ih (m_u_out u x5 47) _ _ x1 x2 x3 x4 (x5 + 1) ls hok hf hP hD hS (lv_sub hl [1, 2, 3, 4, 5, 0] rfl)
          exact loop_66 400 (ff_M_name (ff_M_letter u (76 : Int32)) (ff_M_bottom u x1)) _ _ x1 x2 (ff_M_bottom u x1) (m_wr (ff_M_letter u (76 : Int32))) (m_wr (ff_M_letter u (76 : Int32))) ls hok hf hP hD hS (lv_sub hl [3, 4, 5, 2, 1, 0] rfl)
        · have hf := hf.trans (if_neg c4)
          have hok := hok.2 c4
          refine lv_aload_n hx hb dd_M_describe_36 rfl (lv_at hl 1 rfl) ?_
          refine lv_iload_n hx hb dd_M_describe_37 rfl (lv_at hl 0 rfl) ?_
          refine vp_callSi (W.runS (As := [.int (ff_M_bottom u x1)]) (rest := [.ref h]) ⟨hx, hb, hml, hown, hts⟩ (mm_M_code l (ff_M_bottom u x1)) (va_cwS 1 hts (gg_S gw_397 gw_398 gw_2 gw_399) rfl rfl rfl (by decide +kernel) ⟨Nat.le_of_ble_eq_true rfl, Nat.le_of_ble_eq_true rfl⟩) ⟨fun a U g mk q => q, fun U hU hW => ⟨rfl, trivial⟩⟩ rfl rfl hl.1 rfl (lv_room (Nat.le_of_ble_eq_true rfl)) dd_M_describe_38 ⟨Nat.zero_le _, Nat.zero_le _⟩) (fun r hr9 => ?_)
          subst hr9
          have n13 := hok
          refine va_callv (va_runV (As := [.int (ff_M_code (ff_M_bottom u x1))]) (rest := []) ⟨hx, hb, hml, hown, hts⟩ (mm_M_letter l dC dI h a k u (ff_M_code (ff_M_bottom u x1)) n13) (cwV 1 hts (gg_V gw_393 gw_395 gs_24 gw_2 gw_396) rfl rfl rfl (by decide +kernel) ⟨Nat.le_of_ble_eq_true rfl, Nat.le_of_ble_eq_true rfl⟩) ⟨pM_bl, va_recv hK hP (ci := 0) (q0 := 0) rfl rfl, fun U hU hW => ⟨rfl, pM_up hP hK hD hU hW⟩⟩ rfl rfl hl.1 rfl (lv_room (Nat.le_of_ble_eq_true rfl)) dd_M_describe_41 ⟨Nat.zero_le _, Nat.zero_le _⟩) hS (fun q _ h => h) (fun q h => h) (fun v9 t9 H locs ht9 hvm9 hw9 hB9 hz9 hk9 hS => ?_)
          subst hw9
          obtain ⟨hP, -, hD⟩ := hB9
          rw [ht9] at hP
          exact W.vret hx hb hr (fun t ht hW => ⟨⟨ff_M_letter u (ff_M_code (ff_M_bottom u x1)), rfl, hf.symm, pM_up hP hK hD ht hW⟩, hS.F ht⟩) hS.2.2 dd_M_describe_44
      · have hf := hf.trans (if_neg c2)
        have hok := hok.2 c2
        refine lv_aload_n hx hb dd_M_describe_12 rfl (lv_at hl 0 rfl) ?_
        refine lv_bipush (v := 91) hx hb dd_M_describe_13 (by decide) ?_
        obtain ⟨n14, hok⟩ := hok
        refine va_callv (va_runV (As := [.int 91]) (rest := []) ⟨hx, hb, hml, hown, hts⟩ (mm_M_letter l dC dI h a k u (91 : Int32) n14) (cwV 1 hts (gg_V gw_393 gw_395 gs_24 gw_2 gw_396) rfl rfl rfl (by decide +kernel) ⟨Nat.le_of_ble_eq_true rfl, Nat.le_of_ble_eq_true rfl⟩) ⟨pM_bl, va_recv hK hP (ci := 0) (q0 := 0) rfl rfl, fun U hU hW => ⟨rfl, pM_up hP hK hD hU hW⟩⟩ rfl rfl hl.1 rfl (lv_room (Nat.le_of_ble_eq_true rfl)) dd_M_describe_15 ⟨Nat.zero_le _, Nat.zero_le _⟩) hS (fun q _ h => h) (fun q h => h) (fun v9 t9 H locs ht9 hvm9 hw9 hB9 hz9 hk9 hS => ?_)
        subst hw9
        obtain ⟨hP, -, hD⟩ := hB9
        rw [ht9] at hP
        refine lv_iinc (v := x3 + 1) (lv' := [(3, .int (x3 + 1)), (0, .ref h), (1, .int x1), (2, .int x2)]) hx hb dd_M_describe_18 hl (k := 3) rfl rfl (by decide) rfl (fun ls hl => ?_)
        refine lv_goto (tgt := 2) hx hb dd_M_describe_21 (by decide) ?_
        exact ih (ff_M_letter u (91 : Int32)) _ _ x1 x2 (x3 + 1) ls hok hf hP hD hS (lv_sub hl [1, 2, 3, 0] rfl)
  exact loop_2 400 u0 _ _ p0 p1 (0 : Int32) ls hok hf hP hD hS (lv_sub hl [1, 2, 3, 0] rfl)

def fl_M_text_84 : Nat → SM → Int32 → Int32 → Int32 → Int32 → Int32 × SM
  | 0, u, _, _, _, _ => (0, u)
  | n + 1, u, x1, x2, x3, x4 => (if (m_dims u x1.toNatClampNeg) ≤ x4 then (if x3 < 0 then ((-1), u) else (if x3 < (m_wr u) then (m_out u x3.toNatClampNeg, u) else ((-1), u))) else (if x2 = 1 then fl_M_text_84 n (ff_M_letter (ff_M_letter u (91 : Int32)) (93 : Int32)) x1 x2 x3 (x4 + 1) else (if x3 < 0 then ((-1), u) else (if x3 < (m_wr u) then (m_out u x3.toNatClampNeg, u) else ((-1), u)))))
def okl_M_text_84 : Nat → SM → Int32 → Int32 → Int32 → Int32 → Prop
  | 0, _, _, _, _, _ => False
  | n + 1, u, x1, x2, x3, x4 => (vp_in x1 300) ∧ ((((m_dims u x1.toNatClampNeg) ≤ x4) → (((x3 < 0) → True) ∧ (¬ (x3 < 0) → (((x3 < (m_wr u)) → vp_in x3 900) ∧ (¬ (x3 < (m_wr u)) → True))))) ∧ (¬ ((m_dims u x1.toNatClampNeg) ≤ x4) → (((x2 = 1) → (ok_M_letter u (91 : Int32)) ∧ (ok_M_letter (ff_M_letter u (91 : Int32)) (93 : Int32)) ∧ okl_M_text_84 n (ff_M_letter (ff_M_letter u (91 : Int32)) (93 : Int32)) x1 x2 x3 (x4 + 1)) ∧ (¬ (x2 = 1) → (((x3 < 0) → True) ∧ (¬ (x3 < 0) → (((x3 < (m_wr u)) → vp_in x3 900) ∧ (¬ (x3 < (m_wr u)) → True))))))))
def ff_M_text (u0 : SM) (p0 : Int32) (p1 : Int32) (p2 : Int32) : Int32 × SM := (if (ff_M_noType u0 p0) = 0 then (if p1 < 0 then ((-1), u0) else (if p1 ≤ 2 then (if p1 = 2 then fl_M_text_84 400 (ff_M_describe (m_u_wr u0 0) p0 (1 : Int32)) p0 p1 p2 (0 : Int32) else (if p1 = 0 then (if (m_dims (m_u_wr u0 0) p0.toNatClampNeg) ≤ 0 then (if p1 = 0 then fl_M_text_84 400 (ff_M_name (m_u_wr u0 0) p0) p0 p1 p2 (0 : Int32) else fl_M_text_84 400 (ff_M_simple (m_u_wr u0 0) (ff_M_bottom (m_u_wr u0 0) p0)) p0 p1 p2 (0 : Int32)) else fl_M_text_84 400 (ff_M_describe (m_u_wr u0 0) p0 (0 : Int32)) p0 p1 p2 (0 : Int32)) else (if p1 = 0 then fl_M_text_84 400 (ff_M_name (m_u_wr u0 0) p0) p0 p1 p2 (0 : Int32) else fl_M_text_84 400 (ff_M_simple (m_u_wr u0 0) (ff_M_bottom (m_u_wr u0 0) p0)) p0 p1 p2 (0 : Int32)))) else ((-1), u0))) else ((-1), u0))
def ok_M_text (u0 : SM) (p0 : Int32) (p1 : Int32) (p2 : Int32) : Prop := ((((ff_M_noType u0 p0) = 0) → (((p1 < 0) → True) ∧ (¬ (p1 < 0) → (((p1 ≤ 2) → (((p1 = 2) → (ok_M_describe (m_u_wr u0 0) p0 (1 : Int32)) ∧ okl_M_text_84 400 (ff_M_describe (m_u_wr u0 0) p0 (1 : Int32)) p0 p1 p2 (0 : Int32)) ∧ (¬ (p1 = 2) → (((p1 = 0) → (vp_in p0 300) ∧ ((((m_dims (m_u_wr u0 0) p0.toNatClampNeg) ≤ 0) → (((p1 = 0) → (ok_M_name (m_u_wr u0 0) p0) ∧ okl_M_text_84 400 (ff_M_name (m_u_wr u0 0) p0) p0 p1 p2 (0 : Int32)) ∧ (¬ (p1 = 0) → (ok_M_bottom (m_u_wr u0 0) p0) ∧ (ok_M_simple (m_u_wr u0 0) (ff_M_bottom (m_u_wr u0 0) p0)) ∧ okl_M_text_84 400 (ff_M_simple (m_u_wr u0 0) (ff_M_bottom (m_u_wr u0 0) p0)) p0 p1 p2 (0 : Int32)))) ∧ (¬ ((m_dims (m_u_wr u0 0) p0.toNatClampNeg) ≤ 0) → (ok_M_describe (m_u_wr u0 0) p0 (0 : Int32)) ∧ okl_M_text_84 400 (ff_M_describe (m_u_wr u0 0) p0 (0 : Int32)) p0 p1 p2 (0 : Int32)))) ∧ (¬ (p1 = 0) → (((p1 = 0) → (ok_M_name (m_u_wr u0 0) p0) ∧ okl_M_text_84 400 (ff_M_name (m_u_wr u0 0) p0) p0 p1 p2 (0 : Int32)) ∧ (¬ (p1 = 0) → (ok_M_bottom (m_u_wr u0 0) p0) ∧ (ok_M_simple (m_u_wr u0 0) (ff_M_bottom (m_u_wr u0 0) p0)) ∧ okl_M_text_84 400 (ff_M_simple (m_u_wr u0 0) (ff_M_bottom (m_u_wr u0 0) p0)) p0 p1 p2 (0 : Int32)))))))) ∧ (¬ (p1 ≤ 2) → True))))) ∧ (¬ ((ff_M_noType u0 p0) = 0) → True))
abbrev ws_M_text : List Cond := .code yy_M_text bb_M_text 5 (some .int) :: gW
abbrev rm_M_text : Room := { frames := 5, cells := 0, slots := 0, locals := 112 }
set_option maxHeartbeats 4000000 in
set_option maxRecDepth 100000 in
theorem mm_M_text (l : Launch) (dC : Nat → ClassId) (dI : Nat → Nat → Nat) (h : Nat) (a : Nat → Nat) (k : Nat → ClassId) (u0 : SM) (p0 : Int32) (p1 : Int32) (p2 : Int32) (hok : ok_M_text u0 p0 p1 p2) : Met l yy_M_text ws_M_text rm_M_text (va_Pc [.ref h, .int p0, .int p1, .int p2] (pM dC dI h a k u0)) (va_Qi (fun (r : Int32) (v : SM) => (r, v) = ff_M_text u0 p0 p1 p2) (pM dC dI h a k) (aM h a)) 0 0 (aM h a) := by
  refine Met.ofW (cc := bb_M_text) (maxL := 5) (ret := (some .int)) (by decide) rfl ?_
  intro p e s m args below meth c s₁ B hml hv
  obtain ⟨rfl, hP, hK, hD⟩ := hv
  have hx := B.exec
  have hb := B.bytes
  have hr := B.returns
  have hts : ∀ w ∈ gW, w.before _ s = true := fun w h => atoms_spec (ws := ws_M_text) B.pre w (List.mem_cons_of_mem _ h)
  have hown : s.vm.findClass "ClassObjectMirrorModel" = some m.cls := findClass_of_methodNamed B.named
  have hlocks := B.notSynchronized
  have hS : va_S (aM h a) s.heap s.heap [] := va_S.rf
  have hl := lv_entry ([.ref h, .int p0, .int p1, .int p2]) (n := 5) (Nat.le_of_ble_eq_true rfl)
  rw [lg_entry_eq]
  generalize (lg_sl ([.ref h, .int p0, .int p1, .int p2]) ++ List.replicate (5 - (lg_sl ([.ref h, .int p0, .int p1, .int p2])).length) Slot.unset).toArray = ls at hl ⊢
  have hl : lv_has ls 5 [(0, .ref h), (1, .int p0), (2, .int p1), (3, .int p2)] := hl
  have hf := ff_M_text.eq_1 u0 p0 p1 p2
  unfold ok_M_text at hok
  refine lv_aload_n hx hb dd_M_text_0 rfl (lv_at hl 0 rfl) ?_
  refine lv_iload_n hx hb dd_M_text_1 rfl (lv_at hl 1 rfl) ?_
  refine vp_callSi (W.runV (As := [.int p0]) (rest := []) ⟨hx, hb, hml, hown, hts⟩ (mm_M_noType l dC dI h a k u0 p0) (cwV 1 hts (gg_V gw_342 gw_344 gs_18 gw_2 gw_345) rfl rfl rfl (by decide +kernel) ⟨Nat.le_of_ble_eq_true rfl, Nat.le_of_ble_eq_true rfl⟩) ⟨pM_bl, va_recv hK hP (ci := 0) (q0 := 0) rfl rfl, fun U hU hW => ⟨rfl, pM_up hP hK hD hU hW⟩⟩ rfl rfl hl.1 rfl (lv_room (Nat.le_of_ble_eq_true rfl)) dd_M_text_2 ⟨Nat.zero_le _, Nat.zero_le _⟩) (fun r hr9 => ?_)
  subst hr9
  refine lv_if_ne (tgt := 17) hx hb dd_M_text_5 (by decide) (fun c1 => ?_) (fun c1 => ?_)
  · have hf := hf.trans (if_neg c1)
    have hok := hok.2 c1
    refine lv_iconst (v := (-1)) hx hb dd_M_text_17 (by decide) ?_
    exact W.iret (v := ((-1) : Int32)) hx hb hr (fun t ht hW => ⟨⟨((-1) : Int32), u0, rfl, hf.symm, pM_up hP hK hD ht hW⟩, hS.F ht⟩) hS.2.2 dd_M_text_18
  · have hf := hf.trans (if_pos c1)
    have hok := hok.1 c1
    refine lv_iload_n hx hb dd_M_text_8 rfl (lv_at hl 2 rfl) ?_
    refine lv_if_lt (tgt := 17) hx hb dd_M_text_9 (by decide) (fun c2 => ?_) (fun c2 => ?_)
    · have hf := hf.trans (if_pos c2)
      have hok := hok.1 c2
      refine lv_iconst (v := (-1)) hx hb dd_M_text_17 (by decide) ?_
      exact W.iret (v := ((-1) : Int32)) hx hb hr (fun t ht hW => ⟨⟨((-1) : Int32), u0, rfl, hf.symm, pM_up hP hK hD ht hW⟩, hS.F ht⟩) hS.2.2 dd_M_text_18
    · have hf := hf.trans (if_neg c2)
      have hok := hok.2 c2
      refine lv_iload_n hx hb dd_M_text_12 rfl (lv_at hl 2 rfl) ?_
      refine lv_iconst (v := 2) hx hb dd_M_text_13 (by decide) ?_
      refine lv_icmp_le (tgt := 19) hx hb dd_M_text_14 (by decide) (fun c3 => ?_) (fun c3 => ?_)
      · have hf := hf.trans (if_pos c3)
        have hok := hok.1 c3
        refine lv_aload_n hx hb dd_M_text_19 rfl (lv_at hl 0 rfl) ?_
        refine lv_iconst (v := 0) hx hb dd_M_text_20 (by decide) ?_
        refine va_put (D := (dC, dI)) (ci := 0) (v := .int 0) (ty := .int) (C := "ClassObjectMirrorModel") (T := TM) (N := 12) hx hb hts inM tyM tyM_ok nmM hown hK hP hD hS 0 rfl rfl 11 (by decide) (hts _ gw_312) (fun _ h9 => h9) rfl (by decide +kernel) rfl rfl (Nat.le_of_ble_eq_true rfl) dd_M_text_21 (fun H locs hP hD hS => ?_)
        have hP : va_P (dC, dI) cls_l (wM h a k (m_u_wr u0 0)) H := hP
        have hD : va_D (aM h a) (wM h a k (m_u_wr u0 0)) := hD
        refine lv_iload_n hx hb dd_M_text_24 rfl (lv_at hl 2 rfl) ?_
        refine lv_iconst (v := 2) hx hb dd_M_text_25 (by decide) ?_
        refine lv_icmp_ne (tgt := 38) hx hb dd_M_text_26 (by decide) (fun c4 => ?_) (fun c4 => ?_)
        · have hf := hf.trans (if_neg c4)
          have hok := hok.2 c4
          refine lv_iload_n hx hb dd_M_text_38 rfl (lv_at hl 2 rfl) ?_
          refine lv_if_ne (tgt := 60) hx hb dd_M_text_39 (by decide) (fun c5 => ?_) (fun c5 => ?_)
          · have hf := hf.trans (if_neg c5)
            have hok := hok.2 c5
            refine lv_iload_n hx hb dd_M_text_60 rfl (lv_at hl 2 rfl) ?_
            refine lv_if_ne (tgt := 72) hx hb dd_M_text_61 (by decide) (fun c6 => ?_) (fun c6 => ?_)
            · have hf := hf.trans (if_neg c6)
              have hok := hok.2 c6
              refine lv_aload_n hx hb dd_M_text_72 rfl (lv_at hl 0 rfl) ?_
              refine lv_aload_n hx hb dd_M_text_73 rfl (lv_at hl 0 rfl) ?_
              refine lv_iload_n hx hb dd_M_text_74 rfl (lv_at hl 1 rfl) ?_
              obtain ⟨n7, hok⟩ := hok
              refine vp_callSi (W.runV (As := [.int p0]) (rest := [.ref h]) ⟨hx, hb, hml, hown, hts⟩ (mm_M_bottom l dC dI h a k (m_u_wr u0 0) p0 n7) (cwV 1 hts (gg_V gw_377 gw_379 gs_22 gw_2 gw_380) rfl rfl rfl (by decide +kernel) ⟨Nat.le_of_ble_eq_true rfl, Nat.le_of_ble_eq_true rfl⟩) ⟨pM_bl, va_recv hK hP (ci := 0) (q0 := 0) rfl rfl, fun U hU hW => ⟨rfl, pM_up hP hK hD hU hW⟩⟩ rfl rfl hl.1 rfl (lv_room (Nat.le_of_ble_eq_true rfl)) dd_M_text_75 ⟨Nat.zero_le _, Nat.zero_le _⟩) (fun r hr9 => ?_)
              subst hr9
              obtain ⟨n8, hok⟩ := hok
              refine va_callv (va_runV (As := [.int (ff_M_bottom (m_u_wr u0 0) p0)]) (rest := []) ⟨hx, hb, hml, hown, hts⟩ (mm_M_simple l dC dI h a k (m_u_wr u0 0) (ff_M_bottom (m_u_wr u0 0) p0) n8) (cwV 1 hts (gg_V gw_415 gw_417 gs_27 gw_2 gw_418) rfl rfl rfl (by decide +kernel) ⟨Nat.le_of_ble_eq_true rfl, Nat.le_of_ble_eq_true rfl⟩) ⟨pM_bl, va_recv hK hP (ci := 0) (q0 := 0) rfl rfl, fun U hU hW => ⟨rfl, pM_up hP hK hD hU hW⟩⟩ rfl rfl hl.1 rfl (lv_room (Nat.le_of_ble_eq_true rfl)) dd_M_text_78 ⟨Nat.zero_le _, Nat.zero_le _⟩) hS (fun q _ h => h) (fun q h => h) (fun v9 t9 H locs ht9 hvm9 hw9 hB9 hz9 hk9 hS => ?_)
              subst hw9
              obtain ⟨hP, -, hD⟩ := hB9
              rw [ht9] at hP
              refine lv_iconst (v := 0) hx hb dd_M_text_81 (by decide) ?_
              refine lv_istore (lv' := [(4, .int 0), (0, .ref h), (1, .int p0), (2, .int p1), (3, .int p2)]) hx hb dd_M_text_82 hl (by decide) rfl (fun ls hl => ?_)
              have loop_84 : ∀ (n : Nat) (u : SM) (H : Heap) (locs : List Loc) (x1 : Int32) (x2 : Int32) (x3 : Int32) (x4 : Int32) (ls : Array Slot), okl_M_text_84 n u x1 x2 x3 x4 → ff_M_text u0 p0 p1 p2 = fl_M_text_84 n u x1 x2 x3 x4 → va_P (dC, dI) cls_l (wM h a k u) H → va_D (aM h a) (wM h a k u) → va_S (aM h a) s.heap H locs → lv_has ls 5 [(0, .ref h), (1, .int x1), (2, .int x2), (3, .int x3), (4, .int x4)] → W p l e (headSpec ws_M_text rm_M_text).room s m ([.ref h, .int p0, .int p1, .int p2] : List Value).toArray below meth c H locs 0 0 (MQ below (va_Qi (fun (r : Int32) (v : SM) => (r, v) = ff_M_text u0 p0 p1 p2) (pM dC dI h a k) (aM h a)) ([.ref h, .int p0, .int p1, .int p2] : List Value).toArray s 0 0 (aM h a)) (F0 m 84 ls []) := by
                intro n
                induction n with
                | zero => intro u H locs x1 x2 x3 x4 ls hok; exact (show False from hok).elim
                | succ n ih =>
                  intro u H locs x1 x2 x3 x4 ls hok hf hP hD hS hl
                  rw [fl_M_text_84] at hf
                  rw [okl_M_text_84] at hok
                  refine lv_iload hx hb dd_M_text_84 (lv_at hl 4 rfl) ?_
                  refine lv_aload_n hx hb dd_M_text_86 rfl (lv_at hl 0 rfl) ?_
                  refine va_get (D := (dC, dI)) (ci := 0) (v := .ref (a 3)) (C := "ClassObjectMirrorModel") (T := TM) (N := 12) hx hb hts inM hown hK hP 0 rfl rfl 3 (by decide) (hts _ gw_304) (fun _ h9 => h9) rfl dd_M_text_87 ?_
                  refine lv_iload_n hx hb dd_M_text_90 rfl (lv_at hl 1 rfl) ?_
                  obtain ⟨n9, hok⟩ := hok
                  refine va_iald hx hb hK hP 4 3 rfl rfl n9 dd_M_text_91 ?_
                  refine lv_icmp_ge (tgt := 118) hx hb dd_M_text_92 (by decide) (fun c10 => ?_) (fun c10 => ?_)
                  · have hf := hf.trans (if_pos c10)
                    have hok := hok.1 c10
                    refine lv_iload_n hx hb dd_M_text_118 rfl (lv_at hl 3 rfl) ?_
                    refine lv_if_lt (tgt := 130) hx hb dd_M_text_119 (by decide) (fun c11 => ?_) (fun c11 => ?_)
                    · have hf := hf.trans (if_pos c11)
                      have hok := hok.1 c11
                      refine lv_iconst (v := (-1)) hx hb dd_M_text_130 (by decide) ?_
                      refine lv_goto (tgt := 140) hx hb dd_M_text_131 (by decide) ?_
                      exact W.iret (v := ((-1) : Int32)) hx hb hr (fun t ht hW => ⟨⟨((-1) : Int32), u, rfl, hf.symm, pM_up hP hK hD ht hW⟩, hS.F ht⟩) hS.2.2 dd_M_text_140
                    · have hf := hf.trans (if_neg c11)
                      have hok := hok.2 c11
                      refine lv_iload_n hx hb dd_M_text_122 rfl (lv_at hl 3 rfl) ?_
                      refine lv_aload_n hx hb dd_M_text_123 rfl (lv_at hl 0 rfl) ?_
                      refine va_get (D := (dC, dI)) (ci := 0) (v := .int (m_wr u)) (C := "ClassObjectMirrorModel") (T := TM) (N := 12) hx hb hts inM hown hK hP 0 rfl rfl 11 (by decide) (hts _ gw_312) (fun _ h9 => h9) rfl dd_M_text_124 ?_
                      refine lv_icmp_lt (tgt := 134) hx hb dd_M_text_127 (by decide) (fun c12 => ?_) (fun c12 => ?_)
                      · have hf := hf.trans (if_pos c12)
                        have hok := hok.1 c12
                        refine lv_aload_n hx hb dd_M_text_134 rfl (lv_at hl 0 rfl) ?_
                        refine va_get (D := (dC, dI)) (ci := 0) (v := .ref (a 8)) (C := "ClassObjectMirrorModel") (T := TM) (N := 12) hx hb hts inM hown hK hP 0 rfl rfl 10 (by decide) (hts _ gw_311) (fun _ h9 => h9) rfl dd_M_text_135 ?_
                        refine lv_iload_n hx hb dd_M_text_138 rfl (lv_at hl 3 rfl) ?_
                        have n13 := hok
                        refine va_iald hx hb hK hP 9 8 rfl rfl n13 dd_M_text_139 ?_
                        exact W.iret (v := (m_out u x3.toNatClampNeg)) hx hb hr (fun t ht hW => ⟨⟨(m_out u x3.toNatClampNeg), u, rfl, hf.symm, pM_up hP hK hD ht hW⟩, hS.F ht⟩) hS.2.2 dd_M_text_140
                      · have hf := hf.trans (if_neg c12)
                        have hok := hok.2 c12
                        refine lv_iconst (v := (-1)) hx hb dd_M_text_130 (by decide) ?_
                        refine lv_goto (tgt := 140) hx hb dd_M_text_131 (by decide) ?_
                        exact W.iret (v := ((-1) : Int32)) hx hb hr (fun t ht hW => ⟨⟨((-1) : Int32), u, rfl, hf.symm, pM_up hP hK hD ht hW⟩, hS.F ht⟩) hS.2.2 dd_M_text_140
                  · have hf := hf.trans (if_neg c10)
                    have hok := hok.2 c10
                    refine lv_iload_n hx hb dd_M_text_95 rfl (lv_at hl 2 rfl) ?_
                    refine lv_iconst (v := 1) hx hb dd_M_text_96 (by decide) ?_
                    refine lv_icmp_ne (tgt := 118) hx hb dd_M_text_97 (by decide) (fun c14 => ?_) (fun c14 => ?_)
                    · have hf := hf.trans (if_neg c14)
                      have hok := hok.2 c14
                      refine lv_iload_n hx hb dd_M_text_118 rfl (lv_at hl 3 rfl) ?_
                      refine lv_if_lt (tgt := 130) hx hb dd_M_text_119 (by decide) (fun c15 => ?_) (fun c15 => ?_)
                      · have hf := hf.trans (if_pos c15)
                        have hok := hok.1 c15
                        refine lv_iconst (v := (-1)) hx hb dd_M_text_130 (by decide) ?_
                        refine lv_goto (tgt := 140) hx hb dd_M_text_131 (by decide) ?_
                        exact W.iret (v := ((-1) : Int32)) hx hb hr (fun t ht hW => ⟨⟨((-1) : Int32), u, rfl, hf.symm, pM_up hP hK hD ht hW⟩, hS.F ht⟩) hS.2.2 dd_M_text_140
                      · have hf := hf.trans (if_neg c15)
                        have hok := hok.2 c15
                        refine lv_iload_n hx hb dd_M_text_122 rfl (lv_at hl 3 rfl) ?_
                        refine lv_aload_n hx hb dd_M_text_123 rfl (lv_at hl 0 rfl) ?_
                        refine va_get (D := (dC, dI)) (ci := 0) (v := .int (m_wr u)) (C := "ClassObjectMirrorModel") (T := TM) (N := 12) hx hb hts inM hown hK hP 0 rfl rfl 11 (by decide) (hts _ gw_312) (fun _ h9 => h9) rfl dd_M_text_124 ?_
                        refine lv_icmp_lt (tgt := 134) hx hb dd_M_text_127 (by decide) (fun c16 => ?_) (fun c16 => ?_)
                        · have hf := hf.trans (if_pos c16)
                          have hok := hok.1 c16
                          refine lv_aload_n hx hb dd_M_text_134 rfl (lv_at hl 0 rfl) ?_
                          refine va_get (D := (dC, dI)) (ci := 0) (v := .ref (a 8)) (C := "ClassObjectMirrorModel") (T := TM) (N := 12) hx hb hts inM hown hK hP 0 rfl rfl 10 (by decide) (hts _ gw_311) (fun _ h9 => h9) rfl dd_M_text_135 ?_
                          refine lv_iload_n hx hb dd_M_text_138 rfl (lv_at hl 3 rfl) ?_
                          have n17 := hok
                          refine va_iald hx hb hK hP 9 8 rfl rfl n17 dd_M_text_139 ?_
                          exact W.iret (v := (m_out u x3.toNatClampNeg)) hx hb hr (fun t ht hW => ⟨⟨(m_out u x3.toNatClampNeg), u, rfl, hf.symm, pM_up hP hK hD ht hW⟩, hS.F ht⟩) hS.2.2 dd_M_text_140
                        · have hf := hf.trans (if_neg c16)
                          have hok := hok.2 c16
                          refine lv_iconst (v := (-1)) hx hb dd_M_text_130 (by decide) ?_
                          refine lv_goto (tgt := 140) hx hb dd_M_text_131 (by decide) ?_
                          exact W.iret (v := ((-1) : Int32)) hx hb hr (fun t ht hW => ⟨⟨((-1) : Int32), u, rfl, hf.symm, pM_up hP hK hD ht hW⟩, hS.F ht⟩) hS.2.2 dd_M_text_140
                    · have hf := hf.trans (if_pos c14)
                      have hok := hok.1 c14
                      refine lv_aload_n hx hb dd_M_text_100 rfl (lv_at hl 0 rfl) ?_
                      refine lv_bipush (v := 91) hx hb dd_M_text_101 (by decide) ?_
                      obtain ⟨n18, hok⟩ := hok
                      refine va_callv (va_runV (As := [.int 91]) (rest := []) ⟨hx, hb, hml, hown, hts⟩ (mm_M_letter l dC dI h a k u (91 : Int32) n18) (cwV 1 hts (gg_V gw_393 gw_395 gs_24 gw_2 gw_396) rfl rfl rfl (by decide +kernel) ⟨Nat.le_of_ble_eq_true rfl, Nat.le_of_ble_eq_true rfl⟩) ⟨pM_bl, va_recv hK hP (ci := 0) (q0 := 0) rfl rfl, fun U hU hW => ⟨rfl, pM_up hP hK hD hU hW⟩⟩ rfl rfl hl.1 rfl (lv_room (Nat.le_of_ble_eq_true rfl)) dd_M_text_103 ⟨Nat.zero_le _, Nat.zero_le _⟩) hS (fun q _ h => h) (fun q h => h) (fun v9 t9 H locs ht9 hvm9 hw9 hB9 hz9 hk9 hS => ?_)
                      subst hw9
                      obtain ⟨hP, -, hD⟩ := hB9
                      rw [ht9] at hP
                      refine lv_aload_n hx hb dd_M_text_106 rfl (lv_at hl 0 rfl) ?_
                      refine lv_bipush (v := 93) hx hb dd_M_text_107 (by decide) ?_
                      obtain ⟨n19, hok⟩ := hok
                      refine va_callv (va_runV (As := [.int 93]) (rest := []) ⟨hx, hb, hml, hown, hts⟩ (mm_M_letter l dC dI h a k (ff_M_letter u (91 : Int32)) (93 : Int32) n19) (cwV 1 hts (gg_V gw_393 gw_395 gs_24 gw_2 gw_396) rfl rfl rfl (by decide +kernel) ⟨Nat.le_of_ble_eq_true rfl, Nat.le_of_ble_eq_true rfl⟩) ⟨pM_bl, va_recv hK hP (ci := 0) (q0 := 0) rfl rfl, fun U hU hW => ⟨rfl, pM_up hP hK hD hU hW⟩⟩ rfl rfl hl.1 rfl (lv_room (Nat.le_of_ble_eq_true rfl)) dd_M_text_109 ⟨Nat.zero_le _, Nat.zero_le _⟩) hS (fun q _ h => h) (fun q h => h) (fun v9 t9 H locs ht9 hvm9 hw9 hB9 hz9 hk9 hS => ?_)
                      subst hw9
                      obtain ⟨hP, -, hD⟩ := hB9
                      rw [ht9] at hP
                      refine lv_iinc (v := x4 + 1) (lv' := [(4, .int (x4 + 1)), (0, .ref h), (1, .int x1), (2, .int x2), (3, .int x3)]) hx hb dd_M_text_112 hl (k := 4) rfl rfl (by decide) rfl (fun ls hl => ?_)
                      refine lv_goto (tgt := 84) hx hb dd_M_text_115 (by decide) ?_
                      exact ih (ff_M_letter (ff_M_letter u (91 : Int32)) (93 : Int32)) _ _ x1 x2 x3 (x4 + 1) ls hok hf hP hD hS (lv_sub hl [1, 2, 3, 4, 0] rfl)
              exact loop_84 400 (ff_M_simple (m_u_wr u0 0) (ff_M_bottom (m_u_wr u0 0) p0)) _ _ p0 p1 p2 (0 : Int32) ls hok hf hP hD hS (lv_sub hl [1, 2, 3, 4, 0] rfl)
            · have hf := hf.trans (if_pos c6)
              have hok := hok.1 c6
              refine lv_aload_n hx hb dd_M_text_64 rfl (lv_at hl 0 rfl) ?_
              refine lv_iload_n hx hb dd_M_text_65 rfl (lv_at hl 1 rfl) ?_
              obtain ⟨n20, hok⟩ := hok
              refine va_callv (va_runV (As := [.int p0]) (rest := []) ⟨hx, hb, hml, hown, hts⟩ (mm_M_name l dC dI h a k (m_u_wr u0 0) p0 n20) (cwV 1 hts (gg_V gw_400 gw_402 gs_25 gw_2 gw_403) rfl rfl rfl (by decide +kernel) ⟨Nat.le_of_ble_eq_true rfl, Nat.le_of_ble_eq_true rfl⟩) ⟨pM_bl, va_recv hK hP (ci := 0) (q0 := 0) rfl rfl, fun U hU hW => ⟨rfl, pM_up hP hK hD hU hW⟩⟩ rfl rfl hl.1 rfl (lv_room (Nat.le_of_ble_eq_true rfl)) dd_M_text_66 ⟨Nat.zero_le _, Nat.zero_le _⟩) hS (fun q _ h => h) (fun q h => h) (fun v9 t9 H locs ht9 hvm9 hw9 hB9 hz9 hk9 hS => ?_)
              subst hw9
              obtain ⟨hP, -, hD⟩ := hB9
              rw [ht9] at hP
              refine lv_goto (tgt := 81) hx hb dd_M_text_69 (by decide) ?_
              refine lv_iconst (v := 0) hx hb dd_M_text_81 (by decide) ?_
              refine lv_istore (lv' := [(4, .int 0), (0, .ref h), (1, .int p0), (2, .int p1), (3, .int p2)]) hx hb dd_M_text_82 hl (by decide) rfl (fun ls hl => ?_)
              have loop_84 : ∀ (n : Nat) (u : SM) (H : Heap) (locs : List Loc) (x1 : Int32) (x2 : Int32) (x3 : Int32) (x4 : Int32) (ls : Array Slot), okl_M_text_84 n u x1 x2 x3 x4 → ff_M_text u0 p0 p1 p2 = fl_M_text_84 n u x1 x2 x3 x4 → va_P (dC, dI) cls_l (wM h a k u) H → va_D (aM h a) (wM h a k u) → va_S (aM h a) s.heap H locs → lv_has ls 5 [(0, .ref h), (1, .int x1), (2, .int x2), (3, .int x3), (4, .int x4)] → W p l e (headSpec ws_M_text rm_M_text).room s m ([.ref h, .int p0, .int p1, .int p2] : List Value).toArray below meth c H locs 0 0 (MQ below (va_Qi (fun (r : Int32) (v : SM) => (r, v) = ff_M_text u0 p0 p1 p2) (pM dC dI h a k) (aM h a)) ([.ref h, .int p0, .int p1, .int p2] : List Value).toArray s 0 0 (aM h a)) (F0 m 84 ls []) := by
                intro n
                induction n with
                | zero => intro u H locs x1 x2 x3 x4 ls hok; exact (show False from hok).elim
                | succ n ih =>
                  intro u H locs x1 x2 x3 x4 ls hok hf hP hD hS hl
                  rw [fl_M_text_84] at hf
                  rw [okl_M_text_84] at hok
                  refine lv_iload hx hb dd_M_text_84 (lv_at hl 4 rfl) ?_
                  refine lv_aload_n hx hb dd_M_text_86 rfl (lv_at hl 0 rfl) ?_
                  refine va_get (D := (dC, dI)) (ci := 0) (v := .ref (a 3)) (C := "ClassObjectMirrorModel") (T := TM) (N := 12) hx hb hts inM hown hK hP 0 rfl rfl 3 (by decide) (hts _ gw_304) (fun _ h9 => h9) rfl dd_M_text_87 ?_
                  refine lv_iload_n hx hb dd_M_text_90 rfl (lv_at hl 1 rfl) ?_
                  obtain ⟨n21, hok⟩ := hok
                  refine va_iald hx hb hK hP 4 3 rfl rfl n21 dd_M_text_91 ?_
                  refine lv_icmp_ge (tgt := 118) hx hb dd_M_text_92 (by decide) (fun c22 => ?_) (fun c22 => ?_)
                  · have hf := hf.trans (if_pos c22)
                    have hok := hok.1 c22
                    refine lv_iload_n hx hb dd_M_text_118 rfl (lv_at hl 3 rfl) ?_
                    refine lv_if_lt (tgt := 130) hx hb dd_M_text_119 (by decide) (fun c23 => ?_) (fun c23 => ?_)
                    · have hf := hf.trans (if_pos c23)
                      have hok := hok.1 c23
                      refine lv_iconst (v := (-1)) hx hb dd_M_text_130 (by decide) ?_
                      refine lv_goto (tgt := 140) hx hb dd_M_text_131 (by decide) ?_
                      exact W.iret (v := ((-1) : Int32)) hx hb hr (fun t ht hW => ⟨⟨((-1) : Int32), u, rfl, hf.symm, pM_up hP hK hD ht hW⟩, hS.F ht⟩) hS.2.2 dd_M_text_140
                    · have hf := hf.trans (if_neg c23)
                      have hok := hok.2 c23
                      refine lv_iload_n hx hb dd_M_text_122 rfl (lv_at hl 3 rfl) ?_
                      refine lv_aload_n hx hb dd_M_text_123 rfl (lv_at hl 0 rfl) ?_
                      refine va_get (D := (dC, dI)) (ci := 0) (v := .int (m_wr u)) (C := "ClassObjectMirrorModel") (T := TM) (N := 12) hx hb hts inM hown hK hP 0 rfl rfl 11 (by decide) (hts _ gw_312) (fun _ h9 => h9) rfl dd_M_text_124 ?_
                      refine lv_icmp_lt (tgt := 134) hx hb dd_M_text_127 (by decide) (fun c24 => ?_) (fun c24 => ?_)
                      · have hf := hf.trans (if_pos c24)
                        have hok := hok.1 c24
                        refine lv_aload_n hx hb dd_M_text_134 rfl (lv_at hl 0 rfl) ?_
                        refine va_get (D := (dC, dI)) (ci := 0) (v := .ref (a 8)) (C := "ClassObjectMirrorModel") (T := TM) (N := 12) hx hb hts inM hown hK hP 0 rfl rfl 10 (by decide) (hts _ gw_311) (fun _ h9 => h9) rfl dd_M_text_135 ?_
                        refine lv_iload_n hx hb dd_M_text_138 rfl (lv_at hl 3 rfl) ?_
                        have n25 := hok
                        refine va_iald hx hb hK hP 9 8 rfl rfl n25 dd_M_text_139 ?_
                        exact W.iret (v := (m_out u x3.toNatClampNeg)) hx hb hr (fun t ht hW => ⟨⟨(m_out u x3.toNatClampNeg), u, rfl, hf.symm, pM_up hP hK hD ht hW⟩, hS.F ht⟩) hS.2.2 dd_M_text_140
                      · have hf := hf.trans (if_neg c24)
                        have hok := hok.2 c24
                        refine lv_iconst (v := (-1)) hx hb dd_M_text_130 (by decide) ?_
                        refine lv_goto (tgt := 140) hx hb dd_M_text_131 (by decide) ?_
                        exact W.iret (v := ((-1) : Int32)) hx hb hr (fun t ht hW => ⟨⟨((-1) : Int32), u, rfl, hf.symm, pM_up hP hK hD ht hW⟩, hS.F ht⟩) hS.2.2 dd_M_text_140
                  · have hf := hf.trans (if_neg c22)
                    have hok := hok.2 c22
                    refine lv_iload_n hx hb dd_M_text_95 rfl (lv_at hl 2 rfl) ?_
                    refine lv_iconst (v := 1) hx hb dd_M_text_96 (by decide) ?_
                    refine lv_icmp_ne (tgt := 118) hx hb dd_M_text_97 (by decide) (fun c26 => ?_) (fun c26 => ?_)
                    · have hf := hf.trans (if_neg c26)
                      have hok := hok.2 c26
                      refine lv_iload_n hx hb dd_M_text_118 rfl (lv_at hl 3 rfl) ?_
                      refine lv_if_lt (tgt := 130) hx hb dd_M_text_119 (by decide) (fun c27 => ?_) (fun c27 => ?_)
                      · have hf := hf.trans (if_pos c27)
                        have hok := hok.1 c27
                        refine lv_iconst (v := (-1)) hx hb dd_M_text_130 (by decide) ?_
                        refine lv_goto (tgt := 140) hx hb dd_M_text_131 (by decide) ?_
                        exact W.iret (v := ((-1) : Int32)) hx hb hr (fun t ht hW => ⟨⟨((-1) : Int32), u, rfl, hf.symm, pM_up hP hK hD ht hW⟩, hS.F ht⟩) hS.2.2 dd_M_text_140
                      · have hf := hf.trans (if_neg c27)
                        have hok := hok.2 c27
                        refine lv_iload_n hx hb dd_M_text_122 rfl (lv_at hl 3 rfl) ?_
                        refine lv_aload_n hx hb dd_M_text_123 rfl (lv_at hl 0 rfl) ?_
                        refine va_get (D := (dC, dI)) (ci := 0) (v := .int (m_wr u)) (C := "ClassObjectMirrorModel") (T := TM) (N := 12) hx hb hts inM hown hK hP 0 rfl rfl 11 (by decide) (hts _ gw_312) (fun _ h9 => h9) rfl dd_M_text_124 ?_
                        refine lv_icmp_lt (tgt := 134) hx hb dd_M_text_127 (by decide) (fun c28 => ?_) (fun c28 => ?_)
                        · have hf := hf.trans (if_pos c28)
                          have hok := hok.1 c28
                          refine lv_aload_n hx hb dd_M_text_134 rfl (lv_at hl 0 rfl) ?_
                          refine va_get (D := (dC, dI)) (ci := 0) (v := .ref (a 8)) (C := "ClassObjectMirrorModel") (T := TM) (N := 12) hx hb hts inM hown hK hP 0 rfl rfl 10 (by decide) (hts _ gw_311) (fun _ h9 => h9) rfl dd_M_text_135 ?_
                          refine lv_iload_n hx hb dd_M_text_138 rfl (lv_at hl 3 rfl) ?_
                          have n29 := hok
                          refine va_iald hx hb hK hP 9 8 rfl rfl n29 dd_M_text_139 ?_
                          exact W.iret (v := (m_out u x3.toNatClampNeg)) hx hb hr (fun t ht hW => ⟨⟨(m_out u x3.toNatClampNeg), u, rfl, hf.symm, pM_up hP hK hD ht hW⟩, hS.F ht⟩) hS.2.2 dd_M_text_140
                        · have hf := hf.trans (if_neg c28)
                          have hok := hok.2 c28
                          refine lv_iconst (v := (-1)) hx hb dd_M_text_130 (by decide) ?_
                          refine lv_goto (tgt := 140) hx hb dd_M_text_131 (by decide) ?_
                          exact W.iret (v := ((-1) : Int32)) hx hb hr (fun t ht hW => ⟨⟨((-1) : Int32), u, rfl, hf.symm, pM_up hP hK hD ht hW⟩, hS.F ht⟩) hS.2.2 dd_M_text_140
                    · have hf := hf.trans (if_pos c26)
                      have hok := hok.1 c26
                      refine lv_aload_n hx hb dd_M_text_100 rfl (lv_at hl 0 rfl) ?_
                      refine lv_bipush (v := 91) hx hb dd_M_text_101 (by decide) ?_
                      obtain ⟨n30, hok⟩ := hok
                      refine va_callv (va_runV (As := [.int 91]) (rest := []) ⟨hx, hb, hml, hown, hts⟩ (mm_M_letter l dC dI h a k u (91 : Int32) n30) (cwV 1 hts (gg_V gw_393 gw_395 gs_24 gw_2 gw_396) rfl rfl rfl (by decide +kernel) ⟨Nat.le_of_ble_eq_true rfl, Nat.le_of_ble_eq_true rfl⟩) ⟨pM_bl, va_recv hK hP (ci := 0) (q0 := 0) rfl rfl, fun U hU hW => ⟨rfl, pM_up hP hK hD hU hW⟩⟩ rfl rfl hl.1 rfl (lv_room (Nat.le_of_ble_eq_true rfl)) dd_M_text_103 ⟨Nat.zero_le _, Nat.zero_le _⟩) hS (fun q _ h => h) (fun q h => h) (fun v9 t9 H locs ht9 hvm9 hw9 hB9 hz9 hk9 hS => ?_)
                      subst hw9
                      obtain ⟨hP, -, hD⟩ := hB9
                      rw [ht9] at hP
                      refine lv_aload_n hx hb dd_M_text_106 rfl (lv_at hl 0 rfl) ?_
                      refine lv_bipush (v := 93) hx hb dd_M_text_107 (by decide) ?_
                      obtain ⟨n31, hok⟩ := hok
                      refine va_callv (va_runV (As := [.int 93]) (rest := []) ⟨hx, hb, hml, hown, hts⟩ (mm_M_letter l dC dI h a k (ff_M_letter u (91 : Int32)) (93 : Int32) n31) (cwV 1 hts (gg_V gw_393 gw_395 gs_24 gw_2 gw_396) rfl rfl rfl (by decide +kernel) ⟨Nat.le_of_ble_eq_true rfl, Nat.le_of_ble_eq_true rfl⟩) ⟨pM_bl, va_recv hK hP (ci := 0) (q0 := 0) rfl rfl, fun U hU hW => ⟨rfl, pM_up hP hK hD hU hW⟩⟩ rfl rfl hl.1 rfl (lv_room (Nat.le_of_ble_eq_true rfl)) dd_M_text_109 ⟨Nat.zero_le _, Nat.zero_le _⟩) hS (fun q _ h => h) (fun q h => h) (fun v9 t9 H locs ht9 hvm9 hw9 hB9 hz9 hk9 hS => ?_)
                      subst hw9
                      obtain ⟨hP, -, hD⟩ := hB9
                      rw [ht9] at hP
                      refine lv_iinc (v := x4 + 1) (lv' := [(4, .int (x4 + 1)), (0, .ref h), (1, .int x1), (2, .int x2), (3, .int x3)]) hx hb dd_M_text_112 hl (k := 4) rfl rfl (by decide) rfl (fun ls hl => ?_)
                      refine lv_goto (tgt := 84) hx hb dd_M_text_115 (by decide) ?_
                      exact ih (ff_M_letter (ff_M_letter u (91 : Int32)) (93 : Int32)) _ _ x1 x2 x3 (x4 + 1) ls hok hf hP hD hS (lv_sub hl [1, 2, 3, 4, 0] rfl)
              exact loop_84 400 (ff_M_name (m_u_wr u0 0) p0) _ _ p0 p1 p2 (0 : Int32) ls hok hf hP hD hS (lv_sub hl [1, 2, 3, 4, 0] rfl)
          · have hf := hf.trans (if_pos c5)
            have hok := hok.1 c5
            refine lv_aload_n hx hb dd_M_text_42 rfl (lv_at hl 0 rfl) ?_
            refine va_get (D := (dC, dI)) (ci := 0) (v := .ref (a 3)) (C := "ClassObjectMirrorModel") (T := TM) (N := 12) hx hb hts inM hown hK hP 0 rfl rfl 3 (by decide) (hts _ gw_304) (fun _ h9 => h9) rfl dd_M_text_43 ?_
            refine lv_iload_n hx hb dd_M_text_46 rfl (lv_at hl 1 rfl) ?_
            obtain ⟨n32, hok⟩ := hok
            refine va_iald hx hb hK hP 4 3 rfl rfl n32 dd_M_text_47 ?_
            refine lv_if_le (tgt := 60) hx hb dd_M_text_48 (by decide) (fun c33 => ?_) (fun c33 => ?_)
            · have hf := hf.trans (if_pos c33)
              have hok := hok.1 c33
              refine lv_iload_n hx hb dd_M_text_60 rfl (lv_at hl 2 rfl) ?_
              refine lv_if_ne (tgt := 72) hx hb dd_M_text_61 (by decide) (fun c34 => ?_) (fun c34 => ?_)
              · have hf := hf.trans (if_neg c34)
                have hok := hok.2 c34
                refine lv_aload_n hx hb dd_M_text_72 rfl (lv_at hl 0 rfl) ?_
                refine lv_aload_n hx hb dd_M_text_73 rfl (lv_at hl 0 rfl) ?_
                refine lv_iload_n hx hb dd_M_text_74 rfl (lv_at hl 1 rfl) ?_
                obtain ⟨n35, hok⟩ := hok
                refine vp_callSi (W.runV (As := [.int p0]) (rest := [.ref h]) ⟨hx, hb, hml, hown, hts⟩ (mm_M_bottom l dC dI h a k (m_u_wr u0 0) p0 n35) (cwV 1 hts (gg_V gw_377 gw_379 gs_22 gw_2 gw_380) rfl rfl rfl (by decide +kernel) ⟨Nat.le_of_ble_eq_true rfl, Nat.le_of_ble_eq_true rfl⟩) ⟨pM_bl, va_recv hK hP (ci := 0) (q0 := 0) rfl rfl, fun U hU hW => ⟨rfl, pM_up hP hK hD hU hW⟩⟩ rfl rfl hl.1 rfl (lv_room (Nat.le_of_ble_eq_true rfl)) dd_M_text_75 ⟨Nat.zero_le _, Nat.zero_le _⟩) (fun r hr9 => ?_)
                subst hr9
                obtain ⟨n36, hok⟩ := hok
                refine va_callv (va_runV (As := [.int (ff_M_bottom (m_u_wr u0 0) p0)]) (rest := []) ⟨hx, hb, hml, hown, hts⟩ (mm_M_simple l dC dI h a k (m_u_wr u0 0) (ff_M_bottom (m_u_wr u0 0) p0) n36) (cwV 1 hts (gg_V gw_415 gw_417 gs_27 gw_2 gw_418) rfl rfl rfl (by decide +kernel) ⟨Nat.le_of_ble_eq_true rfl, Nat.le_of_ble_eq_true rfl⟩) ⟨pM_bl, va_recv hK hP (ci := 0) (q0 := 0) rfl rfl, fun U hU hW => ⟨rfl, pM_up hP hK hD hU hW⟩⟩ rfl rfl hl.1 rfl (lv_room (Nat.le_of_ble_eq_true rfl)) dd_M_text_78 ⟨Nat.zero_le _, Nat.zero_le _⟩) hS (fun q _ h => h) (fun q h => h) (fun v9 t9 H locs ht9 hvm9 hw9 hB9 hz9 hk9 hS => ?_)
                subst hw9
                obtain ⟨hP, -, hD⟩ := hB9
                rw [ht9] at hP
                refine lv_iconst (v := 0) hx hb dd_M_text_81 (by decide) ?_
                refine lv_istore (lv' := [(4, .int 0), (0, .ref h), (1, .int p0), (2, .int p1), (3, .int p2)]) hx hb dd_M_text_82 hl (by decide) rfl (fun ls hl => ?_)
                have loop_84 : ∀ (n : Nat) (u : SM) (H : Heap) (locs : List Loc) (x1 : Int32) (x2 : Int32) (x3 : Int32) (x4 : Int32) (ls : Array Slot), okl_M_text_84 n u x1 x2 x3 x4 → ff_M_text u0 p0 p1 p2 = fl_M_text_84 n u x1 x2 x3 x4 → va_P (dC, dI) cls_l (wM h a k u) H → va_D (aM h a) (wM h a k u) → va_S (aM h a) s.heap H locs → lv_has ls 5 [(0, .ref h), (1, .int x1), (2, .int x2), (3, .int x3), (4, .int x4)] → W p l e (headSpec ws_M_text rm_M_text).room s m ([.ref h, .int p0, .int p1, .int p2] : List Value).toArray below meth c H locs 0 0 (MQ below (va_Qi (fun (r : Int32) (v : SM) => (r, v) = ff_M_text u0 p0 p1 p2) (pM dC dI h a k) (aM h a)) ([.ref h, .int p0, .int p1, .int p2] : List Value).toArray s 0 0 (aM h a)) (F0 m 84 ls []) := by
                  intro n
                  induction n with
                  | zero => intro u H locs x1 x2 x3 x4 ls hok; exact (show False from hok).elim
                  | succ n ih =>
                    intro u H locs x1 x2 x3 x4 ls hok hf hP hD hS hl
                    rw [fl_M_text_84] at hf
                    rw [okl_M_text_84] at hok
                    refine lv_iload hx hb dd_M_text_84 (lv_at hl 4 rfl) ?_
                    refine lv_aload_n hx hb dd_M_text_86 rfl (lv_at hl 0 rfl) ?_
                    refine va_get (D := (dC, dI)) (ci := 0) (v := .ref (a 3)) (C := "ClassObjectMirrorModel") (T := TM) (N := 12) hx hb hts inM hown hK hP 0 rfl rfl 3 (by decide) (hts _ gw_304) (fun _ h9 => h9) rfl dd_M_text_87 ?_
                    refine lv_iload_n hx hb dd_M_text_90 rfl (lv_at hl 1 rfl) ?_
                    obtain ⟨n37, hok⟩ := hok
                    refine va_iald hx hb hK hP 4 3 rfl rfl n37 dd_M_text_91 ?_
                    refine lv_icmp_ge (tgt := 118) hx hb dd_M_text_92 (by decide) (fun c38 => ?_) (fun c38 => ?_)
                    · have hf := hf.trans (if_pos c38)
                      have hok := hok.1 c38
                      refine lv_iload_n hx hb dd_M_text_118 rfl (lv_at hl 3 rfl) ?_
                      refine lv_if_lt (tgt := 130) hx hb dd_M_text_119 (by decide) (fun c39 => ?_) (fun c39 => ?_)
                      · have hf := hf.trans (if_pos c39)
                        have hok := hok.1 c39
                        refine lv_iconst (v := (-1)) hx hb dd_M_text_130 (by decide) ?_
                        refine lv_goto (tgt := 140) hx hb dd_M_text_131 (by decide) ?_
                        exact W.iret (v := ((-1) : Int32)) hx hb hr (fun t ht hW => ⟨⟨((-1) : Int32), u, rfl, hf.symm, pM_up hP hK hD ht hW⟩, hS.F ht⟩) hS.2.2 dd_M_text_140
                      · have hf := hf.trans (if_neg c39)
                        have hok := hok.2 c39
                        refine lv_iload_n hx hb dd_M_text_122 rfl (lv_at hl 3 rfl) ?_
                        refine lv_aload_n hx hb dd_M_text_123 rfl (lv_at hl 0 rfl) ?_
                        refine va_get (D := (dC, dI)) (ci := 0) (v := .int (m_wr u)) (C := "ClassObjectMirrorModel") (T := TM) (N := 12) hx hb hts inM hown hK hP 0 rfl rfl 11 (by decide) (hts _ gw_312) (fun _ h9 => h9) rfl dd_M_text_124 ?_
                        refine lv_icmp_lt (tgt := 134) hx hb dd_M_text_127 (by decide) (fun c40 => ?_) (fun c40 => ?_)
                        · have hf := hf.trans (if_pos c40)
                          have hok := hok.1 c40
                          refine lv_aload_n hx hb dd_M_text_134 rfl (lv_at hl 0 rfl) ?_
                          refine va_get (D := (dC, dI)) (ci := 0) (v := .ref (a 8)) (C := "ClassObjectMirrorModel") (T := TM) (N := 12) hx hb hts inM hown hK hP 0 rfl rfl 10 (by decide) (hts _ gw_311) (fun _ h9 => h9) rfl dd_M_text_135 ?_
                          refine lv_iload_n hx hb dd_M_text_138 rfl (lv_at hl 3 rfl) ?_
                          have n41 := hok
                          refine va_iald hx hb hK hP 9 8 rfl rfl n41 dd_M_text_139 ?_
                          exact W.iret (v := (m_out u x3.toNatClampNeg)) hx hb hr (fun t ht hW => ⟨⟨(m_out u x3.toNatClampNeg), u, rfl, hf.symm, pM_up hP hK hD ht hW⟩, hS.F ht⟩) hS.2.2 dd_M_text_140
                        · have hf := hf.trans (if_neg c40)
                          have hok := hok.2 c40
                          refine lv_iconst (v := (-1)) hx hb dd_M_text_130 (by decide) ?_
                          refine lv_goto (tgt := 140) hx hb dd_M_text_131 (by decide) ?_
                          exact W.iret (v := ((-1) : Int32)) hx hb hr (fun t ht hW => ⟨⟨((-1) : Int32), u, rfl, hf.symm, pM_up hP hK hD ht hW⟩, hS.F ht⟩) hS.2.2 dd_M_text_140
                    · have hf := hf.trans (if_neg c38)
                      have hok := hok.2 c38
                      refine lv_iload_n hx hb dd_M_text_95 rfl (lv_at hl 2 rfl) ?_
                      refine lv_iconst (v := 1) hx hb dd_M_text_96 (by decide) ?_
                      refine lv_icmp_ne (tgt := 118) hx hb dd_M_text_97 (by decide) (fun c42 => ?_) (fun c42 => ?_)
                      · have hf := hf.trans (if_neg c42)
                        have hok := hok.2 c42
                        refine lv_iload_n hx hb dd_M_text_118 rfl (lv_at hl 3 rfl) ?_
                        refine lv_if_lt (tgt := 130) hx hb dd_M_text_119 (by decide) (fun c43 => ?_) (fun c43 => ?_)
                        · have hf := hf.trans (if_pos c43)
                          have hok := hok.1 c43
                          refine lv_iconst (v := (-1)) hx hb dd_M_text_130 (by decide) ?_
                          refine lv_goto (tgt := 140) hx hb dd_M_text_131 (by decide) ?_
                          exact W.iret (v := ((-1) : Int32)) hx hb hr (fun t ht hW => ⟨⟨((-1) : Int32), u, rfl, hf.symm, pM_up hP hK hD ht hW⟩, hS.F ht⟩) hS.2.2 dd_M_text_140
                        · have hf := hf.trans (if_neg c43)
                          have hok := hok.2 c43
                          refine lv_iload_n hx hb dd_M_text_122 rfl (lv_at hl 3 rfl) ?_
                          refine lv_aload_n hx hb dd_M_text_123 rfl (lv_at hl 0 rfl) ?_
                          refine va_get (D := (dC, dI)) (ci := 0) (v := .int (m_wr u)) (C := "ClassObjectMirrorModel") (T := TM) (N := 12) hx hb hts inM hown hK hP 0 rfl rfl 11 (by decide) (hts _ gw_312) (fun _ h9 => h9) rfl dd_M_text_124 ?_
                          refine lv_icmp_lt (tgt := 134) hx hb dd_M_text_127 (by decide) (fun c44 => ?_) (fun c44 => ?_)
                          · have hf := hf.trans (if_pos c44)
                            have hok := hok.1 c44
                            refine lv_aload_n hx hb dd_M_text_134 rfl (lv_at hl 0 rfl) ?_
                            refine va_get (D := (dC, dI)) (ci := 0) (v := .ref (a 8)) (C := "ClassObjectMirrorModel") (T := TM) (N := 12) hx hb hts inM hown hK hP 0 rfl rfl 10 (by decide) (hts _ gw_311) (fun _ h9 => h9) rfl dd_M_text_135 ?_
                            refine lv_iload_n hx hb dd_M_text_138 rfl (lv_at hl 3 rfl) ?_
                            have n45 := hok
                            refine va_iald hx hb hK hP 9 8 rfl rfl n45 dd_M_text_139 ?_
                            exact W.iret (v := (m_out u x3.toNatClampNeg)) hx hb hr (fun t ht hW => ⟨⟨(m_out u x3.toNatClampNeg), u, rfl, hf.symm, pM_up hP hK hD ht hW⟩, hS.F ht⟩) hS.2.2 dd_M_text_140
                          · have hf := hf.trans (if_neg c44)
                            have hok := hok.2 c44
                            refine lv_iconst (v := (-1)) hx hb dd_M_text_130 (by decide) ?_
                            refine lv_goto (tgt := 140) hx hb dd_M_text_131 (by decide) ?_
                            exact W.iret (v := ((-1) : Int32)) hx hb hr (fun t ht hW => ⟨⟨((-1) : Int32), u, rfl, hf.symm, pM_up hP hK hD ht hW⟩, hS.F ht⟩) hS.2.2 dd_M_text_140
                      · have hf := hf.trans (if_pos c42)
                        have hok := hok.1 c42
                        refine lv_aload_n hx hb dd_M_text_100 rfl (lv_at hl 0 rfl) ?_
                        refine lv_bipush (v := 91) hx hb dd_M_text_101 (by decide) ?_
                        obtain ⟨n46, hok⟩ := hok
                        refine va_callv (va_runV (As := [.int 91]) (rest := []) ⟨hx, hb, hml, hown, hts⟩ (mm_M_letter l dC dI h a k u (91 : Int32) n46) (cwV 1 hts (gg_V gw_393 gw_395 gs_24 gw_2 gw_396) rfl rfl rfl (by decide +kernel) ⟨Nat.le_of_ble_eq_true rfl, Nat.le_of_ble_eq_true rfl⟩) ⟨pM_bl, va_recv hK hP (ci := 0) (q0 := 0) rfl rfl, fun U hU hW => ⟨rfl, pM_up hP hK hD hU hW⟩⟩ rfl rfl hl.1 rfl (lv_room (Nat.le_of_ble_eq_true rfl)) dd_M_text_103 ⟨Nat.zero_le _, Nat.zero_le _⟩) hS (fun q _ h => h) (fun q h => h) (fun v9 t9 H locs ht9 hvm9 hw9 hB9 hz9 hk9 hS => ?_)
                        subst hw9
                        obtain ⟨hP, -, hD⟩ := hB9
                        rw [ht9] at hP
                        refine lv_aload_n hx hb dd_M_text_106 rfl (lv_at hl 0 rfl) ?_
                        refine lv_bipush (v := 93) hx hb dd_M_text_107 (by decide) ?_
                        obtain ⟨n47, hok⟩ := hok
                        refine va_callv (va_runV (As := [.int 93]) (rest := []) ⟨hx, hb, hml, hown, hts⟩ (mm_M_letter l dC dI h a k (ff_M_letter u (91 : Int32)) (93 : Int32) n47) (cwV 1 hts (gg_V gw_393 gw_395 gs_24 gw_2 gw_396) rfl rfl rfl (by decide +kernel) ⟨Nat.le_of_ble_eq_true rfl, Nat.le_of_ble_eq_true rfl⟩) ⟨pM_bl, va_recv hK hP (ci := 0) (q0 := 0) rfl rfl, fun U hU hW => ⟨rfl, pM_up hP hK hD hU hW⟩⟩ rfl rfl hl.1 rfl (lv_room (Nat.le_of_ble_eq_true rfl)) dd_M_text_109 ⟨Nat.zero_le _, Nat.zero_le _⟩) hS (fun q _ h => h) (fun q h => h) (fun v9 t9 H locs ht9 hvm9 hw9 hB9 hz9 hk9 hS => ?_)
                        subst hw9
                        obtain ⟨hP, -, hD⟩ := hB9
                        rw [ht9] at hP
                        refine lv_iinc (v := x4 + 1) (lv' := [(4, .int (x4 + 1)), (0, .ref h), (1, .int x1), (2, .int x2), (3, .int x3)]) hx hb dd_M_text_112 hl (k := 4) rfl rfl (by decide) rfl (fun ls hl => ?_)
                        refine lv_goto (tgt := 84) hx hb dd_M_text_115 (by decide) ?_
                        exact ih (ff_M_letter (ff_M_letter u (91 : Int32)) (93 : Int32)) _ _ x1 x2 x3 (x4 + 1) ls hok hf hP hD hS (lv_sub hl [1, 2, 3, 4, 0] rfl)
                exact loop_84 400 (ff_M_simple (m_u_wr u0 0) (ff_M_bottom (m_u_wr u0 0) p0)) _ _ p0 p1 p2 (0 : Int32) ls hok hf hP hD hS (lv_sub hl [1, 2, 3, 4, 0] rfl)
              · have hf := hf.trans (if_pos c34)
                have hok := hok.1 c34
                refine lv_aload_n hx hb dd_M_text_64 rfl (lv_at hl 0 rfl) ?_
                refine lv_iload_n hx hb dd_M_text_65 rfl (lv_at hl 1 rfl) ?_
                obtain ⟨n48, hok⟩ := hok
                refine va_callv (va_runV (As := [.int p0]) (rest := []) ⟨hx, hb, hml, hown, hts⟩ (mm_M_name l dC dI h a k (m_u_wr u0 0) p0 n48) (cwV 1 hts (gg_V gw_400 gw_402 gs_25 gw_2 gw_403) rfl rfl rfl (by decide +kernel) ⟨Nat.le_of_ble_eq_true rfl, Nat.le_of_ble_eq_true rfl⟩) ⟨pM_bl, va_recv hK hP (ci := 0) (q0 := 0) rfl rfl, fun U hU hW => ⟨rfl, pM_up hP hK hD hU hW⟩⟩ rfl rfl hl.1 rfl (lv_room (Nat.le_of_ble_eq_true rfl)) dd_M_text_66 ⟨Nat.zero_le _, Nat.zero_le _⟩) hS (fun q _ h => h) (fun q h => h) (fun v9 t9 H locs ht9 hvm9 hw9 hB9 hz9 hk9 hS => ?_)
                subst hw9
                obtain ⟨hP, -, hD⟩ := hB9
                rw [ht9] at hP
                refine lv_goto (tgt := 81) hx hb dd_M_text_69 (by decide) ?_
                refine lv_iconst (v := 0) hx hb dd_M_text_81 (by decide) ?_
                refine lv_istore (lv' := [(4, .int 0), (0, .ref h), (1, .int p0), (2, .int p1), (3, .int p2)]) hx hb dd_M_text_82 hl (by decide) rfl (fun ls hl => ?_)
                have loop_84 : ∀ (n : Nat) (u : SM) (H : Heap) (locs : List Loc) (x1 : Int32) (x2 : Int32) (x3 : Int32) (x4 : Int32) (ls : Array Slot), okl_M_text_84 n u x1 x2 x3 x4 → ff_M_text u0 p0 p1 p2 = fl_M_text_84 n u x1 x2 x3 x4 → va_P (dC, dI) cls_l (wM h a k u) H → va_D (aM h a) (wM h a k u) → va_S (aM h a) s.heap H locs → lv_has ls 5 [(0, .ref h), (1, .int x1), (2, .int x2), (3, .int x3), (4, .int x4)] → W p l e (headSpec ws_M_text rm_M_text).room s m ([.ref h, .int p0, .int p1, .int p2] : List Value).toArray below meth c H locs 0 0 (MQ below (va_Qi (fun (r : Int32) (v : SM) => (r, v) = ff_M_text u0 p0 p1 p2) (pM dC dI h a k) (aM h a)) ([.ref h, .int p0, .int p1, .int p2] : List Value).toArray s 0 0 (aM h a)) (F0 m 84 ls []) := by
                  intro n
                  induction n with
                  | zero => intro u H locs x1 x2 x3 x4 ls hok; exact (show False from hok).elim
                  | succ n ih =>
                    intro u H locs x1 x2 x3 x4 ls hok hf hP hD hS hl
                    rw [fl_M_text_84] at hf
                    rw [okl_M_text_84] at hok
                    refine lv_iload hx hb dd_M_text_84 (lv_at hl 4 rfl) ?_
                    refine lv_aload_n hx hb dd_M_text_86 rfl (lv_at hl 0 rfl) ?_
                    refine va_get (D := (dC, dI)) (ci := 0) (v := .ref (a 3)) (C := "ClassObjectMirrorModel") (T := TM) (N := 12) hx hb hts inM hown hK hP 0 rfl rfl 3 (by decide) (hts _ gw_304) (fun _ h9 => h9) rfl dd_M_text_87 ?_
                    refine lv_iload_n hx hb dd_M_text_90 rfl (lv_at hl 1 rfl) ?_
                    obtain ⟨n49, hok⟩ := hok
                    refine va_iald hx hb hK hP 4 3 rfl rfl n49 dd_M_text_91 ?_
                    refine lv_icmp_ge (tgt := 118) hx hb dd_M_text_92 (by decide) (fun c50 => ?_) (fun c50 => ?_)
                    · have hf := hf.trans (if_pos c50)
                      have hok := hok.1 c50
                      refine lv_iload_n hx hb dd_M_text_118 rfl (lv_at hl 3 rfl) ?_
                      refine lv_if_lt (tgt := 130) hx hb dd_M_text_119 (by decide) (fun c51 => ?_) (fun c51 => ?_)
                      · have hf := hf.trans (if_pos c51)
                        have hok := hok.1 c51
                        refine lv_iconst (v := (-1)) hx hb dd_M_text_130 (by decide) ?_
                        refine lv_goto (tgt := 140) hx hb dd_M_text_131 (by decide) ?_
                        exact W.iret (v := ((-1) : Int32)) hx hb hr (fun t ht hW => ⟨⟨((-1) : Int32), u, rfl, hf.symm, pM_up hP hK hD ht hW⟩, hS.F ht⟩) hS.2.2 dd_M_text_140
                      · have hf := hf.trans (if_neg c51)
                        have hok := hok.2 c51
                        refine lv_iload_n hx hb dd_M_text_122 rfl (lv_at hl 3 rfl) ?_
                        refine lv_aload_n hx hb dd_M_text_123 rfl (lv_at hl 0 rfl) ?_
                        refine va_get (D := (dC, dI)) (ci := 0) (v := .int (m_wr u)) (C := "ClassObjectMirrorModel") (T := TM) (N := 12) hx hb hts inM hown hK hP 0 rfl rfl 11 (by decide) (hts _ gw_312) (fun _ h9 => h9) rfl dd_M_text_124 ?_
                        refine lv_icmp_lt (tgt := 134) hx hb dd_M_text_127 (by decide) (fun c52 => ?_) (fun c52 => ?_)
                        · have hf := hf.trans (if_pos c52)
                          have hok := hok.1 c52
                          refine lv_aload_n hx hb dd_M_text_134 rfl (lv_at hl 0 rfl) ?_
                          refine va_get (D := (dC, dI)) (ci := 0) (v := .ref (a 8)) (C := "ClassObjectMirrorModel") (T := TM) (N := 12) hx hb hts inM hown hK hP 0 rfl rfl 10 (by decide) (hts _ gw_311) (fun _ h9 => h9) rfl dd_M_text_135 ?_
                          refine lv_iload_n hx hb dd_M_text_138 rfl (lv_at hl 3 rfl) ?_
                          have n53 := hok
                          refine va_iald hx hb hK hP 9 8 rfl rfl n53 dd_M_text_139 ?_
                          exact W.iret (v := (m_out u x3.toNatClampNeg)) hx hb hr (fun t ht hW => ⟨⟨(m_out u x3.toNatClampNeg), u, rfl, hf.symm, pM_up hP hK hD ht hW⟩, hS.F ht⟩) hS.2.2 dd_M_text_140
                        · have hf := hf.trans (if_neg c52)
                          have hok := hok.2 c52
                          refine lv_iconst (v := (-1)) hx hb dd_M_text_130 (by decide) ?_
                          refine lv_goto (tgt := 140) hx hb dd_M_text_131 (by decide) ?_
                          exact W.iret (v := ((-1) : Int32)) hx hb hr (fun t ht hW => ⟨⟨((-1) : Int32), u, rfl, hf.symm, pM_up hP hK hD ht hW⟩, hS.F ht⟩) hS.2.2 dd_M_text_140
                    · have hf := hf.trans (if_neg c50)
                      have hok := hok.2 c50
                      refine lv_iload_n hx hb dd_M_text_95 rfl (lv_at hl 2 rfl) ?_
                      refine lv_iconst (v := 1) hx hb dd_M_text_96 (by decide) ?_
                      refine lv_icmp_ne (tgt := 118) hx hb dd_M_text_97 (by decide) (fun c54 => ?_) (fun c54 => ?_)
                      · have hf := hf.trans (if_neg c54)
                        have hok := hok.2 c54
                        refine lv_iload_n hx hb dd_M_text_118 rfl (lv_at hl 3 rfl) ?_
                        refine lv_if_lt (tgt := 130) hx hb dd_M_text_119 (by decide) (fun c55 => ?_) (fun c55 => ?_)
                        · have hf := hf.trans (if_pos c55)
                          have hok := hok.1 c55
                          refine lv_iconst (v := (-1)) hx hb dd_M_text_130 (by decide) ?_
                          refine lv_goto (tgt := 140) hx hb dd_M_text_131 (by decide) ?_
                          exact W.iret (v := ((-1) : Int32)) hx hb hr (fun t ht hW => ⟨⟨((-1) : Int32), u, rfl, hf.symm, pM_up hP hK hD ht hW⟩, hS.F ht⟩) hS.2.2 dd_M_text_140
                        · have hf := hf.trans (if_neg c55)
                          have hok := hok.2 c55
                          refine lv_iload_n hx hb dd_M_text_122 rfl (lv_at hl 3 rfl) ?_
                          refine lv_aload_n hx hb dd_M_text_123 rfl (lv_at hl 0 rfl) ?_
                          refine va_get (D := (dC, dI)) (ci := 0) (v := .int (m_wr u)) (C := "ClassObjectMirrorModel") (T := TM) (N := 12) hx hb hts inM hown hK hP 0 rfl rfl 11 (by decide) (hts _ gw_312) (fun _ h9 => h9) rfl dd_M_text_124 ?_
                          refine lv_icmp_lt (tgt := 134) hx hb dd_M_text_127 (by decide) (fun c56 => ?_) (fun c56 => ?_)
                          · have hf := hf.trans (if_pos c56)
                            have hok := hok.1 c56
                            refine lv_aload_n hx hb dd_M_text_134 rfl (lv_at hl 0 rfl) ?_
                            refine va_get (D := (dC, dI)) (ci := 0) (v := .ref (a 8)) (C := "ClassObjectMirrorModel") (T := TM) (N := 12) hx hb hts inM hown hK hP 0 rfl rfl 10 (by decide) (hts _ gw_311) (fun _ h9 => h9) rfl dd_M_text_135 ?_
                            refine lv_iload_n hx hb dd_M_text_138 rfl (lv_at hl 3 rfl) ?_
                            have n57 := hok
                            refine va_iald hx hb hK hP 9 8 rfl rfl n57 dd_M_text_139 ?_
                            exact W.iret (v := (m_out u x3.toNatClampNeg)) hx hb hr (fun t ht hW => ⟨⟨(m_out u x3.toNatClampNeg), u, rfl, hf.symm, pM_up hP hK hD ht hW⟩, hS.F ht⟩) hS.2.2 dd_M_text_140
                          · have hf := hf.trans (if_neg c56)
                            have hok := hok.2 c56
                            refine lv_iconst (v := (-1)) hx hb dd_M_text_130 (by decide) ?_
                            refine lv_goto (tgt := 140) hx hb dd_M_text_131 (by decide) ?_
                            exact W.iret (v := ((-1) : Int32)) hx hb hr (fun t ht hW => ⟨⟨((-1) : Int32), u, rfl, hf.symm, pM_up hP hK hD ht hW⟩, hS.F ht⟩) hS.2.2 dd_M_text_140
                      · have hf := hf.trans (if_pos c54)
                        have hok := hok.1 c54
                        refine lv_aload_n hx hb dd_M_text_100 rfl (lv_at hl 0 rfl) ?_
                        refine lv_bipush (v := 91) hx hb dd_M_text_101 (by decide) ?_
                        obtain ⟨n58, hok⟩ := hok
                        refine va_callv (va_runV (As := [.int 91]) (rest := []) ⟨hx, hb, hml, hown, hts⟩ (mm_M_letter l dC dI h a k u (91 : Int32) n58) (cwV 1 hts (gg_V gw_393 gw_395 gs_24 gw_2 gw_396) rfl rfl rfl (by decide +kernel) ⟨Nat.le_of_ble_eq_true rfl, Nat.le_of_ble_eq_true rfl⟩) ⟨pM_bl, va_recv hK hP (ci := 0) (q0 := 0) rfl rfl, fun U hU hW => ⟨rfl, pM_up hP hK hD hU hW⟩⟩ rfl rfl hl.1 rfl (lv_room (Nat.le_of_ble_eq_true rfl)) dd_M_text_103 ⟨Nat.zero_le _, Nat.zero_le _⟩) hS (fun q _ h => h) (fun q h => h) (fun v9 t9 H locs ht9 hvm9 hw9 hB9 hz9 hk9 hS => ?_)
                        subst hw9
                        obtain ⟨hP, -, hD⟩ := hB9
                        rw [ht9] at hP
                        refine lv_aload_n hx hb dd_M_text_106 rfl (lv_at hl 0 rfl) ?_
                        refine lv_bipush (v := 93) hx hb dd_M_text_107 (by decide) ?_
                        obtain ⟨n59, hok⟩ := hok
                        refine va_callv (va_runV (As := [.int 93]) (rest := []) ⟨hx, hb, hml, hown, hts⟩ (mm_M_letter l dC dI h a k (ff_M_letter u (91 : Int32)) (93 : Int32) n59) (cwV 1 hts (gg_V gw_393 gw_395 gs_24 gw_2 gw_396) rfl rfl rfl (by decide +kernel) ⟨Nat.le_of_ble_eq_true rfl, Nat.le_of_ble_eq_true rfl⟩) ⟨pM_bl, va_recv hK hP (ci := 0) (q0 := 0) rfl rfl, fun U hU hW => ⟨rfl, pM_up hP hK hD hU hW⟩⟩ rfl rfl hl.1 rfl (lv_room (Nat.le_of_ble_eq_true rfl)) dd_M_text_109 ⟨Nat.zero_le _, Nat.zero_le _⟩) hS (fun q _ h => h) (fun q h => h) (fun v9 t9 H locs ht9 hvm9 hw9 hB9 hz9 hk9 hS => ?_)
                        subst hw9
                        obtain ⟨hP, -, hD⟩ := hB9
                        rw [ht9] at hP
                        refine lv_iinc (v := x4 + 1) (lv' := [(4, .int (x4 + 1)), (0, .ref h), (1, .int x1), (2, .int x2), (3, .int x3)]) hx hb dd_M_text_112 hl (k := 4) rfl rfl (by decide) rfl (fun ls hl => ?_)
                        refine lv_goto (tgt := 84) hx hb dd_M_text_115 (by decide) ?_
                        exact ih (ff_M_letter (ff_M_letter u (91 : Int32)) (93 : Int32)) _ _ x1 x2 x3 (x4 + 1) ls hok hf hP hD hS (lv_sub hl [1, 2, 3, 4, 0] rfl)
                exact loop_84 400 (ff_M_name (m_u_wr u0 0) p0) _ _ p0 p1 p2 (0 : Int32) ls hok hf hP hD hS (lv_sub hl [1, 2, 3, 4, 0] rfl)
            · have hf := hf.trans (if_neg c33)
              have hok := hok.2 c33
              refine lv_aload_n hx hb dd_M_text_51 rfl (lv_at hl 0 rfl) ?_
              refine lv_iload_n hx hb dd_M_text_52 rfl (lv_at hl 1 rfl) ?_
              refine lv_iconst (v := 0) hx hb dd_M_text_53 (by decide) ?_
              obtain ⟨n60, hok⟩ := hok
              refine va_callv (va_runV (As := [.int p0, .int 0]) (rest := []) ⟨hx, hb, hml, hown, hts⟩ (mm_M_describe l dC dI h a k (m_u_wr u0 0) p0 (0 : Int32) n60) (cwV 2 hts (gg_V gw_389 gw_391 gs_23 gw_2 gw_392) rfl rfl rfl (by decide +kernel) ⟨Nat.le_of_ble_eq_true rfl, Nat.le_of_ble_eq_true rfl⟩) ⟨pM_bl, va_recv hK hP (ci := 0) (q0 := 0) rfl rfl, fun U hU hW => ⟨rfl, pM_up hP hK hD hU hW⟩⟩ rfl rfl hl.1 rfl (lv_room (Nat.le_of_ble_eq_true rfl)) dd_M_text_54 ⟨Nat.zero_le _, Nat.zero_le _⟩) hS (fun q _ h => h) (fun q h => h) (fun v9 t9 H locs ht9 hvm9 hw9 hB9 hz9 hk9 hS => ?_)
              subst hw9
              obtain ⟨hP, -, hD⟩ := hB9
              rw [ht9] at hP
              refine lv_goto (tgt := 81) hx hb dd_M_text_57 (by decide) ?_
              refine lv_iconst (v := 0) hx hb dd_M_text_81 (by decide) ?_
              refine lv_istore (lv' := [(4, .int 0), (0, .ref h), (1, .int p0), (2, .int p1), (3, .int p2)]) hx hb dd_M_text_82 hl (by decide) rfl (fun ls hl => ?_)
              have loop_84 : ∀ (n : Nat) (u : SM) (H : Heap) (locs : List Loc) (x1 : Int32) (x2 : Int32) (x3 : Int32) (x4 : Int32) (ls : Array Slot), okl_M_text_84 n u x1 x2 x3 x4 → ff_M_text u0 p0 p1 p2 = fl_M_text_84 n u x1 x2 x3 x4 → va_P (dC, dI) cls_l (wM h a k u) H → va_D (aM h a) (wM h a k u) → va_S (aM h a) s.heap H locs → lv_has ls 5 [(0, .ref h), (1, .int x1), (2, .int x2), (3, .int x3), (4, .int x4)] → W p l e (headSpec ws_M_text rm_M_text).room s m ([.ref h, .int p0, .int p1, .int p2] : List Value).toArray below meth c H locs 0 0 (MQ below (va_Qi (fun (r : Int32) (v : SM) => (r, v) = ff_M_text u0 p0 p1 p2) (pM dC dI h a k) (aM h a)) ([.ref h, .int p0, .int p1, .int p2] : List Value).toArray s 0 0 (aM h a)) (F0 m 84 ls []) := by
                intro n
                induction n with
                | zero => intro u H locs x1 x2 x3 x4 ls hok; exact (show False from hok).elim
                | succ n ih =>
                  intro u H locs x1 x2 x3 x4 ls hok hf hP hD hS hl
                  rw [fl_M_text_84] at hf
                  rw [okl_M_text_84] at hok
                  refine lv_iload hx hb dd_M_text_84 (lv_at hl 4 rfl) ?_
                  refine lv_aload_n hx hb dd_M_text_86 rfl (lv_at hl 0 rfl) ?_
                  refine va_get (D := (dC, dI)) (ci := 0) (v := .ref (a 3)) (C := "ClassObjectMirrorModel") (T := TM) (N := 12) hx hb hts inM hown hK hP 0 rfl rfl 3 (by decide) (hts _ gw_304) (fun _ h9 => h9) rfl dd_M_text_87 ?_
                  refine lv_iload_n hx hb dd_M_text_90 rfl (lv_at hl 1 rfl) ?_
                  obtain ⟨n61, hok⟩ := hok
                  refine va_iald hx hb hK hP 4 3 rfl rfl n61 dd_M_text_91 ?_
                  refine lv_icmp_ge (tgt := 118) hx hb dd_M_text_92 (by decide) (fun c62 => ?_) (fun c62 => ?_)
                  · have hf := hf.trans (if_pos c62)
                    have hok := hok.1 c62
                    refine lv_iload_n hx hb dd_M_text_118 rfl (lv_at hl 3 rfl) ?_
                    refine lv_if_lt (tgt := 130) hx hb dd_M_text_119 (by decide) (fun c63 => ?_) (fun c63 => ?_)
                    · have hf := hf.trans (if_pos c63)
                      have hok := hok.1 c63
                      refine lv_iconst (v := (-1)) hx hb dd_M_text_130 (by decide) ?_
                      refine lv_goto (tgt := 140) hx hb dd_M_text_131 (by decide) ?_
                      exact W.iret (v := ((-1) : Int32)) hx hb hr (fun t ht hW => ⟨⟨((-1) : Int32), u, rfl, hf.symm, pM_up hP hK hD ht hW⟩, hS.F ht⟩) hS.2.2 dd_M_text_140
                    · have hf := hf.trans (if_neg c63)
                      have hok := hok.2 c63
                      refine lv_iload_n hx hb dd_M_text_122 rfl (lv_at hl 3 rfl) ?_
                      refine lv_aload_n hx hb dd_M_text_123 rfl (lv_at hl 0 rfl) ?_
                      refine va_get (D := (dC, dI)) (ci := 0) (v := .int (m_wr u)) (C := "ClassObjectMirrorModel") (T := TM) (N := 12) hx hb hts inM hown hK hP 0 rfl rfl 11 (by decide) (hts _ gw_312) (fun _ h9 => h9) rfl dd_M_text_124 ?_
                      refine lv_icmp_lt (tgt := 134) hx hb dd_M_text_127 (by decide) (fun c64 => ?_) (fun c64 => ?_)
                      · have hf := hf.trans (if_pos c64)
                        have hok := hok.1 c64
                        refine lv_aload_n hx hb dd_M_text_134 rfl (lv_at hl 0 rfl) ?_
                        refine va_get (D := (dC, dI)) (ci := 0) (v := .ref (a 8)) (C := "ClassObjectMirrorModel") (T := TM) (N := 12) hx hb hts inM hown hK hP 0 rfl rfl 10 (by decide) (hts _ gw_311) (fun _ h9 => h9) rfl dd_M_text_135 ?_
                        refine lv_iload_n hx hb dd_M_text_138 rfl (lv_at hl 3 rfl) ?_
                        have n65 := hok
                        refine va_iald hx hb hK hP 9 8 rfl rfl n65 dd_M_text_139 ?_
                        exact W.iret (v := (m_out u x3.toNatClampNeg)) hx hb hr (fun t ht hW => ⟨⟨(m_out u x3.toNatClampNeg), u, rfl, hf.symm, pM_up hP hK hD ht hW⟩, hS.F ht⟩) hS.2.2 dd_M_text_140
                      · have hf := hf.trans (if_neg c64)
                        have hok := hok.2 c64
                        refine lv_iconst (v := (-1)) hx hb dd_M_text_130 (by decide) ?_
                        refine lv_goto (tgt := 140) hx hb dd_M_text_131 (by decide) ?_
                        exact W.iret (v := ((-1) : Int32)) hx hb hr (fun t ht hW => ⟨⟨((-1) : Int32), u, rfl, hf.symm, pM_up hP hK hD ht hW⟩, hS.F ht⟩) hS.2.2 dd_M_text_140
                  · have hf := hf.trans (if_neg c62)
                    have hok := hok.2 c62
                    refine lv_iload_n hx hb dd_M_text_95 rfl (lv_at hl 2 rfl) ?_
                    refine lv_iconst (v := 1) hx hb dd_M_text_96 (by decide) ?_
                    refine lv_icmp_ne (tgt := 118) hx hb dd_M_text_97 (by decide) (fun c66 => ?_) (fun c66 => ?_)
                    · have hf := hf.trans (if_neg c66)
                      have hok := hok.2 c66
                      refine lv_iload_n hx hb dd_M_text_118 rfl (lv_at hl 3 rfl) ?_
                      refine lv_if_lt (tgt := 130) hx hb dd_M_text_119 (by decide) (fun c67 => ?_) (fun c67 => ?_)
                      · have hf := hf.trans (if_pos c67)
                        have hok := hok.1 c67
                        refine lv_iconst (v := (-1)) hx hb dd_M_text_130 (by decide) ?_
                        refine lv_goto (tgt := 140) hx hb dd_M_text_131 (by decide) ?_
                        exact W.iret (v := ((-1) : Int32)) hx hb hr (fun t ht hW => ⟨⟨((-1) : Int32), u, rfl, hf.symm, pM_up hP hK hD ht hW⟩, hS.F ht⟩) hS.2.2 dd_M_text_140
                      · have hf := hf.trans (if_neg c67)
                        have hok := hok.2 c67
                        refine lv_iload_n hx hb dd_M_text_122 rfl (lv_at hl 3 rfl) ?_
                        refine lv_aload_n hx hb dd_M_text_123 rfl (lv_at hl 0 rfl) ?_
                        refine va_get (D := (dC, dI)) (ci := 0) (v := .int (m_wr u)) (C := "ClassObjectMirrorModel") (T := TM) (N := 12) hx hb hts inM hown hK hP 0 rfl rfl 11 (by decide) (hts _ gw_312) (fun _ h9 => h9) rfl dd_M_text_124 ?_
                        refine lv_icmp_lt (tgt := 134) hx hb dd_M_text_127 (by decide) (fun c68 => ?_) (fun c68 => ?_)
                        · have hf := hf.trans (if_pos c68)
                          have hok := hok.1 c68
                          refine lv_aload_n hx hb dd_M_text_134 rfl (lv_at hl 0 rfl) ?_
                          refine va_get (D := (dC, dI)) (ci := 0) (v := .ref (a 8)) (C := "ClassObjectMirrorModel") (T := TM) (N := 12) hx hb hts inM hown hK hP 0 rfl rfl 10 (by decide) (hts _ gw_311) (fun _ h9 => h9) rfl dd_M_text_135 ?_
                          refine lv_iload_n hx hb dd_M_text_138 rfl (lv_at hl 3 rfl) ?_
                          have n69 := hok
                          refine va_iald hx hb hK hP 9 8 rfl rfl n69 dd_M_text_139 ?_
                          exact W.iret (v := (m_out u x3.toNatClampNeg)) hx hb hr (fun t ht hW => ⟨⟨(m_out u x3.toNatClampNeg), u, rfl, hf.symm, pM_up hP hK hD ht hW⟩, hS.F ht⟩) hS.2.2 dd_M_text_140
                        · have hf := hf.trans (if_neg c68)
                          have hok := hok.2 c68
                          refine lv_iconst (v := (-1)) hx hb dd_M_text_130 (by decide) ?_
                          refine lv_goto (tgt := 140) hx hb dd_M_text_131 (by decide) ?_
                          exact W.iret (v := ((-1) : Int32)) hx hb hr (fun t ht hW => ⟨⟨((-1) : Int32), u, rfl, hf.symm, pM_up hP hK hD ht hW⟩, hS.F ht⟩) hS.2.2 dd_M_text_140
                    · have hf := hf.trans (if_pos c66)
                      have hok := hok.1 c66
                      refine lv_aload_n hx hb dd_M_text_100 rfl (lv_at hl 0 rfl) ?_
                      refine lv_bipush (v := 91) hx hb dd_M_text_101 (by decide) ?_
                      obtain ⟨n70, hok⟩ := hok
                      refine va_callv (va_runV (As := [.int 91]) (rest := []) ⟨hx, hb, hml, hown, hts⟩ (mm_M_letter l dC dI h a k u (91 : Int32) n70) (cwV 1 hts (gg_V gw_393 gw_395 gs_24 gw_2 gw_396) rfl rfl rfl (by decide +kernel) ⟨Nat.le_of_ble_eq_true rfl, Nat.le_of_ble_eq_true rfl⟩) ⟨pM_bl, va_recv hK hP (ci := 0) (q0 := 0) rfl rfl, fun U hU hW => ⟨rfl, pM_up hP hK hD hU hW⟩⟩ rfl rfl hl.1 rfl (lv_room (Nat.le_of_ble_eq_true rfl)) dd_M_text_103 ⟨Nat.zero_le _, Nat.zero_le _⟩) hS (fun q _ h => h) (fun q h => h) (fun v9 t9 H locs ht9 hvm9 hw9 hB9 hz9 hk9 hS => ?_)
                      subst hw9
                      obtain ⟨hP, -, hD⟩ := hB9
                      rw [ht9] at hP
                      refine lv_aload_n hx hb dd_M_text_106 rfl (lv_at hl 0 rfl) ?_
                      refine lv_bipush (v := 93) hx hb dd_M_text_107 (by decide) ?_
                      obtain ⟨n71, hok⟩ := hok
                      refine va_callv (va_runV (As := [.int 93]) (rest := []) ⟨hx, hb, hml, hown, hts⟩ (mm_M_letter l dC dI h a k (ff_M_letter u (91 : Int32)) (93 : Int32) n71) (cwV 1 hts (gg_V gw_393 gw_395 gs_24 gw_2 gw_396) rfl rfl rfl (by decide +kernel) ⟨Nat.le_of_ble_eq_true rfl, Nat.le_of_ble_eq_true rfl⟩) ⟨pM_bl, va_recv hK hP (ci := 0) (q0 := 0) rfl rfl, fun U hU hW => ⟨rfl, pM_up hP hK hD hU hW⟩⟩ rfl rfl hl.1 rfl (lv_room (Nat.le_of_ble_eq_true rfl)) dd_M_text_109 ⟨Nat.zero_le _, Nat.zero_le _⟩) hS (fun q _ h => h) (fun q h => h) (fun v9 t9 H locs ht9 hvm9 hw9 hB9 hz9 hk9 hS => ?_)
                      subst hw9
                      obtain ⟨hP, -, hD⟩ := hB9
                      rw [ht9] at hP
                      refine lv_iinc (v := x4 + 1) (lv' := [(4, .int (x4 + 1)), (0, .ref h), (1, .int x1), (2, .int x2), (3, .int x3)]) hx hb dd_M_text_112 hl (k := 4) rfl rfl (by decide) rfl (fun ls hl => ?_)
                      refine lv_goto (tgt := 84) hx hb dd_M_text_115 (by decide) ?_
                      exact ih (ff_M_letter (ff_M_letter u (91 : Int32)) (93 : Int32)) _ _ x1 x2 x3 (x4 + 1) ls hok hf hP hD hS (lv_sub hl [1, 2, 3, 4, 0] rfl)
              exact loop_84 400 (ff_M_describe (m_u_wr u0 0) p0 (0 : Int32)) _ _ p0 p1 p2 (0 : Int32) ls hok hf hP hD hS (lv_sub hl [1, 2, 3, 4, 0] rfl)
        · have hf := hf.trans (if_pos c4)
          have hok := hok.1 c4
          refine lv_aload_n hx hb dd_M_text_29 rfl (lv_at hl 0 rfl) ?_
          refine lv_iload_n hx hb dd_M_text_30 rfl (lv_at hl 1 rfl) ?_
          refine lv_iconst (v := 1) hx hb dd_M_text_31 (by decide) ?_
          obtain ⟨n72, hok⟩ := hok
          refine va_callv (va_runV (As := [.int p0, .int 1]) (rest := []) ⟨hx, hb, hml, hown, hts⟩ (mm_M_describe l dC dI h a k (m_u_wr u0 0) p0 (1 : Int32) n72) (cwV 2 hts (gg_V gw_389 gw_391 gs_23 gw_2 gw_392) rfl rfl rfl (by decide +kernel) ⟨Nat.le_of_ble_eq_true rfl, Nat.le_of_ble_eq_true rfl⟩) ⟨pM_bl, va_recv hK hP (ci := 0) (q0 := 0) rfl rfl, fun U hU hW => ⟨rfl, pM_up hP hK hD hU hW⟩⟩ rfl rfl hl.1 rfl (lv_room (Nat.le_of_ble_eq_true rfl)) dd_M_text_32 ⟨Nat.zero_le _, Nat.zero_le _⟩) hS (fun q _ h => h) (fun q h => h) (fun v9 t9 H locs ht9 hvm9 hw9 hB9 hz9 hk9 hS => ?_)
          subst hw9
          obtain ⟨hP, -, hD⟩ := hB9
          rw [ht9] at hP
          refine lv_goto (tgt := 81) hx hb dd_M_text_35 (by decide) ?_
          refine lv_iconst (v := 0) hx hb dd_M_text_81 (by decide) ?_
          refine lv_istore (lv' := [(4, .int 0), (0, .ref h), (1, .int p0), (2, .int p1), (3, .int p2)]) hx hb dd_M_text_82 hl (by decide) rfl (fun ls hl => ?_)
          have loop_84 : ∀ (n : Nat) (u : SM) (H : Heap) (locs : List Loc) (x1 : Int32) (x2 : Int32) (x3 : Int32) (x4 : Int32) (ls : Array Slot), okl_M_text_84 n u x1 x2 x3 x4 → ff_M_text u0 p0 p1 p2 = fl_M_text_84 n u x1 x2 x3 x4 → va_P (dC, dI) cls_l (wM h a k u) H → va_D (aM h a) (wM h a k u) → va_S (aM h a) s.heap H locs → lv_has ls 5 [(0, .ref h), (1, .int x1), (2, .int x2), (3, .int x3), (4, .int x4)] → W p l e (headSpec ws_M_text rm_M_text).room s m ([.ref h, .int p0, .int p1, .int p2] : List Value).toArray below meth c H locs 0 0 (MQ below (va_Qi (fun (r : Int32) (v : SM) => (r, v) = ff_M_text u0 p0 p1 p2) (pM dC dI h a k) (aM h a)) ([.ref h, .int p0, .int p1, .int p2] : List Value).toArray s 0 0 (aM h a)) (F0 m 84 ls []) := by
            intro n
            induction n with
            | zero => intro u H locs x1 x2 x3 x4 ls hok; exact (show False from hok).elim
            | succ n ih =>
              intro u H locs x1 x2 x3 x4 ls hok hf hP hD hS hl
              rw [fl_M_text_84] at hf
              rw [okl_M_text_84] at hok
              refine lv_iload hx hb dd_M_text_84 (lv_at hl 4 rfl) ?_
              refine lv_aload_n hx hb dd_M_text_86 rfl (lv_at hl 0 rfl) ?_
              refine va_get (D := (dC, dI)) (ci := 0) (v := .ref (a 3)) (C := "ClassObjectMirrorModel") (T := TM) (N := 12) hx hb hts inM hown hK hP 0 rfl rfl 3 (by decide) (hts _ gw_304) (fun _ h9 => h9) rfl dd_M_text_87 ?_
              refine lv_iload_n hx hb dd_M_text_90 rfl (lv_at hl 1 rfl) ?_
              obtain ⟨n73, hok⟩ := hok
              refine va_iald hx hb hK hP 4 3 rfl rfl n73 dd_M_text_91 ?_
              refine lv_icmp_ge (tgt := 118) hx hb dd_M_text_92 (by decide) (fun c74 => ?_) (fun c74 => ?_)
              · have hf := hf.trans (if_pos c74)
                have hok := hok.1 c74
                refine lv_iload_n hx hb dd_M_text_118 rfl (lv_at hl 3 rfl) ?_
                refine lv_if_lt (tgt := 130) hx hb dd_M_text_119 (by decide) (fun c75 => ?_) (fun c75 => ?_)
                · have hf := hf.trans (if_pos c75)
                  have hok := hok.1 c75
                  refine lv_iconst (v := (-1)) hx hb dd_M_text_130 (by decide) ?_
                  refine lv_goto (tgt := 140) hx hb dd_M_text_131 (by decide) ?_
                  exact W.iret (v := ((-1) : Int32)) hx hb hr (fun t ht hW => ⟨⟨((-1) : Int32), u, rfl, hf.symm, pM_up hP hK hD ht hW⟩, hS.F ht⟩) hS.2.2 dd_M_text_140
                · have hf := hf.trans (if_neg c75)
                  have hok := hok.2 c75
                  refine lv_iload_n hx hb dd_M_text_122 rfl (lv_at hl 3 rfl) ?_
                  refine lv_aload_n hx hb dd_M_text_123 rfl (lv_at hl 0 rfl) ?_
                  refine va_get (D := (dC, dI)) (ci := 0) (v := .int (m_wr u)) (C := "ClassObjectMirrorModel") (T := TM) (N := 12) hx hb hts inM hown hK hP 0 rfl rfl 11 (by decide) (hts _ gw_312) (fun _ h9 => h9) rfl dd_M_text_124 ?_
                  refine lv_icmp_lt (tgt := 134) hx hb dd_M_text_127 (by decide) (fun c76 => ?_) (fun c76 => ?_)
                  · have hf := hf.trans (if_pos c76)
                    have hok := hok.1 c76
                    refine lv_aload_n hx hb dd_M_text_134 rfl (lv_at hl 0 rfl) ?_
                    refine va_get (D := (dC, dI)) (ci := 0) (v := .ref (a 8)) (C := "ClassObjectMirrorModel") (T := TM) (N := 12) hx hb hts inM hown hK hP 0 rfl rfl 10 (by decide) (hts _ gw_311) (fun _ h9 => h9) rfl dd_M_text_135 ?_
                    refine lv_iload_n hx hb dd_M_text_138 rfl (lv_at hl 3 rfl) ?_
                    have n77 := hok
                    refine va_iald hx hb hK hP 9 8 rfl rfl n77 dd_M_text_139 ?_
                    exact W.iret (v := (m_out u x3.toNatClampNeg)) hx hb hr (fun t ht hW => ⟨⟨(m_out u x3.toNatClampNeg), u, rfl, hf.symm, pM_up hP hK hD ht hW⟩, hS.F ht⟩) hS.2.2 dd_M_text_140
                  · have hf := hf.trans (if_neg c76)
                    have hok := hok.2 c76
                    refine lv_iconst (v := (-1)) hx hb dd_M_text_130 (by decide) ?_
                    refine lv_goto (tgt := 140) hx hb dd_M_text_131 (by decide) ?_
                    exact W.iret (v := ((-1) : Int32)) hx hb hr (fun t ht hW => ⟨⟨((-1) : Int32), u, rfl, hf.symm, pM_up hP hK hD ht hW⟩, hS.F ht⟩) hS.2.2 dd_M_text_140
              · have hf := hf.trans (if_neg c74)
                have hok := hok.2 c74
                refine lv_iload_n hx hb dd_M_text_95 rfl (lv_at hl 2 rfl) ?_
                refine lv_iconst (v := 1) hx hb dd_M_text_96 (by decide) ?_
                refine lv_icmp_ne (tgt := 118) hx hb dd_M_text_97 (by decide) (fun c78 => ?_) (fun c78 => ?_)
                · have hf := hf.trans (if_neg c78)
                  have hok := hok.2 c78
                  refine lv_iload_n hx hb dd_M_text_118 rfl (lv_at hl 3 rfl) ?_
                  refine lv_if_lt (tgt := 130) hx hb dd_M_text_119 (by decide) (fun c79 => ?_) (fun c79 => ?_)
                  · have hf := hf.trans (if_pos c79)
                    have hok := hok.1 c79
                    refine lv_iconst (v := (-1)) hx hb dd_M_text_130 (by decide) ?_
                    refine lv_goto (tgt := 140) hx hb dd_M_text_131 (by decide) ?_
                    exact W.iret (v := ((-1) : Int32)) hx hb hr (fun t ht hW => ⟨⟨((-1) : Int32), u, rfl, hf.symm, pM_up hP hK hD ht hW⟩, hS.F ht⟩) hS.2.2 dd_M_text_140
                  · have hf := hf.trans (if_neg c79)
                    have hok := hok.2 c79
                    refine lv_iload_n hx hb dd_M_text_122 rfl (lv_at hl 3 rfl) ?_
                    refine lv_aload_n hx hb dd_M_text_123 rfl (lv_at hl 0 rfl) ?_
                    refine va_get (D := (dC, dI)) (ci := 0) (v := .int (m_wr u)) (C := "ClassObjectMirrorModel") (T := TM) (N := 12) hx hb hts inM hown hK hP 0 rfl rfl 11 (by decide) (hts _ gw_312) (fun _ h9 => h9) rfl dd_M_text_124 ?_
                    refine lv_icmp_lt (tgt := 134) hx hb dd_M_text_127 (by decide) (fun c80 => ?_) (fun c80 => ?_)
                    · have hf := hf.trans (if_pos c80)
                      have hok := hok.1 c80
                      refine lv_aload_n hx hb dd_M_text_134 rfl (lv_at hl 0 rfl) ?_
                      refine va_get (D := (dC, dI)) (ci := 0) (v := .ref (a 8)) (C := "ClassObjectMirrorModel") (T := TM) (N := 12) hx hb hts inM hown hK hP 0 rfl rfl 10 (by decide) (hts _ gw_311) (fun _ h9 => h9) rfl dd_M_text_135 ?_
                      refine lv_iload_n hx hb dd_M_text_138 rfl (lv_at hl 3 rfl) ?_
                      have n81 := hok
                      refine va_iald hx hb hK hP 9 8 rfl rfl n81 dd_M_text_139 ?_
                      exact W.iret (v := (m_out u x3.toNatClampNeg)) hx hb hr (fun t ht hW => ⟨⟨(m_out u x3.toNatClampNeg), u, rfl, hf.symm, pM_up hP hK hD ht hW⟩, hS.F ht⟩) hS.2.2 dd_M_text_140
                    · have hf := hf.trans (if_neg c80)
                      have hok := hok.2 c80
                      refine lv_iconst (v := (-1)) hx hb dd_M_text_130 (by decide) ?_
                      refine lv_goto (tgt := 140) hx hb dd_M_text_131 (by decide) ?_
                      exact W.iret (v := ((-1) : Int32)) hx hb hr (fun t ht hW => ⟨⟨((-1) : Int32), u, rfl, hf.symm, pM_up hP hK hD ht hW⟩, hS.F ht⟩) hS.2.2 dd_M_text_140
                · have hf := hf.trans (if_pos c78)
                  have hok := hok.1 c78
                  refine lv_aload_n hx hb dd_M_text_100 rfl (lv_at hl 0 rfl) ?_
                  refine lv_bipush (v := 91) hx hb dd_M_text_101 (by decide) ?_
                  obtain ⟨n82, hok⟩ := hok
                  refine va_callv (va_runV (As := [.int 91]) (rest := []) ⟨hx, hb, hml, hown, hts⟩ (mm_M_letter l dC dI h a k u (91 : Int32) n82) (cwV 1 hts (gg_V gw_393 gw_395 gs_24 gw_2 gw_396) rfl rfl rfl (by decide +kernel) ⟨Nat.le_of_ble_eq_true rfl, Nat.le_of_ble_eq_true rfl⟩) ⟨pM_bl, va_recv hK hP (ci := 0) (q0 := 0) rfl rfl, fun U hU hW => ⟨rfl, pM_up hP hK hD hU hW⟩⟩ rfl rfl hl.1 rfl (lv_room (Nat.le_of_ble_eq_true rfl)) dd_M_text_103 ⟨Nat.zero_le _, Nat.zero_le _⟩) hS (fun q _ h => h) (fun q h => h) (fun v9 t9 H locs ht9 hvm9 hw9 hB9 hz9 hk9 hS => ?_)
                  subst hw9
                  obtain ⟨hP, -, hD⟩ := hB9
                  rw [ht9] at hP
                  refine lv_aload_n hx hb dd_M_text_106 rfl (lv_at hl 0 rfl) ?_
                  refine lv_bipush (v := 93) hx hb dd_M_text_107 (by decide) ?_
                  obtain ⟨n83, hok⟩ := hok
                  refine va_callv (va_runV (As := [.int 93]) (rest := []) ⟨hx, hb, hml, hown, hts⟩ (mm_M_letter l dC dI h a k (ff_M_letter u (91 : Int32)) (93 : Int32) n83) (cwV 1 hts (gg_V gw_393 gw_395 gs_24 gw_2 gw_396) rfl rfl rfl (by decide +kernel) ⟨Nat.le_of_ble_eq_true rfl, Nat.le_of_ble_eq_true rfl⟩) ⟨pM_bl, va_recv hK hP (ci := 0) (q0 := 0) rfl rfl, fun U hU hW => ⟨rfl, pM_up hP hK hD hU hW⟩⟩ rfl rfl hl.1 rfl (lv_room (Nat.le_of_ble_eq_true rfl)) dd_M_text_109 ⟨Nat.zero_le _, Nat.zero_le _⟩) hS (fun q _ h => h) (fun q h => h) (fun v9 t9 H locs ht9 hvm9 hw9 hB9 hz9 hk9 hS => ?_)
                  subst hw9
                  obtain ⟨hP, -, hD⟩ := hB9
                  rw [ht9] at hP
                  refine lv_iinc (v := x4 + 1) (lv' := [(4, .int (x4 + 1)), (0, .ref h), (1, .int x1), (2, .int x2), (3, .int x3)]) hx hb dd_M_text_112 hl (k := 4) rfl rfl (by decide) rfl (fun ls hl => ?_)
                  refine lv_goto (tgt := 84) hx hb dd_M_text_115 (by decide) ?_
                  exact ih (ff_M_letter (ff_M_letter u (91 : Int32)) (93 : Int32)) _ _ x1 x2 x3 (x4 + 1) ls hok hf hP hD hS (lv_sub hl [1, 2, 3, 4, 0] rfl)
          exact loop_84 400 (ff_M_describe (m_u_wr u0 0) p0 (1 : Int32)) _ _ p0 p1 p2 (0 : Int32) ls hok hf hP hD hS (lv_sub hl [1, 2, 3, 4, 0] rfl)
      · have hf := hf.trans (if_neg c3)
        have hok := hok.2 c3
        refine lv_iconst (v := (-1)) hx hb dd_M_text_17 (by decide) ?_
        exact W.iret (v := ((-1) : Int32)) hx hb hr (fun t ht hW => ⟨⟨((-1) : Int32), u0, rfl, hf.symm, pM_up hP hK hD ht hW⟩, hS.F ht⟩) hS.2.2 dd_M_text_18
end
section
def fl_M_create_33 : Nat → SM → Int32 → Int32 → Int32 → Int32 → Int32 → Int32 × SM
  | 0, u, _, _, _, _, _ => (0, u)
  | n + 1, u, x1, x2, x3, x4, x5 => (if 8 ≤ x5 then (x4, m_u_objs u ((m_objs u) + 1)) else (if x2 < 0 then fl_M_create_33 n (m_u_cell u ((8 * x4) + x5) 0) x1 x2 x3 x4 (x5 + 1) else (if (ff_M_base (m_comp u x1.toNatClampNeg)) = 0 then fl_M_create_33 n (m_u_cell u ((8 * x4) + x5) (-7)) x1 x2 x3 x4 (x5 + 1) else fl_M_create_33 n (m_u_cell u ((8 * x4) + x5) 0) x1 x2 x3 x4 (x5 + 1))))
def okl_M_create_33 : Nat → SM → Int32 → Int32 → Int32 → Int32 → Int32 → Prop
  | 0, _, _, _, _, _, _ => False
  | n + 1, u, x1, x2, x3, x4, x5 => (((8 ≤ x5) → True) ∧ (¬ (8 ≤ x5) → (((x2 < 0) → (vp_in ((8 * x4) + x5) 640) ∧ okl_M_create_33 n (m_u_cell u ((8 * x4) + x5) 0) x1 x2 x3 x4 (x5 + 1)) ∧ (¬ (x2 < 0) → (vp_in x1 300) ∧ ((((ff_M_base (m_comp u x1.toNatClampNeg)) = 0) → (vp_in ((8 * x4) + x5) 640) ∧ okl_M_create_33 n (m_u_cell u ((8 * x4) + x5) (-7)) x1 x2 x3 x4 (x5 + 1)) ∧ (¬ ((ff_M_base (m_comp u x1.toNatClampNeg)) = 0) → (vp_in ((8 * x4) + x5) 640) ∧ okl_M_create_33 n (m_u_cell u ((8 * x4) + x5) 0) x1 x2 x3 x4 (x5 + 1)))))))
def ff_M_create (u0 : SM) (p0 : Int32) (p1 : Int32) (p2 : Int32) : Int32 × SM := fl_M_create_33 400 (m_u_val (m_u_size (m_u_kind u0 (m_objs u0) p0) (m_objs u0) p1) (m_objs u0) p2) p0 p1 p2 (m_objs u0) (0 : Int32)
def ok_M_create (u0 : SM) (p0 : Int32) (p1 : Int32) (p2 : Int32) : Prop := (vp_in (m_objs u0) 80) ∧ (vp_in (m_objs u0) 80) ∧ (vp_in (m_objs u0) 80) ∧ okl_M_create_33 400 (m_u_val (m_u_size (m_u_kind u0 (m_objs u0) p0) (m_objs u0) p1) (m_objs u0) p2) p0 p1 p2 (m_objs u0) (0 : Int32)
abbrev ws_M_create : List Cond := .code yy_M_create bb_M_create 6 (some .int) :: gW
abbrev rm_M_create : Room := { frames := 1, cells := 0, slots := 0, locals := 20 }
set_option maxHeartbeats 4000000 in
set_option maxRecDepth 100000 in
theorem mm_M_create (l : Launch) (dC : Nat → ClassId) (dI : Nat → Nat → Nat) (h : Nat) (a : Nat → Nat) (k : Nat → ClassId) (u0 : SM) (p0 : Int32) (p1 : Int32) (p2 : Int32) (hok : ok_M_create u0 p0 p1 p2) : Met l yy_M_create ws_M_create rm_M_create (va_Pc [.ref h, .int p0, .int p1, .int p2] (pM dC dI h a k u0)) (va_Qi (fun (r : Int32) (v : SM) => (r, v) = ff_M_create u0 p0 p1 p2) (pM dC dI h a k) (aM h a)) 0 0 (aM h a) := by
  refine Met.ofW (cc := bb_M_create) (maxL := 6) (ret := (some .int)) (by decide) rfl ?_
  intro p e s m args below meth c s₁ B hml hv
  obtain ⟨rfl, hP, hK, hD⟩ := hv
  have hx := B.exec
  have hb := B.bytes
  have hr := B.returns
  have hts : ∀ w ∈ gW, w.before _ s = true := fun w h => atoms_spec (ws := ws_M_create) B.pre w (List.mem_cons_of_mem _ h)
  have hown : s.vm.findClass "ClassObjectMirrorModel" = some m.cls := findClass_of_methodNamed B.named
  have hlocks := B.notSynchronized
  have hS : va_S (aM h a) s.heap s.heap [] := va_S.rf
  have hl := lv_entry ([.ref h, .int p0, .int p1, .int p2]) (n := 6) (Nat.le_of_ble_eq_true rfl)
  rw [lg_entry_eq]
  generalize (lg_sl ([.ref h, .int p0, .int p1, .int p2]) ++ List.replicate (6 - (lg_sl ([.ref h, .int p0, .int p1, .int p2])).length) Slot.unset).toArray = ls at hl ⊢
  have hl : lv_has ls 6 [(0, .ref h), (1, .int p0), (2, .int p1), (3, .int p2)] := hl
  have hf := ff_M_create.eq_1 u0 p0 p1 p2
  unfold ok_M_create at hok
  refine lv_aload_n hx hb dd_M_create_0 rfl (lv_at hl 0 rfl) ?_
  refine va_get (D := (dC, dI)) (ci := 0) (v := .int (m_objs u0)) (C := "ClassObjectMirrorModel") (T := TM) (N := 12) hx hb hts inM hown hK hP 0 rfl rfl 9 (by decide) (hts _ gw_310) (fun _ h9 => h9) rfl dd_M_create_1 ?_
  refine lv_istore (lv' := [(4, .int (m_objs u0)), (0, .ref h), (1, .int p0), (2, .int p1), (3, .int p2)]) hx hb dd_M_create_4 hl (by decide) rfl (fun ls hl => ?_)
  refine lv_aload_n hx hb dd_M_create_6 rfl (lv_at hl 1 rfl) ?_
  refine va_get (D := (dC, dI)) (ci := 0) (v := .ref (a 4)) (C := "ClassObjectMirrorModel") (T := TM) (N := 12) hx hb hts inM hown hK hP 0 rfl rfl 5 (by decide) (hts _ gw_306) (fun _ h9 => h9) rfl dd_M_create_7 ?_
  refine lv_iload hx hb dd_M_create_10 (lv_at hl 0 rfl) ?_
  refine lv_iload_n hx hb dd_M_create_12 rfl (lv_at hl 2 rfl) ?_
  obtain ⟨n1, hok⟩ := hok
  refine va_iast hx hb hK hP hD hS 5 4 rfl rfl n1 dd_M_create_13 (fun H locs hP hD hS => ?_)
  have hP : va_P (dC, dI) cls_l (wM h a k (m_u_kind u0 (m_objs u0) p0)) H := hP
  have hD : va_D (aM h a) (wM h a k (m_u_kind u0 (m_objs u0) p0)) := hD
  refine lv_aload_n hx hb dd_M_create_14 rfl (lv_at hl 1 rfl) ?_
  refine va_get (D := (dC, dI)) (ci := 0) (v := .ref (a 5)) (C := "ClassObjectMirrorModel") (T := TM) (N := 12) hx hb hts inM hown hK hP 0 rfl rfl 6 (by decide) (hts _ gw_307) (fun _ h9 => h9) rfl dd_M_create_15 ?_
  refine lv_iload hx hb dd_M_create_18 (lv_at hl 0 rfl) ?_
  refine lv_iload_n hx hb dd_M_create_20 rfl (lv_at hl 3 rfl) ?_
  obtain ⟨n2, hok⟩ := hok
  refine va_iast hx hb hK hP hD hS 6 5 rfl rfl n2 dd_M_create_21 (fun H locs hP hD hS => ?_)
  have hP : va_P (dC, dI) cls_l (wM h a k (m_u_size (m_u_kind u0 (m_objs u0) p0) (m_objs u0) p1)) H := hP
  have hD : va_D (aM h a) (wM h a k (m_u_size (m_u_kind u0 (m_objs u0) p0) (m_objs u0) p1)) := hD
  refine lv_aload_n hx hb dd_M_create_22 rfl (lv_at hl 1 rfl) ?_
  refine va_get (D := (dC, dI)) (ci := 0) (v := .ref (a 6)) (C := "ClassObjectMirrorModel") (T := TM) (N := 12) hx hb hts inM hown hK hP 0 rfl rfl 7 (by decide) (hts _ gw_308) (fun _ h9 => h9) rfl dd_M_create_23 ?_
  refine lv_iload hx hb dd_M_create_26 (lv_at hl 0 rfl) ?_
  refine lv_iload_n hx hb dd_M_create_28 rfl (lv_at hl 4 rfl) ?_
  obtain ⟨n3, hok⟩ := hok
  refine va_iast hx hb hK hP hD hS 7 6 rfl rfl n3 dd_M_create_29 (fun H locs hP hD hS => ?_)
  have hP : va_P (dC, dI) cls_l (wM h a k (m_u_val (m_u_size (m_u_kind u0 (m_objs u0) p0) (m_objs u0) p1) (m_objs u0) p2)) H := hP
  have hD : va_D (aM h a) (wM h a k (m_u_val (m_u_size (m_u_kind u0 (m_objs u0) p0) (m_objs u0) p1) (m_objs u0) p2)) := hD
  refine lv_iconst (v := 0) hx hb dd_M_create_30 (by decide) ?_
  refine lv_istore (lv' := [(5, .int 0), (4, .int (m_objs u0)), (0, .ref h), (1, .int p0), (2, .int p1), (3, .int p2)]) hx hb dd_M_create_31 hl (by decide) rfl (fun ls hl => ?_)
  have loop_33 : ∀ (n : Nat) (u : SM) (H : Heap) (locs : List Loc) (x1 : Int32) (x2 : Int32) (x3 : Int32) (x4 : Int32) (x5 : Int32) (ls : Array Slot), okl_M_create_33 n u x1 x2 x3 x4 x5 → ff_M_create u0 p0 p1 p2 = fl_M_create_33 n u x1 x2 x3 x4 x5 → va_P (dC, dI) cls_l (wM h a k u) H → va_D (aM h a) (wM h a k u) → va_S (aM h a) s.heap H locs → lv_has ls 6 [(0, .ref h), (1, .int x1), (2, .int x2), (3, .int x3), (4, .int x4), (5, .int x5)] → W p l e (headSpec ws_M_create rm_M_create).room s m ([.ref h, .int p0, .int p1, .int p2] : List Value).toArray below meth c H locs 0 0 (MQ below (va_Qi (fun (r : Int32) (v : SM) => (r, v) = ff_M_create u0 p0 p1 p2) (pM dC dI h a k) (aM h a)) ([.ref h, .int p0, .int p1, .int p2] : List Value).toArray s 0 0 (aM h a)) (F0 m 33 ls []) := by
    intro n
    induction n with
    | zero => intro u H locs x1 x2 x3 x4 x5 ls hok; exact (show False from hok).elim
    | succ n ih =>
      intro u H locs x1 x2 x3 x4 x5 ls hok hf hP hD hS hl
      rw [fl_M_create_33] at hf
      rw [okl_M_create_33] at hok
      refine lv_iload hx hb dd_M_create_33 (lv_at hl 5 rfl) ?_
      refine lv_bipush (v := 8) hx hb dd_M_create_35 (by decide) ?_
      refine lv_icmp_ge (tgt := 82) hx hb dd_M_create_37 (by decide) (fun c4 => ?_) (fun c4 => ?_)
      · have hf := hf.trans (if_pos c4)
        have hok := hok.1 c4
        refine lv_aload_n hx hb dd_M_create_82 rfl (lv_at hl 0 rfl) ?_
        refine lv_dup hx hb dd_M_create_83 rfl ?_
        refine va_get (D := (dC, dI)) (ci := 0) (v := .int (m_objs u)) (C := "ClassObjectMirrorModel") (T := TM) (N := 12) hx hb hts inM hown hK hP 0 rfl rfl 9 (by decide) (hts _ gw_310) (fun _ h9 => h9) rfl dd_M_create_84 ?_
        refine lv_iconst (v := 1) hx hb dd_M_create_87 (by decide) ?_
        refine lv_iadd hx hb dd_M_create_88 ?_
        refine va_put (D := (dC, dI)) (ci := 0) (v := .int ((m_objs u) + 1)) (ty := .int) (C := "ClassObjectMirrorModel") (T := TM) (N := 12) hx hb hts inM tyM tyM_ok nmM hown hK hP hD hS 0 rfl rfl 9 (by decide) (hts _ gw_310) (fun _ h9 => h9) rfl (by decide +kernel) rfl rfl (Nat.le_of_ble_eq_true rfl) dd_M_create_89 (fun H locs hP hD hS => ?_)
        have hP : va_P (dC, dI) cls_l (wM h a k (m_u_objs u ((m_objs u) + 1))) H := hP
        have hD : va_D (aM h a) (wM h a k (m_u_objs u ((m_objs u) + 1))) := hD
        refine lv_iload hx hb dd_M_create_92 (lv_at hl 4 rfl) ?_
        exact W.iret (v := x4) hx hb hr (fun t ht hW => ⟨⟨x4, m_u_objs u ((m_objs u) + 1), rfl, hf.symm, pM_up hP hK hD ht hW⟩, hS.F ht⟩) hS.2.2 dd_M_create_94
      · have hf := hf.trans (if_neg c4)
        have hok := hok.2 c4
        refine lv_aload_n hx hb dd_M_create_40 rfl (lv_at hl 0 rfl) ?_
        refine va_get (D := (dC, dI)) (ci := 0) (v := .ref (a 7)) (C := "ClassObjectMirrorModel") (T := TM) (N := 12) hx hb hts inM hown hK hP 0 rfl rfl 8 (by decide) (hts _ gw_309) (fun _ h9 => h9) rfl dd_M_create_41 ?_
        refine lv_bipush (v := 8) hx hb dd_M_create_44 (by decide) ?_
        refine lv_iload hx hb dd_M_create_46 (lv_at hl 4 rfl) ?_
        refine lv_imul hx hb dd_M_create_48 ?_
        refine lv_iload hx hb dd_M_create_49 (lv_at hl 5 rfl) ?_
        refine lv_iadd hx hb dd_M_create_51 ?_
        refine lv_iload_n hx hb dd_M_create_52 rfl (lv_at hl 2 rfl) ?_
        refine lv_if_lt (tgt := 74) hx hb dd_M_create_53 (by decide) (fun c5 => ?_) (fun c5 => ?_)
        · have hf := hf.trans (if_pos c5)
          have hok := hok.1 c5
          refine lv_lconst (v := 0) hx hb dd_M_create_74 (by decide) ?_
          obtain ⟨n6, hok⟩ := hok
          refine va_last hx hb hK hP hD hS 8 7 rfl rfl n6 dd_M_create_75 (fun H locs hP hD hS => ?_)
          have hP : va_P (dC, dI) cls_l (wM h a k (m_u_cell u ((8 * x4) + x5) 0)) H := hP
          have hD : va_D (aM h a) (wM h a k (m_u_cell u ((8 * x4) + x5) 0)) := hD
          refine lv_iinc (v := x5 + 1) (lv' := [(5, .int (x5 + 1)), (0, .ref h), (1, .int x1), (2, .int x2), (3, .int x3), (4, .int x4)]) hx hb dd_M_create_76 hl (k := 5) rfl rfl (by decide) rfl (fun ls hl => ?_)
          refine lv_goto (tgt := 33) hx hb dd_M_create_79 (by decide) ?_
          exact ih (m_u_cell u ((8 * x4) + x5) 0) _ _ x1 x2 x3 x4 (x5 + 1) ls hok hf hP hD hS (lv_sub hl [1, 2, 3, 4, 5, 0] rfl)
        · have hf := hf.trans (if_neg c5)
          have hok := hok.2 c5
          refine lv_aload_n hx hb dd_M_create_56 rfl (lv_at hl 0 rfl) ?_
          refine va_get (D := (dC, dI)) (ci := 0) (v := .ref (a 2)) (C := "ClassObjectMirrorModel") (T := TM) (N := 12) hx hb hts inM hown hK hP 0 rfl rfl 2 (by decide) (hts _ gw_303) (fun _ h9 => h9) rfl dd_M_create_57 ?_
          refine lv_iload_n hx hb dd_M_create_60 rfl (lv_at hl 1 rfl) ?_
          obtain ⟨n7, hok⟩ := hok
          refine va_iald hx hb hK hP 3 2 rfl rfl n7 dd_M_create_61 ?_
          refine vp_callSi (W.runS (As := [.int (m_comp u x1.toNatClampNeg)]) (rest := [.int ((8 * x4) + x5), .ref (a 7)]) ⟨hx, hb, hml, hown, hts⟩ (mm_M_base l (m_comp u x1.toNatClampNeg)) (va_cwS 1 hts (gg_S gw_370 gw_371 gw_2 gw_372) rfl rfl rfl (by decide +kernel) ⟨Nat.le_of_ble_eq_true rfl, Nat.le_of_ble_eq_true rfl⟩) ⟨fun a U g mk q => q, fun U hU hW => ⟨rfl, trivial⟩⟩ rfl rfl hl.1 rfl (lv_room (Nat.le_of_ble_eq_true rfl)) dd_M_create_62 ⟨Nat.zero_le _, Nat.zero_le _⟩) (fun r hr9 => ?_)
          subst hr9
          refine lv_if_ne (tgt := 74) hx hb dd_M_create_65 (by decide) (fun c8 => ?_) (fun c8 => ?_)
          · have hf := hf.trans (if_neg c8)
            have hok := hok.2 c8
            refine lv_lconst (v := 0) hx hb dd_M_create_74 (by decide) ?_
            obtain ⟨n9, hok⟩ := hok
            refine va_last hx hb hK hP hD hS 8 7 rfl rfl n9 dd_M_create_75 (fun H locs hP hD hS => ?_)
            have hP : va_P (dC, dI) cls_l (wM h a k (m_u_cell u ((8 * x4) + x5) 0)) H := hP
            have hD : va_D (aM h a) (wM h a k (m_u_cell u ((8 * x4) + x5) 0)) := hD
            refine lv_iinc (v := x5 + 1) (lv' := [(5, .int (x5 + 1)), (0, .ref h), (1, .int x1), (2, .int x2), (3, .int x3), (4, .int x4)]) hx hb dd_M_create_76 hl (k := 5) rfl rfl (by decide) rfl (fun ls hl => ?_)
            refine lv_goto (tgt := 33) hx hb dd_M_create_79 (by decide) ?_
            exact ih (m_u_cell u ((8 * x4) + x5) 0) _ _ x1 x2 x3 x4 (x5 + 1) ls hok hf hP hD hS (lv_sub hl [1, 2, 3, 4, 5, 0] rfl)
          · have hf := hf.trans (if_pos c8)
            have hok := hok.1 c8
            refine lv_ldc2 (v := (-7)) hx hb hown (hts _ gw_451) dd_M_create_68 ?_
            refine lv_goto (tgt := 75) hx hb dd_M_create_71 (by decide) ?_
            obtain ⟨n10, hok⟩ := hok
            refine va_last hx hb hK hP hD hS 8 7 rfl rfl n10 dd_M_create_75 (fun H locs hP hD hS => ?_)
            have hP : va_P (dC, dI) cls_l (wM h a k (m_u_cell u ((8 * x4) + x5) (-7))) H := hP
            have hD : va_D (aM h a) (wM h a k (m_u_cell u ((8 * x4) + x5) (-7))) := hD
            refine lv_iinc (v := x5 + 1) (lv' := [(5, .int (x5 + 1)), (0, .ref h), (1, .int x1), (2, .int x2), (3, .int x3), (4, .int x4)]) hx hb dd_M_create_76 hl (k := 5) rfl rfl (by decide) rfl (fun ls hl => ?_)
            refine lv_goto (tgt := 33) hx hb dd_M_create_79 (by decide) ?_
            exact ih (m_u_cell u ((8 * x4) + x5) (-7)) _ _ x1 x2 x3 x4 (x5 + 1) ls hok hf hP hD hS (lv_sub hl [1, 2, 3, 4, 5, 0] rfl)
  exact loop_33 400 (m_u_val (m_u_size (m_u_kind u0 (m_objs u0) p0) (m_objs u0) p1) (m_objs u0) p2) _ _ p0 p1 p2 (m_objs u0) (0 : Int32) ls hok hf hP hD hS (lv_sub hl [2, 3, 4, 5, 1, 0] rfl)

def fl_M_make_68 : Nat → SM → Int32 → Int32 → Int32 → Int32 → Int32 → Int32 × SM
  | 0, u, _, _, _, _, _ => (0, u)
  | n + 1, u, x1, x2, x3, x4, x5 => (if (m_objs u) ≤ x5 then (if (m_objs u) = 80 then ((-8), u) else ((ff_M_create u x1 ((-1) : Int32) x4).1, (ff_M_create u x1 ((-1) : Int32) x4).2)) else (if x1 = 19 then (if (m_kind u x5.toNatClampNeg) = 19 then (if (m_val u x5.toNatClampNeg) = x4 then (x5, u) else fl_M_make_68 n u x1 x2 x3 x4 (x5 + 1)) else fl_M_make_68 n u x1 x2 x3 x4 (x5 + 1)) else (if (m_objs u) = 80 then ((-8), u) else ((ff_M_create u x1 ((-1) : Int32) x4).1, (ff_M_create u x1 ((-1) : Int32) x4).2))))
def okl_M_make_68 : Nat → SM → Int32 → Int32 → Int32 → Int32 → Int32 → Prop
  | 0, _, _, _, _, _, _ => False
  | n + 1, u, x1, x2, x3, x4, x5 => ((((m_objs u) ≤ x5) → ((((m_objs u) = 80) → True) ∧ (¬ ((m_objs u) = 80) → ok_M_create u x1 ((-1) : Int32) x4))) ∧ (¬ ((m_objs u) ≤ x5) → (((x1 = 19) → (vp_in x5 80) ∧ ((((m_kind u x5.toNatClampNeg) = 19) → (vp_in x5 80) ∧ ((((m_val u x5.toNatClampNeg) = x4) → True) ∧ (¬ ((m_val u x5.toNatClampNeg) = x4) → okl_M_make_68 n u x1 x2 x3 x4 (x5 + 1)))) ∧ (¬ ((m_kind u x5.toNatClampNeg) = 19) → okl_M_make_68 n u x1 x2 x3 x4 (x5 + 1)))) ∧ (¬ (x1 = 19) → ((((m_objs u) = 80) → True) ∧ (¬ ((m_objs u) = 80) → ok_M_create u x1 ((-1) : Int32) x4))))))
def ff_M_make (u0 : SM) (p0 : Int32) (p1 : Int32) : Int32 × SM := (if (ff_M_noType u0 p0) = 0 then (if p0 = 9 then (if (1 : Int32) = 0 then ((-1), u0) else (if p0 = 19 then fl_M_make_68 400 u0 p0 p1 (1 : Int32) (((p1 - p1 / 3 * 3) + 3) - ((p1 - p1 / 3 * 3) + 3) / 3 * 3) (0 : Int32) else fl_M_make_68 400 u0 p0 p1 (1 : Int32) p1 (0 : Int32))) else (if p0 = 12 then (if (1 : Int32) = 0 then ((-1), u0) else (if p0 = 19 then fl_M_make_68 400 u0 p0 p1 (1 : Int32) (((p1 - p1 / 3 * 3) + 3) - ((p1 - p1 / 3 * 3) + 3) / 3 * 3) (0 : Int32) else fl_M_make_68 400 u0 p0 p1 (1 : Int32) p1 (0 : Int32))) else (if p0 < 16 then (if (0 : Int32) = 0 then ((-1), u0) else (if p0 = 19 then fl_M_make_68 400 u0 p0 p1 (0 : Int32) (((p1 - p1 / 3 * 3) + 3) - ((p1 - p1 / 3 * 3) + 3) / 3 * 3) (0 : Int32) else fl_M_make_68 400 u0 p0 p1 (0 : Int32) p1 (0 : Int32))) else (if 21 < p0 then (if (0 : Int32) = 0 then ((-1), u0) else (if p0 = 19 then fl_M_make_68 400 u0 p0 p1 (0 : Int32) (((p1 - p1 / 3 * 3) + 3) - ((p1 - p1 / 3 * 3) + 3) / 3 * 3) (0 : Int32) else fl_M_make_68 400 u0 p0 p1 (0 : Int32) p1 (0 : Int32))) else (if (1 : Int32) = 0 then ((-1), u0) else (if p0 = 19 then fl_M_make_68 400 u0 p0 p1 (1 : Int32) (((p1 - p1 / 3 * 3) + 3) - ((p1 - p1 / 3 * 3) + 3) / 3 * 3) (0 : Int32) else fl_M_make_68 400 u0 p0 p1 (1 : Int32) p1 (0 : Int32))))))) else ((-1), u0))
def ok_M_make (u0 : SM) (p0 : Int32) (p1 : Int32) : Prop := ((((ff_M_noType u0 p0) = 0) → (((p0 = 9) → ((((1 : Int32) = 0) → True) ∧ (¬ ((1 : Int32) = 0) → (((p0 = 19) → okl_M_make_68 400 u0 p0 p1 (1 : Int32) (((p1 - p1 / 3 * 3) + 3) - ((p1 - p1 / 3 * 3) + 3) / 3 * 3) (0 : Int32)) ∧ (¬ (p0 = 19) → okl_M_make_68 400 u0 p0 p1 (1 : Int32) p1 (0 : Int32)))))) ∧ (¬ (p0 = 9) → (((p0 = 12) → ((((1 : Int32) = 0) → True) ∧ (¬ ((1 : Int32) = 0) → (((p0 = 19) → okl_M_make_68 400 u0 p0 p1 (1 : Int32) (((p1 - p1 / 3 * 3) + 3) - ((p1 - p1 / 3 * 3) + 3) / 3 * 3) (0 : Int32)) ∧ (¬ (p0 = 19) → okl_M_make_68 400 u0 p0 p1 (1 : Int32) p1 (0 : Int32)))))) ∧ (¬ (p0 = 12) → (((p0 < 16) → ((((0 : Int32) = 0) → True) ∧ (¬ ((0 : Int32) = 0) → (((p0 = 19) → okl_M_make_68 400 u0 p0 p1 (0 : Int32) (((p1 - p1 / 3 * 3) + 3) - ((p1 - p1 / 3 * 3) + 3) / 3 * 3) (0 : Int32)) ∧ (¬ (p0 = 19) → okl_M_make_68 400 u0 p0 p1 (0 : Int32) p1 (0 : Int32)))))) ∧ (¬ (p0 < 16) → (((21 < p0) → ((((0 : Int32) = 0) → True) ∧ (¬ ((0 : Int32) = 0) → (((p0 = 19) → okl_M_make_68 400 u0 p0 p1 (0 : Int32) (((p1 - p1 / 3 * 3) + 3) - ((p1 - p1 / 3 * 3) + 3) / 3 * 3) (0 : Int32)) ∧ (¬ (p0 = 19) → okl_M_make_68 400 u0 p0 p1 (0 : Int32) p1 (0 : Int32)))))) ∧ (¬ (21 < p0) → ((((1 : Int32) = 0) → True) ∧ (¬ ((1 : Int32) = 0) → (((p0 = 19) → okl_M_make_68 400 u0 p0 p1 (1 : Int32) (((p1 - p1 / 3 * 3) + 3) - ((p1 - p1 / 3 * 3) + 3) / 3 * 3) (0 : Int32)) ∧ (¬ (p0 = 19) → okl_M_make_68 400 u0 p0 p1 (1 : Int32) p1 (0 : Int32)))))))))))))) ∧ (¬ ((ff_M_noType u0 p0) = 0) → True))
abbrev ws_M_make : List Cond := .code yy_M_make bb_M_make 6 (some .int) :: gW
abbrev rm_M_make : Room := { frames := 2, cells := 0, slots := 0, locals := 45 }
set_option maxHeartbeats 4000000 in
set_option maxRecDepth 100000 in
theorem mm_M_make (l : Launch) (dC : Nat → ClassId) (dI : Nat → Nat → Nat) (h : Nat) (a : Nat → Nat) (k : Nat → ClassId) (u0 : SM) (p0 : Int32) (p1 : Int32) (hok : ok_M_make u0 p0 p1) : Met l yy_M_make ws_M_make rm_M_make (va_Pc [.ref h, .int p0, .int p1] (pM dC dI h a k u0)) (va_Qi (fun (r : Int32) (v : SM) => (r, v) = ff_M_make u0 p0 p1) (pM dC dI h a k) (aM h a)) 0 0 (aM h a) := by
  refine Met.ofW (cc := bb_M_make) (maxL := 6) (ret := (some .int)) (by decide) rfl ?_
  intro p e s m args below meth c s₁ B hml hv
  obtain ⟨rfl, hP, hK, hD⟩ := hv
  have hx := B.exec
  have hb := B.bytes
  have hr := B.returns
  have hts : ∀ w ∈ gW, w.before _ s = true := fun w h => atoms_spec (ws := ws_M_make) B.pre w (List.mem_cons_of_mem _ h)
  have hown : s.vm.findClass "ClassObjectMirrorModel" = some m.cls := findClass_of_methodNamed B.named
  have hlocks := B.notSynchronized
  have hS : va_S (aM h a) s.heap s.heap [] := va_S.rf
  have hl := lv_entry ([.ref h, .int p0, .int p1]) (n := 6) (Nat.le_of_ble_eq_true rfl)
  rw [lg_entry_eq]
  generalize (lg_sl ([.ref h, .int p0, .int p1]) ++ List.replicate (6 - (lg_sl ([.ref h, .int p0, .int p1])).length) Slot.unset).toArray = ls at hl ⊢
  have hl : lv_has ls 6 [(0, .ref h), (1, .int p0), (2, .int p1)] := hl
  have hf := ff_M_make.eq_1 u0 p0 p1
  unfold ok_M_make at hok
  refine lv_aload_n hx hb dd_M_make_0 rfl (lv_at hl 0 rfl) ?_
  refine lv_iload_n hx hb dd_M_make_1 rfl (lv_at hl 1 rfl) ?_
  refine vp_callSi (W.runV (As := [.int p0]) (rest := []) ⟨hx, hb, hml, hown, hts⟩ (mm_M_noType l dC dI h a k u0 p0) (cwV 1 hts (gg_V gw_342 gw_344 gs_18 gw_2 gw_345) rfl rfl rfl (by decide +kernel) ⟨Nat.le_of_ble_eq_true rfl, Nat.le_of_ble_eq_true rfl⟩) ⟨pM_bl, va_recv hK hP (ci := 0) (q0 := 0) rfl rfl, fun U hU hW => ⟨rfl, pM_up hP hK hD hU hW⟩⟩ rfl rfl hl.1 rfl (lv_room (Nat.le_of_ble_eq_true rfl)) dd_M_make_2 ⟨Nat.zero_le _, Nat.zero_le _⟩) (fun r hr9 => ?_)
  subst hr9
  refine lv_if_eq (tgt := 10) hx hb dd_M_make_5 (by decide) (fun c1 => ?_) (fun c1 => ?_)
  · have hf := hf.trans (if_pos c1)
    have hok := hok.1 c1
    refine lv_iload_n hx hb dd_M_make_10 rfl (lv_at hl 1 rfl) ?_
    refine lv_bipush (v := 9) hx hb dd_M_make_11 (by decide) ?_
    refine lv_icmp_eq (tgt := 34) hx hb dd_M_make_13 (by decide) (fun c2 => ?_) (fun c2 => ?_)
    · have hf := hf.trans (if_pos c2)
      have hok := hok.1 c2
      refine lv_iconst (v := 1) hx hb dd_M_make_34 (by decide) ?_
      refine lv_goto (tgt := 39) hx hb dd_M_make_35 (by decide) ?_
      refine lv_istore_n (lv' := [(3, .int 1), (0, .ref h), (1, .int p0), (2, .int p1)]) hx hb dd_M_make_39 rfl hl (by decide) rfl (fun ls hl => ?_)
      refine lv_iload_n hx hb dd_M_make_40 rfl (lv_at hl 0 rfl) ?_
      refine lv_if_ne (tgt := 46) hx hb dd_M_make_41 (by decide) (fun c3 => ?_) (fun c3 => ?_)
      · have hf := hf.trans (if_neg c3)
        have hok := hok.2 c3
        refine lv_iload_n hx hb dd_M_make_46 rfl (lv_at hl 2 rfl) ?_
        refine lv_bipush (v := 19) hx hb dd_M_make_47 (by decide) ?_
        refine lv_icmp_ne (tgt := 62) hx hb dd_M_make_49 (by decide) (fun c4 => ?_) (fun c4 => ?_)
        · have hf := hf.trans (if_neg c4)
          have hok := hok.2 c4
          refine lv_iload_n hx hb dd_M_make_62 rfl (lv_at hl 3 rfl) ?_
          refine lv_istore (lv' := [(4, .int p1), (3, .int 1), (0, .ref h), (1, .int p0), (2, .int p1)]) hx hb dd_M_make_63 hl (by decide) rfl (fun ls hl => ?_)
          refine lv_iconst (v := 0) hx hb dd_M_make_65 (by decide) ?_
          refine lv_istore (lv' := [(5, .int 0), (4, .int p1), (3, .int 1), (0, .ref h), (1, .int p0), (2, .int p1)]) hx hb dd_M_make_66 hl (by decide) rfl (fun ls hl => ?_)
          have loop_68 : ∀ (n : Nat) (u : SM) (H : Heap) (locs : List Loc) (x1 : Int32) (x2 : Int32) (x3 : Int32) (x4 : Int32) (x5 : Int32) (ls : Array Slot), okl_M_make_68 n u x1 x2 x3 x4 x5 → ff_M_make u0 p0 p1 = fl_M_make_68 n u x1 x2 x3 x4 x5 → va_P (dC, dI) cls_l (wM h a k u) H → va_D (aM h a) (wM h a k u) → va_S (aM h a) s.heap H locs → lv_has ls 6 [(0, .ref h), (1, .int x1), (2, .int x2), (3, .int x3), (4, .int x4), (5, .int x5)] → W p l e (headSpec ws_M_make rm_M_make).room s m ([.ref h, .int p0, .int p1] : List Value).toArray below meth c H locs 0 0 (MQ below (va_Qi (fun (r : Int32) (v : SM) => (r, v) = ff_M_make u0 p0 p1) (pM dC dI h a k) (aM h a)) ([.ref h, .int p0, .int p1] : List Value).toArray s 0 0 (aM h a)) (F0 m 68 ls []) := by
            intro n
            induction n with
            | zero => intro u H locs x1 x2 x3 x4 x5 ls hok; exact (show False from hok).elim
            | succ n ih =>
              intro u H locs x1 x2 x3 x4 x5 ls hok hf hP hD hS hl
              rw [fl_M_make_68] at hf
              rw [okl_M_make_68] at hok
              refine lv_iload hx hb dd_M_make_68 (lv_at hl 5 rfl) ?_
              refine lv_aload_n hx hb dd_M_make_70 rfl (lv_at hl 0 rfl) ?_
              refine va_get (D := (dC, dI)) (ci := 0) (v := .int (m_objs u)) (C := "ClassObjectMirrorModel") (T := TM) (N := 12) hx hb hts inM hown hK hP 0 rfl rfl 9 (by decide) (hts _ gw_310) (fun _ h9 => h9) rfl dd_M_make_71 ?_
              refine lv_icmp_ge (tgt := 116) hx hb dd_M_make_74 (by decide) (fun c5 => ?_) (fun c5 => ?_)
              · have hf := hf.trans (if_pos c5)
                have hok := hok.1 c5
                refine lv_aload_n hx hb dd_M_make_116 rfl (lv_at hl 0 rfl) ?_
                refine va_get (D := (dC, dI)) (ci := 0) (v := .int (m_objs u)) (C := "ClassObjectMirrorModel") (T := TM) (N := 12) hx hb hts inM hown hK hP 0 rfl rfl 9 (by decide) (hts _ gw_310) (fun _ h9 => h9) rfl dd_M_make_117 ?_
                refine lv_bipush (v := 80) hx hb dd_M_make_120 (by decide) ?_
                refine lv_icmp_ne (tgt := 130) hx hb dd_M_make_122 (by decide) (fun c6 => ?_) (fun c6 => ?_)
                · have hf := hf.trans (if_neg c6)
                  have hok := hok.2 c6
                  refine lv_aload_n hx hb dd_M_make_130 rfl (lv_at hl 0 rfl) ?_
                  refine lv_iload_n hx hb dd_M_make_131 rfl (lv_at hl 1 rfl) ?_
                  refine lv_iconst (v := (-1)) hx hb dd_M_make_132 (by decide) ?_
                  refine lv_iload hx hb dd_M_make_133 (lv_at hl 4 rfl) ?_
                  have n7 := hok
                  refine va_calli (va_runV (As := [.int x1, .int (-1), .int x4]) (rest := []) ⟨hx, hb, hml, hown, hts⟩ (mm_M_create l dC dI h a k u x1 ((-1) : Int32) x4 n7) (cwV 3 hts (gg_V gw_447 gw_449 gs_28 gw_2 gw_450) rfl rfl rfl (by decide +kernel) ⟨Nat.le_of_ble_eq_true rfl, Nat.le_of_ble_eq_true rfl⟩) ⟨pM_bl, va_recv hK hP (ci := 0) (q0 := 0) rfl rfl, fun U hU hW => ⟨rfl, pM_up hP hK hD hU hW⟩⟩ rfl rfl hl.1 rfl (lv_room (Nat.le_of_ble_eq_true rfl)) dd_M_make_135 ⟨Nat.zero_le _, Nat.zero_le _⟩) hS (fun q _ h => h) (fun q h => h) (fun r9 v9 t9 H locs ht9 hvm9 hw9 hB9 hz9 hk9 hS => ?_)
                  obtain ⟨rfl, rfl⟩ : r9 = (ff_M_create u x1 ((-1) : Int32) x4).1 ∧ v9 = (ff_M_create u x1 ((-1) : Int32) x4).2 := by rw [← hw9]; exact ⟨rfl, rfl⟩
                  obtain ⟨hP, -, hD⟩ := hB9
                  rw [ht9] at hP
                  exact W.iret (v := ((ff_M_create u x1 ((-1) : Int32) x4).1)) hx hb hr (fun t ht hW => ⟨⟨((ff_M_create u x1 ((-1) : Int32) x4).1), (ff_M_create u x1 ((-1) : Int32) x4).2, rfl, hf.symm, pM_up hP hK hD ht hW⟩, hS.F ht⟩) hS.2.2 dd_M_make_138
                · have hf := hf.trans (if_pos c6)
                  have hok := hok.1 c6
                  refine lv_bipush (v := (-8)) hx hb dd_M_make_125 (by decide) ?_
                  refine lv_goto (tgt := 138) hx hb dd_M_make_127 (by decide) ?_
                  exact W.iret (v := ((-8) : Int32)) hx hb hr (fun t ht hW => ⟨⟨((-8) : Int32), u, rfl, hf.symm, pM_up hP hK hD ht hW⟩, hS.F ht⟩) hS.2.2 dd_M_make_138
              · have hf := hf.trans (if_neg c5)
                have hok := hok.2 c5
                refine lv_iload_n hx hb dd_M_make_77 rfl (lv_at hl 1 rfl) ?_
                refine lv_bipush (v := 19) hx hb dd_M_make_78 (by decide) ?_
                refine lv_icmp_ne (tgt := 116) hx hb dd_M_make_80 (by decide) (fun c8 => ?_) (fun c8 => ?_)
                · have hf := hf.trans (if_neg c8)
                  have hok := hok.2 c8
                  refine lv_aload_n hx hb dd_M_make_116 rfl (lv_at hl 0 rfl) ?_
                  refine va_get (D := (dC, dI)) (ci := 0) (v := .int (m_objs u)) (C := "ClassObjectMirrorModel") (T := TM) (N := 12) hx hb hts inM hown hK hP 0 rfl rfl 9 (by decide) (hts _ gw_310) (fun _ h9 => h9) rfl dd_M_make_117 ?_
                  refine lv_bipush (v := 80) hx hb dd_M_make_120 (by decide) ?_
                  refine lv_icmp_ne (tgt := 130) hx hb dd_M_make_122 (by decide) (fun c9 => ?_) (fun c9 => ?_)
                  · have hf := hf.trans (if_neg c9)
                    have hok := hok.2 c9
                    refine lv_aload_n hx hb dd_M_make_130 rfl (lv_at hl 0 rfl) ?_
                    refine lv_iload_n hx hb dd_M_make_131 rfl (lv_at hl 1 rfl) ?_
                    refine lv_iconst (v := (-1)) hx hb dd_M_make_132 (by decide) ?_
                    refine lv_iload hx hb dd_M_make_133 (lv_at hl 4 rfl) ?_
                    have n10 := hok
                    refine va_calli (va_runV (As := [.int x1, .int (-1), .int x4]) (rest := []) ⟨hx, hb, hml, hown, hts⟩ (mm_M_create l dC dI h a k u x1 ((-1) : Int32) x4 n10) (cwV 3 hts (gg_V gw_447 gw_449 gs_28 gw_2 gw_450) rfl rfl rfl (by decide +kernel) ⟨Nat.le_of_ble_eq_true rfl, Nat.le_of_ble_eq_true rfl⟩) ⟨pM_bl, va_recv hK hP (ci := 0) (q0 := 0) rfl rfl, fun U hU hW => ⟨rfl, pM_up hP hK hD hU hW⟩⟩ rfl rfl hl.1 rfl (lv_room (Nat.le_of_ble_eq_true rfl)) dd_M_make_135 ⟨Nat.zero_le _, Nat.zero_le _⟩) hS (fun q _ h => h) (fun q h => h) (fun r9 v9 t9 H locs ht9 hvm9 hw9 hB9 hz9 hk9 hS => ?_)
                    obtain ⟨rfl, rfl⟩ : r9 = (ff_M_create u x1 ((-1) : Int32) x4).1 ∧ v9 = (ff_M_create u x1 ((-1) : Int32) x4).2 := by rw [← hw9]; exact ⟨rfl, rfl⟩
                    obtain ⟨hP, -, hD⟩ := hB9
                    rw [ht9] at hP
                    exact W.iret (v := ((ff_M_create u x1 ((-1) : Int32) x4).1)) hx hb hr (fun t ht hW => ⟨⟨((ff_M_create u x1 ((-1) : Int32) x4).1), (ff_M_create u x1 ((-1) : Int32) x4).2, rfl, hf.symm, pM_up hP hK hD ht hW⟩, hS.F ht⟩) hS.2.2 dd_M_make_138
                  · have hf := hf.trans (if_pos c9)
                    have hok := hok.1 c9
                    refine lv_bipush (v := (-8)) hx hb dd_M_make_125 (by decide) ?_
                    refine lv_goto (tgt := 138) hx hb dd_M_make_127 (by decide) ?_
                    exact W.iret (v := ((-8) : Int32)) hx hb hr (fun t ht hW => ⟨⟨((-8) : Int32), u, rfl, hf.symm, pM_up hP hK hD ht hW⟩, hS.F ht⟩) hS.2.2 dd_M_make_138
                · have hf := hf.trans (if_pos c8)
                  have hok := hok.1 c8
                  refine lv_aload_n hx hb dd_M_make_83 rfl (lv_at hl 0 rfl) ?_
                  refine va_get (D := (dC, dI)) (ci := 0) (v := .ref (a 4)) (C := "ClassObjectMirrorModel") (T := TM) (N := 12) hx hb hts inM hown hK hP 0 rfl rfl 5 (by decide) (hts _ gw_306) (fun _ h9 => h9) rfl dd_M_make_84 ?_
                  refine lv_iload hx hb dd_M_make_87 (lv_at hl 5 rfl) ?_
                  obtain ⟨n11, hok⟩ := hok
                  refine va_iald hx hb hK hP 5 4 rfl rfl n11 dd_M_make_89 ?_
                  refine lv_bipush (v := 19) hx hb dd_M_make_90 (by decide) ?_
                  refine lv_icmp_ne (tgt := 110) hx hb dd_M_make_92 (by decide) (fun c12 => ?_) (fun c12 => ?_)
                  · have hf := hf.trans (if_neg c12)
                    have hok := hok.2 c12
                    refine lv_iinc (v := x5 + 1) (lv' := [(5, .int (x5 + 1)), (0, .ref h), (1, .int x1), (2, .int x2), (3, .int x3), (4, .int x4)]) hx hb dd_M_make_110 hl (k := 5) rfl rfl (by decide) rfl (fun ls hl => ?_)
                    refine lv_goto (tgt := 68) hx hb dd_M_make_113 (by decide) ?_
                    exact ih u _ _ x1 x2 x3 x4 (x5 + 1) ls hok hf hP hD hS (lv_sub hl [1, 2, 3, 4, 5, 0] rfl)
                  · have hf := hf.trans (if_pos c12)
                    have hok := hok.1 c12
                    refine lv_aload_n hx hb dd_M_make_95 rfl (lv_at hl 0 rfl) ?_
                    refine va_get (D := (dC, dI)) (ci := 0) (v := .ref (a 6)) (C := "ClassObjectMirrorModel") (T := TM) (N := 12) hx hb hts inM hown hK hP 0 rfl rfl 7 (by decide) (hts _ gw_308) (fun _ h9 => h9) rfl dd_M_make_96 ?_
                    refine lv_iload hx hb dd_M_make_99 (lv_at hl 5 rfl) ?_
                    obtain ⟨n13, hok⟩ := hok
                    refine va_iald hx hb hK hP 7 6 rfl rfl n13 dd_M_make_101 ?_
                    refine lv_iload hx hb dd_M_make_102 (lv_at hl 4 rfl) ?_
                    refine lv_icmp_ne (tgt := 110) hx hb dd_M_make_104 (by decide) (fun c14 => ?_) (fun c14 => ?_)
                    · have hf := hf.trans (if_neg c14)
                      have hok := hok.2 c14
                      refine lv_iinc (v := x5 + 1) (lv' := [(5, .int (x5 + 1)), (0, .ref h), (1, .int x1), (2, .int x2), (3, .int x3), (4, .int x4)]) hx hb dd_M_make_110 hl (k := 5) rfl rfl (by decide) rfl (fun ls hl => ?_)
                      refine lv_goto (tgt := 68) hx hb dd_M_make_113 (by decide) ?_
                      exact ih u _ _ x1 x2 x3 x4 (x5 + 1) ls hok hf hP hD hS (lv_sub hl [1, 2, 3, 4, 5, 0] rfl)
                    · have hf := hf.trans (if_pos c14)
                      have hok := hok.1 c14
                      refine lv_iload hx hb dd_M_make_107 (lv_at hl 5 rfl) ?_
                      exact W.iret (v := x5) hx hb hr (fun t ht hW => ⟨⟨x5, u, rfl, hf.symm, pM_up hP hK hD ht hW⟩, hS.F ht⟩) hS.2.2 dd_M_make_109
          exact loop_68 400 u0 _ _ p0 p1 (1 : Int32) p1 (0 : Int32) ls hok hf hP hD hS (lv_sub hl [3, 4, 5, 2, 1, 0] rfl)
        · have hf := hf.trans (if_pos c4)
          have hok := hok.1 c4
          refine lv_iload_n hx hb dd_M_make_52 rfl (lv_at hl 3 rfl) ?_
          refine lv_iconst (v := 3) hx hb dd_M_make_53 (by decide) ?_
          refine lv_irem hx hb dd_M_make_54 (by decide) ?_
          refine lv_iconst (v := 3) hx hb dd_M_make_55 (by decide) ?_
          refine lv_iadd hx hb dd_M_make_56 ?_
          refine lv_iconst (v := 3) hx hb dd_M_make_57 (by decide) ?_
          refine lv_irem hx hb dd_M_make_58 (by decide) ?_
          refine lv_goto (tgt := 63) hx hb dd_M_make_59 (by decide) ?_
          refine lv_istore (lv' := [(4, .int (((p1 - p1 / 3 * 3) + 3) - ((p1 - p1 / 3 * 3) + 3) / 3 * 3)), (3, .int 1), (0, .ref h), (1, .int p0), (2, .int p1)]) hx hb dd_M_make_63 hl (by decide) rfl (fun ls hl => ?_)
          refine lv_iconst (v := 0) hx hb dd_M_make_65 (by decide) ?_
          refine lv_istore (lv' := [(5, .int 0), (4, .int (((p1 - p1 / 3 * 3) + 3) - ((p1 - p1 / 3 * 3) + 3) / 3 * 3)), (3, .int 1), (0, .ref h), (1, .int p0), (2, .int p1)]) hx hb dd_M_make_66 hl (by decide) rfl (fun ls hl => ?_)
          have loop_68 : ∀ (n : Nat) (u : SM) (H : Heap) (locs : List Loc) (x1 : Int32) (x2 : Int32) (x3 : Int32) (x4 : Int32) (x5 : Int32) (ls : Array Slot), okl_M_make_68 n u x1 x2 x3 x4 x5 → ff_M_make u0 p0 p1 = fl_M_make_68 n u x1 x2 x3 x4 x5 → va_P (dC, dI) cls_l (wM h a k u) H → va_D (aM h a) (wM h a k u) → va_S (aM h a) s.heap H locs → lv_has ls 6 [(0, .ref h), (1, .int x1), (2, .int x2), (3, .int x3), (4, .int x4), (5, .int x5)] → W p l e (headSpec ws_M_make rm_M_make).room s m ([.ref h, .int p0, .int p1] : List Value).toArray below meth c H locs 0 0 (MQ below (va_Qi (fun (r : Int32) (v : SM) => (r, v) = ff_M_make u0 p0 p1) (pM dC dI h a k) (aM h a)) ([.ref h, .int p0, .int p1] : List Value).toArray s 0 0 (aM h a)) (F0 m 68 ls []) := by
            intro n
            induction n with
            | zero => intro u H locs x1 x2 x3 x4 x5 ls hok; exact (show False from hok).elim
            | succ n ih =>
              intro u H locs x1 x2 x3 x4 x5 ls hok hf hP hD hS hl
              rw [fl_M_make_68] at hf
              rw [okl_M_make_68] at hok
              refine lv_iload hx hb dd_M_make_68 (lv_at hl 5 rfl) ?_
              refine lv_aload_n hx hb dd_M_make_70 rfl (lv_at hl 0 rfl) ?_
              refine va_get (D := (dC, dI)) (ci := 0) (v := .int (m_objs u)) (C := "ClassObjectMirrorModel") (T := TM) (N := 12) hx hb hts inM hown hK hP 0 rfl rfl 9 (by decide) (hts _ gw_310) (fun _ h9 => h9) rfl dd_M_make_71 ?_
              refine lv_icmp_ge (tgt := 116) hx hb dd_M_make_74 (by decide) (fun c15 => ?_) (fun c15 => ?_)
              · have hf := hf.trans (if_pos c15)
                have hok := hok.1 c15
                refine lv_aload_n hx hb dd_M_make_116 rfl (lv_at hl 0 rfl) ?_
                refine va_get (D := (dC, dI)) (ci := 0) (v := .int (m_objs u)) (C := "ClassObjectMirrorModel") (T := TM) (N := 12) hx hb hts inM hown hK hP 0 rfl rfl 9 (by decide) (hts _ gw_310) (fun _ h9 => h9) rfl dd_M_make_117 ?_
                refine lv_bipush (v := 80) hx hb dd_M_make_120 (by decide) ?_
                refine lv_icmp_ne (tgt := 130) hx hb dd_M_make_122 (by decide) (fun c16 => ?_) (fun c16 => ?_)
                · have hf := hf.trans (if_neg c16)
                  have hok := hok.2 c16
                  refine lv_aload_n hx hb dd_M_make_130 rfl (lv_at hl 0 rfl) ?_
                  refine lv_iload_n hx hb dd_M_make_131 rfl (lv_at hl 1 rfl) ?_
                  refine lv_iconst (v := (-1)) hx hb dd_M_make_132 (by decide) ?_
                  refine lv_iload hx hb dd_M_make_133 (lv_at hl 4 rfl) ?_
                  have n17 := hok
                  refine va_calli (va_runV (As := [.int x1, .int (-1), .int x4]) (rest := []) ⟨hx, hb, hml, hown, hts⟩ (mm_M_create l dC dI h a k u x1 ((-1) : Int32) x4 n17) (cwV 3 hts (gg_V gw_447 gw_449 gs_28 gw_2 gw_450) rfl rfl rfl (by decide +kernel) ⟨Nat.le_of_ble_eq_true rfl, Nat.le_of_ble_eq_true rfl⟩) ⟨pM_bl, va_recv hK hP (ci := 0) (q0 := 0) rfl rfl, fun U hU hW => ⟨rfl, pM_up hP hK hD hU hW⟩⟩ rfl rfl hl.1 rfl (lv_room (Nat.le_of_ble_eq_true rfl)) dd_M_make_135 ⟨Nat.zero_le _, Nat.zero_le _⟩) hS (fun q _ h => h) (fun q h => h) (fun r9 v9 t9 H locs ht9 hvm9 hw9 hB9 hz9 hk9 hS => ?_)
                  obtain ⟨rfl, rfl⟩ : r9 = (ff_M_create u x1 ((-1) : Int32) x4).1 ∧ v9 = (ff_M_create u x1 ((-1) : Int32) x4).2 := by rw [← hw9]; exact ⟨rfl, rfl⟩
                  obtain ⟨hP, -, hD⟩ := hB9
                  rw [ht9] at hP
                  exact W.iret (v := ((ff_M_create u x1 ((-1) : Int32) x4).1)) hx hb hr (fun t ht hW => ⟨⟨((ff_M_create u x1 ((-1) : Int32) x4).1), (ff_M_create u x1 ((-1) : Int32) x4).2, rfl, hf.symm, pM_up hP hK hD ht hW⟩, hS.F ht⟩) hS.2.2 dd_M_make_138
                · have hf := hf.trans (if_pos c16)
                  have hok := hok.1 c16
                  refine lv_bipush (v := (-8)) hx hb dd_M_make_125 (by decide) ?_
                  refine lv_goto (tgt := 138) hx hb dd_M_make_127 (by decide) ?_
                  exact W.iret (v := ((-8) : Int32)) hx hb hr (fun t ht hW => ⟨⟨((-8) : Int32), u, rfl, hf.symm, pM_up hP hK hD ht hW⟩, hS.F ht⟩) hS.2.2 dd_M_make_138
              · have hf := hf.trans (if_neg c15)
                have hok := hok.2 c15
                refine lv_iload_n hx hb dd_M_make_77 rfl (lv_at hl 1 rfl) ?_
                refine lv_bipush (v := 19) hx hb dd_M_make_78 (by decide) ?_
                refine lv_icmp_ne (tgt := 116) hx hb dd_M_make_80 (by decide) (fun c18 => ?_) (fun c18 => ?_)
                · have hf := hf.trans (if_neg c18)
                  have hok := hok.2 c18
                  refine lv_aload_n hx hb dd_M_make_116 rfl (lv_at hl 0 rfl) ?_
                  refine va_get (D := (dC, dI)) (ci := 0) (v := .int (m_objs u)) (C := "ClassObjectMirrorModel") (T := TM) (N := 12) hx hb hts inM hown hK hP 0 rfl rfl 9 (by decide) (hts _ gw_310) (fun _ h9 => h9) rfl dd_M_make_117 ?_
                  refine lv_bipush (v := 80) hx hb dd_M_make_120 (by decide) ?_
                  refine lv_icmp_ne (tgt := 130) hx hb dd_M_make_122 (by decide) (fun c19 => ?_) (fun c19 => ?_)
                  · have hf := hf.trans (if_neg c19)
                    have hok := hok.2 c19
                    refine lv_aload_n hx hb dd_M_make_130 rfl (lv_at hl 0 rfl) ?_
                    refine lv_iload_n hx hb dd_M_make_131 rfl (lv_at hl 1 rfl) ?_
                    refine lv_iconst (v := (-1)) hx hb dd_M_make_132 (by decide) ?_
                    refine lv_iload hx hb dd_M_make_133 (lv_at hl 4 rfl) ?_
                    have n20 := hok
                    refine va_calli (va_runV (As := [.int x1, .int (-1), .int x4]) (rest := []) ⟨hx, hb, hml, hown, hts⟩ (mm_M_create l dC dI h a k u x1 ((-1) : Int32) x4 n20) (cwV 3 hts (gg_V gw_447 gw_449 gs_28 gw_2 gw_450) rfl rfl rfl (by decide +kernel) ⟨Nat.le_of_ble_eq_true rfl, Nat.le_of_ble_eq_true rfl⟩) ⟨pM_bl, va_recv hK hP (ci := 0) (q0 := 0) rfl rfl, fun U hU hW => ⟨rfl, pM_up hP hK hD hU hW⟩⟩ rfl rfl hl.1 rfl (lv_room (Nat.le_of_ble_eq_true rfl)) dd_M_make_135 ⟨Nat.zero_le _, Nat.zero_le _⟩) hS (fun q _ h => h) (fun q h => h) (fun r9 v9 t9 H locs ht9 hvm9 hw9 hB9 hz9 hk9 hS => ?_)
                    obtain ⟨rfl, rfl⟩ : r9 = (ff_M_create u x1 ((-1) : Int32) x4).1 ∧ v9 = (ff_M_create u x1 ((-1) : Int32) x4).2 := by rw [← hw9]; exact ⟨rfl, rfl⟩
                    obtain ⟨hP, -, hD⟩ := hB9
                    rw [ht9] at hP
                    exact W.iret (v := ((ff_M_create u x1 ((-1) : Int32) x4).1)) hx hb hr (fun t ht hW => ⟨⟨((ff_M_create u x1 ((-1) : Int32) x4).1), (ff_M_create u x1 ((-1) : Int32) x4).2, rfl, hf.symm, pM_up hP hK hD ht hW⟩, hS.F ht⟩) hS.2.2 dd_M_make_138
                  · have hf := hf.trans (if_pos c19)
                    have hok := hok.1 c19
                    refine lv_bipush (v := (-8)) hx hb dd_M_make_125 (by decide) ?_
                    refine lv_goto (tgt := 138) hx hb dd_M_make_127 (by decide) ?_
                    exact W.iret (v := ((-8) : Int32)) hx hb hr (fun t ht hW => ⟨⟨((-8) : Int32), u, rfl, hf.symm, pM_up hP hK hD ht hW⟩, hS.F ht⟩) hS.2.2 dd_M_make_138
                · have hf := hf.trans (if_pos c18)
                  have hok := hok.1 c18
                  refine lv_aload_n hx hb dd_M_make_83 rfl (lv_at hl 0 rfl) ?_
                  refine va_get (D := (dC, dI)) (ci := 0) (v := .ref (a 4)) (C := "ClassObjectMirrorModel") (T := TM) (N := 12) hx hb hts inM hown hK hP 0 rfl rfl 5 (by decide) (hts _ gw_306) (fun _ h9 => h9) rfl dd_M_make_84 ?_
                  refine lv_iload hx hb dd_M_make_87 (lv_at hl 5 rfl) ?_
                  obtain ⟨n21, hok⟩ := hok
                  refine va_iald hx hb hK hP 5 4 rfl rfl n21 dd_M_make_89 ?_
                  refine lv_bipush (v := 19) hx hb dd_M_make_90 (by decide) ?_
                  refine lv_icmp_ne (tgt := 110) hx hb dd_M_make_92 (by decide) (fun c22 => ?_) (fun c22 => ?_)
                  · have hf := hf.trans (if_neg c22)
                    have hok := hok.2 c22
                    refine lv_iinc (v := x5 + 1) (lv' := [(5, .int (x5 + 1)), (0, .ref h), (1, .int x1), (2, .int x2), (3, .int x3), (4, .int x4)]) hx hb dd_M_make_110 hl (k := 5) rfl rfl (by decide) rfl (fun ls hl => ?_)
                    refine lv_goto (tgt := 68) hx hb dd_M_make_113 (by decide) ?_
                    exact ih u _ _ x1 x2 x3 x4 (x5 + 1) ls hok hf hP hD hS (lv_sub hl [1, 2, 3, 4, 5, 0] rfl)
                  · have hf := hf.trans (if_pos c22)
                    have hok := hok.1 c22
                    refine lv_aload_n hx hb dd_M_make_95 rfl (lv_at hl 0 rfl) ?_
                    refine va_get (D := (dC, dI)) (ci := 0) (v := .ref (a 6)) (C := "ClassObjectMirrorModel") (T := TM) (N := 12) hx hb hts inM hown hK hP 0 rfl rfl 7 (by decide) (hts _ gw_308) (fun _ h9 => h9) rfl dd_M_make_96 ?_
                    refine lv_iload hx hb dd_M_make_99 (lv_at hl 5 rfl) ?_
                    obtain ⟨n23, hok⟩ := hok
                    refine va_iald hx hb hK hP 7 6 rfl rfl n23 dd_M_make_101 ?_
                    refine lv_iload hx hb dd_M_make_102 (lv_at hl 4 rfl) ?_
                    refine lv_icmp_ne (tgt := 110) hx hb dd_M_make_104 (by decide) (fun c24 => ?_) (fun c24 => ?_)
                    · have hf := hf.trans (if_neg c24)
                      have hok := hok.2 c24
                      refine lv_iinc (v := x5 + 1) (lv' := [(5, .int (x5 + 1)), (0, .ref h), (1, .int x1), (2, .int x2), (3, .int x3), (4, .int x4)]) hx hb dd_M_make_110 hl (k := 5) rfl rfl (by decide) rfl (fun ls hl => ?_)
                      refine lv_goto (tgt := 68) hx hb dd_M_make_113 (by decide) ?_
                      exact ih u _ _ x1 x2 x3 x4 (x5 + 1) ls hok hf hP hD hS (lv_sub hl [1, 2, 3, 4, 5, 0] rfl)
                    · have hf := hf.trans (if_pos c24)
                      have hok := hok.1 c24
                      refine lv_iload hx hb dd_M_make_107 (lv_at hl 5 rfl) ?_
                      exact W.iret (v := x5) hx hb hr (fun t ht hW => ⟨⟨x5, u, rfl, hf.symm, pM_up hP hK hD ht hW⟩, hS.F ht⟩) hS.2.2 dd_M_make_109
          exact loop_68 400 u0 _ _ p0 p1 (1 : Int32) (((p1 - p1 / 3 * 3) + 3) - ((p1 - p1 / 3 * 3) + 3) / 3 * 3) (0 : Int32) ls hok hf hP hD hS (lv_sub hl [3, 4, 5, 2, 1, 0] rfl)
      · have hf := hf.trans (if_pos c3)
        have hok := hok.1 c3
        refine lv_iconst (v := (-1)) hx hb dd_M_make_44 (by decide) ?_
        exact W.iret (v := ((-1) : Int32)) hx hb hr (fun t ht hW => ⟨⟨((-1) : Int32), u0, rfl, hf.symm, pM_up hP hK hD ht hW⟩, hS.F ht⟩) hS.2.2 dd_M_make_45
    · have hf := hf.trans (if_neg c2)
      have hok := hok.2 c2
      refine lv_iload_n hx hb dd_M_make_16 rfl (lv_at hl 1 rfl) ?_
      refine lv_bipush (v := 12) hx hb dd_M_make_17 (by decide) ?_
      refine lv_icmp_eq (tgt := 34) hx hb dd_M_make_19 (by decide) (fun c25 => ?_) (fun c25 => ?_)
      · have hf := hf.trans (if_pos c25)
        have hok := hok.1 c25
        refine lv_iconst (v := 1) hx hb dd_M_make_34 (by decide) ?_
        refine lv_goto (tgt := 39) hx hb dd_M_make_35 (by decide) ?_
        refine lv_istore_n (lv' := [(3, .int 1), (0, .ref h), (1, .int p0), (2, .int p1)]) hx hb dd_M_make_39 rfl hl (by decide) rfl (fun ls hl => ?_)
        refine lv_iload_n hx hb dd_M_make_40 rfl (lv_at hl 0 rfl) ?_
        refine lv_if_ne (tgt := 46) hx hb dd_M_make_41 (by decide) (fun c26 => ?_) (fun c26 => ?_)
        · have hf := hf.trans (if_neg c26)
          have hok := hok.2 c26
          refine lv_iload_n hx hb dd_M_make_46 rfl (lv_at hl 2 rfl) ?_
          refine lv_bipush (v := 19) hx hb dd_M_make_47 (by decide) ?_
          refine lv_icmp_ne (tgt := 62) hx hb dd_M_make_49 (by decide) (fun c27 => ?_) (fun c27 => ?_)
          · have hf := hf.trans (if_neg c27)
            have hok := hok.2 c27
            refine lv_iload_n hx hb dd_M_make_62 rfl (lv_at hl 3 rfl) ?_
            refine lv_istore (lv' := [(4, .int p1), (3, .int 1), (0, .ref h), (1, .int p0), (2, .int p1)]) hx hb dd_M_make_63 hl (by decide) rfl (fun ls hl => ?_)
            refine lv_iconst (v := 0) hx hb dd_M_make_65 (by decide) ?_
            refine lv_istore (lv' := [(5, .int 0), (4, .int p1), (3, .int 1), (0, .ref h), (1, .int p0), (2, .int p1)]) hx hb dd_M_make_66 hl (by decide) rfl (fun ls hl => ?_)
            have loop_68 : ∀ (n : Nat) (u : SM) (H : Heap) (locs : List Loc) (x1 : Int32) (x2 : Int32) (x3 : Int32) (x4 : Int32) (x5 : Int32) (ls : Array Slot), okl_M_make_68 n u x1 x2 x3 x4 x5 → ff_M_make u0 p0 p1 = fl_M_make_68 n u x1 x2 x3 x4 x5 → va_P (dC, dI) cls_l (wM h a k u) H → va_D (aM h a) (wM h a k u) → va_S (aM h a) s.heap H locs → lv_has ls 6 [(0, .ref h), (1, .int x1), (2, .int x2), (3, .int x3), (4, .int x4), (5, .int x5)] → W p l e (headSpec ws_M_make rm_M_make).room s m ([.ref h, .int p0, .int p1] : List Value).toArray below meth c H locs 0 0 (MQ below (va_Qi (fun (r : Int32) (v : SM) => (r, v) = ff_M_make u0 p0 p1) (pM dC dI h a k) (aM h a)) ([.ref h, .int p0, .int p1] : List Value).toArray s 0 0 (aM h a)) (F0 m 68 ls []) := by
              intro n
              induction n with
              | zero => intro u H locs x1 x2 x3 x4 x5 ls hok; exact (show False from hok).elim
              | succ n ih =>
                intro u H locs x1 x2 x3 x4 x5 ls hok hf hP hD hS hl
                rw [fl_M_make_68] at hf
                rw [okl_M_make_68] at hok
                refine lv_iload hx hb dd_M_make_68 (lv_at hl 5 rfl) ?_
                refine lv_aload_n hx hb dd_M_make_70 rfl (lv_at hl 0 rfl) ?_
                refine va_get (D := (dC, dI)) (ci := 0) (v := .int (m_objs u)) (C := "ClassObjectMirrorModel") (T := TM) (N := 12) hx hb hts inM hown hK hP 0 rfl rfl 9 (by decide) (hts _ gw_310) (fun _ h9 => h9) rfl dd_M_make_71 ?_
                refine lv_icmp_ge (tgt := 116) hx hb dd_M_make_74 (by decide) (fun c28 => ?_) (fun c28 => ?_)
                · have hf := hf.trans (if_pos c28)
                  have hok := hok.1 c28
                  refine lv_aload_n hx hb dd_M_make_116 rfl (lv_at hl 0 rfl) ?_
                  refine va_get (D := (dC, dI)) (ci := 0) (v := .int (m_objs u)) (C := "ClassObjectMirrorModel") (T := TM) (N := 12) hx hb hts inM hown hK hP 0 rfl rfl 9 (by decide) (hts _ gw_310) (fun _ h9 => h9) rfl dd_M_make_117 ?_
                  refine lv_bipush (v := 80) hx hb dd_M_make_120 (by decide) ?_
                  refine lv_icmp_ne (tgt := 130) hx hb dd_M_make_122 (by decide) (fun c29 => ?_) (fun c29 => ?_)
                  · have hf := hf.trans (if_neg c29)
                    have hok := hok.2 c29
                    refine lv_aload_n hx hb dd_M_make_130 rfl (lv_at hl 0 rfl) ?_
                    refine lv_iload_n hx hb dd_M_make_131 rfl (lv_at hl 1 rfl) ?_
                    refine lv_iconst (v := (-1)) hx hb dd_M_make_132 (by decide) ?_
                    refine lv_iload hx hb dd_M_make_133 (lv_at hl 4 rfl) ?_
                    have n30 := hok
                    refine va_calli (va_runV (As := [.int x1, .int (-1), .int x4]) (rest := []) ⟨hx, hb, hml, hown, hts⟩ (mm_M_create l dC dI h a k u x1 ((-1) : Int32) x4 n30) (cwV 3 hts (gg_V gw_447 gw_449 gs_28 gw_2 gw_450) rfl rfl rfl (by decide +kernel) ⟨Nat.le_of_ble_eq_true rfl, Nat.le_of_ble_eq_true rfl⟩) ⟨pM_bl, va_recv hK hP (ci := 0) (q0 := 0) rfl rfl, fun U hU hW => ⟨rfl, pM_up hP hK hD hU hW⟩⟩ rfl rfl hl.1 rfl (lv_room (Nat.le_of_ble_eq_true rfl)) dd_M_make_135 ⟨Nat.zero_le _, Nat.zero_le _⟩) hS (fun q _ h => h) (fun q h => h) (fun r9 v9 t9 H locs ht9 hvm9 hw9 hB9 hz9 hk9 hS => ?_)
                    obtain ⟨rfl, rfl⟩ : r9 = (ff_M_create u x1 ((-1) : Int32) x4).1 ∧ v9 = (ff_M_create u x1 ((-1) : Int32) x4).2 := by rw [← hw9]; exact ⟨rfl, rfl⟩
                    obtain ⟨hP, -, hD⟩ := hB9
                    rw [ht9] at hP
                    exact W.iret (v := ((ff_M_create u x1 ((-1) : Int32) x4).1)) hx hb hr (fun t ht hW => ⟨⟨((ff_M_create u x1 ((-1) : Int32) x4).1), (ff_M_create u x1 ((-1) : Int32) x4).2, rfl, hf.symm, pM_up hP hK hD ht hW⟩, hS.F ht⟩) hS.2.2 dd_M_make_138
                  · have hf := hf.trans (if_pos c29)
                    have hok := hok.1 c29
                    refine lv_bipush (v := (-8)) hx hb dd_M_make_125 (by decide) ?_
                    refine lv_goto (tgt := 138) hx hb dd_M_make_127 (by decide) ?_
                    exact W.iret (v := ((-8) : Int32)) hx hb hr (fun t ht hW => ⟨⟨((-8) : Int32), u, rfl, hf.symm, pM_up hP hK hD ht hW⟩, hS.F ht⟩) hS.2.2 dd_M_make_138
                · have hf := hf.trans (if_neg c28)
                  have hok := hok.2 c28
                  refine lv_iload_n hx hb dd_M_make_77 rfl (lv_at hl 1 rfl) ?_
                  refine lv_bipush (v := 19) hx hb dd_M_make_78 (by decide) ?_
                  refine lv_icmp_ne (tgt := 116) hx hb dd_M_make_80 (by decide) (fun c31 => ?_) (fun c31 => ?_)
                  · have hf := hf.trans (if_neg c31)
                    have hok := hok.2 c31
                    refine lv_aload_n hx hb dd_M_make_116 rfl (lv_at hl 0 rfl) ?_
                    refine va_get (D := (dC, dI)) (ci := 0) (v := .int (m_objs u)) (C := "ClassObjectMirrorModel") (T := TM) (N := 12) hx hb hts inM hown hK hP 0 rfl rfl 9 (by decide) (hts _ gw_310) (fun _ h9 => h9) rfl dd_M_make_117 ?_
                    refine lv_bipush (v := 80) hx hb dd_M_make_120 (by decide) ?_
                    refine lv_icmp_ne (tgt := 130) hx hb dd_M_make_122 (by decide) (fun c32 => ?_) (fun c32 => ?_)
                    · have hf := hf.trans (if_neg c32)
                      have hok := hok.2 c32
                      refine lv_aload_n hx hb dd_M_make_130 rfl (lv_at hl 0 rfl) ?_
                      refine lv_iload_n hx hb dd_M_make_131 rfl (lv_at hl 1 rfl) ?_
                      refine lv_iconst (v := (-1)) hx hb dd_M_make_132 (by decide) ?_
                      refine lv_iload hx hb dd_M_make_133 (lv_at hl 4 rfl) ?_
                      have n33 := hok
                      refine va_calli (va_runV (As := [.int x1, .int (-1), .int x4]) (rest := []) ⟨hx, hb, hml, hown, hts⟩ (mm_M_create l dC dI h a k u x1 ((-1) : Int32) x4 n33) (cwV 3 hts (gg_V gw_447 gw_449 gs_28 gw_2 gw_450) rfl rfl rfl (by decide +kernel) ⟨Nat.le_of_ble_eq_true rfl, Nat.le_of_ble_eq_true rfl⟩) ⟨pM_bl, va_recv hK hP (ci := 0) (q0 := 0) rfl rfl, fun U hU hW => ⟨rfl, pM_up hP hK hD hU hW⟩⟩ rfl rfl hl.1 rfl (lv_room (Nat.le_of_ble_eq_true rfl)) dd_M_make_135 ⟨Nat.zero_le _, Nat.zero_le _⟩) hS (fun q _ h => h) (fun q h => h) (fun r9 v9 t9 H locs ht9 hvm9 hw9 hB9 hz9 hk9 hS => ?_)
                      obtain ⟨rfl, rfl⟩ : r9 = (ff_M_create u x1 ((-1) : Int32) x4).1 ∧ v9 = (ff_M_create u x1 ((-1) : Int32) x4).2 := by rw [← hw9]; exact ⟨rfl, rfl⟩
                      obtain ⟨hP, -, hD⟩ := hB9
                      rw [ht9] at hP
                      exact W.iret (v := ((ff_M_create u x1 ((-1) : Int32) x4).1)) hx hb hr (fun t ht hW => ⟨⟨((ff_M_create u x1 ((-1) : Int32) x4).1), (ff_M_create u x1 ((-1) : Int32) x4).2, rfl, hf.symm, pM_up hP hK hD ht hW⟩, hS.F ht⟩) hS.2.2 dd_M_make_138
                    · have hf := hf.trans (if_pos c32)
                      have hok := hok.1 c32
                      refine lv_bipush (v := (-8)) hx hb dd_M_make_125 (by decide) ?_
                      refine lv_goto (tgt := 138) hx hb dd_M_make_127 (by decide) ?_
                      exact W.iret (v := ((-8) : Int32)) hx hb hr (fun t ht hW => ⟨⟨((-8) : Int32), u, rfl, hf.symm, pM_up hP hK hD ht hW⟩, hS.F ht⟩) hS.2.2 dd_M_make_138
                  · have hf := hf.trans (if_pos c31)
                    have hok := hok.1 c31
                    refine lv_aload_n hx hb dd_M_make_83 rfl (lv_at hl 0 rfl) ?_
                    refine va_get (D := (dC, dI)) (ci := 0) (v := .ref (a 4)) (C := "ClassObjectMirrorModel") (T := TM) (N := 12) hx hb hts inM hown hK hP 0 rfl rfl 5 (by decide) (hts _ gw_306) (fun _ h9 => h9) rfl dd_M_make_84 ?_
                    refine lv_iload hx hb dd_M_make_87 (lv_at hl 5 rfl) ?_
                    obtain ⟨n34, hok⟩ := hok
                    refine va_iald hx hb hK hP 5 4 rfl rfl n34 dd_M_make_89 ?_
                    refine lv_bipush (v := 19) hx hb dd_M_make_90 (by decide) ?_
                    refine lv_icmp_ne (tgt := 110) hx hb dd_M_make_92 (by decide) (fun c35 => ?_) (fun c35 => ?_)
                    · have hf := hf.trans (if_neg c35)
                      have hok := hok.2 c35
                      refine lv_iinc (v := x5 + 1) (lv' := [(5, .int (x5 + 1)), (0, .ref h), (1, .int x1), (2, .int x2), (3, .int x3), (4, .int x4)]) hx hb dd_M_make_110 hl (k := 5) rfl rfl (by decide) rfl (fun ls hl => ?_)
                      refine lv_goto (tgt := 68) hx hb dd_M_make_113 (by decide) ?_
                      exact ih u _ _ x1 x2 x3 x4 (x5 + 1) ls hok hf hP hD hS (lv_sub hl [1, 2, 3, 4, 5, 0] rfl)
                    · have hf := hf.trans (if_pos c35)
                      have hok := hok.1 c35
                      refine lv_aload_n hx hb dd_M_make_95 rfl (lv_at hl 0 rfl) ?_
                      refine va_get (D := (dC, dI)) (ci := 0) (v := .ref (a 6)) (C := "ClassObjectMirrorModel") (T := TM) (N := 12) hx hb hts inM hown hK hP 0 rfl rfl 7 (by decide) (hts _ gw_308) (fun _ h9 => h9) rfl dd_M_make_96 ?_
                      refine lv_iload hx hb dd_M_make_99 (lv_at hl 5 rfl) ?_
                      obtain ⟨n36, hok⟩ := hok
                      refine va_iald hx hb hK hP 7 6 rfl rfl n36 dd_M_make_101 ?_
                      refine lv_iload hx hb dd_M_make_102 (lv_at hl 4 rfl) ?_
                      refine lv_icmp_ne (tgt := 110) hx hb dd_M_make_104 (by decide) (fun c37 => ?_) (fun c37 => ?_)
                      · have hf := hf.trans (if_neg c37)
                        have hok := hok.2 c37
                        refine lv_iinc (v := x5 + 1) (lv' := [(5, .int (x5 + 1)), (0, .ref h), (1, .int x1), (2, .int x2), (3, .int x3), (4, .int x4)]) hx hb dd_M_make_110 hl (k := 5) rfl rfl (by decide) rfl (fun ls hl => ?_)
                        refine lv_goto (tgt := 68) hx hb dd_M_make_113 (by decide) ?_
                        exact ih u _ _ x1 x2 x3 x4 (x5 + 1) ls hok hf hP hD hS (lv_sub hl [1, 2, 3, 4, 5, 0] rfl)
                      · have hf := hf.trans (if_pos c37)
                        have hok := hok.1 c37
                        refine lv_iload hx hb dd_M_make_107 (lv_at hl 5 rfl) ?_
                        exact W.iret (v := x5) hx hb hr (fun t ht hW => ⟨⟨x5, u, rfl, hf.symm, pM_up hP hK hD ht hW⟩, hS.F ht⟩) hS.2.2 dd_M_make_109
            exact loop_68 400 u0 _ _ p0 p1 (1 : Int32) p1 (0 : Int32) ls hok hf hP hD hS (lv_sub hl [3, 4, 5, 2, 1, 0] rfl)
          · have hf := hf.trans (if_pos c27)
            have hok := hok.1 c27
            refine lv_iload_n hx hb dd_M_make_52 rfl (lv_at hl 3 rfl) ?_
            refine lv_iconst (v := 3) hx hb dd_M_make_53 (by decide) ?_
            refine lv_irem hx hb dd_M_make_54 (by decide) ?_
            refine lv_iconst (v := 3) hx hb dd_M_make_55 (by decide) ?_
            refine lv_iadd hx hb dd_M_make_56 ?_
            refine lv_iconst (v := 3) hx hb dd_M_make_57 (by decide) ?_
            refine lv_irem hx hb dd_M_make_58 (by decide) ?_
            refine lv_goto (tgt := 63) hx hb dd_M_make_59 (by decide) ?_
            refine lv_istore (lv' := [(4, .int (((p1 - p1 / 3 * 3) + 3) - ((p1 - p1 / 3 * 3) + 3) / 3 * 3)), (3, .int 1), (0, .ref h), (1, .int p0), (2, .int p1)]) hx hb dd_M_make_63 hl (by decide) rfl (fun ls hl => ?_)
            refine lv_iconst (v := 0) hx hb dd_M_make_65 (by decide) ?_
            refine lv_istore (lv' := [(5, .int 0), (4, .int (((p1 - p1 / 3 * 3) + 3) - ((p1 - p1 / 3 * 3) + 3) / 3 * 3)), (3, .int 1), (0, .ref h), (1, .int p0), (2, .int p1)]) hx hb dd_M_make_66 hl (by decide) rfl (fun ls hl => ?_)
            have loop_68 : ∀ (n : Nat) (u : SM) (H : Heap) (locs : List Loc) (x1 : Int32) (x2 : Int32) (x3 : Int32) (x4 : Int32) (x5 : Int32) (ls : Array Slot), okl_M_make_68 n u x1 x2 x3 x4 x5 → ff_M_make u0 p0 p1 = fl_M_make_68 n u x1 x2 x3 x4 x5 → va_P (dC, dI) cls_l (wM h a k u) H → va_D (aM h a) (wM h a k u) → va_S (aM h a) s.heap H locs → lv_has ls 6 [(0, .ref h), (1, .int x1), (2, .int x2), (3, .int x3), (4, .int x4), (5, .int x5)] → W p l e (headSpec ws_M_make rm_M_make).room s m ([.ref h, .int p0, .int p1] : List Value).toArray below meth c H locs 0 0 (MQ below (va_Qi (fun (r : Int32) (v : SM) => (r, v) = ff_M_make u0 p0 p1) (pM dC dI h a k) (aM h a)) ([.ref h, .int p0, .int p1] : List Value).toArray s 0 0 (aM h a)) (F0 m 68 ls []) := by
              intro n
              induction n with
              | zero => intro u H locs x1 x2 x3 x4 x5 ls hok; exact (show False from hok).elim
              | succ n ih =>
                intro u H locs x1 x2 x3 x4 x5 ls hok hf hP hD hS hl
                rw [fl_M_make_68] at hf
                rw [okl_M_make_68] at hok
                refine lv_iload hx hb dd_M_make_68 (lv_at hl 5 rfl) ?_
                refine lv_aload_n hx hb dd_M_make_70 rfl (lv_at hl 0 rfl) ?_
                refine va_get (D := (dC, dI)) (ci := 0) (v := .int (m_objs u)) (C := "ClassObjectMirrorModel") (T := TM) (N := 12) hx hb hts inM hown hK hP 0 rfl rfl 9 (by decide) (hts _ gw_310) (fun _ h9 => h9) rfl dd_M_make_71 ?_
                refine lv_icmp_ge (tgt := 116) hx hb dd_M_make_74 (by decide) (fun c38 => ?_) (fun c38 => ?_)
                · have hf := hf.trans (if_pos c38)
                  have hok := hok.1 c38
                  refine lv_aload_n hx hb dd_M_make_116 rfl (lv_at hl 0 rfl) ?_
                  refine va_get (D := (dC, dI)) (ci := 0) (v := .int (m_objs u)) (C := "ClassObjectMirrorModel") (T := TM) (N := 12) hx hb hts inM hown hK hP 0 rfl rfl 9 (by decide) (hts _ gw_310) (fun _ h9 => h9) rfl dd_M_make_117 ?_
                  refine lv_bipush (v := 80) hx hb dd_M_make_120 (by decide) ?_
                  refine lv_icmp_ne (tgt := 130) hx hb dd_M_make_122 (by decide) (fun c39 => ?_) (fun c39 => ?_)
                  · have hf := hf.trans (if_neg c39)
                    have hok := hok.2 c39
                    refine lv_aload_n hx hb dd_M_make_130 rfl (lv_at hl 0 rfl) ?_
                    refine lv_iload_n hx hb dd_M_make_131 rfl (lv_at hl 1 rfl) ?_
                    refine lv_iconst (v := (-1)) hx hb dd_M_make_132 (by decide) ?_
                    refine lv_iload hx hb dd_M_make_133 (lv_at hl 4 rfl) ?_
                    have n40 := hok
                    refine va_calli (va_runV (As := [.int x1, .int (-1), .int x4]) (rest := []) ⟨hx, hb, hml, hown, hts⟩ (mm_M_create l dC dI h a k u x1 ((-1) : Int32) x4 n40) (cwV 3 hts (gg_V gw_447 gw_449 gs_28 gw_2 gw_450) rfl rfl rfl (by decide +kernel) ⟨Nat.le_of_ble_eq_true rfl, Nat.le_of_ble_eq_true rfl⟩) ⟨pM_bl, va_recv hK hP (ci := 0) (q0 := 0) rfl rfl, fun U hU hW => ⟨rfl, pM_up hP hK hD hU hW⟩⟩ rfl rfl hl.1 rfl (lv_room (Nat.le_of_ble_eq_true rfl)) dd_M_make_135 ⟨Nat.zero_le _, Nat.zero_le _⟩) hS (fun q _ h => h) (fun q h => h) (fun r9 v9 t9 H locs ht9 hvm9 hw9 hB9 hz9 hk9 hS => ?_)
                    obtain ⟨rfl, rfl⟩ : r9 = (ff_M_create u x1 ((-1) : Int32) x4).1 ∧ v9 = (ff_M_create u x1 ((-1) : Int32) x4).2 := by rw [← hw9]; exact ⟨rfl, rfl⟩
                    obtain ⟨hP, -, hD⟩ := hB9
                    rw [ht9] at hP
                    exact W.iret (v := ((ff_M_create u x1 ((-1) : Int32) x4).1)) hx hb hr (fun t ht hW => ⟨⟨((ff_M_create u x1 ((-1) : Int32) x4).1), (ff_M_create u x1 ((-1) : Int32) x4).2, rfl, hf.symm, pM_up hP hK hD ht hW⟩, hS.F ht⟩) hS.2.2 dd_M_make_138
                  · have hf := hf.trans (if_pos c39)
                    have hok := hok.1 c39
                    refine lv_bipush (v := (-8)) hx hb dd_M_make_125 (by decide) ?_
                    refine lv_goto (tgt := 138) hx hb dd_M_make_127 (by decide) ?_
                    exact W.iret (v := ((-8) : Int32)) hx hb hr (fun t ht hW => ⟨⟨((-8) : Int32), u, rfl, hf.symm, pM_up hP hK hD ht hW⟩, hS.F ht⟩) hS.2.2 dd_M_make_138
                · have hf := hf.trans (if_neg c38)
                  have hok := hok.2 c38
                  refine lv_iload_n hx hb dd_M_make_77 rfl (lv_at hl 1 rfl) ?_
                  refine lv_bipush (v := 19) hx hb dd_M_make_78 (by decide) ?_
                  refine lv_icmp_ne (tgt := 116) hx hb dd_M_make_80 (by decide) (fun c41 => ?_) (fun c41 => ?_)
                  · have hf := hf.trans (if_neg c41)
                    have hok := hok.2 c41
                    refine lv_aload_n hx hb dd_M_make_116 rfl (lv_at hl 0 rfl) ?_
                    refine va_get (D := (dC, dI)) (ci := 0) (v := .int (m_objs u)) (C := "ClassObjectMirrorModel") (T := TM) (N := 12) hx hb hts inM hown hK hP 0 rfl rfl 9 (by decide) (hts _ gw_310) (fun _ h9 => h9) rfl dd_M_make_117 ?_
                    refine lv_bipush (v := 80) hx hb dd_M_make_120 (by decide) ?_
                    refine lv_icmp_ne (tgt := 130) hx hb dd_M_make_122 (by decide) (fun c42 => ?_) (fun c42 => ?_)
                    · have hf := hf.trans (if_neg c42)
                      have hok := hok.2 c42
                      refine lv_aload_n hx hb dd_M_make_130 rfl (lv_at hl 0 rfl) ?_
                      refine lv_iload_n hx hb dd_M_make_131 rfl (lv_at hl 1 rfl) ?_
                      refine lv_iconst (v := (-1)) hx hb dd_M_make_132 (by decide) ?_
                      refine lv_iload hx hb dd_M_make_133 (lv_at hl 4 rfl) ?_
                      have n43 := hok
                      refine va_calli (va_runV (As := [.int x1, .int (-1), .int x4]) (rest := []) ⟨hx, hb, hml, hown, hts⟩ (mm_M_create l dC dI h a k u x1 ((-1) : Int32) x4 n43) (cwV 3 hts (gg_V gw_447 gw_449 gs_28 gw_2 gw_450) rfl rfl rfl (by decide +kernel) ⟨Nat.le_of_ble_eq_true rfl, Nat.le_of_ble_eq_true rfl⟩) ⟨pM_bl, va_recv hK hP (ci := 0) (q0 := 0) rfl rfl, fun U hU hW => ⟨rfl, pM_up hP hK hD hU hW⟩⟩ rfl rfl hl.1 rfl (lv_room (Nat.le_of_ble_eq_true rfl)) dd_M_make_135 ⟨Nat.zero_le _, Nat.zero_le _⟩) hS (fun q _ h => h) (fun q h => h) (fun r9 v9 t9 H locs ht9 hvm9 hw9 hB9 hz9 hk9 hS => ?_)
                      obtain ⟨rfl, rfl⟩ : r9 = (ff_M_create u x1 ((-1) : Int32) x4).1 ∧ v9 = (ff_M_create u x1 ((-1) : Int32) x4).2 := by rw [← hw9]; exact ⟨rfl, rfl⟩
                      obtain ⟨hP, -, hD⟩ := hB9
                      rw [ht9] at hP
                      exact W.iret (v := ((ff_M_create u x1 ((-1) : Int32) x4).1)) hx hb hr (fun t ht hW => ⟨⟨((ff_M_create u x1 ((-1) : Int32) x4).1), (ff_M_create u x1 ((-1) : Int32) x4).2, rfl, hf.symm, pM_up hP hK hD ht hW⟩, hS.F ht⟩) hS.2.2 dd_M_make_138
                    · have hf := hf.trans (if_pos c42)
                      have hok := hok.1 c42
                      refine lv_bipush (v := (-8)) hx hb dd_M_make_125 (by decide) ?_
                      refine lv_goto (tgt := 138) hx hb dd_M_make_127 (by decide) ?_
                      exact W.iret (v := ((-8) : Int32)) hx hb hr (fun t ht hW => ⟨⟨((-8) : Int32), u, rfl, hf.symm, pM_up hP hK hD ht hW⟩, hS.F ht⟩) hS.2.2 dd_M_make_138
                  · have hf := hf.trans (if_pos c41)
                    have hok := hok.1 c41
                    refine lv_aload_n hx hb dd_M_make_83 rfl (lv_at hl 0 rfl) ?_
                    refine va_get (D := (dC, dI)) (ci := 0) (v := .ref (a 4)) (C := "ClassObjectMirrorModel") (T := TM) (N := 12) hx hb hts inM hown hK hP 0 rfl rfl 5 (by decide) (hts _ gw_306) (fun _ h9 => h9) rfl dd_M_make_84 ?_
                    refine lv_iload hx hb dd_M_make_87 (lv_at hl 5 rfl) ?_
                    obtain ⟨n44, hok⟩ := hok
                    refine va_iald hx hb hK hP 5 4 rfl rfl n44 dd_M_make_89 ?_
                    refine lv_bipush (v := 19) hx hb dd_M_make_90 (by decide) ?_
                    refine lv_icmp_ne (tgt := 110) hx hb dd_M_make_92 (by decide) (fun c45 => ?_) (fun c45 => ?_)
                    · have hf := hf.trans (if_neg c45)
                      have hok := hok.2 c45
                      refine lv_iinc (v := x5 + 1) (lv' := [(5, .int (x5 + 1)), (0, .ref h), (1, .int x1), (2, .int x2), (3, .int x3), (4, .int x4)]) hx hb dd_M_make_110 hl (k := 5) rfl rfl (by decide) rfl (fun ls hl => ?_)
                      refine lv_goto (tgt := 68) hx hb dd_M_make_113 (by decide) ?_
                      exact ih u _ _ x1 x2 x3 x4 (x5 + 1) ls hok hf hP hD hS (lv_sub hl [1, 2, 3, 4, 5, 0] rfl)
                    · have hf := hf.trans (if_pos c45)
                      have hok := hok.1 c45
                      refine lv_aload_n hx hb dd_M_make_95 rfl (lv_at hl 0 rfl) ?_
                      refine va_get (D := (dC, dI)) (ci := 0) (v := .ref (a 6)) (C := "ClassObjectMirrorModel") (T := TM) (N := 12) hx hb hts inM hown hK hP 0 rfl rfl 7 (by decide) (hts _ gw_308) (fun _ h9 => h9) rfl dd_M_make_96 ?_
                      refine lv_iload hx hb dd_M_make_99 (lv_at hl 5 rfl) ?_
                      obtain ⟨n46, hok⟩ := hok
                      refine va_iald hx hb hK hP 7 6 rfl rfl n46 dd_M_make_101 ?_
                      refine lv_iload hx hb dd_M_make_102 (lv_at hl 4 rfl) ?_
                      refine lv_icmp_ne (tgt := 110) hx hb dd_M_make_104 (by decide) (fun c47 => ?_) (fun c47 => ?_)
                      · have hf := hf.trans (if_neg c47)
                        have hok := hok.2 c47
                        refine lv_iinc (v := x5 + 1) (lv' := [(5, .int (x5 + 1)), (0, .ref h), (1, .int x1), (2, .int x2), (3, .int x3), (4, .int x4)]) hx hb dd_M_make_110 hl (k := 5) rfl rfl (by decide) rfl (fun ls hl => ?_)
                        refine lv_goto (tgt := 68) hx hb dd_M_make_113 (by decide) ?_
                        exact ih u _ _ x1 x2 x3 x4 (x5 + 1) ls hok hf hP hD hS (lv_sub hl [1, 2, 3, 4, 5, 0] rfl)
                      · have hf := hf.trans (if_pos c47)
                        have hok := hok.1 c47
                        refine lv_iload hx hb dd_M_make_107 (lv_at hl 5 rfl) ?_
                        exact W.iret (v := x5) hx hb hr (fun t ht hW => ⟨⟨x5, u, rfl, hf.symm, pM_up hP hK hD ht hW⟩, hS.F ht⟩) hS.2.2 dd_M_make_109
            exact loop_68 400 u0 _ _ p0 p1 (1 : Int32) (((p1 - p1 / 3 * 3) + 3) - ((p1 - p1 / 3 * 3) + 3) / 3 * 3) (0 : Int32) ls hok hf hP hD hS (lv_sub hl [3, 4, 5, 2, 1, 0] rfl)
        · have hf := hf.trans (if_pos c26)
          have hok := hok.1 c26
          refine lv_iconst (v := (-1)) hx hb dd_M_make_44 (by decide) ?_
          exact W.iret (v := ((-1) : Int32)) hx hb hr (fun t ht hW => ⟨⟨((-1) : Int32), u0, rfl, hf.symm, pM_up hP hK hD ht hW⟩, hS.F ht⟩) hS.2.2 dd_M_make_45
      · have hf := hf.trans (if_neg c25)
        have hok := hok.2 c25
        refine lv_iload_n hx hb dd_M_make_22 rfl (lv_at hl 1 rfl) ?_
        refine lv_bipush (v := 16) hx hb dd_M_make_23 (by decide) ?_
        refine lv_icmp_lt (tgt := 38) hx hb dd_M_make_25 (by decide) (fun c48 => ?_) (fun c48 => ?_)
        · have hf := hf.trans (if_pos c48)
          have hok := hok.1 c48
          refine lv_iconst (v := 0) hx hb dd_M_make_38 (by decide) ?_
          refine lv_istore_n (lv' := [(3, .int 0), (0, .ref h), (1, .int p0), (2, .int p1)]) hx hb dd_M_make_39 rfl hl (by decide) rfl (fun ls hl => ?_)
          refine lv_iload_n hx hb dd_M_make_40 rfl (lv_at hl 0 rfl) ?_
          refine lv_if_ne (tgt := 46) hx hb dd_M_make_41 (by decide) (fun c49 => ?_) (fun c49 => ?_)
          · have hf := hf.trans (if_neg c49)
            have hok := hok.2 c49
            refine lv_iload_n hx hb dd_M_make_46 rfl (lv_at hl 2 rfl) ?_
            refine lv_bipush (v := 19) hx hb dd_M_make_47 (by decide) ?_
            refine lv_icmp_ne (tgt := 62) hx hb dd_M_make_49 (by decide) (fun c50 => ?_) (fun c50 => ?_)
            · have hf := hf.trans (if_neg c50)
              have hok := hok.2 c50
              refine lv_iload_n hx hb dd_M_make_62 rfl (lv_at hl 3 rfl) ?_
              refine lv_istore (lv' := [(4, .int p1), (3, .int 0), (0, .ref h), (1, .int p0), (2, .int p1)]) hx hb dd_M_make_63 hl (by decide) rfl (fun ls hl => ?_)
              refine lv_iconst (v := 0) hx hb dd_M_make_65 (by decide) ?_
              refine lv_istore (lv' := [(5, .int 0), (4, .int p1), (3, .int 0), (0, .ref h), (1, .int p0), (2, .int p1)]) hx hb dd_M_make_66 hl (by decide) rfl (fun ls hl => ?_)
              have loop_68 : ∀ (n : Nat) (u : SM) (H : Heap) (locs : List Loc) (x1 : Int32) (x2 : Int32) (x3 : Int32) (x4 : Int32) (x5 : Int32) (ls : Array Slot), okl_M_make_68 n u x1 x2 x3 x4 x5 → ff_M_make u0 p0 p1 = fl_M_make_68 n u x1 x2 x3 x4 x5 → va_P (dC, dI) cls_l (wM h a k u) H → va_D (aM h a) (wM h a k u) → va_S (aM h a) s.heap H locs → lv_has ls 6 [(0, .ref h), (1, .int x1), (2, .int x2), (3, .int x3), (4, .int x4), (5, .int x5)] → W p l e (headSpec ws_M_make rm_M_make).room s m ([.ref h, .int p0, .int p1] : List Value).toArray below meth c H locs 0 0 (MQ below (va_Qi (fun (r : Int32) (v : SM) => (r, v) = ff_M_make u0 p0 p1) (pM dC dI h a k) (aM h a)) ([.ref h, .int p0, .int p1] : List Value).toArray s 0 0 (aM h a)) (F0 m 68 ls []) := by
                intro n
                induction n with
                | zero => intro u H locs x1 x2 x3 x4 x5 ls hok; exact (show False from hok).elim
                | succ n ih =>
                  intro u H locs x1 x2 x3 x4 x5 ls hok hf hP hD hS hl
                  rw [fl_M_make_68] at hf
                  rw [okl_M_make_68] at hok
                  refine lv_iload hx hb dd_M_make_68 (lv_at hl 5 rfl) ?_
                  refine lv_aload_n hx hb dd_M_make_70 rfl (lv_at hl 0 rfl) ?_
                  refine va_get (D := (dC, dI)) (ci := 0) (v := .int (m_objs u)) (C := "ClassObjectMirrorModel") (T := TM) (N := 12) hx hb hts inM hown hK hP 0 rfl rfl 9 (by decide) (hts _ gw_310) (fun _ h9 => h9) rfl dd_M_make_71 ?_
                  refine lv_icmp_ge (tgt := 116) hx hb dd_M_make_74 (by decide) (fun c51 => ?_) (fun c51 => ?_)
                  · have hf := hf.trans (if_pos c51)
                    have hok := hok.1 c51
                    refine lv_aload_n hx hb dd_M_make_116 rfl (lv_at hl 0 rfl) ?_
                    refine va_get (D := (dC, dI)) (ci := 0) (v := .int (m_objs u)) (C := "ClassObjectMirrorModel") (T := TM) (N := 12) hx hb hts inM hown hK hP 0 rfl rfl 9 (by decide) (hts _ gw_310) (fun _ h9 => h9) rfl dd_M_make_117 ?_
                    refine lv_bipush (v := 80) hx hb dd_M_make_120 (by decide) ?_
                    refine lv_icmp_ne (tgt := 130) hx hb dd_M_make_122 (by decide) (fun c52 => ?_) (fun c52 => ?_)
                    · have hf := hf.trans (if_neg c52)
                      have hok := hok.2 c52
                      refine lv_aload_n hx hb dd_M_make_130 rfl (lv_at hl 0 rfl) ?_
                      refine lv_iload_n hx hb dd_M_make_131 rfl (lv_at hl 1 rfl) ?_
                      refine lv_iconst (v := (-1)) hx hb dd_M_make_132 (by decide) ?_
                      refine lv_iload hx hb dd_M_make_133 (lv_at hl 4 rfl) ?_
                      have n53 := hok
                      refine va_calli (va_runV (As := [.int x1, .int (-1), .int x4]) (rest := []) ⟨hx, hb, hml, hown, hts⟩ (mm_M_create l dC dI h a k u x1 ((-1) : Int32) x4 n53) (cwV 3 hts (gg_V gw_447 gw_449 gs_28 gw_2 gw_450) rfl rfl rfl (by decide +kernel) ⟨Nat.le_of_ble_eq_true rfl, Nat.le_of_ble_eq_true rfl⟩) ⟨pM_bl, va_recv hK hP (ci := 0) (q0 := 0) rfl rfl, fun U hU hW => ⟨rfl, pM_up hP hK hD hU hW⟩⟩ rfl rfl hl.1 rfl (lv_room (Nat.le_of_ble_eq_true rfl)) dd_M_make_135 ⟨Nat.zero_le _, Nat.zero_le _⟩) hS (fun q _ h => h) (fun q h => h) (fun r9 v9 t9 H locs ht9 hvm9 hw9 hB9 hz9 hk9 hS => ?_)
                      obtain ⟨rfl, rfl⟩ : r9 = (ff_M_create u x1 ((-1) : Int32) x4).1 ∧ v9 = (ff_M_create u x1 ((-1) : Int32) x4).2 := by rw [← hw9]; exact ⟨rfl, rfl⟩
                      obtain ⟨hP, -, hD⟩ := hB9
                      rw [ht9] at hP
                      exact W.iret (v := ((ff_M_create u x1 ((-1) : Int32) x4).1)) hx hb hr (fun t ht hW => ⟨⟨((ff_M_create u x1 ((-1) : Int32) x4).1), (ff_M_create u x1 ((-1) : Int32) x4).2, rfl, hf.symm, pM_up hP hK hD ht hW⟩, hS.F ht⟩) hS.2.2 dd_M_make_138
                    · have hf := hf.trans (if_pos c52)
                      have hok := hok.1 c52
                      refine lv_bipush (v := (-8)) hx hb dd_M_make_125 (by decide) ?_
                      refine lv_goto (tgt := 138) hx hb dd_M_make_127 (by decide) ?_
                      exact W.iret (v := ((-8) : Int32)) hx hb hr (fun t ht hW => ⟨⟨((-8) : Int32), u, rfl, hf.symm, pM_up hP hK hD ht hW⟩, hS.F ht⟩) hS.2.2 dd_M_make_138
                  · have hf := hf.trans (if_neg c51)
                    have hok := hok.2 c51
                    refine lv_iload_n hx hb dd_M_make_77 rfl (lv_at hl 1 rfl) ?_
                    refine lv_bipush (v := 19) hx hb dd_M_make_78 (by decide) ?_
                    refine lv_icmp_ne (tgt := 116) hx hb dd_M_make_80 (by decide) (fun c54 => ?_) (fun c54 => ?_)
                    · have hf := hf.trans (if_neg c54)
                      have hok := hok.2 c54
                      refine lv_aload_n hx hb dd_M_make_116 rfl (lv_at hl 0 rfl) ?_
                      refine va_get (D := (dC, dI)) (ci := 0) (v := .int (m_objs u)) (C := "ClassObjectMirrorModel") (T := TM) (N := 12) hx hb hts inM hown hK hP 0 rfl rfl 9 (by decide) (hts _ gw_310) (fun _ h9 => h9) rfl dd_M_make_117 ?_
                      refine lv_bipush (v := 80) hx hb dd_M_make_120 (by decide) ?_
                      refine lv_icmp_ne (tgt := 130) hx hb dd_M_make_122 (by decide) (fun c55 => ?_) (fun c55 => ?_)
                      · have hf := hf.trans (if_neg c55)
                        have hok := hok.2 c55
                        refine lv_aload_n hx hb dd_M_make_130 rfl (lv_at hl 0 rfl) ?_
                        refine lv_iload_n hx hb dd_M_make_131 rfl (lv_at hl 1 rfl) ?_
                        refine lv_iconst (v := (-1)) hx hb dd_M_make_132 (by decide) ?_
                        refine lv_iload hx hb dd_M_make_133 (lv_at hl 4 rfl) ?_
                        have n56 := hok
                        refine va_calli (va_runV (As := [.int x1, .int (-1), .int x4]) (rest := []) ⟨hx, hb, hml, hown, hts⟩ (mm_M_create l dC dI h a k u x1 ((-1) : Int32) x4 n56) (cwV 3 hts (gg_V gw_447 gw_449 gs_28 gw_2 gw_450) rfl rfl rfl (by decide +kernel) ⟨Nat.le_of_ble_eq_true rfl, Nat.le_of_ble_eq_true rfl⟩) ⟨pM_bl, va_recv hK hP (ci := 0) (q0 := 0) rfl rfl, fun U hU hW => ⟨rfl, pM_up hP hK hD hU hW⟩⟩ rfl rfl hl.1 rfl (lv_room (Nat.le_of_ble_eq_true rfl)) dd_M_make_135 ⟨Nat.zero_le _, Nat.zero_le _⟩) hS (fun q _ h => h) (fun q h => h) (fun r9 v9 t9 H locs ht9 hvm9 hw9 hB9 hz9 hk9 hS => ?_)
                        obtain ⟨rfl, rfl⟩ : r9 = (ff_M_create u x1 ((-1) : Int32) x4).1 ∧ v9 = (ff_M_create u x1 ((-1) : Int32) x4).2 := by rw [← hw9]; exact ⟨rfl, rfl⟩
                        obtain ⟨hP, -, hD⟩ := hB9
                        rw [ht9] at hP
                        exact W.iret (v := ((ff_M_create u x1 ((-1) : Int32) x4).1)) hx hb hr (fun t ht hW => ⟨⟨((ff_M_create u x1 ((-1) : Int32) x4).1), (ff_M_create u x1 ((-1) : Int32) x4).2, rfl, hf.symm, pM_up hP hK hD ht hW⟩, hS.F ht⟩) hS.2.2 dd_M_make_138
                      · have hf := hf.trans (if_pos c55)
                        have hok := hok.1 c55
                        refine lv_bipush (v := (-8)) hx hb dd_M_make_125 (by decide) ?_
                        refine lv_goto (tgt := 138) hx hb dd_M_make_127 (by decide) ?_
                        exact W.iret (v := ((-8) : Int32)) hx hb hr (fun t ht hW => ⟨⟨((-8) : Int32), u, rfl, hf.symm, pM_up hP hK hD ht hW⟩, hS.F ht⟩) hS.2.2 dd_M_make_138
                    · have hf := hf.trans (if_pos c54)
                      have hok := hok.1 c54
                      refine lv_aload_n hx hb dd_M_make_83 rfl (lv_at hl 0 rfl) ?_
                      refine va_get (D := (dC, dI)) (ci := 0) (v := .ref (a 4)) (C := "ClassObjectMirrorModel") (T := TM) (N := 12) hx hb hts inM hown hK hP 0 rfl rfl 5 (by decide) (hts _ gw_306) (fun _ h9 => h9) rfl dd_M_make_84 ?_
                      refine lv_iload hx hb dd_M_make_87 (lv_at hl 5 rfl) ?_
                      obtain ⟨n57, hok⟩ := hok
                      refine va_iald hx hb hK hP 5 4 rfl rfl n57 dd_M_make_89 ?_
                      refine lv_bipush (v := 19) hx hb dd_M_make_90 (by decide) ?_
                      refine lv_icmp_ne (tgt := 110) hx hb dd_M_make_92 (by decide) (fun c58 => ?_) (fun c58 => ?_)
                      · have hf := hf.trans (if_neg c58)
                        have hok := hok.2 c58
                        refine lv_iinc (v := x5 + 1) (lv' := [(5, .int (x5 + 1)), (0, .ref h), (1, .int x1), (2, .int x2), (3, .int x3), (4, .int x4)]) hx hb dd_M_make_110 hl (k := 5) rfl rfl (by decide) rfl (fun ls hl => ?_)
                        refine lv_goto (tgt := 68) hx hb dd_M_make_113 (by decide) ?_
                        exact ih u _ _ x1 x2 x3 x4 (x5 + 1) ls hok hf hP hD hS (lv_sub hl [1, 2, 3, 4, 5, 0] rfl)
                      · have hf := hf.trans (if_pos c58)
                        have hok := hok.1 c58
                        refine lv_aload_n hx hb dd_M_make_95 rfl (lv_at hl 0 rfl) ?_
                        refine va_get (D := (dC, dI)) (ci := 0) (v := .ref (a 6)) (C := "ClassObjectMirrorModel") (T := TM) (N := 12) hx hb hts inM hown hK hP 0 rfl rfl 7 (by decide) (hts _ gw_308) (fun _ h9 => h9) rfl dd_M_make_96 ?_
                        refine lv_iload hx hb dd_M_make_99 (lv_at hl 5 rfl) ?_
                        obtain ⟨n59, hok⟩ := hok
                        refine va_iald hx hb hK hP 7 6 rfl rfl n59 dd_M_make_101 ?_
                        refine lv_iload hx hb dd_M_make_102 (lv_at hl 4 rfl) ?_
                        refine lv_icmp_ne (tgt := 110) hx hb dd_M_make_104 (by decide) (fun c60 => ?_) (fun c60 => ?_)
                        · have hf := hf.trans (if_neg c60)
                          have hok := hok.2 c60
                          refine lv_iinc (v := x5 + 1) (lv' := [(5, .int (x5 + 1)), (0, .ref h), (1, .int x1), (2, .int x2), (3, .int x3), (4, .int x4)]) hx hb dd_M_make_110 hl (k := 5) rfl rfl (by decide) rfl (fun ls hl => ?_)
                          refine lv_goto (tgt := 68) hx hb dd_M_make_113 (by decide) ?_
                          exact ih u _ _ x1 x2 x3 x4 (x5 + 1) ls hok hf hP hD hS (lv_sub hl [1, 2, 3, 4, 5, 0] rfl)
                        · have hf := hf.trans (if_pos c60)
                          have hok := hok.1 c60
                          refine lv_iload hx hb dd_M_make_107 (lv_at hl 5 rfl) ?_
                          exact W.iret (v := x5) hx hb hr (fun t ht hW => ⟨⟨x5, u, rfl, hf.symm, pM_up hP hK hD ht hW⟩, hS.F ht⟩) hS.2.2 dd_M_make_109
              exact loop_68 400 u0 _ _ p0 p1 (0 : Int32) p1 (0 : Int32) ls hok hf hP hD hS (lv_sub hl [3, 4, 5, 2, 1, 0] rfl)
            · have hf := hf.trans (if_pos c50)
              have hok := hok.1 c50
              refine lv_iload_n hx hb dd_M_make_52 rfl (lv_at hl 3 rfl) ?_
              refine lv_iconst (v := 3) hx hb dd_M_make_53 (by decide) ?_
              refine lv_irem hx hb dd_M_make_54 (by decide) ?_
              refine lv_iconst (v := 3) hx hb dd_M_make_55 (by decide) ?_
              refine lv_iadd hx hb dd_M_make_56 ?_
              refine lv_iconst (v := 3) hx hb dd_M_make_57 (by decide) ?_
              refine lv_irem hx hb dd_M_make_58 (by decide) ?_
              refine lv_goto (tgt := 63) hx hb dd_M_make_59 (by decide) ?_
              refine lv_istore (lv' := [(4, .int (((p1 - p1 / 3 * 3) + 3) - ((p1 - p1 / 3 * 3) + 3) / 3 * 3)), (3, .int 0), (0, .ref h), (1, .int p0), (2, .int p1)]) hx hb dd_M_make_63 hl (by decide) rfl (fun ls hl => ?_)
              refine lv_iconst (v := 0) hx hb dd_M_make_65 (by decide) ?_
              refine lv_istore (lv' := [(5, .int 0), (4, .int (((p1 - p1 / 3 * 3) + 3) - ((p1 - p1 / 3 * 3) + 3) / 3 * 3)), (3, .int 0), (0, .ref h), (1, .int p0), (2, .int p1)]) hx hb dd_M_make_66 hl (by decide) rfl (fun ls hl => ?_)
              have loop_68 : ∀ (n : Nat) (u : SM) (H : Heap) (locs : List Loc) (x1 : Int32) (x2 : Int32) (x3 : Int32) (x4 : Int32) (x5 : Int32) (ls : Array Slot), okl_M_make_68 n u x1 x2 x3 x4 x5 → ff_M_make u0 p0 p1 = fl_M_make_68 n u x1 x2 x3 x4 x5 → va_P (dC, dI) cls_l (wM h a k u) H → va_D (aM h a) (wM h a k u) → va_S (aM h a) s.heap H locs → lv_has ls 6 [(0, .ref h), (1, .int x1), (2, .int x2), (3, .int x3), (4, .int x4), (5, .int x5)] → W p l e (headSpec ws_M_make rm_M_make).room s m ([.ref h, .int p0, .int p1] : List Value).toArray below meth c H locs 0 0 (MQ below (va_Qi (fun (r : Int32) (v : SM) => (r, v) = ff_M_make u0 p0 p1) (pM dC dI h a k) (aM h a)) ([.ref h, .int p0, .int p1] : List Value).toArray s 0 0 (aM h a)) (F0 m 68 ls []) := by
                intro n
                induction n with
                | zero => intro u H locs x1 x2 x3 x4 x5 ls hok; exact (show False from hok).elim
                | succ n ih =>
                  intro u H locs x1 x2 x3 x4 x5 ls hok hf hP hD hS hl
                  rw [fl_M_make_68] at hf
                  rw [okl_M_make_68] at hok
                  refine lv_iload hx hb dd_M_make_68 (lv_at hl 5 rfl) ?_
                  refine lv_aload_n hx hb dd_M_make_70 rfl (lv_at hl 0 rfl) ?_
                  refine va_get (D := (dC, dI)) (ci := 0) (v := .int (m_objs u)) (C := "ClassObjectMirrorModel") (T := TM) (N := 12) hx hb hts inM hown hK hP 0 rfl rfl 9 (by decide) (hts _ gw_310) (fun _ h9 => h9) rfl dd_M_make_71 ?_
                  refine lv_icmp_ge (tgt := 116) hx hb dd_M_make_74 (by decide) (fun c61 => ?_) (fun c61 => ?_)
                  · have hf := hf.trans (if_pos c61)
                    have hok := hok.1 c61
                    refine lv_aload_n hx hb dd_M_make_116 rfl (lv_at hl 0 rfl) ?_
                    refine va_get (D := (dC, dI)) (ci := 0) (v := .int (m_objs u)) (C := "ClassObjectMirrorModel") (T := TM) (N := 12) hx hb hts inM hown hK hP 0 rfl rfl 9 (by decide) (hts _ gw_310) (fun _ h9 => h9) rfl dd_M_make_117 ?_
                    refine lv_bipush (v := 80) hx hb dd_M_make_120 (by decide) ?_
                    refine lv_icmp_ne (tgt := 130) hx hb dd_M_make_122 (by decide) (fun c62 => ?_) (fun c62 => ?_)
                    · have hf := hf.trans (if_neg c62)
                      have hok := hok.2 c62
                      refine lv_aload_n hx hb dd_M_make_130 rfl (lv_at hl 0 rfl) ?_
                      refine lv_iload_n hx hb dd_M_make_131 rfl (lv_at hl 1 rfl) ?_
                      refine lv_iconst (v := (-1)) hx hb dd_M_make_132 (by decide) ?_
                      refine lv_iload hx hb dd_M_make_133 (lv_at hl 4 rfl) ?_
                      have n63 := hok
                      refine va_calli (va_runV (As := [.int x1, .int (-1), .int x4]) (rest := []) ⟨hx, hb, hml, hown, hts⟩ (mm_M_create l dC dI h a k u x1 ((-1) : Int32) x4 n63) (cwV 3 hts (gg_V gw_447 gw_449 gs_28 gw_2 gw_450) rfl rfl rfl (by decide +kernel) ⟨Nat.le_of_ble_eq_true rfl, Nat.le_of_ble_eq_true rfl⟩) ⟨pM_bl, va_recv hK hP (ci := 0) (q0 := 0) rfl rfl, fun U hU hW => ⟨rfl, pM_up hP hK hD hU hW⟩⟩ rfl rfl hl.1 rfl (lv_room (Nat.le_of_ble_eq_true rfl)) dd_M_make_135 ⟨Nat.zero_le _, Nat.zero_le _⟩) hS (fun q _ h => h) (fun q h => h) (fun r9 v9 t9 H locs ht9 hvm9 hw9 hB9 hz9 hk9 hS => ?_)
                      obtain ⟨rfl, rfl⟩ : r9 = (ff_M_create u x1 ((-1) : Int32) x4).1 ∧ v9 = (ff_M_create u x1 ((-1) : Int32) x4).2 := by rw [← hw9]; exact ⟨rfl, rfl⟩
                      obtain ⟨hP, -, hD⟩ := hB9
                      rw [ht9] at hP
                      exact W.iret (v := ((ff_M_create u x1 ((-1) : Int32) x4).1)) hx hb hr (fun t ht hW => ⟨⟨((ff_M_create u x1 ((-1) : Int32) x4).1), (ff_M_create u x1 ((-1) : Int32) x4).2, rfl, hf.symm, pM_up hP hK hD ht hW⟩, hS.F ht⟩) hS.2.2 dd_M_make_138
                    · have hf := hf.trans (if_pos c62)
                      have hok := hok.1 c62
                      refine lv_bipush (v := (-8)) hx hb dd_M_make_125 (by decide) ?_
                      refine lv_goto (tgt := 138) hx hb dd_M_make_127 (by decide) ?_
                      exact W.iret (v := ((-8) : Int32)) hx hb hr (fun t ht hW => ⟨⟨((-8) : Int32), u, rfl, hf.symm, pM_up hP hK hD ht hW⟩, hS.F ht⟩) hS.2.2 dd_M_make_138
                  · have hf := hf.trans (if_neg c61)
                    have hok := hok.2 c61
                    refine lv_iload_n hx hb dd_M_make_77 rfl (lv_at hl 1 rfl) ?_
                    refine lv_bipush (v := 19) hx hb dd_M_make_78 (by decide) ?_
                    refine lv_icmp_ne (tgt := 116) hx hb dd_M_make_80 (by decide) (fun c64 => ?_) (fun c64 => ?_)
                    · have hf := hf.trans (if_neg c64)
                      have hok := hok.2 c64
                      refine lv_aload_n hx hb dd_M_make_116 rfl (lv_at hl 0 rfl) ?_
                      refine va_get (D := (dC, dI)) (ci := 0) (v := .int (m_objs u)) (C := "ClassObjectMirrorModel") (T := TM) (N := 12) hx hb hts inM hown hK hP 0 rfl rfl 9 (by decide) (hts _ gw_310) (fun _ h9 => h9) rfl dd_M_make_117 ?_
                      refine lv_bipush (v := 80) hx hb dd_M_make_120 (by decide) ?_
                      refine lv_icmp_ne (tgt := 130) hx hb dd_M_make_122 (by decide) (fun c65 => ?_) (fun c65 => ?_)
                      · have hf := hf.trans (if_neg c65)
                        have hok := hok.2 c65
                        refine lv_aload_n hx hb dd_M_make_130 rfl (lv_at hl 0 rfl) ?_
                        refine lv_iload_n hx hb dd_M_make_131 rfl (lv_at hl 1 rfl) ?_
                        refine lv_iconst (v := (-1)) hx hb dd_M_make_132 (by decide) ?_
                        refine lv_iload hx hb dd_M_make_133 (lv_at hl 4 rfl) ?_
                        have n66 := hok
                        refine va_calli (va_runV (As := [.int x1, .int (-1), .int x4]) (rest := []) ⟨hx, hb, hml, hown, hts⟩ (mm_M_create l dC dI h a k u x1 ((-1) : Int32) x4 n66) (cwV 3 hts (gg_V gw_447 gw_449 gs_28 gw_2 gw_450) rfl rfl rfl (by decide +kernel) ⟨Nat.le_of_ble_eq_true rfl, Nat.le_of_ble_eq_true rfl⟩) ⟨pM_bl, va_recv hK hP (ci := 0) (q0 := 0) rfl rfl, fun U hU hW => ⟨rfl, pM_up hP hK hD hU hW⟩⟩ rfl rfl hl.1 rfl (lv_room (Nat.le_of_ble_eq_true rfl)) dd_M_make_135 ⟨Nat.zero_le _, Nat.zero_le _⟩) hS (fun q _ h => h) (fun q h => h) (fun r9 v9 t9 H locs ht9 hvm9 hw9 hB9 hz9 hk9 hS => ?_)
                        obtain ⟨rfl, rfl⟩ : r9 = (ff_M_create u x1 ((-1) : Int32) x4).1 ∧ v9 = (ff_M_create u x1 ((-1) : Int32) x4).2 := by rw [← hw9]; exact ⟨rfl, rfl⟩
                        obtain ⟨hP, -, hD⟩ := hB9
                        rw [ht9] at hP
                        exact W.iret (v := ((ff_M_create u x1 ((-1) : Int32) x4).1)) hx hb hr (fun t ht hW => ⟨⟨((ff_M_create u x1 ((-1) : Int32) x4).1), (ff_M_create u x1 ((-1) : Int32) x4).2, rfl, hf.symm, pM_up hP hK hD ht hW⟩, hS.F ht⟩) hS.2.2 dd_M_make_138
                      · have hf := hf.trans (if_pos c65)
                        have hok := hok.1 c65
                        refine lv_bipush (v := (-8)) hx hb dd_M_make_125 (by decide) ?_
                        refine lv_goto (tgt := 138) hx hb dd_M_make_127 (by decide) ?_
                        exact W.iret (v := ((-8) : Int32)) hx hb hr (fun t ht hW => ⟨⟨((-8) : Int32), u, rfl, hf.symm, pM_up hP hK hD ht hW⟩, hS.F ht⟩) hS.2.2 dd_M_make_138
                    · have hf := hf.trans (if_pos c64)
                      have hok := hok.1 c64
                      refine lv_aload_n hx hb dd_M_make_83 rfl (lv_at hl 0 rfl) ?_
                      refine va_get (D := (dC, dI)) (ci := 0) (v := .ref (a 4)) (C := "ClassObjectMirrorModel") (T := TM) (N := 12) hx hb hts inM hown hK hP 0 rfl rfl 5 (by decide) (hts _ gw_306) (fun _ h9 => h9) rfl dd_M_make_84 ?_
                      refine lv_iload hx hb dd_M_make_87 (lv_at hl 5 rfl) ?_
                      obtain ⟨n67, hok⟩ := hok
                      refine va_iald hx hb hK hP 5 4 rfl rfl n67 dd_M_make_89 ?_
                      refine lv_bipush (v := 19) hx hb dd_M_make_90 (by decide) ?_
                      refine lv_icmp_ne (tgt := 110) hx hb dd_M_make_92 (by decide) (fun c68 => ?_) (fun c68 => ?_)
                      · have hf := hf.trans (if_neg c68)
                        have hok := hok.2 c68
                        refine lv_iinc (v := x5 + 1) (lv' := [(5, .int (x5 + 1)), (0, .ref h), (1, .int x1), (2, .int x2), (3, .int x3), (4, .int x4)]) hx hb dd_M_make_110 hl (k := 5) rfl rfl (by decide) rfl (fun ls hl => ?_)
                        refine lv_goto (tgt := 68) hx hb dd_M_make_113 (by decide) ?_
                        exact ih u _ _ x1 x2 x3 x4 (x5 + 1) ls hok hf hP hD hS (lv_sub hl [1, 2, 3, 4, 5, 0] rfl)
                      · have hf := hf.trans (if_pos c68)
                        have hok := hok.1 c68
                        refine lv_aload_n hx hb dd_M_make_95 rfl (lv_at hl 0 rfl) ?_
                        refine va_get (D := (dC, dI)) (ci := 0) (v := .ref (a 6)) (C := "ClassObjectMirrorModel") (T := TM) (N := 12) hx hb hts inM hown hK hP 0 rfl rfl 7 (by decide) (hts _ gw_308) (fun _ h9 => h9) rfl dd_M_make_96 ?_
                        refine lv_iload hx hb dd_M_make_99 (lv_at hl 5 rfl) ?_
                        obtain ⟨n69, hok⟩ := hok
                        refine va_iald hx hb hK hP 7 6 rfl rfl n69 dd_M_make_101 ?_
                        refine lv_iload hx hb dd_M_make_102 (lv_at hl 4 rfl) ?_
                        refine lv_icmp_ne (tgt := 110) hx hb dd_M_make_104 (by decide) (fun c70 => ?_) (fun c70 => ?_)
                        · have hf := hf.trans (if_neg c70)
                          have hok := hok.2 c70
                          refine lv_iinc (v := x5 + 1) (lv' := [(5, .int (x5 + 1)), (0, .ref h), (1, .int x1), (2, .int x2), (3, .int x3), (4, .int x4)]) hx hb dd_M_make_110 hl (k := 5) rfl rfl (by decide) rfl (fun ls hl => ?_)
                          refine lv_goto (tgt := 68) hx hb dd_M_make_113 (by decide) ?_
                          exact ih u _ _ x1 x2 x3 x4 (x5 + 1) ls hok hf hP hD hS (lv_sub hl [1, 2, 3, 4, 5, 0] rfl)
                        · have hf := hf.trans (if_pos c70)
                          have hok := hok.1 c70
                          refine lv_iload hx hb dd_M_make_107 (lv_at hl 5 rfl) ?_
                          exact W.iret (v := x5) hx hb hr (fun t ht hW => ⟨⟨x5, u, rfl, hf.symm, pM_up hP hK hD ht hW⟩, hS.F ht⟩) hS.2.2 dd_M_make_109
              exact loop_68 400 u0 _ _ p0 p1 (0 : Int32) (((p1 - p1 / 3 * 3) + 3) - ((p1 - p1 / 3 * 3) + 3) / 3 * 3) (0 : Int32) ls hok hf hP hD hS (lv_sub hl [3, 4, 5, 2, 1, 0] rfl)
          · have hf := hf.trans (if_pos c49)
            have hok := hok.1 c49
            refine lv_iconst (v := (-1)) hx hb dd_M_make_44 (by decide) ?_
            exact W.iret (v := ((-1) : Int32)) hx hb hr (fun t ht hW => ⟨⟨((-1) : Int32), u0, rfl, hf.symm, pM_up hP hK hD ht hW⟩, hS.F ht⟩) hS.2.2 dd_M_make_45
        · have hf := hf.trans (if_neg c48)
          have hok := hok.2 c48
          refine lv_iload_n hx hb dd_M_make_28 rfl (lv_at hl 1 rfl) ?_
          refine lv_bipush (v := 21) hx hb dd_M_make_29 (by decide) ?_
          refine lv_icmp_gt (tgt := 38) hx hb dd_M_make_31 (by decide) (fun c71 => ?_) (fun c71 => ?_)
          · have hf := hf.trans (if_pos c71)
            have hok := hok.1 c71
            refine lv_iconst (v := 0) hx hb dd_M_make_38 (by decide) ?_
            refine lv_istore_n (lv' := [(3, .int 0), (0, .ref h), (1, .int p0), (2, .int p1)]) hx hb dd_M_make_39 rfl hl (by decide) rfl (fun ls hl => ?_)
            refine lv_iload_n hx hb dd_M_make_40 rfl (lv_at hl 0 rfl) ?_
            refine lv_if_ne (tgt := 46) hx hb dd_M_make_41 (by decide) (fun c72 => ?_) (fun c72 => ?_)
            · have hf := hf.trans (if_neg c72)
              have hok := hok.2 c72
              refine lv_iload_n hx hb dd_M_make_46 rfl (lv_at hl 2 rfl) ?_
              refine lv_bipush (v := 19) hx hb dd_M_make_47 (by decide) ?_
              refine lv_icmp_ne (tgt := 62) hx hb dd_M_make_49 (by decide) (fun c73 => ?_) (fun c73 => ?_)
              · have hf := hf.trans (if_neg c73)
                have hok := hok.2 c73
                refine lv_iload_n hx hb dd_M_make_62 rfl (lv_at hl 3 rfl) ?_
                refine lv_istore (lv' := [(4, .int p1), (3, .int 0), (0, .ref h), (1, .int p0), (2, .int p1)]) hx hb dd_M_make_63 hl (by decide) rfl (fun ls hl => ?_)
                refine lv_iconst (v := 0) hx hb dd_M_make_65 (by decide) ?_
                refine lv_istore (lv' := [(5, .int 0), (4, .int p1), (3, .int 0), (0, .ref h), (1, .int p0), (2, .int p1)]) hx hb dd_M_make_66 hl (by decide) rfl (fun ls hl => ?_)
                have loop_68 : ∀ (n : Nat) (u : SM) (H : Heap) (locs : List Loc) (x1 : Int32) (x2 : Int32) (x3 : Int32) (x4 : Int32) (x5 : Int32) (ls : Array Slot), okl_M_make_68 n u x1 x2 x3 x4 x5 → ff_M_make u0 p0 p1 = fl_M_make_68 n u x1 x2 x3 x4 x5 → va_P (dC, dI) cls_l (wM h a k u) H → va_D (aM h a) (wM h a k u) → va_S (aM h a) s.heap H locs → lv_has ls 6 [(0, .ref h), (1, .int x1), (2, .int x2), (3, .int x3), (4, .int x4), (5, .int x5)] → W p l e (headSpec ws_M_make rm_M_make).room s m ([.ref h, .int p0, .int p1] : List Value).toArray below meth c H locs 0 0 (MQ below (va_Qi (fun (r : Int32) (v : SM) => (r, v) = ff_M_make u0 p0 p1) (pM dC dI h a k) (aM h a)) ([.ref h, .int p0, .int p1] : List Value).toArray s 0 0 (aM h a)) (F0 m 68 ls []) := by
                  intro n
                  induction n with
                  | zero => intro u H locs x1 x2 x3 x4 x5 ls hok; exact (show False from hok).elim
                  | succ n ih =>
                    intro u H locs x1 x2 x3 x4 x5 ls hok hf hP hD hS hl
                    rw [fl_M_make_68] at hf
                    rw [okl_M_make_68] at hok
                    refine lv_iload hx hb dd_M_make_68 (lv_at hl 5 rfl) ?_
                    refine lv_aload_n hx hb dd_M_make_70 rfl (lv_at hl 0 rfl) ?_
                    refine va_get (D := (dC, dI)) (ci := 0) (v := .int (m_objs u)) (C := "ClassObjectMirrorModel") (T := TM) (N := 12) hx hb hts inM hown hK hP 0 rfl rfl 9 (by decide) (hts _ gw_310) (fun _ h9 => h9) rfl dd_M_make_71 ?_
                    refine lv_icmp_ge (tgt := 116) hx hb dd_M_make_74 (by decide) (fun c74 => ?_) (fun c74 => ?_)
                    · have hf := hf.trans (if_pos c74)
                      have hok := hok.1 c74
                      refine lv_aload_n hx hb dd_M_make_116 rfl (lv_at hl 0 rfl) ?_
                      refine va_get (D := (dC, dI)) (ci := 0) (v := .int (m_objs u)) (C := "ClassObjectMirrorModel") (T := TM) (N := 12) hx hb hts inM hown hK hP 0 rfl rfl 9 (by decide) (hts _ gw_310) (fun _ h9 => h9) rfl dd_M_make_117 ?_
                      refine lv_bipush (v := 80) hx hb dd_M_make_120 (by decide) ?_
                      refine lv_icmp_ne (tgt := 130) hx hb dd_M_make_122 (by decide) (fun c75 => ?_) (fun c75 => ?_)
                      · have hf := hf.trans (if_neg c75)
                        have hok := hok.2 c75
                        refine lv_aload_n hx hb dd_M_make_130 rfl (lv_at hl 0 rfl) ?_
                        refine lv_iload_n hx hb dd_M_make_131 rfl (lv_at hl 1 rfl) ?_
                        refine lv_iconst (v := (-1)) hx hb dd_M_make_132 (by decide) ?_
                        refine lv_iload hx hb dd_M_make_133 (lv_at hl 4 rfl) ?_
                        have n76 := hok
                        refine va_calli (va_runV (As := [.int x1, .int (-1), .int x4]) (rest := []) ⟨hx, hb, hml, hown, hts⟩ (mm_M_create l dC dI h a k u x1 ((-1) : Int32) x4 n76) (cwV 3 hts (gg_V gw_447 gw_449 gs_28 gw_2 gw_450) rfl rfl rfl (by decide +kernel) ⟨Nat.le_of_ble_eq_true rfl, Nat.le_of_ble_eq_true rfl⟩) ⟨pM_bl, va_recv hK hP (ci := 0) (q0 := 0) rfl rfl, fun U hU hW => ⟨rfl, pM_up hP hK hD hU hW⟩⟩ rfl rfl hl.1 rfl (lv_room (Nat.le_of_ble_eq_true rfl)) dd_M_make_135 ⟨Nat.zero_le _, Nat.zero_le _⟩) hS (fun q _ h => h) (fun q h => h) (fun r9 v9 t9 H locs ht9 hvm9 hw9 hB9 hz9 hk9 hS => ?_)
                        obtain ⟨rfl, rfl⟩ : r9 = (ff_M_create u x1 ((-1) : Int32) x4).1 ∧ v9 = (ff_M_create u x1 ((-1) : Int32) x4).2 := by rw [← hw9]; exact ⟨rfl, rfl⟩
                        obtain ⟨hP, -, hD⟩ := hB9
                        rw [ht9] at hP
                        exact W.iret (v := ((ff_M_create u x1 ((-1) : Int32) x4).1)) hx hb hr (fun t ht hW => ⟨⟨((ff_M_create u x1 ((-1) : Int32) x4).1), (ff_M_create u x1 ((-1) : Int32) x4).2, rfl, hf.symm, pM_up hP hK hD ht hW⟩, hS.F ht⟩) hS.2.2 dd_M_make_138
                      · have hf := hf.trans (if_pos c75)
                        have hok := hok.1 c75
                        refine lv_bipush (v := (-8)) hx hb dd_M_make_125 (by decide) ?_
                        refine lv_goto (tgt := 138) hx hb dd_M_make_127 (by decide) ?_
                        exact W.iret (v := ((-8) : Int32)) hx hb hr (fun t ht hW => ⟨⟨((-8) : Int32), u, rfl, hf.symm, pM_up hP hK hD ht hW⟩, hS.F ht⟩) hS.2.2 dd_M_make_138
                    · have hf := hf.trans (if_neg c74)
                      have hok := hok.2 c74
                      refine lv_iload_n hx hb dd_M_make_77 rfl (lv_at hl 1 rfl) ?_
                      refine lv_bipush (v := 19) hx hb dd_M_make_78 (by decide) ?_
                      refine lv_icmp_ne (tgt := 116) hx hb dd_M_make_80 (by decide) (fun c77 => ?_) (fun c77 => ?_)
                      · have hf := hf.trans (if_neg c77)
                        have hok := hok.2 c77
                        refine lv_aload_n hx hb dd_M_make_116 rfl (lv_at hl 0 rfl) ?_
                        refine va_get (D := (dC, dI)) (ci := 0) (v := .int (m_objs u)) (C := "ClassObjectMirrorModel") (T := TM) (N := 12) hx hb hts inM hown hK hP 0 rfl rfl 9 (by decide) (hts _ gw_310) (fun _ h9 => h9) rfl dd_M_make_117 ?_
                        refine lv_bipush (v := 80) hx hb dd_M_make_120 (by decide) ?_
                        refine lv_icmp_ne (tgt := 130) hx hb dd_M_make_122 (by decide) (fun c78 => ?_) (fun c78 => ?_)
                        · have hf := hf.trans (if_neg c78)
                          have hok := hok.2 c78
                          refine lv_aload_n hx hb dd_M_make_130 rfl (lv_at hl 0 rfl) ?_
                          refine lv_iload_n hx hb dd_M_make_131 rfl (lv_at hl 1 rfl) ?_
                          refine lv_iconst (v := (-1)) hx hb dd_M_make_132 (by decide) ?_
                          refine lv_iload hx hb dd_M_make_133 (lv_at hl 4 rfl) ?_
                          have n79 := hok
                          refine va_calli (va_runV (As := [.int x1, .int (-1), .int x4]) (rest := []) ⟨hx, hb, hml, hown, hts⟩ (mm_M_create l dC dI h a k u x1 ((-1) : Int32) x4 n79) (cwV 3 hts (gg_V gw_447 gw_449 gs_28 gw_2 gw_450) rfl rfl rfl (by decide +kernel) ⟨Nat.le_of_ble_eq_true rfl, Nat.le_of_ble_eq_true rfl⟩) ⟨pM_bl, va_recv hK hP (ci := 0) (q0 := 0) rfl rfl, fun U hU hW => ⟨rfl, pM_up hP hK hD hU hW⟩⟩ rfl rfl hl.1 rfl (lv_room (Nat.le_of_ble_eq_true rfl)) dd_M_make_135 ⟨Nat.zero_le _, Nat.zero_le _⟩) hS (fun q _ h => h) (fun q h => h) (fun r9 v9 t9 H locs ht9 hvm9 hw9 hB9 hz9 hk9 hS => ?_)
                          obtain ⟨rfl, rfl⟩ : r9 = (ff_M_create u x1 ((-1) : Int32) x4).1 ∧ v9 = (ff_M_create u x1 ((-1) : Int32) x4).2 := by rw [← hw9]; exact ⟨rfl, rfl⟩
                          obtain ⟨hP, -, hD⟩ := hB9
                          rw [ht9] at hP
                          exact W.iret (v := ((ff_M_create u x1 ((-1) : Int32) x4).1)) hx hb hr (fun t ht hW => ⟨⟨((ff_M_create u x1 ((-1) : Int32) x4).1), (ff_M_create u x1 ((-1) : Int32) x4).2, rfl, hf.symm, pM_up hP hK hD ht hW⟩, hS.F ht⟩) hS.2.2 dd_M_make_138
                        · have hf := hf.trans (if_pos c78)
                          have hok := hok.1 c78
                          refine lv_bipush (v := (-8)) hx hb dd_M_make_125 (by decide) ?_
                          refine lv_goto (tgt := 138) hx hb dd_M_make_127 (by decide) ?_
                          exact W.iret (v := ((-8) : Int32)) hx hb hr (fun t ht hW => ⟨⟨((-8) : Int32), u, rfl, hf.symm, pM_up hP hK hD ht hW⟩, hS.F ht⟩) hS.2.2 dd_M_make_138
                      · have hf := hf.trans (if_pos c77)
                        have hok := hok.1 c77
                        refine lv_aload_n hx hb dd_M_make_83 rfl (lv_at hl 0 rfl) ?_
                        refine va_get (D := (dC, dI)) (ci := 0) (v := .ref (a 4)) (C := "ClassObjectMirrorModel") (T := TM) (N := 12) hx hb hts inM hown hK hP 0 rfl rfl 5 (by decide) (hts _ gw_306) (fun _ h9 => h9) rfl dd_M_make_84 ?_
                        refine lv_iload hx hb dd_M_make_87 (lv_at hl 5 rfl) ?_
                        obtain ⟨n80, hok⟩ := hok
                        refine va_iald hx hb hK hP 5 4 rfl rfl n80 dd_M_make_89 ?_
                        refine lv_bipush (v := 19) hx hb dd_M_make_90 (by decide) ?_
                        refine lv_icmp_ne (tgt := 110) hx hb dd_M_make_92 (by decide) (fun c81 => ?_) (fun c81 => ?_)
                        · have hf := hf.trans (if_neg c81)
                          have hok := hok.2 c81
                          refine lv_iinc (v := x5 + 1) (lv' := [(5, .int (x5 + 1)), (0, .ref h), (1, .int x1), (2, .int x2), (3, .int x3), (4, .int x4)]) hx hb dd_M_make_110 hl (k := 5) rfl rfl (by decide) rfl (fun ls hl => ?_)
                          refine lv_goto (tgt := 68) hx hb dd_M_make_113 (by decide) ?_
                          exact ih u _ _ x1 x2 x3 x4 (x5 + 1) ls hok hf hP hD hS (lv_sub hl [1, 2, 3, 4, 5, 0] rfl)
                        · have hf := hf.trans (if_pos c81)
                          have hok := hok.1 c81
                          refine lv_aload_n hx hb dd_M_make_95 rfl (lv_at hl 0 rfl) ?_
                          refine va_get (D := (dC, dI)) (ci := 0) (v := .ref (a 6)) (C := "ClassObjectMirrorModel") (T := TM) (N := 12) hx hb hts inM hown hK hP 0 rfl rfl 7 (by decide) (hts _ gw_308) (fun _ h9 => h9) rfl dd_M_make_96 ?_
                          refine lv_iload hx hb dd_M_make_99 (lv_at hl 5 rfl) ?_
                          obtain ⟨n82, hok⟩ := hok
                          refine va_iald hx hb hK hP 7 6 rfl rfl n82 dd_M_make_101 ?_
                          refine lv_iload hx hb dd_M_make_102 (lv_at hl 4 rfl) ?_
                          refine lv_icmp_ne (tgt := 110) hx hb dd_M_make_104 (by decide) (fun c83 => ?_) (fun c83 => ?_)
                          · have hf := hf.trans (if_neg c83)
                            have hok := hok.2 c83
                            refine lv_iinc (v := x5 + 1) (lv' := [(5, .int (x5 + 1)), (0, .ref h), (1, .int x1), (2, .int x2), (3, .int x3), (4, .int x4)]) hx hb dd_M_make_110 hl (k := 5) rfl rfl (by decide) rfl (fun ls hl => ?_)
                            refine lv_goto (tgt := 68) hx hb dd_M_make_113 (by decide) ?_
                            exact ih u _ _ x1 x2 x3 x4 (x5 + 1) ls hok hf hP hD hS (lv_sub hl [1, 2, 3, 4, 5, 0] rfl)
                          · have hf := hf.trans (if_pos c83)
                            have hok := hok.1 c83
                            refine lv_iload hx hb dd_M_make_107 (lv_at hl 5 rfl) ?_
                            exact W.iret (v := x5) hx hb hr (fun t ht hW => ⟨⟨x5, u, rfl, hf.symm, pM_up hP hK hD ht hW⟩, hS.F ht⟩) hS.2.2 dd_M_make_109
                exact loop_68 400 u0 _ _ p0 p1 (0 : Int32) p1 (0 : Int32) ls hok hf hP hD hS (lv_sub hl [3, 4, 5, 2, 1, 0] rfl)
              · have hf := hf.trans (if_pos c73)
                have hok := hok.1 c73
                refine lv_iload_n hx hb dd_M_make_52 rfl (lv_at hl 3 rfl) ?_
                refine lv_iconst (v := 3) hx hb dd_M_make_53 (by decide) ?_
                refine lv_irem hx hb dd_M_make_54 (by decide) ?_
                refine lv_iconst (v := 3) hx hb dd_M_make_55 (by decide) ?_
                refine lv_iadd hx hb dd_M_make_56 ?_
                refine lv_iconst (v := 3) hx hb dd_M_make_57 (by decide) ?_
                refine lv_irem hx hb dd_M_make_58 (by decide) ?_
                refine lv_goto (tgt := 63) hx hb dd_M_make_59 (by decide) ?_
                refine lv_istore (lv' := [(4, .int (((p1 - p1 / 3 * 3) + 3) - ((p1 - p1 / 3 * 3) + 3) / 3 * 3)), (3, .int 0), (0, .ref h), (1, .int p0), (2, .int p1)]) hx hb dd_M_make_63 hl (by decide) rfl (fun ls hl => ?_)
                refine lv_iconst (v := 0) hx hb dd_M_make_65 (by decide) ?_
                refine lv_istore (lv' := [(5, .int 0), (4, .int (((p1 - p1 / 3 * 3) + 3) - ((p1 - p1 / 3 * 3) + 3) / 3 * 3)), (3, .int 0), (0, .ref h), (1, .int p0), (2, .int p1)]) hx hb dd_M_make_66 hl (by decide) rfl (fun ls hl => ?_)
                have loop_68 : ∀ (n : Nat) (u : SM) (H : Heap) (locs : List Loc) (x1 : Int32) (x2 : Int32) (x3 : Int32) (x4 : Int32) (x5 : Int32) (ls : Array Slot), okl_M_make_68 n u x1 x2 x3 x4 x5 → ff_M_make u0 p0 p1 = fl_M_make_68 n u x1 x2 x3 x4 x5 → va_P (dC, dI) cls_l (wM h a k u) H → va_D (aM h a) (wM h a k u) → va_S (aM h a) s.heap H locs → lv_has ls 6 [(0, .ref h), (1, .int x1), (2, .int x2), (3, .int x3), (4, .int x4), (5, .int x5)] → W p l e (headSpec ws_M_make rm_M_make).room s m ([.ref h, .int p0, .int p1] : List Value).toArray below meth c H locs 0 0 (MQ below (va_Qi (fun (r : Int32) (v : SM) => (r, v) = ff_M_make u0 p0 p1) (pM dC dI h a k) (aM h a)) ([.ref h, .int p0, .int p1] : List Value).toArray s 0 0 (aM h a)) (F0 m 68 ls []) := by
                  intro n
                  induction n with
                  | zero => intro u H locs x1 x2 x3 x4 x5 ls hok; exact (show False from hok).elim
                  | succ n ih =>
                    intro u H locs x1 x2 x3 x4 x5 ls hok hf hP hD hS hl
                    rw [fl_M_make_68] at hf
                    rw [okl_M_make_68] at hok
                    refine lv_iload hx hb dd_M_make_68 (lv_at hl 5 rfl) ?_
                    refine lv_aload_n hx hb dd_M_make_70 rfl (lv_at hl 0 rfl) ?_
                    refine va_get (D := (dC, dI)) (ci := 0) (v := .int (m_objs u)) (C := "ClassObjectMirrorModel") (T := TM) (N := 12) hx hb hts inM hown hK hP 0 rfl rfl 9 (by decide) (hts _ gw_310) (fun _ h9 => h9) rfl dd_M_make_71 ?_
                    refine lv_icmp_ge (tgt := 116) hx hb dd_M_make_74 (by decide) (fun c84 => ?_) (fun c84 => ?_)
                    · have hf := hf.trans (if_pos c84)
                      have hok := hok.1 c84
                      refine lv_aload_n hx hb dd_M_make_116 rfl (lv_at hl 0 rfl) ?_
                      refine va_get (D := (dC, dI)) (ci := 0) (v := .int (m_objs u)) (C := "ClassObjectMirrorModel") (T := TM) (N := 12) hx hb hts inM hown hK hP 0 rfl rfl 9 (by decide) (hts _ gw_310) (fun _ h9 => h9) rfl dd_M_make_117 ?_
                      refine lv_bipush (v := 80) hx hb dd_M_make_120 (by decide) ?_
                      refine lv_icmp_ne (tgt := 130) hx hb dd_M_make_122 (by decide) (fun c85 => ?_) (fun c85 => ?_)
                      · have hf := hf.trans (if_neg c85)
                        have hok := hok.2 c85
                        refine lv_aload_n hx hb dd_M_make_130 rfl (lv_at hl 0 rfl) ?_
                        refine lv_iload_n hx hb dd_M_make_131 rfl (lv_at hl 1 rfl) ?_
                        refine lv_iconst (v := (-1)) hx hb dd_M_make_132 (by decide) ?_
                        refine lv_iload hx hb dd_M_make_133 (lv_at hl 4 rfl) ?_
                        have n86 := hok
                        refine va_calli (va_runV (As := [.int x1, .int (-1), .int x4]) (rest := []) ⟨hx, hb, hml, hown, hts⟩ (mm_M_create l dC dI h a k u x1 ((-1) : Int32) x4 n86) (cwV 3 hts (gg_V gw_447 gw_449 gs_28 gw_2 gw_450) rfl rfl rfl (by decide +kernel) ⟨Nat.le_of_ble_eq_true rfl, Nat.le_of_ble_eq_true rfl⟩) ⟨pM_bl, va_recv hK hP (ci := 0) (q0 := 0) rfl rfl, fun U hU hW => ⟨rfl, pM_up hP hK hD hU hW⟩⟩ rfl rfl hl.1 rfl (lv_room (Nat.le_of_ble_eq_true rfl)) dd_M_make_135 ⟨Nat.zero_le _, Nat.zero_le _⟩) hS (fun q _ h => h) (fun q h => h) (fun r9 v9 t9 H locs ht9 hvm9 hw9 hB9 hz9 hk9 hS => ?_)
                        obtain ⟨rfl, rfl⟩ : r9 = (ff_M_create u x1 ((-1) : Int32) x4).1 ∧ v9 = (ff_M_create u x1 ((-1) : Int32) x4).2 := by rw [← hw9]; exact ⟨rfl, rfl⟩
                        obtain ⟨hP, -, hD⟩ := hB9
                        rw [ht9] at hP
                        exact W.iret (v := ((ff_M_create u x1 ((-1) : Int32) x4).1)) hx hb hr (fun t ht hW => ⟨⟨((ff_M_create u x1 ((-1) : Int32) x4).1), (ff_M_create u x1 ((-1) : Int32) x4).2, rfl, hf.symm, pM_up hP hK hD ht hW⟩, hS.F ht⟩) hS.2.2 dd_M_make_138
                      · have hf := hf.trans (if_pos c85)
                        have hok := hok.1 c85
                        refine lv_bipush (v := (-8)) hx hb dd_M_make_125 (by decide) ?_
                        refine lv_goto (tgt := 138) hx hb dd_M_make_127 (by decide) ?_
                        exact W.iret (v := ((-8) : Int32)) hx hb hr (fun t ht hW => ⟨⟨((-8) : Int32), u, rfl, hf.symm, pM_up hP hK hD ht hW⟩, hS.F ht⟩) hS.2.2 dd_M_make_138
                    · have hf := hf.trans (if_neg c84)
                      have hok := hok.2 c84
                      refine lv_iload_n hx hb dd_M_make_77 rfl (lv_at hl 1 rfl) ?_
                      refine lv_bipush (v := 19) hx hb dd_M_make_78 (by decide) ?_
                      refine lv_icmp_ne (tgt := 116) hx hb dd_M_make_80 (by decide) (fun c87 => ?_) (fun c87 => ?_)
                      · have hf := hf.trans (if_neg c87)
                        have hok := hok.2 c87
                        refine lv_aload_n hx hb dd_M_make_116 rfl (lv_at hl 0 rfl) ?_
                        refine va_get (D := (dC, dI)) (ci := 0) (v := .int (m_objs u)) (C := "ClassObjectMirrorModel") (T := TM) (N := 12) hx hb hts inM hown hK hP 0 rfl rfl 9 (by decide) (hts _ gw_310) (fun _ h9 => h9) rfl dd_M_make_117 ?_
                        refine lv_bipush (v := 80) hx hb dd_M_make_120 (by decide) ?_
                        refine lv_icmp_ne (tgt := 130) hx hb dd_M_make_122 (by decide) (fun c88 => ?_) (fun c88 => ?_)
                        · have hf := hf.trans (if_neg c88)
                          have hok := hok.2 c88
                          refine lv_aload_n hx hb dd_M_make_130 rfl (lv_at hl 0 rfl) ?_
                          refine lv_iload_n hx hb dd_M_make_131 rfl (lv_at hl 1 rfl) ?_
                          refine lv_iconst (v := (-1)) hx hb dd_M_make_132 (by decide) ?_
                          refine lv_iload hx hb dd_M_make_133 (lv_at hl 4 rfl) ?_
                          have n89 := hok
                          refine va_calli (va_runV (As := [.int x1, .int (-1), .int x4]) (rest := []) ⟨hx, hb, hml, hown, hts⟩ (mm_M_create l dC dI h a k u x1 ((-1) : Int32) x4 n89) (cwV 3 hts (gg_V gw_447 gw_449 gs_28 gw_2 gw_450) rfl rfl rfl (by decide +kernel) ⟨Nat.le_of_ble_eq_true rfl, Nat.le_of_ble_eq_true rfl⟩) ⟨pM_bl, va_recv hK hP (ci := 0) (q0 := 0) rfl rfl, fun U hU hW => ⟨rfl, pM_up hP hK hD hU hW⟩⟩ rfl rfl hl.1 rfl (lv_room (Nat.le_of_ble_eq_true rfl)) dd_M_make_135 ⟨Nat.zero_le _, Nat.zero_le _⟩) hS (fun q _ h => h) (fun q h => h) (fun r9 v9 t9 H locs ht9 hvm9 hw9 hB9 hz9 hk9 hS => ?_)
                          obtain ⟨rfl, rfl⟩ : r9 = (ff_M_create u x1 ((-1) : Int32) x4).1 ∧ v9 = (ff_M_create u x1 ((-1) : Int32) x4).2 := by rw [← hw9]; exact ⟨rfl, rfl⟩
                          obtain ⟨hP, -, hD⟩ := hB9
                          rw [ht9] at hP
                          exact W.iret (v := ((ff_M_create u x1 ((-1) : Int32) x4).1)) hx hb hr (fun t ht hW => ⟨⟨((ff_M_create u x1 ((-1) : Int32) x4).1), (ff_M_create u x1 ((-1) : Int32) x4).2, rfl, hf.symm, pM_up hP hK hD ht hW⟩, hS.F ht⟩) hS.2.2 dd_M_make_138
                        · have hf := hf.trans (if_pos c88)
                          have hok := hok.1 c88
                          refine lv_bipush (v := (-8)) hx hb dd_M_make_125 (by decide) ?_
                          refine lv_goto (tgt := 138) hx hb dd_M_make_127 (by decide) ?_
                          exact W.iret (v := ((-8) : Int32)) hx hb hr (fun t ht hW => ⟨⟨((-8) : Int32), u, rfl, hf.symm, pM_up hP hK hD ht hW⟩, hS.F ht⟩) hS.2.2 dd_M_make_138
                      · have hf := hf.trans (if_pos c87)
                        have hok := hok.1 c87
                        refine lv_aload_n hx hb dd_M_make_83 rfl (lv_at hl 0 rfl) ?_
                        refine va_get (D := (dC, dI)) (ci := 0) (v := .ref (a 4)) (C := "ClassObjectMirrorModel") (T := TM) (N := 12) hx hb hts inM hown hK hP 0 rfl rfl 5 (by decide) (hts _ gw_306) (fun _ h9 => h9) rfl dd_M_make_84 ?_
                        refine lv_iload hx hb dd_M_make_87 (lv_at hl 5 rfl) ?_
                        obtain ⟨n90, hok⟩ := hok
                        refine va_iald hx hb hK hP 5 4 rfl rfl n90 dd_M_make_89 ?_
                        refine lv_bipush (v := 19) hx hb dd_M_make_90 (by decide) ?_
                        refine lv_icmp_ne (tgt := 110) hx hb dd_M_make_92 (by decide) (fun c91 => ?_) (fun c91 => ?_)
                        · have hf := hf.trans (if_neg c91)
                          have hok := hok.2 c91
                          refine lv_iinc (v := x5 + 1) (lv' := [(5, .int (x5 + 1)), (0, .ref h), (1, .int x1), (2, .int x2), (3, .int x3), (4, .int x4)]) hx hb dd_M_make_110 hl (k := 5) rfl rfl (by decide) rfl (fun ls hl => ?_)
                          refine lv_goto (tgt := 68) hx hb dd_M_make_113 (by decide) ?_
                          exact ih u _ _ x1 x2 x3 x4 (x5 + 1) ls hok hf hP hD hS (lv_sub hl [1, 2, 3, 4, 5, 0] rfl)
                        · have hf := hf.trans (if_pos c91)
                          have hok := hok.1 c91
                          refine lv_aload_n hx hb dd_M_make_95 rfl (lv_at hl 0 rfl) ?_
                          refine va_get (D := (dC, dI)) (ci := 0) (v := .ref (a 6)) (C := "ClassObjectMirrorModel") (T := TM) (N := 12) hx hb hts inM hown hK hP 0 rfl rfl 7 (by decide) (hts _ gw_308) (fun _ h9 => h9) rfl dd_M_make_96 ?_
                          refine lv_iload hx hb dd_M_make_99 (lv_at hl 5 rfl) ?_
                          obtain ⟨n92, hok⟩ := hok
                          refine va_iald hx hb hK hP 7 6 rfl rfl n92 dd_M_make_101 ?_
                          refine lv_iload hx hb dd_M_make_102 (lv_at hl 4 rfl) ?_
                          refine lv_icmp_ne (tgt := 110) hx hb dd_M_make_104 (by decide) (fun c93 => ?_) (fun c93 => ?_)
                          · have hf := hf.trans (if_neg c93)
                            have hok := hok.2 c93
                            refine lv_iinc (v := x5 + 1) (lv' := [(5, .int (x5 + 1)), (0, .ref h), (1, .int x1), (2, .int x2), (3, .int x3), (4, .int x4)]) hx hb dd_M_make_110 hl (k := 5) rfl rfl (by decide) rfl (fun ls hl => ?_)
                            refine lv_goto (tgt := 68) hx hb dd_M_make_113 (by decide) ?_
                            exact ih u _ _ x1 x2 x3 x4 (x5 + 1) ls hok hf hP hD hS (lv_sub hl [1, 2, 3, 4, 5, 0] rfl)
                          · have hf := hf.trans (if_pos c93)
                            have hok := hok.1 c93
                            refine lv_iload hx hb dd_M_make_107 (lv_at hl 5 rfl) ?_
                            exact W.iret (v := x5) hx hb hr (fun t ht hW => ⟨⟨x5, u, rfl, hf.symm, pM_up hP hK hD ht hW⟩, hS.F ht⟩) hS.2.2 dd_M_make_109
                exact loop_68 400 u0 _ _ p0 p1 (0 : Int32) (((p1 - p1 / 3 * 3) + 3) - ((p1 - p1 / 3 * 3) + 3) / 3 * 3) (0 : Int32) ls hok hf hP hD hS (lv_sub hl [3, 4, 5, 2, 1, 0] rfl)
            · have hf := hf.trans (if_pos c72)
              have hok := hok.1 c72
              refine lv_iconst (v := (-1)) hx hb dd_M_make_44 (by decide) ?_
              exact W.iret (v := ((-1) : Int32)) hx hb hr (fun t ht hW => ⟨⟨((-1) : Int32), u0, rfl, hf.symm, pM_up hP hK hD ht hW⟩, hS.F ht⟩) hS.2.2 dd_M_make_45
          · have hf := hf.trans (if_neg c71)
            have hok := hok.2 c71
            refine lv_iconst (v := 1) hx hb dd_M_make_34 (by decide) ?_
            refine lv_goto (tgt := 39) hx hb dd_M_make_35 (by decide) ?_
            refine lv_istore_n (lv' := [(3, .int 1), (0, .ref h), (1, .int p0), (2, .int p1)]) hx hb dd_M_make_39 rfl hl (by decide) rfl (fun ls hl => ?_)
            refine lv_iload_n hx hb dd_M_make_40 rfl (lv_at hl 0 rfl) ?_
            refine lv_if_ne (tgt := 46) hx hb dd_M_make_41 (by decide) (fun c94 => ?_) (fun c94 => ?_)
            · have hf := hf.trans (if_neg c94)
              have hok := hok.2 c94
              refine lv_iload_n hx hb dd_M_make_46 rfl (lv_at hl 2 rfl) ?_
              refine lv_bipush (v := 19) hx hb dd_M_make_47 (by decide) ?_
              refine lv_icmp_ne (tgt := 62) hx hb dd_M_make_49 (by decide) (fun c95 => ?_) (fun c95 => ?_)
              · have hf := hf.trans (if_neg c95)
                have hok := hok.2 c95
                refine lv_iload_n hx hb dd_M_make_62 rfl (lv_at hl 3 rfl) ?_
                refine lv_istore (lv' := [(4, .int p1), (3, .int 1), (0, .ref h), (1, .int p0), (2, .int p1)]) hx hb dd_M_make_63 hl (by decide) rfl (fun ls hl => ?_)
                refine lv_iconst (v := 0) hx hb dd_M_make_65 (by decide) ?_
                refine lv_istore (lv' := [(5, .int 0), (4, .int p1), (3, .int 1), (0, .ref h), (1, .int p0), (2, .int p1)]) hx hb dd_M_make_66 hl (by decide) rfl (fun ls hl => ?_)
                have loop_68 : ∀ (n : Nat) (u : SM) (H : Heap) (locs : List Loc) (x1 : Int32) (x2 : Int32) (x3 : Int32) (x4 : Int32) (x5 : Int32) (ls : Array Slot), okl_M_make_68 n u x1 x2 x3 x4 x5 → ff_M_make u0 p0 p1 = fl_M_make_68 n u x1 x2 x3 x4 x5 → va_P (dC, dI) cls_l (wM h a k u) H → va_D (aM h a) (wM h a k u) → va_S (aM h a) s.heap H locs → lv_has ls 6 [(0, .ref h), (1, .int x1), (2, .int x2), (3, .int x3), (4, .int x4), (5, .int x5)] → W p l e (headSpec ws_M_make rm_M_make).room s m ([.ref h, .int p0, .int p1] : List Value).toArray below meth c H locs 0 0 (MQ below (va_Qi (fun (r : Int32) (v : SM) => (r, v) = ff_M_make u0 p0 p1) (pM dC dI h a k) (aM h a)) ([.ref h, .int p0, .int p1] : List Value).toArray s 0 0 (aM h a)) (F0 m 68 ls []) := by
                  intro n
                  induction n with
                  | zero => intro u H locs x1 x2 x3 x4 x5 ls hok; exact (show False from hok).elim
                  | succ n ih =>
                    intro u H locs x1 x2 x3 x4 x5 ls hok hf hP hD hS hl
                    rw [fl_M_make_68] at hf
                    rw [okl_M_make_68] at hok
                    refine lv_iload hx hb dd_M_make_68 (lv_at hl 5 rfl) ?_
                    refine lv_aload_n hx hb dd_M_make_70 rfl (lv_at hl 0 rfl) ?_
                    refine va_get (D := (dC, dI)) (ci := 0) (v := .int (m_objs u)) (C := "ClassObjectMirrorModel") (T := TM) (N := 12) hx hb hts inM hown hK hP 0 rfl rfl 9 (by decide) (hts _ gw_310) (fun _ h9 => h9) rfl dd_M_make_71 ?_
                    refine lv_icmp_ge (tgt := 116) hx hb dd_M_make_74 (by decide) (fun c96 => ?_) (fun c96 => ?_)
                    · have hf := hf.trans (if_pos c96)
                      have hok := hok.1 c96
                      refine lv_aload_n hx hb dd_M_make_116 rfl (lv_at hl 0 rfl) ?_
                      refine va_get (D := (dC, dI)) (ci := 0) (v := .int (m_objs u)) (C := "ClassObjectMirrorModel") (T := TM) (N := 12) hx hb hts inM hown hK hP 0 rfl rfl 9 (by decide) (hts _ gw_310) (fun _ h9 => h9) rfl dd_M_make_117 ?_
                      refine lv_bipush (v := 80) hx hb dd_M_make_120 (by decide) ?_
                      refine lv_icmp_ne (tgt := 130) hx hb dd_M_make_122 (by decide) (fun c97 => ?_) (fun c97 => ?_)
                      · have hf := hf.trans (if_neg c97)
                        have hok := hok.2 c97
                        refine lv_aload_n hx hb dd_M_make_130 rfl (lv_at hl 0 rfl) ?_
                        refine lv_iload_n hx hb dd_M_make_131 rfl (lv_at hl 1 rfl) ?_
                        refine lv_iconst (v := (-1)) hx hb dd_M_make_132 (by decide) ?_
                        refine lv_iload hx hb dd_M_make_133 (lv_at hl 4 rfl) ?_
                        have n98 := hok
                        refine va_calli (va_runV (As := [.int x1, .int (-1), .int x4]) (rest := []) ⟨hx, hb, hml, hown, hts⟩ (mm_M_create l dC dI h a k u x1 ((-1) : Int32) x4 n98) (cwV 3 hts (gg_V gw_447 gw_449 gs_28 gw_2 gw_450) rfl rfl rfl (by decide +kernel) ⟨Nat.le_of_ble_eq_true rfl, Nat.le_of_ble_eq_true rfl⟩) ⟨pM_bl, va_recv hK hP (ci := 0) (q0 := 0) rfl rfl, fun U hU hW => ⟨rfl, pM_up hP hK hD hU hW⟩⟩ rfl rfl hl.1 rfl (lv_room (Nat.le_of_ble_eq_true rfl)) dd_M_make_135 ⟨Nat.zero_le _, Nat.zero_le _⟩) hS (fun q _ h => h) (fun q h => h) (fun r9 v9 t9 H locs ht9 hvm9 hw9 hB9 hz9 hk9 hS => ?_)
                        obtain ⟨rfl, rfl⟩ : r9 = (ff_M_create u x1 ((-1) : Int32) x4).1 ∧ v9 = (ff_M_create u x1 ((-1) : Int32) x4).2 := by rw [← hw9]; exact ⟨rfl, rfl⟩
                        obtain ⟨hP, -, hD⟩ := hB9
                        rw [ht9] at hP
                        exact W.iret (v := ((ff_M_create u x1 ((-1) : Int32) x4).1)) hx hb hr (fun t ht hW => ⟨⟨((ff_M_create u x1 ((-1) : Int32) x4).1), (ff_M_create u x1 ((-1) : Int32) x4).2, rfl, hf.symm, pM_up hP hK hD ht hW⟩, hS.F ht⟩) hS.2.2 dd_M_make_138
                      · have hf := hf.trans (if_pos c97)
                        have hok := hok.1 c97
                        refine lv_bipush (v := (-8)) hx hb dd_M_make_125 (by decide) ?_
                        refine lv_goto (tgt := 138) hx hb dd_M_make_127 (by decide) ?_
                        exact W.iret (v := ((-8) : Int32)) hx hb hr (fun t ht hW => ⟨⟨((-8) : Int32), u, rfl, hf.symm, pM_up hP hK hD ht hW⟩, hS.F ht⟩) hS.2.2 dd_M_make_138
                    · have hf := hf.trans (if_neg c96)
                      have hok := hok.2 c96
                      refine lv_iload_n hx hb dd_M_make_77 rfl (lv_at hl 1 rfl) ?_
                      refine lv_bipush (v := 19) hx hb dd_M_make_78 (by decide) ?_
                      refine lv_icmp_ne (tgt := 116) hx hb dd_M_make_80 (by decide) (fun c99 => ?_) (fun c99 => ?_)
                      · have hf := hf.trans (if_neg c99)
                        have hok := hok.2 c99
                        refine lv_aload_n hx hb dd_M_make_116 rfl (lv_at hl 0 rfl) ?_
                        refine va_get (D := (dC, dI)) (ci := 0) (v := .int (m_objs u)) (C := "ClassObjectMirrorModel") (T := TM) (N := 12) hx hb hts inM hown hK hP 0 rfl rfl 9 (by decide) (hts _ gw_310) (fun _ h9 => h9) rfl dd_M_make_117 ?_
                        refine lv_bipush (v := 80) hx hb dd_M_make_120 (by decide) ?_
                        refine lv_icmp_ne (tgt := 130) hx hb dd_M_make_122 (by decide) (fun c100 => ?_) (fun c100 => ?_)
                        · have hf := hf.trans (if_neg c100)
                          have hok := hok.2 c100
                          refine lv_aload_n hx hb dd_M_make_130 rfl (lv_at hl 0 rfl) ?_
                          refine lv_iload_n hx hb dd_M_make_131 rfl (lv_at hl 1 rfl) ?_
                          refine lv_iconst (v := (-1)) hx hb dd_M_make_132 (by decide) ?_
                          refine lv_iload hx hb dd_M_make_133 (lv_at hl 4 rfl) ?_
                          have n101 := hok
                          refine va_calli (va_runV (As := [.int x1, .int (-1), .int x4]) (rest := []) ⟨hx, hb, hml, hown, hts⟩ (mm_M_create l dC dI h a k u x1 ((-1) : Int32) x4 n101) (cwV 3 hts (gg_V gw_447 gw_449 gs_28 gw_2 gw_450) rfl rfl rfl (by decide +kernel) ⟨Nat.le_of_ble_eq_true rfl, Nat.le_of_ble_eq_true rfl⟩) ⟨pM_bl, va_recv hK hP (ci := 0) (q0 := 0) rfl rfl, fun U hU hW => ⟨rfl, pM_up hP hK hD hU hW⟩⟩ rfl rfl hl.1 rfl (lv_room (Nat.le_of_ble_eq_true rfl)) dd_M_make_135 ⟨Nat.zero_le _, Nat.zero_le _⟩) hS (fun q _ h => h) (fun q h => h) (fun r9 v9 t9 H locs ht9 hvm9 hw9 hB9 hz9 hk9 hS => ?_)
                          obtain ⟨rfl, rfl⟩ : r9 = (ff_M_create u x1 ((-1) : Int32) x4).1 ∧ v9 = (ff_M_create u x1 ((-1) : Int32) x4).2 := by rw [← hw9]; exact ⟨rfl, rfl⟩
                          obtain ⟨hP, -, hD⟩ := hB9
                          rw [ht9] at hP
                          exact W.iret (v := ((ff_M_create u x1 ((-1) : Int32) x4).1)) hx hb hr (fun t ht hW => ⟨⟨((ff_M_create u x1 ((-1) : Int32) x4).1), (ff_M_create u x1 ((-1) : Int32) x4).2, rfl, hf.symm, pM_up hP hK hD ht hW⟩, hS.F ht⟩) hS.2.2 dd_M_make_138
                        · have hf := hf.trans (if_pos c100)
                          have hok := hok.1 c100
                          refine lv_bipush (v := (-8)) hx hb dd_M_make_125 (by decide) ?_
                          refine lv_goto (tgt := 138) hx hb dd_M_make_127 (by decide) ?_
                          exact W.iret (v := ((-8) : Int32)) hx hb hr (fun t ht hW => ⟨⟨((-8) : Int32), u, rfl, hf.symm, pM_up hP hK hD ht hW⟩, hS.F ht⟩) hS.2.2 dd_M_make_138
                      · have hf := hf.trans (if_pos c99)
                        have hok := hok.1 c99
                        refine lv_aload_n hx hb dd_M_make_83 rfl (lv_at hl 0 rfl) ?_
                        refine va_get (D := (dC, dI)) (ci := 0) (v := .ref (a 4)) (C := "ClassObjectMirrorModel") (T := TM) (N := 12) hx hb hts inM hown hK hP 0 rfl rfl 5 (by decide) (hts _ gw_306) (fun _ h9 => h9) rfl dd_M_make_84 ?_
                        refine lv_iload hx hb dd_M_make_87 (lv_at hl 5 rfl) ?_
                        obtain ⟨n102, hok⟩ := hok
                        refine va_iald hx hb hK hP 5 4 rfl rfl n102 dd_M_make_89 ?_
                        refine lv_bipush (v := 19) hx hb dd_M_make_90 (by decide) ?_
                        refine lv_icmp_ne (tgt := 110) hx hb dd_M_make_92 (by decide) (fun c103 => ?_) (fun c103 => ?_)
                        · have hf := hf.trans (if_neg c103)
                          have hok := hok.2 c103
                          refine lv_iinc (v := x5 + 1) (lv' := [(5, .int (x5 + 1)), (0, .ref h), (1, .int x1), (2, .int x2), (3, .int x3), (4, .int x4)]) hx hb dd_M_make_110 hl (k := 5) rfl rfl (by decide) rfl (fun ls hl => ?_)
                          refine lv_goto (tgt := 68) hx hb dd_M_make_113 (by decide) ?_
                          exact ih u _ _ x1 x2 x3 x4 (x5 + 1) ls hok hf hP hD hS (lv_sub hl [1, 2, 3, 4, 5, 0] rfl)
                        · have hf := hf.trans (if_pos c103)
                          have hok := hok.1 c103
                          refine lv_aload_n hx hb dd_M_make_95 rfl (lv_at hl 0 rfl) ?_
                          refine va_get (D := (dC, dI)) (ci := 0) (v := .ref (a 6)) (C := "ClassObjectMirrorModel") (T := TM) (N := 12) hx hb hts inM hown hK hP 0 rfl rfl 7 (by decide) (hts _ gw_308) (fun _ h9 => h9) rfl dd_M_make_96 ?_
                          refine lv_iload hx hb dd_M_make_99 (lv_at hl 5 rfl) ?_
                          obtain ⟨n104, hok⟩ := hok
                          refine va_iald hx hb hK hP 7 6 rfl rfl n104 dd_M_make_101 ?_
                          refine lv_iload hx hb dd_M_make_102 (lv_at hl 4 rfl) ?_
                          refine lv_icmp_ne (tgt := 110) hx hb dd_M_make_104 (by decide) (fun c105 => ?_) (fun c105 => ?_)
                          · have hf := hf.trans (if_neg c105)
                            have hok := hok.2 c105
                            refine lv_iinc (v := x5 + 1) (lv' := [(5, .int (x5 + 1)), (0, .ref h), (1, .int x1), (2, .int x2), (3, .int x3), (4, .int x4)]) hx hb dd_M_make_110 hl (k := 5) rfl rfl (by decide) rfl (fun ls hl => ?_)
                            refine lv_goto (tgt := 68) hx hb dd_M_make_113 (by decide) ?_
                            exact ih u _ _ x1 x2 x3 x4 (x5 + 1) ls hok hf hP hD hS (lv_sub hl [1, 2, 3, 4, 5, 0] rfl)
                          · have hf := hf.trans (if_pos c105)
                            have hok := hok.1 c105
                            refine lv_iload hx hb dd_M_make_107 (lv_at hl 5 rfl) ?_
                            exact W.iret (v := x5) hx hb hr (fun t ht hW => ⟨⟨x5, u, rfl, hf.symm, pM_up hP hK hD ht hW⟩, hS.F ht⟩) hS.2.2 dd_M_make_109
                exact loop_68 400 u0 _ _ p0 p1 (1 : Int32) p1 (0 : Int32) ls hok hf hP hD hS (lv_sub hl [3, 4, 5, 2, 1, 0] rfl)
              · have hf := hf.trans (if_pos c95)
                have hok := hok.1 c95
                refine lv_iload_n hx hb dd_M_make_52 rfl (lv_at hl 3 rfl) ?_
                refine lv_iconst (v := 3) hx hb dd_M_make_53 (by decide) ?_
                refine lv_irem hx hb dd_M_make_54 (by decide) ?_
                refine lv_iconst (v := 3) hx hb dd_M_make_55 (by decide) ?_
                refine lv_iadd hx hb dd_M_make_56 ?_
                refine lv_iconst (v := 3) hx hb dd_M_make_57 (by decide) ?_
                refine lv_irem hx hb dd_M_make_58 (by decide) ?_
                refine lv_goto (tgt := 63) hx hb dd_M_make_59 (by decide) ?_
                refine lv_istore (lv' := [(4, .int (((p1 - p1 / 3 * 3) + 3) - ((p1 - p1 / 3 * 3) + 3) / 3 * 3)), (3, .int 1), (0, .ref h), (1, .int p0), (2, .int p1)]) hx hb dd_M_make_63 hl (by decide) rfl (fun ls hl => ?_)
                refine lv_iconst (v := 0) hx hb dd_M_make_65 (by decide) ?_
                refine lv_istore (lv' := [(5, .int 0), (4, .int (((p1 - p1 / 3 * 3) + 3) - ((p1 - p1 / 3 * 3) + 3) / 3 * 3)), (3, .int 1), (0, .ref h), (1, .int p0), (2, .int p1)]) hx hb dd_M_make_66 hl (by decide) rfl (fun ls hl => ?_)
                have loop_68 : ∀ (n : Nat) (u : SM) (H : Heap) (locs : List Loc) (x1 : Int32) (x2 : Int32) (x3 : Int32) (x4 : Int32) (x5 : Int32) (ls : Array Slot), okl_M_make_68 n u x1 x2 x3 x4 x5 → ff_M_make u0 p0 p1 = fl_M_make_68 n u x1 x2 x3 x4 x5 → va_P (dC, dI) cls_l (wM h a k u) H → va_D (aM h a) (wM h a k u) → va_S (aM h a) s.heap H locs → lv_has ls 6 [(0, .ref h), (1, .int x1), (2, .int x2), (3, .int x3), (4, .int x4), (5, .int x5)] → W p l e (headSpec ws_M_make rm_M_make).room s m ([.ref h, .int p0, .int p1] : List Value).toArray below meth c H locs 0 0 (MQ below (va_Qi (fun (r : Int32) (v : SM) => (r, v) = ff_M_make u0 p0 p1) (pM dC dI h a k) (aM h a)) ([.ref h, .int p0, .int p1] : List Value).toArray s 0 0 (aM h a)) (F0 m 68 ls []) := by
                  intro n
                  induction n with
                  | zero => intro u H locs x1 x2 x3 x4 x5 ls hok; exact (show False from hok).elim
                  | succ n ih =>
                    intro u H locs x1 x2 x3 x4 x5 ls hok hf hP hD hS hl
                    rw [fl_M_make_68] at hf
                    rw [okl_M_make_68] at hok
                    refine lv_iload hx hb dd_M_make_68 (lv_at hl 5 rfl) ?_
                    refine lv_aload_n hx hb dd_M_make_70 rfl (lv_at hl 0 rfl) ?_
                    refine va_get (D := (dC, dI)) (ci := 0) (v := .int (m_objs u)) (C := "ClassObjectMirrorModel") (T := TM) (N := 12) hx hb hts inM hown hK hP 0 rfl rfl 9 (by decide) (hts _ gw_310) (fun _ h9 => h9) rfl dd_M_make_71 ?_
                    refine lv_icmp_ge (tgt := 116) hx hb dd_M_make_74 (by decide) (fun c106 => ?_) (fun c106 => ?_)
                    · have hf := hf.trans (if_pos c106)
                      have hok := hok.1 c106
                      refine lv_aload_n hx hb dd_M_make_116 rfl (lv_at hl 0 rfl) ?_
                      refine va_get (D := (dC, dI)) (ci := 0) (v := .int (m_objs u)) (C := "ClassObjectMirrorModel") (T := TM) (N := 12) hx hb hts inM hown hK hP 0 rfl rfl 9 (by decide) (hts _ gw_310) (fun _ h9 => h9) rfl dd_M_make_117 ?_
                      refine lv_bipush (v := 80) hx hb dd_M_make_120 (by decide) ?_
                      refine lv_icmp_ne (tgt := 130) hx hb dd_M_make_122 (by decide) (fun c107 => ?_) (fun c107 => ?_)
                      · have hf := hf.trans (if_neg c107)
                        have hok := hok.2 c107
                        refine lv_aload_n hx hb dd_M_make_130 rfl (lv_at hl 0 rfl) ?_
                        refine lv_iload_n hx hb dd_M_make_131 rfl (lv_at hl 1 rfl) ?_
                        refine lv_iconst (v := (-1)) hx hb dd_M_make_132 (by decide) ?_
                        refine lv_iload hx hb dd_M_make_133 (lv_at hl 4 rfl) ?_
                        have n108 := hok
                        refine va_calli (va_runV (As := [.int x1, .int (-1), .int x4]) (rest := []) ⟨hx, hb, hml, hown, hts⟩ (mm_M_create l dC dI h a k u x1 ((-1) : Int32) x4 n108) (cwV 3 hts (gg_V gw_447 gw_449 gs_28 gw_2 gw_450) rfl rfl rfl (by decide +kernel) ⟨Nat.le_of_ble_eq_true rfl, Nat.le_of_ble_eq_true rfl⟩) ⟨pM_bl, va_recv hK hP (ci := 0) (q0 := 0) rfl rfl, fun U hU hW => ⟨rfl, pM_up hP hK hD hU hW⟩⟩ rfl rfl hl.1 rfl (lv_room (Nat.le_of_ble_eq_true rfl)) dd_M_make_135 ⟨Nat.zero_le _, Nat.zero_le _⟩) hS (fun q _ h => h) (fun q h => h) (fun r9 v9 t9 H locs ht9 hvm9 hw9 hB9 hz9 hk9 hS => ?_)
                        obtain ⟨rfl, rfl⟩ : r9 = (ff_M_create u x1 ((-1) : Int32) x4).1 ∧ v9 = (ff_M_create u x1 ((-1) : Int32) x4).2 := by rw [← hw9]; exact ⟨rfl, rfl⟩
                        obtain ⟨hP, -, hD⟩ := hB9
                        rw [ht9] at hP
                        exact W.iret (v := ((ff_M_create u x1 ((-1) : Int32) x4).1)) hx hb hr (fun t ht hW => ⟨⟨((ff_M_create u x1 ((-1) : Int32) x4).1), (ff_M_create u x1 ((-1) : Int32) x4).2, rfl, hf.symm, pM_up hP hK hD ht hW⟩, hS.F ht⟩) hS.2.2 dd_M_make_138
                      · have hf := hf.trans (if_pos c107)
                        have hok := hok.1 c107
                        refine lv_bipush (v := (-8)) hx hb dd_M_make_125 (by decide) ?_
                        refine lv_goto (tgt := 138) hx hb dd_M_make_127 (by decide) ?_
                        exact W.iret (v := ((-8) : Int32)) hx hb hr (fun t ht hW => ⟨⟨((-8) : Int32), u, rfl, hf.symm, pM_up hP hK hD ht hW⟩, hS.F ht⟩) hS.2.2 dd_M_make_138
                    · have hf := hf.trans (if_neg c106)
                      have hok := hok.2 c106
                      refine lv_iload_n hx hb dd_M_make_77 rfl (lv_at hl 1 rfl) ?_
                      refine lv_bipush (v := 19) hx hb dd_M_make_78 (by decide) ?_
                      refine lv_icmp_ne (tgt := 116) hx hb dd_M_make_80 (by decide) (fun c109 => ?_) (fun c109 => ?_)
                      · have hf := hf.trans (if_neg c109)
                        have hok := hok.2 c109
                        refine lv_aload_n hx hb dd_M_make_116 rfl (lv_at hl 0 rfl) ?_
                        refine va_get (D := (dC, dI)) (ci := 0) (v := .int (m_objs u)) (C := "ClassObjectMirrorModel") (T := TM) (N := 12) hx hb hts inM hown hK hP 0 rfl rfl 9 (by decide) (hts _ gw_310) (fun _ h9 => h9) rfl dd_M_make_117 ?_
                        refine lv_bipush (v := 80) hx hb dd_M_make_120 (by decide) ?_
                        refine lv_icmp_ne (tgt := 130) hx hb dd_M_make_122 (by decide) (fun c110 => ?_) (fun c110 => ?_)
                        · have hf := hf.trans (if_neg c110)
                          have hok := hok.2 c110
                          refine lv_aload_n hx hb dd_M_make_130 rfl (lv_at hl 0 rfl) ?_
                          refine lv_iload_n hx hb dd_M_make_131 rfl (lv_at hl 1 rfl) ?_
                          refine lv_iconst (v := (-1)) hx hb dd_M_make_132 (by decide) ?_
                          refine lv_iload hx hb dd_M_make_133 (lv_at hl 4 rfl) ?_
                          have n111 := hok
                          refine va_calli (va_runV (As := [.int x1, .int (-1), .int x4]) (rest := []) ⟨hx, hb, hml, hown, hts⟩ (mm_M_create l dC dI h a k u x1 ((-1) : Int32) x4 n111) (cwV 3 hts (gg_V gw_447 gw_449 gs_28 gw_2 gw_450) rfl rfl rfl (by decide +kernel) ⟨Nat.le_of_ble_eq_true rfl, Nat.le_of_ble_eq_true rfl⟩) ⟨pM_bl, va_recv hK hP (ci := 0) (q0 := 0) rfl rfl, fun U hU hW => ⟨rfl, pM_up hP hK hD hU hW⟩⟩ rfl rfl hl.1 rfl (lv_room (Nat.le_of_ble_eq_true rfl)) dd_M_make_135 ⟨Nat.zero_le _, Nat.zero_le _⟩) hS (fun q _ h => h) (fun q h => h) (fun r9 v9 t9 H locs ht9 hvm9 hw9 hB9 hz9 hk9 hS => ?_)
                          obtain ⟨rfl, rfl⟩ : r9 = (ff_M_create u x1 ((-1) : Int32) x4).1 ∧ v9 = (ff_M_create u x1 ((-1) : Int32) x4).2 := by rw [← hw9]; exact ⟨rfl, rfl⟩
                          obtain ⟨hP, -, hD⟩ := hB9
                          rw [ht9] at hP
                          exact W.iret (v := ((ff_M_create u x1 ((-1) : Int32) x4).1)) hx hb hr (fun t ht hW => ⟨⟨((ff_M_create u x1 ((-1) : Int32) x4).1), (ff_M_create u x1 ((-1) : Int32) x4).2, rfl, hf.symm, pM_up hP hK hD ht hW⟩, hS.F ht⟩) hS.2.2 dd_M_make_138
                        · have hf := hf.trans (if_pos c110)
                          have hok := hok.1 c110
                          refine lv_bipush (v := (-8)) hx hb dd_M_make_125 (by decide) ?_
                          refine lv_goto (tgt := 138) hx hb dd_M_make_127 (by decide) ?_
                          exact W.iret (v := ((-8) : Int32)) hx hb hr (fun t ht hW => ⟨⟨((-8) : Int32), u, rfl, hf.symm, pM_up hP hK hD ht hW⟩, hS.F ht⟩) hS.2.2 dd_M_make_138
                      · have hf := hf.trans (if_pos c109)
                        have hok := hok.1 c109
                        refine lv_aload_n hx hb dd_M_make_83 rfl (lv_at hl 0 rfl) ?_
                        refine va_get (D := (dC, dI)) (ci := 0) (v := .ref (a 4)) (C := "ClassObjectMirrorModel") (T := TM) (N := 12) hx hb hts inM hown hK hP 0 rfl rfl 5 (by decide) (hts _ gw_306) (fun _ h9 => h9) rfl dd_M_make_84 ?_
                        refine lv_iload hx hb dd_M_make_87 (lv_at hl 5 rfl) ?_
                        obtain ⟨n112, hok⟩ := hok
                        refine va_iald hx hb hK hP 5 4 rfl rfl n112 dd_M_make_89 ?_
                        refine lv_bipush (v := 19) hx hb dd_M_make_90 (by decide) ?_
                        refine lv_icmp_ne (tgt := 110) hx hb dd_M_make_92 (by decide) (fun c113 => ?_) (fun c113 => ?_)
                        · have hf := hf.trans (if_neg c113)
                          have hok := hok.2 c113
                          refine lv_iinc (v := x5 + 1) (lv' := [(5, .int (x5 + 1)), (0, .ref h), (1, .int x1), (2, .int x2), (3, .int x3), (4, .int x4)]) hx hb dd_M_make_110 hl (k := 5) rfl rfl (by decide) rfl (fun ls hl => ?_)
                          refine lv_goto (tgt := 68) hx hb dd_M_make_113 (by decide) ?_
                          exact ih u _ _ x1 x2 x3 x4 (x5 + 1) ls hok hf hP hD hS (lv_sub hl [1, 2, 3, 4, 5, 0] rfl)
                        · have hf := hf.trans (if_pos c113)
                          have hok := hok.1 c113
                          refine lv_aload_n hx hb dd_M_make_95 rfl (lv_at hl 0 rfl) ?_
                          refine va_get (D := (dC, dI)) (ci := 0) (v := .ref (a 6)) (C := "ClassObjectMirrorModel") (T := TM) (N := 12) hx hb hts inM hown hK hP 0 rfl rfl 7 (by decide) (hts _ gw_308) (fun _ h9 => h9) rfl dd_M_make_96 ?_
                          refine lv_iload hx hb dd_M_make_99 (lv_at hl 5 rfl) ?_
                          obtain ⟨n114, hok⟩ := hok
                          refine va_iald hx hb hK hP 7 6 rfl rfl n114 dd_M_make_101 ?_
                          refine lv_iload hx hb dd_M_make_102 (lv_at hl 4 rfl) ?_
                          refine lv_icmp_ne (tgt := 110) hx hb dd_M_make_104 (by decide) (fun c115 => ?_) (fun c115 => ?_)
                          · have hf := hf.trans (if_neg c115)
                            have hok := hok.2 c115
                            refine lv_iinc (v := x5 + 1) (lv' := [(5, .int (x5 + 1)), (0, .ref h), (1, .int x1), (2, .int x2), (3, .int x3), (4, .int x4)]) hx hb dd_M_make_110 hl (k := 5) rfl rfl (by decide) rfl (fun ls hl => ?_)
                            refine lv_goto (tgt := 68) hx hb dd_M_make_113 (by decide) ?_
                            exact ih u _ _ x1 x2 x3 x4 (x5 + 1) ls hok hf hP hD hS (lv_sub hl [1, 2, 3, 4, 5, 0] rfl)
                          · have hf := hf.trans (if_pos c115)
                            have hok := hok.1 c115
                            refine lv_iload hx hb dd_M_make_107 (lv_at hl 5 rfl) ?_
                            exact W.iret (v := x5) hx hb hr (fun t ht hW => ⟨⟨x5, u, rfl, hf.symm, pM_up hP hK hD ht hW⟩, hS.F ht⟩) hS.2.2 dd_M_make_109
                exact loop_68 400 u0 _ _ p0 p1 (1 : Int32) (((p1 - p1 / 3 * 3) + 3) - ((p1 - p1 / 3 * 3) + 3) / 3 * 3) (0 : Int32) ls hok hf hP hD hS (lv_sub hl [3, 4, 5, 2, 1, 0] rfl)
            · have hf := hf.trans (if_pos c94)
              have hok := hok.1 c94
              refine lv_iconst (v := (-1)) hx hb dd_M_make_44 (by decide) ?_
              exact W.iret (v := ((-1) : Int32)) hx hb hr (fun t ht hW => ⟨⟨((-1) : Int32), u0, rfl, hf.symm, pM_up hP hK hD ht hW⟩, hS.F ht⟩) hS.2.2 dd_M_make_45
  · have hf := hf.trans (if_neg c1)
    have hok := hok.2 c1
    refine lv_iconst (v := (-1)) hx hb dd_M_make_8 (by decide) ?_
    exact W.iret (v := ((-1) : Int32)) hx hb hr (fun t ht hW => ⟨⟨((-1) : Int32), u0, rfl, hf.symm, pM_up hP hK hD ht hW⟩, hS.F ht⟩) hS.2.2 dd_M_make_9

def ff_M_makeArray (u0 : SM) (p0 : Int32) (p1 : Int32) : Int32 × SM := (if (ff_M_noType u0 p0) = 0 then (if (ff_M_search u0 p0) = (-2) then ((-2), u0) else (if 0 ≤ p1 then (if 8 < p1 then ((-8), u0) else (if (m_objs u0) = 80 then ((-8), u0) else (if (ff_M_search u0 p0) = (-8) then ((-8), u0) else ((ff_M_create (ff_M_enter u0 (ff_M_search u0 p0) p0) (ff_M_search u0 p0) p1 (0 : Int32)).1, (ff_M_create (ff_M_enter u0 (ff_M_search u0 p0) p0) (ff_M_search u0 p0) p1 (0 : Int32)).2)))) else ((-3), u0))) else ((-1), u0))
def ok_M_makeArray (u0 : SM) (p0 : Int32) (p1 : Int32) : Prop := ((((ff_M_noType u0 p0) = 0) → (ok_M_search u0 p0) ∧ ((((ff_M_search u0 p0) = (-2)) → True) ∧ (¬ ((ff_M_search u0 p0) = (-2)) → (((0 ≤ p1) → (((8 < p1) → True) ∧ (¬ (8 < p1) → ((((m_objs u0) = 80) → True) ∧ (¬ ((m_objs u0) = 80) → ((((ff_M_search u0 p0) = (-8)) → True) ∧ (¬ ((ff_M_search u0 p0) = (-8)) → (ok_M_enter u0 (ff_M_search u0 p0) p0) ∧ ok_M_create (ff_M_enter u0 (ff_M_search u0 p0) p0) (ff_M_search u0 p0) p1 (0 : Int32)))))))) ∧ (¬ (0 ≤ p1) → True))))) ∧ (¬ ((ff_M_noType u0 p0) = 0) → True))
abbrev ws_M_makeArray : List Cond := .code yy_M_makeArray bb_M_makeArray 4 (some .int) :: gW
abbrev rm_M_makeArray : Room := { frames := 2, cells := 0, slots := 0, locals := 45 }
set_option maxHeartbeats 4000000 in
set_option maxRecDepth 100000 in
theorem mm_M_makeArray (l : Launch) (dC : Nat → ClassId) (dI : Nat → Nat → Nat) (h : Nat) (a : Nat → Nat) (k : Nat → ClassId) (u0 : SM) (p0 : Int32) (p1 : Int32) (hok : ok_M_makeArray u0 p0 p1) : Met l yy_M_makeArray ws_M_makeArray rm_M_makeArray (va_Pc [.ref h, .int p0, .int p1] (pM dC dI h a k u0)) (va_Qi (fun (r : Int32) (v : SM) => (r, v) = ff_M_makeArray u0 p0 p1) (pM dC dI h a k) (aM h a)) 0 0 (aM h a) := by
  refine Met.ofW (cc := bb_M_makeArray) (maxL := 4) (ret := (some .int)) (by decide) rfl ?_
  intro p e s m args below meth c s₁ B hml hv
  obtain ⟨rfl, hP, hK, hD⟩ := hv
  have hx := B.exec
  have hb := B.bytes
  have hr := B.returns
  have hts : ∀ w ∈ gW, w.before _ s = true := fun w h => atoms_spec (ws := ws_M_makeArray) B.pre w (List.mem_cons_of_mem _ h)
  have hown : s.vm.findClass "ClassObjectMirrorModel" = some m.cls := findClass_of_methodNamed B.named
  have hlocks := B.notSynchronized
  have hS : va_S (aM h a) s.heap s.heap [] := va_S.rf
  have hl := lv_entry ([.ref h, .int p0, .int p1]) (n := 4) (Nat.le_of_ble_eq_true rfl)
  rw [lg_entry_eq]
  generalize (lg_sl ([.ref h, .int p0, .int p1]) ++ List.replicate (4 - (lg_sl ([.ref h, .int p0, .int p1])).length) Slot.unset).toArray = ls at hl ⊢
  have hl : lv_has ls 4 [(0, .ref h), (1, .int p0), (2, .int p1)] := hl
  have hf := ff_M_makeArray.eq_1 u0 p0 p1
  unfold ok_M_makeArray at hok
  refine lv_aload_n hx hb dd_M_makeArray_0 rfl (lv_at hl 0 rfl) ?_
  refine lv_iload_n hx hb dd_M_makeArray_1 rfl (lv_at hl 1 rfl) ?_
  refine vp_callSi (W.runV (As := [.int p0]) (rest := []) ⟨hx, hb, hml, hown, hts⟩ (mm_M_noType l dC dI h a k u0 p0) (cwV 1 hts (gg_V gw_342 gw_344 gs_18 gw_2 gw_345) rfl rfl rfl (by decide +kernel) ⟨Nat.le_of_ble_eq_true rfl, Nat.le_of_ble_eq_true rfl⟩) ⟨pM_bl, va_recv hK hP (ci := 0) (q0 := 0) rfl rfl, fun U hU hW => ⟨rfl, pM_up hP hK hD hU hW⟩⟩ rfl rfl hl.1 rfl (lv_room (Nat.le_of_ble_eq_true rfl)) dd_M_makeArray_2 ⟨Nat.zero_le _, Nat.zero_le _⟩) (fun r hr9 => ?_)
  subst hr9
  refine lv_if_eq (tgt := 10) hx hb dd_M_makeArray_5 (by decide) (fun c1 => ?_) (fun c1 => ?_)
  · have hf := hf.trans (if_pos c1)
    have hok := hok.1 c1
    refine lv_aload_n hx hb dd_M_makeArray_10 rfl (lv_at hl 0 rfl) ?_
    refine lv_iload_n hx hb dd_M_makeArray_11 rfl (lv_at hl 1 rfl) ?_
    obtain ⟨n2, hok⟩ := hok
    refine vp_callSi (W.runV (As := [.int p0]) (rest := []) ⟨hx, hb, hml, hown, hts⟩ (mm_M_search l dC dI h a k u0 p0 n2) (cwV 1 hts (gg_V gw_346 gw_348 gs_19 gw_2 gw_349) rfl rfl rfl (by decide +kernel) ⟨Nat.le_of_ble_eq_true rfl, Nat.le_of_ble_eq_true rfl⟩) ⟨pM_bl, va_recv hK hP (ci := 0) (q0 := 0) rfl rfl, fun U hU hW => ⟨rfl, pM_up hP hK hD hU hW⟩⟩ rfl rfl hl.1 rfl (lv_room (Nat.le_of_ble_eq_true rfl)) dd_M_makeArray_12 ⟨Nat.zero_le _, Nat.zero_le _⟩) (fun r hr9 => ?_)
    subst hr9
    refine lv_istore_n (lv' := [(3, .int (ff_M_search u0 p0)), (0, .ref h), (1, .int p0), (2, .int p1)]) hx hb dd_M_makeArray_15 rfl hl (by decide) rfl (fun ls hl => ?_)
    refine lv_iload_n hx hb dd_M_makeArray_16 rfl (lv_at hl 0 rfl) ?_
    refine lv_bipush (v := (-2)) hx hb dd_M_makeArray_17 (by decide) ?_
    refine lv_icmp_ne (tgt := 25) hx hb dd_M_makeArray_19 (by decide) (fun c3 => ?_) (fun c3 => ?_)
    · have hf := hf.trans (if_neg c3)
      have hok := hok.2 c3
      refine lv_iload_n hx hb dd_M_makeArray_25 rfl (lv_at hl 3 rfl) ?_
      refine lv_if_ge (tgt := 32) hx hb dd_M_makeArray_26 (by decide) (fun c4 => ?_) (fun c4 => ?_)
      · have hf := hf.trans (if_pos c4)
        have hok := hok.1 c4
        refine lv_iload_n hx hb dd_M_makeArray_32 rfl (lv_at hl 3 rfl) ?_
        refine lv_bipush (v := 8) hx hb dd_M_makeArray_33 (by decide) ?_
        refine lv_icmp_gt (tgt := 53) hx hb dd_M_makeArray_35 (by decide) (fun c5 => ?_) (fun c5 => ?_)
        · have hf := hf.trans (if_pos c5)
          have hok := hok.1 c5
          refine lv_bipush (v := (-8)) hx hb dd_M_makeArray_53 (by decide) ?_
          exact W.iret (v := ((-8) : Int32)) hx hb hr (fun t ht hW => ⟨⟨((-8) : Int32), u0, rfl, hf.symm, pM_up hP hK hD ht hW⟩, hS.F ht⟩) hS.2.2 dd_M_makeArray_55
        · have hf := hf.trans (if_neg c5)
          have hok := hok.2 c5
          refine lv_aload_n hx hb dd_M_makeArray_38 rfl (lv_at hl 1 rfl) ?_
          refine va_get (D := (dC, dI)) (ci := 0) (v := .int (m_objs u0)) (C := "ClassObjectMirrorModel") (T := TM) (N := 12) hx hb hts inM hown hK hP 0 rfl rfl 9 (by decide) (hts _ gw_310) (fun _ h9 => h9) rfl dd_M_makeArray_39 ?_
          refine lv_bipush (v := 80) hx hb dd_M_makeArray_42 (by decide) ?_
          refine lv_icmp_eq (tgt := 53) hx hb dd_M_makeArray_44 (by decide) (fun c6 => ?_) (fun c6 => ?_)
          · have hf := hf.trans (if_pos c6)
            have hok := hok.1 c6
            refine lv_bipush (v := (-8)) hx hb dd_M_makeArray_53 (by decide) ?_
            exact W.iret (v := ((-8) : Int32)) hx hb hr (fun t ht hW => ⟨⟨((-8) : Int32), u0, rfl, hf.symm, pM_up hP hK hD ht hW⟩, hS.F ht⟩) hS.2.2 dd_M_makeArray_55
          · have hf := hf.trans (if_neg c6)
            have hok := hok.2 c6
            refine lv_iload_n hx hb dd_M_makeArray_47 rfl (lv_at hl 0 rfl) ?_
            refine lv_bipush (v := (-8)) hx hb dd_M_makeArray_48 (by decide) ?_
            refine lv_icmp_ne (tgt := 56) hx hb dd_M_makeArray_50 (by decide) (fun c7 => ?_) (fun c7 => ?_)
            · have hf := hf.trans (if_neg c7)
              have hok := hok.2 c7
              refine lv_aload_n hx hb dd_M_makeArray_56 rfl (lv_at hl 1 rfl) ?_
              refine lv_iload_n hx hb dd_M_makeArray_57 rfl (lv_at hl 0 rfl) ?_
              refine lv_iload_n hx hb dd_M_makeArray_58 rfl (lv_at hl 2 rfl) ?_
              obtain ⟨n8, hok⟩ := hok
              refine va_callv (va_runV (As := [.int (ff_M_search u0 p0), .int p0]) (rest := []) ⟨hx, hb, hml, hown, hts⟩ (mm_M_enter l dC dI h a k u0 (ff_M_search u0 p0) p0 n8) (cwV 2 hts (gg_V gw_350 gw_352 gs_20 gw_2 gw_353) rfl rfl rfl (by decide +kernel) ⟨Nat.le_of_ble_eq_true rfl, Nat.le_of_ble_eq_true rfl⟩) ⟨pM_bl, va_recv hK hP (ci := 0) (q0 := 0) rfl rfl, fun U hU hW => ⟨rfl, pM_up hP hK hD hU hW⟩⟩ rfl rfl hl.1 rfl (lv_room (Nat.le_of_ble_eq_true rfl)) dd_M_makeArray_59 ⟨Nat.zero_le _, Nat.zero_le _⟩) hS (fun q _ h => h) (fun q h => h) (fun v9 t9 H locs ht9 hvm9 hw9 hB9 hz9 hk9 hS => ?_)
              subst hw9
              obtain ⟨hP, -, hD⟩ := hB9
              rw [ht9] at hP
              refine lv_aload_n hx hb dd_M_makeArray_62 rfl (lv_at hl 1 rfl) ?_
              refine lv_iload_n hx hb dd_M_makeArray_63 rfl (lv_at hl 0 rfl) ?_
              refine lv_iload_n hx hb dd_M_makeArray_64 rfl (lv_at hl 3 rfl) ?_
              refine lv_iconst (v := 0) hx hb dd_M_makeArray_65 (by decide) ?_
              have n9 := hok
              refine va_calli (va_runV (As := [.int (ff_M_search u0 p0), .int p1, .int 0]) (rest := []) ⟨hx, hb, hml, hown, hts⟩ (mm_M_create l dC dI h a k (ff_M_enter u0 (ff_M_search u0 p0) p0) (ff_M_search u0 p0) p1 (0 : Int32) n9) (cwV 3 hts (gg_V gw_447 gw_449 gs_28 gw_2 gw_450) rfl rfl rfl (by decide +kernel) ⟨Nat.le_of_ble_eq_true rfl, Nat.le_of_ble_eq_true rfl⟩) ⟨pM_bl, va_recv hK hP (ci := 0) (q0 := 0) rfl rfl, fun U hU hW => ⟨rfl, pM_up hP hK hD hU hW⟩⟩ rfl rfl hl.1 rfl (lv_room (Nat.le_of_ble_eq_true rfl)) dd_M_makeArray_66 ⟨Nat.zero_le _, Nat.zero_le _⟩) hS (fun q _ h => h) (fun q h => h) (fun r9 v9 t9 H locs ht9 hvm9 hw9 hB9 hz9 hk9 hS => ?_)
              obtain ⟨rfl, rfl⟩ : r9 = (ff_M_create (ff_M_enter u0 (ff_M_search u0 p0) p0) (ff_M_search u0 p0) p1 (0 : Int32)).1 ∧ v9 = (ff_M_create (ff_M_enter u0 (ff_M_search u0 p0) p0) (ff_M_search u0 p0) p1 (0 : Int32)).2 := by rw [← hw9]; exact ⟨rfl, rfl⟩
              obtain ⟨hP, -, hD⟩ := hB9
              rw [ht9] at hP
              exact W.iret (v := ((ff_M_create (ff_M_enter u0 (ff_M_search u0 p0) p0) (ff_M_search u0 p0) p1 (0 : Int32)).1)) hx hb hr (fun t ht hW => ⟨⟨((ff_M_create (ff_M_enter u0 (ff_M_search u0 p0) p0) (ff_M_search u0 p0) p1 (0 : Int32)).1), (ff_M_create (ff_M_enter u0 (ff_M_search u0 p0) p0) (ff_M_search u0 p0) p1 (0 : Int32)).2, rfl, hf.symm, pM_up hP hK hD ht hW⟩, hS.F ht⟩) hS.2.2 dd_M_makeArray_69
            · have hf := hf.trans (if_pos c7)
              have hok := hok.1 c7
              refine lv_bipush (v := (-8)) hx hb dd_M_makeArray_53 (by decide) ?_
              exact W.iret (v := ((-8) : Int32)) hx hb hr (fun t ht hW => ⟨⟨((-8) : Int32), u0, rfl, hf.symm, pM_up hP hK hD ht hW⟩, hS.F ht⟩) hS.2.2 dd_M_makeArray_55
      · have hf := hf.trans (if_neg c4)
        have hok := hok.2 c4
        refine lv_bipush (v := (-3)) hx hb dd_M_makeArray_29 (by decide) ?_
        exact W.iret (v := ((-3) : Int32)) hx hb hr (fun t ht hW => ⟨⟨((-3) : Int32), u0, rfl, hf.symm, pM_up hP hK hD ht hW⟩, hS.F ht⟩) hS.2.2 dd_M_makeArray_31
    · have hf := hf.trans (if_pos c3)
      have hok := hok.1 c3
      refine lv_bipush (v := (-2)) hx hb dd_M_makeArray_22 (by decide) ?_
      exact W.iret (v := ((-2) : Int32)) hx hb hr (fun t ht hW => ⟨⟨((-2) : Int32), u0, rfl, hf.symm, pM_up hP hK hD ht hW⟩, hS.F ht⟩) hS.2.2 dd_M_makeArray_24
  · have hf := hf.trans (if_neg c1)
    have hok := hok.2 c1
    refine lv_iconst (v := (-1)) hx hb dd_M_makeArray_8 (by decide) ?_
    exact W.iret (v := ((-1) : Int32)) hx hb hr (fun t ht hW => ⟨⟨((-1) : Int32), u0, rfl, hf.symm, pM_up hP hK hD ht hW⟩, hS.F ht⟩) hS.2.2 dd_M_makeArray_9

def ff_M_classOf (u0 : SM) (p0 : Int32) : Int32 := (if (ff_M_noObject u0 p0) = 0 then m_kind u0 p0.toNatClampNeg else (-1))
def ok_M_classOf (u0 : SM) (p0 : Int32) : Prop := ((((ff_M_noObject u0 p0) = 0) → vp_in p0 80) ∧ (¬ ((ff_M_noObject u0 p0) = 0) → True))
abbrev ws_M_classOf : List Cond := .code yy_M_classOf bb_M_classOf 2 (some .int) :: gW
abbrev rm_M_classOf : Room := { frames := 1, cells := 0, slots := 0, locals := 21 }
set_option maxHeartbeats 4000000 in
set_option maxRecDepth 100000 in
theorem mm_M_classOf (l : Launch) (dC : Nat → ClassId) (dI : Nat → Nat → Nat) (h : Nat) (a : Nat → Nat) (k : Nat → ClassId) (u0 : SM) (p0 : Int32) (hok : ok_M_classOf u0 p0) : Met l yy_M_classOf ws_M_classOf rm_M_classOf (va_Pc [.ref h, .int p0] (pM dC dI h a k u0)) (vp_Si (fun r => r = ff_M_classOf u0 p0)) 0 0 (fun _ => False) := by
  refine Met.ofW (cc := bb_M_classOf) (maxL := 2) (ret := (some .int)) (by decide) rfl ?_
  intro p e s m args below meth c s₁ B hml hv
  obtain ⟨rfl, hP, hK, hD⟩ := hv
  have hx := B.exec
  have hb := B.bytes
  have hr := B.returns
  have hts : ∀ w ∈ gW, w.before _ s = true := fun w h => atoms_spec (ws := ws_M_classOf) B.pre w (List.mem_cons_of_mem _ h)
  have hown : s.vm.findClass "ClassObjectMirrorModel" = some m.cls := findClass_of_methodNamed B.named
  have hlocks := B.notSynchronized
  have hS : va_S (aM h a) s.heap s.heap [] := va_S.rf
  have hl := lv_entry ([.ref h, .int p0]) (n := 2) (Nat.le_of_ble_eq_true rfl)
  rw [lg_entry_eq]
  generalize (lg_sl ([.ref h, .int p0]) ++ List.replicate (2 - (lg_sl ([.ref h, .int p0])).length) Slot.unset).toArray = ls at hl ⊢
  have hl : lv_has ls 2 [(0, .ref h), (1, .int p0)] := hl
  have hf := ff_M_classOf.eq_1 u0 p0
  unfold ok_M_classOf at hok
  refine lv_aload_n hx hb dd_M_classOf_0 rfl (lv_at hl 0 rfl) ?_
  refine lv_iload_n hx hb dd_M_classOf_1 rfl (lv_at hl 1 rfl) ?_
  refine vp_callSi (W.runV (As := [.int p0]) (rest := []) ⟨hx, hb, hml, hown, hts⟩ (mm_M_noObject l dC dI h a k u0 p0) (cwV 1 hts (gg_V gw_460 gw_462 gs_29 gw_2 gw_463) rfl rfl rfl (by decide +kernel) ⟨Nat.le_of_ble_eq_true rfl, Nat.le_of_ble_eq_true rfl⟩) ⟨pM_bl, va_recv hK hP (ci := 0) (q0 := 0) rfl rfl, fun U hU hW => ⟨rfl, pM_up hP hK hD hU hW⟩⟩ rfl rfl hl.1 rfl (lv_room (Nat.le_of_ble_eq_true rfl)) dd_M_classOf_2 ⟨Nat.zero_le _, Nat.zero_le _⟩) (fun r hr9 => ?_)
  subst hr9
  refine lv_if_eq (tgt := 12) hx hb dd_M_classOf_5 (by decide) (fun c1 => ?_) (fun c1 => ?_)
  · have hf := hf.trans (if_pos c1)
    have hok := hok.1 c1
    refine lv_aload_n hx hb dd_M_classOf_12 rfl (lv_at hl 0 rfl) ?_
    refine va_get (D := (dC, dI)) (ci := 0) (v := .ref (a 4)) (C := "ClassObjectMirrorModel") (T := TM) (N := 12) hx hb hts inM hown hK hP 0 rfl rfl 5 (by decide) (hts _ gw_306) (fun _ h9 => h9) rfl dd_M_classOf_13 ?_
    refine lv_iload_n hx hb dd_M_classOf_16 rfl (lv_at hl 1 rfl) ?_
    have n2 := hok
    refine va_iald hx hb hK hP 5 4 rfl rfl n2 dd_M_classOf_17 ?_
    exact W.iret (v := (m_kind u0 p0.toNatClampNeg)) hx hb hr (fun t ht hW => ⟨(m_kind u0 p0.toNatClampNeg), rfl, hf.symm, ht⟩) (fun _ h => by cases h) dd_M_classOf_18
  · have hf := hf.trans (if_neg c1)
    have hok := hok.2 c1
    refine lv_iconst (v := (-1)) hx hb dd_M_classOf_8 (by decide) ?_
    refine lv_goto (tgt := 18) hx hb dd_M_classOf_9 (by decide) ?_
    exact W.iret (v := ((-1) : Int32)) hx hb hr (fun t ht hW => ⟨((-1) : Int32), rfl, hf.symm, ht⟩) (fun _ h => by cases h) dd_M_classOf_18

def ff_M_instance (u0 : SM) (p0 : Int32) (p1 : Int32) : Int32 := (if (ff_M_noType u0 p0) = 0 then (if (ff_M_noObject u0 p1) = 0 then (if (ff_M_above u0 p0 (m_kind u0 p1.toNatClampNeg)) = 0 then 0 else 1) else (-1)) else (-1))
def ok_M_instance (u0 : SM) (p0 : Int32) (p1 : Int32) : Prop := ((((ff_M_noType u0 p0) = 0) → ((((ff_M_noObject u0 p1) = 0) → (vp_in p1 80) ∧ ok_M_above u0 p0 (m_kind u0 p1.toNatClampNeg)) ∧ (¬ ((ff_M_noObject u0 p1) = 0) → True))) ∧ (¬ ((ff_M_noType u0 p0) = 0) → True))
abbrev ws_M_instance : List Cond := .code yy_M_instance bb_M_instance 3 (some .int) :: gW
abbrev rm_M_instance : Room := { frames := 2, cells := 0, slots := 0, locals := 45 }
set_option maxHeartbeats 4000000 in
set_option maxRecDepth 100000 in
theorem mm_M_instance (l : Launch) (dC : Nat → ClassId) (dI : Nat → Nat → Nat) (h : Nat) (a : Nat → Nat) (k : Nat → ClassId) (u0 : SM) (p0 : Int32) (p1 : Int32) (hok : ok_M_instance u0 p0 p1) : Met l yy_M_instance ws_M_instance rm_M_instance (va_Pc [.ref h, .int p0, .int p1] (pM dC dI h a k u0)) (vp_Si (fun r => r = ff_M_instance u0 p0 p1)) 0 0 (fun _ => False) := by
  refine Met.ofW (cc := bb_M_instance) (maxL := 3) (ret := (some .int)) (by decide) rfl ?_
  intro p e s m args below meth c s₁ B hml hv
  obtain ⟨rfl, hP, hK, hD⟩ := hv
  have hx := B.exec
  have hb := B.bytes
  have hr := B.returns
  have hts : ∀ w ∈ gW, w.before _ s = true := fun w h => atoms_spec (ws := ws_M_instance) B.pre w (List.mem_cons_of_mem _ h)
  have hown : s.vm.findClass "ClassObjectMirrorModel" = some m.cls := findClass_of_methodNamed B.named
  have hlocks := B.notSynchronized
  have hS : va_S (aM h a) s.heap s.heap [] := va_S.rf
  have hl := lv_entry ([.ref h, .int p0, .int p1]) (n := 3) (Nat.le_of_ble_eq_true rfl)
  rw [lg_entry_eq]
  generalize (lg_sl ([.ref h, .int p0, .int p1]) ++ List.replicate (3 - (lg_sl ([.ref h, .int p0, .int p1])).length) Slot.unset).toArray = ls at hl ⊢
  have hl : lv_has ls 3 [(0, .ref h), (1, .int p0), (2, .int p1)] := hl
  have hf := ff_M_instance.eq_1 u0 p0 p1
  unfold ok_M_instance at hok
  refine lv_aload_n hx hb dd_M_instance_0 rfl (lv_at hl 0 rfl) ?_
  refine lv_iload_n hx hb dd_M_instance_1 rfl (lv_at hl 1 rfl) ?_
  refine vp_callSi (W.runV (As := [.int p0]) (rest := []) ⟨hx, hb, hml, hown, hts⟩ (mm_M_noType l dC dI h a k u0 p0) (cwV 1 hts (gg_V gw_342 gw_344 gs_18 gw_2 gw_345) rfl rfl rfl (by decide +kernel) ⟨Nat.le_of_ble_eq_true rfl, Nat.le_of_ble_eq_true rfl⟩) ⟨pM_bl, va_recv hK hP (ci := 0) (q0 := 0) rfl rfl, fun U hU hW => ⟨rfl, pM_up hP hK hD hU hW⟩⟩ rfl rfl hl.1 rfl (lv_room (Nat.le_of_ble_eq_true rfl)) dd_M_instance_2 ⟨Nat.zero_le _, Nat.zero_le _⟩) (fun r hr9 => ?_)
  subst hr9
  refine lv_if_ne (tgt := 16) hx hb dd_M_instance_5 (by decide) (fun c1 => ?_) (fun c1 => ?_)
  · have hf := hf.trans (if_neg c1)
    have hok := hok.2 c1
    refine lv_iconst (v := (-1)) hx hb dd_M_instance_16 (by decide) ?_
    refine lv_goto (tgt := 39) hx hb dd_M_instance_17 (by decide) ?_
    exact W.iret (v := ((-1) : Int32)) hx hb hr (fun t ht hW => ⟨((-1) : Int32), rfl, hf.symm, ht⟩) (fun _ h => by cases h) dd_M_instance_39
  · have hf := hf.trans (if_pos c1)
    have hok := hok.1 c1
    refine lv_aload_n hx hb dd_M_instance_8 rfl (lv_at hl 0 rfl) ?_
    refine lv_iload_n hx hb dd_M_instance_9 rfl (lv_at hl 2 rfl) ?_
    refine vp_callSi (W.runV (As := [.int p1]) (rest := []) ⟨hx, hb, hml, hown, hts⟩ (mm_M_noObject l dC dI h a k u0 p1) (cwV 1 hts (gg_V gw_460 gw_462 gs_29 gw_2 gw_463) rfl rfl rfl (by decide +kernel) ⟨Nat.le_of_ble_eq_true rfl, Nat.le_of_ble_eq_true rfl⟩) ⟨pM_bl, va_recv hK hP (ci := 0) (q0 := 0) rfl rfl, fun U hU hW => ⟨rfl, pM_up hP hK hD hU hW⟩⟩ rfl rfl hl.1 rfl (lv_room (Nat.le_of_ble_eq_true rfl)) dd_M_instance_10 ⟨Nat.zero_le _, Nat.zero_le _⟩) (fun r hr9 => ?_)
    subst hr9
    refine lv_if_eq (tgt := 20) hx hb dd_M_instance_13 (by decide) (fun c2 => ?_) (fun c2 => ?_)
    · have hf := hf.trans (if_pos c2)
      have hok := hok.1 c2
      refine lv_aload_n hx hb dd_M_instance_20 rfl (lv_at hl 0 rfl) ?_
      refine lv_iload_n hx hb dd_M_instance_21 rfl (lv_at hl 1 rfl) ?_
      refine lv_aload_n hx hb dd_M_instance_22 rfl (lv_at hl 0 rfl) ?_
      refine va_get (D := (dC, dI)) (ci := 0) (v := .ref (a 4)) (C := "ClassObjectMirrorModel") (T := TM) (N := 12) hx hb hts inM hown hK hP 0 rfl rfl 5 (by decide) (hts _ gw_306) (fun _ h9 => h9) rfl dd_M_instance_23 ?_
      refine lv_iload_n hx hb dd_M_instance_26 rfl (lv_at hl 2 rfl) ?_
      obtain ⟨n3, hok⟩ := hok
      refine va_iald hx hb hK hP 5 4 rfl rfl n3 dd_M_instance_27 ?_
      have n4 := hok
      refine vp_callSi (W.runV (As := [.int p0, .int (m_kind u0 p1.toNatClampNeg)]) (rest := []) ⟨hx, hb, hml, hown, hts⟩ (mm_M_above l dC dI h a k u0 p0 (m_kind u0 p1.toNatClampNeg) n4) (cwV 2 hts (gg_V gw_366 gw_368 gs_21 gw_2 gw_369) rfl rfl rfl (by decide +kernel) ⟨Nat.le_of_ble_eq_true rfl, Nat.le_of_ble_eq_true rfl⟩) ⟨pM_bl, va_recv hK hP (ci := 0) (q0 := 0) rfl rfl, fun U hU hW => ⟨rfl, pM_up hP hK hD hU hW⟩⟩ rfl rfl hl.1 rfl (lv_room (Nat.le_of_ble_eq_true rfl)) dd_M_instance_28 ⟨Nat.zero_le _, Nat.zero_le _⟩) (fun r hr9 => ?_)
      subst hr9
      refine lv_if_eq (tgt := 38) hx hb dd_M_instance_31 (by decide) (fun c5 => ?_) (fun c5 => ?_)
      · have hf := hf.trans (if_pos c5)
        refine lv_iconst (v := 0) hx hb dd_M_instance_38 (by decide) ?_
        exact W.iret (v := (0 : Int32)) hx hb hr (fun t ht hW => ⟨(0 : Int32), rfl, hf.symm, ht⟩) (fun _ h => by cases h) dd_M_instance_39
      · have hf := hf.trans (if_neg c5)
        refine lv_iconst (v := 1) hx hb dd_M_instance_34 (by decide) ?_
        refine lv_goto (tgt := 39) hx hb dd_M_instance_35 (by decide) ?_
        exact W.iret (v := (1 : Int32)) hx hb hr (fun t ht hW => ⟨(1 : Int32), rfl, hf.symm, ht⟩) (fun _ h => by cases h) dd_M_instance_39
    · have hf := hf.trans (if_neg c2)
      have hok := hok.2 c2
      refine lv_iconst (v := (-1)) hx hb dd_M_instance_16 (by decide) ?_
      refine lv_goto (tgt := 39) hx hb dd_M_instance_17 (by decide) ?_
      exact W.iret (v := ((-1) : Int32)) hx hb hr (fun t ht hW => ⟨((-1) : Int32), rfl, hf.symm, ht⟩) (fun _ h => by cases h) dd_M_instance_39

def ff_M_cast (u0 : SM) (p0 : Int32) (p1 : Int32) : Int32 := (if (ff_M_noType u0 p0) = 0 then (if (ff_M_noObject u0 p1) = 0 then (if p0 ≤ 8 then (-4) else (if (ff_M_above u0 p0 (m_kind u0 p1.toNatClampNeg)) = 0 then (-4) else p1)) else (-1)) else (-1))
def ok_M_cast (u0 : SM) (p0 : Int32) (p1 : Int32) : Prop := ((((ff_M_noType u0 p0) = 0) → ((((ff_M_noObject u0 p1) = 0) → (((p0 ≤ 8) → True) ∧ (¬ (p0 ≤ 8) → (vp_in p1 80) ∧ ok_M_above u0 p0 (m_kind u0 p1.toNatClampNeg)))) ∧ (¬ ((ff_M_noObject u0 p1) = 0) → True))) ∧ (¬ ((ff_M_noType u0 p0) = 0) → True))
abbrev ws_M_cast : List Cond := .code yy_M_cast bb_M_cast 3 (some .int) :: gW
abbrev rm_M_cast : Room := { frames := 2, cells := 0, slots := 0, locals := 45 }
set_option maxHeartbeats 4000000 in
set_option maxRecDepth 100000 in
theorem mm_M_cast (l : Launch) (dC : Nat → ClassId) (dI : Nat → Nat → Nat) (h : Nat) (a : Nat → Nat) (k : Nat → ClassId) (u0 : SM) (p0 : Int32) (p1 : Int32) (hok : ok_M_cast u0 p0 p1) : Met l yy_M_cast ws_M_cast rm_M_cast (va_Pc [.ref h, .int p0, .int p1] (pM dC dI h a k u0)) (vp_Si (fun r => r = ff_M_cast u0 p0 p1)) 0 0 (fun _ => False) := by
  refine Met.ofW (cc := bb_M_cast) (maxL := 3) (ret := (some .int)) (by decide) rfl ?_
  intro p e s m args below meth c s₁ B hml hv
  obtain ⟨rfl, hP, hK, hD⟩ := hv
  have hx := B.exec
  have hb := B.bytes
  have hr := B.returns
  have hts : ∀ w ∈ gW, w.before _ s = true := fun w h => atoms_spec (ws := ws_M_cast) B.pre w (List.mem_cons_of_mem _ h)
  have hown : s.vm.findClass "ClassObjectMirrorModel" = some m.cls := findClass_of_methodNamed B.named
  have hlocks := B.notSynchronized
  have hS : va_S (aM h a) s.heap s.heap [] := va_S.rf
  have hl := lv_entry ([.ref h, .int p0, .int p1]) (n := 3) (Nat.le_of_ble_eq_true rfl)
  rw [lg_entry_eq]
  generalize (lg_sl ([.ref h, .int p0, .int p1]) ++ List.replicate (3 - (lg_sl ([.ref h, .int p0, .int p1])).length) Slot.unset).toArray = ls at hl ⊢
  have hl : lv_has ls 3 [(0, .ref h), (1, .int p0), (2, .int p1)] := hl
  have hf := ff_M_cast.eq_1 u0 p0 p1
  unfold ok_M_cast at hok
  refine lv_aload_n hx hb dd_M_cast_0 rfl (lv_at hl 0 rfl) ?_
  refine lv_iload_n hx hb dd_M_cast_1 rfl (lv_at hl 1 rfl) ?_
  refine vp_callSi (W.runV (As := [.int p0]) (rest := []) ⟨hx, hb, hml, hown, hts⟩ (mm_M_noType l dC dI h a k u0 p0) (cwV 1 hts (gg_V gw_342 gw_344 gs_18 gw_2 gw_345) rfl rfl rfl (by decide +kernel) ⟨Nat.le_of_ble_eq_true rfl, Nat.le_of_ble_eq_true rfl⟩) ⟨pM_bl, va_recv hK hP (ci := 0) (q0 := 0) rfl rfl, fun U hU hW => ⟨rfl, pM_up hP hK hD hU hW⟩⟩ rfl rfl hl.1 rfl (lv_room (Nat.le_of_ble_eq_true rfl)) dd_M_cast_2 ⟨Nat.zero_le _, Nat.zero_le _⟩) (fun r hr9 => ?_)
  subst hr9
  refine lv_if_ne (tgt := 16) hx hb dd_M_cast_5 (by decide) (fun c1 => ?_) (fun c1 => ?_)
  · have hf := hf.trans (if_neg c1)
    have hok := hok.2 c1
    refine lv_iconst (v := (-1)) hx hb dd_M_cast_16 (by decide) ?_
    exact W.iret (v := ((-1) : Int32)) hx hb hr (fun t ht hW => ⟨((-1) : Int32), rfl, hf.symm, ht⟩) (fun _ h => by cases h) dd_M_cast_17
  · have hf := hf.trans (if_pos c1)
    have hok := hok.1 c1
    refine lv_aload_n hx hb dd_M_cast_8 rfl (lv_at hl 0 rfl) ?_
    refine lv_iload_n hx hb dd_M_cast_9 rfl (lv_at hl 2 rfl) ?_
    refine vp_callSi (W.runV (As := [.int p1]) (rest := []) ⟨hx, hb, hml, hown, hts⟩ (mm_M_noObject l dC dI h a k u0 p1) (cwV 1 hts (gg_V gw_460 gw_462 gs_29 gw_2 gw_463) rfl rfl rfl (by decide +kernel) ⟨Nat.le_of_ble_eq_true rfl, Nat.le_of_ble_eq_true rfl⟩) ⟨pM_bl, va_recv hK hP (ci := 0) (q0 := 0) rfl rfl, fun U hU hW => ⟨rfl, pM_up hP hK hD hU hW⟩⟩ rfl rfl hl.1 rfl (lv_room (Nat.le_of_ble_eq_true rfl)) dd_M_cast_10 ⟨Nat.zero_le _, Nat.zero_le _⟩) (fun r hr9 => ?_)
    subst hr9
    refine lv_if_eq (tgt := 18) hx hb dd_M_cast_13 (by decide) (fun c2 => ?_) (fun c2 => ?_)
    · have hf := hf.trans (if_pos c2)
      have hok := hok.1 c2
      refine lv_iload_n hx hb dd_M_cast_18 rfl (lv_at hl 1 rfl) ?_
      refine lv_bipush (v := 8) hx hb dd_M_cast_19 (by decide) ?_
      refine lv_icmp_le (tgt := 42) hx hb dd_M_cast_21 (by decide) (fun c3 => ?_) (fun c3 => ?_)
      · have hf := hf.trans (if_pos c3)
        have hok := hok.1 c3
        refine lv_bipush (v := (-4)) hx hb dd_M_cast_42 (by decide) ?_
        exact W.iret (v := ((-4) : Int32)) hx hb hr (fun t ht hW => ⟨((-4) : Int32), rfl, hf.symm, ht⟩) (fun _ h => by cases h) dd_M_cast_44
      · have hf := hf.trans (if_neg c3)
        have hok := hok.2 c3
        refine lv_aload_n hx hb dd_M_cast_24 rfl (lv_at hl 0 rfl) ?_
        refine lv_iload_n hx hb dd_M_cast_25 rfl (lv_at hl 1 rfl) ?_
        refine lv_aload_n hx hb dd_M_cast_26 rfl (lv_at hl 0 rfl) ?_
        refine va_get (D := (dC, dI)) (ci := 0) (v := .ref (a 4)) (C := "ClassObjectMirrorModel") (T := TM) (N := 12) hx hb hts inM hown hK hP 0 rfl rfl 5 (by decide) (hts _ gw_306) (fun _ h9 => h9) rfl dd_M_cast_27 ?_
        refine lv_iload_n hx hb dd_M_cast_30 rfl (lv_at hl 2 rfl) ?_
        obtain ⟨n4, hok⟩ := hok
        refine va_iald hx hb hK hP 5 4 rfl rfl n4 dd_M_cast_31 ?_
        have n5 := hok
        refine vp_callSi (W.runV (As := [.int p0, .int (m_kind u0 p1.toNatClampNeg)]) (rest := []) ⟨hx, hb, hml, hown, hts⟩ (mm_M_above l dC dI h a k u0 p0 (m_kind u0 p1.toNatClampNeg) n5) (cwV 2 hts (gg_V gw_366 gw_368 gs_21 gw_2 gw_369) rfl rfl rfl (by decide +kernel) ⟨Nat.le_of_ble_eq_true rfl, Nat.le_of_ble_eq_true rfl⟩) ⟨pM_bl, va_recv hK hP (ci := 0) (q0 := 0) rfl rfl, fun U hU hW => ⟨rfl, pM_up hP hK hD hU hW⟩⟩ rfl rfl hl.1 rfl (lv_room (Nat.le_of_ble_eq_true rfl)) dd_M_cast_32 ⟨Nat.zero_le _, Nat.zero_le _⟩) (fun r hr9 => ?_)
        subst hr9
        refine lv_if_eq (tgt := 42) hx hb dd_M_cast_35 (by decide) (fun c6 => ?_) (fun c6 => ?_)
        · have hf := hf.trans (if_pos c6)
          refine lv_bipush (v := (-4)) hx hb dd_M_cast_42 (by decide) ?_
          exact W.iret (v := ((-4) : Int32)) hx hb hr (fun t ht hW => ⟨((-4) : Int32), rfl, hf.symm, ht⟩) (fun _ h => by cases h) dd_M_cast_44
        · have hf := hf.trans (if_neg c6)
          refine lv_iload_n hx hb dd_M_cast_38 rfl (lv_at hl 2 rfl) ?_
          refine lv_goto (tgt := 44) hx hb dd_M_cast_39 (by decide) ?_
          exact W.iret (v := p1) hx hb hr (fun t ht hW => ⟨p1, rfl, hf.symm, ht⟩) (fun _ h => by cases h) dd_M_cast_44
    · have hf := hf.trans (if_neg c2)
      have hok := hok.2 c2
      refine lv_iconst (v := (-1)) hx hb dd_M_cast_16 (by decide) ?_
      exact W.iret (v := ((-1) : Int32)) hx hb hr (fun t ht hW => ⟨((-1) : Int32), rfl, hf.symm, ht⟩) (fun _ h => by cases h) dd_M_cast_17

def ff_M_array (u0 : SM) (p0 : Int32) : Int32 := (if 0 ≤ (m_size u0 p0.toNatClampNeg) then (if (ff_M_base (m_comp u0 (m_kind u0 p0.toNatClampNeg).toNatClampNeg)) = 0 then 2 else 1) else 0)
def ok_M_array (u0 : SM) (p0 : Int32) : Prop := (vp_in p0 80) ∧ (((0 ≤ (m_size u0 p0.toNatClampNeg)) → (vp_in p0 80) ∧ vp_in (m_kind u0 p0.toNatClampNeg) 300) ∧ (¬ (0 ≤ (m_size u0 p0.toNatClampNeg)) → True))
abbrev ws_M_array : List Cond := .code yy_M_array bb_M_array 2 (some .int) :: gW
abbrev rm_M_array : Room := { frames := 1, cells := 0, slots := 0, locals := 20 }
set_option maxHeartbeats 4000000 in
set_option maxRecDepth 100000 in
theorem mm_M_array (l : Launch) (dC : Nat → ClassId) (dI : Nat → Nat → Nat) (h : Nat) (a : Nat → Nat) (k : Nat → ClassId) (u0 : SM) (p0 : Int32) (hok : ok_M_array u0 p0) : Met l yy_M_array ws_M_array rm_M_array (va_Pc [.ref h, .int p0] (pM dC dI h a k u0)) (vp_Si (fun r => r = ff_M_array u0 p0)) 0 0 (fun _ => False) := by
  refine Met.ofW (cc := bb_M_array) (maxL := 2) (ret := (some .int)) (by decide) rfl ?_
  intro p e s m args below meth c s₁ B hml hv
  obtain ⟨rfl, hP, hK, hD⟩ := hv
  have hx := B.exec
  have hb := B.bytes
  have hr := B.returns
  have hts : ∀ w ∈ gW, w.before _ s = true := fun w h => atoms_spec (ws := ws_M_array) B.pre w (List.mem_cons_of_mem _ h)
  have hown : s.vm.findClass "ClassObjectMirrorModel" = some m.cls := findClass_of_methodNamed B.named
  have hlocks := B.notSynchronized
  have hS : va_S (aM h a) s.heap s.heap [] := va_S.rf
  have hl := lv_entry ([.ref h, .int p0]) (n := 2) (Nat.le_of_ble_eq_true rfl)
  rw [lg_entry_eq]
  generalize (lg_sl ([.ref h, .int p0]) ++ List.replicate (2 - (lg_sl ([.ref h, .int p0])).length) Slot.unset).toArray = ls at hl ⊢
  have hl : lv_has ls 2 [(0, .ref h), (1, .int p0)] := hl
  have hf := ff_M_array.eq_1 u0 p0
  unfold ok_M_array at hok
  refine lv_aload_n hx hb dd_M_array_0 rfl (lv_at hl 0 rfl) ?_
  refine va_get (D := (dC, dI)) (ci := 0) (v := .ref (a 5)) (C := "ClassObjectMirrorModel") (T := TM) (N := 12) hx hb hts inM hown hK hP 0 rfl rfl 6 (by decide) (hts _ gw_307) (fun _ h9 => h9) rfl dd_M_array_1 ?_
  refine lv_iload_n hx hb dd_M_array_4 rfl (lv_at hl 1 rfl) ?_
  obtain ⟨n1, hok⟩ := hok
  refine va_iald hx hb hK hP 6 5 rfl rfl n1 dd_M_array_5 ?_
  refine lv_if_ge (tgt := 13) hx hb dd_M_array_6 (by decide) (fun c2 => ?_) (fun c2 => ?_)
  · have hf := hf.trans (if_pos c2)
    have hok := hok.1 c2
    refine lv_aload_n hx hb dd_M_array_13 rfl (lv_at hl 0 rfl) ?_
    refine va_get (D := (dC, dI)) (ci := 0) (v := .ref (a 2)) (C := "ClassObjectMirrorModel") (T := TM) (N := 12) hx hb hts inM hown hK hP 0 rfl rfl 2 (by decide) (hts _ gw_303) (fun _ h9 => h9) rfl dd_M_array_14 ?_
    refine lv_aload_n hx hb dd_M_array_17 rfl (lv_at hl 0 rfl) ?_
    refine va_get (D := (dC, dI)) (ci := 0) (v := .ref (a 4)) (C := "ClassObjectMirrorModel") (T := TM) (N := 12) hx hb hts inM hown hK hP 0 rfl rfl 5 (by decide) (hts _ gw_306) (fun _ h9 => h9) rfl dd_M_array_18 ?_
    refine lv_iload_n hx hb dd_M_array_21 rfl (lv_at hl 1 rfl) ?_
    obtain ⟨n3, hok⟩ := hok
    refine va_iald hx hb hK hP 5 4 rfl rfl n3 dd_M_array_22 ?_
    have n4 := hok
    refine va_iald hx hb hK hP 3 2 rfl rfl n4 dd_M_array_23 ?_
    refine vp_callSi (W.runS (As := [.int (m_comp u0 (m_kind u0 p0.toNatClampNeg).toNatClampNeg)]) (rest := []) ⟨hx, hb, hml, hown, hts⟩ (mm_M_base l (m_comp u0 (m_kind u0 p0.toNatClampNeg).toNatClampNeg)) (va_cwS 1 hts (gg_S gw_370 gw_371 gw_2 gw_372) rfl rfl rfl (by decide +kernel) ⟨Nat.le_of_ble_eq_true rfl, Nat.le_of_ble_eq_true rfl⟩) ⟨fun a U g mk q => q, fun U hU hW => ⟨rfl, trivial⟩⟩ rfl rfl hl.1 rfl (lv_room (Nat.le_of_ble_eq_true rfl)) dd_M_array_24 ⟨Nat.zero_le _, Nat.zero_le _⟩) (fun r hr9 => ?_)
    subst hr9
    refine lv_if_eq (tgt := 34) hx hb dd_M_array_27 (by decide) (fun c5 => ?_) (fun c5 => ?_)
    · have hf := hf.trans (if_pos c5)
      refine lv_iconst (v := 2) hx hb dd_M_array_34 (by decide) ?_
      exact W.iret (v := (2 : Int32)) hx hb hr (fun t ht hW => ⟨(2 : Int32), rfl, hf.symm, ht⟩) (fun _ h => by cases h) dd_M_array_35
    · have hf := hf.trans (if_neg c5)
      refine lv_iconst (v := 1) hx hb dd_M_array_30 (by decide) ?_
      refine lv_goto (tgt := 35) hx hb dd_M_array_31 (by decide) ?_
      exact W.iret (v := (1 : Int32)) hx hb hr (fun t ht hW => ⟨(1 : Int32), rfl, hf.symm, ht⟩) (fun _ h => by cases h) dd_M_array_35
  · have hf := hf.trans (if_neg c2)
    have hok := hok.2 c2
    refine lv_iconst (v := 0) hx hb dd_M_array_9 (by decide) ?_
    refine lv_goto (tgt := 35) hx hb dd_M_array_10 (by decide) ?_
    exact W.iret (v := (0 : Int32)) hx hb hr (fun t ht hW => ⟨(0 : Int32), rfl, hf.symm, ht⟩) (fun _ h => by cases h) dd_M_array_35

def ff_M_outside (u0 : SM) (p0 : Int32) (p1 : Int32) : Int32 := (if p1 < 0 then 1 else (if p1 < (m_size u0 p0.toNatClampNeg) then 0 else 1))
def ok_M_outside (u0 : SM) (p0 : Int32) (p1 : Int32) : Prop := (((p1 < 0) → True) ∧ (¬ (p1 < 0) → vp_in p0 80))
abbrev ws_M_outside : List Cond := .code yy_M_outside bb_M_outside 3 (some .boolean) :: gW
abbrev rm_M_outside : Room := { frames := 0, cells := 0, slots := 0, locals := 0 }
set_option maxHeartbeats 4000000 in
set_option maxRecDepth 100000 in
theorem mm_M_outside (l : Launch) (dC : Nat → ClassId) (dI : Nat → Nat → Nat) (h : Nat) (a : Nat → Nat) (k : Nat → ClassId) (u0 : SM) (p0 : Int32) (p1 : Int32) (hok : ok_M_outside u0 p0 p1) : Met l yy_M_outside ws_M_outside rm_M_outside (va_Pc [.ref h, .int p0, .int p1] (pM dC dI h a k u0)) (vp_Si (fun r => r = ff_M_outside u0 p0 p1)) 0 0 (fun _ => False) := by
  refine Met.ofW (cc := bb_M_outside) (maxL := 3) (ret := (some .boolean)) (by decide) rfl ?_
  intro p e s m args below meth c s₁ B hml hv
  obtain ⟨rfl, hP, hK, hD⟩ := hv
  have hx := B.exec
  have hb := B.bytes
  have hr := B.returns
  have hts : ∀ w ∈ gW, w.before _ s = true := fun w h => atoms_spec (ws := ws_M_outside) B.pre w (List.mem_cons_of_mem _ h)
  have hown : s.vm.findClass "ClassObjectMirrorModel" = some m.cls := findClass_of_methodNamed B.named
  have hlocks := B.notSynchronized
  have hS : va_S (aM h a) s.heap s.heap [] := va_S.rf
  have hl := lv_entry ([.ref h, .int p0, .int p1]) (n := 3) (Nat.le_of_ble_eq_true rfl)
  rw [lg_entry_eq]
  generalize (lg_sl ([.ref h, .int p0, .int p1]) ++ List.replicate (3 - (lg_sl ([.ref h, .int p0, .int p1])).length) Slot.unset).toArray = ls at hl ⊢
  have hl : lv_has ls 3 [(0, .ref h), (1, .int p0), (2, .int p1)] := hl
  have hf := ff_M_outside.eq_1 u0 p0 p1
  unfold ok_M_outside at hok
  refine lv_iload_n hx hb dd_M_outside_0 rfl (lv_at hl 2 rfl) ?_
  refine lv_if_lt (tgt := 14) hx hb dd_M_outside_1 (by decide) (fun c1 => ?_) (fun c1 => ?_)
  · have hf := hf.trans (if_pos c1)
    have hok := hok.1 c1
    refine lv_iconst (v := 1) hx hb dd_M_outside_14 (by decide) ?_
    refine lv_goto (tgt := 19) hx hb dd_M_outside_15 (by decide) ?_
    exact W.zret (ty := .boolean) (v := (1 : Int32)) hx hb hr (by decide) (fun t ht hW => ⟨(1 : Int32), rfl, hf.symm, ht⟩) (fun _ h => by cases h) dd_M_outside_19
  · have hf := hf.trans (if_neg c1)
    have hok := hok.2 c1
    refine lv_iload_n hx hb dd_M_outside_4 rfl (lv_at hl 2 rfl) ?_
    refine lv_aload_n hx hb dd_M_outside_5 rfl (lv_at hl 0 rfl) ?_
    refine va_get (D := (dC, dI)) (ci := 0) (v := .ref (a 5)) (C := "ClassObjectMirrorModel") (T := TM) (N := 12) hx hb hts inM hown hK hP 0 rfl rfl 6 (by decide) (hts _ gw_307) (fun _ h9 => h9) rfl dd_M_outside_6 ?_
    refine lv_iload_n hx hb dd_M_outside_9 rfl (lv_at hl 1 rfl) ?_
    have n2 := hok
    refine va_iald hx hb hK hP 6 5 rfl rfl n2 dd_M_outside_10 ?_
    refine lv_icmp_lt (tgt := 18) hx hb dd_M_outside_11 (by decide) (fun c3 => ?_) (fun c3 => ?_)
    · have hf := hf.trans (if_pos c3)
      refine lv_iconst (v := 0) hx hb dd_M_outside_18 (by decide) ?_
      exact W.zret (ty := .boolean) (v := (0 : Int32)) hx hb hr (by decide) (fun t ht hW => ⟨(0 : Int32), rfl, hf.symm, ht⟩) (fun _ h => by cases h) dd_M_outside_19
    · have hf := hf.trans (if_neg c3)
      refine lv_iconst (v := 1) hx hb dd_M_outside_14 (by decide) ?_
      refine lv_goto (tgt := 19) hx hb dd_M_outside_15 (by decide) ?_
      exact W.zret (ty := .boolean) (v := (1 : Int32)) hx hb hr (by decide) (fun t ht hW => ⟨(1 : Int32), rfl, hf.symm, ht⟩) (fun _ h => by cases h) dd_M_outside_19

def ff_M_store (u0 : SM) (p0 : Int32) (p1 : Int32) (p2 : Int32) : Int32 × SM := (if (ff_M_noObject u0 p0) = 0 then (if p2 = (-7) then (if (ff_M_array u0 p0) = 2 then (if (ff_M_outside u0 p0 p1) = 0 then (if p2 = (-7) then ((m_cell u0 ((8 * p0) + p1).toNatClampNeg).toInt32, m_u_cell u0 ((8 * p0) + p1) p2.toInt64) else (if (ff_M_above u0 (m_comp u0 (m_kind u0 p0.toNatClampNeg).toNatClampNeg) (m_kind u0 p2.toNatClampNeg)) = 0 then ((-6), u0) else ((m_cell u0 ((8 * p0) + p1).toNatClampNeg).toInt32, m_u_cell u0 ((8 * p0) + p1) p2.toInt64))) else ((-5), u0)) else ((-1), u0)) else (if (ff_M_noObject u0 p2) = 0 then (if (ff_M_array u0 p0) = 2 then (if (ff_M_outside u0 p0 p1) = 0 then (if p2 = (-7) then ((m_cell u0 ((8 * p0) + p1).toNatClampNeg).toInt32, m_u_cell u0 ((8 * p0) + p1) p2.toInt64) else (if (ff_M_above u0 (m_comp u0 (m_kind u0 p0.toNatClampNeg).toNatClampNeg) (m_kind u0 p2.toNatClampNeg)) = 0 then ((-6), u0) else ((m_cell u0 ((8 * p0) + p1).toNatClampNeg).toInt32, m_u_cell u0 ((8 * p0) + p1) p2.toInt64))) else ((-5), u0)) else ((-1), u0)) else ((-1), u0))) else ((-1), u0))
def ok_M_store (u0 : SM) (p0 : Int32) (p1 : Int32) (p2 : Int32) : Prop := ((((ff_M_noObject u0 p0) = 0) → (((p2 = (-7)) → (ok_M_array u0 p0) ∧ ((((ff_M_array u0 p0) = 2) → (ok_M_outside u0 p0 p1) ∧ ((((ff_M_outside u0 p0 p1) = 0) → (((p2 = (-7)) → (vp_in ((8 * p0) + p1) 640) ∧ vp_in ((8 * p0) + p1) 640) ∧ (¬ (p2 = (-7)) → (vp_in p0 80) ∧ (vp_in (m_kind u0 p0.toNatClampNeg) 300) ∧ (vp_in p2 80) ∧ (ok_M_above u0 (m_comp u0 (m_kind u0 p0.toNatClampNeg).toNatClampNeg) (m_kind u0 p2.toNatClampNeg)) ∧ ((((ff_M_above u0 (m_comp u0 (m_kind u0 p0.toNatClampNeg).toNatClampNeg) (m_kind u0 p2.toNatClampNeg)) = 0) → True) ∧ (¬ ((ff_M_above u0 (m_comp u0 (m_kind u0 p0.toNatClampNeg).toNatClampNeg) (m_kind u0 p2.toNatClampNeg)) = 0) → (vp_in ((8 * p0) + p1) 640) ∧ vp_in ((8 * p0) + p1) 640))))) ∧ (¬ ((ff_M_outside u0 p0 p1) = 0) → True))) ∧ (¬ ((ff_M_array u0 p0) = 2) → True))) ∧ (¬ (p2 = (-7)) → ((((ff_M_noObject u0 p2) = 0) → (ok_M_array u0 p0) ∧ ((((ff_M_array u0 p0) = 2) → (ok_M_outside u0 p0 p1) ∧ ((((ff_M_outside u0 p0 p1) = 0) → (((p2 = (-7)) → (vp_in ((8 * p0) + p1) 640) ∧ vp_in ((8 * p0) + p1) 640) ∧ (¬ (p2 = (-7)) → (vp_in p0 80) ∧ (vp_in (m_kind u0 p0.toNatClampNeg) 300) ∧ (vp_in p2 80) ∧ (ok_M_above u0 (m_comp u0 (m_kind u0 p0.toNatClampNeg).toNatClampNeg) (m_kind u0 p2.toNatClampNeg)) ∧ ((((ff_M_above u0 (m_comp u0 (m_kind u0 p0.toNatClampNeg).toNatClampNeg) (m_kind u0 p2.toNatClampNeg)) = 0) → True) ∧ (¬ ((ff_M_above u0 (m_comp u0 (m_kind u0 p0.toNatClampNeg).toNatClampNeg) (m_kind u0 p2.toNatClampNeg)) = 0) → (vp_in ((8 * p0) + p1) 640) ∧ vp_in ((8 * p0) + p1) 640))))) ∧ (¬ ((ff_M_outside u0 p0 p1) = 0) → True))) ∧ (¬ ((ff_M_array u0 p0) = 2) → True))) ∧ (¬ ((ff_M_noObject u0 p2) = 0) → True))))) ∧ (¬ ((ff_M_noObject u0 p0) = 0) → True))
abbrev ws_M_store : List Cond := .code yy_M_store bb_M_store 5 (some .int) :: gW
abbrev rm_M_store : Room := { frames := 2, cells := 0, slots := 0, locals := 45 }
set_option maxHeartbeats 4000000 in
set_option maxRecDepth 100000 in
theorem mm_M_store (l : Launch) (dC : Nat → ClassId) (dI : Nat → Nat → Nat) (h : Nat) (a : Nat → Nat) (k : Nat → ClassId) (u0 : SM) (p0 : Int32) (p1 : Int32) (p2 : Int32) (hok : ok_M_store u0 p0 p1 p2) : Met l yy_M_store ws_M_store rm_M_store (va_Pc [.ref h, .int p0, .int p1, .int p2] (pM dC dI h a k u0)) (va_Qi (fun (r : Int32) (v : SM) => (r, v) = ff_M_store u0 p0 p1 p2) (pM dC dI h a k) (aM h a)) 0 0 (aM h a) := by
  refine Met.ofW (cc := bb_M_store) (maxL := 5) (ret := (some .int)) (by decide) rfl ?_
  intro p e s m args below meth c s₁ B hml hv
  obtain ⟨rfl, hP, hK, hD⟩ := hv
  have hx := B.exec
  have hb := B.bytes
  have hr := B.returns
  have hts : ∀ w ∈ gW, w.before _ s = true := fun w h => atoms_spec (ws := ws_M_store) B.pre w (List.mem_cons_of_mem _ h)
  have hown : s.vm.findClass "ClassObjectMirrorModel" = some m.cls := findClass_of_methodNamed B.named
  have hlocks := B.notSynchronized
  have hS : va_S (aM h a) s.heap s.heap [] := va_S.rf
  have hl := lv_entry ([.ref h, .int p0, .int p1, .int p2]) (n := 5) (Nat.le_of_ble_eq_true rfl)
  rw [lg_entry_eq]
  generalize (lg_sl ([.ref h, .int p0, .int p1, .int p2]) ++ List.replicate (5 - (lg_sl ([.ref h, .int p0, .int p1, .int p2])).length) Slot.unset).toArray = ls at hl ⊢
  have hl : lv_has ls 5 [(0, .ref h), (1, .int p0), (2, .int p1), (3, .int p2)] := hl
  have hf := ff_M_store.eq_1 u0 p0 p1 p2
  unfold ok_M_store at hok
  refine lv_aload_n hx hb dd_M_store_0 rfl (lv_at hl 0 rfl) ?_
  refine lv_iload_n hx hb dd_M_store_1 rfl (lv_at hl 1 rfl) ?_
  refine vp_callSi (W.runV (As := [.int p0]) (rest := []) ⟨hx, hb, hml, hown, hts⟩ (mm_M_noObject l dC dI h a k u0 p0) (cwV 1 hts (gg_V gw_460 gw_462 gs_29 gw_2 gw_463) rfl rfl rfl (by decide +kernel) ⟨Nat.le_of_ble_eq_true rfl, Nat.le_of_ble_eq_true rfl⟩) ⟨pM_bl, va_recv hK hP (ci := 0) (q0 := 0) rfl rfl, fun U hU hW => ⟨rfl, pM_up hP hK hD hU hW⟩⟩ rfl rfl hl.1 rfl (lv_room (Nat.le_of_ble_eq_true rfl)) dd_M_store_2 ⟨Nat.zero_le _, Nat.zero_le _⟩) (fun r hr9 => ?_)
  subst hr9
  refine lv_if_ne (tgt := 31) hx hb dd_M_store_5 (by decide) (fun c1 => ?_) (fun c1 => ?_)
  · have hf := hf.trans (if_neg c1)
    have hok := hok.2 c1
    refine lv_iconst (v := (-1)) hx hb dd_M_store_31 (by decide) ?_
    exact W.iret (v := ((-1) : Int32)) hx hb hr (fun t ht hW => ⟨⟨((-1) : Int32), u0, rfl, hf.symm, pM_up hP hK hD ht hW⟩, hS.F ht⟩) hS.2.2 dd_M_store_32
  · have hf := hf.trans (if_pos c1)
    have hok := hok.1 c1
    refine lv_iload_n hx hb dd_M_store_8 rfl (lv_at hl 3 rfl) ?_
    refine lv_bipush (v := (-7)) hx hb dd_M_store_9 (by decide) ?_
    refine lv_icmp_eq (tgt := 22) hx hb dd_M_store_11 (by decide) (fun c2 => ?_) (fun c2 => ?_)
    · have hf := hf.trans (if_pos c2)
      have hok := hok.1 c2
      refine lv_aload_n hx hb dd_M_store_22 rfl (lv_at hl 0 rfl) ?_
      refine lv_iload_n hx hb dd_M_store_23 rfl (lv_at hl 1 rfl) ?_
      obtain ⟨n3, hok⟩ := hok
      refine vp_callSi (W.runV (As := [.int p0]) (rest := []) ⟨hx, hb, hml, hown, hts⟩ (mm_M_array l dC dI h a k u0 p0 n3) (cwV 1 hts (gg_V gw_476 gw_478 gs_30 gw_2 gw_479) rfl rfl rfl (by decide +kernel) ⟨Nat.le_of_ble_eq_true rfl, Nat.le_of_ble_eq_true rfl⟩) ⟨pM_bl, va_recv hK hP (ci := 0) (q0 := 0) rfl rfl, fun U hU hW => ⟨rfl, pM_up hP hK hD hU hW⟩⟩ rfl rfl hl.1 rfl (lv_room (Nat.le_of_ble_eq_true rfl)) dd_M_store_24 ⟨Nat.zero_le _, Nat.zero_le _⟩) (fun r hr9 => ?_)
      subst hr9
      refine lv_iconst (v := 2) hx hb dd_M_store_27 (by decide) ?_
      refine lv_icmp_eq (tgt := 33) hx hb dd_M_store_28 (by decide) (fun c4 => ?_) (fun c4 => ?_)
      · have hf := hf.trans (if_pos c4)
        have hok := hok.1 c4
        refine lv_aload_n hx hb dd_M_store_33 rfl (lv_at hl 0 rfl) ?_
        refine lv_iload_n hx hb dd_M_store_34 rfl (lv_at hl 1 rfl) ?_
        refine lv_iload_n hx hb dd_M_store_35 rfl (lv_at hl 2 rfl) ?_
        obtain ⟨n5, hok⟩ := hok
        refine vp_callSi (W.runV (As := [.int p0, .int p1]) (rest := []) ⟨hx, hb, hml, hown, hts⟩ (mm_M_outside l dC dI h a k u0 p0 p1 n5) (cwV 2 hts (gg_V gw_480 gw_482 gs_31 gw_2 gw_483) rfl rfl rfl (by decide +kernel) ⟨Nat.le_of_ble_eq_true rfl, Nat.le_of_ble_eq_true rfl⟩) ⟨pM_bl, va_recv hK hP (ci := 0) (q0 := 0) rfl rfl, fun U hU hW => ⟨rfl, pM_up hP hK hD hU hW⟩⟩ rfl rfl hl.1 rfl (lv_room (Nat.le_of_ble_eq_true rfl)) dd_M_store_36 ⟨Nat.zero_le _, Nat.zero_le _⟩) (fun r hr9 => ?_)
        subst hr9
        refine lv_if_eq (tgt := 45) hx hb dd_M_store_39 (by decide) (fun c6 => ?_) (fun c6 => ?_)
        · have hf := hf.trans (if_pos c6)
          have hok := hok.1 c6
          refine lv_iload_n hx hb dd_M_store_45 rfl (lv_at hl 3 rfl) ?_
          refine lv_bipush (v := (-7)) hx hb dd_M_store_46 (by decide) ?_
          refine lv_icmp_eq (tgt := 78) hx hb dd_M_store_48 (by decide) (fun c7 => ?_) (fun c7 => ?_)
          · have hf := hf.trans (if_pos c7)
            have hok := hok.1 c7
            refine lv_aload_n hx hb dd_M_store_78 rfl (lv_at hl 0 rfl) ?_
            refine va_get (D := (dC, dI)) (ci := 0) (v := .ref (a 7)) (C := "ClassObjectMirrorModel") (T := TM) (N := 12) hx hb hts inM hown hK hP 0 rfl rfl 8 (by decide) (hts _ gw_309) (fun _ h9 => h9) rfl dd_M_store_79 ?_
            refine lv_bipush (v := 8) hx hb dd_M_store_82 (by decide) ?_
            refine lv_iload_n hx hb dd_M_store_84 rfl (lv_at hl 1 rfl) ?_
            refine lv_imul hx hb dd_M_store_85 ?_
            refine lv_iload_n hx hb dd_M_store_86 rfl (lv_at hl 2 rfl) ?_
            refine lv_iadd hx hb dd_M_store_87 ?_
            obtain ⟨n8, hok⟩ := hok
            refine va_lald hx hb hK hP 8 7 rfl rfl n8 dd_M_store_88 ?_
            refine lv_l2i (v := (m_cell u0 ((8 * p0) + p1).toNatClampNeg).toInt32) hx hb dd_M_store_89 rfl ?_
            refine lv_istore (lv' := [(4, .int ((m_cell u0 ((8 * p0) + p1).toNatClampNeg).toInt32)), (0, .ref h), (1, .int p0), (2, .int p1), (3, .int p2)]) hx hb dd_M_store_90 hl (by decide) rfl (fun ls hl => ?_)
            refine lv_aload_n hx hb dd_M_store_92 rfl (lv_at hl 1 rfl) ?_
            refine va_get (D := (dC, dI)) (ci := 0) (v := .ref (a 7)) (C := "ClassObjectMirrorModel") (T := TM) (N := 12) hx hb hts inM hown hK hP 0 rfl rfl 8 (by decide) (hts _ gw_309) (fun _ h9 => h9) rfl dd_M_store_93 ?_
            refine lv_bipush (v := 8) hx hb dd_M_store_96 (by decide) ?_
            refine lv_iload_n hx hb dd_M_store_98 rfl (lv_at hl 2 rfl) ?_
            refine lv_imul hx hb dd_M_store_99 ?_
            refine lv_iload_n hx hb dd_M_store_100 rfl (lv_at hl 3 rfl) ?_
            refine lv_iadd hx hb dd_M_store_101 ?_
            refine lv_iload_n hx hb dd_M_store_102 rfl (lv_at hl 4 rfl) ?_
            refine lv_i2l (v := p2.toInt64) hx hb dd_M_store_103 rfl ?_
            have n9 := hok
            refine va_last hx hb hK hP hD hS 8 7 rfl rfl n9 dd_M_store_104 (fun H locs hP hD hS => ?_)
            have hP : va_P (dC, dI) cls_l (wM h a k (m_u_cell u0 ((8 * p0) + p1) p2.toInt64)) H := hP
            have hD : va_D (aM h a) (wM h a k (m_u_cell u0 ((8 * p0) + p1) p2.toInt64)) := hD
            refine lv_iload hx hb dd_M_store_105 (lv_at hl 0 rfl) ?_
            exact W.iret (v := ((m_cell u0 ((8 * p0) + p1).toNatClampNeg).toInt32)) hx hb hr (fun t ht hW => ⟨⟨((m_cell u0 ((8 * p0) + p1).toNatClampNeg).toInt32), m_u_cell u0 ((8 * p0) + p1) p2.toInt64, rfl, hf.symm, pM_up hP hK hD ht hW⟩, hS.F ht⟩) hS.2.2 dd_M_store_107
          · have hf := hf.trans (if_neg c7)
            have hok := hok.2 c7
            refine lv_aload_n hx hb dd_M_store_51 rfl (lv_at hl 0 rfl) ?_
            refine lv_aload_n hx hb dd_M_store_52 rfl (lv_at hl 0 rfl) ?_
            refine va_get (D := (dC, dI)) (ci := 0) (v := .ref (a 2)) (C := "ClassObjectMirrorModel") (T := TM) (N := 12) hx hb hts inM hown hK hP 0 rfl rfl 2 (by decide) (hts _ gw_303) (fun _ h9 => h9) rfl dd_M_store_53 ?_
            refine lv_aload_n hx hb dd_M_store_56 rfl (lv_at hl 0 rfl) ?_
            refine va_get (D := (dC, dI)) (ci := 0) (v := .ref (a 4)) (C := "ClassObjectMirrorModel") (T := TM) (N := 12) hx hb hts inM hown hK hP 0 rfl rfl 5 (by decide) (hts _ gw_306) (fun _ h9 => h9) rfl dd_M_store_57 ?_
            refine lv_iload_n hx hb dd_M_store_60 rfl (lv_at hl 1 rfl) ?_
            obtain ⟨n10, hok⟩ := hok
            refine va_iald hx hb hK hP 5 4 rfl rfl n10 dd_M_store_61 ?_
            obtain ⟨n11, hok⟩ := hok
            refine va_iald hx hb hK hP 3 2 rfl rfl n11 dd_M_store_62 ?_
            refine lv_aload_n hx hb dd_M_store_63 rfl (lv_at hl 0 rfl) ?_
            refine va_get (D := (dC, dI)) (ci := 0) (v := .ref (a 4)) (C := "ClassObjectMirrorModel") (T := TM) (N := 12) hx hb hts inM hown hK hP 0 rfl rfl 5 (by decide) (hts _ gw_306) (fun _ h9 => h9) rfl dd_M_store_64 ?_
            refine lv_iload_n hx hb dd_M_store_67 rfl (lv_at hl 3 rfl) ?_
            obtain ⟨n12, hok⟩ := hok
            refine va_iald hx hb hK hP 5 4 rfl rfl n12 dd_M_store_68 ?_
            obtain ⟨n13, hok⟩ := hok
            refine vp_callSi (W.runV (As := [.int (m_comp u0 (m_kind u0 p0.toNatClampNeg).toNatClampNeg), .int (m_kind u0 p2.toNatClampNeg)]) (rest := []) ⟨hx, hb, hml, hown, hts⟩ (mm_M_above l dC dI h a k u0 (m_comp u0 (m_kind u0 p0.toNatClampNeg).toNatClampNeg) (m_kind u0 p2.toNatClampNeg) n13) (cwV 2 hts (gg_V gw_366 gw_368 gs_21 gw_2 gw_369) rfl rfl rfl (by decide +kernel) ⟨Nat.le_of_ble_eq_true rfl, Nat.le_of_ble_eq_true rfl⟩) ⟨pM_bl, va_recv hK hP (ci := 0) (q0 := 0) rfl rfl, fun U hU hW => ⟨rfl, pM_up hP hK hD hU hW⟩⟩ rfl rfl hl.1 rfl (lv_room (Nat.le_of_ble_eq_true rfl)) dd_M_store_69 ⟨Nat.zero_le _, Nat.zero_le _⟩) (fun r hr9 => ?_)
            subst hr9
            refine lv_if_ne (tgt := 78) hx hb dd_M_store_72 (by decide) (fun c14 => ?_) (fun c14 => ?_)
            · have hf := hf.trans (if_neg c14)
              have hok := hok.2 c14
              refine lv_aload_n hx hb dd_M_store_78 rfl (lv_at hl 0 rfl) ?_
              refine va_get (D := (dC, dI)) (ci := 0) (v := .ref (a 7)) (C := "ClassObjectMirrorModel") (T := TM) (N := 12) hx hb hts inM hown hK hP 0 rfl rfl 8 (by decide) (hts _ gw_309) (fun _ h9 => h9) rfl dd_M_store_79 ?_
              refine lv_bipush (v := 8) hx hb dd_M_store_82 (by decide) ?_
              refine lv_iload_n hx hb dd_M_store_84 rfl (lv_at hl 1 rfl) ?_
              refine lv_imul hx hb dd_M_store_85 ?_
              refine lv_iload_n hx hb dd_M_store_86 rfl (lv_at hl 2 rfl) ?_
              refine lv_iadd hx hb dd_M_store_87 ?_
              obtain ⟨n15, hok⟩ := hok
              refine va_lald hx hb hK hP 8 7 rfl rfl n15 dd_M_store_88 ?_
              refine lv_l2i (v := (m_cell u0 ((8 * p0) + p1).toNatClampNeg).toInt32) hx hb dd_M_store_89 rfl ?_
              refine lv_istore (lv' := [(4, .int ((m_cell u0 ((8 * p0) + p1).toNatClampNeg).toInt32)), (0, .ref h), (1, .int p0), (2, .int p1), (3, .int p2)]) hx hb dd_M_store_90 hl (by decide) rfl (fun ls hl => ?_)
              refine lv_aload_n hx hb dd_M_store_92 rfl (lv_at hl 1 rfl) ?_
              refine va_get (D := (dC, dI)) (ci := 0) (v := .ref (a 7)) (C := "ClassObjectMirrorModel") (T := TM) (N := 12) hx hb hts inM hown hK hP 0 rfl rfl 8 (by decide) (hts _ gw_309) (fun _ h9 => h9) rfl dd_M_store_93 ?_
              refine lv_bipush (v := 8) hx hb dd_M_store_96 (by decide) ?_
              refine lv_iload_n hx hb dd_M_store_98 rfl (lv_at hl 2 rfl) ?_
              refine lv_imul hx hb dd_M_store_99 ?_
              refine lv_iload_n hx hb dd_M_store_100 rfl (lv_at hl 3 rfl) ?_
              refine lv_iadd hx hb dd_M_store_101 ?_
              refine lv_iload_n hx hb dd_M_store_102 rfl (lv_at hl 4 rfl) ?_
              refine lv_i2l (v := p2.toInt64) hx hb dd_M_store_103 rfl ?_
              have n16 := hok
              refine va_last hx hb hK hP hD hS 8 7 rfl rfl n16 dd_M_store_104 (fun H locs hP hD hS => ?_)
              have hP : va_P (dC, dI) cls_l (wM h a k (m_u_cell u0 ((8 * p0) + p1) p2.toInt64)) H := hP
              have hD : va_D (aM h a) (wM h a k (m_u_cell u0 ((8 * p0) + p1) p2.toInt64)) := hD
              refine lv_iload hx hb dd_M_store_105 (lv_at hl 0 rfl) ?_
              exact W.iret (v := ((m_cell u0 ((8 * p0) + p1).toNatClampNeg).toInt32)) hx hb hr (fun t ht hW => ⟨⟨((m_cell u0 ((8 * p0) + p1).toNatClampNeg).toInt32), m_u_cell u0 ((8 * p0) + p1) p2.toInt64, rfl, hf.symm, pM_up hP hK hD ht hW⟩, hS.F ht⟩) hS.2.2 dd_M_store_107
            · have hf := hf.trans (if_pos c14)
              have hok := hok.1 c14
              refine lv_bipush (v := (-6)) hx hb dd_M_store_75 (by decide) ?_
              exact W.iret (v := ((-6) : Int32)) hx hb hr (fun t ht hW => ⟨⟨((-6) : Int32), u0, rfl, hf.symm, pM_up hP hK hD ht hW⟩, hS.F ht⟩) hS.2.2 dd_M_store_77
        · have hf := hf.trans (if_neg c6)
          have hok := hok.2 c6
          refine lv_bipush (v := (-5)) hx hb dd_M_store_42 (by decide) ?_
          exact W.iret (v := ((-5) : Int32)) hx hb hr (fun t ht hW => ⟨⟨((-5) : Int32), u0, rfl, hf.symm, pM_up hP hK hD ht hW⟩, hS.F ht⟩) hS.2.2 dd_M_store_44
      · have hf := hf.trans (if_neg c4)
        have hok := hok.2 c4
        refine lv_iconst (v := (-1)) hx hb dd_M_store_31 (by decide) ?_
        exact W.iret (v := ((-1) : Int32)) hx hb hr (fun t ht hW => ⟨⟨((-1) : Int32), u0, rfl, hf.symm, pM_up hP hK hD ht hW⟩, hS.F ht⟩) hS.2.2 dd_M_store_32
    · have hf := hf.trans (if_neg c2)
      have hok := hok.2 c2
      refine lv_aload_n hx hb dd_M_store_14 rfl (lv_at hl 0 rfl) ?_
      refine lv_iload_n hx hb dd_M_store_15 rfl (lv_at hl 3 rfl) ?_
      refine vp_callSi (W.runV (As := [.int p2]) (rest := []) ⟨hx, hb, hml, hown, hts⟩ (mm_M_noObject l dC dI h a k u0 p2) (cwV 1 hts (gg_V gw_460 gw_462 gs_29 gw_2 gw_463) rfl rfl rfl (by decide +kernel) ⟨Nat.le_of_ble_eq_true rfl, Nat.le_of_ble_eq_true rfl⟩) ⟨pM_bl, va_recv hK hP (ci := 0) (q0 := 0) rfl rfl, fun U hU hW => ⟨rfl, pM_up hP hK hD hU hW⟩⟩ rfl rfl hl.1 rfl (lv_room (Nat.le_of_ble_eq_true rfl)) dd_M_store_16 ⟨Nat.zero_le _, Nat.zero_le _⟩) (fun r hr9 => ?_)
      subst hr9
      refine lv_if_ne (tgt := 31) hx hb dd_M_store_19 (by decide) (fun c17 => ?_) (fun c17 => ?_)
      · have hf := hf.trans (if_neg c17)
        have hok := hok.2 c17
        refine lv_iconst (v := (-1)) hx hb dd_M_store_31 (by decide) ?_
        exact W.iret (v := ((-1) : Int32)) hx hb hr (fun t ht hW => ⟨⟨((-1) : Int32), u0, rfl, hf.symm, pM_up hP hK hD ht hW⟩, hS.F ht⟩) hS.2.2 dd_M_store_32
      · have hf := hf.trans (if_pos c17)
        have hok := hok.1 c17
        refine lv_aload_n hx hb dd_M_store_22 rfl (lv_at hl 0 rfl) ?_
        refine lv_iload_n hx hb dd_M_store_23 rfl (lv_at hl 1 rfl) ?_
        obtain ⟨n18, hok⟩ := hok
        refine vp_callSi (W.runV (As := [.int p0]) (rest := []) ⟨hx, hb, hml, hown, hts⟩ (mm_M_array l dC dI h a k u0 p0 n18) (cwV 1 hts (gg_V gw_476 gw_478 gs_30 gw_2 gw_479) rfl rfl rfl (by decide +kernel) ⟨Nat.le_of_ble_eq_true rfl, Nat.le_of_ble_eq_true rfl⟩) ⟨pM_bl, va_recv hK hP (ci := 0) (q0 := 0) rfl rfl, fun U hU hW => ⟨rfl, pM_up hP hK hD hU hW⟩⟩ rfl rfl hl.1 rfl (lv_room (Nat.le_of_ble_eq_true rfl)) dd_M_store_24 ⟨Nat.zero_le _, Nat.zero_le _⟩) (fun r hr9 => ?_)
        subst hr9
        refine lv_iconst (v := 2) hx hb dd_M_store_27 (by decide) ?_
        refine lv_icmp_eq (tgt := 33) hx hb dd_M_store_28 (by decide) (fun c19 => ?_) (fun c19 => ?_)
        · have hf := hf.trans (if_pos c19)
          have hok := hok.1 c19
          refine lv_aload_n hx hb dd_M_store_33 rfl (lv_at hl 0 rfl) ?_
          refine lv_iload_n hx hb dd_M_store_34 rfl (lv_at hl 1 rfl) ?_
          refine lv_iload_n hx hb dd_M_store_35 rfl (lv_at hl 2 rfl) ?_
          obtain ⟨n20, hok⟩ := hok
          refine vp_callSi (W.runV (As := [.int p0, .int p1]) (rest := []) ⟨hx, hb, hml, hown, hts⟩ (mm_M_outside l dC dI h a k u0 p0 p1 n20) (cwV 2 hts (gg_V gw_480 gw_482 gs_31 gw_2 gw_483) rfl rfl rfl (by decide +kernel) ⟨Nat.le_of_ble_eq_true rfl, Nat.le_of_ble_eq_true rfl⟩) ⟨pM_bl, va_recv hK hP (ci := 0) (q0 := 0) rfl rfl, fun U hU hW => ⟨rfl, pM_up hP hK hD hU hW⟩⟩ rfl rfl hl.1 rfl (lv_room (Nat.le_of_ble_eq_true rfl)) dd_M_store_36 ⟨Nat.zero_le _, Nat.zero_le _⟩) (fun r hr9 => ?_)
          subst hr9
          refine lv_if_eq (tgt := 45) hx hb dd_M_store_39 (by decide) (fun c21 => ?_) (fun c21 => ?_)
          · have hf := hf.trans (if_pos c21)
            have hok := hok.1 c21
            refine lv_iload_n hx hb dd_M_store_45 rfl (lv_at hl 3 rfl) ?_
            refine lv_bipush (v := (-7)) hx hb dd_M_store_46 (by decide) ?_
            refine lv_icmp_eq (tgt := 78) hx hb dd_M_store_48 (by decide) (fun c22 => ?_) (fun c22 => ?_)
            · have hf := hf.trans (if_pos c22)
              have hok := hok.1 c22
              refine lv_aload_n hx hb dd_M_store_78 rfl (lv_at hl 0 rfl) ?_
              refine va_get (D := (dC, dI)) (ci := 0) (v := .ref (a 7)) (C := "ClassObjectMirrorModel") (T := TM) (N := 12) hx hb hts inM hown hK hP 0 rfl rfl 8 (by decide) (hts _ gw_309) (fun _ h9 => h9) rfl dd_M_store_79 ?_
              refine lv_bipush (v := 8) hx hb dd_M_store_82 (by decide) ?_
              refine lv_iload_n hx hb dd_M_store_84 rfl (lv_at hl 1 rfl) ?_
              refine lv_imul hx hb dd_M_store_85 ?_
              refine lv_iload_n hx hb dd_M_store_86 rfl (lv_at hl 2 rfl) ?_
              refine lv_iadd hx hb dd_M_store_87 ?_
              obtain ⟨n23, hok⟩ := hok
              refine va_lald hx hb hK hP 8 7 rfl rfl n23 dd_M_store_88 ?_
              refine lv_l2i (v := (m_cell u0 ((8 * p0) + p1).toNatClampNeg).toInt32) hx hb dd_M_store_89 rfl ?_
              refine lv_istore (lv' := [(4, .int ((m_cell u0 ((8 * p0) + p1).toNatClampNeg).toInt32)), (0, .ref h), (1, .int p0), (2, .int p1), (3, .int p2)]) hx hb dd_M_store_90 hl (by decide) rfl (fun ls hl => ?_)
              refine lv_aload_n hx hb dd_M_store_92 rfl (lv_at hl 1 rfl) ?_
              refine va_get (D := (dC, dI)) (ci := 0) (v := .ref (a 7)) (C := "ClassObjectMirrorModel") (T := TM) (N := 12) hx hb hts inM hown hK hP 0 rfl rfl 8 (by decide) (hts _ gw_309) (fun _ h9 => h9) rfl dd_M_store_93 ?_
              refine lv_bipush (v := 8) hx hb dd_M_store_96 (by decide) ?_
              refine lv_iload_n hx hb dd_M_store_98 rfl (lv_at hl 2 rfl) ?_
              refine lv_imul hx hb dd_M_store_99 ?_
              refine lv_iload_n hx hb dd_M_store_100 rfl (lv_at hl 3 rfl) ?_
              refine lv_iadd hx hb dd_M_store_101 ?_
              refine lv_iload_n hx hb dd_M_store_102 rfl (lv_at hl 4 rfl) ?_
              refine lv_i2l (v := p2.toInt64) hx hb dd_M_store_103 rfl ?_
              have n24 := hok
              refine va_last hx hb hK hP hD hS 8 7 rfl rfl n24 dd_M_store_104 (fun H locs hP hD hS => ?_)
              have hP : va_P (dC, dI) cls_l (wM h a k (m_u_cell u0 ((8 * p0) + p1) p2.toInt64)) H := hP
              have hD : va_D (aM h a) (wM h a k (m_u_cell u0 ((8 * p0) + p1) p2.toInt64)) := hD
              refine lv_iload hx hb dd_M_store_105 (lv_at hl 0 rfl) ?_
              exact W.iret (v := ((m_cell u0 ((8 * p0) + p1).toNatClampNeg).toInt32)) hx hb hr (fun t ht hW => ⟨⟨((m_cell u0 ((8 * p0) + p1).toNatClampNeg).toInt32), m_u_cell u0 ((8 * p0) + p1) p2.toInt64, rfl, hf.symm, pM_up hP hK hD ht hW⟩, hS.F ht⟩) hS.2.2 dd_M_store_107
            · have hf := hf.trans (if_neg c22)
              have hok := hok.2 c22
              refine lv_aload_n hx hb dd_M_store_51 rfl (lv_at hl 0 rfl) ?_
              refine lv_aload_n hx hb dd_M_store_52 rfl (lv_at hl 0 rfl) ?_
              refine va_get (D := (dC, dI)) (ci := 0) (v := .ref (a 2)) (C := "ClassObjectMirrorModel") (T := TM) (N := 12) hx hb hts inM hown hK hP 0 rfl rfl 2 (by decide) (hts _ gw_303) (fun _ h9 => h9) rfl dd_M_store_53 ?_
              refine lv_aload_n hx hb dd_M_store_56 rfl (lv_at hl 0 rfl) ?_
              refine va_get (D := (dC, dI)) (ci := 0) (v := .ref (a 4)) (C := "ClassObjectMirrorModel") (T := TM) (N := 12) hx hb hts inM hown hK hP 0 rfl rfl 5 (by decide) (hts _ gw_306) (fun _ h9 => h9) rfl dd_M_store_57 ?_
              refine lv_iload_n hx hb dd_M_store_60 rfl (lv_at hl 1 rfl) ?_
              obtain ⟨n25, hok⟩ := hok
              refine va_iald hx hb hK hP 5 4 rfl rfl n25 dd_M_store_61 ?_
              obtain ⟨n26, hok⟩ := hok
              refine va_iald hx hb hK hP 3 2 rfl rfl n26 dd_M_store_62 ?_
              refine lv_aload_n hx hb dd_M_store_63 rfl (lv_at hl 0 rfl) ?_
              refine va_get (D := (dC, dI)) (ci := 0) (v := .ref (a 4)) (C := "ClassObjectMirrorModel") (T := TM) (N := 12) hx hb hts inM hown hK hP 0 rfl rfl 5 (by decide) (hts _ gw_306) (fun _ h9 => h9) rfl dd_M_store_64 ?_
              refine lv_iload_n hx hb dd_M_store_67 rfl (lv_at hl 3 rfl) ?_
              obtain ⟨n27, hok⟩ := hok
              refine va_iald hx hb hK hP 5 4 rfl rfl n27 dd_M_store_68 ?_
              obtain ⟨n28, hok⟩ := hok
              refine vp_callSi (W.runV (As := [.int (m_comp u0 (m_kind u0 p0.toNatClampNeg).toNatClampNeg), .int (m_kind u0 p2.toNatClampNeg)]) (rest := []) ⟨hx, hb, hml, hown, hts⟩ (mm_M_above l dC dI h a k u0 (m_comp u0 (m_kind u0 p0.toNatClampNeg).toNatClampNeg) (m_kind u0 p2.toNatClampNeg) n28) (cwV 2 hts (gg_V gw_366 gw_368 gs_21 gw_2 gw_369) rfl rfl rfl (by decide +kernel) ⟨Nat.le_of_ble_eq_true rfl, Nat.le_of_ble_eq_true rfl⟩) ⟨pM_bl, va_recv hK hP (ci := 0) (q0 := 0) rfl rfl, fun U hU hW => ⟨rfl, pM_up hP hK hD hU hW⟩⟩ rfl rfl hl.1 rfl (lv_room (Nat.le_of_ble_eq_true rfl)) dd_M_store_69 ⟨Nat.zero_le _, Nat.zero_le _⟩) (fun r hr9 => ?_)
              subst hr9
              refine lv_if_ne (tgt := 78) hx hb dd_M_store_72 (by decide) (fun c29 => ?_) (fun c29 => ?_)
              · have hf := hf.trans (if_neg c29)
                have hok := hok.2 c29
                refine lv_aload_n hx hb dd_M_store_78 rfl (lv_at hl 0 rfl) ?_
                refine va_get (D := (dC, dI)) (ci := 0) (v := .ref (a 7)) (C := "ClassObjectMirrorModel") (T := TM) (N := 12) hx hb hts inM hown hK hP 0 rfl rfl 8 (by decide) (hts _ gw_309) (fun _ h9 => h9) rfl dd_M_store_79 ?_
                refine lv_bipush (v := 8) hx hb dd_M_store_82 (by decide) ?_
                refine lv_iload_n hx hb dd_M_store_84 rfl (lv_at hl 1 rfl) ?_
                refine lv_imul hx hb dd_M_store_85 ?_
                refine lv_iload_n hx hb dd_M_store_86 rfl (lv_at hl 2 rfl) ?_
                refine lv_iadd hx hb dd_M_store_87 ?_
                obtain ⟨n30, hok⟩ := hok
                refine va_lald hx hb hK hP 8 7 rfl rfl n30 dd_M_store_88 ?_
                refine lv_l2i (v := (m_cell u0 ((8 * p0) + p1).toNatClampNeg).toInt32) hx hb dd_M_store_89 rfl ?_
                refine lv_istore (lv' := [(4, .int ((m_cell u0 ((8 * p0) + p1).toNatClampNeg).toInt32)), (0, .ref h), (1, .int p0), (2, .int p1), (3, .int p2)]) hx hb dd_M_store_90 hl (by decide) rfl (fun ls hl => ?_)
                refine lv_aload_n hx hb dd_M_store_92 rfl (lv_at hl 1 rfl) ?_
                refine va_get (D := (dC, dI)) (ci := 0) (v := .ref (a 7)) (C := "ClassObjectMirrorModel") (T := TM) (N := 12) hx hb hts inM hown hK hP 0 rfl rfl 8 (by decide) (hts _ gw_309) (fun _ h9 => h9) rfl dd_M_store_93 ?_
                refine lv_bipush (v := 8) hx hb dd_M_store_96 (by decide) ?_
                refine lv_iload_n hx hb dd_M_store_98 rfl (lv_at hl 2 rfl) ?_
                refine lv_imul hx hb dd_M_store_99 ?_
                refine lv_iload_n hx hb dd_M_store_100 rfl (lv_at hl 3 rfl) ?_
                refine lv_iadd hx hb dd_M_store_101 ?_
                refine lv_iload_n hx hb dd_M_store_102 rfl (lv_at hl 4 rfl) ?_
                refine lv_i2l (v := p2.toInt64) hx hb dd_M_store_103 rfl ?_
                have n31 := hok
                refine va_last hx hb hK hP hD hS 8 7 rfl rfl n31 dd_M_store_104 (fun H locs hP hD hS => ?_)
                have hP : va_P (dC, dI) cls_l (wM h a k (m_u_cell u0 ((8 * p0) + p1) p2.toInt64)) H := hP
                have hD : va_D (aM h a) (wM h a k (m_u_cell u0 ((8 * p0) + p1) p2.toInt64)) := hD
                refine lv_iload hx hb dd_M_store_105 (lv_at hl 0 rfl) ?_
                exact W.iret (v := ((m_cell u0 ((8 * p0) + p1).toNatClampNeg).toInt32)) hx hb hr (fun t ht hW => ⟨⟨((m_cell u0 ((8 * p0) + p1).toNatClampNeg).toInt32), m_u_cell u0 ((8 * p0) + p1) p2.toInt64, rfl, hf.symm, pM_up hP hK hD ht hW⟩, hS.F ht⟩) hS.2.2 dd_M_store_107
              · have hf := hf.trans (if_pos c29)
                have hok := hok.1 c29
                refine lv_bipush (v := (-6)) hx hb dd_M_store_75 (by decide) ?_
                exact W.iret (v := ((-6) : Int32)) hx hb hr (fun t ht hW => ⟨⟨((-6) : Int32), u0, rfl, hf.symm, pM_up hP hK hD ht hW⟩, hS.F ht⟩) hS.2.2 dd_M_store_77
          · have hf := hf.trans (if_neg c21)
            have hok := hok.2 c21
            refine lv_bipush (v := (-5)) hx hb dd_M_store_42 (by decide) ?_
            exact W.iret (v := ((-5) : Int32)) hx hb hr (fun t ht hW => ⟨⟨((-5) : Int32), u0, rfl, hf.symm, pM_up hP hK hD ht hW⟩, hS.F ht⟩) hS.2.2 dd_M_store_44
        · have hf := hf.trans (if_neg c19)
          have hok := hok.2 c19
          refine lv_iconst (v := (-1)) hx hb dd_M_store_31 (by decide) ?_
          exact W.iret (v := ((-1) : Int32)) hx hb hr (fun t ht hW => ⟨⟨((-1) : Int32), u0, rfl, hf.symm, pM_up hP hK hD ht hW⟩, hS.F ht⟩) hS.2.2 dd_M_store_32

def ff_M_load (u0 : SM) (p0 : Int32) (p1 : Int32) : Int32 := (if (ff_M_noObject u0 p0) = 0 then (if (ff_M_array u0 p0) = 2 then (if (ff_M_outside u0 p0 p1) = 0 then (m_cell u0 ((8 * p0) + p1).toNatClampNeg).toInt32 else (-5)) else (-1)) else (-1))
def ok_M_load (u0 : SM) (p0 : Int32) (p1 : Int32) : Prop := ((((ff_M_noObject u0 p0) = 0) → (ok_M_array u0 p0) ∧ ((((ff_M_array u0 p0) = 2) → (ok_M_outside u0 p0 p1) ∧ ((((ff_M_outside u0 p0 p1) = 0) → vp_in ((8 * p0) + p1) 640) ∧ (¬ ((ff_M_outside u0 p0 p1) = 0) → True))) ∧ (¬ ((ff_M_array u0 p0) = 2) → True))) ∧ (¬ ((ff_M_noObject u0 p0) = 0) → True))
abbrev ws_M_load : List Cond := .code yy_M_load bb_M_load 3 (some .int) :: gW
abbrev rm_M_load : Room := { frames := 2, cells := 0, slots := 0, locals := 41 }
set_option maxHeartbeats 4000000 in
set_option maxRecDepth 100000 in
theorem mm_M_load (l : Launch) (dC : Nat → ClassId) (dI : Nat → Nat → Nat) (h : Nat) (a : Nat → Nat) (k : Nat → ClassId) (u0 : SM) (p0 : Int32) (p1 : Int32) (hok : ok_M_load u0 p0 p1) : Met l yy_M_load ws_M_load rm_M_load (va_Pc [.ref h, .int p0, .int p1] (pM dC dI h a k u0)) (vp_Si (fun r => r = ff_M_load u0 p0 p1)) 0 0 (fun _ => False) := by
  refine Met.ofW (cc := bb_M_load) (maxL := 3) (ret := (some .int)) (by decide) rfl ?_
  intro p e s m args below meth c s₁ B hml hv
  obtain ⟨rfl, hP, hK, hD⟩ := hv
  have hx := B.exec
  have hb := B.bytes
  have hr := B.returns
  have hts : ∀ w ∈ gW, w.before _ s = true := fun w h => atoms_spec (ws := ws_M_load) B.pre w (List.mem_cons_of_mem _ h)
  have hown : s.vm.findClass "ClassObjectMirrorModel" = some m.cls := findClass_of_methodNamed B.named
  have hlocks := B.notSynchronized
  have hS : va_S (aM h a) s.heap s.heap [] := va_S.rf
  have hl := lv_entry ([.ref h, .int p0, .int p1]) (n := 3) (Nat.le_of_ble_eq_true rfl)
  rw [lg_entry_eq]
  generalize (lg_sl ([.ref h, .int p0, .int p1]) ++ List.replicate (3 - (lg_sl ([.ref h, .int p0, .int p1])).length) Slot.unset).toArray = ls at hl ⊢
  have hl : lv_has ls 3 [(0, .ref h), (1, .int p0), (2, .int p1)] := hl
  have hf := ff_M_load.eq_1 u0 p0 p1
  unfold ok_M_load at hok
  refine lv_aload_n hx hb dd_M_load_0 rfl (lv_at hl 0 rfl) ?_
  refine lv_iload_n hx hb dd_M_load_1 rfl (lv_at hl 1 rfl) ?_
  refine vp_callSi (W.runV (As := [.int p0]) (rest := []) ⟨hx, hb, hml, hown, hts⟩ (mm_M_noObject l dC dI h a k u0 p0) (cwV 1 hts (gg_V gw_460 gw_462 gs_29 gw_2 gw_463) rfl rfl rfl (by decide +kernel) ⟨Nat.le_of_ble_eq_true rfl, Nat.le_of_ble_eq_true rfl⟩) ⟨pM_bl, va_recv hK hP (ci := 0) (q0 := 0) rfl rfl, fun U hU hW => ⟨rfl, pM_up hP hK hD hU hW⟩⟩ rfl rfl hl.1 rfl (lv_room (Nat.le_of_ble_eq_true rfl)) dd_M_load_2 ⟨Nat.zero_le _, Nat.zero_le _⟩) (fun r hr9 => ?_)
  subst hr9
  refine lv_if_ne (tgt := 17) hx hb dd_M_load_5 (by decide) (fun c1 => ?_) (fun c1 => ?_)
  · have hf := hf.trans (if_neg c1)
    have hok := hok.2 c1
    refine lv_iconst (v := (-1)) hx hb dd_M_load_17 (by decide) ?_
    exact W.iret (v := ((-1) : Int32)) hx hb hr (fun t ht hW => ⟨((-1) : Int32), rfl, hf.symm, ht⟩) (fun _ h => by cases h) dd_M_load_18
  · have hf := hf.trans (if_pos c1)
    have hok := hok.1 c1
    refine lv_aload_n hx hb dd_M_load_8 rfl (lv_at hl 0 rfl) ?_
    refine lv_iload_n hx hb dd_M_load_9 rfl (lv_at hl 1 rfl) ?_
    obtain ⟨n2, hok⟩ := hok
    refine vp_callSi (W.runV (As := [.int p0]) (rest := []) ⟨hx, hb, hml, hown, hts⟩ (mm_M_array l dC dI h a k u0 p0 n2) (cwV 1 hts (gg_V gw_476 gw_478 gs_30 gw_2 gw_479) rfl rfl rfl (by decide +kernel) ⟨Nat.le_of_ble_eq_true rfl, Nat.le_of_ble_eq_true rfl⟩) ⟨pM_bl, va_recv hK hP (ci := 0) (q0 := 0) rfl rfl, fun U hU hW => ⟨rfl, pM_up hP hK hD hU hW⟩⟩ rfl rfl hl.1 rfl (lv_room (Nat.le_of_ble_eq_true rfl)) dd_M_load_10 ⟨Nat.zero_le _, Nat.zero_le _⟩) (fun r hr9 => ?_)
    subst hr9
    refine lv_iconst (v := 2) hx hb dd_M_load_13 (by decide) ?_
    refine lv_icmp_eq (tgt := 19) hx hb dd_M_load_14 (by decide) (fun c3 => ?_) (fun c3 => ?_)
    · have hf := hf.trans (if_pos c3)
      have hok := hok.1 c3
      refine lv_aload_n hx hb dd_M_load_19 rfl (lv_at hl 0 rfl) ?_
      refine lv_iload_n hx hb dd_M_load_20 rfl (lv_at hl 1 rfl) ?_
      refine lv_iload_n hx hb dd_M_load_21 rfl (lv_at hl 2 rfl) ?_
      obtain ⟨n4, hok⟩ := hok
      refine vp_callSi (W.runV (As := [.int p0, .int p1]) (rest := []) ⟨hx, hb, hml, hown, hts⟩ (mm_M_outside l dC dI h a k u0 p0 p1 n4) (cwV 2 hts (gg_V gw_480 gw_482 gs_31 gw_2 gw_483) rfl rfl rfl (by decide +kernel) ⟨Nat.le_of_ble_eq_true rfl, Nat.le_of_ble_eq_true rfl⟩) ⟨pM_bl, va_recv hK hP (ci := 0) (q0 := 0) rfl rfl, fun U hU hW => ⟨rfl, pM_up hP hK hD hU hW⟩⟩ rfl rfl hl.1 rfl (lv_room (Nat.le_of_ble_eq_true rfl)) dd_M_load_22 ⟨Nat.zero_le _, Nat.zero_le _⟩) (fun r hr9 => ?_)
      subst hr9
      refine lv_if_eq (tgt := 33) hx hb dd_M_load_25 (by decide) (fun c5 => ?_) (fun c5 => ?_)
      · have hf := hf.trans (if_pos c5)
        have hok := hok.1 c5
        refine lv_aload_n hx hb dd_M_load_33 rfl (lv_at hl 0 rfl) ?_
        refine va_get (D := (dC, dI)) (ci := 0) (v := .ref (a 7)) (C := "ClassObjectMirrorModel") (T := TM) (N := 12) hx hb hts inM hown hK hP 0 rfl rfl 8 (by decide) (hts _ gw_309) (fun _ h9 => h9) rfl dd_M_load_34 ?_
        refine lv_bipush (v := 8) hx hb dd_M_load_37 (by decide) ?_
        refine lv_iload_n hx hb dd_M_load_39 rfl (lv_at hl 1 rfl) ?_
        refine lv_imul hx hb dd_M_load_40 ?_
        refine lv_iload_n hx hb dd_M_load_41 rfl (lv_at hl 2 rfl) ?_
        refine lv_iadd hx hb dd_M_load_42 ?_
        have n6 := hok
        refine va_lald hx hb hK hP 8 7 rfl rfl n6 dd_M_load_43 ?_
        refine lv_l2i (v := (m_cell u0 ((8 * p0) + p1).toNatClampNeg).toInt32) hx hb dd_M_load_44 rfl ?_
        exact W.iret (v := ((m_cell u0 ((8 * p0) + p1).toNatClampNeg).toInt32)) hx hb hr (fun t ht hW => ⟨((m_cell u0 ((8 * p0) + p1).toNatClampNeg).toInt32), rfl, hf.symm, ht⟩) (fun _ h => by cases h) dd_M_load_45
      · have hf := hf.trans (if_neg c5)
        have hok := hok.2 c5
        refine lv_bipush (v := (-5)) hx hb dd_M_load_28 (by decide) ?_
        refine lv_goto (tgt := 45) hx hb dd_M_load_30 (by decide) ?_
        exact W.iret (v := ((-5) : Int32)) hx hb hr (fun t ht hW => ⟨((-5) : Int32), rfl, hf.symm, ht⟩) (fun _ h => by cases h) dd_M_load_45
    · have hf := hf.trans (if_neg c3)
      have hok := hok.2 c3
      refine lv_iconst (v := (-1)) hx hb dd_M_load_17 (by decide) ?_
      exact W.iret (v := ((-1) : Int32)) hx hb hr (fun t ht hW => ⟨((-1) : Int32), rfl, hf.symm, ht⟩) (fun _ h => by cases h) dd_M_load_18

def fl_M_rounded_16 : Nat → Int64 → Int64 → Int64 → Int64
  | 0, _, _, _ => 0
  | n + 1, x0, x2, x4 => (if (lg_cmp (x2 / x4) 16777216) < 0 then (if 0 < (lg_cmp (2 * (x2 - x2 / x4 * x4)) x4) then (if 0 ≤ (lg_cmp x0 0) then ((x2 / x4) + 1) * x4 else (-((x2 / x4) + 1)) * x4) else (if (lg_cmp (2 * (x2 - x2 / x4 * x4)) x4) = 0 then (if (lg_cmp x4 1) ≤ 0 then (if 0 ≤ (lg_cmp x0 0) then (x2 / x4) * x4 else (-(x2 / x4)) * x4) else (if (lg_cmp ((x2 / x4) - (x2 / x4) / 2 * 2) 1) = 0 then (if 0 ≤ (lg_cmp x0 0) then ((x2 / x4) + 1) * x4 else (-((x2 / x4) + 1)) * x4) else (if 0 ≤ (lg_cmp x0 0) then (x2 / x4) * x4 else (-(x2 / x4)) * x4))) else (if 0 ≤ (lg_cmp x0 0) then (x2 / x4) * x4 else (-(x2 / x4)) * x4))) else fl_M_rounded_16 n x0 x2 (x4 * 2))
def okl_M_rounded_16 : Nat → Int64 → Int64 → Int64 → Prop
  | 0, _, _, _ => False
  | n + 1, x0, x2, x4 => (¬ x4 = 0) ∧ ((((lg_cmp (x2 / x4) 16777216) < 0) → (¬ x4 = 0) ∧ ¬ x4 = 0) ∧ (¬ ((lg_cmp (x2 / x4) 16777216) < 0) → okl_M_rounded_16 n x0 x2 (x4 * 2)))
def ff_M_rounded (p0 : Int64) : Int64 := (if 0 ≤ (lg_cmp p0 0) then fl_M_rounded_16 12 p0 p0 (1 : Int64) else fl_M_rounded_16 12 p0 (-p0) (1 : Int64))
def ok_M_rounded (p0 : Int64) : Prop := (((0 ≤ (lg_cmp p0 0)) → okl_M_rounded_16 12 p0 p0 (1 : Int64)) ∧ (¬ (0 ≤ (lg_cmp p0 0)) → okl_M_rounded_16 12 p0 (-p0) (1 : Int64)))
abbrev ws_M_rounded : List Cond := .code yy_M_rounded bb_M_rounded 10 (some .long) :: gW
abbrev rm_M_rounded : Room := { frames := 0, cells := 0, slots := 0, locals := 0 }
set_option maxHeartbeats 4000000 in
set_option maxRecDepth 100000 in
theorem mm_M_rounded (l : Launch) (p0 : Int64) (hok : ok_M_rounded p0) : Met l yy_M_rounded ws_M_rounded rm_M_rounded (va_Pc [.long p0] (fun _ => True)) (vp_Sl (fun r => r = ff_M_rounded p0)) 0 0 (fun _ => False) := by
  refine Met.ofW (cc := bb_M_rounded) (maxL := 10) (ret := (some .long)) (by decide) rfl ?_
  intro p e s m args below meth c s₁ B hml hv
  obtain ⟨rfl, -⟩ := hv
  have hx := B.exec
  have hb := B.bytes
  have hr := B.returns
  have hts : ∀ w ∈ gW, w.before _ s = true := fun w h => atoms_spec (ws := ws_M_rounded) B.pre w (List.mem_cons_of_mem _ h)
  have hown : s.vm.findClass "ClassObjectMirrorModel" = some m.cls := findClass_of_methodNamed B.named
  have hlocks := B.notSynchronized
  have hl := lv_entry ([.long p0]) (n := 10) (Nat.le_of_ble_eq_true rfl)
  rw [lg_entry_eq]
  generalize (lg_sl ([.long p0]) ++ List.replicate (10 - (lg_sl ([.long p0])).length) Slot.unset).toArray = ls at hl ⊢
  have hl : lv_has ls 10 [(0, .long p0)] := hl
  have hf := ff_M_rounded.eq_1 p0
  unfold ok_M_rounded at hok
  refine lv_lload_n hx hb dd_M_rounded_0 rfl (lv_at hl 0 rfl) ?_
  refine lv_lconst (v := 0) hx hb dd_M_rounded_1 (by decide) ?_
  refine W.lcmp hx hb dd_M_rounded_2 ?_
  refine lv_if_ge (tgt := 11) hx hb dd_M_rounded_3 (by decide) (fun c1 => ?_) (fun c1 => ?_)
  · have hf := hf.trans (if_pos c1)
    have hok := hok.1 c1
    refine lv_lload_n hx hb dd_M_rounded_11 rfl (lv_at hl 0 rfl) ?_
    refine lv_lstore_n (lv' := [(2, .long p0), (0, .long p0)]) hx hb dd_M_rounded_12 rfl hl (by decide) rfl (fun ls hl => ?_)
    refine lv_lconst (v := 1) hx hb dd_M_rounded_13 (by decide) ?_
    refine lv_lstore (lv' := [(4, .long 1), (2, .long p0), (0, .long p0)]) hx hb dd_M_rounded_14 hl (by decide) rfl (fun ls hl => ?_)
    have loop_16 : ∀ (n : Nat) (x0 : Int64) (x2 : Int64) (x4 : Int64) (ls : Array Slot), okl_M_rounded_16 n x0 x2 x4 → ff_M_rounded p0 = fl_M_rounded_16 n x0 x2 x4 → lv_has ls 10 [(0, .long x0), (2, .long x2), (4, .long x4)] → W p l e (headSpec ws_M_rounded rm_M_rounded).room s m ([.long p0] : List Value).toArray below meth c s.heap [] 0 0 (MQ below (vp_Sl (fun r => r = ff_M_rounded p0)) ([.long p0] : List Value).toArray s 0 0 (fun _ => False)) (F0 m 16 ls []) := by
      intro n
      induction n with
      | zero => intro x0 x2 x4 ls hok; exact (show False from hok).elim
      | succ n ih =>
        intro x0 x2 x4 ls hok hf hl
        rw [fl_M_rounded_16] at hf
        rw [okl_M_rounded_16] at hok
        refine lv_lload_n hx hb dd_M_rounded_16 rfl (lv_at hl 1 rfl) ?_
        refine lv_lload hx hb dd_M_rounded_17 (lv_at hl 2 rfl) ?_
        obtain ⟨n2, hok⟩ := hok
        refine lv_ldiv hx hb dd_M_rounded_19 n2 ?_
        refine lv_ldc2 (v := 16777216) hx hb hown (hts _ gw_499) dd_M_rounded_20 ?_
        refine W.lcmp hx hb dd_M_rounded_23 ?_
        refine lv_if_lt (tgt := 38) hx hb dd_M_rounded_24 (by decide) (fun c3 => ?_) (fun c3 => ?_)
        · have hf := hf.trans (if_pos c3)
          have hok := hok.1 c3
          refine lv_lload_n hx hb dd_M_rounded_38 rfl (lv_at hl 1 rfl) ?_
          refine lv_lload hx hb dd_M_rounded_39 (lv_at hl 2 rfl) ?_
          obtain ⟨n4, hok⟩ := hok
          refine lv_ldiv hx hb dd_M_rounded_41 n4 ?_
          refine lv_lstore (lv' := [(6, .long (x2 / x4)), (0, .long x0), (2, .long x2), (4, .long x4)]) hx hb dd_M_rounded_42 hl (by decide) rfl (fun ls hl => ?_)
          refine lv_lload_n hx hb dd_M_rounded_44 rfl (lv_at hl 2 rfl) ?_
          refine lv_lload hx hb dd_M_rounded_45 (lv_at hl 3 rfl) ?_
          have n5 := hok
          refine lv_lrem hx hb dd_M_rounded_47 n5 ?_
          refine lv_lstore (lv' := [(8, .long (x2 - x2 / x4 * x4)), (6, .long (x2 / x4)), (0, .long x0), (2, .long x2), (4, .long x4)]) hx hb dd_M_rounded_48 hl (by decide) rfl (fun ls hl => ?_)
          refine lv_ldc2 (v := 2) hx hb hown (hts _ gw_500) dd_M_rounded_50 ?_
          refine lv_lload hx hb dd_M_rounded_53 (lv_at hl 0 rfl) ?_
          refine lv_lmul hx hb dd_M_rounded_55 ?_
          refine lv_lload hx hb dd_M_rounded_56 (lv_at hl 4 rfl) ?_
          refine W.lcmp hx hb dd_M_rounded_58 ?_
          refine lv_if_gt (tgt := 92) hx hb dd_M_rounded_59 (by decide) (fun c6 => ?_) (fun c6 => ?_)
          · have hf := hf.trans (if_pos c6)
            refine lv_lload hx hb dd_M_rounded_92 (lv_at hl 1 rfl) ?_
            refine lv_lconst (v := 1) hx hb dd_M_rounded_94 (by decide) ?_
            refine lv_ladd hx hb dd_M_rounded_95 ?_
            refine lv_lstore (lv' := [(6, .long ((x2 / x4) + 1)), (8, .long (x2 - x2 / x4 * x4)), (0, .long x0), (2, .long x2), (4, .long x4)]) hx hb dd_M_rounded_96 hl (by decide) rfl (fun ls hl => ?_)
            refine lv_lload_n hx hb dd_M_rounded_98 rfl (lv_at hl 2 rfl) ?_
            refine lv_lconst (v := 0) hx hb dd_M_rounded_99 (by decide) ?_
            refine W.lcmp hx hb dd_M_rounded_100 ?_
            refine lv_if_ge (tgt := 113) hx hb dd_M_rounded_101 (by decide) (fun c7 => ?_) (fun c7 => ?_)
            · have hf := hf.trans (if_pos c7)
              refine lv_lload hx hb dd_M_rounded_113 (lv_at hl 0 rfl) ?_
              refine lv_lload hx hb dd_M_rounded_115 (lv_at hl 4 rfl) ?_
              refine lv_lmul hx hb dd_M_rounded_117 ?_
              exact W.lret (v := (((x2 / x4) + 1) * x4)) hx hb hr (fun t ht hW => ⟨(((x2 / x4) + 1) * x4), rfl, hf.symm, ht⟩) (fun _ h => by cases h) dd_M_rounded_118
            · have hf := hf.trans (if_neg c7)
              refine lv_lload hx hb dd_M_rounded_104 (lv_at hl 0 rfl) ?_
              refine lv_lneg hx hb dd_M_rounded_106 ?_
              refine lv_lload hx hb dd_M_rounded_107 (lv_at hl 4 rfl) ?_
              refine lv_lmul hx hb dd_M_rounded_109 ?_
              refine lv_goto (tgt := 118) hx hb dd_M_rounded_110 (by decide) ?_
              exact W.lret (v := ((-((x2 / x4) + 1)) * x4)) hx hb hr (fun t ht hW => ⟨((-((x2 / x4) + 1)) * x4), rfl, hf.symm, ht⟩) (fun _ h => by cases h) dd_M_rounded_118
          · have hf := hf.trans (if_neg c6)
            refine lv_ldc2 (v := 2) hx hb hown (hts _ gw_500) dd_M_rounded_62 ?_
            refine lv_lload hx hb dd_M_rounded_65 (lv_at hl 0 rfl) ?_
            refine lv_lmul hx hb dd_M_rounded_67 ?_
            refine lv_lload hx hb dd_M_rounded_68 (lv_at hl 4 rfl) ?_
            refine W.lcmp hx hb dd_M_rounded_70 ?_
            refine lv_if_ne (tgt := 98) hx hb dd_M_rounded_71 (by decide) (fun c8 => ?_) (fun c8 => ?_)
            · have hf := hf.trans (if_neg c8)
              refine lv_lload_n hx hb dd_M_rounded_98 rfl (lv_at hl 2 rfl) ?_
              refine lv_lconst (v := 0) hx hb dd_M_rounded_99 (by decide) ?_
              refine W.lcmp hx hb dd_M_rounded_100 ?_
              refine lv_if_ge (tgt := 113) hx hb dd_M_rounded_101 (by decide) (fun c9 => ?_) (fun c9 => ?_)
              · have hf := hf.trans (if_pos c9)
                refine lv_lload hx hb dd_M_rounded_113 (lv_at hl 1 rfl) ?_
                refine lv_lload hx hb dd_M_rounded_115 (lv_at hl 4 rfl) ?_
                refine lv_lmul hx hb dd_M_rounded_117 ?_
                exact W.lret (v := ((x2 / x4) * x4)) hx hb hr (fun t ht hW => ⟨((x2 / x4) * x4), rfl, hf.symm, ht⟩) (fun _ h => by cases h) dd_M_rounded_118
              · have hf := hf.trans (if_neg c9)
                refine lv_lload hx hb dd_M_rounded_104 (lv_at hl 1 rfl) ?_
                refine lv_lneg hx hb dd_M_rounded_106 ?_
                refine lv_lload hx hb dd_M_rounded_107 (lv_at hl 4 rfl) ?_
                refine lv_lmul hx hb dd_M_rounded_109 ?_
                refine lv_goto (tgt := 118) hx hb dd_M_rounded_110 (by decide) ?_
                exact W.lret (v := ((-(x2 / x4)) * x4)) hx hb hr (fun t ht hW => ⟨((-(x2 / x4)) * x4), rfl, hf.symm, ht⟩) (fun _ h => by cases h) dd_M_rounded_118
            · have hf := hf.trans (if_pos c8)
              refine lv_lload hx hb dd_M_rounded_74 (lv_at hl 4 rfl) ?_
              refine lv_lconst (v := 1) hx hb dd_M_rounded_76 (by decide) ?_
              refine W.lcmp hx hb dd_M_rounded_77 ?_
              refine lv_if_le (tgt := 98) hx hb dd_M_rounded_78 (by decide) (fun c10 => ?_) (fun c10 => ?_)
              · have hf := hf.trans (if_pos c10)
                refine lv_lload_n hx hb dd_M_rounded_98 rfl (lv_at hl 2 rfl) ?_
                refine lv_lconst (v := 0) hx hb dd_M_rounded_99 (by decide) ?_
                refine W.lcmp hx hb dd_M_rounded_100 ?_
                refine lv_if_ge (tgt := 113) hx hb dd_M_rounded_101 (by decide) (fun c11 => ?_) (fun c11 => ?_)
                · have hf := hf.trans (if_pos c11)
                  refine lv_lload hx hb dd_M_rounded_113 (lv_at hl 1 rfl) ?_
                  refine lv_lload hx hb dd_M_rounded_115 (lv_at hl 4 rfl) ?_
                  refine lv_lmul hx hb dd_M_rounded_117 ?_
                  exact W.lret (v := ((x2 / x4) * x4)) hx hb hr (fun t ht hW => ⟨((x2 / x4) * x4), rfl, hf.symm, ht⟩) (fun _ h => by cases h) dd_M_rounded_118
                · have hf := hf.trans (if_neg c11)
                  refine lv_lload hx hb dd_M_rounded_104 (lv_at hl 1 rfl) ?_
                  refine lv_lneg hx hb dd_M_rounded_106 ?_
                  refine lv_lload hx hb dd_M_rounded_107 (lv_at hl 4 rfl) ?_
                  refine lv_lmul hx hb dd_M_rounded_109 ?_
                  refine lv_goto (tgt := 118) hx hb dd_M_rounded_110 (by decide) ?_
                  exact W.lret (v := ((-(x2 / x4)) * x4)) hx hb hr (fun t ht hW => ⟨((-(x2 / x4)) * x4), rfl, hf.symm, ht⟩) (fun _ h => by cases h) dd_M_rounded_118
              · have hf := hf.trans (if_neg c10)
                refine lv_lload hx hb dd_M_rounded_81 (lv_at hl 1 rfl) ?_
                refine lv_ldc2 (v := 2) hx hb hown (hts _ gw_500) dd_M_rounded_83 ?_
                refine lv_lrem hx hb dd_M_rounded_86 (by decide) ?_
                refine lv_lconst (v := 1) hx hb dd_M_rounded_87 (by decide) ?_
                refine W.lcmp hx hb dd_M_rounded_88 ?_
                refine lv_if_ne (tgt := 98) hx hb dd_M_rounded_89 (by decide) (fun c12 => ?_) (fun c12 => ?_)
                · have hf := hf.trans (if_neg c12)
                  refine lv_lload_n hx hb dd_M_rounded_98 rfl (lv_at hl 2 rfl) ?_
                  refine lv_lconst (v := 0) hx hb dd_M_rounded_99 (by decide) ?_
                  refine W.lcmp hx hb dd_M_rounded_100 ?_
                  refine lv_if_ge (tgt := 113) hx hb dd_M_rounded_101 (by decide) (fun c13 => ?_) (fun c13 => ?_)
                  · have hf := hf.trans (if_pos c13)
                    refine lv_lload hx hb dd_M_rounded_113 (lv_at hl 1 rfl) ?_
                    refine lv_lload hx hb dd_M_rounded_115 (lv_at hl 4 rfl) ?_
                    refine lv_lmul hx hb dd_M_rounded_117 ?_
                    exact W.lret (v := ((x2 / x4) * x4)) hx hb hr (fun t ht hW => ⟨((x2 / x4) * x4), rfl, hf.symm, ht⟩) (fun _ h => by cases h) dd_M_rounded_118
                  · have hf := hf.trans (if_neg c13)
                    refine lv_lload hx hb dd_M_rounded_104 (lv_at hl 1 rfl) ?_
                    refine lv_lneg hx hb dd_M_rounded_106 ?_
                    refine lv_lload hx hb dd_M_rounded_107 (lv_at hl 4 rfl) ?_
                    refine lv_lmul hx hb dd_M_rounded_109 ?_
                    refine lv_goto (tgt := 118) hx hb dd_M_rounded_110 (by decide) ?_
                    exact W.lret (v := ((-(x2 / x4)) * x4)) hx hb hr (fun t ht hW => ⟨((-(x2 / x4)) * x4), rfl, hf.symm, ht⟩) (fun _ h => by cases h) dd_M_rounded_118
                · have hf := hf.trans (if_pos c12)
                  refine lv_lload hx hb dd_M_rounded_92 (lv_at hl 1 rfl) ?_
                  refine lv_lconst (v := 1) hx hb dd_M_rounded_94 (by decide) ?_
                  refine lv_ladd hx hb dd_M_rounded_95 ?_
                  refine lv_lstore (lv' := [(6, .long ((x2 / x4) + 1)), (8, .long (x2 - x2 / x4 * x4)), (0, .long x0), (2, .long x2), (4, .long x4)]) hx hb dd_M_rounded_96 hl (by decide) rfl (fun ls hl => ?_)
                  refine lv_lload_n hx hb dd_M_rounded_98 rfl (lv_at hl 2 rfl) ?_
                  refine lv_lconst (v := 0) hx hb dd_M_rounded_99 (by decide) ?_
                  refine W.lcmp hx hb dd_M_rounded_100 ?_
                  refine lv_if_ge (tgt := 113) hx hb dd_M_rounded_101 (by decide) (fun c14 => ?_) (fun c14 => ?_)
                  · have hf := hf.trans (if_pos c14)
                    refine lv_lload hx hb dd_M_rounded_113 (lv_at hl 0 rfl) ?_
                    refine lv_lload hx hb dd_M_rounded_115 (lv_at hl 4 rfl) ?_
                    refine lv_lmul hx hb dd_M_rounded_117 ?_
                    exact W.lret (v := (((x2 / x4) + 1) * x4)) hx hb hr (fun t ht hW => ⟨(((x2 / x4) + 1) * x4), rfl, hf.symm, ht⟩) (fun _ h => by cases h) dd_M_rounded_118
                  · have hf := hf.trans (if_neg c14)
                    refine lv_lload hx hb dd_M_rounded_104 (lv_at hl 0 rfl) ?_
                    refine lv_lneg hx hb dd_M_rounded_106 ?_
                    refine lv_lload hx hb dd_M_rounded_107 (lv_at hl 4 rfl) ?_
                    refine lv_lmul hx hb dd_M_rounded_109 ?_
                    refine lv_goto (tgt := 118) hx hb dd_M_rounded_110 (by decide) ?_
                    exact W.lret (v := ((-((x2 / x4) + 1)) * x4)) hx hb hr (fun t ht hW => ⟨((-((x2 / x4) + 1)) * x4), rfl, hf.symm, ht⟩) (fun _ h => by cases h) dd_M_rounded_118
        · have hf := hf.trans (if_neg c3)
          have hok := hok.2 c3
          refine lv_lload hx hb dd_M_rounded_27 (lv_at hl 2 rfl) ?_
          refine lv_ldc2 (v := 2) hx hb hown (hts _ gw_500) dd_M_rounded_29 ?_
          refine lv_lmul hx hb dd_M_rounded_32 ?_
          refine lv_lstore (lv' := [(4, .long (x4 * 2)), (0, .long x0), (2, .long x2)]) hx hb dd_M_rounded_33 hl (by decide) rfl (fun ls hl => ?_)
          refine lv_goto (tgt := 16) hx hb dd_M_rounded_35 (by decide) ?_
          exact ih x0 x2 (x4 * 2) ls hok hf (lv_sub hl [1, 2, 0] rfl)
    exact loop_16 12 p0 p0 (1 : Int64) ls hok hf (lv_sub hl [2, 1, 0] rfl)
  · have hf := hf.trans (if_neg c1)
    have hok := hok.2 c1
    refine lv_lload_n hx hb dd_M_rounded_6 rfl (lv_at hl 0 rfl) ?_
    refine lv_lneg hx hb dd_M_rounded_7 ?_
    refine lv_goto (tgt := 12) hx hb dd_M_rounded_8 (by decide) ?_
    refine lv_lstore_n (lv' := [(2, .long (-p0)), (0, .long p0)]) hx hb dd_M_rounded_12 rfl hl (by decide) rfl (fun ls hl => ?_)
    refine lv_lconst (v := 1) hx hb dd_M_rounded_13 (by decide) ?_
    refine lv_lstore (lv' := [(4, .long 1), (2, .long (-p0)), (0, .long p0)]) hx hb dd_M_rounded_14 hl (by decide) rfl (fun ls hl => ?_)
    have loop_16 : ∀ (n : Nat) (x0 : Int64) (x2 : Int64) (x4 : Int64) (ls : Array Slot), okl_M_rounded_16 n x0 x2 x4 → ff_M_rounded p0 = fl_M_rounded_16 n x0 x2 x4 → lv_has ls 10 [(0, .long x0), (2, .long x2), (4, .long x4)] → W p l e (headSpec ws_M_rounded rm_M_rounded).room s m ([.long p0] : List Value).toArray below meth c s.heap [] 0 0 (MQ below (vp_Sl (fun r => r = ff_M_rounded p0)) ([.long p0] : List Value).toArray s 0 0 (fun _ => False)) (F0 m 16 ls []) := by
      intro n
      induction n with
      | zero => intro x0 x2 x4 ls hok; exact (show False from hok).elim
      | succ n ih =>
        intro x0 x2 x4 ls hok hf hl
        rw [fl_M_rounded_16] at hf
        rw [okl_M_rounded_16] at hok
        refine lv_lload_n hx hb dd_M_rounded_16 rfl (lv_at hl 1 rfl) ?_
        refine lv_lload hx hb dd_M_rounded_17 (lv_at hl 2 rfl) ?_
        obtain ⟨n15, hok⟩ := hok
        refine lv_ldiv hx hb dd_M_rounded_19 n15 ?_
        refine lv_ldc2 (v := 16777216) hx hb hown (hts _ gw_499) dd_M_rounded_20 ?_
        refine W.lcmp hx hb dd_M_rounded_23 ?_
        refine lv_if_lt (tgt := 38) hx hb dd_M_rounded_24 (by decide) (fun c16 => ?_) (fun c16 => ?_)
        · have hf := hf.trans (if_pos c16)
          have hok := hok.1 c16
          refine lv_lload_n hx hb dd_M_rounded_38 rfl (lv_at hl 1 rfl) ?_
          refine lv_lload hx hb dd_M_rounded_39 (lv_at hl 2 rfl) ?_
          obtain ⟨n17, hok⟩ := hok
          refine lv_ldiv hx hb dd_M_rounded_41 n17 ?_
          refine lv_lstore (lv' := [(6, .long (x2 / x4)), (0, .long x0), (2, .long x2), (4, .long x4)]) hx hb dd_M_rounded_42 hl (by decide) rfl (fun ls hl => ?_)
          refine lv_lload_n hx hb dd_M_rounded_44 rfl (lv_at hl 2 rfl) ?_
          refine lv_lload hx hb dd_M_rounded_45 (lv_at hl 3 rfl) ?_
          have n18 := hok
          refine lv_lrem hx hb dd_M_rounded_47 n18 ?_
          refine lv_lstore (lv' := [(8, .long (x2 - x2 / x4 * x4)), (6, .long (x2 / x4)), (0, .long x0), (2, .long x2), (4, .long x4)]) hx hb dd_M_rounded_48 hl (by decide) rfl (fun ls hl => ?_)
          refine lv_ldc2 (v := 2) hx hb hown (hts _ gw_500) dd_M_rounded_50 ?_
          refine lv_lload hx hb dd_M_rounded_53 (lv_at hl 0 rfl) ?_
          refine lv_lmul hx hb dd_M_rounded_55 ?_
          refine lv_lload hx hb dd_M_rounded_56 (lv_at hl 4 rfl) ?_
          refine W.lcmp hx hb dd_M_rounded_58 ?_
          refine lv_if_gt (tgt := 92) hx hb dd_M_rounded_59 (by decide) (fun c19 => ?_) (fun c19 => ?_)
          · have hf := hf.trans (if_pos c19)
            refine lv_lload hx hb dd_M_rounded_92 (lv_at hl 1 rfl) ?_
            refine lv_lconst (v := 1) hx hb dd_M_rounded_94 (by decide) ?_
            refine lv_ladd hx hb dd_M_rounded_95 ?_
            refine lv_lstore (lv' := [(6, .long ((x2 / x4) + 1)), (8, .long (x2 - x2 / x4 * x4)), (0, .long x0), (2, .long x2), (4, .long x4)]) hx hb dd_M_rounded_96 hl (by decide) rfl (fun ls hl => ?_)
            refine lv_lload_n hx hb dd_M_rounded_98 rfl (lv_at hl 2 rfl) ?_
            refine lv_lconst (v := 0) hx hb dd_M_rounded_99 (by decide) ?_
            refine W.lcmp hx hb dd_M_rounded_100 ?_
            refine lv_if_ge (tgt := 113) hx hb dd_M_rounded_101 (by decide) (fun c20 => ?_) (fun c20 => ?_)
            · have hf := hf.trans (if_pos c20)
              refine lv_lload hx hb dd_M_rounded_113 (lv_at hl 0 rfl) ?_
              refine lv_lload hx hb dd_M_rounded_115 (lv_at hl 4 rfl) ?_
              refine lv_lmul hx hb dd_M_rounded_117 ?_
              exact W.lret (v := (((x2 / x4) + 1) * x4)) hx hb hr (fun t ht hW => ⟨(((x2 / x4) + 1) * x4), rfl, hf.symm, ht⟩) (fun _ h => by cases h) dd_M_rounded_118
            · have hf := hf.trans (if_neg c20)
              refine lv_lload hx hb dd_M_rounded_104 (lv_at hl 0 rfl) ?_
              refine lv_lneg hx hb dd_M_rounded_106 ?_
              refine lv_lload hx hb dd_M_rounded_107 (lv_at hl 4 rfl) ?_
              refine lv_lmul hx hb dd_M_rounded_109 ?_
              refine lv_goto (tgt := 118) hx hb dd_M_rounded_110 (by decide) ?_
              exact W.lret (v := ((-((x2 / x4) + 1)) * x4)) hx hb hr (fun t ht hW => ⟨((-((x2 / x4) + 1)) * x4), rfl, hf.symm, ht⟩) (fun _ h => by cases h) dd_M_rounded_118
          · have hf := hf.trans (if_neg c19)
            refine lv_ldc2 (v := 2) hx hb hown (hts _ gw_500) dd_M_rounded_62 ?_
            refine lv_lload hx hb dd_M_rounded_65 (lv_at hl 0 rfl) ?_
            refine lv_lmul hx hb dd_M_rounded_67 ?_
            refine lv_lload hx hb dd_M_rounded_68 (lv_at hl 4 rfl) ?_
            refine W.lcmp hx hb dd_M_rounded_70 ?_
            refine lv_if_ne (tgt := 98) hx hb dd_M_rounded_71 (by decide) (fun c21 => ?_) (fun c21 => ?_)
            · have hf := hf.trans (if_neg c21)
              refine lv_lload_n hx hb dd_M_rounded_98 rfl (lv_at hl 2 rfl) ?_
              refine lv_lconst (v := 0) hx hb dd_M_rounded_99 (by decide) ?_
              refine W.lcmp hx hb dd_M_rounded_100 ?_
              refine lv_if_ge (tgt := 113) hx hb dd_M_rounded_101 (by decide) (fun c22 => ?_) (fun c22 => ?_)
              · have hf := hf.trans (if_pos c22)
                refine lv_lload hx hb dd_M_rounded_113 (lv_at hl 1 rfl) ?_
                refine lv_lload hx hb dd_M_rounded_115 (lv_at hl 4 rfl) ?_
                refine lv_lmul hx hb dd_M_rounded_117 ?_
                exact W.lret (v := ((x2 / x4) * x4)) hx hb hr (fun t ht hW => ⟨((x2 / x4) * x4), rfl, hf.symm, ht⟩) (fun _ h => by cases h) dd_M_rounded_118
              · have hf := hf.trans (if_neg c22)
                refine lv_lload hx hb dd_M_rounded_104 (lv_at hl 1 rfl) ?_
                refine lv_lneg hx hb dd_M_rounded_106 ?_
                refine lv_lload hx hb dd_M_rounded_107 (lv_at hl 4 rfl) ?_
                refine lv_lmul hx hb dd_M_rounded_109 ?_
                refine lv_goto (tgt := 118) hx hb dd_M_rounded_110 (by decide) ?_
                exact W.lret (v := ((-(x2 / x4)) * x4)) hx hb hr (fun t ht hW => ⟨((-(x2 / x4)) * x4), rfl, hf.symm, ht⟩) (fun _ h => by cases h) dd_M_rounded_118
            · have hf := hf.trans (if_pos c21)
              refine lv_lload hx hb dd_M_rounded_74 (lv_at hl 4 rfl) ?_
              refine lv_lconst (v := 1) hx hb dd_M_rounded_76 (by decide) ?_
              refine W.lcmp hx hb dd_M_rounded_77 ?_
              refine lv_if_le (tgt := 98) hx hb dd_M_rounded_78 (by decide) (fun c23 => ?_) (fun c23 => ?_)
              · have hf := hf.trans (if_pos c23)
                refine lv_lload_n hx hb dd_M_rounded_98 rfl (lv_at hl 2 rfl) ?_
                refine lv_lconst (v := 0) hx hb dd_M_rounded_99 (by decide) ?_
                refine W.lcmp hx hb dd_M_rounded_100 ?_
                refine lv_if_ge (tgt := 113) hx hb dd_M_rounded_101 (by decide) (fun c24 => ?_) (fun c24 => ?_)
                · have hf := hf.trans (if_pos c24)
                  refine lv_lload hx hb dd_M_rounded_113 (lv_at hl 1 rfl) ?_
                  refine lv_lload hx hb dd_M_rounded_115 (lv_at hl 4 rfl) ?_
                  refine lv_lmul hx hb dd_M_rounded_117 ?_
                  exact W.lret (v := ((x2 / x4) * x4)) hx hb hr (fun t ht hW => ⟨((x2 / x4) * x4), rfl, hf.symm, ht⟩) (fun _ h => by cases h) dd_M_rounded_118
                · have hf := hf.trans (if_neg c24)
                  refine lv_lload hx hb dd_M_rounded_104 (lv_at hl 1 rfl) ?_
                  refine lv_lneg hx hb dd_M_rounded_106 ?_
                  refine lv_lload hx hb dd_M_rounded_107 (lv_at hl 4 rfl) ?_
                  refine lv_lmul hx hb dd_M_rounded_109 ?_
                  refine lv_goto (tgt := 118) hx hb dd_M_rounded_110 (by decide) ?_
                  exact W.lret (v := ((-(x2 / x4)) * x4)) hx hb hr (fun t ht hW => ⟨((-(x2 / x4)) * x4), rfl, hf.symm, ht⟩) (fun _ h => by cases h) dd_M_rounded_118
              · have hf := hf.trans (if_neg c23)
                refine lv_lload hx hb dd_M_rounded_81 (lv_at hl 1 rfl) ?_
                refine lv_ldc2 (v := 2) hx hb hown (hts _ gw_500) dd_M_rounded_83 ?_
                refine lv_lrem hx hb dd_M_rounded_86 (by decide) ?_
                refine lv_lconst (v := 1) hx hb dd_M_rounded_87 (by decide) ?_
                refine W.lcmp hx hb dd_M_rounded_88 ?_
                refine lv_if_ne (tgt := 98) hx hb dd_M_rounded_89 (by decide) (fun c25 => ?_) (fun c25 => ?_)
                · have hf := hf.trans (if_neg c25)
                  refine lv_lload_n hx hb dd_M_rounded_98 rfl (lv_at hl 2 rfl) ?_
                  refine lv_lconst (v := 0) hx hb dd_M_rounded_99 (by decide) ?_
                  refine W.lcmp hx hb dd_M_rounded_100 ?_
                  refine lv_if_ge (tgt := 113) hx hb dd_M_rounded_101 (by decide) (fun c26 => ?_) (fun c26 => ?_)
                  · have hf := hf.trans (if_pos c26)
                    refine lv_lload hx hb dd_M_rounded_113 (lv_at hl 1 rfl) ?_
                    refine lv_lload hx hb dd_M_rounded_115 (lv_at hl 4 rfl) ?_
                    refine lv_lmul hx hb dd_M_rounded_117 ?_
                    exact W.lret (v := ((x2 / x4) * x4)) hx hb hr (fun t ht hW => ⟨((x2 / x4) * x4), rfl, hf.symm, ht⟩) (fun _ h => by cases h) dd_M_rounded_118
                  · have hf := hf.trans (if_neg c26)
                    refine lv_lload hx hb dd_M_rounded_104 (lv_at hl 1 rfl) ?_
                    refine lv_lneg hx hb dd_M_rounded_106 ?_
                    refine lv_lload hx hb dd_M_rounded_107 (lv_at hl 4 rfl) ?_
                    refine lv_lmul hx hb dd_M_rounded_109 ?_
                    refine lv_goto (tgt := 118) hx hb dd_M_rounded_110 (by decide) ?_
                    exact W.lret (v := ((-(x2 / x4)) * x4)) hx hb hr (fun t ht hW => ⟨((-(x2 / x4)) * x4), rfl, hf.symm, ht⟩) (fun _ h => by cases h) dd_M_rounded_118
                · have hf := hf.trans (if_pos c25)
                  refine lv_lload hx hb dd_M_rounded_92 (lv_at hl 1 rfl) ?_
                  refine lv_lconst (v := 1) hx hb dd_M_rounded_94 (by decide) ?_
                  refine lv_ladd hx hb dd_M_rounded_95 ?_
                  refine lv_lstore (lv' := [(6, .long ((x2 / x4) + 1)), (8, .long (x2 - x2 / x4 * x4)), (0, .long x0), (2, .long x2), (4, .long x4)]) hx hb dd_M_rounded_96 hl (by decide) rfl (fun ls hl => ?_)
                  refine lv_lload_n hx hb dd_M_rounded_98 rfl (lv_at hl 2 rfl) ?_
                  refine lv_lconst (v := 0) hx hb dd_M_rounded_99 (by decide) ?_
                  refine W.lcmp hx hb dd_M_rounded_100 ?_
                  refine lv_if_ge (tgt := 113) hx hb dd_M_rounded_101 (by decide) (fun c27 => ?_) (fun c27 => ?_)
                  · have hf := hf.trans (if_pos c27)
                    refine lv_lload hx hb dd_M_rounded_113 (lv_at hl 0 rfl) ?_
                    refine lv_lload hx hb dd_M_rounded_115 (lv_at hl 4 rfl) ?_
                    refine lv_lmul hx hb dd_M_rounded_117 ?_
                    exact W.lret (v := (((x2 / x4) + 1) * x4)) hx hb hr (fun t ht hW => ⟨(((x2 / x4) + 1) * x4), rfl, hf.symm, ht⟩) (fun _ h => by cases h) dd_M_rounded_118
                  · have hf := hf.trans (if_neg c27)
                    refine lv_lload hx hb dd_M_rounded_104 (lv_at hl 0 rfl) ?_
                    refine lv_lneg hx hb dd_M_rounded_106 ?_
                    refine lv_lload hx hb dd_M_rounded_107 (lv_at hl 4 rfl) ?_
                    refine lv_lmul hx hb dd_M_rounded_109 ?_
                    refine lv_goto (tgt := 118) hx hb dd_M_rounded_110 (by decide) ?_
                    exact W.lret (v := ((-((x2 / x4) + 1)) * x4)) hx hb hr (fun t ht hW => ⟨((-((x2 / x4) + 1)) * x4), rfl, hf.symm, ht⟩) (fun _ h => by cases h) dd_M_rounded_118
        · have hf := hf.trans (if_neg c16)
          have hok := hok.2 c16
          refine lv_lload hx hb dd_M_rounded_27 (lv_at hl 2 rfl) ?_
          refine lv_ldc2 (v := 2) hx hb hown (hts _ gw_500) dd_M_rounded_29 ?_
          refine lv_lmul hx hb dd_M_rounded_32 ?_
          refine lv_lstore (lv' := [(4, .long (x4 * 2)), (0, .long x0), (2, .long x2)]) hx hb dd_M_rounded_33 hl (by decide) rfl (fun ls hl => ?_)
          refine lv_goto (tgt := 16) hx hb dd_M_rounded_35 (by decide) ?_
          exact ih x0 x2 (x4 * 2) ls hok hf (lv_sub hl [1, 2, 0] rfl)
    exact loop_16 12 p0 (-p0) (1 : Int64) ls hok hf (lv_sub hl [2, 1, 0] rfl)

def ff_M_as (p0 : Int32) (p1 : Int32) : Int64 := (if p0 = 0 then (if p1 = 0 then 0 else 1) else (if p0 = 1 then p1.toInt8.toInt32.toInt64 else (if p0 = 2 then (p1 &&& 65535).toInt64 else (if p0 = 3 then p1.toInt16.toInt32.toInt64 else (if p0 = 4 then p1.toInt64 else (if p0 = 5 then p1.toInt64 else (if p0 = 6 then ff_M_rounded p1.toInt64 else p1.toInt64)))))))
def ok_M_as (p0 : Int32) (p1 : Int32) : Prop := (((p0 = 0) → True) ∧ (¬ (p0 = 0) → (((p0 = 1) → True) ∧ (¬ (p0 = 1) → (((p0 = 2) → True) ∧ (¬ (p0 = 2) → (((p0 = 3) → True) ∧ (¬ (p0 = 3) → (((p0 = 4) → True) ∧ (¬ (p0 = 4) → (((p0 = 5) → True) ∧ (¬ (p0 = 5) → (((p0 = 6) → ok_M_rounded p1.toInt64) ∧ (¬ (p0 = 6) → True))))))))))))))
abbrev ws_M_as : List Cond := .code yy_M_as bb_M_as 2 (some .long) :: gW
abbrev rm_M_as : Room := { frames := 1, cells := 0, slots := 0, locals := 29 }
set_option maxHeartbeats 4000000 in
set_option maxRecDepth 100000 in
theorem mm_M_as (l : Launch) (p0 : Int32) (p1 : Int32) (hok : ok_M_as p0 p1) : Met l yy_M_as ws_M_as rm_M_as (va_Pc [.int p0, .int p1] (fun _ => True)) (vp_Sl (fun r => r = ff_M_as p0 p1)) 0 0 (fun _ => False) := by
  refine Met.ofW (cc := bb_M_as) (maxL := 2) (ret := (some .long)) (by decide) rfl ?_
  intro p e s m args below meth c s₁ B hml hv
  obtain ⟨rfl, -⟩ := hv
  have hx := B.exec
  have hb := B.bytes
  have hr := B.returns
  have hts : ∀ w ∈ gW, w.before _ s = true := fun w h => atoms_spec (ws := ws_M_as) B.pre w (List.mem_cons_of_mem _ h)
  have hown : s.vm.findClass "ClassObjectMirrorModel" = some m.cls := findClass_of_methodNamed B.named
  have hlocks := B.notSynchronized
  have hl := lv_entry ([.int p0, .int p1]) (n := 2) (Nat.le_of_ble_eq_true rfl)
  rw [lg_entry_eq]
  generalize (lg_sl ([.int p0, .int p1]) ++ List.replicate (2 - (lg_sl ([.int p0, .int p1])).length) Slot.unset).toArray = ls at hl ⊢
  have hl : lv_has ls 2 [(0, .int p0), (1, .int p1)] := hl
  have hf := ff_M_as.eq_1 p0 p1
  unfold ok_M_as at hok
  refine lv_iload_n hx hb dd_M_as_0 rfl (lv_at hl 0 rfl) ?_
  by_cases c1 : p0 = 0
  · have hf := hf.trans (if_pos c1)
    have hok := hok.1 c1
    refine lv_tableIn (off := 43) (tgt := 44) hx hb dd_M_as_1 (by rw [c1]; decide) (by rw [c1]; decide) (by rw [c1]; decide) (by decide) ?_
    refine lv_iload_n hx hb dd_M_as_44 rfl (lv_at hl 1 rfl) ?_
    refine lv_if_eq (tgt := 52) hx hb dd_M_as_45 (by decide) (fun c9 => ?_) (fun c9 => ?_)
    · have hf := hf.trans (if_pos c9)
      refine lv_lconst (v := 0) hx hb dd_M_as_52 (by decide) ?_
      exact W.lret (v := (0 : Int64)) hx hb hr (fun t ht hW => ⟨(0 : Int64), rfl, hf.symm, ht⟩) (fun _ h => by cases h) dd_M_as_53
    · have hf := hf.trans (if_neg c9)
      refine lv_lconst (v := 1) hx hb dd_M_as_48 (by decide) ?_
      refine lv_goto (tgt := 53) hx hb dd_M_as_49 (by decide) ?_
      exact W.lret (v := (1 : Int64)) hx hb hr (fun t ht hW => ⟨(1 : Int64), rfl, hf.symm, ht⟩) (fun _ h => by cases h) dd_M_as_53
  · have hf := hf.trans (if_neg c1)
    have hok := hok.2 c1
    by_cases c2 : p0 = 1
    · have hf := hf.trans (if_pos c2)
      have hok := hok.1 c2
      refine lv_tableIn (off := 53) (tgt := 54) hx hb dd_M_as_1 (by rw [c2]; decide) (by rw [c2]; decide) (by rw [c2]; decide) (by decide) ?_
      refine lv_iload_n hx hb dd_M_as_54 rfl (lv_at hl 1 rfl) ?_
      refine lv_i2b (v := p1.toInt8.toInt32) hx hb dd_M_as_55 rfl ?_
      refine lv_i2l (v := p1.toInt8.toInt32.toInt64) hx hb dd_M_as_56 rfl ?_
      exact W.lret (v := p1.toInt8.toInt32.toInt64) hx hb hr (fun t ht hW => ⟨p1.toInt8.toInt32.toInt64, rfl, hf.symm, ht⟩) (fun _ h => by cases h) dd_M_as_57
    · have hf := hf.trans (if_neg c2)
      have hok := hok.2 c2
      by_cases c3 : p0 = 2
      · have hf := hf.trans (if_pos c3)
        have hok := hok.1 c3
        refine lv_tableIn (off := 57) (tgt := 58) hx hb dd_M_as_1 (by rw [c3]; decide) (by rw [c3]; decide) (by rw [c3]; decide) (by decide) ?_
        refine lv_iload_n hx hb dd_M_as_58 rfl (lv_at hl 1 rfl) ?_
        refine lv_ldc (v := 65535) hx hb hown (hts _ gw_495) dd_M_as_59 ?_
        refine lv_iand hx hb dd_M_as_61 ?_
        refine lv_i2l (v := (p1 &&& 65535).toInt64) hx hb dd_M_as_62 rfl ?_
        exact W.lret (v := ((p1 &&& 65535).toInt64)) hx hb hr (fun t ht hW => ⟨((p1 &&& 65535).toInt64), rfl, hf.symm, ht⟩) (fun _ h => by cases h) dd_M_as_63
      · have hf := hf.trans (if_neg c3)
        have hok := hok.2 c3
        by_cases c4 : p0 = 3
        · have hf := hf.trans (if_pos c4)
          have hok := hok.1 c4
          refine lv_tableIn (off := 63) (tgt := 64) hx hb dd_M_as_1 (by rw [c4]; decide) (by rw [c4]; decide) (by rw [c4]; decide) (by decide) ?_
          refine lv_iload_n hx hb dd_M_as_64 rfl (lv_at hl 1 rfl) ?_
          refine lv_i2s (v := p1.toInt16.toInt32) hx hb dd_M_as_65 rfl ?_
          refine lv_i2l (v := p1.toInt16.toInt32.toInt64) hx hb dd_M_as_66 rfl ?_
          exact W.lret (v := p1.toInt16.toInt32.toInt64) hx hb hr (fun t ht hW => ⟨p1.toInt16.toInt32.toInt64, rfl, hf.symm, ht⟩) (fun _ h => by cases h) dd_M_as_67
        · have hf := hf.trans (if_neg c4)
          have hok := hok.2 c4
          by_cases c5 : p0 = 4
          · have hf := hf.trans (if_pos c5)
            have hok := hok.1 c5
            refine lv_tableIn (off := 73) (tgt := 74) hx hb dd_M_as_1 (by rw [c5]; decide) (by rw [c5]; decide) (by rw [c5]; decide) (by decide) ?_
            refine lv_iload_n hx hb dd_M_as_74 rfl (lv_at hl 1 rfl) ?_
            refine lv_i2l (v := p1.toInt64) hx hb dd_M_as_75 rfl ?_
            exact W.lret (v := p1.toInt64) hx hb hr (fun t ht hW => ⟨p1.toInt64, rfl, hf.symm, ht⟩) (fun _ h => by cases h) dd_M_as_76
          · have hf := hf.trans (if_neg c5)
            have hok := hok.2 c5
            by_cases c6 : p0 = 5
            · have hf := hf.trans (if_pos c6)
              have hok := hok.1 c6
              refine lv_tableIn (off := 73) (tgt := 74) hx hb dd_M_as_1 (by rw [c6]; decide) (by rw [c6]; decide) (by rw [c6]; decide) (by decide) ?_
              refine lv_iload_n hx hb dd_M_as_74 rfl (lv_at hl 1 rfl) ?_
              refine lv_i2l (v := p1.toInt64) hx hb dd_M_as_75 rfl ?_
              exact W.lret (v := p1.toInt64) hx hb hr (fun t ht hW => ⟨p1.toInt64, rfl, hf.symm, ht⟩) (fun _ h => by cases h) dd_M_as_76
            · have hf := hf.trans (if_neg c6)
              have hok := hok.2 c6
              by_cases c7 : p0 = 6
              · have hf := hf.trans (if_pos c7)
                have hok := hok.1 c7
                refine lv_tableIn (off := 67) (tgt := 68) hx hb dd_M_as_1 (by rw [c7]; decide) (by rw [c7]; decide) (by rw [c7]; decide) (by decide) ?_
                refine lv_iload_n hx hb dd_M_as_68 rfl (lv_at hl 1 rfl) ?_
                refine lv_i2l (v := p1.toInt64) hx hb dd_M_as_69 rfl ?_
                have n8 := hok
                refine vp_callSl (W.runS (As := [.long p1.toInt64]) (rest := []) ⟨hx, hb, hml, hown, hts⟩ (mm_M_rounded l p1.toInt64 n8) (va_cwS 1 hts (gg_S gw_496 gw_497 gw_2 gw_498) rfl rfl rfl (by decide +kernel) ⟨Nat.le_of_ble_eq_true rfl, Nat.le_of_ble_eq_true rfl⟩) ⟨fun a U g mk q => q, fun U hU hW => ⟨rfl, trivial⟩⟩ rfl rfl hl.1 rfl (lv_room (Nat.le_of_ble_eq_true rfl)) dd_M_as_70 ⟨Nat.zero_le _, Nat.zero_le _⟩) (fun r hr9 => ?_)
                subst hr9
                exact W.lret (v := (ff_M_rounded p1.toInt64)) hx hb hr (fun t ht hW => ⟨(ff_M_rounded p1.toInt64), rfl, hf.symm, ht⟩) (fun _ h => by cases h) dd_M_as_73
              · have hf := hf.trans (if_neg c7)
                have hok := hok.2 c7
                refine lv_tableOut (tgt := 74) hx hb dd_M_as_1 ?_ (by decide) ?_
                · rcases sw_tab p0 0 6 7 (by decide) with hsw | ⟨j9, hj9, ej9⟩
                  · exact hsw
                  · exfalso
                    rcases (show j9 = 0 ∨ j9 = 1 ∨ j9 = 2 ∨ j9 = 3 ∨ j9 = 4 ∨ j9 = 5 ∨ j9 = 6 by omega) with rfl | rfl | rfl | rfl | rfl | rfl | rfl
                    · exact c1 (ej9.trans (by decide))
                    · exact c2 (ej9.trans (by decide))
                    · exact c3 (ej9.trans (by decide))
                    · exact c4 (ej9.trans (by decide))
                    · exact c5 (ej9.trans (by decide))
                    · exact c6 (ej9.trans (by decide))
                    · exact c7 (ej9.trans (by decide))
                · skip
                  refine lv_iload_n hx hb dd_M_as_74 rfl (lv_at hl 1 rfl) ?_
                  refine lv_i2l (v := p1.toInt64) hx hb dd_M_as_75 rfl ?_
                  exact W.lret (v := p1.toInt64) hx hb hr (fun t ht hW => ⟨p1.toInt64, rfl, hf.symm, ht⟩) (fun _ h => by cases h) dd_M_as_76

def ff_M_put (u0 : SM) (p0 : Int32) (p1 : Int32) (p2 : Int32) : Int32 × SM := (if (ff_M_noObject u0 p0) = 0 then (if (ff_M_array u0 p0) = 1 then (if (ff_M_outside u0 p0 p1) = 0 then (0, m_u_cell u0 ((8 * p0) + p1) (ff_M_as (m_comp u0 (m_kind u0 p0.toNatClampNeg).toNatClampNeg) p2)) else ((-5), u0)) else ((-1), u0)) else ((-1), u0))
def ok_M_put (u0 : SM) (p0 : Int32) (p1 : Int32) (p2 : Int32) : Prop := ((((ff_M_noObject u0 p0) = 0) → (ok_M_array u0 p0) ∧ ((((ff_M_array u0 p0) = 1) → (ok_M_outside u0 p0 p1) ∧ ((((ff_M_outside u0 p0 p1) = 0) → (vp_in p0 80) ∧ (vp_in (m_kind u0 p0.toNatClampNeg) 300) ∧ (ok_M_as (m_comp u0 (m_kind u0 p0.toNatClampNeg).toNatClampNeg) p2) ∧ vp_in ((8 * p0) + p1) 640) ∧ (¬ ((ff_M_outside u0 p0 p1) = 0) → True))) ∧ (¬ ((ff_M_array u0 p0) = 1) → True))) ∧ (¬ ((ff_M_noObject u0 p0) = 0) → True))
abbrev ws_M_put : List Cond := .code yy_M_put bb_M_put 4 (some .int) :: gW
abbrev rm_M_put : Room := { frames := 2, cells := 0, slots := 0, locals := 50 }
set_option maxHeartbeats 4000000 in
set_option maxRecDepth 100000 in
theorem mm_M_put (l : Launch) (dC : Nat → ClassId) (dI : Nat → Nat → Nat) (h : Nat) (a : Nat → Nat) (k : Nat → ClassId) (u0 : SM) (p0 : Int32) (p1 : Int32) (p2 : Int32) (hok : ok_M_put u0 p0 p1 p2) : Met l yy_M_put ws_M_put rm_M_put (va_Pc [.ref h, .int p0, .int p1, .int p2] (pM dC dI h a k u0)) (va_Qi (fun (r : Int32) (v : SM) => (r, v) = ff_M_put u0 p0 p1 p2) (pM dC dI h a k) (aM h a)) 0 0 (aM h a) := by
  refine Met.ofW (cc := bb_M_put) (maxL := 4) (ret := (some .int)) (by decide) rfl ?_
  intro p e s m args below meth c s₁ B hml hv
  obtain ⟨rfl, hP, hK, hD⟩ := hv
  have hx := B.exec
  have hb := B.bytes
  have hr := B.returns
  have hts : ∀ w ∈ gW, w.before _ s = true := fun w h => atoms_spec (ws := ws_M_put) B.pre w (List.mem_cons_of_mem _ h)
  have hown : s.vm.findClass "ClassObjectMirrorModel" = some m.cls := findClass_of_methodNamed B.named
  have hlocks := B.notSynchronized
  have hS : va_S (aM h a) s.heap s.heap [] := va_S.rf
  have hl := lv_entry ([.ref h, .int p0, .int p1, .int p2]) (n := 4) (Nat.le_of_ble_eq_true rfl)
  rw [lg_entry_eq]
  generalize (lg_sl ([.ref h, .int p0, .int p1, .int p2]) ++ List.replicate (4 - (lg_sl ([.ref h, .int p0, .int p1, .int p2])).length) Slot.unset).toArray = ls at hl ⊢
  have hl : lv_has ls 4 [(0, .ref h), (1, .int p0), (2, .int p1), (3, .int p2)] := hl
  have hf := ff_M_put.eq_1 u0 p0 p1 p2
  unfold ok_M_put at hok
  refine lv_aload_n hx hb dd_M_put_0 rfl (lv_at hl 0 rfl) ?_
  refine lv_iload_n hx hb dd_M_put_1 rfl (lv_at hl 1 rfl) ?_
  refine vp_callSi (W.runV (As := [.int p0]) (rest := []) ⟨hx, hb, hml, hown, hts⟩ (mm_M_noObject l dC dI h a k u0 p0) (cwV 1 hts (gg_V gw_460 gw_462 gs_29 gw_2 gw_463) rfl rfl rfl (by decide +kernel) ⟨Nat.le_of_ble_eq_true rfl, Nat.le_of_ble_eq_true rfl⟩) ⟨pM_bl, va_recv hK hP (ci := 0) (q0 := 0) rfl rfl, fun U hU hW => ⟨rfl, pM_up hP hK hD hU hW⟩⟩ rfl rfl hl.1 rfl (lv_room (Nat.le_of_ble_eq_true rfl)) dd_M_put_2 ⟨Nat.zero_le _, Nat.zero_le _⟩) (fun r hr9 => ?_)
  subst hr9
  refine lv_if_ne (tgt := 17) hx hb dd_M_put_5 (by decide) (fun c1 => ?_) (fun c1 => ?_)
  · have hf := hf.trans (if_neg c1)
    have hok := hok.2 c1
    refine lv_iconst (v := (-1)) hx hb dd_M_put_17 (by decide) ?_
    exact W.iret (v := ((-1) : Int32)) hx hb hr (fun t ht hW => ⟨⟨((-1) : Int32), u0, rfl, hf.symm, pM_up hP hK hD ht hW⟩, hS.F ht⟩) hS.2.2 dd_M_put_18
  · have hf := hf.trans (if_pos c1)
    have hok := hok.1 c1
    refine lv_aload_n hx hb dd_M_put_8 rfl (lv_at hl 0 rfl) ?_
    refine lv_iload_n hx hb dd_M_put_9 rfl (lv_at hl 1 rfl) ?_
    obtain ⟨n2, hok⟩ := hok
    refine vp_callSi (W.runV (As := [.int p0]) (rest := []) ⟨hx, hb, hml, hown, hts⟩ (mm_M_array l dC dI h a k u0 p0 n2) (cwV 1 hts (gg_V gw_476 gw_478 gs_30 gw_2 gw_479) rfl rfl rfl (by decide +kernel) ⟨Nat.le_of_ble_eq_true rfl, Nat.le_of_ble_eq_true rfl⟩) ⟨pM_bl, va_recv hK hP (ci := 0) (q0 := 0) rfl rfl, fun U hU hW => ⟨rfl, pM_up hP hK hD hU hW⟩⟩ rfl rfl hl.1 rfl (lv_room (Nat.le_of_ble_eq_true rfl)) dd_M_put_10 ⟨Nat.zero_le _, Nat.zero_le _⟩) (fun r hr9 => ?_)
    subst hr9
    refine lv_iconst (v := 1) hx hb dd_M_put_13 (by decide) ?_
    refine lv_icmp_eq (tgt := 19) hx hb dd_M_put_14 (by decide) (fun c3 => ?_) (fun c3 => ?_)
    · have hf := hf.trans (if_pos c3)
      have hok := hok.1 c3
      refine lv_aload_n hx hb dd_M_put_19 rfl (lv_at hl 0 rfl) ?_
      refine lv_iload_n hx hb dd_M_put_20 rfl (lv_at hl 1 rfl) ?_
      refine lv_iload_n hx hb dd_M_put_21 rfl (lv_at hl 2 rfl) ?_
      obtain ⟨n4, hok⟩ := hok
      refine vp_callSi (W.runV (As := [.int p0, .int p1]) (rest := []) ⟨hx, hb, hml, hown, hts⟩ (mm_M_outside l dC dI h a k u0 p0 p1 n4) (cwV 2 hts (gg_V gw_480 gw_482 gs_31 gw_2 gw_483) rfl rfl rfl (by decide +kernel) ⟨Nat.le_of_ble_eq_true rfl, Nat.le_of_ble_eq_true rfl⟩) ⟨pM_bl, va_recv hK hP (ci := 0) (q0 := 0) rfl rfl, fun U hU hW => ⟨rfl, pM_up hP hK hD hU hW⟩⟩ rfl rfl hl.1 rfl (lv_room (Nat.le_of_ble_eq_true rfl)) dd_M_put_22 ⟨Nat.zero_le _, Nat.zero_le _⟩) (fun r hr9 => ?_)
      subst hr9
      refine lv_if_eq (tgt := 31) hx hb dd_M_put_25 (by decide) (fun c5 => ?_) (fun c5 => ?_)
      · have hf := hf.trans (if_pos c5)
        have hok := hok.1 c5
        refine lv_aload_n hx hb dd_M_put_31 rfl (lv_at hl 0 rfl) ?_
        refine va_get (D := (dC, dI)) (ci := 0) (v := .ref (a 7)) (C := "ClassObjectMirrorModel") (T := TM) (N := 12) hx hb hts inM hown hK hP 0 rfl rfl 8 (by decide) (hts _ gw_309) (fun _ h9 => h9) rfl dd_M_put_32 ?_
        refine lv_bipush (v := 8) hx hb dd_M_put_35 (by decide) ?_
        refine lv_iload_n hx hb dd_M_put_37 rfl (lv_at hl 1 rfl) ?_
        refine lv_imul hx hb dd_M_put_38 ?_
        refine lv_iload_n hx hb dd_M_put_39 rfl (lv_at hl 2 rfl) ?_
        refine lv_iadd hx hb dd_M_put_40 ?_
        refine lv_aload_n hx hb dd_M_put_41 rfl (lv_at hl 0 rfl) ?_
        refine va_get (D := (dC, dI)) (ci := 0) (v := .ref (a 2)) (C := "ClassObjectMirrorModel") (T := TM) (N := 12) hx hb hts inM hown hK hP 0 rfl rfl 2 (by decide) (hts _ gw_303) (fun _ h9 => h9) rfl dd_M_put_42 ?_
        refine lv_aload_n hx hb dd_M_put_45 rfl (lv_at hl 0 rfl) ?_
        refine va_get (D := (dC, dI)) (ci := 0) (v := .ref (a 4)) (C := "ClassObjectMirrorModel") (T := TM) (N := 12) hx hb hts inM hown hK hP 0 rfl rfl 5 (by decide) (hts _ gw_306) (fun _ h9 => h9) rfl dd_M_put_46 ?_
        refine lv_iload_n hx hb dd_M_put_49 rfl (lv_at hl 1 rfl) ?_
        obtain ⟨n6, hok⟩ := hok
        refine va_iald hx hb hK hP 5 4 rfl rfl n6 dd_M_put_50 ?_
        obtain ⟨n7, hok⟩ := hok
        refine va_iald hx hb hK hP 3 2 rfl rfl n7 dd_M_put_51 ?_
        refine lv_iload_n hx hb dd_M_put_52 rfl (lv_at hl 3 rfl) ?_
        obtain ⟨n8, hok⟩ := hok
        refine vp_callSl (W.runS (As := [.int (m_comp u0 (m_kind u0 p0.toNatClampNeg).toNatClampNeg), .int p2]) (rest := [.int ((8 * p0) + p1), .ref (a 7)]) ⟨hx, hb, hml, hown, hts⟩ (mm_M_as l (m_comp u0 (m_kind u0 p0.toNatClampNeg).toNatClampNeg) p2 n8) (va_cwS 2 hts (gg_S gw_492 gw_493 gw_2 gw_494) rfl rfl rfl (by decide +kernel) ⟨Nat.le_of_ble_eq_true rfl, Nat.le_of_ble_eq_true rfl⟩) ⟨fun a U g mk q => q, fun U hU hW => ⟨rfl, trivial⟩⟩ rfl rfl hl.1 rfl (lv_room (Nat.le_of_ble_eq_true rfl)) dd_M_put_53 ⟨Nat.zero_le _, Nat.zero_le _⟩) (fun r hr9 => ?_)
        subst hr9
        have n9 := hok
        refine va_last hx hb hK hP hD hS 8 7 rfl rfl n9 dd_M_put_56 (fun H locs hP hD hS => ?_)
        have hP : va_P (dC, dI) cls_l (wM h a k (m_u_cell u0 ((8 * p0) + p1) (ff_M_as (m_comp u0 (m_kind u0 p0.toNatClampNeg).toNatClampNeg) p2))) H := hP
        have hD : va_D (aM h a) (wM h a k (m_u_cell u0 ((8 * p0) + p1) (ff_M_as (m_comp u0 (m_kind u0 p0.toNatClampNeg).toNatClampNeg) p2))) := hD
        refine lv_iconst (v := 0) hx hb dd_M_put_57 (by decide) ?_
        exact W.iret (v := (0 : Int32)) hx hb hr (fun t ht hW => ⟨⟨(0 : Int32), m_u_cell u0 ((8 * p0) + p1) (ff_M_as (m_comp u0 (m_kind u0 p0.toNatClampNeg).toNatClampNeg) p2), rfl, hf.symm, pM_up hP hK hD ht hW⟩, hS.F ht⟩) hS.2.2 dd_M_put_58
      · have hf := hf.trans (if_neg c5)
        have hok := hok.2 c5
        refine lv_bipush (v := (-5)) hx hb dd_M_put_28 (by decide) ?_
        exact W.iret (v := ((-5) : Int32)) hx hb hr (fun t ht hW => ⟨⟨((-5) : Int32), u0, rfl, hf.symm, pM_up hP hK hD ht hW⟩, hS.F ht⟩) hS.2.2 dd_M_put_30
    · have hf := hf.trans (if_neg c3)
      have hok := hok.2 c3
      refine lv_iconst (v := (-1)) hx hb dd_M_put_17 (by decide) ?_
      exact W.iret (v := ((-1) : Int32)) hx hb hr (fun t ht hW => ⟨⟨((-1) : Int32), u0, rfl, hf.symm, pM_up hP hK hD ht hW⟩, hS.F ht⟩) hS.2.2 dd_M_put_18

def ff_M_get (u0 : SM) (p0 : Int32) (p1 : Int32) : Int64 := (if (ff_M_noObject u0 p0) = 0 then (if (ff_M_array u0 p0) = 1 then (if (ff_M_outside u0 p0 p1) = 0 then m_cell u0 ((8 * p0) + p1).toNatClampNeg else 10000000000) else 10000000000) else 10000000000)
def ok_M_get (u0 : SM) (p0 : Int32) (p1 : Int32) : Prop := ((((ff_M_noObject u0 p0) = 0) → (ok_M_array u0 p0) ∧ ((((ff_M_array u0 p0) = 1) → (ok_M_outside u0 p0 p1) ∧ ((((ff_M_outside u0 p0 p1) = 0) → vp_in ((8 * p0) + p1) 640) ∧ (¬ ((ff_M_outside u0 p0 p1) = 0) → True))) ∧ (¬ ((ff_M_array u0 p0) = 1) → True))) ∧ (¬ ((ff_M_noObject u0 p0) = 0) → True))
abbrev ws_M_get : List Cond := .code yy_M_get bb_M_get 3 (some .long) :: gW
abbrev rm_M_get : Room := { frames := 2, cells := 0, slots := 0, locals := 41 }
set_option maxHeartbeats 4000000 in
set_option maxRecDepth 100000 in
theorem mm_M_get (l : Launch) (dC : Nat → ClassId) (dI : Nat → Nat → Nat) (h : Nat) (a : Nat → Nat) (k : Nat → ClassId) (u0 : SM) (p0 : Int32) (p1 : Int32) (hok : ok_M_get u0 p0 p1) : Met l yy_M_get ws_M_get rm_M_get (va_Pc [.ref h, .int p0, .int p1] (pM dC dI h a k u0)) (vp_Sl (fun r => r = ff_M_get u0 p0 p1)) 0 0 (fun _ => False) := by
  refine Met.ofW (cc := bb_M_get) (maxL := 3) (ret := (some .long)) (by decide) rfl ?_
  intro p e s m args below meth c s₁ B hml hv
  obtain ⟨rfl, hP, hK, hD⟩ := hv
  have hx := B.exec
  have hb := B.bytes
  have hr := B.returns
  have hts : ∀ w ∈ gW, w.before _ s = true := fun w h => atoms_spec (ws := ws_M_get) B.pre w (List.mem_cons_of_mem _ h)
  have hown : s.vm.findClass "ClassObjectMirrorModel" = some m.cls := findClass_of_methodNamed B.named
  have hlocks := B.notSynchronized
  have hS : va_S (aM h a) s.heap s.heap [] := va_S.rf
  have hl := lv_entry ([.ref h, .int p0, .int p1]) (n := 3) (Nat.le_of_ble_eq_true rfl)
  rw [lg_entry_eq]
  generalize (lg_sl ([.ref h, .int p0, .int p1]) ++ List.replicate (3 - (lg_sl ([.ref h, .int p0, .int p1])).length) Slot.unset).toArray = ls at hl ⊢
  have hl : lv_has ls 3 [(0, .ref h), (1, .int p0), (2, .int p1)] := hl
  have hf := ff_M_get.eq_1 u0 p0 p1
  unfold ok_M_get at hok
  refine lv_aload_n hx hb dd_M_get_0 rfl (lv_at hl 0 rfl) ?_
  refine lv_iload_n hx hb dd_M_get_1 rfl (lv_at hl 1 rfl) ?_
  refine vp_callSi (W.runV (As := [.int p0]) (rest := []) ⟨hx, hb, hml, hown, hts⟩ (mm_M_noObject l dC dI h a k u0 p0) (cwV 1 hts (gg_V gw_460 gw_462 gs_29 gw_2 gw_463) rfl rfl rfl (by decide +kernel) ⟨Nat.le_of_ble_eq_true rfl, Nat.le_of_ble_eq_true rfl⟩) ⟨pM_bl, va_recv hK hP (ci := 0) (q0 := 0) rfl rfl, fun U hU hW => ⟨rfl, pM_up hP hK hD hU hW⟩⟩ rfl rfl hl.1 rfl (lv_room (Nat.le_of_ble_eq_true rfl)) dd_M_get_2 ⟨Nat.zero_le _, Nat.zero_le _⟩) (fun r hr9 => ?_)
  subst hr9
  refine lv_if_ne (tgt := 26) hx hb dd_M_get_5 (by decide) (fun c1 => ?_) (fun c1 => ?_)
  · have hf := hf.trans (if_neg c1)
    have hok := hok.2 c1
    refine lv_ldc2 (v := 10000000000) hx hb hown (hts _ gw_505) dd_M_get_26 ?_
    refine lv_goto (tgt := 43) hx hb dd_M_get_29 (by decide) ?_
    exact W.lret (v := (10000000000 : Int64)) hx hb hr (fun t ht hW => ⟨(10000000000 : Int64), rfl, hf.symm, ht⟩) (fun _ h => by cases h) dd_M_get_43
  · have hf := hf.trans (if_pos c1)
    have hok := hok.1 c1
    refine lv_aload_n hx hb dd_M_get_8 rfl (lv_at hl 0 rfl) ?_
    refine lv_iload_n hx hb dd_M_get_9 rfl (lv_at hl 1 rfl) ?_
    obtain ⟨n2, hok⟩ := hok
    refine vp_callSi (W.runV (As := [.int p0]) (rest := []) ⟨hx, hb, hml, hown, hts⟩ (mm_M_array l dC dI h a k u0 p0 n2) (cwV 1 hts (gg_V gw_476 gw_478 gs_30 gw_2 gw_479) rfl rfl rfl (by decide +kernel) ⟨Nat.le_of_ble_eq_true rfl, Nat.le_of_ble_eq_true rfl⟩) ⟨pM_bl, va_recv hK hP (ci := 0) (q0 := 0) rfl rfl, fun U hU hW => ⟨rfl, pM_up hP hK hD hU hW⟩⟩ rfl rfl hl.1 rfl (lv_room (Nat.le_of_ble_eq_true rfl)) dd_M_get_10 ⟨Nat.zero_le _, Nat.zero_le _⟩) (fun r hr9 => ?_)
    subst hr9
    refine lv_iconst (v := 1) hx hb dd_M_get_13 (by decide) ?_
    refine lv_icmp_ne (tgt := 26) hx hb dd_M_get_14 (by decide) (fun c3 => ?_) (fun c3 => ?_)
    · have hf := hf.trans (if_neg c3)
      have hok := hok.2 c3
      refine lv_ldc2 (v := 10000000000) hx hb hown (hts _ gw_505) dd_M_get_26 ?_
      refine lv_goto (tgt := 43) hx hb dd_M_get_29 (by decide) ?_
      exact W.lret (v := (10000000000 : Int64)) hx hb hr (fun t ht hW => ⟨(10000000000 : Int64), rfl, hf.symm, ht⟩) (fun _ h => by cases h) dd_M_get_43
    · have hf := hf.trans (if_pos c3)
      have hok := hok.1 c3
      refine lv_aload_n hx hb dd_M_get_17 rfl (lv_at hl 0 rfl) ?_
      refine lv_iload_n hx hb dd_M_get_18 rfl (lv_at hl 1 rfl) ?_
      refine lv_iload_n hx hb dd_M_get_19 rfl (lv_at hl 2 rfl) ?_
      obtain ⟨n4, hok⟩ := hok
      refine vp_callSi (W.runV (As := [.int p0, .int p1]) (rest := []) ⟨hx, hb, hml, hown, hts⟩ (mm_M_outside l dC dI h a k u0 p0 p1 n4) (cwV 2 hts (gg_V gw_480 gw_482 gs_31 gw_2 gw_483) rfl rfl rfl (by decide +kernel) ⟨Nat.le_of_ble_eq_true rfl, Nat.le_of_ble_eq_true rfl⟩) ⟨pM_bl, va_recv hK hP (ci := 0) (q0 := 0) rfl rfl, fun U hU hW => ⟨rfl, pM_up hP hK hD hU hW⟩⟩ rfl rfl hl.1 rfl (lv_room (Nat.le_of_ble_eq_true rfl)) dd_M_get_20 ⟨Nat.zero_le _, Nat.zero_le _⟩) (fun r hr9 => ?_)
      subst hr9
      refine lv_if_eq (tgt := 32) hx hb dd_M_get_23 (by decide) (fun c5 => ?_) (fun c5 => ?_)
      · have hf := hf.trans (if_pos c5)
        have hok := hok.1 c5
        refine lv_aload_n hx hb dd_M_get_32 rfl (lv_at hl 0 rfl) ?_
        refine va_get (D := (dC, dI)) (ci := 0) (v := .ref (a 7)) (C := "ClassObjectMirrorModel") (T := TM) (N := 12) hx hb hts inM hown hK hP 0 rfl rfl 8 (by decide) (hts _ gw_309) (fun _ h9 => h9) rfl dd_M_get_33 ?_
        refine lv_bipush (v := 8) hx hb dd_M_get_36 (by decide) ?_
        refine lv_iload_n hx hb dd_M_get_38 rfl (lv_at hl 1 rfl) ?_
        refine lv_imul hx hb dd_M_get_39 ?_
        refine lv_iload_n hx hb dd_M_get_40 rfl (lv_at hl 2 rfl) ?_
        refine lv_iadd hx hb dd_M_get_41 ?_
        have n6 := hok
        refine va_lald hx hb hK hP 8 7 rfl rfl n6 dd_M_get_42 ?_
        exact W.lret (v := (m_cell u0 ((8 * p0) + p1).toNatClampNeg)) hx hb hr (fun t ht hW => ⟨(m_cell u0 ((8 * p0) + p1).toNatClampNeg), rfl, hf.symm, ht⟩) (fun _ h => by cases h) dd_M_get_43
      · have hf := hf.trans (if_neg c5)
        have hok := hok.2 c5
        refine lv_ldc2 (v := 10000000000) hx hb hown (hts _ gw_505) dd_M_get_26 ?_
        refine lv_goto (tgt := 43) hx hb dd_M_get_29 (by decide) ?_
        exact W.lret (v := (10000000000 : Int64)) hx hb hr (fun t ht hW => ⟨(10000000000 : Int64), rfl, hf.symm, ht⟩) (fun _ h => by cases h) dd_M_get_43

def ff_M_length (u0 : SM) (p0 : Int32) : Int32 := (if (ff_M_noObject u0 p0) = 0 then (if 0 ≤ (m_size u0 p0.toNatClampNeg) then m_size u0 p0.toNatClampNeg else (-1)) else (-1))
def ok_M_length (u0 : SM) (p0 : Int32) : Prop := ((((ff_M_noObject u0 p0) = 0) → (vp_in p0 80) ∧ (((0 ≤ (m_size u0 p0.toNatClampNeg)) → vp_in p0 80) ∧ (¬ (0 ≤ (m_size u0 p0.toNatClampNeg)) → True))) ∧ (¬ ((ff_M_noObject u0 p0) = 0) → True))
abbrev ws_M_length : List Cond := .code yy_M_length bb_M_length 2 (some .int) :: gW
abbrev rm_M_length : Room := { frames := 1, cells := 0, slots := 0, locals := 21 }
set_option maxHeartbeats 4000000 in
set_option maxRecDepth 100000 in
theorem mm_M_length (l : Launch) (dC : Nat → ClassId) (dI : Nat → Nat → Nat) (h : Nat) (a : Nat → Nat) (k : Nat → ClassId) (u0 : SM) (p0 : Int32) (hok : ok_M_length u0 p0) : Met l yy_M_length ws_M_length rm_M_length (va_Pc [.ref h, .int p0] (pM dC dI h a k u0)) (vp_Si (fun r => r = ff_M_length u0 p0)) 0 0 (fun _ => False) := by
  refine Met.ofW (cc := bb_M_length) (maxL := 2) (ret := (some .int)) (by decide) rfl ?_
  intro p e s m args below meth c s₁ B hml hv
  obtain ⟨rfl, hP, hK, hD⟩ := hv
  have hx := B.exec
  have hb := B.bytes
  have hr := B.returns
  have hts : ∀ w ∈ gW, w.before _ s = true := fun w h => atoms_spec (ws := ws_M_length) B.pre w (List.mem_cons_of_mem _ h)
  have hown : s.vm.findClass "ClassObjectMirrorModel" = some m.cls := findClass_of_methodNamed B.named
  have hlocks := B.notSynchronized
  have hS : va_S (aM h a) s.heap s.heap [] := va_S.rf
  have hl := lv_entry ([.ref h, .int p0]) (n := 2) (Nat.le_of_ble_eq_true rfl)
  rw [lg_entry_eq]
  generalize (lg_sl ([.ref h, .int p0]) ++ List.replicate (2 - (lg_sl ([.ref h, .int p0])).length) Slot.unset).toArray = ls at hl ⊢
  have hl : lv_has ls 2 [(0, .ref h), (1, .int p0)] := hl
  have hf := ff_M_length.eq_1 u0 p0
  unfold ok_M_length at hok
  refine lv_aload_n hx hb dd_M_length_0 rfl (lv_at hl 0 rfl) ?_
  refine lv_iload_n hx hb dd_M_length_1 rfl (lv_at hl 1 rfl) ?_
  refine vp_callSi (W.runV (As := [.int p0]) (rest := []) ⟨hx, hb, hml, hown, hts⟩ (mm_M_noObject l dC dI h a k u0 p0) (cwV 1 hts (gg_V gw_460 gw_462 gs_29 gw_2 gw_463) rfl rfl rfl (by decide +kernel) ⟨Nat.le_of_ble_eq_true rfl, Nat.le_of_ble_eq_true rfl⟩) ⟨pM_bl, va_recv hK hP (ci := 0) (q0 := 0) rfl rfl, fun U hU hW => ⟨rfl, pM_up hP hK hD hU hW⟩⟩ rfl rfl hl.1 rfl (lv_room (Nat.le_of_ble_eq_true rfl)) dd_M_length_2 ⟨Nat.zero_le _, Nat.zero_le _⟩) (fun r hr9 => ?_)
  subst hr9
  refine lv_if_ne (tgt := 17) hx hb dd_M_length_5 (by decide) (fun c1 => ?_) (fun c1 => ?_)
  · have hf := hf.trans (if_neg c1)
    have hok := hok.2 c1
    refine lv_iconst (v := (-1)) hx hb dd_M_length_17 (by decide) ?_
    refine lv_goto (tgt := 27) hx hb dd_M_length_18 (by decide) ?_
    exact W.iret (v := ((-1) : Int32)) hx hb hr (fun t ht hW => ⟨((-1) : Int32), rfl, hf.symm, ht⟩) (fun _ h => by cases h) dd_M_length_27
  · have hf := hf.trans (if_pos c1)
    have hok := hok.1 c1
    refine lv_aload_n hx hb dd_M_length_8 rfl (lv_at hl 0 rfl) ?_
    refine va_get (D := (dC, dI)) (ci := 0) (v := .ref (a 5)) (C := "ClassObjectMirrorModel") (T := TM) (N := 12) hx hb hts inM hown hK hP 0 rfl rfl 6 (by decide) (hts _ gw_307) (fun _ h9 => h9) rfl dd_M_length_9 ?_
    refine lv_iload_n hx hb dd_M_length_12 rfl (lv_at hl 1 rfl) ?_
    obtain ⟨n2, hok⟩ := hok
    refine va_iald hx hb hK hP 6 5 rfl rfl n2 dd_M_length_13 ?_
    refine lv_if_ge (tgt := 21) hx hb dd_M_length_14 (by decide) (fun c3 => ?_) (fun c3 => ?_)
    · have hf := hf.trans (if_pos c3)
      have hok := hok.1 c3
      refine lv_aload_n hx hb dd_M_length_21 rfl (lv_at hl 0 rfl) ?_
      refine va_get (D := (dC, dI)) (ci := 0) (v := .ref (a 5)) (C := "ClassObjectMirrorModel") (T := TM) (N := 12) hx hb hts inM hown hK hP 0 rfl rfl 6 (by decide) (hts _ gw_307) (fun _ h9 => h9) rfl dd_M_length_22 ?_
      refine lv_iload_n hx hb dd_M_length_25 rfl (lv_at hl 1 rfl) ?_
      have n4 := hok
      refine va_iald hx hb hK hP 6 5 rfl rfl n4 dd_M_length_26 ?_
      exact W.iret (v := (m_size u0 p0.toNatClampNeg)) hx hb hr (fun t ht hW => ⟨(m_size u0 p0.toNatClampNeg), rfl, hf.symm, ht⟩) (fun _ h => by cases h) dd_M_length_27
    · have hf := hf.trans (if_neg c3)
      have hok := hok.2 c3
      refine lv_iconst (v := (-1)) hx hb dd_M_length_17 (by decide) ?_
      refine lv_goto (tgt := 27) hx hb dd_M_length_18 (by decide) ?_
      exact W.iret (v := ((-1) : Int32)) hx hb hr (fun t ht hW => ⟨((-1) : Int32), rfl, hf.symm, ht⟩) (fun _ h => by cases h) dd_M_length_27

def fl_M_copy_51 : Nat → SM → Int32 → Int32 → Int32 → Int32 × SM
  | 0, u, _, _, _ => (0, u)
  | n + 1, u, x1, x2, x3 => (if 8 ≤ x3 then (x2, u) else fl_M_copy_51 n (m_u_cell u ((8 * x2) + x3) (m_cell u ((8 * x1) + x3).toNatClampNeg)) x1 x2 (x3 + 1))
def okl_M_copy_51 : Nat → SM → Int32 → Int32 → Int32 → Prop
  | 0, _, _, _, _ => False
  | n + 1, u, x1, x2, x3 => (((8 ≤ x3) → True) ∧ (¬ (8 ≤ x3) → (vp_in ((8 * x1) + x3) 640) ∧ (vp_in ((8 * x2) + x3) 640) ∧ okl_M_copy_51 n (m_u_cell u ((8 * x2) + x3) (m_cell u ((8 * x1) + x3).toNatClampNeg)) x1 x2 (x3 + 1)))
def ff_M_copy (u0 : SM) (p0 : Int32) : Int32 × SM := (if (ff_M_noObject u0 p0) = 0 then (if 0 ≤ (m_size u0 p0.toNatClampNeg) then (if (m_objs u0) = 80 then ((-8), u0) else fl_M_copy_51 400 ((ff_M_create u0 (m_kind u0 p0.toNatClampNeg) (m_size u0 p0.toNatClampNeg) (0 : Int32)).2) p0 ((ff_M_create u0 (m_kind u0 p0.toNatClampNeg) (m_size u0 p0.toNatClampNeg) (0 : Int32)).1) (0 : Int32)) else ((-1), u0)) else ((-1), u0))
def ok_M_copy (u0 : SM) (p0 : Int32) : Prop := ((((ff_M_noObject u0 p0) = 0) → (vp_in p0 80) ∧ (((0 ≤ (m_size u0 p0.toNatClampNeg)) → ((((m_objs u0) = 80) → True) ∧ (¬ ((m_objs u0) = 80) → (vp_in p0 80) ∧ (vp_in p0 80) ∧ (ok_M_create u0 (m_kind u0 p0.toNatClampNeg) (m_size u0 p0.toNatClampNeg) (0 : Int32)) ∧ okl_M_copy_51 400 ((ff_M_create u0 (m_kind u0 p0.toNatClampNeg) (m_size u0 p0.toNatClampNeg) (0 : Int32)).2) p0 ((ff_M_create u0 (m_kind u0 p0.toNatClampNeg) (m_size u0 p0.toNatClampNeg) (0 : Int32)).1) (0 : Int32)))) ∧ (¬ (0 ≤ (m_size u0 p0.toNatClampNeg)) → True))) ∧ (¬ ((ff_M_noObject u0 p0) = 0) → True))
abbrev ws_M_copy : List Cond := .code yy_M_copy bb_M_copy 4 (some .int) :: gW
abbrev rm_M_copy : Room := { frames := 2, cells := 0, slots := 0, locals := 45 }
set_option maxHeartbeats 4000000 in
set_option maxRecDepth 100000 in
theorem mm_M_copy (l : Launch) (dC : Nat → ClassId) (dI : Nat → Nat → Nat) (h : Nat) (a : Nat → Nat) (k : Nat → ClassId) (u0 : SM) (p0 : Int32) (hok : ok_M_copy u0 p0) : Met l yy_M_copy ws_M_copy rm_M_copy (va_Pc [.ref h, .int p0] (pM dC dI h a k u0)) (va_Qi (fun (r : Int32) (v : SM) => (r, v) = ff_M_copy u0 p0) (pM dC dI h a k) (aM h a)) 0 0 (aM h a) := by
  refine Met.ofW (cc := bb_M_copy) (maxL := 4) (ret := (some .int)) (by decide) rfl ?_
  intro p e s m args below meth c s₁ B hml hv
  obtain ⟨rfl, hP, hK, hD⟩ := hv
  have hx := B.exec
  have hb := B.bytes
  have hr := B.returns
  have hts : ∀ w ∈ gW, w.before _ s = true := fun w h => atoms_spec (ws := ws_M_copy) B.pre w (List.mem_cons_of_mem _ h)
  have hown : s.vm.findClass "ClassObjectMirrorModel" = some m.cls := findClass_of_methodNamed B.named
  have hlocks := B.notSynchronized
  have hS : va_S (aM h a) s.heap s.heap [] := va_S.rf
  have hl := lv_entry ([.ref h, .int p0]) (n := 4) (Nat.le_of_ble_eq_true rfl)
  rw [lg_entry_eq]
  generalize (lg_sl ([.ref h, .int p0]) ++ List.replicate (4 - (lg_sl ([.ref h, .int p0])).length) Slot.unset).toArray = ls at hl ⊢
  have hl : lv_has ls 4 [(0, .ref h), (1, .int p0)] := hl
  have hf := ff_M_copy.eq_1 u0 p0
  unfold ok_M_copy at hok
  refine lv_aload_n hx hb dd_M_copy_0 rfl (lv_at hl 0 rfl) ?_
  refine lv_iload_n hx hb dd_M_copy_1 rfl (lv_at hl 1 rfl) ?_
  refine vp_callSi (W.runV (As := [.int p0]) (rest := []) ⟨hx, hb, hml, hown, hts⟩ (mm_M_noObject l dC dI h a k u0 p0) (cwV 1 hts (gg_V gw_460 gw_462 gs_29 gw_2 gw_463) rfl rfl rfl (by decide +kernel) ⟨Nat.le_of_ble_eq_true rfl, Nat.le_of_ble_eq_true rfl⟩) ⟨pM_bl, va_recv hK hP (ci := 0) (q0 := 0) rfl rfl, fun U hU hW => ⟨rfl, pM_up hP hK hD hU hW⟩⟩ rfl rfl hl.1 rfl (lv_room (Nat.le_of_ble_eq_true rfl)) dd_M_copy_2 ⟨Nat.zero_le _, Nat.zero_le _⟩) (fun r hr9 => ?_)
  subst hr9
  refine lv_if_ne (tgt := 17) hx hb dd_M_copy_5 (by decide) (fun c1 => ?_) (fun c1 => ?_)
  · have hf := hf.trans (if_neg c1)
    have hok := hok.2 c1
    refine lv_iconst (v := (-1)) hx hb dd_M_copy_17 (by decide) ?_
    exact W.iret (v := ((-1) : Int32)) hx hb hr (fun t ht hW => ⟨⟨((-1) : Int32), u0, rfl, hf.symm, pM_up hP hK hD ht hW⟩, hS.F ht⟩) hS.2.2 dd_M_copy_18
  · have hf := hf.trans (if_pos c1)
    have hok := hok.1 c1
    refine lv_aload_n hx hb dd_M_copy_8 rfl (lv_at hl 0 rfl) ?_
    refine va_get (D := (dC, dI)) (ci := 0) (v := .ref (a 5)) (C := "ClassObjectMirrorModel") (T := TM) (N := 12) hx hb hts inM hown hK hP 0 rfl rfl 6 (by decide) (hts _ gw_307) (fun _ h9 => h9) rfl dd_M_copy_9 ?_
    refine lv_iload_n hx hb dd_M_copy_12 rfl (lv_at hl 1 rfl) ?_
    obtain ⟨n2, hok⟩ := hok
    refine va_iald hx hb hK hP 6 5 rfl rfl n2 dd_M_copy_13 ?_
    refine lv_if_ge (tgt := 19) hx hb dd_M_copy_14 (by decide) (fun c3 => ?_) (fun c3 => ?_)
    · have hf := hf.trans (if_pos c3)
      have hok := hok.1 c3
      refine lv_aload_n hx hb dd_M_copy_19 rfl (lv_at hl 0 rfl) ?_
      refine va_get (D := (dC, dI)) (ci := 0) (v := .int (m_objs u0)) (C := "ClassObjectMirrorModel") (T := TM) (N := 12) hx hb hts inM hown hK hP 0 rfl rfl 9 (by decide) (hts _ gw_310) (fun _ h9 => h9) rfl dd_M_copy_20 ?_
      refine lv_bipush (v := 80) hx hb dd_M_copy_23 (by decide) ?_
      refine lv_icmp_ne (tgt := 31) hx hb dd_M_copy_25 (by decide) (fun c4 => ?_) (fun c4 => ?_)
      · have hf := hf.trans (if_neg c4)
        have hok := hok.2 c4
        refine lv_aload_n hx hb dd_M_copy_31 rfl (lv_at hl 0 rfl) ?_
        refine lv_aload_n hx hb dd_M_copy_32 rfl (lv_at hl 0 rfl) ?_
        refine va_get (D := (dC, dI)) (ci := 0) (v := .ref (a 4)) (C := "ClassObjectMirrorModel") (T := TM) (N := 12) hx hb hts inM hown hK hP 0 rfl rfl 5 (by decide) (hts _ gw_306) (fun _ h9 => h9) rfl dd_M_copy_33 ?_
        refine lv_iload_n hx hb dd_M_copy_36 rfl (lv_at hl 1 rfl) ?_
        obtain ⟨n5, hok⟩ := hok
        refine va_iald hx hb hK hP 5 4 rfl rfl n5 dd_M_copy_37 ?_
        refine lv_aload_n hx hb dd_M_copy_38 rfl (lv_at hl 0 rfl) ?_
        refine va_get (D := (dC, dI)) (ci := 0) (v := .ref (a 5)) (C := "ClassObjectMirrorModel") (T := TM) (N := 12) hx hb hts inM hown hK hP 0 rfl rfl 6 (by decide) (hts _ gw_307) (fun _ h9 => h9) rfl dd_M_copy_39 ?_
        refine lv_iload_n hx hb dd_M_copy_42 rfl (lv_at hl 1 rfl) ?_
        obtain ⟨n6, hok⟩ := hok
        refine va_iald hx hb hK hP 6 5 rfl rfl n6 dd_M_copy_43 ?_
        refine lv_iconst (v := 0) hx hb dd_M_copy_44 (by decide) ?_
        obtain ⟨n7, hok⟩ := hok
        refine va_calli (va_runV (As := [.int (m_kind u0 p0.toNatClampNeg), .int (m_size u0 p0.toNatClampNeg), .int 0]) (rest := []) ⟨hx, hb, hml, hown, hts⟩ (mm_M_create l dC dI h a k u0 (m_kind u0 p0.toNatClampNeg) (m_size u0 p0.toNatClampNeg) (0 : Int32) n7) (cwV 3 hts (gg_V gw_447 gw_449 gs_28 gw_2 gw_450) rfl rfl rfl (by decide +kernel) ⟨Nat.le_of_ble_eq_true rfl, Nat.le_of_ble_eq_true rfl⟩) ⟨pM_bl, va_recv hK hP (ci := 0) (q0 := 0) rfl rfl, fun U hU hW => ⟨rfl, pM_up hP hK hD hU hW⟩⟩ rfl rfl hl.1 rfl (lv_room (Nat.le_of_ble_eq_true rfl)) dd_M_copy_45 ⟨Nat.zero_le _, Nat.zero_le _⟩) hS (fun q _ h => h) (fun q h => h) (fun r9 v9 t9 H locs ht9 hvm9 hw9 hB9 hz9 hk9 hS => ?_)
        obtain ⟨rfl, rfl⟩ : r9 = (ff_M_create u0 (m_kind u0 p0.toNatClampNeg) (m_size u0 p0.toNatClampNeg) (0 : Int32)).1 ∧ v9 = (ff_M_create u0 (m_kind u0 p0.toNatClampNeg) (m_size u0 p0.toNatClampNeg) (0 : Int32)).2 := by rw [← hw9]; exact ⟨rfl, rfl⟩
        obtain ⟨hP, -, hD⟩ := hB9
        rw [ht9] at hP
        refine lv_istore_n (lv' := [(2, .int ((ff_M_create u0 (m_kind u0 p0.toNatClampNeg) (m_size u0 p0.toNatClampNeg) (0 : Int32)).1)), (0, .ref h), (1, .int p0)]) hx hb dd_M_copy_48 rfl hl (by decide) rfl (fun ls hl => ?_)
        refine lv_iconst (v := 0) hx hb dd_M_copy_49 (by decide) ?_
        refine lv_istore_n (lv' := [(3, .int 0), (2, .int ((ff_M_create u0 (m_kind u0 p0.toNatClampNeg) (m_size u0 p0.toNatClampNeg) (0 : Int32)).1)), (0, .ref h), (1, .int p0)]) hx hb dd_M_copy_50 rfl hl (by decide) rfl (fun ls hl => ?_)
        have loop_51 : ∀ (n : Nat) (u : SM) (H : Heap) (locs : List Loc) (x1 : Int32) (x2 : Int32) (x3 : Int32) (ls : Array Slot), okl_M_copy_51 n u x1 x2 x3 → ff_M_copy u0 p0 = fl_M_copy_51 n u x1 x2 x3 → va_P (dC, dI) cls_l (wM h a k u) H → va_D (aM h a) (wM h a k u) → va_S (aM h a) s.heap H locs → lv_has ls 4 [(0, .ref h), (1, .int x1), (2, .int x2), (3, .int x3)] → W p l e (headSpec ws_M_copy rm_M_copy).room s m ([.ref h, .int p0] : List Value).toArray below meth c H locs 0 0 (MQ below (va_Qi (fun (r : Int32) (v : SM) => (r, v) = ff_M_copy u0 p0) (pM dC dI h a k) (aM h a)) ([.ref h, .int p0] : List Value).toArray s 0 0 (aM h a)) (F0 m 51 ls []) := by
          intro n
          induction n with
          | zero => intro u H locs x1 x2 x3 ls hok; exact (show False from hok).elim
          | succ n ih =>
            intro u H locs x1 x2 x3 ls hok hf hP hD hS hl
            rw [fl_M_copy_51] at hf
            rw [okl_M_copy_51] at hok
            refine lv_iload_n hx hb dd_M_copy_51 rfl (lv_at hl 3 rfl) ?_
            refine lv_bipush (v := 8) hx hb dd_M_copy_52 (by decide) ?_
            refine lv_icmp_ge (tgt := 85) hx hb dd_M_copy_54 (by decide) (fun c8 => ?_) (fun c8 => ?_)
            · have hf := hf.trans (if_pos c8)
              have hok := hok.1 c8
              refine lv_iload_n hx hb dd_M_copy_85 rfl (lv_at hl 2 rfl) ?_
              exact W.iret (v := x2) hx hb hr (fun t ht hW => ⟨⟨x2, u, rfl, hf.symm, pM_up hP hK hD ht hW⟩, hS.F ht⟩) hS.2.2 dd_M_copy_86
            · have hf := hf.trans (if_neg c8)
              have hok := hok.2 c8
              refine lv_aload_n hx hb dd_M_copy_57 rfl (lv_at hl 0 rfl) ?_
              refine va_get (D := (dC, dI)) (ci := 0) (v := .ref (a 7)) (C := "ClassObjectMirrorModel") (T := TM) (N := 12) hx hb hts inM hown hK hP 0 rfl rfl 8 (by decide) (hts _ gw_309) (fun _ h9 => h9) rfl dd_M_copy_58 ?_
              refine lv_bipush (v := 8) hx hb dd_M_copy_61 (by decide) ?_
              refine lv_iload_n hx hb dd_M_copy_63 rfl (lv_at hl 2 rfl) ?_
              refine lv_imul hx hb dd_M_copy_64 ?_
              refine lv_iload_n hx hb dd_M_copy_65 rfl (lv_at hl 3 rfl) ?_
              refine lv_iadd hx hb dd_M_copy_66 ?_
              refine lv_aload_n hx hb dd_M_copy_67 rfl (lv_at hl 0 rfl) ?_
              refine va_get (D := (dC, dI)) (ci := 0) (v := .ref (a 7)) (C := "ClassObjectMirrorModel") (T := TM) (N := 12) hx hb hts inM hown hK hP 0 rfl rfl 8 (by decide) (hts _ gw_309) (fun _ h9 => h9) rfl dd_M_copy_68 ?_
              refine lv_bipush (v := 8) hx hb dd_M_copy_71 (by decide) ?_
              refine lv_iload_n hx hb dd_M_copy_73 rfl (lv_at hl 1 rfl) ?_
              refine lv_imul hx hb dd_M_copy_74 ?_
              refine lv_iload_n hx hb dd_M_copy_75 rfl (lv_at hl 3 rfl) ?_
              refine lv_iadd hx hb dd_M_copy_76 ?_
              obtain ⟨n9, hok⟩ := hok
              refine va_lald hx hb hK hP 8 7 rfl rfl n9 dd_M_copy_77 ?_
              obtain ⟨n10, hok⟩ := hok
              refine va_last hx hb hK hP hD hS 8 7 rfl rfl n10 dd_M_copy_78 (fun H locs hP hD hS => ?_)
              have hP : va_P (dC, dI) cls_l (wM h a k (m_u_cell u ((8 * x2) + x3) (m_cell u ((8 * x1) + x3).toNatClampNeg))) H := hP
              have hD : va_D (aM h a) (wM h a k (m_u_cell u ((8 * x2) + x3) (m_cell u ((8 * x1) + x3).toNatClampNeg))) := hD
              refine lv_iinc (v := x3 + 1) (lv' := [(3, .int (x3 + 1)), (0, .ref h), (1, .int x1), (2, .int x2)]) hx hb dd_M_copy_79 hl (k := 3) rfl rfl (by decide) rfl (fun ls hl => ?_)
              refine lv_goto (tgt := 51) hx hb dd_M_copy_82 (by decide) ?_
              exact ih (m_u_cell u ((8 * x2) + x3) (m_cell u ((8 * x1) + x3).toNatClampNeg)) _ _ x1 x2 (x3 + 1) ls hok hf hP hD hS (lv_sub hl [1, 2, 3, 0] rfl)
        exact loop_51 400 ((ff_M_create u0 (m_kind u0 p0.toNatClampNeg) (m_size u0 p0.toNatClampNeg) (0 : Int32)).2) _ _ p0 ((ff_M_create u0 (m_kind u0 p0.toNatClampNeg) (m_size u0 p0.toNatClampNeg) (0 : Int32)).1) (0 : Int32) ls hok hf hP hD hS (lv_sub hl [2, 3, 1, 0] rfl)
      · have hf := hf.trans (if_pos c4)
        have hok := hok.1 c4
        refine lv_bipush (v := (-8)) hx hb dd_M_copy_28 (by decide) ?_
        exact W.iret (v := ((-8) : Int32)) hx hb hr (fun t ht hW => ⟨⟨((-8) : Int32), u0, rfl, hf.symm, pM_up hP hK hD ht hW⟩, hS.F ht⟩) hS.2.2 dd_M_copy_30
    · have hf := hf.trans (if_neg c3)
      have hok := hok.2 c3
      refine lv_iconst (v := (-1)) hx hb dd_M_copy_17 (by decide) ?_
      exact W.iret (v := ((-1) : Int32)) hx hb hr (fun t ht hW => ⟨⟨((-1) : Int32), u0, rfl, hf.symm, pM_up hP hK hD ht hW⟩, hS.F ht⟩) hS.2.2 dd_M_copy_18

def ff_M_label (u0 : SM) (p0 : Int32) : Int32 := (if (ff_M_noObject u0 p0) = 0 then (if (m_kind u0 p0.toNatClampNeg) = 16 then (if (100 : Int32) = 0 then (-1) else 100 + (m_val u0 p0.toNatClampNeg)) else (if (m_kind u0 p0.toNatClampNeg) = 17 then (if (100 : Int32) = 0 then (-1) else 100 + (m_val u0 p0.toNatClampNeg)) else (if (m_kind u0 p0.toNatClampNeg) = 18 then (if (200 : Int32) = 0 then (-1) else 200 + (m_val u0 p0.toNatClampNeg)) else (if (m_kind u0 p0.toNatClampNeg) = 20 then (if (300 : Int32) = 0 then (-1) else 300 + (m_val u0 p0.toNatClampNeg)) else (if (m_kind u0 p0.toNatClampNeg) = 19 then (if (400 : Int32) = 0 then (-1) else 400 + (m_val u0 p0.toNatClampNeg)) else (if (0 : Int32) = 0 then (-1) else 0 + (m_val u0 p0.toNatClampNeg))))))) else (-1))
def ok_M_label (u0 : SM) (p0 : Int32) : Prop := ((((ff_M_noObject u0 p0) = 0) → (vp_in p0 80) ∧ ((((m_kind u0 p0.toNatClampNeg) = 16) → ((((100 : Int32) = 0) → True) ∧ (¬ ((100 : Int32) = 0) → vp_in p0 80))) ∧ (¬ ((m_kind u0 p0.toNatClampNeg) = 16) → ((((m_kind u0 p0.toNatClampNeg) = 17) → ((((100 : Int32) = 0) → True) ∧ (¬ ((100 : Int32) = 0) → vp_in p0 80))) ∧ (¬ ((m_kind u0 p0.toNatClampNeg) = 17) → ((((m_kind u0 p0.toNatClampNeg) = 18) → ((((200 : Int32) = 0) → True) ∧ (¬ ((200 : Int32) = 0) → vp_in p0 80))) ∧ (¬ ((m_kind u0 p0.toNatClampNeg) = 18) → ((((m_kind u0 p0.toNatClampNeg) = 20) → ((((300 : Int32) = 0) → True) ∧ (¬ ((300 : Int32) = 0) → vp_in p0 80))) ∧ (¬ ((m_kind u0 p0.toNatClampNeg) = 20) → ((((m_kind u0 p0.toNatClampNeg) = 19) → ((((400 : Int32) = 0) → True) ∧ (¬ ((400 : Int32) = 0) → vp_in p0 80))) ∧ (¬ ((m_kind u0 p0.toNatClampNeg) = 19) → ((((0 : Int32) = 0) → True) ∧ (¬ ((0 : Int32) = 0) → vp_in p0 80))))))))))))) ∧ (¬ ((ff_M_noObject u0 p0) = 0) → True))
abbrev ws_M_label : List Cond := .code yy_M_label bb_M_label 4 (some .int) :: gW
abbrev rm_M_label : Room := { frames := 1, cells := 0, slots := 0, locals := 21 }
set_option maxHeartbeats 4000000 in
set_option maxRecDepth 100000 in
theorem mm_M_label (l : Launch) (dC : Nat → ClassId) (dI : Nat → Nat → Nat) (h : Nat) (a : Nat → Nat) (k : Nat → ClassId) (u0 : SM) (p0 : Int32) (hok : ok_M_label u0 p0) : Met l yy_M_label ws_M_label rm_M_label (va_Pc [.ref h, .int p0] (pM dC dI h a k u0)) (vp_Si (fun r => r = ff_M_label u0 p0)) 0 0 (fun _ => False) := by
  refine Met.ofW (cc := bb_M_label) (maxL := 4) (ret := (some .int)) (by decide) rfl ?_
  intro p e s m args below meth c s₁ B hml hv
  obtain ⟨rfl, hP, hK, hD⟩ := hv
  have hx := B.exec
  have hb := B.bytes
  have hr := B.returns
  have hts : ∀ w ∈ gW, w.before _ s = true := fun w h => atoms_spec (ws := ws_M_label) B.pre w (List.mem_cons_of_mem _ h)
  have hown : s.vm.findClass "ClassObjectMirrorModel" = some m.cls := findClass_of_methodNamed B.named
  have hlocks := B.notSynchronized
  have hS : va_S (aM h a) s.heap s.heap [] := va_S.rf
  have hl := lv_entry ([.ref h, .int p0]) (n := 4) (Nat.le_of_ble_eq_true rfl)
  rw [lg_entry_eq]
  generalize (lg_sl ([.ref h, .int p0]) ++ List.replicate (4 - (lg_sl ([.ref h, .int p0])).length) Slot.unset).toArray = ls at hl ⊢
  have hl : lv_has ls 4 [(0, .ref h), (1, .int p0)] := hl
  have hf := ff_M_label.eq_1 u0 p0
  unfold ok_M_label at hok
  refine lv_aload_n hx hb dd_M_label_0 rfl (lv_at hl 0 rfl) ?_
  refine lv_iload_n hx hb dd_M_label_1 rfl (lv_at hl 1 rfl) ?_
  refine vp_callSi (W.runV (As := [.int p0]) (rest := []) ⟨hx, hb, hml, hown, hts⟩ (mm_M_noObject l dC dI h a k u0 p0) (cwV 1 hts (gg_V gw_460 gw_462 gs_29 gw_2 gw_463) rfl rfl rfl (by decide +kernel) ⟨Nat.le_of_ble_eq_true rfl, Nat.le_of_ble_eq_true rfl⟩) ⟨pM_bl, va_recv hK hP (ci := 0) (q0 := 0) rfl rfl, fun U hU hW => ⟨rfl, pM_up hP hK hD hU hW⟩⟩ rfl rfl hl.1 rfl (lv_room (Nat.le_of_ble_eq_true rfl)) dd_M_label_2 ⟨Nat.zero_le _, Nat.zero_le _⟩) (fun r hr9 => ?_)
  subst hr9
  refine lv_if_eq (tgt := 10) hx hb dd_M_label_5 (by decide) (fun c1 => ?_) (fun c1 => ?_)
  · have hf := hf.trans (if_pos c1)
    have hok := hok.1 c1
    refine lv_aload_n hx hb dd_M_label_10 rfl (lv_at hl 0 rfl) ?_
    refine va_get (D := (dC, dI)) (ci := 0) (v := .ref (a 4)) (C := "ClassObjectMirrorModel") (T := TM) (N := 12) hx hb hts inM hown hK hP 0 rfl rfl 5 (by decide) (hts _ gw_306) (fun _ h9 => h9) rfl dd_M_label_11 ?_
    refine lv_iload_n hx hb dd_M_label_14 rfl (lv_at hl 1 rfl) ?_
    obtain ⟨n2, hok⟩ := hok
    refine va_iald hx hb hK hP 5 4 rfl rfl n2 dd_M_label_15 ?_
    refine lv_istore_n (lv' := [(2, .int (m_kind u0 p0.toNatClampNeg)), (0, .ref h), (1, .int p0)]) hx hb dd_M_label_16 rfl hl (by decide) rfl (fun ls hl => ?_)
    refine lv_iload_n hx hb dd_M_label_17 rfl (lv_at hl 0 rfl) ?_
    refine lv_bipush (v := 16) hx hb dd_M_label_18 (by decide) ?_
    refine lv_icmp_eq (tgt := 29) hx hb dd_M_label_20 (by decide) (fun c3 => ?_) (fun c3 => ?_)
    · have hf := hf.trans (if_pos c3)
      have hok := hok.1 c3
      refine lv_bipush (v := 100) hx hb dd_M_label_29 (by decide) ?_
      refine lv_goto (tgt := 71) hx hb dd_M_label_31 (by decide) ?_
      refine lv_istore_n (lv' := [(3, .int 100), (2, .int (m_kind u0 p0.toNatClampNeg)), (0, .ref h), (1, .int p0)]) hx hb dd_M_label_71 rfl hl (by decide) rfl (fun ls hl => ?_)
      refine lv_iload_n hx hb dd_M_label_72 rfl (lv_at hl 0 rfl) ?_
      refine lv_if_ne (tgt := 80) hx hb dd_M_label_73 (by decide) (fun c4 => ?_) (fun c4 => ?_)
      · have hf := hf.trans (if_neg c4)
        have hok := hok.2 c4
        refine lv_iload_n hx hb dd_M_label_80 rfl (lv_at hl 0 rfl) ?_
        refine lv_aload_n hx hb dd_M_label_81 rfl (lv_at hl 2 rfl) ?_
        refine va_get (D := (dC, dI)) (ci := 0) (v := .ref (a 6)) (C := "ClassObjectMirrorModel") (T := TM) (N := 12) hx hb hts inM hown hK hP 0 rfl rfl 7 (by decide) (hts _ gw_308) (fun _ h9 => h9) rfl dd_M_label_82 ?_
        refine lv_iload_n hx hb dd_M_label_85 rfl (lv_at hl 3 rfl) ?_
        have n5 := hok
        refine va_iald hx hb hK hP 7 6 rfl rfl n5 dd_M_label_86 ?_
        refine lv_iadd hx hb dd_M_label_87 ?_
        exact W.iret (v := (100 + (m_val u0 p0.toNatClampNeg))) hx hb hr (fun t ht hW => ⟨(100 + (m_val u0 p0.toNatClampNeg)), rfl, hf.symm, ht⟩) (fun _ h => by cases h) dd_M_label_88
      · have hf := hf.trans (if_pos c4)
        have hok := hok.1 c4
        refine lv_iconst (v := (-1)) hx hb dd_M_label_76 (by decide) ?_
        refine lv_goto (tgt := 88) hx hb dd_M_label_77 (by decide) ?_
        exact W.iret (v := ((-1) : Int32)) hx hb hr (fun t ht hW => ⟨((-1) : Int32), rfl, hf.symm, ht⟩) (fun _ h => by cases h) dd_M_label_88
    · have hf := hf.trans (if_neg c3)
      have hok := hok.2 c3
      refine lv_iload_n hx hb dd_M_label_23 rfl (lv_at hl 0 rfl) ?_
      refine lv_bipush (v := 17) hx hb dd_M_label_24 (by decide) ?_
      refine lv_icmp_ne (tgt := 34) hx hb dd_M_label_26 (by decide) (fun c6 => ?_) (fun c6 => ?_)
      · have hf := hf.trans (if_neg c6)
        have hok := hok.2 c6
        refine lv_iload_n hx hb dd_M_label_34 rfl (lv_at hl 0 rfl) ?_
        refine lv_bipush (v := 18) hx hb dd_M_label_35 (by decide) ?_
        refine lv_icmp_ne (tgt := 46) hx hb dd_M_label_37 (by decide) (fun c7 => ?_) (fun c7 => ?_)
        · have hf := hf.trans (if_neg c7)
          have hok := hok.2 c7
          refine lv_iload_n hx hb dd_M_label_46 rfl (lv_at hl 0 rfl) ?_
          refine lv_bipush (v := 20) hx hb dd_M_label_47 (by decide) ?_
          refine lv_icmp_ne (tgt := 58) hx hb dd_M_label_49 (by decide) (fun c8 => ?_) (fun c8 => ?_)
          · have hf := hf.trans (if_neg c8)
            have hok := hok.2 c8
            refine lv_iload_n hx hb dd_M_label_58 rfl (lv_at hl 0 rfl) ?_
            refine lv_bipush (v := 19) hx hb dd_M_label_59 (by decide) ?_
            refine lv_icmp_ne (tgt := 70) hx hb dd_M_label_61 (by decide) (fun c9 => ?_) (fun c9 => ?_)
            · have hf := hf.trans (if_neg c9)
              have hok := hok.2 c9
              refine lv_iconst (v := 0) hx hb dd_M_label_70 (by decide) ?_
              refine lv_istore_n (lv' := [(3, .int 0), (2, .int (m_kind u0 p0.toNatClampNeg)), (0, .ref h), (1, .int p0)]) hx hb dd_M_label_71 rfl hl (by decide) rfl (fun ls hl => ?_)
              refine lv_iload_n hx hb dd_M_label_72 rfl (lv_at hl 0 rfl) ?_
              refine lv_if_ne (tgt := 80) hx hb dd_M_label_73 (by decide) (fun c10 => ?_) (fun c10 => ?_)
              · have hf := hf.trans (if_neg c10)
                have hok := hok.2 c10
                refine lv_iload_n hx hb dd_M_label_80 rfl (lv_at hl 0 rfl) ?_
                refine lv_aload_n hx hb dd_M_label_81 rfl (lv_at hl 2 rfl) ?_
                refine va_get (D := (dC, dI)) (ci := 0) (v := .ref (a 6)) (C := "ClassObjectMirrorModel") (T := TM) (N := 12) hx hb hts inM hown hK hP 0 rfl rfl 7 (by decide) (hts _ gw_308) (fun _ h9 => h9) rfl dd_M_label_82 ?_
                refine lv_iload_n hx hb dd_M_label_85 rfl (lv_at hl 3 rfl) ?_
                have n11 := hok
                refine va_iald hx hb hK hP 7 6 rfl rfl n11 dd_M_label_86 ?_
                refine lv_iadd hx hb dd_M_label_87 ?_
                exact W.iret (v := (0 + (m_val u0 p0.toNatClampNeg))) hx hb hr (fun t ht hW => ⟨(0 + (m_val u0 p0.toNatClampNeg)), rfl, hf.symm, ht⟩) (fun _ h => by cases h) dd_M_label_88
              · have hf := hf.trans (if_pos c10)
                have hok := hok.1 c10
                refine lv_iconst (v := (-1)) hx hb dd_M_label_76 (by decide) ?_
                refine lv_goto (tgt := 88) hx hb dd_M_label_77 (by decide) ?_
                exact W.iret (v := ((-1) : Int32)) hx hb hr (fun t ht hW => ⟨((-1) : Int32), rfl, hf.symm, ht⟩) (fun _ h => by cases h) dd_M_label_88
            · have hf := hf.trans (if_pos c9)
              have hok := hok.1 c9
              refine lv_sipush (v := 400) hx hb dd_M_label_64 (by decide) ?_
              refine lv_goto (tgt := 71) hx hb dd_M_label_67 (by decide) ?_
              refine lv_istore_n (lv' := [(3, .int 400), (2, .int (m_kind u0 p0.toNatClampNeg)), (0, .ref h), (1, .int p0)]) hx hb dd_M_label_71 rfl hl (by decide) rfl (fun ls hl => ?_)
              refine lv_iload_n hx hb dd_M_label_72 rfl (lv_at hl 0 rfl) ?_
              refine lv_if_ne (tgt := 80) hx hb dd_M_label_73 (by decide) (fun c12 => ?_) (fun c12 => ?_)
              · have hf := hf.trans (if_neg c12)
                have hok := hok.2 c12
                refine lv_iload_n hx hb dd_M_label_80 rfl (lv_at hl 0 rfl) ?_
                refine lv_aload_n hx hb dd_M_label_81 rfl (lv_at hl 2 rfl) ?_
                refine va_get (D := (dC, dI)) (ci := 0) (v := .ref (a 6)) (C := "ClassObjectMirrorModel") (T := TM) (N := 12) hx hb hts inM hown hK hP 0 rfl rfl 7 (by decide) (hts _ gw_308) (fun _ h9 => h9) rfl dd_M_label_82 ?_
                refine lv_iload_n hx hb dd_M_label_85 rfl (lv_at hl 3 rfl) ?_
                have n13 := hok
                refine va_iald hx hb hK hP 7 6 rfl rfl n13 dd_M_label_86 ?_
                refine lv_iadd hx hb dd_M_label_87 ?_
                exact W.iret (v := (400 + (m_val u0 p0.toNatClampNeg))) hx hb hr (fun t ht hW => ⟨(400 + (m_val u0 p0.toNatClampNeg)), rfl, hf.symm, ht⟩) (fun _ h => by cases h) dd_M_label_88
              · have hf := hf.trans (if_pos c12)
                have hok := hok.1 c12
                refine lv_iconst (v := (-1)) hx hb dd_M_label_76 (by decide) ?_
                refine lv_goto (tgt := 88) hx hb dd_M_label_77 (by decide) ?_
                exact W.iret (v := ((-1) : Int32)) hx hb hr (fun t ht hW => ⟨((-1) : Int32), rfl, hf.symm, ht⟩) (fun _ h => by cases h) dd_M_label_88
          · have hf := hf.trans (if_pos c8)
            have hok := hok.1 c8
            refine lv_sipush (v := 300) hx hb dd_M_label_52 (by decide) ?_
            refine lv_goto (tgt := 71) hx hb dd_M_label_55 (by decide) ?_
            refine lv_istore_n (lv' := [(3, .int 300), (2, .int (m_kind u0 p0.toNatClampNeg)), (0, .ref h), (1, .int p0)]) hx hb dd_M_label_71 rfl hl (by decide) rfl (fun ls hl => ?_)
            refine lv_iload_n hx hb dd_M_label_72 rfl (lv_at hl 0 rfl) ?_
            refine lv_if_ne (tgt := 80) hx hb dd_M_label_73 (by decide) (fun c14 => ?_) (fun c14 => ?_)
            · have hf := hf.trans (if_neg c14)
              have hok := hok.2 c14
              refine lv_iload_n hx hb dd_M_label_80 rfl (lv_at hl 0 rfl) ?_
              refine lv_aload_n hx hb dd_M_label_81 rfl (lv_at hl 2 rfl) ?_
              refine va_get (D := (dC, dI)) (ci := 0) (v := .ref (a 6)) (C := "ClassObjectMirrorModel") (T := TM) (N := 12) hx hb hts inM hown hK hP 0 rfl rfl 7 (by decide) (hts _ gw_308) (fun _ h9 => h9) rfl dd_M_label_82 ?_
              refine lv_iload_n hx hb dd_M_label_85 rfl (lv_at hl 3 rfl) ?_
              have n15 := hok
              refine va_iald hx hb hK hP 7 6 rfl rfl n15 dd_M_label_86 ?_
              refine lv_iadd hx hb dd_M_label_87 ?_
              exact W.iret (v := (300 + (m_val u0 p0.toNatClampNeg))) hx hb hr (fun t ht hW => ⟨(300 + (m_val u0 p0.toNatClampNeg)), rfl, hf.symm, ht⟩) (fun _ h => by cases h) dd_M_label_88
            · have hf := hf.trans (if_pos c14)
              have hok := hok.1 c14
              refine lv_iconst (v := (-1)) hx hb dd_M_label_76 (by decide) ?_
              refine lv_goto (tgt := 88) hx hb dd_M_label_77 (by decide) ?_
              exact W.iret (v := ((-1) : Int32)) hx hb hr (fun t ht hW => ⟨((-1) : Int32), rfl, hf.symm, ht⟩) (fun _ h => by cases h) dd_M_label_88
        · have hf := hf.trans (if_pos c7)
          have hok := hok.1 c7
          refine lv_sipush (v := 200) hx hb dd_M_label_40 (by decide) ?_
          refine lv_goto (tgt := 71) hx hb dd_M_label_43 (by decide) ?_
          refine lv_istore_n (lv' := [(3, .int 200), (2, .int (m_kind u0 p0.toNatClampNeg)), (0, .ref h), (1, .int p0)]) hx hb dd_M_label_71 rfl hl (by decide) rfl (fun ls hl => ?_)
          refine lv_iload_n hx hb dd_M_label_72 rfl (lv_at hl 0 rfl) ?_
          refine lv_if_ne (tgt := 80) hx hb dd_M_label_73 (by decide) (fun c16 => ?_) (fun c16 => ?_)
          · have hf := hf.trans (if_neg c16)
            have hok := hok.2 c16
            refine lv_iload_n hx hb dd_M_label_80 rfl (lv_at hl 0 rfl) ?_
            refine lv_aload_n hx hb dd_M_label_81 rfl (lv_at hl 2 rfl) ?_
            refine va_get (D := (dC, dI)) (ci := 0) (v := .ref (a 6)) (C := "ClassObjectMirrorModel") (T := TM) (N := 12) hx hb hts inM hown hK hP 0 rfl rfl 7 (by decide) (hts _ gw_308) (fun _ h9 => h9) rfl dd_M_label_82 ?_
            refine lv_iload_n hx hb dd_M_label_85 rfl (lv_at hl 3 rfl) ?_
            have n17 := hok
            refine va_iald hx hb hK hP 7 6 rfl rfl n17 dd_M_label_86 ?_
            refine lv_iadd hx hb dd_M_label_87 ?_
            exact W.iret (v := (200 + (m_val u0 p0.toNatClampNeg))) hx hb hr (fun t ht hW => ⟨(200 + (m_val u0 p0.toNatClampNeg)), rfl, hf.symm, ht⟩) (fun _ h => by cases h) dd_M_label_88
          · have hf := hf.trans (if_pos c16)
            have hok := hok.1 c16
            refine lv_iconst (v := (-1)) hx hb dd_M_label_76 (by decide) ?_
            refine lv_goto (tgt := 88) hx hb dd_M_label_77 (by decide) ?_
            exact W.iret (v := ((-1) : Int32)) hx hb hr (fun t ht hW => ⟨((-1) : Int32), rfl, hf.symm, ht⟩) (fun _ h => by cases h) dd_M_label_88
      · have hf := hf.trans (if_pos c6)
        have hok := hok.1 c6
        refine lv_bipush (v := 100) hx hb dd_M_label_29 (by decide) ?_
        refine lv_goto (tgt := 71) hx hb dd_M_label_31 (by decide) ?_
        refine lv_istore_n (lv' := [(3, .int 100), (2, .int (m_kind u0 p0.toNatClampNeg)), (0, .ref h), (1, .int p0)]) hx hb dd_M_label_71 rfl hl (by decide) rfl (fun ls hl => ?_)
        refine lv_iload_n hx hb dd_M_label_72 rfl (lv_at hl 0 rfl) ?_
        refine lv_if_ne (tgt := 80) hx hb dd_M_label_73 (by decide) (fun c18 => ?_) (fun c18 => ?_)
        · have hf := hf.trans (if_neg c18)
          have hok := hok.2 c18
          refine lv_iload_n hx hb dd_M_label_80 rfl (lv_at hl 0 rfl) ?_
          refine lv_aload_n hx hb dd_M_label_81 rfl (lv_at hl 2 rfl) ?_
          refine va_get (D := (dC, dI)) (ci := 0) (v := .ref (a 6)) (C := "ClassObjectMirrorModel") (T := TM) (N := 12) hx hb hts inM hown hK hP 0 rfl rfl 7 (by decide) (hts _ gw_308) (fun _ h9 => h9) rfl dd_M_label_82 ?_
          refine lv_iload_n hx hb dd_M_label_85 rfl (lv_at hl 3 rfl) ?_
          have n19 := hok
          refine va_iald hx hb hK hP 7 6 rfl rfl n19 dd_M_label_86 ?_
          refine lv_iadd hx hb dd_M_label_87 ?_
          exact W.iret (v := (100 + (m_val u0 p0.toNatClampNeg))) hx hb hr (fun t ht hW => ⟨(100 + (m_val u0 p0.toNatClampNeg)), rfl, hf.symm, ht⟩) (fun _ h => by cases h) dd_M_label_88
        · have hf := hf.trans (if_pos c18)
          have hok := hok.1 c18
          refine lv_iconst (v := (-1)) hx hb dd_M_label_76 (by decide) ?_
          refine lv_goto (tgt := 88) hx hb dd_M_label_77 (by decide) ?_
          exact W.iret (v := ((-1) : Int32)) hx hb hr (fun t ht hW => ⟨((-1) : Int32), rfl, hf.symm, ht⟩) (fun _ h => by cases h) dd_M_label_88
  · have hf := hf.trans (if_neg c1)
    have hok := hok.2 c1
    refine lv_iconst (v := (-1)) hx hb dd_M_label_8 (by decide) ?_
    exact W.iret (v := ((-1) : Int32)) hx hb hr (fun t ht hW => ⟨((-1) : Int32), rfl, hf.symm, ht⟩) (fun _ h => by cases h) dd_M_label_9

def ff_M_count (u0 : SM) (p0 : Int32) : Int32 := (if p0 = 0 then m_types u0 else (if p0 = 1 then m_objs u0 else (-1)))
abbrev ws_M_count : List Cond := .code yy_M_count bb_M_count 2 (some .int) :: gW
abbrev rm_M_count : Room := { frames := 0, cells := 0, slots := 0, locals := 0 }
set_option maxHeartbeats 4000000 in
set_option maxRecDepth 100000 in
theorem mm_M_count (l : Launch) (dC : Nat → ClassId) (dI : Nat → Nat → Nat) (h : Nat) (a : Nat → Nat) (k : Nat → ClassId) (u0 : SM) (p0 : Int32) : Met l yy_M_count ws_M_count rm_M_count (va_Pc [.ref h, .int p0] (pM dC dI h a k u0)) (vp_Si (fun r => r = ff_M_count u0 p0)) 0 0 (fun _ => False) := by
  refine Met.ofW (cc := bb_M_count) (maxL := 2) (ret := (some .int)) (by decide) rfl ?_
  intro p e s m args below meth c s₁ B hml hv
  obtain ⟨rfl, hP, hK, hD⟩ := hv
  have hx := B.exec
  have hb := B.bytes
  have hr := B.returns
  have hts : ∀ w ∈ gW, w.before _ s = true := fun w h => atoms_spec (ws := ws_M_count) B.pre w (List.mem_cons_of_mem _ h)
  have hown : s.vm.findClass "ClassObjectMirrorModel" = some m.cls := findClass_of_methodNamed B.named
  have hlocks := B.notSynchronized
  have hS : va_S (aM h a) s.heap s.heap [] := va_S.rf
  have hl := lv_entry ([.ref h, .int p0]) (n := 2) (Nat.le_of_ble_eq_true rfl)
  rw [lg_entry_eq]
  generalize (lg_sl ([.ref h, .int p0]) ++ List.replicate (2 - (lg_sl ([.ref h, .int p0])).length) Slot.unset).toArray = ls at hl ⊢
  have hl : lv_has ls 2 [(0, .ref h), (1, .int p0)] := hl
  have hf := ff_M_count.eq_1 u0 p0
  refine lv_iload_n hx hb dd_M_count_0 rfl (lv_at hl 1 rfl) ?_
  refine lv_if_ne (tgt := 11) hx hb dd_M_count_1 (by decide) (fun c1 => ?_) (fun c1 => ?_)
  · have hf := hf.trans (if_neg c1)
    refine lv_iload_n hx hb dd_M_count_11 rfl (lv_at hl 1 rfl) ?_
    refine lv_iconst (v := 1) hx hb dd_M_count_12 (by decide) ?_
    refine lv_icmp_ne (tgt := 23) hx hb dd_M_count_13 (by decide) (fun c2 => ?_) (fun c2 => ?_)
    · have hf := hf.trans (if_neg c2)
      refine lv_iconst (v := (-1)) hx hb dd_M_count_23 (by decide) ?_
      exact W.iret (v := ((-1) : Int32)) hx hb hr (fun t ht hW => ⟨((-1) : Int32), rfl, hf.symm, ht⟩) (fun _ h => by cases h) dd_M_count_24
    · have hf := hf.trans (if_pos c2)
      refine lv_aload_n hx hb dd_M_count_16 rfl (lv_at hl 0 rfl) ?_
      refine va_get (D := (dC, dI)) (ci := 0) (v := .int (m_objs u0)) (C := "ClassObjectMirrorModel") (T := TM) (N := 12) hx hb hts inM hown hK hP 0 rfl rfl 9 (by decide) (hts _ gw_310) (fun _ h9 => h9) rfl dd_M_count_17 ?_
      refine lv_goto (tgt := 24) hx hb dd_M_count_20 (by decide) ?_
      exact W.iret (v := (m_objs u0)) hx hb hr (fun t ht hW => ⟨(m_objs u0), rfl, hf.symm, ht⟩) (fun _ h => by cases h) dd_M_count_24
  · have hf := hf.trans (if_pos c1)
    refine lv_aload_n hx hb dd_M_count_4 rfl (lv_at hl 0 rfl) ?_
    refine va_get (D := (dC, dI)) (ci := 0) (v := .int (m_types u0)) (C := "ClassObjectMirrorModel") (T := TM) (N := 12) hx hb hts inM hown hK hP 0 rfl rfl 4 (by decide) (hts _ gw_305) (fun _ h9 => h9) rfl dd_M_count_5 ?_
    refine lv_goto (tgt := 24) hx hb dd_M_count_8 (by decide) ?_
    exact W.iret (v := (m_types u0)) hx hb hr (fun t ht hW => ⟨(m_types u0), rfl, hf.symm, ht⟩) (fun _ h => by cases h) dd_M_count_24
end
