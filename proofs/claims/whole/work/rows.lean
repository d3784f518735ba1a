section
-- ===== PART A: goes FIRST, ahead of the names: the tables' words, and 'selects' of the private methods out of them =====
/-- a private method of a class that the tables say can be made, by its rows of tables_1 -/
def lw_okq (q : MethodName × Nat) : Prop := (q.1.cls ≠ "java/lang/invoke/MethodHandle" ∧ q.1.cls ≠ "java/lang/invoke/VarHandle") ∧ Cond.instantiable q.1.cls q.2 ∈ tables_1 ∧ Cond.privateMethod q.1 ∈ tables_1 ∧ Cond.instanceMethod q.1 ∈ tables_1
theorem lw_p0 : lw_okq (⟨"RobotWorld", "startOver", "()V"⟩, 4) := ⟨⟨by decide +kernel, by decide +kernel⟩, List.mem_of_getElem? (i := 10) (by decide +kernel), List.mem_of_getElem? (i := 122) (by decide +kernel), List.mem_of_getElem? (i := 123) (by decide +kernel)⟩
theorem lw_p1 : lw_okq (⟨"RobotWorld", "robotOn", "(II)LRobotWorld$Robot;"⟩, 4) := ⟨⟨by decide +kernel, by decide +kernel⟩, List.mem_of_getElem? (i := 10) (by decide +kernel), List.mem_of_getElem? (i := 158) (by decide +kernel), List.mem_of_getElem? (i := 159) (by decide +kernel)⟩
theorem lw_p2 : lw_okq (⟨"RobotWorld", "robotOf", "(I)LRobotWorld$Robot;"⟩, 4) := ⟨⟨by decide +kernel, by decide +kernel⟩, List.mem_of_getElem? (i := 10) (by decide +kernel), List.mem_of_getElem? (i := 193) (by decide +kernel), List.mem_of_getElem? (i := 194) (by decide +kernel)⟩
theorem lw_p3 : lw_okq (⟨"RobotWorld", "isNumber", "(I)Z"⟩, 4) := ⟨⟨by decide +kernel, by decide +kernel⟩, List.mem_of_getElem? (i := 10) (by decide +kernel), List.mem_of_getElem? (i := 197) (by decide +kernel), List.mem_of_getElem? (i := 198) (by decide +kernel)⟩
theorem lw_p4 : lw_okq (⟨"RobotWorld", "nextReady", "()LRobotWorld$Robot;"⟩, 4) := ⟨⟨by decide +kernel, by decide +kernel⟩, List.mem_of_getElem? (i := 10) (by decide +kernel), List.mem_of_getElem? (i := 217) (by decide +kernel), List.mem_of_getElem? (i := 218) (by decide +kernel)⟩
theorem lw_p5 : lw_okq (⟨"RobotWorld", "doWord", "(LRobotWorld$Robot;)V"⟩, 4) := ⟨⟨by decide +kernel, by decide +kernel⟩, List.mem_of_getElem? (i := 10) (by decide +kernel), List.mem_of_getElem? (i := 234) (by decide +kernel), List.mem_of_getElem? (i := 235) (by decide +kernel)⟩
theorem lw_p6 : lw_okq (⟨"RobotWorld", "go", "(LRobotWorld$Robot;I)I"⟩, 4) := ⟨⟨by decide +kernel, by decide +kernel⟩, List.mem_of_getElem? (i := 10) (by decide +kernel), List.mem_of_getElem? (i := 241) (by decide +kernel), List.mem_of_getElem? (i := 242) (by decide +kernel)⟩
theorem lw_p7 : lw_okq (⟨"RobotWorld", "look", "(LRobotWorld$Robot;I)I"⟩, 4) := ⟨⟨by decide +kernel, by decide +kernel⟩, List.mem_of_getElem? (i := 10) (by decide +kernel), List.mem_of_getElem? (i := 249) (by decide +kernel), List.mem_of_getElem? (i := 250) (by decide +kernel)⟩
theorem lw_p8 : lw_okq (⟨"RobotWorld", "take", "(LRobotWorld$Robot;)I"⟩, 4) := ⟨⟨by decide +kernel, by decide +kernel⟩, List.mem_of_getElem? (i := 10) (by decide +kernel), List.mem_of_getElem? (i := 261) (by decide +kernel), List.mem_of_getElem? (i := 262) (by decide +kernel)⟩
theorem lw_p9 : lw_okq (⟨"RobotWorld", "lay", "(LRobotWorld$Robot;)I"⟩, 4) := ⟨⟨by decide +kernel, by decide +kernel⟩, List.mem_of_getElem? (i := 10) (by decide +kernel), List.mem_of_getElem? (i := 269) (by decide +kernel), List.mem_of_getElem? (i := 270) (by decide +kernel)⟩
theorem lw_p10 : lw_okq (⟨"RobotWorld", "send", "(II)I"⟩, 4) := ⟨⟨by decide +kernel, by decide +kernel⟩, List.mem_of_getElem? (i := 10) (by decide +kernel), List.mem_of_getElem? (i := 273) (by decide +kernel), List.mem_of_getElem? (i := 274) (by decide +kernel)⟩
theorem lw_p11 : lw_okq (⟨"RobotWorldModel", "isInside", "(II)Z"⟩, 22) := ⟨⟨by decide +kernel, by decide +kernel⟩, List.mem_of_getElem? (i := 366) (by decide +kernel), List.mem_of_getElem? (i := 452) (by decide +kernel), List.mem_of_getElem? (i := 453) (by decide +kernel)⟩
theorem lw_p12 : lw_okq (⟨"RobotWorldModel", "robotAt", "(II)I"⟩, 22) := ⟨⟨by decide +kernel, by decide +kernel⟩, List.mem_of_getElem? (i := 366) (by decide +kernel), List.mem_of_getElem? (i := 459) (by decide +kernel), List.mem_of_getElem? (i := 460) (by decide +kernel)⟩
theorem lw_p13 : lw_okq (⟨"RobotWorldModel", "isRobot", "(I)Z"⟩, 22) := ⟨⟨by decide +kernel, by decide +kernel⟩, List.mem_of_getElem? (i := 366) (by decide +kernel), List.mem_of_getElem? (i := 478) (by decide +kernel), List.mem_of_getElem? (i := 479) (by decide +kernel)⟩
theorem lw_p14 : lw_okq (⟨"RobotWorldModel", "isFree", "(II)Z"⟩, 22) := ⟨⟨by decide +kernel, by decide +kernel⟩, List.mem_of_getElem? (i := 366) (by decide +kernel), List.mem_of_getElem? (i := 494) (by decide +kernel), List.mem_of_getElem? (i := 495) (by decide +kernel)⟩
theorem lw_p15 : lw_okq (⟨"RobotWorldModel", "measure", "(II)V"⟩, 22) := ⟨⟨by decide +kernel, by decide +kernel⟩, List.mem_of_getElem? (i := 366) (by decide +kernel), List.mem_of_getElem? (i := 498) (by decide +kernel), List.mem_of_getElem? (i := 499) (by decide +kernel)⟩
def lw_privs_1 : List (MethodName × Nat) := [(⟨"RobotWorld", "startOver", "()V"⟩, 4), (⟨"RobotWorld", "robotOn", "(II)LRobotWorld$Robot;"⟩, 4), (⟨"RobotWorld", "robotOf", "(I)LRobotWorld$Robot;"⟩, 4), (⟨"RobotWorld", "isNumber", "(I)Z"⟩, 4), (⟨"RobotWorld", "nextReady", "()LRobotWorld$Robot;"⟩, 4), (⟨"RobotWorld", "doWord", "(LRobotWorld$Robot;)V"⟩, 4), (⟨"RobotWorld", "go", "(LRobotWorld$Robot;I)I"⟩, 4), (⟨"RobotWorld", "look", "(LRobotWorld$Robot;I)I"⟩, 4), (⟨"RobotWorld", "take", "(LRobotWorld$Robot;)I"⟩, 4), (⟨"RobotWorld", "lay", "(LRobotWorld$Robot;)I"⟩, 4), (⟨"RobotWorld", "send", "(II)I"⟩, 4), (⟨"RobotWorldModel", "isInside", "(II)Z"⟩, 22), (⟨"RobotWorldModel", "robotAt", "(II)I"⟩, 22), (⟨"RobotWorldModel", "isRobot", "(I)Z"⟩, 22), (⟨"RobotWorldModel", "isFree", "(II)Z"⟩, 22), (⟨"RobotWorldModel", "measure", "(II)V"⟩, 22)]
theorem lw_r1 : ∀ q ∈ lw_privs_1, lw_okq q := List.forall_mem_cons.mpr ⟨lw_p0, List.forall_mem_cons.mpr ⟨lw_p1, List.forall_mem_cons.mpr ⟨lw_p2, List.forall_mem_cons.mpr ⟨lw_p3, List.forall_mem_cons.mpr ⟨lw_p4, List.forall_mem_cons.mpr ⟨lw_p5, List.forall_mem_cons.mpr ⟨lw_p6, List.forall_mem_cons.mpr ⟨lw_p7, List.forall_mem_cons.mpr ⟨lw_p8, List.forall_mem_cons.mpr ⟨lw_p9, List.forall_mem_cons.mpr ⟨lw_p10, List.forall_mem_cons.mpr ⟨lw_p11, List.forall_mem_cons.mpr ⟨lw_p12, List.forall_mem_cons.mpr ⟨lw_p13, List.forall_mem_cons.mpr ⟨lw_p14, List.forall_mem_cons.mpr ⟨lw_p15, fun _ h => absurd h List.not_mem_nil⟩⟩⟩⟩⟩⟩⟩⟩⟩⟩⟩⟩⟩⟩⟩⟩
theorem lw_p16 : lw_okq (⟨"RobotWorldModel", "reach", "(III)Z"⟩, 22) := ⟨⟨by decide +kernel, by decide +kernel⟩, List.mem_of_getElem? (i := 366) (by decide +kernel), List.mem_of_getElem? (i := 503) (by decide +kernel), List.mem_of_getElem? (i := 504) (by decide +kernel)⟩
theorem lw_p17 : lw_okq (⟨"RobotWorldModel", "run", "(I)V"⟩, 22) := ⟨⟨by decide +kernel, by decide +kernel⟩, List.mem_of_getElem? (i := 366) (by decide +kernel), List.mem_of_getElem? (i := 521) (by decide +kernel), List.mem_of_getElem? (i := 522) (by decide +kernel)⟩
theorem lw_p18 : lw_okq (⟨"RobotWorldModel", "reckon", "(IIIII)V"⟩, 22) := ⟨⟨by decide +kernel, by decide +kernel⟩, List.mem_of_getElem? (i := 366) (by decide +kernel), List.mem_of_getElem? (i := 525) (by decide +kernel), List.mem_of_getElem? (i := 526) (by decide +kernel)⟩
theorem lw_p19 : lw_okq (⟨"RobotWorldModel", "act", "(IIII)V"⟩, 22) := ⟨⟨by decide +kernel, by decide +kernel⟩, List.mem_of_getElem? (i := 366) (by decide +kernel), List.mem_of_getElem? (i := 529) (by decide +kernel), List.mem_of_getElem? (i := 530) (by decide +kernel)⟩
theorem lw_p20 : lw_okq (⟨"RobotWorldModel", "go", "(II)I"⟩, 22) := ⟨⟨by decide +kernel, by decide +kernel⟩, List.mem_of_getElem? (i := 366) (by decide +kernel), List.mem_of_getElem? (i := 533) (by decide +kernel), List.mem_of_getElem? (i := 534) (by decide +kernel)⟩
theorem lw_p21 : lw_okq (⟨"RobotWorldModel", "send", "(II)Z"⟩, 22) := ⟨⟨by decide +kernel, by decide +kernel⟩, List.mem_of_getElem? (i := 366) (by decide +kernel), List.mem_of_getElem? (i := 538) (by decide +kernel), List.mem_of_getElem? (i := 539) (by decide +kernel)⟩
theorem lw_p22 : lw_okq (⟨"RobotWorldModel", "receive", "(II)V"⟩, 22) := ⟨⟨by decide +kernel, by decide +kernel⟩, List.mem_of_getElem? (i := 366) (by decide +kernel), List.mem_of_getElem? (i := 542) (by decide +kernel), List.mem_of_getElem? (i := 543) (by decide +kernel)⟩
theorem lw_p23 : lw_okq (⟨"RobotWorldModel", "tell", "(IIII)V"⟩, 22) := ⟨⟨by decide +kernel, by decide +kernel⟩, List.mem_of_getElem? (i := 366) (by decide +kernel), List.mem_of_getElem? (i := 546) (by decide +kernel), List.mem_of_getElem? (i := 547) (by decide +kernel)⟩
theorem lw_p24 : lw_okq (⟨"RobotWorldModel", "way", "(III)I"⟩, 22) := ⟨⟨by decide +kernel, by decide +kernel⟩, List.mem_of_getElem? (i := 366) (by decide +kernel), List.mem_of_getElem? (i := 550) (by decide +kernel), List.mem_of_getElem? (i := 551) (by decide +kernel)⟩
def lw_privs_2 : List (MethodName × Nat) := [(⟨"RobotWorldModel", "reach", "(III)Z"⟩, 22), (⟨"RobotWorldModel", "run", "(I)V"⟩, 22), (⟨"RobotWorldModel", "reckon", "(IIIII)V"⟩, 22), (⟨"RobotWorldModel", "act", "(IIII)V"⟩, 22), (⟨"RobotWorldModel", "go", "(II)I"⟩, 22), (⟨"RobotWorldModel", "send", "(II)Z"⟩, 22), (⟨"RobotWorldModel", "receive", "(II)V"⟩, 22), (⟨"RobotWorldModel", "tell", "(IIII)V"⟩, 22), (⟨"RobotWorldModel", "way", "(III)I"⟩, 22)]
theorem lw_r2 : ∀ q ∈ lw_privs_2, lw_okq q := List.forall_mem_cons.mpr ⟨lw_p16, List.forall_mem_cons.mpr ⟨lw_p17, List.forall_mem_cons.mpr ⟨lw_p18, List.forall_mem_cons.mpr ⟨lw_p19, List.forall_mem_cons.mpr ⟨lw_p20, List.forall_mem_cons.mpr ⟨lw_p21, List.forall_mem_cons.mpr ⟨lw_p22, List.forall_mem_cons.mpr ⟨lw_p23, List.forall_mem_cons.mpr ⟨lw_p24, fun _ h => absurd h List.not_mem_nil⟩⟩⟩⟩⟩⟩⟩⟩⟩
def lw_privs : List (MethodName × Nat) := lw_privs_1 ++ (lw_privs_2)
def lw_tbl : List Cond := k2_sels lw_privs ++ tables_1
theorem lw_privs_ok : ∀ q ∈ lw_privs, lw_okq q := by
  show ∀ q ∈ lw_privs_1 ++ (lw_privs_2), lw_okq q
  exact List.forall_mem_append.mpr ⟨lw_r1, lw_r2⟩
end
section
theorem goodIn_spl {big ws : List Cond} {a b : Nat} (h1 : GoodIn big ((ws.drop a).take b)) (h2 : GoodIn big (ws.drop (a + b))) : GoodIn big (ws.drop a) := by
  intro w hw
  rw [← List.take_append_drop b (ws.drop a)] at hw
  rcases List.mem_append.mp hw with h | h
  · exact h1 w h
  · rw [List.drop_drop] at h
    exact h2 w h
/-! ===== BEGIN words of one list among another's, by their places ===== -/
theorem goodIn_r {big : List Cond} (ws : List Cond) (ps : List Nat) (hp : ws = ps.filterMap (fun i => big[i]?)) (h : ws.all goodWord = true) : GoodIn big ws := by
  intro w hw
  have h1 := List.all_eq_true.mp h w hw
  rw [hp] at hw
  obtain ⟨i, -, hi⟩ := List.mem_filterMap.mp hw
  have hm : w ∈ big := by first | exact List.mem_of_getElem? hi | exact List.getElem?_mem hi
  exact ⟨hm, good_of_word h1⟩
theorem goodIn_app {big a b : List Cond} (ha : GoodIn big a) (hb : GoodIn big b) : GoodIn big (a ++ b) := fun w h => (List.mem_append.mp h).elim (ha w) (hb w)
theorem goodIn_ca {big a b : List Cond} {c : Cond} (ha : GoodIn big (c :: a)) (hb : GoodIn big b) : GoodIn big (c :: (a ++ b)) := fun w h => (List.mem_cons.mp h).elim (fun e => ha w (List.mem_cons.mpr (Or.inl e))) (fun h => (List.mem_append.mp h).elim (fun h => ha w (List.mem_cons.mpr (Or.inr h))) (hb w))
theorem goodIn_sub {big ws : List Cond} (hm : ∀ w ∈ ws, w ∈ big) (h : ws.all goodWord = true) : GoodIn big ws := fun w hw => ⟨hm w hw, good_of_word (List.all_eq_true.mp h w hw)⟩
/-! ===== END ===== -/

/-! ===== BEGIN printed: names, fields, word lists, decode rows ===== -/
def RX0 : String := "RobotWorld$Box"
def TX0 : u_T := fun k => match k with
  | 0 => ("RobotWorld$Box", "numbers", "[I", true)
  | _ => ("RobotWorld$Box", "count", "I", false)
def tyX0 : Nat → FieldType := fun k => match k with
  | 0 => .array .int
  | _ => .int
abbrev wsX00 : List Cond := u_ws RX0 TX0 2
theorem nmX0 : ∀ a, a < 2 → ∀ b, b < 2 → a ≠ b → (TX0 a).2.1 ≠ (TX0 b).2.1 := by decide +kernel
theorem tyX0_ok : ∀ k, k < 2 → parseFieldDescriptor (TX0 k).2.2.1 = some (tyX0 k) := by decide +kernel
abbrev cX0_init : ByteArray := prog_2_method_1_code
def yX0_init : MethodName := ⟨RX0, "<init>", "(I)V"⟩
abbrev cX0_add : ByteArray := prog_2_method_2_code
def yX0_add : MethodName := ⟨RX0, "add", "(I)Z"⟩
abbrev cX0_removeFirst : ByteArray := prog_2_method_3_code
def yX0_removeFirst : MethodName := ⟨RX0, "removeFirst", "()I"⟩
def RX1 : String := "RobotWorld$Land"
def TX1 : u_T := fun k => match k with
  | 0 => ("RobotWorld$Land", "width", "I", true)
  | 1 => ("RobotWorld$Land", "height", "I", true)
  | 2 => ("RobotWorld$Land", "contents", "[I", true)
  | 3 => ("RobotWorld$Land", "steps", "[I", true)
  | 4 => ("RobotWorld$Land", "queue", "[I", true)
  | _ => ("RobotWorld$Land", "goal", "I", false)
def tyX1 : Nat → FieldType := fun k => match k with
  | 0 => .int
  | 1 => .int
  | 2 => .array .int
  | 3 => .array .int
  | 4 => .array .int
  | _ => .int
abbrev wsX10 : List Cond := u_ws RX1 TX1 6
theorem nmX1 : ∀ a, a < 6 → ∀ b, b < 6 → a ≠ b → (TX1 a).2.1 ≠ (TX1 b).2.1 := by decide +kernel
theorem tyX1_ok : ∀ k, k < 6 → parseFieldDescriptor (TX1 k).2.2.1 = some (tyX1 k) := by decide +kernel
abbrev cX1_init : ByteArray := prog_3_method_1_code
def yX1_init : MethodName := ⟨RX1, "<init>", "(II)V"⟩
abbrev cX1_clear : ByteArray := prog_3_method_2_code
def yX1_clear : MethodName := ⟨RX1, "clear", "()V"⟩
abbrev cX1_isInside : ByteArray := prog_3_method_3_code
def yX1_isInside : MethodName := ⟨RX1, "isInside", "(II)Z"⟩
abbrev cX1_isOpen : ByteArray := prog_3_method_4_code
def yX1_isOpen : MethodName := ⟨RX1, "isOpen", "(II)Z"⟩
abbrev cX1_contentOf : ByteArray := prog_3_method_5_code
def yX1_contentOf : MethodName := ⟨RX1, "contentOf", "(II)I"⟩
abbrev cX1_changeWall : ByteArray := prog_3_method_6_code
def yX1_changeWall : MethodName := ⟨RX1, "changeWall", "(IIZ)V"⟩
abbrev cX1_addItem : ByteArray := prog_3_method_7_code
def yX1_addItem : MethodName := ⟨RX1, "addItem", "(II)Z"⟩
abbrev cX1_removeItem : ByteArray := prog_3_method_8_code
def yX1_removeItem : MethodName := ⟨RX1, "removeItem", "(II)Z"⟩
abbrev cX1_wayLength : ByteArray := prog_3_method_9_code
def yX1_wayLength : MethodName := ⟨RX1, "wayLength", "(IIII)I"⟩
abbrev cX1_firstStep : ByteArray := prog_3_method_10_code
def yX1_firstStep : MethodName := ⟨RX1, "firstStep", "(IIII)I"⟩
abbrev cX1_stepsOf : ByteArray := prog_3_method_11_code
def yX1_stepsOf : MethodName := ⟨RX1, "stepsOf", "(II)I"⟩
abbrev cX1_measureFrom : ByteArray := prog_3_method_12_code
def yX1_measureFrom : MethodName := ⟨RX1, "measureFrom", "(II)V"⟩
def RX2 : String := "RobotWorld$Robot"
def TX2 : u_T := fun k => match k with
  | 0 => ("RobotWorld$Robot", "number", "I", true)
  | 1 => ("RobotWorld$Robot", "program", "[I", true)
  | 2 => ("RobotWorld$Robot", "registers", "[I", true)
  | 3 => ("RobotWorld$Robot", "box", "LRobotWorld$Box;", true)
  | 4 => ("RobotWorld$Robot", "state", "I", false)
  | 5 => ("RobotWorld$Robot", "x", "I", false)
  | 6 => ("RobotWorld$Robot", "y", "I", false)
  | 7 => ("RobotWorld$Robot", "place", "I", false)
  | 8 => ("RobotWorld$Robot", "words", "I", false)
  | 9 => ("RobotWorld$Robot", "wordsDone", "I", false)
  | 10 => ("RobotWorld$Robot", "carried", "I", false)
  | _ => ("RobotWorld$Robot", "sleepLeft", "I", false)
def tyX2 : Nat → FieldType := fun k => match k with
  | 0 => .int
  | 1 => .array .int
  | 2 => .array .int
  | 3 => .object "RobotWorld$Box"
  | 4 => .int
  | 5 => .int
  | 6 => .int
  | 7 => .int
  | 8 => .int
  | 9 => .int
  | 10 => .int
  | _ => .int
abbrev wsX20 : List Cond := u_ws RX2 TX2 12
theorem nmX2 : ∀ a, a < 12 → ∀ b, b < 12 → a ≠ b → (TX2 a).2.1 ≠ (TX2 b).2.1 := by decide +kernel
theorem tyX2_ok : ∀ k, k < 12 → parseFieldDescriptor (TX2 k).2.2.1 = some (tyX2 k) := by decide +kernel
abbrev cX2_init : ByteArray := prog_4_method_1_code
def yX2_init : MethodName := ⟨RX2, "<init>", "(III)V"⟩
abbrev cX2_appear : ByteArray := prog_4_method_2_code
def yX2_appear : MethodName := ⟨RX2, "appear", "(II)V"⟩
abbrev cX2_addWord : ByteArray := prog_4_method_3_code
def yX2_addWord : MethodName := ⟨RX2, "addWord", "(I)Z"⟩
abbrev cX2_mustFail : ByteArray := prog_4_method_4_code
def yX2_mustFail : MethodName := ⟨RX2, "mustFail", "()Z"⟩
abbrev cX2_takesMail : ByteArray := prog_4_method_5_code
def yX2_takesMail : MethodName := ⟨RX2, "takesMail", "()Z"⟩
abbrev cX2_fallAsleep : ByteArray := prog_4_method_6_code
def yX2_fallAsleep : MethodName := ⟨RX2, "fallAsleep", "(I)V"⟩
abbrev cX2_sleepOn : ByteArray := prog_4_method_7_code
def yX2_sleepOn : MethodName := ⟨RX2, "sleepOn", "()V"⟩
abbrev cX2_show : ByteArray := prog_4_method_8_code
def yX2_show : MethodName := ⟨RX2, "show", "(I)I"⟩
def RX3 : String := "RobotWorld"
def TX3 : u_T := fun k => match k with
  | 0 => ("RobotWorld", "land", "LRobotWorld$Land;", true)
  | 1 => ("RobotWorld", "robots", "[LRobotWorld$Robot;", true)
  | 2 => ("RobotWorld", "clock", "I", false)
  | _ => ("RobotWorld", "lastRan", "I", false)
def tyX3 : Nat → FieldType := fun k => match k with
  | 0 => .object "RobotWorld$Land"
  | 1 => .array (.object "RobotWorld$Robot")
  | 2 => .int
  | _ => .int
abbrev wsX30 : List Cond := u_ws RX3 TX3 4
theorem nmX3 : ∀ a, a < 4 → ∀ b, b < 4 → a ≠ b → (TX3 a).2.1 ≠ (TX3 b).2.1 := by decide +kernel
theorem tyX3_ok : ∀ k, k < 4 → parseFieldDescriptor (TX3 k).2.2.1 = some (tyX3 k) := by decide +kernel
abbrev cX3_init : ByteArray := prog_1_method_1_code
def yX3_init : MethodName := ⟨RX3, "<init>", "(IIIII)V"⟩
abbrev cX3_init_ : ByteArray := prog_1_method_2_code
def yX3_init_ : MethodName := ⟨RX3, "init", "()V"⟩
abbrev cX3_setWall : ByteArray := prog_1_method_3_code
def yX3_setWall : MethodName := ⟨RX3, "setWall", "(IIZ)Z"⟩
abbrev cX3_putItem : ByteArray := prog_1_method_4_code
def yX3_putItem : MethodName := ⟨RX3, "putItem", "(II)Z"⟩
abbrev cX3_spawn : ByteArray := prog_1_method_5_code
def yX3_spawn : MethodName := ⟨RX3, "spawn", "(II)I"⟩
abbrev cX3_load : ByteArray := prog_1_method_6_code
def yX3_load : MethodName := ⟨RX3, "load", "(II)Z"⟩
abbrev cX3_startRobot : ByteArray := prog_1_method_7_code
def yX3_startRobot : MethodName := ⟨RX3, "startRobot", "(I)I"⟩
abbrev cX3_tick : ByteArray := prog_1_method_8_code
def yX3_tick : MethodName := ⟨RX3, "tick", "()I"⟩
abbrev cX3_runTicks : ByteArray := prog_1_method_9_code
def yX3_runTicks : MethodName := ⟨RX3, "runTicks", "(I)I"⟩
abbrev cX3_kill : ByteArray := prog_1_method_10_code
def yX3_kill : MethodName := ⟨RX3, "kill", "(I)I"⟩
abbrev cX3_robotX : ByteArray := prog_1_method_11_code
def yX3_robotX : MethodName := ⟨RX3, "robotX", "(I)I"⟩
abbrev cX3_robotY : ByteArray := prog_1_method_12_code
def yX3_robotY : MethodName := ⟨RX3, "robotY", "(I)I"⟩
abbrev cX3_robotState : ByteArray := prog_1_method_13_code
def yX3_robotState : MethodName := ⟨RX3, "robotState", "(I)I"⟩
abbrev cX3_reg : ByteArray := prog_1_method_14_code
def yX3_reg : MethodName := ⟨RX3, "reg", "(II)I"⟩
abbrev cX3_at : ByteArray := prog_1_method_15_code
def yX3_at : MethodName := ⟨RX3, "at", "(II)I"⟩
abbrev cX3_pathLength : ByteArray := prog_1_method_16_code
def yX3_pathLength : MethodName := ⟨RX3, "pathLength", "(IIII)I"⟩
abbrev cX3_now : ByteArray := prog_1_method_17_code
def yX3_now : MethodName := ⟨RX3, "now", "()I"⟩
abbrev cX3_setClock : ByteArray := prog_1_method_18_code
def yX3_setClock : MethodName := ⟨RX3, "setClock", "(I)V"⟩
abbrev cX3_bounded : ByteArray := prog_1_method_19_code
def yX3_bounded : MethodName := ⟨RX3, "bounded", "(II)I"⟩
abbrev cX3_startOver : ByteArray := prog_1_method_20_code
def yX3_startOver : MethodName := ⟨RX3, "startOver", "()V"⟩
abbrev cX3_isNumber : ByteArray := prog_1_method_21_code
def yX3_isNumber : MethodName := ⟨RX3, "isNumber", "(I)Z"⟩
abbrev cX3_robotOf : ByteArray := prog_1_method_22_code
def yX3_robotOf : MethodName := ⟨RX3, "robotOf", "(I)LRobotWorld$Robot;"⟩
abbrev cX3_robotOn : ByteArray := prog_1_method_23_code
def yX3_robotOn : MethodName := ⟨RX3, "robotOn", "(II)LRobotWorld$Robot;"⟩
abbrev cX3_nextReady : ByteArray := prog_1_method_24_code
def yX3_nextReady : MethodName := ⟨RX3, "nextReady", "()LRobotWorld$Robot;"⟩
abbrev cX3_doWord : ByteArray := prog_1_method_25_code
def yX3_doWord : MethodName := ⟨RX3, "doWord", "(LRobotWorld$Robot;)V"⟩
abbrev cX3_opOf : ByteArray := prog_1_method_26_code
def yX3_opOf : MethodName := ⟨RX3, "opOf", "(I)I"⟩
abbrev cX3_rOf : ByteArray := prog_1_method_27_code
def yX3_rOf : MethodName := ⟨RX3, "rOf", "(I)I"⟩
abbrev cX3_sOf : ByteArray := prog_1_method_28_code
def yX3_sOf : MethodName := ⟨RX3, "sOf", "(I)I"⟩
abbrev cX3_calculated : ByteArray := prog_1_method_29_code
def yX3_calculated : MethodName := ⟨RX3, "calculated", "(IIII)I"⟩
abbrev cX3_go : ByteArray := prog_1_method_30_code
def yX3_go : MethodName := ⟨RX3, "go", "(LRobotWorld$Robot;I)I"⟩
abbrev cX3_look : ByteArray := prog_1_method_31_code
def yX3_look : MethodName := ⟨RX3, "look", "(LRobotWorld$Robot;I)I"⟩
abbrev cX3_take : ByteArray := prog_1_method_32_code
def yX3_take : MethodName := ⟨RX3, "take", "(LRobotWorld$Robot;)I"⟩
abbrev cX3_lay : ByteArray := prog_1_method_33_code
def yX3_lay : MethodName := ⟨RX3, "lay", "(LRobotWorld$Robot;)I"⟩
abbrev cX3_send : ByteArray := prog_1_method_34_code
def yX3_send : MethodName := ⟨RX3, "send", "(II)I"⟩
abbrev cX3_receive : ByteArray := prog_1_method_35_code
def yX3_receive : MethodName := ⟨RX3, "receive", "(LRobotWorld$Robot;I)Z"⟩
def RX4 : String := "RobotWorldModel"
def TX4 : u_T := fun k => match k with
  | 0 => ("RobotWorldModel", "width", "I", true)
  | 1 => ("RobotWorldModel", "height", "I", true)
  | 2 => ("RobotWorldModel", "most", "I", true)
  | 3 => ("RobotWorldModel", "longest", "I", true)
  | 4 => ("RobotWorldModel", "mails", "I", true)
  | 5 => ("RobotWorldModel", "isWall", "[Z", true)
  | 6 => ("RobotWorldModel", "items", "[I", true)
  | 7 => ("RobotWorldModel", "state", "[I", true)
  | 8 => ("RobotWorldModel", "xs", "[I", true)
  | 9 => ("RobotWorldModel", "ys", "[I", true)
  | 10 => ("RobotWorldModel", "program", "[I", true)
  | 11 => ("RobotWorldModel", "length", "[I", true)
  | 12 => ("RobotWorldModel", "registers", "[I", true)
  | 13 => ("RobotWorldModel", "place", "[I", true)
  | 14 => ("RobotWorldModel", "load", "[I", true)
  | 15 => ("RobotWorldModel", "box", "[I", true)
  | 16 => ("RobotWorldModel", "boxed", "[I", true)
  | 17 => ("RobotWorldModel", "sleeps", "[I", true)
  | 18 => ("RobotWorldModel", "did", "[I", true)
  | 19 => ("RobotWorldModel", "last", "I", false)
  | 20 => ("RobotWorldModel", "clock", "I", false)
  | _ => ("RobotWorldModel", "far", "[I", true)
def tyX4 : Nat → FieldType := fun k => match k with
  | 0 => .int
  | 1 => .int
  | 2 => .int
  | 3 => .int
  | 4 => .int
  | 5 => .array .boolean
  | 6 => .array .int
  | 7 => .array .int
  | 8 => .array .int
  | 9 => .array .int
  | 10 => .array .int
  | 11 => .array .int
  | 12 => .array .int
  | 13 => .array .int
  | 14 => .array .int
  | 15 => .array .int
  | 16 => .array .int
  | 17 => .array .int
  | 18 => .array .int
  | 19 => .int
  | 20 => .int
  | _ => .array .int
abbrev wsX40 : List Cond := u_ws RX4 TX4 22
theorem nmX4 : ∀ a, a < 22 → ∀ b, b < 22 → a ≠ b → (TX4 a).2.1 ≠ (TX4 b).2.1 := by decide +kernel
theorem tyX4_ok : ∀ k, k < 22 → parseFieldDescriptor (TX4 k).2.2.1 = some (tyX4 k) := by decide +kernel
abbrev cX4_init : ByteArray := prog_6_method_1_code
def yX4_init : MethodName := ⟨RX4, "<init>", "(IIIII)V"⟩
abbrev cX4_near : ByteArray := prog_6_method_2_code
def yX4_near : MethodName := ⟨RX4, "near", "(III)I"⟩
abbrev cX4_in : ByteArray := prog_6_method_3_code
def yX4_in : MethodName := ⟨RX4, "in", "(III)Z"⟩
abbrev cX4_init_ : ByteArray := prog_6_method_4_code
def yX4_init_ : MethodName := ⟨RX4, "init", "()V"⟩
abbrev cX4_isInside : ByteArray := prog_6_method_5_code
def yX4_isInside : MethodName := ⟨RX4, "isInside", "(II)Z"⟩
abbrev cX4_square : ByteArray := prog_6_method_6_code
def yX4_square : MethodName := ⟨RX4, "square", "(II)I"⟩
abbrev cX4_robotAt : ByteArray := prog_6_method_7_code
def yX4_robotAt : MethodName := ⟨RX4, "robotAt", "(II)I"⟩
abbrev cX4_setWall : ByteArray := prog_6_method_8_code
def yX4_setWall : MethodName := ⟨RX4, "setWall", "(IIZ)Z"⟩
abbrev cX4_putItem : ByteArray := prog_6_method_9_code
def yX4_putItem : MethodName := ⟨RX4, "putItem", "(II)Z"⟩
abbrev cX4_spawn : ByteArray := prog_6_method_10_code
def yX4_spawn : MethodName := ⟨RX4, "spawn", "(II)I"⟩
abbrev cX4_isRobot : ByteArray := prog_6_method_11_code
def yX4_isRobot : MethodName := ⟨RX4, "isRobot", "(I)Z"⟩
abbrev cX4_load : ByteArray := prog_6_method_12_code
def yX4_load : MethodName := ⟨RX4, "load", "(II)Z"⟩
abbrev cX4_startRobot : ByteArray := prog_6_method_13_code
def yX4_startRobot : MethodName := ⟨RX4, "startRobot", "(I)I"⟩
abbrev cX4_kill : ByteArray := prog_6_method_14_code
def yX4_kill : MethodName := ⟨RX4, "kill", "(I)I"⟩
abbrev cX4_besideX : ByteArray := prog_6_method_15_code
def yX4_besideX : MethodName := ⟨RX4, "besideX", "(II)I"⟩
abbrev cX4_besideY : ByteArray := prog_6_method_16_code
def yX4_besideY : MethodName := ⟨RX4, "besideY", "(II)I"⟩
abbrev cX4_isFree : ByteArray := prog_6_method_17_code
def yX4_isFree : MethodName := ⟨RX4, "isFree", "(II)Z"⟩
abbrev cX4_measure : ByteArray := prog_6_method_18_code
def yX4_measure : MethodName := ⟨RX4, "measure", "(II)V"⟩
abbrev cX4_reach : ByteArray := prog_6_method_19_code
def yX4_reach : MethodName := ⟨RX4, "reach", "(III)Z"⟩
abbrev cX4_pathLength : ByteArray := prog_6_method_20_code
def yX4_pathLength : MethodName := ⟨RX4, "pathLength", "(IIII)I"⟩
abbrev cX4_way : ByteArray := prog_6_method_21_code
def yX4_way : MethodName := ⟨RX4, "way", "(III)I"⟩
abbrev cX4_at : ByteArray := prog_6_method_22_code
def yX4_at : MethodName := ⟨RX4, "at", "(II)I"⟩
abbrev cX4_tick : ByteArray := prog_6_method_23_code
def yX4_tick : MethodName := ⟨RX4, "tick", "()I"⟩
abbrev cX4_runTicks : ByteArray := prog_6_method_24_code
def yX4_runTicks : MethodName := ⟨RX4, "runTicks", "(I)I"⟩
abbrev cX4_run : ByteArray := prog_6_method_25_code
def yX4_run : MethodName := ⟨RX4, "run", "(I)V"⟩
abbrev cX4_reckon : ByteArray := prog_6_method_26_code
def yX4_reckon : MethodName := ⟨RX4, "reckon", "(IIIII)V"⟩
abbrev cX4_act : ByteArray := prog_6_method_27_code
def yX4_act : MethodName := ⟨RX4, "act", "(IIII)V"⟩
abbrev cX4_tell : ByteArray := prog_6_method_28_code
def yX4_tell : MethodName := ⟨RX4, "tell", "(IIII)V"⟩
abbrev cX4_go : ByteArray := prog_6_method_29_code
def yX4_go : MethodName := ⟨RX4, "go", "(II)I"⟩
abbrev cX4_send : ByteArray := prog_6_method_30_code
def yX4_send : MethodName := ⟨RX4, "send", "(II)Z"⟩
abbrev cX4_receive : ByteArray := prog_6_method_31_code
def yX4_receive : MethodName := ⟨RX4, "receive", "(II)V"⟩
abbrev cX4_robotX : ByteArray := prog_6_method_32_code
def yX4_robotX : MethodName := ⟨RX4, "robotX", "(I)I"⟩
abbrev cX4_robotY : ByteArray := prog_6_method_33_code
def yX4_robotY : MethodName := ⟨RX4, "robotY", "(I)I"⟩
abbrev cX4_robotState : ByteArray := prog_6_method_34_code
def yX4_robotState : MethodName := ⟨RX4, "robotState", "(I)I"⟩
abbrev cX4_reg : ByteArray := prog_6_method_35_code
def yX4_reg : MethodName := ⟨RX4, "reg", "(II)I"⟩
abbrev cX4_now : ByteArray := prog_6_method_36_code
def yX4_now : MethodName := ⟨RX4, "now", "()I"⟩
abbrev cX4_setClock : ByteArray := prog_6_method_37_code
def yX4_setClock : MethodName := ⟨RX4, "setClock", "(I)V"⟩
def RJ9 : String := "java/lang/Math"
def TJ9 : u_T := fun k => match k with
  | _ => ("", "", "", false)
def tyJ9 : Nat → FieldType := fun k => match k with
  | _ => .int
abbrev wsJ90 : List Cond := u_ws RJ9 TJ9 0
theorem nmJ9 : ∀ a, a < 0 → ∀ b, b < 0 → a ≠ b → (TJ9 a).2.1 ≠ (TJ9 b).2.1 := by decide +kernel
theorem tyJ9_ok : ∀ k, k < 0 → parseFieldDescriptor (TJ9 k).2.2.1 = some (tyJ9 k) := by decide +kernel
abbrev cJ9_max_7cf53 : ByteArray := prog_7_method_65_code
def yJ9_max_7cf53 : MethodName := ⟨RJ9, "max", "(II)I"⟩
abbrev cJ9_min_7cf53 : ByteArray := prog_7_method_69_code
def yJ9_min_7cf53 : MethodName := ⟨RJ9, "min", "(II)I"⟩
def RJ10 : String := "java/lang/System"
def TJ10 : u_T := fun k => match k with
  | _ => ("", "", "", false)
def tyJ10 : Nat → FieldType := fun k => match k with
  | _ => .int
abbrev wsJ100 : List Cond := u_ws RJ10 TJ10 0
theorem nmJ10 : ∀ a, a < 0 → ∀ b, b < 0 → a ≠ b → (TJ10 a).2.1 ≠ (TJ10 b).2.1 := by decide +kernel
theorem tyJ10_ok : ∀ k, k < 0 → parseFieldDescriptor (TJ10 k).2.2.1 = some (tyJ10 k) := by decide +kernel
def RJ7 : String := "java/util/Arrays"
def TJ7 : u_T := fun k => match k with
  | _ => ("", "", "", false)
def tyJ7 : Nat → FieldType := fun k => match k with
  | _ => .int
abbrev wsJ70 : List Cond := u_ws RJ7 TJ7 0
theorem nmJ7 : ∀ a, a < 0 → ∀ b, b < 0 → a ≠ b → (TJ7 a).2.1 ≠ (TJ7 b).2.1 := by decide +kernel
theorem tyJ7_ok : ∀ k, k < 0 → parseFieldDescriptor (TJ7 k).2.2.1 = some (tyJ7 k) := by decide +kernel
abbrev cJ7_fill_53178 : ByteArray := prog_9_method_103_code
def yJ7_fill_53178 : MethodName := ⟨RJ7, "fill", "([II)V"⟩
def RL : String := "RobotWorldLaw"
abbrev cL_cell : ByteArray := method_2_code
def yL_cell : MethodName := ⟨RL, "cell", "([II)I"⟩
abbrev cL_law : ByteArray := code
def yL_law : MethodName := ⟨RL, "law", "([I)Z"⟩
def wsX0_init : List Cond := .code yX0_init cX0_init 2 none :: ([.methodLink RX0 1 objectInit, .instanceMethod objectInit, .code objectInit ⟨#[0xb1]⟩ 1 none, .arrayClass .int, .fieldLink RX0 7 "RobotWorld$Box" "numbers" "[I"] ++ wsX00)
def wsX0_add : List Cond := .code yX0_add cX0_add 2 (some .boolean) :: ([.fieldLink RX0 13 "RobotWorld$Box" "count" "I", .fieldLink RX0 7 "RobotWorld$Box" "numbers" "[I"] ++ wsX00)
def wsX0_removeFirst : List Cond := .code yX0_removeFirst cX0_removeFirst 2 (some .int) :: ([.fieldLink RX0 13 "RobotWorld$Box" "count" "I", .fieldLink RX0 7 "RobotWorld$Box" "numbers" "[I", .methodLink RX0 17 arraycopyName, .native arraycopyName, .static arraycopyName, .initialized "java/lang/System"] ++ wsX00)
def wsX1_init : List Cond := .code yX1_init cX1_init 3 none :: ([.methodLink RX1 3 objectInit, .instanceMethod objectInit, .code objectInit ⟨#[0xb1]⟩ 1 none, .fieldLink RX1 9 "RobotWorld$Land" "width" "I", .fieldLink RX1 15 "RobotWorld$Land" "height" "I", .arrayClass .int, .fieldLink RX1 18 "RobotWorld$Land" "contents" "[I", .fieldLink RX1 22 "RobotWorld$Land" "steps" "[I", .fieldLink RX1 25 "RobotWorld$Land" "queue" "[I", .fieldLink RX1 28 "RobotWorld$Land" "goal" "I"] ++ wsX10)
def wsJ7_fill_53178 : List Cond := .code yJ7_fill_53178 cJ7_fill_53178 4 none :: ([])
def wsX1_clear : List Cond := .code yX1_clear cX1_clear 1 none :: ([.fieldLink RX1 18 "RobotWorld$Land" "contents" "[I", .fieldLink RX1 28 "RobotWorld$Land" "goal" "I", .methodLink RX1 31 yJ7_fill_53178, .static yJ7_fill_53178, .initialized RJ7, .code yJ7_fill_53178 cJ7_fill_53178 4 none] ++ wsX10)
def wsX1_isInside : List Cond := .code yX1_isInside cX1_isInside 3 (some .boolean) :: ([.fieldLink RX1 9 "RobotWorld$Land" "width" "I", .fieldLink RX1 15 "RobotWorld$Land" "height" "I"] ++ wsX10)
def wsX1_isOpen : List Cond := .code yX1_isOpen cX1_isOpen 3 (some .boolean) :: ([.fieldLink RX1 9 "RobotWorld$Land" "width" "I", .fieldLink RX1 15 "RobotWorld$Land" "height" "I", .fieldLink RX1 18 "RobotWorld$Land" "contents" "[I"] ++ wsX10)
def wsX1_contentOf : List Cond := .code yX1_contentOf cX1_contentOf 3 (some .int) :: ([.fieldLink RX1 18 "RobotWorld$Land" "contents" "[I", .fieldLink RX1 9 "RobotWorld$Land" "width" "I", .methodLink RX1 37 yX1_isInside, .instanceMethod yX1_isInside, .selects RX1 yX1_isInside yX1_isInside, .initialized RX1, .code yX1_isInside cX1_isInside 3 (some .boolean), .fieldLink RX1 15 "RobotWorld$Land" "height" "I"] ++ wsX10)
def wsX1_changeWall : List Cond := .code yX1_changeWall cX1_changeWall 5 none :: ([.fieldLink RX1 9 "RobotWorld$Land" "width" "I", .fieldLink RX1 18 "RobotWorld$Land" "contents" "[I", .fieldLink RX1 28 "RobotWorld$Land" "goal" "I", .methodLink RX1 37 yX1_isInside, .instanceMethod yX1_isInside, .selects RX1 yX1_isInside yX1_isInside, .initialized RX1, .code yX1_isInside cX1_isInside 3 (some .boolean), .fieldLink RX1 15 "RobotWorld$Land" "height" "I"] ++ wsX10)
def wsX1_addItem : List Cond := .code yX1_addItem cX1_addItem 4 (some .boolean) :: ([.fieldLink RX1 9 "RobotWorld$Land" "width" "I", .fieldLink RX1 18 "RobotWorld$Land" "contents" "[I", .methodLink RX1 41 yX1_isOpen, .instanceMethod yX1_isOpen, .selects RX1 yX1_isOpen yX1_isOpen, .initialized RX1, .code yX1_isOpen cX1_isOpen 3 (some .boolean), .fieldLink RX1 15 "RobotWorld$Land" "height" "I"] ++ wsX10)
def wsX1_removeItem : List Cond := .code yX1_removeItem cX1_removeItem 4 (some .boolean) :: ([.fieldLink RX1 9 "RobotWorld$Land" "width" "I", .fieldLink RX1 18 "RobotWorld$Land" "contents" "[I", .methodLink RX1 41 yX1_isOpen, .instanceMethod yX1_isOpen, .selects RX1 yX1_isOpen yX1_isOpen, .initialized RX1, .code yX1_isOpen cX1_isOpen 3 (some .boolean), .fieldLink RX1 15 "RobotWorld$Land" "height" "I"] ++ wsX10)
def wsX1_measureFrom : List Cond := .code yX1_measureFrom cX1_measureFrom 12 none :: ([.fieldLink RX1 28 "RobotWorld$Land" "goal" "I", .fieldLink RX1 22 "RobotWorld$Land" "steps" "[I", .fieldLink RX1 9 "RobotWorld$Land" "width" "I", .fieldLink RX1 25 "RobotWorld$Land" "queue" "[I", .methodLink RX1 31 yJ7_fill_53178, .static yJ7_fill_53178, .initialized RJ7, .code yJ7_fill_53178 cJ7_fill_53178 4 none, .methodLink RX1 41 yX1_isOpen, .instanceMethod yX1_isOpen, .selects RX1 yX1_isOpen yX1_isOpen, .initialized RX1, .code yX1_isOpen cX1_isOpen 3 (some .boolean), .fieldLink RX1 15 "RobotWorld$Land" "height" "I", .fieldLink RX1 18 "RobotWorld$Land" "contents" "[I"] ++ wsX10)
def wsX1_stepsOf : List Cond := .code yX1_stepsOf cX1_stepsOf 3 (some .int) :: ([.fieldLink RX1 22 "RobotWorld$Land" "steps" "[I", .fieldLink RX1 9 "RobotWorld$Land" "width" "I", .methodLink RX1 37 yX1_isInside, .instanceMethod yX1_isInside, .selects RX1 yX1_isInside yX1_isInside, .initialized RX1, .code yX1_isInside cX1_isInside 3 (some .boolean), .fieldLink RX1 15 "RobotWorld$Land" "height" "I"] ++ wsX10)
def wsX1_wayLength_r1 : List Cond := [Cond.methodLink RX1 41 yX1_isOpen, Cond.instanceMethod yX1_isOpen, Cond.selects RX1 yX1_isOpen yX1_isOpen, Cond.initialized RX1, Cond.code yX1_isOpen cX1_isOpen 3 (some .boolean), Cond.fieldLink RX1 9 "RobotWorld$Land" "width" "I", Cond.fieldLink RX1 15 "RobotWorld$Land" "height" "I", Cond.fieldLink RX1 18 "RobotWorld$Land" "contents" "[I", Cond.methodLink RX1 44 yX1_measureFrom, Cond.instanceMethod yX1_measureFrom, Cond.selects RX1 yX1_measureFrom yX1_measureFrom, Cond.code yX1_measureFrom cX1_measureFrom 12 none, Cond.fieldLink RX1 28 "RobotWorld$Land" "goal" "I", Cond.fieldLink RX1 22 "RobotWorld$Land" "steps" "[I", Cond.fieldLink RX1 25 "RobotWorld$Land" "queue" "[I", Cond.methodLink RX1 31 yJ7_fill_53178, Cond.static yJ7_fill_53178, Cond.initialized RJ7, Cond.code yJ7_fill_53178 cJ7_fill_53178 4 none, Cond.methodLink RX1 48 yX1_stepsOf, Cond.instanceMethod yX1_stepsOf, Cond.selects RX1 yX1_stepsOf yX1_stepsOf, Cond.code yX1_stepsOf cX1_stepsOf 3 (some .int), Cond.methodLink RX1 37 yX1_isInside]
def wsX1_wayLength_r2 : List Cond := [Cond.instanceMethod yX1_isInside, Cond.selects RX1 yX1_isInside yX1_isInside, Cond.code yX1_isInside cX1_isInside 3 (some .boolean)]
def wsX1_wayLength : List Cond := .code yX1_wayLength cX1_wayLength 5 (some .int) :: ((wsX1_wayLength_r1 ++ wsX1_wayLength_r2) ++ wsX10)
def wsX1_firstStep_r1 : List Cond := [Cond.methodLink RX1 52 yX1_wayLength, Cond.instanceMethod yX1_wayLength, Cond.selects RX1 yX1_wayLength yX1_wayLength, Cond.initialized RX1, Cond.code yX1_wayLength cX1_wayLength 5 (some .int), Cond.methodLink RX1 41 yX1_isOpen, Cond.instanceMethod yX1_isOpen, Cond.selects RX1 yX1_isOpen yX1_isOpen, Cond.code yX1_isOpen cX1_isOpen 3 (some .boolean), Cond.fieldLink RX1 9 "RobotWorld$Land" "width" "I", Cond.fieldLink RX1 15 "RobotWorld$Land" "height" "I", Cond.fieldLink RX1 18 "RobotWorld$Land" "contents" "[I", Cond.methodLink RX1 44 yX1_measureFrom, Cond.instanceMethod yX1_measureFrom, Cond.selects RX1 yX1_measureFrom yX1_measureFrom, Cond.code yX1_measureFrom cX1_measureFrom 12 none, Cond.fieldLink RX1 28 "RobotWorld$Land" "goal" "I", Cond.fieldLink RX1 22 "RobotWorld$Land" "steps" "[I", Cond.fieldLink RX1 25 "RobotWorld$Land" "queue" "[I", Cond.methodLink RX1 31 yJ7_fill_53178, Cond.static yJ7_fill_53178, Cond.initialized RJ7, Cond.code yJ7_fill_53178 cJ7_fill_53178 4 none, Cond.methodLink RX1 48 yX1_stepsOf]
def wsX1_firstStep_r2 : List Cond := [Cond.instanceMethod yX1_stepsOf, Cond.selects RX1 yX1_stepsOf yX1_stepsOf, Cond.code yX1_stepsOf cX1_stepsOf 3 (some .int), Cond.methodLink RX1 37 yX1_isInside, Cond.instanceMethod yX1_isInside, Cond.selects RX1 yX1_isInside yX1_isInside, Cond.code yX1_isInside cX1_isInside 3 (some .boolean)]
def wsX1_firstStep : List Cond := .code yX1_firstStep cX1_firstStep 7 (some .int) :: ((wsX1_firstStep_r1 ++ wsX1_firstStep_r2) ++ wsX10)
def wsX2_init : List Cond := .code yX2_init cX2_init 4 none :: ([.methodLink RX2 3 objectInit, .instanceMethod objectInit, .code objectInit ⟨#[0xb1]⟩ 1 none, .fieldLink RX2 9 "RobotWorld$Robot" "number" "I", .arrayClass .int, .fieldLink RX2 15 "RobotWorld$Robot" "program" "[I", .fieldLink RX2 19 "RobotWorld$Robot" "registers" "[I", .classLink RX2 22 RX0, .instantiable RX0 2, .initialized RX0, .fieldLink RX2 27 "RobotWorld$Robot" "box" "LRobotWorld$Box;", .methodLink RX2 24 yX0_init, .instanceMethod yX0_init, .code yX0_init cX0_init 2 none, .methodLink RX0 1 objectInit, .fieldLink RX0 7 "RobotWorld$Box" "numbers" "[I"] ++ wsX20 ++ wsX00)
def wsX2_appear : List Cond := .code yX2_appear cX2_appear 3 none :: ([.fieldLink RX2 31 "RobotWorld$Robot" "x" "I", .fieldLink RX2 34 "RobotWorld$Robot" "y" "I", .fieldLink RX2 37 "RobotWorld$Robot" "state" "I", .fieldLink RX2 40 "RobotWorld$Robot" "place" "I", .fieldLink RX2 43 "RobotWorld$Robot" "words" "I", .fieldLink RX2 46 "RobotWorld$Robot" "wordsDone" "I", .fieldLink RX2 49 "RobotWorld$Robot" "carried" "I", .fieldLink RX2 52 "RobotWorld$Robot" "sleepLeft" "I", .fieldLink RX2 19 "RobotWorld$Robot" "registers" "[I", .fieldLink RX2 27 "RobotWorld$Robot" "box" "LRobotWorld$Box;", .fieldLink RX2 61 "RobotWorld$Box" "count" "I", .methodLink RX2 55 yJ7_fill_53178, .static yJ7_fill_53178, .initialized RJ7, .code yJ7_fill_53178 cJ7_fill_53178 4 none] ++ wsX20 ++ wsX00)
def wsX2_addWord : List Cond := .code yX2_addWord cX2_addWord 2 (some .boolean) :: ([.fieldLink RX2 43 "RobotWorld$Robot" "words" "I", .fieldLink RX2 15 "RobotWorld$Robot" "program" "[I"] ++ wsX20)
def wsX3_opOf : List Cond := .code yX3_opOf cX3_opOf 1 (some .int) :: ([])
def wsX3_sOf : List Cond := .code yX3_sOf cX3_sOf 1 (some .int) :: ([])
def wsX3_rOf : List Cond := .code yX3_rOf cX3_rOf 1 (some .int) :: ([])
def wsX2_mustFail : List Cond := .code yX2_mustFail cX2_mustFail 4 (some .boolean) :: ([.fieldLink RX2 40 "RobotWorld$Robot" "place" "I", .fieldLink RX2 43 "RobotWorld$Robot" "words" "I", .fieldLink RX2 15 "RobotWorld$Robot" "program" "[I", .fieldLink RX2 19 "RobotWorld$Robot" "registers" "[I", .static yX3_opOf, .initialized RX3, .code yX3_opOf cX3_opOf 1 (some .int), .static yX3_sOf, .code yX3_sOf cX3_sOf 1 (some .int), .static yX3_rOf, .code yX3_rOf cX3_rOf 1 (some .int)] ++ wsX20)
def wsX2_takesMail : List Cond := .code yX2_takesMail cX2_takesMail 1 (some .boolean) :: ([.fieldLink RX2 37 "RobotWorld$Robot" "state" "I"] ++ wsX20)
def wsX2_fallAsleep : List Cond := .code yX2_fallAsleep cX2_fallAsleep 2 none :: ([.fieldLink RX2 37 "RobotWorld$Robot" "state" "I", .fieldLink RX2 52 "RobotWorld$Robot" "sleepLeft" "I"] ++ wsX20)
def wsX2_sleepOn : List Cond := .code yX2_sleepOn cX2_sleepOn 1 none :: ([.fieldLink RX2 37 "RobotWorld$Robot" "state" "I", .fieldLink RX2 52 "RobotWorld$Robot" "sleepLeft" "I"] ++ wsX20)
def wsX2_show : List Cond := .code yX2_show cX2_show 2 (some .int) :: ([.fieldLink RX2 19 "RobotWorld$Robot" "registers" "[I", .fieldLink RX2 40 "RobotWorld$Robot" "place" "I", .fieldLink RX2 49 "RobotWorld$Robot" "carried" "I", .fieldLink RX2 27 "RobotWorld$Robot" "box" "LRobotWorld$Box;", .fieldLink RX2 61 "RobotWorld$Box" "count" "I", .fieldLink RX2 43 "RobotWorld$Robot" "words" "I", .fieldLink RX2 46 "RobotWorld$Robot" "wordsDone" "I", .fieldLink RX2 52 "RobotWorld$Robot" "sleepLeft" "I"] ++ wsX20 ++ wsX00)
def wsX3_bounded : List Cond := .code yX3_bounded cX3_bounded 2 (some .int) :: ([.methodLink RX3 118 Lib.Math.min.name, .static Lib.Math.min.name, .initialized "java/lang/Math", .code Lib.Math.min.name Lib.Math.min.code 2 (some .int), .methodLink RX3 123 Lib.Math.max.name, .static Lib.Math.max.name, .code Lib.Math.max.name Lib.Math.max.code 2 (some .int)])
def wsX3_startOver : List Cond := .code yX3_startOver cX3_startOver 2 none :: ([.fieldLink RX3 18 "RobotWorld" "land" "LRobotWorld$Land;", .fieldLink RX3 24 "RobotWorld" "robots" "[LRobotWorld$Robot;", .fieldLink RX3 52 "RobotWorld$Robot" "state" "I", .fieldLink RX3 88 "RobotWorld" "clock" "I", .fieldLink RX3 77 "RobotWorld" "lastRan" "I", .methodLink RX3 126 yX1_clear, .instanceMethod yX1_clear, .selects RX1 yX1_clear yX1_clear, .initialized RX1, .code yX1_clear cX1_clear 1 none, .fieldLink RX1 18 "RobotWorld$Land" "contents" "[I", .fieldLink RX1 28 "RobotWorld$Land" "goal" "I", .methodLink RX1 31 yJ7_fill_53178, .static yJ7_fill_53178, .initialized RJ7, .code yJ7_fill_53178 cJ7_fill_53178 4 none] ++ wsX30 ++ wsX20 ++ wsX10)
def wsX3_init_r1 : List Cond := [Cond.methodLink RX3 1 objectInit, Cond.instanceMethod objectInit, Cond.code objectInit ⟨#[0xb1]⟩ 1 none, Cond.classLink RX3 7 RX1, Cond.instantiable RX1 6, Cond.initialized RX1, Cond.fieldLink RX3 18 "RobotWorld" "land" "LRobotWorld$Land;", Cond.classLink RX3 22 RX2, Cond.fieldLink RX3 24 "RobotWorld" "robots" "[LRobotWorld$Robot;", Cond.instantiable RX2 12, Cond.initialized RX2, Cond.methodLink RX3 11 yX3_bounded, Cond.static yX3_bounded, Cond.initialized RX3, Cond.code yX3_bounded cX3_bounded 2 (some .int), Cond.methodLink RX3 118 Lib.Math.min.name, Cond.static Lib.Math.min.name, Cond.initialized "java/lang/Math", Cond.code Lib.Math.min.name Lib.Math.min.code 2 (some .int), Cond.methodLink RX3 123 Lib.Math.max.name, Cond.static Lib.Math.max.name, Cond.code Lib.Math.max.name Lib.Math.max.code 2 (some .int), Cond.methodLink RX3 15 yX1_init, Cond.instanceMethod yX1_init]
def wsX3_init_r2 : List Cond := [Cond.code yX1_init cX1_init 3 none, Cond.methodLink RX1 3 objectInit, Cond.fieldLink RX1 9 "RobotWorld$Land" "width" "I", Cond.fieldLink RX1 15 "RobotWorld$Land" "height" "I", Cond.arrayClass .int, Cond.fieldLink RX1 18 "RobotWorld$Land" "contents" "[I", Cond.fieldLink RX1 22 "RobotWorld$Land" "steps" "[I", Cond.fieldLink RX1 25 "RobotWorld$Land" "queue" "[I", Cond.fieldLink RX1 28 "RobotWorld$Land" "goal" "I", Cond.methodLink RX3 28 yX2_init, Cond.instanceMethod yX2_init, Cond.code yX2_init cX2_init 4 none, Cond.methodLink RX2 3 objectInit, Cond.fieldLink RX2 9 "RobotWorld$Robot" "number" "I", Cond.fieldLink RX2 15 "RobotWorld$Robot" "program" "[I", Cond.fieldLink RX2 19 "RobotWorld$Robot" "registers" "[I", Cond.classLink RX2 22 RX0, Cond.instantiable RX0 2, Cond.initialized RX0, Cond.fieldLink RX2 27 "RobotWorld$Robot" "box" "LRobotWorld$Box;", Cond.methodLink RX2 24 yX0_init, Cond.instanceMethod yX0_init, Cond.code yX0_init cX0_init 2 none, Cond.methodLink RX0 1 objectInit]
def wsX3_init_r3 : List Cond := [Cond.fieldLink RX0 7 "RobotWorld$Box" "numbers" "[I", Cond.methodLink RX3 31 yX3_startOver, Cond.instanceMethod yX3_startOver, Cond.selects RX3 yX3_startOver yX3_startOver, Cond.code yX3_startOver cX3_startOver 2 none, Cond.fieldLink RX3 52 "RobotWorld$Robot" "state" "I", Cond.fieldLink RX3 88 "RobotWorld" "clock" "I", Cond.fieldLink RX3 77 "RobotWorld" "lastRan" "I", Cond.methodLink RX3 126 yX1_clear, Cond.instanceMethod yX1_clear, Cond.selects RX1 yX1_clear yX1_clear, Cond.code yX1_clear cX1_clear 1 none, Cond.methodLink RX1 31 yJ7_fill_53178, Cond.static yJ7_fill_53178, Cond.initialized RJ7, Cond.code yJ7_fill_53178 cJ7_fill_53178 4 none]
def wsX3_init : List Cond := .code yX3_init cX3_init 9 none :: ((wsX3_init_r1 ++ (wsX3_init_r2 ++ wsX3_init_r3)) ++ wsX10 ++ wsX30 ++ wsX20 ++ wsX00)
def wsX3_init_ : List Cond := .code yX3_init_ cX3_init_ 1 none :: ([.methodLink RX3 31 yX3_startOver, .instanceMethod yX3_startOver, .selects RX3 yX3_startOver yX3_startOver, .initialized RX3, .code yX3_startOver cX3_startOver 2 none, .fieldLink RX3 18 "RobotWorld" "land" "LRobotWorld$Land;", .fieldLink RX3 24 "RobotWorld" "robots" "[LRobotWorld$Robot;", .fieldLink RX3 52 "RobotWorld$Robot" "state" "I", .fieldLink RX3 88 "RobotWorld" "clock" "I", .fieldLink RX3 77 "RobotWorld" "lastRan" "I", .methodLink RX3 126 yX1_clear, .instanceMethod yX1_clear, .selects RX1 yX1_clear yX1_clear, .initialized RX1, .code yX1_clear cX1_clear 1 none, .fieldLink RX1 18 "RobotWorld$Land" "contents" "[I", .fieldLink RX1 28 "RobotWorld$Land" "goal" "I", .methodLink RX1 31 yJ7_fill_53178, .static yJ7_fill_53178, .initialized RJ7, .code yJ7_fill_53178 cJ7_fill_53178 4 none] ++ wsX30 ++ wsX20 ++ wsX10)
def wsX3_robotOn : List Cond := .code yX3_robotOn cX3_robotOn 5 (some (.object "RobotWorld$Robot")) :: ([.fieldLink RX3 24 "RobotWorld" "robots" "[LRobotWorld$Robot;", .fieldLink RX3 52 "RobotWorld$Robot" "state" "I", .fieldLink RX3 98 "RobotWorld$Robot" "x" "I", .fieldLink RX3 101 "RobotWorld$Robot" "y" "I"] ++ wsX30 ++ wsX20)
def wsX3_setWall : List Cond := .code yX3_setWall cX3_setWall 4 (some .boolean) :: ([.fieldLink RX3 18 "RobotWorld" "land" "LRobotWorld$Land;", .methodLink RX3 34 yX1_isInside, .instanceMethod yX1_isInside, .selects RX1 yX1_isInside yX1_isInside, .initialized RX1, .code yX1_isInside cX1_isInside 3 (some .boolean), .fieldLink RX1 9 "RobotWorld$Land" "width" "I", .fieldLink RX1 15 "RobotWorld$Land" "height" "I", .methodLink RX3 38 yX3_robotOn, .instanceMethod yX3_robotOn, .selects RX3 yX3_robotOn yX3_robotOn, .initialized RX3, .code yX3_robotOn cX3_robotOn 5 (some (.object "RobotWorld$Robot")), .fieldLink RX3 24 "RobotWorld" "robots" "[LRobotWorld$Robot;", .fieldLink RX3 52 "RobotWorld$Robot" "state" "I", .fieldLink RX3 98 "RobotWorld$Robot" "x" "I", .fieldLink RX3 101 "RobotWorld$Robot" "y" "I", .methodLink RX3 42 yX1_changeWall, .instanceMethod yX1_changeWall, .selects RX1 yX1_changeWall yX1_changeWall, .code yX1_changeWall cX1_changeWall 5 none, .fieldLink RX1 18 "RobotWorld$Land" "contents" "[I", .fieldLink RX1 28 "RobotWorld$Land" "goal" "I", .methodLink RX1 37 yX1_isInside] ++ wsX30 ++ wsX10 ++ wsX20)
def wsX3_putItem : List Cond := .code yX3_putItem cX3_putItem 3 (some .boolean) :: ([.fieldLink RX3 18 "RobotWorld" "land" "LRobotWorld$Land;", .methodLink RX3 46 yX1_addItem, .instanceMethod yX1_addItem, .selects RX1 yX1_addItem yX1_addItem, .initialized RX1, .code yX1_addItem cX1_addItem 4 (some .boolean), .fieldLink RX1 9 "RobotWorld$Land" "width" "I", .fieldLink RX1 18 "RobotWorld$Land" "contents" "[I", .methodLink RX1 41 yX1_isOpen, .instanceMethod yX1_isOpen, .selects RX1 yX1_isOpen yX1_isOpen, .code yX1_isOpen cX1_isOpen 3 (some .boolean), .fieldLink RX1 15 "RobotWorld$Land" "height" "I"] ++ wsX30 ++ wsX10)
def wsX3_spawn_r1 : List Cond := [Cond.fieldLink RX3 18 "RobotWorld" "land" "LRobotWorld$Land;", Cond.fieldLink RX3 24 "RobotWorld" "robots" "[LRobotWorld$Robot;", Cond.fieldLink RX3 52 "RobotWorld$Robot" "state" "I", Cond.methodLink RX3 49 yX1_isOpen, Cond.instanceMethod yX1_isOpen, Cond.selects RX1 yX1_isOpen yX1_isOpen, Cond.initialized RX1, Cond.code yX1_isOpen cX1_isOpen 3 (some .boolean), Cond.fieldLink RX1 9 "RobotWorld$Land" "width" "I", Cond.fieldLink RX1 15 "RobotWorld$Land" "height" "I", Cond.fieldLink RX1 18 "RobotWorld$Land" "contents" "[I", Cond.methodLink RX3 38 yX3_robotOn, Cond.instanceMethod yX3_robotOn, Cond.selects RX3 yX3_robotOn yX3_robotOn, Cond.initialized RX3, Cond.code yX3_robotOn cX3_robotOn 5 (some (.object "RobotWorld$Robot")), Cond.fieldLink RX3 98 "RobotWorld$Robot" "x" "I", Cond.fieldLink RX3 101 "RobotWorld$Robot" "y" "I", Cond.methodLink RX3 56 yX2_appear, Cond.instanceMethod yX2_appear, Cond.selects RX2 yX2_appear yX2_appear, Cond.initialized RX2, Cond.code yX2_appear cX2_appear 3 none, Cond.fieldLink RX2 31 "RobotWorld$Robot" "x" "I"]
def wsX3_spawn_r2 : List Cond := [Cond.fieldLink RX2 34 "RobotWorld$Robot" "y" "I", Cond.fieldLink RX2 37 "RobotWorld$Robot" "state" "I", Cond.fieldLink RX2 40 "RobotWorld$Robot" "place" "I", Cond.fieldLink RX2 43 "RobotWorld$Robot" "words" "I", Cond.fieldLink RX2 46 "RobotWorld$Robot" "wordsDone" "I", Cond.fieldLink RX2 49 "RobotWorld$Robot" "carried" "I", Cond.fieldLink RX2 52 "RobotWorld$Robot" "sleepLeft" "I", Cond.fieldLink RX2 19 "RobotWorld$Robot" "registers" "[I", Cond.fieldLink RX2 27 "RobotWorld$Robot" "box" "LRobotWorld$Box;", Cond.fieldLink RX2 61 "RobotWorld$Box" "count" "I", Cond.methodLink RX2 55 yJ7_fill_53178, Cond.static yJ7_fill_53178, Cond.initialized RJ7, Cond.code yJ7_fill_53178 cJ7_fill_53178 4 none]
def wsX3_spawn : List Cond := .code yX3_spawn cX3_spawn 4 (some .int) :: ((wsX3_spawn_r1 ++ wsX3_spawn_r2) ++ wsX30 ++ wsX20 ++ wsX10 ++ wsX00)
def wsX3_isNumber : List Cond := .code yX3_isNumber cX3_isNumber 2 (some .boolean) :: ([.fieldLink RX3 24 "RobotWorld" "robots" "[LRobotWorld$Robot;"] ++ wsX30)
def wsX3_robotOf : List Cond := .code yX3_robotOf cX3_robotOf 2 (some (.object "RobotWorld$Robot")) :: ([.fieldLink RX3 24 "RobotWorld" "robots" "[LRobotWorld$Robot;", .fieldLink RX3 52 "RobotWorld$Robot" "state" "I", .methodLink RX3 104 yX3_isNumber, .instanceMethod yX3_isNumber, .selects RX3 yX3_isNumber yX3_isNumber, .initialized RX3, .code yX3_isNumber cX3_isNumber 2 (some .boolean)] ++ wsX30 ++ wsX20)
def wsX3_load : List Cond := .code yX3_load cX3_load 4 (some .boolean) :: ([.fieldLink RX3 52 "RobotWorld$Robot" "state" "I", .methodLink RX3 59 yX3_robotOf, .instanceMethod yX3_robotOf, .selects RX3 yX3_robotOf yX3_robotOf, .initialized RX3, .code yX3_robotOf cX3_robotOf 2 (some (.object "RobotWorld$Robot")), .fieldLink RX3 24 "RobotWorld" "robots" "[LRobotWorld$Robot;", .methodLink RX3 104 yX3_isNumber, .instanceMethod yX3_isNumber, .selects RX3 yX3_isNumber yX3_isNumber, .code yX3_isNumber cX3_isNumber 2 (some .boolean), .methodLink RX3 63 yX2_addWord, .instanceMethod yX2_addWord, .selects RX2 yX2_addWord yX2_addWord, .initialized RX2, .code yX2_addWord cX2_addWord 2 (some .boolean), .fieldLink RX2 43 "RobotWorld$Robot" "words" "I", .fieldLink RX2 15 "RobotWorld$Robot" "program" "[I"] ++ wsX20 ++ wsX30)
def wsX3_startRobot : List Cond := .code yX3_startRobot cX3_startRobot 3 (some .int) :: ([.fieldLink RX3 52 "RobotWorld$Robot" "state" "I", .methodLink RX3 59 yX3_robotOf, .instanceMethod yX3_robotOf, .selects RX3 yX3_robotOf yX3_robotOf, .initialized RX3, .code yX3_robotOf cX3_robotOf 2 (some (.object "RobotWorld$Robot")), .fieldLink RX3 24 "RobotWorld" "robots" "[LRobotWorld$Robot;", .methodLink RX3 104 yX3_isNumber, .instanceMethod yX3_isNumber, .selects RX3 yX3_isNumber yX3_isNumber, .code yX3_isNumber cX3_isNumber 2 (some .boolean)] ++ wsX20 ++ wsX30)
def wsX3_nextReady : List Cond := .code yX3_nextReady cX3_nextReady 3 (some (.object "RobotWorld$Robot")) :: ([.fieldLink RX3 77 "RobotWorld" "lastRan" "I", .fieldLink RX3 24 "RobotWorld" "robots" "[LRobotWorld$Robot;", .fieldLink RX3 52 "RobotWorld$Robot" "state" "I", .methodLink RX3 104 yX3_isNumber, .instanceMethod yX3_isNumber, .selects RX3 yX3_isNumber yX3_isNumber, .initialized RX3, .code yX3_isNumber cX3_isNumber 2 (some .boolean)] ++ wsX30 ++ wsX20)
def wsX3_go : List Cond := .code yX3_go cX3_go 5 (some .int) :: ([.fieldLink RX3 98 "RobotWorld$Robot" "x" "I", .fieldLink RX3 182 "RobotWorld" "EAST_BY" "[I", .fieldLink RX3 101 "RobotWorld$Robot" "y" "I", .fieldLink RX3 185 "RobotWorld" "SOUTH_BY" "[I", .fieldLink RX3 18 "RobotWorld" "land" "LRobotWorld$Land;", .methodLink RX3 49 yX1_isOpen, .instanceMethod yX1_isOpen, .selects RX1 yX1_isOpen yX1_isOpen, .initialized RX1, .code yX1_isOpen cX1_isOpen 3 (some .boolean), .fieldLink RX1 9 "RobotWorld$Land" "width" "I", .fieldLink RX1 15 "RobotWorld$Land" "height" "I", .fieldLink RX1 18 "RobotWorld$Land" "contents" "[I", .methodLink RX3 38 yX3_robotOn, .instanceMethod yX3_robotOn, .selects RX3 yX3_robotOn yX3_robotOn, .initialized RX3, .code yX3_robotOn cX3_robotOn 5 (some (.object "RobotWorld$Robot")), .fieldLink RX3 24 "RobotWorld" "robots" "[LRobotWorld$Robot;", .fieldLink RX3 52 "RobotWorld$Robot" "state" "I"] ++ wsX20 ++ wsX30 ++ wsX10)
def wsX3_at : List Cond := .code yX3_at cX3_at 5 (some .int) :: ([.fieldLink RX3 18 "RobotWorld" "land" "LRobotWorld$Land;", .fieldLink RX3 74 "RobotWorld$Robot" "number" "I", .methodLink RX3 38 yX3_robotOn, .instanceMethod yX3_robotOn, .selects RX3 yX3_robotOn yX3_robotOn, .initialized RX3, .code yX3_robotOn cX3_robotOn 5 (some (.object "RobotWorld$Robot")), .fieldLink RX3 24 "RobotWorld" "robots" "[LRobotWorld$Robot;", .fieldLink RX3 52 "RobotWorld$Robot" "state" "I", .fieldLink RX3 98 "RobotWorld$Robot" "x" "I", .fieldLink RX3 101 "RobotWorld$Robot" "y" "I", .methodLink RX3 111 yX1_contentOf, .instanceMethod yX1_contentOf, .selects RX1 yX1_contentOf yX1_contentOf, .initialized RX1, .code yX1_contentOf cX1_contentOf 3 (some .int), .fieldLink RX1 18 "RobotWorld$Land" "contents" "[I", .fieldLink RX1 9 "RobotWorld$Land" "width" "I", .methodLink RX1 37 yX1_isInside, .instanceMethod yX1_isInside, .selects RX1 yX1_isInside yX1_isInside, .code yX1_isInside cX1_isInside 3 (some .boolean), .fieldLink RX1 15 "RobotWorld$Land" "height" "I"] ++ wsX30 ++ wsX20 ++ wsX10)
def wsX3_look_r1 : List Cond := [Cond.fieldLink RX3 98 "RobotWorld$Robot" "x" "I", Cond.fieldLink RX3 182 "RobotWorld" "EAST_BY" "[I", Cond.fieldLink RX3 101 "RobotWorld$Robot" "y" "I", Cond.fieldLink RX3 185 "RobotWorld" "SOUTH_BY" "[I", Cond.methodLink RX3 188 yX3_at, Cond.instanceMethod yX3_at, Cond.selects RX3 yX3_at yX3_at, Cond.initialized RX3, Cond.code yX3_at cX3_at 5 (some .int), Cond.fieldLink RX3 18 "RobotWorld" "land" "LRobotWorld$Land;", Cond.fieldLink RX3 74 "RobotWorld$Robot" "number" "I", Cond.methodLink RX3 38 yX3_robotOn, Cond.instanceMethod yX3_robotOn, Cond.selects RX3 yX3_robotOn yX3_robotOn, Cond.code yX3_robotOn cX3_robotOn 5 (some (.object "RobotWorld$Robot")), Cond.fieldLink RX3 24 "RobotWorld" "robots" "[LRobotWorld$Robot;", Cond.fieldLink RX3 52 "RobotWorld$Robot" "state" "I", Cond.methodLink RX3 111 yX1_contentOf, Cond.instanceMethod yX1_contentOf, Cond.selects RX1 yX1_contentOf yX1_contentOf, Cond.initialized RX1, Cond.code yX1_contentOf cX1_contentOf 3 (some .int), Cond.fieldLink RX1 18 "RobotWorld$Land" "contents" "[I", Cond.fieldLink RX1 9 "RobotWorld$Land" "width" "I"]
def wsX3_look_r2 : List Cond := [Cond.methodLink RX1 37 yX1_isInside, Cond.instanceMethod yX1_isInside, Cond.selects RX1 yX1_isInside yX1_isInside, Cond.code yX1_isInside cX1_isInside 3 (some .boolean), Cond.fieldLink RX1 15 "RobotWorld$Land" "height" "I"]
def wsX3_look : List Cond := .code yX3_look cX3_look 3 (some .int) :: ((wsX3_look_r1 ++ wsX3_look_r2) ++ wsX20 ++ wsX30 ++ wsX10)
def wsX3_take : List Cond := .code yX3_take cX3_take 2 (some .int) :: ([.fieldLink RX3 95 "RobotWorld$Robot" "carried" "I", .fieldLink RX3 18 "RobotWorld" "land" "LRobotWorld$Land;", .fieldLink RX3 98 "RobotWorld$Robot" "x" "I", .fieldLink RX3 101 "RobotWorld$Robot" "y" "I", .methodLink RX3 191 yX1_removeItem, .instanceMethod yX1_removeItem, .selects RX1 yX1_removeItem yX1_removeItem, .initialized RX1, .code yX1_removeItem cX1_removeItem 4 (some .boolean), .fieldLink RX1 9 "RobotWorld$Land" "width" "I", .fieldLink RX1 18 "RobotWorld$Land" "contents" "[I", .methodLink RX1 41 yX1_isOpen, .instanceMethod yX1_isOpen, .selects RX1 yX1_isOpen yX1_isOpen, .code yX1_isOpen cX1_isOpen 3 (some .boolean), .fieldLink RX1 15 "RobotWorld$Land" "height" "I"] ++ wsX20 ++ wsX30 ++ wsX10)
def wsX3_lay : List Cond := .code yX3_lay cX3_lay 2 (some .int) :: ([.fieldLink RX3 95 "RobotWorld$Robot" "carried" "I", .fieldLink RX3 18 "RobotWorld" "land" "LRobotWorld$Land;", .fieldLink RX3 98 "RobotWorld$Robot" "x" "I", .fieldLink RX3 101 "RobotWorld$Robot" "y" "I", .methodLink RX3 46 yX1_addItem, .instanceMethod yX1_addItem, .selects RX1 yX1_addItem yX1_addItem, .initialized RX1, .code yX1_addItem cX1_addItem 4 (some .boolean), .fieldLink RX1 9 "RobotWorld$Land" "width" "I", .fieldLink RX1 18 "RobotWorld$Land" "contents" "[I", .methodLink RX1 41 yX1_isOpen, .instanceMethod yX1_isOpen, .selects RX1 yX1_isOpen yX1_isOpen, .code yX1_isOpen cX1_isOpen 3 (some .boolean), .fieldLink RX1 15 "RobotWorld$Land" "height" "I"] ++ wsX20 ++ wsX30 ++ wsX10)
def wsX3_send_r1 : List Cond := [Cond.fieldLink RX3 197 "RobotWorld$Robot" "box" "LRobotWorld$Box;", Cond.fieldLink RX3 52 "RobotWorld$Robot" "state" "I", Cond.methodLink RX3 59 yX3_robotOf, Cond.instanceMethod yX3_robotOf, Cond.selects RX3 yX3_robotOf yX3_robotOf, Cond.initialized RX3, Cond.code yX3_robotOf cX3_robotOf 2 (some (.object "RobotWorld$Robot")), Cond.fieldLink RX3 24 "RobotWorld" "robots" "[LRobotWorld$Robot;", Cond.methodLink RX3 104 yX3_isNumber, Cond.instanceMethod yX3_isNumber, Cond.selects RX3 yX3_isNumber yX3_isNumber, Cond.code yX3_isNumber cX3_isNumber 2 (some .boolean), Cond.methodLink RX3 194 yX2_takesMail, Cond.instanceMethod yX2_takesMail, Cond.selects RX2 yX2_takesMail yX2_takesMail, Cond.initialized RX2, Cond.code yX2_takesMail cX2_takesMail 1 (some .boolean), Cond.fieldLink RX2 37 "RobotWorld$Robot" "state" "I", Cond.methodLink RX3 201 yX0_add, Cond.instanceMethod yX0_add, Cond.selects RX0 yX0_add yX0_add, Cond.initialized RX0, Cond.code yX0_add cX0_add 2 (some .boolean), Cond.fieldLink RX0 13 "RobotWorld$Box" "count" "I"]
def wsX3_send_r2 : List Cond := [Cond.fieldLink RX0 7 "RobotWorld$Box" "numbers" "[I"]
def wsX3_send : List Cond := .code yX3_send cX3_send 4 (some .int) :: ((wsX3_send_r1 ++ wsX3_send_r2) ++ wsX20 ++ wsX30 ++ wsX00)
def wsX3_receive : List Cond := .code yX3_receive cX3_receive 2 (some .boolean) :: ([.fieldLink RX3 197 "RobotWorld$Robot" "box" "LRobotWorld$Box;", .fieldLink RX3 206 "RobotWorld$Box" "count" "I", .fieldLink RX3 52 "RobotWorld$Robot" "state" "I", .fieldLink RX3 136 "RobotWorld$Robot" "registers" "[I", .methodLink RX3 209 yX0_removeFirst, .instanceMethod yX0_removeFirst, .selects RX0 yX0_removeFirst yX0_removeFirst, .initialized RX0, .code yX0_removeFirst cX0_removeFirst 2 (some .int), .fieldLink RX0 13 "RobotWorld$Box" "count" "I", .fieldLink RX0 7 "RobotWorld$Box" "numbers" "[I", .methodLink RX0 17 arraycopyName, .native arraycopyName, .static arraycopyName, .initialized "java/lang/System"] ++ wsX20 ++ wsX00)
def wsX3_calculated : List Cond := .code yX3_calculated cX3_calculated 4 (some .int) :: ([])
def wsX3_doWord_r1 : List Cond := [Cond.fieldLink RX3 129 "RobotWorld$Robot" "program" "[I", Cond.fieldLink RX3 133 "RobotWorld$Robot" "place" "I", Cond.fieldLink RX3 136 "RobotWorld$Robot" "registers" "[I", Cond.fieldLink RX3 52 "RobotWorld$Robot" "state" "I", Cond.fieldLink RX3 18 "RobotWorld" "land" "LRobotWorld$Land;", Cond.fieldLink RX3 98 "RobotWorld$Robot" "x" "I", Cond.fieldLink RX3 101 "RobotWorld$Robot" "y" "I", Cond.fieldLink RX3 74 "RobotWorld$Robot" "number" "I", Cond.fieldLink RX3 88 "RobotWorld" "clock" "I", Cond.fieldLink RX3 95 "RobotWorld$Robot" "carried" "I", Cond.fieldLink RX3 179 "RobotWorld$Robot" "wordsDone" "I", Cond.methodLink RX3 139 yX3_opOf, Cond.static yX3_opOf, Cond.initialized RX3, Cond.code yX3_opOf cX3_opOf 1 (some .int), Cond.methodLink RX3 142 yX3_rOf, Cond.static yX3_rOf, Cond.code yX3_rOf cX3_rOf 1 (some .int), Cond.methodLink RX3 145 yX3_sOf, Cond.static yX3_sOf, Cond.code yX3_sOf cX3_sOf 1 (some .int), Cond.methodLink RX3 148 yX3_go, Cond.instanceMethod yX3_go, Cond.selects RX3 yX3_go yX3_go]
def wsX3_doWord_r2 : List Cond := [Cond.code yX3_go cX3_go 5 (some .int), Cond.fieldLink RX3 182 "RobotWorld" "EAST_BY" "[I", Cond.fieldLink RX3 185 "RobotWorld" "SOUTH_BY" "[I", Cond.methodLink RX3 49 yX1_isOpen, Cond.instanceMethod yX1_isOpen, Cond.selects RX1 yX1_isOpen yX1_isOpen, Cond.initialized RX1, Cond.code yX1_isOpen cX1_isOpen 3 (some .boolean), Cond.fieldLink RX1 9 "RobotWorld$Land" "width" "I", Cond.fieldLink RX1 15 "RobotWorld$Land" "height" "I", Cond.fieldLink RX1 18 "RobotWorld$Land" "contents" "[I", Cond.methodLink RX3 38 yX3_robotOn, Cond.instanceMethod yX3_robotOn, Cond.selects RX3 yX3_robotOn yX3_robotOn, Cond.code yX3_robotOn cX3_robotOn 5 (some (.object "RobotWorld$Robot")), Cond.fieldLink RX3 24 "RobotWorld" "robots" "[LRobotWorld$Robot;", Cond.methodLink RX3 152 yX3_look, Cond.instanceMethod yX3_look, Cond.selects RX3 yX3_look yX3_look, Cond.code yX3_look cX3_look 3 (some .int), Cond.methodLink RX3 188 yX3_at, Cond.instanceMethod yX3_at, Cond.selects RX3 yX3_at yX3_at, Cond.code yX3_at cX3_at 5 (some .int)]
def wsX3_doWord_r3 : List Cond := [Cond.methodLink RX3 111 yX1_contentOf, Cond.instanceMethod yX1_contentOf, Cond.selects RX1 yX1_contentOf yX1_contentOf, Cond.code yX1_contentOf cX1_contentOf 3 (some .int), Cond.methodLink RX1 37 yX1_isInside, Cond.instanceMethod yX1_isInside, Cond.selects RX1 yX1_isInside yX1_isInside, Cond.code yX1_isInside cX1_isInside 3 (some .boolean), Cond.methodLink RX3 155 yX3_take, Cond.instanceMethod yX3_take, Cond.selects RX3 yX3_take yX3_take, Cond.code yX3_take cX3_take 2 (some .int), Cond.methodLink RX3 191 yX1_removeItem, Cond.instanceMethod yX1_removeItem, Cond.selects RX1 yX1_removeItem yX1_removeItem, Cond.code yX1_removeItem cX1_removeItem 4 (some .boolean), Cond.methodLink RX1 41 yX1_isOpen, Cond.methodLink RX3 159 yX3_lay, Cond.instanceMethod yX3_lay, Cond.selects RX3 yX3_lay yX3_lay, Cond.code yX3_lay cX3_lay 2 (some .int), Cond.methodLink RX3 46 yX1_addItem, Cond.instanceMethod yX1_addItem, Cond.selects RX1 yX1_addItem yX1_addItem]
def wsX3_doWord_r4 : List Cond := [Cond.code yX1_addItem cX1_addItem 4 (some .boolean), Cond.methodLink RX3 162 yX3_send, Cond.instanceMethod yX3_send, Cond.selects RX3 yX3_send yX3_send, Cond.code yX3_send cX3_send 4 (some .int), Cond.fieldLink RX3 197 "RobotWorld$Robot" "box" "LRobotWorld$Box;", Cond.methodLink RX3 59 yX3_robotOf, Cond.instanceMethod yX3_robotOf, Cond.selects RX3 yX3_robotOf yX3_robotOf, Cond.code yX3_robotOf cX3_robotOf 2 (some (.object "RobotWorld$Robot")), Cond.methodLink RX3 104 yX3_isNumber, Cond.instanceMethod yX3_isNumber, Cond.selects RX3 yX3_isNumber yX3_isNumber, Cond.code yX3_isNumber cX3_isNumber 2 (some .boolean), Cond.methodLink RX3 194 yX2_takesMail, Cond.instanceMethod yX2_takesMail, Cond.selects RX2 yX2_takesMail yX2_takesMail, Cond.initialized RX2, Cond.code yX2_takesMail cX2_takesMail 1 (some .boolean), Cond.fieldLink RX2 37 "RobotWorld$Robot" "state" "I", Cond.methodLink RX3 201 yX0_add, Cond.instanceMethod yX0_add, Cond.selects RX0 yX0_add yX0_add, Cond.initialized RX0]
def wsX3_doWord_r5 : List Cond := [Cond.code yX0_add cX0_add 2 (some .boolean), Cond.fieldLink RX0 13 "RobotWorld$Box" "count" "I", Cond.fieldLink RX0 7 "RobotWorld$Box" "numbers" "[I", Cond.methodLink RX3 165 yX3_receive, Cond.static yX3_receive, Cond.code yX3_receive cX3_receive 2 (some .boolean), Cond.fieldLink RX3 206 "RobotWorld$Box" "count" "I", Cond.methodLink RX3 209 yX0_removeFirst, Cond.instanceMethod yX0_removeFirst, Cond.selects RX0 yX0_removeFirst yX0_removeFirst, Cond.code yX0_removeFirst cX0_removeFirst 2 (some .int), Cond.methodLink RX0 17 arraycopyName, Cond.native arraycopyName, Cond.static arraycopyName, Cond.initialized "java/lang/System", Cond.methodLink RX3 169 yX2_fallAsleep, Cond.instanceMethod yX2_fallAsleep, Cond.selects RX2 yX2_fallAsleep yX2_fallAsleep, Cond.code yX2_fallAsleep cX2_fallAsleep 2 none, Cond.fieldLink RX2 52 "RobotWorld$Robot" "sleepLeft" "I", Cond.methodLink RX3 173 yX1_firstStep, Cond.instanceMethod yX1_firstStep, Cond.selects RX1 yX1_firstStep yX1_firstStep, Cond.code yX1_firstStep cX1_firstStep 7 (some .int)]
def wsX3_doWord_r6 : List Cond := [Cond.methodLink RX1 52 yX1_wayLength, Cond.instanceMethod yX1_wayLength, Cond.selects RX1 yX1_wayLength yX1_wayLength, Cond.code yX1_wayLength cX1_wayLength 5 (some .int), Cond.methodLink RX1 44 yX1_measureFrom, Cond.instanceMethod yX1_measureFrom, Cond.selects RX1 yX1_measureFrom yX1_measureFrom, Cond.code yX1_measureFrom cX1_measureFrom 12 none, Cond.fieldLink RX1 28 "RobotWorld$Land" "goal" "I", Cond.fieldLink RX1 22 "RobotWorld$Land" "steps" "[I", Cond.fieldLink RX1 25 "RobotWorld$Land" "queue" "[I", Cond.methodLink RX1 31 yJ7_fill_53178, Cond.static yJ7_fill_53178, Cond.initialized RJ7, Cond.code yJ7_fill_53178 cJ7_fill_53178 4 none, Cond.methodLink RX1 48 yX1_stepsOf, Cond.instanceMethod yX1_stepsOf, Cond.selects RX1 yX1_stepsOf yX1_stepsOf, Cond.code yX1_stepsOf cX1_stepsOf 3 (some .int), Cond.methodLink RX3 176 yX3_calculated, Cond.static yX3_calculated, Cond.code yX3_calculated cX3_calculated 4 (some .int)]
def wsX3_doWord : List Cond := .code yX3_doWord cX3_doWord 11 none :: ((wsX3_doWord_r1 ++ (wsX3_doWord_r2 ++ (wsX3_doWord_r3 ++ (wsX3_doWord_r4 ++ (wsX3_doWord_r5 ++ wsX3_doWord_r6))))) ++ wsX20 ++ wsX30 ++ wsX10 ++ wsX00)
def wsX3_tick_r1 : List Cond := [Cond.fieldLink RX3 24 "RobotWorld" "robots" "[LRobotWorld$Robot;", Cond.fieldLink RX3 74 "RobotWorld$Robot" "number" "I", Cond.fieldLink RX3 77 "RobotWorld" "lastRan" "I", Cond.fieldLink RX3 52 "RobotWorld$Robot" "state" "I", Cond.fieldLink RX3 88 "RobotWorld" "clock" "I", Cond.methodLink RX3 67 yX2_sleepOn, Cond.instanceMethod yX2_sleepOn, Cond.selects RX2 yX2_sleepOn yX2_sleepOn, Cond.initialized RX2, Cond.code yX2_sleepOn cX2_sleepOn 1 none, Cond.fieldLink RX2 37 "RobotWorld$Robot" "state" "I", Cond.fieldLink RX2 52 "RobotWorld$Robot" "sleepLeft" "I", Cond.methodLink RX3 70 yX3_nextReady, Cond.instanceMethod yX3_nextReady, Cond.selects RX3 yX3_nextReady yX3_nextReady, Cond.initialized RX3, Cond.code yX3_nextReady cX3_nextReady 3 (some (.object "RobotWorld$Robot")), Cond.methodLink RX3 104 yX3_isNumber, Cond.instanceMethod yX3_isNumber, Cond.selects RX3 yX3_isNumber yX3_isNumber, Cond.code yX3_isNumber cX3_isNumber 2 (some .boolean), Cond.methodLink RX3 80 yX2_mustFail, Cond.instanceMethod yX2_mustFail, Cond.selects RX2 yX2_mustFail yX2_mustFail]
def wsX3_tick_r2 : List Cond := [Cond.code yX2_mustFail cX2_mustFail 4 (some .boolean), Cond.fieldLink RX2 40 "RobotWorld$Robot" "place" "I", Cond.fieldLink RX2 43 "RobotWorld$Robot" "words" "I", Cond.fieldLink RX2 15 "RobotWorld$Robot" "program" "[I", Cond.fieldLink RX2 19 "RobotWorld$Robot" "registers" "[I", Cond.static yX3_opOf, Cond.code yX3_opOf cX3_opOf 1 (some .int), Cond.static yX3_sOf, Cond.code yX3_sOf cX3_sOf 1 (some .int), Cond.static yX3_rOf, Cond.code yX3_rOf cX3_rOf 1 (some .int), Cond.methodLink RX3 84 yX3_doWord, Cond.instanceMethod yX3_doWord, Cond.selects RX3 yX3_doWord yX3_doWord, Cond.code yX3_doWord cX3_doWord 11 none, Cond.fieldLink RX3 129 "RobotWorld$Robot" "program" "[I", Cond.fieldLink RX3 133 "RobotWorld$Robot" "place" "I", Cond.fieldLink RX3 136 "RobotWorld$Robot" "registers" "[I", Cond.fieldLink RX3 18 "RobotWorld" "land" "LRobotWorld$Land;", Cond.fieldLink RX3 98 "RobotWorld$Robot" "x" "I", Cond.fieldLink RX3 101 "RobotWorld$Robot" "y" "I", Cond.fieldLink RX3 95 "RobotWorld$Robot" "carried" "I", Cond.fieldLink RX3 179 "RobotWorld$Robot" "wordsDone" "I", Cond.methodLink RX3 139 yX3_opOf]
def wsX3_tick_r3 : List Cond := [Cond.methodLink RX3 142 yX3_rOf, Cond.methodLink RX3 145 yX3_sOf, Cond.methodLink RX3 148 yX3_go, Cond.instanceMethod yX3_go, Cond.selects RX3 yX3_go yX3_go, Cond.code yX3_go cX3_go 5 (some .int), Cond.fieldLink RX3 182 "RobotWorld" "EAST_BY" "[I", Cond.fieldLink RX3 185 "RobotWorld" "SOUTH_BY" "[I", Cond.methodLink RX3 49 yX1_isOpen, Cond.instanceMethod yX1_isOpen, Cond.selects RX1 yX1_isOpen yX1_isOpen, Cond.initialized RX1, Cond.code yX1_isOpen cX1_isOpen 3 (some .boolean), Cond.fieldLink RX1 9 "RobotWorld$Land" "width" "I", Cond.fieldLink RX1 15 "RobotWorld$Land" "height" "I", Cond.fieldLink RX1 18 "RobotWorld$Land" "contents" "[I", Cond.methodLink RX3 38 yX3_robotOn, Cond.instanceMethod yX3_robotOn, Cond.selects RX3 yX3_robotOn yX3_robotOn, Cond.code yX3_robotOn cX3_robotOn 5 (some (.object "RobotWorld$Robot")), Cond.methodLink RX3 152 yX3_look, Cond.instanceMethod yX3_look, Cond.selects RX3 yX3_look yX3_look, Cond.code yX3_look cX3_look 3 (some .int)]
def wsX3_tick_r4 : List Cond := [Cond.methodLink RX3 188 yX3_at, Cond.instanceMethod yX3_at, Cond.selects RX3 yX3_at yX3_at, Cond.code yX3_at cX3_at 5 (some .int), Cond.methodLink RX3 111 yX1_contentOf, Cond.instanceMethod yX1_contentOf, Cond.selects RX1 yX1_contentOf yX1_contentOf, Cond.code yX1_contentOf cX1_contentOf 3 (some .int), Cond.methodLink RX1 37 yX1_isInside, Cond.instanceMethod yX1_isInside, Cond.selects RX1 yX1_isInside yX1_isInside, Cond.code yX1_isInside cX1_isInside 3 (some .boolean), Cond.methodLink RX3 155 yX3_take, Cond.instanceMethod yX3_take, Cond.selects RX3 yX3_take yX3_take, Cond.code yX3_take cX3_take 2 (some .int), Cond.methodLink RX3 191 yX1_removeItem, Cond.instanceMethod yX1_removeItem, Cond.selects RX1 yX1_removeItem yX1_removeItem, Cond.code yX1_removeItem cX1_removeItem 4 (some .boolean), Cond.methodLink RX1 41 yX1_isOpen, Cond.methodLink RX3 159 yX3_lay, Cond.instanceMethod yX3_lay, Cond.selects RX3 yX3_lay yX3_lay]
def wsX3_tick_r5 : List Cond := [Cond.code yX3_lay cX3_lay 2 (some .int), Cond.methodLink RX3 46 yX1_addItem, Cond.instanceMethod yX1_addItem, Cond.selects RX1 yX1_addItem yX1_addItem, Cond.code yX1_addItem cX1_addItem 4 (some .boolean), Cond.methodLink RX3 162 yX3_send, Cond.instanceMethod yX3_send, Cond.selects RX3 yX3_send yX3_send, Cond.code yX3_send cX3_send 4 (some .int), Cond.fieldLink RX3 197 "RobotWorld$Robot" "box" "LRobotWorld$Box;", Cond.methodLink RX3 59 yX3_robotOf, Cond.instanceMethod yX3_robotOf, Cond.selects RX3 yX3_robotOf yX3_robotOf, Cond.code yX3_robotOf cX3_robotOf 2 (some (.object "RobotWorld$Robot")), Cond.methodLink RX3 194 yX2_takesMail, Cond.instanceMethod yX2_takesMail, Cond.selects RX2 yX2_takesMail yX2_takesMail, Cond.code yX2_takesMail cX2_takesMail 1 (some .boolean), Cond.methodLink RX3 201 yX0_add, Cond.instanceMethod yX0_add, Cond.selects RX0 yX0_add yX0_add, Cond.initialized RX0, Cond.code yX0_add cX0_add 2 (some .boolean), Cond.fieldLink RX0 13 "RobotWorld$Box" "count" "I"]
def wsX3_tick_r6 : List Cond := [Cond.fieldLink RX0 7 "RobotWorld$Box" "numbers" "[I", Cond.methodLink RX3 165 yX3_receive, Cond.static yX3_receive, Cond.code yX3_receive cX3_receive 2 (some .boolean), Cond.fieldLink RX3 206 "RobotWorld$Box" "count" "I", Cond.methodLink RX3 209 yX0_removeFirst, Cond.instanceMethod yX0_removeFirst, Cond.selects RX0 yX0_removeFirst yX0_removeFirst, Cond.code yX0_removeFirst cX0_removeFirst 2 (some .int), Cond.methodLink RX0 17 arraycopyName, Cond.native arraycopyName, Cond.static arraycopyName, Cond.initialized "java/lang/System", Cond.methodLink RX3 169 yX2_fallAsleep, Cond.instanceMethod yX2_fallAsleep, Cond.selects RX2 yX2_fallAsleep yX2_fallAsleep, Cond.code yX2_fallAsleep cX2_fallAsleep 2 none, Cond.methodLink RX3 173 yX1_firstStep, Cond.instanceMethod yX1_firstStep, Cond.selects RX1 yX1_firstStep yX1_firstStep, Cond.code yX1_firstStep cX1_firstStep 7 (some .int), Cond.methodLink RX1 52 yX1_wayLength, Cond.instanceMethod yX1_wayLength, Cond.selects RX1 yX1_wayLength yX1_wayLength]
def wsX3_tick_r7 : List Cond := [Cond.code yX1_wayLength cX1_wayLength 5 (some .int), Cond.methodLink RX1 44 yX1_measureFrom, Cond.instanceMethod yX1_measureFrom, Cond.selects RX1 yX1_measureFrom yX1_measureFrom, Cond.code yX1_measureFrom cX1_measureFrom 12 none, Cond.fieldLink RX1 28 "RobotWorld$Land" "goal" "I", Cond.fieldLink RX1 22 "RobotWorld$Land" "steps" "[I", Cond.fieldLink RX1 25 "RobotWorld$Land" "queue" "[I", Cond.methodLink RX1 31 yJ7_fill_53178, Cond.static yJ7_fill_53178, Cond.initialized RJ7, Cond.code yJ7_fill_53178 cJ7_fill_53178 4 none, Cond.methodLink RX1 48 yX1_stepsOf, Cond.instanceMethod yX1_stepsOf, Cond.selects RX1 yX1_stepsOf yX1_stepsOf, Cond.code yX1_stepsOf cX1_stepsOf 3 (some .int), Cond.methodLink RX3 176 yX3_calculated, Cond.static yX3_calculated, Cond.code yX3_calculated cX3_calculated 4 (some .int)]
def wsX3_tick : List Cond := .code yX3_tick cX3_tick 2 (some .int) :: ((wsX3_tick_r1 ++ (wsX3_tick_r2 ++ (wsX3_tick_r3 ++ (wsX3_tick_r4 ++ (wsX3_tick_r5 ++ (wsX3_tick_r6 ++ wsX3_tick_r7)))))) ++ wsX30 ++ wsX20 ++ wsX10 ++ wsX00)
def wsX3_runTicks_r1 : List Cond := [Cond.methodLink RX3 91 yX3_tick, Cond.instanceMethod yX3_tick, Cond.selects RX3 yX3_tick yX3_tick, Cond.initialized RX3, Cond.code yX3_tick cX3_tick 2 (some .int), Cond.fieldLink RX3 24 "RobotWorld" "robots" "[LRobotWorld$Robot;", Cond.fieldLink RX3 74 "RobotWorld$Robot" "number" "I", Cond.fieldLink RX3 77 "RobotWorld" "lastRan" "I", Cond.fieldLink RX3 52 "RobotWorld$Robot" "state" "I", Cond.fieldLink RX3 88 "RobotWorld" "clock" "I", Cond.methodLink RX3 67 yX2_sleepOn, Cond.instanceMethod yX2_sleepOn, Cond.selects RX2 yX2_sleepOn yX2_sleepOn, Cond.initialized RX2, Cond.code yX2_sleepOn cX2_sleepOn 1 none, Cond.fieldLink RX2 37 "RobotWorld$Robot" "state" "I", Cond.fieldLink RX2 52 "RobotWorld$Robot" "sleepLeft" "I", Cond.methodLink RX3 70 yX3_nextReady, Cond.instanceMethod yX3_nextReady, Cond.selects RX3 yX3_nextReady yX3_nextReady, Cond.code yX3_nextReady cX3_nextReady 3 (some (.object "RobotWorld$Robot")), Cond.methodLink RX3 104 yX3_isNumber, Cond.instanceMethod yX3_isNumber, Cond.selects RX3 yX3_isNumber yX3_isNumber]
def wsX3_runTicks_r2 : List Cond := [Cond.code yX3_isNumber cX3_isNumber 2 (some .boolean), Cond.methodLink RX3 80 yX2_mustFail, Cond.instanceMethod yX2_mustFail, Cond.selects RX2 yX2_mustFail yX2_mustFail, Cond.code yX2_mustFail cX2_mustFail 4 (some .boolean), Cond.fieldLink RX2 40 "RobotWorld$Robot" "place" "I", Cond.fieldLink RX2 43 "RobotWorld$Robot" "words" "I", Cond.fieldLink RX2 15 "RobotWorld$Robot" "program" "[I", Cond.fieldLink RX2 19 "RobotWorld$Robot" "registers" "[I", Cond.static yX3_opOf, Cond.code yX3_opOf cX3_opOf 1 (some .int), Cond.static yX3_sOf, Cond.code yX3_sOf cX3_sOf 1 (some .int), Cond.static yX3_rOf, Cond.code yX3_rOf cX3_rOf 1 (some .int), Cond.methodLink RX3 84 yX3_doWord, Cond.instanceMethod yX3_doWord, Cond.selects RX3 yX3_doWord yX3_doWord, Cond.code yX3_doWord cX3_doWord 11 none, Cond.fieldLink RX3 129 "RobotWorld$Robot" "program" "[I", Cond.fieldLink RX3 133 "RobotWorld$Robot" "place" "I", Cond.fieldLink RX3 136 "RobotWorld$Robot" "registers" "[I", Cond.fieldLink RX3 18 "RobotWorld" "land" "LRobotWorld$Land;", Cond.fieldLink RX3 98 "RobotWorld$Robot" "x" "I"]
def wsX3_runTicks_r3 : List Cond := [Cond.fieldLink RX3 101 "RobotWorld$Robot" "y" "I", Cond.fieldLink RX3 95 "RobotWorld$Robot" "carried" "I", Cond.fieldLink RX3 179 "RobotWorld$Robot" "wordsDone" "I", Cond.methodLink RX3 139 yX3_opOf, Cond.methodLink RX3 142 yX3_rOf, Cond.methodLink RX3 145 yX3_sOf, Cond.methodLink RX3 148 yX3_go, Cond.instanceMethod yX3_go, Cond.selects RX3 yX3_go yX3_go, Cond.code yX3_go cX3_go 5 (some .int), Cond.fieldLink RX3 182 "RobotWorld" "EAST_BY" "[I", Cond.fieldLink RX3 185 "RobotWorld" "SOUTH_BY" "[I", Cond.methodLink RX3 49 yX1_isOpen, Cond.instanceMethod yX1_isOpen, Cond.selects RX1 yX1_isOpen yX1_isOpen, Cond.initialized RX1, Cond.code yX1_isOpen cX1_isOpen 3 (some .boolean), Cond.fieldLink RX1 9 "RobotWorld$Land" "width" "I", Cond.fieldLink RX1 15 "RobotWorld$Land" "height" "I", Cond.fieldLink RX1 18 "RobotWorld$Land" "contents" "[I", Cond.methodLink RX3 38 yX3_robotOn, Cond.instanceMethod yX3_robotOn, Cond.selects RX3 yX3_robotOn yX3_robotOn, Cond.code yX3_robotOn cX3_robotOn 5 (some (.object "RobotWorld$Robot"))]
def wsX3_runTicks_r4 : List Cond := [Cond.methodLink RX3 152 yX3_look, Cond.instanceMethod yX3_look, Cond.selects RX3 yX3_look yX3_look, Cond.code yX3_look cX3_look 3 (some .int), Cond.methodLink RX3 188 yX3_at, Cond.instanceMethod yX3_at, Cond.selects RX3 yX3_at yX3_at, Cond.code yX3_at cX3_at 5 (some .int), Cond.methodLink RX3 111 yX1_contentOf, Cond.instanceMethod yX1_contentOf, Cond.selects RX1 yX1_contentOf yX1_contentOf, Cond.code yX1_contentOf cX1_contentOf 3 (some .int), Cond.methodLink RX1 37 yX1_isInside, Cond.instanceMethod yX1_isInside, Cond.selects RX1 yX1_isInside yX1_isInside, Cond.code yX1_isInside cX1_isInside 3 (some .boolean), Cond.methodLink RX3 155 yX3_take, Cond.instanceMethod yX3_take, Cond.selects RX3 yX3_take yX3_take, Cond.code yX3_take cX3_take 2 (some .int), Cond.methodLink RX3 191 yX1_removeItem, Cond.instanceMethod yX1_removeItem, Cond.selects RX1 yX1_removeItem yX1_removeItem, Cond.code yX1_removeItem cX1_removeItem 4 (some .boolean)]
def wsX3_runTicks_r5 : List Cond := [Cond.methodLink RX1 41 yX1_isOpen, Cond.methodLink RX3 159 yX3_lay, Cond.instanceMethod yX3_lay, Cond.selects RX3 yX3_lay yX3_lay, Cond.code yX3_lay cX3_lay 2 (some .int), Cond.methodLink RX3 46 yX1_addItem, Cond.instanceMethod yX1_addItem, Cond.selects RX1 yX1_addItem yX1_addItem, Cond.code yX1_addItem cX1_addItem 4 (some .boolean), Cond.methodLink RX3 162 yX3_send, Cond.instanceMethod yX3_send, Cond.selects RX3 yX3_send yX3_send, Cond.code yX3_send cX3_send 4 (some .int), Cond.fieldLink RX3 197 "RobotWorld$Robot" "box" "LRobotWorld$Box;", Cond.methodLink RX3 59 yX3_robotOf, Cond.instanceMethod yX3_robotOf, Cond.selects RX3 yX3_robotOf yX3_robotOf, Cond.code yX3_robotOf cX3_robotOf 2 (some (.object "RobotWorld$Robot")), Cond.methodLink RX3 194 yX2_takesMail, Cond.instanceMethod yX2_takesMail, Cond.selects RX2 yX2_takesMail yX2_takesMail, Cond.code yX2_takesMail cX2_takesMail 1 (some .boolean), Cond.methodLink RX3 201 yX0_add, Cond.instanceMethod yX0_add]
def wsX3_runTicks_r6 : List Cond := [Cond.selects RX0 yX0_add yX0_add, Cond.initialized RX0, Cond.code yX0_add cX0_add 2 (some .boolean), Cond.fieldLink RX0 13 "RobotWorld$Box" "count" "I", Cond.fieldLink RX0 7 "RobotWorld$Box" "numbers" "[I", Cond.methodLink RX3 165 yX3_receive, Cond.static yX3_receive, Cond.code yX3_receive cX3_receive 2 (some .boolean), Cond.fieldLink RX3 206 "RobotWorld$Box" "count" "I", Cond.methodLink RX3 209 yX0_removeFirst, Cond.instanceMethod yX0_removeFirst, Cond.selects RX0 yX0_removeFirst yX0_removeFirst, Cond.code yX0_removeFirst cX0_removeFirst 2 (some .int), Cond.methodLink RX0 17 arraycopyName, Cond.native arraycopyName, Cond.static arraycopyName, Cond.initialized "java/lang/System", Cond.methodLink RX3 169 yX2_fallAsleep, Cond.instanceMethod yX2_fallAsleep, Cond.selects RX2 yX2_fallAsleep yX2_fallAsleep, Cond.code yX2_fallAsleep cX2_fallAsleep 2 none, Cond.methodLink RX3 173 yX1_firstStep, Cond.instanceMethod yX1_firstStep, Cond.selects RX1 yX1_firstStep yX1_firstStep]
def wsX3_runTicks_r7 : List Cond := [Cond.code yX1_firstStep cX1_firstStep 7 (some .int), Cond.methodLink RX1 52 yX1_wayLength, Cond.instanceMethod yX1_wayLength, Cond.selects RX1 yX1_wayLength yX1_wayLength, Cond.code yX1_wayLength cX1_wayLength 5 (some .int), Cond.methodLink RX1 44 yX1_measureFrom, Cond.instanceMethod yX1_measureFrom, Cond.selects RX1 yX1_measureFrom yX1_measureFrom, Cond.code yX1_measureFrom cX1_measureFrom 12 none, Cond.fieldLink RX1 28 "RobotWorld$Land" "goal" "I", Cond.fieldLink RX1 22 "RobotWorld$Land" "steps" "[I", Cond.fieldLink RX1 25 "RobotWorld$Land" "queue" "[I", Cond.methodLink RX1 31 yJ7_fill_53178, Cond.static yJ7_fill_53178, Cond.initialized RJ7, Cond.code yJ7_fill_53178 cJ7_fill_53178 4 none, Cond.methodLink RX1 48 yX1_stepsOf, Cond.instanceMethod yX1_stepsOf, Cond.selects RX1 yX1_stepsOf yX1_stepsOf, Cond.code yX1_stepsOf cX1_stepsOf 3 (some .int), Cond.methodLink RX3 176 yX3_calculated, Cond.static yX3_calculated, Cond.code yX3_calculated cX3_calculated 4 (some .int)]
def wsX3_runTicks : List Cond := .code yX3_runTicks cX3_runTicks 4 (some .int) :: ((wsX3_runTicks_r1 ++ (wsX3_runTicks_r2 ++ (wsX3_runTicks_r3 ++ (wsX3_runTicks_r4 ++ (wsX3_runTicks_r5 ++ (wsX3_runTicks_r6 ++ wsX3_runTicks_r7)))))) ++ wsX30 ++ wsX20 ++ wsX10 ++ wsX00)
def wsX3_kill_r1 : List Cond := [Cond.fieldLink RX3 95 "RobotWorld$Robot" "carried" "I", Cond.fieldLink RX3 18 "RobotWorld" "land" "LRobotWorld$Land;", Cond.fieldLink RX3 98 "RobotWorld$Robot" "x" "I", Cond.fieldLink RX3 101 "RobotWorld$Robot" "y" "I", Cond.fieldLink RX3 52 "RobotWorld$Robot" "state" "I", Cond.methodLink RX3 59 yX3_robotOf, Cond.instanceMethod yX3_robotOf, Cond.selects RX3 yX3_robotOf yX3_robotOf, Cond.initialized RX3, Cond.code yX3_robotOf cX3_robotOf 2 (some (.object "RobotWorld$Robot")), Cond.fieldLink RX3 24 "RobotWorld" "robots" "[LRobotWorld$Robot;", Cond.methodLink RX3 104 yX3_isNumber, Cond.instanceMethod yX3_isNumber, Cond.selects RX3 yX3_isNumber yX3_isNumber, Cond.code yX3_isNumber cX3_isNumber 2 (some .boolean), Cond.methodLink RX3 46 yX1_addItem, Cond.instanceMethod yX1_addItem, Cond.selects RX1 yX1_addItem yX1_addItem, Cond.initialized RX1, Cond.code yX1_addItem cX1_addItem 4 (some .boolean), Cond.fieldLink RX1 9 "RobotWorld$Land" "width" "I", Cond.fieldLink RX1 18 "RobotWorld$Land" "contents" "[I", Cond.methodLink RX1 41 yX1_isOpen, Cond.instanceMethod yX1_isOpen]
def wsX3_kill_r2 : List Cond := [Cond.selects RX1 yX1_isOpen yX1_isOpen, Cond.code yX1_isOpen cX1_isOpen 3 (some .boolean), Cond.fieldLink RX1 15 "RobotWorld$Land" "height" "I"]
def wsX3_kill : List Cond := .code yX3_kill cX3_kill 5 (some .int) :: ((wsX3_kill_r1 ++ wsX3_kill_r2) ++ wsX20 ++ wsX30 ++ wsX10)
def wsX3_robotX : List Cond := .code yX3_robotX cX3_robotX 3 (some .int) :: ([.fieldLink RX3 98 "RobotWorld$Robot" "x" "I", .methodLink RX3 59 yX3_robotOf, .instanceMethod yX3_robotOf, .selects RX3 yX3_robotOf yX3_robotOf, .initialized RX3, .code yX3_robotOf cX3_robotOf 2 (some (.object "RobotWorld$Robot")), .fieldLink RX3 24 "RobotWorld" "robots" "[LRobotWorld$Robot;", .fieldLink RX3 52 "RobotWorld$Robot" "state" "I", .methodLink RX3 104 yX3_isNumber, .instanceMethod yX3_isNumber, .selects RX3 yX3_isNumber yX3_isNumber, .code yX3_isNumber cX3_isNumber 2 (some .boolean)] ++ wsX20 ++ wsX30)
def wsX3_robotY : List Cond := .code yX3_robotY cX3_robotY 3 (some .int) :: ([.fieldLink RX3 101 "RobotWorld$Robot" "y" "I", .methodLink RX3 59 yX3_robotOf, .instanceMethod yX3_robotOf, .selects RX3 yX3_robotOf yX3_robotOf, .initialized RX3, .code yX3_robotOf cX3_robotOf 2 (some (.object "RobotWorld$Robot")), .fieldLink RX3 24 "RobotWorld" "robots" "[LRobotWorld$Robot;", .fieldLink RX3 52 "RobotWorld$Robot" "state" "I", .methodLink RX3 104 yX3_isNumber, .instanceMethod yX3_isNumber, .selects RX3 yX3_isNumber yX3_isNumber, .code yX3_isNumber cX3_isNumber 2 (some .boolean)] ++ wsX20 ++ wsX30)
def wsX3_robotState : List Cond := .code yX3_robotState cX3_robotState 2 (some .int) :: ([.fieldLink RX3 24 "RobotWorld" "robots" "[LRobotWorld$Robot;", .fieldLink RX3 52 "RobotWorld$Robot" "state" "I", .methodLink RX3 104 yX3_isNumber, .instanceMethod yX3_isNumber, .selects RX3 yX3_isNumber yX3_isNumber, .initialized RX3, .code yX3_isNumber cX3_isNumber 2 (some .boolean)] ++ wsX30 ++ wsX20)
def wsX3_reg : List Cond := .code yX3_reg cX3_reg 4 (some .int) :: ([.methodLink RX3 59 yX3_robotOf, .instanceMethod yX3_robotOf, .selects RX3 yX3_robotOf yX3_robotOf, .initialized RX3, .code yX3_robotOf cX3_robotOf 2 (some (.object "RobotWorld$Robot")), .fieldLink RX3 24 "RobotWorld" "robots" "[LRobotWorld$Robot;", .fieldLink RX3 52 "RobotWorld$Robot" "state" "I", .methodLink RX3 104 yX3_isNumber, .instanceMethod yX3_isNumber, .selects RX3 yX3_isNumber yX3_isNumber, .code yX3_isNumber cX3_isNumber 2 (some .boolean), .methodLink RX3 107 yX2_show, .instanceMethod yX2_show, .selects RX2 yX2_show yX2_show, .initialized RX2, .code yX2_show cX2_show 2 (some .int), .fieldLink RX2 19 "RobotWorld$Robot" "registers" "[I", .fieldLink RX2 40 "RobotWorld$Robot" "place" "I", .fieldLink RX2 49 "RobotWorld$Robot" "carried" "I", .fieldLink RX2 27 "RobotWorld$Robot" "box" "LRobotWorld$Box;", .fieldLink RX2 61 "RobotWorld$Box" "count" "I", .fieldLink RX2 43 "RobotWorld$Robot" "words" "I", .fieldLink RX2 46 "RobotWorld$Robot" "wordsDone" "I", .fieldLink RX2 52 "RobotWorld$Robot" "sleepLeft" "I"] ++ wsX30 ++ wsX20 ++ wsX00)
def wsX3_pathLength_r1 : List Cond := [Cond.fieldLink RX3 18 "RobotWorld" "land" "LRobotWorld$Land;", Cond.methodLink RX3 114 yX1_wayLength, Cond.instanceMethod yX1_wayLength, Cond.selects RX1 yX1_wayLength yX1_wayLength, Cond.initialized RX1, Cond.code yX1_wayLength cX1_wayLength 5 (some .int), Cond.methodLink RX1 41 yX1_isOpen, Cond.instanceMethod yX1_isOpen, Cond.selects RX1 yX1_isOpen yX1_isOpen, Cond.code yX1_isOpen cX1_isOpen 3 (some .boolean), Cond.fieldLink RX1 9 "RobotWorld$Land" "width" "I", Cond.fieldLink RX1 15 "RobotWorld$Land" "height" "I", Cond.fieldLink RX1 18 "RobotWorld$Land" "contents" "[I", Cond.methodLink RX1 44 yX1_measureFrom, Cond.instanceMethod yX1_measureFrom, Cond.selects RX1 yX1_measureFrom yX1_measureFrom, Cond.code yX1_measureFrom cX1_measureFrom 12 none, Cond.fieldLink RX1 28 "RobotWorld$Land" "goal" "I", Cond.fieldLink RX1 22 "RobotWorld$Land" "steps" "[I", Cond.fieldLink RX1 25 "RobotWorld$Land" "queue" "[I", Cond.methodLink RX1 31 yJ7_fill_53178, Cond.static yJ7_fill_53178, Cond.initialized RJ7, Cond.code yJ7_fill_53178 cJ7_fill_53178 4 none]
def wsX3_pathLength_r2 : List Cond := [Cond.methodLink RX1 48 yX1_stepsOf, Cond.instanceMethod yX1_stepsOf, Cond.selects RX1 yX1_stepsOf yX1_stepsOf, Cond.code yX1_stepsOf cX1_stepsOf 3 (some .int), Cond.methodLink RX1 37 yX1_isInside, Cond.instanceMethod yX1_isInside, Cond.selects RX1 yX1_isInside yX1_isInside, Cond.code yX1_isInside cX1_isInside 3 (some .boolean)]
def wsX3_pathLength : List Cond := .code yX3_pathLength cX3_pathLength 5 (some .int) :: ((wsX3_pathLength_r1 ++ wsX3_pathLength_r2) ++ wsX30 ++ wsX10)
def wsX3_now : List Cond := .code yX3_now cX3_now 1 (some .int) :: ([.fieldLink RX3 88 "RobotWorld" "clock" "I"] ++ wsX30)
def wsX3_setClock : List Cond := .code yX3_setClock cX3_setClock 2 none :: ([.fieldLink RX3 88 "RobotWorld" "clock" "I"] ++ wsX30)
def wsX4_near : List Cond := .code yX4_near cX4_near 3 (some .int) :: ([])
def wsX4_init_ : List Cond := .code yX4_init_ cX4_init_ 2 none :: ([.fieldLink RX4 7 "RobotWorldModel" "isWall" "[Z", .fieldLink RX4 13 "RobotWorldModel" "items" "[I", .fieldLink RX4 17 "RobotWorldModel" "state" "[I", .fieldLink RX4 67 "RobotWorldModel" "most" "I", .fieldLink RX4 79 "RobotWorldModel" "last" "I", .fieldLink RX4 82 "RobotWorldModel" "clock" "I"] ++ wsX40)
def wsX4_init_r1 : List Cond := [Cond.methodLink RX4 1 objectInit, Cond.instanceMethod objectInit, Cond.code objectInit ⟨#[0xb1]⟩ 1 none, Cond.arrayClass .boolean, Cond.fieldLink RX4 7 "RobotWorldModel" "isWall" "[Z", Cond.arrayClass .int, Cond.fieldLink RX4 13 "RobotWorldModel" "items" "[I", Cond.fieldLink RX4 17 "RobotWorldModel" "state" "[I", Cond.fieldLink RX4 20 "RobotWorldModel" "xs" "[I", Cond.fieldLink RX4 23 "RobotWorldModel" "ys" "[I", Cond.fieldLink RX4 26 "RobotWorldModel" "program" "[I", Cond.fieldLink RX4 29 "RobotWorldModel" "length" "[I", Cond.fieldLink RX4 32 "RobotWorldModel" "registers" "[I", Cond.fieldLink RX4 35 "RobotWorldModel" "place" "[I", Cond.fieldLink RX4 38 "RobotWorldModel" "load" "[I", Cond.fieldLink RX4 41 "RobotWorldModel" "box" "[I", Cond.fieldLink RX4 44 "RobotWorldModel" "boxed" "[I", Cond.fieldLink RX4 47 "RobotWorldModel" "sleeps" "[I", Cond.fieldLink RX4 50 "RobotWorldModel" "did" "[I", Cond.fieldLink RX4 53 "RobotWorldModel" "far" "[I", Cond.fieldLink RX4 60 "RobotWorldModel" "width" "I", Cond.fieldLink RX4 64 "RobotWorldModel" "height" "I", Cond.fieldLink RX4 67 "RobotWorldModel" "most" "I", Cond.fieldLink RX4 70 "RobotWorldModel" "longest" "I"]
def wsX4_init_r2 : List Cond := [Cond.fieldLink RX4 73 "RobotWorldModel" "mails" "I", Cond.methodLink RX4 56 yX4_near, Cond.static yX4_near, Cond.initialized RX4, Cond.code yX4_near cX4_near 3 (some .int), Cond.methodLink RX4 76 yX4_init_, Cond.instanceMethod yX4_init_, Cond.selects RX4 yX4_init_ yX4_init_, Cond.code yX4_init_ cX4_init_ 2 none, Cond.fieldLink RX4 79 "RobotWorldModel" "last" "I", Cond.fieldLink RX4 82 "RobotWorldModel" "clock" "I"]
def wsX4_init : List Cond := .code yX4_init cX4_init 6 none :: ((wsX4_init_r1 ++ wsX4_init_r2) ++ wsX40)
def wsX4_in : List Cond := .code yX4_in cX4_in 3 (some .boolean) :: ([])
def wsX4_isInside : List Cond := .code yX4_isInside cX4_isInside 3 (some .boolean) :: ([.fieldLink RX4 60 "RobotWorldModel" "width" "I", .fieldLink RX4 64 "RobotWorldModel" "height" "I", .methodLink RX4 85 yX4_in, .static yX4_in, .initialized RX4, .code yX4_in cX4_in 3 (some .boolean)] ++ wsX40)
def wsX4_square : List Cond := .code yX4_square cX4_square 2 (some .int) :: ([])
def wsX4_robotAt : List Cond := .code yX4_robotAt cX4_robotAt 4 (some .int) :: ([.fieldLink RX4 67 "RobotWorldModel" "most" "I", .fieldLink RX4 17 "RobotWorldModel" "state" "[I", .fieldLink RX4 20 "RobotWorldModel" "xs" "[I", .fieldLink RX4 23 "RobotWorldModel" "ys" "[I"] ++ wsX40)
def wsX4_setWall : List Cond := .code yX4_setWall cX4_setWall 4 (some .boolean) :: ([.fieldLink RX4 7 "RobotWorldModel" "isWall" "[Z", .fieldLink RX4 13 "RobotWorldModel" "items" "[I", .methodLink RX4 89 yX4_isInside, .instanceMethod yX4_isInside, .selects RX4 yX4_isInside yX4_isInside, .initialized RX4, .code yX4_isInside cX4_isInside 3 (some .boolean), .fieldLink RX4 60 "RobotWorldModel" "width" "I", .fieldLink RX4 64 "RobotWorldModel" "height" "I", .methodLink RX4 85 yX4_in, .static yX4_in, .code yX4_in cX4_in 3 (some .boolean), .methodLink RX4 93 yX4_robotAt, .instanceMethod yX4_robotAt, .selects RX4 yX4_robotAt yX4_robotAt, .code yX4_robotAt cX4_robotAt 4 (some .int), .fieldLink RX4 67 "RobotWorldModel" "most" "I", .fieldLink RX4 17 "RobotWorldModel" "state" "[I", .fieldLink RX4 20 "RobotWorldModel" "xs" "[I", .fieldLink RX4 23 "RobotWorldModel" "ys" "[I", .methodLink RX4 97 yX4_square, .static yX4_square, .code yX4_square cX4_square 2 (some .int)] ++ wsX40)
def wsX4_putItem : List Cond := .code yX4_putItem cX4_putItem 3 (some .boolean) :: ([.fieldLink RX4 7 "RobotWorldModel" "isWall" "[Z", .fieldLink RX4 13 "RobotWorldModel" "items" "[I", .methodLink RX4 89 yX4_isInside, .instanceMethod yX4_isInside, .selects RX4 yX4_isInside yX4_isInside, .initialized RX4, .code yX4_isInside cX4_isInside 3 (some .boolean), .fieldLink RX4 60 "RobotWorldModel" "width" "I", .fieldLink RX4 64 "RobotWorldModel" "height" "I", .methodLink RX4 85 yX4_in, .static yX4_in, .code yX4_in cX4_in 3 (some .boolean), .methodLink RX4 97 yX4_square, .static yX4_square, .code yX4_square cX4_square 2 (some .int)] ++ wsX40)
def wsX4_spawn_r1 : List Cond := [Cond.fieldLink RX4 7 "RobotWorldModel" "isWall" "[Z", Cond.fieldLink RX4 67 "RobotWorldModel" "most" "I", Cond.fieldLink RX4 17 "RobotWorldModel" "state" "[I", Cond.fieldLink RX4 20 "RobotWorldModel" "xs" "[I", Cond.fieldLink RX4 23 "RobotWorldModel" "ys" "[I", Cond.fieldLink RX4 29 "RobotWorldModel" "length" "[I", Cond.fieldLink RX4 35 "RobotWorldModel" "place" "[I", Cond.fieldLink RX4 38 "RobotWorldModel" "load" "[I", Cond.fieldLink RX4 44 "RobotWorldModel" "boxed" "[I", Cond.fieldLink RX4 47 "RobotWorldModel" "sleeps" "[I", Cond.fieldLink RX4 50 "RobotWorldModel" "did" "[I", Cond.fieldLink RX4 32 "RobotWorldModel" "registers" "[I", Cond.methodLink RX4 89 yX4_isInside, Cond.instanceMethod yX4_isInside, Cond.selects RX4 yX4_isInside yX4_isInside, Cond.initialized RX4, Cond.code yX4_isInside cX4_isInside 3 (some .boolean), Cond.fieldLink RX4 60 "RobotWorldModel" "width" "I", Cond.fieldLink RX4 64 "RobotWorldModel" "height" "I", Cond.methodLink RX4 85 yX4_in, Cond.static yX4_in, Cond.code yX4_in cX4_in 3 (some .boolean), Cond.methodLink RX4 97 yX4_square, Cond.static yX4_square]
def wsX4_spawn_r2 : List Cond := [Cond.code yX4_square cX4_square 2 (some .int), Cond.methodLink RX4 93 yX4_robotAt, Cond.instanceMethod yX4_robotAt, Cond.selects RX4 yX4_robotAt yX4_robotAt, Cond.code yX4_robotAt cX4_robotAt 4 (some .int)]
def wsX4_spawn : List Cond := .code yX4_spawn cX4_spawn 5 (some .int) :: ((wsX4_spawn_r1 ++ wsX4_spawn_r2) ++ wsX40)
def wsX4_isRobot : List Cond := .code yX4_isRobot cX4_isRobot 2 (some .boolean) :: ([.fieldLink RX4 67 "RobotWorldModel" "most" "I", .fieldLink RX4 17 "RobotWorldModel" "state" "[I", .methodLink RX4 85 yX4_in, .static yX4_in, .initialized RX4, .code yX4_in cX4_in 3 (some .boolean)] ++ wsX40)
def wsX4_load : List Cond := .code yX4_load cX4_load 3 (some .boolean) :: ([.fieldLink RX4 17 "RobotWorldModel" "state" "[I", .fieldLink RX4 29 "RobotWorldModel" "length" "[I", .fieldLink RX4 70 "RobotWorldModel" "longest" "I", .fieldLink RX4 26 "RobotWorldModel" "program" "[I", .methodLink RX4 100 yX4_isRobot, .instanceMethod yX4_isRobot, .selects RX4 yX4_isRobot yX4_isRobot, .initialized RX4, .code yX4_isRobot cX4_isRobot 2 (some .boolean), .fieldLink RX4 67 "RobotWorldModel" "most" "I", .methodLink RX4 85 yX4_in, .static yX4_in, .code yX4_in cX4_in 3 (some .boolean)] ++ wsX40)
def wsX4_startRobot : List Cond := .code yX4_startRobot cX4_startRobot 2 (some .int) :: ([.fieldLink RX4 17 "RobotWorldModel" "state" "[I", .methodLink RX4 100 yX4_isRobot, .instanceMethod yX4_isRobot, .selects RX4 yX4_isRobot yX4_isRobot, .initialized RX4, .code yX4_isRobot cX4_isRobot 2 (some .boolean), .fieldLink RX4 67 "RobotWorldModel" "most" "I", .methodLink RX4 85 yX4_in, .static yX4_in, .code yX4_in cX4_in 3 (some .boolean)] ++ wsX40)
def wsX4_kill : List Cond := .code yX4_kill cX4_kill 4 (some .int) :: ([.fieldLink RX4 20 "RobotWorldModel" "xs" "[I", .fieldLink RX4 23 "RobotWorldModel" "ys" "[I", .fieldLink RX4 13 "RobotWorldModel" "items" "[I", .fieldLink RX4 38 "RobotWorldModel" "load" "[I", .fieldLink RX4 17 "RobotWorldModel" "state" "[I", .methodLink RX4 100 yX4_isRobot, .instanceMethod yX4_isRobot, .selects RX4 yX4_isRobot yX4_isRobot, .initialized RX4, .code yX4_isRobot cX4_isRobot 2 (some .boolean), .fieldLink RX4 67 "RobotWorldModel" "most" "I", .methodLink RX4 85 yX4_in, .static yX4_in, .code yX4_in cX4_in 3 (some .boolean), .methodLink RX4 97 yX4_square, .static yX4_square, .code yX4_square cX4_square 2 (some .int)] ++ wsX40)
def wsX4_besideX : List Cond := .code yX4_besideX cX4_besideX 2 (some .int) :: ([])
def wsX4_besideY : List Cond := .code yX4_besideY cX4_besideY 2 (some .int) :: ([])
def wsX4_isFree : List Cond := .code yX4_isFree cX4_isFree 3 (some .boolean) :: ([.fieldLink RX4 7 "RobotWorldModel" "isWall" "[Z", .methodLink RX4 89 yX4_isInside, .instanceMethod yX4_isInside, .selects RX4 yX4_isInside yX4_isInside, .initialized RX4, .code yX4_isInside cX4_isInside 3 (some .boolean), .fieldLink RX4 60 "RobotWorldModel" "width" "I", .fieldLink RX4 64 "RobotWorldModel" "height" "I", .methodLink RX4 85 yX4_in, .static yX4_in, .code yX4_in cX4_in 3 (some .boolean), .methodLink RX4 97 yX4_square, .static yX4_square, .code yX4_square cX4_square 2 (some .int)] ++ wsX40)
def wsX4_reach_r1 : List Cond := [Cond.fieldLink RX4 53 "RobotWorldModel" "far" "[I", Cond.methodLink RX4 108 yX4_besideX, Cond.static yX4_besideX, Cond.initialized RX4, Cond.code yX4_besideX cX4_besideX 2 (some .int), Cond.methodLink RX4 111 yX4_besideY, Cond.static yX4_besideY, Cond.code yX4_besideY cX4_besideY 2 (some .int), Cond.methodLink RX4 114 yX4_isFree, Cond.instanceMethod yX4_isFree, Cond.selects RX4 yX4_isFree yX4_isFree, Cond.code yX4_isFree cX4_isFree 3 (some .boolean), Cond.fieldLink RX4 7 "RobotWorldModel" "isWall" "[Z", Cond.methodLink RX4 89 yX4_isInside, Cond.instanceMethod yX4_isInside, Cond.selects RX4 yX4_isInside yX4_isInside, Cond.code yX4_isInside cX4_isInside 3 (some .boolean), Cond.fieldLink RX4 60 "RobotWorldModel" "width" "I", Cond.fieldLink RX4 64 "RobotWorldModel" "height" "I", Cond.methodLink RX4 85 yX4_in, Cond.static yX4_in, Cond.code yX4_in cX4_in 3 (some .boolean), Cond.methodLink RX4 97 yX4_square, Cond.static yX4_square]
def wsX4_reach_r2 : List Cond := [Cond.code yX4_square cX4_square 2 (some .int)]
def wsX4_reach : List Cond := .code yX4_reach cX4_reach 8 (some .boolean) :: ((wsX4_reach_r1 ++ wsX4_reach_r2) ++ wsX40)
def wsX4_measure_r1 : List Cond := [Cond.fieldLink RX4 53 "RobotWorldModel" "far" "[I", Cond.constant RX4 104 (100000), Cond.fieldLink RX4 64 "RobotWorldModel" "height" "I", Cond.fieldLink RX4 60 "RobotWorldModel" "width" "I", Cond.methodLink RX4 97 yX4_square, Cond.static yX4_square, Cond.initialized RX4, Cond.code yX4_square cX4_square 2 (some .int), Cond.methodLink RX4 105 yX4_reach, Cond.instanceMethod yX4_reach, Cond.selects RX4 yX4_reach yX4_reach, Cond.code yX4_reach cX4_reach 8 (some .boolean), Cond.methodLink RX4 108 yX4_besideX, Cond.static yX4_besideX, Cond.code yX4_besideX cX4_besideX 2 (some .int), Cond.methodLink RX4 111 yX4_besideY, Cond.static yX4_besideY, Cond.code yX4_besideY cX4_besideY 2 (some .int), Cond.methodLink RX4 114 yX4_isFree, Cond.instanceMethod yX4_isFree, Cond.selects RX4 yX4_isFree yX4_isFree, Cond.code yX4_isFree cX4_isFree 3 (some .boolean), Cond.fieldLink RX4 7 "RobotWorldModel" "isWall" "[Z", Cond.methodLink RX4 89 yX4_isInside]
def wsX4_measure_r2 : List Cond := [Cond.instanceMethod yX4_isInside, Cond.selects RX4 yX4_isInside yX4_isInside, Cond.code yX4_isInside cX4_isInside 3 (some .boolean), Cond.methodLink RX4 85 yX4_in, Cond.static yX4_in, Cond.code yX4_in cX4_in 3 (some .boolean)]
def wsX4_measure : List Cond := .code yX4_measure cX4_measure 7 none :: ((wsX4_measure_r1 ++ wsX4_measure_r2) ++ wsX40)
def wsX4_pathLength_r1 : List Cond := [Cond.fieldLink RX4 53 "RobotWorldModel" "far" "[I", Cond.constant RX4 104 (100000), Cond.methodLink RX4 114 yX4_isFree, Cond.instanceMethod yX4_isFree, Cond.selects RX4 yX4_isFree yX4_isFree, Cond.initialized RX4, Cond.code yX4_isFree cX4_isFree 3 (some .boolean), Cond.fieldLink RX4 7 "RobotWorldModel" "isWall" "[Z", Cond.methodLink RX4 89 yX4_isInside, Cond.instanceMethod yX4_isInside, Cond.selects RX4 yX4_isInside yX4_isInside, Cond.code yX4_isInside cX4_isInside 3 (some .boolean), Cond.fieldLink RX4 60 "RobotWorldModel" "width" "I", Cond.fieldLink RX4 64 "RobotWorldModel" "height" "I", Cond.methodLink RX4 85 yX4_in, Cond.static yX4_in, Cond.code yX4_in cX4_in 3 (some .boolean), Cond.methodLink RX4 97 yX4_square, Cond.static yX4_square, Cond.code yX4_square cX4_square 2 (some .int), Cond.methodLink RX4 117 yX4_measure, Cond.instanceMethod yX4_measure, Cond.selects RX4 yX4_measure yX4_measure, Cond.code yX4_measure cX4_measure 7 none]
def wsX4_pathLength_r2 : List Cond := [Cond.methodLink RX4 105 yX4_reach, Cond.instanceMethod yX4_reach, Cond.selects RX4 yX4_reach yX4_reach, Cond.code yX4_reach cX4_reach 8 (some .boolean), Cond.methodLink RX4 108 yX4_besideX, Cond.static yX4_besideX, Cond.code yX4_besideX cX4_besideX 2 (some .int), Cond.methodLink RX4 111 yX4_besideY, Cond.static yX4_besideY, Cond.code yX4_besideY cX4_besideY 2 (some .int)]
def wsX4_pathLength : List Cond := .code yX4_pathLength cX4_pathLength 6 (some .int) :: ((wsX4_pathLength_r1 ++ wsX4_pathLength_r2) ++ wsX40)
def wsX4_way_r1 : List Cond := [Cond.fieldLink RX4 20 "RobotWorldModel" "xs" "[I", Cond.fieldLink RX4 23 "RobotWorldModel" "ys" "[I", Cond.fieldLink RX4 53 "RobotWorldModel" "far" "[I", Cond.methodLink RX4 121 yX4_pathLength, Cond.instanceMethod yX4_pathLength, Cond.selects RX4 yX4_pathLength yX4_pathLength, Cond.initialized RX4, Cond.code yX4_pathLength cX4_pathLength 6 (some .int), Cond.constant RX4 104 (100000), Cond.methodLink RX4 114 yX4_isFree, Cond.instanceMethod yX4_isFree, Cond.selects RX4 yX4_isFree yX4_isFree, Cond.code yX4_isFree cX4_isFree 3 (some .boolean), Cond.fieldLink RX4 7 "RobotWorldModel" "isWall" "[Z", Cond.methodLink RX4 89 yX4_isInside, Cond.instanceMethod yX4_isInside, Cond.selects RX4 yX4_isInside yX4_isInside, Cond.code yX4_isInside cX4_isInside 3 (some .boolean), Cond.fieldLink RX4 60 "RobotWorldModel" "width" "I", Cond.fieldLink RX4 64 "RobotWorldModel" "height" "I", Cond.methodLink RX4 85 yX4_in, Cond.static yX4_in, Cond.code yX4_in cX4_in 3 (some .boolean), Cond.methodLink RX4 97 yX4_square]
def wsX4_way_r2 : List Cond := [Cond.static yX4_square, Cond.code yX4_square cX4_square 2 (some .int), Cond.methodLink RX4 117 yX4_measure, Cond.instanceMethod yX4_measure, Cond.selects RX4 yX4_measure yX4_measure, Cond.code yX4_measure cX4_measure 7 none, Cond.methodLink RX4 105 yX4_reach, Cond.instanceMethod yX4_reach, Cond.selects RX4 yX4_reach yX4_reach, Cond.code yX4_reach cX4_reach 8 (some .boolean), Cond.methodLink RX4 108 yX4_besideX, Cond.static yX4_besideX, Cond.code yX4_besideX cX4_besideX 2 (some .int), Cond.methodLink RX4 111 yX4_besideY, Cond.static yX4_besideY, Cond.code yX4_besideY cX4_besideY 2 (some .int)]
def wsX4_way : List Cond := .code yX4_way cX4_way 9 (some .int) :: ((wsX4_way_r1 ++ wsX4_way_r2) ++ wsX40)
def wsX4_at : List Cond := .code yX4_at cX4_at 3 (some .int) :: ([.fieldLink RX4 7 "RobotWorldModel" "isWall" "[Z", .fieldLink RX4 13 "RobotWorldModel" "items" "[I", .methodLink RX4 89 yX4_isInside, .instanceMethod yX4_isInside, .selects RX4 yX4_isInside yX4_isInside, .initialized RX4, .code yX4_isInside cX4_isInside 3 (some .boolean), .fieldLink RX4 60 "RobotWorldModel" "width" "I", .fieldLink RX4 64 "RobotWorldModel" "height" "I", .methodLink RX4 85 yX4_in, .static yX4_in, .code yX4_in cX4_in 3 (some .boolean), .methodLink RX4 97 yX4_square, .static yX4_square, .code yX4_square cX4_square 2 (some .int), .methodLink RX4 93 yX4_robotAt, .instanceMethod yX4_robotAt, .selects RX4 yX4_robotAt yX4_robotAt, .code yX4_robotAt cX4_robotAt 4 (some .int), .fieldLink RX4 67 "RobotWorldModel" "most" "I", .fieldLink RX4 17 "RobotWorldModel" "state" "[I", .fieldLink RX4 20 "RobotWorldModel" "xs" "[I", .fieldLink RX4 23 "RobotWorldModel" "ys" "[I"] ++ wsX40)
def wsX4_reckon : List Cond := .code yX4_reckon cX4_reckon 8 none :: ([.fieldLink RX4 32 "RobotWorldModel" "registers" "[I", .fieldLink RX4 17 "RobotWorldModel" "state" "[I", .fieldLink RX4 35 "RobotWorldModel" "place" "[I"] ++ wsX40)
def wsX4_go_r1 : List Cond := [Cond.fieldLink RX4 20 "RobotWorldModel" "xs" "[I", Cond.fieldLink RX4 23 "RobotWorldModel" "ys" "[I", Cond.methodLink RX4 108 yX4_besideX, Cond.static yX4_besideX, Cond.initialized RX4, Cond.code yX4_besideX cX4_besideX 2 (some .int), Cond.methodLink RX4 111 yX4_besideY, Cond.static yX4_besideY, Cond.code yX4_besideY cX4_besideY 2 (some .int), Cond.methodLink RX4 114 yX4_isFree, Cond.instanceMethod yX4_isFree, Cond.selects RX4 yX4_isFree yX4_isFree, Cond.code yX4_isFree cX4_isFree 3 (some .boolean), Cond.fieldLink RX4 7 "RobotWorldModel" "isWall" "[Z", Cond.methodLink RX4 89 yX4_isInside, Cond.instanceMethod yX4_isInside, Cond.selects RX4 yX4_isInside yX4_isInside, Cond.code yX4_isInside cX4_isInside 3 (some .boolean), Cond.fieldLink RX4 60 "RobotWorldModel" "width" "I", Cond.fieldLink RX4 64 "RobotWorldModel" "height" "I", Cond.methodLink RX4 85 yX4_in, Cond.static yX4_in, Cond.code yX4_in cX4_in 3 (some .boolean), Cond.methodLink RX4 97 yX4_square]
def wsX4_go_r2 : List Cond := [Cond.static yX4_square, Cond.code yX4_square cX4_square 2 (some .int), Cond.methodLink RX4 93 yX4_robotAt, Cond.instanceMethod yX4_robotAt, Cond.selects RX4 yX4_robotAt yX4_robotAt, Cond.code yX4_robotAt cX4_robotAt 4 (some .int), Cond.fieldLink RX4 67 "RobotWorldModel" "most" "I", Cond.fieldLink RX4 17 "RobotWorldModel" "state" "[I"]
def wsX4_go : List Cond := .code yX4_go cX4_go 5 (some .int) :: ((wsX4_go_r1 ++ wsX4_go_r2) ++ wsX40)
def wsX4_send : List Cond := .code yX4_send cX4_send 4 (some .boolean) :: ([.fieldLink RX4 17 "RobotWorldModel" "state" "[I", .fieldLink RX4 44 "RobotWorldModel" "boxed" "[I", .fieldLink RX4 73 "RobotWorldModel" "mails" "I", .fieldLink RX4 41 "RobotWorldModel" "box" "[I", .methodLink RX4 100 yX4_isRobot, .instanceMethod yX4_isRobot, .selects RX4 yX4_isRobot yX4_isRobot, .initialized RX4, .code yX4_isRobot cX4_isRobot 2 (some .boolean), .fieldLink RX4 67 "RobotWorldModel" "most" "I", .methodLink RX4 85 yX4_in, .static yX4_in, .code yX4_in cX4_in 3 (some .boolean)] ++ wsX40)
def wsX4_receive : List Cond := .code yX4_receive cX4_receive 4 none :: ([.fieldLink RX4 44 "RobotWorldModel" "boxed" "[I", .fieldLink RX4 17 "RobotWorldModel" "state" "[I", .fieldLink RX4 35 "RobotWorldModel" "place" "[I", .fieldLink RX4 32 "RobotWorldModel" "registers" "[I", .fieldLink RX4 41 "RobotWorldModel" "box" "[I"] ++ wsX40)
def wsX4_tell_r1 : List Cond := [Cond.fieldLink RX4 32 "RobotWorldModel" "registers" "[I", Cond.fieldLink RX4 20 "RobotWorldModel" "xs" "[I", Cond.fieldLink RX4 23 "RobotWorldModel" "ys" "[I", Cond.fieldLink RX4 82 "RobotWorldModel" "clock" "I", Cond.fieldLink RX4 38 "RobotWorldModel" "load" "[I", Cond.methodLink RX4 156 yX4_way, Cond.instanceMethod yX4_way, Cond.selects RX4 yX4_way yX4_way, Cond.initialized RX4, Cond.code yX4_way cX4_way 9 (some .int), Cond.fieldLink RX4 53 "RobotWorldModel" "far" "[I", Cond.methodLink RX4 121 yX4_pathLength, Cond.instanceMethod yX4_pathLength, Cond.selects RX4 yX4_pathLength yX4_pathLength, Cond.code yX4_pathLength cX4_pathLength 6 (some .int), Cond.constant RX4 104 (100000), Cond.methodLink RX4 114 yX4_isFree, Cond.instanceMethod yX4_isFree, Cond.selects RX4 yX4_isFree yX4_isFree, Cond.code yX4_isFree cX4_isFree 3 (some .boolean), Cond.fieldLink RX4 7 "RobotWorldModel" "isWall" "[Z", Cond.methodLink RX4 89 yX4_isInside, Cond.instanceMethod yX4_isInside, Cond.selects RX4 yX4_isInside yX4_isInside]
def wsX4_tell_r2 : List Cond := [Cond.code yX4_isInside cX4_isInside 3 (some .boolean), Cond.fieldLink RX4 60 "RobotWorldModel" "width" "I", Cond.fieldLink RX4 64 "RobotWorldModel" "height" "I", Cond.methodLink RX4 85 yX4_in, Cond.static yX4_in, Cond.code yX4_in cX4_in 3 (some .boolean), Cond.methodLink RX4 97 yX4_square, Cond.static yX4_square, Cond.code yX4_square cX4_square 2 (some .int), Cond.methodLink RX4 117 yX4_measure, Cond.instanceMethod yX4_measure, Cond.selects RX4 yX4_measure yX4_measure, Cond.code yX4_measure cX4_measure 7 none, Cond.methodLink RX4 105 yX4_reach, Cond.instanceMethod yX4_reach, Cond.selects RX4 yX4_reach yX4_reach, Cond.code yX4_reach cX4_reach 8 (some .boolean), Cond.methodLink RX4 108 yX4_besideX, Cond.static yX4_besideX, Cond.code yX4_besideX cX4_besideX 2 (some .int), Cond.methodLink RX4 111 yX4_besideY, Cond.static yX4_besideY, Cond.code yX4_besideY cX4_besideY 2 (some .int)]
def wsX4_tell : List Cond := .code yX4_tell cX4_tell 5 none :: ((wsX4_tell_r1 ++ wsX4_tell_r2) ++ wsX40)
def wsX4_act_r1 : List Cond := [Cond.fieldLink RX4 32 "RobotWorldModel" "registers" "[I", Cond.fieldLink RX4 20 "RobotWorldModel" "xs" "[I", Cond.fieldLink RX4 23 "RobotWorldModel" "ys" "[I", Cond.fieldLink RX4 13 "RobotWorldModel" "items" "[I", Cond.fieldLink RX4 38 "RobotWorldModel" "load" "[I", Cond.fieldLink RX4 17 "RobotWorldModel" "state" "[I", Cond.fieldLink RX4 47 "RobotWorldModel" "sleeps" "[I", Cond.methodLink RX4 97 yX4_square, Cond.static yX4_square, Cond.initialized RX4, Cond.code yX4_square cX4_square 2 (some .int), Cond.methodLink RX4 141 yX4_go, Cond.instanceMethod yX4_go, Cond.selects RX4 yX4_go yX4_go, Cond.code yX4_go cX4_go 5 (some .int), Cond.methodLink RX4 108 yX4_besideX, Cond.static yX4_besideX, Cond.code yX4_besideX cX4_besideX 2 (some .int), Cond.methodLink RX4 111 yX4_besideY, Cond.static yX4_besideY, Cond.code yX4_besideY cX4_besideY 2 (some .int), Cond.methodLink RX4 114 yX4_isFree, Cond.instanceMethod yX4_isFree, Cond.selects RX4 yX4_isFree yX4_isFree]
def wsX4_act_r2 : List Cond := [Cond.code yX4_isFree cX4_isFree 3 (some .boolean), Cond.fieldLink RX4 7 "RobotWorldModel" "isWall" "[Z", Cond.methodLink RX4 89 yX4_isInside, Cond.instanceMethod yX4_isInside, Cond.selects RX4 yX4_isInside yX4_isInside, Cond.code yX4_isInside cX4_isInside 3 (some .boolean), Cond.fieldLink RX4 60 "RobotWorldModel" "width" "I", Cond.fieldLink RX4 64 "RobotWorldModel" "height" "I", Cond.methodLink RX4 85 yX4_in, Cond.static yX4_in, Cond.code yX4_in cX4_in 3 (some .boolean), Cond.methodLink RX4 93 yX4_robotAt, Cond.instanceMethod yX4_robotAt, Cond.selects RX4 yX4_robotAt yX4_robotAt, Cond.code yX4_robotAt cX4_robotAt 4 (some .int), Cond.fieldLink RX4 67 "RobotWorldModel" "most" "I", Cond.methodLink RX4 144 yX4_at, Cond.instanceMethod yX4_at, Cond.selects RX4 yX4_at yX4_at, Cond.code yX4_at cX4_at 3 (some .int), Cond.methodLink RX4 147 yX4_send, Cond.instanceMethod yX4_send, Cond.selects RX4 yX4_send yX4_send, Cond.code yX4_send cX4_send 4 (some .boolean)]
def wsX4_act_r3 : List Cond := [Cond.fieldLink RX4 44 "RobotWorldModel" "boxed" "[I", Cond.fieldLink RX4 73 "RobotWorldModel" "mails" "I", Cond.fieldLink RX4 41 "RobotWorldModel" "box" "[I", Cond.methodLink RX4 100 yX4_isRobot, Cond.instanceMethod yX4_isRobot, Cond.selects RX4 yX4_isRobot yX4_isRobot, Cond.code yX4_isRobot cX4_isRobot 2 (some .boolean), Cond.methodLink RX4 150 yX4_receive, Cond.instanceMethod yX4_receive, Cond.selects RX4 yX4_receive yX4_receive, Cond.code yX4_receive cX4_receive 4 none, Cond.fieldLink RX4 35 "RobotWorldModel" "place" "[I", Cond.methodLink RX4 153 yX4_tell, Cond.instanceMethod yX4_tell, Cond.selects RX4 yX4_tell yX4_tell, Cond.code yX4_tell cX4_tell 5 none, Cond.fieldLink RX4 82 "RobotWorldModel" "clock" "I", Cond.methodLink RX4 156 yX4_way, Cond.instanceMethod yX4_way, Cond.selects RX4 yX4_way yX4_way, Cond.code yX4_way cX4_way 9 (some .int), Cond.fieldLink RX4 53 "RobotWorldModel" "far" "[I", Cond.methodLink RX4 121 yX4_pathLength, Cond.instanceMethod yX4_pathLength]
def wsX4_act_r4 : List Cond := [Cond.selects RX4 yX4_pathLength yX4_pathLength, Cond.code yX4_pathLength cX4_pathLength 6 (some .int), Cond.constant RX4 104 (100000), Cond.methodLink RX4 117 yX4_measure, Cond.instanceMethod yX4_measure, Cond.selects RX4 yX4_measure yX4_measure, Cond.code yX4_measure cX4_measure 7 none, Cond.methodLink RX4 105 yX4_reach, Cond.instanceMethod yX4_reach, Cond.selects RX4 yX4_reach yX4_reach, Cond.code yX4_reach cX4_reach 8 (some .boolean)]
def wsX4_act : List Cond := .code yX4_act cX4_act 9 none :: ((wsX4_act_r1 ++ (wsX4_act_r2 ++ (wsX4_act_r3 ++ wsX4_act_r4))) ++ wsX40)
def wsX4_run_r1 : List Cond := [Cond.fieldLink RX4 35 "RobotWorldModel" "place" "[I", Cond.fieldLink RX4 29 "RobotWorldModel" "length" "[I", Cond.fieldLink RX4 17 "RobotWorldModel" "state" "[I", Cond.fieldLink RX4 26 "RobotWorldModel" "program" "[I", Cond.fieldLink RX4 32 "RobotWorldModel" "registers" "[I", Cond.fieldLink RX4 50 "RobotWorldModel" "did" "[I", Cond.methodLink RX4 85 yX4_in, Cond.static yX4_in, Cond.initialized RX4, Cond.code yX4_in cX4_in 3 (some .boolean), Cond.methodLink RX4 133 yX4_reckon, Cond.instanceMethod yX4_reckon, Cond.selects RX4 yX4_reckon yX4_reckon, Cond.code yX4_reckon cX4_reckon 8 none, Cond.methodLink RX4 137 yX4_act, Cond.instanceMethod yX4_act, Cond.selects RX4 yX4_act yX4_act, Cond.code yX4_act cX4_act 9 none, Cond.fieldLink RX4 20 "RobotWorldModel" "xs" "[I", Cond.fieldLink RX4 23 "RobotWorldModel" "ys" "[I", Cond.fieldLink RX4 13 "RobotWorldModel" "items" "[I", Cond.fieldLink RX4 38 "RobotWorldModel" "load" "[I", Cond.fieldLink RX4 47 "RobotWorldModel" "sleeps" "[I", Cond.methodLink RX4 97 yX4_square]
def wsX4_run_r2 : List Cond := [Cond.static yX4_square, Cond.code yX4_square cX4_square 2 (some .int), Cond.methodLink RX4 141 yX4_go, Cond.instanceMethod yX4_go, Cond.selects RX4 yX4_go yX4_go, Cond.code yX4_go cX4_go 5 (some .int), Cond.methodLink RX4 108 yX4_besideX, Cond.static yX4_besideX, Cond.code yX4_besideX cX4_besideX 2 (some .int), Cond.methodLink RX4 111 yX4_besideY, Cond.static yX4_besideY, Cond.code yX4_besideY cX4_besideY 2 (some .int), Cond.methodLink RX4 114 yX4_isFree, Cond.instanceMethod yX4_isFree, Cond.selects RX4 yX4_isFree yX4_isFree, Cond.code yX4_isFree cX4_isFree 3 (some .boolean), Cond.fieldLink RX4 7 "RobotWorldModel" "isWall" "[Z", Cond.methodLink RX4 89 yX4_isInside, Cond.instanceMethod yX4_isInside, Cond.selects RX4 yX4_isInside yX4_isInside, Cond.code yX4_isInside cX4_isInside 3 (some .boolean), Cond.fieldLink RX4 60 "RobotWorldModel" "width" "I", Cond.fieldLink RX4 64 "RobotWorldModel" "height" "I", Cond.methodLink RX4 93 yX4_robotAt]
def wsX4_run_r3 : List Cond := [Cond.instanceMethod yX4_robotAt, Cond.selects RX4 yX4_robotAt yX4_robotAt, Cond.code yX4_robotAt cX4_robotAt 4 (some .int), Cond.fieldLink RX4 67 "RobotWorldModel" "most" "I", Cond.methodLink RX4 144 yX4_at, Cond.instanceMethod yX4_at, Cond.selects RX4 yX4_at yX4_at, Cond.code yX4_at cX4_at 3 (some .int), Cond.methodLink RX4 147 yX4_send, Cond.instanceMethod yX4_send, Cond.selects RX4 yX4_send yX4_send, Cond.code yX4_send cX4_send 4 (some .boolean), Cond.fieldLink RX4 44 "RobotWorldModel" "boxed" "[I", Cond.fieldLink RX4 73 "RobotWorldModel" "mails" "I", Cond.fieldLink RX4 41 "RobotWorldModel" "box" "[I", Cond.methodLink RX4 100 yX4_isRobot, Cond.instanceMethod yX4_isRobot, Cond.selects RX4 yX4_isRobot yX4_isRobot, Cond.code yX4_isRobot cX4_isRobot 2 (some .boolean), Cond.methodLink RX4 150 yX4_receive, Cond.instanceMethod yX4_receive, Cond.selects RX4 yX4_receive yX4_receive, Cond.code yX4_receive cX4_receive 4 none, Cond.methodLink RX4 153 yX4_tell]
def wsX4_run_r4 : List Cond := [Cond.instanceMethod yX4_tell, Cond.selects RX4 yX4_tell yX4_tell, Cond.code yX4_tell cX4_tell 5 none, Cond.fieldLink RX4 82 "RobotWorldModel" "clock" "I", Cond.methodLink RX4 156 yX4_way, Cond.instanceMethod yX4_way, Cond.selects RX4 yX4_way yX4_way, Cond.code yX4_way cX4_way 9 (some .int), Cond.fieldLink RX4 53 "RobotWorldModel" "far" "[I", Cond.methodLink RX4 121 yX4_pathLength, Cond.instanceMethod yX4_pathLength, Cond.selects RX4 yX4_pathLength yX4_pathLength, Cond.code yX4_pathLength cX4_pathLength 6 (some .int), Cond.constant RX4 104 (100000), Cond.methodLink RX4 117 yX4_measure, Cond.instanceMethod yX4_measure, Cond.selects RX4 yX4_measure yX4_measure, Cond.code yX4_measure cX4_measure 7 none, Cond.methodLink RX4 105 yX4_reach, Cond.instanceMethod yX4_reach, Cond.selects RX4 yX4_reach yX4_reach, Cond.code yX4_reach cX4_reach 8 (some .boolean)]
def wsX4_run : List Cond := .code yX4_run cX4_run 8 none :: ((wsX4_run_r1 ++ (wsX4_run_r2 ++ (wsX4_run_r3 ++ wsX4_run_r4))) ++ wsX40)
def wsX4_tick_r1 : List Cond := [Cond.fieldLink RX4 67 "RobotWorldModel" "most" "I", Cond.fieldLink RX4 17 "RobotWorldModel" "state" "[I", Cond.fieldLink RX4 47 "RobotWorldModel" "sleeps" "[I", Cond.fieldLink RX4 79 "RobotWorldModel" "last" "I", Cond.fieldLink RX4 82 "RobotWorldModel" "clock" "I", Cond.methodLink RX4 125 yX4_run, Cond.instanceMethod yX4_run, Cond.selects RX4 yX4_run yX4_run, Cond.initialized RX4, Cond.code yX4_run cX4_run 8 none, Cond.fieldLink RX4 35 "RobotWorldModel" "place" "[I", Cond.fieldLink RX4 29 "RobotWorldModel" "length" "[I", Cond.fieldLink RX4 26 "RobotWorldModel" "program" "[I", Cond.fieldLink RX4 32 "RobotWorldModel" "registers" "[I", Cond.fieldLink RX4 50 "RobotWorldModel" "did" "[I", Cond.methodLink RX4 85 yX4_in, Cond.static yX4_in, Cond.code yX4_in cX4_in 3 (some .boolean), Cond.methodLink RX4 133 yX4_reckon, Cond.instanceMethod yX4_reckon, Cond.selects RX4 yX4_reckon yX4_reckon, Cond.code yX4_reckon cX4_reckon 8 none, Cond.methodLink RX4 137 yX4_act, Cond.instanceMethod yX4_act]
def wsX4_tick_r2 : List Cond := [Cond.selects RX4 yX4_act yX4_act, Cond.code yX4_act cX4_act 9 none, Cond.fieldLink RX4 20 "RobotWorldModel" "xs" "[I", Cond.fieldLink RX4 23 "RobotWorldModel" "ys" "[I", Cond.fieldLink RX4 13 "RobotWorldModel" "items" "[I", Cond.fieldLink RX4 38 "RobotWorldModel" "load" "[I", Cond.methodLink RX4 97 yX4_square, Cond.static yX4_square, Cond.code yX4_square cX4_square 2 (some .int), Cond.methodLink RX4 141 yX4_go, Cond.instanceMethod yX4_go, Cond.selects RX4 yX4_go yX4_go, Cond.code yX4_go cX4_go 5 (some .int), Cond.methodLink RX4 108 yX4_besideX, Cond.static yX4_besideX, Cond.code yX4_besideX cX4_besideX 2 (some .int), Cond.methodLink RX4 111 yX4_besideY, Cond.static yX4_besideY, Cond.code yX4_besideY cX4_besideY 2 (some .int), Cond.methodLink RX4 114 yX4_isFree, Cond.instanceMethod yX4_isFree, Cond.selects RX4 yX4_isFree yX4_isFree, Cond.code yX4_isFree cX4_isFree 3 (some .boolean), Cond.fieldLink RX4 7 "RobotWorldModel" "isWall" "[Z"]
def wsX4_tick_r3 : List Cond := [Cond.methodLink RX4 89 yX4_isInside, Cond.instanceMethod yX4_isInside, Cond.selects RX4 yX4_isInside yX4_isInside, Cond.code yX4_isInside cX4_isInside 3 (some .boolean), Cond.fieldLink RX4 60 "RobotWorldModel" "width" "I", Cond.fieldLink RX4 64 "RobotWorldModel" "height" "I", Cond.methodLink RX4 93 yX4_robotAt, Cond.instanceMethod yX4_robotAt, Cond.selects RX4 yX4_robotAt yX4_robotAt, Cond.code yX4_robotAt cX4_robotAt 4 (some .int), Cond.methodLink RX4 144 yX4_at, Cond.instanceMethod yX4_at, Cond.selects RX4 yX4_at yX4_at, Cond.code yX4_at cX4_at 3 (some .int), Cond.methodLink RX4 147 yX4_send, Cond.instanceMethod yX4_send, Cond.selects RX4 yX4_send yX4_send, Cond.code yX4_send cX4_send 4 (some .boolean), Cond.fieldLink RX4 44 "RobotWorldModel" "boxed" "[I", Cond.fieldLink RX4 73 "RobotWorldModel" "mails" "I", Cond.fieldLink RX4 41 "RobotWorldModel" "box" "[I", Cond.methodLink RX4 100 yX4_isRobot, Cond.instanceMethod yX4_isRobot, Cond.selects RX4 yX4_isRobot yX4_isRobot]
def wsX4_tick_r4 : List Cond := [Cond.code yX4_isRobot cX4_isRobot 2 (some .boolean), Cond.methodLink RX4 150 yX4_receive, Cond.instanceMethod yX4_receive, Cond.selects RX4 yX4_receive yX4_receive, Cond.code yX4_receive cX4_receive 4 none, Cond.methodLink RX4 153 yX4_tell, Cond.instanceMethod yX4_tell, Cond.selects RX4 yX4_tell yX4_tell, Cond.code yX4_tell cX4_tell 5 none, Cond.methodLink RX4 156 yX4_way, Cond.instanceMethod yX4_way, Cond.selects RX4 yX4_way yX4_way, Cond.code yX4_way cX4_way 9 (some .int), Cond.fieldLink RX4 53 "RobotWorldModel" "far" "[I", Cond.methodLink RX4 121 yX4_pathLength, Cond.instanceMethod yX4_pathLength, Cond.selects RX4 yX4_pathLength yX4_pathLength, Cond.code yX4_pathLength cX4_pathLength 6 (some .int), Cond.constant RX4 104 (100000), Cond.methodLink RX4 117 yX4_measure, Cond.instanceMethod yX4_measure, Cond.selects RX4 yX4_measure yX4_measure, Cond.code yX4_measure cX4_measure 7 none, Cond.methodLink RX4 105 yX4_reach]
def wsX4_tick_r5 : List Cond := [Cond.instanceMethod yX4_reach, Cond.selects RX4 yX4_reach yX4_reach, Cond.code yX4_reach cX4_reach 8 (some .boolean)]
def wsX4_tick : List Cond := .code yX4_tick cX4_tick 4 (some .int) :: ((wsX4_tick_r1 ++ (wsX4_tick_r2 ++ (wsX4_tick_r3 ++ (wsX4_tick_r4 ++ wsX4_tick_r5)))) ++ wsX40)
def wsX4_runTicks_r1 : List Cond := [Cond.methodLink RX4 85 yX4_in, Cond.static yX4_in, Cond.initialized RX4, Cond.code yX4_in cX4_in 3 (some .boolean), Cond.methodLink RX4 129 yX4_tick, Cond.instanceMethod yX4_tick, Cond.selects RX4 yX4_tick yX4_tick, Cond.code yX4_tick cX4_tick 4 (some .int), Cond.fieldLink RX4 67 "RobotWorldModel" "most" "I", Cond.fieldLink RX4 17 "RobotWorldModel" "state" "[I", Cond.fieldLink RX4 47 "RobotWorldModel" "sleeps" "[I", Cond.fieldLink RX4 79 "RobotWorldModel" "last" "I", Cond.fieldLink RX4 82 "RobotWorldModel" "clock" "I", Cond.methodLink RX4 125 yX4_run, Cond.instanceMethod yX4_run, Cond.selects RX4 yX4_run yX4_run, Cond.code yX4_run cX4_run 8 none, Cond.fieldLink RX4 35 "RobotWorldModel" "place" "[I", Cond.fieldLink RX4 29 "RobotWorldModel" "length" "[I", Cond.fieldLink RX4 26 "RobotWorldModel" "program" "[I", Cond.fieldLink RX4 32 "RobotWorldModel" "registers" "[I", Cond.fieldLink RX4 50 "RobotWorldModel" "did" "[I", Cond.methodLink RX4 133 yX4_reckon, Cond.instanceMethod yX4_reckon]
def wsX4_runTicks_r2 : List Cond := [Cond.selects RX4 yX4_reckon yX4_reckon, Cond.code yX4_reckon cX4_reckon 8 none, Cond.methodLink RX4 137 yX4_act, Cond.instanceMethod yX4_act, Cond.selects RX4 yX4_act yX4_act, Cond.code yX4_act cX4_act 9 none, Cond.fieldLink RX4 20 "RobotWorldModel" "xs" "[I", Cond.fieldLink RX4 23 "RobotWorldModel" "ys" "[I", Cond.fieldLink RX4 13 "RobotWorldModel" "items" "[I", Cond.fieldLink RX4 38 "RobotWorldModel" "load" "[I", Cond.methodLink RX4 97 yX4_square, Cond.static yX4_square, Cond.code yX4_square cX4_square 2 (some .int), Cond.methodLink RX4 141 yX4_go, Cond.instanceMethod yX4_go, Cond.selects RX4 yX4_go yX4_go, Cond.code yX4_go cX4_go 5 (some .int), Cond.methodLink RX4 108 yX4_besideX, Cond.static yX4_besideX, Cond.code yX4_besideX cX4_besideX 2 (some .int), Cond.methodLink RX4 111 yX4_besideY, Cond.static yX4_besideY, Cond.code yX4_besideY cX4_besideY 2 (some .int), Cond.methodLink RX4 114 yX4_isFree]
def wsX4_runTicks_r3 : List Cond := [Cond.instanceMethod yX4_isFree, Cond.selects RX4 yX4_isFree yX4_isFree, Cond.code yX4_isFree cX4_isFree 3 (some .boolean), Cond.fieldLink RX4 7 "RobotWorldModel" "isWall" "[Z", Cond.methodLink RX4 89 yX4_isInside, Cond.instanceMethod yX4_isInside, Cond.selects RX4 yX4_isInside yX4_isInside, Cond.code yX4_isInside cX4_isInside 3 (some .boolean), Cond.fieldLink RX4 60 "RobotWorldModel" "width" "I", Cond.fieldLink RX4 64 "RobotWorldModel" "height" "I", Cond.methodLink RX4 93 yX4_robotAt, Cond.instanceMethod yX4_robotAt, Cond.selects RX4 yX4_robotAt yX4_robotAt, Cond.code yX4_robotAt cX4_robotAt 4 (some .int), Cond.methodLink RX4 144 yX4_at, Cond.instanceMethod yX4_at, Cond.selects RX4 yX4_at yX4_at, Cond.code yX4_at cX4_at 3 (some .int), Cond.methodLink RX4 147 yX4_send, Cond.instanceMethod yX4_send, Cond.selects RX4 yX4_send yX4_send, Cond.code yX4_send cX4_send 4 (some .boolean), Cond.fieldLink RX4 44 "RobotWorldModel" "boxed" "[I", Cond.fieldLink RX4 73 "RobotWorldModel" "mails" "I"]
def wsX4_runTicks_r4 : List Cond := [Cond.fieldLink RX4 41 "RobotWorldModel" "box" "[I", Cond.methodLink RX4 100 yX4_isRobot, Cond.instanceMethod yX4_isRobot, Cond.selects RX4 yX4_isRobot yX4_isRobot, Cond.code yX4_isRobot cX4_isRobot 2 (some .boolean), Cond.methodLink RX4 150 yX4_receive, Cond.instanceMethod yX4_receive, Cond.selects RX4 yX4_receive yX4_receive, Cond.code yX4_receive cX4_receive 4 none, Cond.methodLink RX4 153 yX4_tell, Cond.instanceMethod yX4_tell, Cond.selects RX4 yX4_tell yX4_tell, Cond.code yX4_tell cX4_tell 5 none, Cond.methodLink RX4 156 yX4_way, Cond.instanceMethod yX4_way, Cond.selects RX4 yX4_way yX4_way, Cond.code yX4_way cX4_way 9 (some .int), Cond.fieldLink RX4 53 "RobotWorldModel" "far" "[I", Cond.methodLink RX4 121 yX4_pathLength, Cond.instanceMethod yX4_pathLength, Cond.selects RX4 yX4_pathLength yX4_pathLength, Cond.code yX4_pathLength cX4_pathLength 6 (some .int), Cond.constant RX4 104 (100000), Cond.methodLink RX4 117 yX4_measure]
def wsX4_runTicks_r5 : List Cond := [Cond.instanceMethod yX4_measure, Cond.selects RX4 yX4_measure yX4_measure, Cond.code yX4_measure cX4_measure 7 none, Cond.methodLink RX4 105 yX4_reach, Cond.instanceMethod yX4_reach, Cond.selects RX4 yX4_reach yX4_reach, Cond.code yX4_reach cX4_reach 8 (some .boolean)]
def wsX4_runTicks : List Cond := .code yX4_runTicks cX4_runTicks 4 (some .int) :: ((wsX4_runTicks_r1 ++ (wsX4_runTicks_r2 ++ (wsX4_runTicks_r3 ++ (wsX4_runTicks_r4 ++ wsX4_runTicks_r5)))) ++ wsX40)
def wsX4_robotX : List Cond := .code yX4_robotX cX4_robotX 2 (some .int) :: ([.fieldLink RX4 20 "RobotWorldModel" "xs" "[I", .methodLink RX4 100 yX4_isRobot, .instanceMethod yX4_isRobot, .selects RX4 yX4_isRobot yX4_isRobot, .initialized RX4, .code yX4_isRobot cX4_isRobot 2 (some .boolean), .fieldLink RX4 67 "RobotWorldModel" "most" "I", .fieldLink RX4 17 "RobotWorldModel" "state" "[I", .methodLink RX4 85 yX4_in, .static yX4_in, .code yX4_in cX4_in 3 (some .boolean)] ++ wsX40)
def wsX4_robotY : List Cond := .code yX4_robotY cX4_robotY 2 (some .int) :: ([.fieldLink RX4 23 "RobotWorldModel" "ys" "[I", .methodLink RX4 100 yX4_isRobot, .instanceMethod yX4_isRobot, .selects RX4 yX4_isRobot yX4_isRobot, .initialized RX4, .code yX4_isRobot cX4_isRobot 2 (some .boolean), .fieldLink RX4 67 "RobotWorldModel" "most" "I", .fieldLink RX4 17 "RobotWorldModel" "state" "[I", .methodLink RX4 85 yX4_in, .static yX4_in, .code yX4_in cX4_in 3 (some .boolean)] ++ wsX40)
def wsX4_robotState : List Cond := .code yX4_robotState cX4_robotState 2 (some .int) :: ([.fieldLink RX4 67 "RobotWorldModel" "most" "I", .fieldLink RX4 17 "RobotWorldModel" "state" "[I", .methodLink RX4 85 yX4_in, .static yX4_in, .initialized RX4, .code yX4_in cX4_in 3 (some .boolean)] ++ wsX40)
def wsX4_reg : List Cond := .code yX4_reg cX4_reg 3 (some .int) :: ([.fieldLink RX4 35 "RobotWorldModel" "place" "[I", .fieldLink RX4 38 "RobotWorldModel" "load" "[I", .fieldLink RX4 44 "RobotWorldModel" "boxed" "[I", .fieldLink RX4 29 "RobotWorldModel" "length" "[I", .fieldLink RX4 50 "RobotWorldModel" "did" "[I", .fieldLink RX4 17 "RobotWorldModel" "state" "[I", .fieldLink RX4 47 "RobotWorldModel" "sleeps" "[I", .fieldLink RX4 32 "RobotWorldModel" "registers" "[I", .methodLink RX4 100 yX4_isRobot, .instanceMethod yX4_isRobot, .selects RX4 yX4_isRobot yX4_isRobot, .initialized RX4, .code yX4_isRobot cX4_isRobot 2 (some .boolean), .fieldLink RX4 67 "RobotWorldModel" "most" "I", .methodLink RX4 85 yX4_in, .static yX4_in, .code yX4_in cX4_in 3 (some .boolean)] ++ wsX40)
def wsX4_now : List Cond := .code yX4_now cX4_now 1 (some .int) :: ([.fieldLink RX4 82 "RobotWorldModel" "clock" "I"] ++ wsX40)
def wsX4_setClock : List Cond := .code yX4_setClock cX4_setClock 2 none :: ([.fieldLink RX4 82 "RobotWorldModel" "clock" "I"] ++ wsX40)
def wsJ9_max_7cf53 : List Cond := .code yJ9_max_7cf53 cJ9_max_7cf53 2 (some .int) :: ([])
def wsJ9_min_7cf53 : List Cond := .code yJ9_min_7cf53 cJ9_min_7cf53 2 (some .int) :: ([])
def wsL_cell : List Cond := .code yL_cell cL_cell 2 (some .int) :: ([])
def wsL_law_r1 : List Cond := [Cond.classLink RL 7 RX3, Cond.instantiable RX3 4, Cond.initialized RX3, Cond.classLink RL 18 RX4, Cond.instantiable RX4 22, Cond.initialized RX4, Cond.methodLink RL 9 yL_cell, Cond.static yL_cell, Cond.initialized RL, Cond.code yL_cell cL_cell 2 (some .int), Cond.methodLink RL 15 yX3_init, Cond.instanceMethod yX3_init, Cond.code yX3_init cX3_init 9 none, Cond.methodLink RX3 1 objectInit, Cond.instanceMethod objectInit, Cond.code objectInit ⟨#[0xb1]⟩ 1 none, Cond.classLink RX3 7 RX1, Cond.instantiable RX1 6, Cond.initialized RX1, Cond.fieldLink RX3 18 "RobotWorld" "land" "LRobotWorld$Land;", Cond.classLink RX3 22 RX2, Cond.fieldLink RX3 24 "RobotWorld" "robots" "[LRobotWorld$Robot;", Cond.instantiable RX2 12, Cond.initialized RX2]
def wsL_law_r2 : List Cond := [Cond.methodLink RX3 11 yX3_bounded, Cond.static yX3_bounded, Cond.code yX3_bounded cX3_bounded 2 (some .int), Cond.methodLink RX3 118 Lib.Math.min.name, Cond.static Lib.Math.min.name, Cond.initialized "java/lang/Math", Cond.code Lib.Math.min.name Lib.Math.min.code 2 (some .int), Cond.methodLink RX3 123 Lib.Math.max.name, Cond.static Lib.Math.max.name, Cond.code Lib.Math.max.name Lib.Math.max.code 2 (some .int), Cond.methodLink RX3 15 yX1_init, Cond.instanceMethod yX1_init, Cond.code yX1_init cX1_init 3 none, Cond.methodLink RX1 3 objectInit, Cond.fieldLink RX1 9 "RobotWorld$Land" "width" "I", Cond.fieldLink RX1 15 "RobotWorld$Land" "height" "I", Cond.arrayClass .int, Cond.fieldLink RX1 18 "RobotWorld$Land" "contents" "[I", Cond.fieldLink RX1 22 "RobotWorld$Land" "steps" "[I", Cond.fieldLink RX1 25 "RobotWorld$Land" "queue" "[I", Cond.fieldLink RX1 28 "RobotWorld$Land" "goal" "I", Cond.methodLink RX3 28 yX2_init, Cond.instanceMethod yX2_init, Cond.code yX2_init cX2_init 4 none]
def wsL_law_r3 : List Cond := [Cond.methodLink RX2 3 objectInit, Cond.fieldLink RX2 9 "RobotWorld$Robot" "number" "I", Cond.fieldLink RX2 15 "RobotWorld$Robot" "program" "[I", Cond.fieldLink RX2 19 "RobotWorld$Robot" "registers" "[I", Cond.classLink RX2 22 RX0, Cond.instantiable RX0 2, Cond.initialized RX0, Cond.fieldLink RX2 27 "RobotWorld$Robot" "box" "LRobotWorld$Box;", Cond.methodLink RX2 24 yX0_init, Cond.instanceMethod yX0_init, Cond.code yX0_init cX0_init 2 none, Cond.methodLink RX0 1 objectInit, Cond.fieldLink RX0 7 "RobotWorld$Box" "numbers" "[I", Cond.methodLink RX3 31 yX3_startOver, Cond.instanceMethod yX3_startOver, Cond.selects RX3 yX3_startOver yX3_startOver, Cond.code yX3_startOver cX3_startOver 2 none, Cond.fieldLink RX3 52 "RobotWorld$Robot" "state" "I", Cond.fieldLink RX3 88 "RobotWorld" "clock" "I", Cond.fieldLink RX3 77 "RobotWorld" "lastRan" "I", Cond.methodLink RX3 126 yX1_clear, Cond.instanceMethod yX1_clear, Cond.selects RX1 yX1_clear yX1_clear, Cond.code yX1_clear cX1_clear 1 none]
def wsL_law_r4 : List Cond := [Cond.methodLink RX1 31 yJ7_fill_53178, Cond.static yJ7_fill_53178, Cond.initialized RJ7, Cond.code yJ7_fill_53178 cJ7_fill_53178 4 none, Cond.methodLink RL 20 yX4_init, Cond.instanceMethod yX4_init, Cond.code yX4_init cX4_init 6 none, Cond.methodLink RX4 1 objectInit, Cond.arrayClass .boolean, Cond.fieldLink RX4 7 "RobotWorldModel" "isWall" "[Z", Cond.fieldLink RX4 13 "RobotWorldModel" "items" "[I", Cond.fieldLink RX4 17 "RobotWorldModel" "state" "[I", Cond.fieldLink RX4 20 "RobotWorldModel" "xs" "[I", Cond.fieldLink RX4 23 "RobotWorldModel" "ys" "[I", Cond.fieldLink RX4 26 "RobotWorldModel" "program" "[I", Cond.fieldLink RX4 29 "RobotWorldModel" "length" "[I", Cond.fieldLink RX4 32 "RobotWorldModel" "registers" "[I", Cond.fieldLink RX4 35 "RobotWorldModel" "place" "[I", Cond.fieldLink RX4 38 "RobotWorldModel" "load" "[I", Cond.fieldLink RX4 41 "RobotWorldModel" "box" "[I", Cond.fieldLink RX4 44 "RobotWorldModel" "boxed" "[I", Cond.fieldLink RX4 47 "RobotWorldModel" "sleeps" "[I", Cond.fieldLink RX4 50 "RobotWorldModel" "did" "[I", Cond.fieldLink RX4 53 "RobotWorldModel" "far" "[I"]
def wsL_law_r5 : List Cond := [Cond.fieldLink RX4 60 "RobotWorldModel" "width" "I", Cond.fieldLink RX4 64 "RobotWorldModel" "height" "I", Cond.fieldLink RX4 67 "RobotWorldModel" "most" "I", Cond.fieldLink RX4 70 "RobotWorldModel" "longest" "I", Cond.fieldLink RX4 73 "RobotWorldModel" "mails" "I", Cond.methodLink RX4 56 yX4_near, Cond.static yX4_near, Cond.code yX4_near cX4_near 3 (some .int), Cond.methodLink RX4 76 yX4_init_, Cond.instanceMethod yX4_init_, Cond.selects RX4 yX4_init_ yX4_init_, Cond.code yX4_init_ cX4_init_ 2 none, Cond.fieldLink RX4 79 "RobotWorldModel" "last" "I", Cond.fieldLink RX4 82 "RobotWorldModel" "clock" "I", Cond.methodLink RL 21 yX3_init_, Cond.instanceMethod yX3_init_, Cond.selects RX3 yX3_init_ yX3_init_, Cond.code yX3_init_ cX3_init_ 1 none, Cond.methodLink RL 24 yX4_init_, Cond.methodLink RL 25 yX3_setWall, Cond.instanceMethod yX3_setWall, Cond.selects RX3 yX3_setWall yX3_setWall, Cond.code yX3_setWall cX3_setWall 4 (some .boolean), Cond.methodLink RX3 34 yX1_isInside]
def wsL_law_r6 : List Cond := [Cond.instanceMethod yX1_isInside, Cond.selects RX1 yX1_isInside yX1_isInside, Cond.code yX1_isInside cX1_isInside 3 (some .boolean), Cond.methodLink RX3 38 yX3_robotOn, Cond.instanceMethod yX3_robotOn, Cond.selects RX3 yX3_robotOn yX3_robotOn, Cond.code yX3_robotOn cX3_robotOn 5 (some (.object "RobotWorld$Robot")), Cond.fieldLink RX3 98 "RobotWorld$Robot" "x" "I", Cond.fieldLink RX3 101 "RobotWorld$Robot" "y" "I", Cond.methodLink RX3 42 yX1_changeWall, Cond.instanceMethod yX1_changeWall, Cond.selects RX1 yX1_changeWall yX1_changeWall, Cond.code yX1_changeWall cX1_changeWall 5 none, Cond.methodLink RX1 37 yX1_isInside, Cond.methodLink RL 29 yX4_setWall, Cond.instanceMethod yX4_setWall, Cond.selects RX4 yX4_setWall yX4_setWall, Cond.code yX4_setWall cX4_setWall 4 (some .boolean), Cond.methodLink RX4 89 yX4_isInside, Cond.instanceMethod yX4_isInside, Cond.selects RX4 yX4_isInside yX4_isInside, Cond.code yX4_isInside cX4_isInside 3 (some .boolean), Cond.methodLink RX4 85 yX4_in, Cond.static yX4_in]
def wsL_law_r7 : List Cond := [Cond.code yX4_in cX4_in 3 (some .boolean), Cond.methodLink RX4 93 yX4_robotAt, Cond.instanceMethod yX4_robotAt, Cond.selects RX4 yX4_robotAt yX4_robotAt, Cond.code yX4_robotAt cX4_robotAt 4 (some .int), Cond.methodLink RX4 97 yX4_square, Cond.static yX4_square, Cond.code yX4_square cX4_square 2 (some .int), Cond.methodLink RL 30 yX3_putItem, Cond.instanceMethod yX3_putItem, Cond.selects RX3 yX3_putItem yX3_putItem, Cond.code yX3_putItem cX3_putItem 3 (some .boolean), Cond.methodLink RX3 46 yX1_addItem, Cond.instanceMethod yX1_addItem, Cond.selects RX1 yX1_addItem yX1_addItem, Cond.code yX1_addItem cX1_addItem 4 (some .boolean), Cond.methodLink RX1 41 yX1_isOpen, Cond.instanceMethod yX1_isOpen, Cond.selects RX1 yX1_isOpen yX1_isOpen, Cond.code yX1_isOpen cX1_isOpen 3 (some .boolean), Cond.methodLink RL 34 yX4_putItem, Cond.instanceMethod yX4_putItem, Cond.selects RX4 yX4_putItem yX4_putItem, Cond.code yX4_putItem cX4_putItem 3 (some .boolean)]
def wsL_law_r8 : List Cond := [Cond.methodLink RL 35 yX3_spawn, Cond.instanceMethod yX3_spawn, Cond.selects RX3 yX3_spawn yX3_spawn, Cond.code yX3_spawn cX3_spawn 4 (some .int), Cond.methodLink RX3 49 yX1_isOpen, Cond.methodLink RX3 56 yX2_appear, Cond.instanceMethod yX2_appear, Cond.selects RX2 yX2_appear yX2_appear, Cond.code yX2_appear cX2_appear 3 none, Cond.fieldLink RX2 31 "RobotWorld$Robot" "x" "I", Cond.fieldLink RX2 34 "RobotWorld$Robot" "y" "I", Cond.fieldLink RX2 37 "RobotWorld$Robot" "state" "I", Cond.fieldLink RX2 40 "RobotWorld$Robot" "place" "I", Cond.fieldLink RX2 43 "RobotWorld$Robot" "words" "I", Cond.fieldLink RX2 46 "RobotWorld$Robot" "wordsDone" "I", Cond.fieldLink RX2 49 "RobotWorld$Robot" "carried" "I", Cond.fieldLink RX2 52 "RobotWorld$Robot" "sleepLeft" "I", Cond.fieldLink RX2 61 "RobotWorld$Box" "count" "I", Cond.methodLink RX2 55 yJ7_fill_53178, Cond.methodLink RL 39 yX4_spawn, Cond.instanceMethod yX4_spawn, Cond.selects RX4 yX4_spawn yX4_spawn, Cond.code yX4_spawn cX4_spawn 5 (some .int), Cond.methodLink RL 40 yX3_load]
def wsL_law_r9 : List Cond := [Cond.instanceMethod yX3_load, Cond.selects RX3 yX3_load yX3_load, Cond.code yX3_load cX3_load 4 (some .boolean), Cond.methodLink RX3 59 yX3_robotOf, Cond.instanceMethod yX3_robotOf, Cond.selects RX3 yX3_robotOf yX3_robotOf, Cond.code yX3_robotOf cX3_robotOf 2 (some (.object "RobotWorld$Robot")), Cond.methodLink RX3 104 yX3_isNumber, Cond.instanceMethod yX3_isNumber, Cond.selects RX3 yX3_isNumber yX3_isNumber, Cond.code yX3_isNumber cX3_isNumber 2 (some .boolean), Cond.methodLink RX3 63 yX2_addWord, Cond.instanceMethod yX2_addWord, Cond.selects RX2 yX2_addWord yX2_addWord, Cond.code yX2_addWord cX2_addWord 2 (some .boolean), Cond.methodLink RL 43 yX4_load, Cond.instanceMethod yX4_load, Cond.selects RX4 yX4_load yX4_load, Cond.code yX4_load cX4_load 3 (some .boolean), Cond.methodLink RX4 100 yX4_isRobot, Cond.instanceMethod yX4_isRobot, Cond.selects RX4 yX4_isRobot yX4_isRobot, Cond.code yX4_isRobot cX4_isRobot 2 (some .boolean), Cond.methodLink RL 44 yX3_startRobot]
def wsL_law_r10 : List Cond := [Cond.instanceMethod yX3_startRobot, Cond.selects RX3 yX3_startRobot yX3_startRobot, Cond.code yX3_startRobot cX3_startRobot 3 (some .int), Cond.methodLink RL 48 yX4_startRobot, Cond.instanceMethod yX4_startRobot, Cond.selects RX4 yX4_startRobot yX4_startRobot, Cond.code yX4_startRobot cX4_startRobot 2 (some .int), Cond.methodLink RL 49 yX3_tick, Cond.instanceMethod yX3_tick, Cond.selects RX3 yX3_tick yX3_tick, Cond.code yX3_tick cX3_tick 2 (some .int), Cond.fieldLink RX3 74 "RobotWorld$Robot" "number" "I", Cond.methodLink RX3 67 yX2_sleepOn, Cond.instanceMethod yX2_sleepOn, Cond.selects RX2 yX2_sleepOn yX2_sleepOn, Cond.code yX2_sleepOn cX2_sleepOn 1 none, Cond.methodLink RX3 70 yX3_nextReady, Cond.instanceMethod yX3_nextReady, Cond.selects RX3 yX3_nextReady yX3_nextReady, Cond.code yX3_nextReady cX3_nextReady 3 (some (.object "RobotWorld$Robot")), Cond.methodLink RX3 80 yX2_mustFail, Cond.instanceMethod yX2_mustFail, Cond.selects RX2 yX2_mustFail yX2_mustFail, Cond.code yX2_mustFail cX2_mustFail 4 (some .boolean)]
def wsL_law_r11 : List Cond := [Cond.static yX3_opOf, Cond.code yX3_opOf cX3_opOf 1 (some .int), Cond.static yX3_sOf, Cond.code yX3_sOf cX3_sOf 1 (some .int), Cond.static yX3_rOf, Cond.code yX3_rOf cX3_rOf 1 (some .int), Cond.methodLink RX3 84 yX3_doWord, Cond.instanceMethod yX3_doWord, Cond.selects RX3 yX3_doWord yX3_doWord, Cond.code yX3_doWord cX3_doWord 11 none, Cond.fieldLink RX3 129 "RobotWorld$Robot" "program" "[I", Cond.fieldLink RX3 133 "RobotWorld$Robot" "place" "I", Cond.fieldLink RX3 136 "RobotWorld$Robot" "registers" "[I", Cond.fieldLink RX3 95 "RobotWorld$Robot" "carried" "I", Cond.fieldLink RX3 179 "RobotWorld$Robot" "wordsDone" "I", Cond.methodLink RX3 139 yX3_opOf, Cond.methodLink RX3 142 yX3_rOf, Cond.methodLink RX3 145 yX3_sOf, Cond.methodLink RX3 148 yX3_go, Cond.instanceMethod yX3_go, Cond.selects RX3 yX3_go yX3_go, Cond.code yX3_go cX3_go 5 (some .int), Cond.fieldLink RX3 182 "RobotWorld" "EAST_BY" "[I", Cond.fieldLink RX3 185 "RobotWorld" "SOUTH_BY" "[I"]
def wsL_law_r12 : List Cond := [Cond.methodLink RX3 152 yX3_look, Cond.instanceMethod yX3_look, Cond.selects RX3 yX3_look yX3_look, Cond.code yX3_look cX3_look 3 (some .int), Cond.methodLink RX3 188 yX3_at, Cond.instanceMethod yX3_at, Cond.selects RX3 yX3_at yX3_at, Cond.code yX3_at cX3_at 5 (some .int), Cond.methodLink RX3 111 yX1_contentOf, Cond.instanceMethod yX1_contentOf, Cond.selects RX1 yX1_contentOf yX1_contentOf, Cond.code yX1_contentOf cX1_contentOf 3 (some .int), Cond.methodLink RX3 155 yX3_take, Cond.instanceMethod yX3_take, Cond.selects RX3 yX3_take yX3_take, Cond.code yX3_take cX3_take 2 (some .int), Cond.methodLink RX3 191 yX1_removeItem, Cond.instanceMethod yX1_removeItem, Cond.selects RX1 yX1_removeItem yX1_removeItem, Cond.code yX1_removeItem cX1_removeItem 4 (some .boolean), Cond.methodLink RX3 159 yX3_lay, Cond.instanceMethod yX3_lay, Cond.selects RX3 yX3_lay yX3_lay, Cond.code yX3_lay cX3_lay 2 (some .int)]
def wsL_law_r13 : List Cond := [Cond.methodLink RX3 162 yX3_send, Cond.instanceMethod yX3_send, Cond.selects RX3 yX3_send yX3_send, Cond.code yX3_send cX3_send 4 (some .int), Cond.fieldLink RX3 197 "RobotWorld$Robot" "box" "LRobotWorld$Box;", Cond.methodLink RX3 194 yX2_takesMail, Cond.instanceMethod yX2_takesMail, Cond.selects RX2 yX2_takesMail yX2_takesMail, Cond.code yX2_takesMail cX2_takesMail 1 (some .boolean), Cond.methodLink RX3 201 yX0_add, Cond.instanceMethod yX0_add, Cond.selects RX0 yX0_add yX0_add, Cond.code yX0_add cX0_add 2 (some .boolean), Cond.fieldLink RX0 13 "RobotWorld$Box" "count" "I", Cond.methodLink RX3 165 yX3_receive, Cond.static yX3_receive, Cond.code yX3_receive cX3_receive 2 (some .boolean), Cond.fieldLink RX3 206 "RobotWorld$Box" "count" "I", Cond.methodLink RX3 209 yX0_removeFirst, Cond.instanceMethod yX0_removeFirst, Cond.selects RX0 yX0_removeFirst yX0_removeFirst, Cond.code yX0_removeFirst cX0_removeFirst 2 (some .int), Cond.methodLink RX0 17 arraycopyName, Cond.native arraycopyName]
def wsL_law_r14 : List Cond := [Cond.static arraycopyName, Cond.initialized "java/lang/System", Cond.methodLink RX3 169 yX2_fallAsleep, Cond.instanceMethod yX2_fallAsleep, Cond.selects RX2 yX2_fallAsleep yX2_fallAsleep, Cond.code yX2_fallAsleep cX2_fallAsleep 2 none, Cond.methodLink RX3 173 yX1_firstStep, Cond.instanceMethod yX1_firstStep, Cond.selects RX1 yX1_firstStep yX1_firstStep, Cond.code yX1_firstStep cX1_firstStep 7 (some .int), Cond.methodLink RX1 52 yX1_wayLength, Cond.instanceMethod yX1_wayLength, Cond.selects RX1 yX1_wayLength yX1_wayLength, Cond.code yX1_wayLength cX1_wayLength 5 (some .int), Cond.methodLink RX1 44 yX1_measureFrom, Cond.instanceMethod yX1_measureFrom, Cond.selects RX1 yX1_measureFrom yX1_measureFrom, Cond.code yX1_measureFrom cX1_measureFrom 12 none, Cond.methodLink RX1 48 yX1_stepsOf, Cond.instanceMethod yX1_stepsOf, Cond.selects RX1 yX1_stepsOf yX1_stepsOf, Cond.code yX1_stepsOf cX1_stepsOf 3 (some .int), Cond.methodLink RX3 176 yX3_calculated, Cond.static yX3_calculated]
def wsL_law_r15 : List Cond := [Cond.code yX3_calculated cX3_calculated 4 (some .int), Cond.methodLink RL 53 yX4_tick, Cond.instanceMethod yX4_tick, Cond.selects RX4 yX4_tick yX4_tick, Cond.code yX4_tick cX4_tick 4 (some .int), Cond.methodLink RX4 125 yX4_run, Cond.instanceMethod yX4_run, Cond.selects RX4 yX4_run yX4_run, Cond.code yX4_run cX4_run 8 none, Cond.methodLink RX4 133 yX4_reckon, Cond.instanceMethod yX4_reckon, Cond.selects RX4 yX4_reckon yX4_reckon, Cond.code yX4_reckon cX4_reckon 8 none, Cond.methodLink RX4 137 yX4_act, Cond.instanceMethod yX4_act, Cond.selects RX4 yX4_act yX4_act, Cond.code yX4_act cX4_act 9 none, Cond.methodLink RX4 141 yX4_go, Cond.instanceMethod yX4_go, Cond.selects RX4 yX4_go yX4_go, Cond.code yX4_go cX4_go 5 (some .int), Cond.methodLink RX4 108 yX4_besideX, Cond.static yX4_besideX, Cond.code yX4_besideX cX4_besideX 2 (some .int)]
def wsL_law_r16 : List Cond := [Cond.methodLink RX4 111 yX4_besideY, Cond.static yX4_besideY, Cond.code yX4_besideY cX4_besideY 2 (some .int), Cond.methodLink RX4 114 yX4_isFree, Cond.instanceMethod yX4_isFree, Cond.selects RX4 yX4_isFree yX4_isFree, Cond.code yX4_isFree cX4_isFree 3 (some .boolean), Cond.methodLink RX4 144 yX4_at, Cond.instanceMethod yX4_at, Cond.selects RX4 yX4_at yX4_at, Cond.code yX4_at cX4_at 3 (some .int), Cond.methodLink RX4 147 yX4_send, Cond.instanceMethod yX4_send, Cond.selects RX4 yX4_send yX4_send, Cond.code yX4_send cX4_send 4 (some .boolean), Cond.methodLink RX4 150 yX4_receive, Cond.instanceMethod yX4_receive, Cond.selects RX4 yX4_receive yX4_receive, Cond.code yX4_receive cX4_receive 4 none, Cond.methodLink RX4 153 yX4_tell, Cond.instanceMethod yX4_tell, Cond.selects RX4 yX4_tell yX4_tell, Cond.code yX4_tell cX4_tell 5 none, Cond.methodLink RX4 156 yX4_way]
def wsL_law_r17 : List Cond := [Cond.instanceMethod yX4_way, Cond.selects RX4 yX4_way yX4_way, Cond.code yX4_way cX4_way 9 (some .int), Cond.methodLink RX4 121 yX4_pathLength, Cond.instanceMethod yX4_pathLength, Cond.selects RX4 yX4_pathLength yX4_pathLength, Cond.code yX4_pathLength cX4_pathLength 6 (some .int), Cond.constant RX4 104 (100000), Cond.methodLink RX4 117 yX4_measure, Cond.instanceMethod yX4_measure, Cond.selects RX4 yX4_measure yX4_measure, Cond.code yX4_measure cX4_measure 7 none, Cond.methodLink RX4 105 yX4_reach, Cond.instanceMethod yX4_reach, Cond.selects RX4 yX4_reach yX4_reach, Cond.code yX4_reach cX4_reach 8 (some .boolean), Cond.methodLink RL 54 yX3_runTicks, Cond.instanceMethod yX3_runTicks, Cond.selects RX3 yX3_runTicks yX3_runTicks, Cond.code yX3_runTicks cX3_runTicks 4 (some .int), Cond.methodLink RX3 91 yX3_tick, Cond.methodLink RL 57 yX4_runTicks, Cond.instanceMethod yX4_runTicks, Cond.selects RX4 yX4_runTicks yX4_runTicks]
def wsL_law_r18 : List Cond := [Cond.code yX4_runTicks cX4_runTicks 4 (some .int), Cond.methodLink RX4 129 yX4_tick, Cond.methodLink RL 58 yX3_kill, Cond.instanceMethod yX3_kill, Cond.selects RX3 yX3_kill yX3_kill, Cond.code yX3_kill cX3_kill 5 (some .int), Cond.methodLink RL 61 yX4_kill, Cond.instanceMethod yX4_kill, Cond.selects RX4 yX4_kill yX4_kill, Cond.code yX4_kill cX4_kill 4 (some .int), Cond.methodLink RL 62 yX3_robotX, Cond.instanceMethod yX3_robotX, Cond.selects RX3 yX3_robotX yX3_robotX, Cond.code yX3_robotX cX3_robotX 3 (some .int), Cond.methodLink RL 65 yX4_robotX, Cond.instanceMethod yX4_robotX, Cond.selects RX4 yX4_robotX yX4_robotX, Cond.code yX4_robotX cX4_robotX 2 (some .int), Cond.methodLink RL 66 yX3_robotY, Cond.instanceMethod yX3_robotY, Cond.selects RX3 yX3_robotY yX3_robotY, Cond.code yX3_robotY cX3_robotY 3 (some .int), Cond.methodLink RL 69 yX4_robotY, Cond.instanceMethod yX4_robotY]
def wsL_law_r19 : List Cond := [Cond.selects RX4 yX4_robotY yX4_robotY, Cond.code yX4_robotY cX4_robotY 2 (some .int), Cond.methodLink RL 70 yX3_robotState, Cond.instanceMethod yX3_robotState, Cond.selects RX3 yX3_robotState yX3_robotState, Cond.code yX3_robotState cX3_robotState 2 (some .int), Cond.methodLink RL 73 yX4_robotState, Cond.instanceMethod yX4_robotState, Cond.selects RX4 yX4_robotState yX4_robotState, Cond.code yX4_robotState cX4_robotState 2 (some .int), Cond.methodLink RL 74 yX3_reg, Cond.instanceMethod yX3_reg, Cond.selects RX3 yX3_reg yX3_reg, Cond.code yX3_reg cX3_reg 4 (some .int), Cond.methodLink RX3 107 yX2_show, Cond.instanceMethod yX2_show, Cond.selects RX2 yX2_show yX2_show, Cond.code yX2_show cX2_show 2 (some .int), Cond.methodLink RL 77 yX4_reg, Cond.instanceMethod yX4_reg, Cond.selects RX4 yX4_reg yX4_reg, Cond.code yX4_reg cX4_reg 3 (some .int), Cond.methodLink RL 78 yX3_at, Cond.methodLink RL 81 yX4_at]
def wsL_law_r20 : List Cond := [Cond.methodLink RL 82 yX3_pathLength, Cond.instanceMethod yX3_pathLength, Cond.selects RX3 yX3_pathLength yX3_pathLength, Cond.code yX3_pathLength cX3_pathLength 5 (some .int), Cond.methodLink RX3 114 yX1_wayLength, Cond.methodLink RL 86 yX4_pathLength, Cond.methodLink RL 87 yX3_now, Cond.instanceMethod yX3_now, Cond.selects RX3 yX3_now yX3_now, Cond.code yX3_now cX3_now 1 (some .int), Cond.methodLink RL 90 yX4_now, Cond.instanceMethod yX4_now, Cond.selects RX4 yX4_now yX4_now, Cond.code yX4_now cX4_now 1 (some .int), Cond.methodLink RL 91 yX3_setClock, Cond.instanceMethod yX3_setClock, Cond.selects RX3 yX3_setClock yX3_setClock, Cond.code yX3_setClock cX3_setClock 2 none, Cond.methodLink RL 95 yX4_setClock, Cond.instanceMethod yX4_setClock, Cond.selects RX4 yX4_setClock yX4_setClock, Cond.code yX4_setClock cX4_setClock 2 none]
def wsL_law : List Cond := (wsL_law_r1 ++ (wsL_law_r2 ++ (wsL_law_r3 ++ (wsL_law_r4 ++ (wsL_law_r5 ++ (wsL_law_r6 ++ (wsL_law_r7 ++ (wsL_law_r8 ++ (wsL_law_r9 ++ (wsL_law_r10 ++ (wsL_law_r11 ++ (wsL_law_r12 ++ (wsL_law_r13 ++ (wsL_law_r14 ++ (wsL_law_r15 ++ (wsL_law_r16 ++ (wsL_law_r17 ++ (wsL_law_r18 ++ (wsL_law_r19 ++ wsL_law_r20))))))))))))))))))) ++ wsX30 ++ wsX40 ++ wsX10 ++ wsX20 ++ wsX00 ++ ([] : List Cond)
abbrev vwCl : List vw_C := [(RX0, TX0, 2), (RX1, TX1, 6), (RX2, TX2, 12), (RX3, TX3, 4), (RX4, TX4, 22)]
end
section
theorem dX0_init_0 : decode cX0_init 0 = .ok (.aload_n 0, 1) := by decide +kernel
theorem dX0_init_1 : decode cX0_init 1 = .ok (.invokespecial 1, 3) := by decide +kernel
theorem dX0_init_4 : decode cX0_init 4 = .ok (.aload_n 0, 1) := by decide +kernel
theorem dX0_init_5 : decode cX0_init 5 = .ok (.iload_n 1, 1) := by decide +kernel
theorem dX0_init_6 : decode cX0_init 6 = .ok (.newarray .int, 2) := by decide +kernel
theorem dX0_init_8 : decode cX0_init 8 = .ok (.putfield 7, 3) := by decide +kernel
theorem dX0_init_11 : decode cX0_init 11 = .ok (.return_, 1) := by decide +kernel
theorem dX0_add_0 : decode cX0_add 0 = .ok (.aload_n 0, 1) := by decide +kernel
theorem dX0_add_1 : decode cX0_add 1 = .ok (.getfield 13, 3) := by decide +kernel
theorem dX0_add_4 : decode cX0_add 4 = .ok (.aload_n 0, 1) := by decide +kernel
theorem dX0_add_5 : decode cX0_add 5 = .ok (.getfield 7, 3) := by decide +kernel
theorem dX0_add_8 : decode cX0_add 8 = .ok (.arraylength, 1) := by decide +kernel
theorem dX0_add_9 : decode cX0_add 9 = .ok (.if_icmp .lt 5, 3) := by decide +kernel
theorem dX0_add_12 : decode cX0_add 12 = .ok (.iconst 0, 1) := by decide +kernel
theorem dX0_add_13 : decode cX0_add 13 = .ok (.ireturn, 1) := by decide +kernel
theorem dX0_add_14 : decode cX0_add 14 = .ok (.aload_n 0, 1) := by decide +kernel
theorem dX0_add_15 : decode cX0_add 15 = .ok (.getfield 7, 3) := by decide +kernel
theorem dX0_add_18 : decode cX0_add 18 = .ok (.aload_n 0, 1) := by decide +kernel
theorem dX0_add_19 : decode cX0_add 19 = .ok (.getfield 13, 3) := by decide +kernel
theorem dX0_add_22 : decode cX0_add 22 = .ok (.iload_n 1, 1) := by decide +kernel
theorem dX0_add_23 : decode cX0_add 23 = .ok (.iastore, 1) := by decide +kernel
theorem dX0_add_24 : decode cX0_add 24 = .ok (.aload_n 0, 1) := by decide +kernel
theorem dX0_add_25 : decode cX0_add 25 = .ok (.dup, 1) := by decide +kernel
theorem dX0_add_26 : decode cX0_add 26 = .ok (.getfield 13, 3) := by decide +kernel
theorem dX0_add_29 : decode cX0_add 29 = .ok (.iconst 1, 1) := by decide +kernel
theorem dX0_add_30 : decode cX0_add 30 = .ok (.iadd, 1) := by decide +kernel
theorem dX0_add_31 : decode cX0_add 31 = .ok (.putfield 13, 3) := by decide +kernel
theorem dX0_add_34 : decode cX0_add 34 = .ok (.iconst 1, 1) := by decide +kernel
theorem dX0_add_35 : decode cX0_add 35 = .ok (.ireturn, 1) := by decide +kernel
theorem dX0_removeFirst_0 : decode cX0_removeFirst 0 = .ok (.aload_n 0, 1) := by decide +kernel
theorem dX0_removeFirst_1 : decode cX0_removeFirst 1 = .ok (.getfield 13, 3) := by decide +kernel
theorem dX0_removeFirst_4 : decode cX0_removeFirst 4 = .ok (.ifCond .le 15, 3) := by decide +kernel
theorem dX0_removeFirst_7 : decode cX0_removeFirst 7 = .ok (.aload_n 0, 1) := by decide +kernel
theorem dX0_removeFirst_8 : decode cX0_removeFirst 8 = .ok (.getfield 13, 3) := by decide +kernel
theorem dX0_removeFirst_11 : decode cX0_removeFirst 11 = .ok (.aload_n 0, 1) := by decide +kernel
theorem dX0_removeFirst_12 : decode cX0_removeFirst 12 = .ok (.getfield 7, 3) := by decide +kernel
theorem dX0_removeFirst_15 : decode cX0_removeFirst 15 = .ok (.arraylength, 1) := by decide +kernel
theorem dX0_removeFirst_16 : decode cX0_removeFirst 16 = .ok (.if_icmp .le 5, 3) := by decide +kernel
theorem dX0_removeFirst_19 : decode cX0_removeFirst 19 = .ok (.iconst 0, 1) := by decide +kernel
theorem dX0_removeFirst_20 : decode cX0_removeFirst 20 = .ok (.ireturn, 1) := by decide +kernel
theorem dX0_removeFirst_21 : decode cX0_removeFirst 21 = .ok (.aload_n 0, 1) := by decide +kernel
theorem dX0_removeFirst_22 : decode cX0_removeFirst 22 = .ok (.getfield 7, 3) := by decide +kernel
theorem dX0_removeFirst_25 : decode cX0_removeFirst 25 = .ok (.iconst 0, 1) := by decide +kernel
theorem dX0_removeFirst_26 : decode cX0_removeFirst 26 = .ok (.iaload, 1) := by decide +kernel
theorem dX0_removeFirst_27 : decode cX0_removeFirst 27 = .ok (.istore_n 1, 1) := by decide +kernel
theorem dX0_removeFirst_28 : decode cX0_removeFirst 28 = .ok (.aload_n 0, 1) := by decide +kernel
theorem dX0_removeFirst_29 : decode cX0_removeFirst 29 = .ok (.dup, 1) := by decide +kernel
theorem dX0_removeFirst_30 : decode cX0_removeFirst 30 = .ok (.getfield 13, 3) := by decide +kernel
theorem dX0_removeFirst_33 : decode cX0_removeFirst 33 = .ok (.iconst 1, 1) := by decide +kernel
theorem dX0_removeFirst_34 : decode cX0_removeFirst 34 = .ok (.isub, 1) := by decide +kernel
theorem dX0_removeFirst_35 : decode cX0_removeFirst 35 = .ok (.putfield 13, 3) := by decide +kernel
theorem dX0_removeFirst_38 : decode cX0_removeFirst 38 = .ok (.aload_n 0, 1) := by decide +kernel
theorem dX0_removeFirst_39 : decode cX0_removeFirst 39 = .ok (.getfield 7, 3) := by decide +kernel
theorem dX0_removeFirst_42 : decode cX0_removeFirst 42 = .ok (.iconst 1, 1) := by decide +kernel
theorem dX0_removeFirst_43 : decode cX0_removeFirst 43 = .ok (.aload_n 0, 1) := by decide +kernel
theorem dX0_removeFirst_44 : decode cX0_removeFirst 44 = .ok (.getfield 7, 3) := by decide +kernel
theorem dX0_removeFirst_47 : decode cX0_removeFirst 47 = .ok (.iconst 0, 1) := by decide +kernel
theorem dX0_removeFirst_48 : decode cX0_removeFirst 48 = .ok (.aload_n 0, 1) := by decide +kernel
theorem dX0_removeFirst_49 : decode cX0_removeFirst 49 = .ok (.getfield 13, 3) := by decide +kernel
theorem dX0_removeFirst_52 : decode cX0_removeFirst 52 = .ok (.invokestatic 17, 3) := by decide +kernel
theorem dX0_removeFirst_55 : decode cX0_removeFirst 55 = .ok (.iload_n 1, 1) := by decide +kernel
theorem dX0_removeFirst_56 : decode cX0_removeFirst 56 = .ok (.ireturn, 1) := by decide +kernel
theorem dX1_init_0 : decode cX1_init 0 = .ok (.aload_n 0, 1) := by decide +kernel
theorem dX1_init_1 : decode cX1_init 1 = .ok (.invokespecial 3, 3) := by decide +kernel
theorem dX1_init_4 : decode cX1_init 4 = .ok (.aload_n 0, 1) := by decide +kernel
theorem dX1_init_5 : decode cX1_init 5 = .ok (.iload_n 1, 1) := by decide +kernel
theorem dX1_init_6 : decode cX1_init 6 = .ok (.putfield 9, 3) := by decide +kernel
theorem dX1_init_9 : decode cX1_init 9 = .ok (.aload_n 0, 1) := by decide +kernel
theorem dX1_init_10 : decode cX1_init 10 = .ok (.iload_n 2, 1) := by decide +kernel
theorem dX1_init_11 : decode cX1_init 11 = .ok (.putfield 15, 3) := by decide +kernel
theorem dX1_init_14 : decode cX1_init 14 = .ok (.aload_n 0, 1) := by decide +kernel
theorem dX1_init_15 : decode cX1_init 15 = .ok (.iload_n 1, 1) := by decide +kernel
theorem dX1_init_16 : decode cX1_init 16 = .ok (.iload_n 2, 1) := by decide +kernel
theorem dX1_init_17 : decode cX1_init 17 = .ok (.imul, 1) := by decide +kernel
theorem dX1_init_18 : decode cX1_init 18 = .ok (.newarray .int, 2) := by decide +kernel
theorem dX1_init_20 : decode cX1_init 20 = .ok (.putfield 18, 3) := by decide +kernel
theorem dX1_init_23 : decode cX1_init 23 = .ok (.aload_n 0, 1) := by decide +kernel
theorem dX1_init_24 : decode cX1_init 24 = .ok (.iload_n 1, 1) := by decide +kernel
theorem dX1_init_25 : decode cX1_init 25 = .ok (.iload_n 2, 1) := by decide +kernel
theorem dX1_init_26 : decode cX1_init 26 = .ok (.imul, 1) := by decide +kernel
theorem dX1_init_27 : decode cX1_init 27 = .ok (.newarray .int, 2) := by decide +kernel
theorem dX1_init_29 : decode cX1_init 29 = .ok (.putfield 22, 3) := by decide +kernel
theorem dX1_init_32 : decode cX1_init 32 = .ok (.aload_n 0, 1) := by decide +kernel
theorem dX1_init_33 : decode cX1_init 33 = .ok (.iload_n 1, 1) := by decide +kernel
theorem dX1_init_34 : decode cX1_init 34 = .ok (.iload_n 2, 1) := by decide +kernel
theorem dX1_init_35 : decode cX1_init 35 = .ok (.imul, 1) := by decide +kernel
theorem dX1_init_36 : decode cX1_init 36 = .ok (.newarray .int, 2) := by decide +kernel
theorem dX1_init_38 : decode cX1_init 38 = .ok (.putfield 25, 3) := by decide +kernel
theorem dX1_init_41 : decode cX1_init 41 = .ok (.aload_n 0, 1) := by decide +kernel
theorem dX1_init_42 : decode cX1_init 42 = .ok (.iconst (-1), 1) := by decide +kernel
theorem dX1_init_43 : decode cX1_init 43 = .ok (.putfield 28, 3) := by decide +kernel
theorem dX1_init_46 : decode cX1_init 46 = .ok (.return_, 1) := by decide +kernel
set_option maxRecDepth 20000 in
theorem ggX1_clear_J7_fill_53178 : GoodIn wsX1_clear wsJ7_fill_53178 := goodIn_r _ [6] (by decide +kernel) (by decide +kernel)
set_option maxRecDepth 20000 in
theorem gX1_clear_J7_fill_53178 : GoodIn wsX1_clear (va_wsS RX1 31 yJ7_fill_53178 wsJ7_fill_53178) := goodIn_app (goodIn_of _ (by decide +kernel)) ggX1_clear_J7_fill_53178
theorem dX1_clear_0 : decode cX1_clear 0 = .ok (.aload_n 0, 1) := by decide +kernel
theorem dX1_clear_1 : decode cX1_clear 1 = .ok (.getfield 18, 3) := by decide +kernel
theorem dX1_clear_4 : decode cX1_clear 4 = .ok (.iconst 0, 1) := by decide +kernel
theorem dX1_clear_5 : decode cX1_clear 5 = .ok (.invokestatic 31, 3) := by decide +kernel
theorem dX1_clear_8 : decode cX1_clear 8 = .ok (.aload_n 0, 1) := by decide +kernel
theorem dX1_clear_9 : decode cX1_clear 9 = .ok (.iconst (-1), 1) := by decide +kernel
theorem dX1_clear_10 : decode cX1_clear 10 = .ok (.putfield 28, 3) := by decide +kernel
theorem dX1_clear_13 : decode cX1_clear 13 = .ok (.return_, 1) := by decide +kernel
theorem dX1_isInside_0 : decode cX1_isInside 0 = .ok (.iload_n 1, 1) := by decide +kernel
theorem dX1_isInside_1 : decode cX1_isInside 1 = .ok (.ifCond .lt 27, 3) := by decide +kernel
theorem dX1_isInside_4 : decode cX1_isInside 4 = .ok (.iload_n 1, 1) := by decide +kernel
theorem dX1_isInside_5 : decode cX1_isInside 5 = .ok (.aload_n 0, 1) := by decide +kernel
theorem dX1_isInside_6 : decode cX1_isInside 6 = .ok (.getfield 9, 3) := by decide +kernel
theorem dX1_isInside_9 : decode cX1_isInside 9 = .ok (.if_icmp .ge 19, 3) := by decide +kernel
theorem dX1_isInside_12 : decode cX1_isInside 12 = .ok (.iload_n 2, 1) := by decide +kernel
theorem dX1_isInside_13 : decode cX1_isInside 13 = .ok (.ifCond .lt 15, 3) := by decide +kernel
theorem dX1_isInside_16 : decode cX1_isInside 16 = .ok (.iload_n 2, 1) := by decide +kernel
theorem dX1_isInside_17 : decode cX1_isInside 17 = .ok (.aload_n 0, 1) := by decide +kernel
theorem dX1_isInside_18 : decode cX1_isInside 18 = .ok (.getfield 15, 3) := by decide +kernel
theorem dX1_isInside_21 : decode cX1_isInside 21 = .ok (.if_icmp .ge 7, 3) := by decide +kernel
theorem dX1_isInside_24 : decode cX1_isInside 24 = .ok (.iconst 1, 1) := by decide +kernel
theorem dX1_isInside_25 : decode cX1_isInside 25 = .ok (.goto 4, 3) := by decide +kernel
theorem dX1_isInside_28 : decode cX1_isInside 28 = .ok (.iconst 0, 1) := by decide +kernel
theorem dX1_isInside_29 : decode cX1_isInside 29 = .ok (.ireturn, 1) := by decide +kernel
theorem dX1_isOpen_0 : decode cX1_isOpen 0 = .ok (.iload_n 1, 1) := by decide +kernel
theorem dX1_isOpen_1 : decode cX1_isOpen 1 = .ok (.ifCond .lt 44, 3) := by decide +kernel
theorem dX1_isOpen_4 : decode cX1_isOpen 4 = .ok (.iload_n 1, 1) := by decide +kernel
theorem dX1_isOpen_5 : decode cX1_isOpen 5 = .ok (.aload_n 0, 1) := by decide +kernel
theorem dX1_isOpen_6 : decode cX1_isOpen 6 = .ok (.getfield 9, 3) := by decide +kernel
theorem dX1_isOpen_9 : decode cX1_isOpen 9 = .ok (.if_icmp .ge 36, 3) := by decide +kernel
theorem dX1_isOpen_12 : decode cX1_isOpen 12 = .ok (.iload_n 2, 1) := by decide +kernel
theorem dX1_isOpen_13 : decode cX1_isOpen 13 = .ok (.ifCond .lt 32, 3) := by decide +kernel
theorem dX1_isOpen_16 : decode cX1_isOpen 16 = .ok (.iload_n 2, 1) := by decide +kernel
theorem dX1_isOpen_17 : decode cX1_isOpen 17 = .ok (.aload_n 0, 1) := by decide +kernel
theorem dX1_isOpen_18 : decode cX1_isOpen 18 = .ok (.getfield 15, 3) := by decide +kernel
theorem dX1_isOpen_21 : decode cX1_isOpen 21 = .ok (.if_icmp .ge 24, 3) := by decide +kernel
theorem dX1_isOpen_24 : decode cX1_isOpen 24 = .ok (.aload_n 0, 1) := by decide +kernel
theorem dX1_isOpen_25 : decode cX1_isOpen 25 = .ok (.getfield 18, 3) := by decide +kernel
theorem dX1_isOpen_28 : decode cX1_isOpen 28 = .ok (.iload_n 2, 1) := by decide +kernel
theorem dX1_isOpen_29 : decode cX1_isOpen 29 = .ok (.aload_n 0, 1) := by decide +kernel
theorem dX1_isOpen_30 : decode cX1_isOpen 30 = .ok (.getfield 9, 3) := by decide +kernel
theorem dX1_isOpen_33 : decode cX1_isOpen 33 = .ok (.imul, 1) := by decide +kernel
theorem dX1_isOpen_34 : decode cX1_isOpen 34 = .ok (.iload_n 1, 1) := by decide +kernel
theorem dX1_isOpen_35 : decode cX1_isOpen 35 = .ok (.iadd, 1) := by decide +kernel
theorem dX1_isOpen_36 : decode cX1_isOpen 36 = .ok (.iaload, 1) := by decide +kernel
theorem dX1_isOpen_37 : decode cX1_isOpen 37 = .ok (.iconst (-1), 1) := by decide +kernel
theorem dX1_isOpen_38 : decode cX1_isOpen 38 = .ok (.if_icmp .eq 7, 3) := by decide +kernel
theorem dX1_isOpen_41 : decode cX1_isOpen 41 = .ok (.iconst 1, 1) := by decide +kernel
theorem dX1_isOpen_42 : decode cX1_isOpen 42 = .ok (.goto 4, 3) := by decide +kernel
theorem dX1_isOpen_45 : decode cX1_isOpen 45 = .ok (.iconst 0, 1) := by decide +kernel
theorem dX1_isOpen_46 : decode cX1_isOpen 46 = .ok (.ireturn, 1) := by decide +kernel
set_option maxRecDepth 20000 in
theorem ggX1_contentOf_X1_isInside : GoodIn wsX1_contentOf wsX1_isInside := goodIn_r _ [7, 2, 8, 9, 10, 11, 12, 13, 14] (by decide +kernel) (by decide +kernel)
set_option maxRecDepth 20000 in
theorem gX1_contentOf_X1_isInside : GoodIn wsX1_contentOf (wsV RX1 37 RX1 yX1_isInside wsX1_isInside) := goodIn_app (goodIn_of _ (by decide +kernel)) ggX1_contentOf_X1_isInside
theorem dX1_contentOf_0 : decode cX1_contentOf 0 = .ok (.aload_n 0, 1) := by decide +kernel
theorem dX1_contentOf_1 : decode cX1_contentOf 1 = .ok (.iload_n 1, 1) := by decide +kernel
theorem dX1_contentOf_2 : decode cX1_contentOf 2 = .ok (.iload_n 2, 1) := by decide +kernel
theorem dX1_contentOf_3 : decode cX1_contentOf 3 = .ok (.invokevirtual 37, 3) := by decide +kernel
theorem dX1_contentOf_6 : decode cX1_contentOf 6 = .ok (.ifCond .eq 19, 3) := by decide +kernel
theorem dX1_contentOf_9 : decode cX1_contentOf 9 = .ok (.aload_n 0, 1) := by decide +kernel
theorem dX1_contentOf_10 : decode cX1_contentOf 10 = .ok (.getfield 18, 3) := by decide +kernel
theorem dX1_contentOf_13 : decode cX1_contentOf 13 = .ok (.iload_n 2, 1) := by decide +kernel
theorem dX1_contentOf_14 : decode cX1_contentOf 14 = .ok (.aload_n 0, 1) := by decide +kernel
theorem dX1_contentOf_15 : decode cX1_contentOf 15 = .ok (.getfield 9, 3) := by decide +kernel
theorem dX1_contentOf_18 : decode cX1_contentOf 18 = .ok (.imul, 1) := by decide +kernel
theorem dX1_contentOf_19 : decode cX1_contentOf 19 = .ok (.iload_n 1, 1) := by decide +kernel
theorem dX1_contentOf_20 : decode cX1_contentOf 20 = .ok (.iadd, 1) := by decide +kernel
theorem dX1_contentOf_21 : decode cX1_contentOf 21 = .ok (.iaload, 1) := by decide +kernel
theorem dX1_contentOf_22 : decode cX1_contentOf 22 = .ok (.goto 5, 3) := by decide +kernel
theorem dX1_contentOf_25 : decode cX1_contentOf 25 = .ok (.bipush (-2), 2) := by decide +kernel
theorem dX1_contentOf_27 : decode cX1_contentOf 27 = .ok (.ireturn, 1) := by decide +kernel
set_option maxRecDepth 20000 in
theorem ggX1_changeWall_X1_isInside : GoodIn wsX1_changeWall wsX1_isInside := goodIn_r _ [8, 1, 9, 10, 11, 12, 13, 14, 15] (by decide +kernel) (by decide +kernel)
set_option maxRecDepth 20000 in
theorem gX1_changeWall_X1_isInside : GoodIn wsX1_changeWall (wsV RX1 37 RX1 yX1_isInside wsX1_isInside) := goodIn_app (goodIn_of _ (by decide +kernel)) ggX1_changeWall_X1_isInside
theorem dX1_changeWall_0 : decode cX1_changeWall 0 = .ok (.aload_n 0, 1) := by decide +kernel
theorem dX1_changeWall_1 : decode cX1_changeWall 1 = .ok (.iload_n 1, 1) := by decide +kernel
theorem dX1_changeWall_2 : decode cX1_changeWall 2 = .ok (.iload_n 2, 1) := by decide +kernel
theorem dX1_changeWall_3 : decode cX1_changeWall 3 = .ok (.invokevirtual 37, 3) := by decide +kernel
theorem dX1_changeWall_6 : decode cX1_changeWall 6 = .ok (.ifCond .ne 4, 3) := by decide +kernel
theorem dX1_changeWall_9 : decode cX1_changeWall 9 = .ok (.return_, 1) := by decide +kernel
theorem dX1_changeWall_10 : decode cX1_changeWall 10 = .ok (.iload_n 2, 1) := by decide +kernel
theorem dX1_changeWall_11 : decode cX1_changeWall 11 = .ok (.aload_n 0, 1) := by decide +kernel
theorem dX1_changeWall_12 : decode cX1_changeWall 12 = .ok (.getfield 9, 3) := by decide +kernel
theorem dX1_changeWall_15 : decode cX1_changeWall 15 = .ok (.imul, 1) := by decide +kernel
theorem dX1_changeWall_16 : decode cX1_changeWall 16 = .ok (.iload_n 1, 1) := by decide +kernel
theorem dX1_changeWall_17 : decode cX1_changeWall 17 = .ok (.iadd, 1) := by decide +kernel
theorem dX1_changeWall_18 : decode cX1_changeWall 18 = .ok (.istore 4, 2) := by decide +kernel
theorem dX1_changeWall_20 : decode cX1_changeWall 20 = .ok (.iload_n 3, 1) := by decide +kernel
theorem dX1_changeWall_21 : decode cX1_changeWall 21 = .ok (.ifCond .eq 14, 3) := by decide +kernel
theorem dX1_changeWall_24 : decode cX1_changeWall 24 = .ok (.aload_n 0, 1) := by decide +kernel
theorem dX1_changeWall_25 : decode cX1_changeWall 25 = .ok (.getfield 18, 3) := by decide +kernel
theorem dX1_changeWall_28 : decode cX1_changeWall 28 = .ok (.iload 4, 2) := by decide +kernel
theorem dX1_changeWall_30 : decode cX1_changeWall 30 = .ok (.iconst (-1), 1) := by decide +kernel
theorem dX1_changeWall_31 : decode cX1_changeWall 31 = .ok (.iastore, 1) := by decide +kernel
theorem dX1_changeWall_32 : decode cX1_changeWall 32 = .ok (.goto 22, 3) := by decide +kernel
theorem dX1_changeWall_35 : decode cX1_changeWall 35 = .ok (.aload_n 0, 1) := by decide +kernel
theorem dX1_changeWall_36 : decode cX1_changeWall 36 = .ok (.getfield 18, 3) := by decide +kernel
theorem dX1_changeWall_39 : decode cX1_changeWall 39 = .ok (.iload 4, 2) := by decide +kernel
theorem dX1_changeWall_41 : decode cX1_changeWall 41 = .ok (.iaload, 1) := by decide +kernel
theorem dX1_changeWall_42 : decode cX1_changeWall 42 = .ok (.iconst (-1), 1) := by decide +kernel
theorem dX1_changeWall_43 : decode cX1_changeWall 43 = .ok (.if_icmp .ne 11, 3) := by decide +kernel
theorem dX1_changeWall_46 : decode cX1_changeWall 46 = .ok (.aload_n 0, 1) := by decide +kernel
theorem dX1_changeWall_47 : decode cX1_changeWall 47 = .ok (.getfield 18, 3) := by decide +kernel
theorem dX1_changeWall_50 : decode cX1_changeWall 50 = .ok (.iload 4, 2) := by decide +kernel
theorem dX1_changeWall_52 : decode cX1_changeWall 52 = .ok (.iconst 0, 1) := by decide +kernel
theorem dX1_changeWall_53 : decode cX1_changeWall 53 = .ok (.iastore, 1) := by decide +kernel
theorem dX1_changeWall_54 : decode cX1_changeWall 54 = .ok (.aload_n 0, 1) := by decide +kernel
theorem dX1_changeWall_55 : decode cX1_changeWall 55 = .ok (.iconst (-1), 1) := by decide +kernel
theorem dX1_changeWall_56 : decode cX1_changeWall 56 = .ok (.putfield 28, 3) := by decide +kernel
theorem dX1_changeWall_59 : decode cX1_changeWall 59 = .ok (.return_, 1) := by decide +kernel
set_option maxRecDepth 20000 in
theorem ggX1_addItem_X1_isOpen : GoodIn wsX1_addItem wsX1_isOpen := goodIn_r _ [7, 1, 8, 2, 9, 10, 11, 12, 13, 14] (by decide +kernel) (by decide +kernel)
set_option maxRecDepth 20000 in
theorem gX1_addItem_X1_isOpen : GoodIn wsX1_addItem (wsV RX1 41 RX1 yX1_isOpen wsX1_isOpen) := goodIn_app (goodIn_of _ (by decide +kernel)) ggX1_addItem_X1_isOpen
theorem dX1_addItem_0 : decode cX1_addItem 0 = .ok (.aload_n 0, 1) := by decide +kernel
theorem dX1_addItem_1 : decode cX1_addItem 1 = .ok (.iload_n 1, 1) := by decide +kernel
theorem dX1_addItem_2 : decode cX1_addItem 2 = .ok (.iload_n 2, 1) := by decide +kernel
theorem dX1_addItem_3 : decode cX1_addItem 3 = .ok (.invokevirtual 41, 3) := by decide +kernel
theorem dX1_addItem_6 : decode cX1_addItem 6 = .ok (.ifCond .ne 5, 3) := by decide +kernel
theorem dX1_addItem_9 : decode cX1_addItem 9 = .ok (.iconst 0, 1) := by decide +kernel
theorem dX1_addItem_10 : decode cX1_addItem 10 = .ok (.ireturn, 1) := by decide +kernel
theorem dX1_addItem_11 : decode cX1_addItem 11 = .ok (.iload_n 2, 1) := by decide +kernel
theorem dX1_addItem_12 : decode cX1_addItem 12 = .ok (.aload_n 0, 1) := by decide +kernel
theorem dX1_addItem_13 : decode cX1_addItem 13 = .ok (.getfield 9, 3) := by decide +kernel
theorem dX1_addItem_16 : decode cX1_addItem 16 = .ok (.imul, 1) := by decide +kernel
theorem dX1_addItem_17 : decode cX1_addItem 17 = .ok (.iload_n 1, 1) := by decide +kernel
theorem dX1_addItem_18 : decode cX1_addItem 18 = .ok (.iadd, 1) := by decide +kernel
theorem dX1_addItem_19 : decode cX1_addItem 19 = .ok (.istore_n 3, 1) := by decide +kernel
theorem dX1_addItem_20 : decode cX1_addItem 20 = .ok (.aload_n 0, 1) := by decide +kernel
theorem dX1_addItem_21 : decode cX1_addItem 21 = .ok (.getfield 18, 3) := by decide +kernel
theorem dX1_addItem_24 : decode cX1_addItem 24 = .ok (.iload_n 3, 1) := by decide +kernel
theorem dX1_addItem_25 : decode cX1_addItem 25 = .ok (.iaload, 1) := by decide +kernel
theorem dX1_addItem_26 : decode cX1_addItem 26 = .ok (.bipush 99, 2) := by decide +kernel
theorem dX1_addItem_28 : decode cX1_addItem 28 = .ok (.if_icmp .lt 5, 3) := by decide +kernel
theorem dX1_addItem_31 : decode cX1_addItem 31 = .ok (.iconst 0, 1) := by decide +kernel
theorem dX1_addItem_32 : decode cX1_addItem 32 = .ok (.ireturn, 1) := by decide +kernel
theorem dX1_addItem_33 : decode cX1_addItem 33 = .ok (.aload_n 0, 1) := by decide +kernel
theorem dX1_addItem_34 : decode cX1_addItem 34 = .ok (.getfield 18, 3) := by decide +kernel
theorem dX1_addItem_37 : decode cX1_addItem 37 = .ok (.iload_n 3, 1) := by decide +kernel
theorem dX1_addItem_38 : decode cX1_addItem 38 = .ok (.dup2, 1) := by decide +kernel
theorem dX1_addItem_39 : decode cX1_addItem 39 = .ok (.iaload, 1) := by decide +kernel
theorem dX1_addItem_40 : decode cX1_addItem 40 = .ok (.iconst 1, 1) := by decide +kernel
theorem dX1_addItem_41 : decode cX1_addItem 41 = .ok (.iadd, 1) := by decide +kernel
theorem dX1_addItem_42 : decode cX1_addItem 42 = .ok (.iastore, 1) := by decide +kernel
theorem dX1_addItem_43 : decode cX1_addItem 43 = .ok (.iconst 1, 1) := by decide +kernel
theorem dX1_addItem_44 : decode cX1_addItem 44 = .ok (.ireturn, 1) := by decide +kernel
set_option maxRecDepth 20000 in
theorem ggX1_removeItem_X1_isOpen : GoodIn wsX1_removeItem wsX1_isOpen := goodIn_r _ [7, 1, 8, 2, 9, 10, 11, 12, 13, 14] (by decide +kernel) (by decide +kernel)
set_option maxRecDepth 20000 in
theorem gX1_removeItem_X1_isOpen : GoodIn wsX1_removeItem (wsV RX1 41 RX1 yX1_isOpen wsX1_isOpen) := goodIn_app (goodIn_of _ (by decide +kernel)) ggX1_removeItem_X1_isOpen
theorem dX1_removeItem_0 : decode cX1_removeItem 0 = .ok (.aload_n 0, 1) := by decide +kernel
theorem dX1_removeItem_1 : decode cX1_removeItem 1 = .ok (.iload_n 1, 1) := by decide +kernel
theorem dX1_removeItem_2 : decode cX1_removeItem 2 = .ok (.iload_n 2, 1) := by decide +kernel
theorem dX1_removeItem_3 : decode cX1_removeItem 3 = .ok (.invokevirtual 41, 3) := by decide +kernel
theorem dX1_removeItem_6 : decode cX1_removeItem 6 = .ok (.ifCond .ne 5, 3) := by decide +kernel
theorem dX1_removeItem_9 : decode cX1_removeItem 9 = .ok (.iconst 0, 1) := by decide +kernel
theorem dX1_removeItem_10 : decode cX1_removeItem 10 = .ok (.ireturn, 1) := by decide +kernel
theorem dX1_removeItem_11 : decode cX1_removeItem 11 = .ok (.iload_n 2, 1) := by decide +kernel
theorem dX1_removeItem_12 : decode cX1_removeItem 12 = .ok (.aload_n 0, 1) := by decide +kernel
theorem dX1_removeItem_13 : decode cX1_removeItem 13 = .ok (.getfield 9, 3) := by decide +kernel
theorem dX1_removeItem_16 : decode cX1_removeItem 16 = .ok (.imul, 1) := by decide +kernel
theorem dX1_removeItem_17 : decode cX1_removeItem 17 = .ok (.iload_n 1, 1) := by decide +kernel
theorem dX1_removeItem_18 : decode cX1_removeItem 18 = .ok (.iadd, 1) := by decide +kernel
theorem dX1_removeItem_19 : decode cX1_removeItem 19 = .ok (.istore_n 3, 1) := by decide +kernel
theorem dX1_removeItem_20 : decode cX1_removeItem 20 = .ok (.aload_n 0, 1) := by decide +kernel
theorem dX1_removeItem_21 : decode cX1_removeItem 21 = .ok (.getfield 18, 3) := by decide +kernel
theorem dX1_removeItem_24 : decode cX1_removeItem 24 = .ok (.iload_n 3, 1) := by decide +kernel
theorem dX1_removeItem_25 : decode cX1_removeItem 25 = .ok (.iaload, 1) := by decide +kernel
theorem dX1_removeItem_26 : decode cX1_removeItem 26 = .ok (.ifCond .gt 5, 3) := by decide +kernel
theorem dX1_removeItem_29 : decode cX1_removeItem 29 = .ok (.iconst 0, 1) := by decide +kernel
theorem dX1_removeItem_30 : decode cX1_removeItem 30 = .ok (.ireturn, 1) := by decide +kernel
theorem dX1_removeItem_31 : decode cX1_removeItem 31 = .ok (.aload_n 0, 1) := by decide +kernel
theorem dX1_removeItem_32 : decode cX1_removeItem 32 = .ok (.getfield 18, 3) := by decide +kernel
theorem dX1_removeItem_35 : decode cX1_removeItem 35 = .ok (.iload_n 3, 1) := by decide +kernel
theorem dX1_removeItem_36 : decode cX1_removeItem 36 = .ok (.dup2, 1) := by decide +kernel
theorem dX1_removeItem_37 : decode cX1_removeItem 37 = .ok (.iaload, 1) := by decide +kernel
theorem dX1_removeItem_38 : decode cX1_removeItem 38 = .ok (.iconst 1, 1) := by decide +kernel
theorem dX1_removeItem_39 : decode cX1_removeItem 39 = .ok (.isub, 1) := by decide +kernel
theorem dX1_removeItem_40 : decode cX1_removeItem 40 = .ok (.iastore, 1) := by decide +kernel
theorem dX1_removeItem_41 : decode cX1_removeItem 41 = .ok (.iconst 1, 1) := by decide +kernel
theorem dX1_removeItem_42 : decode cX1_removeItem 42 = .ok (.ireturn, 1) := by decide +kernel
set_option maxRecDepth 20000 in
theorem ggX1_wayLength_X1_isOpen : GoodIn wsX1_wayLength wsX1_isOpen := goodIn_r _ [5, 6, 7, 8, 28, 29, 30, 31, 32, 33] (by decide +kernel) (by decide +kernel)
set_option maxRecDepth 20000 in
theorem gX1_wayLength_X1_isOpen : GoodIn wsX1_wayLength (wsV RX1 41 RX1 yX1_isOpen wsX1_isOpen) := goodIn_app (goodIn_of _ (by decide +kernel)) ggX1_wayLength_X1_isOpen
set_option maxRecDepth 20000 in
theorem ggX1_wayLength_X1_measureFrom : GoodIn wsX1_wayLength wsX1_measureFrom := goodIn_r _ [12, 13, 14, 6, 15, 16, 17, 18, 19, 1, 2, 3, 4, 5, 7, 8, 28, 29, 30, 31, 32, 33] (by decide +kernel) (by decide +kernel)
set_option maxRecDepth 20000 in
theorem gX1_wayLength_X1_measureFrom : GoodIn wsX1_wayLength (wsV RX1 44 RX1 yX1_measureFrom wsX1_measureFrom) := goodIn_app (goodIn_of _ (by decide +kernel)) ggX1_wayLength_X1_measureFrom
set_option maxRecDepth 20000 in
theorem ggX1_wayLength_X1_stepsOf : GoodIn wsX1_wayLength wsX1_stepsOf := goodIn_r _ [23, 14, 6, 24, 25, 26, 4, 27, 7, 28, 29, 30, 31, 32, 33] (by decide +kernel) (by decide +kernel)
set_option maxRecDepth 20000 in
theorem gX1_wayLength_X1_stepsOf : GoodIn wsX1_wayLength (wsV RX1 48 RX1 yX1_stepsOf wsX1_stepsOf) := goodIn_app (goodIn_of _ (by decide +kernel)) ggX1_wayLength_X1_stepsOf
theorem dX1_wayLength_0 : decode cX1_wayLength 0 = .ok (.aload_n 0, 1) := by decide +kernel
theorem dX1_wayLength_1 : decode cX1_wayLength 1 = .ok (.iload_n 3, 1) := by decide +kernel
theorem dX1_wayLength_2 : decode cX1_wayLength 2 = .ok (.iload 4, 2) := by decide +kernel
theorem dX1_wayLength_4 : decode cX1_wayLength 4 = .ok (.invokevirtual 41, 3) := by decide +kernel
theorem dX1_wayLength_7 : decode cX1_wayLength 7 = .ok (.ifCond .ne 5, 3) := by decide +kernel
theorem dX1_wayLength_10 : decode cX1_wayLength 10 = .ok (.iconst (-1), 1) := by decide +kernel
theorem dX1_wayLength_11 : decode cX1_wayLength 11 = .ok (.ireturn, 1) := by decide +kernel
theorem dX1_wayLength_12 : decode cX1_wayLength 12 = .ok (.aload_n 0, 1) := by decide +kernel
theorem dX1_wayLength_13 : decode cX1_wayLength 13 = .ok (.iload_n 3, 1) := by decide +kernel
theorem dX1_wayLength_14 : decode cX1_wayLength 14 = .ok (.iload 4, 2) := by decide +kernel
theorem dX1_wayLength_16 : decode cX1_wayLength 16 = .ok (.invokevirtual 44, 3) := by decide +kernel
theorem dX1_wayLength_19 : decode cX1_wayLength 19 = .ok (.aload_n 0, 1) := by decide +kernel
theorem dX1_wayLength_20 : decode cX1_wayLength 20 = .ok (.iload_n 1, 1) := by decide +kernel
theorem dX1_wayLength_21 : decode cX1_wayLength 21 = .ok (.iload_n 2, 1) := by decide +kernel
theorem dX1_wayLength_22 : decode cX1_wayLength 22 = .ok (.invokevirtual 48, 3) := by decide +kernel
theorem dX1_wayLength_25 : decode cX1_wayLength 25 = .ok (.ireturn, 1) := by decide +kernel
set_option maxRecDepth 20000 in
theorem ggX1_firstStep_X1_wayLength : GoodIn wsX1_firstStep wsX1_wayLength := goodIn_r _ [5, 6, 7, 8, 4, 9, 10, 11, 12, 13, 14, 15, 16, 17, 18, 19, 20, 21, 22, 23, 24, 25, 26, 27, 28, 29, 30, 31, 32, 33, 34, 35, 36, 37] (by decide +kernel) (by decide +kernel)
set_option maxRecDepth 20000 in
theorem gX1_firstStep_X1_wayLength : GoodIn wsX1_firstStep (wsV RX1 52 RX1 yX1_wayLength wsX1_wayLength) := goodIn_app (goodIn_of _ (by decide +kernel)) ggX1_firstStep_X1_wayLength
set_option maxRecDepth 20000 in
theorem ggX1_firstStep_X1_stepsOf : GoodIn wsX1_firstStep wsX1_stepsOf := goodIn_r _ [27, 18, 10, 28, 29, 30, 4, 31, 11, 32, 33, 34, 35, 36, 37] (by decide +kernel) (by decide +kernel)
set_option maxRecDepth 20000 in
theorem gX1_firstStep_X1_stepsOf : GoodIn wsX1_firstStep (wsV RX1 48 RX1 yX1_stepsOf wsX1_stepsOf) := goodIn_app (goodIn_of _ (by decide +kernel)) ggX1_firstStep_X1_stepsOf
theorem dX1_firstStep_0 : decode cX1_firstStep 0 = .ok (.aload_n 0, 1) := by decide +kernel
theorem dX1_firstStep_1 : decode cX1_firstStep 1 = .ok (.iload_n 1, 1) := by decide +kernel
theorem dX1_firstStep_2 : decode cX1_firstStep 2 = .ok (.iload_n 2, 1) := by decide +kernel
theorem dX1_firstStep_3 : decode cX1_firstStep 3 = .ok (.iload_n 3, 1) := by decide +kernel
theorem dX1_firstStep_4 : decode cX1_firstStep 4 = .ok (.iload 4, 2) := by decide +kernel
theorem dX1_firstStep_6 : decode cX1_firstStep 6 = .ok (.invokevirtual 52, 3) := by decide +kernel
theorem dX1_firstStep_9 : decode cX1_firstStep 9 = .ok (.istore 5, 2) := by decide +kernel
theorem dX1_firstStep_11 : decode cX1_firstStep 11 = .ok (.iload 5, 2) := by decide +kernel
theorem dX1_firstStep_13 : decode cX1_firstStep 13 = .ok (.ifCond .ne 5, 3) := by decide +kernel
theorem dX1_firstStep_16 : decode cX1_firstStep 16 = .ok (.iconst 4, 1) := by decide +kernel
theorem dX1_firstStep_17 : decode cX1_firstStep 17 = .ok (.ireturn, 1) := by decide +kernel
theorem dX1_firstStep_18 : decode cX1_firstStep 18 = .ok (.iconst 0, 1) := by decide +kernel
theorem dX1_firstStep_19 : decode cX1_firstStep 19 = .ok (.istore 6, 2) := by decide +kernel
theorem dX1_firstStep_21 : decode cX1_firstStep 21 = .ok (.iload 5, 2) := by decide +kernel
theorem dX1_firstStep_23 : decode cX1_firstStep 23 = .ok (.ifCond .le 45, 3) := by decide +kernel
theorem dX1_firstStep_26 : decode cX1_firstStep 26 = .ok (.iload 6, 2) := by decide +kernel
theorem dX1_firstStep_28 : decode cX1_firstStep 28 = .ok (.iconst 4, 1) := by decide +kernel
theorem dX1_firstStep_29 : decode cX1_firstStep 29 = .ok (.if_icmp .ge 39, 3) := by decide +kernel
theorem dX1_firstStep_32 : decode cX1_firstStep 32 = .ok (.aload_n 0, 1) := by decide +kernel
theorem dX1_firstStep_33 : decode cX1_firstStep 33 = .ok (.iload_n 1, 1) := by decide +kernel
theorem dX1_firstStep_34 : decode cX1_firstStep 34 = .ok (.getstatic 56, 3) := by decide +kernel
theorem dX1_firstStep_37 : decode cX1_firstStep 37 = .ok (.iload 6, 2) := by decide +kernel
theorem dX1_firstStep_39 : decode cX1_firstStep 39 = .ok (.iaload, 1) := by decide +kernel
theorem dX1_firstStep_40 : decode cX1_firstStep 40 = .ok (.iadd, 1) := by decide +kernel
theorem dX1_firstStep_41 : decode cX1_firstStep 41 = .ok (.iload_n 2, 1) := by decide +kernel
theorem dX1_firstStep_42 : decode cX1_firstStep 42 = .ok (.getstatic 59, 3) := by decide +kernel
theorem dX1_firstStep_45 : decode cX1_firstStep 45 = .ok (.iload 6, 2) := by decide +kernel
theorem dX1_firstStep_47 : decode cX1_firstStep 47 = .ok (.iaload, 1) := by decide +kernel
theorem dX1_firstStep_48 : decode cX1_firstStep 48 = .ok (.iadd, 1) := by decide +kernel
theorem dX1_firstStep_49 : decode cX1_firstStep 49 = .ok (.invokevirtual 48, 3) := by decide +kernel
theorem dX1_firstStep_52 : decode cX1_firstStep 52 = .ok (.iload 5, 2) := by decide +kernel
theorem dX1_firstStep_54 : decode cX1_firstStep 54 = .ok (.iconst 1, 1) := by decide +kernel
theorem dX1_firstStep_55 : decode cX1_firstStep 55 = .ok (.isub, 1) := by decide +kernel
theorem dX1_firstStep_56 : decode cX1_firstStep 56 = .ok (.if_icmp .ne 6, 3) := by decide +kernel
theorem dX1_firstStep_59 : decode cX1_firstStep 59 = .ok (.iload 6, 2) := by decide +kernel
theorem dX1_firstStep_61 : decode cX1_firstStep 61 = .ok (.ireturn, 1) := by decide +kernel
theorem dX1_firstStep_62 : decode cX1_firstStep 62 = .ok (.iinc 6 1, 3) := by decide +kernel
theorem dX1_firstStep_65 : decode cX1_firstStep 65 = .ok (.goto (-44), 3) := by decide +kernel
theorem dX1_firstStep_68 : decode cX1_firstStep 68 = .ok (.iconst (-1), 1) := by decide +kernel
theorem dX1_firstStep_69 : decode cX1_firstStep 69 = .ok (.ireturn, 1) := by decide +kernel
set_option maxRecDepth 20000 in
theorem ggX1_stepsOf_X1_isInside : GoodIn wsX1_stepsOf wsX1_isInside := goodIn_r _ [7, 2, 8, 9, 10, 11, 12, 13, 14] (by decide +kernel) (by decide +kernel)
set_option maxRecDepth 20000 in
theorem gX1_stepsOf_X1_isInside : GoodIn wsX1_stepsOf (wsV RX1 37 RX1 yX1_isInside wsX1_isInside) := goodIn_app (goodIn_of _ (by decide +kernel)) ggX1_stepsOf_X1_isInside
theorem dX1_stepsOf_0 : decode cX1_stepsOf 0 = .ok (.aload_n 0, 1) := by decide +kernel
theorem dX1_stepsOf_1 : decode cX1_stepsOf 1 = .ok (.iload_n 1, 1) := by decide +kernel
theorem dX1_stepsOf_2 : decode cX1_stepsOf 2 = .ok (.iload_n 2, 1) := by decide +kernel
theorem dX1_stepsOf_3 : decode cX1_stepsOf 3 = .ok (.invokevirtual 37, 3) := by decide +kernel
theorem dX1_stepsOf_6 : decode cX1_stepsOf 6 = .ok (.ifCond .eq 19, 3) := by decide +kernel
theorem dX1_stepsOf_9 : decode cX1_stepsOf 9 = .ok (.aload_n 0, 1) := by decide +kernel
theorem dX1_stepsOf_10 : decode cX1_stepsOf 10 = .ok (.getfield 22, 3) := by decide +kernel
theorem dX1_stepsOf_13 : decode cX1_stepsOf 13 = .ok (.iload_n 2, 1) := by decide +kernel
theorem dX1_stepsOf_14 : decode cX1_stepsOf 14 = .ok (.aload_n 0, 1) := by decide +kernel
theorem dX1_stepsOf_15 : decode cX1_stepsOf 15 = .ok (.getfield 9, 3) := by decide +kernel
theorem dX1_stepsOf_18 : decode cX1_stepsOf 18 = .ok (.imul, 1) := by decide +kernel
theorem dX1_stepsOf_19 : decode cX1_stepsOf 19 = .ok (.iload_n 1, 1) := by decide +kernel
theorem dX1_stepsOf_20 : decode cX1_stepsOf 20 = .ok (.iadd, 1) := by decide +kernel
theorem dX1_stepsOf_21 : decode cX1_stepsOf 21 = .ok (.iaload, 1) := by decide +kernel
theorem dX1_stepsOf_22 : decode cX1_stepsOf 22 = .ok (.goto 4, 3) := by decide +kernel
theorem dX1_stepsOf_25 : decode cX1_stepsOf 25 = .ok (.iconst (-1), 1) := by decide +kernel
theorem dX1_stepsOf_26 : decode cX1_stepsOf 26 = .ok (.ireturn, 1) := by decide +kernel
set_option maxRecDepth 20000 in
theorem ggX1_measureFrom_J7_fill_53178 : GoodIn wsX1_measureFrom wsJ7_fill_53178 := goodIn_r _ [8] (by decide +kernel) (by decide +kernel)
set_option maxRecDepth 20000 in
theorem gX1_measureFrom_J7_fill_53178 : GoodIn wsX1_measureFrom (va_wsS RX1 31 yJ7_fill_53178 wsJ7_fill_53178) := goodIn_app (goodIn_of _ (by decide +kernel)) ggX1_measureFrom_J7_fill_53178
set_option maxRecDepth 20000 in
theorem ggX1_measureFrom_X1_isOpen : GoodIn wsX1_measureFrom wsX1_isOpen := goodIn_r _ [13, 3, 14, 15, 16, 17, 18, 19, 20, 21] (by decide +kernel) (by decide +kernel)
set_option maxRecDepth 20000 in
theorem gX1_measureFrom_X1_isOpen : GoodIn wsX1_measureFrom (wsV RX1 41 RX1 yX1_isOpen wsX1_isOpen) := goodIn_app (goodIn_of _ (by decide +kernel)) ggX1_measureFrom_X1_isOpen
theorem dX1_measureFrom_0 : decode cX1_measureFrom 0 = .ok (.iload_n 2, 1) := by decide +kernel
theorem dX1_measureFrom_1 : decode cX1_measureFrom 1 = .ok (.iconst 5, 1) := by decide +kernel
theorem dX1_measureFrom_2 : decode cX1_measureFrom 2 = .ok (.ishl, 1) := by decide +kernel
theorem dX1_measureFrom_3 : decode cX1_measureFrom 3 = .ok (.iload_n 1, 1) := by decide +kernel
theorem dX1_measureFrom_4 : decode cX1_measureFrom 4 = .ok (.ior, 1) := by decide +kernel
theorem dX1_measureFrom_5 : decode cX1_measureFrom 5 = .ok (.istore_n 3, 1) := by decide +kernel
theorem dX1_measureFrom_6 : decode cX1_measureFrom 6 = .ok (.aload_n 0, 1) := by decide +kernel
theorem dX1_measureFrom_7 : decode cX1_measureFrom 7 = .ok (.getfield 28, 3) := by decide +kernel
theorem dX1_measureFrom_10 : decode cX1_measureFrom 10 = .ok (.iload_n 3, 1) := by decide +kernel
theorem dX1_measureFrom_11 : decode cX1_measureFrom 11 = .ok (.if_icmp .ne 4, 3) := by decide +kernel
theorem dX1_measureFrom_14 : decode cX1_measureFrom 14 = .ok (.return_, 1) := by decide +kernel
theorem dX1_measureFrom_15 : decode cX1_measureFrom 15 = .ok (.aload_n 0, 1) := by decide +kernel
theorem dX1_measureFrom_16 : decode cX1_measureFrom 16 = .ok (.iload_n 3, 1) := by decide +kernel
theorem dX1_measureFrom_17 : decode cX1_measureFrom 17 = .ok (.putfield 28, 3) := by decide +kernel
theorem dX1_measureFrom_20 : decode cX1_measureFrom 20 = .ok (.aload_n 0, 1) := by decide +kernel
theorem dX1_measureFrom_21 : decode cX1_measureFrom 21 = .ok (.getfield 22, 3) := by decide +kernel
theorem dX1_measureFrom_24 : decode cX1_measureFrom 24 = .ok (.iconst (-1), 1) := by decide +kernel
theorem dX1_measureFrom_25 : decode cX1_measureFrom 25 = .ok (.invokestatic 31, 3) := by decide +kernel
theorem dX1_measureFrom_28 : decode cX1_measureFrom 28 = .ok (.aload_n 0, 1) := by decide +kernel
theorem dX1_measureFrom_29 : decode cX1_measureFrom 29 = .ok (.getfield 22, 3) := by decide +kernel
theorem dX1_measureFrom_32 : decode cX1_measureFrom 32 = .ok (.iload_n 2, 1) := by decide +kernel
theorem dX1_measureFrom_33 : decode cX1_measureFrom 33 = .ok (.aload_n 0, 1) := by decide +kernel
theorem dX1_measureFrom_34 : decode cX1_measureFrom 34 = .ok (.getfield 9, 3) := by decide +kernel
theorem dX1_measureFrom_37 : decode cX1_measureFrom 37 = .ok (.imul, 1) := by decide +kernel
theorem dX1_measureFrom_38 : decode cX1_measureFrom 38 = .ok (.iload_n 1, 1) := by decide +kernel
theorem dX1_measureFrom_39 : decode cX1_measureFrom 39 = .ok (.iadd, 1) := by decide +kernel
theorem dX1_measureFrom_40 : decode cX1_measureFrom 40 = .ok (.iconst 0, 1) := by decide +kernel
theorem dX1_measureFrom_41 : decode cX1_measureFrom 41 = .ok (.iastore, 1) := by decide +kernel
theorem dX1_measureFrom_42 : decode cX1_measureFrom 42 = .ok (.aload_n 0, 1) := by decide +kernel
theorem dX1_measureFrom_43 : decode cX1_measureFrom 43 = .ok (.getfield 25, 3) := by decide +kernel
theorem dX1_measureFrom_46 : decode cX1_measureFrom 46 = .ok (.iconst 0, 1) := by decide +kernel
theorem dX1_measureFrom_47 : decode cX1_measureFrom 47 = .ok (.iload_n 3, 1) := by decide +kernel
theorem dX1_measureFrom_48 : decode cX1_measureFrom 48 = .ok (.iastore, 1) := by decide +kernel
theorem dX1_measureFrom_49 : decode cX1_measureFrom 49 = .ok (.iconst 1, 1) := by decide +kernel
theorem dX1_measureFrom_50 : decode cX1_measureFrom 50 = .ok (.istore 4, 2) := by decide +kernel
theorem dX1_measureFrom_52 : decode cX1_measureFrom 52 = .ok (.iconst 0, 1) := by decide +kernel
theorem dX1_measureFrom_53 : decode cX1_measureFrom 53 = .ok (.istore 5, 2) := by decide +kernel
theorem dX1_measureFrom_55 : decode cX1_measureFrom 55 = .ok (.iload 5, 2) := by decide +kernel
theorem dX1_measureFrom_57 : decode cX1_measureFrom 57 = .ok (.iload 4, 2) := by decide +kernel
theorem dX1_measureFrom_59 : decode cX1_measureFrom 59 = .ok (.if_icmp .ge 172, 3) := by decide +kernel
theorem dX1_measureFrom_62 : decode cX1_measureFrom 62 = .ok (.iload 5, 2) := by decide +kernel
theorem dX1_measureFrom_64 : decode cX1_measureFrom 64 = .ok (.aload_n 0, 1) := by decide +kernel
theorem dX1_measureFrom_65 : decode cX1_measureFrom 65 = .ok (.getfield 25, 3) := by decide +kernel
theorem dX1_measureFrom_68 : decode cX1_measureFrom 68 = .ok (.arraylength, 1) := by decide +kernel
theorem dX1_measureFrom_69 : decode cX1_measureFrom 69 = .ok (.if_icmp .ge 162, 3) := by decide +kernel
theorem dX1_measureFrom_72 : decode cX1_measureFrom 72 = .ok (.aload_n 0, 1) := by decide +kernel
theorem dX1_measureFrom_73 : decode cX1_measureFrom 73 = .ok (.getfield 25, 3) := by decide +kernel
theorem dX1_measureFrom_76 : decode cX1_measureFrom 76 = .ok (.iload 5, 2) := by decide +kernel
theorem dX1_measureFrom_78 : decode cX1_measureFrom 78 = .ok (.iaload, 1) := by decide +kernel
theorem dX1_measureFrom_79 : decode cX1_measureFrom 79 = .ok (.bipush 31, 2) := by decide +kernel
theorem dX1_measureFrom_81 : decode cX1_measureFrom 81 = .ok (.iand, 1) := by decide +kernel
theorem dX1_measureFrom_82 : decode cX1_measureFrom 82 = .ok (.istore 6, 2) := by decide +kernel
theorem dX1_measureFrom_84 : decode cX1_measureFrom 84 = .ok (.aload_n 0, 1) := by decide +kernel
theorem dX1_measureFrom_85 : decode cX1_measureFrom 85 = .ok (.getfield 25, 3) := by decide +kernel
theorem dX1_measureFrom_88 : decode cX1_measureFrom 88 = .ok (.iload 5, 2) := by decide +kernel
theorem dX1_measureFrom_90 : decode cX1_measureFrom 90 = .ok (.iaload, 1) := by decide +kernel
theorem dX1_measureFrom_91 : decode cX1_measureFrom 91 = .ok (.iconst 5, 1) := by decide +kernel
theorem dX1_measureFrom_92 : decode cX1_measureFrom 92 = .ok (.ishr, 1) := by decide +kernel
theorem dX1_measureFrom_93 : decode cX1_measureFrom 93 = .ok (.istore 7, 2) := by decide +kernel
theorem dX1_measureFrom_95 : decode cX1_measureFrom 95 = .ok (.aload_n 0, 1) := by decide +kernel
theorem dX1_measureFrom_96 : decode cX1_measureFrom 96 = .ok (.getfield 22, 3) := by decide +kernel
theorem dX1_measureFrom_99 : decode cX1_measureFrom 99 = .ok (.iload 7, 2) := by decide +kernel
theorem dX1_measureFrom_101 : decode cX1_measureFrom 101 = .ok (.aload_n 0, 1) := by decide +kernel
theorem dX1_measureFrom_102 : decode cX1_measureFrom 102 = .ok (.getfield 9, 3) := by decide +kernel
theorem dX1_measureFrom_105 : decode cX1_measureFrom 105 = .ok (.imul, 1) := by decide +kernel
theorem dX1_measureFrom_106 : decode cX1_measureFrom 106 = .ok (.iload 6, 2) := by decide +kernel
theorem dX1_measureFrom_108 : decode cX1_measureFrom 108 = .ok (.iadd, 1) := by decide +kernel
theorem dX1_measureFrom_109 : decode cX1_measureFrom 109 = .ok (.iaload, 1) := by decide +kernel
theorem dX1_measureFrom_110 : decode cX1_measureFrom 110 = .ok (.iconst 1, 1) := by decide +kernel
theorem dX1_measureFrom_111 : decode cX1_measureFrom 111 = .ok (.iadd, 1) := by decide +kernel
theorem dX1_measureFrom_112 : decode cX1_measureFrom 112 = .ok (.istore 8, 2) := by decide +kernel
theorem dX1_measureFrom_114 : decode cX1_measureFrom 114 = .ok (.iconst 0, 1) := by decide +kernel
theorem dX1_measureFrom_115 : decode cX1_measureFrom 115 = .ok (.istore 9, 2) := by decide +kernel
theorem dX1_measureFrom_117 : decode cX1_measureFrom 117 = .ok (.iload 9, 2) := by decide +kernel
theorem dX1_measureFrom_119 : decode cX1_measureFrom 119 = .ok (.iconst 4, 1) := by decide +kernel
theorem dX1_measureFrom_120 : decode cX1_measureFrom 120 = .ok (.if_icmp .ge 105, 3) := by decide +kernel
theorem dX1_measureFrom_123 : decode cX1_measureFrom 123 = .ok (.iload 6, 2) := by decide +kernel
theorem dX1_measureFrom_125 : decode cX1_measureFrom 125 = .ok (.getstatic 56, 3) := by decide +kernel
theorem dX1_measureFrom_128 : decode cX1_measureFrom 128 = .ok (.iload 9, 2) := by decide +kernel
theorem dX1_measureFrom_130 : decode cX1_measureFrom 130 = .ok (.iaload, 1) := by decide +kernel
theorem dX1_measureFrom_131 : decode cX1_measureFrom 131 = .ok (.iadd, 1) := by decide +kernel
theorem dX1_measureFrom_132 : decode cX1_measureFrom 132 = .ok (.istore 10, 2) := by decide +kernel
theorem dX1_measureFrom_134 : decode cX1_measureFrom 134 = .ok (.iload 7, 2) := by decide +kernel
theorem dX1_measureFrom_136 : decode cX1_measureFrom 136 = .ok (.getstatic 59, 3) := by decide +kernel
theorem dX1_measureFrom_139 : decode cX1_measureFrom 139 = .ok (.iload 9, 2) := by decide +kernel
theorem dX1_measureFrom_141 : decode cX1_measureFrom 141 = .ok (.iaload, 1) := by decide +kernel
theorem dX1_measureFrom_142 : decode cX1_measureFrom 142 = .ok (.iadd, 1) := by decide +kernel
theorem dX1_measureFrom_143 : decode cX1_measureFrom 143 = .ok (.istore 11, 2) := by decide +kernel
theorem dX1_measureFrom_145 : decode cX1_measureFrom 145 = .ok (.aload_n 0, 1) := by decide +kernel
theorem dX1_measureFrom_146 : decode cX1_measureFrom 146 = .ok (.iload 10, 2) := by decide +kernel
theorem dX1_measureFrom_148 : decode cX1_measureFrom 148 = .ok (.iload 11, 2) := by decide +kernel
theorem dX1_measureFrom_150 : decode cX1_measureFrom 150 = .ok (.invokevirtual 41, 3) := by decide +kernel
theorem dX1_measureFrom_153 : decode cX1_measureFrom 153 = .ok (.ifCond .eq 66, 3) := by decide +kernel
theorem dX1_measureFrom_156 : decode cX1_measureFrom 156 = .ok (.iload 4, 2) := by decide +kernel
theorem dX1_measureFrom_158 : decode cX1_measureFrom 158 = .ok (.aload_n 0, 1) := by decide +kernel
theorem dX1_measureFrom_159 : decode cX1_measureFrom 159 = .ok (.getfield 25, 3) := by decide +kernel
theorem dX1_measureFrom_162 : decode cX1_measureFrom 162 = .ok (.arraylength, 1) := by decide +kernel
theorem dX1_measureFrom_163 : decode cX1_measureFrom 163 = .ok (.if_icmp .ge 56, 3) := by decide +kernel
theorem dX1_measureFrom_166 : decode cX1_measureFrom 166 = .ok (.aload_n 0, 1) := by decide +kernel
theorem dX1_measureFrom_167 : decode cX1_measureFrom 167 = .ok (.getfield 22, 3) := by decide +kernel
theorem dX1_measureFrom_170 : decode cX1_measureFrom 170 = .ok (.iload 11, 2) := by decide +kernel
theorem dX1_measureFrom_172 : decode cX1_measureFrom 172 = .ok (.aload_n 0, 1) := by decide +kernel
theorem dX1_measureFrom_173 : decode cX1_measureFrom 173 = .ok (.getfield 9, 3) := by decide +kernel
theorem dX1_measureFrom_176 : decode cX1_measureFrom 176 = .ok (.imul, 1) := by decide +kernel
theorem dX1_measureFrom_177 : decode cX1_measureFrom 177 = .ok (.iload 10, 2) := by decide +kernel
theorem dX1_measureFrom_179 : decode cX1_measureFrom 179 = .ok (.iadd, 1) := by decide +kernel
theorem dX1_measureFrom_180 : decode cX1_measureFrom 180 = .ok (.iaload, 1) := by decide +kernel
theorem dX1_measureFrom_181 : decode cX1_measureFrom 181 = .ok (.iconst (-1), 1) := by decide +kernel
theorem dX1_measureFrom_182 : decode cX1_measureFrom 182 = .ok (.if_icmp .ne 37, 3) := by decide +kernel
theorem dX1_measureFrom_185 : decode cX1_measureFrom 185 = .ok (.aload_n 0, 1) := by decide +kernel
theorem dX1_measureFrom_186 : decode cX1_measureFrom 186 = .ok (.getfield 22, 3) := by decide +kernel
theorem dX1_measureFrom_189 : decode cX1_measureFrom 189 = .ok (.iload 11, 2) := by decide +kernel
theorem dX1_measureFrom_191 : decode cX1_measureFrom 191 = .ok (.aload_n 0, 1) := by decide +kernel
theorem dX1_measureFrom_192 : decode cX1_measureFrom 192 = .ok (.getfield 9, 3) := by decide +kernel
theorem dX1_measureFrom_195 : decode cX1_measureFrom 195 = .ok (.imul, 1) := by decide +kernel
theorem dX1_measureFrom_196 : decode cX1_measureFrom 196 = .ok (.iload 10, 2) := by decide +kernel
theorem dX1_measureFrom_198 : decode cX1_measureFrom 198 = .ok (.iadd, 1) := by decide +kernel
theorem dX1_measureFrom_199 : decode cX1_measureFrom 199 = .ok (.iload 8, 2) := by decide +kernel
theorem dX1_measureFrom_201 : decode cX1_measureFrom 201 = .ok (.iastore, 1) := by decide +kernel
theorem dX1_measureFrom_202 : decode cX1_measureFrom 202 = .ok (.aload_n 0, 1) := by decide +kernel
theorem dX1_measureFrom_203 : decode cX1_measureFrom 203 = .ok (.getfield 25, 3) := by decide +kernel
theorem dX1_measureFrom_206 : decode cX1_measureFrom 206 = .ok (.iload 4, 2) := by decide +kernel
theorem dX1_measureFrom_208 : decode cX1_measureFrom 208 = .ok (.iload 11, 2) := by decide +kernel
theorem dX1_measureFrom_210 : decode cX1_measureFrom 210 = .ok (.iconst 5, 1) := by decide +kernel
theorem dX1_measureFrom_211 : decode cX1_measureFrom 211 = .ok (.ishl, 1) := by decide +kernel
theorem dX1_measureFrom_212 : decode cX1_measureFrom 212 = .ok (.iload 10, 2) := by decide +kernel
theorem dX1_measureFrom_214 : decode cX1_measureFrom 214 = .ok (.ior, 1) := by decide +kernel
theorem dX1_measureFrom_215 : decode cX1_measureFrom 215 = .ok (.iastore, 1) := by decide +kernel
theorem dX1_measureFrom_216 : decode cX1_measureFrom 216 = .ok (.iinc 4 1, 3) := by decide +kernel
theorem dX1_measureFrom_219 : decode cX1_measureFrom 219 = .ok (.iinc 9 1, 3) := by decide +kernel
theorem dX1_measureFrom_222 : decode cX1_measureFrom 222 = .ok (.goto (-105), 3) := by decide +kernel
theorem dX1_measureFrom_225 : decode cX1_measureFrom 225 = .ok (.iinc 5 1, 3) := by decide +kernel
theorem dX1_measureFrom_228 : decode cX1_measureFrom 228 = .ok (.goto (-173), 3) := by decide +kernel
theorem dX1_measureFrom_231 : decode cX1_measureFrom 231 = .ok (.return_, 1) := by decide +kernel
set_option maxRecDepth 20000 in
theorem ggX2_init_X0_init : GoodIn wsX2_init wsX0_init := goodIn_r _ [14, 15, 2, 3, 5, 16, 29, 30] (by decide +kernel) (by decide +kernel)
set_option maxRecDepth 20000 in
theorem gX2_init_X0_init : GoodIn wsX2_init (wsX0_init) := ggX2_init_X0_init
theorem dX2_init_0 : decode cX2_init 0 = .ok (.aload_n 0, 1) := by decide +kernel
theorem dX2_init_1 : decode cX2_init 1 = .ok (.invokespecial 3, 3) := by decide +kernel
theorem dX2_init_4 : decode cX2_init 4 = .ok (.aload_n 0, 1) := by decide +kernel
theorem dX2_init_5 : decode cX2_init 5 = .ok (.iload_n 1, 1) := by decide +kernel
theorem dX2_init_6 : decode cX2_init 6 = .ok (.putfield 9, 3) := by decide +kernel
theorem dX2_init_9 : decode cX2_init 9 = .ok (.aload_n 0, 1) := by decide +kernel
theorem dX2_init_10 : decode cX2_init 10 = .ok (.iload_n 2, 1) := by decide +kernel
theorem dX2_init_11 : decode cX2_init 11 = .ok (.newarray .int, 2) := by decide +kernel
theorem dX2_init_13 : decode cX2_init 13 = .ok (.putfield 15, 3) := by decide +kernel
theorem dX2_init_16 : decode cX2_init 16 = .ok (.aload_n 0, 1) := by decide +kernel
theorem dX2_init_17 : decode cX2_init 17 = .ok (.bipush 8, 2) := by decide +kernel
theorem dX2_init_19 : decode cX2_init 19 = .ok (.newarray .int, 2) := by decide +kernel
theorem dX2_init_21 : decode cX2_init 21 = .ok (.putfield 19, 3) := by decide +kernel
theorem dX2_init_24 : decode cX2_init 24 = .ok (.aload_n 0, 1) := by decide +kernel
theorem dX2_init_25 : decode cX2_init 25 = .ok (.new 22, 3) := by decide +kernel
theorem dX2_init_28 : decode cX2_init 28 = .ok (.dup, 1) := by decide +kernel
theorem dX2_init_29 : decode cX2_init 29 = .ok (.iload_n 3, 1) := by decide +kernel
theorem dX2_init_30 : decode cX2_init 30 = .ok (.invokespecial 24, 3) := by decide +kernel
theorem dX2_init_33 : decode cX2_init 33 = .ok (.putfield 27, 3) := by decide +kernel
theorem dX2_init_36 : decode cX2_init 36 = .ok (.return_, 1) := by decide +kernel
set_option maxRecDepth 20000 in
theorem ggX2_appear_J7_fill_53178 : GoodIn wsX2_appear wsJ7_fill_53178 := goodIn_r _ [15] (by decide +kernel) (by decide +kernel)
set_option maxRecDepth 20000 in
theorem gX2_appear_J7_fill_53178 : GoodIn wsX2_appear (va_wsS RX2 55 yJ7_fill_53178 wsJ7_fill_53178) := goodIn_app (goodIn_of _ (by decide +kernel)) ggX2_appear_J7_fill_53178
theorem dX2_appear_0 : decode cX2_appear 0 = .ok (.aload_n 0, 1) := by decide +kernel
theorem dX2_appear_1 : decode cX2_appear 1 = .ok (.iload_n 1, 1) := by decide +kernel
theorem dX2_appear_2 : decode cX2_appear 2 = .ok (.putfield 31, 3) := by decide +kernel
theorem dX2_appear_5 : decode cX2_appear 5 = .ok (.aload_n 0, 1) := by decide +kernel
theorem dX2_appear_6 : decode cX2_appear 6 = .ok (.iload_n 2, 1) := by decide +kernel
theorem dX2_appear_7 : decode cX2_appear 7 = .ok (.putfield 34, 3) := by decide +kernel
theorem dX2_appear_10 : decode cX2_appear 10 = .ok (.aload_n 0, 1) := by decide +kernel
theorem dX2_appear_11 : decode cX2_appear 11 = .ok (.iconst 1, 1) := by decide +kernel
theorem dX2_appear_12 : decode cX2_appear 12 = .ok (.putfield 37, 3) := by decide +kernel
theorem dX2_appear_15 : decode cX2_appear 15 = .ok (.aload_n 0, 1) := by decide +kernel
theorem dX2_appear_16 : decode cX2_appear 16 = .ok (.iconst 0, 1) := by decide +kernel
theorem dX2_appear_17 : decode cX2_appear 17 = .ok (.putfield 40, 3) := by decide +kernel
theorem dX2_appear_20 : decode cX2_appear 20 = .ok (.aload_n 0, 1) := by decide +kernel
theorem dX2_appear_21 : decode cX2_appear 21 = .ok (.iconst 0, 1) := by decide +kernel
theorem dX2_appear_22 : decode cX2_appear 22 = .ok (.putfield 43, 3) := by decide +kernel
theorem dX2_appear_25 : decode cX2_appear 25 = .ok (.aload_n 0, 1) := by decide +kernel
theorem dX2_appear_26 : decode cX2_appear 26 = .ok (.iconst 0, 1) := by decide +kernel
theorem dX2_appear_27 : decode cX2_appear 27 = .ok (.putfield 46, 3) := by decide +kernel
theorem dX2_appear_30 : decode cX2_appear 30 = .ok (.aload_n 0, 1) := by decide +kernel
theorem dX2_appear_31 : decode cX2_appear 31 = .ok (.iconst 0, 1) := by decide +kernel
theorem dX2_appear_32 : decode cX2_appear 32 = .ok (.putfield 49, 3) := by decide +kernel
theorem dX2_appear_35 : decode cX2_appear 35 = .ok (.aload_n 0, 1) := by decide +kernel
theorem dX2_appear_36 : decode cX2_appear 36 = .ok (.iconst 0, 1) := by decide +kernel
theorem dX2_appear_37 : decode cX2_appear 37 = .ok (.putfield 52, 3) := by decide +kernel
theorem dX2_appear_40 : decode cX2_appear 40 = .ok (.aload_n 0, 1) := by decide +kernel
theorem dX2_appear_41 : decode cX2_appear 41 = .ok (.getfield 19, 3) := by decide +kernel
theorem dX2_appear_44 : decode cX2_appear 44 = .ok (.iconst 0, 1) := by decide +kernel
theorem dX2_appear_45 : decode cX2_appear 45 = .ok (.invokestatic 55, 3) := by decide +kernel
theorem dX2_appear_48 : decode cX2_appear 48 = .ok (.aload_n 0, 1) := by decide +kernel
theorem dX2_appear_49 : decode cX2_appear 49 = .ok (.getfield 27, 3) := by decide +kernel
theorem dX2_appear_52 : decode cX2_appear 52 = .ok (.iconst 0, 1) := by decide +kernel
theorem dX2_appear_53 : decode cX2_appear 53 = .ok (.putfield 61, 3) := by decide +kernel
theorem dX2_appear_56 : decode cX2_appear 56 = .ok (.return_, 1) := by decide +kernel
theorem dX2_addWord_0 : decode cX2_addWord 0 = .ok (.aload_n 0, 1) := by decide +kernel
theorem dX2_addWord_1 : decode cX2_addWord 1 = .ok (.getfield 43, 3) := by decide +kernel
theorem dX2_addWord_4 : decode cX2_addWord 4 = .ok (.aload_n 0, 1) := by decide +kernel
theorem dX2_addWord_5 : decode cX2_addWord 5 = .ok (.getfield 15, 3) := by decide +kernel
theorem dX2_addWord_8 : decode cX2_addWord 8 = .ok (.arraylength, 1) := by decide +kernel
theorem dX2_addWord_9 : decode cX2_addWord 9 = .ok (.if_icmp .lt 5, 3) := by decide +kernel
theorem dX2_addWord_12 : decode cX2_addWord 12 = .ok (.iconst 0, 1) := by decide +kernel
theorem dX2_addWord_13 : decode cX2_addWord 13 = .ok (.ireturn, 1) := by decide +kernel
theorem dX2_addWord_14 : decode cX2_addWord 14 = .ok (.aload_n 0, 1) := by decide +kernel
theorem dX2_addWord_15 : decode cX2_addWord 15 = .ok (.getfield 15, 3) := by decide +kernel
theorem dX2_addWord_18 : decode cX2_addWord 18 = .ok (.aload_n 0, 1) := by decide +kernel
theorem dX2_addWord_19 : decode cX2_addWord 19 = .ok (.getfield 43, 3) := by decide +kernel
theorem dX2_addWord_22 : decode cX2_addWord 22 = .ok (.iload_n 1, 1) := by decide +kernel
theorem dX2_addWord_23 : decode cX2_addWord 23 = .ok (.iastore, 1) := by decide +kernel
theorem dX2_addWord_24 : decode cX2_addWord 24 = .ok (.aload_n 0, 1) := by decide +kernel
theorem dX2_addWord_25 : decode cX2_addWord 25 = .ok (.dup, 1) := by decide +kernel
theorem dX2_addWord_26 : decode cX2_addWord 26 = .ok (.getfield 43, 3) := by decide +kernel
theorem dX2_addWord_29 : decode cX2_addWord 29 = .ok (.iconst 1, 1) := by decide +kernel
theorem dX2_addWord_30 : decode cX2_addWord 30 = .ok (.iadd, 1) := by decide +kernel
theorem dX2_addWord_31 : decode cX2_addWord 31 = .ok (.putfield 43, 3) := by decide +kernel
theorem dX2_addWord_34 : decode cX2_addWord 34 = .ok (.iconst 1, 1) := by decide +kernel
theorem dX2_addWord_35 : decode cX2_addWord 35 = .ok (.ireturn, 1) := by decide +kernel
set_option maxRecDepth 20000 in
theorem ggX2_mustFail_X3_opOf : GoodIn wsX2_mustFail wsX3_opOf := goodIn_r _ [7] (by decide +kernel) (by decide +kernel)
set_option maxRecDepth 20000 in
theorem gX2_mustFail_X3_opOf_n64 : GoodIn wsX2_mustFail (wsX3_opOf) := ggX2_mustFail_X3_opOf
set_option maxRecDepth 20000 in
theorem ggX2_mustFail_X3_sOf : GoodIn wsX2_mustFail wsX3_sOf := goodIn_r _ [9] (by decide +kernel) (by decide +kernel)
set_option maxRecDepth 20000 in
theorem gX2_mustFail_X3_sOf_n68 : GoodIn wsX2_mustFail (wsX3_sOf) := ggX2_mustFail_X3_sOf
set_option maxRecDepth 20000 in
theorem ggX2_mustFail_X3_rOf : GoodIn wsX2_mustFail wsX3_rOf := goodIn_r _ [11] (by decide +kernel) (by decide +kernel)
set_option maxRecDepth 20000 in
theorem gX2_mustFail_X3_rOf_n71 : GoodIn wsX2_mustFail (wsX3_rOf) := ggX2_mustFail_X3_rOf
theorem dX2_mustFail_0 : decode cX2_mustFail 0 = .ok (.aload_n 0, 1) := by decide +kernel
theorem dX2_mustFail_1 : decode cX2_mustFail 1 = .ok (.getfield 40, 3) := by decide +kernel
theorem dX2_mustFail_4 : decode cX2_mustFail 4 = .ok (.ifCond .lt 26, 3) := by decide +kernel
theorem dX2_mustFail_7 : decode cX2_mustFail 7 = .ok (.aload_n 0, 1) := by decide +kernel
theorem dX2_mustFail_8 : decode cX2_mustFail 8 = .ok (.getfield 40, 3) := by decide +kernel
theorem dX2_mustFail_11 : decode cX2_mustFail 11 = .ok (.aload_n 0, 1) := by decide +kernel
theorem dX2_mustFail_12 : decode cX2_mustFail 12 = .ok (.getfield 43, 3) := by decide +kernel
theorem dX2_mustFail_15 : decode cX2_mustFail 15 = .ok (.if_icmp .ge 15, 3) := by decide +kernel
theorem dX2_mustFail_18 : decode cX2_mustFail 18 = .ok (.aload_n 0, 1) := by decide +kernel
theorem dX2_mustFail_19 : decode cX2_mustFail 19 = .ok (.getfield 40, 3) := by decide +kernel
theorem dX2_mustFail_22 : decode cX2_mustFail 22 = .ok (.aload_n 0, 1) := by decide +kernel
theorem dX2_mustFail_23 : decode cX2_mustFail 23 = .ok (.getfield 15, 3) := by decide +kernel
theorem dX2_mustFail_26 : decode cX2_mustFail 26 = .ok (.arraylength, 1) := by decide +kernel
theorem dX2_mustFail_27 : decode cX2_mustFail 27 = .ok (.if_icmp .lt 5, 3) := by decide +kernel
theorem dX2_mustFail_30 : decode cX2_mustFail 30 = .ok (.iconst 1, 1) := by decide +kernel
theorem dX2_mustFail_31 : decode cX2_mustFail 31 = .ok (.ireturn, 1) := by decide +kernel
theorem dX2_mustFail_32 : decode cX2_mustFail 32 = .ok (.aload_n 0, 1) := by decide +kernel
theorem dX2_mustFail_33 : decode cX2_mustFail 33 = .ok (.getfield 15, 3) := by decide +kernel
theorem dX2_mustFail_36 : decode cX2_mustFail 36 = .ok (.aload_n 0, 1) := by decide +kernel
theorem dX2_mustFail_37 : decode cX2_mustFail 37 = .ok (.getfield 40, 3) := by decide +kernel
theorem dX2_mustFail_40 : decode cX2_mustFail 40 = .ok (.iaload, 1) := by decide +kernel
theorem dX2_mustFail_41 : decode cX2_mustFail 41 = .ok (.istore_n 1, 1) := by decide +kernel
theorem dX2_mustFail_42 : decode cX2_mustFail 42 = .ok (.iload_n 1, 1) := by decide +kernel
theorem dX2_mustFail_43 : decode cX2_mustFail 43 = .ok (.invokestatic 64, 3) := by decide +kernel
theorem dX2_mustFail_46 : decode cX2_mustFail 46 = .ok (.istore_n 2, 1) := by decide +kernel
theorem dX2_mustFail_47 : decode cX2_mustFail 47 = .ok (.iload_n 1, 1) := by decide +kernel
theorem dX2_mustFail_48 : decode cX2_mustFail 48 = .ok (.invokestatic 68, 3) := by decide +kernel
theorem dX2_mustFail_51 : decode cX2_mustFail 51 = .ok (.istore_n 3, 1) := by decide +kernel
theorem dX2_mustFail_52 : decode cX2_mustFail 52 = .ok (.iload_n 2, 1) := by decide +kernel
theorem dX2_mustFail_53 : decode cX2_mustFail 53 = .ok (.bipush 24, 2) := by decide +kernel
theorem dX2_mustFail_55 : decode cX2_mustFail 55 = .ok (.if_icmp .gt 18, 3) := by decide +kernel
theorem dX2_mustFail_58 : decode cX2_mustFail 58 = .ok (.iload_n 1, 1) := by decide +kernel
theorem dX2_mustFail_59 : decode cX2_mustFail 59 = .ok (.invokestatic 71, 3) := by decide +kernel
theorem dX2_mustFail_62 : decode cX2_mustFail 62 = .ok (.bipush 8, 2) := by decide +kernel
theorem dX2_mustFail_64 : decode cX2_mustFail 64 = .ok (.if_icmp .ge 9, 3) := by decide +kernel
theorem dX2_mustFail_67 : decode cX2_mustFail 67 = .ok (.iload_n 3, 1) := by decide +kernel
theorem dX2_mustFail_68 : decode cX2_mustFail 68 = .ok (.bipush 8, 2) := by decide +kernel
theorem dX2_mustFail_70 : decode cX2_mustFail 70 = .ok (.if_icmp .lt 5, 3) := by decide +kernel
theorem dX2_mustFail_73 : decode cX2_mustFail 73 = .ok (.iconst 1, 1) := by decide +kernel
theorem dX2_mustFail_74 : decode cX2_mustFail 74 = .ok (.ireturn, 1) := by decide +kernel
theorem dX2_mustFail_75 : decode cX2_mustFail 75 = .ok (.iload_n 2, 1) := by decide +kernel
theorem dX2_mustFail_76 : decode cX2_mustFail 76 = .ok (.bipush 6, 2) := by decide +kernel
theorem dX2_mustFail_78 : decode cX2_mustFail 78 = .ok (.if_icmp .eq 9, 3) := by decide +kernel
theorem dX2_mustFail_81 : decode cX2_mustFail 81 = .ok (.iload_n 2, 1) := by decide +kernel
theorem dX2_mustFail_82 : decode cX2_mustFail 82 = .ok (.bipush 7, 2) := by decide +kernel
theorem dX2_mustFail_84 : decode cX2_mustFail 84 = .ok (.if_icmp .ne 16, 3) := by decide +kernel
theorem dX2_mustFail_87 : decode cX2_mustFail 87 = .ok (.aload_n 0, 1) := by decide +kernel
theorem dX2_mustFail_88 : decode cX2_mustFail 88 = .ok (.getfield 19, 3) := by decide +kernel
theorem dX2_mustFail_91 : decode cX2_mustFail 91 = .ok (.iload_n 3, 1) := by decide +kernel
theorem dX2_mustFail_92 : decode cX2_mustFail 92 = .ok (.iaload, 1) := by decide +kernel
theorem dX2_mustFail_93 : decode cX2_mustFail 93 = .ok (.ifCond .ne 7, 3) := by decide +kernel
theorem dX2_mustFail_96 : decode cX2_mustFail 96 = .ok (.iconst 1, 1) := by decide +kernel
theorem dX2_mustFail_97 : decode cX2_mustFail 97 = .ok (.goto 4, 3) := by decide +kernel
theorem dX2_mustFail_100 : decode cX2_mustFail 100 = .ok (.iconst 0, 1) := by decide +kernel
theorem dX2_mustFail_101 : decode cX2_mustFail 101 = .ok (.ireturn, 1) := by decide +kernel
theorem dX2_takesMail_0 : decode cX2_takesMail 0 = .ok (.aload_n 0, 1) := by decide +kernel
theorem dX2_takesMail_1 : decode cX2_takesMail 1 = .ok (.getfield 37, 3) := by decide +kernel
theorem dX2_takesMail_4 : decode cX2_takesMail 4 = .ok (.iconst 2, 1) := by decide +kernel
theorem dX2_takesMail_5 : decode cX2_takesMail 5 = .ok (.if_icmp .eq 19, 3) := by decide +kernel
theorem dX2_takesMail_8 : decode cX2_takesMail 8 = .ok (.aload_n 0, 1) := by decide +kernel
theorem dX2_takesMail_9 : decode cX2_takesMail 9 = .ok (.getfield 37, 3) := by decide +kernel
theorem dX2_takesMail_12 : decode cX2_takesMail 12 = .ok (.iconst 3, 1) := by decide +kernel
theorem dX2_takesMail_13 : decode cX2_takesMail 13 = .ok (.if_icmp .eq 11, 3) := by decide +kernel
theorem dX2_takesMail_16 : decode cX2_takesMail 16 = .ok (.aload_n 0, 1) := by decide +kernel
theorem dX2_takesMail_17 : decode cX2_takesMail 17 = .ok (.getfield 37, 3) := by decide +kernel
theorem dX2_takesMail_20 : decode cX2_takesMail 20 = .ok (.iconst 4, 1) := by decide +kernel
theorem dX2_takesMail_21 : decode cX2_takesMail 21 = .ok (.if_icmp .ne 7, 3) := by decide +kernel
theorem dX2_takesMail_24 : decode cX2_takesMail 24 = .ok (.iconst 1, 1) := by decide +kernel
theorem dX2_takesMail_25 : decode cX2_takesMail 25 = .ok (.goto 4, 3) := by decide +kernel
theorem dX2_takesMail_28 : decode cX2_takesMail 28 = .ok (.iconst 0, 1) := by decide +kernel
theorem dX2_takesMail_29 : decode cX2_takesMail 29 = .ok (.ireturn, 1) := by decide +kernel
theorem dX2_fallAsleep_0 : decode cX2_fallAsleep 0 = .ok (.iload_n 1, 1) := by decide +kernel
theorem dX2_fallAsleep_1 : decode cX2_fallAsleep 1 = .ok (.ifCond .le 13, 3) := by decide +kernel
theorem dX2_fallAsleep_4 : decode cX2_fallAsleep 4 = .ok (.aload_n 0, 1) := by decide +kernel
theorem dX2_fallAsleep_5 : decode cX2_fallAsleep 5 = .ok (.iconst 3, 1) := by decide +kernel
theorem dX2_fallAsleep_6 : decode cX2_fallAsleep 6 = .ok (.putfield 37, 3) := by decide +kernel
theorem dX2_fallAsleep_9 : decode cX2_fallAsleep 9 = .ok (.aload_n 0, 1) := by decide +kernel
theorem dX2_fallAsleep_10 : decode cX2_fallAsleep 10 = .ok (.iload_n 1, 1) := by decide +kernel
theorem dX2_fallAsleep_11 : decode cX2_fallAsleep 11 = .ok (.putfield 52, 3) := by decide +kernel
theorem dX2_fallAsleep_14 : decode cX2_fallAsleep 14 = .ok (.return_, 1) := by decide +kernel
theorem dX2_sleepOn_0 : decode cX2_sleepOn 0 = .ok (.aload_n 0, 1) := by decide +kernel
theorem dX2_sleepOn_1 : decode cX2_sleepOn 1 = .ok (.getfield 37, 3) := by decide +kernel
theorem dX2_sleepOn_4 : decode cX2_sleepOn 4 = .ok (.iconst 3, 1) := by decide +kernel
theorem dX2_sleepOn_5 : decode cX2_sleepOn 5 = .ok (.if_icmp .eq 4, 3) := by decide +kernel
theorem dX2_sleepOn_8 : decode cX2_sleepOn 8 = .ok (.return_, 1) := by decide +kernel
theorem dX2_sleepOn_9 : decode cX2_sleepOn 9 = .ok (.aload_n 0, 1) := by decide +kernel
theorem dX2_sleepOn_10 : decode cX2_sleepOn 10 = .ok (.getfield 52, 3) := by decide +kernel
theorem dX2_sleepOn_13 : decode cX2_sleepOn 13 = .ok (.ifCond .le 16, 3) := by decide +kernel
theorem dX2_sleepOn_16 : decode cX2_sleepOn 16 = .ok (.aload_n 0, 1) := by decide +kernel
theorem dX2_sleepOn_17 : decode cX2_sleepOn 17 = .ok (.dup, 1) := by decide +kernel
theorem dX2_sleepOn_18 : decode cX2_sleepOn 18 = .ok (.getfield 52, 3) := by decide +kernel
theorem dX2_sleepOn_21 : decode cX2_sleepOn 21 = .ok (.iconst 1, 1) := by decide +kernel
theorem dX2_sleepOn_22 : decode cX2_sleepOn 22 = .ok (.isub, 1) := by decide +kernel
theorem dX2_sleepOn_23 : decode cX2_sleepOn 23 = .ok (.putfield 52, 3) := by decide +kernel
theorem dX2_sleepOn_26 : decode cX2_sleepOn 26 = .ok (.goto 8, 3) := by decide +kernel
theorem dX2_sleepOn_29 : decode cX2_sleepOn 29 = .ok (.aload_n 0, 1) := by decide +kernel
theorem dX2_sleepOn_30 : decode cX2_sleepOn 30 = .ok (.iconst 2, 1) := by decide +kernel
theorem dX2_sleepOn_31 : decode cX2_sleepOn 31 = .ok (.putfield 37, 3) := by decide +kernel
theorem dX2_sleepOn_34 : decode cX2_sleepOn 34 = .ok (.return_, 1) := by decide +kernel
theorem dX2_show_0 : decode cX2_show 0 = .ok (.iload_n 1, 1) := by decide +kernel
theorem dX2_show_1 : decode cX2_show 1 = .ok (.ifCond .lt 19, 3) := by decide +kernel
theorem dX2_show_4 : decode cX2_show 4 = .ok (.iload_n 1, 1) := by decide +kernel
theorem dX2_show_5 : decode cX2_show 5 = .ok (.aload_n 0, 1) := by decide +kernel
theorem dX2_show_6 : decode cX2_show 6 = .ok (.getfield 19, 3) := by decide +kernel
theorem dX2_show_9 : decode cX2_show 9 = .ok (.arraylength, 1) := by decide +kernel
theorem dX2_show_10 : decode cX2_show 10 = .ok (.if_icmp .ge 10, 3) := by decide +kernel
theorem dX2_show_13 : decode cX2_show 13 = .ok (.aload_n 0, 1) := by decide +kernel
theorem dX2_show_14 : decode cX2_show 14 = .ok (.getfield 19, 3) := by decide +kernel
theorem dX2_show_17 : decode cX2_show 17 = .ok (.iload_n 1, 1) := by decide +kernel
theorem dX2_show_18 : decode cX2_show 18 = .ok (.iaload, 1) := by decide +kernel
theorem dX2_show_19 : decode cX2_show 19 = .ok (.ireturn, 1) := by decide +kernel
theorem dX2_show_20 : decode cX2_show 20 = .ok (.iload_n 1, 1) := by decide +kernel
theorem dX2_show_21 : decode cX2_show 21 = .ok (.tableswitch 84 8 13 #[39, 46, 53, 63, 70, 77], 39) := by decide +kernel
theorem dX2_show_60 : decode cX2_show 60 = .ok (.aload_n 0, 1) := by decide +kernel
theorem dX2_show_61 : decode cX2_show 61 = .ok (.getfield 40, 3) := by decide +kernel
theorem dX2_show_64 : decode cX2_show 64 = .ok (.goto 42, 3) := by decide +kernel
theorem dX2_show_67 : decode cX2_show 67 = .ok (.aload_n 0, 1) := by decide +kernel
theorem dX2_show_68 : decode cX2_show 68 = .ok (.getfield 49, 3) := by decide +kernel
theorem dX2_show_71 : decode cX2_show 71 = .ok (.goto 35, 3) := by decide +kernel
theorem dX2_show_74 : decode cX2_show 74 = .ok (.aload_n 0, 1) := by decide +kernel
theorem dX2_show_75 : decode cX2_show 75 = .ok (.getfield 27, 3) := by decide +kernel
theorem dX2_show_78 : decode cX2_show 78 = .ok (.getfield 61, 3) := by decide +kernel
theorem dX2_show_81 : decode cX2_show 81 = .ok (.goto 25, 3) := by decide +kernel
theorem dX2_show_84 : decode cX2_show 84 = .ok (.aload_n 0, 1) := by decide +kernel
theorem dX2_show_85 : decode cX2_show 85 = .ok (.getfield 43, 3) := by decide +kernel
theorem dX2_show_88 : decode cX2_show 88 = .ok (.goto 18, 3) := by decide +kernel
theorem dX2_show_91 : decode cX2_show 91 = .ok (.aload_n 0, 1) := by decide +kernel
theorem dX2_show_92 : decode cX2_show 92 = .ok (.getfield 46, 3) := by decide +kernel
theorem dX2_show_95 : decode cX2_show 95 = .ok (.goto 11, 3) := by decide +kernel
theorem dX2_show_98 : decode cX2_show 98 = .ok (.aload_n 0, 1) := by decide +kernel
theorem dX2_show_99 : decode cX2_show 99 = .ok (.getfield 52, 3) := by decide +kernel
theorem dX2_show_102 : decode cX2_show 102 = .ok (.goto 4, 3) := by decide +kernel
theorem dX2_show_105 : decode cX2_show 105 = .ok (.iconst 0, 1) := by decide +kernel
theorem dX2_show_106 : decode cX2_show 106 = .ok (.ireturn, 1) := by decide +kernel
theorem dJ9_max_7cf53_0 : decode cJ9_max_7cf53 0 = .ok (.iload_n 0, 1) := by decide +kernel
theorem dJ9_max_7cf53_1 : decode cJ9_max_7cf53 1 = .ok (.iload_n 1, 1) := by decide +kernel
theorem dJ9_max_7cf53_2 : decode cJ9_max_7cf53 2 = .ok (.if_icmp .lt 7, 3) := by decide +kernel
theorem dJ9_max_7cf53_5 : decode cJ9_max_7cf53 5 = .ok (.iload_n 0, 1) := by decide +kernel
theorem dJ9_max_7cf53_6 : decode cJ9_max_7cf53 6 = .ok (.goto 4, 3) := by decide +kernel
theorem dJ9_max_7cf53_9 : decode cJ9_max_7cf53 9 = .ok (.iload_n 1, 1) := by decide +kernel
theorem dJ9_max_7cf53_10 : decode cJ9_max_7cf53 10 = .ok (.ireturn, 1) := by decide +kernel
theorem dJ9_min_7cf53_0 : decode cJ9_min_7cf53 0 = .ok (.iload_n 0, 1) := by decide +kernel
theorem dJ9_min_7cf53_1 : decode cJ9_min_7cf53 1 = .ok (.iload_n 1, 1) := by decide +kernel
theorem dJ9_min_7cf53_2 : decode cJ9_min_7cf53 2 = .ok (.if_icmp .gt 7, 3) := by decide +kernel
theorem dJ9_min_7cf53_5 : decode cJ9_min_7cf53 5 = .ok (.iload_n 0, 1) := by decide +kernel
theorem dJ9_min_7cf53_6 : decode cJ9_min_7cf53 6 = .ok (.goto 4, 3) := by decide +kernel
theorem dJ9_min_7cf53_9 : decode cJ9_min_7cf53 9 = .ok (.iload_n 1, 1) := by decide +kernel
theorem dJ9_min_7cf53_10 : decode cJ9_min_7cf53 10 = .ok (.ireturn, 1) := by decide +kernel
theorem dJ7_fill_53178_0 : decode cJ7_fill_53178 0 = .ok (.iconst 0, 1) := by decide +kernel
theorem dJ7_fill_53178_1 : decode cJ7_fill_53178 1 = .ok (.istore_n 2, 1) := by decide +kernel
theorem dJ7_fill_53178_2 : decode cJ7_fill_53178 2 = .ok (.aload_n 0, 1) := by decide +kernel
theorem dJ7_fill_53178_3 : decode cJ7_fill_53178 3 = .ok (.arraylength, 1) := by decide +kernel
theorem dJ7_fill_53178_4 : decode cJ7_fill_53178 4 = .ok (.istore_n 3, 1) := by decide +kernel
theorem dJ7_fill_53178_5 : decode cJ7_fill_53178 5 = .ok (.iload_n 2, 1) := by decide +kernel
theorem dJ7_fill_53178_6 : decode cJ7_fill_53178 6 = .ok (.iload_n 3, 1) := by decide +kernel
theorem dJ7_fill_53178_7 : decode cJ7_fill_53178 7 = .ok (.if_icmp .ge 13, 3) := by decide +kernel
theorem dJ7_fill_53178_10 : decode cJ7_fill_53178 10 = .ok (.aload_n 0, 1) := by decide +kernel
theorem dJ7_fill_53178_11 : decode cJ7_fill_53178 11 = .ok (.iload_n 2, 1) := by decide +kernel
theorem dJ7_fill_53178_12 : decode cJ7_fill_53178 12 = .ok (.iload_n 1, 1) := by decide +kernel
theorem dJ7_fill_53178_13 : decode cJ7_fill_53178 13 = .ok (.iastore, 1) := by decide +kernel
theorem dJ7_fill_53178_14 : decode cJ7_fill_53178 14 = .ok (.iinc 2 1, 3) := by decide +kernel
theorem dJ7_fill_53178_17 : decode cJ7_fill_53178 17 = .ok (.goto (-12), 3) := by decide +kernel
theorem dJ7_fill_53178_20 : decode cJ7_fill_53178 20 = .ok (.return_, 1) := by decide +kernel
end
section
set_option maxRecDepth 20000 in
theorem ggX3_init_X3_bounded : GoodIn wsX3_init wsX3_bounded := goodIn_r _ [15, 16, 17, 18, 19, 20, 21, 22] (by decide +kernel) (by decide +kernel)
set_option maxRecDepth 20000 in
theorem gX3_init_X3_bounded : GoodIn wsX3_init (va_wsS RX3 11 yX3_bounded wsX3_bounded) := goodIn_app (goodIn_of _ (by decide +kernel)) ggX3_init_X3_bounded
set_option maxRecDepth 20000 in
theorem ggX3_init_X1_init : GoodIn wsX3_init wsX1_init := goodIn_r _ [25, 26, 2, 3, 27, 28, 29, 30, 31, 32, 33, 65, 66, 67, 68, 69, 70] (by decide +kernel) (by decide +kernel)
set_option maxRecDepth 20000 in
theorem gX3_init_X1_init : GoodIn wsX3_init (wsX1_init) := ggX3_init_X1_init
set_option maxRecDepth 20000 in
theorem ggX3_init_X2_init : GoodIn wsX3_init wsX2_init := goodIn_r _ [36, 37, 2, 3, 38, 29, 39, 40, 41, 42, 43, 44, 45, 46, 47, 48, 49, 75, 76, 77, 78, 79, 80, 81, 82, 83, 84, 85, 86, 87, 88] (by decide +kernel) (by decide +kernel)
set_option maxRecDepth 20000 in
theorem gX3_init_X2_init : GoodIn wsX3_init (wsX2_init) := ggX3_init_X2_init
set_option maxRecDepth 20000 in
theorem ggX3_init_X3_startOver : GoodIn wsX3_init wsX3_startOver := goodIn_r _ [53, 7, 9, 54, 55, 56, 57, 58, 59, 6, 60, 30, 33, 61, 62, 63, 64, 71, 72, 73, 74, 75, 76, 77, 78, 79, 80, 81, 82, 83, 84, 85, 86, 65, 66, 67, 68, 69, 70] (by decide +kernel) (by decide +kernel)
set_option maxRecDepth 20000 in
theorem gX3_init_X3_startOver : GoodIn wsX3_init (wsV RX3 31 RX3 yX3_startOver wsX3_startOver) := goodIn_app (goodIn_of _ (by decide +kernel)) ggX3_init_X3_startOver
theorem dX3_init_0 : decode cX3_init 0 = .ok (.aload_n 0, 1) := by decide +kernel
theorem dX3_init_1 : decode cX3_init 1 = .ok (.invokespecial 1, 3) := by decide +kernel
theorem dX3_init_4 : decode cX3_init 4 = .ok (.aload_n 0, 1) := by decide +kernel
theorem dX3_init_5 : decode cX3_init 5 = .ok (.new 7, 3) := by decide +kernel
theorem dX3_init_8 : decode cX3_init 8 = .ok (.dup, 1) := by decide +kernel
theorem dX3_init_9 : decode cX3_init 9 = .ok (.iload_n 1, 1) := by decide +kernel
theorem dX3_init_10 : decode cX3_init 10 = .ok (.bipush 32, 2) := by decide +kernel
theorem dX3_init_12 : decode cX3_init 12 = .ok (.invokestatic 11, 3) := by decide +kernel
theorem dX3_init_15 : decode cX3_init 15 = .ok (.iload_n 2, 1) := by decide +kernel
theorem dX3_init_16 : decode cX3_init 16 = .ok (.bipush 32, 2) := by decide +kernel
theorem dX3_init_18 : decode cX3_init 18 = .ok (.invokestatic 11, 3) := by decide +kernel
theorem dX3_init_21 : decode cX3_init 21 = .ok (.invokespecial 15, 3) := by decide +kernel
theorem dX3_init_24 : decode cX3_init 24 = .ok (.putfield 18, 3) := by decide +kernel
theorem dX3_init_27 : decode cX3_init 27 = .ok (.aload_n 0, 1) := by decide +kernel
theorem dX3_init_28 : decode cX3_init 28 = .ok (.iload_n 3, 1) := by decide +kernel
theorem dX3_init_29 : decode cX3_init 29 = .ok (.bipush 8, 2) := by decide +kernel
theorem dX3_init_31 : decode cX3_init 31 = .ok (.invokestatic 11, 3) := by decide +kernel
theorem dX3_init_34 : decode cX3_init 34 = .ok (.anewarray 22, 3) := by decide +kernel
theorem dX3_init_37 : decode cX3_init 37 = .ok (.putfield 24, 3) := by decide +kernel
theorem dX3_init_40 : decode cX3_init 40 = .ok (.iload 4, 2) := by decide +kernel
theorem dX3_init_42 : decode cX3_init 42 = .ok (.bipush 100, 2) := by decide +kernel
theorem dX3_init_44 : decode cX3_init 44 = .ok (.invokestatic 11, 3) := by decide +kernel
theorem dX3_init_47 : decode cX3_init 47 = .ok (.istore 6, 2) := by decide +kernel
theorem dX3_init_49 : decode cX3_init 49 = .ok (.iload 5, 2) := by decide +kernel
theorem dX3_init_51 : decode cX3_init 51 = .ok (.bipush 16, 2) := by decide +kernel
theorem dX3_init_53 : decode cX3_init 53 = .ok (.invokestatic 11, 3) := by decide +kernel
theorem dX3_init_56 : decode cX3_init 56 = .ok (.istore 7, 2) := by decide +kernel
theorem dX3_init_58 : decode cX3_init 58 = .ok (.iconst 0, 1) := by decide +kernel
theorem dX3_init_59 : decode cX3_init 59 = .ok (.istore 8, 2) := by decide +kernel
theorem dX3_init_61 : decode cX3_init 61 = .ok (.iload 8, 2) := by decide +kernel
theorem dX3_init_63 : decode cX3_init 63 = .ok (.aload_n 0, 1) := by decide +kernel
theorem dX3_init_64 : decode cX3_init 64 = .ok (.getfield 24, 3) := by decide +kernel
theorem dX3_init_67 : decode cX3_init 67 = .ok (.arraylength, 1) := by decide +kernel
theorem dX3_init_68 : decode cX3_init 68 = .ok (.if_icmp .ge 29, 3) := by decide +kernel
theorem dX3_init_71 : decode cX3_init 71 = .ok (.aload_n 0, 1) := by decide +kernel
theorem dX3_init_72 : decode cX3_init 72 = .ok (.getfield 24, 3) := by decide +kernel
theorem dX3_init_75 : decode cX3_init 75 = .ok (.iload 8, 2) := by decide +kernel
theorem dX3_init_77 : decode cX3_init 77 = .ok (.new 22, 3) := by decide +kernel
theorem dX3_init_80 : decode cX3_init 80 = .ok (.dup, 1) := by decide +kernel
theorem dX3_init_81 : decode cX3_init 81 = .ok (.iload 8, 2) := by decide +kernel
theorem dX3_init_83 : decode cX3_init 83 = .ok (.iload 6, 2) := by decide +kernel
theorem dX3_init_85 : decode cX3_init 85 = .ok (.iload 7, 2) := by decide +kernel
theorem dX3_init_87 : decode cX3_init 87 = .ok (.invokespecial 28, 3) := by decide +kernel
theorem dX3_init_90 : decode cX3_init 90 = .ok (.aastore, 1) := by decide +kernel
theorem dX3_init_91 : decode cX3_init 91 = .ok (.iinc 8 1, 3) := by decide +kernel
theorem dX3_init_94 : decode cX3_init 94 = .ok (.goto (-33), 3) := by decide +kernel
theorem dX3_init_97 : decode cX3_init 97 = .ok (.aload_n 0, 1) := by decide +kernel
theorem dX3_init_98 : decode cX3_init 98 = .ok (.invokevirtual 31, 3) := by decide +kernel
theorem dX3_init_101 : decode cX3_init 101 = .ok (.return_, 1) := by decide +kernel
set_option maxRecDepth 20000 in
theorem ggX3_init__X3_startOver : GoodIn wsX3_init_ wsX3_startOver := goodIn_r _ [5, 6, 7, 8, 9, 10, 11, 12, 13, 14, 15, 16, 17, 18, 19, 20, 21, 22, 23, 24, 25, 26, 27, 28, 29, 30, 31, 32, 33, 34, 35, 36, 37, 38, 39, 40, 41, 42, 43] (by decide +kernel) (by decide +kernel)
set_option maxRecDepth 20000 in
theorem gX3_init__X3_startOver : GoodIn wsX3_init_ (wsV RX3 31 RX3 yX3_startOver wsX3_startOver) := goodIn_app (goodIn_of _ (by decide +kernel)) ggX3_init__X3_startOver
theorem dX3_init__0 : decode cX3_init_ 0 = .ok (.aload_n 0, 1) := by decide +kernel
theorem dX3_init__1 : decode cX3_init_ 1 = .ok (.invokevirtual 31, 3) := by decide +kernel
theorem dX3_init__4 : decode cX3_init_ 4 = .ok (.return_, 1) := by decide +kernel
set_option maxRecDepth 20000 in
theorem ggX3_setWall_X1_isInside : GoodIn wsX3_setWall wsX1_isInside := goodIn_r _ [6, 7, 8, 29, 30, 31, 32, 33, 34] (by decide +kernel) (by decide +kernel)
set_option maxRecDepth 20000 in
theorem gX3_setWall_X1_isInside : GoodIn wsX3_setWall (wsV RX3 34 RX1 yX1_isInside wsX1_isInside) := goodIn_app (goodIn_of _ (by decide +kernel)) ggX3_setWall_X1_isInside
set_option maxRecDepth 20000 in
theorem ggX3_setWall_X3_robotOn : GoodIn wsX3_setWall wsX3_robotOn := goodIn_r _ [13, 14, 15, 16, 17, 25, 26, 27, 28, 35, 36, 37, 38, 39, 40, 41, 42, 43, 44, 45, 46] (by decide +kernel) (by decide +kernel)
set_option maxRecDepth 20000 in
theorem gX3_setWall_X3_robotOn : GoodIn wsX3_setWall (wsV RX3 38 RX3 yX3_robotOn wsX3_robotOn) := goodIn_app (goodIn_of _ (by decide +kernel)) ggX3_setWall_X3_robotOn
set_option maxRecDepth 20000 in
theorem ggX3_setWall_X1_changeWall : GoodIn wsX3_setWall wsX1_changeWall := goodIn_r _ [21, 7, 22, 23, 24, 3, 4, 5, 6, 8, 29, 30, 31, 32, 33, 34] (by decide +kernel) (by decide +kernel)
set_option maxRecDepth 20000 in
theorem gX3_setWall_X1_changeWall : GoodIn wsX3_setWall (wsV RX3 42 RX1 yX1_changeWall wsX1_changeWall) := goodIn_app (goodIn_of _ (by decide +kernel)) ggX3_setWall_X1_changeWall
theorem dX3_setWall_0 : decode cX3_setWall 0 = .ok (.aload_n 0, 1) := by decide +kernel
theorem dX3_setWall_1 : decode cX3_setWall 1 = .ok (.getfield 18, 3) := by decide +kernel
theorem dX3_setWall_4 : decode cX3_setWall 4 = .ok (.iload_n 1, 1) := by decide +kernel
theorem dX3_setWall_5 : decode cX3_setWall 5 = .ok (.iload_n 2, 1) := by decide +kernel
theorem dX3_setWall_6 : decode cX3_setWall 6 = .ok (.invokevirtual 34, 3) := by decide +kernel
theorem dX3_setWall_9 : decode cX3_setWall 9 = .ok (.ifCond .eq 12, 3) := by decide +kernel
theorem dX3_setWall_12 : decode cX3_setWall 12 = .ok (.aload_n 0, 1) := by decide +kernel
theorem dX3_setWall_13 : decode cX3_setWall 13 = .ok (.iload_n 1, 1) := by decide +kernel
theorem dX3_setWall_14 : decode cX3_setWall 14 = .ok (.iload_n 2, 1) := by decide +kernel
theorem dX3_setWall_15 : decode cX3_setWall 15 = .ok (.invokevirtual 38, 3) := by decide +kernel
theorem dX3_setWall_18 : decode cX3_setWall 18 = .ok (.ifnull 5, 3) := by decide +kernel
theorem dX3_setWall_21 : decode cX3_setWall 21 = .ok (.iconst 0, 1) := by decide +kernel
theorem dX3_setWall_22 : decode cX3_setWall 22 = .ok (.ireturn, 1) := by decide +kernel
theorem dX3_setWall_23 : decode cX3_setWall 23 = .ok (.aload_n 0, 1) := by decide +kernel
theorem dX3_setWall_24 : decode cX3_setWall 24 = .ok (.getfield 18, 3) := by decide +kernel
theorem dX3_setWall_27 : decode cX3_setWall 27 = .ok (.iload_n 1, 1) := by decide +kernel
theorem dX3_setWall_28 : decode cX3_setWall 28 = .ok (.iload_n 2, 1) := by decide +kernel
theorem dX3_setWall_29 : decode cX3_setWall 29 = .ok (.iload_n 3, 1) := by decide +kernel
theorem dX3_setWall_30 : decode cX3_setWall 30 = .ok (.invokevirtual 42, 3) := by decide +kernel
theorem dX3_setWall_33 : decode cX3_setWall 33 = .ok (.iconst 1, 1) := by decide +kernel
theorem dX3_setWall_34 : decode cX3_setWall 34 = .ok (.ireturn, 1) := by decide +kernel
set_option maxRecDepth 20000 in
theorem ggX3_putItem_X1_addItem : GoodIn wsX3_putItem wsX1_addItem := goodIn_r _ [6, 7, 8, 9, 10, 11, 5, 12, 13, 18, 19, 20, 21, 22, 23] (by decide +kernel) (by decide +kernel)
set_option maxRecDepth 20000 in
theorem gX3_putItem_X1_addItem : GoodIn wsX3_putItem (wsV RX3 46 RX1 yX1_addItem wsX1_addItem) := goodIn_app (goodIn_of _ (by decide +kernel)) ggX3_putItem_X1_addItem
theorem dX3_putItem_0 : decode cX3_putItem 0 = .ok (.aload_n 0, 1) := by decide +kernel
theorem dX3_putItem_1 : decode cX3_putItem 1 = .ok (.getfield 18, 3) := by decide +kernel
theorem dX3_putItem_4 : decode cX3_putItem 4 = .ok (.iload_n 1, 1) := by decide +kernel
theorem dX3_putItem_5 : decode cX3_putItem 5 = .ok (.iload_n 2, 1) := by decide +kernel
theorem dX3_putItem_6 : decode cX3_putItem 6 = .ok (.invokevirtual 46, 3) := by decide +kernel
theorem dX3_putItem_9 : decode cX3_putItem 9 = .ok (.ireturn, 1) := by decide +kernel
set_option maxRecDepth 20000 in
theorem ggX3_spawn_X1_isOpen : GoodIn wsX3_spawn wsX1_isOpen := goodIn_r _ [8, 9, 10, 11, 55, 56, 57, 58, 59, 60] (by decide +kernel) (by decide +kernel)
set_option maxRecDepth 20000 in
theorem gX3_spawn_X1_isOpen : GoodIn wsX3_spawn (wsV RX3 49 RX1 yX1_isOpen wsX1_isOpen) := goodIn_app (goodIn_of _ (by decide +kernel)) ggX3_spawn_X1_isOpen
set_option maxRecDepth 20000 in
theorem ggX3_spawn_X3_robotOn : GoodIn wsX3_spawn wsX3_robotOn := goodIn_r _ [16, 2, 3, 17, 18, 39, 40, 41, 42, 43, 44, 45, 46, 47, 48, 49, 50, 51, 52, 53, 54] (by decide +kernel) (by decide +kernel)
set_option maxRecDepth 20000 in
theorem gX3_spawn_X3_robotOn : GoodIn wsX3_spawn (wsV RX3 38 RX3 yX3_robotOn wsX3_robotOn) := goodIn_app (goodIn_of _ (by decide +kernel)) ggX3_spawn_X3_robotOn
set_option maxRecDepth 20000 in
theorem ggX3_spawn_X2_appear : GoodIn wsX3_spawn wsX2_appear := goodIn_r _ [23, 24, 25, 26, 27, 28, 29, 30, 31, 32, 33, 34, 35, 36, 37, 38, 43, 44, 45, 46, 47, 48, 49, 50, 51, 52, 53, 54, 61, 62] (by decide +kernel) (by decide +kernel)
set_option maxRecDepth 20000 in
theorem gX3_spawn_X2_appear : GoodIn wsX3_spawn (wsV RX3 56 RX2 yX2_appear wsX2_appear) := goodIn_app (goodIn_of _ (by decide +kernel)) ggX3_spawn_X2_appear
theorem dX3_spawn_0 : decode cX3_spawn 0 = .ok (.aload_n 0, 1) := by decide +kernel
theorem dX3_spawn_1 : decode cX3_spawn 1 = .ok (.getfield 18, 3) := by decide +kernel
theorem dX3_spawn_4 : decode cX3_spawn 4 = .ok (.iload_n 1, 1) := by decide +kernel
theorem dX3_spawn_5 : decode cX3_spawn 5 = .ok (.iload_n 2, 1) := by decide +kernel
theorem dX3_spawn_6 : decode cX3_spawn 6 = .ok (.invokevirtual 49, 3) := by decide +kernel
theorem dX3_spawn_9 : decode cX3_spawn 9 = .ok (.ifCond .ne 6, 3) := by decide +kernel
theorem dX3_spawn_12 : decode cX3_spawn 12 = .ok (.bipush (-2), 2) := by decide +kernel
theorem dX3_spawn_14 : decode cX3_spawn 14 = .ok (.ireturn, 1) := by decide +kernel
theorem dX3_spawn_15 : decode cX3_spawn 15 = .ok (.aload_n 0, 1) := by decide +kernel
theorem dX3_spawn_16 : decode cX3_spawn 16 = .ok (.iload_n 1, 1) := by decide +kernel
theorem dX3_spawn_17 : decode cX3_spawn 17 = .ok (.iload_n 2, 1) := by decide +kernel
theorem dX3_spawn_18 : decode cX3_spawn 18 = .ok (.invokevirtual 38, 3) := by decide +kernel
theorem dX3_spawn_21 : decode cX3_spawn 21 = .ok (.ifnull 6, 3) := by decide +kernel
theorem dX3_spawn_24 : decode cX3_spawn 24 = .ok (.bipush (-4), 2) := by decide +kernel
theorem dX3_spawn_26 : decode cX3_spawn 26 = .ok (.ireturn, 1) := by decide +kernel
theorem dX3_spawn_27 : decode cX3_spawn 27 = .ok (.iconst 0, 1) := by decide +kernel
theorem dX3_spawn_28 : decode cX3_spawn 28 = .ok (.istore_n 3, 1) := by decide +kernel
theorem dX3_spawn_29 : decode cX3_spawn 29 = .ok (.iload_n 3, 1) := by decide +kernel
theorem dX3_spawn_30 : decode cX3_spawn 30 = .ok (.aload_n 0, 1) := by decide +kernel
theorem dX3_spawn_31 : decode cX3_spawn 31 = .ok (.getfield 24, 3) := by decide +kernel
theorem dX3_spawn_34 : decode cX3_spawn 34 = .ok (.arraylength, 1) := by decide +kernel
theorem dX3_spawn_35 : decode cX3_spawn 35 = .ok (.if_icmp .ge 34, 3) := by decide +kernel
theorem dX3_spawn_38 : decode cX3_spawn 38 = .ok (.aload_n 0, 1) := by decide +kernel
theorem dX3_spawn_39 : decode cX3_spawn 39 = .ok (.getfield 24, 3) := by decide +kernel
theorem dX3_spawn_42 : decode cX3_spawn 42 = .ok (.iload_n 3, 1) := by decide +kernel
theorem dX3_spawn_43 : decode cX3_spawn 43 = .ok (.aaload, 1) := by decide +kernel
theorem dX3_spawn_44 : decode cX3_spawn 44 = .ok (.getfield 52, 3) := by decide +kernel
theorem dX3_spawn_47 : decode cX3_spawn 47 = .ok (.ifCond .ne 16, 3) := by decide +kernel
theorem dX3_spawn_50 : decode cX3_spawn 50 = .ok (.aload_n 0, 1) := by decide +kernel
theorem dX3_spawn_51 : decode cX3_spawn 51 = .ok (.getfield 24, 3) := by decide +kernel
theorem dX3_spawn_54 : decode cX3_spawn 54 = .ok (.iload_n 3, 1) := by decide +kernel
theorem dX3_spawn_55 : decode cX3_spawn 55 = .ok (.aaload, 1) := by decide +kernel
theorem dX3_spawn_56 : decode cX3_spawn 56 = .ok (.iload_n 1, 1) := by decide +kernel
theorem dX3_spawn_57 : decode cX3_spawn 57 = .ok (.iload_n 2, 1) := by decide +kernel
theorem dX3_spawn_58 : decode cX3_spawn 58 = .ok (.invokevirtual 56, 3) := by decide +kernel
theorem dX3_spawn_61 : decode cX3_spawn 61 = .ok (.iload_n 3, 1) := by decide +kernel
theorem dX3_spawn_62 : decode cX3_spawn 62 = .ok (.ireturn, 1) := by decide +kernel
theorem dX3_spawn_63 : decode cX3_spawn 63 = .ok (.iinc 3 1, 3) := by decide +kernel
theorem dX3_spawn_66 : decode cX3_spawn 66 = .ok (.goto (-37), 3) := by decide +kernel
theorem dX3_spawn_69 : decode cX3_spawn 69 = .ok (.bipush (-3), 2) := by decide +kernel
theorem dX3_spawn_71 : decode cX3_spawn 71 = .ok (.ireturn, 1) := by decide +kernel
set_option maxRecDepth 20000 in
theorem ggX3_load_X3_robotOf : GoodIn wsX3_load wsX3_robotOf := goodIn_r _ [6, 7, 1, 8, 9, 10, 5, 11, 31, 32, 33, 34, 19, 20, 21, 22, 23, 24, 25, 26, 27, 28, 29, 30] (by decide +kernel) (by decide +kernel)
set_option maxRecDepth 20000 in
theorem gX3_load_X3_robotOf : GoodIn wsX3_load (wsV RX3 59 RX3 yX3_robotOf wsX3_robotOf) := goodIn_app (goodIn_of _ (by decide +kernel)) ggX3_load_X3_robotOf
set_option maxRecDepth 20000 in
theorem ggX3_load_X2_addWord : GoodIn wsX3_load wsX2_addWord := goodIn_r _ [16, 17, 18, 19, 20, 21, 22, 23, 24, 25, 26, 27, 28, 29, 30] (by decide +kernel) (by decide +kernel)
set_option maxRecDepth 20000 in
theorem gX3_load_X2_addWord : GoodIn wsX3_load (wsV RX3 63 RX2 yX2_addWord wsX2_addWord) := goodIn_app (goodIn_of _ (by decide +kernel)) ggX3_load_X2_addWord
theorem dX3_load_0 : decode cX3_load 0 = .ok (.aload_n 0, 1) := by decide +kernel
theorem dX3_load_1 : decode cX3_load 1 = .ok (.iload_n 1, 1) := by decide +kernel
theorem dX3_load_2 : decode cX3_load 2 = .ok (.invokevirtual 59, 3) := by decide +kernel
theorem dX3_load_5 : decode cX3_load 5 = .ok (.astore_n 3, 1) := by decide +kernel
theorem dX3_load_6 : decode cX3_load 6 = .ok (.aload_n 3, 1) := by decide +kernel
theorem dX3_load_7 : decode cX3_load 7 = .ok (.ifnull 23, 3) := by decide +kernel
theorem dX3_load_10 : decode cX3_load 10 = .ok (.aload_n 3, 1) := by decide +kernel
theorem dX3_load_11 : decode cX3_load 11 = .ok (.getfield 52, 3) := by decide +kernel
theorem dX3_load_14 : decode cX3_load 14 = .ok (.iconst 1, 1) := by decide +kernel
theorem dX3_load_15 : decode cX3_load 15 = .ok (.if_icmp .ne 15, 3) := by decide +kernel
theorem dX3_load_18 : decode cX3_load 18 = .ok (.aload_n 3, 1) := by decide +kernel
theorem dX3_load_19 : decode cX3_load 19 = .ok (.iload_n 2, 1) := by decide +kernel
theorem dX3_load_20 : decode cX3_load 20 = .ok (.invokevirtual 63, 3) := by decide +kernel
theorem dX3_load_23 : decode cX3_load 23 = .ok (.ifCond .eq 7, 3) := by decide +kernel
theorem dX3_load_26 : decode cX3_load 26 = .ok (.iconst 1, 1) := by decide +kernel
theorem dX3_load_27 : decode cX3_load 27 = .ok (.goto 4, 3) := by decide +kernel
theorem dX3_load_30 : decode cX3_load 30 = .ok (.iconst 0, 1) := by decide +kernel
theorem dX3_load_31 : decode cX3_load 31 = .ok (.ireturn, 1) := by decide +kernel
set_option maxRecDepth 20000 in
theorem ggX3_startRobot_X3_robotOf : GoodIn wsX3_startRobot wsX3_robotOf := goodIn_r _ [6, 7, 1, 8, 9, 10, 5, 11, 24, 25, 26, 27, 12, 13, 14, 15, 16, 17, 18, 19, 20, 21, 22, 23] (by decide +kernel) (by decide +kernel)
set_option maxRecDepth 20000 in
theorem gX3_startRobot_X3_robotOf : GoodIn wsX3_startRobot (wsV RX3 59 RX3 yX3_robotOf wsX3_robotOf) := goodIn_app (goodIn_of _ (by decide +kernel)) ggX3_startRobot_X3_robotOf
theorem dX3_startRobot_0 : decode cX3_startRobot 0 = .ok (.aload_n 0, 1) := by decide +kernel
theorem dX3_startRobot_1 : decode cX3_startRobot 1 = .ok (.iload_n 1, 1) := by decide +kernel
theorem dX3_startRobot_2 : decode cX3_startRobot 2 = .ok (.invokevirtual 59, 3) := by decide +kernel
theorem dX3_startRobot_5 : decode cX3_startRobot 5 = .ok (.astore_n 2, 1) := by decide +kernel
theorem dX3_startRobot_6 : decode cX3_startRobot 6 = .ok (.aload_n 2, 1) := by decide +kernel
theorem dX3_startRobot_7 : decode cX3_startRobot 7 = .ok (.ifnull 11, 3) := by decide +kernel
theorem dX3_startRobot_10 : decode cX3_startRobot 10 = .ok (.aload_n 2, 1) := by decide +kernel
theorem dX3_startRobot_11 : decode cX3_startRobot 11 = .ok (.getfield 52, 3) := by decide +kernel
theorem dX3_startRobot_14 : decode cX3_startRobot 14 = .ok (.iconst 1, 1) := by decide +kernel
theorem dX3_startRobot_15 : decode cX3_startRobot 15 = .ok (.if_icmp .eq 6, 3) := by decide +kernel
theorem dX3_startRobot_18 : decode cX3_startRobot 18 = .ok (.bipush (-2), 2) := by decide +kernel
theorem dX3_startRobot_20 : decode cX3_startRobot 20 = .ok (.ireturn, 1) := by decide +kernel
theorem dX3_startRobot_21 : decode cX3_startRobot 21 = .ok (.aload_n 2, 1) := by decide +kernel
theorem dX3_startRobot_22 : decode cX3_startRobot 22 = .ok (.iconst 2, 1) := by decide +kernel
theorem dX3_startRobot_23 : decode cX3_startRobot 23 = .ok (.putfield 52, 3) := by decide +kernel
theorem dX3_startRobot_26 : decode cX3_startRobot 26 = .ok (.iconst 1, 1) := by decide +kernel
theorem dX3_startRobot_27 : decode cX3_startRobot 27 = .ok (.ireturn, 1) := by decide +kernel
set_option maxRecDepth 20000 in
theorem ggX3_tick_X2_sleepOn : GoodIn wsX3_tick wsX2_sleepOn := goodIn_r _ [10, 11, 12, 168, 169, 170, 171, 172, 173, 174, 175, 176, 177, 178, 179] (by decide +kernel) (by decide +kernel)
set_option maxRecDepth 20000 in
theorem gX3_tick_X2_sleepOn : GoodIn wsX3_tick (wsV RX3 67 RX2 yX2_sleepOn wsX2_sleepOn) := goodIn_app (goodIn_of _ (by decide +kernel)) ggX3_tick_X2_sleepOn
set_option maxRecDepth 20000 in
theorem ggX3_tick_X3_nextReady : GoodIn wsX3_tick wsX3_nextReady := goodIn_r _ [17, 3, 1, 4, 18, 19, 20, 16, 21, 164, 165, 166, 167, 168, 169, 170, 171, 172, 173, 174, 175, 176, 177, 178, 179] (by decide +kernel) (by decide +kernel)
set_option maxRecDepth 20000 in
theorem gX3_tick_X3_nextReady : GoodIn wsX3_tick (wsV RX3 70 RX3 yX3_nextReady wsX3_nextReady) := goodIn_app (goodIn_of _ (by decide +kernel)) ggX3_tick_X3_nextReady
set_option maxRecDepth 20000 in
theorem ggX3_tick_X2_mustFail : GoodIn wsX3_tick wsX2_mustFail := goodIn_r _ [25, 26, 27, 28, 29, 30, 16, 31, 32, 33, 34, 35, 168, 169, 170, 171, 172, 173, 174, 175, 176, 177, 178, 179] (by decide +kernel) (by decide +kernel)
set_option maxRecDepth 20000 in
theorem gX3_tick_X2_mustFail : GoodIn wsX3_tick (wsV RX3 80 RX2 yX2_mustFail wsX2_mustFail) := goodIn_app (goodIn_of _ (by decide +kernel)) ggX3_tick_X2_mustFail
set_option maxRecDepth 20000 in
theorem ggX3_tick_X3_doWord_k0 : GoodIn wsX3_tick ((wsX3_doWord.drop 0).take 20) := goodIn_r _ [39, 40, 41, 42, 4, 43, 44, 45, 2, 5, 46, 47, 48, 30, 16, 31, 49, 34, 35, 50] (by decide +kernel) (by decide +kernel)
set_option maxRecDepth 20000 in
theorem ggX3_tick_X3_doWord_k1 : GoodIn wsX3_tick ((wsX3_doWord.drop 20).take 20) := goodIn_r _ [32, 33, 51, 52, 53, 54, 55, 56, 57, 58, 59, 60, 61, 62, 63, 64, 65, 66, 67, 68] (by decide +kernel) (by decide +kernel)
set_option maxRecDepth 20000 in
theorem ggX3_tick_X3_doWord_k2 : GoodIn wsX3_tick ((wsX3_doWord.drop 40).take 20) := goodIn_r _ [1, 69, 70, 71, 72, 73, 74, 75, 76, 77, 78, 79, 80, 81, 82, 83, 84, 85, 86, 87] (by decide +kernel) (by decide +kernel)
set_option maxRecDepth 20000 in
theorem ggX3_tick_X3_doWord_k3 : GoodIn wsX3_tick ((wsX3_doWord.drop 60).take 20) := goodIn_r _ [88, 89, 90, 91, 92, 93, 94, 95, 96, 97, 98, 99, 100, 101, 102, 103, 104, 105, 106, 107] (by decide +kernel) (by decide +kernel)
set_option maxRecDepth 20000 in
theorem ggX3_tick_X3_doWord_k4 : GoodIn wsX3_tick ((wsX3_doWord.drop 80).take 20) := goodIn_r _ [108, 109, 110, 18, 19, 20, 21, 111, 112, 113, 9, 114, 11, 115, 116, 117, 118, 119, 120, 121] (by decide +kernel) (by decide +kernel)
set_option maxRecDepth 20000 in
theorem ggX3_tick_X3_doWord_k5 : GoodIn wsX3_tick ((wsX3_doWord.drop 100).take 20) := goodIn_r _ [122, 123, 124, 125, 126, 127, 128, 129, 130, 131, 132, 133, 134, 135, 136, 137, 12, 138, 139, 140] (by decide +kernel) (by decide +kernel)
set_option maxRecDepth 20000 in
theorem ggX3_tick_X3_doWord_k6 : GoodIn wsX3_tick ((wsX3_doWord.drop 120).take 20) := goodIn_r _ [141, 142, 143, 144, 145, 146, 147, 148, 149, 150, 151, 152, 153, 154, 155, 156, 157, 158, 159, 160] (by decide +kernel) (by decide +kernel)
set_option maxRecDepth 20000 in
theorem ggX3_tick_X3_doWord_k7 : GoodIn wsX3_tick ((wsX3_doWord.drop 140).take 20) := goodIn_r _ [161, 162, 163, 168, 169, 170, 171, 172, 173, 174, 175, 176, 177, 178, 179, 164, 165, 166, 167, 180] (by decide +kernel) (by decide +kernel)
set_option maxRecDepth 20000 in
theorem ggX3_tick_X3_doWord_k8 : GoodIn wsX3_tick (wsX3_doWord.drop 160) := goodIn_r _ [181, 182, 183, 184, 185, 186, 187] (by decide +kernel) (by decide +kernel)
set_option maxRecDepth 20000 in
theorem ggX3_tick_X3_doWord : GoodIn wsX3_tick wsX3_doWord := (goodIn_spl (a := 0) (b := 20) ggX3_tick_X3_doWord_k0 (goodIn_spl (a := 20) (b := 20) ggX3_tick_X3_doWord_k1 (goodIn_spl (a := 40) (b := 20) ggX3_tick_X3_doWord_k2 (goodIn_spl (a := 60) (b := 20) ggX3_tick_X3_doWord_k3 (goodIn_spl (a := 80) (b := 20) ggX3_tick_X3_doWord_k4 (goodIn_spl (a := 100) (b := 20) ggX3_tick_X3_doWord_k5 (goodIn_spl (a := 120) (b := 20) ggX3_tick_X3_doWord_k6 (goodIn_spl (a := 140) (b := 20) ggX3_tick_X3_doWord_k7 ggX3_tick_X3_doWord_k8))))))))
set_option maxRecDepth 20000 in
theorem gX3_tick_X3_doWord : GoodIn wsX3_tick (wsV RX3 84 RX3 yX3_doWord wsX3_doWord) := goodIn_app (goodIn_of _ (by decide +kernel)) ggX3_tick_X3_doWord
theorem dX3_tick_0 : decode cX3_tick 0 = .ok (.iconst 0, 1) := by decide +kernel
theorem dX3_tick_1 : decode cX3_tick 1 = .ok (.istore_n 1, 1) := by decide +kernel
theorem dX3_tick_2 : decode cX3_tick 2 = .ok (.iload_n 1, 1) := by decide +kernel
theorem dX3_tick_3 : decode cX3_tick 3 = .ok (.aload_n 0, 1) := by decide +kernel
theorem dX3_tick_4 : decode cX3_tick 4 = .ok (.getfield 24, 3) := by decide +kernel
theorem dX3_tick_7 : decode cX3_tick 7 = .ok (.arraylength, 1) := by decide +kernel
theorem dX3_tick_8 : decode cX3_tick 8 = .ok (.if_icmp .ge 18, 3) := by decide +kernel
theorem dX3_tick_11 : decode cX3_tick 11 = .ok (.aload_n 0, 1) := by decide +kernel
theorem dX3_tick_12 : decode cX3_tick 12 = .ok (.getfield 24, 3) := by decide +kernel
theorem dX3_tick_15 : decode cX3_tick 15 = .ok (.iload_n 1, 1) := by decide +kernel
theorem dX3_tick_16 : decode cX3_tick 16 = .ok (.aaload, 1) := by decide +kernel
theorem dX3_tick_17 : decode cX3_tick 17 = .ok (.invokevirtual 67, 3) := by decide +kernel
theorem dX3_tick_20 : decode cX3_tick 20 = .ok (.iinc 1 1, 3) := by decide +kernel
theorem dX3_tick_23 : decode cX3_tick 23 = .ok (.goto (-21), 3) := by decide +kernel
theorem dX3_tick_26 : decode cX3_tick 26 = .ok (.aload_n 0, 1) := by decide +kernel
theorem dX3_tick_27 : decode cX3_tick 27 = .ok (.invokevirtual 70, 3) := by decide +kernel
theorem dX3_tick_30 : decode cX3_tick 30 = .ok (.astore_n 1, 1) := by decide +kernel
theorem dX3_tick_31 : decode cX3_tick 31 = .ok (.aload_n 1, 1) := by decide +kernel
theorem dX3_tick_32 : decode cX3_tick 32 = .ok (.ifnull 32, 3) := by decide +kernel
theorem dX3_tick_35 : decode cX3_tick 35 = .ok (.aload_n 0, 1) := by decide +kernel
theorem dX3_tick_36 : decode cX3_tick 36 = .ok (.aload_n 1, 1) := by decide +kernel
theorem dX3_tick_37 : decode cX3_tick 37 = .ok (.getfield 74, 3) := by decide +kernel
theorem dX3_tick_40 : decode cX3_tick 40 = .ok (.putfield 77, 3) := by decide +kernel
theorem dX3_tick_43 : decode cX3_tick 43 = .ok (.aload_n 1, 1) := by decide +kernel
theorem dX3_tick_44 : decode cX3_tick 44 = .ok (.invokevirtual 80, 3) := by decide +kernel
theorem dX3_tick_47 : decode cX3_tick 47 = .ok (.ifCond .eq 12, 3) := by decide +kernel
theorem dX3_tick_50 : decode cX3_tick 50 = .ok (.aload_n 1, 1) := by decide +kernel
theorem dX3_tick_51 : decode cX3_tick 51 = .ok (.bipush 6, 2) := by decide +kernel
theorem dX3_tick_53 : decode cX3_tick 53 = .ok (.putfield 52, 3) := by decide +kernel
theorem dX3_tick_56 : decode cX3_tick 56 = .ok (.goto 8, 3) := by decide +kernel
theorem dX3_tick_59 : decode cX3_tick 59 = .ok (.aload_n 0, 1) := by decide +kernel
theorem dX3_tick_60 : decode cX3_tick 60 = .ok (.aload_n 1, 1) := by decide +kernel
theorem dX3_tick_61 : decode cX3_tick 61 = .ok (.invokevirtual 84, 3) := by decide +kernel
theorem dX3_tick_64 : decode cX3_tick 64 = .ok (.aload_n 0, 1) := by decide +kernel
theorem dX3_tick_65 : decode cX3_tick 65 = .ok (.dup, 1) := by decide +kernel
theorem dX3_tick_66 : decode cX3_tick 66 = .ok (.getfield 88, 3) := by decide +kernel
theorem dX3_tick_69 : decode cX3_tick 69 = .ok (.iconst 1, 1) := by decide +kernel
theorem dX3_tick_70 : decode cX3_tick 70 = .ok (.iadd, 1) := by decide +kernel
theorem dX3_tick_71 : decode cX3_tick 71 = .ok (.putfield 88, 3) := by decide +kernel
theorem dX3_tick_74 : decode cX3_tick 74 = .ok (.aload_n 1, 1) := by decide +kernel
theorem dX3_tick_75 : decode cX3_tick 75 = .ok (.ifnonnull 7, 3) := by decide +kernel
theorem dX3_tick_78 : decode cX3_tick 78 = .ok (.iconst (-1), 1) := by decide +kernel
theorem dX3_tick_79 : decode cX3_tick 79 = .ok (.goto 7, 3) := by decide +kernel
theorem dX3_tick_82 : decode cX3_tick 82 = .ok (.aload_n 1, 1) := by decide +kernel
theorem dX3_tick_83 : decode cX3_tick 83 = .ok (.getfield 74, 3) := by decide +kernel
theorem dX3_tick_86 : decode cX3_tick 86 = .ok (.ireturn, 1) := by decide +kernel
set_option maxRecDepth 20000 in
theorem ggX3_runTicks_X3_tick_k0 : GoodIn wsX3_runTicks ((wsX3_tick.drop 0).take 20) := goodIn_r _ [5, 6, 7, 8, 9, 10, 11, 12, 13, 14, 15, 16, 17, 18, 19, 20, 4, 21, 22, 23] (by decide +kernel) (by decide +kernel)
set_option maxRecDepth 20000 in
theorem ggX3_runTicks_X3_tick_k1 : GoodIn wsX3_runTicks ((wsX3_tick.drop 20).take 20) := goodIn_r _ [24, 25, 26, 27, 28, 29, 30, 31, 32, 33, 34, 35, 36, 37, 38, 39, 40, 41, 42, 43] (by decide +kernel) (by decide +kernel)
set_option maxRecDepth 20000 in
theorem ggX3_runTicks_X3_tick_k2 : GoodIn wsX3_runTicks ((wsX3_tick.drop 40).take 20) := goodIn_r _ [44, 45, 46, 47, 48, 49, 50, 51, 52, 53, 54, 55, 56, 57, 58, 59, 60, 61, 62, 63] (by decide +kernel) (by decide +kernel)
set_option maxRecDepth 20000 in
theorem ggX3_runTicks_X3_tick_k3 : GoodIn wsX3_runTicks ((wsX3_tick.drop 60).take 20) := goodIn_r _ [64, 65, 66, 67, 68, 69, 70, 71, 72, 73, 74, 75, 76, 77, 78, 79, 80, 81, 82, 83] (by decide +kernel) (by decide +kernel)
set_option maxRecDepth 20000 in
theorem ggX3_runTicks_X3_tick_k4 : GoodIn wsX3_runTicks ((wsX3_tick.drop 80).take 20) := goodIn_r _ [84, 85, 86, 87, 88, 89, 90, 91, 92, 93, 94, 95, 96, 97, 98, 99, 100, 101, 102, 103] (by decide +kernel) (by decide +kernel)
set_option maxRecDepth 20000 in
theorem ggX3_runTicks_X3_tick_k5 : GoodIn wsX3_runTicks ((wsX3_tick.drop 100).take 20) := goodIn_r _ [104, 105, 106, 107, 108, 109, 110, 111, 112, 113, 114, 115, 116, 117, 118, 119, 120, 121, 122, 123] (by decide +kernel) (by decide +kernel)
set_option maxRecDepth 20000 in
theorem ggX3_runTicks_X3_tick_k6 : GoodIn wsX3_runTicks ((wsX3_tick.drop 120).take 20) := goodIn_r _ [124, 125, 126, 127, 128, 129, 130, 131, 132, 133, 134, 135, 136, 137, 138, 139, 140, 141, 142, 143] (by decide +kernel) (by decide +kernel)
set_option maxRecDepth 20000 in
theorem ggX3_runTicks_X3_tick_k7 : GoodIn wsX3_runTicks ((wsX3_tick.drop 140).take 20) := goodIn_r _ [144, 145, 146, 147, 148, 149, 150, 151, 152, 153, 154, 155, 156, 157, 158, 159, 160, 161, 162, 163] (by decide +kernel) (by decide +kernel)
set_option maxRecDepth 20000 in
theorem ggX3_runTicks_X3_tick_k8 : GoodIn wsX3_runTicks ((wsX3_tick.drop 160).take 20) := goodIn_r _ [164, 165, 166, 167, 168, 169, 170, 171, 172, 173, 174, 175, 176, 177, 178, 179, 180, 181, 182, 183] (by decide +kernel) (by decide +kernel)
set_option maxRecDepth 20000 in
theorem ggX3_runTicks_X3_tick_k9 : GoodIn wsX3_runTicks (wsX3_tick.drop 180) := goodIn_r _ [184, 185, 186, 187, 188, 189, 190, 191] (by decide +kernel) (by decide +kernel)
set_option maxRecDepth 20000 in
theorem ggX3_runTicks_X3_tick : GoodIn wsX3_runTicks wsX3_tick := (goodIn_spl (a := 0) (b := 20) ggX3_runTicks_X3_tick_k0 (goodIn_spl (a := 20) (b := 20) ggX3_runTicks_X3_tick_k1 (goodIn_spl (a := 40) (b := 20) ggX3_runTicks_X3_tick_k2 (goodIn_spl (a := 60) (b := 20) ggX3_runTicks_X3_tick_k3 (goodIn_spl (a := 80) (b := 20) ggX3_runTicks_X3_tick_k4 (goodIn_spl (a := 100) (b := 20) ggX3_runTicks_X3_tick_k5 (goodIn_spl (a := 120) (b := 20) ggX3_runTicks_X3_tick_k6 (goodIn_spl (a := 140) (b := 20) ggX3_runTicks_X3_tick_k7 (goodIn_spl (a := 160) (b := 20) ggX3_runTicks_X3_tick_k8 ggX3_runTicks_X3_tick_k9)))))))))
set_option maxRecDepth 20000 in
theorem gX3_runTicks_X3_tick : GoodIn wsX3_runTicks (wsV RX3 91 RX3 yX3_tick wsX3_tick) := goodIn_app (goodIn_of _ (by decide +kernel)) ggX3_runTicks_X3_tick
theorem dX3_runTicks_0 : decode cX3_runTicks 0 = .ok (.iload_n 1, 1) := by decide +kernel
theorem dX3_runTicks_1 : decode cX3_runTicks 1 = .ok (.ifCond .lt 10, 3) := by decide +kernel
theorem dX3_runTicks_4 : decode cX3_runTicks 4 = .ok (.iload_n 1, 1) := by decide +kernel
theorem dX3_runTicks_5 : decode cX3_runTicks 5 = .ok (.sipush 10000, 3) := by decide +kernel
theorem dX3_runTicks_8 : decode cX3_runTicks 8 = .ok (.if_icmp .le 6, 3) := by decide +kernel
theorem dX3_runTicks_11 : decode cX3_runTicks 11 = .ok (.bipush (-2), 2) := by decide +kernel
theorem dX3_runTicks_13 : decode cX3_runTicks 13 = .ok (.ireturn, 1) := by decide +kernel
theorem dX3_runTicks_14 : decode cX3_runTicks 14 = .ok (.iconst 0, 1) := by decide +kernel
theorem dX3_runTicks_15 : decode cX3_runTicks 15 = .ok (.istore_n 2, 1) := by decide +kernel
theorem dX3_runTicks_16 : decode cX3_runTicks 16 = .ok (.iconst 0, 1) := by decide +kernel
theorem dX3_runTicks_17 : decode cX3_runTicks 17 = .ok (.istore_n 3, 1) := by decide +kernel
theorem dX3_runTicks_18 : decode cX3_runTicks 18 = .ok (.iload_n 3, 1) := by decide +kernel
theorem dX3_runTicks_19 : decode cX3_runTicks 19 = .ok (.iload_n 1, 1) := by decide +kernel
theorem dX3_runTicks_20 : decode cX3_runTicks 20 = .ok (.if_icmp .ge 20, 3) := by decide +kernel
theorem dX3_runTicks_23 : decode cX3_runTicks 23 = .ok (.aload_n 0, 1) := by decide +kernel
theorem dX3_runTicks_24 : decode cX3_runTicks 24 = .ok (.invokevirtual 91, 3) := by decide +kernel
theorem dX3_runTicks_27 : decode cX3_runTicks 27 = .ok (.iconst (-1), 1) := by decide +kernel
theorem dX3_runTicks_28 : decode cX3_runTicks 28 = .ok (.if_icmp .eq 6, 3) := by decide +kernel
theorem dX3_runTicks_31 : decode cX3_runTicks 31 = .ok (.iinc 2 1, 3) := by decide +kernel
theorem dX3_runTicks_34 : decode cX3_runTicks 34 = .ok (.iinc 3 1, 3) := by decide +kernel
theorem dX3_runTicks_37 : decode cX3_runTicks 37 = .ok (.goto (-19), 3) := by decide +kernel
theorem dX3_runTicks_40 : decode cX3_runTicks 40 = .ok (.iload_n 2, 1) := by decide +kernel
theorem dX3_runTicks_41 : decode cX3_runTicks 41 = .ok (.ireturn, 1) := by decide +kernel
set_option maxRecDepth 20000 in
theorem ggX3_kill_X3_robotOf : GoodIn wsX3_kill wsX3_robotOf := goodIn_r _ [10, 11, 5, 12, 13, 14, 9, 15, 40, 41, 42, 43, 28, 29, 30, 31, 32, 33, 34, 35, 36, 37, 38, 39] (by decide +kernel) (by decide +kernel)
set_option maxRecDepth 20000 in
theorem gX3_kill_X3_robotOf : GoodIn wsX3_kill (wsV RX3 59 RX3 yX3_robotOf wsX3_robotOf) := goodIn_app (goodIn_of _ (by decide +kernel)) ggX3_kill_X3_robotOf
set_option maxRecDepth 20000 in
theorem ggX3_kill_X1_addItem : GoodIn wsX3_kill wsX1_addItem := goodIn_r _ [20, 21, 22, 23, 24, 25, 19, 26, 27, 44, 45, 46, 47, 48, 49] (by decide +kernel) (by decide +kernel)
set_option maxRecDepth 20000 in
theorem gX3_kill_X1_addItem : GoodIn wsX3_kill (wsV RX3 46 RX1 yX1_addItem wsX1_addItem) := goodIn_app (goodIn_of _ (by decide +kernel)) ggX3_kill_X1_addItem
theorem dX3_kill_0 : decode cX3_kill 0 = .ok (.aload_n 0, 1) := by decide +kernel
theorem dX3_kill_1 : decode cX3_kill 1 = .ok (.iload_n 1, 1) := by decide +kernel
theorem dX3_kill_2 : decode cX3_kill 2 = .ok (.invokevirtual 59, 3) := by decide +kernel
theorem dX3_kill_5 : decode cX3_kill 5 = .ok (.astore_n 2, 1) := by decide +kernel
theorem dX3_kill_6 : decode cX3_kill 6 = .ok (.aload_n 2, 1) := by decide +kernel
theorem dX3_kill_7 : decode cX3_kill 7 = .ok (.ifnonnull 6, 3) := by decide +kernel
theorem dX3_kill_10 : decode cX3_kill 10 = .ok (.bipush (-2), 2) := by decide +kernel
theorem dX3_kill_12 : decode cX3_kill 12 = .ok (.ireturn, 1) := by decide +kernel
theorem dX3_kill_13 : decode cX3_kill 13 = .ok (.aload_n 2, 1) := by decide +kernel
theorem dX3_kill_14 : decode cX3_kill 14 = .ok (.getfield 95, 3) := by decide +kernel
theorem dX3_kill_17 : decode cX3_kill 17 = .ok (.istore_n 3, 1) := by decide +kernel
theorem dX3_kill_18 : decode cX3_kill 18 = .ok (.iconst 0, 1) := by decide +kernel
theorem dX3_kill_19 : decode cX3_kill 19 = .ok (.istore 4, 2) := by decide +kernel
theorem dX3_kill_21 : decode cX3_kill 21 = .ok (.iload 4, 2) := by decide +kernel
theorem dX3_kill_23 : decode cX3_kill 23 = .ok (.iload_n 3, 1) := by decide +kernel
theorem dX3_kill_24 : decode cX3_kill 24 = .ok (.if_icmp .ge 25, 3) := by decide +kernel
theorem dX3_kill_27 : decode cX3_kill 27 = .ok (.aload_n 0, 1) := by decide +kernel
theorem dX3_kill_28 : decode cX3_kill 28 = .ok (.getfield 18, 3) := by decide +kernel
theorem dX3_kill_31 : decode cX3_kill 31 = .ok (.aload_n 2, 1) := by decide +kernel
theorem dX3_kill_32 : decode cX3_kill 32 = .ok (.getfield 98, 3) := by decide +kernel
theorem dX3_kill_35 : decode cX3_kill 35 = .ok (.aload_n 2, 1) := by decide +kernel
theorem dX3_kill_36 : decode cX3_kill 36 = .ok (.getfield 101, 3) := by decide +kernel
theorem dX3_kill_39 : decode cX3_kill 39 = .ok (.invokevirtual 46, 3) := by decide +kernel
theorem dX3_kill_42 : decode cX3_kill 42 = .ok (.pop, 1) := by decide +kernel
theorem dX3_kill_43 : decode cX3_kill 43 = .ok (.iinc 4 1, 3) := by decide +kernel
theorem dX3_kill_46 : decode cX3_kill 46 = .ok (.goto (-25), 3) := by decide +kernel
theorem dX3_kill_49 : decode cX3_kill 49 = .ok (.aload_n 2, 1) := by decide +kernel
theorem dX3_kill_50 : decode cX3_kill 50 = .ok (.iconst 0, 1) := by decide +kernel
theorem dX3_kill_51 : decode cX3_kill 51 = .ok (.putfield 52, 3) := by decide +kernel
theorem dX3_kill_54 : decode cX3_kill 54 = .ok (.iload_n 3, 1) := by decide +kernel
theorem dX3_kill_55 : decode cX3_kill 55 = .ok (.ireturn, 1) := by decide +kernel
set_option maxRecDepth 20000 in
theorem ggX3_robotX_X3_robotOf : GoodIn wsX3_robotX wsX3_robotOf := goodIn_r _ [6, 7, 8, 9, 10, 11, 5, 12, 25, 26, 27, 28, 13, 14, 15, 16, 17, 18, 19, 20, 21, 22, 23, 24] (by decide +kernel) (by decide +kernel)
set_option maxRecDepth 20000 in
theorem gX3_robotX_X3_robotOf : GoodIn wsX3_robotX (wsV RX3 59 RX3 yX3_robotOf wsX3_robotOf) := goodIn_app (goodIn_of _ (by decide +kernel)) ggX3_robotX_X3_robotOf
theorem dX3_robotX_0 : decode cX3_robotX 0 = .ok (.aload_n 0, 1) := by decide +kernel
theorem dX3_robotX_1 : decode cX3_robotX 1 = .ok (.iload_n 1, 1) := by decide +kernel
theorem dX3_robotX_2 : decode cX3_robotX 2 = .ok (.invokevirtual 59, 3) := by decide +kernel
theorem dX3_robotX_5 : decode cX3_robotX 5 = .ok (.astore_n 2, 1) := by decide +kernel
theorem dX3_robotX_6 : decode cX3_robotX 6 = .ok (.aload_n 2, 1) := by decide +kernel
theorem dX3_robotX_7 : decode cX3_robotX 7 = .ok (.ifnonnull 7, 3) := by decide +kernel
theorem dX3_robotX_10 : decode cX3_robotX 10 = .ok (.iconst (-1), 1) := by decide +kernel
theorem dX3_robotX_11 : decode cX3_robotX 11 = .ok (.goto 7, 3) := by decide +kernel
theorem dX3_robotX_14 : decode cX3_robotX 14 = .ok (.aload_n 2, 1) := by decide +kernel
theorem dX3_robotX_15 : decode cX3_robotX 15 = .ok (.getfield 98, 3) := by decide +kernel
theorem dX3_robotX_18 : decode cX3_robotX 18 = .ok (.ireturn, 1) := by decide +kernel
set_option maxRecDepth 20000 in
theorem ggX3_robotY_X3_robotOf : GoodIn wsX3_robotY wsX3_robotOf := goodIn_r _ [6, 7, 8, 9, 10, 11, 5, 12, 25, 26, 27, 28, 13, 14, 15, 16, 17, 18, 19, 20, 21, 22, 23, 24] (by decide +kernel) (by decide +kernel)
set_option maxRecDepth 20000 in
theorem gX3_robotY_X3_robotOf : GoodIn wsX3_robotY (wsV RX3 59 RX3 yX3_robotOf wsX3_robotOf) := goodIn_app (goodIn_of _ (by decide +kernel)) ggX3_robotY_X3_robotOf
theorem dX3_robotY_0 : decode cX3_robotY 0 = .ok (.aload_n 0, 1) := by decide +kernel
theorem dX3_robotY_1 : decode cX3_robotY 1 = .ok (.iload_n 1, 1) := by decide +kernel
theorem dX3_robotY_2 : decode cX3_robotY 2 = .ok (.invokevirtual 59, 3) := by decide +kernel
theorem dX3_robotY_5 : decode cX3_robotY 5 = .ok (.astore_n 2, 1) := by decide +kernel
theorem dX3_robotY_6 : decode cX3_robotY 6 = .ok (.aload_n 2, 1) := by decide +kernel
theorem dX3_robotY_7 : decode cX3_robotY 7 = .ok (.ifnonnull 7, 3) := by decide +kernel
theorem dX3_robotY_10 : decode cX3_robotY 10 = .ok (.iconst (-1), 1) := by decide +kernel
theorem dX3_robotY_11 : decode cX3_robotY 11 = .ok (.goto 7, 3) := by decide +kernel
theorem dX3_robotY_14 : decode cX3_robotY 14 = .ok (.aload_n 2, 1) := by decide +kernel
theorem dX3_robotY_15 : decode cX3_robotY 15 = .ok (.getfield 101, 3) := by decide +kernel
theorem dX3_robotY_18 : decode cX3_robotY 18 = .ok (.ireturn, 1) := by decide +kernel
set_option maxRecDepth 20000 in
theorem ggX3_robotState_X3_isNumber : GoodIn wsX3_robotState wsX3_isNumber := goodIn_r _ [7, 1, 8, 9, 10, 11] (by decide +kernel) (by decide +kernel)
set_option maxRecDepth 20000 in
theorem gX3_robotState_X3_isNumber : GoodIn wsX3_robotState (wsV RX3 104 RX3 yX3_isNumber wsX3_isNumber) := goodIn_app (goodIn_of _ (by decide +kernel)) ggX3_robotState_X3_isNumber
theorem dX3_robotState_0 : decode cX3_robotState 0 = .ok (.aload_n 0, 1) := by decide +kernel
theorem dX3_robotState_1 : decode cX3_robotState 1 = .ok (.iload_n 1, 1) := by decide +kernel
theorem dX3_robotState_2 : decode cX3_robotState 2 = .ok (.invokevirtual 104, 3) := by decide +kernel
theorem dX3_robotState_5 : decode cX3_robotState 5 = .ok (.ifCond .eq 15, 3) := by decide +kernel
theorem dX3_robotState_8 : decode cX3_robotState 8 = .ok (.aload_n 0, 1) := by decide +kernel
theorem dX3_robotState_9 : decode cX3_robotState 9 = .ok (.getfield 24, 3) := by decide +kernel
theorem dX3_robotState_12 : decode cX3_robotState 12 = .ok (.iload_n 1, 1) := by decide +kernel
theorem dX3_robotState_13 : decode cX3_robotState 13 = .ok (.aaload, 1) := by decide +kernel
theorem dX3_robotState_14 : decode cX3_robotState 14 = .ok (.getfield 52, 3) := by decide +kernel
theorem dX3_robotState_17 : decode cX3_robotState 17 = .ok (.goto 4, 3) := by decide +kernel
theorem dX3_robotState_20 : decode cX3_robotState 20 = .ok (.iconst (-1), 1) := by decide +kernel
theorem dX3_robotState_21 : decode cX3_robotState 21 = .ok (.ireturn, 1) := by decide +kernel
set_option maxRecDepth 20000 in
theorem ggX3_reg_X3_robotOf : GoodIn wsX3_reg wsX3_robotOf := goodIn_r _ [5, 6, 7, 8, 9, 10, 4, 11, 25, 26, 27, 28, 29, 30, 31, 32, 33, 34, 35, 36, 37, 38, 39, 40] (by decide +kernel) (by decide +kernel)
set_option maxRecDepth 20000 in
theorem gX3_reg_X3_robotOf : GoodIn wsX3_reg (wsV RX3 59 RX3 yX3_robotOf wsX3_robotOf) := goodIn_app (goodIn_of _ (by decide +kernel)) ggX3_reg_X3_robotOf
set_option maxRecDepth 20000 in
theorem ggX3_reg_X2_show : GoodIn wsX3_reg wsX2_show := goodIn_r _ [16, 17, 18, 19, 20, 21, 22, 23, 24, 29, 30, 31, 32, 33, 34, 35, 36, 37, 38, 39, 40, 41, 42] (by decide +kernel) (by decide +kernel)
set_option maxRecDepth 20000 in
theorem gX3_reg_X2_show : GoodIn wsX3_reg (wsV RX3 107 RX2 yX2_show wsX2_show) := goodIn_app (goodIn_of _ (by decide +kernel)) ggX3_reg_X2_show
theorem dX3_reg_0 : decode cX3_reg 0 = .ok (.aload_n 0, 1) := by decide +kernel
theorem dX3_reg_1 : decode cX3_reg 1 = .ok (.iload_n 1, 1) := by decide +kernel
theorem dX3_reg_2 : decode cX3_reg 2 = .ok (.invokevirtual 59, 3) := by decide +kernel
theorem dX3_reg_5 : decode cX3_reg 5 = .ok (.astore_n 3, 1) := by decide +kernel
theorem dX3_reg_6 : decode cX3_reg 6 = .ok (.aload_n 3, 1) := by decide +kernel
theorem dX3_reg_7 : decode cX3_reg 7 = .ok (.ifnonnull 7, 3) := by decide +kernel
theorem dX3_reg_10 : decode cX3_reg 10 = .ok (.iconst 0, 1) := by decide +kernel
theorem dX3_reg_11 : decode cX3_reg 11 = .ok (.goto 8, 3) := by decide +kernel
theorem dX3_reg_14 : decode cX3_reg 14 = .ok (.aload_n 3, 1) := by decide +kernel
theorem dX3_reg_15 : decode cX3_reg 15 = .ok (.iload_n 2, 1) := by decide +kernel
theorem dX3_reg_16 : decode cX3_reg 16 = .ok (.invokevirtual 107, 3) := by decide +kernel
theorem dX3_reg_19 : decode cX3_reg 19 = .ok (.ireturn, 1) := by decide +kernel
set_option maxRecDepth 20000 in
theorem ggX3_at_X3_robotOn : GoodIn wsX3_at wsX3_robotOn := goodIn_r _ [7, 8, 9, 10, 11, 24, 25, 26, 27, 28, 29, 30, 31, 32, 33, 34, 35, 36, 37, 38, 39] (by decide +kernel) (by decide +kernel)
set_option maxRecDepth 20000 in
theorem gX3_at_X3_robotOn : GoodIn wsX3_at (wsV RX3 38 RX3 yX3_robotOn wsX3_robotOn) := goodIn_app (goodIn_of _ (by decide +kernel)) ggX3_at_X3_robotOn
set_option maxRecDepth 20000 in
theorem ggX3_at_X1_contentOf : GoodIn wsX3_at wsX1_contentOf := goodIn_r _ [16, 17, 18, 19, 20, 21, 15, 22, 23, 40, 41, 42, 43, 44, 45] (by decide +kernel) (by decide +kernel)
set_option maxRecDepth 20000 in
theorem gX3_at_X1_contentOf : GoodIn wsX3_at (wsV RX3 111 RX1 yX1_contentOf wsX1_contentOf) := goodIn_app (goodIn_of _ (by decide +kernel)) ggX3_at_X1_contentOf
theorem dX3_at_0 : decode cX3_at 0 = .ok (.aload_n 0, 1) := by decide +kernel
theorem dX3_at_1 : decode cX3_at 1 = .ok (.iload_n 1, 1) := by decide +kernel
theorem dX3_at_2 : decode cX3_at 2 = .ok (.iload_n 2, 1) := by decide +kernel
theorem dX3_at_3 : decode cX3_at 3 = .ok (.invokevirtual 38, 3) := by decide +kernel
theorem dX3_at_6 : decode cX3_at 6 = .ok (.astore_n 3, 1) := by decide +kernel
theorem dX3_at_7 : decode cX3_at 7 = .ok (.aload_n 0, 1) := by decide +kernel
theorem dX3_at_8 : decode cX3_at 8 = .ok (.getfield 18, 3) := by decide +kernel
theorem dX3_at_11 : decode cX3_at 11 = .ok (.iload_n 1, 1) := by decide +kernel
theorem dX3_at_12 : decode cX3_at 12 = .ok (.iload_n 2, 1) := by decide +kernel
theorem dX3_at_13 : decode cX3_at 13 = .ok (.invokevirtual 111, 3) := by decide +kernel
theorem dX3_at_16 : decode cX3_at 16 = .ok (.istore 4, 2) := by decide +kernel
theorem dX3_at_18 : decode cX3_at 18 = .ok (.aload_n 3, 1) := by decide +kernel
theorem dX3_at_19 : decode cX3_at 19 = .ok (.ifnonnull 8, 3) := by decide +kernel
theorem dX3_at_22 : decode cX3_at 22 = .ok (.iload 4, 2) := by decide +kernel
theorem dX3_at_24 : decode cX3_at 24 = .ok (.goto 16, 3) := by decide +kernel
theorem dX3_at_27 : decode cX3_at 27 = .ok (.iload 4, 2) := by decide +kernel
theorem dX3_at_29 : decode cX3_at 29 = .ok (.sipush 256, 3) := by decide +kernel
theorem dX3_at_32 : decode cX3_at 32 = .ok (.aload_n 3, 1) := by decide +kernel
theorem dX3_at_33 : decode cX3_at 33 = .ok (.getfield 74, 3) := by decide +kernel
theorem dX3_at_36 : decode cX3_at 36 = .ok (.iconst 1, 1) := by decide +kernel
theorem dX3_at_37 : decode cX3_at 37 = .ok (.iadd, 1) := by decide +kernel
theorem dX3_at_38 : decode cX3_at 38 = .ok (.imul, 1) := by decide +kernel
theorem dX3_at_39 : decode cX3_at 39 = .ok (.iadd, 1) := by decide +kernel
theorem dX3_at_40 : decode cX3_at 40 = .ok (.ireturn, 1) := by decide +kernel
set_option maxRecDepth 20000 in
theorem ggX3_pathLength_X1_wayLength : GoodIn wsX3_pathLength wsX1_wayLength := goodIn_r _ [6, 7, 8, 9, 5, 10, 11, 12, 13, 14, 15, 16, 17, 18, 19, 20, 21, 22, 23, 24, 25, 26, 27, 28, 29, 30, 31, 32, 37, 38, 39, 40, 41, 42] (by decide +kernel) (by decide +kernel)
set_option maxRecDepth 20000 in
theorem gX3_pathLength_X1_wayLength : GoodIn wsX3_pathLength (wsV RX3 114 RX1 yX1_wayLength wsX1_wayLength) := goodIn_app (goodIn_of _ (by decide +kernel)) ggX3_pathLength_X1_wayLength
theorem dX3_pathLength_0 : decode cX3_pathLength 0 = .ok (.aload_n 0, 1) := by decide +kernel
theorem dX3_pathLength_1 : decode cX3_pathLength 1 = .ok (.getfield 18, 3) := by decide +kernel
theorem dX3_pathLength_4 : decode cX3_pathLength 4 = .ok (.iload_n 1, 1) := by decide +kernel
theorem dX3_pathLength_5 : decode cX3_pathLength 5 = .ok (.iload_n 2, 1) := by decide +kernel
theorem dX3_pathLength_6 : decode cX3_pathLength 6 = .ok (.iload_n 3, 1) := by decide +kernel
theorem dX3_pathLength_7 : decode cX3_pathLength 7 = .ok (.iload 4, 2) := by decide +kernel
theorem dX3_pathLength_9 : decode cX3_pathLength 9 = .ok (.invokevirtual 114, 3) := by decide +kernel
theorem dX3_pathLength_12 : decode cX3_pathLength 12 = .ok (.ireturn, 1) := by decide +kernel
theorem dX3_now_0 : decode cX3_now 0 = .ok (.aload_n 0, 1) := by decide +kernel
theorem dX3_now_1 : decode cX3_now 1 = .ok (.getfield 88, 3) := by decide +kernel
theorem dX3_now_4 : decode cX3_now 4 = .ok (.ireturn, 1) := by decide +kernel
theorem dX3_setClock_0 : decode cX3_setClock 0 = .ok (.aload_n 0, 1) := by decide +kernel
theorem dX3_setClock_1 : decode cX3_setClock 1 = .ok (.iload_n 1, 1) := by decide +kernel
theorem dX3_setClock_2 : decode cX3_setClock 2 = .ok (.putfield 88, 3) := by decide +kernel
theorem dX3_setClock_5 : decode cX3_setClock 5 = .ok (.return_, 1) := by decide +kernel
theorem dX3_bounded_0 : decode cX3_bounded 0 = .ok (.iconst 1, 1) := by decide +kernel
theorem dX3_bounded_1 : decode cX3_bounded 1 = .ok (.iload_n 0, 1) := by decide +kernel
theorem dX3_bounded_2 : decode cX3_bounded 2 = .ok (.iload_n 1, 1) := by decide +kernel
theorem dX3_bounded_3 : decode cX3_bounded 3 = .ok (.invokestatic 118, 3) := by decide +kernel
theorem dX3_bounded_6 : decode cX3_bounded 6 = .ok (.invokestatic 123, 3) := by decide +kernel
theorem dX3_bounded_9 : decode cX3_bounded 9 = .ok (.ireturn, 1) := by decide +kernel
set_option maxRecDepth 20000 in
theorem ggX3_startOver_X1_clear : GoodIn wsX3_startOver wsX1_clear := goodIn_r _ [10, 11, 12, 13, 14, 15, 16, 33, 34, 35, 36, 37, 38] (by decide +kernel) (by decide +kernel)
set_option maxRecDepth 20000 in
theorem gX3_startOver_X1_clear : GoodIn wsX3_startOver (wsV RX3 126 RX1 yX1_clear wsX1_clear) := goodIn_app (goodIn_of _ (by decide +kernel)) ggX3_startOver_X1_clear
theorem dX3_startOver_0 : decode cX3_startOver 0 = .ok (.aload_n 0, 1) := by decide +kernel
theorem dX3_startOver_1 : decode cX3_startOver 1 = .ok (.getfield 18, 3) := by decide +kernel
theorem dX3_startOver_4 : decode cX3_startOver 4 = .ok (.invokevirtual 126, 3) := by decide +kernel
theorem dX3_startOver_7 : decode cX3_startOver 7 = .ok (.iconst 0, 1) := by decide +kernel
theorem dX3_startOver_8 : decode cX3_startOver 8 = .ok (.istore_n 1, 1) := by decide +kernel
theorem dX3_startOver_9 : decode cX3_startOver 9 = .ok (.iload_n 1, 1) := by decide +kernel
theorem dX3_startOver_10 : decode cX3_startOver 10 = .ok (.aload_n 0, 1) := by decide +kernel
theorem dX3_startOver_11 : decode cX3_startOver 11 = .ok (.getfield 24, 3) := by decide +kernel
theorem dX3_startOver_14 : decode cX3_startOver 14 = .ok (.arraylength, 1) := by decide +kernel
theorem dX3_startOver_15 : decode cX3_startOver 15 = .ok (.if_icmp .ge 19, 3) := by decide +kernel
theorem dX3_startOver_18 : decode cX3_startOver 18 = .ok (.aload_n 0, 1) := by decide +kernel
theorem dX3_startOver_19 : decode cX3_startOver 19 = .ok (.getfield 24, 3) := by decide +kernel
theorem dX3_startOver_22 : decode cX3_startOver 22 = .ok (.iload_n 1, 1) := by decide +kernel
theorem dX3_startOver_23 : decode cX3_startOver 23 = .ok (.aaload, 1) := by decide +kernel
theorem dX3_startOver_24 : decode cX3_startOver 24 = .ok (.iconst 0, 1) := by decide +kernel
theorem dX3_startOver_25 : decode cX3_startOver 25 = .ok (.putfield 52, 3) := by decide +kernel
theorem dX3_startOver_28 : decode cX3_startOver 28 = .ok (.iinc 1 1, 3) := by decide +kernel
theorem dX3_startOver_31 : decode cX3_startOver 31 = .ok (.goto (-22), 3) := by decide +kernel
theorem dX3_startOver_34 : decode cX3_startOver 34 = .ok (.aload_n 0, 1) := by decide +kernel
theorem dX3_startOver_35 : decode cX3_startOver 35 = .ok (.iconst 0, 1) := by decide +kernel
theorem dX3_startOver_36 : decode cX3_startOver 36 = .ok (.putfield 88, 3) := by decide +kernel
theorem dX3_startOver_39 : decode cX3_startOver 39 = .ok (.aload_n 0, 1) := by decide +kernel
theorem dX3_startOver_40 : decode cX3_startOver 40 = .ok (.aload_n 0, 1) := by decide +kernel
theorem dX3_startOver_41 : decode cX3_startOver 41 = .ok (.getfield 24, 3) := by decide +kernel
theorem dX3_startOver_44 : decode cX3_startOver 44 = .ok (.arraylength, 1) := by decide +kernel
theorem dX3_startOver_45 : decode cX3_startOver 45 = .ok (.iconst 1, 1) := by decide +kernel
theorem dX3_startOver_46 : decode cX3_startOver 46 = .ok (.isub, 1) := by decide +kernel
theorem dX3_startOver_47 : decode cX3_startOver 47 = .ok (.putfield 77, 3) := by decide +kernel
theorem dX3_startOver_50 : decode cX3_startOver 50 = .ok (.return_, 1) := by decide +kernel
theorem dX3_isNumber_0 : decode cX3_isNumber 0 = .ok (.iload_n 1, 1) := by decide +kernel
theorem dX3_isNumber_1 : decode cX3_isNumber 1 = .ok (.ifCond .lt 16, 3) := by decide +kernel
theorem dX3_isNumber_4 : decode cX3_isNumber 4 = .ok (.iload_n 1, 1) := by decide +kernel
theorem dX3_isNumber_5 : decode cX3_isNumber 5 = .ok (.aload_n 0, 1) := by decide +kernel
theorem dX3_isNumber_6 : decode cX3_isNumber 6 = .ok (.getfield 24, 3) := by decide +kernel
theorem dX3_isNumber_9 : decode cX3_isNumber 9 = .ok (.arraylength, 1) := by decide +kernel
theorem dX3_isNumber_10 : decode cX3_isNumber 10 = .ok (.if_icmp .ge 7, 3) := by decide +kernel
theorem dX3_isNumber_13 : decode cX3_isNumber 13 = .ok (.iconst 1, 1) := by decide +kernel
theorem dX3_isNumber_14 : decode cX3_isNumber 14 = .ok (.goto 4, 3) := by decide +kernel
theorem dX3_isNumber_17 : decode cX3_isNumber 17 = .ok (.iconst 0, 1) := by decide +kernel
theorem dX3_isNumber_18 : decode cX3_isNumber 18 = .ok (.ireturn, 1) := by decide +kernel
set_option maxRecDepth 20000 in
theorem ggX3_robotOf_X3_isNumber : GoodIn wsX3_robotOf wsX3_isNumber := goodIn_r _ [7, 1, 8, 9, 10, 11] (by decide +kernel) (by decide +kernel)
set_option maxRecDepth 20000 in
theorem gX3_robotOf_X3_isNumber : GoodIn wsX3_robotOf (wsV RX3 104 RX3 yX3_isNumber wsX3_isNumber) := goodIn_app (goodIn_of _ (by decide +kernel)) ggX3_robotOf_X3_isNumber
theorem dX3_robotOf_0 : decode cX3_robotOf 0 = .ok (.aload_n 0, 1) := by decide +kernel
theorem dX3_robotOf_1 : decode cX3_robotOf 1 = .ok (.iload_n 1, 1) := by decide +kernel
theorem dX3_robotOf_2 : decode cX3_robotOf 2 = .ok (.invokevirtual 104, 3) := by decide +kernel
theorem dX3_robotOf_5 : decode cX3_robotOf 5 = .ok (.ifCond .eq 24, 3) := by decide +kernel
theorem dX3_robotOf_8 : decode cX3_robotOf 8 = .ok (.aload_n 0, 1) := by decide +kernel
theorem dX3_robotOf_9 : decode cX3_robotOf 9 = .ok (.getfield 24, 3) := by decide +kernel
theorem dX3_robotOf_12 : decode cX3_robotOf 12 = .ok (.iload_n 1, 1) := by decide +kernel
theorem dX3_robotOf_13 : decode cX3_robotOf 13 = .ok (.aaload, 1) := by decide +kernel
theorem dX3_robotOf_14 : decode cX3_robotOf 14 = .ok (.getfield 52, 3) := by decide +kernel
theorem dX3_robotOf_17 : decode cX3_robotOf 17 = .ok (.ifCond .eq 12, 3) := by decide +kernel
theorem dX3_robotOf_20 : decode cX3_robotOf 20 = .ok (.aload_n 0, 1) := by decide +kernel
theorem dX3_robotOf_21 : decode cX3_robotOf 21 = .ok (.getfield 24, 3) := by decide +kernel
theorem dX3_robotOf_24 : decode cX3_robotOf 24 = .ok (.iload_n 1, 1) := by decide +kernel
theorem dX3_robotOf_25 : decode cX3_robotOf 25 = .ok (.aaload, 1) := by decide +kernel
theorem dX3_robotOf_26 : decode cX3_robotOf 26 = .ok (.goto 4, 3) := by decide +kernel
theorem dX3_robotOf_29 : decode cX3_robotOf 29 = .ok (.aconst_null, 1) := by decide +kernel
theorem dX3_robotOf_30 : decode cX3_robotOf 30 = .ok (.areturn, 1) := by decide +kernel
theorem dX3_robotOn_0 : decode cX3_robotOn 0 = .ok (.iconst 0, 1) := by decide +kernel
theorem dX3_robotOn_1 : decode cX3_robotOn 1 = .ok (.istore_n 3, 1) := by decide +kernel
theorem dX3_robotOn_2 : decode cX3_robotOn 2 = .ok (.iload_n 3, 1) := by decide +kernel
theorem dX3_robotOn_3 : decode cX3_robotOn 3 = .ok (.aload_n 0, 1) := by decide +kernel
theorem dX3_robotOn_4 : decode cX3_robotOn 4 = .ok (.getfield 24, 3) := by decide +kernel
theorem dX3_robotOn_7 : decode cX3_robotOn 7 = .ok (.arraylength, 1) := by decide +kernel
theorem dX3_robotOn_8 : decode cX3_robotOn 8 = .ok (.if_icmp .ge 46, 3) := by decide +kernel
theorem dX3_robotOn_11 : decode cX3_robotOn 11 = .ok (.aload_n 0, 1) := by decide +kernel
theorem dX3_robotOn_12 : decode cX3_robotOn 12 = .ok (.getfield 24, 3) := by decide +kernel
theorem dX3_robotOn_15 : decode cX3_robotOn 15 = .ok (.iload_n 3, 1) := by decide +kernel
theorem dX3_robotOn_16 : decode cX3_robotOn 16 = .ok (.aaload, 1) := by decide +kernel
theorem dX3_robotOn_17 : decode cX3_robotOn 17 = .ok (.astore 4, 2) := by decide +kernel
theorem dX3_robotOn_19 : decode cX3_robotOn 19 = .ok (.aload 4, 2) := by decide +kernel
theorem dX3_robotOn_21 : decode cX3_robotOn 21 = .ok (.getfield 52, 3) := by decide +kernel
theorem dX3_robotOn_24 : decode cX3_robotOn 24 = .ok (.ifCond .eq 24, 3) := by decide +kernel
theorem dX3_robotOn_27 : decode cX3_robotOn 27 = .ok (.aload 4, 2) := by decide +kernel
theorem dX3_robotOn_29 : decode cX3_robotOn 29 = .ok (.getfield 98, 3) := by decide +kernel
theorem dX3_robotOn_32 : decode cX3_robotOn 32 = .ok (.iload_n 1, 1) := by decide +kernel
theorem dX3_robotOn_33 : decode cX3_robotOn 33 = .ok (.if_icmp .ne 15, 3) := by decide +kernel
theorem dX3_robotOn_36 : decode cX3_robotOn 36 = .ok (.aload 4, 2) := by decide +kernel
theorem dX3_robotOn_38 : decode cX3_robotOn 38 = .ok (.getfield 101, 3) := by decide +kernel
theorem dX3_robotOn_41 : decode cX3_robotOn 41 = .ok (.iload_n 2, 1) := by decide +kernel
theorem dX3_robotOn_42 : decode cX3_robotOn 42 = .ok (.if_icmp .ne 6, 3) := by decide +kernel
theorem dX3_robotOn_45 : decode cX3_robotOn 45 = .ok (.aload 4, 2) := by decide +kernel
theorem dX3_robotOn_47 : decode cX3_robotOn 47 = .ok (.areturn, 1) := by decide +kernel
theorem dX3_robotOn_48 : decode cX3_robotOn 48 = .ok (.iinc 3 1, 3) := by decide +kernel
theorem dX3_robotOn_51 : decode cX3_robotOn 51 = .ok (.goto (-49), 3) := by decide +kernel
theorem dX3_robotOn_54 : decode cX3_robotOn 54 = .ok (.aconst_null, 1) := by decide +kernel
theorem dX3_robotOn_55 : decode cX3_robotOn 55 = .ok (.areturn, 1) := by decide +kernel
set_option maxRecDepth 20000 in
theorem ggX3_nextReady_X3_isNumber : GoodIn wsX3_nextReady wsX3_isNumber := goodIn_r _ [8, 2, 9, 10, 11, 12] (by decide +kernel) (by decide +kernel)
set_option maxRecDepth 20000 in
theorem gX3_nextReady_X3_isNumber : GoodIn wsX3_nextReady (wsV RX3 104 RX3 yX3_isNumber wsX3_isNumber) := goodIn_app (goodIn_of _ (by decide +kernel)) ggX3_nextReady_X3_isNumber
theorem dX3_nextReady_0 : decode cX3_nextReady 0 = .ok (.aload_n 0, 1) := by decide +kernel
theorem dX3_nextReady_1 : decode cX3_nextReady 1 = .ok (.getfield 77, 3) := by decide +kernel
theorem dX3_nextReady_4 : decode cX3_nextReady 4 = .ok (.istore_n 1, 1) := by decide +kernel
theorem dX3_nextReady_5 : decode cX3_nextReady 5 = .ok (.iconst 0, 1) := by decide +kernel
theorem dX3_nextReady_6 : decode cX3_nextReady 6 = .ok (.istore_n 2, 1) := by decide +kernel
theorem dX3_nextReady_7 : decode cX3_nextReady 7 = .ok (.iload_n 2, 1) := by decide +kernel
theorem dX3_nextReady_8 : decode cX3_nextReady 8 = .ok (.aload_n 0, 1) := by decide +kernel
theorem dX3_nextReady_9 : decode cX3_nextReady 9 = .ok (.getfield 24, 3) := by decide +kernel
theorem dX3_nextReady_12 : decode cX3_nextReady 12 = .ok (.arraylength, 1) := by decide +kernel
theorem dX3_nextReady_13 : decode cX3_nextReady 13 = .ok (.if_icmp .ge 47, 3) := by decide +kernel
theorem dX3_nextReady_16 : decode cX3_nextReady 16 = .ok (.aload_n 0, 1) := by decide +kernel
theorem dX3_nextReady_17 : decode cX3_nextReady 17 = .ok (.iload_n 1, 1) := by decide +kernel
theorem dX3_nextReady_18 : decode cX3_nextReady 18 = .ok (.iconst 1, 1) := by decide +kernel
theorem dX3_nextReady_19 : decode cX3_nextReady 19 = .ok (.iadd, 1) := by decide +kernel
theorem dX3_nextReady_20 : decode cX3_nextReady 20 = .ok (.invokevirtual 104, 3) := by decide +kernel
theorem dX3_nextReady_23 : decode cX3_nextReady 23 = .ok (.ifCond .eq 9, 3) := by decide +kernel
theorem dX3_nextReady_26 : decode cX3_nextReady 26 = .ok (.iload_n 1, 1) := by decide +kernel
theorem dX3_nextReady_27 : decode cX3_nextReady 27 = .ok (.iconst 1, 1) := by decide +kernel
theorem dX3_nextReady_28 : decode cX3_nextReady 28 = .ok (.iadd, 1) := by decide +kernel
theorem dX3_nextReady_29 : decode cX3_nextReady 29 = .ok (.goto 4, 3) := by decide +kernel
theorem dX3_nextReady_32 : decode cX3_nextReady 32 = .ok (.iconst 0, 1) := by decide +kernel
theorem dX3_nextReady_33 : decode cX3_nextReady 33 = .ok (.istore_n 1, 1) := by decide +kernel
theorem dX3_nextReady_34 : decode cX3_nextReady 34 = .ok (.aload_n 0, 1) := by decide +kernel
theorem dX3_nextReady_35 : decode cX3_nextReady 35 = .ok (.getfield 24, 3) := by decide +kernel
theorem dX3_nextReady_38 : decode cX3_nextReady 38 = .ok (.iload_n 1, 1) := by decide +kernel
theorem dX3_nextReady_39 : decode cX3_nextReady 39 = .ok (.aaload, 1) := by decide +kernel
theorem dX3_nextReady_40 : decode cX3_nextReady 40 = .ok (.getfield 52, 3) := by decide +kernel
theorem dX3_nextReady_43 : decode cX3_nextReady 43 = .ok (.iconst 2, 1) := by decide +kernel
theorem dX3_nextReady_44 : decode cX3_nextReady 44 = .ok (.if_icmp .ne 10, 3) := by decide +kernel
theorem dX3_nextReady_47 : decode cX3_nextReady 47 = .ok (.aload_n 0, 1) := by decide +kernel
theorem dX3_nextReady_48 : decode cX3_nextReady 48 = .ok (.getfield 24, 3) := by decide +kernel
theorem dX3_nextReady_51 : decode cX3_nextReady 51 = .ok (.iload_n 1, 1) := by decide +kernel
theorem dX3_nextReady_52 : decode cX3_nextReady 52 = .ok (.aaload, 1) := by decide +kernel
theorem dX3_nextReady_53 : decode cX3_nextReady 53 = .ok (.areturn, 1) := by decide +kernel
theorem dX3_nextReady_54 : decode cX3_nextReady 54 = .ok (.iinc 2 1, 3) := by decide +kernel
theorem dX3_nextReady_57 : decode cX3_nextReady 57 = .ok (.goto (-50), 3) := by decide +kernel
theorem dX3_nextReady_60 : decode cX3_nextReady 60 = .ok (.aconst_null, 1) := by decide +kernel
theorem dX3_nextReady_61 : decode cX3_nextReady 61 = .ok (.areturn, 1) := by decide +kernel
set_option maxRecDepth 20000 in
theorem ggX3_doWord_X3_opOf : GoodIn wsX3_doWord wsX3_opOf := goodIn_r _ [15] (by decide +kernel) (by decide +kernel)
set_option maxRecDepth 20000 in
theorem gX3_doWord_X3_opOf : GoodIn wsX3_doWord (va_wsS RX3 139 yX3_opOf wsX3_opOf) := goodIn_app (goodIn_of _ (by decide +kernel)) ggX3_doWord_X3_opOf
set_option maxRecDepth 20000 in
theorem ggX3_doWord_X3_rOf : GoodIn wsX3_doWord wsX3_rOf := goodIn_r _ [18] (by decide +kernel) (by decide +kernel)
set_option maxRecDepth 20000 in
theorem gX3_doWord_X3_rOf : GoodIn wsX3_doWord (va_wsS RX3 142 yX3_rOf wsX3_rOf) := goodIn_app (goodIn_of _ (by decide +kernel)) ggX3_doWord_X3_rOf
set_option maxRecDepth 20000 in
theorem ggX3_doWord_X3_sOf : GoodIn wsX3_doWord wsX3_sOf := goodIn_r _ [21] (by decide +kernel) (by decide +kernel)
set_option maxRecDepth 20000 in
theorem gX3_doWord_X3_sOf : GoodIn wsX3_doWord (va_wsS RX3 145 yX3_sOf wsX3_sOf) := goodIn_app (goodIn_of _ (by decide +kernel)) ggX3_doWord_X3_sOf
set_option maxRecDepth 20000 in
theorem ggX3_doWord_X3_go_k0 : GoodIn wsX3_doWord ((wsX3_go.drop 0).take 20) := goodIn_r _ [25, 6, 26, 7, 27, 5, 28, 29, 30, 31, 32, 33, 34, 35, 36, 37, 38, 14, 39, 40] (by decide +kernel) (by decide +kernel)
set_option maxRecDepth 20000 in
theorem ggX3_doWord_X3_go_k1 : GoodIn wsX3_doWord ((wsX3_go.drop 20).take 20) := goodIn_r _ [4, 143, 144, 145, 146, 147, 148, 149, 150, 151, 152, 153, 154, 155, 156, 157, 158, 159, 160, 161] (by decide +kernel) (by decide +kernel)
set_option maxRecDepth 20000 in
theorem ggX3_doWord_X3_go_k2 : GoodIn wsX3_doWord (wsX3_go.drop 40) := goodIn_r _ [162, 163, 164] (by decide +kernel) (by decide +kernel)
set_option maxRecDepth 20000 in
theorem ggX3_doWord_X3_go : GoodIn wsX3_doWord wsX3_go := (goodIn_spl (a := 0) (b := 20) ggX3_doWord_X3_go_k0 (goodIn_spl (a := 20) (b := 20) ggX3_doWord_X3_go_k1 ggX3_doWord_X3_go_k2))
set_option maxRecDepth 20000 in
theorem gX3_doWord_X3_go : GoodIn wsX3_doWord (wsV RX3 148 RX3 yX3_go wsX3_go) := goodIn_app (goodIn_of _ (by decide +kernel)) ggX3_doWord_X3_go
set_option maxRecDepth 20000 in
theorem ggX3_doWord_X3_look_k0 : GoodIn wsX3_doWord ((wsX3_look.drop 0).take 20) := goodIn_r _ [44, 6, 26, 7, 27, 45, 46, 47, 14, 48, 5, 8, 36, 37, 38, 39, 40, 4, 49, 50] (by decide +kernel) (by decide +kernel)
set_option maxRecDepth 20000 in
theorem ggX3_doWord_X3_look_k1 : GoodIn wsX3_doWord ((wsX3_look.drop 20).take 20) := goodIn_r _ [51, 31, 52, 35, 33, 53, 54, 55, 56, 34, 143, 144, 145, 146, 147, 148, 149, 150, 151, 152] (by decide +kernel) (by decide +kernel)
set_option maxRecDepth 20000 in
theorem ggX3_doWord_X3_look_k2 : GoodIn wsX3_doWord (wsX3_look.drop 40) := goodIn_r _ [153, 154, 155, 156, 157, 158, 159, 160, 161, 162, 163, 164] (by decide +kernel) (by decide +kernel)
set_option maxRecDepth 20000 in
theorem ggX3_doWord_X3_look : GoodIn wsX3_doWord wsX3_look := (goodIn_spl (a := 0) (b := 20) ggX3_doWord_X3_look_k0 (goodIn_spl (a := 20) (b := 20) ggX3_doWord_X3_look_k1 ggX3_doWord_X3_look_k2))
set_option maxRecDepth 20000 in
theorem gX3_doWord_X3_look : GoodIn wsX3_doWord (wsV RX3 152 RX3 yX3_look wsX3_look) := goodIn_app (goodIn_of _ (by decide +kernel)) ggX3_doWord_X3_look
set_option maxRecDepth 20000 in
theorem ggX3_doWord_X3_take : GoodIn wsX3_doWord wsX3_take := goodIn_r _ [60, 10, 5, 6, 7, 61, 62, 63, 31, 64, 33, 35, 65, 29, 30, 32, 34, 143, 144, 145, 146, 147, 148, 149, 150, 151, 152, 153, 154, 155, 156, 157, 158, 159, 160, 161, 162, 163, 164] (by decide +kernel) (by decide +kernel)
set_option maxRecDepth 20000 in
theorem gX3_doWord_X3_take : GoodIn wsX3_doWord (wsV RX3 155 RX3 yX3_take wsX3_take) := goodIn_app (goodIn_of _ (by decide +kernel)) ggX3_doWord_X3_take
set_option maxRecDepth 20000 in
theorem ggX3_doWord_X3_lay : GoodIn wsX3_doWord wsX3_lay := goodIn_r _ [69, 10, 5, 6, 7, 70, 71, 72, 31, 73, 33, 35, 65, 29, 30, 32, 34, 143, 144, 145, 146, 147, 148, 149, 150, 151, 152, 153, 154, 155, 156, 157, 158, 159, 160, 161, 162, 163, 164] (by decide +kernel) (by decide +kernel)
set_option maxRecDepth 20000 in
theorem gX3_doWord_X3_lay : GoodIn wsX3_doWord (wsV RX3 159 RX3 yX3_lay wsX3_lay) := goodIn_app (goodIn_of _ (by decide +kernel)) ggX3_doWord_X3_lay
set_option maxRecDepth 20000 in
theorem ggX3_doWord_X3_send_k0 : GoodIn wsX3_doWord ((wsX3_send.drop 0).take 20) := goodIn_r _ [77, 78, 4, 79, 80, 81, 14, 82, 40, 83, 84, 85, 86, 87, 88, 89, 90, 91, 92, 93] (by decide +kernel) (by decide +kernel)
set_option maxRecDepth 20000 in
theorem ggX3_doWord_X3_send_k1 : GoodIn wsX3_doWord ((wsX3_send.drop 20).take 20) := goodIn_r _ [94, 95, 96, 97, 98, 99, 143, 144, 145, 146, 147, 148, 149, 150, 151, 152, 153, 154, 155, 156] (by decide +kernel) (by decide +kernel)
set_option maxRecDepth 20000 in
theorem ggX3_doWord_X3_send_k2 : GoodIn wsX3_doWord (wsX3_send.drop 40) := goodIn_r _ [157, 158, 165, 166] (by decide +kernel) (by decide +kernel)
set_option maxRecDepth 20000 in
theorem ggX3_doWord_X3_send : GoodIn wsX3_doWord wsX3_send := (goodIn_spl (a := 0) (b := 20) ggX3_doWord_X3_send_k0 (goodIn_spl (a := 20) (b := 20) ggX3_doWord_X3_send_k1 ggX3_doWord_X3_send_k2))
set_option maxRecDepth 20000 in
theorem gX3_doWord_X3_send : GoodIn wsX3_doWord (wsV RX3 162 RX3 yX3_send wsX3_send) := goodIn_app (goodIn_of _ (by decide +kernel)) ggX3_doWord_X3_send
set_option maxRecDepth 20000 in
theorem ggX3_doWord_X3_receive : GoodIn wsX3_doWord wsX3_receive := goodIn_r _ [102, 78, 103, 4, 3, 104, 105, 106, 96, 107, 98, 99, 108, 109, 110, 111, 143, 144, 145, 146, 147, 148, 149, 150, 151, 152, 153, 154, 165, 166] (by decide +kernel) (by decide +kernel)
set_option maxRecDepth 20000 in
theorem gX3_doWord_X3_receive : GoodIn wsX3_doWord (va_wsS RX3 165 yX3_receive wsX3_receive) := goodIn_app (goodIn_of _ (by decide +kernel)) ggX3_doWord_X3_receive
set_option maxRecDepth 20000 in
theorem ggX3_doWord_X2_fallAsleep : GoodIn wsX3_doWord wsX2_fallAsleep := goodIn_r _ [115, 92, 116, 143, 144, 145, 146, 147, 148, 149, 150, 151, 152, 153, 154] (by decide +kernel) (by decide +kernel)
set_option maxRecDepth 20000 in
theorem gX3_doWord_X2_fallAsleep : GoodIn wsX3_doWord (wsV RX3 169 RX2 yX2_fallAsleep wsX2_fallAsleep) := goodIn_app (goodIn_of _ (by decide +kernel)) ggX3_doWord_X2_fallAsleep
set_option maxRecDepth 20000 in
theorem ggX3_doWord_X1_firstStep : GoodIn wsX3_doWord wsX1_firstStep := goodIn_r _ [120, 121, 122, 123, 31, 124, 65, 29, 30, 32, 33, 34, 35, 125, 126, 127, 128, 129, 130, 131, 132, 133, 134, 135, 136, 137, 138, 139, 53, 54, 55, 56, 159, 160, 161, 162, 163, 164] (by decide +kernel) (by decide +kernel)
set_option maxRecDepth 20000 in
theorem gX3_doWord_X1_firstStep : GoodIn wsX3_doWord (wsV RX3 173 RX1 yX1_firstStep wsX1_firstStep) := goodIn_app (goodIn_of _ (by decide +kernel)) ggX3_doWord_X1_firstStep
set_option maxRecDepth 20000 in
theorem ggX3_doWord_X3_calculated : GoodIn wsX3_doWord wsX3_calculated := goodIn_r _ [142] (by decide +kernel) (by decide +kernel)
set_option maxRecDepth 20000 in
theorem gX3_doWord_X3_calculated : GoodIn wsX3_doWord (va_wsS RX3 176 yX3_calculated wsX3_calculated) := goodIn_app (goodIn_of _ (by decide +kernel)) ggX3_doWord_X3_calculated
theorem dX3_doWord_0 : decode cX3_doWord 0 = .ok (.aload_n 1, 1) := by decide +kernel
theorem dX3_doWord_1 : decode cX3_doWord 1 = .ok (.getfield 129, 3) := by decide +kernel
theorem dX3_doWord_4 : decode cX3_doWord 4 = .ok (.aload_n 1, 1) := by decide +kernel
theorem dX3_doWord_5 : decode cX3_doWord 5 = .ok (.getfield 133, 3) := by decide +kernel
theorem dX3_doWord_8 : decode cX3_doWord 8 = .ok (.iaload, 1) := by decide +kernel
theorem dX3_doWord_9 : decode cX3_doWord 9 = .ok (.istore_n 2, 1) := by decide +kernel
theorem dX3_doWord_10 : decode cX3_doWord 10 = .ok (.aload_n 1, 1) := by decide +kernel
theorem dX3_doWord_11 : decode cX3_doWord 11 = .ok (.getfield 136, 3) := by decide +kernel
theorem dX3_doWord_14 : decode cX3_doWord 14 = .ok (.astore_n 3, 1) := by decide +kernel
theorem dX3_doWord_15 : decode cX3_doWord 15 = .ok (.iload_n 2, 1) := by decide +kernel
theorem dX3_doWord_16 : decode cX3_doWord 16 = .ok (.invokestatic 139, 3) := by decide +kernel
theorem dX3_doWord_19 : decode cX3_doWord 19 = .ok (.istore 4, 2) := by decide +kernel
theorem dX3_doWord_21 : decode cX3_doWord 21 = .ok (.iload_n 2, 1) := by decide +kernel
theorem dX3_doWord_22 : decode cX3_doWord 22 = .ok (.invokestatic 142, 3) := by decide +kernel
theorem dX3_doWord_25 : decode cX3_doWord 25 = .ok (.istore 5, 2) := by decide +kernel
theorem dX3_doWord_27 : decode cX3_doWord 27 = .ok (.iload_n 2, 1) := by decide +kernel
theorem dX3_doWord_28 : decode cX3_doWord 28 = .ok (.invokestatic 145, 3) := by decide +kernel
theorem dX3_doWord_31 : decode cX3_doWord 31 = .ok (.istore 6, 2) := by decide +kernel
theorem dX3_doWord_33 : decode cX3_doWord 33 = .ok (.iload_n 2, 1) := by decide +kernel
theorem dX3_doWord_34 : decode cX3_doWord 34 = .ok (.bipush 16, 2) := by decide +kernel
theorem dX3_doWord_36 : decode cX3_doWord 36 = .ok (.ishr, 1) := by decide +kernel
theorem dX3_doWord_37 : decode cX3_doWord 37 = .ok (.istore 7, 2) := by decide +kernel
theorem dX3_doWord_39 : decode cX3_doWord 39 = .ok (.aload_n 3, 1) := by decide +kernel
theorem dX3_doWord_40 : decode cX3_doWord 40 = .ok (.iload 5, 2) := by decide +kernel
theorem dX3_doWord_42 : decode cX3_doWord 42 = .ok (.iaload, 1) := by decide +kernel
theorem dX3_doWord_43 : decode cX3_doWord 43 = .ok (.istore 8, 2) := by decide +kernel
theorem dX3_doWord_45 : decode cX3_doWord 45 = .ok (.aload_n 3, 1) := by decide +kernel
theorem dX3_doWord_46 : decode cX3_doWord 46 = .ok (.iload 6, 2) := by decide +kernel
theorem dX3_doWord_48 : decode cX3_doWord 48 = .ok (.iaload, 1) := by decide +kernel
theorem dX3_doWord_49 : decode cX3_doWord 49 = .ok (.istore 9, 2) := by decide +kernel
theorem dX3_doWord_51 : decode cX3_doWord 51 = .ok (.aload_n 1, 1) := by decide +kernel
theorem dX3_doWord_52 : decode cX3_doWord 52 = .ok (.getfield 133, 3) := by decide +kernel
theorem dX3_doWord_55 : decode cX3_doWord 55 = .ok (.iconst 1, 1) := by decide +kernel
theorem dX3_doWord_56 : decode cX3_doWord 56 = .ok (.iadd, 1) := by decide +kernel
theorem dX3_doWord_57 : decode cX3_doWord 57 = .ok (.istore 10, 2) := by decide +kernel
theorem dX3_doWord_59 : decode cX3_doWord 59 = .ok (.iload 4, 2) := by decide +kernel
theorem dX3_doWord_61 : decode cX3_doWord 61 = .ok (.tableswitch 345 0 24 #[115, 345, 345, 345, 345, 345, 345, 345, 345, 345, 123, 130, 147, 164, 180, 196, 208, 220, 235, 258, 267, 293, 312, 323, 334], 115) := by decide +kernel
theorem dX3_doWord_176 : decode cX3_doWord 176 = .ok (.aload_n 1, 1) := by decide +kernel
theorem dX3_doWord_177 : decode cX3_doWord 177 = .ok (.iconst 5, 1) := by decide +kernel
theorem dX3_doWord_178 : decode cX3_doWord 178 = .ok (.putfield 52, 3) := by decide +kernel
theorem dX3_doWord_181 : decode cX3_doWord 181 = .ok (.goto 240, 3) := by decide +kernel
theorem dX3_doWord_184 : decode cX3_doWord 184 = .ok (.iload 7, 2) := by decide +kernel
theorem dX3_doWord_186 : decode cX3_doWord 186 = .ok (.istore 10, 2) := by decide +kernel
theorem dX3_doWord_188 : decode cX3_doWord 188 = .ok (.goto 233, 3) := by decide +kernel
theorem dX3_doWord_191 : decode cX3_doWord 191 = .ok (.iload 8, 2) := by decide +kernel
theorem dX3_doWord_193 : decode cX3_doWord 193 = .ok (.ifCond .ne 8, 3) := by decide +kernel
theorem dX3_doWord_196 : decode cX3_doWord 196 = .ok (.iload 7, 2) := by decide +kernel
theorem dX3_doWord_198 : decode cX3_doWord 198 = .ok (.goto 5, 3) := by decide +kernel
theorem dX3_doWord_201 : decode cX3_doWord 201 = .ok (.iload 10, 2) := by decide +kernel
theorem dX3_doWord_203 : decode cX3_doWord 203 = .ok (.istore 10, 2) := by decide +kernel
theorem dX3_doWord_205 : decode cX3_doWord 205 = .ok (.goto 216, 3) := by decide +kernel
theorem dX3_doWord_208 : decode cX3_doWord 208 = .ok (.iload 8, 2) := by decide +kernel
theorem dX3_doWord_210 : decode cX3_doWord 210 = .ok (.ifCond .eq 8, 3) := by decide +kernel
theorem dX3_doWord_213 : decode cX3_doWord 213 = .ok (.iload 7, 2) := by decide +kernel
theorem dX3_doWord_215 : decode cX3_doWord 215 = .ok (.goto 5, 3) := by decide +kernel
theorem dX3_doWord_218 : decode cX3_doWord 218 = .ok (.iload 10, 2) := by decide +kernel
theorem dX3_doWord_220 : decode cX3_doWord 220 = .ok (.istore 10, 2) := by decide +kernel
theorem dX3_doWord_222 : decode cX3_doWord 222 = .ok (.goto 199, 3) := by decide +kernel
theorem dX3_doWord_225 : decode cX3_doWord 225 = .ok (.aload_n 3, 1) := by decide +kernel
theorem dX3_doWord_226 : decode cX3_doWord 226 = .ok (.iload 6, 2) := by decide +kernel
theorem dX3_doWord_228 : decode cX3_doWord 228 = .ok (.aload_n 0, 1) := by decide +kernel
theorem dX3_doWord_229 : decode cX3_doWord 229 = .ok (.aload_n 1, 1) := by decide +kernel
theorem dX3_doWord_230 : decode cX3_doWord 230 = .ok (.iload 8, 2) := by decide +kernel
theorem dX3_doWord_232 : decode cX3_doWord 232 = .ok (.iconst 3, 1) := by decide +kernel
theorem dX3_doWord_233 : decode cX3_doWord 233 = .ok (.iand, 1) := by decide +kernel
theorem dX3_doWord_234 : decode cX3_doWord 234 = .ok (.invokevirtual 148, 3) := by decide +kernel
theorem dX3_doWord_237 : decode cX3_doWord 237 = .ok (.iastore, 1) := by decide +kernel
theorem dX3_doWord_238 : decode cX3_doWord 238 = .ok (.goto 183, 3) := by decide +kernel
theorem dX3_doWord_241 : decode cX3_doWord 241 = .ok (.aload_n 3, 1) := by decide +kernel
theorem dX3_doWord_242 : decode cX3_doWord 242 = .ok (.iload 6, 2) := by decide +kernel
theorem dX3_doWord_244 : decode cX3_doWord 244 = .ok (.aload_n 0, 1) := by decide +kernel
theorem dX3_doWord_245 : decode cX3_doWord 245 = .ok (.aload_n 1, 1) := by decide +kernel
theorem dX3_doWord_246 : decode cX3_doWord 246 = .ok (.iload 8, 2) := by decide +kernel
theorem dX3_doWord_248 : decode cX3_doWord 248 = .ok (.iconst 3, 1) := by decide +kernel
theorem dX3_doWord_249 : decode cX3_doWord 249 = .ok (.iand, 1) := by decide +kernel
theorem dX3_doWord_250 : decode cX3_doWord 250 = .ok (.invokevirtual 152, 3) := by decide +kernel
theorem dX3_doWord_253 : decode cX3_doWord 253 = .ok (.iastore, 1) := by decide +kernel
theorem dX3_doWord_254 : decode cX3_doWord 254 = .ok (.goto 167, 3) := by decide +kernel
theorem dX3_doWord_257 : decode cX3_doWord 257 = .ok (.aload_n 3, 1) := by decide +kernel
theorem dX3_doWord_258 : decode cX3_doWord 258 = .ok (.iload 5, 2) := by decide +kernel
theorem dX3_doWord_260 : decode cX3_doWord 260 = .ok (.aload_n 0, 1) := by decide +kernel
theorem dX3_doWord_261 : decode cX3_doWord 261 = .ok (.aload_n 1, 1) := by decide +kernel
theorem dX3_doWord_262 : decode cX3_doWord 262 = .ok (.invokevirtual 155, 3) := by decide +kernel
theorem dX3_doWord_265 : decode cX3_doWord 265 = .ok (.iastore, 1) := by decide +kernel
theorem dX3_doWord_266 : decode cX3_doWord 266 = .ok (.goto 155, 3) := by decide +kernel
theorem dX3_doWord_269 : decode cX3_doWord 269 = .ok (.aload_n 3, 1) := by decide +kernel
theorem dX3_doWord_270 : decode cX3_doWord 270 = .ok (.iload 5, 2) := by decide +kernel
theorem dX3_doWord_272 : decode cX3_doWord 272 = .ok (.aload_n 0, 1) := by decide +kernel
theorem dX3_doWord_273 : decode cX3_doWord 273 = .ok (.aload_n 1, 1) := by decide +kernel
theorem dX3_doWord_274 : decode cX3_doWord 274 = .ok (.invokevirtual 159, 3) := by decide +kernel
theorem dX3_doWord_277 : decode cX3_doWord 277 = .ok (.iastore, 1) := by decide +kernel
theorem dX3_doWord_278 : decode cX3_doWord 278 = .ok (.goto 143, 3) := by decide +kernel
theorem dX3_doWord_281 : decode cX3_doWord 281 = .ok (.aload_n 3, 1) := by decide +kernel
theorem dX3_doWord_282 : decode cX3_doWord 282 = .ok (.iload 5, 2) := by decide +kernel
theorem dX3_doWord_284 : decode cX3_doWord 284 = .ok (.aload_n 0, 1) := by decide +kernel
theorem dX3_doWord_285 : decode cX3_doWord 285 = .ok (.iload 8, 2) := by decide +kernel
theorem dX3_doWord_287 : decode cX3_doWord 287 = .ok (.iload 9, 2) := by decide +kernel
theorem dX3_doWord_289 : decode cX3_doWord 289 = .ok (.invokevirtual 162, 3) := by decide +kernel
theorem dX3_doWord_292 : decode cX3_doWord 292 = .ok (.iastore, 1) := by decide +kernel
theorem dX3_doWord_293 : decode cX3_doWord 293 = .ok (.goto 128, 3) := by decide +kernel
theorem dX3_doWord_296 : decode cX3_doWord 296 = .ok (.aload_n 1, 1) := by decide +kernel
theorem dX3_doWord_297 : decode cX3_doWord 297 = .ok (.iload 5, 2) := by decide +kernel
theorem dX3_doWord_299 : decode cX3_doWord 299 = .ok (.invokestatic 165, 3) := by decide +kernel
theorem dX3_doWord_302 : decode cX3_doWord 302 = .ok (.ifCond .eq 8, 3) := by decide +kernel
theorem dX3_doWord_305 : decode cX3_doWord 305 = .ok (.iload 10, 2) := by decide +kernel
theorem dX3_doWord_307 : decode cX3_doWord 307 = .ok (.goto 7, 3) := by decide +kernel
theorem dX3_doWord_310 : decode cX3_doWord 310 = .ok (.aload_n 1, 1) := by decide +kernel
theorem dX3_doWord_311 : decode cX3_doWord 311 = .ok (.getfield 133, 3) := by decide +kernel
theorem dX3_doWord_314 : decode cX3_doWord 314 = .ok (.istore 10, 2) := by decide +kernel
theorem dX3_doWord_316 : decode cX3_doWord 316 = .ok (.goto 105, 3) := by decide +kernel
theorem dX3_doWord_319 : decode cX3_doWord 319 = .ok (.aload_n 1, 1) := by decide +kernel
theorem dX3_doWord_320 : decode cX3_doWord 320 = .ok (.iload 8, 2) := by decide +kernel
theorem dX3_doWord_322 : decode cX3_doWord 322 = .ok (.invokevirtual 169, 3) := by decide +kernel
theorem dX3_doWord_325 : decode cX3_doWord 325 = .ok (.goto 96, 3) := by decide +kernel
theorem dX3_doWord_328 : decode cX3_doWord 328 = .ok (.aload_n 3, 1) := by decide +kernel
theorem dX3_doWord_329 : decode cX3_doWord 329 = .ok (.iload 5, 2) := by decide +kernel
theorem dX3_doWord_331 : decode cX3_doWord 331 = .ok (.aload_n 0, 1) := by decide +kernel
theorem dX3_doWord_332 : decode cX3_doWord 332 = .ok (.getfield 18, 3) := by decide +kernel
theorem dX3_doWord_335 : decode cX3_doWord 335 = .ok (.aload_n 1, 1) := by decide +kernel
theorem dX3_doWord_336 : decode cX3_doWord 336 = .ok (.getfield 98, 3) := by decide +kernel
theorem dX3_doWord_339 : decode cX3_doWord 339 = .ok (.aload_n 1, 1) := by decide +kernel
theorem dX3_doWord_340 : decode cX3_doWord 340 = .ok (.getfield 101, 3) := by decide +kernel
theorem dX3_doWord_343 : decode cX3_doWord 343 = .ok (.iload 8, 2) := by decide +kernel
theorem dX3_doWord_345 : decode cX3_doWord 345 = .ok (.iload 9, 2) := by decide +kernel
theorem dX3_doWord_347 : decode cX3_doWord 347 = .ok (.invokevirtual 173, 3) := by decide +kernel
theorem dX3_doWord_350 : decode cX3_doWord 350 = .ok (.iastore, 1) := by decide +kernel
theorem dX3_doWord_351 : decode cX3_doWord 351 = .ok (.goto 70, 3) := by decide +kernel
theorem dX3_doWord_354 : decode cX3_doWord 354 = .ok (.aload_n 3, 1) := by decide +kernel
theorem dX3_doWord_355 : decode cX3_doWord 355 = .ok (.iload 5, 2) := by decide +kernel
theorem dX3_doWord_357 : decode cX3_doWord 357 = .ok (.aload_n 1, 1) := by decide +kernel
theorem dX3_doWord_358 : decode cX3_doWord 358 = .ok (.getfield 98, 3) := by decide +kernel
theorem dX3_doWord_361 : decode cX3_doWord 361 = .ok (.iastore, 1) := by decide +kernel
theorem dX3_doWord_362 : decode cX3_doWord 362 = .ok (.aload_n 3, 1) := by decide +kernel
theorem dX3_doWord_363 : decode cX3_doWord 363 = .ok (.iload 6, 2) := by decide +kernel
theorem dX3_doWord_365 : decode cX3_doWord 365 = .ok (.aload_n 1, 1) := by decide +kernel
theorem dX3_doWord_366 : decode cX3_doWord 366 = .ok (.getfield 101, 3) := by decide +kernel
theorem dX3_doWord_369 : decode cX3_doWord 369 = .ok (.iastore, 1) := by decide +kernel
theorem dX3_doWord_370 : decode cX3_doWord 370 = .ok (.goto 51, 3) := by decide +kernel
theorem dX3_doWord_373 : decode cX3_doWord 373 = .ok (.aload_n 3, 1) := by decide +kernel
theorem dX3_doWord_374 : decode cX3_doWord 374 = .ok (.iload 5, 2) := by decide +kernel
theorem dX3_doWord_376 : decode cX3_doWord 376 = .ok (.aload_n 1, 1) := by decide +kernel
theorem dX3_doWord_377 : decode cX3_doWord 377 = .ok (.getfield 74, 3) := by decide +kernel
theorem dX3_doWord_380 : decode cX3_doWord 380 = .ok (.iastore, 1) := by decide +kernel
theorem dX3_doWord_381 : decode cX3_doWord 381 = .ok (.goto 40, 3) := by decide +kernel
theorem dX3_doWord_384 : decode cX3_doWord 384 = .ok (.aload_n 3, 1) := by decide +kernel
theorem dX3_doWord_385 : decode cX3_doWord 385 = .ok (.iload 5, 2) := by decide +kernel
theorem dX3_doWord_387 : decode cX3_doWord 387 = .ok (.aload_n 0, 1) := by decide +kernel
theorem dX3_doWord_388 : decode cX3_doWord 388 = .ok (.getfield 88, 3) := by decide +kernel
theorem dX3_doWord_391 : decode cX3_doWord 391 = .ok (.iastore, 1) := by decide +kernel
theorem dX3_doWord_392 : decode cX3_doWord 392 = .ok (.goto 29, 3) := by decide +kernel
theorem dX3_doWord_395 : decode cX3_doWord 395 = .ok (.aload_n 3, 1) := by decide +kernel
theorem dX3_doWord_396 : decode cX3_doWord 396 = .ok (.iload 5, 2) := by decide +kernel
theorem dX3_doWord_398 : decode cX3_doWord 398 = .ok (.aload_n 1, 1) := by decide +kernel
theorem dX3_doWord_399 : decode cX3_doWord 399 = .ok (.getfield 95, 3) := by decide +kernel
theorem dX3_doWord_402 : decode cX3_doWord 402 = .ok (.iastore, 1) := by decide +kernel
theorem dX3_doWord_403 : decode cX3_doWord 403 = .ok (.goto 18, 3) := by decide +kernel
theorem dX3_doWord_406 : decode cX3_doWord 406 = .ok (.aload_n 3, 1) := by decide +kernel
theorem dX3_doWord_407 : decode cX3_doWord 407 = .ok (.iload 5, 2) := by decide +kernel
theorem dX3_doWord_409 : decode cX3_doWord 409 = .ok (.iload 4, 2) := by decide +kernel
theorem dX3_doWord_411 : decode cX3_doWord 411 = .ok (.iload 8, 2) := by decide +kernel
theorem dX3_doWord_413 : decode cX3_doWord 413 = .ok (.iload 9, 2) := by decide +kernel
theorem dX3_doWord_415 : decode cX3_doWord 415 = .ok (.iload 7, 2) := by decide +kernel
theorem dX3_doWord_417 : decode cX3_doWord 417 = .ok (.invokestatic 176, 3) := by decide +kernel
theorem dX3_doWord_420 : decode cX3_doWord 420 = .ok (.iastore, 1) := by decide +kernel
theorem dX3_doWord_421 : decode cX3_doWord 421 = .ok (.aload_n 1, 1) := by decide +kernel
theorem dX3_doWord_422 : decode cX3_doWord 422 = .ok (.iload 10, 2) := by decide +kernel
theorem dX3_doWord_424 : decode cX3_doWord 424 = .ok (.putfield 133, 3) := by decide +kernel
theorem dX3_doWord_427 : decode cX3_doWord 427 = .ok (.aload_n 1, 1) := by decide +kernel
theorem dX3_doWord_428 : decode cX3_doWord 428 = .ok (.dup, 1) := by decide +kernel
theorem dX3_doWord_429 : decode cX3_doWord 429 = .ok (.getfield 179, 3) := by decide +kernel
theorem dX3_doWord_432 : decode cX3_doWord 432 = .ok (.iconst 1, 1) := by decide +kernel
theorem dX3_doWord_433 : decode cX3_doWord 433 = .ok (.iadd, 1) := by decide +kernel
theorem dX3_doWord_434 : decode cX3_doWord 434 = .ok (.putfield 179, 3) := by decide +kernel
theorem dX3_doWord_437 : decode cX3_doWord 437 = .ok (.return_, 1) := by decide +kernel
theorem dX3_opOf_0 : decode cX3_opOf 0 = .ok (.iload_n 0, 1) := by decide +kernel
theorem dX3_opOf_1 : decode cX3_opOf 1 = .ok (.sipush 255, 3) := by decide +kernel
theorem dX3_opOf_4 : decode cX3_opOf 4 = .ok (.iand, 1) := by decide +kernel
theorem dX3_opOf_5 : decode cX3_opOf 5 = .ok (.ireturn, 1) := by decide +kernel
theorem dX3_rOf_0 : decode cX3_rOf 0 = .ok (.iload_n 0, 1) := by decide +kernel
theorem dX3_rOf_1 : decode cX3_rOf 1 = .ok (.bipush 8, 2) := by decide +kernel
theorem dX3_rOf_3 : decode cX3_rOf 3 = .ok (.ishr, 1) := by decide +kernel
theorem dX3_rOf_4 : decode cX3_rOf 4 = .ok (.bipush 15, 2) := by decide +kernel
theorem dX3_rOf_6 : decode cX3_rOf 6 = .ok (.iand, 1) := by decide +kernel
theorem dX3_rOf_7 : decode cX3_rOf 7 = .ok (.ireturn, 1) := by decide +kernel
theorem dX3_sOf_0 : decode cX3_sOf 0 = .ok (.iload_n 0, 1) := by decide +kernel
theorem dX3_sOf_1 : decode cX3_sOf 1 = .ok (.bipush 12, 2) := by decide +kernel
theorem dX3_sOf_3 : decode cX3_sOf 3 = .ok (.ishr, 1) := by decide +kernel
theorem dX3_sOf_4 : decode cX3_sOf 4 = .ok (.bipush 15, 2) := by decide +kernel
theorem dX3_sOf_6 : decode cX3_sOf 6 = .ok (.iand, 1) := by decide +kernel
theorem dX3_sOf_7 : decode cX3_sOf 7 = .ok (.ireturn, 1) := by decide +kernel
theorem dX3_calculated_0 : decode cX3_calculated 0 = .ok (.iload_n 0, 1) := by decide +kernel
theorem dX3_calculated_1 : decode cX3_calculated 1 = .ok (.tableswitch 115 1 9 #[51, 55, 59, 65, 71, 77, 83, 89, 102], 51) := by decide +kernel
theorem dX3_calculated_52 : decode cX3_calculated 52 = .ok (.iload_n 3, 1) := by decide +kernel
theorem dX3_calculated_53 : decode cX3_calculated 53 = .ok (.goto 64, 3) := by decide +kernel
theorem dX3_calculated_56 : decode cX3_calculated 56 = .ok (.iload_n 2, 1) := by decide +kernel
theorem dX3_calculated_57 : decode cX3_calculated 57 = .ok (.goto 60, 3) := by decide +kernel
theorem dX3_calculated_60 : decode cX3_calculated 60 = .ok (.iload_n 1, 1) := by decide +kernel
theorem dX3_calculated_61 : decode cX3_calculated 61 = .ok (.iload_n 2, 1) := by decide +kernel
theorem dX3_calculated_62 : decode cX3_calculated 62 = .ok (.iadd, 1) := by decide +kernel
theorem dX3_calculated_63 : decode cX3_calculated 63 = .ok (.goto 54, 3) := by decide +kernel
theorem dX3_calculated_66 : decode cX3_calculated 66 = .ok (.iload_n 1, 1) := by decide +kernel
theorem dX3_calculated_67 : decode cX3_calculated 67 = .ok (.iload_n 2, 1) := by decide +kernel
theorem dX3_calculated_68 : decode cX3_calculated 68 = .ok (.isub, 1) := by decide +kernel
theorem dX3_calculated_69 : decode cX3_calculated 69 = .ok (.goto 48, 3) := by decide +kernel
theorem dX3_calculated_72 : decode cX3_calculated 72 = .ok (.iload_n 1, 1) := by decide +kernel
theorem dX3_calculated_73 : decode cX3_calculated 73 = .ok (.iload_n 2, 1) := by decide +kernel
theorem dX3_calculated_74 : decode cX3_calculated 74 = .ok (.imul, 1) := by decide +kernel
theorem dX3_calculated_75 : decode cX3_calculated 75 = .ok (.goto 42, 3) := by decide +kernel
theorem dX3_calculated_78 : decode cX3_calculated 78 = .ok (.iload_n 1, 1) := by decide +kernel
theorem dX3_calculated_79 : decode cX3_calculated 79 = .ok (.iload_n 2, 1) := by decide +kernel
theorem dX3_calculated_80 : decode cX3_calculated 80 = .ok (.idiv, 1) := by decide +kernel
theorem dX3_calculated_81 : decode cX3_calculated 81 = .ok (.goto 36, 3) := by decide +kernel
theorem dX3_calculated_84 : decode cX3_calculated 84 = .ok (.iload_n 1, 1) := by decide +kernel
theorem dX3_calculated_85 : decode cX3_calculated 85 = .ok (.iload_n 2, 1) := by decide +kernel
theorem dX3_calculated_86 : decode cX3_calculated 86 = .ok (.irem, 1) := by decide +kernel
theorem dX3_calculated_87 : decode cX3_calculated 87 = .ok (.goto 30, 3) := by decide +kernel
theorem dX3_calculated_90 : decode cX3_calculated 90 = .ok (.iload_n 1, 1) := by decide +kernel
theorem dX3_calculated_91 : decode cX3_calculated 91 = .ok (.iload_n 2, 1) := by decide +kernel
theorem dX3_calculated_92 : decode cX3_calculated 92 = .ok (.if_icmp .ge 7, 3) := by decide +kernel
theorem dX3_calculated_95 : decode cX3_calculated 95 = .ok (.iconst 1, 1) := by decide +kernel
theorem dX3_calculated_96 : decode cX3_calculated 96 = .ok (.goto 21, 3) := by decide +kernel
theorem dX3_calculated_99 : decode cX3_calculated 99 = .ok (.iconst 0, 1) := by decide +kernel
theorem dX3_calculated_100 : decode cX3_calculated 100 = .ok (.goto 17, 3) := by decide +kernel
theorem dX3_calculated_103 : decode cX3_calculated 103 = .ok (.iload_n 1, 1) := by decide +kernel
theorem dX3_calculated_104 : decode cX3_calculated 104 = .ok (.iload_n 2, 1) := by decide +kernel
theorem dX3_calculated_105 : decode cX3_calculated 105 = .ok (.if_icmp .ne 7, 3) := by decide +kernel
theorem dX3_calculated_108 : decode cX3_calculated 108 = .ok (.iconst 1, 1) := by decide +kernel
theorem dX3_calculated_109 : decode cX3_calculated 109 = .ok (.goto 8, 3) := by decide +kernel
theorem dX3_calculated_112 : decode cX3_calculated 112 = .ok (.iconst 0, 1) := by decide +kernel
theorem dX3_calculated_113 : decode cX3_calculated 113 = .ok (.goto 4, 3) := by decide +kernel
theorem dX3_calculated_116 : decode cX3_calculated 116 = .ok (.iload_n 1, 1) := by decide +kernel
theorem dX3_calculated_117 : decode cX3_calculated 117 = .ok (.ireturn, 1) := by decide +kernel
set_option maxRecDepth 20000 in
theorem ggX3_go_X1_isOpen : GoodIn wsX3_go wsX1_isOpen := goodIn_r _ [10, 11, 12, 13, 37, 38, 39, 40, 41, 42] (by decide +kernel) (by decide +kernel)
set_option maxRecDepth 20000 in
theorem gX3_go_X1_isOpen : GoodIn wsX3_go (wsV RX3 49 RX1 yX1_isOpen wsX1_isOpen) := goodIn_app (goodIn_of _ (by decide +kernel)) ggX3_go_X1_isOpen
set_option maxRecDepth 20000 in
theorem ggX3_go_X3_robotOn : GoodIn wsX3_go wsX3_robotOn := goodIn_r _ [18, 19, 20, 1, 3, 33, 34, 35, 36, 21, 22, 23, 24, 25, 26, 27, 28, 29, 30, 31, 32] (by decide +kernel) (by decide +kernel)
set_option maxRecDepth 20000 in
theorem gX3_go_X3_robotOn : GoodIn wsX3_go (wsV RX3 38 RX3 yX3_robotOn wsX3_robotOn) := goodIn_app (goodIn_of _ (by decide +kernel)) ggX3_go_X3_robotOn
theorem dX3_go_0 : decode cX3_go 0 = .ok (.aload_n 1, 1) := by decide +kernel
theorem dX3_go_1 : decode cX3_go 1 = .ok (.getfield 98, 3) := by decide +kernel
theorem dX3_go_4 : decode cX3_go 4 = .ok (.getstatic 182, 3) := by decide +kernel
theorem dX3_go_7 : decode cX3_go 7 = .ok (.iload_n 2, 1) := by decide +kernel
theorem dX3_go_8 : decode cX3_go 8 = .ok (.iaload, 1) := by decide +kernel
theorem dX3_go_9 : decode cX3_go 9 = .ok (.iadd, 1) := by decide +kernel
theorem dX3_go_10 : decode cX3_go 10 = .ok (.istore_n 3, 1) := by decide +kernel
theorem dX3_go_11 : decode cX3_go 11 = .ok (.aload_n 1, 1) := by decide +kernel
theorem dX3_go_12 : decode cX3_go 12 = .ok (.getfield 101, 3) := by decide +kernel
theorem dX3_go_15 : decode cX3_go 15 = .ok (.getstatic 185, 3) := by decide +kernel
theorem dX3_go_18 : decode cX3_go 18 = .ok (.iload_n 2, 1) := by decide +kernel
theorem dX3_go_19 : decode cX3_go 19 = .ok (.iaload, 1) := by decide +kernel
theorem dX3_go_20 : decode cX3_go 20 = .ok (.iadd, 1) := by decide +kernel
theorem dX3_go_21 : decode cX3_go 21 = .ok (.istore 4, 2) := by decide +kernel
theorem dX3_go_23 : decode cX3_go 23 = .ok (.aload_n 0, 1) := by decide +kernel
theorem dX3_go_24 : decode cX3_go 24 = .ok (.getfield 18, 3) := by decide +kernel
theorem dX3_go_27 : decode cX3_go 27 = .ok (.iload_n 3, 1) := by decide +kernel
theorem dX3_go_28 : decode cX3_go 28 = .ok (.iload 4, 2) := by decide +kernel
theorem dX3_go_30 : decode cX3_go 30 = .ok (.invokevirtual 49, 3) := by decide +kernel
theorem dX3_go_33 : decode cX3_go 33 = .ok (.ifCond .ne 5, 3) := by decide +kernel
theorem dX3_go_36 : decode cX3_go 36 = .ok (.iconst 0, 1) := by decide +kernel
theorem dX3_go_37 : decode cX3_go 37 = .ok (.ireturn, 1) := by decide +kernel
theorem dX3_go_38 : decode cX3_go 38 = .ok (.aload_n 0, 1) := by decide +kernel
theorem dX3_go_39 : decode cX3_go 39 = .ok (.iload_n 3, 1) := by decide +kernel
theorem dX3_go_40 : decode cX3_go 40 = .ok (.iload 4, 2) := by decide +kernel
theorem dX3_go_42 : decode cX3_go 42 = .ok (.invokevirtual 38, 3) := by decide +kernel
theorem dX3_go_45 : decode cX3_go 45 = .ok (.ifnull 5, 3) := by decide +kernel
theorem dX3_go_48 : decode cX3_go 48 = .ok (.iconst 2, 1) := by decide +kernel
theorem dX3_go_49 : decode cX3_go 49 = .ok (.ireturn, 1) := by decide +kernel
theorem dX3_go_50 : decode cX3_go 50 = .ok (.aload_n 1, 1) := by decide +kernel
theorem dX3_go_51 : decode cX3_go 51 = .ok (.iload_n 3, 1) := by decide +kernel
theorem dX3_go_52 : decode cX3_go 52 = .ok (.putfield 98, 3) := by decide +kernel
theorem dX3_go_55 : decode cX3_go 55 = .ok (.aload_n 1, 1) := by decide +kernel
theorem dX3_go_56 : decode cX3_go 56 = .ok (.iload 4, 2) := by decide +kernel
theorem dX3_go_58 : decode cX3_go 58 = .ok (.putfield 101, 3) := by decide +kernel
theorem dX3_go_61 : decode cX3_go 61 = .ok (.iconst 1, 1) := by decide +kernel
theorem dX3_go_62 : decode cX3_go 62 = .ok (.ireturn, 1) := by decide +kernel
set_option maxRecDepth 20000 in
theorem ggX3_look_X3_at_k0 : GoodIn wsX3_look ((wsX3_at.drop 0).take 20) := goodIn_r _ [9, 10, 11, 12, 13, 14, 8, 15, 16, 17, 1, 3, 18, 19, 20, 21, 22, 23, 24, 25] (by decide +kernel) (by decide +kernel)
set_option maxRecDepth 20000 in
theorem ggX3_look_X3_at_k1 : GoodIn wsX3_look ((wsX3_at.drop 20).take 20) := goodIn_r _ [26, 27, 28, 29, 42, 43, 44, 45, 30, 31, 32, 33, 34, 35, 36, 37, 38, 39, 40, 41] (by decide +kernel) (by decide +kernel)
set_option maxRecDepth 20000 in
theorem ggX3_look_X3_at_k2 : GoodIn wsX3_look (wsX3_at.drop 40) := goodIn_r _ [46, 47, 48, 49, 50, 51] (by decide +kernel) (by decide +kernel)
set_option maxRecDepth 20000 in
theorem ggX3_look_X3_at : GoodIn wsX3_look wsX3_at := (goodIn_spl (a := 0) (b := 20) ggX3_look_X3_at_k0 (goodIn_spl (a := 20) (b := 20) ggX3_look_X3_at_k1 ggX3_look_X3_at_k2))
set_option maxRecDepth 20000 in
theorem gX3_look_X3_at : GoodIn wsX3_look (wsV RX3 188 RX3 yX3_at wsX3_at) := goodIn_app (goodIn_of _ (by decide +kernel)) ggX3_look_X3_at
theorem dX3_look_0 : decode cX3_look 0 = .ok (.aload_n 0, 1) := by decide +kernel
theorem dX3_look_1 : decode cX3_look 1 = .ok (.aload_n 1, 1) := by decide +kernel
theorem dX3_look_2 : decode cX3_look 2 = .ok (.getfield 98, 3) := by decide +kernel
theorem dX3_look_5 : decode cX3_look 5 = .ok (.getstatic 182, 3) := by decide +kernel
theorem dX3_look_8 : decode cX3_look 8 = .ok (.iload_n 2, 1) := by decide +kernel
theorem dX3_look_9 : decode cX3_look 9 = .ok (.iaload, 1) := by decide +kernel
theorem dX3_look_10 : decode cX3_look 10 = .ok (.iadd, 1) := by decide +kernel
theorem dX3_look_11 : decode cX3_look 11 = .ok (.aload_n 1, 1) := by decide +kernel
theorem dX3_look_12 : decode cX3_look 12 = .ok (.getfield 101, 3) := by decide +kernel
theorem dX3_look_15 : decode cX3_look 15 = .ok (.getstatic 185, 3) := by decide +kernel
theorem dX3_look_18 : decode cX3_look 18 = .ok (.iload_n 2, 1) := by decide +kernel
theorem dX3_look_19 : decode cX3_look 19 = .ok (.iaload, 1) := by decide +kernel
theorem dX3_look_20 : decode cX3_look 20 = .ok (.iadd, 1) := by decide +kernel
theorem dX3_look_21 : decode cX3_look 21 = .ok (.invokevirtual 188, 3) := by decide +kernel
theorem dX3_look_24 : decode cX3_look 24 = .ok (.ireturn, 1) := by decide +kernel
set_option maxRecDepth 20000 in
theorem ggX3_take_X1_removeItem : GoodIn wsX3_take wsX1_removeItem := goodIn_r _ [9, 10, 11, 12, 13, 14, 8, 15, 16, 33, 34, 35, 36, 37, 38] (by decide +kernel) (by decide +kernel)
set_option maxRecDepth 20000 in
theorem gX3_take_X1_removeItem : GoodIn wsX3_take (wsV RX3 191 RX1 yX1_removeItem wsX1_removeItem) := goodIn_app (goodIn_of _ (by decide +kernel)) ggX3_take_X1_removeItem
theorem dX3_take_0 : decode cX3_take 0 = .ok (.aload_n 1, 1) := by decide +kernel
theorem dX3_take_1 : decode cX3_take 1 = .ok (.getfield 95, 3) := by decide +kernel
theorem dX3_take_4 : decode cX3_take 4 = .ok (.bipush 9, 2) := by decide +kernel
theorem dX3_take_6 : decode cX3_take 6 = .ok (.if_icmp .ge 21, 3) := by decide +kernel
theorem dX3_take_9 : decode cX3_take 9 = .ok (.aload_n 0, 1) := by decide +kernel
theorem dX3_take_10 : decode cX3_take 10 = .ok (.getfield 18, 3) := by decide +kernel
theorem dX3_take_13 : decode cX3_take 13 = .ok (.aload_n 1, 1) := by decide +kernel
theorem dX3_take_14 : decode cX3_take 14 = .ok (.getfield 98, 3) := by decide +kernel
theorem dX3_take_17 : decode cX3_take 17 = .ok (.aload_n 1, 1) := by decide +kernel
theorem dX3_take_18 : decode cX3_take 18 = .ok (.getfield 101, 3) := by decide +kernel
theorem dX3_take_21 : decode cX3_take 21 = .ok (.invokevirtual 191, 3) := by decide +kernel
theorem dX3_take_24 : decode cX3_take 24 = .ok (.ifCond .ne 5, 3) := by decide +kernel
theorem dX3_take_27 : decode cX3_take 27 = .ok (.iconst 0, 1) := by decide +kernel
theorem dX3_take_28 : decode cX3_take 28 = .ok (.ireturn, 1) := by decide +kernel
theorem dX3_take_29 : decode cX3_take 29 = .ok (.aload_n 1, 1) := by decide +kernel
theorem dX3_take_30 : decode cX3_take 30 = .ok (.dup, 1) := by decide +kernel
theorem dX3_take_31 : decode cX3_take 31 = .ok (.getfield 95, 3) := by decide +kernel
theorem dX3_take_34 : decode cX3_take 34 = .ok (.iconst 1, 1) := by decide +kernel
theorem dX3_take_35 : decode cX3_take 35 = .ok (.iadd, 1) := by decide +kernel
theorem dX3_take_36 : decode cX3_take 36 = .ok (.putfield 95, 3) := by decide +kernel
theorem dX3_take_39 : decode cX3_take 39 = .ok (.iconst 1, 1) := by decide +kernel
theorem dX3_take_40 : decode cX3_take 40 = .ok (.ireturn, 1) := by decide +kernel
set_option maxRecDepth 20000 in
theorem ggX3_lay_X1_addItem : GoodIn wsX3_lay wsX1_addItem := goodIn_r _ [9, 10, 11, 12, 13, 14, 8, 15, 16, 33, 34, 35, 36, 37, 38] (by decide +kernel) (by decide +kernel)
set_option maxRecDepth 20000 in
theorem gX3_lay_X1_addItem : GoodIn wsX3_lay (wsV RX3 46 RX1 yX1_addItem wsX1_addItem) := goodIn_app (goodIn_of _ (by decide +kernel)) ggX3_lay_X1_addItem
theorem dX3_lay_0 : decode cX3_lay 0 = .ok (.aload_n 1, 1) := by decide +kernel
theorem dX3_lay_1 : decode cX3_lay 1 = .ok (.getfield 95, 3) := by decide +kernel
theorem dX3_lay_4 : decode cX3_lay 4 = .ok (.ifCond .le 21, 3) := by decide +kernel
theorem dX3_lay_7 : decode cX3_lay 7 = .ok (.aload_n 0, 1) := by decide +kernel
theorem dX3_lay_8 : decode cX3_lay 8 = .ok (.getfield 18, 3) := by decide +kernel
theorem dX3_lay_11 : decode cX3_lay 11 = .ok (.aload_n 1, 1) := by decide +kernel
theorem dX3_lay_12 : decode cX3_lay 12 = .ok (.getfield 98, 3) := by decide +kernel
theorem dX3_lay_15 : decode cX3_lay 15 = .ok (.aload_n 1, 1) := by decide +kernel
theorem dX3_lay_16 : decode cX3_lay 16 = .ok (.getfield 101, 3) := by decide +kernel
theorem dX3_lay_19 : decode cX3_lay 19 = .ok (.invokevirtual 46, 3) := by decide +kernel
theorem dX3_lay_22 : decode cX3_lay 22 = .ok (.ifCond .ne 5, 3) := by decide +kernel
theorem dX3_lay_25 : decode cX3_lay 25 = .ok (.iconst 0, 1) := by decide +kernel
theorem dX3_lay_26 : decode cX3_lay 26 = .ok (.ireturn, 1) := by decide +kernel
theorem dX3_lay_27 : decode cX3_lay 27 = .ok (.aload_n 1, 1) := by decide +kernel
theorem dX3_lay_28 : decode cX3_lay 28 = .ok (.dup, 1) := by decide +kernel
theorem dX3_lay_29 : decode cX3_lay 29 = .ok (.getfield 95, 3) := by decide +kernel
theorem dX3_lay_32 : decode cX3_lay 32 = .ok (.iconst 1, 1) := by decide +kernel
theorem dX3_lay_33 : decode cX3_lay 33 = .ok (.isub, 1) := by decide +kernel
theorem dX3_lay_34 : decode cX3_lay 34 = .ok (.putfield 95, 3) := by decide +kernel
theorem dX3_lay_37 : decode cX3_lay 37 = .ok (.iconst 1, 1) := by decide +kernel
theorem dX3_lay_38 : decode cX3_lay 38 = .ok (.ireturn, 1) := by decide +kernel
set_option maxRecDepth 20000 in
theorem ggX3_send_X3_robotOf : GoodIn wsX3_send wsX3_robotOf := goodIn_r _ [7, 8, 2, 9, 10, 11, 6, 12, 38, 39, 40, 41, 26, 27, 28, 29, 30, 31, 32, 33, 34, 35, 36, 37] (by decide +kernel) (by decide +kernel)
set_option maxRecDepth 20000 in
theorem gX3_send_X3_robotOf : GoodIn wsX3_send (wsV RX3 59 RX3 yX3_robotOf wsX3_robotOf) := goodIn_app (goodIn_of _ (by decide +kernel)) ggX3_send_X3_robotOf
set_option maxRecDepth 20000 in
theorem ggX3_send_X2_takesMail : GoodIn wsX3_send wsX2_takesMail := goodIn_r _ [17, 18, 26, 27, 28, 29, 30, 31, 32, 33, 34, 35, 36, 37] (by decide +kernel) (by decide +kernel)
set_option maxRecDepth 20000 in
theorem gX3_send_X2_takesMail : GoodIn wsX3_send (wsV RX3 194 RX2 yX2_takesMail wsX2_takesMail) := goodIn_app (goodIn_of _ (by decide +kernel)) ggX3_send_X2_takesMail
set_option maxRecDepth 20000 in
theorem ggX3_send_X0_add : GoodIn wsX3_send wsX0_add := goodIn_r _ [23, 24, 25, 42, 43] (by decide +kernel) (by decide +kernel)
set_option maxRecDepth 20000 in
theorem gX3_send_X0_add : GoodIn wsX3_send (wsV RX3 201 RX0 yX0_add wsX0_add) := goodIn_app (goodIn_of _ (by decide +kernel)) ggX3_send_X0_add
theorem dX3_send_0 : decode cX3_send 0 = .ok (.aload_n 0, 1) := by decide +kernel
theorem dX3_send_1 : decode cX3_send 1 = .ok (.iload_n 1, 1) := by decide +kernel
theorem dX3_send_2 : decode cX3_send 2 = .ok (.invokevirtual 59, 3) := by decide +kernel
theorem dX3_send_5 : decode cX3_send 5 = .ok (.astore_n 3, 1) := by decide +kernel
theorem dX3_send_6 : decode cX3_send 6 = .ok (.aload_n 3, 1) := by decide +kernel
theorem dX3_send_7 : decode cX3_send 7 = .ok (.ifnull 21, 3) := by decide +kernel
theorem dX3_send_10 : decode cX3_send 10 = .ok (.aload_n 3, 1) := by decide +kernel
theorem dX3_send_11 : decode cX3_send 11 = .ok (.invokevirtual 194, 3) := by decide +kernel
theorem dX3_send_14 : decode cX3_send 14 = .ok (.ifCond .eq 14, 3) := by decide +kernel
theorem dX3_send_17 : decode cX3_send 17 = .ok (.aload_n 3, 1) := by decide +kernel
theorem dX3_send_18 : decode cX3_send 18 = .ok (.getfield 197, 3) := by decide +kernel
theorem dX3_send_21 : decode cX3_send 21 = .ok (.iload_n 2, 1) := by decide +kernel
theorem dX3_send_22 : decode cX3_send 22 = .ok (.invokevirtual 201, 3) := by decide +kernel
theorem dX3_send_25 : decode cX3_send 25 = .ok (.ifCond .ne 5, 3) := by decide +kernel
theorem dX3_send_28 : decode cX3_send 28 = .ok (.iconst 0, 1) := by decide +kernel
theorem dX3_send_29 : decode cX3_send 29 = .ok (.ireturn, 1) := by decide +kernel
theorem dX3_send_30 : decode cX3_send 30 = .ok (.aload_n 3, 1) := by decide +kernel
theorem dX3_send_31 : decode cX3_send 31 = .ok (.getfield 52, 3) := by decide +kernel
theorem dX3_send_34 : decode cX3_send 34 = .ok (.iconst 4, 1) := by decide +kernel
theorem dX3_send_35 : decode cX3_send 35 = .ok (.if_icmp .ne 8, 3) := by decide +kernel
theorem dX3_send_38 : decode cX3_send 38 = .ok (.aload_n 3, 1) := by decide +kernel
theorem dX3_send_39 : decode cX3_send 39 = .ok (.iconst 2, 1) := by decide +kernel
theorem dX3_send_40 : decode cX3_send 40 = .ok (.putfield 52, 3) := by decide +kernel
theorem dX3_send_43 : decode cX3_send 43 = .ok (.iconst 1, 1) := by decide +kernel
theorem dX3_send_44 : decode cX3_send 44 = .ok (.ireturn, 1) := by decide +kernel
set_option maxRecDepth 20000 in
theorem ggX3_receive_X0_removeFirst : GoodIn wsX3_receive wsX0_removeFirst := goodIn_r _ [9, 10, 11, 12, 13, 14, 15, 28, 29] (by decide +kernel) (by decide +kernel)
set_option maxRecDepth 20000 in
theorem gX3_receive_X0_removeFirst : GoodIn wsX3_receive (wsV RX3 209 RX0 yX0_removeFirst wsX0_removeFirst) := goodIn_app (goodIn_of _ (by decide +kernel)) ggX3_receive_X0_removeFirst
theorem dX3_receive_0 : decode cX3_receive 0 = .ok (.aload_n 0, 1) := by decide +kernel
theorem dX3_receive_1 : decode cX3_receive 1 = .ok (.getfield 197, 3) := by decide +kernel
theorem dX3_receive_4 : decode cX3_receive 4 = .ok (.getfield 206, 3) := by decide +kernel
theorem dX3_receive_7 : decode cX3_receive 7 = .ok (.ifCond .ne 10, 3) := by decide +kernel
theorem dX3_receive_10 : decode cX3_receive 10 = .ok (.aload_n 0, 1) := by decide +kernel
theorem dX3_receive_11 : decode cX3_receive 11 = .ok (.iconst 4, 1) := by decide +kernel
theorem dX3_receive_12 : decode cX3_receive 12 = .ok (.putfield 52, 3) := by decide +kernel
theorem dX3_receive_15 : decode cX3_receive 15 = .ok (.iconst 0, 1) := by decide +kernel
theorem dX3_receive_16 : decode cX3_receive 16 = .ok (.ireturn, 1) := by decide +kernel
theorem dX3_receive_17 : decode cX3_receive 17 = .ok (.aload_n 0, 1) := by decide +kernel
theorem dX3_receive_18 : decode cX3_receive 18 = .ok (.getfield 136, 3) := by decide +kernel
theorem dX3_receive_21 : decode cX3_receive 21 = .ok (.iload_n 1, 1) := by decide +kernel
theorem dX3_receive_22 : decode cX3_receive 22 = .ok (.aload_n 0, 1) := by decide +kernel
theorem dX3_receive_23 : decode cX3_receive 23 = .ok (.getfield 197, 3) := by decide +kernel
theorem dX3_receive_26 : decode cX3_receive 26 = .ok (.invokevirtual 209, 3) := by decide +kernel
theorem dX3_receive_29 : decode cX3_receive 29 = .ok (.iastore, 1) := by decide +kernel
theorem dX3_receive_30 : decode cX3_receive 30 = .ok (.iconst 1, 1) := by decide +kernel
theorem dX3_receive_31 : decode cX3_receive 31 = .ok (.ireturn, 1) := by decide +kernel
end
section
set_option maxRecDepth 20000 in
theorem ggX4_init_X4_near : GoodIn wsX4_init wsX4_near := goodIn_r _ [29] (by decide +kernel) (by decide +kernel)
set_option maxRecDepth 20000 in
theorem gX4_init_X4_near : GoodIn wsX4_init (va_wsS RX4 56 yX4_near wsX4_near) := goodIn_app (goodIn_of _ (by decide +kernel)) ggX4_init_X4_near
set_option maxRecDepth 20000 in
theorem ggX4_init_X4_init_ : GoodIn wsX4_init wsX4_init_ := goodIn_r _ [33, 5, 7, 8, 23, 34, 35, 36, 37, 38, 39, 40, 41, 42, 43, 44, 45, 46, 47, 48, 49, 50, 51, 52, 53, 54, 55, 56, 57] (by decide +kernel) (by decide +kernel)
set_option maxRecDepth 20000 in
theorem gX4_init_X4_init_ : GoodIn wsX4_init (wsV RX4 76 RX4 yX4_init_ wsX4_init_) := goodIn_app (goodIn_of _ (by decide +kernel)) ggX4_init_X4_init_
theorem dX4_init_0 : decode cX4_init 0 = .ok (.aload_n 0, 1) := by decide +kernel
theorem dX4_init_1 : decode cX4_init 1 = .ok (.invokespecial 1, 3) := by decide +kernel
theorem dX4_init_4 : decode cX4_init 4 = .ok (.aload_n 0, 1) := by decide +kernel
theorem dX4_init_5 : decode cX4_init 5 = .ok (.sipush 1024, 3) := by decide +kernel
theorem dX4_init_8 : decode cX4_init 8 = .ok (.newarray .boolean, 2) := by decide +kernel
theorem dX4_init_10 : decode cX4_init 10 = .ok (.putfield 7, 3) := by decide +kernel
theorem dX4_init_13 : decode cX4_init 13 = .ok (.aload_n 0, 1) := by decide +kernel
theorem dX4_init_14 : decode cX4_init 14 = .ok (.sipush 1024, 3) := by decide +kernel
theorem dX4_init_17 : decode cX4_init 17 = .ok (.newarray .int, 2) := by decide +kernel
theorem dX4_init_19 : decode cX4_init 19 = .ok (.putfield 13, 3) := by decide +kernel
theorem dX4_init_22 : decode cX4_init 22 = .ok (.aload_n 0, 1) := by decide +kernel
theorem dX4_init_23 : decode cX4_init 23 = .ok (.bipush 8, 2) := by decide +kernel
theorem dX4_init_25 : decode cX4_init 25 = .ok (.newarray .int, 2) := by decide +kernel
theorem dX4_init_27 : decode cX4_init 27 = .ok (.putfield 17, 3) := by decide +kernel
theorem dX4_init_30 : decode cX4_init 30 = .ok (.aload_n 0, 1) := by decide +kernel
theorem dX4_init_31 : decode cX4_init 31 = .ok (.bipush 8, 2) := by decide +kernel
theorem dX4_init_33 : decode cX4_init 33 = .ok (.newarray .int, 2) := by decide +kernel
theorem dX4_init_35 : decode cX4_init 35 = .ok (.putfield 20, 3) := by decide +kernel
theorem dX4_init_38 : decode cX4_init 38 = .ok (.aload_n 0, 1) := by decide +kernel
theorem dX4_init_39 : decode cX4_init 39 = .ok (.bipush 8, 2) := by decide +kernel
theorem dX4_init_41 : decode cX4_init 41 = .ok (.newarray .int, 2) := by decide +kernel
theorem dX4_init_43 : decode cX4_init 43 = .ok (.putfield 23, 3) := by decide +kernel
theorem dX4_init_46 : decode cX4_init 46 = .ok (.aload_n 0, 1) := by decide +kernel
theorem dX4_init_47 : decode cX4_init 47 = .ok (.sipush 800, 3) := by decide +kernel
theorem dX4_init_50 : decode cX4_init 50 = .ok (.newarray .int, 2) := by decide +kernel
theorem dX4_init_52 : decode cX4_init 52 = .ok (.putfield 26, 3) := by decide +kernel
theorem dX4_init_55 : decode cX4_init 55 = .ok (.aload_n 0, 1) := by decide +kernel
theorem dX4_init_56 : decode cX4_init 56 = .ok (.bipush 8, 2) := by decide +kernel
theorem dX4_init_58 : decode cX4_init 58 = .ok (.newarray .int, 2) := by decide +kernel
theorem dX4_init_60 : decode cX4_init 60 = .ok (.putfield 29, 3) := by decide +kernel
theorem dX4_init_63 : decode cX4_init 63 = .ok (.aload_n 0, 1) := by decide +kernel
theorem dX4_init_64 : decode cX4_init 64 = .ok (.bipush 64, 2) := by decide +kernel
theorem dX4_init_66 : decode cX4_init 66 = .ok (.newarray .int, 2) := by decide +kernel
theorem dX4_init_68 : decode cX4_init 68 = .ok (.putfield 32, 3) := by decide +kernel
theorem dX4_init_71 : decode cX4_init 71 = .ok (.aload_n 0, 1) := by decide +kernel
theorem dX4_init_72 : decode cX4_init 72 = .ok (.bipush 8, 2) := by decide +kernel
theorem dX4_init_74 : decode cX4_init 74 = .ok (.newarray .int, 2) := by decide +kernel
theorem dX4_init_76 : decode cX4_init 76 = .ok (.putfield 35, 3) := by decide +kernel
theorem dX4_init_79 : decode cX4_init 79 = .ok (.aload_n 0, 1) := by decide +kernel
theorem dX4_init_80 : decode cX4_init 80 = .ok (.bipush 8, 2) := by decide +kernel
theorem dX4_init_82 : decode cX4_init 82 = .ok (.newarray .int, 2) := by decide +kernel
theorem dX4_init_84 : decode cX4_init 84 = .ok (.putfield 38, 3) := by decide +kernel
theorem dX4_init_87 : decode cX4_init 87 = .ok (.aload_n 0, 1) := by decide +kernel
theorem dX4_init_88 : decode cX4_init 88 = .ok (.sipush 128, 3) := by decide +kernel
theorem dX4_init_91 : decode cX4_init 91 = .ok (.newarray .int, 2) := by decide +kernel
theorem dX4_init_93 : decode cX4_init 93 = .ok (.putfield 41, 3) := by decide +kernel
theorem dX4_init_96 : decode cX4_init 96 = .ok (.aload_n 0, 1) := by decide +kernel
theorem dX4_init_97 : decode cX4_init 97 = .ok (.bipush 8, 2) := by decide +kernel
theorem dX4_init_99 : decode cX4_init 99 = .ok (.newarray .int, 2) := by decide +kernel
theorem dX4_init_101 : decode cX4_init 101 = .ok (.putfield 44, 3) := by decide +kernel
theorem dX4_init_104 : decode cX4_init 104 = .ok (.aload_n 0, 1) := by decide +kernel
theorem dX4_init_105 : decode cX4_init 105 = .ok (.bipush 8, 2) := by decide +kernel
theorem dX4_init_107 : decode cX4_init 107 = .ok (.newarray .int, 2) := by decide +kernel
theorem dX4_init_109 : decode cX4_init 109 = .ok (.putfield 47, 3) := by decide +kernel
theorem dX4_init_112 : decode cX4_init 112 = .ok (.aload_n 0, 1) := by decide +kernel
theorem dX4_init_113 : decode cX4_init 113 = .ok (.bipush 8, 2) := by decide +kernel
theorem dX4_init_115 : decode cX4_init 115 = .ok (.newarray .int, 2) := by decide +kernel
theorem dX4_init_117 : decode cX4_init 117 = .ok (.putfield 50, 3) := by decide +kernel
theorem dX4_init_120 : decode cX4_init 120 = .ok (.aload_n 0, 1) := by decide +kernel
theorem dX4_init_121 : decode cX4_init 121 = .ok (.sipush 1024, 3) := by decide +kernel
theorem dX4_init_124 : decode cX4_init 124 = .ok (.newarray .int, 2) := by decide +kernel
theorem dX4_init_126 : decode cX4_init 126 = .ok (.putfield 53, 3) := by decide +kernel
theorem dX4_init_129 : decode cX4_init 129 = .ok (.aload_n 0, 1) := by decide +kernel
theorem dX4_init_130 : decode cX4_init 130 = .ok (.iload_n 1, 1) := by decide +kernel
theorem dX4_init_131 : decode cX4_init 131 = .ok (.iconst 1, 1) := by decide +kernel
theorem dX4_init_132 : decode cX4_init 132 = .ok (.bipush 32, 2) := by decide +kernel
theorem dX4_init_134 : decode cX4_init 134 = .ok (.invokestatic 56, 3) := by decide +kernel
theorem dX4_init_137 : decode cX4_init 137 = .ok (.putfield 60, 3) := by decide +kernel
theorem dX4_init_140 : decode cX4_init 140 = .ok (.aload_n 0, 1) := by decide +kernel
theorem dX4_init_141 : decode cX4_init 141 = .ok (.iload_n 2, 1) := by decide +kernel
theorem dX4_init_142 : decode cX4_init 142 = .ok (.iconst 1, 1) := by decide +kernel
theorem dX4_init_143 : decode cX4_init 143 = .ok (.bipush 32, 2) := by decide +kernel
theorem dX4_init_145 : decode cX4_init 145 = .ok (.invokestatic 56, 3) := by decide +kernel
theorem dX4_init_148 : decode cX4_init 148 = .ok (.putfield 64, 3) := by decide +kernel
theorem dX4_init_151 : decode cX4_init 151 = .ok (.aload_n 0, 1) := by decide +kernel
theorem dX4_init_152 : decode cX4_init 152 = .ok (.iload_n 3, 1) := by decide +kernel
theorem dX4_init_153 : decode cX4_init 153 = .ok (.iconst 1, 1) := by decide +kernel
theorem dX4_init_154 : decode cX4_init 154 = .ok (.bipush 8, 2) := by decide +kernel
theorem dX4_init_156 : decode cX4_init 156 = .ok (.invokestatic 56, 3) := by decide +kernel
theorem dX4_init_159 : decode cX4_init 159 = .ok (.putfield 67, 3) := by decide +kernel
theorem dX4_init_162 : decode cX4_init 162 = .ok (.aload_n 0, 1) := by decide +kernel
theorem dX4_init_163 : decode cX4_init 163 = .ok (.iload 4, 2) := by decide +kernel
theorem dX4_init_165 : decode cX4_init 165 = .ok (.iconst 1, 1) := by decide +kernel
theorem dX4_init_166 : decode cX4_init 166 = .ok (.bipush 100, 2) := by decide +kernel
theorem dX4_init_168 : decode cX4_init 168 = .ok (.invokestatic 56, 3) := by decide +kernel
theorem dX4_init_171 : decode cX4_init 171 = .ok (.putfield 70, 3) := by decide +kernel
theorem dX4_init_174 : decode cX4_init 174 = .ok (.aload_n 0, 1) := by decide +kernel
theorem dX4_init_175 : decode cX4_init 175 = .ok (.iload 5, 2) := by decide +kernel
theorem dX4_init_177 : decode cX4_init 177 = .ok (.iconst 1, 1) := by decide +kernel
theorem dX4_init_178 : decode cX4_init 178 = .ok (.bipush 16, 2) := by decide +kernel
theorem dX4_init_180 : decode cX4_init 180 = .ok (.invokestatic 56, 3) := by decide +kernel
theorem dX4_init_183 : decode cX4_init 183 = .ok (.putfield 73, 3) := by decide +kernel
theorem dX4_init_186 : decode cX4_init 186 = .ok (.aload_n 0, 1) := by decide +kernel
theorem dX4_init_187 : decode cX4_init 187 = .ok (.invokevirtual 76, 3) := by decide +kernel
theorem dX4_init_190 : decode cX4_init 190 = .ok (.return_, 1) := by decide +kernel
theorem dX4_near_0 : decode cX4_near 0 = .ok (.iload_n 0, 1) := by decide +kernel
theorem dX4_near_1 : decode cX4_near 1 = .ok (.iload_n 1, 1) := by decide +kernel
theorem dX4_near_2 : decode cX4_near 2 = .ok (.if_icmp .ge 7, 3) := by decide +kernel
theorem dX4_near_5 : decode cX4_near 5 = .ok (.iload_n 1, 1) := by decide +kernel
theorem dX4_near_6 : decode cX4_near 6 = .ok (.goto 13, 3) := by decide +kernel
theorem dX4_near_9 : decode cX4_near 9 = .ok (.iload_n 0, 1) := by decide +kernel
theorem dX4_near_10 : decode cX4_near 10 = .ok (.iload_n 2, 1) := by decide +kernel
theorem dX4_near_11 : decode cX4_near 11 = .ok (.if_icmp .le 7, 3) := by decide +kernel
theorem dX4_near_14 : decode cX4_near 14 = .ok (.iload_n 2, 1) := by decide +kernel
theorem dX4_near_15 : decode cX4_near 15 = .ok (.goto 4, 3) := by decide +kernel
theorem dX4_near_18 : decode cX4_near 18 = .ok (.iload_n 0, 1) := by decide +kernel
theorem dX4_near_19 : decode cX4_near 19 = .ok (.ireturn, 1) := by decide +kernel
theorem dX4_in_0 : decode cX4_in 0 = .ok (.iload_n 0, 1) := by decide +kernel
theorem dX4_in_1 : decode cX4_in 1 = .ok (.iload_n 1, 1) := by decide +kernel
theorem dX4_in_2 : decode cX4_in 2 = .ok (.if_icmp .lt 12, 3) := by decide +kernel
theorem dX4_in_5 : decode cX4_in 5 = .ok (.iload_n 0, 1) := by decide +kernel
theorem dX4_in_6 : decode cX4_in 6 = .ok (.iload_n 2, 1) := by decide +kernel
theorem dX4_in_7 : decode cX4_in 7 = .ok (.if_icmp .gt 7, 3) := by decide +kernel
theorem dX4_in_10 : decode cX4_in 10 = .ok (.iconst 1, 1) := by decide +kernel
theorem dX4_in_11 : decode cX4_in 11 = .ok (.goto 4, 3) := by decide +kernel
theorem dX4_in_14 : decode cX4_in 14 = .ok (.iconst 0, 1) := by decide +kernel
theorem dX4_in_15 : decode cX4_in 15 = .ok (.ireturn, 1) := by decide +kernel
theorem dX4_init__0 : decode cX4_init_ 0 = .ok (.iconst 0, 1) := by decide +kernel
theorem dX4_init__1 : decode cX4_init_ 1 = .ok (.istore_n 1, 1) := by decide +kernel
theorem dX4_init__2 : decode cX4_init_ 2 = .ok (.iload_n 1, 1) := by decide +kernel
theorem dX4_init__3 : decode cX4_init_ 3 = .ok (.sipush 1024, 3) := by decide +kernel
theorem dX4_init__6 : decode cX4_init_ 6 = .ok (.if_icmp .ge 23, 3) := by decide +kernel
theorem dX4_init__9 : decode cX4_init_ 9 = .ok (.aload_n 0, 1) := by decide +kernel
theorem dX4_init__10 : decode cX4_init_ 10 = .ok (.getfield 7, 3) := by decide +kernel
theorem dX4_init__13 : decode cX4_init_ 13 = .ok (.iload_n 1, 1) := by decide +kernel
theorem dX4_init__14 : decode cX4_init_ 14 = .ok (.iconst 0, 1) := by decide +kernel
theorem dX4_init__15 : decode cX4_init_ 15 = .ok (.bastore, 1) := by decide +kernel
theorem dX4_init__16 : decode cX4_init_ 16 = .ok (.aload_n 0, 1) := by decide +kernel
theorem dX4_init__17 : decode cX4_init_ 17 = .ok (.getfield 13, 3) := by decide +kernel
theorem dX4_init__20 : decode cX4_init_ 20 = .ok (.iload_n 1, 1) := by decide +kernel
theorem dX4_init__21 : decode cX4_init_ 21 = .ok (.iconst 0, 1) := by decide +kernel
theorem dX4_init__22 : decode cX4_init_ 22 = .ok (.iastore, 1) := by decide +kernel
theorem dX4_init__23 : decode cX4_init_ 23 = .ok (.iinc 1 1, 3) := by decide +kernel
theorem dX4_init__26 : decode cX4_init_ 26 = .ok (.goto (-24), 3) := by decide +kernel
theorem dX4_init__29 : decode cX4_init_ 29 = .ok (.iconst 0, 1) := by decide +kernel
theorem dX4_init__30 : decode cX4_init_ 30 = .ok (.istore_n 1, 1) := by decide +kernel
theorem dX4_init__31 : decode cX4_init_ 31 = .ok (.iload_n 1, 1) := by decide +kernel
theorem dX4_init__32 : decode cX4_init_ 32 = .ok (.bipush 8, 2) := by decide +kernel
theorem dX4_init__34 : decode cX4_init_ 34 = .ok (.if_icmp .ge 16, 3) := by decide +kernel
theorem dX4_init__37 : decode cX4_init_ 37 = .ok (.aload_n 0, 1) := by decide +kernel
theorem dX4_init__38 : decode cX4_init_ 38 = .ok (.getfield 17, 3) := by decide +kernel
theorem dX4_init__41 : decode cX4_init_ 41 = .ok (.iload_n 1, 1) := by decide +kernel
theorem dX4_init__42 : decode cX4_init_ 42 = .ok (.iconst 0, 1) := by decide +kernel
theorem dX4_init__43 : decode cX4_init_ 43 = .ok (.iastore, 1) := by decide +kernel
theorem dX4_init__44 : decode cX4_init_ 44 = .ok (.iinc 1 1, 3) := by decide +kernel
theorem dX4_init__47 : decode cX4_init_ 47 = .ok (.goto (-16), 3) := by decide +kernel
theorem dX4_init__50 : decode cX4_init_ 50 = .ok (.aload_n 0, 1) := by decide +kernel
theorem dX4_init__51 : decode cX4_init_ 51 = .ok (.aload_n 0, 1) := by decide +kernel
theorem dX4_init__52 : decode cX4_init_ 52 = .ok (.getfield 67, 3) := by decide +kernel
theorem dX4_init__55 : decode cX4_init_ 55 = .ok (.iconst 1, 1) := by decide +kernel
theorem dX4_init__56 : decode cX4_init_ 56 = .ok (.isub, 1) := by decide +kernel
theorem dX4_init__57 : decode cX4_init_ 57 = .ok (.putfield 79, 3) := by decide +kernel
theorem dX4_init__60 : decode cX4_init_ 60 = .ok (.aload_n 0, 1) := by decide +kernel
theorem dX4_init__61 : decode cX4_init_ 61 = .ok (.iconst 0, 1) := by decide +kernel
theorem dX4_init__62 : decode cX4_init_ 62 = .ok (.putfield 82, 3) := by decide +kernel
theorem dX4_init__65 : decode cX4_init_ 65 = .ok (.return_, 1) := by decide +kernel
set_option maxRecDepth 20000 in
theorem ggX4_isInside_X4_in : GoodIn wsX4_isInside wsX4_in := goodIn_r _ [6] (by decide +kernel) (by decide +kernel)
set_option maxRecDepth 20000 in
theorem gX4_isInside_X4_in : GoodIn wsX4_isInside (va_wsS RX4 85 yX4_in wsX4_in) := goodIn_app (goodIn_of _ (by decide +kernel)) ggX4_isInside_X4_in
theorem dX4_isInside_0 : decode cX4_isInside 0 = .ok (.iload_n 1, 1) := by decide +kernel
theorem dX4_isInside_1 : decode cX4_isInside 1 = .ok (.iconst 0, 1) := by decide +kernel
theorem dX4_isInside_2 : decode cX4_isInside 2 = .ok (.aload_n 0, 1) := by decide +kernel
theorem dX4_isInside_3 : decode cX4_isInside 3 = .ok (.getfield 60, 3) := by decide +kernel
theorem dX4_isInside_6 : decode cX4_isInside 6 = .ok (.iconst 1, 1) := by decide +kernel
theorem dX4_isInside_7 : decode cX4_isInside 7 = .ok (.isub, 1) := by decide +kernel
theorem dX4_isInside_8 : decode cX4_isInside 8 = .ok (.invokestatic 85, 3) := by decide +kernel
theorem dX4_isInside_11 : decode cX4_isInside 11 = .ok (.ifCond .eq 21, 3) := by decide +kernel
theorem dX4_isInside_14 : decode cX4_isInside 14 = .ok (.iload_n 2, 1) := by decide +kernel
theorem dX4_isInside_15 : decode cX4_isInside 15 = .ok (.iconst 0, 1) := by decide +kernel
theorem dX4_isInside_16 : decode cX4_isInside 16 = .ok (.aload_n 0, 1) := by decide +kernel
theorem dX4_isInside_17 : decode cX4_isInside 17 = .ok (.getfield 64, 3) := by decide +kernel
theorem dX4_isInside_20 : decode cX4_isInside 20 = .ok (.iconst 1, 1) := by decide +kernel
theorem dX4_isInside_21 : decode cX4_isInside 21 = .ok (.isub, 1) := by decide +kernel
theorem dX4_isInside_22 : decode cX4_isInside 22 = .ok (.invokestatic 85, 3) := by decide +kernel
theorem dX4_isInside_25 : decode cX4_isInside 25 = .ok (.ifCond .eq 7, 3) := by decide +kernel
theorem dX4_isInside_28 : decode cX4_isInside 28 = .ok (.iconst 1, 1) := by decide +kernel
theorem dX4_isInside_29 : decode cX4_isInside 29 = .ok (.goto 4, 3) := by decide +kernel
theorem dX4_isInside_32 : decode cX4_isInside 32 = .ok (.iconst 0, 1) := by decide +kernel
theorem dX4_isInside_33 : decode cX4_isInside 33 = .ok (.ireturn, 1) := by decide +kernel
theorem dX4_square_0 : decode cX4_square 0 = .ok (.bipush 32, 2) := by decide +kernel
theorem dX4_square_2 : decode cX4_square 2 = .ok (.iload_n 1, 1) := by decide +kernel
theorem dX4_square_3 : decode cX4_square 3 = .ok (.imul, 1) := by decide +kernel
theorem dX4_square_4 : decode cX4_square 4 = .ok (.iload_n 0, 1) := by decide +kernel
theorem dX4_square_5 : decode cX4_square 5 = .ok (.iadd, 1) := by decide +kernel
theorem dX4_square_6 : decode cX4_square 6 = .ok (.ireturn, 1) := by decide +kernel
theorem dX4_robotAt_0 : decode cX4_robotAt 0 = .ok (.iconst 0, 1) := by decide +kernel
theorem dX4_robotAt_1 : decode cX4_robotAt 1 = .ok (.istore_n 3, 1) := by decide +kernel
theorem dX4_robotAt_2 : decode cX4_robotAt 2 = .ok (.iload_n 3, 1) := by decide +kernel
theorem dX4_robotAt_3 : decode cX4_robotAt 3 = .ok (.aload_n 0, 1) := by decide +kernel
theorem dX4_robotAt_4 : decode cX4_robotAt 4 = .ok (.getfield 67, 3) := by decide +kernel
theorem dX4_robotAt_7 : decode cX4_robotAt 7 = .ok (.if_icmp .ge 40, 3) := by decide +kernel
theorem dX4_robotAt_10 : decode cX4_robotAt 10 = .ok (.aload_n 0, 1) := by decide +kernel
theorem dX4_robotAt_11 : decode cX4_robotAt 11 = .ok (.getfield 17, 3) := by decide +kernel
theorem dX4_robotAt_14 : decode cX4_robotAt 14 = .ok (.iload_n 3, 1) := by decide +kernel
theorem dX4_robotAt_15 : decode cX4_robotAt 15 = .ok (.iaload, 1) := by decide +kernel
theorem dX4_robotAt_16 : decode cX4_robotAt 16 = .ok (.ifCond .le 25, 3) := by decide +kernel
theorem dX4_robotAt_19 : decode cX4_robotAt 19 = .ok (.aload_n 0, 1) := by decide +kernel
theorem dX4_robotAt_20 : decode cX4_robotAt 20 = .ok (.getfield 20, 3) := by decide +kernel
theorem dX4_robotAt_23 : decode cX4_robotAt 23 = .ok (.iload_n 3, 1) := by decide +kernel
theorem dX4_robotAt_24 : decode cX4_robotAt 24 = .ok (.iaload, 1) := by decide +kernel
theorem dX4_robotAt_25 : decode cX4_robotAt 25 = .ok (.iload_n 1, 1) := by decide +kernel
theorem dX4_robotAt_26 : decode cX4_robotAt 26 = .ok (.if_icmp .ne 15, 3) := by decide +kernel
theorem dX4_robotAt_29 : decode cX4_robotAt 29 = .ok (.aload_n 0, 1) := by decide +kernel
theorem dX4_robotAt_30 : decode cX4_robotAt 30 = .ok (.getfield 23, 3) := by decide +kernel
theorem dX4_robotAt_33 : decode cX4_robotAt 33 = .ok (.iload_n 3, 1) := by decide +kernel
theorem dX4_robotAt_34 : decode cX4_robotAt 34 = .ok (.iaload, 1) := by decide +kernel
theorem dX4_robotAt_35 : decode cX4_robotAt 35 = .ok (.iload_n 2, 1) := by decide +kernel
theorem dX4_robotAt_36 : decode cX4_robotAt 36 = .ok (.if_icmp .ne 5, 3) := by decide +kernel
theorem dX4_robotAt_39 : decode cX4_robotAt 39 = .ok (.iload_n 3, 1) := by decide +kernel
theorem dX4_robotAt_40 : decode cX4_robotAt 40 = .ok (.ireturn, 1) := by decide +kernel
theorem dX4_robotAt_41 : decode cX4_robotAt 41 = .ok (.iinc 3 1, 3) := by decide +kernel
theorem dX4_robotAt_44 : decode cX4_robotAt 44 = .ok (.goto (-42), 3) := by decide +kernel
theorem dX4_robotAt_47 : decode cX4_robotAt 47 = .ok (.iconst (-1), 1) := by decide +kernel
theorem dX4_robotAt_48 : decode cX4_robotAt 48 = .ok (.ireturn, 1) := by decide +kernel
set_option maxRecDepth 20000 in
theorem ggX4_setWall_X4_isInside : GoodIn wsX4_setWall wsX4_isInside := goodIn_r _ [7, 8, 9, 10, 11, 6, 12, 24, 25, 26, 27, 28, 29, 30, 31, 32, 33, 34, 35, 36, 37, 38, 39, 40, 41, 42, 43, 44, 45] (by decide +kernel) (by decide +kernel)
set_option maxRecDepth 20000 in
theorem gX4_setWall_X4_isInside : GoodIn wsX4_setWall (wsV RX4 89 RX4 yX4_isInside wsX4_isInside) := goodIn_app (goodIn_of _ (by decide +kernel)) ggX4_setWall_X4_isInside
set_option maxRecDepth 20000 in
theorem ggX4_setWall_X4_robotAt : GoodIn wsX4_setWall wsX4_robotAt := goodIn_r _ [16, 17, 18, 19, 20, 24, 25, 26, 27, 28, 29, 30, 31, 32, 33, 34, 35, 36, 37, 38, 39, 40, 41, 42, 43, 44, 45] (by decide +kernel) (by decide +kernel)
set_option maxRecDepth 20000 in
theorem gX4_setWall_X4_robotAt : GoodIn wsX4_setWall (wsV RX4 93 RX4 yX4_robotAt wsX4_robotAt) := goodIn_app (goodIn_of _ (by decide +kernel)) ggX4_setWall_X4_robotAt
set_option maxRecDepth 20000 in
theorem ggX4_setWall_X4_square : GoodIn wsX4_setWall wsX4_square := goodIn_r _ [23] (by decide +kernel) (by decide +kernel)
set_option maxRecDepth 20000 in
theorem gX4_setWall_X4_square : GoodIn wsX4_setWall (va_wsS RX4 97 yX4_square wsX4_square) := goodIn_app (goodIn_of _ (by decide +kernel)) ggX4_setWall_X4_square
theorem dX4_setWall_0 : decode cX4_setWall 0 = .ok (.aload_n 0, 1) := by decide +kernel
theorem dX4_setWall_1 : decode cX4_setWall 1 = .ok (.iload_n 1, 1) := by decide +kernel
theorem dX4_setWall_2 : decode cX4_setWall 2 = .ok (.iload_n 2, 1) := by decide +kernel
theorem dX4_setWall_3 : decode cX4_setWall 3 = .ok (.invokevirtual 89, 3) := by decide +kernel
theorem dX4_setWall_6 : decode cX4_setWall 6 = .ok (.ifCond .eq 12, 3) := by decide +kernel
theorem dX4_setWall_9 : decode cX4_setWall 9 = .ok (.aload_n 0, 1) := by decide +kernel
theorem dX4_setWall_10 : decode cX4_setWall 10 = .ok (.iload_n 1, 1) := by decide +kernel
theorem dX4_setWall_11 : decode cX4_setWall 11 = .ok (.iload_n 2, 1) := by decide +kernel
theorem dX4_setWall_12 : decode cX4_setWall 12 = .ok (.invokevirtual 93, 3) := by decide +kernel
theorem dX4_setWall_15 : decode cX4_setWall 15 = .ok (.ifCond .lt 5, 3) := by decide +kernel
theorem dX4_setWall_18 : decode cX4_setWall 18 = .ok (.iconst 0, 1) := by decide +kernel
theorem dX4_setWall_19 : decode cX4_setWall 19 = .ok (.ireturn, 1) := by decide +kernel
theorem dX4_setWall_20 : decode cX4_setWall 20 = .ok (.aload_n 0, 1) := by decide +kernel
theorem dX4_setWall_21 : decode cX4_setWall 21 = .ok (.getfield 7, 3) := by decide +kernel
theorem dX4_setWall_24 : decode cX4_setWall 24 = .ok (.iload_n 1, 1) := by decide +kernel
theorem dX4_setWall_25 : decode cX4_setWall 25 = .ok (.iload_n 2, 1) := by decide +kernel
theorem dX4_setWall_26 : decode cX4_setWall 26 = .ok (.invokestatic 97, 3) := by decide +kernel
theorem dX4_setWall_29 : decode cX4_setWall 29 = .ok (.iload_n 3, 1) := by decide +kernel
theorem dX4_setWall_30 : decode cX4_setWall 30 = .ok (.bastore, 1) := by decide +kernel
theorem dX4_setWall_31 : decode cX4_setWall 31 = .ok (.aload_n 0, 1) := by decide +kernel
theorem dX4_setWall_32 : decode cX4_setWall 32 = .ok (.getfield 13, 3) := by decide +kernel
theorem dX4_setWall_35 : decode cX4_setWall 35 = .ok (.iload_n 1, 1) := by decide +kernel
theorem dX4_setWall_36 : decode cX4_setWall 36 = .ok (.iload_n 2, 1) := by decide +kernel
theorem dX4_setWall_37 : decode cX4_setWall 37 = .ok (.invokestatic 97, 3) := by decide +kernel
theorem dX4_setWall_40 : decode cX4_setWall 40 = .ok (.iload_n 3, 1) := by decide +kernel
theorem dX4_setWall_41 : decode cX4_setWall 41 = .ok (.ifCond .eq 7, 3) := by decide +kernel
theorem dX4_setWall_44 : decode cX4_setWall 44 = .ok (.iconst 0, 1) := by decide +kernel
theorem dX4_setWall_45 : decode cX4_setWall 45 = .ok (.goto 13, 3) := by decide +kernel
theorem dX4_setWall_48 : decode cX4_setWall 48 = .ok (.aload_n 0, 1) := by decide +kernel
theorem dX4_setWall_49 : decode cX4_setWall 49 = .ok (.getfield 13, 3) := by decide +kernel
theorem dX4_setWall_52 : decode cX4_setWall 52 = .ok (.iload_n 1, 1) := by decide +kernel
theorem dX4_setWall_53 : decode cX4_setWall 53 = .ok (.iload_n 2, 1) := by decide +kernel
theorem dX4_setWall_54 : decode cX4_setWall 54 = .ok (.invokestatic 97, 3) := by decide +kernel
theorem dX4_setWall_57 : decode cX4_setWall 57 = .ok (.iaload, 1) := by decide +kernel
theorem dX4_setWall_58 : decode cX4_setWall 58 = .ok (.iastore, 1) := by decide +kernel
theorem dX4_setWall_59 : decode cX4_setWall 59 = .ok (.iconst 1, 1) := by decide +kernel
theorem dX4_setWall_60 : decode cX4_setWall 60 = .ok (.ireturn, 1) := by decide +kernel
set_option maxRecDepth 20000 in
theorem ggX4_putItem_X4_isInside : GoodIn wsX4_putItem wsX4_isInside := goodIn_r _ [7, 8, 9, 10, 11, 6, 12, 16, 17, 18, 19, 20, 21, 22, 23, 24, 25, 26, 27, 28, 29, 30, 31, 32, 33, 34, 35, 36, 37] (by decide +kernel) (by decide +kernel)
set_option maxRecDepth 20000 in
theorem gX4_putItem_X4_isInside : GoodIn wsX4_putItem (wsV RX4 89 RX4 yX4_isInside wsX4_isInside) := goodIn_app (goodIn_of _ (by decide +kernel)) ggX4_putItem_X4_isInside
set_option maxRecDepth 20000 in
theorem ggX4_putItem_X4_square : GoodIn wsX4_putItem wsX4_square := goodIn_r _ [15] (by decide +kernel) (by decide +kernel)
set_option maxRecDepth 20000 in
theorem gX4_putItem_X4_square : GoodIn wsX4_putItem (va_wsS RX4 97 yX4_square wsX4_square) := goodIn_app (goodIn_of _ (by decide +kernel)) ggX4_putItem_X4_square
theorem dX4_putItem_0 : decode cX4_putItem 0 = .ok (.aload_n 0, 1) := by decide +kernel
theorem dX4_putItem_1 : decode cX4_putItem 1 = .ok (.iload_n 1, 1) := by decide +kernel
theorem dX4_putItem_2 : decode cX4_putItem 2 = .ok (.iload_n 2, 1) := by decide +kernel
theorem dX4_putItem_3 : decode cX4_putItem 3 = .ok (.invokevirtual 89, 3) := by decide +kernel
theorem dX4_putItem_6 : decode cX4_putItem 6 = .ok (.ifCond .eq 31, 3) := by decide +kernel
theorem dX4_putItem_9 : decode cX4_putItem 9 = .ok (.aload_n 0, 1) := by decide +kernel
theorem dX4_putItem_10 : decode cX4_putItem 10 = .ok (.getfield 7, 3) := by decide +kernel
theorem dX4_putItem_13 : decode cX4_putItem 13 = .ok (.iload_n 1, 1) := by decide +kernel
theorem dX4_putItem_14 : decode cX4_putItem 14 = .ok (.iload_n 2, 1) := by decide +kernel
theorem dX4_putItem_15 : decode cX4_putItem 15 = .ok (.invokestatic 97, 3) := by decide +kernel
theorem dX4_putItem_18 : decode cX4_putItem 18 = .ok (.baload, 1) := by decide +kernel
theorem dX4_putItem_19 : decode cX4_putItem 19 = .ok (.ifCond .ne 18, 3) := by decide +kernel
theorem dX4_putItem_22 : decode cX4_putItem 22 = .ok (.aload_n 0, 1) := by decide +kernel
theorem dX4_putItem_23 : decode cX4_putItem 23 = .ok (.getfield 13, 3) := by decide +kernel
theorem dX4_putItem_26 : decode cX4_putItem 26 = .ok (.iload_n 1, 1) := by decide +kernel
theorem dX4_putItem_27 : decode cX4_putItem 27 = .ok (.iload_n 2, 1) := by decide +kernel
theorem dX4_putItem_28 : decode cX4_putItem 28 = .ok (.invokestatic 97, 3) := by decide +kernel
theorem dX4_putItem_31 : decode cX4_putItem 31 = .ok (.iaload, 1) := by decide +kernel
theorem dX4_putItem_32 : decode cX4_putItem 32 = .ok (.bipush 99, 2) := by decide +kernel
theorem dX4_putItem_34 : decode cX4_putItem 34 = .ok (.if_icmp .ne 5, 3) := by decide +kernel
theorem dX4_putItem_37 : decode cX4_putItem 37 = .ok (.iconst 0, 1) := by decide +kernel
theorem dX4_putItem_38 : decode cX4_putItem 38 = .ok (.ireturn, 1) := by decide +kernel
theorem dX4_putItem_39 : decode cX4_putItem 39 = .ok (.aload_n 0, 1) := by decide +kernel
theorem dX4_putItem_40 : decode cX4_putItem 40 = .ok (.getfield 13, 3) := by decide +kernel
theorem dX4_putItem_43 : decode cX4_putItem 43 = .ok (.iload_n 1, 1) := by decide +kernel
theorem dX4_putItem_44 : decode cX4_putItem 44 = .ok (.iload_n 2, 1) := by decide +kernel
theorem dX4_putItem_45 : decode cX4_putItem 45 = .ok (.invokestatic 97, 3) := by decide +kernel
theorem dX4_putItem_48 : decode cX4_putItem 48 = .ok (.dup2, 1) := by decide +kernel
theorem dX4_putItem_49 : decode cX4_putItem 49 = .ok (.iaload, 1) := by decide +kernel
theorem dX4_putItem_50 : decode cX4_putItem 50 = .ok (.iconst 1, 1) := by decide +kernel
theorem dX4_putItem_51 : decode cX4_putItem 51 = .ok (.iadd, 1) := by decide +kernel
theorem dX4_putItem_52 : decode cX4_putItem 52 = .ok (.iastore, 1) := by decide +kernel
theorem dX4_putItem_53 : decode cX4_putItem 53 = .ok (.iconst 1, 1) := by decide +kernel
theorem dX4_putItem_54 : decode cX4_putItem 54 = .ok (.ireturn, 1) := by decide +kernel
set_option maxRecDepth 20000 in
theorem ggX4_spawn_X4_isInside : GoodIn wsX4_spawn wsX4_isInside := goodIn_r _ [17, 18, 19, 20, 21, 16, 22, 30, 31, 32, 33, 34, 35, 36, 37, 38, 39, 40, 41, 42, 43, 44, 45, 46, 47, 48, 49, 50, 51] (by decide +kernel) (by decide +kernel)
set_option maxRecDepth 20000 in
theorem gX4_spawn_X4_isInside : GoodIn wsX4_spawn (wsV RX4 89 RX4 yX4_isInside wsX4_isInside) := goodIn_app (goodIn_of _ (by decide +kernel)) ggX4_spawn_X4_isInside
set_option maxRecDepth 20000 in
theorem ggX4_spawn_X4_square : GoodIn wsX4_spawn wsX4_square := goodIn_r _ [25] (by decide +kernel) (by decide +kernel)
set_option maxRecDepth 20000 in
theorem gX4_spawn_X4_square : GoodIn wsX4_spawn (va_wsS RX4 97 yX4_square wsX4_square) := goodIn_app (goodIn_of _ (by decide +kernel)) ggX4_spawn_X4_square
set_option maxRecDepth 20000 in
theorem ggX4_spawn_X4_robotAt : GoodIn wsX4_spawn wsX4_robotAt := goodIn_r _ [29, 2, 3, 4, 5, 30, 31, 32, 33, 34, 35, 36, 37, 38, 39, 40, 41, 42, 43, 44, 45, 46, 47, 48, 49, 50, 51] (by decide +kernel) (by decide +kernel)
set_option maxRecDepth 20000 in
theorem gX4_spawn_X4_robotAt : GoodIn wsX4_spawn (wsV RX4 93 RX4 yX4_robotAt wsX4_robotAt) := goodIn_app (goodIn_of _ (by decide +kernel)) ggX4_spawn_X4_robotAt
theorem dX4_spawn_0 : decode cX4_spawn 0 = .ok (.aload_n 0, 1) := by decide +kernel
theorem dX4_spawn_1 : decode cX4_spawn 1 = .ok (.iload_n 1, 1) := by decide +kernel
theorem dX4_spawn_2 : decode cX4_spawn 2 = .ok (.iload_n 2, 1) := by decide +kernel
theorem dX4_spawn_3 : decode cX4_spawn 3 = .ok (.invokevirtual 89, 3) := by decide +kernel
theorem dX4_spawn_6 : decode cX4_spawn 6 = .ok (.ifCond .eq 16, 3) := by decide +kernel
theorem dX4_spawn_9 : decode cX4_spawn 9 = .ok (.aload_n 0, 1) := by decide +kernel
theorem dX4_spawn_10 : decode cX4_spawn 10 = .ok (.getfield 7, 3) := by decide +kernel
theorem dX4_spawn_13 : decode cX4_spawn 13 = .ok (.iload_n 1, 1) := by decide +kernel
theorem dX4_spawn_14 : decode cX4_spawn 14 = .ok (.iload_n 2, 1) := by decide +kernel
theorem dX4_spawn_15 : decode cX4_spawn 15 = .ok (.invokestatic 97, 3) := by decide +kernel
theorem dX4_spawn_18 : decode cX4_spawn 18 = .ok (.baload, 1) := by decide +kernel
theorem dX4_spawn_19 : decode cX4_spawn 19 = .ok (.ifCond .eq 6, 3) := by decide +kernel
theorem dX4_spawn_22 : decode cX4_spawn 22 = .ok (.bipush (-2), 2) := by decide +kernel
theorem dX4_spawn_24 : decode cX4_spawn 24 = .ok (.ireturn, 1) := by decide +kernel
theorem dX4_spawn_25 : decode cX4_spawn 25 = .ok (.aload_n 0, 1) := by decide +kernel
theorem dX4_spawn_26 : decode cX4_spawn 26 = .ok (.iload_n 1, 1) := by decide +kernel
theorem dX4_spawn_27 : decode cX4_spawn 27 = .ok (.iload_n 2, 1) := by decide +kernel
theorem dX4_spawn_28 : decode cX4_spawn 28 = .ok (.invokevirtual 93, 3) := by decide +kernel
theorem dX4_spawn_31 : decode cX4_spawn 31 = .ok (.ifCond .lt 6, 3) := by decide +kernel
theorem dX4_spawn_34 : decode cX4_spawn 34 = .ok (.bipush (-4), 2) := by decide +kernel
theorem dX4_spawn_36 : decode cX4_spawn 36 = .ok (.ireturn, 1) := by decide +kernel
theorem dX4_spawn_37 : decode cX4_spawn 37 = .ok (.iconst 0, 1) := by decide +kernel
theorem dX4_spawn_38 : decode cX4_spawn 38 = .ok (.istore_n 3, 1) := by decide +kernel
theorem dX4_spawn_39 : decode cX4_spawn 39 = .ok (.iload_n 3, 1) := by decide +kernel
theorem dX4_spawn_40 : decode cX4_spawn 40 = .ok (.aload_n 0, 1) := by decide +kernel
theorem dX4_spawn_41 : decode cX4_spawn 41 = .ok (.getfield 67, 3) := by decide +kernel
theorem dX4_spawn_44 : decode cX4_spawn 44 = .ok (.if_icmp .ge 112, 3) := by decide +kernel
theorem dX4_spawn_47 : decode cX4_spawn 47 = .ok (.aload_n 0, 1) := by decide +kernel
theorem dX4_spawn_48 : decode cX4_spawn 48 = .ok (.getfield 17, 3) := by decide +kernel
theorem dX4_spawn_51 : decode cX4_spawn 51 = .ok (.iload_n 3, 1) := by decide +kernel
theorem dX4_spawn_52 : decode cX4_spawn 52 = .ok (.iaload, 1) := by decide +kernel
theorem dX4_spawn_53 : decode cX4_spawn 53 = .ok (.ifCond .ne 97, 3) := by decide +kernel
theorem dX4_spawn_56 : decode cX4_spawn 56 = .ok (.aload_n 0, 1) := by decide +kernel
theorem dX4_spawn_57 : decode cX4_spawn 57 = .ok (.getfield 17, 3) := by decide +kernel
theorem dX4_spawn_60 : decode cX4_spawn 60 = .ok (.iload_n 3, 1) := by decide +kernel
theorem dX4_spawn_61 : decode cX4_spawn 61 = .ok (.iconst 1, 1) := by decide +kernel
theorem dX4_spawn_62 : decode cX4_spawn 62 = .ok (.iastore, 1) := by decide +kernel
theorem dX4_spawn_63 : decode cX4_spawn 63 = .ok (.aload_n 0, 1) := by decide +kernel
theorem dX4_spawn_64 : decode cX4_spawn 64 = .ok (.getfield 20, 3) := by decide +kernel
theorem dX4_spawn_67 : decode cX4_spawn 67 = .ok (.iload_n 3, 1) := by decide +kernel
theorem dX4_spawn_68 : decode cX4_spawn 68 = .ok (.iload_n 1, 1) := by decide +kernel
theorem dX4_spawn_69 : decode cX4_spawn 69 = .ok (.iastore, 1) := by decide +kernel
theorem dX4_spawn_70 : decode cX4_spawn 70 = .ok (.aload_n 0, 1) := by decide +kernel
theorem dX4_spawn_71 : decode cX4_spawn 71 = .ok (.getfield 23, 3) := by decide +kernel
theorem dX4_spawn_74 : decode cX4_spawn 74 = .ok (.iload_n 3, 1) := by decide +kernel
theorem dX4_spawn_75 : decode cX4_spawn 75 = .ok (.iload_n 2, 1) := by decide +kernel
theorem dX4_spawn_76 : decode cX4_spawn 76 = .ok (.iastore, 1) := by decide +kernel
theorem dX4_spawn_77 : decode cX4_spawn 77 = .ok (.aload_n 0, 1) := by decide +kernel
theorem dX4_spawn_78 : decode cX4_spawn 78 = .ok (.getfield 29, 3) := by decide +kernel
theorem dX4_spawn_81 : decode cX4_spawn 81 = .ok (.iload_n 3, 1) := by decide +kernel
theorem dX4_spawn_82 : decode cX4_spawn 82 = .ok (.iconst 0, 1) := by decide +kernel
theorem dX4_spawn_83 : decode cX4_spawn 83 = .ok (.iastore, 1) := by decide +kernel
theorem dX4_spawn_84 : decode cX4_spawn 84 = .ok (.aload_n 0, 1) := by decide +kernel
theorem dX4_spawn_85 : decode cX4_spawn 85 = .ok (.getfield 35, 3) := by decide +kernel
theorem dX4_spawn_88 : decode cX4_spawn 88 = .ok (.iload_n 3, 1) := by decide +kernel
theorem dX4_spawn_89 : decode cX4_spawn 89 = .ok (.iconst 0, 1) := by decide +kernel
theorem dX4_spawn_90 : decode cX4_spawn 90 = .ok (.iastore, 1) := by decide +kernel
theorem dX4_spawn_91 : decode cX4_spawn 91 = .ok (.aload_n 0, 1) := by decide +kernel
theorem dX4_spawn_92 : decode cX4_spawn 92 = .ok (.getfield 38, 3) := by decide +kernel
theorem dX4_spawn_95 : decode cX4_spawn 95 = .ok (.iload_n 3, 1) := by decide +kernel
theorem dX4_spawn_96 : decode cX4_spawn 96 = .ok (.iconst 0, 1) := by decide +kernel
theorem dX4_spawn_97 : decode cX4_spawn 97 = .ok (.iastore, 1) := by decide +kernel
theorem dX4_spawn_98 : decode cX4_spawn 98 = .ok (.aload_n 0, 1) := by decide +kernel
theorem dX4_spawn_99 : decode cX4_spawn 99 = .ok (.getfield 44, 3) := by decide +kernel
theorem dX4_spawn_102 : decode cX4_spawn 102 = .ok (.iload_n 3, 1) := by decide +kernel
theorem dX4_spawn_103 : decode cX4_spawn 103 = .ok (.iconst 0, 1) := by decide +kernel
theorem dX4_spawn_104 : decode cX4_spawn 104 = .ok (.iastore, 1) := by decide +kernel
theorem dX4_spawn_105 : decode cX4_spawn 105 = .ok (.aload_n 0, 1) := by decide +kernel
theorem dX4_spawn_106 : decode cX4_spawn 106 = .ok (.getfield 47, 3) := by decide +kernel
theorem dX4_spawn_109 : decode cX4_spawn 109 = .ok (.iload_n 3, 1) := by decide +kernel
theorem dX4_spawn_110 : decode cX4_spawn 110 = .ok (.iconst 0, 1) := by decide +kernel
theorem dX4_spawn_111 : decode cX4_spawn 111 = .ok (.iastore, 1) := by decide +kernel
theorem dX4_spawn_112 : decode cX4_spawn 112 = .ok (.aload_n 0, 1) := by decide +kernel
theorem dX4_spawn_113 : decode cX4_spawn 113 = .ok (.getfield 50, 3) := by decide +kernel
theorem dX4_spawn_116 : decode cX4_spawn 116 = .ok (.iload_n 3, 1) := by decide +kernel
theorem dX4_spawn_117 : decode cX4_spawn 117 = .ok (.iconst 0, 1) := by decide +kernel
theorem dX4_spawn_118 : decode cX4_spawn 118 = .ok (.iastore, 1) := by decide +kernel
theorem dX4_spawn_119 : decode cX4_spawn 119 = .ok (.iconst 0, 1) := by decide +kernel
theorem dX4_spawn_120 : decode cX4_spawn 120 = .ok (.istore 4, 2) := by decide +kernel
theorem dX4_spawn_122 : decode cX4_spawn 122 = .ok (.iload 4, 2) := by decide +kernel
theorem dX4_spawn_124 : decode cX4_spawn 124 = .ok (.bipush 8, 2) := by decide +kernel
theorem dX4_spawn_126 : decode cX4_spawn 126 = .ok (.if_icmp .ge 22, 3) := by decide +kernel
theorem dX4_spawn_129 : decode cX4_spawn 129 = .ok (.aload_n 0, 1) := by decide +kernel
theorem dX4_spawn_130 : decode cX4_spawn 130 = .ok (.getfield 32, 3) := by decide +kernel
theorem dX4_spawn_133 : decode cX4_spawn 133 = .ok (.bipush 8, 2) := by decide +kernel
theorem dX4_spawn_135 : decode cX4_spawn 135 = .ok (.iload_n 3, 1) := by decide +kernel
theorem dX4_spawn_136 : decode cX4_spawn 136 = .ok (.imul, 1) := by decide +kernel
theorem dX4_spawn_137 : decode cX4_spawn 137 = .ok (.iload 4, 2) := by decide +kernel
theorem dX4_spawn_139 : decode cX4_spawn 139 = .ok (.iadd, 1) := by decide +kernel
theorem dX4_spawn_140 : decode cX4_spawn 140 = .ok (.iconst 0, 1) := by decide +kernel
theorem dX4_spawn_141 : decode cX4_spawn 141 = .ok (.iastore, 1) := by decide +kernel
theorem dX4_spawn_142 : decode cX4_spawn 142 = .ok (.iinc 4 1, 3) := by decide +kernel
theorem dX4_spawn_145 : decode cX4_spawn 145 = .ok (.goto (-23), 3) := by decide +kernel
theorem dX4_spawn_148 : decode cX4_spawn 148 = .ok (.iload_n 3, 1) := by decide +kernel
theorem dX4_spawn_149 : decode cX4_spawn 149 = .ok (.ireturn, 1) := by decide +kernel
theorem dX4_spawn_150 : decode cX4_spawn 150 = .ok (.iinc 3 1, 3) := by decide +kernel
theorem dX4_spawn_153 : decode cX4_spawn 153 = .ok (.goto (-114), 3) := by decide +kernel
theorem dX4_spawn_156 : decode cX4_spawn 156 = .ok (.bipush (-3), 2) := by decide +kernel
theorem dX4_spawn_158 : decode cX4_spawn 158 = .ok (.ireturn, 1) := by decide +kernel
set_option maxRecDepth 20000 in
theorem ggX4_isRobot_X4_in : GoodIn wsX4_isRobot wsX4_in := goodIn_r _ [6] (by decide +kernel) (by decide +kernel)
set_option maxRecDepth 20000 in
theorem gX4_isRobot_X4_in : GoodIn wsX4_isRobot (va_wsS RX4 85 yX4_in wsX4_in) := goodIn_app (goodIn_of _ (by decide +kernel)) ggX4_isRobot_X4_in
theorem dX4_isRobot_0 : decode cX4_isRobot 0 = .ok (.iload_n 1, 1) := by decide +kernel
theorem dX4_isRobot_1 : decode cX4_isRobot 1 = .ok (.iconst 0, 1) := by decide +kernel
theorem dX4_isRobot_2 : decode cX4_isRobot 2 = .ok (.aload_n 0, 1) := by decide +kernel
theorem dX4_isRobot_3 : decode cX4_isRobot 3 = .ok (.getfield 67, 3) := by decide +kernel
theorem dX4_isRobot_6 : decode cX4_isRobot 6 = .ok (.iconst 1, 1) := by decide +kernel
theorem dX4_isRobot_7 : decode cX4_isRobot 7 = .ok (.isub, 1) := by decide +kernel
theorem dX4_isRobot_8 : decode cX4_isRobot 8 = .ok (.invokestatic 85, 3) := by decide +kernel
theorem dX4_isRobot_11 : decode cX4_isRobot 11 = .ok (.ifCond .eq 16, 3) := by decide +kernel
theorem dX4_isRobot_14 : decode cX4_isRobot 14 = .ok (.aload_n 0, 1) := by decide +kernel
theorem dX4_isRobot_15 : decode cX4_isRobot 15 = .ok (.getfield 17, 3) := by decide +kernel
theorem dX4_isRobot_18 : decode cX4_isRobot 18 = .ok (.iload_n 1, 1) := by decide +kernel
theorem dX4_isRobot_19 : decode cX4_isRobot 19 = .ok (.iaload, 1) := by decide +kernel
theorem dX4_isRobot_20 : decode cX4_isRobot 20 = .ok (.ifCond .le 7, 3) := by decide +kernel
theorem dX4_isRobot_23 : decode cX4_isRobot 23 = .ok (.iconst 1, 1) := by decide +kernel
theorem dX4_isRobot_24 : decode cX4_isRobot 24 = .ok (.goto 4, 3) := by decide +kernel
theorem dX4_isRobot_27 : decode cX4_isRobot 27 = .ok (.iconst 0, 1) := by decide +kernel
theorem dX4_isRobot_28 : decode cX4_isRobot 28 = .ok (.ireturn, 1) := by decide +kernel
set_option maxRecDepth 20000 in
theorem ggX4_load_X4_isRobot : GoodIn wsX4_load wsX4_isRobot := goodIn_r _ [9, 10, 1, 11, 12, 8, 13, 14, 15, 16, 17, 18, 19, 20, 21, 22, 23, 24, 25, 26, 27, 28, 29, 30, 31, 32, 33, 34, 35] (by decide +kernel) (by decide +kernel)
set_option maxRecDepth 20000 in
theorem gX4_load_X4_isRobot : GoodIn wsX4_load (wsV RX4 100 RX4 yX4_isRobot wsX4_isRobot) := goodIn_app (goodIn_of _ (by decide +kernel)) ggX4_load_X4_isRobot
theorem dX4_load_0 : decode cX4_load 0 = .ok (.aload_n 0, 1) := by decide +kernel
theorem dX4_load_1 : decode cX4_load 1 = .ok (.iload_n 1, 1) := by decide +kernel
theorem dX4_load_2 : decode cX4_load 2 = .ok (.invokevirtual 100, 3) := by decide +kernel
theorem dX4_load_5 : decode cX4_load 5 = .ok (.ifCond .eq 26, 3) := by decide +kernel
theorem dX4_load_8 : decode cX4_load 8 = .ok (.aload_n 0, 1) := by decide +kernel
theorem dX4_load_9 : decode cX4_load 9 = .ok (.getfield 17, 3) := by decide +kernel
theorem dX4_load_12 : decode cX4_load 12 = .ok (.iload_n 1, 1) := by decide +kernel
theorem dX4_load_13 : decode cX4_load 13 = .ok (.iaload, 1) := by decide +kernel
theorem dX4_load_14 : decode cX4_load 14 = .ok (.iconst 1, 1) := by decide +kernel
theorem dX4_load_15 : decode cX4_load 15 = .ok (.if_icmp .ne 16, 3) := by decide +kernel
theorem dX4_load_18 : decode cX4_load 18 = .ok (.aload_n 0, 1) := by decide +kernel
theorem dX4_load_19 : decode cX4_load 19 = .ok (.getfield 29, 3) := by decide +kernel
theorem dX4_load_22 : decode cX4_load 22 = .ok (.iload_n 1, 1) := by decide +kernel
theorem dX4_load_23 : decode cX4_load 23 = .ok (.iaload, 1) := by decide +kernel
theorem dX4_load_24 : decode cX4_load 24 = .ok (.aload_n 0, 1) := by decide +kernel
theorem dX4_load_25 : decode cX4_load 25 = .ok (.getfield 70, 3) := by decide +kernel
theorem dX4_load_28 : decode cX4_load 28 = .ok (.if_icmp .ne 5, 3) := by decide +kernel
theorem dX4_load_31 : decode cX4_load 31 = .ok (.iconst 0, 1) := by decide +kernel
theorem dX4_load_32 : decode cX4_load 32 = .ok (.ireturn, 1) := by decide +kernel
theorem dX4_load_33 : decode cX4_load 33 = .ok (.aload_n 0, 1) := by decide +kernel
theorem dX4_load_34 : decode cX4_load 34 = .ok (.getfield 26, 3) := by decide +kernel
theorem dX4_load_37 : decode cX4_load 37 = .ok (.bipush 100, 2) := by decide +kernel
theorem dX4_load_39 : decode cX4_load 39 = .ok (.iload_n 1, 1) := by decide +kernel
theorem dX4_load_40 : decode cX4_load 40 = .ok (.imul, 1) := by decide +kernel
theorem dX4_load_41 : decode cX4_load 41 = .ok (.aload_n 0, 1) := by decide +kernel
theorem dX4_load_42 : decode cX4_load 42 = .ok (.getfield 29, 3) := by decide +kernel
theorem dX4_load_45 : decode cX4_load 45 = .ok (.iload_n 1, 1) := by decide +kernel
theorem dX4_load_46 : decode cX4_load 46 = .ok (.iaload, 1) := by decide +kernel
theorem dX4_load_47 : decode cX4_load 47 = .ok (.iadd, 1) := by decide +kernel
theorem dX4_load_48 : decode cX4_load 48 = .ok (.iload_n 2, 1) := by decide +kernel
theorem dX4_load_49 : decode cX4_load 49 = .ok (.iastore, 1) := by decide +kernel
theorem dX4_load_50 : decode cX4_load 50 = .ok (.aload_n 0, 1) := by decide +kernel
theorem dX4_load_51 : decode cX4_load 51 = .ok (.getfield 29, 3) := by decide +kernel
theorem dX4_load_54 : decode cX4_load 54 = .ok (.iload_n 1, 1) := by decide +kernel
theorem dX4_load_55 : decode cX4_load 55 = .ok (.dup2, 1) := by decide +kernel
theorem dX4_load_56 : decode cX4_load 56 = .ok (.iaload, 1) := by decide +kernel
theorem dX4_load_57 : decode cX4_load 57 = .ok (.iconst 1, 1) := by decide +kernel
theorem dX4_load_58 : decode cX4_load 58 = .ok (.iadd, 1) := by decide +kernel
theorem dX4_load_59 : decode cX4_load 59 = .ok (.iastore, 1) := by decide +kernel
theorem dX4_load_60 : decode cX4_load 60 = .ok (.iconst 1, 1) := by decide +kernel
theorem dX4_load_61 : decode cX4_load 61 = .ok (.ireturn, 1) := by decide +kernel
set_option maxRecDepth 20000 in
theorem ggX4_startRobot_X4_isRobot : GoodIn wsX4_startRobot wsX4_isRobot := goodIn_r _ [6, 7, 1, 8, 9, 5, 10, 11, 12, 13, 14, 15, 16, 17, 18, 19, 20, 21, 22, 23, 24, 25, 26, 27, 28, 29, 30, 31, 32] (by decide +kernel) (by decide +kernel)
set_option maxRecDepth 20000 in
theorem gX4_startRobot_X4_isRobot : GoodIn wsX4_startRobot (wsV RX4 100 RX4 yX4_isRobot wsX4_isRobot) := goodIn_app (goodIn_of _ (by decide +kernel)) ggX4_startRobot_X4_isRobot
theorem dX4_startRobot_0 : decode cX4_startRobot 0 = .ok (.aload_n 0, 1) := by decide +kernel
theorem dX4_startRobot_1 : decode cX4_startRobot 1 = .ok (.iload_n 1, 1) := by decide +kernel
theorem dX4_startRobot_2 : decode cX4_startRobot 2 = .ok (.invokevirtual 100, 3) := by decide +kernel
theorem dX4_startRobot_5 : decode cX4_startRobot 5 = .ok (.ifCond .eq 13, 3) := by decide +kernel
theorem dX4_startRobot_8 : decode cX4_startRobot 8 = .ok (.aload_n 0, 1) := by decide +kernel
theorem dX4_startRobot_9 : decode cX4_startRobot 9 = .ok (.getfield 17, 3) := by decide +kernel
theorem dX4_startRobot_12 : decode cX4_startRobot 12 = .ok (.iload_n 1, 1) := by decide +kernel
theorem dX4_startRobot_13 : decode cX4_startRobot 13 = .ok (.iaload, 1) := by decide +kernel
theorem dX4_startRobot_14 : decode cX4_startRobot 14 = .ok (.iconst 1, 1) := by decide +kernel
theorem dX4_startRobot_15 : decode cX4_startRobot 15 = .ok (.if_icmp .eq 6, 3) := by decide +kernel
theorem dX4_startRobot_18 : decode cX4_startRobot 18 = .ok (.bipush (-2), 2) := by decide +kernel
theorem dX4_startRobot_20 : decode cX4_startRobot 20 = .ok (.ireturn, 1) := by decide +kernel
theorem dX4_startRobot_21 : decode cX4_startRobot 21 = .ok (.aload_n 0, 1) := by decide +kernel
theorem dX4_startRobot_22 : decode cX4_startRobot 22 = .ok (.getfield 17, 3) := by decide +kernel
theorem dX4_startRobot_25 : decode cX4_startRobot 25 = .ok (.iload_n 1, 1) := by decide +kernel
theorem dX4_startRobot_26 : decode cX4_startRobot 26 = .ok (.iconst 2, 1) := by decide +kernel
theorem dX4_startRobot_27 : decode cX4_startRobot 27 = .ok (.iastore, 1) := by decide +kernel
theorem dX4_startRobot_28 : decode cX4_startRobot 28 = .ok (.iconst 1, 1) := by decide +kernel
theorem dX4_startRobot_29 : decode cX4_startRobot 29 = .ok (.ireturn, 1) := by decide +kernel
set_option maxRecDepth 20000 in
theorem ggX4_kill_X4_isRobot : GoodIn wsX4_kill wsX4_isRobot := goodIn_r _ [10, 11, 5, 12, 13, 9, 14, 18, 19, 20, 21, 22, 23, 24, 25, 26, 27, 28, 29, 30, 31, 32, 33, 34, 35, 36, 37, 38, 39] (by decide +kernel) (by decide +kernel)
set_option maxRecDepth 20000 in
theorem gX4_kill_X4_isRobot : GoodIn wsX4_kill (wsV RX4 100 RX4 yX4_isRobot wsX4_isRobot) := goodIn_app (goodIn_of _ (by decide +kernel)) ggX4_kill_X4_isRobot
set_option maxRecDepth 20000 in
theorem ggX4_kill_X4_square : GoodIn wsX4_kill wsX4_square := goodIn_r _ [17] (by decide +kernel) (by decide +kernel)
set_option maxRecDepth 20000 in
theorem gX4_kill_X4_square : GoodIn wsX4_kill (va_wsS RX4 97 yX4_square wsX4_square) := goodIn_app (goodIn_of _ (by decide +kernel)) ggX4_kill_X4_square
theorem dX4_kill_0 : decode cX4_kill 0 = .ok (.aload_n 0, 1) := by decide +kernel
theorem dX4_kill_1 : decode cX4_kill 1 = .ok (.iload_n 1, 1) := by decide +kernel
theorem dX4_kill_2 : decode cX4_kill 2 = .ok (.invokevirtual 100, 3) := by decide +kernel
theorem dX4_kill_5 : decode cX4_kill 5 = .ok (.ifCond .ne 6, 3) := by decide +kernel
theorem dX4_kill_8 : decode cX4_kill 8 = .ok (.bipush (-2), 2) := by decide +kernel
theorem dX4_kill_10 : decode cX4_kill 10 = .ok (.ireturn, 1) := by decide +kernel
theorem dX4_kill_11 : decode cX4_kill 11 = .ok (.aload_n 0, 1) := by decide +kernel
theorem dX4_kill_12 : decode cX4_kill 12 = .ok (.getfield 20, 3) := by decide +kernel
theorem dX4_kill_15 : decode cX4_kill 15 = .ok (.iload_n 1, 1) := by decide +kernel
theorem dX4_kill_16 : decode cX4_kill 16 = .ok (.iaload, 1) := by decide +kernel
theorem dX4_kill_17 : decode cX4_kill 17 = .ok (.aload_n 0, 1) := by decide +kernel
theorem dX4_kill_18 : decode cX4_kill 18 = .ok (.getfield 23, 3) := by decide +kernel
theorem dX4_kill_21 : decode cX4_kill 21 = .ok (.iload_n 1, 1) := by decide +kernel
theorem dX4_kill_22 : decode cX4_kill 22 = .ok (.iaload, 1) := by decide +kernel
theorem dX4_kill_23 : decode cX4_kill 23 = .ok (.invokestatic 97, 3) := by decide +kernel
theorem dX4_kill_26 : decode cX4_kill 26 = .ok (.istore_n 2, 1) := by decide +kernel
theorem dX4_kill_27 : decode cX4_kill 27 = .ok (.aload_n 0, 1) := by decide +kernel
theorem dX4_kill_28 : decode cX4_kill 28 = .ok (.getfield 13, 3) := by decide +kernel
theorem dX4_kill_31 : decode cX4_kill 31 = .ok (.iload_n 2, 1) := by decide +kernel
theorem dX4_kill_32 : decode cX4_kill 32 = .ok (.iaload, 1) := by decide +kernel
theorem dX4_kill_33 : decode cX4_kill 33 = .ok (.aload_n 0, 1) := by decide +kernel
theorem dX4_kill_34 : decode cX4_kill 34 = .ok (.getfield 38, 3) := by decide +kernel
theorem dX4_kill_37 : decode cX4_kill 37 = .ok (.iload_n 1, 1) := by decide +kernel
theorem dX4_kill_38 : decode cX4_kill 38 = .ok (.iaload, 1) := by decide +kernel
theorem dX4_kill_39 : decode cX4_kill 39 = .ok (.iadd, 1) := by decide +kernel
theorem dX4_kill_40 : decode cX4_kill 40 = .ok (.istore_n 3, 1) := by decide +kernel
theorem dX4_kill_41 : decode cX4_kill 41 = .ok (.aload_n 0, 1) := by decide +kernel
theorem dX4_kill_42 : decode cX4_kill 42 = .ok (.getfield 13, 3) := by decide +kernel
theorem dX4_kill_45 : decode cX4_kill 45 = .ok (.iload_n 2, 1) := by decide +kernel
theorem dX4_kill_46 : decode cX4_kill 46 = .ok (.iload_n 3, 1) := by decide +kernel
theorem dX4_kill_47 : decode cX4_kill 47 = .ok (.bipush 99, 2) := by decide +kernel
theorem dX4_kill_49 : decode cX4_kill 49 = .ok (.if_icmp .le 8, 3) := by decide +kernel
theorem dX4_kill_52 : decode cX4_kill 52 = .ok (.bipush 99, 2) := by decide +kernel
theorem dX4_kill_54 : decode cX4_kill 54 = .ok (.goto 4, 3) := by decide +kernel
theorem dX4_kill_57 : decode cX4_kill 57 = .ok (.iload_n 3, 1) := by decide +kernel
theorem dX4_kill_58 : decode cX4_kill 58 = .ok (.iastore, 1) := by decide +kernel
theorem dX4_kill_59 : decode cX4_kill 59 = .ok (.aload_n 0, 1) := by decide +kernel
theorem dX4_kill_60 : decode cX4_kill 60 = .ok (.getfield 17, 3) := by decide +kernel
theorem dX4_kill_63 : decode cX4_kill 63 = .ok (.iload_n 1, 1) := by decide +kernel
theorem dX4_kill_64 : decode cX4_kill 64 = .ok (.iconst 0, 1) := by decide +kernel
theorem dX4_kill_65 : decode cX4_kill 65 = .ok (.iastore, 1) := by decide +kernel
theorem dX4_kill_66 : decode cX4_kill 66 = .ok (.aload_n 0, 1) := by decide +kernel
theorem dX4_kill_67 : decode cX4_kill 67 = .ok (.getfield 38, 3) := by decide +kernel
theorem dX4_kill_70 : decode cX4_kill 70 = .ok (.iload_n 1, 1) := by decide +kernel
theorem dX4_kill_71 : decode cX4_kill 71 = .ok (.iaload, 1) := by decide +kernel
theorem dX4_kill_72 : decode cX4_kill 72 = .ok (.ireturn, 1) := by decide +kernel
theorem dX4_besideX_0 : decode cX4_besideX 0 = .ok (.iload_n 1, 1) := by decide +kernel
theorem dX4_besideX_1 : decode cX4_besideX 1 = .ok (.iconst 1, 1) := by decide +kernel
theorem dX4_besideX_2 : decode cX4_besideX 2 = .ok (.if_icmp .ne 9, 3) := by decide +kernel
theorem dX4_besideX_5 : decode cX4_besideX 5 = .ok (.iload_n 0, 1) := by decide +kernel
theorem dX4_besideX_6 : decode cX4_besideX 6 = .ok (.iconst 1, 1) := by decide +kernel
theorem dX4_besideX_7 : decode cX4_besideX 7 = .ok (.iadd, 1) := by decide +kernel
theorem dX4_besideX_8 : decode cX4_besideX 8 = .ok (.goto 15, 3) := by decide +kernel
theorem dX4_besideX_11 : decode cX4_besideX 11 = .ok (.iload_n 1, 1) := by decide +kernel
theorem dX4_besideX_12 : decode cX4_besideX 12 = .ok (.iconst 3, 1) := by decide +kernel
theorem dX4_besideX_13 : decode cX4_besideX 13 = .ok (.if_icmp .ne 9, 3) := by decide +kernel
theorem dX4_besideX_16 : decode cX4_besideX 16 = .ok (.iload_n 0, 1) := by decide +kernel
theorem dX4_besideX_17 : decode cX4_besideX 17 = .ok (.iconst 1, 1) := by decide +kernel
theorem dX4_besideX_18 : decode cX4_besideX 18 = .ok (.isub, 1) := by decide +kernel
theorem dX4_besideX_19 : decode cX4_besideX 19 = .ok (.goto 4, 3) := by decide +kernel
theorem dX4_besideX_22 : decode cX4_besideX 22 = .ok (.iload_n 0, 1) := by decide +kernel
theorem dX4_besideX_23 : decode cX4_besideX 23 = .ok (.ireturn, 1) := by decide +kernel
theorem dX4_besideY_0 : decode cX4_besideY 0 = .ok (.iload_n 1, 1) := by decide +kernel
theorem dX4_besideY_1 : decode cX4_besideY 1 = .ok (.ifCond .ne 9, 3) := by decide +kernel
theorem dX4_besideY_4 : decode cX4_besideY 4 = .ok (.iload_n 0, 1) := by decide +kernel
theorem dX4_besideY_5 : decode cX4_besideY 5 = .ok (.iconst 1, 1) := by decide +kernel
theorem dX4_besideY_6 : decode cX4_besideY 6 = .ok (.isub, 1) := by decide +kernel
theorem dX4_besideY_7 : decode cX4_besideY 7 = .ok (.goto 15, 3) := by decide +kernel
theorem dX4_besideY_10 : decode cX4_besideY 10 = .ok (.iload_n 1, 1) := by decide +kernel
theorem dX4_besideY_11 : decode cX4_besideY 11 = .ok (.iconst 2, 1) := by decide +kernel
theorem dX4_besideY_12 : decode cX4_besideY 12 = .ok (.if_icmp .ne 9, 3) := by decide +kernel
theorem dX4_besideY_15 : decode cX4_besideY 15 = .ok (.iload_n 0, 1) := by decide +kernel
theorem dX4_besideY_16 : decode cX4_besideY 16 = .ok (.iconst 1, 1) := by decide +kernel
theorem dX4_besideY_17 : decode cX4_besideY 17 = .ok (.iadd, 1) := by decide +kernel
theorem dX4_besideY_18 : decode cX4_besideY 18 = .ok (.goto 4, 3) := by decide +kernel
theorem dX4_besideY_21 : decode cX4_besideY 21 = .ok (.iload_n 0, 1) := by decide +kernel
theorem dX4_besideY_22 : decode cX4_besideY 22 = .ok (.ireturn, 1) := by decide +kernel
set_option maxRecDepth 20000 in
theorem ggX4_isFree_X4_isInside : GoodIn wsX4_isFree wsX4_isInside := goodIn_r _ [6, 7, 8, 9, 10, 5, 11, 15, 16, 17, 18, 19, 20, 21, 22, 23, 24, 25, 26, 27, 28, 29, 30, 31, 32, 33, 34, 35, 36] (by decide +kernel) (by decide +kernel)
set_option maxRecDepth 20000 in
theorem gX4_isFree_X4_isInside : GoodIn wsX4_isFree (wsV RX4 89 RX4 yX4_isInside wsX4_isInside) := goodIn_app (goodIn_of _ (by decide +kernel)) ggX4_isFree_X4_isInside
set_option maxRecDepth 20000 in
theorem ggX4_isFree_X4_square : GoodIn wsX4_isFree wsX4_square := goodIn_r _ [14] (by decide +kernel) (by decide +kernel)
set_option maxRecDepth 20000 in
theorem gX4_isFree_X4_square : GoodIn wsX4_isFree (va_wsS RX4 97 yX4_square wsX4_square) := goodIn_app (goodIn_of _ (by decide +kernel)) ggX4_isFree_X4_square
theorem dX4_isFree_0 : decode cX4_isFree 0 = .ok (.aload_n 0, 1) := by decide +kernel
theorem dX4_isFree_1 : decode cX4_isFree 1 = .ok (.iload_n 1, 1) := by decide +kernel
theorem dX4_isFree_2 : decode cX4_isFree 2 = .ok (.iload_n 2, 1) := by decide +kernel
theorem dX4_isFree_3 : decode cX4_isFree 3 = .ok (.invokevirtual 89, 3) := by decide +kernel
theorem dX4_isFree_6 : decode cX4_isFree 6 = .ok (.ifCond .eq 20, 3) := by decide +kernel
theorem dX4_isFree_9 : decode cX4_isFree 9 = .ok (.aload_n 0, 1) := by decide +kernel
theorem dX4_isFree_10 : decode cX4_isFree 10 = .ok (.getfield 7, 3) := by decide +kernel
theorem dX4_isFree_13 : decode cX4_isFree 13 = .ok (.iload_n 1, 1) := by decide +kernel
theorem dX4_isFree_14 : decode cX4_isFree 14 = .ok (.iload_n 2, 1) := by decide +kernel
theorem dX4_isFree_15 : decode cX4_isFree 15 = .ok (.invokestatic 97, 3) := by decide +kernel
theorem dX4_isFree_18 : decode cX4_isFree 18 = .ok (.baload, 1) := by decide +kernel
theorem dX4_isFree_19 : decode cX4_isFree 19 = .ok (.ifCond .ne 7, 3) := by decide +kernel
theorem dX4_isFree_22 : decode cX4_isFree 22 = .ok (.iconst 1, 1) := by decide +kernel
theorem dX4_isFree_23 : decode cX4_isFree 23 = .ok (.goto 4, 3) := by decide +kernel
theorem dX4_isFree_26 : decode cX4_isFree 26 = .ok (.iconst 0, 1) := by decide +kernel
theorem dX4_isFree_27 : decode cX4_isFree 27 = .ok (.ireturn, 1) := by decide +kernel
set_option maxRecDepth 20000 in
theorem ggX4_measure_X4_square : GoodIn wsX4_measure wsX4_square := goodIn_r _ [8] (by decide +kernel) (by decide +kernel)
set_option maxRecDepth 20000 in
theorem gX4_measure_X4_square : GoodIn wsX4_measure (va_wsS RX4 97 yX4_square wsX4_square) := goodIn_app (goodIn_of _ (by decide +kernel)) ggX4_measure_X4_square
set_option maxRecDepth 20000 in
theorem ggX4_measure_X4_reach_k0 : GoodIn wsX4_measure ((wsX4_reach.drop 0).take 20) := goodIn_r _ [12, 1, 13, 14, 7, 15, 16, 17, 18, 19, 20, 21, 22, 23, 24, 25, 26, 27, 4, 3] (by decide +kernel) (by decide +kernel)
set_option maxRecDepth 20000 in
theorem ggX4_measure_X4_reach_k1 : GoodIn wsX4_measure ((wsX4_reach.drop 20).take 20) := goodIn_r _ [28, 29, 30, 5, 6, 8, 31, 32, 33, 34, 35, 36, 37, 38, 39, 40, 41, 42, 43, 44] (by decide +kernel) (by decide +kernel)
set_option maxRecDepth 20000 in
theorem ggX4_measure_X4_reach_k2 : GoodIn wsX4_measure (wsX4_reach.drop 40) := goodIn_r _ [45, 46, 47, 48, 49, 50, 51, 52] (by decide +kernel) (by decide +kernel)
set_option maxRecDepth 20000 in
theorem ggX4_measure_X4_reach : GoodIn wsX4_measure wsX4_reach := (goodIn_spl (a := 0) (b := 20) ggX4_measure_X4_reach_k0 (goodIn_spl (a := 20) (b := 20) ggX4_measure_X4_reach_k1 ggX4_measure_X4_reach_k2))
set_option maxRecDepth 20000 in
theorem gX4_measure_X4_reach : GoodIn wsX4_measure (wsV RX4 105 RX4 yX4_reach wsX4_reach) := goodIn_app (goodIn_of _ (by decide +kernel)) ggX4_measure_X4_reach
theorem dX4_measure_0 : decode cX4_measure 0 = .ok (.iconst 0, 1) := by decide +kernel
theorem dX4_measure_1 : decode cX4_measure 1 = .ok (.istore_n 3, 1) := by decide +kernel
theorem dX4_measure_2 : decode cX4_measure 2 = .ok (.iload_n 3, 1) := by decide +kernel
theorem dX4_measure_3 : decode cX4_measure 3 = .ok (.sipush 1024, 3) := by decide +kernel
theorem dX4_measure_6 : decode cX4_measure 6 = .ok (.if_icmp .ge 17, 3) := by decide +kernel
theorem dX4_measure_9 : decode cX4_measure 9 = .ok (.aload_n 0, 1) := by decide +kernel
theorem dX4_measure_10 : decode cX4_measure 10 = .ok (.getfield 53, 3) := by decide +kernel
theorem dX4_measure_13 : decode cX4_measure 13 = .ok (.iload_n 3, 1) := by decide +kernel
theorem dX4_measure_14 : decode cX4_measure 14 = .ok (.ldc 104, 2) := by decide +kernel
theorem dX4_measure_16 : decode cX4_measure 16 = .ok (.iastore, 1) := by decide +kernel
theorem dX4_measure_17 : decode cX4_measure 17 = .ok (.iinc 3 1, 3) := by decide +kernel
theorem dX4_measure_20 : decode cX4_measure 20 = .ok (.goto (-18), 3) := by decide +kernel
theorem dX4_measure_23 : decode cX4_measure 23 = .ok (.aload_n 0, 1) := by decide +kernel
theorem dX4_measure_24 : decode cX4_measure 24 = .ok (.getfield 53, 3) := by decide +kernel
theorem dX4_measure_27 : decode cX4_measure 27 = .ok (.iload_n 1, 1) := by decide +kernel
theorem dX4_measure_28 : decode cX4_measure 28 = .ok (.iload_n 2, 1) := by decide +kernel
theorem dX4_measure_29 : decode cX4_measure 29 = .ok (.invokestatic 97, 3) := by decide +kernel
theorem dX4_measure_32 : decode cX4_measure 32 = .ok (.iconst 0, 1) := by decide +kernel
theorem dX4_measure_33 : decode cX4_measure 33 = .ok (.iastore, 1) := by decide +kernel
theorem dX4_measure_34 : decode cX4_measure 34 = .ok (.iconst 1, 1) := by decide +kernel
theorem dX4_measure_35 : decode cX4_measure 35 = .ok (.istore_n 3, 1) := by decide +kernel
theorem dX4_measure_36 : decode cX4_measure 36 = .ok (.iconst 0, 1) := by decide +kernel
theorem dX4_measure_37 : decode cX4_measure 37 = .ok (.istore 4, 2) := by decide +kernel
theorem dX4_measure_39 : decode cX4_measure 39 = .ok (.iload_n 3, 1) := by decide +kernel
theorem dX4_measure_40 : decode cX4_measure 40 = .ok (.ifCond .eq 89, 3) := by decide +kernel
theorem dX4_measure_43 : decode cX4_measure 43 = .ok (.iconst 0, 1) := by decide +kernel
theorem dX4_measure_44 : decode cX4_measure 44 = .ok (.istore_n 3, 1) := by decide +kernel
theorem dX4_measure_45 : decode cX4_measure 45 = .ok (.iconst 0, 1) := by decide +kernel
theorem dX4_measure_46 : decode cX4_measure 46 = .ok (.istore 5, 2) := by decide +kernel
theorem dX4_measure_48 : decode cX4_measure 48 = .ok (.iload 5, 2) := by decide +kernel
theorem dX4_measure_50 : decode cX4_measure 50 = .ok (.aload_n 0, 1) := by decide +kernel
theorem dX4_measure_51 : decode cX4_measure 51 = .ok (.getfield 64, 3) := by decide +kernel
theorem dX4_measure_54 : decode cX4_measure 54 = .ok (.if_icmp .ge 69, 3) := by decide +kernel
theorem dX4_measure_57 : decode cX4_measure 57 = .ok (.iconst 0, 1) := by decide +kernel
theorem dX4_measure_58 : decode cX4_measure 58 = .ok (.istore 6, 2) := by decide +kernel
theorem dX4_measure_60 : decode cX4_measure 60 = .ok (.iload 6, 2) := by decide +kernel
theorem dX4_measure_62 : decode cX4_measure 62 = .ok (.aload_n 0, 1) := by decide +kernel
theorem dX4_measure_63 : decode cX4_measure 63 = .ok (.getfield 60, 3) := by decide +kernel
theorem dX4_measure_66 : decode cX4_measure 66 = .ok (.if_icmp .ge 51, 3) := by decide +kernel
theorem dX4_measure_69 : decode cX4_measure 69 = .ok (.aload_n 0, 1) := by decide +kernel
theorem dX4_measure_70 : decode cX4_measure 70 = .ok (.getfield 53, 3) := by decide +kernel
theorem dX4_measure_73 : decode cX4_measure 73 = .ok (.iload 6, 2) := by decide +kernel
theorem dX4_measure_75 : decode cX4_measure 75 = .ok (.iload 5, 2) := by decide +kernel
theorem dX4_measure_77 : decode cX4_measure 77 = .ok (.invokestatic 97, 3) := by decide +kernel
theorem dX4_measure_80 : decode cX4_measure 80 = .ok (.iaload, 1) := by decide +kernel
theorem dX4_measure_81 : decode cX4_measure 81 = .ok (.iload 4, 2) := by decide +kernel
theorem dX4_measure_83 : decode cX4_measure 83 = .ok (.if_icmp .ne 28, 3) := by decide +kernel
theorem dX4_measure_86 : decode cX4_measure 86 = .ok (.aload_n 0, 1) := by decide +kernel
theorem dX4_measure_87 : decode cX4_measure 87 = .ok (.iload 6, 2) := by decide +kernel
theorem dX4_measure_89 : decode cX4_measure 89 = .ok (.iload 5, 2) := by decide +kernel
theorem dX4_measure_91 : decode cX4_measure 91 = .ok (.iload 4, 2) := by decide +kernel
theorem dX4_measure_93 : decode cX4_measure 93 = .ok (.iconst 1, 1) := by decide +kernel
theorem dX4_measure_94 : decode cX4_measure 94 = .ok (.iadd, 1) := by decide +kernel
theorem dX4_measure_95 : decode cX4_measure 95 = .ok (.invokevirtual 105, 3) := by decide +kernel
theorem dX4_measure_98 : decode cX4_measure 98 = .ok (.ifCond .ne 7, 3) := by decide +kernel
theorem dX4_measure_101 : decode cX4_measure 101 = .ok (.iload_n 3, 1) := by decide +kernel
theorem dX4_measure_102 : decode cX4_measure 102 = .ok (.ifCond .eq 7, 3) := by decide +kernel
theorem dX4_measure_105 : decode cX4_measure 105 = .ok (.iconst 1, 1) := by decide +kernel
theorem dX4_measure_106 : decode cX4_measure 106 = .ok (.goto 4, 3) := by decide +kernel
theorem dX4_measure_109 : decode cX4_measure 109 = .ok (.iconst 0, 1) := by decide +kernel
theorem dX4_measure_110 : decode cX4_measure 110 = .ok (.istore_n 3, 1) := by decide +kernel
theorem dX4_measure_111 : decode cX4_measure 111 = .ok (.iinc 6 1, 3) := by decide +kernel
theorem dX4_measure_114 : decode cX4_measure 114 = .ok (.goto (-54), 3) := by decide +kernel
theorem dX4_measure_117 : decode cX4_measure 117 = .ok (.iinc 5 1, 3) := by decide +kernel
theorem dX4_measure_120 : decode cX4_measure 120 = .ok (.goto (-72), 3) := by decide +kernel
theorem dX4_measure_123 : decode cX4_measure 123 = .ok (.iinc 4 1, 3) := by decide +kernel
theorem dX4_measure_126 : decode cX4_measure 126 = .ok (.goto (-87), 3) := by decide +kernel
theorem dX4_measure_129 : decode cX4_measure 129 = .ok (.return_, 1) := by decide +kernel
set_option maxRecDepth 20000 in
theorem ggX4_reach_X4_besideX : GoodIn wsX4_reach wsX4_besideX := goodIn_r _ [5] (by decide +kernel) (by decide +kernel)
set_option maxRecDepth 20000 in
theorem gX4_reach_X4_besideX : GoodIn wsX4_reach (va_wsS RX4 108 yX4_besideX wsX4_besideX) := goodIn_app (goodIn_of _ (by decide +kernel)) ggX4_reach_X4_besideX
set_option maxRecDepth 20000 in
theorem ggX4_reach_X4_besideY : GoodIn wsX4_reach wsX4_besideY := goodIn_r _ [8] (by decide +kernel) (by decide +kernel)
set_option maxRecDepth 20000 in
theorem gX4_reach_X4_besideY : GoodIn wsX4_reach (va_wsS RX4 111 yX4_besideY wsX4_besideY) := goodIn_app (goodIn_of _ (by decide +kernel)) ggX4_reach_X4_besideY
set_option maxRecDepth 20000 in
theorem ggX4_reach_X4_isFree : GoodIn wsX4_reach wsX4_isFree := goodIn_r _ [12, 13, 14, 15, 16, 4, 17, 18, 19, 20, 21, 22, 23, 24, 25, 26, 27, 28, 29, 30, 31, 32, 33, 34, 35, 36, 37, 38, 39, 40, 41, 42, 43, 44, 45, 46, 47] (by decide +kernel) (by decide +kernel)
set_option maxRecDepth 20000 in
theorem gX4_reach_X4_isFree : GoodIn wsX4_reach (wsV RX4 114 RX4 yX4_isFree wsX4_isFree) := goodIn_app (goodIn_of _ (by decide +kernel)) ggX4_reach_X4_isFree
set_option maxRecDepth 20000 in
theorem ggX4_reach_X4_square : GoodIn wsX4_reach wsX4_square := goodIn_r _ [25] (by decide +kernel) (by decide +kernel)
set_option maxRecDepth 20000 in
theorem gX4_reach_X4_square : GoodIn wsX4_reach (va_wsS RX4 97 yX4_square wsX4_square) := goodIn_app (goodIn_of _ (by decide +kernel)) ggX4_reach_X4_square
theorem dX4_reach_0 : decode cX4_reach 0 = .ok (.iconst 0, 1) := by decide +kernel
theorem dX4_reach_1 : decode cX4_reach 1 = .ok (.istore 4, 2) := by decide +kernel
theorem dX4_reach_3 : decode cX4_reach 3 = .ok (.iconst 0, 1) := by decide +kernel
theorem dX4_reach_4 : decode cX4_reach 4 = .ok (.istore 5, 2) := by decide +kernel
theorem dX4_reach_6 : decode cX4_reach 6 = .ok (.iload 5, 2) := by decide +kernel
theorem dX4_reach_8 : decode cX4_reach 8 = .ok (.iconst 4, 1) := by decide +kernel
theorem dX4_reach_9 : decode cX4_reach 9 = .ok (.if_icmp .ge 68, 3) := by decide +kernel
theorem dX4_reach_12 : decode cX4_reach 12 = .ok (.iload_n 1, 1) := by decide +kernel
theorem dX4_reach_13 : decode cX4_reach 13 = .ok (.iload 5, 2) := by decide +kernel
theorem dX4_reach_15 : decode cX4_reach 15 = .ok (.invokestatic 108, 3) := by decide +kernel
theorem dX4_reach_18 : decode cX4_reach 18 = .ok (.istore 6, 2) := by decide +kernel
theorem dX4_reach_20 : decode cX4_reach 20 = .ok (.iload_n 2, 1) := by decide +kernel
theorem dX4_reach_21 : decode cX4_reach 21 = .ok (.iload 5, 2) := by decide +kernel
theorem dX4_reach_23 : decode cX4_reach 23 = .ok (.invokestatic 111, 3) := by decide +kernel
theorem dX4_reach_26 : decode cX4_reach 26 = .ok (.istore 7, 2) := by decide +kernel
theorem dX4_reach_28 : decode cX4_reach 28 = .ok (.aload_n 0, 1) := by decide +kernel
theorem dX4_reach_29 : decode cX4_reach 29 = .ok (.iload 6, 2) := by decide +kernel
theorem dX4_reach_31 : decode cX4_reach 31 = .ok (.iload 7, 2) := by decide +kernel
theorem dX4_reach_33 : decode cX4_reach 33 = .ok (.invokevirtual 114, 3) := by decide +kernel
theorem dX4_reach_36 : decode cX4_reach 36 = .ok (.ifCond .eq 35, 3) := by decide +kernel
theorem dX4_reach_39 : decode cX4_reach 39 = .ok (.aload_n 0, 1) := by decide +kernel
theorem dX4_reach_40 : decode cX4_reach 40 = .ok (.getfield 53, 3) := by decide +kernel
theorem dX4_reach_43 : decode cX4_reach 43 = .ok (.iload 6, 2) := by decide +kernel
theorem dX4_reach_45 : decode cX4_reach 45 = .ok (.iload 7, 2) := by decide +kernel
theorem dX4_reach_47 : decode cX4_reach 47 = .ok (.invokestatic 97, 3) := by decide +kernel
theorem dX4_reach_50 : decode cX4_reach 50 = .ok (.iaload, 1) := by decide +kernel
theorem dX4_reach_51 : decode cX4_reach 51 = .ok (.iload_n 3, 1) := by decide +kernel
theorem dX4_reach_52 : decode cX4_reach 52 = .ok (.if_icmp .le 19, 3) := by decide +kernel
theorem dX4_reach_55 : decode cX4_reach 55 = .ok (.aload_n 0, 1) := by decide +kernel
theorem dX4_reach_56 : decode cX4_reach 56 = .ok (.getfield 53, 3) := by decide +kernel
theorem dX4_reach_59 : decode cX4_reach 59 = .ok (.iload 6, 2) := by decide +kernel
theorem dX4_reach_61 : decode cX4_reach 61 = .ok (.iload 7, 2) := by decide +kernel
theorem dX4_reach_63 : decode cX4_reach 63 = .ok (.invokestatic 97, 3) := by decide +kernel
theorem dX4_reach_66 : decode cX4_reach 66 = .ok (.iload_n 3, 1) := by decide +kernel
theorem dX4_reach_67 : decode cX4_reach 67 = .ok (.iastore, 1) := by decide +kernel
theorem dX4_reach_68 : decode cX4_reach 68 = .ok (.iconst 1, 1) := by decide +kernel
theorem dX4_reach_69 : decode cX4_reach 69 = .ok (.istore 4, 2) := by decide +kernel
theorem dX4_reach_71 : decode cX4_reach 71 = .ok (.iinc 5 1, 3) := by decide +kernel
theorem dX4_reach_74 : decode cX4_reach 74 = .ok (.goto (-68), 3) := by decide +kernel
theorem dX4_reach_77 : decode cX4_reach 77 = .ok (.iload 4, 2) := by decide +kernel
theorem dX4_reach_79 : decode cX4_reach 79 = .ok (.ireturn, 1) := by decide +kernel
set_option maxRecDepth 20000 in
theorem ggX4_pathLength_X4_isFree : GoodIn wsX4_pathLength wsX4_isFree := goodIn_r _ [7, 8, 9, 10, 11, 6, 12, 13, 14, 15, 16, 17, 18, 19, 20, 35, 36, 37, 38, 39, 40, 41, 42, 43, 44, 45, 46, 47, 48, 49, 50, 51, 52, 53, 54, 55, 56] (by decide +kernel) (by decide +kernel)
set_option maxRecDepth 20000 in
theorem gX4_pathLength_X4_isFree : GoodIn wsX4_pathLength (wsV RX4 114 RX4 yX4_isFree wsX4_isFree) := goodIn_app (goodIn_of _ (by decide +kernel)) ggX4_pathLength_X4_isFree
set_option maxRecDepth 20000 in
theorem ggX4_pathLength_X4_measure_k0 : GoodIn wsX4_pathLength ((wsX4_measure.drop 0).take 20) := goodIn_r _ [24, 1, 2, 14, 13, 18, 19, 6, 20, 25, 26, 27, 28, 29, 30, 31, 32, 33, 34, 3] (by decide +kernel) (by decide +kernel)
set_option maxRecDepth 20000 in
theorem ggX4_pathLength_X4_measure_k1 : GoodIn wsX4_pathLength ((wsX4_measure.drop 20).take 20) := goodIn_r _ [4, 5, 7, 8, 9, 10, 11, 12, 15, 16, 17, 35, 36, 37, 38, 39, 40, 41, 42, 43] (by decide +kernel) (by decide +kernel)
set_option maxRecDepth 20000 in
theorem ggX4_pathLength_X4_measure_k2 : GoodIn wsX4_pathLength (wsX4_measure.drop 40) := goodIn_r _ [44, 45, 46, 47, 48, 49, 50, 51, 52, 53, 54, 55, 56] (by decide +kernel) (by decide +kernel)
set_option maxRecDepth 20000 in
theorem ggX4_pathLength_X4_measure : GoodIn wsX4_pathLength wsX4_measure := (goodIn_spl (a := 0) (b := 20) ggX4_pathLength_X4_measure_k0 (goodIn_spl (a := 20) (b := 20) ggX4_pathLength_X4_measure_k1 ggX4_pathLength_X4_measure_k2))
set_option maxRecDepth 20000 in
theorem gX4_pathLength_X4_measure : GoodIn wsX4_pathLength (wsV RX4 117 RX4 yX4_measure wsX4_measure) := goodIn_app (goodIn_of _ (by decide +kernel)) ggX4_pathLength_X4_measure
set_option maxRecDepth 20000 in
theorem ggX4_pathLength_X4_square : GoodIn wsX4_pathLength wsX4_square := goodIn_r _ [20] (by decide +kernel) (by decide +kernel)
set_option maxRecDepth 20000 in
theorem gX4_pathLength_X4_square : GoodIn wsX4_pathLength (va_wsS RX4 97 yX4_square wsX4_square) := goodIn_app (goodIn_of _ (by decide +kernel)) ggX4_pathLength_X4_square
theorem dX4_pathLength_0 : decode cX4_pathLength 0 = .ok (.aload_n 0, 1) := by decide +kernel
theorem dX4_pathLength_1 : decode cX4_pathLength 1 = .ok (.iload_n 1, 1) := by decide +kernel
theorem dX4_pathLength_2 : decode cX4_pathLength 2 = .ok (.iload_n 2, 1) := by decide +kernel
theorem dX4_pathLength_3 : decode cX4_pathLength 3 = .ok (.invokevirtual 114, 3) := by decide +kernel
theorem dX4_pathLength_6 : decode cX4_pathLength 6 = .ok (.ifCond .eq 13, 3) := by decide +kernel
theorem dX4_pathLength_9 : decode cX4_pathLength 9 = .ok (.aload_n 0, 1) := by decide +kernel
theorem dX4_pathLength_10 : decode cX4_pathLength 10 = .ok (.iload_n 3, 1) := by decide +kernel
theorem dX4_pathLength_11 : decode cX4_pathLength 11 = .ok (.iload 4, 2) := by decide +kernel
theorem dX4_pathLength_13 : decode cX4_pathLength 13 = .ok (.invokevirtual 114, 3) := by decide +kernel
theorem dX4_pathLength_16 : decode cX4_pathLength 16 = .ok (.ifCond .ne 5, 3) := by decide +kernel
theorem dX4_pathLength_19 : decode cX4_pathLength 19 = .ok (.iconst (-1), 1) := by decide +kernel
theorem dX4_pathLength_20 : decode cX4_pathLength 20 = .ok (.ireturn, 1) := by decide +kernel
theorem dX4_pathLength_21 : decode cX4_pathLength 21 = .ok (.aload_n 0, 1) := by decide +kernel
theorem dX4_pathLength_22 : decode cX4_pathLength 22 = .ok (.iload_n 3, 1) := by decide +kernel
theorem dX4_pathLength_23 : decode cX4_pathLength 23 = .ok (.iload 4, 2) := by decide +kernel
theorem dX4_pathLength_25 : decode cX4_pathLength 25 = .ok (.invokevirtual 117, 3) := by decide +kernel
theorem dX4_pathLength_28 : decode cX4_pathLength 28 = .ok (.aload_n 0, 1) := by decide +kernel
theorem dX4_pathLength_29 : decode cX4_pathLength 29 = .ok (.getfield 53, 3) := by decide +kernel
theorem dX4_pathLength_32 : decode cX4_pathLength 32 = .ok (.iload_n 1, 1) := by decide +kernel
theorem dX4_pathLength_33 : decode cX4_pathLength 33 = .ok (.iload_n 2, 1) := by decide +kernel
theorem dX4_pathLength_34 : decode cX4_pathLength 34 = .ok (.invokestatic 97, 3) := by decide +kernel
theorem dX4_pathLength_37 : decode cX4_pathLength 37 = .ok (.iaload, 1) := by decide +kernel
theorem dX4_pathLength_38 : decode cX4_pathLength 38 = .ok (.istore 5, 2) := by decide +kernel
theorem dX4_pathLength_40 : decode cX4_pathLength 40 = .ok (.iload 5, 2) := by decide +kernel
theorem dX4_pathLength_42 : decode cX4_pathLength 42 = .ok (.ldc 104, 2) := by decide +kernel
theorem dX4_pathLength_44 : decode cX4_pathLength 44 = .ok (.if_icmp .ne 7, 3) := by decide +kernel
theorem dX4_pathLength_47 : decode cX4_pathLength 47 = .ok (.iconst (-1), 1) := by decide +kernel
theorem dX4_pathLength_48 : decode cX4_pathLength 48 = .ok (.goto 5, 3) := by decide +kernel
theorem dX4_pathLength_51 : decode cX4_pathLength 51 = .ok (.iload 5, 2) := by decide +kernel
theorem dX4_pathLength_53 : decode cX4_pathLength 53 = .ok (.ireturn, 1) := by decide +kernel
set_option maxRecDepth 20000 in
theorem ggX4_way_X4_pathLength_k0 : GoodIn wsX4_way ((wsX4_pathLength.drop 0).take 20) := goodIn_r _ [8, 3, 9, 10, 11, 12, 7, 13, 14, 15, 16, 17, 18, 19, 20, 21, 22, 23, 24, 25] (by decide +kernel) (by decide +kernel)
set_option maxRecDepth 20000 in
theorem ggX4_way_X4_pathLength_k1 : GoodIn wsX4_way ((wsX4_pathLength.drop 20).take 20) := goodIn_r _ [26, 27, 28, 29, 30, 31, 32, 33, 34, 35, 36, 37, 38, 39, 40, 41, 42, 43, 44, 45] (by decide +kernel) (by decide +kernel)
set_option maxRecDepth 20000 in
theorem ggX4_way_X4_pathLength_k2 : GoodIn wsX4_way (wsX4_pathLength.drop 40) := goodIn_r _ [46, 47, 48, 49, 50, 51, 52, 53, 54, 55, 56, 57, 58, 59, 60, 61, 62] (by decide +kernel) (by decide +kernel)
set_option maxRecDepth 20000 in
theorem ggX4_way_X4_pathLength : GoodIn wsX4_way wsX4_pathLength := (goodIn_spl (a := 0) (b := 20) ggX4_way_X4_pathLength_k0 (goodIn_spl (a := 20) (b := 20) ggX4_way_X4_pathLength_k1 ggX4_way_X4_pathLength_k2))
set_option maxRecDepth 20000 in
theorem gX4_way_X4_pathLength : GoodIn wsX4_way (wsV RX4 121 RX4 yX4_pathLength wsX4_pathLength) := goodIn_app (goodIn_of _ (by decide +kernel)) ggX4_way_X4_pathLength
set_option maxRecDepth 20000 in
theorem ggX4_way_X4_besideX : GoodIn wsX4_way wsX4_besideX := goodIn_r _ [37] (by decide +kernel) (by decide +kernel)
set_option maxRecDepth 20000 in
theorem gX4_way_X4_besideX : GoodIn wsX4_way (va_wsS RX4 108 yX4_besideX wsX4_besideX) := goodIn_app (goodIn_of _ (by decide +kernel)) ggX4_way_X4_besideX
set_option maxRecDepth 20000 in
theorem ggX4_way_X4_besideY : GoodIn wsX4_way wsX4_besideY := goodIn_r _ [40] (by decide +kernel) (by decide +kernel)
set_option maxRecDepth 20000 in
theorem gX4_way_X4_besideY : GoodIn wsX4_way (va_wsS RX4 111 yX4_besideY wsX4_besideY) := goodIn_app (goodIn_of _ (by decide +kernel)) ggX4_way_X4_besideY
set_option maxRecDepth 20000 in
theorem ggX4_way_X4_isFree : GoodIn wsX4_way wsX4_isFree := goodIn_r _ [13, 14, 15, 16, 17, 7, 18, 19, 20, 21, 22, 23, 24, 25, 26, 41, 42, 43, 44, 45, 46, 47, 48, 49, 50, 51, 52, 53, 54, 55, 56, 57, 58, 59, 60, 61, 62] (by decide +kernel) (by decide +kernel)
set_option maxRecDepth 20000 in
theorem gX4_way_X4_isFree : GoodIn wsX4_way (wsV RX4 114 RX4 yX4_isFree wsX4_isFree) := goodIn_app (goodIn_of _ (by decide +kernel)) ggX4_way_X4_isFree
set_option maxRecDepth 20000 in
theorem ggX4_way_X4_square : GoodIn wsX4_way wsX4_square := goodIn_r _ [26] (by decide +kernel) (by decide +kernel)
set_option maxRecDepth 20000 in
theorem gX4_way_X4_square : GoodIn wsX4_way (va_wsS RX4 97 yX4_square wsX4_square) := goodIn_app (goodIn_of _ (by decide +kernel)) ggX4_way_X4_square
theorem dX4_way_0 : decode cX4_way 0 = .ok (.aload_n 0, 1) := by decide +kernel
theorem dX4_way_1 : decode cX4_way 1 = .ok (.aload_n 0, 1) := by decide +kernel
theorem dX4_way_2 : decode cX4_way 2 = .ok (.getfield 20, 3) := by decide +kernel
theorem dX4_way_5 : decode cX4_way 5 = .ok (.iload_n 1, 1) := by decide +kernel
theorem dX4_way_6 : decode cX4_way 6 = .ok (.iaload, 1) := by decide +kernel
theorem dX4_way_7 : decode cX4_way 7 = .ok (.aload_n 0, 1) := by decide +kernel
theorem dX4_way_8 : decode cX4_way 8 = .ok (.getfield 23, 3) := by decide +kernel
theorem dX4_way_11 : decode cX4_way 11 = .ok (.iload_n 1, 1) := by decide +kernel
theorem dX4_way_12 : decode cX4_way 12 = .ok (.iaload, 1) := by decide +kernel
theorem dX4_way_13 : decode cX4_way 13 = .ok (.iload_n 2, 1) := by decide +kernel
theorem dX4_way_14 : decode cX4_way 14 = .ok (.iload_n 3, 1) := by decide +kernel
theorem dX4_way_15 : decode cX4_way 15 = .ok (.invokevirtual 121, 3) := by decide +kernel
theorem dX4_way_18 : decode cX4_way 18 = .ok (.istore 4, 2) := by decide +kernel
theorem dX4_way_20 : decode cX4_way 20 = .ok (.iload 4, 2) := by decide +kernel
theorem dX4_way_22 : decode cX4_way 22 = .ok (.ifCond .gt 14, 3) := by decide +kernel
theorem dX4_way_25 : decode cX4_way 25 = .ok (.iload 4, 2) := by decide +kernel
theorem dX4_way_27 : decode cX4_way 27 = .ok (.ifCond .ge 7, 3) := by decide +kernel
theorem dX4_way_30 : decode cX4_way 30 = .ok (.iconst (-1), 1) := by decide +kernel
theorem dX4_way_31 : decode cX4_way 31 = .ok (.goto 4, 3) := by decide +kernel
theorem dX4_way_34 : decode cX4_way 34 = .ok (.iconst 4, 1) := by decide +kernel
theorem dX4_way_35 : decode cX4_way 35 = .ok (.ireturn, 1) := by decide +kernel
theorem dX4_way_36 : decode cX4_way 36 = .ok (.iconst 0, 1) := by decide +kernel
theorem dX4_way_37 : decode cX4_way 37 = .ok (.istore 5, 2) := by decide +kernel
theorem dX4_way_39 : decode cX4_way 39 = .ok (.iconst 0, 1) := by decide +kernel
theorem dX4_way_40 : decode cX4_way 40 = .ok (.istore 6, 2) := by decide +kernel
theorem dX4_way_42 : decode cX4_way 42 = .ok (.iload 6, 2) := by decide +kernel
theorem dX4_way_44 : decode cX4_way 44 = .ok (.ifCond .ne 85, 3) := by decide +kernel
theorem dX4_way_47 : decode cX4_way 47 = .ok (.aload_n 0, 1) := by decide +kernel
theorem dX4_way_48 : decode cX4_way 48 = .ok (.getfield 20, 3) := by decide +kernel
theorem dX4_way_51 : decode cX4_way 51 = .ok (.iload_n 1, 1) := by decide +kernel
theorem dX4_way_52 : decode cX4_way 52 = .ok (.iaload, 1) := by decide +kernel
theorem dX4_way_53 : decode cX4_way 53 = .ok (.iload 5, 2) := by decide +kernel
theorem dX4_way_55 : decode cX4_way 55 = .ok (.invokestatic 108, 3) := by decide +kernel
theorem dX4_way_58 : decode cX4_way 58 = .ok (.istore 7, 2) := by decide +kernel
theorem dX4_way_60 : decode cX4_way 60 = .ok (.aload_n 0, 1) := by decide +kernel
theorem dX4_way_61 : decode cX4_way 61 = .ok (.getfield 23, 3) := by decide +kernel
theorem dX4_way_64 : decode cX4_way 64 = .ok (.iload_n 1, 1) := by decide +kernel
theorem dX4_way_65 : decode cX4_way 65 = .ok (.iaload, 1) := by decide +kernel
theorem dX4_way_66 : decode cX4_way 66 = .ok (.iload 5, 2) := by decide +kernel
theorem dX4_way_68 : decode cX4_way 68 = .ok (.invokestatic 111, 3) := by decide +kernel
theorem dX4_way_71 : decode cX4_way 71 = .ok (.istore 8, 2) := by decide +kernel
theorem dX4_way_73 : decode cX4_way 73 = .ok (.aload_n 0, 1) := by decide +kernel
theorem dX4_way_74 : decode cX4_way 74 = .ok (.iload 7, 2) := by decide +kernel
theorem dX4_way_76 : decode cX4_way 76 = .ok (.iload 8, 2) := by decide +kernel
theorem dX4_way_78 : decode cX4_way 78 = .ok (.invokevirtual 114, 3) := by decide +kernel
theorem dX4_way_81 : decode cX4_way 81 = .ok (.ifCond .eq 26, 3) := by decide +kernel
theorem dX4_way_84 : decode cX4_way 84 = .ok (.aload_n 0, 1) := by decide +kernel
theorem dX4_way_85 : decode cX4_way 85 = .ok (.getfield 53, 3) := by decide +kernel
theorem dX4_way_88 : decode cX4_way 88 = .ok (.iload 7, 2) := by decide +kernel
theorem dX4_way_90 : decode cX4_way 90 = .ok (.iload 8, 2) := by decide +kernel
theorem dX4_way_92 : decode cX4_way 92 = .ok (.invokestatic 97, 3) := by decide +kernel
theorem dX4_way_95 : decode cX4_way 95 = .ok (.iaload, 1) := by decide +kernel
theorem dX4_way_96 : decode cX4_way 96 = .ok (.iload 4, 2) := by decide +kernel
theorem dX4_way_98 : decode cX4_way 98 = .ok (.iconst 1, 1) := by decide +kernel
theorem dX4_way_99 : decode cX4_way 99 = .ok (.isub, 1) := by decide +kernel
theorem dX4_way_100 : decode cX4_way 100 = .ok (.if_icmp .ne 7, 3) := by decide +kernel
theorem dX4_way_103 : decode cX4_way 103 = .ok (.iconst 1, 1) := by decide +kernel
theorem dX4_way_104 : decode cX4_way 104 = .ok (.goto 4, 3) := by decide +kernel
theorem dX4_way_107 : decode cX4_way 107 = .ok (.iconst 0, 1) := by decide +kernel
theorem dX4_way_108 : decode cX4_way 108 = .ok (.istore 6, 2) := by decide +kernel
theorem dX4_way_110 : decode cX4_way 110 = .ok (.iload 6, 2) := by decide +kernel
theorem dX4_way_112 : decode cX4_way 112 = .ok (.ifCond .eq 8, 3) := by decide +kernel
theorem dX4_way_115 : decode cX4_way 115 = .ok (.iload 5, 2) := by decide +kernel
theorem dX4_way_117 : decode cX4_way 117 = .ok (.goto 7, 3) := by decide +kernel
theorem dX4_way_120 : decode cX4_way 120 = .ok (.iload 5, 2) := by decide +kernel
theorem dX4_way_122 : decode cX4_way 122 = .ok (.iconst 1, 1) := by decide +kernel
theorem dX4_way_123 : decode cX4_way 123 = .ok (.iadd, 1) := by decide +kernel
theorem dX4_way_124 : decode cX4_way 124 = .ok (.istore 5, 2) := by decide +kernel
theorem dX4_way_126 : decode cX4_way 126 = .ok (.goto (-84), 3) := by decide +kernel
theorem dX4_way_129 : decode cX4_way 129 = .ok (.iload 5, 2) := by decide +kernel
theorem dX4_way_131 : decode cX4_way 131 = .ok (.ireturn, 1) := by decide +kernel
set_option maxRecDepth 20000 in
theorem ggX4_at_X4_isInside : GoodIn wsX4_at wsX4_isInside := goodIn_r _ [7, 8, 9, 10, 11, 6, 12, 24, 25, 26, 27, 28, 29, 30, 31, 32, 33, 34, 35, 36, 37, 38, 39, 40, 41, 42, 43, 44, 45] (by decide +kernel) (by decide +kernel)
set_option maxRecDepth 20000 in
theorem gX4_at_X4_isInside : GoodIn wsX4_at (wsV RX4 89 RX4 yX4_isInside wsX4_isInside) := goodIn_app (goodIn_of _ (by decide +kernel)) ggX4_at_X4_isInside
set_option maxRecDepth 20000 in
theorem ggX4_at_X4_square : GoodIn wsX4_at wsX4_square := goodIn_r _ [15] (by decide +kernel) (by decide +kernel)
set_option maxRecDepth 20000 in
theorem gX4_at_X4_square : GoodIn wsX4_at (va_wsS RX4 97 yX4_square wsX4_square) := goodIn_app (goodIn_of _ (by decide +kernel)) ggX4_at_X4_square
set_option maxRecDepth 20000 in
theorem ggX4_at_X4_robotAt : GoodIn wsX4_at wsX4_robotAt := goodIn_r _ [19, 20, 21, 22, 23, 24, 25, 26, 27, 28, 29, 30, 31, 32, 33, 34, 35, 36, 37, 38, 39, 40, 41, 42, 43, 44, 45] (by decide +kernel) (by decide +kernel)
set_option maxRecDepth 20000 in
theorem gX4_at_X4_robotAt : GoodIn wsX4_at (wsV RX4 93 RX4 yX4_robotAt wsX4_robotAt) := goodIn_app (goodIn_of _ (by decide +kernel)) ggX4_at_X4_robotAt
theorem dX4_at_0 : decode cX4_at 0 = .ok (.aload_n 0, 1) := by decide +kernel
theorem dX4_at_1 : decode cX4_at 1 = .ok (.iload_n 1, 1) := by decide +kernel
theorem dX4_at_2 : decode cX4_at 2 = .ok (.iload_n 2, 1) := by decide +kernel
theorem dX4_at_3 : decode cX4_at 3 = .ok (.invokevirtual 89, 3) := by decide +kernel
theorem dX4_at_6 : decode cX4_at 6 = .ok (.ifCond .ne 6, 3) := by decide +kernel
theorem dX4_at_9 : decode cX4_at 9 = .ok (.bipush (-2), 2) := by decide +kernel
theorem dX4_at_11 : decode cX4_at 11 = .ok (.ireturn, 1) := by decide +kernel
theorem dX4_at_12 : decode cX4_at 12 = .ok (.aload_n 0, 1) := by decide +kernel
theorem dX4_at_13 : decode cX4_at 13 = .ok (.getfield 7, 3) := by decide +kernel
theorem dX4_at_16 : decode cX4_at 16 = .ok (.iload_n 1, 1) := by decide +kernel
theorem dX4_at_17 : decode cX4_at 17 = .ok (.iload_n 2, 1) := by decide +kernel
theorem dX4_at_18 : decode cX4_at 18 = .ok (.invokestatic 97, 3) := by decide +kernel
theorem dX4_at_21 : decode cX4_at 21 = .ok (.baload, 1) := by decide +kernel
theorem dX4_at_22 : decode cX4_at 22 = .ok (.ifCond .eq 7, 3) := by decide +kernel
theorem dX4_at_25 : decode cX4_at 25 = .ok (.iconst (-1), 1) := by decide +kernel
theorem dX4_at_26 : decode cX4_at 26 = .ok (.goto 26, 3) := by decide +kernel
theorem dX4_at_29 : decode cX4_at 29 = .ok (.aload_n 0, 1) := by decide +kernel
theorem dX4_at_30 : decode cX4_at 30 = .ok (.getfield 13, 3) := by decide +kernel
theorem dX4_at_33 : decode cX4_at 33 = .ok (.iload_n 1, 1) := by decide +kernel
theorem dX4_at_34 : decode cX4_at 34 = .ok (.iload_n 2, 1) := by decide +kernel
theorem dX4_at_35 : decode cX4_at 35 = .ok (.invokestatic 97, 3) := by decide +kernel
theorem dX4_at_38 : decode cX4_at 38 = .ok (.iaload, 1) := by decide +kernel
theorem dX4_at_39 : decode cX4_at 39 = .ok (.sipush 256, 3) := by decide +kernel
theorem dX4_at_42 : decode cX4_at 42 = .ok (.aload_n 0, 1) := by decide +kernel
theorem dX4_at_43 : decode cX4_at 43 = .ok (.iload_n 1, 1) := by decide +kernel
theorem dX4_at_44 : decode cX4_at 44 = .ok (.iload_n 2, 1) := by decide +kernel
theorem dX4_at_45 : decode cX4_at 45 = .ok (.invokevirtual 93, 3) := by decide +kernel
theorem dX4_at_48 : decode cX4_at 48 = .ok (.iconst 1, 1) := by decide +kernel
theorem dX4_at_49 : decode cX4_at 49 = .ok (.iadd, 1) := by decide +kernel
theorem dX4_at_50 : decode cX4_at 50 = .ok (.imul, 1) := by decide +kernel
theorem dX4_at_51 : decode cX4_at 51 = .ok (.iadd, 1) := by decide +kernel
theorem dX4_at_52 : decode cX4_at 52 = .ok (.ireturn, 1) := by decide +kernel
end
section
set_option maxRecDepth 20000 in
theorem ggX4_tick_X4_run_k0 : GoodIn wsX4_tick ((wsX4_run.drop 0).take 20) := goodIn_r _ [10, 11, 12, 2, 13, 14, 15, 16, 17, 9, 18, 19, 20, 21, 22, 23, 24, 25, 26, 27] (by decide +kernel) (by decide +kernel)
set_option maxRecDepth 20000 in
theorem ggX4_tick_X4_run_k1 : GoodIn wsX4_tick ((wsX4_run.drop 20).take 20) := goodIn_r _ [28, 29, 30, 3, 31, 32, 33, 34, 35, 36, 37, 38, 39, 40, 41, 42, 43, 44, 45, 46] (by decide +kernel) (by decide +kernel)
set_option maxRecDepth 20000 in
theorem ggX4_tick_X4_run_k2 : GoodIn wsX4_tick ((wsX4_run.drop 40).take 20) := goodIn_r _ [47, 48, 49, 50, 51, 52, 53, 54, 55, 56, 57, 58, 1, 59, 60, 61, 62, 63, 64, 65] (by decide +kernel) (by decide +kernel)
set_option maxRecDepth 20000 in
theorem ggX4_tick_X4_run_k3 : GoodIn wsX4_tick ((wsX4_run.drop 60).take 20) := goodIn_r _ [66, 67, 68, 69, 70, 71, 72, 73, 74, 75, 76, 77, 78, 79, 80, 81, 5, 82, 83, 84] (by decide +kernel) (by decide +kernel)
set_option maxRecDepth 20000 in
theorem ggX4_tick_X4_run_k4 : GoodIn wsX4_tick ((wsX4_run.drop 80).take 20) := goodIn_r _ [85, 86, 87, 88, 89, 90, 91, 92, 93, 94, 95, 96, 97, 98, 99, 100, 101, 102, 103, 104] (by decide +kernel) (by decide +kernel)
set_option maxRecDepth 20000 in
theorem ggX4_tick_X4_run_k5 : GoodIn wsX4_tick (wsX4_run.drop 100) := goodIn_r _ [105, 106, 107, 108, 109, 110, 111, 112, 113, 114, 115, 116, 117, 118, 119, 120, 121] (by decide +kernel) (by decide +kernel)
set_option maxRecDepth 20000 in
theorem ggX4_tick_X4_run : GoodIn wsX4_tick wsX4_run := (goodIn_spl (a := 0) (b := 20) ggX4_tick_X4_run_k0 (goodIn_spl (a := 20) (b := 20) ggX4_tick_X4_run_k1 (goodIn_spl (a := 40) (b := 20) ggX4_tick_X4_run_k2 (goodIn_spl (a := 60) (b := 20) ggX4_tick_X4_run_k3 (goodIn_spl (a := 80) (b := 20) ggX4_tick_X4_run_k4 ggX4_tick_X4_run_k5)))))
set_option maxRecDepth 20000 in
theorem gX4_tick_X4_run : GoodIn wsX4_tick (wsV RX4 125 RX4 yX4_run wsX4_run) := goodIn_app (goodIn_of _ (by decide +kernel)) ggX4_tick_X4_run
theorem dX4_tick_0 : decode cX4_tick 0 = .ok (.iconst 0, 1) := by decide +kernel
theorem dX4_tick_1 : decode cX4_tick 1 = .ok (.istore_n 1, 1) := by decide +kernel
theorem dX4_tick_2 : decode cX4_tick 2 = .ok (.iload_n 1, 1) := by decide +kernel
theorem dX4_tick_3 : decode cX4_tick 3 = .ok (.aload_n 0, 1) := by decide +kernel
theorem dX4_tick_4 : decode cX4_tick 4 = .ok (.getfield 67, 3) := by decide +kernel
theorem dX4_tick_7 : decode cX4_tick 7 = .ok (.if_icmp .ge 66, 3) := by decide +kernel
theorem dX4_tick_10 : decode cX4_tick 10 = .ok (.aload_n 0, 1) := by decide +kernel
theorem dX4_tick_11 : decode cX4_tick 11 = .ok (.getfield 17, 3) := by decide +kernel
theorem dX4_tick_14 : decode cX4_tick 14 = .ok (.iload_n 1, 1) := by decide +kernel
theorem dX4_tick_15 : decode cX4_tick 15 = .ok (.iaload, 1) := by decide +kernel
theorem dX4_tick_16 : decode cX4_tick 16 = .ok (.iconst 3, 1) := by decide +kernel
theorem dX4_tick_17 : decode cX4_tick 17 = .ok (.if_icmp .ne 50, 3) := by decide +kernel
theorem dX4_tick_20 : decode cX4_tick 20 = .ok (.aload_n 0, 1) := by decide +kernel
theorem dX4_tick_21 : decode cX4_tick 21 = .ok (.getfield 17, 3) := by decide +kernel
theorem dX4_tick_24 : decode cX4_tick 24 = .ok (.iload_n 1, 1) := by decide +kernel
theorem dX4_tick_25 : decode cX4_tick 25 = .ok (.aload_n 0, 1) := by decide +kernel
theorem dX4_tick_26 : decode cX4_tick 26 = .ok (.getfield 47, 3) := by decide +kernel
theorem dX4_tick_29 : decode cX4_tick 29 = .ok (.iload_n 1, 1) := by decide +kernel
theorem dX4_tick_30 : decode cX4_tick 30 = .ok (.iaload, 1) := by decide +kernel
theorem dX4_tick_31 : decode cX4_tick 31 = .ok (.ifCond .ne 7, 3) := by decide +kernel
theorem dX4_tick_34 : decode cX4_tick 34 = .ok (.iconst 2, 1) := by decide +kernel
theorem dX4_tick_35 : decode cX4_tick 35 = .ok (.goto 4, 3) := by decide +kernel
theorem dX4_tick_38 : decode cX4_tick 38 = .ok (.iconst 3, 1) := by decide +kernel
theorem dX4_tick_39 : decode cX4_tick 39 = .ok (.iastore, 1) := by decide +kernel
theorem dX4_tick_40 : decode cX4_tick 40 = .ok (.aload_n 0, 1) := by decide +kernel
theorem dX4_tick_41 : decode cX4_tick 41 = .ok (.getfield 47, 3) := by decide +kernel
theorem dX4_tick_44 : decode cX4_tick 44 = .ok (.iload_n 1, 1) := by decide +kernel
theorem dX4_tick_45 : decode cX4_tick 45 = .ok (.aload_n 0, 1) := by decide +kernel
theorem dX4_tick_46 : decode cX4_tick 46 = .ok (.getfield 47, 3) := by decide +kernel
theorem dX4_tick_49 : decode cX4_tick 49 = .ok (.iload_n 1, 1) := by decide +kernel
theorem dX4_tick_50 : decode cX4_tick 50 = .ok (.iaload, 1) := by decide +kernel
theorem dX4_tick_51 : decode cX4_tick 51 = .ok (.ifCond .ne 7, 3) := by decide +kernel
theorem dX4_tick_54 : decode cX4_tick 54 = .ok (.iconst 0, 1) := by decide +kernel
theorem dX4_tick_55 : decode cX4_tick 55 = .ok (.goto 11, 3) := by decide +kernel
theorem dX4_tick_58 : decode cX4_tick 58 = .ok (.aload_n 0, 1) := by decide +kernel
theorem dX4_tick_59 : decode cX4_tick 59 = .ok (.getfield 47, 3) := by decide +kernel
theorem dX4_tick_62 : decode cX4_tick 62 = .ok (.iload_n 1, 1) := by decide +kernel
theorem dX4_tick_63 : decode cX4_tick 63 = .ok (.iaload, 1) := by decide +kernel
theorem dX4_tick_64 : decode cX4_tick 64 = .ok (.iconst 1, 1) := by decide +kernel
theorem dX4_tick_65 : decode cX4_tick 65 = .ok (.isub, 1) := by decide +kernel
theorem dX4_tick_66 : decode cX4_tick 66 = .ok (.iastore, 1) := by decide +kernel
theorem dX4_tick_67 : decode cX4_tick 67 = .ok (.iinc 1 1, 3) := by decide +kernel
theorem dX4_tick_70 : decode cX4_tick 70 = .ok (.goto (-68), 3) := by decide +kernel
theorem dX4_tick_73 : decode cX4_tick 73 = .ok (.iconst (-1), 1) := by decide +kernel
theorem dX4_tick_74 : decode cX4_tick 74 = .ok (.istore_n 1, 1) := by decide +kernel
theorem dX4_tick_75 : decode cX4_tick 75 = .ok (.iconst 1, 1) := by decide +kernel
theorem dX4_tick_76 : decode cX4_tick 76 = .ok (.istore_n 2, 1) := by decide +kernel
theorem dX4_tick_77 : decode cX4_tick 77 = .ok (.iload_n 2, 1) := by decide +kernel
theorem dX4_tick_78 : decode cX4_tick 78 = .ok (.aload_n 0, 1) := by decide +kernel
theorem dX4_tick_79 : decode cX4_tick 79 = .ok (.getfield 67, 3) := by decide +kernel
theorem dX4_tick_82 : decode cX4_tick 82 = .ok (.if_icmp .gt 41, 3) := by decide +kernel
theorem dX4_tick_85 : decode cX4_tick 85 = .ok (.iload_n 1, 1) := by decide +kernel
theorem dX4_tick_86 : decode cX4_tick 86 = .ok (.ifCond .ge 37, 3) := by decide +kernel
theorem dX4_tick_89 : decode cX4_tick 89 = .ok (.aload_n 0, 1) := by decide +kernel
theorem dX4_tick_90 : decode cX4_tick 90 = .ok (.getfield 79, 3) := by decide +kernel
theorem dX4_tick_93 : decode cX4_tick 93 = .ok (.iload_n 2, 1) := by decide +kernel
theorem dX4_tick_94 : decode cX4_tick 94 = .ok (.iadd, 1) := by decide +kernel
theorem dX4_tick_95 : decode cX4_tick 95 = .ok (.aload_n 0, 1) := by decide +kernel
theorem dX4_tick_96 : decode cX4_tick 96 = .ok (.getfield 67, 3) := by decide +kernel
theorem dX4_tick_99 : decode cX4_tick 99 = .ok (.irem, 1) := by decide +kernel
theorem dX4_tick_100 : decode cX4_tick 100 = .ok (.istore_n 3, 1) := by decide +kernel
theorem dX4_tick_101 : decode cX4_tick 101 = .ok (.aload_n 0, 1) := by decide +kernel
theorem dX4_tick_102 : decode cX4_tick 102 = .ok (.getfield 17, 3) := by decide +kernel
theorem dX4_tick_105 : decode cX4_tick 105 = .ok (.iload_n 3, 1) := by decide +kernel
theorem dX4_tick_106 : decode cX4_tick 106 = .ok (.iaload, 1) := by decide +kernel
theorem dX4_tick_107 : decode cX4_tick 107 = .ok (.iconst 2, 1) := by decide +kernel
theorem dX4_tick_108 : decode cX4_tick 108 = .ok (.if_icmp .ne 7, 3) := by decide +kernel
theorem dX4_tick_111 : decode cX4_tick 111 = .ok (.iload_n 3, 1) := by decide +kernel
theorem dX4_tick_112 : decode cX4_tick 112 = .ok (.goto 4, 3) := by decide +kernel
theorem dX4_tick_115 : decode cX4_tick 115 = .ok (.iconst (-1), 1) := by decide +kernel
theorem dX4_tick_116 : decode cX4_tick 116 = .ok (.istore_n 1, 1) := by decide +kernel
theorem dX4_tick_117 : decode cX4_tick 117 = .ok (.iinc 2 1, 3) := by decide +kernel
theorem dX4_tick_120 : decode cX4_tick 120 = .ok (.goto (-43), 3) := by decide +kernel
theorem dX4_tick_123 : decode cX4_tick 123 = .ok (.iload_n 1, 1) := by decide +kernel
theorem dX4_tick_124 : decode cX4_tick 124 = .ok (.ifCond .lt 13, 3) := by decide +kernel
theorem dX4_tick_127 : decode cX4_tick 127 = .ok (.aload_n 0, 1) := by decide +kernel
theorem dX4_tick_128 : decode cX4_tick 128 = .ok (.iload_n 1, 1) := by decide +kernel
theorem dX4_tick_129 : decode cX4_tick 129 = .ok (.putfield 79, 3) := by decide +kernel
theorem dX4_tick_132 : decode cX4_tick 132 = .ok (.aload_n 0, 1) := by decide +kernel
theorem dX4_tick_133 : decode cX4_tick 133 = .ok (.iload_n 1, 1) := by decide +kernel
theorem dX4_tick_134 : decode cX4_tick 134 = .ok (.invokevirtual 125, 3) := by decide +kernel
theorem dX4_tick_137 : decode cX4_tick 137 = .ok (.aload_n 0, 1) := by decide +kernel
theorem dX4_tick_138 : decode cX4_tick 138 = .ok (.dup, 1) := by decide +kernel
theorem dX4_tick_139 : decode cX4_tick 139 = .ok (.getfield 82, 3) := by decide +kernel
theorem dX4_tick_142 : decode cX4_tick 142 = .ok (.iconst 1, 1) := by decide +kernel
theorem dX4_tick_143 : decode cX4_tick 143 = .ok (.iadd, 1) := by decide +kernel
theorem dX4_tick_144 : decode cX4_tick 144 = .ok (.putfield 82, 3) := by decide +kernel
theorem dX4_tick_147 : decode cX4_tick 147 = .ok (.iload_n 1, 1) := by decide +kernel
theorem dX4_tick_148 : decode cX4_tick 148 = .ok (.ireturn, 1) := by decide +kernel
set_option maxRecDepth 20000 in
theorem ggX4_runTicks_X4_in : GoodIn wsX4_runTicks wsX4_in := goodIn_r _ [4] (by decide +kernel) (by decide +kernel)
set_option maxRecDepth 20000 in
theorem gX4_runTicks_X4_in : GoodIn wsX4_runTicks (va_wsS RX4 85 yX4_in wsX4_in) := goodIn_app (goodIn_of _ (by decide +kernel)) ggX4_runTicks_X4_in
set_option maxRecDepth 20000 in
theorem ggX4_runTicks_X4_tick_k0 : GoodIn wsX4_runTicks ((wsX4_tick.drop 0).take 20) := goodIn_r _ [8, 9, 10, 11, 12, 13, 14, 15, 16, 3, 17, 18, 19, 20, 21, 22, 1, 2, 4, 23] (by decide +kernel) (by decide +kernel)
set_option maxRecDepth 20000 in
theorem ggX4_runTicks_X4_tick_k1 : GoodIn wsX4_runTicks ((wsX4_tick.drop 20).take 20) := goodIn_r _ [24, 25, 26, 27, 28, 29, 30, 31, 32, 33, 34, 35, 36, 37, 38, 39, 40, 41, 42, 43] (by decide +kernel) (by decide +kernel)
set_option maxRecDepth 20000 in
theorem ggX4_runTicks_X4_tick_k2 : GoodIn wsX4_runTicks ((wsX4_tick.drop 40).take 20) := goodIn_r _ [44, 45, 46, 47, 48, 49, 50, 51, 52, 53, 54, 55, 56, 57, 58, 59, 60, 61, 62, 63] (by decide +kernel) (by decide +kernel)
set_option maxRecDepth 20000 in
theorem ggX4_runTicks_X4_tick_k3 : GoodIn wsX4_runTicks ((wsX4_tick.drop 60).take 20) := goodIn_r _ [64, 65, 66, 67, 68, 69, 70, 71, 72, 73, 74, 75, 76, 77, 78, 79, 80, 81, 82, 83] (by decide +kernel) (by decide +kernel)
set_option maxRecDepth 20000 in
theorem ggX4_runTicks_X4_tick_k4 : GoodIn wsX4_runTicks ((wsX4_tick.drop 80).take 20) := goodIn_r _ [84, 85, 86, 87, 88, 89, 90, 91, 92, 93, 94, 95, 96, 97, 98, 99, 100, 101, 102, 103] (by decide +kernel) (by decide +kernel)
set_option maxRecDepth 20000 in
theorem ggX4_runTicks_X4_tick_k5 : GoodIn wsX4_runTicks ((wsX4_tick.drop 100).take 20) := goodIn_r _ [104, 105, 106, 107, 108, 109, 110, 111, 112, 113, 114, 115, 116, 117, 118, 119, 120, 121, 122, 123] (by decide +kernel) (by decide +kernel)
set_option maxRecDepth 20000 in
theorem ggX4_runTicks_X4_tick_k6 : GoodIn wsX4_runTicks (wsX4_tick.drop 120) := goodIn_r _ [124, 125] (by decide +kernel) (by decide +kernel)
set_option maxRecDepth 20000 in
theorem ggX4_runTicks_X4_tick : GoodIn wsX4_runTicks wsX4_tick := (goodIn_spl (a := 0) (b := 20) ggX4_runTicks_X4_tick_k0 (goodIn_spl (a := 20) (b := 20) ggX4_runTicks_X4_tick_k1 (goodIn_spl (a := 40) (b := 20) ggX4_runTicks_X4_tick_k2 (goodIn_spl (a := 60) (b := 20) ggX4_runTicks_X4_tick_k3 (goodIn_spl (a := 80) (b := 20) ggX4_runTicks_X4_tick_k4 (goodIn_spl (a := 100) (b := 20) ggX4_runTicks_X4_tick_k5 ggX4_runTicks_X4_tick_k6))))))
set_option maxRecDepth 20000 in
theorem gX4_runTicks_X4_tick : GoodIn wsX4_runTicks (wsV RX4 129 RX4 yX4_tick wsX4_tick) := goodIn_app (goodIn_of _ (by decide +kernel)) ggX4_runTicks_X4_tick
theorem dX4_runTicks_0 : decode cX4_runTicks 0 = .ok (.iload_n 1, 1) := by decide +kernel
theorem dX4_runTicks_1 : decode cX4_runTicks 1 = .ok (.iconst 0, 1) := by decide +kernel
theorem dX4_runTicks_2 : decode cX4_runTicks 2 = .ok (.sipush 10000, 3) := by decide +kernel
theorem dX4_runTicks_5 : decode cX4_runTicks 5 = .ok (.invokestatic 85, 3) := by decide +kernel
theorem dX4_runTicks_8 : decode cX4_runTicks 8 = .ok (.ifCond .ne 6, 3) := by decide +kernel
theorem dX4_runTicks_11 : decode cX4_runTicks 11 = .ok (.bipush (-2), 2) := by decide +kernel
theorem dX4_runTicks_13 : decode cX4_runTicks 13 = .ok (.ireturn, 1) := by decide +kernel
theorem dX4_runTicks_14 : decode cX4_runTicks 14 = .ok (.iconst 0, 1) := by decide +kernel
theorem dX4_runTicks_15 : decode cX4_runTicks 15 = .ok (.istore_n 2, 1) := by decide +kernel
theorem dX4_runTicks_16 : decode cX4_runTicks 16 = .ok (.iconst 0, 1) := by decide +kernel
theorem dX4_runTicks_17 : decode cX4_runTicks 17 = .ok (.istore_n 3, 1) := by decide +kernel
theorem dX4_runTicks_18 : decode cX4_runTicks 18 = .ok (.iload_n 3, 1) := by decide +kernel
theorem dX4_runTicks_19 : decode cX4_runTicks 19 = .ok (.iload_n 1, 1) := by decide +kernel
theorem dX4_runTicks_20 : decode cX4_runTicks 20 = .ok (.if_icmp .ge 24, 3) := by decide +kernel
theorem dX4_runTicks_23 : decode cX4_runTicks 23 = .ok (.aload_n 0, 1) := by decide +kernel
theorem dX4_runTicks_24 : decode cX4_runTicks 24 = .ok (.invokevirtual 129, 3) := by decide +kernel
theorem dX4_runTicks_27 : decode cX4_runTicks 27 = .ok (.ifCond .lt 9, 3) := by decide +kernel
theorem dX4_runTicks_30 : decode cX4_runTicks 30 = .ok (.iload_n 2, 1) := by decide +kernel
theorem dX4_runTicks_31 : decode cX4_runTicks 31 = .ok (.iconst 1, 1) := by decide +kernel
theorem dX4_runTicks_32 : decode cX4_runTicks 32 = .ok (.iadd, 1) := by decide +kernel
theorem dX4_runTicks_33 : decode cX4_runTicks 33 = .ok (.goto 4, 3) := by decide +kernel
theorem dX4_runTicks_36 : decode cX4_runTicks 36 = .ok (.iload_n 2, 1) := by decide +kernel
theorem dX4_runTicks_37 : decode cX4_runTicks 37 = .ok (.istore_n 2, 1) := by decide +kernel
theorem dX4_runTicks_38 : decode cX4_runTicks 38 = .ok (.iinc 3 1, 3) := by decide +kernel
theorem dX4_runTicks_41 : decode cX4_runTicks 41 = .ok (.goto (-23), 3) := by decide +kernel
theorem dX4_runTicks_44 : decode cX4_runTicks 44 = .ok (.iload_n 2, 1) := by decide +kernel
theorem dX4_runTicks_45 : decode cX4_runTicks 45 = .ok (.ireturn, 1) := by decide +kernel
set_option maxRecDepth 20000 in
theorem ggX4_run_X4_in : GoodIn wsX4_run wsX4_in := goodIn_r _ [10] (by decide +kernel) (by decide +kernel)
set_option maxRecDepth 20000 in
theorem gX4_run_X4_in : GoodIn wsX4_run (va_wsS RX4 85 yX4_in wsX4_in) := goodIn_app (goodIn_of _ (by decide +kernel)) ggX4_run_X4_in
set_option maxRecDepth 20000 in
theorem ggX4_run_X4_reckon : GoodIn wsX4_run wsX4_reckon := goodIn_r _ [14, 5, 3, 1, 95, 96, 97, 98, 99, 100, 101, 102, 103, 104, 105, 106, 107, 108, 109, 110, 111, 112, 113, 114, 115, 116] (by decide +kernel) (by decide +kernel)
set_option maxRecDepth 20000 in
theorem gX4_run_X4_reckon : GoodIn wsX4_run (wsV RX4 133 RX4 yX4_reckon wsX4_reckon) := goodIn_app (goodIn_of _ (by decide +kernel)) ggX4_run_X4_reckon
set_option maxRecDepth 20000 in
theorem ggX4_run_X4_act_k0 : GoodIn wsX4_run ((wsX4_act.drop 0).take 20) := goodIn_r _ [18, 5, 19, 20, 21, 22, 3, 23, 24, 25, 9, 26, 27, 28, 29, 30, 31, 32, 33, 34] (by decide +kernel) (by decide +kernel)
set_option maxRecDepth 20000 in
theorem ggX4_run_X4_act_k1 : GoodIn wsX4_run ((wsX4_act.drop 20).take 20) := goodIn_r _ [35, 36, 37, 38, 39, 40, 41, 42, 43, 44, 45, 46, 47, 7, 8, 10, 48, 49, 50, 51] (by decide +kernel) (by decide +kernel)
set_option maxRecDepth 20000 in
theorem ggX4_run_X4_act_k2 : GoodIn wsX4_run ((wsX4_act.drop 40).take 20) := goodIn_r _ [52, 53, 54, 55, 56, 57, 58, 59, 60, 61, 62, 63, 64, 65, 66, 67, 68, 69, 70, 71] (by decide +kernel) (by decide +kernel)
set_option maxRecDepth 20000 in
theorem ggX4_run_X4_act_k3 : GoodIn wsX4_run ((wsX4_act.drop 60).take 20) := goodIn_r _ [1, 72, 73, 74, 75, 76, 77, 78, 79, 80, 81, 82, 83, 84, 85, 86, 87, 88, 89, 90] (by decide +kernel) (by decide +kernel)
set_option maxRecDepth 20000 in
theorem ggX4_run_X4_act_k4 : GoodIn wsX4_run ((wsX4_act.drop 80).take 20) := goodIn_r _ [91, 92, 93, 94, 95, 96, 97, 98, 99, 100, 101, 102, 103, 104, 105, 106, 107, 108, 109, 110] (by decide +kernel) (by decide +kernel)
set_option maxRecDepth 20000 in
theorem ggX4_run_X4_act_k5 : GoodIn wsX4_run (wsX4_act.drop 100) := goodIn_r _ [111, 112, 113, 114, 115, 116] (by decide +kernel) (by decide +kernel)
set_option maxRecDepth 20000 in
theorem ggX4_run_X4_act : GoodIn wsX4_run wsX4_act := (goodIn_spl (a := 0) (b := 20) ggX4_run_X4_act_k0 (goodIn_spl (a := 20) (b := 20) ggX4_run_X4_act_k1 (goodIn_spl (a := 40) (b := 20) ggX4_run_X4_act_k2 (goodIn_spl (a := 60) (b := 20) ggX4_run_X4_act_k3 (goodIn_spl (a := 80) (b := 20) ggX4_run_X4_act_k4 ggX4_run_X4_act_k5)))))
set_option maxRecDepth 20000 in
theorem gX4_run_X4_act : GoodIn wsX4_run (wsV RX4 137 RX4 yX4_act wsX4_act) := goodIn_app (goodIn_of _ (by decide +kernel)) ggX4_run_X4_act
theorem dX4_run_0 : decode cX4_run 0 = .ok (.aload_n 0, 1) := by decide +kernel
theorem dX4_run_1 : decode cX4_run 1 = .ok (.getfield 35, 3) := by decide +kernel
theorem dX4_run_4 : decode cX4_run 4 = .ok (.iload_n 1, 1) := by decide +kernel
theorem dX4_run_5 : decode cX4_run 5 = .ok (.iaload, 1) := by decide +kernel
theorem dX4_run_6 : decode cX4_run 6 = .ok (.istore_n 2, 1) := by decide +kernel
theorem dX4_run_7 : decode cX4_run 7 = .ok (.iload_n 2, 1) := by decide +kernel
theorem dX4_run_8 : decode cX4_run 8 = .ok (.iconst 0, 1) := by decide +kernel
theorem dX4_run_9 : decode cX4_run 9 = .ok (.aload_n 0, 1) := by decide +kernel
theorem dX4_run_10 : decode cX4_run 10 = .ok (.getfield 29, 3) := by decide +kernel
theorem dX4_run_13 : decode cX4_run 13 = .ok (.iload_n 1, 1) := by decide +kernel
theorem dX4_run_14 : decode cX4_run 14 = .ok (.iaload, 1) := by decide +kernel
theorem dX4_run_15 : decode cX4_run 15 = .ok (.iconst 1, 1) := by decide +kernel
theorem dX4_run_16 : decode cX4_run 16 = .ok (.isub, 1) := by decide +kernel
theorem dX4_run_17 : decode cX4_run 17 = .ok (.invokestatic 85, 3) := by decide +kernel
theorem dX4_run_20 : decode cX4_run 20 = .ok (.ifCond .ne 12, 3) := by decide +kernel
theorem dX4_run_23 : decode cX4_run 23 = .ok (.aload_n 0, 1) := by decide +kernel
theorem dX4_run_24 : decode cX4_run 24 = .ok (.getfield 17, 3) := by decide +kernel
theorem dX4_run_27 : decode cX4_run 27 = .ok (.iload_n 1, 1) := by decide +kernel
theorem dX4_run_28 : decode cX4_run 28 = .ok (.bipush 6, 2) := by decide +kernel
theorem dX4_run_30 : decode cX4_run 30 = .ok (.iastore, 1) := by decide +kernel
theorem dX4_run_31 : decode cX4_run 31 = .ok (.return_, 1) := by decide +kernel
theorem dX4_run_32 : decode cX4_run 32 = .ok (.aload_n 0, 1) := by decide +kernel
theorem dX4_run_33 : decode cX4_run 33 = .ok (.getfield 26, 3) := by decide +kernel
theorem dX4_run_36 : decode cX4_run 36 = .ok (.bipush 100, 2) := by decide +kernel
theorem dX4_run_38 : decode cX4_run 38 = .ok (.iload_n 1, 1) := by decide +kernel
theorem dX4_run_39 : decode cX4_run 39 = .ok (.imul, 1) := by decide +kernel
theorem dX4_run_40 : decode cX4_run 40 = .ok (.iload_n 2, 1) := by decide +kernel
theorem dX4_run_41 : decode cX4_run 41 = .ok (.iadd, 1) := by decide +kernel
theorem dX4_run_42 : decode cX4_run 42 = .ok (.iaload, 1) := by decide +kernel
theorem dX4_run_43 : decode cX4_run 43 = .ok (.istore_n 3, 1) := by decide +kernel
theorem dX4_run_44 : decode cX4_run 44 = .ok (.iload_n 3, 1) := by decide +kernel
theorem dX4_run_45 : decode cX4_run 45 = .ok (.sipush 255, 3) := by decide +kernel
theorem dX4_run_48 : decode cX4_run 48 = .ok (.iand, 1) := by decide +kernel
theorem dX4_run_49 : decode cX4_run 49 = .ok (.istore 4, 2) := by decide +kernel
theorem dX4_run_51 : decode cX4_run 51 = .ok (.iload_n 3, 1) := by decide +kernel
theorem dX4_run_52 : decode cX4_run 52 = .ok (.bipush 8, 2) := by decide +kernel
theorem dX4_run_54 : decode cX4_run 54 = .ok (.ishr, 1) := by decide +kernel
theorem dX4_run_55 : decode cX4_run 55 = .ok (.bipush 15, 2) := by decide +kernel
theorem dX4_run_57 : decode cX4_run 57 = .ok (.iand, 1) := by decide +kernel
theorem dX4_run_58 : decode cX4_run 58 = .ok (.istore 5, 2) := by decide +kernel
theorem dX4_run_60 : decode cX4_run 60 = .ok (.iload_n 3, 1) := by decide +kernel
theorem dX4_run_61 : decode cX4_run 61 = .ok (.bipush 12, 2) := by decide +kernel
theorem dX4_run_63 : decode cX4_run 63 = .ok (.ishr, 1) := by decide +kernel
theorem dX4_run_64 : decode cX4_run 64 = .ok (.bipush 15, 2) := by decide +kernel
theorem dX4_run_66 : decode cX4_run 66 = .ok (.iand, 1) := by decide +kernel
theorem dX4_run_67 : decode cX4_run 67 = .ok (.istore 6, 2) := by decide +kernel
theorem dX4_run_69 : decode cX4_run 69 = .ok (.iload 4, 2) := by decide +kernel
theorem dX4_run_71 : decode cX4_run 71 = .ok (.bipush 6, 2) := by decide +kernel
theorem dX4_run_73 : decode cX4_run 73 = .ok (.if_icmp .eq 10, 3) := by decide +kernel
theorem dX4_run_76 : decode cX4_run 76 = .ok (.iload 4, 2) := by decide +kernel
theorem dX4_run_78 : decode cX4_run 78 = .ok (.bipush 7, 2) := by decide +kernel
theorem dX4_run_80 : decode cX4_run 80 = .ok (.if_icmp .ne 7, 3) := by decide +kernel
theorem dX4_run_83 : decode cX4_run 83 = .ok (.iconst 1, 1) := by decide +kernel
theorem dX4_run_84 : decode cX4_run 84 = .ok (.goto 4, 3) := by decide +kernel
theorem dX4_run_87 : decode cX4_run 87 = .ok (.iconst 0, 1) := by decide +kernel
theorem dX4_run_88 : decode cX4_run 88 = .ok (.istore 7, 2) := by decide +kernel
theorem dX4_run_90 : decode cX4_run 90 = .ok (.iload 4, 2) := by decide +kernel
theorem dX4_run_92 : decode cX4_run 92 = .ok (.bipush 24, 2) := by decide +kernel
theorem dX4_run_94 : decode cX4_run 94 = .ok (.if_icmp .gt 37, 3) := by decide +kernel
theorem dX4_run_97 : decode cX4_run 97 = .ok (.iload 5, 2) := by decide +kernel
theorem dX4_run_99 : decode cX4_run 99 = .ok (.bipush 7, 2) := by decide +kernel
theorem dX4_run_101 : decode cX4_run 101 = .ok (.if_icmp .gt 30, 3) := by decide +kernel
theorem dX4_run_104 : decode cX4_run 104 = .ok (.iload 6, 2) := by decide +kernel
theorem dX4_run_106 : decode cX4_run 106 = .ok (.bipush 7, 2) := by decide +kernel
theorem dX4_run_108 : decode cX4_run 108 = .ok (.if_icmp .gt 23, 3) := by decide +kernel
theorem dX4_run_111 : decode cX4_run 111 = .ok (.iload 7, 2) := by decide +kernel
theorem dX4_run_113 : decode cX4_run 113 = .ok (.ifCond .eq 27, 3) := by decide +kernel
theorem dX4_run_116 : decode cX4_run 116 = .ok (.aload_n 0, 1) := by decide +kernel
theorem dX4_run_117 : decode cX4_run 117 = .ok (.getfield 32, 3) := by decide +kernel
theorem dX4_run_120 : decode cX4_run 120 = .ok (.bipush 8, 2) := by decide +kernel
theorem dX4_run_122 : decode cX4_run 122 = .ok (.iload_n 1, 1) := by decide +kernel
theorem dX4_run_123 : decode cX4_run 123 = .ok (.imul, 1) := by decide +kernel
theorem dX4_run_124 : decode cX4_run 124 = .ok (.iload 6, 2) := by decide +kernel
theorem dX4_run_126 : decode cX4_run 126 = .ok (.iadd, 1) := by decide +kernel
theorem dX4_run_127 : decode cX4_run 127 = .ok (.iaload, 1) := by decide +kernel
theorem dX4_run_128 : decode cX4_run 128 = .ok (.ifCond .ne 12, 3) := by decide +kernel
theorem dX4_run_131 : decode cX4_run 131 = .ok (.aload_n 0, 1) := by decide +kernel
theorem dX4_run_132 : decode cX4_run 132 = .ok (.getfield 17, 3) := by decide +kernel
theorem dX4_run_135 : decode cX4_run 135 = .ok (.iload_n 1, 1) := by decide +kernel
theorem dX4_run_136 : decode cX4_run 136 = .ok (.bipush 6, 2) := by decide +kernel
theorem dX4_run_138 : decode cX4_run 138 = .ok (.iastore, 1) := by decide +kernel
theorem dX4_run_139 : decode cX4_run 139 = .ok (.return_, 1) := by decide +kernel
theorem dX4_run_140 : decode cX4_run 140 = .ok (.aload_n 0, 1) := by decide +kernel
theorem dX4_run_141 : decode cX4_run 141 = .ok (.getfield 50, 3) := by decide +kernel
theorem dX4_run_144 : decode cX4_run 144 = .ok (.iload_n 1, 1) := by decide +kernel
theorem dX4_run_145 : decode cX4_run 145 = .ok (.dup2, 1) := by decide +kernel
theorem dX4_run_146 : decode cX4_run 146 = .ok (.iaload, 1) := by decide +kernel
theorem dX4_run_147 : decode cX4_run 147 = .ok (.iconst 1, 1) := by decide +kernel
theorem dX4_run_148 : decode cX4_run 148 = .ok (.iadd, 1) := by decide +kernel
theorem dX4_run_149 : decode cX4_run 149 = .ok (.iastore, 1) := by decide +kernel
theorem dX4_run_150 : decode cX4_run 150 = .ok (.aload_n 0, 1) := by decide +kernel
theorem dX4_run_151 : decode cX4_run 151 = .ok (.getfield 35, 3) := by decide +kernel
theorem dX4_run_154 : decode cX4_run 154 = .ok (.iload_n 1, 1) := by decide +kernel
theorem dX4_run_155 : decode cX4_run 155 = .ok (.iload_n 2, 1) := by decide +kernel
theorem dX4_run_156 : decode cX4_run 156 = .ok (.iconst 1, 1) := by decide +kernel
theorem dX4_run_157 : decode cX4_run 157 = .ok (.iadd, 1) := by decide +kernel
theorem dX4_run_158 : decode cX4_run 158 = .ok (.iastore, 1) := by decide +kernel
theorem dX4_run_159 : decode cX4_run 159 = .ok (.iload 4, 2) := by decide +kernel
theorem dX4_run_161 : decode cX4_run 161 = .ok (.bipush 13, 2) := by decide +kernel
theorem dX4_run_163 : decode cX4_run 163 = .ok (.if_icmp .ge 31, 3) := by decide +kernel
theorem dX4_run_166 : decode cX4_run 166 = .ok (.aload_n 0, 1) := by decide +kernel
theorem dX4_run_167 : decode cX4_run 167 = .ok (.iload_n 1, 1) := by decide +kernel
theorem dX4_run_168 : decode cX4_run 168 = .ok (.iload 4, 2) := by decide +kernel
theorem dX4_run_170 : decode cX4_run 170 = .ok (.bipush 8, 2) := by decide +kernel
theorem dX4_run_172 : decode cX4_run 172 = .ok (.iload_n 1, 1) := by decide +kernel
theorem dX4_run_173 : decode cX4_run 173 = .ok (.imul, 1) := by decide +kernel
theorem dX4_run_174 : decode cX4_run 174 = .ok (.iload 5, 2) := by decide +kernel
theorem dX4_run_176 : decode cX4_run 176 = .ok (.iadd, 1) := by decide +kernel
theorem dX4_run_177 : decode cX4_run 177 = .ok (.bipush 8, 2) := by decide +kernel
theorem dX4_run_179 : decode cX4_run 179 = .ok (.iload_n 1, 1) := by decide +kernel
theorem dX4_run_180 : decode cX4_run 180 = .ok (.imul, 1) := by decide +kernel
theorem dX4_run_181 : decode cX4_run 181 = .ok (.iload 6, 2) := by decide +kernel
theorem dX4_run_183 : decode cX4_run 183 = .ok (.iadd, 1) := by decide +kernel
theorem dX4_run_184 : decode cX4_run 184 = .ok (.iload_n 3, 1) := by decide +kernel
theorem dX4_run_185 : decode cX4_run 185 = .ok (.bipush 16, 2) := by decide +kernel
theorem dX4_run_187 : decode cX4_run 187 = .ok (.ishr, 1) := by decide +kernel
theorem dX4_run_188 : decode cX4_run 188 = .ok (.invokevirtual 133, 3) := by decide +kernel
theorem dX4_run_191 : decode cX4_run 191 = .ok (.goto 24, 3) := by decide +kernel
theorem dX4_run_194 : decode cX4_run 194 = .ok (.aload_n 0, 1) := by decide +kernel
theorem dX4_run_195 : decode cX4_run 195 = .ok (.iload_n 1, 1) := by decide +kernel
theorem dX4_run_196 : decode cX4_run 196 = .ok (.iload 4, 2) := by decide +kernel
theorem dX4_run_198 : decode cX4_run 198 = .ok (.bipush 8, 2) := by decide +kernel
theorem dX4_run_200 : decode cX4_run 200 = .ok (.iload_n 1, 1) := by decide +kernel
theorem dX4_run_201 : decode cX4_run 201 = .ok (.imul, 1) := by decide +kernel
theorem dX4_run_202 : decode cX4_run 202 = .ok (.iload 5, 2) := by decide +kernel
theorem dX4_run_204 : decode cX4_run 204 = .ok (.iadd, 1) := by decide +kernel
theorem dX4_run_205 : decode cX4_run 205 = .ok (.bipush 8, 2) := by decide +kernel
theorem dX4_run_207 : decode cX4_run 207 = .ok (.iload_n 1, 1) := by decide +kernel
theorem dX4_run_208 : decode cX4_run 208 = .ok (.imul, 1) := by decide +kernel
theorem dX4_run_209 : decode cX4_run 209 = .ok (.iload 6, 2) := by decide +kernel
theorem dX4_run_211 : decode cX4_run 211 = .ok (.iadd, 1) := by decide +kernel
theorem dX4_run_212 : decode cX4_run 212 = .ok (.invokevirtual 137, 3) := by decide +kernel
theorem dX4_run_215 : decode cX4_run 215 = .ok (.return_, 1) := by decide +kernel
theorem dX4_reckon_0 : decode cX4_reckon 0 = .ok (.aload_n 0, 1) := by decide +kernel
theorem dX4_reckon_1 : decode cX4_reckon 1 = .ok (.getfield 32, 3) := by decide +kernel
theorem dX4_reckon_4 : decode cX4_reckon 4 = .ok (.iload_n 3, 1) := by decide +kernel
theorem dX4_reckon_5 : decode cX4_reckon 5 = .ok (.iaload, 1) := by decide +kernel
theorem dX4_reckon_6 : decode cX4_reckon 6 = .ok (.istore 6, 2) := by decide +kernel
theorem dX4_reckon_8 : decode cX4_reckon 8 = .ok (.aload_n 0, 1) := by decide +kernel
theorem dX4_reckon_9 : decode cX4_reckon 9 = .ok (.getfield 32, 3) := by decide +kernel
theorem dX4_reckon_12 : decode cX4_reckon 12 = .ok (.iload 4, 2) := by decide +kernel
theorem dX4_reckon_14 : decode cX4_reckon 14 = .ok (.iaload, 1) := by decide +kernel
theorem dX4_reckon_15 : decode cX4_reckon 15 = .ok (.istore 7, 2) := by decide +kernel
theorem dX4_reckon_17 : decode cX4_reckon 17 = .ok (.iload_n 2, 1) := by decide +kernel
theorem dX4_reckon_18 : decode cX4_reckon 18 = .ok (.tableswitch 220 0 9 #[54, 64, 75, 86, 100, 114, 128, 154, 178, 199], 54) := by decide +kernel
theorem dX4_reckon_72 : decode cX4_reckon 72 = .ok (.aload_n 0, 1) := by decide +kernel
theorem dX4_reckon_73 : decode cX4_reckon 73 = .ok (.getfield 17, 3) := by decide +kernel
theorem dX4_reckon_76 : decode cX4_reckon 76 = .ok (.iload_n 1, 1) := by decide +kernel
theorem dX4_reckon_77 : decode cX4_reckon 77 = .ok (.iconst 5, 1) := by decide +kernel
theorem dX4_reckon_78 : decode cX4_reckon 78 = .ok (.iastore, 1) := by decide +kernel
theorem dX4_reckon_79 : decode cX4_reckon 79 = .ok (.goto 204, 3) := by decide +kernel
theorem dX4_reckon_82 : decode cX4_reckon 82 = .ok (.aload_n 0, 1) := by decide +kernel
theorem dX4_reckon_83 : decode cX4_reckon 83 = .ok (.getfield 32, 3) := by decide +kernel
theorem dX4_reckon_86 : decode cX4_reckon 86 = .ok (.iload_n 3, 1) := by decide +kernel
theorem dX4_reckon_87 : decode cX4_reckon 87 = .ok (.iload 5, 2) := by decide +kernel
theorem dX4_reckon_89 : decode cX4_reckon 89 = .ok (.iastore, 1) := by decide +kernel
theorem dX4_reckon_90 : decode cX4_reckon 90 = .ok (.goto 193, 3) := by decide +kernel
theorem dX4_reckon_93 : decode cX4_reckon 93 = .ok (.aload_n 0, 1) := by decide +kernel
theorem dX4_reckon_94 : decode cX4_reckon 94 = .ok (.getfield 32, 3) := by decide +kernel
theorem dX4_reckon_97 : decode cX4_reckon 97 = .ok (.iload_n 3, 1) := by decide +kernel
theorem dX4_reckon_98 : decode cX4_reckon 98 = .ok (.iload 7, 2) := by decide +kernel
theorem dX4_reckon_100 : decode cX4_reckon 100 = .ok (.iastore, 1) := by decide +kernel
theorem dX4_reckon_101 : decode cX4_reckon 101 = .ok (.goto 182, 3) := by decide +kernel
theorem dX4_reckon_104 : decode cX4_reckon 104 = .ok (.aload_n 0, 1) := by decide +kernel
theorem dX4_reckon_105 : decode cX4_reckon 105 = .ok (.getfield 32, 3) := by decide +kernel
theorem dX4_reckon_108 : decode cX4_reckon 108 = .ok (.iload_n 3, 1) := by decide +kernel
theorem dX4_reckon_109 : decode cX4_reckon 109 = .ok (.iload 6, 2) := by decide +kernel
theorem dX4_reckon_111 : decode cX4_reckon 111 = .ok (.iload 7, 2) := by decide +kernel
theorem dX4_reckon_113 : decode cX4_reckon 113 = .ok (.iadd, 1) := by decide +kernel
theorem dX4_reckon_114 : decode cX4_reckon 114 = .ok (.iastore, 1) := by decide +kernel
theorem dX4_reckon_115 : decode cX4_reckon 115 = .ok (.goto 168, 3) := by decide +kernel
theorem dX4_reckon_118 : decode cX4_reckon 118 = .ok (.aload_n 0, 1) := by decide +kernel
theorem dX4_reckon_119 : decode cX4_reckon 119 = .ok (.getfield 32, 3) := by decide +kernel
theorem dX4_reckon_122 : decode cX4_reckon 122 = .ok (.iload_n 3, 1) := by decide +kernel
theorem dX4_reckon_123 : decode cX4_reckon 123 = .ok (.iload 6, 2) := by decide +kernel
theorem dX4_reckon_125 : decode cX4_reckon 125 = .ok (.iload 7, 2) := by decide +kernel
theorem dX4_reckon_127 : decode cX4_reckon 127 = .ok (.isub, 1) := by decide +kernel
theorem dX4_reckon_128 : decode cX4_reckon 128 = .ok (.iastore, 1) := by decide +kernel
theorem dX4_reckon_129 : decode cX4_reckon 129 = .ok (.goto 154, 3) := by decide +kernel
theorem dX4_reckon_132 : decode cX4_reckon 132 = .ok (.aload_n 0, 1) := by decide +kernel
theorem dX4_reckon_133 : decode cX4_reckon 133 = .ok (.getfield 32, 3) := by decide +kernel
theorem dX4_reckon_136 : decode cX4_reckon 136 = .ok (.iload_n 3, 1) := by decide +kernel
theorem dX4_reckon_137 : decode cX4_reckon 137 = .ok (.iload 6, 2) := by decide +kernel
theorem dX4_reckon_139 : decode cX4_reckon 139 = .ok (.iload 7, 2) := by decide +kernel
theorem dX4_reckon_141 : decode cX4_reckon 141 = .ok (.imul, 1) := by decide +kernel
theorem dX4_reckon_142 : decode cX4_reckon 142 = .ok (.iastore, 1) := by decide +kernel
theorem dX4_reckon_143 : decode cX4_reckon 143 = .ok (.goto 140, 3) := by decide +kernel
theorem dX4_reckon_146 : decode cX4_reckon 146 = .ok (.aload_n 0, 1) := by decide +kernel
theorem dX4_reckon_147 : decode cX4_reckon 147 = .ok (.getfield 32, 3) := by decide +kernel
theorem dX4_reckon_150 : decode cX4_reckon 150 = .ok (.iload_n 3, 1) := by decide +kernel
theorem dX4_reckon_151 : decode cX4_reckon 151 = .ok (.iload 7, 2) := by decide +kernel
theorem dX4_reckon_153 : decode cX4_reckon 153 = .ok (.iconst (-1), 1) := by decide +kernel
theorem dX4_reckon_154 : decode cX4_reckon 154 = .ok (.if_icmp .ne 9, 3) := by decide +kernel
theorem dX4_reckon_157 : decode cX4_reckon 157 = .ok (.iload 6, 2) := by decide +kernel
theorem dX4_reckon_159 : decode cX4_reckon 159 = .ok (.ineg, 1) := by decide +kernel
theorem dX4_reckon_160 : decode cX4_reckon 160 = .ok (.goto 8, 3) := by decide +kernel
theorem dX4_reckon_163 : decode cX4_reckon 163 = .ok (.iload 6, 2) := by decide +kernel
theorem dX4_reckon_165 : decode cX4_reckon 165 = .ok (.iload 7, 2) := by decide +kernel
theorem dX4_reckon_167 : decode cX4_reckon 167 = .ok (.idiv, 1) := by decide +kernel
theorem dX4_reckon_168 : decode cX4_reckon 168 = .ok (.iastore, 1) := by decide +kernel
theorem dX4_reckon_169 : decode cX4_reckon 169 = .ok (.goto 114, 3) := by decide +kernel
theorem dX4_reckon_172 : decode cX4_reckon 172 = .ok (.aload_n 0, 1) := by decide +kernel
theorem dX4_reckon_173 : decode cX4_reckon 173 = .ok (.getfield 32, 3) := by decide +kernel
theorem dX4_reckon_176 : decode cX4_reckon 176 = .ok (.iload_n 3, 1) := by decide +kernel
theorem dX4_reckon_177 : decode cX4_reckon 177 = .ok (.iload 7, 2) := by decide +kernel
theorem dX4_reckon_179 : decode cX4_reckon 179 = .ok (.iconst (-1), 1) := by decide +kernel
theorem dX4_reckon_180 : decode cX4_reckon 180 = .ok (.if_icmp .ne 7, 3) := by decide +kernel
theorem dX4_reckon_183 : decode cX4_reckon 183 = .ok (.iconst 0, 1) := by decide +kernel
theorem dX4_reckon_184 : decode cX4_reckon 184 = .ok (.goto 8, 3) := by decide +kernel
theorem dX4_reckon_187 : decode cX4_reckon 187 = .ok (.iload 6, 2) := by decide +kernel
theorem dX4_reckon_189 : decode cX4_reckon 189 = .ok (.iload 7, 2) := by decide +kernel
theorem dX4_reckon_191 : decode cX4_reckon 191 = .ok (.irem, 1) := by decide +kernel
theorem dX4_reckon_192 : decode cX4_reckon 192 = .ok (.iastore, 1) := by decide +kernel
theorem dX4_reckon_193 : decode cX4_reckon 193 = .ok (.goto 90, 3) := by decide +kernel
theorem dX4_reckon_196 : decode cX4_reckon 196 = .ok (.aload_n 0, 1) := by decide +kernel
theorem dX4_reckon_197 : decode cX4_reckon 197 = .ok (.getfield 32, 3) := by decide +kernel
theorem dX4_reckon_200 : decode cX4_reckon 200 = .ok (.iload_n 3, 1) := by decide +kernel
theorem dX4_reckon_201 : decode cX4_reckon 201 = .ok (.iload 6, 2) := by decide +kernel
theorem dX4_reckon_203 : decode cX4_reckon 203 = .ok (.iload 7, 2) := by decide +kernel
theorem dX4_reckon_205 : decode cX4_reckon 205 = .ok (.if_icmp .ge 7, 3) := by decide +kernel
theorem dX4_reckon_208 : decode cX4_reckon 208 = .ok (.iconst 1, 1) := by decide +kernel
theorem dX4_reckon_209 : decode cX4_reckon 209 = .ok (.goto 4, 3) := by decide +kernel
theorem dX4_reckon_212 : decode cX4_reckon 212 = .ok (.iconst 0, 1) := by decide +kernel
theorem dX4_reckon_213 : decode cX4_reckon 213 = .ok (.iastore, 1) := by decide +kernel
theorem dX4_reckon_214 : decode cX4_reckon 214 = .ok (.goto 69, 3) := by decide +kernel
theorem dX4_reckon_217 : decode cX4_reckon 217 = .ok (.aload_n 0, 1) := by decide +kernel
theorem dX4_reckon_218 : decode cX4_reckon 218 = .ok (.getfield 32, 3) := by decide +kernel
theorem dX4_reckon_221 : decode cX4_reckon 221 = .ok (.iload_n 3, 1) := by decide +kernel
theorem dX4_reckon_222 : decode cX4_reckon 222 = .ok (.iload 6, 2) := by decide +kernel
theorem dX4_reckon_224 : decode cX4_reckon 224 = .ok (.iload 7, 2) := by decide +kernel
theorem dX4_reckon_226 : decode cX4_reckon 226 = .ok (.if_icmp .ne 7, 3) := by decide +kernel
theorem dX4_reckon_229 : decode cX4_reckon 229 = .ok (.iconst 1, 1) := by decide +kernel
theorem dX4_reckon_230 : decode cX4_reckon 230 = .ok (.goto 4, 3) := by decide +kernel
theorem dX4_reckon_233 : decode cX4_reckon 233 = .ok (.iconst 0, 1) := by decide +kernel
theorem dX4_reckon_234 : decode cX4_reckon 234 = .ok (.iastore, 1) := by decide +kernel
theorem dX4_reckon_235 : decode cX4_reckon 235 = .ok (.goto 48, 3) := by decide +kernel
theorem dX4_reckon_238 : decode cX4_reckon 238 = .ok (.aload_n 0, 1) := by decide +kernel
theorem dX4_reckon_239 : decode cX4_reckon 239 = .ok (.getfield 35, 3) := by decide +kernel
theorem dX4_reckon_242 : decode cX4_reckon 242 = .ok (.iload_n 1, 1) := by decide +kernel
theorem dX4_reckon_243 : decode cX4_reckon 243 = .ok (.iload_n 2, 1) := by decide +kernel
theorem dX4_reckon_244 : decode cX4_reckon 244 = .ok (.bipush 10, 2) := by decide +kernel
theorem dX4_reckon_246 : decode cX4_reckon 246 = .ok (.if_icmp .eq 25, 3) := by decide +kernel
theorem dX4_reckon_249 : decode cX4_reckon 249 = .ok (.iload_n 2, 1) := by decide +kernel
theorem dX4_reckon_250 : decode cX4_reckon 250 = .ok (.bipush 11, 2) := by decide +kernel
theorem dX4_reckon_252 : decode cX4_reckon 252 = .ok (.if_icmp .ne 8, 3) := by decide +kernel
theorem dX4_reckon_255 : decode cX4_reckon 255 = .ok (.iload 6, 2) := by decide +kernel
theorem dX4_reckon_257 : decode cX4_reckon 257 = .ok (.ifCond .eq 14, 3) := by decide +kernel
theorem dX4_reckon_260 : decode cX4_reckon 260 = .ok (.iload_n 2, 1) := by decide +kernel
theorem dX4_reckon_261 : decode cX4_reckon 261 = .ok (.bipush 12, 2) := by decide +kernel
theorem dX4_reckon_263 : decode cX4_reckon 263 = .ok (.if_icmp .ne 13, 3) := by decide +kernel
theorem dX4_reckon_266 : decode cX4_reckon 266 = .ok (.iload 6, 2) := by decide +kernel
theorem dX4_reckon_268 : decode cX4_reckon 268 = .ok (.ifCond .eq 8, 3) := by decide +kernel
theorem dX4_reckon_271 : decode cX4_reckon 271 = .ok (.iload 5, 2) := by decide +kernel
theorem dX4_reckon_273 : decode cX4_reckon 273 = .ok (.goto 9, 3) := by decide +kernel
theorem dX4_reckon_276 : decode cX4_reckon 276 = .ok (.aload_n 0, 1) := by decide +kernel
theorem dX4_reckon_277 : decode cX4_reckon 277 = .ok (.getfield 35, 3) := by decide +kernel
theorem dX4_reckon_280 : decode cX4_reckon 280 = .ok (.iload_n 1, 1) := by decide +kernel
theorem dX4_reckon_281 : decode cX4_reckon 281 = .ok (.iaload, 1) := by decide +kernel
theorem dX4_reckon_282 : decode cX4_reckon 282 = .ok (.iastore, 1) := by decide +kernel
theorem dX4_reckon_283 : decode cX4_reckon 283 = .ok (.return_, 1) := by decide +kernel
set_option maxRecDepth 20000 in
theorem ggX4_act_X4_square : GoodIn wsX4_act wsX4_square := goodIn_r _ [11] (by decide +kernel) (by decide +kernel)
set_option maxRecDepth 20000 in
theorem gX4_act_X4_square : GoodIn wsX4_act (va_wsS RX4 97 yX4_square wsX4_square) := goodIn_app (goodIn_of _ (by decide +kernel)) ggX4_act_X4_square
set_option maxRecDepth 20000 in
theorem ggX4_act_X4_go_k0 : GoodIn wsX4_act ((wsX4_go.drop 0).take 20) := goodIn_r _ [15, 2, 3, 16, 17, 10, 18, 19, 20, 21, 22, 23, 24, 25, 26, 27, 28, 29, 30, 31] (by decide +kernel) (by decide +kernel)
set_option maxRecDepth 20000 in
theorem ggX4_act_X4_go_k1 : GoodIn wsX4_act ((wsX4_go.drop 20).take 20) := goodIn_r _ [32, 33, 34, 35, 8, 9, 11, 36, 37, 38, 39, 40, 6, 84, 85, 86, 87, 88, 89, 90] (by decide +kernel) (by decide +kernel)
set_option maxRecDepth 20000 in
theorem ggX4_act_X4_go_k2 : GoodIn wsX4_act (wsX4_go.drop 40) := goodIn_r _ [91, 92, 93, 94, 95, 96, 97, 98, 99, 100, 101, 102, 103, 104, 105] (by decide +kernel) (by decide +kernel)
set_option maxRecDepth 20000 in
theorem ggX4_act_X4_go : GoodIn wsX4_act wsX4_go := (goodIn_spl (a := 0) (b := 20) ggX4_act_X4_go_k0 (goodIn_spl (a := 20) (b := 20) ggX4_act_X4_go_k1 ggX4_act_X4_go_k2))
set_option maxRecDepth 20000 in
theorem gX4_act_X4_go : GoodIn wsX4_act (wsV RX4 141 RX4 yX4_go wsX4_go) := goodIn_app (goodIn_of _ (by decide +kernel)) ggX4_act_X4_go
set_option maxRecDepth 20000 in
theorem ggX4_act_X4_besideX : GoodIn wsX4_act wsX4_besideX := goodIn_r _ [18] (by decide +kernel) (by decide +kernel)
set_option maxRecDepth 20000 in
theorem gX4_act_X4_besideX : GoodIn wsX4_act (va_wsS RX4 108 yX4_besideX wsX4_besideX) := goodIn_app (goodIn_of _ (by decide +kernel)) ggX4_act_X4_besideX
set_option maxRecDepth 20000 in
theorem ggX4_act_X4_besideY : GoodIn wsX4_act wsX4_besideY := goodIn_r _ [21] (by decide +kernel) (by decide +kernel)
set_option maxRecDepth 20000 in
theorem gX4_act_X4_besideY : GoodIn wsX4_act (va_wsS RX4 111 yX4_besideY wsX4_besideY) := goodIn_app (goodIn_of _ (by decide +kernel)) ggX4_act_X4_besideY
set_option maxRecDepth 20000 in
theorem ggX4_act_X4_at_k0 : GoodIn wsX4_act ((wsX4_at.drop 0).take 20) := goodIn_r _ [44, 26, 4, 27, 28, 29, 10, 30, 31, 32, 33, 34, 35, 8, 9, 11, 36, 37, 38, 39] (by decide +kernel) (by decide +kernel)
set_option maxRecDepth 20000 in
theorem ggX4_act_X4_at_k1 : GoodIn wsX4_act ((wsX4_at.drop 20).take 20) := goodIn_r _ [40, 6, 2, 3, 84, 85, 86, 87, 88, 89, 90, 91, 92, 93, 94, 95, 96, 97, 98, 99] (by decide +kernel) (by decide +kernel)
set_option maxRecDepth 20000 in
theorem ggX4_act_X4_at_k2 : GoodIn wsX4_act (wsX4_at.drop 40) := goodIn_r _ [100, 101, 102, 103, 104, 105] (by decide +kernel) (by decide +kernel)
set_option maxRecDepth 20000 in
theorem ggX4_act_X4_at : GoodIn wsX4_act wsX4_at := (goodIn_spl (a := 0) (b := 20) ggX4_act_X4_at_k0 (goodIn_spl (a := 20) (b := 20) ggX4_act_X4_at_k1 ggX4_act_X4_at_k2))
set_option maxRecDepth 20000 in
theorem gX4_act_X4_at : GoodIn wsX4_act (wsV RX4 144 RX4 yX4_at wsX4_at) := goodIn_app (goodIn_of _ (by decide +kernel)) ggX4_act_X4_at
set_option maxRecDepth 20000 in
theorem ggX4_act_X4_send : GoodIn wsX4_act wsX4_send := goodIn_r _ [48, 6, 49, 50, 51, 52, 53, 54, 10, 55, 40, 33, 34, 35, 84, 85, 86, 87, 88, 89, 90, 91, 92, 93, 94, 95, 96, 97, 98, 99, 100, 101, 102, 103, 104, 105] (by decide +kernel) (by decide +kernel)
set_option maxRecDepth 20000 in
theorem gX4_act_X4_send : GoodIn wsX4_act (wsV RX4 147 RX4 yX4_send wsX4_send) := goodIn_app (goodIn_of _ (by decide +kernel)) ggX4_act_X4_send
set_option maxRecDepth 20000 in
theorem ggX4_act_X4_receive : GoodIn wsX4_act wsX4_receive := goodIn_r _ [59, 49, 6, 60, 1, 51, 84, 85, 86, 87, 88, 89, 90, 91, 92, 93, 94, 95, 96, 97, 98, 99, 100, 101, 102, 103, 104, 105] (by decide +kernel) (by decide +kernel)
set_option maxRecDepth 20000 in
theorem gX4_act_X4_receive : GoodIn wsX4_act (wsV RX4 150 RX4 yX4_receive wsX4_receive) := goodIn_app (goodIn_of _ (by decide +kernel)) ggX4_act_X4_receive
set_option maxRecDepth 20000 in
theorem ggX4_act_X4_tell_k0 : GoodIn wsX4_act ((wsX4_tell.drop 0).take 20) := goodIn_r _ [64, 1, 2, 3, 65, 5, 66, 67, 68, 10, 69, 70, 71, 72, 73, 74, 75, 22, 23, 24] (by decide +kernel) (by decide +kernel)
set_option maxRecDepth 20000 in
theorem ggX4_act_X4_tell_k1 : GoodIn wsX4_act ((wsX4_tell.drop 20).take 20) := goodIn_r _ [25, 26, 27, 28, 29, 30, 31, 32, 33, 34, 35, 8, 9, 11, 76, 77, 78, 79, 80, 81] (by decide +kernel) (by decide +kernel)
set_option maxRecDepth 20000 in
theorem ggX4_act_X4_tell_k2 : GoodIn wsX4_act ((wsX4_tell.drop 40).take 20) := goodIn_r _ [82, 83, 16, 17, 18, 19, 20, 21, 84, 85, 86, 87, 88, 89, 90, 91, 92, 93, 94, 95] (by decide +kernel) (by decide +kernel)
set_option maxRecDepth 20000 in
theorem ggX4_act_X4_tell_k3 : GoodIn wsX4_act (wsX4_tell.drop 60) := goodIn_r _ [96, 97, 98, 99, 100, 101, 102, 103, 104, 105] (by decide +kernel) (by decide +kernel)
set_option maxRecDepth 20000 in
theorem ggX4_act_X4_tell : GoodIn wsX4_act wsX4_tell := (goodIn_spl (a := 0) (b := 20) ggX4_act_X4_tell_k0 (goodIn_spl (a := 20) (b := 20) ggX4_act_X4_tell_k1 (goodIn_spl (a := 40) (b := 20) ggX4_act_X4_tell_k2 ggX4_act_X4_tell_k3)))
set_option maxRecDepth 20000 in
theorem gX4_act_X4_tell : GoodIn wsX4_act (wsV RX4 153 RX4 yX4_tell wsX4_tell) := goodIn_app (goodIn_of _ (by decide +kernel)) ggX4_act_X4_tell
theorem dX4_act_0 : decode cX4_act 0 = .ok (.aload_n 0, 1) := by decide +kernel
theorem dX4_act_1 : decode cX4_act 1 = .ok (.getfield 32, 3) := by decide +kernel
theorem dX4_act_4 : decode cX4_act 4 = .ok (.iload_n 3, 1) := by decide +kernel
theorem dX4_act_5 : decode cX4_act 5 = .ok (.iaload, 1) := by decide +kernel
theorem dX4_act_6 : decode cX4_act 6 = .ok (.istore 5, 2) := by decide +kernel
theorem dX4_act_8 : decode cX4_act 8 = .ok (.aload_n 0, 1) := by decide +kernel
theorem dX4_act_9 : decode cX4_act 9 = .ok (.getfield 32, 3) := by decide +kernel
theorem dX4_act_12 : decode cX4_act 12 = .ok (.iload 4, 2) := by decide +kernel
theorem dX4_act_14 : decode cX4_act 14 = .ok (.iaload, 1) := by decide +kernel
theorem dX4_act_15 : decode cX4_act 15 = .ok (.istore 6, 2) := by decide +kernel
theorem dX4_act_17 : decode cX4_act 17 = .ok (.aload_n 0, 1) := by decide +kernel
theorem dX4_act_18 : decode cX4_act 18 = .ok (.getfield 20, 3) := by decide +kernel
theorem dX4_act_21 : decode cX4_act 21 = .ok (.iload_n 1, 1) := by decide +kernel
theorem dX4_act_22 : decode cX4_act 22 = .ok (.iaload, 1) := by decide +kernel
theorem dX4_act_23 : decode cX4_act 23 = .ok (.aload_n 0, 1) := by decide +kernel
theorem dX4_act_24 : decode cX4_act 24 = .ok (.getfield 23, 3) := by decide +kernel
theorem dX4_act_27 : decode cX4_act 27 = .ok (.iload_n 1, 1) := by decide +kernel
theorem dX4_act_28 : decode cX4_act 28 = .ok (.iaload, 1) := by decide +kernel
theorem dX4_act_29 : decode cX4_act 29 = .ok (.invokestatic 97, 3) := by decide +kernel
theorem dX4_act_32 : decode cX4_act 32 = .ok (.istore 7, 2) := by decide +kernel
theorem dX4_act_34 : decode cX4_act 34 = .ok (.iload_n 2, 1) := by decide +kernel
theorem dX4_act_35 : decode cX4_act 35 = .ok (.tableswitch 382 13 19 #[41, 60, 100, 206, 312, 337, 346], 41) := by decide +kernel
theorem dX4_act_76 : decode cX4_act 76 = .ok (.aload_n 0, 1) := by decide +kernel
theorem dX4_act_77 : decode cX4_act 77 = .ok (.getfield 32, 3) := by decide +kernel
theorem dX4_act_80 : decode cX4_act 80 = .ok (.iload 4, 2) := by decide +kernel
theorem dX4_act_82 : decode cX4_act 82 = .ok (.aload_n 0, 1) := by decide +kernel
theorem dX4_act_83 : decode cX4_act 83 = .ok (.iload_n 1, 1) := by decide +kernel
theorem dX4_act_84 : decode cX4_act 84 = .ok (.iload 5, 2) := by decide +kernel
theorem dX4_act_86 : decode cX4_act 86 = .ok (.iconst 3, 1) := by decide +kernel
theorem dX4_act_87 : decode cX4_act 87 = .ok (.iand, 1) := by decide +kernel
theorem dX4_act_88 : decode cX4_act 88 = .ok (.invokevirtual 141, 3) := by decide +kernel
theorem dX4_act_91 : decode cX4_act 91 = .ok (.iastore, 1) := by decide +kernel
theorem dX4_act_92 : decode cX4_act 92 = .ok (.goto 334, 3) := by decide +kernel
theorem dX4_act_95 : decode cX4_act 95 = .ok (.aload_n 0, 1) := by decide +kernel
theorem dX4_act_96 : decode cX4_act 96 = .ok (.getfield 32, 3) := by decide +kernel
theorem dX4_act_99 : decode cX4_act 99 = .ok (.iload 4, 2) := by decide +kernel
theorem dX4_act_101 : decode cX4_act 101 = .ok (.aload_n 0, 1) := by decide +kernel
theorem dX4_act_102 : decode cX4_act 102 = .ok (.aload_n 0, 1) := by decide +kernel
theorem dX4_act_103 : decode cX4_act 103 = .ok (.getfield 20, 3) := by decide +kernel
theorem dX4_act_106 : decode cX4_act 106 = .ok (.iload_n 1, 1) := by decide +kernel
theorem dX4_act_107 : decode cX4_act 107 = .ok (.iaload, 1) := by decide +kernel
theorem dX4_act_108 : decode cX4_act 108 = .ok (.iload 5, 2) := by decide +kernel
theorem dX4_act_110 : decode cX4_act 110 = .ok (.iconst 3, 1) := by decide +kernel
theorem dX4_act_111 : decode cX4_act 111 = .ok (.iand, 1) := by decide +kernel
theorem dX4_act_112 : decode cX4_act 112 = .ok (.invokestatic 108, 3) := by decide +kernel
theorem dX4_act_115 : decode cX4_act 115 = .ok (.aload_n 0, 1) := by decide +kernel
theorem dX4_act_116 : decode cX4_act 116 = .ok (.getfield 23, 3) := by decide +kernel
theorem dX4_act_119 : decode cX4_act 119 = .ok (.iload_n 1, 1) := by decide +kernel
theorem dX4_act_120 : decode cX4_act 120 = .ok (.iaload, 1) := by decide +kernel
theorem dX4_act_121 : decode cX4_act 121 = .ok (.iload 5, 2) := by decide +kernel
theorem dX4_act_123 : decode cX4_act 123 = .ok (.iconst 3, 1) := by decide +kernel
theorem dX4_act_124 : decode cX4_act 124 = .ok (.iand, 1) := by decide +kernel
theorem dX4_act_125 : decode cX4_act 125 = .ok (.invokestatic 111, 3) := by decide +kernel
theorem dX4_act_128 : decode cX4_act 128 = .ok (.invokevirtual 144, 3) := by decide +kernel
theorem dX4_act_131 : decode cX4_act 131 = .ok (.iastore, 1) := by decide +kernel
theorem dX4_act_132 : decode cX4_act 132 = .ok (.goto 294, 3) := by decide +kernel
theorem dX4_act_135 : decode cX4_act 135 = .ok (.aload_n 0, 1) := by decide +kernel
theorem dX4_act_136 : decode cX4_act 136 = .ok (.getfield 13, 3) := by decide +kernel
theorem dX4_act_139 : decode cX4_act 139 = .ok (.iload 7, 2) := by decide +kernel
theorem dX4_act_141 : decode cX4_act 141 = .ok (.iaload, 1) := by decide +kernel
theorem dX4_act_142 : decode cX4_act 142 = .ok (.ifCond .le 18, 3) := by decide +kernel
theorem dX4_act_145 : decode cX4_act 145 = .ok (.aload_n 0, 1) := by decide +kernel
theorem dX4_act_146 : decode cX4_act 146 = .ok (.getfield 38, 3) := by decide +kernel
theorem dX4_act_149 : decode cX4_act 149 = .ok (.iload_n 1, 1) := by decide +kernel
theorem dX4_act_150 : decode cX4_act 150 = .ok (.iaload, 1) := by decide +kernel
theorem dX4_act_151 : decode cX4_act 151 = .ok (.bipush 9, 2) := by decide +kernel
theorem dX4_act_153 : decode cX4_act 153 = .ok (.if_icmp .ge 7, 3) := by decide +kernel
theorem dX4_act_156 : decode cX4_act 156 = .ok (.iconst 1, 1) := by decide +kernel
theorem dX4_act_157 : decode cX4_act 157 = .ok (.goto 4, 3) := by decide +kernel
theorem dX4_act_160 : decode cX4_act 160 = .ok (.iconst 0, 1) := by decide +kernel
theorem dX4_act_161 : decode cX4_act 161 = .ok (.istore 8, 2) := by decide +kernel
theorem dX4_act_163 : decode cX4_act 163 = .ok (.aload_n 0, 1) := by decide +kernel
theorem dX4_act_164 : decode cX4_act 164 = .ok (.getfield 13, 3) := by decide +kernel
theorem dX4_act_167 : decode cX4_act 167 = .ok (.iload 7, 2) := by decide +kernel
theorem dX4_act_169 : decode cX4_act 169 = .ok (.iload 8, 2) := by decide +kernel
theorem dX4_act_171 : decode cX4_act 171 = .ok (.ifCond .eq 15, 3) := by decide +kernel
theorem dX4_act_174 : decode cX4_act 174 = .ok (.aload_n 0, 1) := by decide +kernel
theorem dX4_act_175 : decode cX4_act 175 = .ok (.getfield 13, 3) := by decide +kernel
theorem dX4_act_178 : decode cX4_act 178 = .ok (.iload 7, 2) := by decide +kernel
theorem dX4_act_180 : decode cX4_act 180 = .ok (.iaload, 1) := by decide +kernel
theorem dX4_act_181 : decode cX4_act 181 = .ok (.iconst 1, 1) := by decide +kernel
theorem dX4_act_182 : decode cX4_act 182 = .ok (.isub, 1) := by decide +kernel
theorem dX4_act_183 : decode cX4_act 183 = .ok (.goto 10, 3) := by decide +kernel
theorem dX4_act_186 : decode cX4_act 186 = .ok (.aload_n 0, 1) := by decide +kernel
theorem dX4_act_187 : decode cX4_act 187 = .ok (.getfield 13, 3) := by decide +kernel
theorem dX4_act_190 : decode cX4_act 190 = .ok (.iload 7, 2) := by decide +kernel
theorem dX4_act_192 : decode cX4_act 192 = .ok (.iaload, 1) := by decide +kernel
theorem dX4_act_193 : decode cX4_act 193 = .ok (.iastore, 1) := by decide +kernel
theorem dX4_act_194 : decode cX4_act 194 = .ok (.aload_n 0, 1) := by decide +kernel
theorem dX4_act_195 : decode cX4_act 195 = .ok (.getfield 38, 3) := by decide +kernel
theorem dX4_act_198 : decode cX4_act 198 = .ok (.iload_n 1, 1) := by decide +kernel
theorem dX4_act_199 : decode cX4_act 199 = .ok (.iload 8, 2) := by decide +kernel
theorem dX4_act_201 : decode cX4_act 201 = .ok (.ifCond .eq 14, 3) := by decide +kernel
theorem dX4_act_204 : decode cX4_act 204 = .ok (.aload_n 0, 1) := by decide +kernel
theorem dX4_act_205 : decode cX4_act 205 = .ok (.getfield 38, 3) := by decide +kernel
theorem dX4_act_208 : decode cX4_act 208 = .ok (.iload_n 1, 1) := by decide +kernel
theorem dX4_act_209 : decode cX4_act 209 = .ok (.iaload, 1) := by decide +kernel
theorem dX4_act_210 : decode cX4_act 210 = .ok (.iconst 1, 1) := by decide +kernel
theorem dX4_act_211 : decode cX4_act 211 = .ok (.iadd, 1) := by decide +kernel
theorem dX4_act_212 : decode cX4_act 212 = .ok (.goto 9, 3) := by decide +kernel
theorem dX4_act_215 : decode cX4_act 215 = .ok (.aload_n 0, 1) := by decide +kernel
theorem dX4_act_216 : decode cX4_act 216 = .ok (.getfield 38, 3) := by decide +kernel
theorem dX4_act_219 : decode cX4_act 219 = .ok (.iload_n 1, 1) := by decide +kernel
theorem dX4_act_220 : decode cX4_act 220 = .ok (.iaload, 1) := by decide +kernel
theorem dX4_act_221 : decode cX4_act 221 = .ok (.iastore, 1) := by decide +kernel
theorem dX4_act_222 : decode cX4_act 222 = .ok (.aload_n 0, 1) := by decide +kernel
theorem dX4_act_223 : decode cX4_act 223 = .ok (.getfield 32, 3) := by decide +kernel
theorem dX4_act_226 : decode cX4_act 226 = .ok (.iload_n 3, 1) := by decide +kernel
theorem dX4_act_227 : decode cX4_act 227 = .ok (.iload 8, 2) := by decide +kernel
theorem dX4_act_229 : decode cX4_act 229 = .ok (.ifCond .eq 7, 3) := by decide +kernel
theorem dX4_act_232 : decode cX4_act 232 = .ok (.iconst 1, 1) := by decide +kernel
theorem dX4_act_233 : decode cX4_act 233 = .ok (.goto 4, 3) := by decide +kernel
theorem dX4_act_236 : decode cX4_act 236 = .ok (.iconst 0, 1) := by decide +kernel
theorem dX4_act_237 : decode cX4_act 237 = .ok (.iastore, 1) := by decide +kernel
theorem dX4_act_238 : decode cX4_act 238 = .ok (.goto 188, 3) := by decide +kernel
theorem dX4_act_241 : decode cX4_act 241 = .ok (.aload_n 0, 1) := by decide +kernel
theorem dX4_act_242 : decode cX4_act 242 = .ok (.getfield 38, 3) := by decide +kernel
theorem dX4_act_245 : decode cX4_act 245 = .ok (.iload_n 1, 1) := by decide +kernel
theorem dX4_act_246 : decode cX4_act 246 = .ok (.iaload, 1) := by decide +kernel
theorem dX4_act_247 : decode cX4_act 247 = .ok (.ifCond .le 19, 3) := by decide +kernel
theorem dX4_act_250 : decode cX4_act 250 = .ok (.aload_n 0, 1) := by decide +kernel
theorem dX4_act_251 : decode cX4_act 251 = .ok (.getfield 13, 3) := by decide +kernel
theorem dX4_act_254 : decode cX4_act 254 = .ok (.iload 7, 2) := by decide +kernel
theorem dX4_act_256 : decode cX4_act 256 = .ok (.iaload, 1) := by decide +kernel
theorem dX4_act_257 : decode cX4_act 257 = .ok (.bipush 99, 2) := by decide +kernel
theorem dX4_act_259 : decode cX4_act 259 = .ok (.if_icmp .ge 7, 3) := by decide +kernel
theorem dX4_act_262 : decode cX4_act 262 = .ok (.iconst 1, 1) := by decide +kernel
theorem dX4_act_263 : decode cX4_act 263 = .ok (.goto 4, 3) := by decide +kernel
theorem dX4_act_266 : decode cX4_act 266 = .ok (.iconst 0, 1) := by decide +kernel
theorem dX4_act_267 : decode cX4_act 267 = .ok (.istore 8, 2) := by decide +kernel
theorem dX4_act_269 : decode cX4_act 269 = .ok (.aload_n 0, 1) := by decide +kernel
theorem dX4_act_270 : decode cX4_act 270 = .ok (.getfield 13, 3) := by decide +kernel
theorem dX4_act_273 : decode cX4_act 273 = .ok (.iload 7, 2) := by decide +kernel
theorem dX4_act_275 : decode cX4_act 275 = .ok (.iload 8, 2) := by decide +kernel
theorem dX4_act_277 : decode cX4_act 277 = .ok (.ifCond .eq 15, 3) := by decide +kernel
theorem dX4_act_280 : decode cX4_act 280 = .ok (.aload_n 0, 1) := by decide +kernel
theorem dX4_act_281 : decode cX4_act 281 = .ok (.getfield 13, 3) := by decide +kernel
theorem dX4_act_284 : decode cX4_act 284 = .ok (.iload 7, 2) := by decide +kernel
theorem dX4_act_286 : decode cX4_act 286 = .ok (.iaload, 1) := by decide +kernel
theorem dX4_act_287 : decode cX4_act 287 = .ok (.iconst 1, 1) := by decide +kernel
theorem dX4_act_288 : decode cX4_act 288 = .ok (.iadd, 1) := by decide +kernel
theorem dX4_act_289 : decode cX4_act 289 = .ok (.goto 10, 3) := by decide +kernel
theorem dX4_act_292 : decode cX4_act 292 = .ok (.aload_n 0, 1) := by decide +kernel
theorem dX4_act_293 : decode cX4_act 293 = .ok (.getfield 13, 3) := by decide +kernel
theorem dX4_act_296 : decode cX4_act 296 = .ok (.iload 7, 2) := by decide +kernel
theorem dX4_act_298 : decode cX4_act 298 = .ok (.iaload, 1) := by decide +kernel
theorem dX4_act_299 : decode cX4_act 299 = .ok (.iastore, 1) := by decide +kernel
theorem dX4_act_300 : decode cX4_act 300 = .ok (.aload_n 0, 1) := by decide +kernel
theorem dX4_act_301 : decode cX4_act 301 = .ok (.getfield 38, 3) := by decide +kernel
theorem dX4_act_304 : decode cX4_act 304 = .ok (.iload_n 1, 1) := by decide +kernel
theorem dX4_act_305 : decode cX4_act 305 = .ok (.iload 8, 2) := by decide +kernel
theorem dX4_act_307 : decode cX4_act 307 = .ok (.ifCond .eq 14, 3) := by decide +kernel
theorem dX4_act_310 : decode cX4_act 310 = .ok (.aload_n 0, 1) := by decide +kernel
theorem dX4_act_311 : decode cX4_act 311 = .ok (.getfield 38, 3) := by decide +kernel
theorem dX4_act_314 : decode cX4_act 314 = .ok (.iload_n 1, 1) := by decide +kernel
theorem dX4_act_315 : decode cX4_act 315 = .ok (.iaload, 1) := by decide +kernel
theorem dX4_act_316 : decode cX4_act 316 = .ok (.iconst 1, 1) := by decide +kernel
theorem dX4_act_317 : decode cX4_act 317 = .ok (.isub, 1) := by decide +kernel
theorem dX4_act_318 : decode cX4_act 318 = .ok (.goto 9, 3) := by decide +kernel
theorem dX4_act_321 : decode cX4_act 321 = .ok (.aload_n 0, 1) := by decide +kernel
theorem dX4_act_322 : decode cX4_act 322 = .ok (.getfield 38, 3) := by decide +kernel
theorem dX4_act_325 : decode cX4_act 325 = .ok (.iload_n 1, 1) := by decide +kernel
theorem dX4_act_326 : decode cX4_act 326 = .ok (.iaload, 1) := by decide +kernel
theorem dX4_act_327 : decode cX4_act 327 = .ok (.iastore, 1) := by decide +kernel
theorem dX4_act_328 : decode cX4_act 328 = .ok (.aload_n 0, 1) := by decide +kernel
theorem dX4_act_329 : decode cX4_act 329 = .ok (.getfield 32, 3) := by decide +kernel
theorem dX4_act_332 : decode cX4_act 332 = .ok (.iload_n 3, 1) := by decide +kernel
theorem dX4_act_333 : decode cX4_act 333 = .ok (.iload 8, 2) := by decide +kernel
theorem dX4_act_335 : decode cX4_act 335 = .ok (.ifCond .eq 7, 3) := by decide +kernel
theorem dX4_act_338 : decode cX4_act 338 = .ok (.iconst 1, 1) := by decide +kernel
theorem dX4_act_339 : decode cX4_act 339 = .ok (.goto 4, 3) := by decide +kernel
theorem dX4_act_342 : decode cX4_act 342 = .ok (.iconst 0, 1) := by decide +kernel
theorem dX4_act_343 : decode cX4_act 343 = .ok (.iastore, 1) := by decide +kernel
theorem dX4_act_344 : decode cX4_act 344 = .ok (.goto 82, 3) := by decide +kernel
theorem dX4_act_347 : decode cX4_act 347 = .ok (.aload_n 0, 1) := by decide +kernel
theorem dX4_act_348 : decode cX4_act 348 = .ok (.getfield 32, 3) := by decide +kernel
theorem dX4_act_351 : decode cX4_act 351 = .ok (.iload_n 3, 1) := by decide +kernel
theorem dX4_act_352 : decode cX4_act 352 = .ok (.aload_n 0, 1) := by decide +kernel
theorem dX4_act_353 : decode cX4_act 353 = .ok (.iload 5, 2) := by decide +kernel
theorem dX4_act_355 : decode cX4_act 355 = .ok (.iload 6, 2) := by decide +kernel
theorem dX4_act_357 : decode cX4_act 357 = .ok (.invokevirtual 147, 3) := by decide +kernel
theorem dX4_act_360 : decode cX4_act 360 = .ok (.ifCond .eq 7, 3) := by decide +kernel
theorem dX4_act_363 : decode cX4_act 363 = .ok (.iconst 1, 1) := by decide +kernel
theorem dX4_act_364 : decode cX4_act 364 = .ok (.goto 4, 3) := by decide +kernel
theorem dX4_act_367 : decode cX4_act 367 = .ok (.iconst 0, 1) := by decide +kernel
theorem dX4_act_368 : decode cX4_act 368 = .ok (.iastore, 1) := by decide +kernel
theorem dX4_act_369 : decode cX4_act 369 = .ok (.goto 57, 3) := by decide +kernel
theorem dX4_act_372 : decode cX4_act 372 = .ok (.aload_n 0, 1) := by decide +kernel
theorem dX4_act_373 : decode cX4_act 373 = .ok (.iload_n 1, 1) := by decide +kernel
theorem dX4_act_374 : decode cX4_act 374 = .ok (.iload_n 3, 1) := by decide +kernel
theorem dX4_act_375 : decode cX4_act 375 = .ok (.invokevirtual 150, 3) := by decide +kernel
theorem dX4_act_378 : decode cX4_act 378 = .ok (.goto 48, 3) := by decide +kernel
theorem dX4_act_381 : decode cX4_act 381 = .ok (.aload_n 0, 1) := by decide +kernel
theorem dX4_act_382 : decode cX4_act 382 = .ok (.getfield 17, 3) := by decide +kernel
theorem dX4_act_385 : decode cX4_act 385 = .ok (.iload_n 1, 1) := by decide +kernel
theorem dX4_act_386 : decode cX4_act 386 = .ok (.iload 5, 2) := by decide +kernel
theorem dX4_act_388 : decode cX4_act 388 = .ok (.ifCond .le 7, 3) := by decide +kernel
theorem dX4_act_391 : decode cX4_act 391 = .ok (.iconst 3, 1) := by decide +kernel
theorem dX4_act_392 : decode cX4_act 392 = .ok (.goto 4, 3) := by decide +kernel
theorem dX4_act_395 : decode cX4_act 395 = .ok (.iconst 2, 1) := by decide +kernel
theorem dX4_act_396 : decode cX4_act 396 = .ok (.iastore, 1) := by decide +kernel
theorem dX4_act_397 : decode cX4_act 397 = .ok (.aload_n 0, 1) := by decide +kernel
theorem dX4_act_398 : decode cX4_act 398 = .ok (.getfield 47, 3) := by decide +kernel
theorem dX4_act_401 : decode cX4_act 401 = .ok (.iload_n 1, 1) := by decide +kernel
theorem dX4_act_402 : decode cX4_act 402 = .ok (.iload 5, 2) := by decide +kernel
theorem dX4_act_404 : decode cX4_act 404 = .ok (.ifCond .le 8, 3) := by decide +kernel
theorem dX4_act_407 : decode cX4_act 407 = .ok (.iload 5, 2) := by decide +kernel
theorem dX4_act_409 : decode cX4_act 409 = .ok (.goto 4, 3) := by decide +kernel
theorem dX4_act_412 : decode cX4_act 412 = .ok (.iconst 0, 1) := by decide +kernel
theorem dX4_act_413 : decode cX4_act 413 = .ok (.iastore, 1) := by decide +kernel
theorem dX4_act_414 : decode cX4_act 414 = .ok (.goto 12, 3) := by decide +kernel
theorem dX4_act_417 : decode cX4_act 417 = .ok (.aload_n 0, 1) := by decide +kernel
theorem dX4_act_418 : decode cX4_act 418 = .ok (.iload_n 1, 1) := by decide +kernel
theorem dX4_act_419 : decode cX4_act 419 = .ok (.iload_n 2, 1) := by decide +kernel
theorem dX4_act_420 : decode cX4_act 420 = .ok (.iload_n 3, 1) := by decide +kernel
theorem dX4_act_421 : decode cX4_act 421 = .ok (.iload 4, 2) := by decide +kernel
theorem dX4_act_423 : decode cX4_act 423 = .ok (.invokevirtual 153, 3) := by decide +kernel
theorem dX4_act_426 : decode cX4_act 426 = .ok (.return_, 1) := by decide +kernel
set_option maxRecDepth 20000 in
theorem ggX4_tell_X4_way_k0 : GoodIn wsX4_tell ((wsX4_way.drop 0).take 20) := goodIn_r _ [10, 2, 3, 11, 12, 13, 14, 9, 15, 16, 17, 18, 19, 20, 21, 22, 23, 24, 25, 26] (by decide +kernel) (by decide +kernel)
set_option maxRecDepth 20000 in
theorem ggX4_tell_X4_way_k1 : GoodIn wsX4_tell ((wsX4_way.drop 20).take 20) := goodIn_r _ [27, 28, 29, 30, 31, 32, 33, 34, 35, 36, 37, 38, 39, 40, 41, 42, 43, 44, 45, 46] (by decide +kernel) (by decide +kernel)
set_option maxRecDepth 20000 in
theorem ggX4_tell_X4_way_k2 : GoodIn wsX4_tell ((wsX4_way.drop 40).take 20) := goodIn_r _ [47, 48, 49, 50, 51, 52, 53, 54, 55, 56, 57, 58, 59, 60, 61, 62, 63, 64, 65, 66] (by decide +kernel) (by decide +kernel)
set_option maxRecDepth 20000 in
theorem ggX4_tell_X4_way_k3 : GoodIn wsX4_tell (wsX4_way.drop 60) := goodIn_r _ [67, 68, 69] (by decide +kernel) (by decide +kernel)
set_option maxRecDepth 20000 in
theorem ggX4_tell_X4_way : GoodIn wsX4_tell wsX4_way := (goodIn_spl (a := 0) (b := 20) ggX4_tell_X4_way_k0 (goodIn_spl (a := 20) (b := 20) ggX4_tell_X4_way_k1 (goodIn_spl (a := 40) (b := 20) ggX4_tell_X4_way_k2 ggX4_tell_X4_way_k3)))
set_option maxRecDepth 20000 in
theorem gX4_tell_X4_way : GoodIn wsX4_tell (wsV RX4 156 RX4 yX4_way wsX4_way) := goodIn_app (goodIn_of _ (by decide +kernel)) ggX4_tell_X4_way
theorem dX4_tell_0 : decode cX4_tell 0 = .ok (.iload_n 2, 1) := by decide +kernel
theorem dX4_tell_1 : decode cX4_tell 1 = .ok (.tableswitch 109 20 23 #[31, 58, 86, 96], 31) := by decide +kernel
theorem dX4_tell_32 : decode cX4_tell 32 = .ok (.aload_n 0, 1) := by decide +kernel
theorem dX4_tell_33 : decode cX4_tell 33 = .ok (.getfield 32, 3) := by decide +kernel
theorem dX4_tell_36 : decode cX4_tell 36 = .ok (.iload_n 3, 1) := by decide +kernel
theorem dX4_tell_37 : decode cX4_tell 37 = .ok (.aload_n 0, 1) := by decide +kernel
theorem dX4_tell_38 : decode cX4_tell 38 = .ok (.iload_n 1, 1) := by decide +kernel
theorem dX4_tell_39 : decode cX4_tell 39 = .ok (.aload_n 0, 1) := by decide +kernel
theorem dX4_tell_40 : decode cX4_tell 40 = .ok (.getfield 32, 3) := by decide +kernel
theorem dX4_tell_43 : decode cX4_tell 43 = .ok (.iload_n 3, 1) := by decide +kernel
theorem dX4_tell_44 : decode cX4_tell 44 = .ok (.iaload, 1) := by decide +kernel
theorem dX4_tell_45 : decode cX4_tell 45 = .ok (.aload_n 0, 1) := by decide +kernel
theorem dX4_tell_46 : decode cX4_tell 46 = .ok (.getfield 32, 3) := by decide +kernel
theorem dX4_tell_49 : decode cX4_tell 49 = .ok (.iload 4, 2) := by decide +kernel
theorem dX4_tell_51 : decode cX4_tell 51 = .ok (.iaload, 1) := by decide +kernel
theorem dX4_tell_52 : decode cX4_tell 52 = .ok (.invokevirtual 156, 3) := by decide +kernel
theorem dX4_tell_55 : decode cX4_tell 55 = .ok (.iastore, 1) := by decide +kernel
theorem dX4_tell_56 : decode cX4_tell 56 = .ok (.goto 66, 3) := by decide +kernel
theorem dX4_tell_59 : decode cX4_tell 59 = .ok (.aload_n 0, 1) := by decide +kernel
theorem dX4_tell_60 : decode cX4_tell 60 = .ok (.getfield 32, 3) := by decide +kernel
theorem dX4_tell_63 : decode cX4_tell 63 = .ok (.iload_n 3, 1) := by decide +kernel
theorem dX4_tell_64 : decode cX4_tell 64 = .ok (.aload_n 0, 1) := by decide +kernel
theorem dX4_tell_65 : decode cX4_tell 65 = .ok (.getfield 20, 3) := by decide +kernel
theorem dX4_tell_68 : decode cX4_tell 68 = .ok (.iload_n 1, 1) := by decide +kernel
theorem dX4_tell_69 : decode cX4_tell 69 = .ok (.iaload, 1) := by decide +kernel
theorem dX4_tell_70 : decode cX4_tell 70 = .ok (.iastore, 1) := by decide +kernel
theorem dX4_tell_71 : decode cX4_tell 71 = .ok (.aload_n 0, 1) := by decide +kernel
theorem dX4_tell_72 : decode cX4_tell 72 = .ok (.getfield 32, 3) := by decide +kernel
theorem dX4_tell_75 : decode cX4_tell 75 = .ok (.iload 4, 2) := by decide +kernel
theorem dX4_tell_77 : decode cX4_tell 77 = .ok (.aload_n 0, 1) := by decide +kernel
theorem dX4_tell_78 : decode cX4_tell 78 = .ok (.getfield 23, 3) := by decide +kernel
theorem dX4_tell_81 : decode cX4_tell 81 = .ok (.iload_n 1, 1) := by decide +kernel
theorem dX4_tell_82 : decode cX4_tell 82 = .ok (.iaload, 1) := by decide +kernel
theorem dX4_tell_83 : decode cX4_tell 83 = .ok (.iastore, 1) := by decide +kernel
theorem dX4_tell_84 : decode cX4_tell 84 = .ok (.goto 38, 3) := by decide +kernel
theorem dX4_tell_87 : decode cX4_tell 87 = .ok (.aload_n 0, 1) := by decide +kernel
theorem dX4_tell_88 : decode cX4_tell 88 = .ok (.getfield 32, 3) := by decide +kernel
theorem dX4_tell_91 : decode cX4_tell 91 = .ok (.iload_n 3, 1) := by decide +kernel
theorem dX4_tell_92 : decode cX4_tell 92 = .ok (.iload_n 1, 1) := by decide +kernel
theorem dX4_tell_93 : decode cX4_tell 93 = .ok (.iastore, 1) := by decide +kernel
theorem dX4_tell_94 : decode cX4_tell 94 = .ok (.goto 28, 3) := by decide +kernel
theorem dX4_tell_97 : decode cX4_tell 97 = .ok (.aload_n 0, 1) := by decide +kernel
theorem dX4_tell_98 : decode cX4_tell 98 = .ok (.getfield 32, 3) := by decide +kernel
theorem dX4_tell_101 : decode cX4_tell 101 = .ok (.iload_n 3, 1) := by decide +kernel
theorem dX4_tell_102 : decode cX4_tell 102 = .ok (.aload_n 0, 1) := by decide +kernel
theorem dX4_tell_103 : decode cX4_tell 103 = .ok (.getfield 82, 3) := by decide +kernel
theorem dX4_tell_106 : decode cX4_tell 106 = .ok (.iastore, 1) := by decide +kernel
theorem dX4_tell_107 : decode cX4_tell 107 = .ok (.goto 15, 3) := by decide +kernel
theorem dX4_tell_110 : decode cX4_tell 110 = .ok (.aload_n 0, 1) := by decide +kernel
theorem dX4_tell_111 : decode cX4_tell 111 = .ok (.getfield 32, 3) := by decide +kernel
theorem dX4_tell_114 : decode cX4_tell 114 = .ok (.iload_n 3, 1) := by decide +kernel
theorem dX4_tell_115 : decode cX4_tell 115 = .ok (.aload_n 0, 1) := by decide +kernel
theorem dX4_tell_116 : decode cX4_tell 116 = .ok (.getfield 38, 3) := by decide +kernel
theorem dX4_tell_119 : decode cX4_tell 119 = .ok (.iload_n 1, 1) := by decide +kernel
theorem dX4_tell_120 : decode cX4_tell 120 = .ok (.iaload, 1) := by decide +kernel
theorem dX4_tell_121 : decode cX4_tell 121 = .ok (.iastore, 1) := by decide +kernel
theorem dX4_tell_122 : decode cX4_tell 122 = .ok (.return_, 1) := by decide +kernel
set_option maxRecDepth 20000 in
theorem ggX4_go_X4_besideX : GoodIn wsX4_go wsX4_besideX := goodIn_r _ [6] (by decide +kernel) (by decide +kernel)
set_option maxRecDepth 20000 in
theorem gX4_go_X4_besideX : GoodIn wsX4_go (va_wsS RX4 108 yX4_besideX wsX4_besideX) := goodIn_app (goodIn_of _ (by decide +kernel)) ggX4_go_X4_besideX
set_option maxRecDepth 20000 in
theorem ggX4_go_X4_besideY : GoodIn wsX4_go wsX4_besideY := goodIn_r _ [9] (by decide +kernel) (by decide +kernel)
set_option maxRecDepth 20000 in
theorem gX4_go_X4_besideY : GoodIn wsX4_go (va_wsS RX4 111 yX4_besideY wsX4_besideY) := goodIn_app (goodIn_of _ (by decide +kernel)) ggX4_go_X4_besideY
set_option maxRecDepth 20000 in
theorem ggX4_go_X4_isFree : GoodIn wsX4_go wsX4_isFree := goodIn_r _ [13, 14, 15, 16, 17, 5, 18, 19, 20, 21, 22, 23, 24, 25, 26, 33, 34, 35, 36, 37, 38, 39, 40, 41, 42, 43, 44, 45, 46, 47, 48, 49, 50, 51, 52, 53, 54] (by decide +kernel) (by decide +kernel)
set_option maxRecDepth 20000 in
theorem gX4_go_X4_isFree : GoodIn wsX4_go (wsV RX4 114 RX4 yX4_isFree wsX4_isFree) := goodIn_app (goodIn_of _ (by decide +kernel)) ggX4_go_X4_isFree
set_option maxRecDepth 20000 in
theorem ggX4_go_X4_robotAt : GoodIn wsX4_go wsX4_robotAt := goodIn_r _ [30, 31, 32, 1, 2, 33, 34, 35, 36, 37, 38, 39, 40, 41, 42, 43, 44, 45, 46, 47, 48, 49, 50, 51, 52, 53, 54] (by decide +kernel) (by decide +kernel)
set_option maxRecDepth 20000 in
theorem gX4_go_X4_robotAt : GoodIn wsX4_go (wsV RX4 93 RX4 yX4_robotAt wsX4_robotAt) := goodIn_app (goodIn_of _ (by decide +kernel)) ggX4_go_X4_robotAt
theorem dX4_go_0 : decode cX4_go 0 = .ok (.aload_n 0, 1) := by decide +kernel
theorem dX4_go_1 : decode cX4_go 1 = .ok (.getfield 20, 3) := by decide +kernel
theorem dX4_go_4 : decode cX4_go 4 = .ok (.iload_n 1, 1) := by decide +kernel
theorem dX4_go_5 : decode cX4_go 5 = .ok (.iaload, 1) := by decide +kernel
theorem dX4_go_6 : decode cX4_go 6 = .ok (.iload_n 2, 1) := by decide +kernel
theorem dX4_go_7 : decode cX4_go 7 = .ok (.invokestatic 108, 3) := by decide +kernel
theorem dX4_go_10 : decode cX4_go 10 = .ok (.istore_n 3, 1) := by decide +kernel
theorem dX4_go_11 : decode cX4_go 11 = .ok (.aload_n 0, 1) := by decide +kernel
theorem dX4_go_12 : decode cX4_go 12 = .ok (.getfield 23, 3) := by decide +kernel
theorem dX4_go_15 : decode cX4_go 15 = .ok (.iload_n 1, 1) := by decide +kernel
theorem dX4_go_16 : decode cX4_go 16 = .ok (.iaload, 1) := by decide +kernel
theorem dX4_go_17 : decode cX4_go 17 = .ok (.iload_n 2, 1) := by decide +kernel
theorem dX4_go_18 : decode cX4_go 18 = .ok (.invokestatic 111, 3) := by decide +kernel
theorem dX4_go_21 : decode cX4_go 21 = .ok (.istore 4, 2) := by decide +kernel
theorem dX4_go_23 : decode cX4_go 23 = .ok (.aload_n 0, 1) := by decide +kernel
theorem dX4_go_24 : decode cX4_go 24 = .ok (.iload_n 3, 1) := by decide +kernel
theorem dX4_go_25 : decode cX4_go 25 = .ok (.iload 4, 2) := by decide +kernel
theorem dX4_go_27 : decode cX4_go 27 = .ok (.invokevirtual 114, 3) := by decide +kernel
theorem dX4_go_30 : decode cX4_go 30 = .ok (.ifCond .ne 5, 3) := by decide +kernel
theorem dX4_go_33 : decode cX4_go 33 = .ok (.iconst 0, 1) := by decide +kernel
theorem dX4_go_34 : decode cX4_go 34 = .ok (.ireturn, 1) := by decide +kernel
theorem dX4_go_35 : decode cX4_go 35 = .ok (.aload_n 0, 1) := by decide +kernel
theorem dX4_go_36 : decode cX4_go 36 = .ok (.iload_n 3, 1) := by decide +kernel
theorem dX4_go_37 : decode cX4_go 37 = .ok (.iload 4, 2) := by decide +kernel
theorem dX4_go_39 : decode cX4_go 39 = .ok (.invokevirtual 93, 3) := by decide +kernel
theorem dX4_go_42 : decode cX4_go 42 = .ok (.ifCond .lt 5, 3) := by decide +kernel
theorem dX4_go_45 : decode cX4_go 45 = .ok (.iconst 2, 1) := by decide +kernel
theorem dX4_go_46 : decode cX4_go 46 = .ok (.ireturn, 1) := by decide +kernel
theorem dX4_go_47 : decode cX4_go 47 = .ok (.aload_n 0, 1) := by decide +kernel
theorem dX4_go_48 : decode cX4_go 48 = .ok (.getfield 20, 3) := by decide +kernel
theorem dX4_go_51 : decode cX4_go 51 = .ok (.iload_n 1, 1) := by decide +kernel
theorem dX4_go_52 : decode cX4_go 52 = .ok (.iload_n 3, 1) := by decide +kernel
theorem dX4_go_53 : decode cX4_go 53 = .ok (.iastore, 1) := by decide +kernel
theorem dX4_go_54 : decode cX4_go 54 = .ok (.aload_n 0, 1) := by decide +kernel
theorem dX4_go_55 : decode cX4_go 55 = .ok (.getfield 23, 3) := by decide +kernel
theorem dX4_go_58 : decode cX4_go 58 = .ok (.iload_n 1, 1) := by decide +kernel
theorem dX4_go_59 : decode cX4_go 59 = .ok (.iload 4, 2) := by decide +kernel
theorem dX4_go_61 : decode cX4_go 61 = .ok (.iastore, 1) := by decide +kernel
theorem dX4_go_62 : decode cX4_go 62 = .ok (.iconst 1, 1) := by decide +kernel
theorem dX4_go_63 : decode cX4_go 63 = .ok (.ireturn, 1) := by decide +kernel
set_option maxRecDepth 20000 in
theorem ggX4_send_X4_isRobot : GoodIn wsX4_send wsX4_isRobot := goodIn_r _ [9, 10, 1, 11, 12, 8, 13, 14, 15, 16, 17, 18, 19, 20, 21, 22, 23, 24, 25, 26, 27, 28, 29, 30, 31, 32, 33, 34, 35] (by decide +kernel) (by decide +kernel)
set_option maxRecDepth 20000 in
theorem gX4_send_X4_isRobot : GoodIn wsX4_send (wsV RX4 100 RX4 yX4_isRobot wsX4_isRobot) := goodIn_app (goodIn_of _ (by decide +kernel)) ggX4_send_X4_isRobot
set_option maxRecDepth 20000 in
theorem ggX4_send_X4_in : GoodIn wsX4_send wsX4_in := goodIn_r _ [13] (by decide +kernel) (by decide +kernel)
set_option maxRecDepth 20000 in
theorem gX4_send_X4_in : GoodIn wsX4_send (va_wsS RX4 85 yX4_in wsX4_in) := goodIn_app (goodIn_of _ (by decide +kernel)) ggX4_send_X4_in
theorem dX4_send_0 : decode cX4_send 0 = .ok (.aload_n 0, 1) := by decide +kernel
theorem dX4_send_1 : decode cX4_send 1 = .ok (.iload_n 1, 1) := by decide +kernel
theorem dX4_send_2 : decode cX4_send 2 = .ok (.invokevirtual 100, 3) := by decide +kernel
theorem dX4_send_5 : decode cX4_send 5 = .ok (.ifCond .eq 34, 3) := by decide +kernel
theorem dX4_send_8 : decode cX4_send 8 = .ok (.aload_n 0, 1) := by decide +kernel
theorem dX4_send_9 : decode cX4_send 9 = .ok (.getfield 17, 3) := by decide +kernel
theorem dX4_send_12 : decode cX4_send 12 = .ok (.iload_n 1, 1) := by decide +kernel
theorem dX4_send_13 : decode cX4_send 13 = .ok (.iaload, 1) := by decide +kernel
theorem dX4_send_14 : decode cX4_send 14 = .ok (.iconst 2, 1) := by decide +kernel
theorem dX4_send_15 : decode cX4_send 15 = .ok (.iconst 4, 1) := by decide +kernel
theorem dX4_send_16 : decode cX4_send 16 = .ok (.invokestatic 85, 3) := by decide +kernel
theorem dX4_send_19 : decode cX4_send 19 = .ok (.ifCond .eq 20, 3) := by decide +kernel
theorem dX4_send_22 : decode cX4_send 22 = .ok (.aload_n 0, 1) := by decide +kernel
theorem dX4_send_23 : decode cX4_send 23 = .ok (.getfield 44, 3) := by decide +kernel
theorem dX4_send_26 : decode cX4_send 26 = .ok (.iload_n 1, 1) := by decide +kernel
theorem dX4_send_27 : decode cX4_send 27 = .ok (.iaload, 1) := by decide +kernel
theorem dX4_send_28 : decode cX4_send 28 = .ok (.aload_n 0, 1) := by decide +kernel
theorem dX4_send_29 : decode cX4_send 29 = .ok (.getfield 73, 3) := by decide +kernel
theorem dX4_send_32 : decode cX4_send 32 = .ok (.if_icmp .ge 7, 3) := by decide +kernel
theorem dX4_send_35 : decode cX4_send 35 = .ok (.iconst 1, 1) := by decide +kernel
theorem dX4_send_36 : decode cX4_send 36 = .ok (.goto 4, 3) := by decide +kernel
theorem dX4_send_39 : decode cX4_send 39 = .ok (.iconst 0, 1) := by decide +kernel
theorem dX4_send_40 : decode cX4_send 40 = .ok (.istore_n 3, 1) := by decide +kernel
theorem dX4_send_41 : decode cX4_send 41 = .ok (.iload_n 3, 1) := by decide +kernel
theorem dX4_send_42 : decode cX4_send 42 = .ok (.ifCond .eq 56, 3) := by decide +kernel
theorem dX4_send_45 : decode cX4_send 45 = .ok (.aload_n 0, 1) := by decide +kernel
theorem dX4_send_46 : decode cX4_send 46 = .ok (.getfield 41, 3) := by decide +kernel
theorem dX4_send_49 : decode cX4_send 49 = .ok (.bipush 16, 2) := by decide +kernel
theorem dX4_send_51 : decode cX4_send 51 = .ok (.iload_n 1, 1) := by decide +kernel
theorem dX4_send_52 : decode cX4_send 52 = .ok (.imul, 1) := by decide +kernel
theorem dX4_send_53 : decode cX4_send 53 = .ok (.aload_n 0, 1) := by decide +kernel
theorem dX4_send_54 : decode cX4_send 54 = .ok (.getfield 44, 3) := by decide +kernel
theorem dX4_send_57 : decode cX4_send 57 = .ok (.iload_n 1, 1) := by decide +kernel
theorem dX4_send_58 : decode cX4_send 58 = .ok (.iaload, 1) := by decide +kernel
theorem dX4_send_59 : decode cX4_send 59 = .ok (.iadd, 1) := by decide +kernel
theorem dX4_send_60 : decode cX4_send 60 = .ok (.iload_n 2, 1) := by decide +kernel
theorem dX4_send_61 : decode cX4_send 61 = .ok (.iastore, 1) := by decide +kernel
theorem dX4_send_62 : decode cX4_send 62 = .ok (.aload_n 0, 1) := by decide +kernel
theorem dX4_send_63 : decode cX4_send 63 = .ok (.getfield 44, 3) := by decide +kernel
theorem dX4_send_66 : decode cX4_send 66 = .ok (.iload_n 1, 1) := by decide +kernel
theorem dX4_send_67 : decode cX4_send 67 = .ok (.dup2, 1) := by decide +kernel
theorem dX4_send_68 : decode cX4_send 68 = .ok (.iaload, 1) := by decide +kernel
theorem dX4_send_69 : decode cX4_send 69 = .ok (.iconst 1, 1) := by decide +kernel
theorem dX4_send_70 : decode cX4_send 70 = .ok (.iadd, 1) := by decide +kernel
theorem dX4_send_71 : decode cX4_send 71 = .ok (.iastore, 1) := by decide +kernel
theorem dX4_send_72 : decode cX4_send 72 = .ok (.aload_n 0, 1) := by decide +kernel
theorem dX4_send_73 : decode cX4_send 73 = .ok (.getfield 17, 3) := by decide +kernel
theorem dX4_send_76 : decode cX4_send 76 = .ok (.iload_n 1, 1) := by decide +kernel
theorem dX4_send_77 : decode cX4_send 77 = .ok (.aload_n 0, 1) := by decide +kernel
theorem dX4_send_78 : decode cX4_send 78 = .ok (.getfield 17, 3) := by decide +kernel
theorem dX4_send_81 : decode cX4_send 81 = .ok (.iload_n 1, 1) := by decide +kernel
theorem dX4_send_82 : decode cX4_send 82 = .ok (.iaload, 1) := by decide +kernel
theorem dX4_send_83 : decode cX4_send 83 = .ok (.iconst 4, 1) := by decide +kernel
theorem dX4_send_84 : decode cX4_send 84 = .ok (.if_icmp .ne 7, 3) := by decide +kernel
theorem dX4_send_87 : decode cX4_send 87 = .ok (.iconst 2, 1) := by decide +kernel
theorem dX4_send_88 : decode cX4_send 88 = .ok (.goto 9, 3) := by decide +kernel
theorem dX4_send_91 : decode cX4_send 91 = .ok (.aload_n 0, 1) := by decide +kernel
theorem dX4_send_92 : decode cX4_send 92 = .ok (.getfield 17, 3) := by decide +kernel
theorem dX4_send_95 : decode cX4_send 95 = .ok (.iload_n 1, 1) := by decide +kernel
theorem dX4_send_96 : decode cX4_send 96 = .ok (.iaload, 1) := by decide +kernel
theorem dX4_send_97 : decode cX4_send 97 = .ok (.iastore, 1) := by decide +kernel
theorem dX4_send_98 : decode cX4_send 98 = .ok (.iload_n 3, 1) := by decide +kernel
theorem dX4_send_99 : decode cX4_send 99 = .ok (.ireturn, 1) := by decide +kernel
theorem dX4_receive_0 : decode cX4_receive 0 = .ok (.aload_n 0, 1) := by decide +kernel
theorem dX4_receive_1 : decode cX4_receive 1 = .ok (.getfield 44, 3) := by decide +kernel
theorem dX4_receive_4 : decode cX4_receive 4 = .ok (.iload_n 1, 1) := by decide +kernel
theorem dX4_receive_5 : decode cX4_receive 5 = .ok (.iaload, 1) := by decide +kernel
theorem dX4_receive_6 : decode cX4_receive 6 = .ok (.ifCond .ne 21, 3) := by decide +kernel
theorem dX4_receive_9 : decode cX4_receive 9 = .ok (.aload_n 0, 1) := by decide +kernel
theorem dX4_receive_10 : decode cX4_receive 10 = .ok (.getfield 17, 3) := by decide +kernel
theorem dX4_receive_13 : decode cX4_receive 13 = .ok (.iload_n 1, 1) := by decide +kernel
theorem dX4_receive_14 : decode cX4_receive 14 = .ok (.iconst 4, 1) := by decide +kernel
theorem dX4_receive_15 : decode cX4_receive 15 = .ok (.iastore, 1) := by decide +kernel
theorem dX4_receive_16 : decode cX4_receive 16 = .ok (.aload_n 0, 1) := by decide +kernel
theorem dX4_receive_17 : decode cX4_receive 17 = .ok (.getfield 35, 3) := by decide +kernel
theorem dX4_receive_20 : decode cX4_receive 20 = .ok (.iload_n 1, 1) := by decide +kernel
theorem dX4_receive_21 : decode cX4_receive 21 = .ok (.dup2, 1) := by decide +kernel
theorem dX4_receive_22 : decode cX4_receive 22 = .ok (.iaload, 1) := by decide +kernel
theorem dX4_receive_23 : decode cX4_receive 23 = .ok (.iconst 1, 1) := by decide +kernel
theorem dX4_receive_24 : decode cX4_receive 24 = .ok (.isub, 1) := by decide +kernel
theorem dX4_receive_25 : decode cX4_receive 25 = .ok (.iastore, 1) := by decide +kernel
theorem dX4_receive_26 : decode cX4_receive 26 = .ok (.return_, 1) := by decide +kernel
theorem dX4_receive_27 : decode cX4_receive 27 = .ok (.aload_n 0, 1) := by decide +kernel
theorem dX4_receive_28 : decode cX4_receive 28 = .ok (.getfield 32, 3) := by decide +kernel
theorem dX4_receive_31 : decode cX4_receive 31 = .ok (.iload_n 2, 1) := by decide +kernel
theorem dX4_receive_32 : decode cX4_receive 32 = .ok (.aload_n 0, 1) := by decide +kernel
theorem dX4_receive_33 : decode cX4_receive 33 = .ok (.getfield 41, 3) := by decide +kernel
theorem dX4_receive_36 : decode cX4_receive 36 = .ok (.bipush 16, 2) := by decide +kernel
theorem dX4_receive_38 : decode cX4_receive 38 = .ok (.iload_n 1, 1) := by decide +kernel
theorem dX4_receive_39 : decode cX4_receive 39 = .ok (.imul, 1) := by decide +kernel
theorem dX4_receive_40 : decode cX4_receive 40 = .ok (.iaload, 1) := by decide +kernel
theorem dX4_receive_41 : decode cX4_receive 41 = .ok (.iastore, 1) := by decide +kernel
theorem dX4_receive_42 : decode cX4_receive 42 = .ok (.aload_n 0, 1) := by decide +kernel
theorem dX4_receive_43 : decode cX4_receive 43 = .ok (.getfield 44, 3) := by decide +kernel
theorem dX4_receive_46 : decode cX4_receive 46 = .ok (.iload_n 1, 1) := by decide +kernel
theorem dX4_receive_47 : decode cX4_receive 47 = .ok (.dup2, 1) := by decide +kernel
theorem dX4_receive_48 : decode cX4_receive 48 = .ok (.iaload, 1) := by decide +kernel
theorem dX4_receive_49 : decode cX4_receive 49 = .ok (.iconst 1, 1) := by decide +kernel
theorem dX4_receive_50 : decode cX4_receive 50 = .ok (.isub, 1) := by decide +kernel
theorem dX4_receive_51 : decode cX4_receive 51 = .ok (.iastore, 1) := by decide +kernel
theorem dX4_receive_52 : decode cX4_receive 52 = .ok (.iconst 0, 1) := by decide +kernel
theorem dX4_receive_53 : decode cX4_receive 53 = .ok (.istore_n 3, 1) := by decide +kernel
theorem dX4_receive_54 : decode cX4_receive 54 = .ok (.iload_n 3, 1) := by decide +kernel
theorem dX4_receive_55 : decode cX4_receive 55 = .ok (.aload_n 0, 1) := by decide +kernel
theorem dX4_receive_56 : decode cX4_receive 56 = .ok (.getfield 44, 3) := by decide +kernel
theorem dX4_receive_59 : decode cX4_receive 59 = .ok (.iload_n 1, 1) := by decide +kernel
theorem dX4_receive_60 : decode cX4_receive 60 = .ok (.iaload, 1) := by decide +kernel
theorem dX4_receive_61 : decode cX4_receive 61 = .ok (.if_icmp .ge 33, 3) := by decide +kernel
theorem dX4_receive_64 : decode cX4_receive 64 = .ok (.aload_n 0, 1) := by decide +kernel
theorem dX4_receive_65 : decode cX4_receive 65 = .ok (.getfield 41, 3) := by decide +kernel
theorem dX4_receive_68 : decode cX4_receive 68 = .ok (.bipush 16, 2) := by decide +kernel
theorem dX4_receive_70 : decode cX4_receive 70 = .ok (.iload_n 1, 1) := by decide +kernel
theorem dX4_receive_71 : decode cX4_receive 71 = .ok (.imul, 1) := by decide +kernel
theorem dX4_receive_72 : decode cX4_receive 72 = .ok (.iload_n 3, 1) := by decide +kernel
theorem dX4_receive_73 : decode cX4_receive 73 = .ok (.iadd, 1) := by decide +kernel
theorem dX4_receive_74 : decode cX4_receive 74 = .ok (.aload_n 0, 1) := by decide +kernel
theorem dX4_receive_75 : decode cX4_receive 75 = .ok (.getfield 41, 3) := by decide +kernel
theorem dX4_receive_78 : decode cX4_receive 78 = .ok (.bipush 16, 2) := by decide +kernel
theorem dX4_receive_80 : decode cX4_receive 80 = .ok (.iload_n 1, 1) := by decide +kernel
theorem dX4_receive_81 : decode cX4_receive 81 = .ok (.imul, 1) := by decide +kernel
theorem dX4_receive_82 : decode cX4_receive 82 = .ok (.iload_n 3, 1) := by decide +kernel
theorem dX4_receive_83 : decode cX4_receive 83 = .ok (.iadd, 1) := by decide +kernel
theorem dX4_receive_84 : decode cX4_receive 84 = .ok (.iconst 1, 1) := by decide +kernel
theorem dX4_receive_85 : decode cX4_receive 85 = .ok (.iadd, 1) := by decide +kernel
theorem dX4_receive_86 : decode cX4_receive 86 = .ok (.iaload, 1) := by decide +kernel
theorem dX4_receive_87 : decode cX4_receive 87 = .ok (.iastore, 1) := by decide +kernel
theorem dX4_receive_88 : decode cX4_receive 88 = .ok (.iinc 3 1, 3) := by decide +kernel
theorem dX4_receive_91 : decode cX4_receive 91 = .ok (.goto (-37), 3) := by decide +kernel
theorem dX4_receive_94 : decode cX4_receive 94 = .ok (.return_, 1) := by decide +kernel
set_option maxRecDepth 20000 in
theorem ggX4_robotX_X4_isRobot : GoodIn wsX4_robotX wsX4_isRobot := goodIn_r _ [6, 7, 8, 9, 10, 5, 11, 12, 13, 14, 15, 16, 17, 18, 19, 20, 21, 22, 23, 24, 25, 26, 27, 28, 29, 30, 31, 32, 33] (by decide +kernel) (by decide +kernel)
set_option maxRecDepth 20000 in
theorem gX4_robotX_X4_isRobot : GoodIn wsX4_robotX (wsV RX4 100 RX4 yX4_isRobot wsX4_isRobot) := goodIn_app (goodIn_of _ (by decide +kernel)) ggX4_robotX_X4_isRobot
theorem dX4_robotX_0 : decode cX4_robotX 0 = .ok (.aload_n 0, 1) := by decide +kernel
theorem dX4_robotX_1 : decode cX4_robotX 1 = .ok (.iload_n 1, 1) := by decide +kernel
theorem dX4_robotX_2 : decode cX4_robotX 2 = .ok (.invokevirtual 100, 3) := by decide +kernel
theorem dX4_robotX_5 : decode cX4_robotX 5 = .ok (.ifCond .eq 12, 3) := by decide +kernel
theorem dX4_robotX_8 : decode cX4_robotX 8 = .ok (.aload_n 0, 1) := by decide +kernel
theorem dX4_robotX_9 : decode cX4_robotX 9 = .ok (.getfield 20, 3) := by decide +kernel
theorem dX4_robotX_12 : decode cX4_robotX 12 = .ok (.iload_n 1, 1) := by decide +kernel
theorem dX4_robotX_13 : decode cX4_robotX 13 = .ok (.iaload, 1) := by decide +kernel
theorem dX4_robotX_14 : decode cX4_robotX 14 = .ok (.goto 4, 3) := by decide +kernel
theorem dX4_robotX_17 : decode cX4_robotX 17 = .ok (.iconst (-1), 1) := by decide +kernel
theorem dX4_robotX_18 : decode cX4_robotX 18 = .ok (.ireturn, 1) := by decide +kernel
set_option maxRecDepth 20000 in
theorem ggX4_robotY_X4_isRobot : GoodIn wsX4_robotY wsX4_isRobot := goodIn_r _ [6, 7, 8, 9, 10, 5, 11, 12, 13, 14, 15, 16, 17, 18, 19, 20, 21, 22, 23, 24, 25, 26, 27, 28, 29, 30, 31, 32, 33] (by decide +kernel) (by decide +kernel)
set_option maxRecDepth 20000 in
theorem gX4_robotY_X4_isRobot : GoodIn wsX4_robotY (wsV RX4 100 RX4 yX4_isRobot wsX4_isRobot) := goodIn_app (goodIn_of _ (by decide +kernel)) ggX4_robotY_X4_isRobot
theorem dX4_robotY_0 : decode cX4_robotY 0 = .ok (.aload_n 0, 1) := by decide +kernel
theorem dX4_robotY_1 : decode cX4_robotY 1 = .ok (.iload_n 1, 1) := by decide +kernel
theorem dX4_robotY_2 : decode cX4_robotY 2 = .ok (.invokevirtual 100, 3) := by decide +kernel
theorem dX4_robotY_5 : decode cX4_robotY 5 = .ok (.ifCond .eq 12, 3) := by decide +kernel
theorem dX4_robotY_8 : decode cX4_robotY 8 = .ok (.aload_n 0, 1) := by decide +kernel
theorem dX4_robotY_9 : decode cX4_robotY 9 = .ok (.getfield 23, 3) := by decide +kernel
theorem dX4_robotY_12 : decode cX4_robotY 12 = .ok (.iload_n 1, 1) := by decide +kernel
theorem dX4_robotY_13 : decode cX4_robotY 13 = .ok (.iaload, 1) := by decide +kernel
theorem dX4_robotY_14 : decode cX4_robotY 14 = .ok (.goto 4, 3) := by decide +kernel
theorem dX4_robotY_17 : decode cX4_robotY 17 = .ok (.iconst (-1), 1) := by decide +kernel
theorem dX4_robotY_18 : decode cX4_robotY 18 = .ok (.ireturn, 1) := by decide +kernel
set_option maxRecDepth 20000 in
theorem ggX4_robotState_X4_in : GoodIn wsX4_robotState wsX4_in := goodIn_r _ [6] (by decide +kernel) (by decide +kernel)
set_option maxRecDepth 20000 in
theorem gX4_robotState_X4_in : GoodIn wsX4_robotState (va_wsS RX4 85 yX4_in wsX4_in) := goodIn_app (goodIn_of _ (by decide +kernel)) ggX4_robotState_X4_in
theorem dX4_robotState_0 : decode cX4_robotState 0 = .ok (.iload_n 1, 1) := by decide +kernel
theorem dX4_robotState_1 : decode cX4_robotState 1 = .ok (.iconst 0, 1) := by decide +kernel
theorem dX4_robotState_2 : decode cX4_robotState 2 = .ok (.aload_n 0, 1) := by decide +kernel
theorem dX4_robotState_3 : decode cX4_robotState 3 = .ok (.getfield 67, 3) := by decide +kernel
theorem dX4_robotState_6 : decode cX4_robotState 6 = .ok (.iconst 1, 1) := by decide +kernel
theorem dX4_robotState_7 : decode cX4_robotState 7 = .ok (.isub, 1) := by decide +kernel
theorem dX4_robotState_8 : decode cX4_robotState 8 = .ok (.invokestatic 85, 3) := by decide +kernel
theorem dX4_robotState_11 : decode cX4_robotState 11 = .ok (.ifCond .eq 12, 3) := by decide +kernel
theorem dX4_robotState_14 : decode cX4_robotState 14 = .ok (.aload_n 0, 1) := by decide +kernel
theorem dX4_robotState_15 : decode cX4_robotState 15 = .ok (.getfield 17, 3) := by decide +kernel
theorem dX4_robotState_18 : decode cX4_robotState 18 = .ok (.iload_n 1, 1) := by decide +kernel
theorem dX4_robotState_19 : decode cX4_robotState 19 = .ok (.iaload, 1) := by decide +kernel
theorem dX4_robotState_20 : decode cX4_robotState 20 = .ok (.goto 4, 3) := by decide +kernel
theorem dX4_robotState_23 : decode cX4_robotState 23 = .ok (.iconst (-1), 1) := by decide +kernel
theorem dX4_robotState_24 : decode cX4_robotState 24 = .ok (.ireturn, 1) := by decide +kernel
set_option maxRecDepth 20000 in
theorem ggX4_reg_X4_isRobot : GoodIn wsX4_reg wsX4_isRobot := goodIn_r _ [13, 14, 6, 15, 16, 12, 17, 18, 19, 20, 21, 22, 23, 24, 25, 26, 27, 28, 29, 30, 31, 32, 33, 34, 35, 36, 37, 38, 39] (by decide +kernel) (by decide +kernel)
set_option maxRecDepth 20000 in
theorem gX4_reg_X4_isRobot : GoodIn wsX4_reg (wsV RX4 100 RX4 yX4_isRobot wsX4_isRobot) := goodIn_app (goodIn_of _ (by decide +kernel)) ggX4_reg_X4_isRobot
set_option maxRecDepth 20000 in
theorem ggX4_reg_X4_in : GoodIn wsX4_reg wsX4_in := goodIn_r _ [17] (by decide +kernel) (by decide +kernel)
set_option maxRecDepth 20000 in
theorem gX4_reg_X4_in : GoodIn wsX4_reg (va_wsS RX4 85 yX4_in wsX4_in) := goodIn_app (goodIn_of _ (by decide +kernel)) ggX4_reg_X4_in
theorem dX4_reg_0 : decode cX4_reg 0 = .ok (.aload_n 0, 1) := by decide +kernel
theorem dX4_reg_1 : decode cX4_reg 1 = .ok (.iload_n 1, 1) := by decide +kernel
theorem dX4_reg_2 : decode cX4_reg 2 = .ok (.invokevirtual 100, 3) := by decide +kernel
theorem dX4_reg_5 : decode cX4_reg 5 = .ok (.ifCond .ne 5, 3) := by decide +kernel
theorem dX4_reg_8 : decode cX4_reg 8 = .ok (.iconst 0, 1) := by decide +kernel
theorem dX4_reg_9 : decode cX4_reg 9 = .ok (.ireturn, 1) := by decide +kernel
theorem dX4_reg_10 : decode cX4_reg 10 = .ok (.iload_n 2, 1) := by decide +kernel
theorem dX4_reg_11 : decode cX4_reg 11 = .ok (.tableswitch 93 8 13 #[37, 44, 51, 58, 65, 72], 37) := by decide +kernel
theorem dX4_reg_48 : decode cX4_reg 48 = .ok (.aload_n 0, 1) := by decide +kernel
theorem dX4_reg_49 : decode cX4_reg 49 = .ok (.getfield 35, 3) := by decide +kernel
theorem dX4_reg_52 : decode cX4_reg 52 = .ok (.iload_n 1, 1) := by decide +kernel
theorem dX4_reg_53 : decode cX4_reg 53 = .ok (.iaload, 1) := by decide +kernel
theorem dX4_reg_54 : decode cX4_reg 54 = .ok (.ireturn, 1) := by decide +kernel
theorem dX4_reg_55 : decode cX4_reg 55 = .ok (.aload_n 0, 1) := by decide +kernel
theorem dX4_reg_56 : decode cX4_reg 56 = .ok (.getfield 38, 3) := by decide +kernel
theorem dX4_reg_59 : decode cX4_reg 59 = .ok (.iload_n 1, 1) := by decide +kernel
theorem dX4_reg_60 : decode cX4_reg 60 = .ok (.iaload, 1) := by decide +kernel
theorem dX4_reg_61 : decode cX4_reg 61 = .ok (.ireturn, 1) := by decide +kernel
theorem dX4_reg_62 : decode cX4_reg 62 = .ok (.aload_n 0, 1) := by decide +kernel
theorem dX4_reg_63 : decode cX4_reg 63 = .ok (.getfield 44, 3) := by decide +kernel
theorem dX4_reg_66 : decode cX4_reg 66 = .ok (.iload_n 1, 1) := by decide +kernel
theorem dX4_reg_67 : decode cX4_reg 67 = .ok (.iaload, 1) := by decide +kernel
theorem dX4_reg_68 : decode cX4_reg 68 = .ok (.ireturn, 1) := by decide +kernel
theorem dX4_reg_69 : decode cX4_reg 69 = .ok (.aload_n 0, 1) := by decide +kernel
theorem dX4_reg_70 : decode cX4_reg 70 = .ok (.getfield 29, 3) := by decide +kernel
theorem dX4_reg_73 : decode cX4_reg 73 = .ok (.iload_n 1, 1) := by decide +kernel
theorem dX4_reg_74 : decode cX4_reg 74 = .ok (.iaload, 1) := by decide +kernel
theorem dX4_reg_75 : decode cX4_reg 75 = .ok (.ireturn, 1) := by decide +kernel
theorem dX4_reg_76 : decode cX4_reg 76 = .ok (.aload_n 0, 1) := by decide +kernel
theorem dX4_reg_77 : decode cX4_reg 77 = .ok (.getfield 50, 3) := by decide +kernel
theorem dX4_reg_80 : decode cX4_reg 80 = .ok (.iload_n 1, 1) := by decide +kernel
theorem dX4_reg_81 : decode cX4_reg 81 = .ok (.iaload, 1) := by decide +kernel
theorem dX4_reg_82 : decode cX4_reg 82 = .ok (.ireturn, 1) := by decide +kernel
theorem dX4_reg_83 : decode cX4_reg 83 = .ok (.aload_n 0, 1) := by decide +kernel
theorem dX4_reg_84 : decode cX4_reg 84 = .ok (.getfield 17, 3) := by decide +kernel
theorem dX4_reg_87 : decode cX4_reg 87 = .ok (.iload_n 1, 1) := by decide +kernel
theorem dX4_reg_88 : decode cX4_reg 88 = .ok (.iaload, 1) := by decide +kernel
theorem dX4_reg_89 : decode cX4_reg 89 = .ok (.iconst 3, 1) := by decide +kernel
theorem dX4_reg_90 : decode cX4_reg 90 = .ok (.if_icmp .ne 12, 3) := by decide +kernel
theorem dX4_reg_93 : decode cX4_reg 93 = .ok (.aload_n 0, 1) := by decide +kernel
theorem dX4_reg_94 : decode cX4_reg 94 = .ok (.getfield 47, 3) := by decide +kernel
theorem dX4_reg_97 : decode cX4_reg 97 = .ok (.iload_n 1, 1) := by decide +kernel
theorem dX4_reg_98 : decode cX4_reg 98 = .ok (.iaload, 1) := by decide +kernel
theorem dX4_reg_99 : decode cX4_reg 99 = .ok (.goto 4, 3) := by decide +kernel
theorem dX4_reg_102 : decode cX4_reg 102 = .ok (.iconst 0, 1) := by decide +kernel
theorem dX4_reg_103 : decode cX4_reg 103 = .ok (.ireturn, 1) := by decide +kernel
theorem dX4_reg_104 : decode cX4_reg 104 = .ok (.iload_n 2, 1) := by decide +kernel
theorem dX4_reg_105 : decode cX4_reg 105 = .ok (.iconst 0, 1) := by decide +kernel
theorem dX4_reg_106 : decode cX4_reg 106 = .ok (.bipush 7, 2) := by decide +kernel
theorem dX4_reg_108 : decode cX4_reg 108 = .ok (.invokestatic 85, 3) := by decide +kernel
theorem dX4_reg_111 : decode cX4_reg 111 = .ok (.ifCond .eq 17, 3) := by decide +kernel
theorem dX4_reg_114 : decode cX4_reg 114 = .ok (.aload_n 0, 1) := by decide +kernel
theorem dX4_reg_115 : decode cX4_reg 115 = .ok (.getfield 32, 3) := by decide +kernel
theorem dX4_reg_118 : decode cX4_reg 118 = .ok (.bipush 8, 2) := by decide +kernel
theorem dX4_reg_120 : decode cX4_reg 120 = .ok (.iload_n 1, 1) := by decide +kernel
theorem dX4_reg_121 : decode cX4_reg 121 = .ok (.imul, 1) := by decide +kernel
theorem dX4_reg_122 : decode cX4_reg 122 = .ok (.iload_n 2, 1) := by decide +kernel
theorem dX4_reg_123 : decode cX4_reg 123 = .ok (.iadd, 1) := by decide +kernel
theorem dX4_reg_124 : decode cX4_reg 124 = .ok (.iaload, 1) := by decide +kernel
theorem dX4_reg_125 : decode cX4_reg 125 = .ok (.goto 4, 3) := by decide +kernel
theorem dX4_reg_128 : decode cX4_reg 128 = .ok (.iconst 0, 1) := by decide +kernel
theorem dX4_reg_129 : decode cX4_reg 129 = .ok (.ireturn, 1) := by decide +kernel
theorem dX4_now_0 : decode cX4_now 0 = .ok (.aload_n 0, 1) := by decide +kernel
theorem dX4_now_1 : decode cX4_now 1 = .ok (.getfield 82, 3) := by decide +kernel
theorem dX4_now_4 : decode cX4_now 4 = .ok (.ireturn, 1) := by decide +kernel
theorem dX4_setClock_0 : decode cX4_setClock 0 = .ok (.aload_n 0, 1) := by decide +kernel
theorem dX4_setClock_1 : decode cX4_setClock 1 = .ok (.iload_n 1, 1) := by decide +kernel
theorem dX4_setClock_2 : decode cX4_setClock 2 = .ok (.putfield 82, 3) := by decide +kernel
theorem dX4_setClock_5 : decode cX4_setClock 5 = .ok (.return_, 1) := by decide +kernel
end
section
/-! MEMORY: group, object, slot. A world is a list of places (g, j), an address for each, and what a place is as a function of its row of ints. -/
abbrev Mem : Type := Nat → Nat → Nat → Int32
def mu (M : Mem) (g j k : Nat) (v : Int32) : Mem := fun a b => if a = g ∧ b = j then upd (M g j) k v else M a b
def mr (M : Mem) (g j : Nat) (f : Nat → Int32) : Mem := fun a b => if a = g ∧ b = j then f else M a b
theorem mu_row (M : Mem) (g j k : Nat) (v : Int32) : mu M g j k v g j = upd (M g j) k v := by simp [mu]
theorem mr_row (M : Mem) (g j : Nat) (f : Nat → Int32) : mr M g j f g j = f := by simp [mr]
theorem mu_mr (M : Mem) (g j k : Nat) (v : Int32) : mu M g j k v = mr M g j (upd (M g j) k v) := rfl
theorem mu_at (M : Mem) (g j k : Nat) (v : Int32) (a b c : Nat) : mu M g j k v a b c = if a = g ∧ b = j ∧ c = k then v else M a b c := by
  unfold mu
  by_cases h : a = g ∧ b = j
  · obtain ⟨rfl, rfl⟩ := h
    simp [upd]
  · rw [if_neg h, if_neg (fun q => h ⟨q.1, q.2.1⟩)]
theorem mr_at (M : Mem) (g j : Nat) (f : Nat → Int32) (a b c : Nat) : mr M g j f a b c = if a = g ∧ b = j then f c else M a b c := by
  unfold mr
  by_cases h : a = g ∧ b = j
  · rw [if_pos h, if_pos h]
  · rw [if_neg h, if_neg h]
def pool (ix : List (Nat × Nat)) (ad : Nat → Nat → Nat) (E : Nat → Nat → (Nat → Int32) → va_E) (M : Mem) : va_W := ix.map fun q => (ad q.1 q.2, E q.1 q.2 (M q.1 q.2))
theorem pool_at {ix : List (Nat × Nat)} {g j : Nat} (ad : Nat → Nat → Nat) (E : Nat → Nat → (Nat → Int32) → va_E) (M : Mem) (h : (g, j) ∈ ix) : ∃ q : Nat, ix[q]? = some (g, j) ∧ (pool ix ad E M)[q]? = some (ad g j, E g j (M g j)) := by
  obtain ⟨q, hq⟩ := List.getElem?_of_mem h
  exact ⟨q, hq, by simp [pool, hq]⟩
theorem pool_D {A : Nat → Prop} {ix : List (Nat × Nat)} {ad : Nat → Nat → Nat} {E E' : Nat → Nat → (Nat → Int32) → va_E} {M M' : Mem} (h : va_D A (pool ix ad E M)) : va_D A (pool ix ad E' M') := by
  have key : ∀ (k : Nat) (q : Nat × va_E), (pool ix ad E' M')[k]? = some q → ∃ e, (pool ix ad E M)[k]? = some (q.1, e) := by
    intro k q hq
    simp only [pool, List.getElem?_map] at hq ⊢
    cases hx : ix[k]? with
    | none => rw [hx] at hq; cases hq
    | some x =>
      rw [hx] at hq
      cases hq
      exact ⟨_, rfl⟩
  refine ⟨fun i j p q hi hj hpq => ?_, fun k q hk => ?_⟩
  · obtain ⟨e1, h1⟩ := key i p hi
    obtain ⟨e2, h2⟩ := key j q hj
    exact h.1 i j _ _ h1 h2 hpq
  · obtain ⟨e1, h1⟩ := key k q hk
    exact h.2 k (q.1, e1) h1
theorem pool_set {A : Nat → Prop} {ix : List (Nat × Nat)} {ad : Nat → Nat → Nat} {E : Nat → Nat → (Nat → Int32) → va_E} {M : Mem} {q g j : Nat} (hD : va_D A (pool ix ad E M)) (hq : ix[q]? = some (g, j)) (f : Nat → Int32) : (pool ix ad E M).set q (ad g j, E g j f) = pool ix ad E (mr M g j f) := by
  apply List.ext_getElem?
  intro k
  by_cases hk : k = q
  · subst hk
    have hl : k < (pool ix ad E M).length := by simp [pool]; exact (List.getElem?_eq_some_iff.mp hq).1
    rw [List.getElem?_set_self hl]
    simp [pool, hq, mr_row]
  · rw [List.getElem?_set_ne (Ne.symm hk)]
    simp only [pool, List.getElem?_map]
    cases hx : ix[k]? with
    | none => rfl
    | some x =>
      obtain ⟨a, b⟩ := x
      have hne : ¬ (a = g ∧ b = j) := by
        rintro ⟨rfl, rfl⟩
        exact hk (hD.1 k q (ad a b, E a b (M a b)) (ad a b, E a b (M a b)) (by simp [pool, hx]) (by simp [pool, hq]) rfl)
      simp [mr, hne]
/-! A WORLD: places, addresses, what stands at a place, the classes' numbers, the array classes, and what else holds of state and heap -/
abbrev WG : Type := List (Nat × Nat) × (Nat → Nat → Nat) × (Nat → Nat → (Nat → Int32) → va_E) × va_G × List (ClassId × FieldType) × ((Nat → Prop) → State → Heap → Prop)
abbrev wI (w : WG) : List (Nat × Nat) := w.1
abbrev wAd (w : WG) : Nat → Nat → Nat := w.2.1
abbrev wE (w : WG) : Nat → Nat → (Nat → Int32) → va_E := w.2.2.1
abbrev wD (w : WG) : va_G := w.2.2.2.1
abbrev wT (w : WG) : List (ClassId × FieldType) := w.2.2.2.2.1
abbrev wZ (w : WG) : (Nat → Prop) → State → Heap → Prop := w.2.2.2.2.2
def wA (w : WG) : Nat → Prop := fun q => ∃ g j : Nat, (g, j) ∈ wI w ∧ q = wAd w g j
abbrev wW (w : WG) (M : Mem) : va_W := pool (wI w) (wAd w) (wE w) M
abbrev wP (w : WG) (M : Mem) (H : Heap) : Prop := va_P (wD w) vwCl (wW w M) H
def wOK (w : WG) (M : Mem) (U : State) : Prop := wP w M U.heap ∧ va_K (wD w) vwCl (wT w) U ∧ va_D (wA w) (wW w M) ∧ wZ w (wA w) U U.heap
/-- what else holds goes on holding -/
def wZok (w : WG) : Prop := (∀ (A : Nat → Prop) (u U : State) (H : Heap), u.vm = U.vm → wZ w A u H → wZ w A U H) ∧ (∀ (A : Nat → Prop) (u U : State) (H : Heap), u.WarmedH U.vm → wZ w A u H → wZ w A U H) ∧ (∀ (A : Nat → Prop) (U : State) (H H1 : Heap), (∀ a : Nat, a < H.size → ¬ A a → H1[a]? = H[a]?) → wZ w A U H → wZ w A U H1)
abbrev wPc (w : WG) (M : Mem) (av : List Value) : Array Value → State → Prop := va_Pc av (wOK w M)
abbrev wB (w : WG) : Mem → State → Prop := fun u t => wP w u t.heap
abbrev wQi (w : WG) (post : Int32 → Mem → Prop) : Array Value → State → Outcome → State → Prop := va_Qi post (wB w) (wA w)
abbrev wQv (w : WG) (post : Mem → Prop) : Array Value → State → Outcome → State → Prop := va_Qv post (wB w) (wA w)
abbrev wQq (w : WG) (post : Option Nat → Mem → Prop) : Array Value → State → Outcome → State → Prop := va_Qq post (wB w) (wA w)
theorem wOK_blind {w : WG} (hz : wZok w) (M : Mem) (av : List Value) : FrameBlind (wPc w M av) := by
  intro a U g mk q
  obtain ⟨q0, qP, qK, qD, qZ⟩ := q
  exact ⟨q0, qP, va_K.moved (u := U) (U := U.calling g mk a) (Vm.Alike.refl U.vm) qK, qD, hz.1 (wA w) U (U.calling g mk a) _ rfl qZ⟩
theorem wOK_call {w : WG} (hz : wZok w) {M : Mem} {s : State} {H : Heap} {locs : List Loc} (hP : wP w M H) (hK : va_K (wD w) vwCl (wT w) s) {M0 : Mem} (hD : va_D (wA w) (wW w M0)) (hZ : wZ w (wA w) s s.heap) (hS : va_S (wA w) s.heap H locs) {U : State} (hU : U.heap = H) (hW : s.WarmedH U.vm) : wOK w M U := by
  refine ⟨by rw [hU]; exact hP, va_K.moved hW.alike hK, pool_D hD, ?_⟩
  rw [hU]
  exact hz.2.1 _ s U H hW (hz.2.2 _ s s.heap H (fun a h1 h2 => hS.2.1 a h1 h2) hZ)
section WX
variable {p : Program} {l : Launch} {e : Env} {R : Room} {s : State} {m : MethodId} {args : Array Value} {below : List Frame} {meth : Method} {c : Code} {H : Heap} {locs : List Loc} {cells slots : Nat} {Q : State → Prop}
variable {cc : ByteArray} {pc : Nat} {ls : Array Slot} {rest : List Value} {w : WG} {M M0 : Mem} {g j : Nat}
theorem wx_get (hexec : p.tables.exec = Jvm.exec) (hb : c.code = cc) {own C : String} {T : u_T} {N ci index : Nat} {Ts : List Cond} (hts : ∀ w ∈ Ts, w.before args s = true) (hin : ∀ w ∈ u_ws C T N, w ∈ Ts) (hown : s.vm.findClass own = some m.cls) (hK : va_K (wD w) vwCl (wT w) s) (hP : wP w M H) (hm : (g, j) ∈ wI w) {fs : List Value} (hE : wE w g j (M g j) = .inr (ci, fs)) (hc : vwCl[ci]? = some (C, T, N)) (k : Nat) (hk : k < N) (hlink : (Cond.fieldLink own index (T k).1 (T k).2.1 (T k).2.2.1).before args s = true) {v : Value} (hv : fs[k]? = some v) (hdg : decode cc pc = .ok (.getfield index, 3))
    (kk : W p l e R s m args below meth c H locs cells slots Q (F0 m (pc + 3) ls (v :: rest))) : W p l e R s m args below meth c H locs cells slots Q (F0 m pc ls (.ref (wAd w g j) :: rest)) := by
  obtain ⟨q, -, hq⟩ := pool_at (wAd w) (wE w) M hm
  rw [hE] at hq
  exact va_get hexec hb hts hin hown hK hP q hq hc k hk hlink (fun _ h9 => h9) hv hdg kk
theorem wx_put (hexec : p.tables.exec = Jvm.exec) (hb : c.code = cc) {own C : String} {T : u_T} {N ci index : Nat} {Ts : List Cond} (hts : ∀ w ∈ Ts, w.before args s = true) (hin : ∀ w ∈ u_ws C T N, w ∈ Ts) (ty0 : Nat → FieldType) (hty : ∀ k, k < N → parseFieldDescriptor (T k).2.2.1 = some (ty0 k)) (hnm : ∀ a, a < N → ∀ b, b < N → a ≠ b → (T a).2.1 ≠ (T b).2.1) (hown : s.vm.findClass own = some m.cls) (hK : va_K (wD w) vwCl (wT w) s) (hP : wP w M H) (hD : va_D (wA w) (wW w M0)) (hS : va_S (wA w) s.heap H locs) (hm : (g, j) ∈ wI w) {fs : List Value} (hE : wE w g j (M g j) = .inr (ci, fs)) (hc : vwCl[ci]? = some (C, T, N)) (k : Nat) (hk : k < N) (hlink : (Cond.fieldLink own index (T k).1 (T k).2.1 (T k).2.2.1).before args s = true) (hfin : (T k).2.2.2 = false) {x : Int32} (hd : parseFieldDescriptor (T k).2.2.1 = some .int) (hE' : wE w g j (upd (M g j) k x) = .inr (ci, fs.set k (.int x))) (hl : k < fs.length) (hdg : decode cc pc = .ok (.putfield index, 3))
    (kk : ∀ (H1 : Heap) (locs1 : List Loc), wP w (mu M g j k x) H1 → va_S (wA w) s.heap H1 locs1 → W p l e R s m args below meth c H1 locs1 cells slots Q (F0 m (pc + 3) ls rest)) : W p l e R s m args below meth c H locs cells slots Q (F0 m pc ls (.int x :: .ref (wAd w g j) :: rest)) := by
  obtain ⟨q, hi, hq⟩ := pool_at (wAd w) (wE w) M hm
  rw [hE] at hq
  have hD' : va_D (wA w) (wW w M) := pool_D hD
  refine va_put (ty := .int) hexec hb hts hin ty0 hty hnm hown hK hP hD' hS q hq hc k hk hlink (fun _ h9 => h9) hfin hd rfl rfl hl hdg (fun H1 locs1 h1 _ h3 => kk H1 locs1 ?_ h3)
  rw [← hE'] at h1
  rw [pool_set hD' hi] at h1
  exact h1
theorem wx_iald (hexec : p.tables.exec = Jvm.exec) (hb : c.code = cc) (hK : va_K (wD w) vwCl (wT w) s) (hP : wP w M H) (hm : (g, j) ∈ wI w) (t0 : Nat) {cA : ClassId} {n : Nat} (hE : wE w g j (M g j) = .inl (cA, n, .inl (M g j))) (ht : (wT w)[t0]? = some (cA, .int)) {i : Int32} (hin : vp_in i n) (hdg : decode cc pc = .ok (.iaload, 1))
    (kk : W p l e R s m args below meth c H locs cells slots Q (F0 m (pc + 1) ls (.int (M g j i.toNatClampNeg) :: rest))) : W p l e R s m args below meth c H locs cells slots Q (F0 m pc ls (.int i :: .ref (wAd w g j) :: rest)) := by
  obtain ⟨q, -, hq⟩ := pool_at (wAd w) (wE w) M hm
  rw [hE] at hq
  exact va_iald hexec hb hK hP q t0 hq ht hin hdg kk
theorem wx_zald (hexec : p.tables.exec = Jvm.exec) (hb : c.code = cc) (hK : va_K (wD w) vwCl (wT w) s) (hP : wP w M H) (hm : (g, j) ∈ wI w) (t0 : Nat) {cA : ClassId} {n : Nat} (hE : wE w g j (M g j) = .inl (cA, n, .inl (M g j))) (ht : (wT w)[t0]? = some (cA, .boolean)) {i : Int32} (hin : vp_in i n) (hdg : decode cc pc = .ok (.baload, 1))
    (kk : W p l e R s m args below meth c H locs cells slots Q (F0 m (pc + 1) ls (.int (M g j i.toNatClampNeg) :: rest))) : W p l e R s m args below meth c H locs cells slots Q (F0 m pc ls (.int i :: .ref (wAd w g j) :: rest)) := by
  obtain ⟨q, -, hq⟩ := pool_at (wAd w) (wE w) M hm
  rw [hE] at hq
  exact va_zald hexec hb hK hP q t0 hq ht hin hdg kk
theorem wx_iast (hexec : p.tables.exec = Jvm.exec) (hb : c.code = cc) (hK : va_K (wD w) vwCl (wT w) s) (hP : wP w M H) (hD : va_D (wA w) (wW w M0)) (hS : va_S (wA w) s.heap H locs) (hm : (g, j) ∈ wI w) (t0 : Nat) {cA : ClassId} {n : Nat} (hE : ∀ f, wE w g j f = .inl (cA, n, .inl f)) (ht : (wT w)[t0]? = some (cA, .int)) {i x : Int32} (hin : vp_in i n) (hdg : decode cc pc = .ok (.iastore, 1))
    (kk : ∀ (H1 : Heap) (locs1 : List Loc), wP w (mu M g j i.toNatClampNeg x) H1 → va_S (wA w) s.heap H1 locs1 → W p l e R s m args below meth c H1 locs1 cells slots Q (F0 m (pc + 1) ls rest)) : W p l e R s m args below meth c H locs cells slots Q (F0 m pc ls (.int x :: .int i :: .ref (wAd w g j) :: rest)) := by
  obtain ⟨q, hi, hq⟩ := pool_at (wAd w) (wE w) M hm
  rw [hE] at hq
  have hD' : va_D (wA w) (wW w M) := pool_D hD
  refine va_iast hexec hb hK hP hD' hS q t0 hq ht hin hdg (fun H1 locs1 h1 _ h3 => kk H1 locs1 ?_ h3)
  rw [← hE (upd (M g j) i.toNatClampNeg x), pool_set hD' hi] at h1
  exact h1
theorem wx_zast (hexec : p.tables.exec = Jvm.exec) (hb : c.code = cc) (hK : va_K (wD w) vwCl (wT w) s) (hP : wP w M H) (hD : va_D (wA w) (wW w M0)) (hS : va_S (wA w) s.heap H locs) (hm : (g, j) ∈ wI w) (t0 : Nat) {cA : ClassId} {n : Nat} (hE : ∀ f, wE w g j f = .inl (cA, n, .inl f)) (ht : (wT w)[t0]? = some (cA, .boolean)) {i x : Int32} (hin : vp_in i n) (hdg : decode cc pc = .ok (.bastore, 1))
    (kk : ∀ (H1 : Heap) (locs1 : List Loc), wP w (mu M g j i.toNatClampNeg (vp_nar .boolean x)) H1 → va_S (wA w) s.heap H1 locs1 → W p l e R s m args below meth c H1 locs1 cells slots Q (F0 m (pc + 1) ls rest)) : W p l e R s m args below meth c H locs cells slots Q (F0 m pc ls (.int x :: .int i :: .ref (wAd w g j) :: rest)) := by
  obtain ⟨q, hi, hq⟩ := pool_at (wAd w) (wE w) M hm
  rw [hE] at hq
  have hD' : va_D (wA w) (wW w M) := pool_D hD
  refine va_zast hexec hb hK hP hD' hS q t0 hq ht hin hdg (fun H1 locs1 h1 _ h3 => kk H1 locs1 ?_ h3)
  rw [← hE (upd (M g j) i.toNatClampNeg (vp_nar .boolean x)), pool_set hD' hi] at h1
  exact h1
theorem wx_alen (hexec : p.tables.exec = Jvm.exec) (hb : c.code = cc) (hK : va_K (wD w) vwCl (wT w) s) (hP : wP w M H) (hm : (g, j) ∈ wI w) (t0 : Nat) {cA : ClassId} {N : Nat} {x : (Nat → Int32) ⊕ (Nat → Int64) ⊕ (Nat → UInt32) ⊕ (Nat → UInt64) ⊕ (Nat → Option Nat)} (hE : wE w g j (M g j) = .inl (cA, N, x)) {ty : FieldType} (ht : (wT w)[t0]? = some (cA, ty)) (hdg : decode cc pc = .ok (.arraylength, 1))
    (kk : W p l e R s m args below meth c H locs cells slots Q (F0 m (pc + 1) ls (.int (nI N) :: rest))) : W p l e R s m args below meth c H locs cells slots Q (F0 m pc ls (.ref (wAd w g j) :: rest)) := by
  obtain ⟨q, -, hq⟩ := pool_at (wAd w) (wE w) M hm
  rw [hE] at hq
  exact va_alen hexec hb hK hP q t0 hq ht rfl hdg kk
theorem wx_aald (hexec : p.tables.exec = Jvm.exec) (hb : c.code = cc) (hK : va_K (wD w) vwCl (wT w) s) (hP : wP w M H) (hm : (g, j) ∈ wI w) (t0 : Nat) {cA : ClassId} {C : String} {n : Nat} {f : Nat → Option Nat} (hE : wE w g j (M g j) = .inl (cA, n, .inr (.inr (.inr (.inr f))))) (ht : (wT w)[t0]? = some (cA, .object C)) {i : Int32} (hin : vp_in i n) {a : Nat} (hf : f i.toNatClampNeg = some a) (hdg : decode cc pc = .ok (.aaload, 1))
    (kk : W p l e R s m args below meth c H locs cells slots Q (F0 m (pc + 1) ls (.ref a :: rest))) : W p l e R s m args below meth c H locs cells slots Q (F0 m pc ls (.int i :: .ref (wAd w g j) :: rest)) := by
  obtain ⟨q, -, hq⟩ := pool_at (wAd w) (wE w) M hm
  rw [hE] at hq
  refine va_aldq hexec hb hK hP q t0 hq ht hin hdg ?_
  rw [hf]
  exact kk
theorem wx_recv {ci : Nat} {fs : List Value} {q : vw_C} (hK : va_K (wD w) vwCl (wT w) s) (hP : wP w M H) (hm : (g, j) ∈ wI w) (hE : wE w g j (M g j) = .inr (ci, fs)) (hc : vwCl[ci]? = some q) : ∃ cell : Cell, H[wAd w g j]? = some cell ∧ cell.vm.isStatics = false ∧ s.vm.findClass q.1 = some cell.cls := by
  obtain ⟨k, -, hk⟩ := pool_at (wAd w) (wE w) M hm
  rw [hE] at hk
  exact va_recv hK hP hc hk
theorem wx_copy (hexec : p.tables.exec = Jvm.exec) (hb : c.code = cc) (hml : c.maxLocals = ls.size) {own : String} {index : Nat} (hown : s.vm.findClass own = some m.cls) (hlink : (Cond.methodLink own index arraycopyName).before args s = true) (hnat : (Cond.native arraycopyName).before args s = true) (hstat : (Cond.static arraycopyName).before args s = true) (hini : (Cond.initialized "java/lang/System").before args s = true) (hK : va_K (wD w) vwCl (wT w) s) (hP : wP w M H) (hD : va_D (wA w) (wW w M0)) (hS : va_S (wA w) s.heap H locs) (hm : (g, j) ∈ wI w) (t0 : Nat) {cA : ClassId} {N : Nat} (hE : ∀ f, wE w g j f = .inl (cA, N, .inl f)) (ht : (wT w)[t0]? = some (cA, .int)) {sp dp n : Int32} (h1 : ¬ sp < 0) (h2 : ¬ dp < 0) (h3 : ¬ n < 0) (h4 : sp.toNatClampNeg + n.toNatClampNeg ≤ N) (h5 : dp.toNatClampNeg + n.toNatClampNeg ≤ N) (hframes : 1 ≤ R.frames) (hlocals : (rest.map fun v => v.category).sum + (nativeFrameWords "java/lang/System" "arraycopy" 5 + 11) ≤ R.locals) (hdg : decode cc pc = .ok (.invokestatic index, 3))
    (kk : ∀ (H1 : Heap) (locs1 : List Loc), wP w (mr M g j (va_cpy (M g j) (M g j) sp.toNatClampNeg dp.toNatClampNeg n.toNatClampNeg)) H1 → va_S (wA w) s.heap H1 locs1 → W p l e R s m args below meth c H1 locs1 cells slots Q (F0 m (pc + 3) ls rest)) : W p l e R s m args below meth c H locs cells slots Q (F0 m pc ls (.int n :: .int dp :: .ref (wAd w g j) :: .int sp :: .ref (wAd w g j) :: rest)) := by
  obtain ⟨q, hi, hq⟩ := pool_at (wAd w) (wE w) M hm
  rw [hE] at hq
  have hD' : va_D (wA w) (wW w M) := pool_D hD
  refine va_copyi hexec hb hml hown hlink hnat hstat hini hK hP hD' hS q q t0 t0 hq hq ht ht rfl h1 h2 h3 h4 h5 (fun _ _ => rfl) hframes hlocals hdg (fun H1 locs1 h6 _ h7 => kk H1 locs1 ?_ h7)
  rw [← hE (va_cpy (M g j) (M g j) sp.toNatClampNeg dp.toNatClampNeg n.toNatClampNeg), pool_set hD' hi] at h6
  exact h6
/-- ends -/
theorem wx_iret {post : Int32 → Mem → Prop} {v : Int32} {ty : FieldType} (hexec : p.tables.exec = Jvm.exec) (hb : c.code = cc) (hr : meth.sig.returnType = some ty) (hlocks : meth.locks = false) (hP : wP w M H) (hS : va_S (wA w) s.heap H locs) (hn : narrow ty (.int v) = .int v) (hp : post v M) (hdg : decode cc pc = .ok (.ireturn, 1)) : W p l e R s m args below meth c H locs cells slots (MQ below (wQi w post) args s cells slots (wA w)) (F0 m pc ls [.int v]) :=
  W.zret hexec hb hr hn (fun t ht _ => ⟨⟨v, M, rfl, hp, by show wP w M t.heap; rw [ht]; exact hP⟩, hS.F ht⟩) hS.2.2 hdg hlocks
theorem wx_vret {post : Mem → Prop} (hexec : p.tables.exec = Jvm.exec) (hb : c.code = cc) (hr : meth.sig.returnType = none) (hlocks : meth.locks = false) (hP : wP w M H) (hS : va_S (wA w) s.heap H locs) (hp : post M) (hdg : decode cc pc = .ok (.return_, 1)) : W p l e R s m args below meth c H locs cells slots (MQ below (wQv w post) args s cells slots (wA w)) (F0 m pc ls []) :=
  W.vret hexec hb hr (fun t ht _ => ⟨⟨M, rfl, hp, by show wP w M t.heap; rw [ht]; exact hP⟩, hS.F ht⟩) hS.2.2 hdg hlocks
theorem wx_aret {post : Option Nat → Mem → Prop} (r : Option Nat) {rt : FieldType} (hexec : p.tables.exec = Jvm.exec) (hb : c.code = cc) (hr : meth.sig.returnType = some rt) (hrt : (∃ n, rt = .object n) ∨ ∃ t, rt = .array t) (hlocks : meth.locks = false) (hP : wP w M H) (hS : va_S (wA w) s.heap H locs) (hp : post r M) (hdg : decode cc pc = .ok (.areturn, 1)) : W p l e R s m args below meth c H locs cells slots (MQ below (wQq w post) args s cells slots (wA w)) (F0 m pc ls [va_rf r]) :=
  W.aret hexec hb hr hrt (va_rf_or r) (fun t ht _ => ⟨⟨r, M, rfl, hp, by show wP w M t.heap; rw [ht]; exact hP⟩, hS.F ht⟩) hS.2.2 hdg hlocks
end WX
/-- a method's entry -/
theorem wx_met {l : Launch} {y : MethodName} {ws ws' : List Cond} {rm : Room} {w : WG} {M : Mem} {av : List Value} {Qc : Array Value → State → Outcome → State → Prop} {cc : ByteArray} {maxL : Nat} {ret : Option FieldType} (hy : plainName y.cls = true) (hw : ws = Cond.code y cc maxL ret :: ws') (hlen : (lg_sl av).length ≤ maxL)
    (body : ∀ (p : Program) (e : Env) (s : State) (m : MethodId) (below : List Frame) (meth : Method) (c : Code) (ls : Array Slot), p.tables.exec = Jvm.exec → c.code = cc → meth.sig.returnType = ret → c.maxLocals = maxL → (∀ x ∈ ws, x.before av.toArray s = true) → s.vm.findClass y.cls = some m.cls → meth.locks = false → wP w M s.heap → va_K (wD w) vwCl (wT w) s → va_D (wA w) (wW w M) → wZ w (wA w) s s.heap → va_S (wA w) s.heap s.heap [] → lv_has ls maxL (lv_args 0 av) →
      W p l e rm s m av.toArray below meth c s.heap [] 0 0 (MQ below Qc av.toArray s 0 0 (wA w)) (F0 m 0 ls [])) : Met l y ws rm (wPc w M av) Qc 0 0 (wA w) := by
  refine Met.ofW (cc := cc) (maxL := maxL) (ret := ret) hy hw ?_
  intro p e s m args below meth c s₁ B hml hv
  obtain ⟨rfl, hP, hK, hD, hZ⟩ := hv
  have hl := lv_entry av (n := maxL) hlen
  rw [lg_entry_eq]
  exact body p e s m below meth c _ B.exec B.bytes B.returns hml (atoms_spec (ws := ws) B.pre) (findClass_of_methodNamed B.named) B.notSynchronized hP hK hD hZ va_S.rf hl
abbrev rmK (f l : Nat) : Room := { frames := f, cells := 0, slots := 0, locals := l }
theorem vp_lt {x : Int32} {n : Nat} (h : vp_in x n) : x.toNatClampNeg < n := Nat.not_le.mp fun q => h (Or.inr q)
section WCALL
variable {p : Program} {l : Launch} {e : Env} {R : Room} {s : State} {m : MethodId} {args : Array Value} {below : List Frame} {meth : Method} {c : Code} {H : Heap} {locs : List Loc} {cells slots : Nat} {Q : State → Prop}
variable {cc bytes : ByteArray} {pc index n maxL nL : Nat} {ls : Array Slot} {w : WG} {M M0 : Mem} {b : Nat} {y : MethodName} {ws Ts : List Cond} {rm : Room} {own C host : String} {ret : Option FieldType}
/-- calls: the answer and the memory behind are told by the contract -/
theorem wx_Vi (V : Int32) (U9 : Mem) (As rest : List Value) (hz : wZok w) (S : CallFix p m c cc nL s args Ts own) (hM : Met l y ws rm (wPc w M (.ref b :: As)) (wQi w (fun r x => r = V ∧ x = U9)) 0 0 (wA w)) (cw : CallW R s args own C index y bytes maxL ret ws rm 0 0 n) (hrc : ∃ cell : Cell, H[b]? = some cell ∧ cell.vm.isStatics = false ∧ s.vm.findClass C = some cell.cls) (hP : wP w M H) (hK : va_K (wD w) vwCl (wT w) s) (hD : va_D (wA w) (wW w M0)) (hZ : wZ w (wA w) s s.heap) (hS : va_S (wA w) s.heap H locs) (hn : As.length = n) (hsz : ls.size = nL) {st : List Value} (hst : st = As.reverse ++ .ref b :: rest) (hr8 : (rest.map fun v => v.category).sum ≤ 8) (hdg : decode cc pc = .ok (.invokevirtual index, 3)) (hf : cells ≤ R.cells ∧ slots ≤ R.slots)
    (kk : ∀ (H1 : Heap) (locs1 : List Loc), wP w U9 H1 → va_S (wA w) s.heap H1 locs1 → W p l e R s m args below meth c H1 locs1 cells slots Q (F0 m (pc + 3) ls (.int V :: rest))) : W p l e R s m args below meth c H locs cells slots Q (F0 m pc ls st) := by
  subst hst
  refine va_calli (va_runV (As := As) (rest := rest) S hM cw ⟨wOK_blind hz M _, hrc, fun U hU hW => ⟨rfl, wOK_call hz hP hK hD hZ hS hU hW⟩⟩ rfl hn hsz rfl (lv_room hr8) hdg hf) hS (fun _ _ h => h) (fun _ h => h) (fun r u t H1 locs1 ht _ hw hB _ _ hS1 => ?_)
  have hB' : wP w u t.heap := hB
  rw [ht] at hB'
  obtain ⟨h1, h2⟩ := hw
  rw [h1]
  rw [h2] at hB'
  exact kk H1 locs1 hB' hS1
theorem wx_Vv (U9 : Mem) (As rest : List Value) (hz : wZok w) (S : CallFix p m c cc nL s args Ts own) (hM : Met l y ws rm (wPc w M (.ref b :: As)) (wQv w (fun x => x = U9)) 0 0 (wA w)) (cw : CallW R s args own C index y bytes maxL ret ws rm 0 0 n) (hrc : ∃ cell : Cell, H[b]? = some cell ∧ cell.vm.isStatics = false ∧ s.vm.findClass C = some cell.cls) (hP : wP w M H) (hK : va_K (wD w) vwCl (wT w) s) (hD : va_D (wA w) (wW w M0)) (hZ : wZ w (wA w) s s.heap) (hS : va_S (wA w) s.heap H locs) (hn : As.length = n) (hsz : ls.size = nL) {st : List Value} (hst : st = As.reverse ++ .ref b :: rest) (hr8 : (rest.map fun v => v.category).sum ≤ 8) (hdg : decode cc pc = .ok (.invokevirtual index, 3)) (hf : cells ≤ R.cells ∧ slots ≤ R.slots)
    (kk : ∀ (H1 : Heap) (locs1 : List Loc), wP w U9 H1 → va_S (wA w) s.heap H1 locs1 → W p l e R s m args below meth c H1 locs1 cells slots Q (F0 m (pc + 3) ls rest)) : W p l e R s m args below meth c H locs cells slots Q (F0 m pc ls st) := by
  subst hst
  refine va_callv (va_runV (As := As) (rest := rest) S hM cw ⟨wOK_blind hz M _, hrc, fun U hU hW => ⟨rfl, wOK_call hz hP hK hD hZ hS hU hW⟩⟩ rfl hn hsz rfl (lv_room hr8) hdg hf) hS (fun _ _ h => h) (fun _ h => h) (fun u t H1 locs1 ht _ hw hB _ _ hS1 => ?_)
  have hB' : wP w u t.heap := hB
  rw [ht] at hB'
  rw [show u = U9 from hw] at hB'
  exact kk H1 locs1 hB' hS1
theorem wx_Vq (o : Option Nat) (As rest : List Value) (hz : wZok w) (S : CallFix p m c cc nL s args Ts own) (hM : Met l y ws rm (wPc w M (.ref b :: As)) (wQq w (fun r u => r = o.map (fun i => wAd w (i + 1) 0) ∧ u = M)) 0 0 (wA w)) (cw : CallW R s args own C index y bytes maxL ret ws rm 0 0 n) (hrc : ∃ cell : Cell, H[b]? = some cell ∧ cell.vm.isStatics = false ∧ s.vm.findClass C = some cell.cls) (hP : wP w M H) (hK : va_K (wD w) vwCl (wT w) s) (hD : va_D (wA w) (wW w M0)) (hZ : wZ w (wA w) s s.heap) (hS : va_S (wA w) s.heap H locs) (hn : As.length = n) (hsz : ls.size = nL) {st : List Value} (hst : st = As.reverse ++ .ref b :: rest) (hr8 : (rest.map fun v => v.category).sum ≤ 8) (hdg : decode cc pc = .ok (.invokevirtual index, 3)) (hf : cells ≤ R.cells ∧ slots ≤ R.slots)
    (k0 : ∀ (H1 : Heap) (locs1 : List Loc), o = none → wP w M H1 → va_S (wA w) s.heap H1 locs1 → W p l e R s m args below meth c H1 locs1 cells slots Q (F0 m (pc + 3) ls (.null :: rest)))
    (k1 : ∀ (i : Nat) (H1 : Heap) (locs1 : List Loc), o = some i → wP w M H1 → va_S (wA w) s.heap H1 locs1 → W p l e R s m args below meth c H1 locs1 cells slots Q (F0 m (pc + 3) ls (.ref (wAd w (i + 1) 0) :: rest))) : W p l e R s m args below meth c H locs cells slots Q (F0 m pc ls st) := by
  subst hst
  refine va_callq (va_runV (As := As) (rest := rest) S hM cw ⟨wOK_blind hz M _, hrc, fun U hU hW => ⟨rfl, wOK_call hz hP hK hD hZ hS hU hW⟩⟩ rfl hn hsz rfl (lv_room hr8) hdg hf) hS (fun _ _ h => h) (fun _ h => h) (fun r u t H1 locs1 ht _ hw hB _ _ hS1 => ?_)
  obtain ⟨rfl, rfl⟩ := hw
  have hB' : wP w u t.heap := hB
  rw [ht] at hB'
  cases o with
  | none => exact k0 H1 locs1 rfl hB' hS1
  | some i => exact k1 i H1 locs1 rfl hB' hS1
theorem wx_Si (V : Int32) (U9 : Mem) (As rest : List Value) (hz : wZok w) (S : CallFix p m c cc nL s args Ts own) (hM : Met l y ws rm (wPc w M As) (wQi w (fun r x => r = V ∧ x = U9)) 0 0 (wA w)) (cw : CallB R s args own index y bytes maxL ret ws rm 0 0 n ∧ (Cond.static y).before args s = true) (hP : wP w M H) (hK : va_K (wD w) vwCl (wT w) s) (hD : va_D (wA w) (wW w M0)) (hZ : wZ w (wA w) s s.heap) (hS : va_S (wA w) s.heap H locs) (hn : As.length = n) (hsz : ls.size = nL) {st : List Value} (hst : st = As.reverse ++ rest) (hr8 : (rest.map fun v => v.category).sum ≤ 8) (hdg : decode cc pc = .ok (.invokestatic index, 3)) (hf : cells ≤ R.cells ∧ slots ≤ R.slots)
    (kk : ∀ (H1 : Heap) (locs1 : List Loc), wP w U9 H1 → va_S (wA w) s.heap H1 locs1 → W p l e R s m args below meth c H1 locs1 cells slots Q (F0 m (pc + 3) ls (.int V :: rest))) : W p l e R s m args below meth c H locs cells slots Q (F0 m pc ls st) := by
  subst hst
  refine va_calli (va_runS (As := As) (rest := rest) S hM cw ⟨wOK_blind hz M _, fun U hU hW => ⟨rfl, wOK_call hz hP hK hD hZ hS hU hW⟩⟩ rfl hn hsz rfl (lv_room hr8) hdg hf) hS (fun _ _ h => h) (fun _ h => h) (fun r u t H1 locs1 ht _ hw hB _ _ hS1 => ?_)
  have hB' : wP w u t.heap := hB
  rw [ht] at hB'
  obtain ⟨h1, h2⟩ := hw
  rw [h1]
  rw [h2] at hB'
  exact kk H1 locs1 hB' hS1
theorem wx_Sv (U9 : Mem) (As rest : List Value) (hz : wZok w) (S : CallFix p m c cc nL s args Ts own) (hM : Met l y ws rm (wPc w M As) (wQv w (fun x => x = U9)) 0 0 (wA w)) (cw : CallB R s args own index y bytes maxL ret ws rm 0 0 n ∧ (Cond.static y).before args s = true) (hP : wP w M H) (hK : va_K (wD w) vwCl (wT w) s) (hD : va_D (wA w) (wW w M0)) (hZ : wZ w (wA w) s s.heap) (hS : va_S (wA w) s.heap H locs) (hn : As.length = n) (hsz : ls.size = nL) {st : List Value} (hst : st = As.reverse ++ rest) (hr8 : (rest.map fun v => v.category).sum ≤ 8) (hdg : decode cc pc = .ok (.invokestatic index, 3)) (hf : cells ≤ R.cells ∧ slots ≤ R.slots)
    (kk : ∀ (H1 : Heap) (locs1 : List Loc), wP w U9 H1 → va_S (wA w) s.heap H1 locs1 → W p l e R s m args below meth c H1 locs1 cells slots Q (F0 m (pc + 3) ls rest)) : W p l e R s m args below meth c H locs cells slots Q (F0 m pc ls st) := by
  subst hst
  refine va_callv (va_runS (As := As) (rest := rest) S hM cw ⟨wOK_blind hz M _, fun U hU hW => ⟨rfl, wOK_call hz hP hK hD hZ hS hU hW⟩⟩ rfl hn hsz rfl (lv_room hr8) hdg hf) hS (fun _ _ h => h) (fun _ h => h) (fun u t H1 locs1 ht _ hw hB _ _ hS1 => ?_)
  have hB' : wP w u t.heap := hB
  rw [ht] at hB'
  rw [show u = U9 from hw] at hB'
  exact kk H1 locs1 hB' hS1
theorem wx_Ni (V : Int32) (U9 : Mem) (As rest : List Value) (hz : wZok w) (S : CallFix p m c cc nL s args Ts own) (hM : Met l y ws rm (wPc w M As) (wQi w (fun r x => r = V ∧ x = U9)) 0 0 (wA w)) (cw : va_CN R s args own index y host bytes maxL ret ws rm 0 0 n ∧ (Cond.static y).before args s = true ∧ True) (hP : wP w M H) (hK : va_K (wD w) vwCl (wT w) s) (hD : va_D (wA w) (wW w M0)) (hZ : wZ w (wA w) s s.heap) (hS : va_S (wA w) s.heap H locs) (hn : As.length = n) (hsz : ls.size = nL) {st : List Value} (hst : st = As.reverse ++ rest) (hr8 : (rest.map fun v => v.category).sum ≤ 8) (hdg : decode cc pc = .ok (.invokestatic index, 3)) (hf : cells ≤ R.cells ∧ slots ≤ R.slots)
    (kk : ∀ (H1 : Heap) (locs1 : List Loc), wP w U9 H1 → va_S (wA w) s.heap H1 locs1 → W p l e R s m args below meth c H1 locs1 cells slots Q (F0 m (pc + 3) ls (.int V :: rest))) : W p l e R s m args below meth c H locs cells slots Q (F0 m pc ls st) := by
  subst hst
  refine va_calli (va_runSN (As := As) (rest := rest) S hM cw ⟨wOK_blind hz M _, fun U hU hW => ⟨rfl, wOK_call hz hP hK hD hZ hS hU hW⟩⟩ rfl hn hsz rfl (lv_room hr8) hdg hf) hS (fun _ _ h => h) (fun _ h => h) (fun r u t H1 locs1 ht _ hw hB _ _ hS1 => ?_)
  have hB' : wP w u t.heap := hB
  rw [ht] at hB'
  obtain ⟨h1, h2⟩ := hw
  rw [h1]
  rw [h2] at hB'
  exact kk H1 locs1 hB' hS1
end WCALL
end
section
/-! THE CLASS'S WORLD: group 0: 0 the object, 1 its land, 2 contents, 3 steps, 4 queue, 5 the robots' row; group i + 1: robot i: 0 itself, 1 program, 2 registers, 3 box, 4 the box's numbers.
CK: addresses; numbers (0 robots, 1 squares, 2 longest, 3 mails, 4 and 5 the two static rows); classes; class of int rows, of robot rows -/
abbrev CK : Type := (Nat → Nat → Nat) × (Nat → Nat) × va_G × ClassId × ClassId
def cIx (n : Nat) : List (Nat × Nat) := [(0, 0), (0, 1), (0, 2), (0, 3), (0, 4), (0, 5)] ++ (List.range n).flatMap (fun i => [(i + 1, 0), (i + 1, 1), (i + 1, 2), (i + 1, 3), (i + 1, 4)])
theorem cIx_0 {n j : Nat} (h : j < 6) : (0, j) ∈ cIx n := by
  unfold cIx
  apply List.mem_append_left
  rcases (show j = 0 ∨ j = 1 ∨ j = 2 ∨ j = 3 ∨ j = 4 ∨ j = 5 by omega) with rfl | rfl | rfl | rfl | rfl | rfl <;> simp
theorem cIx_r {n i j : Nat} (hi : i < n) (h : j < 5) : (i + 1, j) ∈ cIx n := by
  unfold cIx
  apply List.mem_append_right
  refine List.mem_flatMap.mpr ⟨i, List.mem_range.mpr hi, ?_⟩
  rcases (show j = 0 ∨ j = 1 ∨ j = 2 ∨ j = 3 ∨ j = 4 by omega) with rfl | rfl | rfl | rfl | rfl <;> simp
def eB (i : Nat) : Int32 := if i = 1 then 1 else if i = 3 then -1 else 0
def sB (i : Nat) : Int32 := if i = 0 then -1 else if i = 2 then 1 else 0
def cE (k : CK) (g j : Nat) (f : Nat → Int32) : va_E := match g, j with
  | 0, 0 => .inr (3, [.ref (k.1 0 1), .ref (k.1 0 5), .int (f 2), .int (f 3)])
  | 0, 1 => .inr (1, [.int (f 0), .int (f 1), .ref (k.1 0 2), .ref (k.1 0 3), .ref (k.1 0 4), .int (f 5)])
  | 0, 2 => .inl (k.2.2.2.1, k.2.1 1, .inl f)
  | 0, 3 => .inl (k.2.2.2.1, k.2.1 1, .inl f)
  | 0, 4 => .inl (k.2.2.2.1, k.2.1 1, .inl f)
  | 0, _ => .inl (k.2.2.2.2, k.2.1 0, .inr (.inr (.inr (.inr (fun i => some (k.1 (i + 1) 0))))))
  | g + 1, 0 => .inr (2, [.int (f 0), .ref (k.1 (g + 1) 1), .ref (k.1 (g + 1) 2), .ref (k.1 (g + 1) 3), .int (f 4), .int (f 5), .int (f 6), .int (f 7), .int (f 8), .int (f 9), .int (f 10), .int (f 11)])
  | _ + 1, 1 => .inl (k.2.2.2.1, k.2.1 2, .inl f)
  | _ + 1, 2 => .inl (k.2.2.2.1, 8, .inl f)
  | g + 1, 3 => .inr (0, [.ref (k.1 (g + 1) 4), .int (f 1)])
  | _ + 1, _ => .inl (k.2.2.2.1, k.2.1 3, .inl f)
/-- what the class needs besides: two static rows, and links among nest mates -/
def cZ (k : CK) (A : Nat → Prop) (U : State) (H : Heap) : Prop := va_Z RX3 "EAST_BY" "[I" (.ref (k.2.1 4)) A U H ∧ va_T .int (k.2.1 4) 4 (fun i => .int (eB i)) A U H ∧ va_Z RX3 "SOUTH_BY" "[I" (.ref (k.2.1 5)) A U H ∧ va_T .int (k.2.1 5) 4 (fun i => .int (sB i)) A U H ∧ va_Nw (.fieldLinkNest RX1 56 RX3 "EAST_BY" "[I" RX3) U ∧ va_Nw (.fieldLinkNest RX1 59 RX3 "SOUTH_BY" "[I" RX3) U ∧ va_Nw (.methodLinkNest RX2 64 yX3_opOf RX3) U ∧ va_Nw (.methodLinkNest RX2 68 yX3_sOf RX3) U ∧ va_Nw (.methodLinkNest RX2 71 yX3_rOf RX3) U
abbrev cw (k : CK) : WG := (cIx (k.2.1 0), k.1, cE k, k.2.2.1, [(k.2.2.2.1, .int), (k.2.2.2.2, .object RX2)], cZ k)
theorem cZok (k : CK) : wZok (cw k) := by
  refine ⟨fun A u U H h q => ?_, fun A u U H h q => ?_, fun A U H H1 h q => ?_⟩
  · obtain ⟨a1, a2, a3, a4, a5, a6, a7, a8, a9⟩ := q
    have hv : u.vm.Alike U.vm := h ▸ Vm.Alike.refl u.vm
    exact ⟨a1.moved hv, a2.moved hv, a3.moved hv, a4.moved hv, a5.same rfl h, a6.same rfl h, a7.same rfl h, a8.same rfl h, a9.same rfl h⟩
  · obtain ⟨a1, a2, a3, a4, a5, a6, a7, a8, a9⟩ := q
    exact ⟨a1.moved h.alike, a2.moved h.alike, a3.moved h.alike, a4.moved h.alike, a5.warmF h, a6.warmF h, a7.warmM h, a8.warmM h, a9.warmM h⟩
  · obtain ⟨a1, a2, a3, a4, a5, a6, a7, a8, a9⟩ := q
    exact ⟨a1.kept h, a2.kept h, a3.kept h, a4.kept h, a5, a6, a7, a8, a9⟩
/-! THE REFERENCE'S WORLD: group 0: 0 the object, then its rows in the order of its fields. MK: addresses, classes, class of int rows, of boolean rows -/
abbrev MK : Type := (Nat → Nat → Nat) × va_G × ClassId × ClassId
def mIx : List (Nat × Nat) := [(0, 0), (0, 1), (0, 2), (0, 3), (0, 4), (0, 5), (0, 6), (0, 7), (0, 8), (0, 9), (0, 10), (0, 11), (0, 12), (0, 13), (0, 14), (0, 15)]
theorem mIx_0 {j : Nat} (h : j < 16) : (0, j) ∈ mIx := by
  unfold mIx
  rcases (show j = 0 ∨ j = 1 ∨ j = 2 ∨ j = 3 ∨ j = 4 ∨ j = 5 ∨ j = 6 ∨ j = 7 ∨ j = 8 ∨ j = 9 ∨ j = 10 ∨ j = 11 ∨ j = 12 ∨ j = 13 ∨ j = 14 ∨ j = 15 by omega) with rfl | rfl | rfl | rfl | rfl | rfl | rfl | rfl | rfl | rfl | rfl | rfl | rfl | rfl | rfl | rfl <;> simp
def mE (k : MK) (_g j : Nat) (f : Nat → Int32) : va_E := match j with
  | 0 => .inr (4, [.int (f 0), .int (f 1), .int (f 2), .int (f 3), .int (f 4), .ref (k.1 0 1), .ref (k.1 0 2), .ref (k.1 0 3), .ref (k.1 0 4), .ref (k.1 0 5), .ref (k.1 0 6), .ref (k.1 0 7), .ref (k.1 0 8), .ref (k.1 0 9), .ref (k.1 0 10), .ref (k.1 0 11), .ref (k.1 0 12), .ref (k.1 0 13), .ref (k.1 0 14), .int (f 19), .int (f 20), .ref (k.1 0 15)])
  | 1 => .inl (k.2.2.2, 1024, .inl f)
  | 2 => .inl (k.2.2.1, 1024, .inl f)
  | 3 => .inl (k.2.2.1, 8, .inl f)
  | 4 => .inl (k.2.2.1, 8, .inl f)
  | 5 => .inl (k.2.2.1, 8, .inl f)
  | 6 => .inl (k.2.2.1, 800, .inl f)
  | 7 => .inl (k.2.2.1, 8, .inl f)
  | 8 => .inl (k.2.2.1, 64, .inl f)
  | 9 => .inl (k.2.2.1, 8, .inl f)
  | 10 => .inl (k.2.2.1, 8, .inl f)
  | 11 => .inl (k.2.2.1, 128, .inl f)
  | 12 => .inl (k.2.2.1, 8, .inl f)
  | 13 => .inl (k.2.2.1, 8, .inl f)
  | 14 => .inl (k.2.2.1, 8, .inl f)
  | _ => .inl (k.2.2.1, 1024, .inl f)
abbrev mw (k : MK) : WG := (mIx, k.1, mE k, k.2.1, [(k.2.2.1, .int), (k.2.2.2, .boolean)], fun _ _ _ => True)
theorem mZok (k : MK) : wZok (mw k) := ⟨fun _ _ _ _ _ _ => trivial, fun _ _ _ _ _ _ => trivial, fun _ _ _ _ _ _ => trivial⟩
end
section
/-! small rows for indices and counters -/
theorem vin {x : Int32} {n : Nat} (h0 : ¬ x < 0) (h : ¬ nI n ≤ x) (hn : n < 2 ^ 31) : vp_in x n := by
  rcases pk_ix x hn with q | q | ⟨j, hj, rfl⟩
  · exact absurd q h0
  · exact absurd q h
  · exact vp_in_nI hj hn
theorem vinL {x : Int32} {n : Nat} (h0 : ¬ x < 0) (h : x < nI n) (hn : n < 2 ^ 31) : vp_in x n := vin h0 (Int32.not_le.mpr h) hn
/-- a counter's state: it stands at a, N is its bound, n the fuel -/
def lpI (N n : Nat) (x : Int32) : Prop := ∃ a : Nat, x = nI a ∧ a ≤ N ∧ N < a + n
theorem lpI_z {N : Nat} {x : Int32} : ¬ lpI N 0 x := fun ⟨_, _, h1, h2⟩ => by omega
theorem lpI_i (N : Nat) : lpI N (N + 1) 0 := ⟨0, nI_0.symm, by omega, by omega⟩
theorem lpI_in {N n : Nat} {x : Int32} (h : lpI N n x) (c : ¬ nI N ≤ x) (hN : N < 2 ^ 31) : vp_in x N := by
  obtain ⟨a, rfl, h1, h2⟩ := h
  rcases Nat.lt_or_ge a N with q | q
  · exact vp_in_nI q hN
  · exact absurd (nI_le q (by omega)) c
theorem lpI_s {N n : Nat} {x : Int32} (h : lpI N (n + 1) x) (c : ¬ nI N ≤ x) (hN : N < 2 ^ 31) : lpI N n (x + 1) := by
  obtain ⟨a, rfl, h1, h2⟩ := h
  rcases Nat.lt_or_ge a N with q | q
  · exact ⟨a + 1, nI_1 a, by omega, by omega⟩
  · exact absurd (nI_le q (by omega)) c
/-- the class's own state is one in which no call can go wrong -/
def cI (k : CK) (M : Mem) : Prop := (∃ a b : Nat, M 0 1 0 = nI a ∧ M 0 1 1 = nI b ∧ 1 ≤ a ∧ a ≤ 32 ∧ 1 ≤ b ∧ b ≤ 32 ∧ k.2.1 1 = a * b) ∧ (1 ≤ k.2.1 0 ∧ k.2.1 0 ≤ 8) ∧ (1 ≤ k.2.1 2 ∧ k.2.1 2 ≤ 100) ∧ (1 ≤ k.2.1 3 ∧ k.2.1 3 ≤ 16) ∧ ∀ i, i < k.2.1 0 → ¬ M (i + 1) 3 1 < 0 ∧ ¬ M (i + 1) 0 8 < 0
theorem cI_n {k : CK} {M : Mem} (h : cI k M) : k.2.1 0 < 2 ^ 31 := by have := h.2.1.2; omega
theorem cI_l {k : CK} {M : Mem} (h : cI k M) : k.2.1 2 < 2 ^ 31 := by have := h.2.2.1.2; omega
theorem cI_m {k : CK} {M : Mem} (h : cI k M) : k.2.1 3 < 2 ^ 31 := by have := h.2.2.2.1.2; omega
theorem cI_w {k : CK} {M : Mem} (h : cI k M) : k.2.1 1 < 2 ^ 31 := by
  obtain ⟨⟨a, b, -, -, h1, h2, h3, h4, h5⟩, -⟩ := h
  rw [h5]
  have : a * b ≤ 32 * 32 := Nat.mul_le_mul h2 h4
  omega
theorem cI_sq {k : CK} {M : Mem} {x y : Int32} (h : cI k M) (c1 : ¬ x < 0) (c2 : ¬ M 0 1 0 ≤ x) (c3 : ¬ y < 0) (c4 : ¬ M 0 1 1 ≤ y) : vp_in (y * M 0 1 0 + x) (k.2.1 1) := by
  have hw := cI_w h
  obtain ⟨⟨a, b, e1, e2, h1, h2, h3, h4, h5⟩, -⟩ := h
  rw [e1] at c2 ⊢
  rw [e2] at c4
  obtain ⟨u, hu, rfl⟩ := vp_in_of (vin c1 c2 (by omega)) (by omega)
  obtain ⟨v, hv, rfl⟩ := vp_in_of (vin c3 c4 (by omega)) (by omega)
  rw [pk_mul, nI_add]
  refine vp_in_nI ?_ hw
  rw [h5]
  have : v * a + a ≤ b * a := by
    have := Nat.mul_le_mul_right a (Nat.succ_le_of_lt hv)
    rw [Nat.succ_mul] at this
    exact this
  rw [Nat.mul_comm a b]
  omega
theorem cI_c {k : CK} {M : Mem} {i : Nat} (h : cI k M) (hi : i < k.2.1 0) : ¬ M (i + 1) 3 1 < 0 := (h.2.2.2.2 i hi).1
theorem cI_p {k : CK} {M : Mem} {i : Nat} (h : cI k M) (hi : i < k.2.1 0) : ¬ M (i + 1) 0 8 < 0 := (h.2.2.2.2 i hi).2
/-- a change elsewhere -/
theorem cI_mu {k : CK} {M : Mem} {g j q : Nat} {v : Int32} (h : cI k M) (h1 : ¬ (g = 0 ∧ j = 1 ∧ (q = 0 ∨ q = 1))) (h2 : ¬ (1 ≤ g ∧ j = 3 ∧ q = 1)) (h3 : ¬ (1 ≤ g ∧ j = 0 ∧ q = 8)) : cI k (mu M g j q v) := by
  obtain ⟨⟨a, b, e1, e2, e3⟩, h4, h5, h6, h7⟩ := h
  refine ⟨⟨a, b, ?_, ?_, e3⟩, h4, h5, h6, fun i hi => ⟨?_, ?_⟩⟩
  · rw [mu_at, if_neg (by omega)]; exact e1
  · rw [mu_at, if_neg (by omega)]; exact e2
  · rw [mu_at, if_neg (by omega)]; exact (h7 i hi).1
  · rw [mu_at, if_neg (by omega)]; exact (h7 i hi).2
theorem cI_mr {k : CK} {M : Mem} {g j : Nat} {f : Nat → Int32} (h : cI k M) (h1 : ¬ (g = 0 ∧ j = 1)) (h2 : ¬ (1 ≤ g ∧ j = 3)) (h3 : ¬ (1 ≤ g ∧ j = 0)) : cI k (mr M g j f) := by
  obtain ⟨⟨a, b, e1, e2, e3⟩, h4, h5, h6, h7⟩ := h
  refine ⟨⟨a, b, ?_, ?_, e3⟩, h4, h5, h6, fun i hi => ⟨?_, ?_⟩⟩
  · rw [mr_at, if_neg (by omega)]; exact e1
  · rw [mr_at, if_neg (by omega)]; exact e2
  · rw [mr_at, if_neg (by omega)]; exact (h7 i hi).1
  · rw [mr_at, if_neg (by omega)]; exact (h7 i hi).2
/-- the count and the words of one robot -/
theorem cI_mu3 {k : CK} {M : Mem} {g : Nat} {v : Int32} (h : cI k M) (hv : ¬ v < 0) : cI k (mu M (g + 1) 3 1 v) := by
  obtain ⟨⟨a, b, e1, e2, e3⟩, h4, h5, h6, h7⟩ := h
  refine ⟨⟨a, b, ?_, ?_, e3⟩, h4, h5, h6, fun i hi => ⟨?_, ?_⟩⟩
  · rw [mu_at, if_neg (by omega)]; exact e1
  · rw [mu_at, if_neg (by omega)]; exact e2
  · rw [mu_at]; split
    · exact hv
    · exact (h7 i hi).1
  · rw [mu_at, if_neg (by omega)]; exact (h7 i hi).2
theorem cI_mu8 {k : CK} {M : Mem} {g : Nat} {v : Int32} (h : cI k M) (hv : ¬ v < 0) : cI k (mu M (g + 1) 0 8 v) := by
  obtain ⟨⟨a, b, e1, e2, e3⟩, h4, h5, h6, h7⟩ := h
  refine ⟨⟨a, b, ?_, ?_, e3⟩, h4, h5, h6, fun i hi => ⟨?_, ?_⟩⟩
  · rw [mu_at, if_neg (by omega)]; exact e1
  · rw [mu_at, if_neg (by omega)]; exact e2
  · rw [mu_at, if_neg (by omega)]; exact (h7 i hi).1
  · rw [mu_at]; split
    · exact hv
    · exact (h7 i hi).2
/-- Arrays.fill over a row of ints -/
def fillF (f : Nat → Int32) (n : Nat) (v : Int32) : Nat → Int32 := fun q => if q < n then v else f q
theorem fillF_0 (f : Nat → Int32) (v : Int32) : fillF f 0 v = f := by funext q; simp [fillF]
theorem fillF_s (f : Nat → Int32) (n : Nat) (v : Int32) : upd (fillF f n v) n v = fillF f (n + 1) v := by
  funext q
  simp only [upd, fillF]
  by_cases h1 : q = n
  · rw [if_pos h1, if_pos (by omega)]
  · rw [if_neg h1]
    by_cases h2 : q < n
    · rw [if_pos h2, if_pos (by omega)]
    · rw [if_neg h2, if_neg (by omega)]
theorem mr_mr (M : Mem) (g j : Nat) (f f' : Nat → Int32) : mr (mr M g j f) g j f' = mr M g j f' := by
  funext a b
  simp only [mr]
  by_cases h : a = g ∧ b = j
  · rw [if_pos h, if_pos h]
  · rw [if_neg h, if_neg h, if_neg h]
theorem mr_self (M : Mem) (g j : Nat) : mr M g j (M g j) = M := by
  funext a b
  simp only [mr]
  by_cases h : a = g ∧ b = j
  · obtain ⟨rfl, rfl⟩ := h
    rw [if_pos ⟨rfl, rfl⟩]
  · rw [if_neg h]
set_option maxHeartbeats 4000000 in
set_option maxRecDepth 100000 in
theorem lp_J7_fill {p : Program} {l : Launch} {e : Env} {s : State} {m : MethodId} {args : Array Value} {below : List Frame} {meth : Method} {c : Code} (k : CK) (M0 : Mem) (g j N : Nat) (v : Int32) (hm : (g, j) ∈ wI (cw k)) (hE : ∀ f, wE (cw k) g j f = .inl (k.2.2.2.1, N, .inl f)) (hN : N < 2 ^ 31) (hx : p.tables.exec = Jvm.exec) (hb : c.code = cJ7_fill_53178) (hr : meth.sig.returnType = none) (hlocks : meth.locks = false) (hK : va_K (wD (cw k)) vwCl (wT (cw k)) s) (hD : va_D (wA (cw k)) (wW (cw k) M0)) :
    ∀ (n a : Nat) (M : Mem) (H : Heap) (locs : List Loc) (ls : Array Slot), a ≤ N → N < a + n → M = mr M0 g j (fillF (M0 g j) a v) → wP (cw k) M H → va_S (wA (cw k)) s.heap H locs → lv_has ls 4 [(2, .int (nI a)), (0, .ref (k.1 g j)), (1, .int v), (3, .int (nI N))] → W p l e (rmK 0 0) s m args below meth c H locs 0 0 (MQ below (wQv (cw k) (fun u => u = mr M0 g j (fillF (M0 g j) N v))) args s 0 0 (wA (cw k))) (F0 m 5 ls []) := by
  intro n
  induction n with
  | zero => intro a M H locs ls h1 h2; exact absurd h2 (by omega)
  | succ n ih =>
    intro a M H locs ls h1 h2 hM hP hS hl
    refine lv_iload_n hx hb dJ7_fill_53178_5 rfl (lv_at hl 0 rfl) ?_
    refine lv_iload_n hx hb dJ7_fill_53178_6 rfl (lv_at hl 3 rfl) ?_
    refine lv_icmp_ge (tgt := 20) hx hb dJ7_fill_53178_7 (by decide) (fun c7 => ?_) (fun c7 => ?_)
    · have ha : a = N := by
        rcases Nat.lt_or_ge a N with q | q
        · exact absurd c7 (nI_ge q hN)
        · omega
      subst ha
      exact wx_vret hx hb hr hlocks hP hS hM dJ7_fill_53178_20
    · have ha : a < N := by
        rcases Nat.lt_or_ge a N with q | q
        · exact q
        · exact absurd (nI_le q (by omega)) c7
      refine lv_aload_n hx hb dJ7_fill_53178_10 rfl (lv_at hl 1 rfl) ?_
      refine lv_iload_n hx hb dJ7_fill_53178_11 rfl (lv_at hl 0 rfl) ?_
      refine lv_iload_n hx hb dJ7_fill_53178_12 rfl (lv_at hl 2 rfl) ?_
      refine wx_iast (w := cw k) (g := g) (j := j) hx hb hK hP hD hS hm 0 hE rfl (vp_in_nI ha hN) dJ7_fill_53178_13 (fun H locs hP hS => ?_)
      refine lv_iinc (v := nI (a + 1)) (lv' := [(2, .int (nI (a + 1))), (0, .ref (k.1 g j)), (1, .int v), (3, .int (nI N))]) hx hb dJ7_fill_53178_14 hl (k := 0) rfl (by rw [← nI_1]; rfl) (by decide) rfl (fun ls hl => ?_)
      refine lv_goto (tgt := 5) hx hb dJ7_fill_53178_17 (by decide) ?_
      refine ih (a + 1) _ H locs ls (by omega) (by omega) ?_ hP hS hl
      rw [hM, mu_mr, mr_mr, mr_row, nI_clamp (by omega), fillF_s]
set_option maxHeartbeats 4000000 in
set_option maxRecDepth 100000 in
theorem c_J7_fill (l : Launch) (k : CK) (M : Mem) (g j N : Nat) (v : Int32) (hm : (g, j) ∈ wI (cw k)) (hE : ∀ f, wE (cw k) g j f = .inl (k.2.2.2.1, N, .inl f)) (hN : N < 2 ^ 31) : Met l yJ7_fill_53178 wsJ7_fill_53178 (rmK 0 0) (wPc (cw k) M [.ref (k.1 g j), .int v]) (wQv (cw k) (fun u => u = mr M g j (fillF (M g j) N v))) 0 0 (wA (cw k)) := by
  refine wx_met (cc := cJ7_fill_53178) (maxL := 4) (ret := none) (by decide) rfl (Nat.le_of_ble_eq_true rfl) ?_
  intro p e s m below meth c ls hx hb hr hml hts hown hlocks hP hK hD hZ hS hl
  have hl : lv_has ls 4 [(0, .ref (k.1 g j)), (1, .int v)] := hl
  refine lv_iconst (v := 0) hx hb dJ7_fill_53178_0 (by decide) ?_
  refine lv_istore_n (lv' := [(2, .int 0), (0, .ref (k.1 g j)), (1, .int v)]) hx hb dJ7_fill_53178_1 rfl hl (by decide) rfl (fun ls hl => ?_)
  refine lv_aload_n hx hb dJ7_fill_53178_2 rfl (lv_at hl 1 rfl) ?_
  refine wx_alen (w := cw k) (g := g) (j := j) hx hb hK hP hm 0 (hE _) rfl dJ7_fill_53178_3 ?_
  refine lv_istore_n (lv' := [(3, .int (nI N)), (2, .int 0), (0, .ref (k.1 g j)), (1, .int v)]) hx hb dJ7_fill_53178_4 rfl hl (by decide) rfl (fun ls hl => ?_)
  refine lp_J7_fill k M g j N v hm hE hN hx hb hr hlocks hK hD (N + 1) 0 M _ _ ls (by omega) (by omega) (by rw [fillF_0, mr_self]) hP hS ?_
  rw [nI_0]
  exact lv_sub hl [1, 2, 3, 0] rfl
end
section
/-- by program, from the bytecode of RobotWorld.opOf -/
def f_X3_opOf (k : CK) (M : Mem) (p1 : Int32) : Int32 :=
  (p1 &&& 255)
set_option maxHeartbeats 4000000 in
set_option maxRecDepth 100000 in
theorem c_X3_opOf (l : Launch) (k : CK) (M : Mem) (p1 : Int32)  : Met l yX3_opOf wsX3_opOf (rmK 0 0) (wPc (cw k) M [.int p1]) (wQi (cw k) (fun r u => r = (f_X3_opOf k M p1) ∧ u = M)) 0 0 (wA (cw k)) := by
  refine wx_met (cc := cX3_opOf) (maxL := 1) (ret := (some .int)) (by decide) rfl (Nat.le_of_ble_eq_true rfl) ?_
  intro p e s m below meth c ls hx hb hr hml hts hown hlocks hP hK hD hZ hS hl
  have hown : s.vm.findClass RX3 = some m.cls := hown
  have hl : lv_has ls 1 [(0, .int p1)] := hl
  refine lv_iload_n hx hb dX3_opOf_0 rfl (lv_at hl 0 rfl) ?_
  refine lv_sipush (v := 255) hx hb dX3_opOf_1 (by decide) ?_
  refine lv_iand hx hb dX3_opOf_4 ?_
  have e9 : f_X3_opOf k M p1 = (p1 &&& 255) := rfl
  exact wx_iret hx hb hr hlocks hP hS rfl ⟨e9.symm, rfl⟩ dX3_opOf_5
/-- by program, from the bytecode of RobotWorld.rOf -/
def f_X3_rOf (k : CK) (M : Mem) (p1 : Int32) : Int32 :=
  ((p1 >>> (8 &&& 31)) &&& 15)
set_option maxHeartbeats 4000000 in
set_option maxRecDepth 100000 in
theorem c_X3_rOf (l : Launch) (k : CK) (M : Mem) (p1 : Int32)  : Met l yX3_rOf wsX3_rOf (rmK 0 0) (wPc (cw k) M [.int p1]) (wQi (cw k) (fun r u => r = (f_X3_rOf k M p1) ∧ u = M)) 0 0 (wA (cw k)) := by
  refine wx_met (cc := cX3_rOf) (maxL := 1) (ret := (some .int)) (by decide) rfl (Nat.le_of_ble_eq_true rfl) ?_
  intro p e s m below meth c ls hx hb hr hml hts hown hlocks hP hK hD hZ hS hl
  have hown : s.vm.findClass RX3 = some m.cls := hown
  have hl : lv_has ls 1 [(0, .int p1)] := hl
  refine lv_iload_n hx hb dX3_rOf_0 rfl (lv_at hl 0 rfl) ?_
  refine lv_bipush (v := 8) hx hb dX3_rOf_1 (by decide) ?_
  refine lv_ishr hx hb dX3_rOf_3 ?_
  refine lv_bipush (v := 15) hx hb dX3_rOf_4 (by decide) ?_
  refine lv_iand hx hb dX3_rOf_6 ?_
  have e9 : f_X3_rOf k M p1 = ((p1 >>> (8 &&& 31)) &&& 15) := rfl
  exact wx_iret hx hb hr hlocks hP hS rfl ⟨e9.symm, rfl⟩ dX3_rOf_7
/-- by program, from the bytecode of RobotWorld.sOf -/
def f_X3_sOf (k : CK) (M : Mem) (p1 : Int32) : Int32 :=
  ((p1 >>> (12 &&& 31)) &&& 15)
set_option maxHeartbeats 4000000 in
set_option maxRecDepth 100000 in
theorem c_X3_sOf (l : Launch) (k : CK) (M : Mem) (p1 : Int32)  : Met l yX3_sOf wsX3_sOf (rmK 0 0) (wPc (cw k) M [.int p1]) (wQi (cw k) (fun r u => r = (f_X3_sOf k M p1) ∧ u = M)) 0 0 (wA (cw k)) := by
  refine wx_met (cc := cX3_sOf) (maxL := 1) (ret := (some .int)) (by decide) rfl (Nat.le_of_ble_eq_true rfl) ?_
  intro p e s m below meth c ls hx hb hr hml hts hown hlocks hP hK hD hZ hS hl
  have hown : s.vm.findClass RX3 = some m.cls := hown
  have hl : lv_has ls 1 [(0, .int p1)] := hl
  refine lv_iload_n hx hb dX3_sOf_0 rfl (lv_at hl 0 rfl) ?_
  refine lv_bipush (v := 12) hx hb dX3_sOf_1 (by decide) ?_
  refine lv_ishr hx hb dX3_sOf_3 ?_
  refine lv_bipush (v := 15) hx hb dX3_sOf_4 (by decide) ?_
  refine lv_iand hx hb dX3_sOf_6 ?_
  have e9 : f_X3_sOf k M p1 = ((p1 >>> (12 &&& 31)) &&& 15) := rfl
  exact wx_iret hx hb hr hlocks hP hS rfl ⟨e9.symm, rfl⟩ dX3_sOf_7
/-- by program, from the bytecode of RobotWorld.calculated -/
def f_X3_calculated (k : CK) (M : Mem) (p1 : Int32) (p2 : Int32) (p3 : Int32) (p4 : Int32) : Int32 :=
  if p1 = 1 then
    p4
  else
    if p1 = 2 then
      p3
    else
      if p1 = 3 then
        (p2 + p3)
      else
        if p1 = 4 then
          (p2 - p3)
        else
          if p1 = 5 then
            (p2 * p3)
          else
            if p1 = 6 then
              (p2 / p3)
            else
              if p1 = 7 then
                (p2 - p2 / p3 * p3)
              else
                if p1 = 8 then
                  if p3 ≤ p2 then
                    0
                  else
                    1
                else
                  if p1 = 9 then
                    if p2 = p3 then
                      1
                    else
                      0
                  else
                    p2
set_option maxHeartbeats 4000000 in
set_option maxRecDepth 100000 in
theorem c_X3_calculated (l : Launch) (k : CK) (M : Mem) (p1 : Int32) (p2 : Int32) (p3 : Int32) (p4 : Int32) (hdv : p1 = 6 ∨ p1 = 7 → ¬ p3 = 0) : Met l yX3_calculated wsX3_calculated (rmK 0 0) (wPc (cw k) M [.int p1, .int p2, .int p3, .int p4]) (wQi (cw k) (fun r u => r = (f_X3_calculated k M p1 p2 p3 p4) ∧ u = M)) 0 0 (wA (cw k)) := by
  refine wx_met (cc := cX3_calculated) (maxL := 4) (ret := (some .int)) (by decide) rfl (Nat.le_of_ble_eq_true rfl) ?_
  intro p e s m below meth c ls hx hb hr hml hts hown hlocks hP hK hD hZ hS hl
  have hown : s.vm.findClass RX3 = some m.cls := hown
  have hl : lv_has ls 4 [(0, .int p1), (1, .int p2), (2, .int p3), (3, .int p4)] := hl
  refine lv_iload_n hx hb dX3_calculated_0 rfl (lv_at hl 0 rfl) ?_
  by_cases e_1_1 : p1 = 1
  · refine lv_tableIn (tgt := 52) hx hb dX3_calculated_1 (by rw [e_1_1]; decide) (by rw [e_1_1]; decide) (by rw [e_1_1]; rfl) (by decide) ?_
    refine lv_iload_n hx hb dX3_calculated_52 rfl (lv_at hl 3 rfl) ?_
    refine lv_goto (tgt := 117) hx hb dX3_calculated_53 (by decide) ?_
    have e9 : f_X3_calculated k M p1 p2 p3 p4 = p4 := (by unfold f_X3_calculated; rw [if_pos e_1_1])
    exact wx_iret hx hb hr hlocks hP hS rfl ⟨e9.symm, rfl⟩ dX3_calculated_117
  by_cases e_1_2 : p1 = 2
  · refine lv_tableIn (tgt := 56) hx hb dX3_calculated_1 (by rw [e_1_2]; decide) (by rw [e_1_2]; decide) (by rw [e_1_2]; rfl) (by decide) ?_
    refine lv_iload_n hx hb dX3_calculated_56 rfl (lv_at hl 2 rfl) ?_
    refine lv_goto (tgt := 117) hx hb dX3_calculated_57 (by decide) ?_
    have e9 : f_X3_calculated k M p1 p2 p3 p4 = p3 := (by unfold f_X3_calculated; rw [if_neg e_1_1, if_pos e_1_2])
    exact wx_iret hx hb hr hlocks hP hS rfl ⟨e9.symm, rfl⟩ dX3_calculated_117
  by_cases e_1_3 : p1 = 3
  · refine lv_tableIn (tgt := 60) hx hb dX3_calculated_1 (by rw [e_1_3]; decide) (by rw [e_1_3]; decide) (by rw [e_1_3]; rfl) (by decide) ?_
    refine lv_iload_n hx hb dX3_calculated_60 rfl (lv_at hl 1 rfl) ?_
    refine lv_iload_n hx hb dX3_calculated_61 rfl (lv_at hl 2 rfl) ?_
    refine lv_iadd hx hb dX3_calculated_62 ?_
    refine lv_goto (tgt := 117) hx hb dX3_calculated_63 (by decide) ?_
    have e9 : f_X3_calculated k M p1 p2 p3 p4 = (p2 + p3) := (by unfold f_X3_calculated; rw [if_neg e_1_1, if_neg e_1_2, if_pos e_1_3])
    exact wx_iret hx hb hr hlocks hP hS rfl ⟨e9.symm, rfl⟩ dX3_calculated_117
  by_cases e_1_4 : p1 = 4
  · refine lv_tableIn (tgt := 66) hx hb dX3_calculated_1 (by rw [e_1_4]; decide) (by rw [e_1_4]; decide) (by rw [e_1_4]; rfl) (by decide) ?_
    refine lv_iload_n hx hb dX3_calculated_66 rfl (lv_at hl 1 rfl) ?_
    refine lv_iload_n hx hb dX3_calculated_67 rfl (lv_at hl 2 rfl) ?_
    refine lv_isub hx hb dX3_calculated_68 ?_
    refine lv_goto (tgt := 117) hx hb dX3_calculated_69 (by decide) ?_
    have e9 : f_X3_calculated k M p1 p2 p3 p4 = (p2 - p3) := (by unfold f_X3_calculated; rw [if_neg e_1_1, if_neg e_1_2, if_neg e_1_3, if_pos e_1_4])
    exact wx_iret hx hb hr hlocks hP hS rfl ⟨e9.symm, rfl⟩ dX3_calculated_117
  by_cases e_1_5 : p1 = 5
  · refine lv_tableIn (tgt := 72) hx hb dX3_calculated_1 (by rw [e_1_5]; decide) (by rw [e_1_5]; decide) (by rw [e_1_5]; rfl) (by decide) ?_
    refine lv_iload_n hx hb dX3_calculated_72 rfl (lv_at hl 1 rfl) ?_
    refine lv_iload_n hx hb dX3_calculated_73 rfl (lv_at hl 2 rfl) ?_
    refine lv_imul hx hb dX3_calculated_74 ?_
    refine lv_goto (tgt := 117) hx hb dX3_calculated_75 (by decide) ?_
    have e9 : f_X3_calculated k M p1 p2 p3 p4 = (p2 * p3) := (by unfold f_X3_calculated; rw [if_neg e_1_1, if_neg e_1_2, if_neg e_1_3, if_neg e_1_4, if_pos e_1_5])
    exact wx_iret hx hb hr hlocks hP hS rfl ⟨e9.symm, rfl⟩ dX3_calculated_117
  by_cases e_1_6 : p1 = 6
  · refine lv_tableIn (tgt := 78) hx hb dX3_calculated_1 (by rw [e_1_6]; decide) (by rw [e_1_6]; decide) (by rw [e_1_6]; rfl) (by decide) ?_
    refine lv_iload_n hx hb dX3_calculated_78 rfl (lv_at hl 1 rfl) ?_
    refine lv_iload_n hx hb dX3_calculated_79 rfl (lv_at hl 2 rfl) ?_
    refine lv_idiv hx hb dX3_calculated_80 (hdv (Or.inl e_1_6)) ?_
    refine lv_goto (tgt := 117) hx hb dX3_calculated_81 (by decide) ?_
    have e9 : f_X3_calculated k M p1 p2 p3 p4 = (p2 / p3) := (by unfold f_X3_calculated; rw [if_neg e_1_1, if_neg e_1_2, if_neg e_1_3, if_neg e_1_4, if_neg e_1_5, if_pos e_1_6])
    exact wx_iret hx hb hr hlocks hP hS rfl ⟨e9.symm, rfl⟩ dX3_calculated_117
  by_cases e_1_7 : p1 = 7
  · refine lv_tableIn (tgt := 84) hx hb dX3_calculated_1 (by rw [e_1_7]; decide) (by rw [e_1_7]; decide) (by rw [e_1_7]; rfl) (by decide) ?_
    refine lv_iload_n hx hb dX3_calculated_84 rfl (lv_at hl 1 rfl) ?_
    refine lv_iload_n hx hb dX3_calculated_85 rfl (lv_at hl 2 rfl) ?_
    refine lv_irem hx hb dX3_calculated_86 (hdv (Or.inr e_1_7)) ?_
    refine lv_goto (tgt := 117) hx hb dX3_calculated_87 (by decide) ?_
    have e9 : f_X3_calculated k M p1 p2 p3 p4 = (p2 - p2 / p3 * p3) := (by unfold f_X3_calculated; rw [if_neg e_1_1, if_neg e_1_2, if_neg e_1_3, if_neg e_1_4, if_neg e_1_5, if_neg e_1_6, if_pos e_1_7])
    exact wx_iret hx hb hr hlocks hP hS rfl ⟨e9.symm, rfl⟩ dX3_calculated_117
  by_cases e_1_8 : p1 = 8
  · refine lv_tableIn (tgt := 90) hx hb dX3_calculated_1 (by rw [e_1_8]; decide) (by rw [e_1_8]; decide) (by rw [e_1_8]; rfl) (by decide) ?_
    refine lv_iload_n hx hb dX3_calculated_90 rfl (lv_at hl 1 rfl) ?_
    refine lv_iload_n hx hb dX3_calculated_91 rfl (lv_at hl 2 rfl) ?_
    refine lv_icmp_ge (tgt := 99) hx hb dX3_calculated_92 (by decide) (fun c_92 => ?_) (fun c_92 => ?_)
    · refine lv_iconst (v := 0) hx hb dX3_calculated_99 (by decide) ?_
      refine lv_goto (tgt := 117) hx hb dX3_calculated_100 (by decide) ?_
      have e9 : f_X3_calculated k M p1 p2 p3 p4 = 0 := (by unfold f_X3_calculated; rw [if_neg e_1_1, if_neg e_1_2, if_neg e_1_3, if_neg e_1_4, if_neg e_1_5, if_neg e_1_6, if_neg e_1_7, if_pos e_1_8, if_pos c_92])
      exact wx_iret hx hb hr hlocks hP hS rfl ⟨e9.symm, rfl⟩ dX3_calculated_117
    · refine lv_iconst (v := 1) hx hb dX3_calculated_95 (by decide) ?_
      refine lv_goto (tgt := 117) hx hb dX3_calculated_96 (by decide) ?_
      have e9 : f_X3_calculated k M p1 p2 p3 p4 = 1 := (by unfold f_X3_calculated; rw [if_neg e_1_1, if_neg e_1_2, if_neg e_1_3, if_neg e_1_4, if_neg e_1_5, if_neg e_1_6, if_neg e_1_7, if_pos e_1_8, if_neg c_92])
      exact wx_iret hx hb hr hlocks hP hS rfl ⟨e9.symm, rfl⟩ dX3_calculated_117
  by_cases e_1_9 : p1 = 9
  · refine lv_tableIn (tgt := 103) hx hb dX3_calculated_1 (by rw [e_1_9]; decide) (by rw [e_1_9]; decide) (by rw [e_1_9]; rfl) (by decide) ?_
    refine lv_iload_n hx hb dX3_calculated_103 rfl (lv_at hl 1 rfl) ?_
    refine lv_iload_n hx hb dX3_calculated_104 rfl (lv_at hl 2 rfl) ?_
    refine lv_icmp_ne (tgt := 112) hx hb dX3_calculated_105 (by decide) (fun c_105 => ?_) (fun c_105 => ?_)
    · refine lv_iconst (v := 0) hx hb dX3_calculated_112 (by decide) ?_
      refine lv_goto (tgt := 117) hx hb dX3_calculated_113 (by decide) ?_
      have e9 : f_X3_calculated k M p1 p2 p3 p4 = 0 := (by unfold f_X3_calculated; rw [if_neg e_1_1, if_neg e_1_2, if_neg e_1_3, if_neg e_1_4, if_neg e_1_5, if_neg e_1_6, if_neg e_1_7, if_neg e_1_8, if_pos e_1_9, if_neg c_105])
      exact wx_iret hx hb hr hlocks hP hS rfl ⟨e9.symm, rfl⟩ dX3_calculated_117
    · refine lv_iconst (v := 1) hx hb dX3_calculated_108 (by decide) ?_
      refine lv_goto (tgt := 117) hx hb dX3_calculated_109 (by decide) ?_
      have e9 : f_X3_calculated k M p1 p2 p3 p4 = 1 := (by unfold f_X3_calculated; rw [if_neg e_1_1, if_neg e_1_2, if_neg e_1_3, if_neg e_1_4, if_neg e_1_5, if_neg e_1_6, if_neg e_1_7, if_neg e_1_8, if_pos e_1_9, if_pos c_105])
      exact wx_iret hx hb hr hlocks hP hS rfl ⟨e9.symm, rfl⟩ dX3_calculated_117
  have hdf : p1.toInt < 1 ∨ 9 < p1.toInt := by have n0 := lv_neT e_1_1 (a := 1) (by decide); have n1 := lv_neT e_1_2 (a := 2) (by decide); have n2 := lv_neT e_1_3 (a := 3) (by decide); have n3 := lv_neT e_1_4 (a := 4) (by decide); have n4 := lv_neT e_1_5 (a := 5) (by decide); have n5 := lv_neT e_1_6 (a := 6) (by decide); have n6 := lv_neT e_1_7 (a := 7) (by decide); have n7 := lv_neT e_1_8 (a := 8) (by decide); have n8 := lv_neT e_1_9 (a := 9) (by decide);  omega
  refine lv_tableOut (tgt := 116) hx hb dX3_calculated_1 hdf (by decide) ?_
  refine lv_iload_n hx hb dX3_calculated_116 rfl (lv_at hl 1 rfl) ?_
  have e9 : f_X3_calculated k M p1 p2 p3 p4 = p2 := (by unfold f_X3_calculated; rw [if_neg e_1_1, if_neg e_1_2, if_neg e_1_3, if_neg e_1_4, if_neg e_1_5, if_neg e_1_6, if_neg e_1_7, if_neg e_1_8, if_neg e_1_9])
  exact wx_iret hx hb hr hlocks hP hS rfl ⟨e9.symm, rfl⟩ dX3_calculated_117
/-- by program, from the bytecode of RobotWorld.bounded -/
def f_X3_bounded (k : CK) (M : Mem) (p1 : Int32) (p2 : Int32) : Int32 :=
  (if 1 < (if p2 < p1 then p2 else p1) then (if p2 < p1 then p2 else p1) else 1)
set_option maxHeartbeats 4000000 in
set_option maxRecDepth 100000 in
theorem c_X3_bounded (l : Launch) (k : CK) (M : Mem) (p1 : Int32) (p2 : Int32)  : Met l yX3_bounded wsX3_bounded (rmK 1 14) (wPc (cw k) M [.int p1, .int p2]) (wQi (cw k) (fun r u => r = (f_X3_bounded k M p1 p2) ∧ u = M)) 0 0 (wA (cw k)) := by
  refine wx_met (cc := cX3_bounded) (maxL := 2) (ret := (some .int)) (by decide) rfl (Nat.le_of_ble_eq_true rfl) ?_
  intro p e s m below meth c ls hx hb hr hml hts hown hlocks hP hK hD hZ hS hl
  have hown : s.vm.findClass RX3 = some m.cls := hown
  have hl : lv_has ls 2 [(0, .int p1), (1, .int p2)] := hl
  refine lv_iconst (v := 1) hx hb dX3_bounded_0 (by decide) ?_
  refine lv_iload_n hx hb dX3_bounded_1 rfl (lv_at hl 0 rfl) ?_
  refine lv_iload_n hx hb dX3_bounded_2 rfl (lv_at hl 1 rfl) ?_
  refine va_mmin hx hb (by rw [hml]; exact hl.1.symm) hown (hts (.methodLink RX3 118 Lib.Math.min.name) (by decide +kernel)) (hts (.static Lib.Math.min.name) (by decide +kernel)) (hts (.initialized "java/lang/Math") (by decide +kernel)) (hts (.code Lib.Math.min.name Lib.Math.min.code 2 (some .int)) (by decide +kernel)) (by decide) (by decide) (by decide) (by decide) dX3_bounded_3 ?_
  refine va_mmax hx hb (by rw [hml]; exact hl.1.symm) hown (hts (.methodLink RX3 123 Lib.Math.max.name) (by decide +kernel)) (hts (.static Lib.Math.max.name) (by decide +kernel)) (hts (.initialized "java/lang/Math") (by decide +kernel)) (hts (.code Lib.Math.max.name Lib.Math.max.code 2 (some .int)) (by decide +kernel)) (by decide) (by decide) (by decide) (by decide) dX3_bounded_6 ?_
  have e9 : f_X3_bounded k M p1 p2 = (if 1 < (if p2 < p1 then p2 else p1) then (if p2 < p1 then p2 else p1) else 1) := rfl
  exact wx_iret hx hb hr hlocks hP hS rfl ⟨e9.symm, rfl⟩ dX3_bounded_9
/-- by program, from the bytecode of RobotWorld$Land.isInside -/
def f_X1_isInside (k : CK) (M : Mem) (p1 : Int32) (p2 : Int32) : Int32 :=
  if p1 < 0 then
    0
  else
    if (M 0 1 0) ≤ p1 then
      0
    else
      if p2 < 0 then
        0
      else
        if (M 0 1 1) ≤ p2 then
          0
        else
          1
set_option maxHeartbeats 4000000 in
set_option maxRecDepth 100000 in
theorem c_X1_isInside (l : Launch) (k : CK) (M : Mem) (p1 : Int32) (p2 : Int32)  : Met l yX1_isInside wsX1_isInside (rmK 0 0) (wPc (cw k) M [.ref (k.1 0 1), .int p1, .int p2]) (wQi (cw k) (fun r u => r = (f_X1_isInside k M p1 p2) ∧ u = M)) 0 0 (wA (cw k)) := by
  refine wx_met (cc := cX1_isInside) (maxL := 3) (ret := (some .boolean)) (by decide) rfl (Nat.le_of_ble_eq_true rfl) ?_
  intro p e s m below meth c ls hx hb hr hml hts hown hlocks hP hK hD hZ hS hl
  have hown : s.vm.findClass RX1 = some m.cls := hown
  have hl : lv_has ls 3 [(0, .ref (k.1 0 1)), (1, .int p1), (2, .int p2)] := hl
  have hiX1 : ∀ x ∈ u_ws RX1 TX1 6, x ∈ wsX1_isInside := by decide +kernel
  have hf15 := hts (.fieldLink RX1 15 "RobotWorld$Land" "height" "I") (by decide +kernel)
  have hf9 := hts (.fieldLink RX1 9 "RobotWorld$Land" "width" "I") (by decide +kernel)
  refine lv_iload_n hx hb dX1_isInside_0 rfl (lv_at hl 1 rfl) ?_
  refine lv_if_lt (tgt := 28) hx hb dX1_isInside_1 (by decide) (fun c_1 => ?_) (fun c_1 => ?_)
  · refine lv_iconst (v := 0) hx hb dX1_isInside_28 (by decide) ?_
    have e9 : f_X1_isInside k M p1 p2 = 0 := (by unfold f_X1_isInside; rw [if_pos c_1])
    exact wx_iret hx hb hr hlocks hP hS (by decide) ⟨e9.symm, rfl⟩ dX1_isInside_29
  · refine lv_iload_n hx hb dX1_isInside_4 rfl (lv_at hl 1 rfl) ?_
    refine lv_aload_n hx hb dX1_isInside_5 rfl (lv_at hl 0 rfl) ?_
    refine wx_get (w := (cw k)) (g := 0) (j := 1) hx hb hts hiX1 hown hK hP (cIx_0 (by decide)) rfl rfl 0 (by decide) hf9 rfl dX1_isInside_6 ?_
    refine lv_icmp_ge (tgt := 28) hx hb dX1_isInside_9 (by decide) (fun c_9 => ?_) (fun c_9 => ?_)
    · refine lv_iconst (v := 0) hx hb dX1_isInside_28 (by decide) ?_
      have e9 : f_X1_isInside k M p1 p2 = 0 := (by unfold f_X1_isInside; rw [if_neg c_1, if_pos c_9])
      exact wx_iret hx hb hr hlocks hP hS (by decide) ⟨e9.symm, rfl⟩ dX1_isInside_29
    · refine lv_iload_n hx hb dX1_isInside_12 rfl (lv_at hl 2 rfl) ?_
      refine lv_if_lt (tgt := 28) hx hb dX1_isInside_13 (by decide) (fun c_13 => ?_) (fun c_13 => ?_)
      · refine lv_iconst (v := 0) hx hb dX1_isInside_28 (by decide) ?_
        have e9 : f_X1_isInside k M p1 p2 = 0 := (by unfold f_X1_isInside; rw [if_neg c_1, if_neg c_9, if_pos c_13])
        exact wx_iret hx hb hr hlocks hP hS (by decide) ⟨e9.symm, rfl⟩ dX1_isInside_29
      · refine lv_iload_n hx hb dX1_isInside_16 rfl (lv_at hl 2 rfl) ?_
        refine lv_aload_n hx hb dX1_isInside_17 rfl (lv_at hl 0 rfl) ?_
        refine wx_get (w := (cw k)) (g := 0) (j := 1) hx hb hts hiX1 hown hK hP (cIx_0 (by decide)) rfl rfl 1 (by decide) hf15 rfl dX1_isInside_18 ?_
        refine lv_icmp_ge (tgt := 28) hx hb dX1_isInside_21 (by decide) (fun c_21 => ?_) (fun c_21 => ?_)
        · refine lv_iconst (v := 0) hx hb dX1_isInside_28 (by decide) ?_
          have e9 : f_X1_isInside k M p1 p2 = 0 := (by unfold f_X1_isInside; rw [if_neg c_1, if_neg c_9, if_neg c_13, if_pos c_21])
          exact wx_iret hx hb hr hlocks hP hS (by decide) ⟨e9.symm, rfl⟩ dX1_isInside_29
        · refine lv_iconst (v := 1) hx hb dX1_isInside_24 (by decide) ?_
          refine lv_goto (tgt := 29) hx hb dX1_isInside_25 (by decide) ?_
          have e9 : f_X1_isInside k M p1 p2 = 1 := (by unfold f_X1_isInside; rw [if_neg c_1, if_neg c_9, if_neg c_13, if_neg c_21])
          exact wx_iret hx hb hr hlocks hP hS (by decide) ⟨e9.symm, rfl⟩ dX1_isInside_29
theorem ins_of {k : CK} {M : Mem} {x y : Int32} (h : ¬ f_X1_isInside k M x y = 0) : ¬ x < 0 ∧ ¬ M 0 1 0 ≤ x ∧ ¬ y < 0 ∧ ¬ M 0 1 1 ≤ y := by
  unfold f_X1_isInside at h
  repeat (split at h; exact absurd rfl h)
  rename_i a b c d
  exact ⟨a, b, c, d⟩
theorem ins_sq {k : CK} {M : Mem} {x y : Int32} (hI : cI k M) (h : ¬ f_X1_isInside k M x y = 0) : vp_in (y * M 0 1 0 + x) (k.2.1 1) := by
  obtain ⟨a, b, c, d⟩ := ins_of h
  exact cI_sq hI a b c d
/-- by program, from the bytecode of RobotWorld$Land.isOpen -/
def f_X1_isOpen (k : CK) (M : Mem) (p1 : Int32) (p2 : Int32) : Int32 :=
  if p1 < 0 then
    0
  else
    if (M 0 1 0) ≤ p1 then
      0
    else
      if p2 < 0 then
        0
      else
        if (M 0 1 1) ≤ p2 then
          0
        else
          if (M 0 2 ((p2 * (M 0 1 0)) + p1).toNatClampNeg) = (-1) then
            0
          else
            1
set_option maxHeartbeats 4000000 in
set_option maxRecDepth 100000 in
theorem c_X1_isOpen (l : Launch) (k : CK) (M : Mem) (p1 : Int32) (p2 : Int32) (hI : cI k M) : Met l yX1_isOpen wsX1_isOpen (rmK 0 0) (wPc (cw k) M [.ref (k.1 0 1), .int p1, .int p2]) (wQi (cw k) (fun r u => r = (f_X1_isOpen k M p1 p2) ∧ u = M)) 0 0 (wA (cw k)) := by
  refine wx_met (cc := cX1_isOpen) (maxL := 3) (ret := (some .boolean)) (by decide) rfl (Nat.le_of_ble_eq_true rfl) ?_
  intro p e s m below meth c ls hx hb hr hml hts hown hlocks hP hK hD hZ hS hl
  have hown : s.vm.findClass RX1 = some m.cls := hown
  have hl : lv_has ls 3 [(0, .ref (k.1 0 1)), (1, .int p1), (2, .int p2)] := hl
  have hiX1 : ∀ x ∈ u_ws RX1 TX1 6, x ∈ wsX1_isOpen := by decide +kernel
  have hf15 := hts (.fieldLink RX1 15 "RobotWorld$Land" "height" "I") (by decide +kernel)
  have hf18 := hts (.fieldLink RX1 18 "RobotWorld$Land" "contents" "[I") (by decide +kernel)
  have hf9 := hts (.fieldLink RX1 9 "RobotWorld$Land" "width" "I") (by decide +kernel)
  refine lv_iload_n hx hb dX1_isOpen_0 rfl (lv_at hl 1 rfl) ?_
  refine lv_if_lt (tgt := 45) hx hb dX1_isOpen_1 (by decide) (fun c_1 => ?_) (fun c_1 => ?_)
  · refine lv_iconst (v := 0) hx hb dX1_isOpen_45 (by decide) ?_
    have e9 : f_X1_isOpen k M p1 p2 = 0 := (by unfold f_X1_isOpen; rw [if_pos c_1])
    exact wx_iret hx hb hr hlocks hP hS (by decide) ⟨e9.symm, rfl⟩ dX1_isOpen_46
  · refine lv_iload_n hx hb dX1_isOpen_4 rfl (lv_at hl 1 rfl) ?_
    refine lv_aload_n hx hb dX1_isOpen_5 rfl (lv_at hl 0 rfl) ?_
    refine wx_get (w := (cw k)) (g := 0) (j := 1) hx hb hts hiX1 hown hK hP (cIx_0 (by decide)) rfl rfl 0 (by decide) hf9 rfl dX1_isOpen_6 ?_
    refine lv_icmp_ge (tgt := 45) hx hb dX1_isOpen_9 (by decide) (fun c_9 => ?_) (fun c_9 => ?_)
    · refine lv_iconst (v := 0) hx hb dX1_isOpen_45 (by decide) ?_
      have e9 : f_X1_isOpen k M p1 p2 = 0 := (by unfold f_X1_isOpen; rw [if_neg c_1, if_pos c_9])
      exact wx_iret hx hb hr hlocks hP hS (by decide) ⟨e9.symm, rfl⟩ dX1_isOpen_46
    · refine lv_iload_n hx hb dX1_isOpen_12 rfl (lv_at hl 2 rfl) ?_
      refine lv_if_lt (tgt := 45) hx hb dX1_isOpen_13 (by decide) (fun c_13 => ?_) (fun c_13 => ?_)
      · refine lv_iconst (v := 0) hx hb dX1_isOpen_45 (by decide) ?_
        have e9 : f_X1_isOpen k M p1 p2 = 0 := (by unfold f_X1_isOpen; rw [if_neg c_1, if_neg c_9, if_pos c_13])
        exact wx_iret hx hb hr hlocks hP hS (by decide) ⟨e9.symm, rfl⟩ dX1_isOpen_46
      · refine lv_iload_n hx hb dX1_isOpen_16 rfl (lv_at hl 2 rfl) ?_
        refine lv_aload_n hx hb dX1_isOpen_17 rfl (lv_at hl 0 rfl) ?_
        refine wx_get (w := (cw k)) (g := 0) (j := 1) hx hb hts hiX1 hown hK hP (cIx_0 (by decide)) rfl rfl 1 (by decide) hf15 rfl dX1_isOpen_18 ?_
        refine lv_icmp_ge (tgt := 45) hx hb dX1_isOpen_21 (by decide) (fun c_21 => ?_) (fun c_21 => ?_)
        · refine lv_iconst (v := 0) hx hb dX1_isOpen_45 (by decide) ?_
          have e9 : f_X1_isOpen k M p1 p2 = 0 := (by unfold f_X1_isOpen; rw [if_neg c_1, if_neg c_9, if_neg c_13, if_pos c_21])
          exact wx_iret hx hb hr hlocks hP hS (by decide) ⟨e9.symm, rfl⟩ dX1_isOpen_46
        · refine lv_aload_n hx hb dX1_isOpen_24 rfl (lv_at hl 0 rfl) ?_
          refine wx_get (w := (cw k)) (g := 0) (j := 1) hx hb hts hiX1 hown hK hP (cIx_0 (by decide)) rfl rfl 2 (by decide) hf18 rfl dX1_isOpen_25 ?_
          refine lv_iload_n hx hb dX1_isOpen_28 rfl (lv_at hl 2 rfl) ?_
          refine lv_aload_n hx hb dX1_isOpen_29 rfl (lv_at hl 0 rfl) ?_
          refine wx_get (w := (cw k)) (g := 0) (j := 1) hx hb hts hiX1 hown hK hP (cIx_0 (by decide)) rfl rfl 0 (by decide) hf9 rfl dX1_isOpen_30 ?_
          refine lv_imul hx hb dX1_isOpen_33 ?_
          refine lv_iload_n hx hb dX1_isOpen_34 rfl (lv_at hl 1 rfl) ?_
          refine lv_iadd hx hb dX1_isOpen_35 ?_
          refine wx_iald (w := (cw k)) (g := 0) (j := 2) hx hb hK hP (cIx_0 (by decide)) 0 rfl rfl (cI_sq hI c_1 c_9 c_13 c_21) dX1_isOpen_36 ?_
          refine lv_iconst (v := (-1)) hx hb dX1_isOpen_37 (by decide) ?_
          refine lv_icmp_eq (tgt := 45) hx hb dX1_isOpen_38 (by decide) (fun c_38 => ?_) (fun c_38 => ?_)
          · refine lv_iconst (v := 0) hx hb dX1_isOpen_45 (by decide) ?_
            have e9 : f_X1_isOpen k M p1 p2 = 0 := (by unfold f_X1_isOpen; rw [if_neg c_1, if_neg c_9, if_neg c_13, if_neg c_21, if_pos c_38])
            exact wx_iret hx hb hr hlocks hP hS (by decide) ⟨e9.symm, rfl⟩ dX1_isOpen_46
          · refine lv_iconst (v := 1) hx hb dX1_isOpen_41 (by decide) ?_
            refine lv_goto (tgt := 46) hx hb dX1_isOpen_42 (by decide) ?_
            have e9 : f_X1_isOpen k M p1 p2 = 1 := (by unfold f_X1_isOpen; rw [if_neg c_1, if_neg c_9, if_neg c_13, if_neg c_21, if_neg c_38])
            exact wx_iret hx hb hr hlocks hP hS (by decide) ⟨e9.symm, rfl⟩ dX1_isOpen_46
theorem opn_of {k : CK} {M : Mem} {x y : Int32} (h : ¬ f_X1_isOpen k M x y = 0) : ¬ x < 0 ∧ ¬ M 0 1 0 ≤ x ∧ ¬ y < 0 ∧ ¬ M 0 1 1 ≤ y ∧ ¬ M 0 2 (y * M 0 1 0 + x).toNatClampNeg = -1 := by
  unfold f_X1_isOpen at h
  repeat (split at h; exact absurd rfl h)
  rename_i a b c d e
  exact ⟨a, b, c, d, e⟩
theorem opn_sq {k : CK} {M : Mem} {x y : Int32} (hI : cI k M) (h : ¬ f_X1_isOpen k M x y = 0) : vp_in (y * M 0 1 0 + x) (k.2.1 1) := by
  obtain ⟨a, b, c, d, -⟩ := opn_of h
  exact cI_sq hI a b c d
/-- by program, from the bytecode of RobotWorld$Box.add -/
def f_X0_add (k : CK) (M : Mem) (i : Nat) (p1 : Int32) : Int32 × Mem :=
  if (M (i + 1) 3 1) < (nI (k.2.1 3)) then
    (1, (mu (mu M (i + 1) 4 (M (i + 1) 3 1).toNatClampNeg p1) (i + 1) 3 1 (((mu M (i + 1) 4 (M (i + 1) 3 1).toNatClampNeg p1) (i + 1) 3 1) + 1)))
  else
    (0, M)
set_option maxHeartbeats 4000000 in
set_option maxRecDepth 100000 in
theorem c_X0_add (l : Launch) (k : CK) (M : Mem) (i : Nat) (p1 : Int32) (hi : i < k.2.1 0) (hI : cI k M) : Met l yX0_add wsX0_add (rmK 0 0) (wPc (cw k) M [.ref (k.1 (i + 1) 3), .int p1]) (wQi (cw k) (fun r u => r = (f_X0_add k M i p1).1 ∧ u = (f_X0_add k M i p1).2)) 0 0 (wA (cw k)) := by
  refine wx_met (cc := cX0_add) (maxL := 2) (ret := (some .boolean)) (by decide) rfl (Nat.le_of_ble_eq_true rfl) ?_
  intro p e s m below meth c ls hx hb hr hml hts hown hlocks hP hK hD hZ hS hl
  have hown : s.vm.findClass RX0 = some m.cls := hown
  have hl : lv_has ls 2 [(0, .ref (k.1 (i + 1) 3)), (1, .int p1)] := hl
  have hiX0 : ∀ x ∈ u_ws RX0 TX0 2, x ∈ wsX0_add := by decide +kernel
  have hf13 := hts (.fieldLink RX0 13 "RobotWorld$Box" "count" "I") (by decide +kernel)
  have hf7 := hts (.fieldLink RX0 7 "RobotWorld$Box" "numbers" "[I") (by decide +kernel)
  refine lv_aload_n hx hb dX0_add_0 rfl (lv_at hl 0 rfl) ?_
  refine wx_get (w := (cw k)) (g := (i + 1)) (j := 3) hx hb hts hiX0 hown hK hP (cIx_r hi (by decide)) rfl rfl 1 (by decide) hf13 rfl dX0_add_1 ?_
  refine lv_aload_n hx hb dX0_add_4 rfl (lv_at hl 0 rfl) ?_
  refine wx_get (w := (cw k)) (g := (i + 1)) (j := 3) hx hb hts hiX0 hown hK hP (cIx_r hi (by decide)) rfl rfl 0 (by decide) hf7 rfl dX0_add_5 ?_
  refine wx_alen (w := (cw k)) (g := (i + 1)) (j := 4) hx hb hK hP (cIx_r hi (by decide)) 0 rfl rfl dX0_add_8 ?_
  refine lv_icmp_lt (tgt := 14) hx hb dX0_add_9 (by decide) (fun c_9 => ?_) (fun c_9 => ?_)
  · refine lv_aload_n hx hb dX0_add_14 rfl (lv_at hl 0 rfl) ?_
    refine wx_get (w := (cw k)) (g := (i + 1)) (j := 3) hx hb hts hiX0 hown hK hP (cIx_r hi (by decide)) rfl rfl 0 (by decide) hf7 rfl dX0_add_15 ?_
    refine lv_aload_n hx hb dX0_add_18 rfl (lv_at hl 0 rfl) ?_
    refine wx_get (w := (cw k)) (g := (i + 1)) (j := 3) hx hb hts hiX0 hown hK hP (cIx_r hi (by decide)) rfl rfl 1 (by decide) hf13 rfl dX0_add_19 ?_
    refine lv_iload_n hx hb dX0_add_22 rfl (lv_at hl 1 rfl) ?_
    refine wx_iast (w := (cw k)) (g := (i + 1)) (j := 4) hx hb hK hP hD hS (cIx_r hi (by decide)) 0 (fun _ => rfl) rfl (vinL (cI_c hI hi) c_9 (cI_m hI)) dX0_add_23 (fun H locs hP hS => ?_)
    refine lv_aload_n hx hb dX0_add_24 rfl (lv_at hl 0 rfl) ?_
    refine lv_dup hx hb dX0_add_25 rfl ?_
    refine wx_get (w := (cw k)) (g := (i + 1)) (j := 3) hx hb hts hiX0 hown hK hP (cIx_r hi (by decide)) rfl rfl 1 (by decide) hf13 rfl dX0_add_26 ?_
    refine lv_iconst (v := 1) hx hb dX0_add_29 (by decide) ?_
    refine lv_iadd hx hb dX0_add_30 ?_
    refine wx_put (w := (cw k)) (g := (i + 1)) (j := 3) hx hb hts hiX0 tyX0 tyX0_ok nmX0 hown hK hP hD hS (cIx_r hi (by decide)) rfl rfl 1 (by decide) hf13 rfl (by decide +kernel) rfl (Nat.le_of_ble_eq_true rfl) dX0_add_31 (fun H locs hP hS => ?_)
    refine lv_iconst (v := 1) hx hb dX0_add_34 (by decide) ?_
    have e9 : f_X0_add k M i p1 = (1, (mu (mu M (i + 1) 4 (M (i + 1) 3 1).toNatClampNeg p1) (i + 1) 3 1 (((mu M (i + 1) 4 (M (i + 1) 3 1).toNatClampNeg p1) (i + 1) 3 1) + 1))) := (by unfold f_X0_add; rw [if_pos c_9])
    exact wx_iret hx hb hr hlocks hP hS (by decide) ⟨by rw [e9], by rw [e9]⟩ dX0_add_35
  · refine lv_iconst (v := 0) hx hb dX0_add_12 (by decide) ?_
    have e9 : f_X0_add k M i p1 = (0, M) := (by unfold f_X0_add; rw [if_neg c_9])
    exact wx_iret hx hb hr hlocks hP hS (by decide) ⟨by rw [e9], by rw [e9]⟩ dX0_add_13
theorem cI_add {k : CK} {M : Mem} {i : Nat} {x : Int32} (hI : cI k M) (hi : i < k.2.1 0) : cI k (f_X0_add k M i x).2 := by
  unfold f_X0_add
  split
  · rename_i c
    refine cI_mu3 (cI_mu hI (by omega) (by omega) (by omega)) ?_
    obtain ⟨j, hj, e⟩ := nI_of (cI_c hI hi)
    rw [mu_at, if_neg (by omega), e]
    rw [e] at c
    have h1 := (nI_ltI hj (cI_m hI)).mp c
    have h2 := cI_m hI
    rw [nI_1]
    exact nI_pos (by omega)
  · exact hI
theorem rf0 {k : CK} {M : Mem} (h : cI k M) : vp_in (0 : Int32) (k.2.1 3) := by
  rw [← nI_0]
  exact vp_in_nI (by have := h.2.2.2.1.1; omega) (cI_m h)
theorem rf_a {x : Int32} {N : Nat} (c : ¬ x ≤ 0) (c2 : x ≤ nI N) (hN : N < 2 ^ 31) : ∃ a : Nat, a + 1 ≤ N ∧ x - 1 = nI a := by
  have h0 : ¬ x < 0 := fun q => c (Int32.le_of_lt q)
  obtain ⟨j, hj, rfl⟩ := nI_of h0
  have h1 : j ≤ N := (nI_leI hj hN).mp c2
  cases j with
  | zero => exact absurd (by rw [nI_0]; exact Int32.le_refl 0) c
  | succ a => exact ⟨a, h1, nI_pred a⟩
theorem rf_r (M : Mem) (g : Nat) (v : Int32) : mu M g 3 1 v g 3 1 = v := by simp [mu_at]
theorem rf1 {M : Mem} {g : Nat} {x : Int32} {N : Nat} (c : ¬ x ≤ 0) (c2 : x ≤ nI N) (hN : N < 2 ^ 31) : ¬ mu M g 3 1 (x - 1) g 3 1 < 0 := by
  obtain ⟨a, h1, h2⟩ := rf_a c c2 hN
  rw [rf_r, h2]
  exact nI_pos (by omega)
theorem rf2 {M : Mem} {g : Nat} {x : Int32} {N : Nat} (c : ¬ x ≤ 0) (c2 : x ≤ nI N) (hN : N < 2 ^ 31) : (1 : Int32).toNatClampNeg + (mu M g 3 1 (x - 1) g 3 1).toNatClampNeg ≤ N := by
  obtain ⟨a, h1, h2⟩ := rf_a c c2 hN
  rw [rf_r, h2, nI_clamp (by omega), show (1 : Int32).toNatClampNeg = 1 from by decide]
  omega
theorem rf3 {M : Mem} {g : Nat} {x : Int32} {N : Nat} (c : ¬ x ≤ 0) (c2 : x ≤ nI N) (hN : N < 2 ^ 31) : (0 : Int32).toNatClampNeg + (mu M g 3 1 (x - 1) g 3 1).toNatClampNeg ≤ N := by
  obtain ⟨a, h1, h2⟩ := rf_a c c2 hN
  rw [rf_r, h2, nI_clamp (by omega), show (0 : Int32).toNatClampNeg = 0 from by decide]
  omega
/-- by program, from the bytecode of RobotWorld$Box.removeFirst -/
def f_X0_removeFirst (k : CK) (M : Mem) (i : Nat) : Int32 × Mem :=
  if (M (i + 1) 3 1) ≤ 0 then
    (0, M)
  else
    if (M (i + 1) 3 1) ≤ (nI (k.2.1 3)) then
      ((M (i + 1) 4 (0 : Int32).toNatClampNeg), (mr (mu M (i + 1) 3 1 ((M (i + 1) 3 1) - 1)) (i + 1) 4 (va_cpy ((mu M (i + 1) 3 1 ((M (i + 1) 3 1) - 1)) (i + 1) 4) ((mu M (i + 1) 3 1 ((M (i + 1) 3 1) - 1)) (i + 1) 4) (1 : Int32).toNatClampNeg (0 : Int32).toNatClampNeg ((mu M (i + 1) 3 1 ((M (i + 1) 3 1) - 1)) (i + 1) 3 1).toNatClampNeg)))
    else
      (0, M)
set_option maxHeartbeats 4000000 in
set_option maxRecDepth 100000 in
theorem c_X0_removeFirst (l : Launch) (k : CK) (M : Mem) (i : Nat) (hi : i < k.2.1 0) (hI : cI k M) : Met l yX0_removeFirst wsX0_removeFirst (rmK 1 40) (wPc (cw k) M [.ref (k.1 (i + 1) 3)]) (wQi (cw k) (fun r u => r = (f_X0_removeFirst k M i).1 ∧ u = (f_X0_removeFirst k M i).2)) 0 0 (wA (cw k)) := by
  refine wx_met (cc := cX0_removeFirst) (maxL := 2) (ret := (some .int)) (by decide) rfl (Nat.le_of_ble_eq_true rfl) ?_
  intro p e s m below meth c ls hx hb hr hml hts hown hlocks hP hK hD hZ hS hl
  have hown : s.vm.findClass RX0 = some m.cls := hown
  have hl : lv_has ls 2 [(0, .ref (k.1 (i + 1) 3))] := hl
  have hiX0 : ∀ x ∈ u_ws RX0 TX0 2, x ∈ wsX0_removeFirst := by decide +kernel
  have hf13 := hts (.fieldLink RX0 13 "RobotWorld$Box" "count" "I") (by decide +kernel)
  have hf7 := hts (.fieldLink RX0 7 "RobotWorld$Box" "numbers" "[I") (by decide +kernel)
  refine lv_aload_n hx hb dX0_removeFirst_0 rfl (lv_at hl 0 rfl) ?_
  refine wx_get (w := (cw k)) (g := (i + 1)) (j := 3) hx hb hts hiX0 hown hK hP (cIx_r hi (by decide)) rfl rfl 1 (by decide) hf13 rfl dX0_removeFirst_1 ?_
  refine lv_if_le (tgt := 19) hx hb dX0_removeFirst_4 (by decide) (fun c_4 => ?_) (fun c_4 => ?_)
  · refine lv_iconst (v := 0) hx hb dX0_removeFirst_19 (by decide) ?_
    have e9 : f_X0_removeFirst k M i = (0, M) := (by unfold f_X0_removeFirst; rw [if_pos c_4])
    exact wx_iret hx hb hr hlocks hP hS rfl ⟨by rw [e9], by rw [e9]⟩ dX0_removeFirst_20
  · refine lv_aload_n hx hb dX0_removeFirst_7 rfl (lv_at hl 0 rfl) ?_
    refine wx_get (w := (cw k)) (g := (i + 1)) (j := 3) hx hb hts hiX0 hown hK hP (cIx_r hi (by decide)) rfl rfl 1 (by decide) hf13 rfl dX0_removeFirst_8 ?_
    refine lv_aload_n hx hb dX0_removeFirst_11 rfl (lv_at hl 0 rfl) ?_
    refine wx_get (w := (cw k)) (g := (i + 1)) (j := 3) hx hb hts hiX0 hown hK hP (cIx_r hi (by decide)) rfl rfl 0 (by decide) hf7 rfl dX0_removeFirst_12 ?_
    refine wx_alen (w := (cw k)) (g := (i + 1)) (j := 4) hx hb hK hP (cIx_r hi (by decide)) 0 rfl rfl dX0_removeFirst_15 ?_
    refine lv_icmp_le (tgt := 21) hx hb dX0_removeFirst_16 (by decide) (fun c_16 => ?_) (fun c_16 => ?_)
    · refine lv_aload_n hx hb dX0_removeFirst_21 rfl (lv_at hl 0 rfl) ?_
      refine wx_get (w := (cw k)) (g := (i + 1)) (j := 3) hx hb hts hiX0 hown hK hP (cIx_r hi (by decide)) rfl rfl 0 (by decide) hf7 rfl dX0_removeFirst_22 ?_
      refine lv_iconst (v := 0) hx hb dX0_removeFirst_25 (by decide) ?_
      refine wx_iald (w := (cw k)) (g := (i + 1)) (j := 4) hx hb hK hP (cIx_r hi (by decide)) 0 rfl rfl (rf0 hI) dX0_removeFirst_26 ?_
      refine lv_istore_n (lv' := [(1, .int (M (i + 1) 4 (0 : Int32).toNatClampNeg)), (0, .ref (k.1 (i + 1) 3))]) hx hb dX0_removeFirst_27 rfl hl (by decide) rfl (fun ls hl => ?_)
      refine lv_aload_n hx hb dX0_removeFirst_28 rfl (lv_at hl 1 rfl) ?_
      refine lv_dup hx hb dX0_removeFirst_29 rfl ?_
      refine wx_get (w := (cw k)) (g := (i + 1)) (j := 3) hx hb hts hiX0 hown hK hP (cIx_r hi (by decide)) rfl rfl 1 (by decide) hf13 rfl dX0_removeFirst_30 ?_
      refine lv_iconst (v := 1) hx hb dX0_removeFirst_33 (by decide) ?_
      refine lv_isub hx hb dX0_removeFirst_34 ?_
      refine wx_put (w := (cw k)) (g := (i + 1)) (j := 3) hx hb hts hiX0 tyX0 tyX0_ok nmX0 hown hK hP hD hS (cIx_r hi (by decide)) rfl rfl 1 (by decide) hf13 rfl (by decide +kernel) rfl (Nat.le_of_ble_eq_true rfl) dX0_removeFirst_35 (fun H locs hP hS => ?_)
      refine lv_aload_n hx hb dX0_removeFirst_38 rfl (lv_at hl 1 rfl) ?_
      refine wx_get (w := (cw k)) (g := (i + 1)) (j := 3) hx hb hts hiX0 hown hK hP (cIx_r hi (by decide)) rfl rfl 0 (by decide) hf7 rfl dX0_removeFirst_39 ?_
      refine lv_iconst (v := 1) hx hb dX0_removeFirst_42 (by decide) ?_
      refine lv_aload_n hx hb dX0_removeFirst_43 rfl (lv_at hl 1 rfl) ?_
      refine wx_get (w := (cw k)) (g := (i + 1)) (j := 3) hx hb hts hiX0 hown hK hP (cIx_r hi (by decide)) rfl rfl 0 (by decide) hf7 rfl dX0_removeFirst_44 ?_
      refine lv_iconst (v := 0) hx hb dX0_removeFirst_47 (by decide) ?_
      refine lv_aload_n hx hb dX0_removeFirst_48 rfl (lv_at hl 1 rfl) ?_
      refine wx_get (w := (cw k)) (g := (i + 1)) (j := 3) hx hb hts hiX0 hown hK hP (cIx_r hi (by decide)) rfl rfl 1 (by decide) hf13 rfl dX0_removeFirst_49 ?_
      refine wx_copy (w := (cw k)) (g := (i + 1)) (j := 4) hx hb (by rw [hml]; exact hl.1.symm) hown (hts (.methodLink RX0 17 arraycopyName) (by decide +kernel)) (hts (.native arraycopyName) (by decide +kernel)) (hts (.static arraycopyName) (by decide +kernel)) (hts (.initialized "java/lang/System") (by decide +kernel)) hK hP hD hS (cIx_r hi (by decide)) 0 (fun _ => rfl) rfl (by decide) (by decide) (rf1 c_4 c_16 (cI_m hI)) (rf2 c_4 c_16 (cI_m hI)) (rf3 c_4 c_16 (cI_m hI)) (by decide) (by decide) dX0_removeFirst_52 (fun H locs hP hS => ?_)
      refine lv_iload_n hx hb dX0_removeFirst_55 rfl (lv_at hl 0 rfl) ?_
      have e9 : f_X0_removeFirst k M i = ((M (i + 1) 4 (0 : Int32).toNatClampNeg), (mr (mu M (i + 1) 3 1 ((M (i + 1) 3 1) - 1)) (i + 1) 4 (va_cpy ((mu M (i + 1) 3 1 ((M (i + 1) 3 1) - 1)) (i + 1) 4) ((mu M (i + 1) 3 1 ((M (i + 1) 3 1) - 1)) (i + 1) 4) (1 : Int32).toNatClampNeg (0 : Int32).toNatClampNeg ((mu M (i + 1) 3 1 ((M (i + 1) 3 1) - 1)) (i + 1) 3 1).toNatClampNeg))) := (by unfold f_X0_removeFirst; rw [if_neg c_4, if_pos c_16])
      exact wx_iret hx hb hr hlocks hP hS rfl ⟨by rw [e9], by rw [e9]⟩ dX0_removeFirst_56
    · refine lv_iconst (v := 0) hx hb dX0_removeFirst_19 (by decide) ?_
      have e9 : f_X0_removeFirst k M i = (0, M) := (by unfold f_X0_removeFirst; rw [if_neg c_4, if_neg c_16])
      exact wx_iret hx hb hr hlocks hP hS rfl ⟨by rw [e9], by rw [e9]⟩ dX0_removeFirst_20
theorem cI_removeFirst {k : CK} {M : Mem} {i : Nat} (hI : cI k M) : cI k (f_X0_removeFirst k M i).2 := by
  unfold f_X0_removeFirst
  split
  · exact hI
  · rename_i c
    split
    · rename_i c2
      obtain ⟨a, h1, h2⟩ := rf_a c c2 (cI_m hI)
      refine cI_mr (cI_mu3 hI ?_) (by omega) (by omega) (by omega)
      rw [h2]
      have := cI_m hI
      exact nI_pos (by omega)
    · exact hI
/-- by program, from the bytecode of RobotWorld$Robot.addWord -/
def f_X2_addWord (k : CK) (M : Mem) (i : Nat) (p1 : Int32) : Int32 × Mem :=
  if (M (i + 1) 0 8) < (nI (k.2.1 2)) then
    (1, (mu (mu M (i + 1) 1 (M (i + 1) 0 8).toNatClampNeg p1) (i + 1) 0 8 (((mu M (i + 1) 1 (M (i + 1) 0 8).toNatClampNeg p1) (i + 1) 0 8) + 1)))
  else
    (0, M)
set_option maxHeartbeats 4000000 in
set_option maxRecDepth 100000 in
theorem c_X2_addWord (l : Launch) (k : CK) (M : Mem) (i : Nat) (p1 : Int32) (hi : i < k.2.1 0) (hI : cI k M) : Met l yX2_addWord wsX2_addWord (rmK 0 0) (wPc (cw k) M [.ref (k.1 (i + 1) 0), .int p1]) (wQi (cw k) (fun r u => r = (f_X2_addWord k M i p1).1 ∧ u = (f_X2_addWord k M i p1).2)) 0 0 (wA (cw k)) := by
  refine wx_met (cc := cX2_addWord) (maxL := 2) (ret := (some .boolean)) (by decide) rfl (Nat.le_of_ble_eq_true rfl) ?_
  intro p e s m below meth c ls hx hb hr hml hts hown hlocks hP hK hD hZ hS hl
  have hown : s.vm.findClass RX2 = some m.cls := hown
  have hl : lv_has ls 2 [(0, .ref (k.1 (i + 1) 0)), (1, .int p1)] := hl
  have hiX2 : ∀ x ∈ u_ws RX2 TX2 12, x ∈ wsX2_addWord := by decide +kernel
  have hf15 := hts (.fieldLink RX2 15 "RobotWorld$Robot" "program" "[I") (by decide +kernel)
  have hf43 := hts (.fieldLink RX2 43 "RobotWorld$Robot" "words" "I") (by decide +kernel)
  refine lv_aload_n hx hb dX2_addWord_0 rfl (lv_at hl 0 rfl) ?_
  refine wx_get (w := (cw k)) (g := (i + 1)) (j := 0) hx hb hts hiX2 hown hK hP (cIx_r hi (by decide)) rfl rfl 8 (by decide) hf43 rfl dX2_addWord_1 ?_
  refine lv_aload_n hx hb dX2_addWord_4 rfl (lv_at hl 0 rfl) ?_
  refine wx_get (w := (cw k)) (g := (i + 1)) (j := 0) hx hb hts hiX2 hown hK hP (cIx_r hi (by decide)) rfl rfl 1 (by decide) hf15 rfl dX2_addWord_5 ?_
  refine wx_alen (w := (cw k)) (g := (i + 1)) (j := 1) hx hb hK hP (cIx_r hi (by decide)) 0 rfl rfl dX2_addWord_8 ?_
  refine lv_icmp_lt (tgt := 14) hx hb dX2_addWord_9 (by decide) (fun c_9 => ?_) (fun c_9 => ?_)
  · refine lv_aload_n hx hb dX2_addWord_14 rfl (lv_at hl 0 rfl) ?_
    refine wx_get (w := (cw k)) (g := (i + 1)) (j := 0) hx hb hts hiX2 hown hK hP (cIx_r hi (by decide)) rfl rfl 1 (by decide) hf15 rfl dX2_addWord_15 ?_
    refine lv_aload_n hx hb dX2_addWord_18 rfl (lv_at hl 0 rfl) ?_
    refine wx_get (w := (cw k)) (g := (i + 1)) (j := 0) hx hb hts hiX2 hown hK hP (cIx_r hi (by decide)) rfl rfl 8 (by decide) hf43 rfl dX2_addWord_19 ?_
    refine lv_iload_n hx hb dX2_addWord_22 rfl (lv_at hl 1 rfl) ?_
    refine wx_iast (w := (cw k)) (g := (i + 1)) (j := 1) hx hb hK hP hD hS (cIx_r hi (by decide)) 0 (fun _ => rfl) rfl (vinL (cI_p hI hi) c_9 (cI_l hI)) dX2_addWord_23 (fun H locs hP hS => ?_)
    refine lv_aload_n hx hb dX2_addWord_24 rfl (lv_at hl 0 rfl) ?_
    refine lv_dup hx hb dX2_addWord_25 rfl ?_
    refine wx_get (w := (cw k)) (g := (i + 1)) (j := 0) hx hb hts hiX2 hown hK hP (cIx_r hi (by decide)) rfl rfl 8 (by decide) hf43 rfl dX2_addWord_26 ?_
    refine lv_iconst (v := 1) hx hb dX2_addWord_29 (by decide) ?_
    refine lv_iadd hx hb dX2_addWord_30 ?_
    refine wx_put (w := (cw k)) (g := (i + 1)) (j := 0) hx hb hts hiX2 tyX2 tyX2_ok nmX2 hown hK hP hD hS (cIx_r hi (by decide)) rfl rfl 8 (by decide) hf43 rfl (by decide +kernel) rfl (Nat.le_of_ble_eq_true rfl) dX2_addWord_31 (fun H locs hP hS => ?_)
    refine lv_iconst (v := 1) hx hb dX2_addWord_34 (by decide) ?_
    have e9 : f_X2_addWord k M i p1 = (1, (mu (mu M (i + 1) 1 (M (i + 1) 0 8).toNatClampNeg p1) (i + 1) 0 8 (((mu M (i + 1) 1 (M (i + 1) 0 8).toNatClampNeg p1) (i + 1) 0 8) + 1))) := (by unfold f_X2_addWord; rw [if_pos c_9])
    exact wx_iret hx hb hr hlocks hP hS (by decide) ⟨by rw [e9], by rw [e9]⟩ dX2_addWord_35
  · refine lv_iconst (v := 0) hx hb dX2_addWord_12 (by decide) ?_
    have e9 : f_X2_addWord k M i p1 = (0, M) := (by unfold f_X2_addWord; rw [if_neg c_9])
    exact wx_iret hx hb hr hlocks hP hS (by decide) ⟨by rw [e9], by rw [e9]⟩ dX2_addWord_13
/-- by program, from the bytecode of RobotWorld$Robot.takesMail -/
def f_X2_takesMail (k : CK) (M : Mem) (i : Nat) : Int32 :=
  if (M (i + 1) 0 4) = 2 then
    1
  else
    if (M (i + 1) 0 4) = 3 then
      1
    else
      if (M (i + 1) 0 4) = 4 then
        1
      else
        0
set_option maxHeartbeats 4000000 in
set_option maxRecDepth 100000 in
theorem c_X2_takesMail (l : Launch) (k : CK) (M : Mem) (i : Nat) (hi : i < k.2.1 0)  : Met l yX2_takesMail wsX2_takesMail (rmK 0 0) (wPc (cw k) M [.ref (k.1 (i + 1) 0)]) (wQi (cw k) (fun r u => r = (f_X2_takesMail k M i) ∧ u = M)) 0 0 (wA (cw k)) := by
  refine wx_met (cc := cX2_takesMail) (maxL := 1) (ret := (some .boolean)) (by decide) rfl (Nat.le_of_ble_eq_true rfl) ?_
  intro p e s m below meth c ls hx hb hr hml hts hown hlocks hP hK hD hZ hS hl
  have hown : s.vm.findClass RX2 = some m.cls := hown
  have hl : lv_has ls 1 [(0, .ref (k.1 (i + 1) 0))] := hl
  have hiX2 : ∀ x ∈ u_ws RX2 TX2 12, x ∈ wsX2_takesMail := by decide +kernel
  have hf37 := hts (.fieldLink RX2 37 "RobotWorld$Robot" "state" "I") (by decide +kernel)
  refine lv_aload_n hx hb dX2_takesMail_0 rfl (lv_at hl 0 rfl) ?_
  refine wx_get (w := (cw k)) (g := (i + 1)) (j := 0) hx hb hts hiX2 hown hK hP (cIx_r hi (by decide)) rfl rfl 4 (by decide) hf37 rfl dX2_takesMail_1 ?_
  refine lv_iconst (v := 2) hx hb dX2_takesMail_4 (by decide) ?_
  refine lv_icmp_eq (tgt := 24) hx hb dX2_takesMail_5 (by decide) (fun c_5 => ?_) (fun c_5 => ?_)
  · refine lv_iconst (v := 1) hx hb dX2_takesMail_24 (by decide) ?_
    refine lv_goto (tgt := 29) hx hb dX2_takesMail_25 (by decide) ?_
    have e9 : f_X2_takesMail k M i = 1 := (by unfold f_X2_takesMail; rw [if_pos c_5])
    exact wx_iret hx hb hr hlocks hP hS (by decide) ⟨e9.symm, rfl⟩ dX2_takesMail_29
  · refine lv_aload_n hx hb dX2_takesMail_8 rfl (lv_at hl 0 rfl) ?_
    refine wx_get (w := (cw k)) (g := (i + 1)) (j := 0) hx hb hts hiX2 hown hK hP (cIx_r hi (by decide)) rfl rfl 4 (by decide) hf37 rfl dX2_takesMail_9 ?_
    refine lv_iconst (v := 3) hx hb dX2_takesMail_12 (by decide) ?_
    refine lv_icmp_eq (tgt := 24) hx hb dX2_takesMail_13 (by decide) (fun c_13 => ?_) (fun c_13 => ?_)
    · refine lv_iconst (v := 1) hx hb dX2_takesMail_24 (by decide) ?_
      refine lv_goto (tgt := 29) hx hb dX2_takesMail_25 (by decide) ?_
      have e9 : f_X2_takesMail k M i = 1 := (by unfold f_X2_takesMail; rw [if_neg c_5, if_pos c_13])
      exact wx_iret hx hb hr hlocks hP hS (by decide) ⟨e9.symm, rfl⟩ dX2_takesMail_29
    · refine lv_aload_n hx hb dX2_takesMail_16 rfl (lv_at hl 0 rfl) ?_
      refine wx_get (w := (cw k)) (g := (i + 1)) (j := 0) hx hb hts hiX2 hown hK hP (cIx_r hi (by decide)) rfl rfl 4 (by decide) hf37 rfl dX2_takesMail_17 ?_
      refine lv_iconst (v := 4) hx hb dX2_takesMail_20 (by decide) ?_
      refine lv_icmp_ne (tgt := 28) hx hb dX2_takesMail_21 (by decide) (fun c_21 => ?_) (fun c_21 => ?_)
      · refine lv_iconst (v := 0) hx hb dX2_takesMail_28 (by decide) ?_
        have e9 : f_X2_takesMail k M i = 0 := (by unfold f_X2_takesMail; rw [if_neg c_5, if_neg c_13, if_neg c_21])
        exact wx_iret hx hb hr hlocks hP hS (by decide) ⟨e9.symm, rfl⟩ dX2_takesMail_29
      · refine lv_iconst (v := 1) hx hb dX2_takesMail_24 (by decide) ?_
        refine lv_goto (tgt := 29) hx hb dX2_takesMail_25 (by decide) ?_
        have e9 : f_X2_takesMail k M i = 1 := (by unfold f_X2_takesMail; rw [if_neg c_5, if_neg c_13, if_pos c_21])
        exact wx_iret hx hb hr hlocks hP hS (by decide) ⟨e9.symm, rfl⟩ dX2_takesMail_29
/-- by program, from the bytecode of RobotWorld$Robot.fallAsleep -/
def f_X2_fallAsleep (k : CK) (M : Mem) (i : Nat) (p1 : Int32) : Mem :=
  if p1 ≤ 0 then
    M
  else
    (mu (mu M (i + 1) 0 4 3) (i + 1) 0 11 p1)
set_option maxHeartbeats 4000000 in
set_option maxRecDepth 100000 in
theorem c_X2_fallAsleep (l : Launch) (k : CK) (M : Mem) (i : Nat) (p1 : Int32) (hi : i < k.2.1 0)  : Met l yX2_fallAsleep wsX2_fallAsleep (rmK 0 0) (wPc (cw k) M [.ref (k.1 (i + 1) 0), .int p1]) (wQv (cw k) (fun u => u = f_X2_fallAsleep k M i p1)) 0 0 (wA (cw k)) := by
  refine wx_met (cc := cX2_fallAsleep) (maxL := 2) (ret := none) (by decide) rfl (Nat.le_of_ble_eq_true rfl) ?_
  intro p e s m below meth c ls hx hb hr hml hts hown hlocks hP hK hD hZ hS hl
  have hown : s.vm.findClass RX2 = some m.cls := hown
  have hl : lv_has ls 2 [(0, .ref (k.1 (i + 1) 0)), (1, .int p1)] := hl
  have hiX2 : ∀ x ∈ u_ws RX2 TX2 12, x ∈ wsX2_fallAsleep := by decide +kernel
  have hf37 := hts (.fieldLink RX2 37 "RobotWorld$Robot" "state" "I") (by decide +kernel)
  have hf52 := hts (.fieldLink RX2 52 "RobotWorld$Robot" "sleepLeft" "I") (by decide +kernel)
  refine lv_iload_n hx hb dX2_fallAsleep_0 rfl (lv_at hl 1 rfl) ?_
  refine lv_if_le (tgt := 14) hx hb dX2_fallAsleep_1 (by decide) (fun c_1 => ?_) (fun c_1 => ?_)
  · have e9 : f_X2_fallAsleep k M i p1 = M := (by unfold f_X2_fallAsleep; rw [if_pos c_1])
    exact wx_vret hx hb hr hlocks hP hS e9.symm dX2_fallAsleep_14
  · refine lv_aload_n hx hb dX2_fallAsleep_4 rfl (lv_at hl 0 rfl) ?_
    refine lv_iconst (v := 3) hx hb dX2_fallAsleep_5 (by decide) ?_
    refine wx_put (w := (cw k)) (g := (i + 1)) (j := 0) hx hb hts hiX2 tyX2 tyX2_ok nmX2 hown hK hP hD hS (cIx_r hi (by decide)) rfl rfl 4 (by decide) hf37 rfl (by decide +kernel) rfl (Nat.le_of_ble_eq_true rfl) dX2_fallAsleep_6 (fun H locs hP hS => ?_)
    refine lv_aload_n hx hb dX2_fallAsleep_9 rfl (lv_at hl 0 rfl) ?_
    refine lv_iload_n hx hb dX2_fallAsleep_10 rfl (lv_at hl 1 rfl) ?_
    refine wx_put (w := (cw k)) (g := (i + 1)) (j := 0) hx hb hts hiX2 tyX2 tyX2_ok nmX2 hown hK hP hD hS (cIx_r hi (by decide)) rfl rfl 11 (by decide) hf52 rfl (by decide +kernel) rfl (Nat.le_of_ble_eq_true rfl) dX2_fallAsleep_11 (fun H locs hP hS => ?_)
    have e9 : f_X2_fallAsleep k M i p1 = (mu (mu M (i + 1) 0 4 3) (i + 1) 0 11 p1) := (by unfold f_X2_fallAsleep; rw [if_neg c_1])
    exact wx_vret hx hb hr hlocks hP hS e9.symm dX2_fallAsleep_14
theorem cI_fallAsleep {k : CK} {M : Mem} {i : Nat} {x : Int32} (hI : cI k M) : cI k (f_X2_fallAsleep k M i x) := by
  unfold f_X2_fallAsleep
  repeat' split
  all_goals first | exact hI | exact cI_mu (cI_mu hI (by omega) (by omega) (by omega)) (by omega) (by omega) (by omega) | exact cI_mu hI (by omega) (by omega) (by omega)
/-- by program, from the bytecode of RobotWorld$Robot.sleepOn -/
def f_X2_sleepOn (k : CK) (M : Mem) (i : Nat) : Mem :=
  if (M (i + 1) 0 4) = 3 then
    if (M (i + 1) 0 11) ≤ 0 then
      (mu M (i + 1) 0 4 2)
    else
      (mu M (i + 1) 0 11 ((M (i + 1) 0 11) - 1))
  else
    M
set_option maxHeartbeats 4000000 in
set_option maxRecDepth 100000 in
theorem c_X2_sleepOn (l : Launch) (k : CK) (M : Mem) (i : Nat) (hi : i < k.2.1 0)  : Met l yX2_sleepOn wsX2_sleepOn (rmK 0 0) (wPc (cw k) M [.ref (k.1 (i + 1) 0)]) (wQv (cw k) (fun u => u = f_X2_sleepOn k M i)) 0 0 (wA (cw k)) := by
  refine wx_met (cc := cX2_sleepOn) (maxL := 1) (ret := none) (by decide) rfl (Nat.le_of_ble_eq_true rfl) ?_
  intro p e s m below meth c ls hx hb hr hml hts hown hlocks hP hK hD hZ hS hl
  have hown : s.vm.findClass RX2 = some m.cls := hown
  have hl : lv_has ls 1 [(0, .ref (k.1 (i + 1) 0))] := hl
  have hiX2 : ∀ x ∈ u_ws RX2 TX2 12, x ∈ wsX2_sleepOn := by decide +kernel
  have hf37 := hts (.fieldLink RX2 37 "RobotWorld$Robot" "state" "I") (by decide +kernel)
  have hf52 := hts (.fieldLink RX2 52 "RobotWorld$Robot" "sleepLeft" "I") (by decide +kernel)
  refine lv_aload_n hx hb dX2_sleepOn_0 rfl (lv_at hl 0 rfl) ?_
  refine wx_get (w := (cw k)) (g := (i + 1)) (j := 0) hx hb hts hiX2 hown hK hP (cIx_r hi (by decide)) rfl rfl 4 (by decide) hf37 rfl dX2_sleepOn_1 ?_
  refine lv_iconst (v := 3) hx hb dX2_sleepOn_4 (by decide) ?_
  refine lv_icmp_eq (tgt := 9) hx hb dX2_sleepOn_5 (by decide) (fun c_5 => ?_) (fun c_5 => ?_)
  · refine lv_aload_n hx hb dX2_sleepOn_9 rfl (lv_at hl 0 rfl) ?_
    refine wx_get (w := (cw k)) (g := (i + 1)) (j := 0) hx hb hts hiX2 hown hK hP (cIx_r hi (by decide)) rfl rfl 11 (by decide) hf52 rfl dX2_sleepOn_10 ?_
    refine lv_if_le (tgt := 29) hx hb dX2_sleepOn_13 (by decide) (fun c_13 => ?_) (fun c_13 => ?_)
    · refine lv_aload_n hx hb dX2_sleepOn_29 rfl (lv_at hl 0 rfl) ?_
      refine lv_iconst (v := 2) hx hb dX2_sleepOn_30 (by decide) ?_
      refine wx_put (w := (cw k)) (g := (i + 1)) (j := 0) hx hb hts hiX2 tyX2 tyX2_ok nmX2 hown hK hP hD hS (cIx_r hi (by decide)) rfl rfl 4 (by decide) hf37 rfl (by decide +kernel) rfl (Nat.le_of_ble_eq_true rfl) dX2_sleepOn_31 (fun H locs hP hS => ?_)
      have e9 : f_X2_sleepOn k M i = (mu M (i + 1) 0 4 2) := (by unfold f_X2_sleepOn; rw [if_pos c_5, if_pos c_13])
      exact wx_vret hx hb hr hlocks hP hS e9.symm dX2_sleepOn_34
    · refine lv_aload_n hx hb dX2_sleepOn_16 rfl (lv_at hl 0 rfl) ?_
      refine lv_dup hx hb dX2_sleepOn_17 rfl ?_
      refine wx_get (w := (cw k)) (g := (i + 1)) (j := 0) hx hb hts hiX2 hown hK hP (cIx_r hi (by decide)) rfl rfl 11 (by decide) hf52 rfl dX2_sleepOn_18 ?_
      refine lv_iconst (v := 1) hx hb dX2_sleepOn_21 (by decide) ?_
      refine lv_isub hx hb dX2_sleepOn_22 ?_
      refine wx_put (w := (cw k)) (g := (i + 1)) (j := 0) hx hb hts hiX2 tyX2 tyX2_ok nmX2 hown hK hP hD hS (cIx_r hi (by decide)) rfl rfl 11 (by decide) hf52 rfl (by decide +kernel) rfl (Nat.le_of_ble_eq_true rfl) dX2_sleepOn_23 (fun H locs hP hS => ?_)
      refine lv_goto (tgt := 34) hx hb dX2_sleepOn_26 (by decide) ?_
      have e9 : f_X2_sleepOn k M i = (mu M (i + 1) 0 11 ((M (i + 1) 0 11) - 1)) := (by unfold f_X2_sleepOn; rw [if_pos c_5, if_neg c_13])
      exact wx_vret hx hb hr hlocks hP hS e9.symm dX2_sleepOn_34
  · have e9 : f_X2_sleepOn k M i = M := (by unfold f_X2_sleepOn; rw [if_neg c_5])
    exact wx_vret hx hb hr hlocks hP hS e9.symm dX2_sleepOn_8
theorem cI_sleepOn {k : CK} {M : Mem} {i : Nat} (hI : cI k M) : cI k (f_X2_sleepOn k M i) := by
  unfold f_X2_sleepOn
  repeat' split
  all_goals first | exact hI | exact cI_mu hI (by omega) (by omega) (by omega)
/-- by program, from the bytecode of RobotWorld$Robot.show -/
def f_X2_show (k : CK) (M : Mem) (i : Nat) (p1 : Int32) : Int32 :=
  if p1 < 0 then
    if p1 = 8 then
      (M (i + 1) 0 7)
    else
      if p1 = 9 then
        (M (i + 1) 0 10)
      else
        if p1 = 10 then
          (M (i + 1) 3 1)
        else
          if p1 = 11 then
            (M (i + 1) 0 8)
          else
            if p1 = 12 then
              (M (i + 1) 0 9)
            else
              if p1 = 13 then
                (M (i + 1) 0 11)
              else
                0
  else
    if (nI 8) ≤ p1 then
      if p1 = 8 then
        (M (i + 1) 0 7)
      else
        if p1 = 9 then
          (M (i + 1) 0 10)
        else
          if p1 = 10 then
            (M (i + 1) 3 1)
          else
            if p1 = 11 then
              (M (i + 1) 0 8)
            else
              if p1 = 12 then
                (M (i + 1) 0 9)
              else
                if p1 = 13 then
                  (M (i + 1) 0 11)
                else
                  0
    else
      (M (i + 1) 2 p1.toNatClampNeg)
set_option maxHeartbeats 4000000 in
set_option maxRecDepth 100000 in
theorem c_X2_show (l : Launch) (k : CK) (M : Mem) (i : Nat) (p1 : Int32) (hi : i < k.2.1 0)  : Met l yX2_show wsX2_show (rmK 0 0) (wPc (cw k) M [.ref (k.1 (i + 1) 0), .int p1]) (wQi (cw k) (fun r u => r = (f_X2_show k M i p1) ∧ u = M)) 0 0 (wA (cw k)) := by
  refine wx_met (cc := cX2_show) (maxL := 2) (ret := (some .int)) (by decide) rfl (Nat.le_of_ble_eq_true rfl) ?_
  intro p e s m below meth c ls hx hb hr hml hts hown hlocks hP hK hD hZ hS hl
  have hown : s.vm.findClass RX2 = some m.cls := hown
  have hl : lv_has ls 2 [(0, .ref (k.1 (i + 1) 0)), (1, .int p1)] := hl
  have hiX0 : ∀ x ∈ u_ws RX0 TX0 2, x ∈ wsX2_show := by decide +kernel
  have hiX2 : ∀ x ∈ u_ws RX2 TX2 12, x ∈ wsX2_show := by decide +kernel
  have hf19 := hts (.fieldLink RX2 19 "RobotWorld$Robot" "registers" "[I") (by decide +kernel)
  have hf27 := hts (.fieldLink RX2 27 "RobotWorld$Robot" "box" "LRobotWorld$Box;") (by decide +kernel)
  have hf40 := hts (.fieldLink RX2 40 "RobotWorld$Robot" "place" "I") (by decide +kernel)
  have hf43 := hts (.fieldLink RX2 43 "RobotWorld$Robot" "words" "I") (by decide +kernel)
  have hf46 := hts (.fieldLink RX2 46 "RobotWorld$Robot" "wordsDone" "I") (by decide +kernel)
  have hf49 := hts (.fieldLink RX2 49 "RobotWorld$Robot" "carried" "I") (by decide +kernel)
  have hf52 := hts (.fieldLink RX2 52 "RobotWorld$Robot" "sleepLeft" "I") (by decide +kernel)
  have hf61 := hts (.fieldLink RX2 61 "RobotWorld$Box" "count" "I") (by decide +kernel)
  refine lv_iload_n hx hb dX2_show_0 rfl (lv_at hl 1 rfl) ?_
  refine lv_if_lt (tgt := 20) hx hb dX2_show_1 (by decide) (fun c_1 => ?_) (fun c_1 => ?_)
  · refine lv_iload_n hx hb dX2_show_20 rfl (lv_at hl 1 rfl) ?_
    by_cases e_21_8 : p1 = 8
    · refine lv_tableIn (tgt := 60) hx hb dX2_show_21 (by rw [e_21_8]; decide) (by rw [e_21_8]; decide) (by rw [e_21_8]; rfl) (by decide) ?_
      refine lv_aload_n hx hb dX2_show_60 rfl (lv_at hl 0 rfl) ?_
      refine wx_get (w := (cw k)) (g := (i + 1)) (j := 0) hx hb hts hiX2 hown hK hP (cIx_r hi (by decide)) rfl rfl 7 (by decide) hf40 rfl dX2_show_61 ?_
      refine lv_goto (tgt := 106) hx hb dX2_show_64 (by decide) ?_
      have e9 : f_X2_show k M i p1 = (M (i + 1) 0 7) := (by unfold f_X2_show; rw [if_pos c_1, if_pos e_21_8])
      exact wx_iret hx hb hr hlocks hP hS rfl ⟨e9.symm, rfl⟩ dX2_show_106
    by_cases e_21_9 : p1 = 9
    · refine lv_tableIn (tgt := 67) hx hb dX2_show_21 (by rw [e_21_9]; decide) (by rw [e_21_9]; decide) (by rw [e_21_9]; rfl) (by decide) ?_
      refine lv_aload_n hx hb dX2_show_67 rfl (lv_at hl 0 rfl) ?_
      refine wx_get (w := (cw k)) (g := (i + 1)) (j := 0) hx hb hts hiX2 hown hK hP (cIx_r hi (by decide)) rfl rfl 10 (by decide) hf49 rfl dX2_show_68 ?_
      refine lv_goto (tgt := 106) hx hb dX2_show_71 (by decide) ?_
      have e9 : f_X2_show k M i p1 = (M (i + 1) 0 10) := (by unfold f_X2_show; rw [if_pos c_1, if_neg e_21_8, if_pos e_21_9])
      exact wx_iret hx hb hr hlocks hP hS rfl ⟨e9.symm, rfl⟩ dX2_show_106
    by_cases e_21_10 : p1 = 10
    · refine lv_tableIn (tgt := 74) hx hb dX2_show_21 (by rw [e_21_10]; decide) (by rw [e_21_10]; decide) (by rw [e_21_10]; rfl) (by decide) ?_
      refine lv_aload_n hx hb dX2_show_74 rfl (lv_at hl 0 rfl) ?_
      refine wx_get (w := (cw k)) (g := (i + 1)) (j := 0) hx hb hts hiX2 hown hK hP (cIx_r hi (by decide)) rfl rfl 3 (by decide) hf27 rfl dX2_show_75 ?_
      refine wx_get (w := (cw k)) (g := (i + 1)) (j := 3) hx hb hts hiX0 hown hK hP (cIx_r hi (by decide)) rfl rfl 1 (by decide) hf61 rfl dX2_show_78 ?_
      refine lv_goto (tgt := 106) hx hb dX2_show_81 (by decide) ?_
      have e9 : f_X2_show k M i p1 = (M (i + 1) 3 1) := (by unfold f_X2_show; rw [if_pos c_1, if_neg e_21_8, if_neg e_21_9, if_pos e_21_10])
      exact wx_iret hx hb hr hlocks hP hS rfl ⟨e9.symm, rfl⟩ dX2_show_106
    by_cases e_21_11 : p1 = 11
    · refine lv_tableIn (tgt := 84) hx hb dX2_show_21 (by rw [e_21_11]; decide) (by rw [e_21_11]; decide) (by rw [e_21_11]; rfl) (by decide) ?_
      refine lv_aload_n hx hb dX2_show_84 rfl (lv_at hl 0 rfl) ?_
      refine wx_get (w := (cw k)) (g := (i + 1)) (j := 0) hx hb hts hiX2 hown hK hP (cIx_r hi (by decide)) rfl rfl 8 (by decide) hf43 rfl dX2_show_85 ?_
      refine lv_goto (tgt := 106) hx hb dX2_show_88 (by decide) ?_
      have e9 : f_X2_show k M i p1 = (M (i + 1) 0 8) := (by unfold f_X2_show; rw [if_pos c_1, if_neg e_21_8, if_neg e_21_9, if_neg e_21_10, if_pos e_21_11])
      exact wx_iret hx hb hr hlocks hP hS rfl ⟨e9.symm, rfl⟩ dX2_show_106
    by_cases e_21_12 : p1 = 12
    · refine lv_tableIn (tgt := 91) hx hb dX2_show_21 (by rw [e_21_12]; decide) (by rw [e_21_12]; decide) (by rw [e_21_12]; rfl) (by decide) ?_
      refine lv_aload_n hx hb dX2_show_91 rfl (lv_at hl 0 rfl) ?_
      refine wx_get (w := (cw k)) (g := (i + 1)) (j := 0) hx hb hts hiX2 hown hK hP (cIx_r hi (by decide)) rfl rfl 9 (by decide) hf46 rfl dX2_show_92 ?_
      refine lv_goto (tgt := 106) hx hb dX2_show_95 (by decide) ?_
      have e9 : f_X2_show k M i p1 = (M (i + 1) 0 9) := (by unfold f_X2_show; rw [if_pos c_1, if_neg e_21_8, if_neg e_21_9, if_neg e_21_10, if_neg e_21_11, if_pos e_21_12])
      exact wx_iret hx hb hr hlocks hP hS rfl ⟨e9.symm, rfl⟩ dX2_show_106
    by_cases e_21_13 : p1 = 13
    · refine lv_tableIn (tgt := 98) hx hb dX2_show_21 (by rw [e_21_13]; decide) (by rw [e_21_13]; decide) (by rw [e_21_13]; rfl) (by decide) ?_
      refine lv_aload_n hx hb dX2_show_98 rfl (lv_at hl 0 rfl) ?_
      refine wx_get (w := (cw k)) (g := (i + 1)) (j := 0) hx hb hts hiX2 hown hK hP (cIx_r hi (by decide)) rfl rfl 11 (by decide) hf52 rfl dX2_show_99 ?_
      refine lv_goto (tgt := 106) hx hb dX2_show_102 (by decide) ?_
      have e9 : f_X2_show k M i p1 = (M (i + 1) 0 11) := (by unfold f_X2_show; rw [if_pos c_1, if_neg e_21_8, if_neg e_21_9, if_neg e_21_10, if_neg e_21_11, if_neg e_21_12, if_pos e_21_13])
      exact wx_iret hx hb hr hlocks hP hS rfl ⟨e9.symm, rfl⟩ dX2_show_106
    have hdf : p1.toInt < 8 ∨ 13 < p1.toInt := by have n0 := lv_neT e_21_8 (a := 8) (by decide); have n1 := lv_neT e_21_9 (a := 9) (by decide); have n2 := lv_neT e_21_10 (a := 10) (by decide); have n3 := lv_neT e_21_11 (a := 11) (by decide); have n4 := lv_neT e_21_12 (a := 12) (by decide); have n5 := lv_neT e_21_13 (a := 13) (by decide);  omega
    refine lv_tableOut (tgt := 105) hx hb dX2_show_21 hdf (by decide) ?_
    refine lv_iconst (v := 0) hx hb dX2_show_105 (by decide) ?_
    have e9 : f_X2_show k M i p1 = 0 := (by unfold f_X2_show; rw [if_pos c_1, if_neg e_21_8, if_neg e_21_9, if_neg e_21_10, if_neg e_21_11, if_neg e_21_12, if_neg e_21_13])
    exact wx_iret hx hb hr hlocks hP hS rfl ⟨e9.symm, rfl⟩ dX2_show_106
  · refine lv_iload_n hx hb dX2_show_4 rfl (lv_at hl 1 rfl) ?_
    refine lv_aload_n hx hb dX2_show_5 rfl (lv_at hl 0 rfl) ?_
    refine wx_get (w := (cw k)) (g := (i + 1)) (j := 0) hx hb hts hiX2 hown hK hP (cIx_r hi (by decide)) rfl rfl 2 (by decide) hf19 rfl dX2_show_6 ?_
    refine wx_alen (w := (cw k)) (g := (i + 1)) (j := 2) hx hb hK hP (cIx_r hi (by decide)) 0 rfl rfl dX2_show_9 ?_
    refine lv_icmp_ge (tgt := 20) hx hb dX2_show_10 (by decide) (fun c_10 => ?_) (fun c_10 => ?_)
    · refine lv_iload_n hx hb dX2_show_20 rfl (lv_at hl 1 rfl) ?_
      by_cases e_21_8 : p1 = 8
      · refine lv_tableIn (tgt := 60) hx hb dX2_show_21 (by rw [e_21_8]; decide) (by rw [e_21_8]; decide) (by rw [e_21_8]; rfl) (by decide) ?_
        refine lv_aload_n hx hb dX2_show_60 rfl (lv_at hl 0 rfl) ?_
        refine wx_get (w := (cw k)) (g := (i + 1)) (j := 0) hx hb hts hiX2 hown hK hP (cIx_r hi (by decide)) rfl rfl 7 (by decide) hf40 rfl dX2_show_61 ?_
        refine lv_goto (tgt := 106) hx hb dX2_show_64 (by decide) ?_
        have e9 : f_X2_show k M i p1 = (M (i + 1) 0 7) := (by unfold f_X2_show; rw [if_neg c_1, if_pos c_10, if_pos e_21_8])
        exact wx_iret hx hb hr hlocks hP hS rfl ⟨e9.symm, rfl⟩ dX2_show_106
      by_cases e_21_9 : p1 = 9
      · refine lv_tableIn (tgt := 67) hx hb dX2_show_21 (by rw [e_21_9]; decide) (by rw [e_21_9]; decide) (by rw [e_21_9]; rfl) (by decide) ?_
        refine lv_aload_n hx hb dX2_show_67 rfl (lv_at hl 0 rfl) ?_
        refine wx_get (w := (cw k)) (g := (i + 1)) (j := 0) hx hb hts hiX2 hown hK hP (cIx_r hi (by decide)) rfl rfl 10 (by decide) hf49 rfl dX2_show_68 ?_
        refine lv_goto (tgt := 106) hx hb dX2_show_71 (by decide) ?_
        have e9 : f_X2_show k M i p1 = (M (i + 1) 0 10) := (by unfold f_X2_show; rw [if_neg c_1, if_pos c_10, if_neg e_21_8, if_pos e_21_9])
        exact wx_iret hx hb hr hlocks hP hS rfl ⟨e9.symm, rfl⟩ dX2_show_106
      by_cases e_21_10 : p1 = 10
      · refine lv_tableIn (tgt := 74) hx hb dX2_show_21 (by rw [e_21_10]; decide) (by rw [e_21_10]; decide) (by rw [e_21_10]; rfl) (by decide) ?_
        refine lv_aload_n hx hb dX2_show_74 rfl (lv_at hl 0 rfl) ?_
        refine wx_get (w := (cw k)) (g := (i + 1)) (j := 0) hx hb hts hiX2 hown hK hP (cIx_r hi (by decide)) rfl rfl 3 (by decide) hf27 rfl dX2_show_75 ?_
        refine wx_get (w := (cw k)) (g := (i + 1)) (j := 3) hx hb hts hiX0 hown hK hP (cIx_r hi (by decide)) rfl rfl 1 (by decide) hf61 rfl dX2_show_78 ?_
        refine lv_goto (tgt := 106) hx hb dX2_show_81 (by decide) ?_
        have e9 : f_X2_show k M i p1 = (M (i + 1) 3 1) := (by unfold f_X2_show; rw [if_neg c_1, if_pos c_10, if_neg e_21_8, if_neg e_21_9, if_pos e_21_10])
        exact wx_iret hx hb hr hlocks hP hS rfl ⟨e9.symm, rfl⟩ dX2_show_106
      by_cases e_21_11 : p1 = 11
      · refine lv_tableIn (tgt := 84) hx hb dX2_show_21 (by rw [e_21_11]; decide) (by rw [e_21_11]; decide) (by rw [e_21_11]; rfl) (by decide) ?_
        refine lv_aload_n hx hb dX2_show_84 rfl (lv_at hl 0 rfl) ?_
        refine wx_get (w := (cw k)) (g := (i + 1)) (j := 0) hx hb hts hiX2 hown hK hP (cIx_r hi (by decide)) rfl rfl 8 (by decide) hf43 rfl dX2_show_85 ?_
        refine lv_goto (tgt := 106) hx hb dX2_show_88 (by decide) ?_
        have e9 : f_X2_show k M i p1 = (M (i + 1) 0 8) := (by unfold f_X2_show; rw [if_neg c_1, if_pos c_10, if_neg e_21_8, if_neg e_21_9, if_neg e_21_10, if_pos e_21_11])
        exact wx_iret hx hb hr hlocks hP hS rfl ⟨e9.symm, rfl⟩ dX2_show_106
      by_cases e_21_12 : p1 = 12
      · refine lv_tableIn (tgt := 91) hx hb dX2_show_21 (by rw [e_21_12]; decide) (by rw [e_21_12]; decide) (by rw [e_21_12]; rfl) (by decide) ?_
        refine lv_aload_n hx hb dX2_show_91 rfl (lv_at hl 0 rfl) ?_
        refine wx_get (w := (cw k)) (g := (i + 1)) (j := 0) hx hb hts hiX2 hown hK hP (cIx_r hi (by decide)) rfl rfl 9 (by decide) hf46 rfl dX2_show_92 ?_
        refine lv_goto (tgt := 106) hx hb dX2_show_95 (by decide) ?_
        have e9 : f_X2_show k M i p1 = (M (i + 1) 0 9) := (by unfold f_X2_show; rw [if_neg c_1, if_pos c_10, if_neg e_21_8, if_neg e_21_9, if_neg e_21_10, if_neg e_21_11, if_pos e_21_12])
        exact wx_iret hx hb hr hlocks hP hS rfl ⟨e9.symm, rfl⟩ dX2_show_106
      by_cases e_21_13 : p1 = 13
      · refine lv_tableIn (tgt := 98) hx hb dX2_show_21 (by rw [e_21_13]; decide) (by rw [e_21_13]; decide) (by rw [e_21_13]; rfl) (by decide) ?_
        refine lv_aload_n hx hb dX2_show_98 rfl (lv_at hl 0 rfl) ?_
        refine wx_get (w := (cw k)) (g := (i + 1)) (j := 0) hx hb hts hiX2 hown hK hP (cIx_r hi (by decide)) rfl rfl 11 (by decide) hf52 rfl dX2_show_99 ?_
        refine lv_goto (tgt := 106) hx hb dX2_show_102 (by decide) ?_
        have e9 : f_X2_show k M i p1 = (M (i + 1) 0 11) := (by unfold f_X2_show; rw [if_neg c_1, if_pos c_10, if_neg e_21_8, if_neg e_21_9, if_neg e_21_10, if_neg e_21_11, if_neg e_21_12, if_pos e_21_13])
        exact wx_iret hx hb hr hlocks hP hS rfl ⟨e9.symm, rfl⟩ dX2_show_106
      have hdf : p1.toInt < 8 ∨ 13 < p1.toInt := by have n0 := lv_neT e_21_8 (a := 8) (by decide); have n1 := lv_neT e_21_9 (a := 9) (by decide); have n2 := lv_neT e_21_10 (a := 10) (by decide); have n3 := lv_neT e_21_11 (a := 11) (by decide); have n4 := lv_neT e_21_12 (a := 12) (by decide); have n5 := lv_neT e_21_13 (a := 13) (by decide);  omega
      refine lv_tableOut (tgt := 105) hx hb dX2_show_21 hdf (by decide) ?_
      refine lv_iconst (v := 0) hx hb dX2_show_105 (by decide) ?_
      have e9 : f_X2_show k M i p1 = 0 := (by unfold f_X2_show; rw [if_neg c_1, if_pos c_10, if_neg e_21_8, if_neg e_21_9, if_neg e_21_10, if_neg e_21_11, if_neg e_21_12, if_neg e_21_13])
      exact wx_iret hx hb hr hlocks hP hS rfl ⟨e9.symm, rfl⟩ dX2_show_106
    · refine lv_aload_n hx hb dX2_show_13 rfl (lv_at hl 0 rfl) ?_
      refine wx_get (w := (cw k)) (g := (i + 1)) (j := 0) hx hb hts hiX2 hown hK hP (cIx_r hi (by decide)) rfl rfl 2 (by decide) hf19 rfl dX2_show_14 ?_
      refine lv_iload_n hx hb dX2_show_17 rfl (lv_at hl 1 rfl) ?_
      refine wx_iald (w := (cw k)) (g := (i + 1)) (j := 2) hx hb hK hP (cIx_r hi (by decide)) 0 rfl rfl (vin c_1 c_10 (by decide)) dX2_show_18 ?_
      have e9 : f_X2_show k M i p1 = (M (i + 1) 2 p1.toNatClampNeg) := (by unfold f_X2_show; rw [if_neg c_1, if_neg c_10])
      exact wx_iret hx hb hr hlocks hP hS rfl ⟨e9.symm, rfl⟩ dX2_show_19
/-- by program, from the bytecode of RobotWorld$Robot.appear -/
def f_X2_appear (k : CK) (M : Mem) (i : Nat) (p1 : Int32) (p2 : Int32) : Mem :=
  (mu (mr (mu (mu (mu (mu (mu (mu (mu (mu M (i + 1) 0 5 p1) (i + 1) 0 6 p2) (i + 1) 0 4 1) (i + 1) 0 7 0) (i + 1) 0 8 0) (i + 1) 0 9 0) (i + 1) 0 10 0) (i + 1) 0 11 0) (i + 1) 2 (fillF ((mu (mu (mu (mu (mu (mu (mu (mu M (i + 1) 0 5 p1) (i + 1) 0 6 p2) (i + 1) 0 4 1) (i + 1) 0 7 0) (i + 1) 0 8 0) (i + 1) 0 9 0) (i + 1) 0 10 0) (i + 1) 0 11 0) (i + 1) 2) 8 0)) (i + 1) 3 1 0)
set_option maxHeartbeats 4000000 in
set_option maxRecDepth 100000 in
theorem c_X2_appear (l : Launch) (k : CK) (M : Mem) (i : Nat) (p1 : Int32) (p2 : Int32) (hi : i < k.2.1 0)  : Met l yX2_appear wsX2_appear (rmK 1 23) (wPc (cw k) M [.ref (k.1 (i + 1) 0), .int p1, .int p2]) (wQv (cw k) (fun u => u = f_X2_appear k M i p1 p2)) 0 0 (wA (cw k)) := by
  refine wx_met (cc := cX2_appear) (maxL := 3) (ret := none) (by decide) rfl (Nat.le_of_ble_eq_true rfl) ?_
  intro p e s m below meth c ls hx hb hr hml hts hown hlocks hP hK hD hZ hS hl
  have hown : s.vm.findClass RX2 = some m.cls := hown
  have hl : lv_has ls 3 [(0, .ref (k.1 (i + 1) 0)), (1, .int p1), (2, .int p2)] := hl
  have hiX0 : ∀ x ∈ u_ws RX0 TX0 2, x ∈ wsX2_appear := by decide +kernel
  have hiX2 : ∀ x ∈ u_ws RX2 TX2 12, x ∈ wsX2_appear := by decide +kernel
  have hf19 := hts (.fieldLink RX2 19 "RobotWorld$Robot" "registers" "[I") (by decide +kernel)
  have hf27 := hts (.fieldLink RX2 27 "RobotWorld$Robot" "box" "LRobotWorld$Box;") (by decide +kernel)
  have hf31 := hts (.fieldLink RX2 31 "RobotWorld$Robot" "x" "I") (by decide +kernel)
  have hf34 := hts (.fieldLink RX2 34 "RobotWorld$Robot" "y" "I") (by decide +kernel)
  have hf37 := hts (.fieldLink RX2 37 "RobotWorld$Robot" "state" "I") (by decide +kernel)
  have hf40 := hts (.fieldLink RX2 40 "RobotWorld$Robot" "place" "I") (by decide +kernel)
  have hf43 := hts (.fieldLink RX2 43 "RobotWorld$Robot" "words" "I") (by decide +kernel)
  have hf46 := hts (.fieldLink RX2 46 "RobotWorld$Robot" "wordsDone" "I") (by decide +kernel)
  have hf49 := hts (.fieldLink RX2 49 "RobotWorld$Robot" "carried" "I") (by decide +kernel)
  have hf52 := hts (.fieldLink RX2 52 "RobotWorld$Robot" "sleepLeft" "I") (by decide +kernel)
  have hf61 := hts (.fieldLink RX2 61 "RobotWorld$Box" "count" "I") (by decide +kernel)
  refine lv_aload_n hx hb dX2_appear_0 rfl (lv_at hl 0 rfl) ?_
  refine lv_iload_n hx hb dX2_appear_1 rfl (lv_at hl 1 rfl) ?_
  refine wx_put (w := (cw k)) (g := (i + 1)) (j := 0) hx hb hts hiX2 tyX2 tyX2_ok nmX2 hown hK hP hD hS (cIx_r hi (by decide)) rfl rfl 5 (by decide) hf31 rfl (by decide +kernel) rfl (Nat.le_of_ble_eq_true rfl) dX2_appear_2 (fun H locs hP hS => ?_)
  refine lv_aload_n hx hb dX2_appear_5 rfl (lv_at hl 0 rfl) ?_
  refine lv_iload_n hx hb dX2_appear_6 rfl (lv_at hl 2 rfl) ?_
  refine wx_put (w := (cw k)) (g := (i + 1)) (j := 0) hx hb hts hiX2 tyX2 tyX2_ok nmX2 hown hK hP hD hS (cIx_r hi (by decide)) rfl rfl 6 (by decide) hf34 rfl (by decide +kernel) rfl (Nat.le_of_ble_eq_true rfl) dX2_appear_7 (fun H locs hP hS => ?_)
  refine lv_aload_n hx hb dX2_appear_10 rfl (lv_at hl 0 rfl) ?_
  refine lv_iconst (v := 1) hx hb dX2_appear_11 (by decide) ?_
  refine wx_put (w := (cw k)) (g := (i + 1)) (j := 0) hx hb hts hiX2 tyX2 tyX2_ok nmX2 hown hK hP hD hS (cIx_r hi (by decide)) rfl rfl 4 (by decide) hf37 rfl (by decide +kernel) rfl (Nat.le_of_ble_eq_true rfl) dX2_appear_12 (fun H locs hP hS => ?_)
  refine lv_aload_n hx hb dX2_appear_15 rfl (lv_at hl 0 rfl) ?_
  refine lv_iconst (v := 0) hx hb dX2_appear_16 (by decide) ?_
  refine wx_put (w := (cw k)) (g := (i + 1)) (j := 0) hx hb hts hiX2 tyX2 tyX2_ok nmX2 hown hK hP hD hS (cIx_r hi (by decide)) rfl rfl 7 (by decide) hf40 rfl (by decide +kernel) rfl (Nat.le_of_ble_eq_true rfl) dX2_appear_17 (fun H locs hP hS => ?_)
  refine lv_aload_n hx hb dX2_appear_20 rfl (lv_at hl 0 rfl) ?_
  refine lv_iconst (v := 0) hx hb dX2_appear_21 (by decide) ?_
  refine wx_put (w := (cw k)) (g := (i + 1)) (j := 0) hx hb hts hiX2 tyX2 tyX2_ok nmX2 hown hK hP hD hS (cIx_r hi (by decide)) rfl rfl 8 (by decide) hf43 rfl (by decide +kernel) rfl (Nat.le_of_ble_eq_true rfl) dX2_appear_22 (fun H locs hP hS => ?_)
  refine lv_aload_n hx hb dX2_appear_25 rfl (lv_at hl 0 rfl) ?_
  refine lv_iconst (v := 0) hx hb dX2_appear_26 (by decide) ?_
  refine wx_put (w := (cw k)) (g := (i + 1)) (j := 0) hx hb hts hiX2 tyX2 tyX2_ok nmX2 hown hK hP hD hS (cIx_r hi (by decide)) rfl rfl 9 (by decide) hf46 rfl (by decide +kernel) rfl (Nat.le_of_ble_eq_true rfl) dX2_appear_27 (fun H locs hP hS => ?_)
  refine lv_aload_n hx hb dX2_appear_30 rfl (lv_at hl 0 rfl) ?_
  refine lv_iconst (v := 0) hx hb dX2_appear_31 (by decide) ?_
  refine wx_put (w := (cw k)) (g := (i + 1)) (j := 0) hx hb hts hiX2 tyX2 tyX2_ok nmX2 hown hK hP hD hS (cIx_r hi (by decide)) rfl rfl 10 (by decide) hf49 rfl (by decide +kernel) rfl (Nat.le_of_ble_eq_true rfl) dX2_appear_32 (fun H locs hP hS => ?_)
  refine lv_aload_n hx hb dX2_appear_35 rfl (lv_at hl 0 rfl) ?_
  refine lv_iconst (v := 0) hx hb dX2_appear_36 (by decide) ?_
  refine wx_put (w := (cw k)) (g := (i + 1)) (j := 0) hx hb hts hiX2 tyX2 tyX2_ok nmX2 hown hK hP hD hS (cIx_r hi (by decide)) rfl rfl 11 (by decide) hf52 rfl (by decide +kernel) rfl (Nat.le_of_ble_eq_true rfl) dX2_appear_37 (fun H locs hP hS => ?_)
  refine lv_aload_n hx hb dX2_appear_40 rfl (lv_at hl 0 rfl) ?_
  refine wx_get (w := (cw k)) (g := (i + 1)) (j := 0) hx hb hts hiX2 hown hK hP (cIx_r hi (by decide)) rfl rfl 2 (by decide) hf19 rfl dX2_appear_41 ?_
  refine lv_iconst (v := 0) hx hb dX2_appear_44 (by decide) ?_
  refine wx_Sv (w := (cw k)) (mr (mu (mu (mu (mu (mu (mu (mu (mu M (i + 1) 0 5 p1) (i + 1) 0 6 p2) (i + 1) 0 4 1) (i + 1) 0 7 0) (i + 1) 0 8 0) (i + 1) 0 9 0) (i + 1) 0 10 0) (i + 1) 0 11 0) (i + 1) 2 (fillF ((mu (mu (mu (mu (mu (mu (mu (mu M (i + 1) 0 5 p1) (i + 1) 0 6 p2) (i + 1) 0 4 1) (i + 1) 0 7 0) (i + 1) 0 8 0) (i + 1) 0 9 0) (i + 1) 0 10 0) (i + 1) 0 11 0) (i + 1) 2) 8 0)) [.ref (k.1 (i + 1) 2), .int 0] [] (cZok k) ⟨hx, hb, hml, hown, hts⟩ (c_J7_fill l k (mu (mu (mu (mu (mu (mu (mu (mu M (i + 1) 0 5 p1) (i + 1) 0 6 p2) (i + 1) 0 4 1) (i + 1) 0 7 0) (i + 1) 0 8 0) (i + 1) 0 9 0) (i + 1) 0 10 0) (i + 1) 0 11 0) (i + 1) 2 8 0 (cIx_r hi (by decide)) (fun _ => rfl) (by decide)) (va_cwS 2 hts gX2_appear_J7_fill_53178 rfl rfl rfl (by decide +kernel) ⟨by decide, by decide⟩) hP hK hD hZ hS rfl hl.1 rfl (Nat.le_of_ble_eq_true rfl) dX2_appear_45 ⟨by decide, by decide⟩ (fun H locs hP hS => ?_)
  refine lv_aload_n hx hb dX2_appear_48 rfl (lv_at hl 0 rfl) ?_
  refine wx_get (w := (cw k)) (g := (i + 1)) (j := 0) hx hb hts hiX2 hown hK hP (cIx_r hi (by decide)) rfl rfl 3 (by decide) hf27 rfl dX2_appear_49 ?_
  refine lv_iconst (v := 0) hx hb dX2_appear_52 (by decide) ?_
  refine wx_put (w := (cw k)) (g := (i + 1)) (j := 3) hx hb hts hiX0 tyX0 tyX0_ok nmX0 hown hK hP hD hS (cIx_r hi (by decide)) rfl rfl 1 (by decide) hf61 rfl (by decide +kernel) rfl (Nat.le_of_ble_eq_true rfl) dX2_appear_53 (fun H locs hP hS => ?_)
  have e9 : f_X2_appear k M i p1 p2 = (mu (mr (mu (mu (mu (mu (mu (mu (mu (mu M (i + 1) 0 5 p1) (i + 1) 0 6 p2) (i + 1) 0 4 1) (i + 1) 0 7 0) (i + 1) 0 8 0) (i + 1) 0 9 0) (i + 1) 0 10 0) (i + 1) 0 11 0) (i + 1) 2 (fillF ((mu (mu (mu (mu (mu (mu (mu (mu M (i + 1) 0 5 p1) (i + 1) 0 6 p2) (i + 1) 0 4 1) (i + 1) 0 7 0) (i + 1) 0 8 0) (i + 1) 0 9 0) (i + 1) 0 10 0) (i + 1) 0 11 0) (i + 1) 2) 8 0)) (i + 1) 3 1 0) := rfl
  exact wx_vret hx hb hr hlocks hP hS e9.symm dX2_appear_56
theorem rOf_e (k : CK) (M : Mem) (x : Int32) : ∃ j : Nat, j < 16 ∧ f_X3_rOf k M x = nI j := pk_andE _ 4 (by decide)
theorem sOf_e (k : CK) (M : Mem) (x : Int32) : ∃ j : Nat, j < 16 ∧ f_X3_sOf k M x = nI j := pk_andE _ 4 (by decide)
theorem opOf_e (k : CK) (M : Mem) (x : Int32) : ∃ j : Nat, j < 256 ∧ f_X3_opOf k M x = nI j := pk_andE _ 8 (by decide)
theorem in8 {y : Int32} (h : ∃ j : Nat, j < 16 ∧ y = nI j) (c : y < 8) : vp_in y 8 := by
  obtain ⟨j, h1, rfl⟩ := h
  refine vp_in_nI ?_ (by decide)
  exact (nI_ltI (a := j) (b := 8) (by omega) (by decide)).mp c
/-- by program, from the bytecode of RobotWorld$Robot.mustFail -/
def f_X2_mustFail (k : CK) (M : Mem) (i : Nat) : Int32 :=
  if (M (i + 1) 0 7) < 0 then
    1
  else
    if (M (i + 1) 0 8) ≤ (M (i + 1) 0 7) then
      1
    else
      if (M (i + 1) 0 7) < (nI (k.2.1 2)) then
        if 24 < (f_X3_opOf k M (M (i + 1) 1 (M (i + 1) 0 7).toNatClampNeg)) then
          1
        else
          if 8 ≤ (f_X3_rOf k M (M (i + 1) 1 (M (i + 1) 0 7).toNatClampNeg)) then
            1
          else
            if (f_X3_sOf k M (M (i + 1) 1 (M (i + 1) 0 7).toNatClampNeg)) < 8 then
              if (f_X3_opOf k M (M (i + 1) 1 (M (i + 1) 0 7).toNatClampNeg)) = 6 then
                if (M (i + 1) 2 (f_X3_sOf k M (M (i + 1) 1 (M (i + 1) 0 7).toNatClampNeg)).toNatClampNeg) = 0 then
                  1
                else
                  0
              else
                if (f_X3_opOf k M (M (i + 1) 1 (M (i + 1) 0 7).toNatClampNeg)) = 7 then
                  if (M (i + 1) 2 (f_X3_sOf k M (M (i + 1) 1 (M (i + 1) 0 7).toNatClampNeg)).toNatClampNeg) = 0 then
                    1
                  else
                    0
                else
                  0
            else
              1
      else
        1
set_option maxHeartbeats 4000000 in
set_option maxRecDepth 100000 in
theorem c_X2_mustFail (l : Launch) (k : CK) (M : Mem) (i : Nat) (hi : i < k.2.1 0) (hI : cI k M) : Met l yX2_mustFail wsX2_mustFail (rmK 1 20) (wPc (cw k) M [.ref (k.1 (i + 1) 0)]) (wQi (cw k) (fun r u => r = (f_X2_mustFail k M i) ∧ u = M)) 0 0 (wA (cw k)) := by
  refine wx_met (cc := cX2_mustFail) (maxL := 4) (ret := (some .boolean)) (by decide) rfl (Nat.le_of_ble_eq_true rfl) ?_
  intro p e s m below meth c ls hx hb hr hml hts hown hlocks hP hK hD hZ hS hl
  have hown : s.vm.findClass RX2 = some m.cls := hown
  have hl : lv_has ls 4 [(0, .ref (k.1 (i + 1) 0))] := hl
  have hiX2 : ∀ x ∈ u_ws RX2 TX2 12, x ∈ wsX2_mustFail := by decide +kernel
  have hf15 := hts (.fieldLink RX2 15 "RobotWorld$Robot" "program" "[I") (by decide +kernel)
  have hf19 := hts (.fieldLink RX2 19 "RobotWorld$Robot" "registers" "[I") (by decide +kernel)
  have hf40 := hts (.fieldLink RX2 40 "RobotWorld$Robot" "place" "I") (by decide +kernel)
  have hf43 := hts (.fieldLink RX2 43 "RobotWorld$Robot" "words" "I") (by decide +kernel)
  obtain ⟨z1, z2, z3, z4, z5, z6, z7, z8, z9⟩ := (show cZ k (wA (cw k)) s s.heap from hZ)
  refine lv_aload_n hx hb dX2_mustFail_0 rfl (lv_at hl 0 rfl) ?_
  refine wx_get (w := (cw k)) (g := (i + 1)) (j := 0) hx hb hts hiX2 hown hK hP (cIx_r hi (by decide)) rfl rfl 7 (by decide) hf40 rfl dX2_mustFail_1 ?_
  refine lv_if_lt (tgt := 30) hx hb dX2_mustFail_4 (by decide) (fun c_4 => ?_) (fun c_4 => ?_)
  · refine lv_iconst (v := 1) hx hb dX2_mustFail_30 (by decide) ?_
    have e9 : f_X2_mustFail k M i = 1 := (by unfold f_X2_mustFail; rw [if_pos c_4])
    exact wx_iret hx hb hr hlocks hP hS (by decide) ⟨e9.symm, rfl⟩ dX2_mustFail_31
  · refine lv_aload_n hx hb dX2_mustFail_7 rfl (lv_at hl 0 rfl) ?_
    refine wx_get (w := (cw k)) (g := (i + 1)) (j := 0) hx hb hts hiX2 hown hK hP (cIx_r hi (by decide)) rfl rfl 7 (by decide) hf40 rfl dX2_mustFail_8 ?_
    refine lv_aload_n hx hb dX2_mustFail_11 rfl (lv_at hl 0 rfl) ?_
    refine wx_get (w := (cw k)) (g := (i + 1)) (j := 0) hx hb hts hiX2 hown hK hP (cIx_r hi (by decide)) rfl rfl 8 (by decide) hf43 rfl dX2_mustFail_12 ?_
    refine lv_icmp_ge (tgt := 30) hx hb dX2_mustFail_15 (by decide) (fun c_15 => ?_) (fun c_15 => ?_)
    · refine lv_iconst (v := 1) hx hb dX2_mustFail_30 (by decide) ?_
      have e9 : f_X2_mustFail k M i = 1 := (by unfold f_X2_mustFail; rw [if_neg c_4, if_pos c_15])
      exact wx_iret hx hb hr hlocks hP hS (by decide) ⟨e9.symm, rfl⟩ dX2_mustFail_31
    · refine lv_aload_n hx hb dX2_mustFail_18 rfl (lv_at hl 0 rfl) ?_
      refine wx_get (w := (cw k)) (g := (i + 1)) (j := 0) hx hb hts hiX2 hown hK hP (cIx_r hi (by decide)) rfl rfl 7 (by decide) hf40 rfl dX2_mustFail_19 ?_
      refine lv_aload_n hx hb dX2_mustFail_22 rfl (lv_at hl 0 rfl) ?_
      refine wx_get (w := (cw k)) (g := (i + 1)) (j := 0) hx hb hts hiX2 hown hK hP (cIx_r hi (by decide)) rfl rfl 1 (by decide) hf15 rfl dX2_mustFail_23 ?_
      refine wx_alen (w := (cw k)) (g := (i + 1)) (j := 1) hx hb hK hP (cIx_r hi (by decide)) 0 rfl rfl dX2_mustFail_26 ?_
      refine lv_icmp_lt (tgt := 32) hx hb dX2_mustFail_27 (by decide) (fun c_27 => ?_) (fun c_27 => ?_)
      · refine lv_aload_n hx hb dX2_mustFail_32 rfl (lv_at hl 0 rfl) ?_
        refine wx_get (w := (cw k)) (g := (i + 1)) (j := 0) hx hb hts hiX2 hown hK hP (cIx_r hi (by decide)) rfl rfl 1 (by decide) hf15 rfl dX2_mustFail_33 ?_
        refine lv_aload_n hx hb dX2_mustFail_36 rfl (lv_at hl 0 rfl) ?_
        refine wx_get (w := (cw k)) (g := (i + 1)) (j := 0) hx hb hts hiX2 hown hK hP (cIx_r hi (by decide)) rfl rfl 7 (by decide) hf40 rfl dX2_mustFail_37 ?_
        refine wx_iald (w := (cw k)) (g := (i + 1)) (j := 1) hx hb hK hP (cIx_r hi (by decide)) 0 rfl rfl (vinL c_4 c_27 (cI_l hI)) dX2_mustFail_40 ?_
        refine lv_istore_n (lv' := [(1, .int (M (i + 1) 1 (M (i + 1) 0 7).toNatClampNeg)), (0, .ref (k.1 (i + 1) 0))]) hx hb dX2_mustFail_41 rfl hl (by decide) rfl (fun ls hl => ?_)
        refine lv_iload_n hx hb dX2_mustFail_42 rfl (lv_at hl 0 rfl) ?_
        refine wx_Ni (w := (cw k)) (f_X3_opOf k M (M (i + 1) 1 (M (i + 1) 0 7).toNatClampNeg)) M [.int (M (i + 1) 1 (M (i + 1) 0 7).toNatClampNeg)] [] (cZok k) ⟨hx, hb, hml, hown, hts⟩ (c_X3_opOf l k M (M (i + 1) 1 (M (i + 1) 0 7).toNatClampNeg) ) ⟨va_cnB 1 hts gX2_mustFail_X3_opOf_n64 rfl rfl rfl z7 (hts (.initialized RX3) (by decide +kernel)) (by decide +kernel) ⟨by decide, by decide⟩, hts (.static yX3_opOf) (by decide +kernel), trivial⟩ hP hK hD hZ hS rfl hl.1 rfl (Nat.le_of_ble_eq_true rfl) dX2_mustFail_43 ⟨by decide, by decide⟩ (fun H locs hP hS => ?_)
        refine lv_istore_n (lv' := [(2, .int (f_X3_opOf k M (M (i + 1) 1 (M (i + 1) 0 7).toNatClampNeg))), (1, .int (M (i + 1) 1 (M (i + 1) 0 7).toNatClampNeg)), (0, .ref (k.1 (i + 1) 0))]) hx hb dX2_mustFail_46 rfl hl (by decide) rfl (fun ls hl => ?_)
        refine lv_iload_n hx hb dX2_mustFail_47 rfl (lv_at hl 1 rfl) ?_
        refine wx_Ni (w := (cw k)) (f_X3_sOf k M (M (i + 1) 1 (M (i + 1) 0 7).toNatClampNeg)) M [.int (M (i + 1) 1 (M (i + 1) 0 7).toNatClampNeg)] [] (cZok k) ⟨hx, hb, hml, hown, hts⟩ (c_X3_sOf l k M (M (i + 1) 1 (M (i + 1) 0 7).toNatClampNeg) ) ⟨va_cnB 1 hts gX2_mustFail_X3_sOf_n68 rfl rfl rfl z8 (hts (.initialized RX3) (by decide +kernel)) (by decide +kernel) ⟨by decide, by decide⟩, hts (.static yX3_sOf) (by decide +kernel), trivial⟩ hP hK hD hZ hS rfl hl.1 rfl (Nat.le_of_ble_eq_true rfl) dX2_mustFail_48 ⟨by decide, by decide⟩ (fun H locs hP hS => ?_)
        refine lv_istore_n (lv' := [(3, .int (f_X3_sOf k M (M (i + 1) 1 (M (i + 1) 0 7).toNatClampNeg))), (2, .int (f_X3_opOf k M (M (i + 1) 1 (M (i + 1) 0 7).toNatClampNeg))), (1, .int (M (i + 1) 1 (M (i + 1) 0 7).toNatClampNeg)), (0, .ref (k.1 (i + 1) 0))]) hx hb dX2_mustFail_51 rfl hl (by decide) rfl (fun ls hl => ?_)
        refine lv_iload_n hx hb dX2_mustFail_52 rfl (lv_at hl 1 rfl) ?_
        refine lv_bipush (v := 24) hx hb dX2_mustFail_53 (by decide) ?_
        refine lv_icmp_gt (tgt := 73) hx hb dX2_mustFail_55 (by decide) (fun c_55 => ?_) (fun c_55 => ?_)
        · refine lv_iconst (v := 1) hx hb dX2_mustFail_73 (by decide) ?_
          have e9 : f_X2_mustFail k M i = 1 := (by unfold f_X2_mustFail; rw [if_neg c_4, if_neg c_15, if_pos c_27, if_pos c_55])
          exact wx_iret hx hb hr hlocks hP hS (by decide) ⟨e9.symm, rfl⟩ dX2_mustFail_74
        · refine lv_iload_n hx hb dX2_mustFail_58 rfl (lv_at hl 2 rfl) ?_
          refine wx_Ni (w := (cw k)) (f_X3_rOf k M (M (i + 1) 1 (M (i + 1) 0 7).toNatClampNeg)) M [.int (M (i + 1) 1 (M (i + 1) 0 7).toNatClampNeg)] [] (cZok k) ⟨hx, hb, hml, hown, hts⟩ (c_X3_rOf l k M (M (i + 1) 1 (M (i + 1) 0 7).toNatClampNeg) ) ⟨va_cnB 1 hts gX2_mustFail_X3_rOf_n71 rfl rfl rfl z9 (hts (.initialized RX3) (by decide +kernel)) (by decide +kernel) ⟨by decide, by decide⟩, hts (.static yX3_rOf) (by decide +kernel), trivial⟩ hP hK hD hZ hS rfl hl.1 rfl (Nat.le_of_ble_eq_true rfl) dX2_mustFail_59 ⟨by decide, by decide⟩ (fun H locs hP hS => ?_)
          refine lv_bipush (v := 8) hx hb dX2_mustFail_62 (by decide) ?_
          refine lv_icmp_ge (tgt := 73) hx hb dX2_mustFail_64 (by decide) (fun c_64 => ?_) (fun c_64 => ?_)
          · refine lv_iconst (v := 1) hx hb dX2_mustFail_73 (by decide) ?_
            have e9 : f_X2_mustFail k M i = 1 := (by unfold f_X2_mustFail; rw [if_neg c_4, if_neg c_15, if_pos c_27, if_neg c_55, if_pos c_64])
            exact wx_iret hx hb hr hlocks hP hS (by decide) ⟨e9.symm, rfl⟩ dX2_mustFail_74
          · refine lv_iload_n hx hb dX2_mustFail_67 rfl (lv_at hl 0 rfl) ?_
            refine lv_bipush (v := 8) hx hb dX2_mustFail_68 (by decide) ?_
            refine lv_icmp_lt (tgt := 75) hx hb dX2_mustFail_70 (by decide) (fun c_70 => ?_) (fun c_70 => ?_)
            · refine lv_iload_n hx hb dX2_mustFail_75 rfl (lv_at hl 1 rfl) ?_
              refine lv_bipush (v := 6) hx hb dX2_mustFail_76 (by decide) ?_
              refine lv_icmp_eq (tgt := 87) hx hb dX2_mustFail_78 (by decide) (fun c_78 => ?_) (fun c_78 => ?_)
              · refine lv_aload_n hx hb dX2_mustFail_87 rfl (lv_at hl 3 rfl) ?_
                refine wx_get (w := (cw k)) (g := (i + 1)) (j := 0) hx hb hts hiX2 hown hK hP (cIx_r hi (by decide)) rfl rfl 2 (by decide) hf19 rfl dX2_mustFail_88 ?_
                refine lv_iload_n hx hb dX2_mustFail_91 rfl (lv_at hl 0 rfl) ?_
                refine wx_iald (w := (cw k)) (g := (i + 1)) (j := 2) hx hb hK hP (cIx_r hi (by decide)) 0 rfl rfl (in8 (sOf_e k M _) c_70) dX2_mustFail_92 ?_
                refine lv_if_ne (tgt := 100) hx hb dX2_mustFail_93 (by decide) (fun c_93 => ?_) (fun c_93 => ?_)
                · refine lv_iconst (v := 0) hx hb dX2_mustFail_100 (by decide) ?_
                  have e9 : f_X2_mustFail k M i = 0 := (by unfold f_X2_mustFail; rw [if_neg c_4, if_neg c_15, if_pos c_27, if_neg c_55, if_neg c_64, if_pos c_70, if_pos c_78, if_neg c_93])
                  exact wx_iret hx hb hr hlocks hP hS (by decide) ⟨e9.symm, rfl⟩ dX2_mustFail_101
                · refine lv_iconst (v := 1) hx hb dX2_mustFail_96 (by decide) ?_
                  refine lv_goto (tgt := 101) hx hb dX2_mustFail_97 (by decide) ?_
                  have e9 : f_X2_mustFail k M i = 1 := (by unfold f_X2_mustFail; rw [if_neg c_4, if_neg c_15, if_pos c_27, if_neg c_55, if_neg c_64, if_pos c_70, if_pos c_78, if_pos c_93])
                  exact wx_iret hx hb hr hlocks hP hS (by decide) ⟨e9.symm, rfl⟩ dX2_mustFail_101
              · refine lv_iload_n hx hb dX2_mustFail_81 rfl (lv_at hl 1 rfl) ?_
                refine lv_bipush (v := 7) hx hb dX2_mustFail_82 (by decide) ?_
                refine lv_icmp_ne (tgt := 100) hx hb dX2_mustFail_84 (by decide) (fun c_84 => ?_) (fun c_84 => ?_)
                · refine lv_iconst (v := 0) hx hb dX2_mustFail_100 (by decide) ?_
                  have e9 : f_X2_mustFail k M i = 0 := (by unfold f_X2_mustFail; rw [if_neg c_4, if_neg c_15, if_pos c_27, if_neg c_55, if_neg c_64, if_pos c_70, if_neg c_78, if_neg c_84])
                  exact wx_iret hx hb hr hlocks hP hS (by decide) ⟨e9.symm, rfl⟩ dX2_mustFail_101
                · refine lv_aload_n hx hb dX2_mustFail_87 rfl (lv_at hl 3 rfl) ?_
                  refine wx_get (w := (cw k)) (g := (i + 1)) (j := 0) hx hb hts hiX2 hown hK hP (cIx_r hi (by decide)) rfl rfl 2 (by decide) hf19 rfl dX2_mustFail_88 ?_
                  refine lv_iload_n hx hb dX2_mustFail_91 rfl (lv_at hl 0 rfl) ?_
                  refine wx_iald (w := (cw k)) (g := (i + 1)) (j := 2) hx hb hK hP (cIx_r hi (by decide)) 0 rfl rfl (in8 (sOf_e k M _) c_70) dX2_mustFail_92 ?_
                  refine lv_if_ne (tgt := 100) hx hb dX2_mustFail_93 (by decide) (fun c_93 => ?_) (fun c_93 => ?_)
                  · refine lv_iconst (v := 0) hx hb dX2_mustFail_100 (by decide) ?_
                    have e9 : f_X2_mustFail k M i = 0 := (by unfold f_X2_mustFail; rw [if_neg c_4, if_neg c_15, if_pos c_27, if_neg c_55, if_neg c_64, if_pos c_70, if_neg c_78, if_pos c_84, if_neg c_93])
                    exact wx_iret hx hb hr hlocks hP hS (by decide) ⟨e9.symm, rfl⟩ dX2_mustFail_101
                  · refine lv_iconst (v := 1) hx hb dX2_mustFail_96 (by decide) ?_
                    refine lv_goto (tgt := 101) hx hb dX2_mustFail_97 (by decide) ?_
                    have e9 : f_X2_mustFail k M i = 1 := (by unfold f_X2_mustFail; rw [if_neg c_4, if_neg c_15, if_pos c_27, if_neg c_55, if_neg c_64, if_pos c_70, if_neg c_78, if_pos c_84, if_pos c_93])
                    exact wx_iret hx hb hr hlocks hP hS (by decide) ⟨e9.symm, rfl⟩ dX2_mustFail_101
            · refine lv_iconst (v := 1) hx hb dX2_mustFail_73 (by decide) ?_
              have e9 : f_X2_mustFail k M i = 1 := (by unfold f_X2_mustFail; rw [if_neg c_4, if_neg c_15, if_pos c_27, if_neg c_55, if_neg c_64, if_neg c_70])
              exact wx_iret hx hb hr hlocks hP hS (by decide) ⟨e9.symm, rfl⟩ dX2_mustFail_74
      · refine lv_iconst (v := 1) hx hb dX2_mustFail_30 (by decide) ?_
        have e9 : f_X2_mustFail k M i = 1 := (by unfold f_X2_mustFail; rw [if_neg c_4, if_neg c_15, if_neg c_27])
        exact wx_iret hx hb hr hlocks hP hS (by decide) ⟨e9.symm, rfl⟩ dX2_mustFail_31
end
section
/-- by program, from the bytecode of RobotWorld$Land.contentOf -/
def f_X1_contentOf (k : CK) (M : Mem) (p1 : Int32) (p2 : Int32) : Int32 :=
  if (f_X1_isInside k M p1 p2) = 0 then
    (-2)
  else
    (M 0 2 ((p2 * (M 0 1 0)) + p1).toNatClampNeg)
set_option maxHeartbeats 4000000 in
set_option maxRecDepth 100000 in
theorem c_X1_contentOf (l : Launch) (k : CK) (M : Mem) (p1 : Int32) (p2 : Int32) (hI : cI k M) : Met l yX1_contentOf wsX1_contentOf (rmK 1 22) (wPc (cw k) M [.ref (k.1 0 1), .int p1, .int p2]) (wQi (cw k) (fun r u => r = (f_X1_contentOf k M p1 p2) ∧ u = M)) 0 0 (wA (cw k)) := by
  refine wx_met (cc := cX1_contentOf) (maxL := 3) (ret := (some .int)) (by decide) rfl (Nat.le_of_ble_eq_true rfl) ?_
  intro p e s m below meth c ls hx hb hr hml hts hown hlocks hP hK hD hZ hS hl
  have hown : s.vm.findClass RX1 = some m.cls := hown
  have hl : lv_has ls 3 [(0, .ref (k.1 0 1)), (1, .int p1), (2, .int p2)] := hl
  have hiX1 : ∀ x ∈ u_ws RX1 TX1 6, x ∈ wsX1_contentOf := by decide +kernel
  have hf18 := hts (.fieldLink RX1 18 "RobotWorld$Land" "contents" "[I") (by decide +kernel)
  have hf9 := hts (.fieldLink RX1 9 "RobotWorld$Land" "width" "I") (by decide +kernel)
  refine lv_aload_n hx hb dX1_contentOf_0 rfl (lv_at hl 0 rfl) ?_
  refine lv_iload_n hx hb dX1_contentOf_1 rfl (lv_at hl 1 rfl) ?_
  refine lv_iload_n hx hb dX1_contentOf_2 rfl (lv_at hl 2 rfl) ?_
  refine wx_Vi (w := (cw k)) (f_X1_isInside k M p1 p2) M [.int p1, .int p2] [] (cZok k) ⟨hx, hb, hml, hown, hts⟩ (c_X1_isInside l k M p1 p2 ) (cwV 2 hts gX1_contentOf_X1_isInside rfl rfl rfl (by decide +kernel) ⟨by decide, by decide⟩) (wx_recv (w := (cw k)) (g := 0) (j := 1) hK hP (cIx_0 (by decide)) rfl rfl) hP hK hD hZ hS rfl hl.1 rfl (Nat.le_of_ble_eq_true rfl) dX1_contentOf_3 ⟨by decide, by decide⟩ (fun H locs hP hS => ?_)
  refine lv_if_eq (tgt := 25) hx hb dX1_contentOf_6 (by decide) (fun c_6 => ?_) (fun c_6 => ?_)
  · refine lv_bipush (v := (-2)) hx hb dX1_contentOf_25 (by decide) ?_
    have e9 : f_X1_contentOf k M p1 p2 = (-2) := (by unfold f_X1_contentOf; rw [if_pos c_6])
    exact wx_iret hx hb hr hlocks hP hS rfl ⟨e9.symm, rfl⟩ dX1_contentOf_27
  · refine lv_aload_n hx hb dX1_contentOf_9 rfl (lv_at hl 0 rfl) ?_
    refine wx_get (w := (cw k)) (g := 0) (j := 1) hx hb hts hiX1 hown hK hP (cIx_0 (by decide)) rfl rfl 2 (by decide) hf18 rfl dX1_contentOf_10 ?_
    refine lv_iload_n hx hb dX1_contentOf_13 rfl (lv_at hl 2 rfl) ?_
    refine lv_aload_n hx hb dX1_contentOf_14 rfl (lv_at hl 0 rfl) ?_
    refine wx_get (w := (cw k)) (g := 0) (j := 1) hx hb hts hiX1 hown hK hP (cIx_0 (by decide)) rfl rfl 0 (by decide) hf9 rfl dX1_contentOf_15 ?_
    refine lv_imul hx hb dX1_contentOf_18 ?_
    refine lv_iload_n hx hb dX1_contentOf_19 rfl (lv_at hl 1 rfl) ?_
    refine lv_iadd hx hb dX1_contentOf_20 ?_
    refine wx_iald (w := (cw k)) (g := 0) (j := 2) hx hb hK hP (cIx_0 (by decide)) 0 rfl rfl (ins_sq hI c_6) dX1_contentOf_21 ?_
    refine lv_goto (tgt := 27) hx hb dX1_contentOf_22 (by decide) ?_
    have e9 : f_X1_contentOf k M p1 p2 = (M 0 2 ((p2 * (M 0 1 0)) + p1).toNatClampNeg) := (by unfold f_X1_contentOf; rw [if_neg c_6])
    exact wx_iret hx hb hr hlocks hP hS rfl ⟨e9.symm, rfl⟩ dX1_contentOf_27
/-- by program, from the bytecode of RobotWorld$Land.stepsOf -/
def f_X1_stepsOf (k : CK) (M : Mem) (p1 : Int32) (p2 : Int32) : Int32 :=
  if (f_X1_isInside k M p1 p2) = 0 then
    (-1)
  else
    (M 0 3 ((p2 * (M 0 1 0)) + p1).toNatClampNeg)
set_option maxHeartbeats 4000000 in
set_option maxRecDepth 100000 in
theorem c_X1_stepsOf (l : Launch) (k : CK) (M : Mem) (p1 : Int32) (p2 : Int32) (hI : cI k M) : Met l yX1_stepsOf wsX1_stepsOf (rmK 1 22) (wPc (cw k) M [.ref (k.1 0 1), .int p1, .int p2]) (wQi (cw k) (fun r u => r = (f_X1_stepsOf k M p1 p2) ∧ u = M)) 0 0 (wA (cw k)) := by
  refine wx_met (cc := cX1_stepsOf) (maxL := 3) (ret := (some .int)) (by decide) rfl (Nat.le_of_ble_eq_true rfl) ?_
  intro p e s m below meth c ls hx hb hr hml hts hown hlocks hP hK hD hZ hS hl
  have hown : s.vm.findClass RX1 = some m.cls := hown
  have hl : lv_has ls 3 [(0, .ref (k.1 0 1)), (1, .int p1), (2, .int p2)] := hl
  have hiX1 : ∀ x ∈ u_ws RX1 TX1 6, x ∈ wsX1_stepsOf := by decide +kernel
  have hf22 := hts (.fieldLink RX1 22 "RobotWorld$Land" "steps" "[I") (by decide +kernel)
  have hf9 := hts (.fieldLink RX1 9 "RobotWorld$Land" "width" "I") (by decide +kernel)
  refine lv_aload_n hx hb dX1_stepsOf_0 rfl (lv_at hl 0 rfl) ?_
  refine lv_iload_n hx hb dX1_stepsOf_1 rfl (lv_at hl 1 rfl) ?_
  refine lv_iload_n hx hb dX1_stepsOf_2 rfl (lv_at hl 2 rfl) ?_
  refine wx_Vi (w := (cw k)) (f_X1_isInside k M p1 p2) M [.int p1, .int p2] [] (cZok k) ⟨hx, hb, hml, hown, hts⟩ (c_X1_isInside l k M p1 p2 ) (cwV 2 hts gX1_stepsOf_X1_isInside rfl rfl rfl (by decide +kernel) ⟨by decide, by decide⟩) (wx_recv (w := (cw k)) (g := 0) (j := 1) hK hP (cIx_0 (by decide)) rfl rfl) hP hK hD hZ hS rfl hl.1 rfl (Nat.le_of_ble_eq_true rfl) dX1_stepsOf_3 ⟨by decide, by decide⟩ (fun H locs hP hS => ?_)
  refine lv_if_eq (tgt := 25) hx hb dX1_stepsOf_6 (by decide) (fun c_6 => ?_) (fun c_6 => ?_)
  · refine lv_iconst (v := (-1)) hx hb dX1_stepsOf_25 (by decide) ?_
    have e9 : f_X1_stepsOf k M p1 p2 = (-1) := (by unfold f_X1_stepsOf; rw [if_pos c_6])
    exact wx_iret hx hb hr hlocks hP hS rfl ⟨e9.symm, rfl⟩ dX1_stepsOf_26
  · refine lv_aload_n hx hb dX1_stepsOf_9 rfl (lv_at hl 0 rfl) ?_
    refine wx_get (w := (cw k)) (g := 0) (j := 1) hx hb hts hiX1 hown hK hP (cIx_0 (by decide)) rfl rfl 3 (by decide) hf22 rfl dX1_stepsOf_10 ?_
    refine lv_iload_n hx hb dX1_stepsOf_13 rfl (lv_at hl 2 rfl) ?_
    refine lv_aload_n hx hb dX1_stepsOf_14 rfl (lv_at hl 0 rfl) ?_
    refine wx_get (w := (cw k)) (g := 0) (j := 1) hx hb hts hiX1 hown hK hP (cIx_0 (by decide)) rfl rfl 0 (by decide) hf9 rfl dX1_stepsOf_15 ?_
    refine lv_imul hx hb dX1_stepsOf_18 ?_
    refine lv_iload_n hx hb dX1_stepsOf_19 rfl (lv_at hl 1 rfl) ?_
    refine lv_iadd hx hb dX1_stepsOf_20 ?_
    refine wx_iald (w := (cw k)) (g := 0) (j := 3) hx hb hK hP (cIx_0 (by decide)) 0 rfl rfl (ins_sq hI c_6) dX1_stepsOf_21 ?_
    refine lv_goto (tgt := 26) hx hb dX1_stepsOf_22 (by decide) ?_
    have e9 : f_X1_stepsOf k M p1 p2 = (M 0 3 ((p2 * (M 0 1 0)) + p1).toNatClampNeg) := (by unfold f_X1_stepsOf; rw [if_neg c_6])
    exact wx_iret hx hb hr hlocks hP hS rfl ⟨e9.symm, rfl⟩ dX1_stepsOf_26
/-- by program, from the bytecode of RobotWorld$Land.changeWall -/
def f_X1_changeWall (k : CK) (M : Mem) (p1 : Int32) (p2 : Int32) (p3 : Int32) : Mem :=
  if (f_X1_isInside k M p1 p2) = 0 then
    M
  else
    if p3 = 0 then
      if (M 0 2 ((p2 * (M 0 1 0)) + p1).toNatClampNeg) = (-1) then
        (mu (mu M 0 2 ((p2 * (M 0 1 0)) + p1).toNatClampNeg 0) 0 1 5 (-1))
      else
        (mu M 0 1 5 (-1))
    else
      (mu (mu M 0 2 ((p2 * (M 0 1 0)) + p1).toNatClampNeg (-1)) 0 1 5 (-1))
set_option maxHeartbeats 4000000 in
set_option maxRecDepth 100000 in
theorem c_X1_changeWall (l : Launch) (k : CK) (M : Mem) (p1 : Int32) (p2 : Int32) (p3 : Int32) (hI : cI k M) : Met l yX1_changeWall wsX1_changeWall (rmK 1 22) (wPc (cw k) M [.ref (k.1 0 1), .int p1, .int p2, .int p3]) (wQv (cw k) (fun u => u = f_X1_changeWall k M p1 p2 p3)) 0 0 (wA (cw k)) := by
  refine wx_met (cc := cX1_changeWall) (maxL := 5) (ret := none) (by decide) rfl (Nat.le_of_ble_eq_true rfl) ?_
  intro p e s m below meth c ls hx hb hr hml hts hown hlocks hP hK hD hZ hS hl
  have hown : s.vm.findClass RX1 = some m.cls := hown
  have hl : lv_has ls 5 [(0, .ref (k.1 0 1)), (1, .int p1), (2, .int p2), (3, .int p3)] := hl
  have hiX1 : ∀ x ∈ u_ws RX1 TX1 6, x ∈ wsX1_changeWall := by decide +kernel
  have hf18 := hts (.fieldLink RX1 18 "RobotWorld$Land" "contents" "[I") (by decide +kernel)
  have hf28 := hts (.fieldLink RX1 28 "RobotWorld$Land" "goal" "I") (by decide +kernel)
  have hf9 := hts (.fieldLink RX1 9 "RobotWorld$Land" "width" "I") (by decide +kernel)
  refine lv_aload_n hx hb dX1_changeWall_0 rfl (lv_at hl 0 rfl) ?_
  refine lv_iload_n hx hb dX1_changeWall_1 rfl (lv_at hl 1 rfl) ?_
  refine lv_iload_n hx hb dX1_changeWall_2 rfl (lv_at hl 2 rfl) ?_
  refine wx_Vi (w := (cw k)) (f_X1_isInside k M p1 p2) M [.int p1, .int p2] [] (cZok k) ⟨hx, hb, hml, hown, hts⟩ (c_X1_isInside l k M p1 p2 ) (cwV 2 hts gX1_changeWall_X1_isInside rfl rfl rfl (by decide +kernel) ⟨by decide, by decide⟩) (wx_recv (w := (cw k)) (g := 0) (j := 1) hK hP (cIx_0 (by decide)) rfl rfl) hP hK hD hZ hS rfl hl.1 rfl (Nat.le_of_ble_eq_true rfl) dX1_changeWall_3 ⟨by decide, by decide⟩ (fun H locs hP hS => ?_)
  refine lv_if_ne (tgt := 10) hx hb dX1_changeWall_6 (by decide) (fun c_6 => ?_) (fun c_6 => ?_)
  · refine lv_iload_n hx hb dX1_changeWall_10 rfl (lv_at hl 2 rfl) ?_
    refine lv_aload_n hx hb dX1_changeWall_11 rfl (lv_at hl 0 rfl) ?_
    refine wx_get (w := (cw k)) (g := 0) (j := 1) hx hb hts hiX1 hown hK hP (cIx_0 (by decide)) rfl rfl 0 (by decide) hf9 rfl dX1_changeWall_12 ?_
    refine lv_imul hx hb dX1_changeWall_15 ?_
    refine lv_iload_n hx hb dX1_changeWall_16 rfl (lv_at hl 1 rfl) ?_
    refine lv_iadd hx hb dX1_changeWall_17 ?_
    refine lv_istore (lv' := [(4, .int ((p2 * (M 0 1 0)) + p1)), (0, .ref (k.1 0 1)), (1, .int p1), (2, .int p2), (3, .int p3)]) hx hb dX1_changeWall_18 hl (by decide) rfl (fun ls hl => ?_)
    refine lv_iload_n hx hb dX1_changeWall_20 rfl (lv_at hl 4 rfl) ?_
    refine lv_if_eq (tgt := 35) hx hb dX1_changeWall_21 (by decide) (fun c_21 => ?_) (fun c_21 => ?_)
    · refine lv_aload_n hx hb dX1_changeWall_35 rfl (lv_at hl 1 rfl) ?_
      refine wx_get (w := (cw k)) (g := 0) (j := 1) hx hb hts hiX1 hown hK hP (cIx_0 (by decide)) rfl rfl 2 (by decide) hf18 rfl dX1_changeWall_36 ?_
      refine lv_iload hx hb dX1_changeWall_39 (lv_at hl 0 rfl) ?_
      refine wx_iald (w := (cw k)) (g := 0) (j := 2) hx hb hK hP (cIx_0 (by decide)) 0 rfl rfl (ins_sq hI c_6) dX1_changeWall_41 ?_
      refine lv_iconst (v := (-1)) hx hb dX1_changeWall_42 (by decide) ?_
      refine lv_icmp_ne (tgt := 54) hx hb dX1_changeWall_43 (by decide) (fun c_43 => ?_) (fun c_43 => ?_)
      · refine lv_aload_n hx hb dX1_changeWall_54 rfl (lv_at hl 1 rfl) ?_
        refine lv_iconst (v := (-1)) hx hb dX1_changeWall_55 (by decide) ?_
        refine wx_put (w := (cw k)) (g := 0) (j := 1) hx hb hts hiX1 tyX1 tyX1_ok nmX1 hown hK hP hD hS (cIx_0 (by decide)) rfl rfl 5 (by decide) hf28 rfl (by decide +kernel) rfl (Nat.le_of_ble_eq_true rfl) dX1_changeWall_56 (fun H locs hP hS => ?_)
        have e9 : f_X1_changeWall k M p1 p2 p3 = (mu M 0 1 5 (-1)) := (by unfold f_X1_changeWall; rw [if_neg c_6, if_pos c_21, if_neg c_43])
        exact wx_vret hx hb hr hlocks hP hS e9.symm dX1_changeWall_59
      · refine lv_aload_n hx hb dX1_changeWall_46 rfl (lv_at hl 1 rfl) ?_
        refine wx_get (w := (cw k)) (g := 0) (j := 1) hx hb hts hiX1 hown hK hP (cIx_0 (by decide)) rfl rfl 2 (by decide) hf18 rfl dX1_changeWall_47 ?_
        refine lv_iload hx hb dX1_changeWall_50 (lv_at hl 0 rfl) ?_
        refine lv_iconst (v := 0) hx hb dX1_changeWall_52 (by decide) ?_
        refine wx_iast (w := (cw k)) (g := 0) (j := 2) hx hb hK hP hD hS (cIx_0 (by decide)) 0 (fun _ => rfl) rfl (ins_sq hI c_6) dX1_changeWall_53 (fun H locs hP hS => ?_)
        refine lv_aload_n hx hb dX1_changeWall_54 rfl (lv_at hl 1 rfl) ?_
        refine lv_iconst (v := (-1)) hx hb dX1_changeWall_55 (by decide) ?_
        refine wx_put (w := (cw k)) (g := 0) (j := 1) hx hb hts hiX1 tyX1 tyX1_ok nmX1 hown hK hP hD hS (cIx_0 (by decide)) rfl rfl 5 (by decide) hf28 rfl (by decide +kernel) rfl (Nat.le_of_ble_eq_true rfl) dX1_changeWall_56 (fun H locs hP hS => ?_)
        have e9 : f_X1_changeWall k M p1 p2 p3 = (mu (mu M 0 2 ((p2 * (M 0 1 0)) + p1).toNatClampNeg 0) 0 1 5 (-1)) := (by unfold f_X1_changeWall; rw [if_neg c_6, if_pos c_21, if_pos c_43])
        exact wx_vret hx hb hr hlocks hP hS e9.symm dX1_changeWall_59
    · refine lv_aload_n hx hb dX1_changeWall_24 rfl (lv_at hl 1 rfl) ?_
      refine wx_get (w := (cw k)) (g := 0) (j := 1) hx hb hts hiX1 hown hK hP (cIx_0 (by decide)) rfl rfl 2 (by decide) hf18 rfl dX1_changeWall_25 ?_
      refine lv_iload hx hb dX1_changeWall_28 (lv_at hl 0 rfl) ?_
      refine lv_iconst (v := (-1)) hx hb dX1_changeWall_30 (by decide) ?_
      refine wx_iast (w := (cw k)) (g := 0) (j := 2) hx hb hK hP hD hS (cIx_0 (by decide)) 0 (fun _ => rfl) rfl (ins_sq hI c_6) dX1_changeWall_31 (fun H locs hP hS => ?_)
      refine lv_goto (tgt := 54) hx hb dX1_changeWall_32 (by decide) ?_
      refine lv_aload_n hx hb dX1_changeWall_54 rfl (lv_at hl 1 rfl) ?_
      refine lv_iconst (v := (-1)) hx hb dX1_changeWall_55 (by decide) ?_
      refine wx_put (w := (cw k)) (g := 0) (j := 1) hx hb hts hiX1 tyX1 tyX1_ok nmX1 hown hK hP hD hS (cIx_0 (by decide)) rfl rfl 5 (by decide) hf28 rfl (by decide +kernel) rfl (Nat.le_of_ble_eq_true rfl) dX1_changeWall_56 (fun H locs hP hS => ?_)
      have e9 : f_X1_changeWall k M p1 p2 p3 = (mu (mu M 0 2 ((p2 * (M 0 1 0)) + p1).toNatClampNeg (-1)) 0 1 5 (-1)) := (by unfold f_X1_changeWall; rw [if_neg c_6, if_neg c_21])
      exact wx_vret hx hb hr hlocks hP hS e9.symm dX1_changeWall_59
  · have e9 : f_X1_changeWall k M p1 p2 p3 = M := (by unfold f_X1_changeWall; rw [if_pos c_6])
    exact wx_vret hx hb hr hlocks hP hS e9.symm dX1_changeWall_9
theorem cI_changeWall {k : CK} {M : Mem} {x y z : Int32} (hI : cI k M) : cI k (f_X1_changeWall k M x y z) := by
  unfold f_X1_changeWall
  repeat' split
  all_goals first | exact hI | exact cI_mu (cI_mu hI (by omega) (by omega) (by omega)) (by omega) (by omega) (by omega) | exact cI_mu hI (by omega) (by omega) (by omega)
/-- by program, from the bytecode of RobotWorld$Land.addItem -/
def f_X1_addItem (k : CK) (M : Mem) (p1 : Int32) (p2 : Int32) : Int32 × Mem :=
  if (f_X1_isOpen k M p1 p2) = 0 then
    (0, M)
  else
    if (M 0 2 ((p2 * (M 0 1 0)) + p1).toNatClampNeg) < 99 then
      (1, (mu M 0 2 ((p2 * (M 0 1 0)) + p1).toNatClampNeg ((M 0 2 ((p2 * (M 0 1 0)) + p1).toNatClampNeg) + 1)))
    else
      (0, M)
set_option maxHeartbeats 4000000 in
set_option maxRecDepth 100000 in
theorem c_X1_addItem (l : Launch) (k : CK) (M : Mem) (p1 : Int32) (p2 : Int32) (hI : cI k M) : Met l yX1_addItem wsX1_addItem (rmK 1 22) (wPc (cw k) M [.ref (k.1 0 1), .int p1, .int p2]) (wQi (cw k) (fun r u => r = (f_X1_addItem k M p1 p2).1 ∧ u = (f_X1_addItem k M p1 p2).2)) 0 0 (wA (cw k)) := by
  refine wx_met (cc := cX1_addItem) (maxL := 4) (ret := (some .boolean)) (by decide) rfl (Nat.le_of_ble_eq_true rfl) ?_
  intro p e s m below meth c ls hx hb hr hml hts hown hlocks hP hK hD hZ hS hl
  have hown : s.vm.findClass RX1 = some m.cls := hown
  have hl : lv_has ls 4 [(0, .ref (k.1 0 1)), (1, .int p1), (2, .int p2)] := hl
  have hiX1 : ∀ x ∈ u_ws RX1 TX1 6, x ∈ wsX1_addItem := by decide +kernel
  have hf18 := hts (.fieldLink RX1 18 "RobotWorld$Land" "contents" "[I") (by decide +kernel)
  have hf9 := hts (.fieldLink RX1 9 "RobotWorld$Land" "width" "I") (by decide +kernel)
  refine lv_aload_n hx hb dX1_addItem_0 rfl (lv_at hl 0 rfl) ?_
  refine lv_iload_n hx hb dX1_addItem_1 rfl (lv_at hl 1 rfl) ?_
  refine lv_iload_n hx hb dX1_addItem_2 rfl (lv_at hl 2 rfl) ?_
  refine wx_Vi (w := (cw k)) (f_X1_isOpen k M p1 p2) M [.int p1, .int p2] [] (cZok k) ⟨hx, hb, hml, hown, hts⟩ (c_X1_isOpen l k M p1 p2 hI) (cwV 2 hts gX1_addItem_X1_isOpen rfl rfl rfl (by decide +kernel) ⟨by decide, by decide⟩) (wx_recv (w := (cw k)) (g := 0) (j := 1) hK hP (cIx_0 (by decide)) rfl rfl) hP hK hD hZ hS rfl hl.1 rfl (Nat.le_of_ble_eq_true rfl) dX1_addItem_3 ⟨by decide, by decide⟩ (fun H locs hP hS => ?_)
  refine lv_if_ne (tgt := 11) hx hb dX1_addItem_6 (by decide) (fun c_6 => ?_) (fun c_6 => ?_)
  · refine lv_iload_n hx hb dX1_addItem_11 rfl (lv_at hl 2 rfl) ?_
    refine lv_aload_n hx hb dX1_addItem_12 rfl (lv_at hl 0 rfl) ?_
    refine wx_get (w := (cw k)) (g := 0) (j := 1) hx hb hts hiX1 hown hK hP (cIx_0 (by decide)) rfl rfl 0 (by decide) hf9 rfl dX1_addItem_13 ?_
    refine lv_imul hx hb dX1_addItem_16 ?_
    refine lv_iload_n hx hb dX1_addItem_17 rfl (lv_at hl 1 rfl) ?_
    refine lv_iadd hx hb dX1_addItem_18 ?_
    refine lv_istore_n (lv' := [(3, .int ((p2 * (M 0 1 0)) + p1)), (0, .ref (k.1 0 1)), (1, .int p1), (2, .int p2)]) hx hb dX1_addItem_19 rfl hl (by decide) rfl (fun ls hl => ?_)
    refine lv_aload_n hx hb dX1_addItem_20 rfl (lv_at hl 1 rfl) ?_
    refine wx_get (w := (cw k)) (g := 0) (j := 1) hx hb hts hiX1 hown hK hP (cIx_0 (by decide)) rfl rfl 2 (by decide) hf18 rfl dX1_addItem_21 ?_
    refine lv_iload_n hx hb dX1_addItem_24 rfl (lv_at hl 0 rfl) ?_
    refine wx_iald (w := (cw k)) (g := 0) (j := 2) hx hb hK hP (cIx_0 (by decide)) 0 rfl rfl (opn_sq hI c_6) dX1_addItem_25 ?_
    refine lv_bipush (v := 99) hx hb dX1_addItem_26 (by decide) ?_
    refine lv_icmp_lt (tgt := 33) hx hb dX1_addItem_28 (by decide) (fun c_28 => ?_) (fun c_28 => ?_)
    · refine lv_aload_n hx hb dX1_addItem_33 rfl (lv_at hl 1 rfl) ?_
      refine wx_get (w := (cw k)) (g := 0) (j := 1) hx hb hts hiX1 hown hK hP (cIx_0 (by decide)) rfl rfl 2 (by decide) hf18 rfl dX1_addItem_34 ?_
      refine lv_iload_n hx hb dX1_addItem_37 rfl (lv_at hl 0 rfl) ?_
      refine lv_dup2_11 hx hb dX1_addItem_38 rfl rfl ?_
      refine wx_iald (w := (cw k)) (g := 0) (j := 2) hx hb hK hP (cIx_0 (by decide)) 0 rfl rfl (opn_sq hI c_6) dX1_addItem_39 ?_
      refine lv_iconst (v := 1) hx hb dX1_addItem_40 (by decide) ?_
      refine lv_iadd hx hb dX1_addItem_41 ?_
      refine wx_iast (w := (cw k)) (g := 0) (j := 2) hx hb hK hP hD hS (cIx_0 (by decide)) 0 (fun _ => rfl) rfl (opn_sq hI c_6) dX1_addItem_42 (fun H locs hP hS => ?_)
      refine lv_iconst (v := 1) hx hb dX1_addItem_43 (by decide) ?_
      have e9 : f_X1_addItem k M p1 p2 = (1, (mu M 0 2 ((p2 * (M 0 1 0)) + p1).toNatClampNeg ((M 0 2 ((p2 * (M 0 1 0)) + p1).toNatClampNeg) + 1))) := (by unfold f_X1_addItem; rw [if_neg c_6, if_pos c_28])
      exact wx_iret hx hb hr hlocks hP hS (by decide) ⟨by rw [e9], by rw [e9]⟩ dX1_addItem_44
    · refine lv_iconst (v := 0) hx hb dX1_addItem_31 (by decide) ?_
      have e9 : f_X1_addItem k M p1 p2 = (0, M) := (by unfold f_X1_addItem; rw [if_neg c_6, if_neg c_28])
      exact wx_iret hx hb hr hlocks hP hS (by decide) ⟨by rw [e9], by rw [e9]⟩ dX1_addItem_32
  · refine lv_iconst (v := 0) hx hb dX1_addItem_9 (by decide) ?_
    have e9 : f_X1_addItem k M p1 p2 = (0, M) := (by unfold f_X1_addItem; rw [if_pos c_6])
    exact wx_iret hx hb hr hlocks hP hS (by decide) ⟨by rw [e9], by rw [e9]⟩ dX1_addItem_10
theorem cI_addItem {k : CK} {M : Mem} {x y : Int32} (hI : cI k M) : cI k (f_X1_addItem k M x y).2 := by
  unfold f_X1_addItem
  repeat' split
  all_goals first | exact hI | exact cI_mu hI (by omega) (by omega) (by omega)
theorem bz0 : narrow .boolean (.int 0) = .int 0 := by decide
theorem bz1 : narrow .boolean (.int 1) = .int 1 := by decide
theorem bz_addItem {k : CK} {M : Mem} {x y : Int32} : narrow .boolean (.int (f_X1_addItem k M x y).1) = .int (f_X1_addItem k M x y).1 := by
  unfold f_X1_addItem
  repeat' split
  all_goals first | exact bz0 | exact bz1
/-- by program, from the bytecode of RobotWorld$Land.removeItem -/
def f_X1_removeItem (k : CK) (M : Mem) (p1 : Int32) (p2 : Int32) : Int32 × Mem :=
  if (f_X1_isOpen k M p1 p2) = 0 then
    (0, M)
  else
    if 0 < (M 0 2 ((p2 * (M 0 1 0)) + p1).toNatClampNeg) then
      (1, (mu M 0 2 ((p2 * (M 0 1 0)) + p1).toNatClampNeg ((M 0 2 ((p2 * (M 0 1 0)) + p1).toNatClampNeg) - 1)))
    else
      (0, M)
set_option maxHeartbeats 4000000 in
set_option maxRecDepth 100000 in
theorem c_X1_removeItem (l : Launch) (k : CK) (M : Mem) (p1 : Int32) (p2 : Int32) (hI : cI k M) : Met l yX1_removeItem wsX1_removeItem (rmK 1 22) (wPc (cw k) M [.ref (k.1 0 1), .int p1, .int p2]) (wQi (cw k) (fun r u => r = (f_X1_removeItem k M p1 p2).1 ∧ u = (f_X1_removeItem k M p1 p2).2)) 0 0 (wA (cw k)) := by
  refine wx_met (cc := cX1_removeItem) (maxL := 4) (ret := (some .boolean)) (by decide) rfl (Nat.le_of_ble_eq_true rfl) ?_
  intro p e s m below meth c ls hx hb hr hml hts hown hlocks hP hK hD hZ hS hl
  have hown : s.vm.findClass RX1 = some m.cls := hown
  have hl : lv_has ls 4 [(0, .ref (k.1 0 1)), (1, .int p1), (2, .int p2)] := hl
  have hiX1 : ∀ x ∈ u_ws RX1 TX1 6, x ∈ wsX1_removeItem := by decide +kernel
  have hf18 := hts (.fieldLink RX1 18 "RobotWorld$Land" "contents" "[I") (by decide +kernel)
  have hf9 := hts (.fieldLink RX1 9 "RobotWorld$Land" "width" "I") (by decide +kernel)
  refine lv_aload_n hx hb dX1_removeItem_0 rfl (lv_at hl 0 rfl) ?_
  refine lv_iload_n hx hb dX1_removeItem_1 rfl (lv_at hl 1 rfl) ?_
  refine lv_iload_n hx hb dX1_removeItem_2 rfl (lv_at hl 2 rfl) ?_
  refine wx_Vi (w := (cw k)) (f_X1_isOpen k M p1 p2) M [.int p1, .int p2] [] (cZok k) ⟨hx, hb, hml, hown, hts⟩ (c_X1_isOpen l k M p1 p2 hI) (cwV 2 hts gX1_removeItem_X1_isOpen rfl rfl rfl (by decide +kernel) ⟨by decide, by decide⟩) (wx_recv (w := (cw k)) (g := 0) (j := 1) hK hP (cIx_0 (by decide)) rfl rfl) hP hK hD hZ hS rfl hl.1 rfl (Nat.le_of_ble_eq_true rfl) dX1_removeItem_3 ⟨by decide, by decide⟩ (fun H locs hP hS => ?_)
  refine lv_if_ne (tgt := 11) hx hb dX1_removeItem_6 (by decide) (fun c_6 => ?_) (fun c_6 => ?_)
  · refine lv_iload_n hx hb dX1_removeItem_11 rfl (lv_at hl 2 rfl) ?_
    refine lv_aload_n hx hb dX1_removeItem_12 rfl (lv_at hl 0 rfl) ?_
    refine wx_get (w := (cw k)) (g := 0) (j := 1) hx hb hts hiX1 hown hK hP (cIx_0 (by decide)) rfl rfl 0 (by decide) hf9 rfl dX1_removeItem_13 ?_
    refine lv_imul hx hb dX1_removeItem_16 ?_
    refine lv_iload_n hx hb dX1_removeItem_17 rfl (lv_at hl 1 rfl) ?_
    refine lv_iadd hx hb dX1_removeItem_18 ?_
    refine lv_istore_n (lv' := [(3, .int ((p2 * (M 0 1 0)) + p1)), (0, .ref (k.1 0 1)), (1, .int p1), (2, .int p2)]) hx hb dX1_removeItem_19 rfl hl (by decide) rfl (fun ls hl => ?_)
    refine lv_aload_n hx hb dX1_removeItem_20 rfl (lv_at hl 1 rfl) ?_
    refine wx_get (w := (cw k)) (g := 0) (j := 1) hx hb hts hiX1 hown hK hP (cIx_0 (by decide)) rfl rfl 2 (by decide) hf18 rfl dX1_removeItem_21 ?_
    refine lv_iload_n hx hb dX1_removeItem_24 rfl (lv_at hl 0 rfl) ?_
    refine wx_iald (w := (cw k)) (g := 0) (j := 2) hx hb hK hP (cIx_0 (by decide)) 0 rfl rfl (opn_sq hI c_6) dX1_removeItem_25 ?_
    refine lv_if_gt (tgt := 31) hx hb dX1_removeItem_26 (by decide) (fun c_26 => ?_) (fun c_26 => ?_)
    · refine lv_aload_n hx hb dX1_removeItem_31 rfl (lv_at hl 1 rfl) ?_
      refine wx_get (w := (cw k)) (g := 0) (j := 1) hx hb hts hiX1 hown hK hP (cIx_0 (by decide)) rfl rfl 2 (by decide) hf18 rfl dX1_removeItem_32 ?_
      refine lv_iload_n hx hb dX1_removeItem_35 rfl (lv_at hl 0 rfl) ?_
      refine lv_dup2_11 hx hb dX1_removeItem_36 rfl rfl ?_
      refine wx_iald (w := (cw k)) (g := 0) (j := 2) hx hb hK hP (cIx_0 (by decide)) 0 rfl rfl (opn_sq hI c_6) dX1_removeItem_37 ?_
      refine lv_iconst (v := 1) hx hb dX1_removeItem_38 (by decide) ?_
      refine lv_isub hx hb dX1_removeItem_39 ?_
      refine wx_iast (w := (cw k)) (g := 0) (j := 2) hx hb hK hP hD hS (cIx_0 (by decide)) 0 (fun _ => rfl) rfl (opn_sq hI c_6) dX1_removeItem_40 (fun H locs hP hS => ?_)
      refine lv_iconst (v := 1) hx hb dX1_removeItem_41 (by decide) ?_
      have e9 : f_X1_removeItem k M p1 p2 = (1, (mu M 0 2 ((p2 * (M 0 1 0)) + p1).toNatClampNeg ((M 0 2 ((p2 * (M 0 1 0)) + p1).toNatClampNeg) - 1))) := (by unfold f_X1_removeItem; rw [if_neg c_6, if_pos c_26])
      exact wx_iret hx hb hr hlocks hP hS (by decide) ⟨by rw [e9], by rw [e9]⟩ dX1_removeItem_42
    · refine lv_iconst (v := 0) hx hb dX1_removeItem_29 (by decide) ?_
      have e9 : f_X1_removeItem k M p1 p2 = (0, M) := (by unfold f_X1_removeItem; rw [if_neg c_6, if_neg c_26])
      exact wx_iret hx hb hr hlocks hP hS (by decide) ⟨by rw [e9], by rw [e9]⟩ dX1_removeItem_30
  · refine lv_iconst (v := 0) hx hb dX1_removeItem_9 (by decide) ?_
    have e9 : f_X1_removeItem k M p1 p2 = (0, M) := (by unfold f_X1_removeItem; rw [if_pos c_6])
    exact wx_iret hx hb hr hlocks hP hS (by decide) ⟨by rw [e9], by rw [e9]⟩ dX1_removeItem_10
theorem cI_removeItem {k : CK} {M : Mem} {x y : Int32} (hI : cI k M) : cI k (f_X1_removeItem k M x y).2 := by
  unfold f_X1_removeItem
  repeat' split
  all_goals first | exact hI | exact cI_mu hI (by omega) (by omega) (by omega)
/-- by program, from the bytecode of RobotWorld$Land.clear -/
def f_X1_clear (k : CK) (M : Mem)  : Mem :=
  (mu (mr M 0 2 (fillF (M 0 2) (k.2.1 1) 0)) 0 1 5 (-1))
set_option maxHeartbeats 4000000 in
set_option maxRecDepth 100000 in
theorem c_X1_clear (l : Launch) (k : CK) (M : Mem)  (hI : cI k M) : Met l yX1_clear wsX1_clear (rmK 1 23) (wPc (cw k) M [.ref (k.1 0 1)]) (wQv (cw k) (fun u => u = f_X1_clear k M)) 0 0 (wA (cw k)) := by
  refine wx_met (cc := cX1_clear) (maxL := 1) (ret := none) (by decide) rfl (Nat.le_of_ble_eq_true rfl) ?_
  intro p e s m below meth c ls hx hb hr hml hts hown hlocks hP hK hD hZ hS hl
  have hown : s.vm.findClass RX1 = some m.cls := hown
  have hl : lv_has ls 1 [(0, .ref (k.1 0 1))] := hl
  have hiX1 : ∀ x ∈ u_ws RX1 TX1 6, x ∈ wsX1_clear := by decide +kernel
  have hf18 := hts (.fieldLink RX1 18 "RobotWorld$Land" "contents" "[I") (by decide +kernel)
  have hf28 := hts (.fieldLink RX1 28 "RobotWorld$Land" "goal" "I") (by decide +kernel)
  refine lv_aload_n hx hb dX1_clear_0 rfl (lv_at hl 0 rfl) ?_
  refine wx_get (w := (cw k)) (g := 0) (j := 1) hx hb hts hiX1 hown hK hP (cIx_0 (by decide)) rfl rfl 2 (by decide) hf18 rfl dX1_clear_1 ?_
  refine lv_iconst (v := 0) hx hb dX1_clear_4 (by decide) ?_
  refine wx_Sv (w := (cw k)) (mr M 0 2 (fillF (M 0 2) (k.2.1 1) 0)) [.ref (k.1 0 2), .int 0] [] (cZok k) ⟨hx, hb, hml, hown, hts⟩ (c_J7_fill l k M 0 2 (k.2.1 1) 0 (cIx_0 (by decide)) (fun _ => rfl) (cI_w hI)) (va_cwS 2 hts gX1_clear_J7_fill_53178 rfl rfl rfl (by decide +kernel) ⟨by decide, by decide⟩) hP hK hD hZ hS rfl hl.1 rfl (Nat.le_of_ble_eq_true rfl) dX1_clear_5 ⟨by decide, by decide⟩ (fun H locs hP hS => ?_)
  refine lv_aload_n hx hb dX1_clear_8 rfl (lv_at hl 0 rfl) ?_
  refine lv_iconst (v := (-1)) hx hb dX1_clear_9 (by decide) ?_
  refine wx_put (w := (cw k)) (g := 0) (j := 1) hx hb hts hiX1 tyX1 tyX1_ok nmX1 hown hK hP hD hS (cIx_0 (by decide)) rfl rfl 5 (by decide) hf28 rfl (by decide +kernel) rfl (Nat.le_of_ble_eq_true rfl) dX1_clear_10 (fun H locs hP hS => ?_)
  have e9 : f_X1_clear k M = (mu (mr M 0 2 (fillF (M 0 2) (k.2.1 1) 0)) 0 1 5 (-1)) := rfl
  exact wx_vret hx hb hr hlocks hP hS e9.symm dX1_clear_13
theorem cI_clear {k : CK} {M : Mem} (hI : cI k M) : cI k (f_X1_clear k M) := by
  unfold f_X1_clear
  exact cI_mu (cI_mr hI (by omega) (by omega) (by omega)) (by omega) (by omega) (by omega)
/-- by program, from the bytecode of RobotWorld.isNumber -/
def f_X3_isNumber (k : CK) (M : Mem) (p1 : Int32) : Int32 :=
  if p1 < 0 then
    0
  else
    if (nI (k.2.1 0)) ≤ p1 then
      0
    else
      1
set_option maxHeartbeats 4000000 in
set_option maxRecDepth 100000 in
theorem c_X3_isNumber (l : Launch) (k : CK) (M : Mem) (p1 : Int32)  : Met l yX3_isNumber wsX3_isNumber (rmK 0 0) (wPc (cw k) M [.ref (k.1 0 0), .int p1]) (wQi (cw k) (fun r u => r = (f_X3_isNumber k M p1) ∧ u = M)) 0 0 (wA (cw k)) := by
  refine wx_met (cc := cX3_isNumber) (maxL := 2) (ret := (some .boolean)) (by decide) rfl (Nat.le_of_ble_eq_true rfl) ?_
  intro p e s m below meth c ls hx hb hr hml hts hown hlocks hP hK hD hZ hS hl
  have hown : s.vm.findClass RX3 = some m.cls := hown
  have hl : lv_has ls 2 [(0, .ref (k.1 0 0)), (1, .int p1)] := hl
  have hiX3 : ∀ x ∈ u_ws RX3 TX3 4, x ∈ wsX3_isNumber := by decide +kernel
  have hf24 := hts (.fieldLink RX3 24 "RobotWorld" "robots" "[LRobotWorld$Robot;") (by decide +kernel)
  refine lv_iload_n hx hb dX3_isNumber_0 rfl (lv_at hl 1 rfl) ?_
  refine lv_if_lt (tgt := 17) hx hb dX3_isNumber_1 (by decide) (fun c_1 => ?_) (fun c_1 => ?_)
  · refine lv_iconst (v := 0) hx hb dX3_isNumber_17 (by decide) ?_
    have e9 : f_X3_isNumber k M p1 = 0 := (by unfold f_X3_isNumber; rw [if_pos c_1])
    exact wx_iret hx hb hr hlocks hP hS (by decide) ⟨e9.symm, rfl⟩ dX3_isNumber_18
  · refine lv_iload_n hx hb dX3_isNumber_4 rfl (lv_at hl 1 rfl) ?_
    refine lv_aload_n hx hb dX3_isNumber_5 rfl (lv_at hl 0 rfl) ?_
    refine wx_get (w := (cw k)) (g := 0) (j := 0) hx hb hts hiX3 hown hK hP (cIx_0 (by decide)) rfl rfl 1 (by decide) hf24 rfl dX3_isNumber_6 ?_
    refine wx_alen (w := (cw k)) (g := 0) (j := 5) hx hb hK hP (cIx_0 (by decide)) 1 rfl rfl dX3_isNumber_9 ?_
    refine lv_icmp_ge (tgt := 17) hx hb dX3_isNumber_10 (by decide) (fun c_10 => ?_) (fun c_10 => ?_)
    · refine lv_iconst (v := 0) hx hb dX3_isNumber_17 (by decide) ?_
      have e9 : f_X3_isNumber k M p1 = 0 := (by unfold f_X3_isNumber; rw [if_neg c_1, if_pos c_10])
      exact wx_iret hx hb hr hlocks hP hS (by decide) ⟨e9.symm, rfl⟩ dX3_isNumber_18
    · refine lv_iconst (v := 1) hx hb dX3_isNumber_13 (by decide) ?_
      refine lv_goto (tgt := 18) hx hb dX3_isNumber_14 (by decide) ?_
      have e9 : f_X3_isNumber k M p1 = 1 := (by unfold f_X3_isNumber; rw [if_neg c_1, if_neg c_10])
      exact wx_iret hx hb hr hlocks hP hS (by decide) ⟨e9.symm, rfl⟩ dX3_isNumber_18
theorem num_in {k : CK} {M : Mem} {x : Int32} (hI : cI k M) (h : ¬ f_X3_isNumber k M x = 0) : vp_in x (k.2.1 0) := by
  unfold f_X3_isNumber at h
  repeat (split at h; exact absurd rfl h)
  rename_i a b
  exact vin a b (cI_n hI)
theorem num_0 {k : CK} {M : Mem} (hI : cI k M) : vp_in (0 : Int32) (k.2.1 0) := by
  rw [← nI_0]
  exact vp_in_nI (by have := hI.2.1.1; omega) (cI_n hI)
/-- by program, from the bytecode of RobotWorld.robotOf -/
def f_X3_robotOf (k : CK) (M : Mem) (p1 : Int32) : Option Nat :=
  if (f_X3_isNumber k M p1) = 0 then
    none
  else
    if (M (p1.toNatClampNeg + 1) 0 4) = 0 then
      none
    else
      (some p1.toNatClampNeg)
set_option maxHeartbeats 4000000 in
set_option maxRecDepth 100000 in
theorem c_X3_robotOf (l : Launch) (k : CK) (M : Mem) (p1 : Int32) (hI : cI k M) : Met l yX3_robotOf wsX3_robotOf (rmK 1 21) (wPc (cw k) M [.ref (k.1 0 0), .int p1]) (wQq (cw k) (fun r u => r = (f_X3_robotOf k M p1).map (fun i => wAd (cw k) (i + 1) 0) ∧ u = M)) 0 0 (wA (cw k)) := by
  refine wx_met (cc := cX3_robotOf) (maxL := 2) (ret := (some (.object "RobotWorld$Robot"))) (by decide) rfl (Nat.le_of_ble_eq_true rfl) ?_
  intro p e s m below meth c ls hx hb hr hml hts hown hlocks hP hK hD hZ hS hl
  have hown : s.vm.findClass RX3 = some m.cls := hown
  have hl : lv_has ls 2 [(0, .ref (k.1 0 0)), (1, .int p1)] := hl
  have hiX2 : ∀ x ∈ u_ws RX2 TX2 12, x ∈ wsX3_robotOf := by decide +kernel
  have hiX3 : ∀ x ∈ u_ws RX3 TX3 4, x ∈ wsX3_robotOf := by decide +kernel
  have hf24 := hts (.fieldLink RX3 24 "RobotWorld" "robots" "[LRobotWorld$Robot;") (by decide +kernel)
  have hf52 := hts (.fieldLink RX3 52 "RobotWorld$Robot" "state" "I") (by decide +kernel)
  refine lv_aload_n hx hb dX3_robotOf_0 rfl (lv_at hl 0 rfl) ?_
  refine lv_iload_n hx hb dX3_robotOf_1 rfl (lv_at hl 1 rfl) ?_
  refine wx_Vi (w := (cw k)) (f_X3_isNumber k M p1) M [.int p1] [] (cZok k) ⟨hx, hb, hml, hown, hts⟩ (c_X3_isNumber l k M p1 ) (cwV 1 hts gX3_robotOf_X3_isNumber rfl rfl rfl (by decide +kernel) ⟨by decide, by decide⟩) (wx_recv (w := (cw k)) (g := 0) (j := 0) hK hP (cIx_0 (by decide)) rfl rfl) hP hK hD hZ hS rfl hl.1 rfl (Nat.le_of_ble_eq_true rfl) dX3_robotOf_2 ⟨by decide, by decide⟩ (fun H locs hP hS => ?_)
  refine lv_if_eq (tgt := 29) hx hb dX3_robotOf_5 (by decide) (fun c_5 => ?_) (fun c_5 => ?_)
  · refine lv_null hx hb dX3_robotOf_29 ?_
    have e9 : f_X3_robotOf k M p1 = none := (by unfold f_X3_robotOf; rw [if_pos c_5])
    exact wx_aret none hx hb hr (Or.inl ⟨_, rfl⟩) hlocks hP hS ⟨by rw [e9]; rfl, rfl⟩ dX3_robotOf_30
  · refine lv_aload_n hx hb dX3_robotOf_8 rfl (lv_at hl 0 rfl) ?_
    refine wx_get (w := (cw k)) (g := 0) (j := 0) hx hb hts hiX3 hown hK hP (cIx_0 (by decide)) rfl rfl 1 (by decide) hf24 rfl dX3_robotOf_9 ?_
    refine lv_iload_n hx hb dX3_robotOf_12 rfl (lv_at hl 1 rfl) ?_
    refine wx_aald (w := (cw k)) (g := 0) (j := 5) hx hb hK hP (cIx_0 (by decide)) 1 rfl rfl (num_in hI c_5) rfl dX3_robotOf_13 ?_
    refine wx_get (w := (cw k)) (g := (p1.toNatClampNeg + 1)) (j := 0) hx hb hts hiX2 hown hK hP (cIx_r (vp_lt (num_in hI c_5)) (by decide)) rfl rfl 4 (by decide) hf52 rfl dX3_robotOf_14 ?_
    refine lv_if_eq (tgt := 29) hx hb dX3_robotOf_17 (by decide) (fun c_17 => ?_) (fun c_17 => ?_)
    · refine lv_null hx hb dX3_robotOf_29 ?_
      have e9 : f_X3_robotOf k M p1 = none := (by unfold f_X3_robotOf; rw [if_neg c_5, if_pos c_17])
      exact wx_aret none hx hb hr (Or.inl ⟨_, rfl⟩) hlocks hP hS ⟨by rw [e9]; rfl, rfl⟩ dX3_robotOf_30
    · refine lv_aload_n hx hb dX3_robotOf_20 rfl (lv_at hl 0 rfl) ?_
      refine wx_get (w := (cw k)) (g := 0) (j := 0) hx hb hts hiX3 hown hK hP (cIx_0 (by decide)) rfl rfl 1 (by decide) hf24 rfl dX3_robotOf_21 ?_
      refine lv_iload_n hx hb dX3_robotOf_24 rfl (lv_at hl 1 rfl) ?_
      refine wx_aald (w := (cw k)) (g := 0) (j := 5) hx hb hK hP (cIx_0 (by decide)) 1 rfl rfl (num_in hI c_5) rfl dX3_robotOf_25 ?_
      refine lv_goto (tgt := 30) hx hb dX3_robotOf_26 (by decide) ?_
      have e9 : f_X3_robotOf k M p1 = (some p1.toNatClampNeg) := (by unfold f_X3_robotOf; rw [if_neg c_5, if_neg c_17])
      exact wx_aret (some (k.1 (p1.toNatClampNeg + 1) 0)) hx hb hr (Or.inl ⟨_, rfl⟩) hlocks hP hS ⟨by rw [e9]; rfl, rfl⟩ dX3_robotOf_30
theorem robotOf_lt {k : CK} {M : Mem} {x : Int32} {i : Nat} (hI : cI k M) (h : f_X3_robotOf k M x = some i) : i < k.2.1 0 := by
  unfold f_X3_robotOf at h
  split at h
  · cases h
  · rename_i c
    split at h
    · cases h
    · cases h
      exact vp_lt (num_in hI c)
/-- by program: the loop at 2 of RobotWorld.robotOn -/
def f_X3_robotOn_L2 (k : CK) (p1 : Int32) (p2 : Int32) : Nat → Int32 → Mem → Option Nat
  | 0, _, M => none
  | n + 1, x, M =>
    if (nI (k.2.1 0)) ≤ x then
      none
    else
      if (M (x.toNatClampNeg + 1) 0 4) = 0 then
        f_X3_robotOn_L2 k p1 p2 n (x + 1) M
      else
        if (M (x.toNatClampNeg + 1) 0 5) = p1 then
          if (M (x.toNatClampNeg + 1) 0 6) = p2 then
            (some x.toNatClampNeg)
          else
            f_X3_robotOn_L2 k p1 p2 n (x + 1) M
        else
          f_X3_robotOn_L2 k p1 p2 n (x + 1) M
set_option maxHeartbeats 4000000 in
set_option maxRecDepth 100000 in
theorem lp_X3_robotOn_L2 {p : Program} {l : Launch} {e : Env} {s : State} {m : MethodId} {args : Array Value} {below : List Frame} {meth : Method} {c : Code} (k : CK) (p1 : Int32) (p2 : Int32)  (hx : p.tables.exec = Jvm.exec) (hb : c.code = cX3_robotOn) (hr : meth.sig.returnType = (some (.object "RobotWorld$Robot"))) (hml : c.maxLocals = 5) (hts : ∀ x ∈ wsX3_robotOn, x.before args s = true) (hown : s.vm.findClass RX3 = some m.cls) (hlocks : meth.locks = false) (hK : va_K (wD (cw k)) vwCl (wT (cw k)) s) {M0 : Mem} (hD : va_D (wA (cw k)) (wW (cw k) M0)) (hZ : wZ (cw k) (wA (cw k)) s s.heap)  : ∀ (n : Nat) (x : Int32) (M : Mem) (H : Heap) (locs : List Loc) (ls : Array Slot), cI k M ∧ lpI (k.2.1 0) n x → wP (cw k) M H → va_S (wA (cw k)) s.heap H locs → lv_has ls 5 [(3, .int x), (0, .ref (k.1 0 0)), (1, .int p1), (2, .int p2)] → ∀ (post : Option Nat → Mem → Prop), post ((f_X3_robotOn_L2 k p1 p2 n x M).map (fun i => wAd (cw k) (i + 1) 0)) M → W p l e (rmK 0 0) s m args below meth c H locs 0 0 (MQ below (wQq (cw k) post) args s 0 0 (wA (cw k))) (F0 m 2 ls []) := by
  have hiX2 : ∀ x ∈ u_ws RX2 TX2 12, x ∈ wsX3_robotOn := by decide +kernel
  have hiX3 : ∀ x ∈ u_ws RX3 TX3 4, x ∈ wsX3_robotOn := by decide +kernel
  have hf101 := hts (.fieldLink RX3 101 "RobotWorld$Robot" "y" "I") (by decide +kernel)
  have hf24 := hts (.fieldLink RX3 24 "RobotWorld" "robots" "[LRobotWorld$Robot;") (by decide +kernel)
  have hf52 := hts (.fieldLink RX3 52 "RobotWorld$Robot" "state" "I") (by decide +kernel)
  have hf98 := hts (.fieldLink RX3 98 "RobotWorld$Robot" "x" "I") (by decide +kernel)
  intro n
  induction n with
  | zero =>
    intro x M H locs ls hinv
    exact absurd hinv (fun h => lpI_z h.2)
  | succ n ih =>
    intro x M H locs ls hinv hP hS hl post hpo
    refine lv_iload_n hx hb dX3_robotOn_2 rfl (lv_at hl 0 rfl) ?_
    refine lv_aload_n hx hb dX3_robotOn_3 rfl (lv_at hl 1 rfl) ?_
    refine wx_get (w := (cw k)) (g := 0) (j := 0) hx hb hts hiX3 hown hK hP (cIx_0 (by decide)) rfl rfl 1 (by decide) hf24 rfl dX3_robotOn_4 ?_
    refine wx_alen (w := (cw k)) (g := 0) (j := 5) hx hb hK hP (cIx_0 (by decide)) 1 rfl rfl dX3_robotOn_7 ?_
    refine lv_icmp_ge (tgt := 54) hx hb dX3_robotOn_8 (by decide) (fun c_8 => ?_) (fun c_8 => ?_)
    · refine lv_null hx hb dX3_robotOn_54 ?_
      have e9 : f_X3_robotOn_L2 k p1 p2 (n + 1) x M = none := (by rw [f_X3_robotOn_L2]; rw [if_pos c_8])
      exact wx_aret none hx hb hr (Or.inl ⟨_, rfl⟩) hlocks hP hS (by rw [e9] at hpo; exact hpo) dX3_robotOn_55
    · refine lv_aload_n hx hb dX3_robotOn_11 rfl (lv_at hl 1 rfl) ?_
      refine wx_get (w := (cw k)) (g := 0) (j := 0) hx hb hts hiX3 hown hK hP (cIx_0 (by decide)) rfl rfl 1 (by decide) hf24 rfl dX3_robotOn_12 ?_
      refine lv_iload_n hx hb dX3_robotOn_15 rfl (lv_at hl 0 rfl) ?_
      refine wx_aald (w := (cw k)) (g := 0) (j := 5) hx hb hK hP (cIx_0 (by decide)) 1 rfl rfl (lpI_in hinv.2 c_8 (cI_n hinv.1)) rfl dX3_robotOn_16 ?_
      refine lv_astore (lv' := [(4, .ref (k.1 (x.toNatClampNeg + 1) 0)), (3, .int x), (0, .ref (k.1 0 0)), (1, .int p1), (2, .int p2)]) hx hb dX3_robotOn_17 hl (by decide) rfl (fun ls hl => ?_)
      refine lv_aload hx hb dX3_robotOn_19 (lv_at hl 0 rfl) ?_
      refine wx_get (w := (cw k)) (g := (x.toNatClampNeg + 1)) (j := 0) hx hb hts hiX2 hown hK hP (cIx_r (vp_lt (lpI_in hinv.2 c_8 (cI_n hinv.1))) (by decide)) rfl rfl 4 (by decide) hf52 rfl dX3_robotOn_21 ?_
      refine lv_if_eq (tgt := 48) hx hb dX3_robotOn_24 (by decide) (fun c_24 => ?_) (fun c_24 => ?_)
      · refine lv_iinc (v := (x + 1)) (lv' := [(3, .int (x + 1)), (4, .ref (k.1 (x.toNatClampNeg + 1) 0)), (0, .ref (k.1 0 0)), (1, .int p1), (2, .int p2)]) hx hb dX3_robotOn_48 hl (k := 1) rfl rfl (by decide) rfl (fun ls hl => ?_)
        refine lv_goto (tgt := 2) hx hb dX3_robotOn_51 (by decide) ?_
        have e9 : f_X3_robotOn_L2 k p1 p2 (n + 1) x M = f_X3_robotOn_L2 k p1 p2 n (x + 1) M := (by rw [f_X3_robotOn_L2]; rw [if_neg c_8, if_pos c_24])
        exact ih (x + 1) M _ _ ls (⟨hinv.1, lpI_s hinv.2 c_8 (cI_n hinv.1)⟩) hP hS (lv_sub hl [0, 2, 3, 4] rfl) _ (by rw [e9] at hpo; exact hpo)
      · refine lv_aload hx hb dX3_robotOn_27 (lv_at hl 0 rfl) ?_
        refine wx_get (w := (cw k)) (g := (x.toNatClampNeg + 1)) (j := 0) hx hb hts hiX2 hown hK hP (cIx_r (vp_lt (lpI_in hinv.2 c_8 (cI_n hinv.1))) (by decide)) rfl rfl 5 (by decide) hf98 rfl dX3_robotOn_29 ?_
        refine lv_iload_n hx hb dX3_robotOn_32 rfl (lv_at hl 3 rfl) ?_
        refine lv_icmp_ne (tgt := 48) hx hb dX3_robotOn_33 (by decide) (fun c_33 => ?_) (fun c_33 => ?_)
        · refine lv_iinc (v := (x + 1)) (lv' := [(3, .int (x + 1)), (4, .ref (k.1 (x.toNatClampNeg + 1) 0)), (0, .ref (k.1 0 0)), (1, .int p1), (2, .int p2)]) hx hb dX3_robotOn_48 hl (k := 1) rfl rfl (by decide) rfl (fun ls hl => ?_)
          refine lv_goto (tgt := 2) hx hb dX3_robotOn_51 (by decide) ?_
          have e9 : f_X3_robotOn_L2 k p1 p2 (n + 1) x M = f_X3_robotOn_L2 k p1 p2 n (x + 1) M := (by rw [f_X3_robotOn_L2]; rw [if_neg c_8, if_neg c_24, if_neg c_33])
          exact ih (x + 1) M _ _ ls (⟨hinv.1, lpI_s hinv.2 c_8 (cI_n hinv.1)⟩) hP hS (lv_sub hl [0, 2, 3, 4] rfl) _ (by rw [e9] at hpo; exact hpo)
        · refine lv_aload hx hb dX3_robotOn_36 (lv_at hl 0 rfl) ?_
          refine wx_get (w := (cw k)) (g := (x.toNatClampNeg + 1)) (j := 0) hx hb hts hiX2 hown hK hP (cIx_r (vp_lt (lpI_in hinv.2 c_8 (cI_n hinv.1))) (by decide)) rfl rfl 6 (by decide) hf101 rfl dX3_robotOn_38 ?_
          refine lv_iload_n hx hb dX3_robotOn_41 rfl (lv_at hl 4 rfl) ?_
          refine lv_icmp_ne (tgt := 48) hx hb dX3_robotOn_42 (by decide) (fun c_42 => ?_) (fun c_42 => ?_)
          · refine lv_iinc (v := (x + 1)) (lv' := [(3, .int (x + 1)), (4, .ref (k.1 (x.toNatClampNeg + 1) 0)), (0, .ref (k.1 0 0)), (1, .int p1), (2, .int p2)]) hx hb dX3_robotOn_48 hl (k := 1) rfl rfl (by decide) rfl (fun ls hl => ?_)
            refine lv_goto (tgt := 2) hx hb dX3_robotOn_51 (by decide) ?_
            have e9 : f_X3_robotOn_L2 k p1 p2 (n + 1) x M = f_X3_robotOn_L2 k p1 p2 n (x + 1) M := (by rw [f_X3_robotOn_L2]; rw [if_neg c_8, if_neg c_24, if_pos c_33, if_neg c_42])
            exact ih (x + 1) M _ _ ls (⟨hinv.1, lpI_s hinv.2 c_8 (cI_n hinv.1)⟩) hP hS (lv_sub hl [0, 2, 3, 4] rfl) _ (by rw [e9] at hpo; exact hpo)
          · refine lv_aload hx hb dX3_robotOn_45 (lv_at hl 0 rfl) ?_
            have e9 : f_X3_robotOn_L2 k p1 p2 (n + 1) x M = (some x.toNatClampNeg) := (by rw [f_X3_robotOn_L2]; rw [if_neg c_8, if_neg c_24, if_pos c_33, if_pos c_42])
            exact wx_aret (some (k.1 (x.toNatClampNeg + 1) 0)) hx hb hr (Or.inl ⟨_, rfl⟩) hlocks hP hS (by rw [e9] at hpo; exact hpo) dX3_robotOn_47
/-- by program, from the bytecode of RobotWorld.robotOn -/
def f_X3_robotOn (k : CK) (M : Mem) (p1 : Int32) (p2 : Int32) : Option Nat :=
  f_X3_robotOn_L2 k p1 p2 (k.2.1 0 + 1) 0 M
set_option maxHeartbeats 4000000 in
set_option maxRecDepth 100000 in
theorem c_X3_robotOn (l : Launch) (k : CK) (M : Mem) (p1 : Int32) (p2 : Int32) (hI : cI k M) : Met l yX3_robotOn wsX3_robotOn (rmK 0 0) (wPc (cw k) M [.ref (k.1 0 0), .int p1, .int p2]) (wQq (cw k) (fun r u => r = (f_X3_robotOn k M p1 p2).map (fun i => wAd (cw k) (i + 1) 0) ∧ u = M)) 0 0 (wA (cw k)) := by
  refine wx_met (cc := cX3_robotOn) (maxL := 5) (ret := (some (.object "RobotWorld$Robot"))) (by decide) rfl (Nat.le_of_ble_eq_true rfl) ?_
  intro p e s m below meth c ls hx hb hr hml hts hown hlocks hP hK hD hZ hS hl
  have hown : s.vm.findClass RX3 = some m.cls := hown
  have hl : lv_has ls 5 [(0, .ref (k.1 0 0)), (1, .int p1), (2, .int p2)] := hl
  refine lv_iconst (v := 0) hx hb dX3_robotOn_0 (by decide) ?_
  refine lv_istore_n (lv' := [(3, .int 0), (0, .ref (k.1 0 0)), (1, .int p1), (2, .int p2)]) hx hb dX3_robotOn_1 rfl hl (by decide) rfl (fun ls hl => ?_)
  have e9 : f_X3_robotOn k M p1 p2 = f_X3_robotOn_L2 k p1 p2 (k.2.1 0 + 1) 0 M := rfl
  exact lp_X3_robotOn_L2 k p1 p2 hx hb hr hml hts hown hlocks hK hD hZ (k.2.1 0 + 1) 0 M _ _ ls (⟨hI, lpI_i _⟩) hP hS (lv_sub hl [0, 1, 2, 3] rfl) _ ⟨by rw [e9], rfl⟩
theorem robotOn_L_lt {k : CK} {p1 p2 : Int32} : ∀ (n : Nat) (x : Int32) (M : Mem) (i : Nat), cI k M → lpI (k.2.1 0) n x → f_X3_robotOn_L2 k p1 p2 n x M = some i → i < k.2.1 0 := by
  intro n
  induction n with
  | zero => intro x M i hI h; exact absurd h lpI_z
  | succ n ih =>
    intro x M i hI hl h
    unfold f_X3_robotOn_L2 at h
    split at h
    · cases h
    · rename_i c
      have hs := lpI_s hl c (cI_n hI)
      split at h
      · exact ih _ M i hI hs h
      · split at h
        · split at h
          · cases h
            exact vp_lt (lpI_in hl c (cI_n hI))
          · exact ih _ M i hI hs h
        · exact ih _ M i hI hs h
theorem robotOn_lt {k : CK} {M : Mem} {x y : Int32} {i : Nat} (hI : cI k M) (h : f_X3_robotOn k M x y = some i) : i < k.2.1 0 := robotOn_L_lt _ _ M i hI (lpI_i _) h
/-- by program: the loop at 7 of RobotWorld.nextReady -/
def f_X3_nextReady_L7 (k : CK)  : Nat → Int32 → Int32 → Mem → Option Nat
  | 0, _, _, M => none
  | n + 1, y, x, M =>
    if (nI (k.2.1 0)) ≤ x then
      none
    else
      if (f_X3_isNumber k M (y + 1)) = 0 then
        if (M ((0 : Int32).toNatClampNeg + 1) 0 4) = 2 then
          (some ((0 : Int32).toNatClampNeg))
        else
          f_X3_nextReady_L7 k n 0 (x + 1) M
      else
        if (M ((y + 1).toNatClampNeg + 1) 0 4) = 2 then
          (some ((y + 1).toNatClampNeg))
        else
          f_X3_nextReady_L7 k n (y + 1) (x + 1) M
set_option maxHeartbeats 4000000 in
set_option maxRecDepth 100000 in
theorem lp_X3_nextReady_L7 {p : Program} {l : Launch} {e : Env} {s : State} {m : MethodId} {args : Array Value} {below : List Frame} {meth : Method} {c : Code} (k : CK)   (hx : p.tables.exec = Jvm.exec) (hb : c.code = cX3_nextReady) (hr : meth.sig.returnType = (some (.object "RobotWorld$Robot"))) (hml : c.maxLocals = 3) (hts : ∀ x ∈ wsX3_nextReady, x.before args s = true) (hown : s.vm.findClass RX3 = some m.cls) (hlocks : meth.locks = false) (hK : va_K (wD (cw k)) vwCl (wT (cw k)) s) {M0 : Mem} (hD : va_D (wA (cw k)) (wW (cw k) M0)) (hZ : wZ (cw k) (wA (cw k)) s s.heap)  : ∀ (n : Nat) (y : Int32) (x : Int32) (M : Mem) (H : Heap) (locs : List Loc) (ls : Array Slot), cI k M ∧ lpI (k.2.1 0) n x → wP (cw k) M H → va_S (wA (cw k)) s.heap H locs → lv_has ls 3 [(2, .int x), (1, .int y), (0, .ref (k.1 0 0))] → ∀ (post : Option Nat → Mem → Prop), post ((f_X3_nextReady_L7 k n y x M).map (fun i => wAd (cw k) (i + 1) 0)) M → W p l e (rmK 1 21) s m args below meth c H locs 0 0 (MQ below (wQq (cw k) post) args s 0 0 (wA (cw k))) (F0 m 7 ls []) := by
  have hiX2 : ∀ x ∈ u_ws RX2 TX2 12, x ∈ wsX3_nextReady := by decide +kernel
  have hiX3 : ∀ x ∈ u_ws RX3 TX3 4, x ∈ wsX3_nextReady := by decide +kernel
  have hf24 := hts (.fieldLink RX3 24 "RobotWorld" "robots" "[LRobotWorld$Robot;") (by decide +kernel)
  have hf52 := hts (.fieldLink RX3 52 "RobotWorld$Robot" "state" "I") (by decide +kernel)
  intro n
  induction n with
  | zero =>
    intro y x M H locs ls hinv
    exact absurd hinv (fun h => lpI_z h.2)
  | succ n ih =>
    intro y x M H locs ls hinv hP hS hl post hpo
    refine lv_iload_n hx hb dX3_nextReady_7 rfl (lv_at hl 0 rfl) ?_
    refine lv_aload_n hx hb dX3_nextReady_8 rfl (lv_at hl 2 rfl) ?_
    refine wx_get (w := (cw k)) (g := 0) (j := 0) hx hb hts hiX3 hown hK hP (cIx_0 (by decide)) rfl rfl 1 (by decide) hf24 rfl dX3_nextReady_9 ?_
    refine wx_alen (w := (cw k)) (g := 0) (j := 5) hx hb hK hP (cIx_0 (by decide)) 1 rfl rfl dX3_nextReady_12 ?_
    refine lv_icmp_ge (tgt := 60) hx hb dX3_nextReady_13 (by decide) (fun c_13 => ?_) (fun c_13 => ?_)
    · refine lv_null hx hb dX3_nextReady_60 ?_
      have e9 : f_X3_nextReady_L7 k (n + 1) y x M = none := (by rw [f_X3_nextReady_L7]; rw [if_pos c_13])
      exact wx_aret none hx hb hr (Or.inl ⟨_, rfl⟩) hlocks hP hS (by rw [e9] at hpo; exact hpo) dX3_nextReady_61
    · refine lv_aload_n hx hb dX3_nextReady_16 rfl (lv_at hl 2 rfl) ?_
      refine lv_iload_n hx hb dX3_nextReady_17 rfl (lv_at hl 1 rfl) ?_
      refine lv_iconst (v := 1) hx hb dX3_nextReady_18 (by decide) ?_
      refine lv_iadd hx hb dX3_nextReady_19 ?_
      refine wx_Vi (w := (cw k)) (f_X3_isNumber k M (y + 1)) M [.int (y + 1)] [] (cZok k) ⟨hx, hb, hml, hown, hts⟩ (c_X3_isNumber l k M (y + 1) ) (cwV 1 hts gX3_nextReady_X3_isNumber rfl rfl rfl (by decide +kernel) ⟨by decide, by decide⟩) (wx_recv (w := (cw k)) (g := 0) (j := 0) hK hP (cIx_0 (by decide)) rfl rfl) hP hK hD hZ hS rfl hl.1 rfl (Nat.le_of_ble_eq_true rfl) dX3_nextReady_20 ⟨by decide, by decide⟩ (fun H locs hP hS => ?_)
      refine lv_if_eq (tgt := 32) hx hb dX3_nextReady_23 (by decide) (fun c_23 => ?_) (fun c_23 => ?_)
      · refine lv_iconst (v := 0) hx hb dX3_nextReady_32 (by decide) ?_
        refine lv_istore_n (lv' := [(1, .int 0), (2, .int x), (0, .ref (k.1 0 0))]) hx hb dX3_nextReady_33 rfl hl (by decide) rfl (fun ls hl => ?_)
        refine lv_aload_n hx hb dX3_nextReady_34 rfl (lv_at hl 2 rfl) ?_
        refine wx_get (w := (cw k)) (g := 0) (j := 0) hx hb hts hiX3 hown hK hP (cIx_0 (by decide)) rfl rfl 1 (by decide) hf24 rfl dX3_nextReady_35 ?_
        refine lv_iload_n hx hb dX3_nextReady_38 rfl (lv_at hl 0 rfl) ?_
        refine wx_aald (w := (cw k)) (g := 0) (j := 5) hx hb hK hP (cIx_0 (by decide)) 1 rfl rfl (by first | exact num_in hinv.1 c_23 | exact num_0 hinv.1) rfl dX3_nextReady_39 ?_
        refine wx_get (w := (cw k)) (g := ((0 : Int32).toNatClampNeg + 1)) (j := 0) hx hb hts hiX2 hown hK hP (cIx_r (vp_lt (by first | exact num_in hinv.1 c_23 | exact num_0 hinv.1)) (by decide)) rfl rfl 4 (by decide) hf52 rfl dX3_nextReady_40 ?_
        refine lv_iconst (v := 2) hx hb dX3_nextReady_43 (by decide) ?_
        refine lv_icmp_ne (tgt := 54) hx hb dX3_nextReady_44 (by decide) (fun c_44 => ?_) (fun c_44 => ?_)
        · refine lv_iinc (v := (x + 1)) (lv' := [(2, .int (x + 1)), (1, .int 0), (0, .ref (k.1 0 0))]) hx hb dX3_nextReady_54 hl (k := 1) rfl rfl (by decide) rfl (fun ls hl => ?_)
          refine lv_goto (tgt := 7) hx hb dX3_nextReady_57 (by decide) ?_
          have e9 : f_X3_nextReady_L7 k (n + 1) y x M = f_X3_nextReady_L7 k n 0 (x + 1) M := (by rw [f_X3_nextReady_L7]; rw [if_neg c_13, if_pos c_23, if_neg c_44])
          exact ih 0 (x + 1) M _ _ ls (⟨hinv.1, lpI_s hinv.2 c_13 (cI_n hinv.1)⟩) hP hS (lv_sub hl [0, 1, 2] rfl) _ (by rw [e9] at hpo; exact hpo)
        · refine lv_aload_n hx hb dX3_nextReady_47 rfl (lv_at hl 2 rfl) ?_
          refine wx_get (w := (cw k)) (g := 0) (j := 0) hx hb hts hiX3 hown hK hP (cIx_0 (by decide)) rfl rfl 1 (by decide) hf24 rfl dX3_nextReady_48 ?_
          refine lv_iload_n hx hb dX3_nextReady_51 rfl (lv_at hl 0 rfl) ?_
          refine wx_aald (w := (cw k)) (g := 0) (j := 5) hx hb hK hP (cIx_0 (by decide)) 1 rfl rfl (by first | exact num_in hinv.1 c_23 | exact num_0 hinv.1) rfl dX3_nextReady_52 ?_
          have e9 : f_X3_nextReady_L7 k (n + 1) y x M = (some ((0 : Int32).toNatClampNeg)) := (by rw [f_X3_nextReady_L7]; rw [if_neg c_13, if_pos c_23, if_pos c_44])
          exact wx_aret (some (k.1 ((0 : Int32).toNatClampNeg + 1) 0)) hx hb hr (Or.inl ⟨_, rfl⟩) hlocks hP hS (by rw [e9] at hpo; exact hpo) dX3_nextReady_53
      · refine lv_iload_n hx hb dX3_nextReady_26 rfl (lv_at hl 1 rfl) ?_
        refine lv_iconst (v := 1) hx hb dX3_nextReady_27 (by decide) ?_
        refine lv_iadd hx hb dX3_nextReady_28 ?_
        refine lv_goto (tgt := 33) hx hb dX3_nextReady_29 (by decide) ?_
        refine lv_istore_n (lv' := [(1, .int (y + 1)), (2, .int x), (0, .ref (k.1 0 0))]) hx hb dX3_nextReady_33 rfl hl (by decide) rfl (fun ls hl => ?_)
        refine lv_aload_n hx hb dX3_nextReady_34 rfl (lv_at hl 2 rfl) ?_
        refine wx_get (w := (cw k)) (g := 0) (j := 0) hx hb hts hiX3 hown hK hP (cIx_0 (by decide)) rfl rfl 1 (by decide) hf24 rfl dX3_nextReady_35 ?_
        refine lv_iload_n hx hb dX3_nextReady_38 rfl (lv_at hl 0 rfl) ?_
        refine wx_aald (w := (cw k)) (g := 0) (j := 5) hx hb hK hP (cIx_0 (by decide)) 1 rfl rfl (by first | exact num_in hinv.1 c_23 | exact num_0 hinv.1) rfl dX3_nextReady_39 ?_
        refine wx_get (w := (cw k)) (g := ((y + 1).toNatClampNeg + 1)) (j := 0) hx hb hts hiX2 hown hK hP (cIx_r (vp_lt (by first | exact num_in hinv.1 c_23 | exact num_0 hinv.1)) (by decide)) rfl rfl 4 (by decide) hf52 rfl dX3_nextReady_40 ?_
        refine lv_iconst (v := 2) hx hb dX3_nextReady_43 (by decide) ?_
        refine lv_icmp_ne (tgt := 54) hx hb dX3_nextReady_44 (by decide) (fun c_44 => ?_) (fun c_44 => ?_)
        · refine lv_iinc (v := (x + 1)) (lv' := [(2, .int (x + 1)), (1, .int (y + 1)), (0, .ref (k.1 0 0))]) hx hb dX3_nextReady_54 hl (k := 1) rfl rfl (by decide) rfl (fun ls hl => ?_)
          refine lv_goto (tgt := 7) hx hb dX3_nextReady_57 (by decide) ?_
          have e9 : f_X3_nextReady_L7 k (n + 1) y x M = f_X3_nextReady_L7 k n (y + 1) (x + 1) M := (by rw [f_X3_nextReady_L7]; rw [if_neg c_13, if_neg c_23, if_neg c_44])
          exact ih (y + 1) (x + 1) M _ _ ls (⟨hinv.1, lpI_s hinv.2 c_13 (cI_n hinv.1)⟩) hP hS (lv_sub hl [0, 1, 2] rfl) _ (by rw [e9] at hpo; exact hpo)
        · refine lv_aload_n hx hb dX3_nextReady_47 rfl (lv_at hl 2 rfl) ?_
          refine wx_get (w := (cw k)) (g := 0) (j := 0) hx hb hts hiX3 hown hK hP (cIx_0 (by decide)) rfl rfl 1 (by decide) hf24 rfl dX3_nextReady_48 ?_
          refine lv_iload_n hx hb dX3_nextReady_51 rfl (lv_at hl 0 rfl) ?_
          refine wx_aald (w := (cw k)) (g := 0) (j := 5) hx hb hK hP (cIx_0 (by decide)) 1 rfl rfl (by first | exact num_in hinv.1 c_23 | exact num_0 hinv.1) rfl dX3_nextReady_52 ?_
          have e9 : f_X3_nextReady_L7 k (n + 1) y x M = (some ((y + 1).toNatClampNeg)) := (by rw [f_X3_nextReady_L7]; rw [if_neg c_13, if_neg c_23, if_pos c_44])
          exact wx_aret (some (k.1 ((y + 1).toNatClampNeg + 1) 0)) hx hb hr (Or.inl ⟨_, rfl⟩) hlocks hP hS (by rw [e9] at hpo; exact hpo) dX3_nextReady_53
/-- by program, from the bytecode of RobotWorld.nextReady -/
def f_X3_nextReady (k : CK) (M : Mem)  : Option Nat :=
  f_X3_nextReady_L7 k (k.2.1 0 + 1) (M 0 0 3) 0 M
set_option maxHeartbeats 4000000 in
set_option maxRecDepth 100000 in
theorem c_X3_nextReady (l : Launch) (k : CK) (M : Mem)  (hI : cI k M) : Met l yX3_nextReady wsX3_nextReady (rmK 1 21) (wPc (cw k) M [.ref (k.1 0 0)]) (wQq (cw k) (fun r u => r = (f_X3_nextReady k M).map (fun i => wAd (cw k) (i + 1) 0) ∧ u = M)) 0 0 (wA (cw k)) := by
  refine wx_met (cc := cX3_nextReady) (maxL := 3) (ret := (some (.object "RobotWorld$Robot"))) (by decide) rfl (Nat.le_of_ble_eq_true rfl) ?_
  intro p e s m below meth c ls hx hb hr hml hts hown hlocks hP hK hD hZ hS hl
  have hown : s.vm.findClass RX3 = some m.cls := hown
  have hl : lv_has ls 3 [(0, .ref (k.1 0 0))] := hl
  have hiX3 : ∀ x ∈ u_ws RX3 TX3 4, x ∈ wsX3_nextReady := by decide +kernel
  have hf77 := hts (.fieldLink RX3 77 "RobotWorld" "lastRan" "I") (by decide +kernel)
  refine lv_aload_n hx hb dX3_nextReady_0 rfl (lv_at hl 0 rfl) ?_
  refine wx_get (w := (cw k)) (g := 0) (j := 0) hx hb hts hiX3 hown hK hP (cIx_0 (by decide)) rfl rfl 3 (by decide) hf77 rfl dX3_nextReady_1 ?_
  refine lv_istore_n (lv' := [(1, .int (M 0 0 3)), (0, .ref (k.1 0 0))]) hx hb dX3_nextReady_4 rfl hl (by decide) rfl (fun ls hl => ?_)
  refine lv_iconst (v := 0) hx hb dX3_nextReady_5 (by decide) ?_
  refine lv_istore_n (lv' := [(2, .int 0), (1, .int (M 0 0 3)), (0, .ref (k.1 0 0))]) hx hb dX3_nextReady_6 rfl hl (by decide) rfl (fun ls hl => ?_)
  have e9 : f_X3_nextReady k M = f_X3_nextReady_L7 k (k.2.1 0 + 1) (M 0 0 3) 0 M := rfl
  exact lp_X3_nextReady_L7 k hx hb hr hml hts hown hlocks hK hD hZ (k.2.1 0 + 1) (M 0 0 3) 0 M _ _ ls (⟨hI, lpI_i _⟩) hP hS (lv_sub hl [0, 1, 2] rfl) _ ⟨by rw [e9], rfl⟩
theorem nextReady_L_lt {k : CK} : ∀ (n : Nat) (y x : Int32) (M : Mem) (i : Nat), cI k M → lpI (k.2.1 0) n x → f_X3_nextReady_L7 k n y x M = some i → i < k.2.1 0 := by
  intro n
  induction n with
  | zero => intro y x M i hI h; exact absurd h lpI_z
  | succ n ih =>
    intro y x M i hI hl h
    unfold f_X3_nextReady_L7 at h
    split at h
    · cases h
    · rename_i c
      have hs := lpI_s hl c (cI_n hI)
      split at h
      · split at h
        · cases h
          exact vp_lt (num_0 hI)
        · exact ih _ _ M i hI hs h
      · rename_i c2
        split at h
        · cases h
          exact vp_lt (num_in hI c2)
        · exact ih _ _ M i hI hs h
theorem nextReady_lt {k : CK} {M : Mem} {i : Nat} (hI : cI k M) (h : f_X3_nextReady k M = some i) : i < k.2.1 0 := nextReady_L_lt _ _ _ M i hI (lpI_i _) h
/-- by program: the loop at 9 of RobotWorld.startOver -/
def f_X3_startOver_L9 (k : CK)  : Nat → Int32 → Mem → Mem
  | 0, _, M => M
  | n + 1, x, M =>
    if (nI (k.2.1 0)) ≤ x then
      M
    else
      f_X3_startOver_L9 k n (x + 1) (mu M (x.toNatClampNeg + 1) 0 4 0)
set_option maxHeartbeats 4000000 in
set_option maxRecDepth 100000 in
theorem lp_X3_startOver_L9 {p : Program} {l : Launch} {e : Env} {s : State} {m : MethodId} {args : Array Value} {below : List Frame} {meth : Method} {c : Code} {Q : State → Prop} (k : CK)   (hx : p.tables.exec = Jvm.exec) (hb : c.code = cX3_startOver) (hr : meth.sig.returnType = none) (hml : c.maxLocals = 2) (hts : ∀ x ∈ wsX3_startOver, x.before args s = true) (hown : s.vm.findClass RX3 = some m.cls) (hlocks : meth.locks = false) (hK : va_K (wD (cw k)) vwCl (wT (cw k)) s) {M0 : Mem} (hD : va_D (wA (cw k)) (wW (cw k) M0)) (hZ : wZ (cw k) (wA (cw k)) s s.heap)  : ∀ (n : Nat) (x : Int32) (M : Mem) (H : Heap) (locs : List Loc) (ls : Array Slot), cI k M ∧ lpI (k.2.1 0) n x → wP (cw k) M H → va_S (wA (cw k)) s.heap H locs → lv_has ls 2 [(1, .int x), (0, .ref (k.1 0 0))] → (∀ (H : Heap) (locs : List Loc) (ls : Array Slot), wP (cw k) (f_X3_startOver_L9 k n x M) H → va_S (wA (cw k)) s.heap H locs → lv_has ls 2 [(0, .ref (k.1 0 0))] → W p l e (rmK 2 43) s m args below meth c H locs 0 0 Q (F0 m 34 ls [])) → W p l e (rmK 2 43) s m args below meth c H locs 0 0 Q (F0 m 9 ls []) := by
  have hiX2 : ∀ x ∈ u_ws RX2 TX2 12, x ∈ wsX3_startOver := by decide +kernel
  have hiX3 : ∀ x ∈ u_ws RX3 TX3 4, x ∈ wsX3_startOver := by decide +kernel
  have hf24 := hts (.fieldLink RX3 24 "RobotWorld" "robots" "[LRobotWorld$Robot;") (by decide +kernel)
  have hf52 := hts (.fieldLink RX3 52 "RobotWorld$Robot" "state" "I") (by decide +kernel)
  intro n
  induction n with
  | zero =>
    intro x M H locs ls hinv
    exact absurd hinv (fun h => lpI_z h.2)
  | succ n ih =>
    intro x M H locs ls hinv hP hS hl kk
    refine lv_iload_n hx hb dX3_startOver_9 rfl (lv_at hl 0 rfl) ?_
    refine lv_aload_n hx hb dX3_startOver_10 rfl (lv_at hl 1 rfl) ?_
    refine wx_get (w := (cw k)) (g := 0) (j := 0) hx hb hts hiX3 hown hK hP (cIx_0 (by decide)) rfl rfl 1 (by decide) hf24 rfl dX3_startOver_11 ?_
    refine wx_alen (w := (cw k)) (g := 0) (j := 5) hx hb hK hP (cIx_0 (by decide)) 1 rfl rfl dX3_startOver_14 ?_
    refine lv_icmp_ge (tgt := 34) hx hb dX3_startOver_15 (by decide) (fun c_15 => ?_) (fun c_15 => ?_)
    · have e9 : f_X3_startOver_L9 k (n + 1) x M = M := (by rw [f_X3_startOver_L9]; rw [if_pos c_15])
      rw [e9] at kk
      exact kk _ _ ls hP hS (lv_sub hl [1] rfl)
    · refine lv_aload_n hx hb dX3_startOver_18 rfl (lv_at hl 1 rfl) ?_
      refine wx_get (w := (cw k)) (g := 0) (j := 0) hx hb hts hiX3 hown hK hP (cIx_0 (by decide)) rfl rfl 1 (by decide) hf24 rfl dX3_startOver_19 ?_
      refine lv_iload_n hx hb dX3_startOver_22 rfl (lv_at hl 0 rfl) ?_
      refine wx_aald (w := (cw k)) (g := 0) (j := 5) hx hb hK hP (cIx_0 (by decide)) 1 rfl rfl (lpI_in hinv.2 c_15 (cI_n hinv.1)) rfl dX3_startOver_23 ?_
      refine lv_iconst (v := 0) hx hb dX3_startOver_24 (by decide) ?_
      refine wx_put (w := (cw k)) (g := (x.toNatClampNeg + 1)) (j := 0) hx hb hts hiX2 tyX2 tyX2_ok nmX2 hown hK hP hD hS (cIx_r (vp_lt (lpI_in hinv.2 c_15 (cI_n hinv.1))) (by decide)) rfl rfl 4 (by decide) hf52 rfl (by decide +kernel) rfl (Nat.le_of_ble_eq_true rfl) dX3_startOver_25 (fun H locs hP hS => ?_)
      refine lv_iinc (v := (x + 1)) (lv' := [(1, .int (x + 1)), (0, .ref (k.1 0 0))]) hx hb dX3_startOver_28 hl (k := 0) rfl rfl (by decide) rfl (fun ls hl => ?_)
      refine lv_goto (tgt := 9) hx hb dX3_startOver_31 (by decide) ?_
      have e9 : f_X3_startOver_L9 k (n + 1) x M = f_X3_startOver_L9 k n (x + 1) (mu M (x.toNatClampNeg + 1) 0 4 0) := (by rw [f_X3_startOver_L9]; rw [if_neg c_15])
      exact ih (x + 1) (mu M (x.toNatClampNeg + 1) 0 4 0) _ _ ls (⟨cI_mu hinv.1 (by omega) (by omega) (by omega), lpI_s hinv.2 c_15 (cI_n hinv.1)⟩) hP hS (lv_sub hl [0, 1] rfl) (by rw [e9] at kk; exact kk)
/-- by program, from the bytecode of RobotWorld.startOver -/
def f_X3_startOver (k : CK) (M : Mem)  : Mem :=
  (mu (mu (f_X3_startOver_L9 k (k.2.1 0 + 1) 0 (f_X1_clear k M)) 0 0 2 0) 0 0 3 ((nI (k.2.1 0)) - 1))
set_option maxHeartbeats 4000000 in
set_option maxRecDepth 100000 in
theorem c_X3_startOver (l : Launch) (k : CK) (M : Mem)  (hI : cI k M) : Met l yX3_startOver wsX3_startOver (rmK 2 43) (wPc (cw k) M [.ref (k.1 0 0)]) (wQv (cw k) (fun u => u = f_X3_startOver k M)) 0 0 (wA (cw k)) := by
  refine wx_met (cc := cX3_startOver) (maxL := 2) (ret := none) (by decide) rfl (Nat.le_of_ble_eq_true rfl) ?_
  intro p e s m below meth c ls hx hb hr hml hts hown hlocks hP hK hD hZ hS hl
  have hown : s.vm.findClass RX3 = some m.cls := hown
  have hl : lv_has ls 2 [(0, .ref (k.1 0 0))] := hl
  have hiX3 : ∀ x ∈ u_ws RX3 TX3 4, x ∈ wsX3_startOver := by decide +kernel
  have hf18 := hts (.fieldLink RX3 18 "RobotWorld" "land" "LRobotWorld$Land;") (by decide +kernel)
  have hf24 := hts (.fieldLink RX3 24 "RobotWorld" "robots" "[LRobotWorld$Robot;") (by decide +kernel)
  have hf77 := hts (.fieldLink RX3 77 "RobotWorld" "lastRan" "I") (by decide +kernel)
  have hf88 := hts (.fieldLink RX3 88 "RobotWorld" "clock" "I") (by decide +kernel)
  refine lv_aload_n hx hb dX3_startOver_0 rfl (lv_at hl 0 rfl) ?_
  refine wx_get (w := (cw k)) (g := 0) (j := 0) hx hb hts hiX3 hown hK hP (cIx_0 (by decide)) rfl rfl 0 (by decide) hf18 rfl dX3_startOver_1 ?_
  refine wx_Vv (w := (cw k)) (f_X1_clear k M) [] [] (cZok k) ⟨hx, hb, hml, hown, hts⟩ (c_X1_clear l k M  hI) (cwV 0 hts gX3_startOver_X1_clear rfl rfl rfl (by decide +kernel) ⟨by decide, by decide⟩) (wx_recv (w := (cw k)) (g := 0) (j := 1) hK hP (cIx_0 (by decide)) rfl rfl) hP hK hD hZ hS rfl hl.1 rfl (Nat.le_of_ble_eq_true rfl) dX3_startOver_4 ⟨by decide, by decide⟩ (fun H locs hP hS => ?_)
  refine lv_iconst (v := 0) hx hb dX3_startOver_7 (by decide) ?_
  refine lv_istore_n (lv' := [(1, .int 0), (0, .ref (k.1 0 0))]) hx hb dX3_startOver_8 rfl hl (by decide) rfl (fun ls hl => ?_)
  refine lp_X3_startOver_L9 k hx hb hr hml hts hown hlocks hK hD hZ (k.2.1 0 + 1) 0 (f_X1_clear k M) _ _ ls (⟨cI_clear hI, lpI_i _⟩) hP hS (lv_sub hl [0, 1] rfl) (fun H locs ls hP hS hl => ?_)
  refine lv_aload_n hx hb dX3_startOver_34 rfl (lv_at hl 0 rfl) ?_
  refine lv_iconst (v := 0) hx hb dX3_startOver_35 (by decide) ?_
  refine wx_put (w := (cw k)) (g := 0) (j := 0) hx hb hts hiX3 tyX3 tyX3_ok nmX3 hown hK hP hD hS (cIx_0 (by decide)) rfl rfl 2 (by decide) hf88 rfl (by decide +kernel) rfl (Nat.le_of_ble_eq_true rfl) dX3_startOver_36 (fun H locs hP hS => ?_)
  refine lv_aload_n hx hb dX3_startOver_39 rfl (lv_at hl 0 rfl) ?_
  refine lv_aload_n hx hb dX3_startOver_40 rfl (lv_at hl 0 rfl) ?_
  refine wx_get (w := (cw k)) (g := 0) (j := 0) hx hb hts hiX3 hown hK hP (cIx_0 (by decide)) rfl rfl 1 (by decide) hf24 rfl dX3_startOver_41 ?_
  refine wx_alen (w := (cw k)) (g := 0) (j := 5) hx hb hK hP (cIx_0 (by decide)) 1 rfl rfl dX3_startOver_44 ?_
  refine lv_iconst (v := 1) hx hb dX3_startOver_45 (by decide) ?_
  refine lv_isub hx hb dX3_startOver_46 ?_
  refine wx_put (w := (cw k)) (g := 0) (j := 0) hx hb hts hiX3 tyX3 tyX3_ok nmX3 hown hK hP hD hS (cIx_0 (by decide)) rfl rfl 3 (by decide) hf77 rfl (by decide +kernel) rfl (Nat.le_of_ble_eq_true rfl) dX3_startOver_47 (fun H locs hP hS => ?_)
  have e9 : f_X3_startOver k M = (mu (mu (f_X3_startOver_L9 k (k.2.1 0 + 1) 0 (f_X1_clear k M)) 0 0 2 0) 0 0 3 ((nI (k.2.1 0)) - 1)) := rfl
  exact wx_vret hx hb hr hlocks hP hS e9.symm dX3_startOver_50
/-- by program, from the bytecode of RobotWorld.init_ -/
def f_X3_init_ (k : CK) (M : Mem)  : Mem :=
  (f_X3_startOver k M)
set_option maxHeartbeats 4000000 in
set_option maxRecDepth 100000 in
theorem c_X3_init_ (l : Launch) (k : CK) (M : Mem)  (hI : cI k M) : Met l yX3_init_ wsX3_init_ (rmK 3 64) (wPc (cw k) M [.ref (k.1 0 0)]) (wQv (cw k) (fun u => u = f_X3_init_ k M)) 0 0 (wA (cw k)) := by
  refine wx_met (cc := cX3_init_) (maxL := 1) (ret := none) (by decide) rfl (Nat.le_of_ble_eq_true rfl) ?_
  intro p e s m below meth c ls hx hb hr hml hts hown hlocks hP hK hD hZ hS hl
  have hown : s.vm.findClass RX3 = some m.cls := hown
  have hl : lv_has ls 1 [(0, .ref (k.1 0 0))] := hl
  refine lv_aload_n hx hb dX3_init__0 rfl (lv_at hl 0 rfl) ?_
  refine wx_Vv (w := (cw k)) (f_X3_startOver k M) [] [] (cZok k) ⟨hx, hb, hml, hown, hts⟩ (c_X3_startOver l k M  hI) (cwV 0 hts gX3_init__X3_startOver rfl rfl rfl (by decide +kernel) ⟨by decide, by decide⟩) (wx_recv (w := (cw k)) (g := 0) (j := 0) hK hP (cIx_0 (by decide)) rfl rfl) hP hK hD hZ hS rfl hl.1 rfl (Nat.le_of_ble_eq_true rfl) dX3_init__1 ⟨by decide, by decide⟩ (fun H locs hP hS => ?_)
  have e9 : f_X3_init_ k M = (f_X3_startOver k M) := rfl
  exact wx_vret hx hb hr hlocks hP hS e9.symm dX3_init__4
/-- by program, from the bytecode of RobotWorld.setWall -/
def f_X3_setWall (k : CK) (M : Mem) (p1 : Int32) (p2 : Int32) (p3 : Int32) : Int32 × Mem :=
  if (f_X1_isInside k M p1 p2) = 0 then
    (0, M)
  else
    match (f_X3_robotOn k M p1 p2) with
    | none =>
      (1, (f_X1_changeWall k M p1 p2 p3))
    | some i_15 =>
      (0, M)
set_option maxHeartbeats 4000000 in
set_option maxRecDepth 100000 in
theorem c_X3_setWall (l : Launch) (k : CK) (M : Mem) (p1 : Int32) (p2 : Int32) (p3 : Int32) (hI : cI k M) : Met l yX3_setWall wsX3_setWall (rmK 2 46) (wPc (cw k) M [.ref (k.1 0 0), .int p1, .int p2, .int p3]) (wQi (cw k) (fun r u => r = (f_X3_setWall k M p1 p2 p3).1 ∧ u = (f_X3_setWall k M p1 p2 p3).2)) 0 0 (wA (cw k)) := by
  refine wx_met (cc := cX3_setWall) (maxL := 4) (ret := (some .boolean)) (by decide) rfl (Nat.le_of_ble_eq_true rfl) ?_
  intro p e s m below meth c ls hx hb hr hml hts hown hlocks hP hK hD hZ hS hl
  have hown : s.vm.findClass RX3 = some m.cls := hown
  have hl : lv_has ls 4 [(0, .ref (k.1 0 0)), (1, .int p1), (2, .int p2), (3, .int p3)] := hl
  have hiX3 : ∀ x ∈ u_ws RX3 TX3 4, x ∈ wsX3_setWall := by decide +kernel
  have hf18 := hts (.fieldLink RX3 18 "RobotWorld" "land" "LRobotWorld$Land;") (by decide +kernel)
  refine lv_aload_n hx hb dX3_setWall_0 rfl (lv_at hl 0 rfl) ?_
  refine wx_get (w := (cw k)) (g := 0) (j := 0) hx hb hts hiX3 hown hK hP (cIx_0 (by decide)) rfl rfl 0 (by decide) hf18 rfl dX3_setWall_1 ?_
  refine lv_iload_n hx hb dX3_setWall_4 rfl (lv_at hl 1 rfl) ?_
  refine lv_iload_n hx hb dX3_setWall_5 rfl (lv_at hl 2 rfl) ?_
  refine wx_Vi (w := (cw k)) (f_X1_isInside k M p1 p2) M [.int p1, .int p2] [] (cZok k) ⟨hx, hb, hml, hown, hts⟩ (c_X1_isInside l k M p1 p2 ) (cwV 2 hts gX3_setWall_X1_isInside rfl rfl rfl (by decide +kernel) ⟨by decide, by decide⟩) (wx_recv (w := (cw k)) (g := 0) (j := 1) hK hP (cIx_0 (by decide)) rfl rfl) hP hK hD hZ hS rfl hl.1 rfl (Nat.le_of_ble_eq_true rfl) dX3_setWall_6 ⟨by decide, by decide⟩ (fun H locs hP hS => ?_)
  refine lv_if_eq (tgt := 21) hx hb dX3_setWall_9 (by decide) (fun c_9 => ?_) (fun c_9 => ?_)
  · refine lv_iconst (v := 0) hx hb dX3_setWall_21 (by decide) ?_
    have e9 : f_X3_setWall k M p1 p2 p3 = (0, M) := (by unfold f_X3_setWall; rw [if_pos c_9])
    exact wx_iret hx hb hr hlocks hP hS (by decide) ⟨by rw [e9], by rw [e9]⟩ dX3_setWall_22
  · refine lv_aload_n hx hb dX3_setWall_12 rfl (lv_at hl 0 rfl) ?_
    refine lv_iload_n hx hb dX3_setWall_13 rfl (lv_at hl 1 rfl) ?_
    refine lv_iload_n hx hb dX3_setWall_14 rfl (lv_at hl 2 rfl) ?_
    refine wx_Vq (w := (cw k)) (f_X3_robotOn k M p1 p2) [.int p1, .int p2] [] (cZok k) ⟨hx, hb, hml, hown, hts⟩ (c_X3_robotOn l k M p1 p2 hI) (cwV 2 hts gX3_setWall_X3_robotOn rfl rfl rfl (by decide +kernel) ⟨by decide, by decide⟩) (wx_recv (w := (cw k)) (g := 0) (j := 0) hK hP (cIx_0 (by decide)) rfl rfl) hP hK hD hZ hS rfl hl.1 rfl (Nat.le_of_ble_eq_true rfl) dX3_setWall_15 ⟨by decide, by decide⟩ (fun H locs q_15 hP hS => ?_) (fun i_15 H locs q_15 hP hS => ?_)
    · refine lv_ifnullN (tgt := 23) hx hb dX3_setWall_18 (by decide) ?_
      refine lv_aload_n hx hb dX3_setWall_23 rfl (lv_at hl 0 rfl) ?_
      refine wx_get (w := (cw k)) (g := 0) (j := 0) hx hb hts hiX3 hown hK hP (cIx_0 (by decide)) rfl rfl 0 (by decide) hf18 rfl dX3_setWall_24 ?_
      refine lv_iload_n hx hb dX3_setWall_27 rfl (lv_at hl 1 rfl) ?_
      refine lv_iload_n hx hb dX3_setWall_28 rfl (lv_at hl 2 rfl) ?_
      refine lv_iload_n hx hb dX3_setWall_29 rfl (lv_at hl 3 rfl) ?_
      refine wx_Vv (w := (cw k)) (f_X1_changeWall k M p1 p2 p3) [.int p1, .int p2, .int p3] [] (cZok k) ⟨hx, hb, hml, hown, hts⟩ (c_X1_changeWall l k M p1 p2 p3 hI) (cwV 3 hts gX3_setWall_X1_changeWall rfl rfl rfl (by decide +kernel) ⟨by decide, by decide⟩) (wx_recv (w := (cw k)) (g := 0) (j := 1) hK hP (cIx_0 (by decide)) rfl rfl) hP hK hD hZ hS rfl hl.1 rfl (Nat.le_of_ble_eq_true rfl) dX3_setWall_30 ⟨by decide, by decide⟩ (fun H locs hP hS => ?_)
      refine lv_iconst (v := 1) hx hb dX3_setWall_33 (by decide) ?_
      have e9 : f_X3_setWall k M p1 p2 p3 = (1, (f_X1_changeWall k M p1 p2 p3)) := (by unfold f_X3_setWall; rw [if_neg c_9]; simp only [q_15])
      exact wx_iret hx hb hr hlocks hP hS (by decide) ⟨by rw [e9], by rw [e9]⟩ dX3_setWall_34
    · refine lv_ifnull hx hb dX3_setWall_18 ?_
      refine lv_iconst (v := 0) hx hb dX3_setWall_21 (by decide) ?_
      have e9 : f_X3_setWall k M p1 p2 p3 = (0, M) := (by unfold f_X3_setWall; rw [if_neg c_9]; simp only [q_15])
      exact wx_iret hx hb hr hlocks hP hS (by decide) ⟨by rw [e9], by rw [e9]⟩ dX3_setWall_22
/-- by program, from the bytecode of RobotWorld.putItem -/
def f_X3_putItem (k : CK) (M : Mem) (p1 : Int32) (p2 : Int32) : Int32 × Mem :=
  ((f_X1_addItem k M p1 p2).1, (f_X1_addItem k M p1 p2).2)
set_option maxHeartbeats 4000000 in
set_option maxRecDepth 100000 in
theorem c_X3_putItem (l : Launch) (k : CK) (M : Mem) (p1 : Int32) (p2 : Int32) (hI : cI k M) : Met l yX3_putItem wsX3_putItem (rmK 2 45) (wPc (cw k) M [.ref (k.1 0 0), .int p1, .int p2]) (wQi (cw k) (fun r u => r = (f_X3_putItem k M p1 p2).1 ∧ u = (f_X3_putItem k M p1 p2).2)) 0 0 (wA (cw k)) := by
  refine wx_met (cc := cX3_putItem) (maxL := 3) (ret := (some .boolean)) (by decide) rfl (Nat.le_of_ble_eq_true rfl) ?_
  intro p e s m below meth c ls hx hb hr hml hts hown hlocks hP hK hD hZ hS hl
  have hown : s.vm.findClass RX3 = some m.cls := hown
  have hl : lv_has ls 3 [(0, .ref (k.1 0 0)), (1, .int p1), (2, .int p2)] := hl
  have hiX3 : ∀ x ∈ u_ws RX3 TX3 4, x ∈ wsX3_putItem := by decide +kernel
  have hf18 := hts (.fieldLink RX3 18 "RobotWorld" "land" "LRobotWorld$Land;") (by decide +kernel)
  refine lv_aload_n hx hb dX3_putItem_0 rfl (lv_at hl 0 rfl) ?_
  refine wx_get (w := (cw k)) (g := 0) (j := 0) hx hb hts hiX3 hown hK hP (cIx_0 (by decide)) rfl rfl 0 (by decide) hf18 rfl dX3_putItem_1 ?_
  refine lv_iload_n hx hb dX3_putItem_4 rfl (lv_at hl 1 rfl) ?_
  refine lv_iload_n hx hb dX3_putItem_5 rfl (lv_at hl 2 rfl) ?_
  refine wx_Vi (w := (cw k)) ((f_X1_addItem k M p1 p2).1) ((f_X1_addItem k M p1 p2).2) [.int p1, .int p2] [] (cZok k) ⟨hx, hb, hml, hown, hts⟩ (c_X1_addItem l k M p1 p2 hI) (cwV 2 hts gX3_putItem_X1_addItem rfl rfl rfl (by decide +kernel) ⟨by decide, by decide⟩) (wx_recv (w := (cw k)) (g := 0) (j := 1) hK hP (cIx_0 (by decide)) rfl rfl) hP hK hD hZ hS rfl hl.1 rfl (Nat.le_of_ble_eq_true rfl) dX3_putItem_6 ⟨by decide, by decide⟩ (fun H locs hP hS => ?_)
  have e9 : f_X3_putItem k M p1 p2 = ((f_X1_addItem k M p1 p2).1, (f_X1_addItem k M p1 p2).2) := rfl
  exact wx_iret hx hb hr hlocks hP hS bz_addItem ⟨by rw [e9], by rw [e9]⟩ dX3_putItem_9
/-- by program: the loop at 29 of RobotWorld.spawn -/
def f_X3_spawn_L29 (k : CK) (p1 : Int32) (p2 : Int32) : Nat → Int32 → Mem → Int32 × Mem
  | 0, _, M => (0, M)
  | n + 1, x, M =>
    if (nI (k.2.1 0)) ≤ x then
      ((-3), M)
    else
      if (M (x.toNatClampNeg + 1) 0 4) = 0 then
        (x, (f_X2_appear k M x.toNatClampNeg p1 p2))
      else
        f_X3_spawn_L29 k p1 p2 n (x + 1) M
set_option maxHeartbeats 4000000 in
set_option maxRecDepth 100000 in
theorem lp_X3_spawn_L29 {p : Program} {l : Launch} {e : Env} {s : State} {m : MethodId} {args : Array Value} {below : List Frame} {meth : Method} {c : Code} (k : CK) (p1 : Int32) (p2 : Int32)  (hx : p.tables.exec = Jvm.exec) (hb : c.code = cX3_spawn) (hr : meth.sig.returnType = (some .int)) (hml : c.maxLocals = 4) (hts : ∀ x ∈ wsX3_spawn, x.before args s = true) (hown : s.vm.findClass RX3 = some m.cls) (hlocks : meth.locks = false) (hK : va_K (wD (cw k)) vwCl (wT (cw k)) s) {M0 : Mem} (hD : va_D (wA (cw k)) (wW (cw k) M0)) (hZ : wZ (cw k) (wA (cw k)) s s.heap)  : ∀ (n : Nat) (x : Int32) (M : Mem) (H : Heap) (locs : List Loc) (ls : Array Slot), cI k M ∧ lpI (k.2.1 0) n x → wP (cw k) M H → va_S (wA (cw k)) s.heap H locs → lv_has ls 4 [(3, .int x), (0, .ref (k.1 0 0)), (1, .int p1), (2, .int p2)] → ∀ (post : Int32 → Mem → Prop), post (f_X3_spawn_L29 k p1 p2 n x M).1 (f_X3_spawn_L29 k p1 p2 n x M).2 → W p l e (rmK 2 45) s m args below meth c H locs 0 0 (MQ below (wQi (cw k) post) args s 0 0 (wA (cw k))) (F0 m 29 ls []) := by
  have hiX2 : ∀ x ∈ u_ws RX2 TX2 12, x ∈ wsX3_spawn := by decide +kernel
  have hiX3 : ∀ x ∈ u_ws RX3 TX3 4, x ∈ wsX3_spawn := by decide +kernel
  have hf24 := hts (.fieldLink RX3 24 "RobotWorld" "robots" "[LRobotWorld$Robot;") (by decide +kernel)
  have hf52 := hts (.fieldLink RX3 52 "RobotWorld$Robot" "state" "I") (by decide +kernel)
  intro n
  induction n with
  | zero =>
    intro x M H locs ls hinv
    exact absurd hinv (fun h => lpI_z h.2)
  | succ n ih =>
    intro x M H locs ls hinv hP hS hl post hpo
    refine lv_iload_n hx hb dX3_spawn_29 rfl (lv_at hl 0 rfl) ?_
    refine lv_aload_n hx hb dX3_spawn_30 rfl (lv_at hl 1 rfl) ?_
    refine wx_get (w := (cw k)) (g := 0) (j := 0) hx hb hts hiX3 hown hK hP (cIx_0 (by decide)) rfl rfl 1 (by decide) hf24 rfl dX3_spawn_31 ?_
    refine wx_alen (w := (cw k)) (g := 0) (j := 5) hx hb hK hP (cIx_0 (by decide)) 1 rfl rfl dX3_spawn_34 ?_
    refine lv_icmp_ge (tgt := 69) hx hb dX3_spawn_35 (by decide) (fun c_35 => ?_) (fun c_35 => ?_)
    · refine lv_bipush (v := (-3)) hx hb dX3_spawn_69 (by decide) ?_
      have e9 : f_X3_spawn_L29 k p1 p2 (n + 1) x M = ((-3), M) := (by rw [f_X3_spawn_L29]; rw [if_pos c_35])
      exact wx_iret hx hb hr hlocks hP hS rfl (by rw [e9] at hpo; exact hpo) dX3_spawn_71
    · refine lv_aload_n hx hb dX3_spawn_38 rfl (lv_at hl 1 rfl) ?_
      refine wx_get (w := (cw k)) (g := 0) (j := 0) hx hb hts hiX3 hown hK hP (cIx_0 (by decide)) rfl rfl 1 (by decide) hf24 rfl dX3_spawn_39 ?_
      refine lv_iload_n hx hb dX3_spawn_42 rfl (lv_at hl 0 rfl) ?_
      refine wx_aald (w := (cw k)) (g := 0) (j := 5) hx hb hK hP (cIx_0 (by decide)) 1 rfl rfl (lpI_in hinv.2 c_35 (cI_n hinv.1)) rfl dX3_spawn_43 ?_
      refine wx_get (w := (cw k)) (g := (x.toNatClampNeg + 1)) (j := 0) hx hb hts hiX2 hown hK hP (cIx_r (vp_lt (lpI_in hinv.2 c_35 (cI_n hinv.1))) (by decide)) rfl rfl 4 (by decide) hf52 rfl dX3_spawn_44 ?_
      refine lv_if_ne (tgt := 63) hx hb dX3_spawn_47 (by decide) (fun c_47 => ?_) (fun c_47 => ?_)
      · refine lv_iinc (v := (x + 1)) (lv' := [(3, .int (x + 1)), (0, .ref (k.1 0 0)), (1, .int p1), (2, .int p2)]) hx hb dX3_spawn_63 hl (k := 0) rfl rfl (by decide) rfl (fun ls hl => ?_)
        refine lv_goto (tgt := 29) hx hb dX3_spawn_66 (by decide) ?_
        have e9 : f_X3_spawn_L29 k p1 p2 (n + 1) x M = f_X3_spawn_L29 k p1 p2 n (x + 1) M := (by rw [f_X3_spawn_L29]; rw [if_neg c_35, if_neg c_47])
        exact ih (x + 1) M _ _ ls (⟨hinv.1, lpI_s hinv.2 c_35 (cI_n hinv.1)⟩) hP hS (lv_sub hl [0, 1, 2, 3] rfl) _ (by rw [e9] at hpo; exact hpo)
      · refine lv_aload_n hx hb dX3_spawn_50 rfl (lv_at hl 1 rfl) ?_
        refine wx_get (w := (cw k)) (g := 0) (j := 0) hx hb hts hiX3 hown hK hP (cIx_0 (by decide)) rfl rfl 1 (by decide) hf24 rfl dX3_spawn_51 ?_
        refine lv_iload_n hx hb dX3_spawn_54 rfl (lv_at hl 0 rfl) ?_
        refine wx_aald (w := (cw k)) (g := 0) (j := 5) hx hb hK hP (cIx_0 (by decide)) 1 rfl rfl (lpI_in hinv.2 c_35 (cI_n hinv.1)) rfl dX3_spawn_55 ?_
        refine lv_iload_n hx hb dX3_spawn_56 rfl (lv_at hl 2 rfl) ?_
        refine lv_iload_n hx hb dX3_spawn_57 rfl (lv_at hl 3 rfl) ?_
        refine wx_Vv (w := (cw k)) (f_X2_appear k M x.toNatClampNeg p1 p2) [.int p1, .int p2] [] (cZok k) ⟨hx, hb, hml, hown, hts⟩ (c_X2_appear l k M x.toNatClampNeg p1 p2 ((vp_lt (lpI_in hinv.2 c_35 (cI_n hinv.1)))) ) (cwV 2 hts gX3_spawn_X2_appear rfl rfl rfl (by decide +kernel) ⟨by decide, by decide⟩) (wx_recv (w := (cw k)) (g := (x.toNatClampNeg + 1)) (j := 0) hK hP (cIx_r (vp_lt (lpI_in hinv.2 c_35 (cI_n hinv.1))) (by decide)) rfl rfl) hP hK hD hZ hS rfl hl.1 rfl (Nat.le_of_ble_eq_true rfl) dX3_spawn_58 ⟨by decide, by decide⟩ (fun H locs hP hS => ?_)
        refine lv_iload_n hx hb dX3_spawn_61 rfl (lv_at hl 0 rfl) ?_
        have e9 : f_X3_spawn_L29 k p1 p2 (n + 1) x M = (x, (f_X2_appear k M x.toNatClampNeg p1 p2)) := (by rw [f_X3_spawn_L29]; rw [if_neg c_35, if_pos c_47])
        exact wx_iret hx hb hr hlocks hP hS rfl (by rw [e9] at hpo; exact hpo) dX3_spawn_62
/-- by program, from the bytecode of RobotWorld.spawn -/
def f_X3_spawn (k : CK) (M : Mem) (p1 : Int32) (p2 : Int32) : Int32 × Mem :=
  if (f_X1_isOpen k M p1 p2) = 0 then
    ((-2), M)
  else
    match (f_X3_robotOn k M p1 p2) with
    | none =>
      f_X3_spawn_L29 k p1 p2 (k.2.1 0 + 1) 0 M
    | some i_18 =>
      ((-4), M)
set_option maxHeartbeats 4000000 in
set_option maxRecDepth 100000 in
theorem c_X3_spawn (l : Launch) (k : CK) (M : Mem) (p1 : Int32) (p2 : Int32) (hI : cI k M) : Met l yX3_spawn wsX3_spawn (rmK 2 45) (wPc (cw k) M [.ref (k.1 0 0), .int p1, .int p2]) (wQi (cw k) (fun r u => r = (f_X3_spawn k M p1 p2).1 ∧ u = (f_X3_spawn k M p1 p2).2)) 0 0 (wA (cw k)) := by
  refine wx_met (cc := cX3_spawn) (maxL := 4) (ret := (some .int)) (by decide) rfl (Nat.le_of_ble_eq_true rfl) ?_
  intro p e s m below meth c ls hx hb hr hml hts hown hlocks hP hK hD hZ hS hl
  have hown : s.vm.findClass RX3 = some m.cls := hown
  have hl : lv_has ls 4 [(0, .ref (k.1 0 0)), (1, .int p1), (2, .int p2)] := hl
  have hiX3 : ∀ x ∈ u_ws RX3 TX3 4, x ∈ wsX3_spawn := by decide +kernel
  have hf18 := hts (.fieldLink RX3 18 "RobotWorld" "land" "LRobotWorld$Land;") (by decide +kernel)
  refine lv_aload_n hx hb dX3_spawn_0 rfl (lv_at hl 0 rfl) ?_
  refine wx_get (w := (cw k)) (g := 0) (j := 0) hx hb hts hiX3 hown hK hP (cIx_0 (by decide)) rfl rfl 0 (by decide) hf18 rfl dX3_spawn_1 ?_
  refine lv_iload_n hx hb dX3_spawn_4 rfl (lv_at hl 1 rfl) ?_
  refine lv_iload_n hx hb dX3_spawn_5 rfl (lv_at hl 2 rfl) ?_
  refine wx_Vi (w := (cw k)) (f_X1_isOpen k M p1 p2) M [.int p1, .int p2] [] (cZok k) ⟨hx, hb, hml, hown, hts⟩ (c_X1_isOpen l k M p1 p2 hI) (cwV 2 hts gX3_spawn_X1_isOpen rfl rfl rfl (by decide +kernel) ⟨by decide, by decide⟩) (wx_recv (w := (cw k)) (g := 0) (j := 1) hK hP (cIx_0 (by decide)) rfl rfl) hP hK hD hZ hS rfl hl.1 rfl (Nat.le_of_ble_eq_true rfl) dX3_spawn_6 ⟨by decide, by decide⟩ (fun H locs hP hS => ?_)
  refine lv_if_ne (tgt := 15) hx hb dX3_spawn_9 (by decide) (fun c_9 => ?_) (fun c_9 => ?_)
  · refine lv_aload_n hx hb dX3_spawn_15 rfl (lv_at hl 0 rfl) ?_
    refine lv_iload_n hx hb dX3_spawn_16 rfl (lv_at hl 1 rfl) ?_
    refine lv_iload_n hx hb dX3_spawn_17 rfl (lv_at hl 2 rfl) ?_
    refine wx_Vq (w := (cw k)) (f_X3_robotOn k M p1 p2) [.int p1, .int p2] [] (cZok k) ⟨hx, hb, hml, hown, hts⟩ (c_X3_robotOn l k M p1 p2 hI) (cwV 2 hts gX3_spawn_X3_robotOn rfl rfl rfl (by decide +kernel) ⟨by decide, by decide⟩) (wx_recv (w := (cw k)) (g := 0) (j := 0) hK hP (cIx_0 (by decide)) rfl rfl) hP hK hD hZ hS rfl hl.1 rfl (Nat.le_of_ble_eq_true rfl) dX3_spawn_18 ⟨by decide, by decide⟩ (fun H locs q_18 hP hS => ?_) (fun i_18 H locs q_18 hP hS => ?_)
    · refine lv_ifnullN (tgt := 27) hx hb dX3_spawn_21 (by decide) ?_
      refine lv_iconst (v := 0) hx hb dX3_spawn_27 (by decide) ?_
      refine lv_istore_n (lv' := [(3, .int 0), (0, .ref (k.1 0 0)), (1, .int p1), (2, .int p2)]) hx hb dX3_spawn_28 rfl hl (by decide) rfl (fun ls hl => ?_)
      have e9 : f_X3_spawn k M p1 p2 = f_X3_spawn_L29 k p1 p2 (k.2.1 0 + 1) 0 M := (by unfold f_X3_spawn; rw [if_neg c_9]; simp only [q_18])
      exact lp_X3_spawn_L29 k p1 p2 hx hb hr hml hts hown hlocks hK hD hZ (k.2.1 0 + 1) 0 M _ _ ls (⟨hI, lpI_i _⟩) hP hS (lv_sub hl [0, 1, 2, 3] rfl) _ ⟨by rw [e9], by rw [e9]⟩
    · refine lv_ifnull hx hb dX3_spawn_21 ?_
      refine lv_bipush (v := (-4)) hx hb dX3_spawn_24 (by decide) ?_
      have e9 : f_X3_spawn k M p1 p2 = ((-4), M) := (by unfold f_X3_spawn; rw [if_neg c_9]; simp only [q_18])
      exact wx_iret hx hb hr hlocks hP hS rfl ⟨by rw [e9], by rw [e9]⟩ dX3_spawn_26
  · refine lv_bipush (v := (-2)) hx hb dX3_spawn_12 (by decide) ?_
    have e9 : f_X3_spawn k M p1 p2 = ((-2), M) := (by unfold f_X3_spawn; rw [if_pos c_9])
    exact wx_iret hx hb hr hlocks hP hS rfl ⟨by rw [e9], by rw [e9]⟩ dX3_spawn_14
/-- by program, from the bytecode of RobotWorld.load -/
def f_X3_load (k : CK) (M : Mem) (p1 : Int32) (p2 : Int32) : Int32 × Mem :=
  match (f_X3_robotOf k M p1) with
  | none =>
    (0, M)
  | some i_2 =>
    if (M (i_2 + 1) 0 4) = 1 then
      if (f_X2_addWord k M i_2 p2).1 = 0 then
        (0, (f_X2_addWord k M i_2 p2).2)
      else
        (1, (f_X2_addWord k M i_2 p2).2)
    else
      (0, M)
set_option maxHeartbeats 4000000 in
set_option maxRecDepth 100000 in
theorem c_X3_load (l : Launch) (k : CK) (M : Mem) (p1 : Int32) (p2 : Int32) (hI : cI k M) : Met l yX3_load wsX3_load (rmK 2 42) (wPc (cw k) M [.ref (k.1 0 0), .int p1, .int p2]) (wQi (cw k) (fun r u => r = (f_X3_load k M p1 p2).1 ∧ u = (f_X3_load k M p1 p2).2)) 0 0 (wA (cw k)) := by
  refine wx_met (cc := cX3_load) (maxL := 4) (ret := (some .boolean)) (by decide) rfl (Nat.le_of_ble_eq_true rfl) ?_
  intro p e s m below meth c ls hx hb hr hml hts hown hlocks hP hK hD hZ hS hl
  have hown : s.vm.findClass RX3 = some m.cls := hown
  have hl : lv_has ls 4 [(0, .ref (k.1 0 0)), (1, .int p1), (2, .int p2)] := hl
  have hiX2 : ∀ x ∈ u_ws RX2 TX2 12, x ∈ wsX3_load := by decide +kernel
  have hf52 := hts (.fieldLink RX3 52 "RobotWorld$Robot" "state" "I") (by decide +kernel)
  refine lv_aload_n hx hb dX3_load_0 rfl (lv_at hl 0 rfl) ?_
  refine lv_iload_n hx hb dX3_load_1 rfl (lv_at hl 1 rfl) ?_
  refine wx_Vq (w := (cw k)) (f_X3_robotOf k M p1) [.int p1] [] (cZok k) ⟨hx, hb, hml, hown, hts⟩ (c_X3_robotOf l k M p1 hI) (cwV 1 hts gX3_load_X3_robotOf rfl rfl rfl (by decide +kernel) ⟨by decide, by decide⟩) (wx_recv (w := (cw k)) (g := 0) (j := 0) hK hP (cIx_0 (by decide)) rfl rfl) hP hK hD hZ hS rfl hl.1 rfl (Nat.le_of_ble_eq_true rfl) dX3_load_2 ⟨by decide, by decide⟩ (fun H locs q_2 hP hS => ?_) (fun i_2 H locs q_2 hP hS => ?_)
  · refine lv_astore_nN (lv' := [(3, .null), (0, .ref (k.1 0 0)), (1, .int p1), (2, .int p2)]) hx hb dX3_load_5 rfl hl (by decide) rfl (fun ls hl => ?_)
    refine lv_aload_nN hx hb dX3_load_6 rfl (lv_at hl 0 rfl) ?_
    refine lv_ifnullN (tgt := 30) hx hb dX3_load_7 (by decide) ?_
    refine lv_iconst (v := 0) hx hb dX3_load_30 (by decide) ?_
    have e9 : f_X3_load k M p1 p2 = (0, M) := (by unfold f_X3_load; simp only [q_2])
    exact wx_iret hx hb hr hlocks hP hS (by decide) ⟨by rw [e9], by rw [e9]⟩ dX3_load_31
  · refine lv_astore_n (lv' := [(3, .ref (k.1 (i_2 + 1) 0)), (0, .ref (k.1 0 0)), (1, .int p1), (2, .int p2)]) hx hb dX3_load_5 rfl hl (by decide) rfl (fun ls hl => ?_)
    refine lv_aload_n hx hb dX3_load_6 rfl (lv_at hl 0 rfl) ?_
    refine lv_ifnull hx hb dX3_load_7 ?_
    refine lv_aload_n hx hb dX3_load_10 rfl (lv_at hl 0 rfl) ?_
    refine wx_get (w := (cw k)) (g := (i_2 + 1)) (j := 0) hx hb hts hiX2 hown hK hP (cIx_r (robotOf_lt hI q_2) (by decide)) rfl rfl 4 (by decide) hf52 rfl dX3_load_11 ?_
    refine lv_iconst (v := 1) hx hb dX3_load_14 (by decide) ?_
    refine lv_icmp_ne (tgt := 30) hx hb dX3_load_15 (by decide) (fun c_15 => ?_) (fun c_15 => ?_)
    · refine lv_iconst (v := 0) hx hb dX3_load_30 (by decide) ?_
      have e9 : f_X3_load k M p1 p2 = (0, M) := (by unfold f_X3_load; simp only [q_2]; rw [if_neg c_15])
      exact wx_iret hx hb hr hlocks hP hS (by decide) ⟨by rw [e9], by rw [e9]⟩ dX3_load_31
    · refine lv_aload_n hx hb dX3_load_18 rfl (lv_at hl 0 rfl) ?_
      refine lv_iload_n hx hb dX3_load_19 rfl (lv_at hl 3 rfl) ?_
      refine wx_Vi (w := (cw k)) ((f_X2_addWord k M i_2 p2).1) ((f_X2_addWord k M i_2 p2).2) [.int p2] [] (cZok k) ⟨hx, hb, hml, hown, hts⟩ (c_X2_addWord l k M i_2 p2 ((robotOf_lt hI q_2)) hI) (cwV 1 hts gX3_load_X2_addWord rfl rfl rfl (by decide +kernel) ⟨by decide, by decide⟩) (wx_recv (w := (cw k)) (g := (i_2 + 1)) (j := 0) hK hP (cIx_r (robotOf_lt hI q_2) (by decide)) rfl rfl) hP hK hD hZ hS rfl hl.1 rfl (Nat.le_of_ble_eq_true rfl) dX3_load_20 ⟨by decide, by decide⟩ (fun H locs hP hS => ?_)
      refine lv_if_eq (tgt := 30) hx hb dX3_load_23 (by decide) (fun c_23 => ?_) (fun c_23 => ?_)
      · refine lv_iconst (v := 0) hx hb dX3_load_30 (by decide) ?_
        have e9 : f_X3_load k M p1 p2 = (0, (f_X2_addWord k M i_2 p2).2) := (by unfold f_X3_load; simp only [q_2]; rw [if_pos c_15, if_pos c_23])
        exact wx_iret hx hb hr hlocks hP hS (by decide) ⟨by rw [e9], by rw [e9]⟩ dX3_load_31
      · refine lv_iconst (v := 1) hx hb dX3_load_26 (by decide) ?_
        refine lv_goto (tgt := 31) hx hb dX3_load_27 (by decide) ?_
        have e9 : f_X3_load k M p1 p2 = (1, (f_X2_addWord k M i_2 p2).2) := (by unfold f_X3_load; simp only [q_2]; rw [if_pos c_15, if_neg c_23])
        exact wx_iret hx hb hr hlocks hP hS (by decide) ⟨by rw [e9], by rw [e9]⟩ dX3_load_31
/-- by program, from the bytecode of RobotWorld.startRobot -/
def f_X3_startRobot (k : CK) (M : Mem) (p1 : Int32) : Int32 × Mem :=
  match (f_X3_robotOf k M p1) with
  | none =>
    ((-2), M)
  | some i_2 =>
    if (M (i_2 + 1) 0 4) = 1 then
      (1, (mu M (i_2 + 1) 0 4 2))
    else
      ((-2), M)
set_option maxHeartbeats 4000000 in
set_option maxRecDepth 100000 in
theorem c_X3_startRobot (l : Launch) (k : CK) (M : Mem) (p1 : Int32) (hI : cI k M) : Met l yX3_startRobot wsX3_startRobot (rmK 2 42) (wPc (cw k) M [.ref (k.1 0 0), .int p1]) (wQi (cw k) (fun r u => r = (f_X3_startRobot k M p1).1 ∧ u = (f_X3_startRobot k M p1).2)) 0 0 (wA (cw k)) := by
  refine wx_met (cc := cX3_startRobot) (maxL := 3) (ret := (some .int)) (by decide) rfl (Nat.le_of_ble_eq_true rfl) ?_
  intro p e s m below meth c ls hx hb hr hml hts hown hlocks hP hK hD hZ hS hl
  have hown : s.vm.findClass RX3 = some m.cls := hown
  have hl : lv_has ls 3 [(0, .ref (k.1 0 0)), (1, .int p1)] := hl
  have hiX2 : ∀ x ∈ u_ws RX2 TX2 12, x ∈ wsX3_startRobot := by decide +kernel
  have hf52 := hts (.fieldLink RX3 52 "RobotWorld$Robot" "state" "I") (by decide +kernel)
  refine lv_aload_n hx hb dX3_startRobot_0 rfl (lv_at hl 0 rfl) ?_
  refine lv_iload_n hx hb dX3_startRobot_1 rfl (lv_at hl 1 rfl) ?_
  refine wx_Vq (w := (cw k)) (f_X3_robotOf k M p1) [.int p1] [] (cZok k) ⟨hx, hb, hml, hown, hts⟩ (c_X3_robotOf l k M p1 hI) (cwV 1 hts gX3_startRobot_X3_robotOf rfl rfl rfl (by decide +kernel) ⟨by decide, by decide⟩) (wx_recv (w := (cw k)) (g := 0) (j := 0) hK hP (cIx_0 (by decide)) rfl rfl) hP hK hD hZ hS rfl hl.1 rfl (Nat.le_of_ble_eq_true rfl) dX3_startRobot_2 ⟨by decide, by decide⟩ (fun H locs q_2 hP hS => ?_) (fun i_2 H locs q_2 hP hS => ?_)
  · refine lv_astore_nN (lv' := [(2, .null), (0, .ref (k.1 0 0)), (1, .int p1)]) hx hb dX3_startRobot_5 rfl hl (by decide) rfl (fun ls hl => ?_)
    refine lv_aload_nN hx hb dX3_startRobot_6 rfl (lv_at hl 0 rfl) ?_
    refine lv_ifnullN (tgt := 18) hx hb dX3_startRobot_7 (by decide) ?_
    refine lv_bipush (v := (-2)) hx hb dX3_startRobot_18 (by decide) ?_
    have e9 : f_X3_startRobot k M p1 = ((-2), M) := (by unfold f_X3_startRobot; simp only [q_2])
    exact wx_iret hx hb hr hlocks hP hS rfl ⟨by rw [e9], by rw [e9]⟩ dX3_startRobot_20
  · refine lv_astore_n (lv' := [(2, .ref (k.1 (i_2 + 1) 0)), (0, .ref (k.1 0 0)), (1, .int p1)]) hx hb dX3_startRobot_5 rfl hl (by decide) rfl (fun ls hl => ?_)
    refine lv_aload_n hx hb dX3_startRobot_6 rfl (lv_at hl 0 rfl) ?_
    refine lv_ifnull hx hb dX3_startRobot_7 ?_
    refine lv_aload_n hx hb dX3_startRobot_10 rfl (lv_at hl 0 rfl) ?_
    refine wx_get (w := (cw k)) (g := (i_2 + 1)) (j := 0) hx hb hts hiX2 hown hK hP (cIx_r (robotOf_lt hI q_2) (by decide)) rfl rfl 4 (by decide) hf52 rfl dX3_startRobot_11 ?_
    refine lv_iconst (v := 1) hx hb dX3_startRobot_14 (by decide) ?_
    refine lv_icmp_eq (tgt := 21) hx hb dX3_startRobot_15 (by decide) (fun c_15 => ?_) (fun c_15 => ?_)
    · refine lv_aload_n hx hb dX3_startRobot_21 rfl (lv_at hl 0 rfl) ?_
      refine lv_iconst (v := 2) hx hb dX3_startRobot_22 (by decide) ?_
      refine wx_put (w := (cw k)) (g := (i_2 + 1)) (j := 0) hx hb hts hiX2 tyX2 tyX2_ok nmX2 hown hK hP hD hS (cIx_r (robotOf_lt hI q_2) (by decide)) rfl rfl 4 (by decide) hf52 rfl (by decide +kernel) rfl (Nat.le_of_ble_eq_true rfl) dX3_startRobot_23 (fun H locs hP hS => ?_)
      refine lv_iconst (v := 1) hx hb dX3_startRobot_26 (by decide) ?_
      have e9 : f_X3_startRobot k M p1 = (1, (mu M (i_2 + 1) 0 4 2)) := (by unfold f_X3_startRobot; simp only [q_2]; rw [if_pos c_15])
      exact wx_iret hx hb hr hlocks hP hS rfl ⟨by rw [e9], by rw [e9]⟩ dX3_startRobot_27
    · refine lv_bipush (v := (-2)) hx hb dX3_startRobot_18 (by decide) ?_
      have e9 : f_X3_startRobot k M p1 = ((-2), M) := (by unfold f_X3_startRobot; simp only [q_2]; rw [if_neg c_15])
      exact wx_iret hx hb hr hlocks hP hS rfl ⟨by rw [e9], by rw [e9]⟩ dX3_startRobot_20
/-- a counter against an int -/
def lpQ (p : Int32) (n : Nat) (x : Int32) : Prop := ∃ a : Nat, x = nI a ∧ a ≤ p.toNatClampNeg ∧ p.toNatClampNeg < a + n
theorem lpQ_z {p x : Int32} : ¬ lpQ p 0 x := fun ⟨_, _, h1, h2⟩ => by omega
theorem lpQ_i (p : Int32) : lpQ p (p.toNatClampNeg + 1) 0 := ⟨0, nI_0.symm, by omega, by omega⟩
theorem lpQ_s {p x : Int32} {n : Nat} (h : lpQ p (n + 1) x) (c : ¬ p ≤ x) : lpQ p n (x + 1) := by
  obtain ⟨a, rfl, h1, h2⟩ := h
  have hp : ¬ p < 0 := by
    intro q
    have h3 : p.toNatClampNeg = 0 := by
      have h5 := Int32.lt_iff_toInt_lt.mp q
      have h6 : (0 : Int32).toInt = 0 := by decide
      have h7 : p.toNatClampNeg = p.toInt.toNat := rfl
      omega
    have h4 : a = 0 := by omega
    subst h4
    exact c (by rw [nI_0]; exact Int32.le_of_lt q)
  obtain ⟨j, hj, rfl⟩ := nI_of hp
  rw [nI_clamp hj] at h1 h2
  have h5 : a < j := by
    rcases Nat.lt_or_ge a j with q | q
    · exact q
    · exact absurd (nI_le q (by omega)) c
  exact ⟨a + 1, nI_1 a, by rw [nI_clamp hj]; omega, by rw [nI_clamp hj]; omega⟩
/-- by program: the loop at 21 of RobotWorld.kill -/
def f_X3_kill_L21 (k : CK) (i : Nat) (p3 : Int32) : Nat → Int32 → Mem → Mem
  | 0, _, M => M
  | n + 1, x, M =>
    if p3 ≤ x then
      M
    else
      f_X3_kill_L21 k i p3 n (x + 1) (f_X1_addItem k M (M (i + 1) 0 5) (M (i + 1) 0 6)).2
set_option maxHeartbeats 4000000 in
set_option maxRecDepth 100000 in
theorem lp_X3_kill_L21 {p : Program} {l : Launch} {e : Env} {s : State} {m : MethodId} {args : Array Value} {below : List Frame} {meth : Method} {c : Code} {Q : State → Prop} (k : CK) (i : Nat) (p3 : Int32) (hi : i < k.2.1 0) (hx : p.tables.exec = Jvm.exec) (hb : c.code = cX3_kill) (hr : meth.sig.returnType = (some .int)) (hml : c.maxLocals = 5) (hts : ∀ x ∈ wsX3_kill, x.before args s = true) (hown : s.vm.findClass RX3 = some m.cls) (hlocks : meth.locks = false) (hK : va_K (wD (cw k)) vwCl (wT (cw k)) s) {M0 : Mem} (hD : va_D (wA (cw k)) (wW (cw k) M0)) (hZ : wZ (cw k) (wA (cw k)) s s.heap)  : ∀ (n : Nat) (x : Int32) (M : Mem) (H : Heap) (locs : List Loc) (ls : Array Slot), cI k M ∧ lpQ p3 n x → wP (cw k) M H → va_S (wA (cw k)) s.heap H locs → lv_has ls 5 [(4, .int x), (3, .int p3), (2, .ref (k.1 (i + 1) 0)), (0, .ref (k.1 0 0))] → (∀ (H : Heap) (locs : List Loc) (ls : Array Slot), wP (cw k) (f_X3_kill_L21 k i p3 n x M) H → va_S (wA (cw k)) s.heap H locs → lv_has ls 5 [(0, .ref (k.1 0 0)), (2, .ref (k.1 (i + 1) 0)), (3, .int p3)] → W p l e (rmK 2 45) s m args below meth c H locs 0 0 Q (F0 m 49 ls [])) → W p l e (rmK 2 45) s m args below meth c H locs 0 0 Q (F0 m 21 ls []) := by
  have hiX2 : ∀ x ∈ u_ws RX2 TX2 12, x ∈ wsX3_kill := by decide +kernel
  have hiX3 : ∀ x ∈ u_ws RX3 TX3 4, x ∈ wsX3_kill := by decide +kernel
  have hf101 := hts (.fieldLink RX3 101 "RobotWorld$Robot" "y" "I") (by decide +kernel)
  have hf18 := hts (.fieldLink RX3 18 "RobotWorld" "land" "LRobotWorld$Land;") (by decide +kernel)
  have hf98 := hts (.fieldLink RX3 98 "RobotWorld$Robot" "x" "I") (by decide +kernel)
  intro n
  induction n with
  | zero =>
    intro x M H locs ls hinv
    exact absurd hinv (fun h => lpQ_z h.2)
  | succ n ih =>
    intro x M H locs ls hinv hP hS hl kk
    refine lv_iload hx hb dX3_kill_21 (lv_at hl 0 rfl) ?_
    refine lv_iload_n hx hb dX3_kill_23 rfl (lv_at hl 1 rfl) ?_
    refine lv_icmp_ge (tgt := 49) hx hb dX3_kill_24 (by decide) (fun c_24 => ?_) (fun c_24 => ?_)
    · have e9 : f_X3_kill_L21 k i p3 (n + 1) x M = M := (by rw [f_X3_kill_L21]; rw [if_pos c_24])
      rw [e9] at kk
      exact kk _ _ ls hP hS (lv_sub hl [3, 2, 1] rfl)
    · refine lv_aload_n hx hb dX3_kill_27 rfl (lv_at hl 3 rfl) ?_
      refine wx_get (w := (cw k)) (g := 0) (j := 0) hx hb hts hiX3 hown hK hP (cIx_0 (by decide)) rfl rfl 0 (by decide) hf18 rfl dX3_kill_28 ?_
      refine lv_aload_n hx hb dX3_kill_31 rfl (lv_at hl 2 rfl) ?_
      refine wx_get (w := (cw k)) (g := (i + 1)) (j := 0) hx hb hts hiX2 hown hK hP (cIx_r hi (by decide)) rfl rfl 5 (by decide) hf98 rfl dX3_kill_32 ?_
      refine lv_aload_n hx hb dX3_kill_35 rfl (lv_at hl 2 rfl) ?_
      refine wx_get (w := (cw k)) (g := (i + 1)) (j := 0) hx hb hts hiX2 hown hK hP (cIx_r hi (by decide)) rfl rfl 6 (by decide) hf101 rfl dX3_kill_36 ?_
      refine wx_Vi (w := (cw k)) ((f_X1_addItem k M (M (i + 1) 0 5) (M (i + 1) 0 6)).1) ((f_X1_addItem k M (M (i + 1) 0 5) (M (i + 1) 0 6)).2) [.int (M (i + 1) 0 5), .int (M (i + 1) 0 6)] [] (cZok k) ⟨hx, hb, hml, hown, hts⟩ (c_X1_addItem l k M (M (i + 1) 0 5) (M (i + 1) 0 6) hinv.1) (cwV 2 hts gX3_kill_X1_addItem rfl rfl rfl (by decide +kernel) ⟨by decide, by decide⟩) (wx_recv (w := (cw k)) (g := 0) (j := 1) hK hP (cIx_0 (by decide)) rfl rfl) hP hK hD hZ hS rfl hl.1 rfl (Nat.le_of_ble_eq_true rfl) dX3_kill_39 ⟨by decide, by decide⟩ (fun H locs hP hS => ?_)
      refine lv_pop hx hb dX3_kill_42 rfl ?_
      refine lv_iinc (v := (x + 1)) (lv' := [(4, .int (x + 1)), (3, .int p3), (2, .ref (k.1 (i + 1) 0)), (0, .ref (k.1 0 0))]) hx hb dX3_kill_43 hl (k := 0) rfl rfl (by decide) rfl (fun ls hl => ?_)
      refine lv_goto (tgt := 21) hx hb dX3_kill_46 (by decide) ?_
      have e9 : f_X3_kill_L21 k i p3 (n + 1) x M = f_X3_kill_L21 k i p3 n (x + 1) (f_X1_addItem k M (M (i + 1) 0 5) (M (i + 1) 0 6)).2 := (by rw [f_X3_kill_L21]; rw [if_neg c_24])
      exact ih (x + 1) (f_X1_addItem k M (M (i + 1) 0 5) (M (i + 1) 0 6)).2 _ _ ls (⟨cI_addItem hinv.1, lpQ_s hinv.2 c_24⟩) hP hS (lv_sub hl [0, 1, 2, 3] rfl) (by rw [e9] at kk; exact kk)
/-- by program, from the bytecode of RobotWorld.kill -/
def f_X3_kill (k : CK) (M : Mem) (p1 : Int32) : Int32 × Mem :=
  match (f_X3_robotOf k M p1) with
  | none =>
    ((-2), M)
  | some i_2 =>
    ((M (i_2 + 1) 0 10), (mu (f_X3_kill_L21 k i_2 (M (i_2 + 1) 0 10) ((M (i_2 + 1) 0 10).toNatClampNeg + 1) 0 M) (i_2 + 1) 0 4 0))
set_option maxHeartbeats 4000000 in
set_option maxRecDepth 100000 in
theorem c_X3_kill (l : Launch) (k : CK) (M : Mem) (p1 : Int32) (hI : cI k M) : Met l yX3_kill wsX3_kill (rmK 2 45) (wPc (cw k) M [.ref (k.1 0 0), .int p1]) (wQi (cw k) (fun r u => r = (f_X3_kill k M p1).1 ∧ u = (f_X3_kill k M p1).2)) 0 0 (wA (cw k)) := by
  refine wx_met (cc := cX3_kill) (maxL := 5) (ret := (some .int)) (by decide) rfl (Nat.le_of_ble_eq_true rfl) ?_
  intro p e s m below meth c ls hx hb hr hml hts hown hlocks hP hK hD hZ hS hl
  have hown : s.vm.findClass RX3 = some m.cls := hown
  have hl : lv_has ls 5 [(0, .ref (k.1 0 0)), (1, .int p1)] := hl
  have hiX2 : ∀ x ∈ u_ws RX2 TX2 12, x ∈ wsX3_kill := by decide +kernel
  have hf52 := hts (.fieldLink RX3 52 "RobotWorld$Robot" "state" "I") (by decide +kernel)
  have hf95 := hts (.fieldLink RX3 95 "RobotWorld$Robot" "carried" "I") (by decide +kernel)
  refine lv_aload_n hx hb dX3_kill_0 rfl (lv_at hl 0 rfl) ?_
  refine lv_iload_n hx hb dX3_kill_1 rfl (lv_at hl 1 rfl) ?_
  refine wx_Vq (w := (cw k)) (f_X3_robotOf k M p1) [.int p1] [] (cZok k) ⟨hx, hb, hml, hown, hts⟩ (c_X3_robotOf l k M p1 hI) (cwV 1 hts gX3_kill_X3_robotOf rfl rfl rfl (by decide +kernel) ⟨by decide, by decide⟩) (wx_recv (w := (cw k)) (g := 0) (j := 0) hK hP (cIx_0 (by decide)) rfl rfl) hP hK hD hZ hS rfl hl.1 rfl (Nat.le_of_ble_eq_true rfl) dX3_kill_2 ⟨by decide, by decide⟩ (fun H locs q_2 hP hS => ?_) (fun i_2 H locs q_2 hP hS => ?_)
  · refine lv_astore_nN (lv' := [(2, .null), (0, .ref (k.1 0 0)), (1, .int p1)]) hx hb dX3_kill_5 rfl hl (by decide) rfl (fun ls hl => ?_)
    refine lv_aload_nN hx hb dX3_kill_6 rfl (lv_at hl 0 rfl) ?_
    refine lv_ifnonnullN hx hb dX3_kill_7 ?_
    refine lv_bipush (v := (-2)) hx hb dX3_kill_10 (by decide) ?_
    have e9 : f_X3_kill k M p1 = ((-2), M) := (by unfold f_X3_kill; simp only [q_2])
    exact wx_iret hx hb hr hlocks hP hS rfl ⟨by rw [e9], by rw [e9]⟩ dX3_kill_12
  · refine lv_astore_n (lv' := [(2, .ref (k.1 (i_2 + 1) 0)), (0, .ref (k.1 0 0)), (1, .int p1)]) hx hb dX3_kill_5 rfl hl (by decide) rfl (fun ls hl => ?_)
    refine lv_aload_n hx hb dX3_kill_6 rfl (lv_at hl 0 rfl) ?_
    refine lv_ifnonnull (tgt := 13) hx hb dX3_kill_7 (by decide) ?_
    refine lv_aload_n hx hb dX3_kill_13 rfl (lv_at hl 0 rfl) ?_
    refine wx_get (w := (cw k)) (g := (i_2 + 1)) (j := 0) hx hb hts hiX2 hown hK hP (cIx_r (robotOf_lt hI q_2) (by decide)) rfl rfl 10 (by decide) hf95 rfl dX3_kill_14 ?_
    refine lv_istore_n (lv' := [(3, .int (M (i_2 + 1) 0 10)), (2, .ref (k.1 (i_2 + 1) 0)), (0, .ref (k.1 0 0)), (1, .int p1)]) hx hb dX3_kill_17 rfl hl (by decide) rfl (fun ls hl => ?_)
    refine lv_iconst (v := 0) hx hb dX3_kill_18 (by decide) ?_
    refine lv_istore (lv' := [(4, .int 0), (3, .int (M (i_2 + 1) 0 10)), (2, .ref (k.1 (i_2 + 1) 0)), (0, .ref (k.1 0 0)), (1, .int p1)]) hx hb dX3_kill_19 hl (by decide) rfl (fun ls hl => ?_)
    refine lp_X3_kill_L21 k i_2 (M (i_2 + 1) 0 10) ((robotOf_lt hI q_2)) hx hb hr hml hts hown hlocks hK hD hZ ((M (i_2 + 1) 0 10).toNatClampNeg + 1) 0 M _ _ ls (⟨hI, lpQ_i _⟩) hP hS (lv_sub hl [0, 1, 2, 3] rfl) (fun H locs ls hP hS hl => ?_)
    refine lv_aload_n hx hb dX3_kill_49 rfl (lv_at hl 1 rfl) ?_
    refine lv_iconst (v := 0) hx hb dX3_kill_50 (by decide) ?_
    refine wx_put (w := (cw k)) (g := (i_2 + 1)) (j := 0) hx hb hts hiX2 tyX2 tyX2_ok nmX2 hown hK hP hD hS (cIx_r (robotOf_lt hI q_2) (by decide)) rfl rfl 4 (by decide) hf52 rfl (by decide +kernel) rfl (Nat.le_of_ble_eq_true rfl) dX3_kill_51 (fun H locs hP hS => ?_)
    refine lv_iload_n hx hb dX3_kill_54 rfl (lv_at hl 2 rfl) ?_
    have e9 : f_X3_kill k M p1 = ((M (i_2 + 1) 0 10), (mu (f_X3_kill_L21 k i_2 (M (i_2 + 1) 0 10) ((M (i_2 + 1) 0 10).toNatClampNeg + 1) 0 M) (i_2 + 1) 0 4 0)) := (by unfold f_X3_kill; simp only [q_2])
    exact wx_iret hx hb hr hlocks hP hS rfl ⟨by rw [e9], by rw [e9]⟩ dX3_kill_55
/-- by program, from the bytecode of RobotWorld.robotX -/
def f_X3_robotX (k : CK) (M : Mem) (p1 : Int32) : Int32 :=
  match (f_X3_robotOf k M p1) with
  | none =>
    (-1)
  | some i_2 =>
    (M (i_2 + 1) 0 5)
set_option maxHeartbeats 4000000 in
set_option maxRecDepth 100000 in
theorem c_X3_robotX (l : Launch) (k : CK) (M : Mem) (p1 : Int32) (hI : cI k M) : Met l yX3_robotX wsX3_robotX (rmK 2 42) (wPc (cw k) M [.ref (k.1 0 0), .int p1]) (wQi (cw k) (fun r u => r = (f_X3_robotX k M p1) ∧ u = M)) 0 0 (wA (cw k)) := by
  refine wx_met (cc := cX3_robotX) (maxL := 3) (ret := (some .int)) (by decide) rfl (Nat.le_of_ble_eq_true rfl) ?_
  intro p e s m below meth c ls hx hb hr hml hts hown hlocks hP hK hD hZ hS hl
  have hown : s.vm.findClass RX3 = some m.cls := hown
  have hl : lv_has ls 3 [(0, .ref (k.1 0 0)), (1, .int p1)] := hl
  have hiX2 : ∀ x ∈ u_ws RX2 TX2 12, x ∈ wsX3_robotX := by decide +kernel
  have hf98 := hts (.fieldLink RX3 98 "RobotWorld$Robot" "x" "I") (by decide +kernel)
  refine lv_aload_n hx hb dX3_robotX_0 rfl (lv_at hl 0 rfl) ?_
  refine lv_iload_n hx hb dX3_robotX_1 rfl (lv_at hl 1 rfl) ?_
  refine wx_Vq (w := (cw k)) (f_X3_robotOf k M p1) [.int p1] [] (cZok k) ⟨hx, hb, hml, hown, hts⟩ (c_X3_robotOf l k M p1 hI) (cwV 1 hts gX3_robotX_X3_robotOf rfl rfl rfl (by decide +kernel) ⟨by decide, by decide⟩) (wx_recv (w := (cw k)) (g := 0) (j := 0) hK hP (cIx_0 (by decide)) rfl rfl) hP hK hD hZ hS rfl hl.1 rfl (Nat.le_of_ble_eq_true rfl) dX3_robotX_2 ⟨by decide, by decide⟩ (fun H locs q_2 hP hS => ?_) (fun i_2 H locs q_2 hP hS => ?_)
  · refine lv_astore_nN (lv' := [(2, .null), (0, .ref (k.1 0 0)), (1, .int p1)]) hx hb dX3_robotX_5 rfl hl (by decide) rfl (fun ls hl => ?_)
    refine lv_aload_nN hx hb dX3_robotX_6 rfl (lv_at hl 0 rfl) ?_
    refine lv_ifnonnullN hx hb dX3_robotX_7 ?_
    refine lv_iconst (v := (-1)) hx hb dX3_robotX_10 (by decide) ?_
    refine lv_goto (tgt := 18) hx hb dX3_robotX_11 (by decide) ?_
    have e9 : f_X3_robotX k M p1 = (-1) := (by unfold f_X3_robotX; simp only [q_2])
    exact wx_iret hx hb hr hlocks hP hS rfl ⟨e9.symm, rfl⟩ dX3_robotX_18
  · refine lv_astore_n (lv' := [(2, .ref (k.1 (i_2 + 1) 0)), (0, .ref (k.1 0 0)), (1, .int p1)]) hx hb dX3_robotX_5 rfl hl (by decide) rfl (fun ls hl => ?_)
    refine lv_aload_n hx hb dX3_robotX_6 rfl (lv_at hl 0 rfl) ?_
    refine lv_ifnonnull (tgt := 14) hx hb dX3_robotX_7 (by decide) ?_
    refine lv_aload_n hx hb dX3_robotX_14 rfl (lv_at hl 0 rfl) ?_
    refine wx_get (w := (cw k)) (g := (i_2 + 1)) (j := 0) hx hb hts hiX2 hown hK hP (cIx_r (robotOf_lt hI q_2) (by decide)) rfl rfl 5 (by decide) hf98 rfl dX3_robotX_15 ?_
    have e9 : f_X3_robotX k M p1 = (M (i_2 + 1) 0 5) := (by unfold f_X3_robotX; simp only [q_2])
    exact wx_iret hx hb hr hlocks hP hS rfl ⟨e9.symm, rfl⟩ dX3_robotX_18
/-- by program, from the bytecode of RobotWorld.robotY -/
def f_X3_robotY (k : CK) (M : Mem) (p1 : Int32) : Int32 :=
  match (f_X3_robotOf k M p1) with
  | none =>
    (-1)
  | some i_2 =>
    (M (i_2 + 1) 0 6)
set_option maxHeartbeats 4000000 in
set_option maxRecDepth 100000 in
theorem c_X3_robotY (l : Launch) (k : CK) (M : Mem) (p1 : Int32) (hI : cI k M) : Met l yX3_robotY wsX3_robotY (rmK 2 42) (wPc (cw k) M [.ref (k.1 0 0), .int p1]) (wQi (cw k) (fun r u => r = (f_X3_robotY k M p1) ∧ u = M)) 0 0 (wA (cw k)) := by
  refine wx_met (cc := cX3_robotY) (maxL := 3) (ret := (some .int)) (by decide) rfl (Nat.le_of_ble_eq_true rfl) ?_
  intro p e s m below meth c ls hx hb hr hml hts hown hlocks hP hK hD hZ hS hl
  have hown : s.vm.findClass RX3 = some m.cls := hown
  have hl : lv_has ls 3 [(0, .ref (k.1 0 0)), (1, .int p1)] := hl
  have hiX2 : ∀ x ∈ u_ws RX2 TX2 12, x ∈ wsX3_robotY := by decide +kernel
  have hf101 := hts (.fieldLink RX3 101 "RobotWorld$Robot" "y" "I") (by decide +kernel)
  refine lv_aload_n hx hb dX3_robotY_0 rfl (lv_at hl 0 rfl) ?_
  refine lv_iload_n hx hb dX3_robotY_1 rfl (lv_at hl 1 rfl) ?_
  refine wx_Vq (w := (cw k)) (f_X3_robotOf k M p1) [.int p1] [] (cZok k) ⟨hx, hb, hml, hown, hts⟩ (c_X3_robotOf l k M p1 hI) (cwV 1 hts gX3_robotY_X3_robotOf rfl rfl rfl (by decide +kernel) ⟨by decide, by decide⟩) (wx_recv (w := (cw k)) (g := 0) (j := 0) hK hP (cIx_0 (by decide)) rfl rfl) hP hK hD hZ hS rfl hl.1 rfl (Nat.le_of_ble_eq_true rfl) dX3_robotY_2 ⟨by decide, by decide⟩ (fun H locs q_2 hP hS => ?_) (fun i_2 H locs q_2 hP hS => ?_)
  · refine lv_astore_nN (lv' := [(2, .null), (0, .ref (k.1 0 0)), (1, .int p1)]) hx hb dX3_robotY_5 rfl hl (by decide) rfl (fun ls hl => ?_)
    refine lv_aload_nN hx hb dX3_robotY_6 rfl (lv_at hl 0 rfl) ?_
    refine lv_ifnonnullN hx hb dX3_robotY_7 ?_
    refine lv_iconst (v := (-1)) hx hb dX3_robotY_10 (by decide) ?_
    refine lv_goto (tgt := 18) hx hb dX3_robotY_11 (by decide) ?_
    have e9 : f_X3_robotY k M p1 = (-1) := (by unfold f_X3_robotY; simp only [q_2])
    exact wx_iret hx hb hr hlocks hP hS rfl ⟨e9.symm, rfl⟩ dX3_robotY_18
  · refine lv_astore_n (lv' := [(2, .ref (k.1 (i_2 + 1) 0)), (0, .ref (k.1 0 0)), (1, .int p1)]) hx hb dX3_robotY_5 rfl hl (by decide) rfl (fun ls hl => ?_)
    refine lv_aload_n hx hb dX3_robotY_6 rfl (lv_at hl 0 rfl) ?_
    refine lv_ifnonnull (tgt := 14) hx hb dX3_robotY_7 (by decide) ?_
    refine lv_aload_n hx hb dX3_robotY_14 rfl (lv_at hl 0 rfl) ?_
    refine wx_get (w := (cw k)) (g := (i_2 + 1)) (j := 0) hx hb hts hiX2 hown hK hP (cIx_r (robotOf_lt hI q_2) (by decide)) rfl rfl 6 (by decide) hf101 rfl dX3_robotY_15 ?_
    have e9 : f_X3_robotY k M p1 = (M (i_2 + 1) 0 6) := (by unfold f_X3_robotY; simp only [q_2])
    exact wx_iret hx hb hr hlocks hP hS rfl ⟨e9.symm, rfl⟩ dX3_robotY_18
/-- by program, from the bytecode of RobotWorld.robotState -/
def f_X3_robotState (k : CK) (M : Mem) (p1 : Int32) : Int32 :=
  if (f_X3_isNumber k M p1) = 0 then
    (-1)
  else
    (M (p1.toNatClampNeg + 1) 0 4)
set_option maxHeartbeats 4000000 in
set_option maxRecDepth 100000 in
theorem c_X3_robotState (l : Launch) (k : CK) (M : Mem) (p1 : Int32) (hI : cI k M) : Met l yX3_robotState wsX3_robotState (rmK 1 21) (wPc (cw k) M [.ref (k.1 0 0), .int p1]) (wQi (cw k) (fun r u => r = (f_X3_robotState k M p1) ∧ u = M)) 0 0 (wA (cw k)) := by
  refine wx_met (cc := cX3_robotState) (maxL := 2) (ret := (some .int)) (by decide) rfl (Nat.le_of_ble_eq_true rfl) ?_
  intro p e s m below meth c ls hx hb hr hml hts hown hlocks hP hK hD hZ hS hl
  have hown : s.vm.findClass RX3 = some m.cls := hown
  have hl : lv_has ls 2 [(0, .ref (k.1 0 0)), (1, .int p1)] := hl
  have hiX2 : ∀ x ∈ u_ws RX2 TX2 12, x ∈ wsX3_robotState := by decide +kernel
  have hiX3 : ∀ x ∈ u_ws RX3 TX3 4, x ∈ wsX3_robotState := by decide +kernel
  have hf24 := hts (.fieldLink RX3 24 "RobotWorld" "robots" "[LRobotWorld$Robot;") (by decide +kernel)
  have hf52 := hts (.fieldLink RX3 52 "RobotWorld$Robot" "state" "I") (by decide +kernel)
  refine lv_aload_n hx hb dX3_robotState_0 rfl (lv_at hl 0 rfl) ?_
  refine lv_iload_n hx hb dX3_robotState_1 rfl (lv_at hl 1 rfl) ?_
  refine wx_Vi (w := (cw k)) (f_X3_isNumber k M p1) M [.int p1] [] (cZok k) ⟨hx, hb, hml, hown, hts⟩ (c_X3_isNumber l k M p1 ) (cwV 1 hts gX3_robotState_X3_isNumber rfl rfl rfl (by decide +kernel) ⟨by decide, by decide⟩) (wx_recv (w := (cw k)) (g := 0) (j := 0) hK hP (cIx_0 (by decide)) rfl rfl) hP hK hD hZ hS rfl hl.1 rfl (Nat.le_of_ble_eq_true rfl) dX3_robotState_2 ⟨by decide, by decide⟩ (fun H locs hP hS => ?_)
  refine lv_if_eq (tgt := 20) hx hb dX3_robotState_5 (by decide) (fun c_5 => ?_) (fun c_5 => ?_)
  · refine lv_iconst (v := (-1)) hx hb dX3_robotState_20 (by decide) ?_
    have e9 : f_X3_robotState k M p1 = (-1) := (by unfold f_X3_robotState; rw [if_pos c_5])
    exact wx_iret hx hb hr hlocks hP hS rfl ⟨e9.symm, rfl⟩ dX3_robotState_21
  · refine lv_aload_n hx hb dX3_robotState_8 rfl (lv_at hl 0 rfl) ?_
    refine wx_get (w := (cw k)) (g := 0) (j := 0) hx hb hts hiX3 hown hK hP (cIx_0 (by decide)) rfl rfl 1 (by decide) hf24 rfl dX3_robotState_9 ?_
    refine lv_iload_n hx hb dX3_robotState_12 rfl (lv_at hl 1 rfl) ?_
    refine wx_aald (w := (cw k)) (g := 0) (j := 5) hx hb hK hP (cIx_0 (by decide)) 1 rfl rfl (num_in hI c_5) rfl dX3_robotState_13 ?_
    refine wx_get (w := (cw k)) (g := (p1.toNatClampNeg + 1)) (j := 0) hx hb hts hiX2 hown hK hP (cIx_r (vp_lt (num_in hI c_5)) (by decide)) rfl rfl 4 (by decide) hf52 rfl dX3_robotState_14 ?_
    refine lv_goto (tgt := 21) hx hb dX3_robotState_17 (by decide) ?_
    have e9 : f_X3_robotState k M p1 = (M (p1.toNatClampNeg + 1) 0 4) := (by unfold f_X3_robotState; rw [if_neg c_5])
    exact wx_iret hx hb hr hlocks hP hS rfl ⟨e9.symm, rfl⟩ dX3_robotState_21
/-- by program, from the bytecode of RobotWorld.reg -/
def f_X3_reg (k : CK) (M : Mem) (p1 : Int32) (p2 : Int32) : Int32 :=
  match (f_X3_robotOf k M p1) with
  | none =>
    0
  | some i_2 =>
    (f_X2_show k M i_2 p2)
set_option maxHeartbeats 4000000 in
set_option maxRecDepth 100000 in
theorem c_X3_reg (l : Launch) (k : CK) (M : Mem) (p1 : Int32) (p2 : Int32) (hI : cI k M) : Met l yX3_reg wsX3_reg (rmK 2 42) (wPc (cw k) M [.ref (k.1 0 0), .int p1, .int p2]) (wQi (cw k) (fun r u => r = (f_X3_reg k M p1 p2) ∧ u = M)) 0 0 (wA (cw k)) := by
  refine wx_met (cc := cX3_reg) (maxL := 4) (ret := (some .int)) (by decide) rfl (Nat.le_of_ble_eq_true rfl) ?_
  intro p e s m below meth c ls hx hb hr hml hts hown hlocks hP hK hD hZ hS hl
  have hown : s.vm.findClass RX3 = some m.cls := hown
  have hl : lv_has ls 4 [(0, .ref (k.1 0 0)), (1, .int p1), (2, .int p2)] := hl
  refine lv_aload_n hx hb dX3_reg_0 rfl (lv_at hl 0 rfl) ?_
  refine lv_iload_n hx hb dX3_reg_1 rfl (lv_at hl 1 rfl) ?_
  refine wx_Vq (w := (cw k)) (f_X3_robotOf k M p1) [.int p1] [] (cZok k) ⟨hx, hb, hml, hown, hts⟩ (c_X3_robotOf l k M p1 hI) (cwV 1 hts gX3_reg_X3_robotOf rfl rfl rfl (by decide +kernel) ⟨by decide, by decide⟩) (wx_recv (w := (cw k)) (g := 0) (j := 0) hK hP (cIx_0 (by decide)) rfl rfl) hP hK hD hZ hS rfl hl.1 rfl (Nat.le_of_ble_eq_true rfl) dX3_reg_2 ⟨by decide, by decide⟩ (fun H locs q_2 hP hS => ?_) (fun i_2 H locs q_2 hP hS => ?_)
  · refine lv_astore_nN (lv' := [(3, .null), (0, .ref (k.1 0 0)), (1, .int p1), (2, .int p2)]) hx hb dX3_reg_5 rfl hl (by decide) rfl (fun ls hl => ?_)
    refine lv_aload_nN hx hb dX3_reg_6 rfl (lv_at hl 0 rfl) ?_
    refine lv_ifnonnullN hx hb dX3_reg_7 ?_
    refine lv_iconst (v := 0) hx hb dX3_reg_10 (by decide) ?_
    refine lv_goto (tgt := 19) hx hb dX3_reg_11 (by decide) ?_
    have e9 : f_X3_reg k M p1 p2 = 0 := (by unfold f_X3_reg; simp only [q_2])
    exact wx_iret hx hb hr hlocks hP hS rfl ⟨e9.symm, rfl⟩ dX3_reg_19
  · refine lv_astore_n (lv' := [(3, .ref (k.1 (i_2 + 1) 0)), (0, .ref (k.1 0 0)), (1, .int p1), (2, .int p2)]) hx hb dX3_reg_5 rfl hl (by decide) rfl (fun ls hl => ?_)
    refine lv_aload_n hx hb dX3_reg_6 rfl (lv_at hl 0 rfl) ?_
    refine lv_ifnonnull (tgt := 14) hx hb dX3_reg_7 (by decide) ?_
    refine lv_aload_n hx hb dX3_reg_14 rfl (lv_at hl 0 rfl) ?_
    refine lv_iload_n hx hb dX3_reg_15 rfl (lv_at hl 3 rfl) ?_
    refine wx_Vi (w := (cw k)) (f_X2_show k M i_2 p2) M [.int p2] [] (cZok k) ⟨hx, hb, hml, hown, hts⟩ (c_X2_show l k M i_2 p2 ((robotOf_lt hI q_2)) ) (cwV 1 hts gX3_reg_X2_show rfl rfl rfl (by decide +kernel) ⟨by decide, by decide⟩) (wx_recv (w := (cw k)) (g := (i_2 + 1)) (j := 0) hK hP (cIx_r (robotOf_lt hI q_2) (by decide)) rfl rfl) hP hK hD hZ hS rfl hl.1 rfl (Nat.le_of_ble_eq_true rfl) dX3_reg_16 ⟨by decide, by decide⟩ (fun H locs hP hS => ?_)
    have e9 : f_X3_reg k M p1 p2 = (f_X2_show k M i_2 p2) := (by unfold f_X3_reg; simp only [q_2])
    exact wx_iret hx hb hr hlocks hP hS rfl ⟨e9.symm, rfl⟩ dX3_reg_19
/-- by program, from the bytecode of RobotWorld.at -/
def f_X3_at (k : CK) (M : Mem) (p1 : Int32) (p2 : Int32) : Int32 :=
  match (f_X3_robotOn k M p1 p2) with
  | none =>
    (f_X1_contentOf k M p1 p2)
  | some i_3 =>
    ((f_X1_contentOf k M p1 p2) + (256 * ((M (i_3 + 1) 0 0) + 1)))
set_option maxHeartbeats 4000000 in
set_option maxRecDepth 100000 in
theorem c_X3_at (l : Launch) (k : CK) (M : Mem) (p1 : Int32) (p2 : Int32) (hI : cI k M) : Met l yX3_at wsX3_at (rmK 2 44) (wPc (cw k) M [.ref (k.1 0 0), .int p1, .int p2]) (wQi (cw k) (fun r u => r = (f_X3_at k M p1 p2) ∧ u = M)) 0 0 (wA (cw k)) := by
  refine wx_met (cc := cX3_at) (maxL := 5) (ret := (some .int)) (by decide) rfl (Nat.le_of_ble_eq_true rfl) ?_
  intro p e s m below meth c ls hx hb hr hml hts hown hlocks hP hK hD hZ hS hl
  have hown : s.vm.findClass RX3 = some m.cls := hown
  have hl : lv_has ls 5 [(0, .ref (k.1 0 0)), (1, .int p1), (2, .int p2)] := hl
  have hiX2 : ∀ x ∈ u_ws RX2 TX2 12, x ∈ wsX3_at := by decide +kernel
  have hiX3 : ∀ x ∈ u_ws RX3 TX3 4, x ∈ wsX3_at := by decide +kernel
  have hf18 := hts (.fieldLink RX3 18 "RobotWorld" "land" "LRobotWorld$Land;") (by decide +kernel)
  have hf74 := hts (.fieldLink RX3 74 "RobotWorld$Robot" "number" "I") (by decide +kernel)
  refine lv_aload_n hx hb dX3_at_0 rfl (lv_at hl 0 rfl) ?_
  refine lv_iload_n hx hb dX3_at_1 rfl (lv_at hl 1 rfl) ?_
  refine lv_iload_n hx hb dX3_at_2 rfl (lv_at hl 2 rfl) ?_
  refine wx_Vq (w := (cw k)) (f_X3_robotOn k M p1 p2) [.int p1, .int p2] [] (cZok k) ⟨hx, hb, hml, hown, hts⟩ (c_X3_robotOn l k M p1 p2 hI) (cwV 2 hts gX3_at_X3_robotOn rfl rfl rfl (by decide +kernel) ⟨by decide, by decide⟩) (wx_recv (w := (cw k)) (g := 0) (j := 0) hK hP (cIx_0 (by decide)) rfl rfl) hP hK hD hZ hS rfl hl.1 rfl (Nat.le_of_ble_eq_true rfl) dX3_at_3 ⟨by decide, by decide⟩ (fun H locs q_3 hP hS => ?_) (fun i_3 H locs q_3 hP hS => ?_)
  · refine lv_astore_nN (lv' := [(3, .null), (0, .ref (k.1 0 0)), (1, .int p1), (2, .int p2)]) hx hb dX3_at_6 rfl hl (by decide) rfl (fun ls hl => ?_)
    refine lv_aload_n hx hb dX3_at_7 rfl (lv_at hl 1 rfl) ?_
    refine wx_get (w := (cw k)) (g := 0) (j := 0) hx hb hts hiX3 hown hK hP (cIx_0 (by decide)) rfl rfl 0 (by decide) hf18 rfl dX3_at_8 ?_
    refine lv_iload_n hx hb dX3_at_11 rfl (lv_at hl 2 rfl) ?_
    refine lv_iload_n hx hb dX3_at_12 rfl (lv_at hl 3 rfl) ?_
    refine wx_Vi (w := (cw k)) (f_X1_contentOf k M p1 p2) M [.int p1, .int p2] [] (cZok k) ⟨hx, hb, hml, hown, hts⟩ (c_X1_contentOf l k M p1 p2 hI) (cwV 2 hts gX3_at_X1_contentOf rfl rfl rfl (by decide +kernel) ⟨by decide, by decide⟩) (wx_recv (w := (cw k)) (g := 0) (j := 1) hK hP (cIx_0 (by decide)) rfl rfl) hP hK hD hZ hS rfl hl.1 rfl (Nat.le_of_ble_eq_true rfl) dX3_at_13 ⟨by decide, by decide⟩ (fun H locs hP hS => ?_)
    refine lv_istore (lv' := [(4, .int (f_X1_contentOf k M p1 p2)), (3, .null), (0, .ref (k.1 0 0)), (1, .int p1), (2, .int p2)]) hx hb dX3_at_16 hl (by decide) rfl (fun ls hl => ?_)
    refine lv_aload_nN hx hb dX3_at_18 rfl (lv_at hl 1 rfl) ?_
    refine lv_ifnonnullN hx hb dX3_at_19 ?_
    refine lv_iload hx hb dX3_at_22 (lv_at hl 0 rfl) ?_
    refine lv_goto (tgt := 40) hx hb dX3_at_24 (by decide) ?_
    have e9 : f_X3_at k M p1 p2 = (f_X1_contentOf k M p1 p2) := (by unfold f_X3_at; simp only [q_3])
    exact wx_iret hx hb hr hlocks hP hS rfl ⟨e9.symm, rfl⟩ dX3_at_40
  · refine lv_astore_n (lv' := [(3, .ref (k.1 (i_3 + 1) 0)), (0, .ref (k.1 0 0)), (1, .int p1), (2, .int p2)]) hx hb dX3_at_6 rfl hl (by decide) rfl (fun ls hl => ?_)
    refine lv_aload_n hx hb dX3_at_7 rfl (lv_at hl 1 rfl) ?_
    refine wx_get (w := (cw k)) (g := 0) (j := 0) hx hb hts hiX3 hown hK hP (cIx_0 (by decide)) rfl rfl 0 (by decide) hf18 rfl dX3_at_8 ?_
    refine lv_iload_n hx hb dX3_at_11 rfl (lv_at hl 2 rfl) ?_
    refine lv_iload_n hx hb dX3_at_12 rfl (lv_at hl 3 rfl) ?_
    refine wx_Vi (w := (cw k)) (f_X1_contentOf k M p1 p2) M [.int p1, .int p2] [] (cZok k) ⟨hx, hb, hml, hown, hts⟩ (c_X1_contentOf l k M p1 p2 hI) (cwV 2 hts gX3_at_X1_contentOf rfl rfl rfl (by decide +kernel) ⟨by decide, by decide⟩) (wx_recv (w := (cw k)) (g := 0) (j := 1) hK hP (cIx_0 (by decide)) rfl rfl) hP hK hD hZ hS rfl hl.1 rfl (Nat.le_of_ble_eq_true rfl) dX3_at_13 ⟨by decide, by decide⟩ (fun H locs hP hS => ?_)
    refine lv_istore (lv' := [(4, .int (f_X1_contentOf k M p1 p2)), (3, .ref (k.1 (i_3 + 1) 0)), (0, .ref (k.1 0 0)), (1, .int p1), (2, .int p2)]) hx hb dX3_at_16 hl (by decide) rfl (fun ls hl => ?_)
    refine lv_aload_n hx hb dX3_at_18 rfl (lv_at hl 1 rfl) ?_
    refine lv_ifnonnull (tgt := 27) hx hb dX3_at_19 (by decide) ?_
    refine lv_iload hx hb dX3_at_27 (lv_at hl 0 rfl) ?_
    refine lv_sipush (v := 256) hx hb dX3_at_29 (by decide) ?_
    refine lv_aload_n hx hb dX3_at_32 rfl (lv_at hl 1 rfl) ?_
    refine wx_get (w := (cw k)) (g := (i_3 + 1)) (j := 0) hx hb hts hiX2 hown hK hP (cIx_r (robotOn_lt hI q_3) (by decide)) rfl rfl 0 (by decide) hf74 rfl dX3_at_33 ?_
    refine lv_iconst (v := 1) hx hb dX3_at_36 (by decide) ?_
    refine lv_iadd hx hb dX3_at_37 ?_
    refine lv_imul hx hb dX3_at_38 ?_
    refine lv_iadd hx hb dX3_at_39 ?_
    have e9 : f_X3_at k M p1 p2 = ((f_X1_contentOf k M p1 p2) + (256 * ((M (i_3 + 1) 0 0) + 1))) := (by unfold f_X3_at; simp only [q_3])
    exact wx_iret hx hb hr hlocks hP hS rfl ⟨e9.symm, rfl⟩ dX3_at_40
/-- by program, from the bytecode of RobotWorld.now -/
def f_X3_now (k : CK) (M : Mem)  : Int32 :=
  (M 0 0 2)
set_option maxHeartbeats 4000000 in
set_option maxRecDepth 100000 in
theorem c_X3_now (l : Launch) (k : CK) (M : Mem)   : Met l yX3_now wsX3_now (rmK 0 0) (wPc (cw k) M [.ref (k.1 0 0)]) (wQi (cw k) (fun r u => r = (f_X3_now k M) ∧ u = M)) 0 0 (wA (cw k)) := by
  refine wx_met (cc := cX3_now) (maxL := 1) (ret := (some .int)) (by decide) rfl (Nat.le_of_ble_eq_true rfl) ?_
  intro p e s m below meth c ls hx hb hr hml hts hown hlocks hP hK hD hZ hS hl
  have hown : s.vm.findClass RX3 = some m.cls := hown
  have hl : lv_has ls 1 [(0, .ref (k.1 0 0))] := hl
  have hiX3 : ∀ x ∈ u_ws RX3 TX3 4, x ∈ wsX3_now := by decide +kernel
  have hf88 := hts (.fieldLink RX3 88 "RobotWorld" "clock" "I") (by decide +kernel)
  refine lv_aload_n hx hb dX3_now_0 rfl (lv_at hl 0 rfl) ?_
  refine wx_get (w := (cw k)) (g := 0) (j := 0) hx hb hts hiX3 hown hK hP (cIx_0 (by decide)) rfl rfl 2 (by decide) hf88 rfl dX3_now_1 ?_
  have e9 : f_X3_now k M = (M 0 0 2) := rfl
  exact wx_iret hx hb hr hlocks hP hS rfl ⟨e9.symm, rfl⟩ dX3_now_4
/-- by program, from the bytecode of RobotWorld.setClock -/
def f_X3_setClock (k : CK) (M : Mem) (p1 : Int32) : Mem :=
  (mu M 0 0 2 p1)
set_option maxHeartbeats 4000000 in
set_option maxRecDepth 100000 in
theorem c_X3_setClock (l : Launch) (k : CK) (M : Mem) (p1 : Int32)  : Met l yX3_setClock wsX3_setClock (rmK 0 0) (wPc (cw k) M [.ref (k.1 0 0), .int p1]) (wQv (cw k) (fun u => u = f_X3_setClock k M p1)) 0 0 (wA (cw k)) := by
  refine wx_met (cc := cX3_setClock) (maxL := 2) (ret := none) (by decide) rfl (Nat.le_of_ble_eq_true rfl) ?_
  intro p e s m below meth c ls hx hb hr hml hts hown hlocks hP hK hD hZ hS hl
  have hown : s.vm.findClass RX3 = some m.cls := hown
  have hl : lv_has ls 2 [(0, .ref (k.1 0 0)), (1, .int p1)] := hl
  have hiX3 : ∀ x ∈ u_ws RX3 TX3 4, x ∈ wsX3_setClock := by decide +kernel
  have hf88 := hts (.fieldLink RX3 88 "RobotWorld" "clock" "I") (by decide +kernel)
  refine lv_aload_n hx hb dX3_setClock_0 rfl (lv_at hl 0 rfl) ?_
  refine lv_iload_n hx hb dX3_setClock_1 rfl (lv_at hl 1 rfl) ?_
  refine wx_put (w := (cw k)) (g := 0) (j := 0) hx hb hts hiX3 tyX3 tyX3_ok nmX3 hown hK hP hD hS (cIx_0 (by decide)) rfl rfl 2 (by decide) hf88 rfl (by decide +kernel) rfl (Nat.le_of_ble_eq_true rfl) dX3_setClock_2 (fun H locs hP hS => ?_)
  have e9 : f_X3_setClock k M p1 = (mu M 0 0 2 p1) := rfl
  exact wx_vret hx hb hr hlocks hP hS e9.symm dX3_setClock_5
/-- by program, from the bytecode of RobotWorld.go -/
def f_X3_go (k : CK) (M : Mem) (i : Nat) (p1 : Int32) : Int32 × Mem :=
  if (f_X1_isOpen k M ((M (i + 1) 0 5) + (eB p1.toNatClampNeg)) ((M (i + 1) 0 6) + (sB p1.toNatClampNeg))) = 0 then
    (0, M)
  else
    match (f_X3_robotOn k M ((M (i + 1) 0 5) + (eB p1.toNatClampNeg)) ((M (i + 1) 0 6) + (sB p1.toNatClampNeg))) with
    | none =>
      (1, (mu (mu M (i + 1) 0 5 ((M (i + 1) 0 5) + (eB p1.toNatClampNeg))) (i + 1) 0 6 ((M (i + 1) 0 6) + (sB p1.toNatClampNeg))))
    | some i_42 =>
      (2, M)
set_option maxHeartbeats 4000000 in
set_option maxRecDepth 100000 in
theorem c_X3_go (l : Launch) (k : CK) (M : Mem) (i : Nat) (p1 : Int32) (hi : i < k.2.1 0) (hI : cI k M) (h4 : vp_in p1 4) : Met l yX3_go wsX3_go (rmK 1 24) (wPc (cw k) M [.ref (k.1 0 0), .ref (k.1 (i + 1) 0), .int p1]) (wQi (cw k) (fun r u => r = (f_X3_go k M i p1).1 ∧ u = (f_X3_go k M i p1).2)) 0 0 (wA (cw k)) := by
  refine wx_met (cc := cX3_go) (maxL := 5) (ret := (some .int)) (by decide) rfl (Nat.le_of_ble_eq_true rfl) ?_
  intro p e s m below meth c ls hx hb hr hml hts hown hlocks hP hK hD hZ hS hl
  have hown : s.vm.findClass RX3 = some m.cls := hown
  have hl : lv_has ls 5 [(0, .ref (k.1 0 0)), (1, .ref (k.1 (i + 1) 0)), (2, .int p1)] := hl
  have hiX2 : ∀ x ∈ u_ws RX2 TX2 12, x ∈ wsX3_go := by decide +kernel
  have hiX3 : ∀ x ∈ u_ws RX3 TX3 4, x ∈ wsX3_go := by decide +kernel
  have hf101 := hts (.fieldLink RX3 101 "RobotWorld$Robot" "y" "I") (by decide +kernel)
  have hf18 := hts (.fieldLink RX3 18 "RobotWorld" "land" "LRobotWorld$Land;") (by decide +kernel)
  have hf98 := hts (.fieldLink RX3 98 "RobotWorld$Robot" "x" "I") (by decide +kernel)
  obtain ⟨z1, z2, z3, z4, z5, z6, z7, z8, z9⟩ := (show cZ k (wA (cw k)) s s.heap from hZ)
  refine lv_aload_n hx hb dX3_go_0 rfl (lv_at hl 1 rfl) ?_
  refine wx_get (w := (cw k)) (g := (i + 1)) (j := 0) hx hb hts hiX2 hown hK hP (cIx_r hi (by decide)) rfl rfl 5 (by decide) hf98 rfl dX3_go_1 ?_
  refine va_gets hx hb z1 hS hown (hts (.fieldLink RX3 182 RX3 "EAST_BY" "[I") (by decide +kernel)) (fun _ h9 => h9) dX3_go_4 ?_
  refine lv_iload_n hx hb dX3_go_7 rfl (lv_at hl 2 rfl) ?_
  refine va_ti hx hb z2 hS (h4) rfl dX3_go_8 ?_
  refine lv_iadd hx hb dX3_go_9 ?_
  refine lv_istore_n (lv' := [(3, .int ((M (i + 1) 0 5) + (eB p1.toNatClampNeg))), (0, .ref (k.1 0 0)), (1, .ref (k.1 (i + 1) 0)), (2, .int p1)]) hx hb dX3_go_10 rfl hl (by decide) rfl (fun ls hl => ?_)
  refine lv_aload_n hx hb dX3_go_11 rfl (lv_at hl 2 rfl) ?_
  refine wx_get (w := (cw k)) (g := (i + 1)) (j := 0) hx hb hts hiX2 hown hK hP (cIx_r hi (by decide)) rfl rfl 6 (by decide) hf101 rfl dX3_go_12 ?_
  refine va_gets hx hb z3 hS hown (hts (.fieldLink RX3 185 RX3 "SOUTH_BY" "[I") (by decide +kernel)) (fun _ h9 => h9) dX3_go_15 ?_
  refine lv_iload_n hx hb dX3_go_18 rfl (lv_at hl 3 rfl) ?_
  refine va_ti hx hb z4 hS (h4) rfl dX3_go_19 ?_
  refine lv_iadd hx hb dX3_go_20 ?_
  refine lv_istore (lv' := [(4, .int ((M (i + 1) 0 6) + (sB p1.toNatClampNeg))), (3, .int ((M (i + 1) 0 5) + (eB p1.toNatClampNeg))), (0, .ref (k.1 0 0)), (1, .ref (k.1 (i + 1) 0)), (2, .int p1)]) hx hb dX3_go_21 hl (by decide) rfl (fun ls hl => ?_)
  refine lv_aload_n hx hb dX3_go_23 rfl (lv_at hl 2 rfl) ?_
  refine wx_get (w := (cw k)) (g := 0) (j := 0) hx hb hts hiX3 hown hK hP (cIx_0 (by decide)) rfl rfl 0 (by decide) hf18 rfl dX3_go_24 ?_
  refine lv_iload_n hx hb dX3_go_27 rfl (lv_at hl 1 rfl) ?_
  refine lv_iload hx hb dX3_go_28 (lv_at hl 0 rfl) ?_
  refine wx_Vi (w := (cw k)) (f_X1_isOpen k M ((M (i + 1) 0 5) + (eB p1.toNatClampNeg)) ((M (i + 1) 0 6) + (sB p1.toNatClampNeg))) M [.int ((M (i + 1) 0 5) + (eB p1.toNatClampNeg)), .int ((M (i + 1) 0 6) + (sB p1.toNatClampNeg))] [] (cZok k) ⟨hx, hb, hml, hown, hts⟩ (c_X1_isOpen l k M ((M (i + 1) 0 5) + (eB p1.toNatClampNeg)) ((M (i + 1) 0 6) + (sB p1.toNatClampNeg)) hI) (cwV 2 hts gX3_go_X1_isOpen rfl rfl rfl (by decide +kernel) ⟨by decide, by decide⟩) (wx_recv (w := (cw k)) (g := 0) (j := 1) hK hP (cIx_0 (by decide)) rfl rfl) hP hK hD hZ hS rfl hl.1 rfl (Nat.le_of_ble_eq_true rfl) dX3_go_30 ⟨by decide, by decide⟩ (fun H locs hP hS => ?_)
  refine lv_if_ne (tgt := 38) hx hb dX3_go_33 (by decide) (fun c_33 => ?_) (fun c_33 => ?_)
  · refine lv_aload_n hx hb dX3_go_38 rfl (lv_at hl 2 rfl) ?_
    refine lv_iload_n hx hb dX3_go_39 rfl (lv_at hl 1 rfl) ?_
    refine lv_iload hx hb dX3_go_40 (lv_at hl 0 rfl) ?_
    refine wx_Vq (w := (cw k)) (f_X3_robotOn k M ((M (i + 1) 0 5) + (eB p1.toNatClampNeg)) ((M (i + 1) 0 6) + (sB p1.toNatClampNeg))) [.int ((M (i + 1) 0 5) + (eB p1.toNatClampNeg)), .int ((M (i + 1) 0 6) + (sB p1.toNatClampNeg))] [] (cZok k) ⟨hx, hb, hml, hown, hts⟩ (c_X3_robotOn l k M ((M (i + 1) 0 5) + (eB p1.toNatClampNeg)) ((M (i + 1) 0 6) + (sB p1.toNatClampNeg)) hI) (cwV 2 hts gX3_go_X3_robotOn rfl rfl rfl (by decide +kernel) ⟨by decide, by decide⟩) (wx_recv (w := (cw k)) (g := 0) (j := 0) hK hP (cIx_0 (by decide)) rfl rfl) hP hK hD hZ hS rfl hl.1 rfl (Nat.le_of_ble_eq_true rfl) dX3_go_42 ⟨by decide, by decide⟩ (fun H locs q_42 hP hS => ?_) (fun i_42 H locs q_42 hP hS => ?_)
    · refine lv_ifnullN (tgt := 50) hx hb dX3_go_45 (by decide) ?_
      refine lv_aload_n hx hb dX3_go_50 rfl (lv_at hl 3 rfl) ?_
      refine lv_iload_n hx hb dX3_go_51 rfl (lv_at hl 1 rfl) ?_
      refine wx_put (w := (cw k)) (g := (i + 1)) (j := 0) hx hb hts hiX2 tyX2 tyX2_ok nmX2 hown hK hP hD hS (cIx_r hi (by decide)) rfl rfl 5 (by decide) hf98 rfl (by decide +kernel) rfl (Nat.le_of_ble_eq_true rfl) dX3_go_52 (fun H locs hP hS => ?_)
      refine lv_aload_n hx hb dX3_go_55 rfl (lv_at hl 3 rfl) ?_
      refine lv_iload hx hb dX3_go_56 (lv_at hl 0 rfl) ?_
      refine wx_put (w := (cw k)) (g := (i + 1)) (j := 0) hx hb hts hiX2 tyX2 tyX2_ok nmX2 hown hK hP hD hS (cIx_r hi (by decide)) rfl rfl 6 (by decide) hf101 rfl (by decide +kernel) rfl (Nat.le_of_ble_eq_true rfl) dX3_go_58 (fun H locs hP hS => ?_)
      refine lv_iconst (v := 1) hx hb dX3_go_61 (by decide) ?_
      have e9 : f_X3_go k M i p1 = (1, (mu (mu M (i + 1) 0 5 ((M (i + 1) 0 5) + (eB p1.toNatClampNeg))) (i + 1) 0 6 ((M (i + 1) 0 6) + (sB p1.toNatClampNeg)))) := (by unfold f_X3_go; rw [if_neg c_33]; simp only [q_42])
      exact wx_iret hx hb hr hlocks hP hS rfl ⟨by rw [e9], by rw [e9]⟩ dX3_go_62
    · refine lv_ifnull hx hb dX3_go_45 ?_
      refine lv_iconst (v := 2) hx hb dX3_go_48 (by decide) ?_
      have e9 : f_X3_go k M i p1 = (2, M) := (by unfold f_X3_go; rw [if_neg c_33]; simp only [q_42])
      exact wx_iret hx hb hr hlocks hP hS rfl ⟨by rw [e9], by rw [e9]⟩ dX3_go_49
  · refine lv_iconst (v := 0) hx hb dX3_go_36 (by decide) ?_
    have e9 : f_X3_go k M i p1 = (0, M) := (by unfold f_X3_go; rw [if_pos c_33])
    exact wx_iret hx hb hr hlocks hP hS rfl ⟨by rw [e9], by rw [e9]⟩ dX3_go_37
theorem cI_go {k : CK} {M : Mem} {i : Nat} {x : Int32} (hI : cI k M) : cI k (f_X3_go k M i x).2 := by
  unfold f_X3_go
  split
  · exact hI
  · split
    · exact cI_mu (cI_mu hI (by omega) (by omega) (by omega)) (by omega) (by omega) (by omega)
    · exact hI
/-- by program, from the bytecode of RobotWorld.look -/
def f_X3_look (k : CK) (M : Mem) (i : Nat) (p1 : Int32) : Int32 :=
  (f_X3_at k M ((M (i + 1) 0 5) + (eB p1.toNatClampNeg)) ((M (i + 1) 0 6) + (sB p1.toNatClampNeg)))
set_option maxHeartbeats 4000000 in
set_option maxRecDepth 100000 in
theorem c_X3_look (l : Launch) (k : CK) (M : Mem) (i : Nat) (p1 : Int32) (hi : i < k.2.1 0) (hI : cI k M) (h4 : vp_in p1 4) : Met l yX3_look wsX3_look (rmK 3 68) (wPc (cw k) M [.ref (k.1 0 0), .ref (k.1 (i + 1) 0), .int p1]) (wQi (cw k) (fun r u => r = (f_X3_look k M i p1) ∧ u = M)) 0 0 (wA (cw k)) := by
  refine wx_met (cc := cX3_look) (maxL := 3) (ret := (some .int)) (by decide) rfl (Nat.le_of_ble_eq_true rfl) ?_
  intro p e s m below meth c ls hx hb hr hml hts hown hlocks hP hK hD hZ hS hl
  have hown : s.vm.findClass RX3 = some m.cls := hown
  have hl : lv_has ls 3 [(0, .ref (k.1 0 0)), (1, .ref (k.1 (i + 1) 0)), (2, .int p1)] := hl
  have hiX2 : ∀ x ∈ u_ws RX2 TX2 12, x ∈ wsX3_look := by decide +kernel
  have hf101 := hts (.fieldLink RX3 101 "RobotWorld$Robot" "y" "I") (by decide +kernel)
  have hf98 := hts (.fieldLink RX3 98 "RobotWorld$Robot" "x" "I") (by decide +kernel)
  obtain ⟨z1, z2, z3, z4, z5, z6, z7, z8, z9⟩ := (show cZ k (wA (cw k)) s s.heap from hZ)
  refine lv_aload_n hx hb dX3_look_0 rfl (lv_at hl 0 rfl) ?_
  refine lv_aload_n hx hb dX3_look_1 rfl (lv_at hl 1 rfl) ?_
  refine wx_get (w := (cw k)) (g := (i + 1)) (j := 0) hx hb hts hiX2 hown hK hP (cIx_r hi (by decide)) rfl rfl 5 (by decide) hf98 rfl dX3_look_2 ?_
  refine va_gets hx hb z1 hS hown (hts (.fieldLink RX3 182 RX3 "EAST_BY" "[I") (by decide +kernel)) (fun _ h9 => h9) dX3_look_5 ?_
  refine lv_iload_n hx hb dX3_look_8 rfl (lv_at hl 2 rfl) ?_
  refine va_ti hx hb z2 hS (h4) rfl dX3_look_9 ?_
  refine lv_iadd hx hb dX3_look_10 ?_
  refine lv_aload_n hx hb dX3_look_11 rfl (lv_at hl 1 rfl) ?_
  refine wx_get (w := (cw k)) (g := (i + 1)) (j := 0) hx hb hts hiX2 hown hK hP (cIx_r hi (by decide)) rfl rfl 6 (by decide) hf101 rfl dX3_look_12 ?_
  refine va_gets hx hb z3 hS hown (hts (.fieldLink RX3 185 RX3 "SOUTH_BY" "[I") (by decide +kernel)) (fun _ h9 => h9) dX3_look_15 ?_
  refine lv_iload_n hx hb dX3_look_18 rfl (lv_at hl 2 rfl) ?_
  refine va_ti hx hb z4 hS (h4) rfl dX3_look_19 ?_
  refine lv_iadd hx hb dX3_look_20 ?_
  refine wx_Vi (w := (cw k)) (f_X3_at k M ((M (i + 1) 0 5) + (eB p1.toNatClampNeg)) ((M (i + 1) 0 6) + (sB p1.toNatClampNeg))) M [.int ((M (i + 1) 0 5) + (eB p1.toNatClampNeg)), .int ((M (i + 1) 0 6) + (sB p1.toNatClampNeg))] [] (cZok k) ⟨hx, hb, hml, hown, hts⟩ (c_X3_at l k M ((M (i + 1) 0 5) + (eB p1.toNatClampNeg)) ((M (i + 1) 0 6) + (sB p1.toNatClampNeg)) hI) (cwV 2 hts gX3_look_X3_at rfl rfl rfl (by decide +kernel) ⟨by decide, by decide⟩) (wx_recv (w := (cw k)) (g := 0) (j := 0) hK hP (cIx_0 (by decide)) rfl rfl) hP hK hD hZ hS rfl hl.1 rfl (Nat.le_of_ble_eq_true rfl) dX3_look_21 ⟨by decide, by decide⟩ (fun H locs hP hS => ?_)
  have e9 : f_X3_look k M i p1 = (f_X3_at k M ((M (i + 1) 0 5) + (eB p1.toNatClampNeg)) ((M (i + 1) 0 6) + (sB p1.toNatClampNeg))) := rfl
  exact wx_iret hx hb hr hlocks hP hS rfl ⟨e9.symm, rfl⟩ dX3_look_24
/-- by program, from the bytecode of RobotWorld.take -/
def f_X3_take (k : CK) (M : Mem) (i : Nat) : Int32 × Mem :=
  if 9 ≤ (M (i + 1) 0 10) then
    (0, M)
  else
    if (f_X1_removeItem k M (M (i + 1) 0 5) (M (i + 1) 0 6)).1 = 0 then
      (0, (f_X1_removeItem k M (M (i + 1) 0 5) (M (i + 1) 0 6)).2)
    else
      (1, (mu (f_X1_removeItem k M (M (i + 1) 0 5) (M (i + 1) 0 6)).2 (i + 1) 0 10 (((f_X1_removeItem k M (M (i + 1) 0 5) (M (i + 1) 0 6)).2 (i + 1) 0 10) + 1)))
set_option maxHeartbeats 4000000 in
set_option maxRecDepth 100000 in
theorem c_X3_take (l : Launch) (k : CK) (M : Mem) (i : Nat) (hi : i < k.2.1 0) (hI : cI k M) : Met l yX3_take wsX3_take (rmK 2 45) (wPc (cw k) M [.ref (k.1 0 0), .ref (k.1 (i + 1) 0)]) (wQi (cw k) (fun r u => r = (f_X3_take k M i).1 ∧ u = (f_X3_take k M i).2)) 0 0 (wA (cw k)) := by
  refine wx_met (cc := cX3_take) (maxL := 2) (ret := (some .int)) (by decide) rfl (Nat.le_of_ble_eq_true rfl) ?_
  intro p e s m below meth c ls hx hb hr hml hts hown hlocks hP hK hD hZ hS hl
  have hown : s.vm.findClass RX3 = some m.cls := hown
  have hl : lv_has ls 2 [(0, .ref (k.1 0 0)), (1, .ref (k.1 (i + 1) 0))] := hl
  have hiX2 : ∀ x ∈ u_ws RX2 TX2 12, x ∈ wsX3_take := by decide +kernel
  have hiX3 : ∀ x ∈ u_ws RX3 TX3 4, x ∈ wsX3_take := by decide +kernel
  have hf101 := hts (.fieldLink RX3 101 "RobotWorld$Robot" "y" "I") (by decide +kernel)
  have hf18 := hts (.fieldLink RX3 18 "RobotWorld" "land" "LRobotWorld$Land;") (by decide +kernel)
  have hf95 := hts (.fieldLink RX3 95 "RobotWorld$Robot" "carried" "I") (by decide +kernel)
  have hf98 := hts (.fieldLink RX3 98 "RobotWorld$Robot" "x" "I") (by decide +kernel)
  refine lv_aload_n hx hb dX3_take_0 rfl (lv_at hl 1 rfl) ?_
  refine wx_get (w := (cw k)) (g := (i + 1)) (j := 0) hx hb hts hiX2 hown hK hP (cIx_r hi (by decide)) rfl rfl 10 (by decide) hf95 rfl dX3_take_1 ?_
  refine lv_bipush (v := 9) hx hb dX3_take_4 (by decide) ?_
  refine lv_icmp_ge (tgt := 27) hx hb dX3_take_6 (by decide) (fun c_6 => ?_) (fun c_6 => ?_)
  · refine lv_iconst (v := 0) hx hb dX3_take_27 (by decide) ?_
    have e9 : f_X3_take k M i = (0, M) := (by unfold f_X3_take; rw [if_pos c_6])
    exact wx_iret hx hb hr hlocks hP hS rfl ⟨by rw [e9], by rw [e9]⟩ dX3_take_28
  · refine lv_aload_n hx hb dX3_take_9 rfl (lv_at hl 0 rfl) ?_
    refine wx_get (w := (cw k)) (g := 0) (j := 0) hx hb hts hiX3 hown hK hP (cIx_0 (by decide)) rfl rfl 0 (by decide) hf18 rfl dX3_take_10 ?_
    refine lv_aload_n hx hb dX3_take_13 rfl (lv_at hl 1 rfl) ?_
    refine wx_get (w := (cw k)) (g := (i + 1)) (j := 0) hx hb hts hiX2 hown hK hP (cIx_r hi (by decide)) rfl rfl 5 (by decide) hf98 rfl dX3_take_14 ?_
    refine lv_aload_n hx hb dX3_take_17 rfl (lv_at hl 1 rfl) ?_
    refine wx_get (w := (cw k)) (g := (i + 1)) (j := 0) hx hb hts hiX2 hown hK hP (cIx_r hi (by decide)) rfl rfl 6 (by decide) hf101 rfl dX3_take_18 ?_
    refine wx_Vi (w := (cw k)) ((f_X1_removeItem k M (M (i + 1) 0 5) (M (i + 1) 0 6)).1) ((f_X1_removeItem k M (M (i + 1) 0 5) (M (i + 1) 0 6)).2) [.int (M (i + 1) 0 5), .int (M (i + 1) 0 6)] [] (cZok k) ⟨hx, hb, hml, hown, hts⟩ (c_X1_removeItem l k M (M (i + 1) 0 5) (M (i + 1) 0 6) hI) (cwV 2 hts gX3_take_X1_removeItem rfl rfl rfl (by decide +kernel) ⟨by decide, by decide⟩) (wx_recv (w := (cw k)) (g := 0) (j := 1) hK hP (cIx_0 (by decide)) rfl rfl) hP hK hD hZ hS rfl hl.1 rfl (Nat.le_of_ble_eq_true rfl) dX3_take_21 ⟨by decide, by decide⟩ (fun H locs hP hS => ?_)
    refine lv_if_ne (tgt := 29) hx hb dX3_take_24 (by decide) (fun c_24 => ?_) (fun c_24 => ?_)
    · refine lv_aload_n hx hb dX3_take_29 rfl (lv_at hl 1 rfl) ?_
      refine lv_dup hx hb dX3_take_30 rfl ?_
      refine wx_get (w := (cw k)) (g := (i + 1)) (j := 0) hx hb hts hiX2 hown hK hP (cIx_r hi (by decide)) rfl rfl 10 (by decide) hf95 rfl dX3_take_31 ?_
      refine lv_iconst (v := 1) hx hb dX3_take_34 (by decide) ?_
      refine lv_iadd hx hb dX3_take_35 ?_
      refine wx_put (w := (cw k)) (g := (i + 1)) (j := 0) hx hb hts hiX2 tyX2 tyX2_ok nmX2 hown hK hP hD hS (cIx_r hi (by decide)) rfl rfl 10 (by decide) hf95 rfl (by decide +kernel) rfl (Nat.le_of_ble_eq_true rfl) dX3_take_36 (fun H locs hP hS => ?_)
      refine lv_iconst (v := 1) hx hb dX3_take_39 (by decide) ?_
      have e9 : f_X3_take k M i = (1, (mu (f_X1_removeItem k M (M (i + 1) 0 5) (M (i + 1) 0 6)).2 (i + 1) 0 10 (((f_X1_removeItem k M (M (i + 1) 0 5) (M (i + 1) 0 6)).2 (i + 1) 0 10) + 1))) := (by unfold f_X3_take; rw [if_neg c_6, if_neg c_24])
      exact wx_iret hx hb hr hlocks hP hS rfl ⟨by rw [e9], by rw [e9]⟩ dX3_take_40
    · refine lv_iconst (v := 0) hx hb dX3_take_27 (by decide) ?_
      have e9 : f_X3_take k M i = (0, (f_X1_removeItem k M (M (i + 1) 0 5) (M (i + 1) 0 6)).2) := (by unfold f_X3_take; rw [if_neg c_6, if_pos c_24])
      exact wx_iret hx hb hr hlocks hP hS rfl ⟨by rw [e9], by rw [e9]⟩ dX3_take_28
theorem cI_take {k : CK} {M : Mem} {i : Nat} (hI : cI k M) : cI k (f_X3_take k M i).2 := by
  unfold f_X3_take
  split
  · exact hI
  · split
    · exact cI_removeItem hI
    · exact cI_mu (cI_removeItem hI) (by omega) (by omega) (by omega)
/-- by program, from the bytecode of RobotWorld.lay -/
def f_X3_lay (k : CK) (M : Mem) (i : Nat) : Int32 × Mem :=
  if (M (i + 1) 0 10) ≤ 0 then
    (0, M)
  else
    if (f_X1_addItem k M (M (i + 1) 0 5) (M (i + 1) 0 6)).1 = 0 then
      (0, (f_X1_addItem k M (M (i + 1) 0 5) (M (i + 1) 0 6)).2)
    else
      (1, (mu (f_X1_addItem k M (M (i + 1) 0 5) (M (i + 1) 0 6)).2 (i + 1) 0 10 (((f_X1_addItem k M (M (i + 1) 0 5) (M (i + 1) 0 6)).2 (i + 1) 0 10) - 1)))
set_option maxHeartbeats 4000000 in
set_option maxRecDepth 100000 in
theorem c_X3_lay (l : Launch) (k : CK) (M : Mem) (i : Nat) (hi : i < k.2.1 0) (hI : cI k M) : Met l yX3_lay wsX3_lay (rmK 2 45) (wPc (cw k) M [.ref (k.1 0 0), .ref (k.1 (i + 1) 0)]) (wQi (cw k) (fun r u => r = (f_X3_lay k M i).1 ∧ u = (f_X3_lay k M i).2)) 0 0 (wA (cw k)) := by
  refine wx_met (cc := cX3_lay) (maxL := 2) (ret := (some .int)) (by decide) rfl (Nat.le_of_ble_eq_true rfl) ?_
  intro p e s m below meth c ls hx hb hr hml hts hown hlocks hP hK hD hZ hS hl
  have hown : s.vm.findClass RX3 = some m.cls := hown
  have hl : lv_has ls 2 [(0, .ref (k.1 0 0)), (1, .ref (k.1 (i + 1) 0))] := hl
  have hiX2 : ∀ x ∈ u_ws RX2 TX2 12, x ∈ wsX3_lay := by decide +kernel
  have hiX3 : ∀ x ∈ u_ws RX3 TX3 4, x ∈ wsX3_lay := by decide +kernel
  have hf101 := hts (.fieldLink RX3 101 "RobotWorld$Robot" "y" "I") (by decide +kernel)
  have hf18 := hts (.fieldLink RX3 18 "RobotWorld" "land" "LRobotWorld$Land;") (by decide +kernel)
  have hf95 := hts (.fieldLink RX3 95 "RobotWorld$Robot" "carried" "I") (by decide +kernel)
  have hf98 := hts (.fieldLink RX3 98 "RobotWorld$Robot" "x" "I") (by decide +kernel)
  refine lv_aload_n hx hb dX3_lay_0 rfl (lv_at hl 1 rfl) ?_
  refine wx_get (w := (cw k)) (g := (i + 1)) (j := 0) hx hb hts hiX2 hown hK hP (cIx_r hi (by decide)) rfl rfl 10 (by decide) hf95 rfl dX3_lay_1 ?_
  refine lv_if_le (tgt := 25) hx hb dX3_lay_4 (by decide) (fun c_4 => ?_) (fun c_4 => ?_)
  · refine lv_iconst (v := 0) hx hb dX3_lay_25 (by decide) ?_
    have e9 : f_X3_lay k M i = (0, M) := (by unfold f_X3_lay; rw [if_pos c_4])
    exact wx_iret hx hb hr hlocks hP hS rfl ⟨by rw [e9], by rw [e9]⟩ dX3_lay_26
  · refine lv_aload_n hx hb dX3_lay_7 rfl (lv_at hl 0 rfl) ?_
    refine wx_get (w := (cw k)) (g := 0) (j := 0) hx hb hts hiX3 hown hK hP (cIx_0 (by decide)) rfl rfl 0 (by decide) hf18 rfl dX3_lay_8 ?_
    refine lv_aload_n hx hb dX3_lay_11 rfl (lv_at hl 1 rfl) ?_
    refine wx_get (w := (cw k)) (g := (i + 1)) (j := 0) hx hb hts hiX2 hown hK hP (cIx_r hi (by decide)) rfl rfl 5 (by decide) hf98 rfl dX3_lay_12 ?_
    refine lv_aload_n hx hb dX3_lay_15 rfl (lv_at hl 1 rfl) ?_
    refine wx_get (w := (cw k)) (g := (i + 1)) (j := 0) hx hb hts hiX2 hown hK hP (cIx_r hi (by decide)) rfl rfl 6 (by decide) hf101 rfl dX3_lay_16 ?_
    refine wx_Vi (w := (cw k)) ((f_X1_addItem k M (M (i + 1) 0 5) (M (i + 1) 0 6)).1) ((f_X1_addItem k M (M (i + 1) 0 5) (M (i + 1) 0 6)).2) [.int (M (i + 1) 0 5), .int (M (i + 1) 0 6)] [] (cZok k) ⟨hx, hb, hml, hown, hts⟩ (c_X1_addItem l k M (M (i + 1) 0 5) (M (i + 1) 0 6) hI) (cwV 2 hts gX3_lay_X1_addItem rfl rfl rfl (by decide +kernel) ⟨by decide, by decide⟩) (wx_recv (w := (cw k)) (g := 0) (j := 1) hK hP (cIx_0 (by decide)) rfl rfl) hP hK hD hZ hS rfl hl.1 rfl (Nat.le_of_ble_eq_true rfl) dX3_lay_19 ⟨by decide, by decide⟩ (fun H locs hP hS => ?_)
    refine lv_if_ne (tgt := 27) hx hb dX3_lay_22 (by decide) (fun c_22 => ?_) (fun c_22 => ?_)
    · refine lv_aload_n hx hb dX3_lay_27 rfl (lv_at hl 1 rfl) ?_
      refine lv_dup hx hb dX3_lay_28 rfl ?_
      refine wx_get (w := (cw k)) (g := (i + 1)) (j := 0) hx hb hts hiX2 hown hK hP (cIx_r hi (by decide)) rfl rfl 10 (by decide) hf95 rfl dX3_lay_29 ?_
      refine lv_iconst (v := 1) hx hb dX3_lay_32 (by decide) ?_
      refine lv_isub hx hb dX3_lay_33 ?_
      refine wx_put (w := (cw k)) (g := (i + 1)) (j := 0) hx hb hts hiX2 tyX2 tyX2_ok nmX2 hown hK hP hD hS (cIx_r hi (by decide)) rfl rfl 10 (by decide) hf95 rfl (by decide +kernel) rfl (Nat.le_of_ble_eq_true rfl) dX3_lay_34 (fun H locs hP hS => ?_)
      refine lv_iconst (v := 1) hx hb dX3_lay_37 (by decide) ?_
      have e9 : f_X3_lay k M i = (1, (mu (f_X1_addItem k M (M (i + 1) 0 5) (M (i + 1) 0 6)).2 (i + 1) 0 10 (((f_X1_addItem k M (M (i + 1) 0 5) (M (i + 1) 0 6)).2 (i + 1) 0 10) - 1))) := (by unfold f_X3_lay; rw [if_neg c_4, if_neg c_22])
      exact wx_iret hx hb hr hlocks hP hS rfl ⟨by rw [e9], by rw [e9]⟩ dX3_lay_38
    · refine lv_iconst (v := 0) hx hb dX3_lay_25 (by decide) ?_
      have e9 : f_X3_lay k M i = (0, (f_X1_addItem k M (M (i + 1) 0 5) (M (i + 1) 0 6)).2) := (by unfold f_X3_lay; rw [if_neg c_4, if_pos c_22])
      exact wx_iret hx hb hr hlocks hP hS rfl ⟨by rw [e9], by rw [e9]⟩ dX3_lay_26
theorem cI_lay {k : CK} {M : Mem} {i : Nat} (hI : cI k M) : cI k (f_X3_lay k M i).2 := by
  unfold f_X3_lay
  split
  · exact hI
  · split
    · exact cI_addItem hI
    · exact cI_mu (cI_addItem hI) (by omega) (by omega) (by omega)
/-- by program, from the bytecode of RobotWorld.send -/
def f_X3_send (k : CK) (M : Mem) (p1 : Int32) (p2 : Int32) : Int32 × Mem :=
  match (f_X3_robotOf k M p1) with
  | none =>
    (0, M)
  | some i_2 =>
    if (f_X2_takesMail k M i_2) = 0 then
      (0, M)
    else
      if (f_X0_add k M i_2 p2).1 = 0 then
        (0, (f_X0_add k M i_2 p2).2)
      else
        if ((f_X0_add k M i_2 p2).2 (i_2 + 1) 0 4) = 4 then
          (1, (mu (f_X0_add k M i_2 p2).2 (i_2 + 1) 0 4 2))
        else
          (1, (f_X0_add k M i_2 p2).2)
set_option maxHeartbeats 4000000 in
set_option maxRecDepth 100000 in
theorem c_X3_send (l : Launch) (k : CK) (M : Mem) (p1 : Int32) (p2 : Int32) (hI : cI k M) : Met l yX3_send wsX3_send (rmK 2 42) (wPc (cw k) M [.ref (k.1 0 0), .int p1, .int p2]) (wQi (cw k) (fun r u => r = (f_X3_send k M p1 p2).1 ∧ u = (f_X3_send k M p1 p2).2)) 0 0 (wA (cw k)) := by
  refine wx_met (cc := cX3_send) (maxL := 4) (ret := (some .int)) (by decide) rfl (Nat.le_of_ble_eq_true rfl) ?_
  intro p e s m below meth c ls hx hb hr hml hts hown hlocks hP hK hD hZ hS hl
  have hown : s.vm.findClass RX3 = some m.cls := hown
  have hl : lv_has ls 4 [(0, .ref (k.1 0 0)), (1, .int p1), (2, .int p2)] := hl
  have hiX2 : ∀ x ∈ u_ws RX2 TX2 12, x ∈ wsX3_send := by decide +kernel
  have hf197 := hts (.fieldLink RX3 197 "RobotWorld$Robot" "box" "LRobotWorld$Box;") (by decide +kernel)
  have hf52 := hts (.fieldLink RX3 52 "RobotWorld$Robot" "state" "I") (by decide +kernel)
  refine lv_aload_n hx hb dX3_send_0 rfl (lv_at hl 0 rfl) ?_
  refine lv_iload_n hx hb dX3_send_1 rfl (lv_at hl 1 rfl) ?_
  refine wx_Vq (w := (cw k)) (f_X3_robotOf k M p1) [.int p1] [] (cZok k) ⟨hx, hb, hml, hown, hts⟩ (c_X3_robotOf l k M p1 hI) (cwV 1 hts gX3_send_X3_robotOf rfl rfl rfl (by decide +kernel) ⟨by decide, by decide⟩) (wx_recv (w := (cw k)) (g := 0) (j := 0) hK hP (cIx_0 (by decide)) rfl rfl) hP hK hD hZ hS rfl hl.1 rfl (Nat.le_of_ble_eq_true rfl) dX3_send_2 ⟨by decide, by decide⟩ (fun H locs q_2 hP hS => ?_) (fun i_2 H locs q_2 hP hS => ?_)
  · refine lv_astore_nN (lv' := [(3, .null), (0, .ref (k.1 0 0)), (1, .int p1), (2, .int p2)]) hx hb dX3_send_5 rfl hl (by decide) rfl (fun ls hl => ?_)
    refine lv_aload_nN hx hb dX3_send_6 rfl (lv_at hl 0 rfl) ?_
    refine lv_ifnullN (tgt := 28) hx hb dX3_send_7 (by decide) ?_
    refine lv_iconst (v := 0) hx hb dX3_send_28 (by decide) ?_
    have e9 : f_X3_send k M p1 p2 = (0, M) := (by unfold f_X3_send; simp only [q_2])
    exact wx_iret hx hb hr hlocks hP hS rfl ⟨by rw [e9], by rw [e9]⟩ dX3_send_29
  · refine lv_astore_n (lv' := [(3, .ref (k.1 (i_2 + 1) 0)), (0, .ref (k.1 0 0)), (1, .int p1), (2, .int p2)]) hx hb dX3_send_5 rfl hl (by decide) rfl (fun ls hl => ?_)
    refine lv_aload_n hx hb dX3_send_6 rfl (lv_at hl 0 rfl) ?_
    refine lv_ifnull hx hb dX3_send_7 ?_
    refine lv_aload_n hx hb dX3_send_10 rfl (lv_at hl 0 rfl) ?_
    refine wx_Vi (w := (cw k)) (f_X2_takesMail k M i_2) M [] [] (cZok k) ⟨hx, hb, hml, hown, hts⟩ (c_X2_takesMail l k M i_2 ((robotOf_lt hI q_2)) ) (cwV 0 hts gX3_send_X2_takesMail rfl rfl rfl (by decide +kernel) ⟨by decide, by decide⟩) (wx_recv (w := (cw k)) (g := (i_2 + 1)) (j := 0) hK hP (cIx_r (robotOf_lt hI q_2) (by decide)) rfl rfl) hP hK hD hZ hS rfl hl.1 rfl (Nat.le_of_ble_eq_true rfl) dX3_send_11 ⟨by decide, by decide⟩ (fun H locs hP hS => ?_)
    refine lv_if_eq (tgt := 28) hx hb dX3_send_14 (by decide) (fun c_14 => ?_) (fun c_14 => ?_)
    · refine lv_iconst (v := 0) hx hb dX3_send_28 (by decide) ?_
      have e9 : f_X3_send k M p1 p2 = (0, M) := (by unfold f_X3_send; simp only [q_2]; rw [if_pos c_14])
      exact wx_iret hx hb hr hlocks hP hS rfl ⟨by rw [e9], by rw [e9]⟩ dX3_send_29
    · refine lv_aload_n hx hb dX3_send_17 rfl (lv_at hl 0 rfl) ?_
      refine wx_get (w := (cw k)) (g := (i_2 + 1)) (j := 0) hx hb hts hiX2 hown hK hP (cIx_r (robotOf_lt hI q_2) (by decide)) rfl rfl 3 (by decide) hf197 rfl dX3_send_18 ?_
      refine lv_iload_n hx hb dX3_send_21 rfl (lv_at hl 3 rfl) ?_
      refine wx_Vi (w := (cw k)) ((f_X0_add k M i_2 p2).1) ((f_X0_add k M i_2 p2).2) [.int p2] [] (cZok k) ⟨hx, hb, hml, hown, hts⟩ (c_X0_add l k M i_2 p2 ((robotOf_lt hI q_2)) hI) (cwV 1 hts gX3_send_X0_add rfl rfl rfl (by decide +kernel) ⟨by decide, by decide⟩) (wx_recv (w := (cw k)) (g := (i_2 + 1)) (j := 3) hK hP (cIx_r (robotOf_lt hI q_2) (by decide)) rfl rfl) hP hK hD hZ hS rfl hl.1 rfl (Nat.le_of_ble_eq_true rfl) dX3_send_22 ⟨by decide, by decide⟩ (fun H locs hP hS => ?_)
      refine lv_if_ne (tgt := 30) hx hb dX3_send_25 (by decide) (fun c_25 => ?_) (fun c_25 => ?_)
      · refine lv_aload_n hx hb dX3_send_30 rfl (lv_at hl 0 rfl) ?_
        refine wx_get (w := (cw k)) (g := (i_2 + 1)) (j := 0) hx hb hts hiX2 hown hK hP (cIx_r (robotOf_lt hI q_2) (by decide)) rfl rfl 4 (by decide) hf52 rfl dX3_send_31 ?_
        refine lv_iconst (v := 4) hx hb dX3_send_34 (by decide) ?_
        refine lv_icmp_ne (tgt := 43) hx hb dX3_send_35 (by decide) (fun c_35 => ?_) (fun c_35 => ?_)
        · refine lv_iconst (v := 1) hx hb dX3_send_43 (by decide) ?_
          have e9 : f_X3_send k M p1 p2 = (1, (f_X0_add k M i_2 p2).2) := (by unfold f_X3_send; simp only [q_2]; rw [if_neg c_14, if_neg c_25, if_neg c_35])
          exact wx_iret hx hb hr hlocks hP hS rfl ⟨by rw [e9], by rw [e9]⟩ dX3_send_44
        · refine lv_aload_n hx hb dX3_send_38 rfl (lv_at hl 0 rfl) ?_
          refine lv_iconst (v := 2) hx hb dX3_send_39 (by decide) ?_
          refine wx_put (w := (cw k)) (g := (i_2 + 1)) (j := 0) hx hb hts hiX2 tyX2 tyX2_ok nmX2 hown hK hP hD hS (cIx_r (robotOf_lt hI q_2) (by decide)) rfl rfl 4 (by decide) hf52 rfl (by decide +kernel) rfl (Nat.le_of_ble_eq_true rfl) dX3_send_40 (fun H locs hP hS => ?_)
          refine lv_iconst (v := 1) hx hb dX3_send_43 (by decide) ?_
          have e9 : f_X3_send k M p1 p2 = (1, (mu (f_X0_add k M i_2 p2).2 (i_2 + 1) 0 4 2)) := (by unfold f_X3_send; simp only [q_2]; rw [if_neg c_14, if_neg c_25, if_pos c_35])
          exact wx_iret hx hb hr hlocks hP hS rfl ⟨by rw [e9], by rw [e9]⟩ dX3_send_44
      · refine lv_iconst (v := 0) hx hb dX3_send_28 (by decide) ?_
        have e9 : f_X3_send k M p1 p2 = (0, (f_X0_add k M i_2 p2).2) := (by unfold f_X3_send; simp only [q_2]; rw [if_neg c_14, if_pos c_25])
        exact wx_iret hx hb hr hlocks hP hS rfl ⟨by rw [e9], by rw [e9]⟩ dX3_send_29
theorem cI_send {k : CK} {M : Mem} {x y : Int32} (hI : cI k M) : cI k (f_X3_send k M x y).2 := by
  unfold f_X3_send
  split
  · exact hI
  · rename_i i h
    have hi := robotOf_lt hI h
    split
    · exact hI
    · split
      · exact cI_add hI hi
      · split
        · exact cI_mu (cI_add hI hi) (by omega) (by omega) (by omega)
        · exact cI_add hI hi
/-- by program, from the bytecode of RobotWorld.receive -/
def f_X3_receive (k : CK) (M : Mem) (i : Nat) (p1 : Int32) : Int32 × Mem :=
  if (M (i + 1) 3 1) = 0 then
    (0, (mu M (i + 1) 0 4 4))
  else
    (1, (mu (f_X0_removeFirst k M i).2 (i + 1) 2 p1.toNatClampNeg ((f_X0_removeFirst k M i).1)))
set_option maxHeartbeats 4000000 in
set_option maxRecDepth 100000 in
theorem c_X3_receive (l : Launch) (k : CK) (M : Mem) (i : Nat) (p1 : Int32) (hi : i < k.2.1 0) (hI : cI k M) (h8 : vp_in p1 8) : Met l yX3_receive wsX3_receive (rmK 2 61) (wPc (cw k) M [.ref (k.1 (i + 1) 0), .int p1]) (wQi (cw k) (fun r u => r = (f_X3_receive k M i p1).1 ∧ u = (f_X3_receive k M i p1).2)) 0 0 (wA (cw k)) := by
  refine wx_met (cc := cX3_receive) (maxL := 2) (ret := (some .boolean)) (by decide) rfl (Nat.le_of_ble_eq_true rfl) ?_
  intro p e s m below meth c ls hx hb hr hml hts hown hlocks hP hK hD hZ hS hl
  have hown : s.vm.findClass RX3 = some m.cls := hown
  have hl : lv_has ls 2 [(0, .ref (k.1 (i + 1) 0)), (1, .int p1)] := hl
  have hiX0 : ∀ x ∈ u_ws RX0 TX0 2, x ∈ wsX3_receive := by decide +kernel
  have hiX2 : ∀ x ∈ u_ws RX2 TX2 12, x ∈ wsX3_receive := by decide +kernel
  have hf136 := hts (.fieldLink RX3 136 "RobotWorld$Robot" "registers" "[I") (by decide +kernel)
  have hf197 := hts (.fieldLink RX3 197 "RobotWorld$Robot" "box" "LRobotWorld$Box;") (by decide +kernel)
  have hf206 := hts (.fieldLink RX3 206 "RobotWorld$Box" "count" "I") (by decide +kernel)
  have hf52 := hts (.fieldLink RX3 52 "RobotWorld$Robot" "state" "I") (by decide +kernel)
  refine lv_aload_n hx hb dX3_receive_0 rfl (lv_at hl 0 rfl) ?_
  refine wx_get (w := (cw k)) (g := (i + 1)) (j := 0) hx hb hts hiX2 hown hK hP (cIx_r hi (by decide)) rfl rfl 3 (by decide) hf197 rfl dX3_receive_1 ?_
  refine wx_get (w := (cw k)) (g := (i + 1)) (j := 3) hx hb hts hiX0 hown hK hP (cIx_r hi (by decide)) rfl rfl 1 (by decide) hf206 rfl dX3_receive_4 ?_
  refine lv_if_ne (tgt := 17) hx hb dX3_receive_7 (by decide) (fun c_7 => ?_) (fun c_7 => ?_)
  · refine lv_aload_n hx hb dX3_receive_17 rfl (lv_at hl 0 rfl) ?_
    refine wx_get (w := (cw k)) (g := (i + 1)) (j := 0) hx hb hts hiX2 hown hK hP (cIx_r hi (by decide)) rfl rfl 2 (by decide) hf136 rfl dX3_receive_18 ?_
    refine lv_iload_n hx hb dX3_receive_21 rfl (lv_at hl 1 rfl) ?_
    refine lv_aload_n hx hb dX3_receive_22 rfl (lv_at hl 0 rfl) ?_
    refine wx_get (w := (cw k)) (g := (i + 1)) (j := 0) hx hb hts hiX2 hown hK hP (cIx_r hi (by decide)) rfl rfl 3 (by decide) hf197 rfl dX3_receive_23 ?_
    refine wx_Vi (w := (cw k)) ((f_X0_removeFirst k M i).1) ((f_X0_removeFirst k M i).2) [] [.int p1, .ref (k.1 (i + 1) 2)] (cZok k) ⟨hx, hb, hml, hown, hts⟩ (c_X0_removeFirst l k M i (hi) hI) (cwV 0 hts gX3_receive_X0_removeFirst rfl rfl rfl (by decide +kernel) ⟨by decide, by decide⟩) (wx_recv (w := (cw k)) (g := (i + 1)) (j := 3) hK hP (cIx_r hi (by decide)) rfl rfl) hP hK hD hZ hS rfl hl.1 rfl (Nat.le_of_ble_eq_true rfl) dX3_receive_26 ⟨by decide, by decide⟩ (fun H locs hP hS => ?_)
    refine wx_iast (w := (cw k)) (g := (i + 1)) (j := 2) hx hb hK hP hD hS (cIx_r hi (by decide)) 0 (fun _ => rfl) rfl (h8) dX3_receive_29 (fun H locs hP hS => ?_)
    refine lv_iconst (v := 1) hx hb dX3_receive_30 (by decide) ?_
    have e9 : f_X3_receive k M i p1 = (1, (mu (f_X0_removeFirst k M i).2 (i + 1) 2 p1.toNatClampNeg ((f_X0_removeFirst k M i).1))) := (by unfold f_X3_receive; rw [if_neg c_7])
    exact wx_iret hx hb hr hlocks hP hS (by decide) ⟨by rw [e9], by rw [e9]⟩ dX3_receive_31
  · refine lv_aload_n hx hb dX3_receive_10 rfl (lv_at hl 0 rfl) ?_
    refine lv_iconst (v := 4) hx hb dX3_receive_11 (by decide) ?_
    refine wx_put (w := (cw k)) (g := (i + 1)) (j := 0) hx hb hts hiX2 tyX2 tyX2_ok nmX2 hown hK hP hD hS (cIx_r hi (by decide)) rfl rfl 4 (by decide) hf52 rfl (by decide +kernel) rfl (Nat.le_of_ble_eq_true rfl) dX3_receive_12 (fun H locs hP hS => ?_)
    refine lv_iconst (v := 0) hx hb dX3_receive_15 (by decide) ?_
    have e9 : f_X3_receive k M i p1 = (0, (mu M (i + 1) 0 4 4)) := (by unfold f_X3_receive; rw [if_pos c_7])
    exact wx_iret hx hb hr hlocks hP hS (by decide) ⟨by rw [e9], by rw [e9]⟩ dX3_receive_16
theorem cI_receive {k : CK} {M : Mem} {i : Nat} {x : Int32} (hI : cI k M) : cI k (f_X3_receive k M i x).2 := by
  unfold f_X3_receive
  split
  · exact cI_mu hI (by omega) (by omega) (by omega)
  · exact cI_mu (cI_removeFirst hI) (by omega) (by omega) (by omega)
end
section
theorem enc_or : ∀ v, v < 32 → ∀ u, u < 32 → (nI v <<< ((5 : Int32) &&& 31)) ||| nI u = nI (v * 32 + u) := by decide +kernel
theorem enc_x : ∀ v, v < 32 → ∀ u, u < 32 → nI (v * 32 + u) &&& 31 = nI u := by decide +kernel
theorem enc_y : ∀ v, v < 32 → ∀ u, u < 32 → nI (v * 32 + u) >>> ((5 : Int32) &&& 31) = nI v := by decide +kernel
theorem sq_0 {k : CK} {M : Mem} (hI : cI k M) : vp_in (0 : Int32) (k.2.1 1) := by
  have hw := cI_w hI
  obtain ⟨⟨a, b, -, -, h1, h2, h3, h4, h5⟩, -⟩ := hI
  rw [← nI_0]
  refine vp_in_nI ?_ hw
  rw [h5]
  exact Nat.mul_pos h1 h3
/-- an entry of the queue is a square -/
def bE (M : Mem) (e : Int32) : Prop := ∃ u v : Nat, u < 32 ∧ v < 32 ∧ e = nI (v * 32 + u) ∧ ¬ M 0 1 0 ≤ nI u ∧ ¬ M 0 1 1 ≤ nI v
def bq (k : CK) (M : Mem) (q : Int32) : Prop := ∃ c : Nat, q = nI c ∧ c ≤ k.2.1 1 ∧ ∀ j, j < c → bE M (M 0 4 j)
theorem bE_of {k : CK} {M : Mem} {x y : Int32} (hI : cI k M) (h : ¬ f_X1_isOpen k M x y = 0) : bE M ((y <<< ((5 : Int32) &&& 31)) ||| x) := by
  obtain ⟨c1, c2, c3, c4, -⟩ := opn_of h
  obtain ⟨⟨a, b, e1, e2, h1, h2, h3, h4, h5⟩, -⟩ := hI
  rw [e1] at c2
  rw [e2] at c4
  obtain ⟨u, hu, rfl⟩ := vp_in_of (vin c1 c2 (by omega)) (by omega)
  obtain ⟨v, hv, rfl⟩ := vp_in_of (vin c3 c4 (by omega)) (by omega)
  exact ⟨u, v, by omega, by omega, enc_or v (by omega) u (by omega), by rw [e1]; exact c2, by rw [e2]; exact c4⟩
theorem bq_sq {k : CK} {M : Mem} {q x : Int32} {n : Nat} (hI : cI k M) (hq : bq k M q) (hx : lpI (k.2.1 1) n x) (c : ¬ q ≤ x) : vp_in ((M 0 4 x.toNatClampNeg >>> ((5 : Int32) &&& 31)) * M 0 1 0 + (M 0 4 x.toNatClampNeg &&& 31)) (k.2.1 1) := by
  have hw := cI_w hI
  obtain ⟨m, rfl, h1, h2⟩ := hq
  obtain ⟨a, rfl, h3, -⟩ := hx
  have ha : a < m := by
    rcases Nat.lt_or_ge a m with z | z
    · exact z
    · exact absurd (nI_le z (by omega)) c
  rw [nI_clamp (by omega)]
  obtain ⟨u, v, hu, hv, he, c2, c4⟩ := h2 a ha
  rw [he, enc_x v hv u hu, enc_y v hv u hu]
  exact cI_sq hI (nI_pos (by omega)) c2 (nI_pos (by omega)) c4
theorem bq_in {k : CK} {M : Mem} {q : Int32} (hI : cI k M) (hq : bq k M q) (c : ¬ nI (k.2.1 1) ≤ q) : vp_in q (k.2.1 1) := by
  have hw := cI_w hI
  obtain ⟨m, rfl, h1, h2⟩ := hq
  exact vin (nI_pos (by omega)) c hw
theorem bE_mono {M M' : Mem} {e : Int32} (h : bE M e) (h0 : M' 0 1 0 = M 0 1 0) (h1 : M' 0 1 1 = M 0 1 1) : bE M' e := by
  obtain ⟨u, v, a, b, c, d, f⟩ := h
  exact ⟨u, v, a, b, c, by rw [h0]; exact d, by rw [h1]; exact f⟩
theorem bq_push {k : CK} {M : Mem} {q d x y f : Int32} {z n : Nat} (hI : cI k M) (hq : bq k M q) (ho : ¬ f_X1_isOpen k M x y = 0) (c : ¬ nI (k.2.1 1) ≤ q) (hd : lpI 4 n d) : cI k (mu (mu M 0 3 z f) 0 4 q.toNatClampNeg ((y <<< ((5 : Int32) &&& 31)) ||| x)) ∧ bq k (mu (mu M 0 3 z f) 0 4 q.toNatClampNeg ((y <<< ((5 : Int32) &&& 31)) ||| x)) (q + 1) ∧ lpI 4 n d := by
  have hw := cI_w hI
  have he := bE_of hI ho
  refine ⟨cI_mu (cI_mu hI (by omega) (by omega) (by omega)) (by omega) (by omega) (by omega), ?_, hd⟩
  obtain ⟨m, rfl, h1, h2⟩ := hq
  have hm : m < k.2.1 1 := by
    rcases Nat.lt_or_ge m (k.2.1 1) with t | t
    · exact t
    · exact absurd (nI_le t (by omega)) c
  rw [nI_clamp (by omega)]
  refine ⟨m + 1, nI_1 m, by omega, fun j hj => ?_⟩
  by_cases hjm : j = m
  · subst hjm
    rw [mu_at, if_pos ⟨rfl, rfl, rfl⟩]
    exact bE_mono he (by simp [mu_at]) (by simp [mu_at])
  · rw [mu_at, if_neg (by omega), mu_at, if_neg (by omega)]
    exact bE_mono (h2 j (by omega)) (by simp [mu_at]) (by simp [mu_at])
theorem bq_start {k : CK} {M : Mem} {x y : Int32} (hI : cI k M) (ho : ¬ f_X1_isOpen k M x y = 0) {f : Nat → Int32} {z : Nat} {g : Int32} : cI k (mu (mu (mr (mu M 0 1 5 g) 0 3 f) 0 3 z 0) 0 4 (0 : Int32).toNatClampNeg ((y <<< ((5 : Int32) &&& 31)) ||| x)) ∧ bq k (mu (mu (mr (mu M 0 1 5 g) 0 3 f) 0 3 z 0) 0 4 (0 : Int32).toNatClampNeg ((y <<< ((5 : Int32) &&& 31)) ||| x)) 1 ∧ lpI (k.2.1 1) (k.2.1 1 + 1) 0 := by
  have he := bE_of hI ho
  have hz := vp_lt (sq_0 hI)
  refine ⟨cI_mu (cI_mu (cI_mr (cI_mu hI (by omega) (by omega) (by omega)) (by omega) (by omega) (by omega)) (by omega) (by omega) (by omega)) (by omega) (by omega) (by omega), ⟨1, by decide, by omega, fun j hj => ?_⟩, lpI_i _⟩
  have hj0 : j = 0 := by omega
  subst hj0
  rw [mu_at, if_pos ⟨rfl, rfl, by decide⟩]
  exact bE_mono he (by simp [mu_at, mr_at]) (by simp [mu_at, mr_at])
theorem zq_0 {k : CK} {M : Mem} (_ : cI k M) : bq k M 0 := ⟨0, nI_0.symm, by omega, fun j hj => absurd hj (by omega)⟩
/-- by program: the loop at 117 of RobotWorld$Land.measureFrom -/
def f_X1_measureFrom_L117 (k : CK) (x5 : Int32) (x6 : Int32) (x7 : Int32) (x8 : Int32) : Nat → Int32 → Int32 → Mem → Int32 × Mem
  | 0, _, _, M => (0, M)
  | n + 1, q, d, M =>
    if 4 ≤ d then
      (q, M)
    else
      if (f_X1_isOpen k M (x6 + (eB d.toNatClampNeg)) (x7 + (sB d.toNatClampNeg))) = 0 then
        f_X1_measureFrom_L117 k x5 x6 x7 x8 n q (d + 1) M
      else
        if (nI (k.2.1 1)) ≤ q then
          f_X1_measureFrom_L117 k x5 x6 x7 x8 n q (d + 1) M
        else
          if (M 0 3 (((x7 + (sB d.toNatClampNeg)) * (M 0 1 0)) + (x6 + (eB d.toNatClampNeg))).toNatClampNeg) = (-1) then
            f_X1_measureFrom_L117 k x5 x6 x7 x8 n (q + 1) (d + 1) (mu (mu M 0 3 (((x7 + (sB d.toNatClampNeg)) * (M 0 1 0)) + (x6 + (eB d.toNatClampNeg))).toNatClampNeg x8) 0 4 q.toNatClampNeg (((x7 + (sB d.toNatClampNeg)) <<< (5 &&& 31)) ||| (x6 + (eB d.toNatClampNeg))))
          else
            f_X1_measureFrom_L117 k x5 x6 x7 x8 n q (d + 1) M
set_option maxHeartbeats 4000000 in
set_option maxRecDepth 100000 in
theorem lp_X1_measureFrom_L117 {p : Program} {l : Launch} {e : Env} {s : State} {m : MethodId} {args : Array Value} {below : List Frame} {meth : Method} {c : Code} {Q : State → Prop} (k : CK) (x5 : Int32) (x6 : Int32) (x7 : Int32) (x8 : Int32)  (hx : p.tables.exec = Jvm.exec) (hb : c.code = cX1_measureFrom) (hr : meth.sig.returnType = none) (hml : c.maxLocals = 12) (hts : ∀ x ∈ wsX1_measureFrom, x.before args s = true) (hown : s.vm.findClass RX1 = some m.cls) (hlocks : meth.locks = false) (hK : va_K (wD (cw k)) vwCl (wT (cw k)) s) {M0 : Mem} (hD : va_D (wA (cw k)) (wW (cw k) M0)) (hZ : wZ (cw k) (wA (cw k)) s s.heap)  : ∀ (n : Nat) (q : Int32) (d : Int32) (M : Mem) (H : Heap) (locs : List Loc) (ls : Array Slot), cI k M ∧ bq k M q ∧ lpI 4 n d → wP (cw k) M H → va_S (wA (cw k)) s.heap H locs → lv_has ls 12 [(9, .int d), (8, .int x8), (7, .int x7), (6, .int x6), (5, .int x5), (4, .int q), (0, .ref (k.1 0 1))] → (∀ (H : Heap) (locs : List Loc) (ls : Array Slot), wP (cw k) (f_X1_measureFrom_L117 k x5 x6 x7 x8 n q d M).2 H → va_S (wA (cw k)) s.heap H locs → lv_has ls 12 [(5, .int x5), (4, .int ((f_X1_measureFrom_L117 k x5 x6 x7 x8 n q d M).1)), (0, .ref (k.1 0 1))] → W p l e (rmK 1 23) s m args below meth c H locs 0 0 Q (F0 m 225 ls [])) → W p l e (rmK 1 23) s m args below meth c H locs 0 0 Q (F0 m 117 ls []) := by
  have hiX1 : ∀ x ∈ u_ws RX1 TX1 6, x ∈ wsX1_measureFrom := by decide +kernel
  have hf22 := hts (.fieldLink RX1 22 "RobotWorld$Land" "steps" "[I") (by decide +kernel)
  have hf25 := hts (.fieldLink RX1 25 "RobotWorld$Land" "queue" "[I") (by decide +kernel)
  have hf9 := hts (.fieldLink RX1 9 "RobotWorld$Land" "width" "I") (by decide +kernel)
  obtain ⟨z1, z2, z3, z4, z5, z6, z7, z8, z9⟩ := (show cZ k (wA (cw k)) s s.heap from hZ)
  intro n
  induction n with
  | zero =>
    intro q d M H locs ls hinv
    exact absurd hinv (fun h => lpI_z h.2.2)
  | succ n ih =>
    intro q d M H locs ls hinv hP hS hl kk
    refine lv_iload hx hb dX1_measureFrom_117 (lv_at hl 0 rfl) ?_
    refine lv_iconst (v := 4) hx hb dX1_measureFrom_119 (by decide) ?_
    refine lv_icmp_ge (tgt := 225) hx hb dX1_measureFrom_120 (by decide) (fun c_120 => ?_) (fun c_120 => ?_)
    · have e9 : f_X1_measureFrom_L117 k x5 x6 x7 x8 (n + 1) q d M = (q, M) := (by rw [f_X1_measureFrom_L117]; rw [if_pos c_120])
      rw [e9] at kk
      exact kk _ _ ls hP hS (lv_sub hl [4, 5, 6] rfl)
    · refine lv_iload hx hb dX1_measureFrom_123 (lv_at hl 3 rfl) ?_
      refine va_getsN (host := RX3) hx hb z1 hS hown (va_Nw.use rfl z5) (fun _ h9 => h9) dX1_measureFrom_125 ?_
      refine lv_iload hx hb dX1_measureFrom_128 (lv_at hl 0 rfl) ?_
      refine va_ti hx hb z2 hS (lpI_in hinv.2.2 c_120 (by decide)) rfl dX1_measureFrom_130 ?_
      refine lv_iadd hx hb dX1_measureFrom_131 ?_
      refine lv_istore (lv' := [(10, .int (x6 + (eB d.toNatClampNeg))), (9, .int d), (8, .int x8), (7, .int x7), (6, .int x6), (5, .int x5), (4, .int q), (0, .ref (k.1 0 1))]) hx hb dX1_measureFrom_132 hl (by decide) rfl (fun ls hl => ?_)
      refine lv_iload hx hb dX1_measureFrom_134 (lv_at hl 3 rfl) ?_
      refine va_getsN (host := RX3) hx hb z3 hS hown (va_Nw.use rfl z6) (fun _ h9 => h9) dX1_measureFrom_136 ?_
      refine lv_iload hx hb dX1_measureFrom_139 (lv_at hl 1 rfl) ?_
      refine va_ti hx hb z4 hS (lpI_in hinv.2.2 c_120 (by decide)) rfl dX1_measureFrom_141 ?_
      refine lv_iadd hx hb dX1_measureFrom_142 ?_
      refine lv_istore (lv' := [(11, .int (x7 + (sB d.toNatClampNeg))), (10, .int (x6 + (eB d.toNatClampNeg))), (9, .int d), (8, .int x8), (7, .int x7), (6, .int x6), (5, .int x5), (4, .int q), (0, .ref (k.1 0 1))]) hx hb dX1_measureFrom_143 hl (by decide) rfl (fun ls hl => ?_)
      refine lv_aload_n hx hb dX1_measureFrom_145 rfl (lv_at hl 8 rfl) ?_
      refine lv_iload hx hb dX1_measureFrom_146 (lv_at hl 1 rfl) ?_
      refine lv_iload hx hb dX1_measureFrom_148 (lv_at hl 0 rfl) ?_
      refine wx_Vi (w := (cw k)) (f_X1_isOpen k M (x6 + (eB d.toNatClampNeg)) (x7 + (sB d.toNatClampNeg))) M [.int (x6 + (eB d.toNatClampNeg)), .int (x7 + (sB d.toNatClampNeg))] [] (cZok k) ⟨hx, hb, hml, hown, hts⟩ (c_X1_isOpen l k M (x6 + (eB d.toNatClampNeg)) (x7 + (sB d.toNatClampNeg)) hinv.1) (cwV 2 hts gX1_measureFrom_X1_isOpen rfl rfl rfl (by decide +kernel) ⟨by decide, by decide⟩) (wx_recv (w := (cw k)) (g := 0) (j := 1) hK hP (cIx_0 (by decide)) rfl rfl) hP hK hD hZ hS rfl hl.1 rfl (Nat.le_of_ble_eq_true rfl) dX1_measureFrom_150 ⟨by decide, by decide⟩ (fun H locs hP hS => ?_)
      refine lv_if_eq (tgt := 219) hx hb dX1_measureFrom_153 (by decide) (fun c_153 => ?_) (fun c_153 => ?_)
      · refine lv_iinc (v := (d + 1)) (lv' := [(9, .int (d + 1)), (11, .int (x7 + (sB d.toNatClampNeg))), (10, .int (x6 + (eB d.toNatClampNeg))), (8, .int x8), (7, .int x7), (6, .int x6), (5, .int x5), (4, .int q), (0, .ref (k.1 0 1))]) hx hb dX1_measureFrom_219 hl (k := 2) rfl rfl (by decide) rfl (fun ls hl => ?_)
        refine lv_goto (tgt := 117) hx hb dX1_measureFrom_222 (by decide) ?_
        have e9 : f_X1_measureFrom_L117 k x5 x6 x7 x8 (n + 1) q d M = f_X1_measureFrom_L117 k x5 x6 x7 x8 n q (d + 1) M := (by rw [f_X1_measureFrom_L117]; rw [if_neg c_120, if_pos c_153])
        exact ih q (d + 1) M _ _ ls (by first | exact ⟨hinv.1, hinv.2.1, lpI_s hinv.2.2 c_120 (by decide)⟩ | exact bq_push hinv.1 hinv.2.1 c_153 c_163 (lpI_s hinv.2.2 c_120 (by decide))) hP hS (lv_sub hl [0, 3, 4, 5, 6, 7, 8] rfl) (by rw [e9] at kk; exact kk)
      · refine lv_iload hx hb dX1_measureFrom_156 (lv_at hl 7 rfl) ?_
        refine lv_aload_n hx hb dX1_measureFrom_158 rfl (lv_at hl 8 rfl) ?_
        refine wx_get (w := (cw k)) (g := 0) (j := 1) hx hb hts hiX1 hown hK hP (cIx_0 (by decide)) rfl rfl 4 (by decide) hf25 rfl dX1_measureFrom_159 ?_
        refine wx_alen (w := (cw k)) (g := 0) (j := 4) hx hb hK hP (cIx_0 (by decide)) 0 rfl rfl dX1_measureFrom_162 ?_
        refine lv_icmp_ge (tgt := 219) hx hb dX1_measureFrom_163 (by decide) (fun c_163 => ?_) (fun c_163 => ?_)
        · refine lv_iinc (v := (d + 1)) (lv' := [(9, .int (d + 1)), (11, .int (x7 + (sB d.toNatClampNeg))), (10, .int (x6 + (eB d.toNatClampNeg))), (8, .int x8), (7, .int x7), (6, .int x6), (5, .int x5), (4, .int q), (0, .ref (k.1 0 1))]) hx hb dX1_measureFrom_219 hl (k := 2) rfl rfl (by decide) rfl (fun ls hl => ?_)
          refine lv_goto (tgt := 117) hx hb dX1_measureFrom_222 (by decide) ?_
          have e9 : f_X1_measureFrom_L117 k x5 x6 x7 x8 (n + 1) q d M = f_X1_measureFrom_L117 k x5 x6 x7 x8 n q (d + 1) M := (by rw [f_X1_measureFrom_L117]; rw [if_neg c_120, if_neg c_153, if_pos c_163])
          exact ih q (d + 1) M _ _ ls (by first | exact ⟨hinv.1, hinv.2.1, lpI_s hinv.2.2 c_120 (by decide)⟩ | exact bq_push hinv.1 hinv.2.1 c_153 c_163 (lpI_s hinv.2.2 c_120 (by decide))) hP hS (lv_sub hl [0, 3, 4, 5, 6, 7, 8] rfl) (by rw [e9] at kk; exact kk)
        · refine lv_aload_n hx hb dX1_measureFrom_166 rfl (lv_at hl 8 rfl) ?_
          refine wx_get (w := (cw k)) (g := 0) (j := 1) hx hb hts hiX1 hown hK hP (cIx_0 (by decide)) rfl rfl 3 (by decide) hf22 rfl dX1_measureFrom_167 ?_
          refine lv_iload hx hb dX1_measureFrom_170 (lv_at hl 0 rfl) ?_
          refine lv_aload_n hx hb dX1_measureFrom_172 rfl (lv_at hl 8 rfl) ?_
          refine wx_get (w := (cw k)) (g := 0) (j := 1) hx hb hts hiX1 hown hK hP (cIx_0 (by decide)) rfl rfl 0 (by decide) hf9 rfl dX1_measureFrom_173 ?_
          refine lv_imul hx hb dX1_measureFrom_176 ?_
          refine lv_iload hx hb dX1_measureFrom_177 (lv_at hl 1 rfl) ?_
          refine lv_iadd hx hb dX1_measureFrom_179 ?_
          refine wx_iald (w := (cw k)) (g := 0) (j := 3) hx hb hK hP (cIx_0 (by decide)) 0 rfl rfl (opn_sq hinv.1 c_153) dX1_measureFrom_180 ?_
          refine lv_iconst (v := (-1)) hx hb dX1_measureFrom_181 (by decide) ?_
          refine lv_icmp_ne (tgt := 219) hx hb dX1_measureFrom_182 (by decide) (fun c_182 => ?_) (fun c_182 => ?_)
          · refine lv_iinc (v := (d + 1)) (lv' := [(9, .int (d + 1)), (11, .int (x7 + (sB d.toNatClampNeg))), (10, .int (x6 + (eB d.toNatClampNeg))), (8, .int x8), (7, .int x7), (6, .int x6), (5, .int x5), (4, .int q), (0, .ref (k.1 0 1))]) hx hb dX1_measureFrom_219 hl (k := 2) rfl rfl (by decide) rfl (fun ls hl => ?_)
            refine lv_goto (tgt := 117) hx hb dX1_measureFrom_222 (by decide) ?_
            have e9 : f_X1_measureFrom_L117 k x5 x6 x7 x8 (n + 1) q d M = f_X1_measureFrom_L117 k x5 x6 x7 x8 n q (d + 1) M := (by rw [f_X1_measureFrom_L117]; rw [if_neg c_120, if_neg c_153, if_neg c_163, if_neg c_182])
            exact ih q (d + 1) M _ _ ls (by first | exact ⟨hinv.1, hinv.2.1, lpI_s hinv.2.2 c_120 (by decide)⟩ | exact bq_push hinv.1 hinv.2.1 c_153 c_163 (lpI_s hinv.2.2 c_120 (by decide))) hP hS (lv_sub hl [0, 3, 4, 5, 6, 7, 8] rfl) (by rw [e9] at kk; exact kk)
          · refine lv_aload_n hx hb dX1_measureFrom_185 rfl (lv_at hl 8 rfl) ?_
            refine wx_get (w := (cw k)) (g := 0) (j := 1) hx hb hts hiX1 hown hK hP (cIx_0 (by decide)) rfl rfl 3 (by decide) hf22 rfl dX1_measureFrom_186 ?_
            refine lv_iload hx hb dX1_measureFrom_189 (lv_at hl 0 rfl) ?_
            refine lv_aload_n hx hb dX1_measureFrom_191 rfl (lv_at hl 8 rfl) ?_
            refine wx_get (w := (cw k)) (g := 0) (j := 1) hx hb hts hiX1 hown hK hP (cIx_0 (by decide)) rfl rfl 0 (by decide) hf9 rfl dX1_measureFrom_192 ?_
            refine lv_imul hx hb dX1_measureFrom_195 ?_
            refine lv_iload hx hb dX1_measureFrom_196 (lv_at hl 1 rfl) ?_
            refine lv_iadd hx hb dX1_measureFrom_198 ?_
            refine lv_iload hx hb dX1_measureFrom_199 (lv_at hl 3 rfl) ?_
            refine wx_iast (w := (cw k)) (g := 0) (j := 3) hx hb hK hP hD hS (cIx_0 (by decide)) 0 (fun _ => rfl) rfl (opn_sq hinv.1 c_153) dX1_measureFrom_201 (fun H locs hP hS => ?_)
            refine lv_aload_n hx hb dX1_measureFrom_202 rfl (lv_at hl 8 rfl) ?_
            refine wx_get (w := (cw k)) (g := 0) (j := 1) hx hb hts hiX1 hown hK hP (cIx_0 (by decide)) rfl rfl 4 (by decide) hf25 rfl dX1_measureFrom_203 ?_
            refine lv_iload hx hb dX1_measureFrom_206 (lv_at hl 7 rfl) ?_
            refine lv_iload hx hb dX1_measureFrom_208 (lv_at hl 0 rfl) ?_
            refine lv_iconst (v := 5) hx hb dX1_measureFrom_210 (by decide) ?_
            refine lv_ishl hx hb dX1_measureFrom_211 ?_
            refine lv_iload hx hb dX1_measureFrom_212 (lv_at hl 1 rfl) ?_
            refine lv_ior hx hb dX1_measureFrom_214 ?_
            refine wx_iast (w := (cw k)) (g := 0) (j := 4) hx hb hK hP hD hS (cIx_0 (by decide)) 0 (fun _ => rfl) rfl (bq_in hinv.1 hinv.2.1 c_163) dX1_measureFrom_215 (fun H locs hP hS => ?_)
            refine lv_iinc (v := (q + 1)) (lv' := [(4, .int (q + 1)), (11, .int (x7 + (sB d.toNatClampNeg))), (10, .int (x6 + (eB d.toNatClampNeg))), (9, .int d), (8, .int x8), (7, .int x7), (6, .int x6), (5, .int x5), (0, .ref (k.1 0 1))]) hx hb dX1_measureFrom_216 hl (k := 7) rfl rfl (by decide) rfl (fun ls hl => ?_)
            refine lv_iinc (v := (d + 1)) (lv' := [(9, .int (d + 1)), (4, .int (q + 1)), (11, .int (x7 + (sB d.toNatClampNeg))), (10, .int (x6 + (eB d.toNatClampNeg))), (8, .int x8), (7, .int x7), (6, .int x6), (5, .int x5), (0, .ref (k.1 0 1))]) hx hb dX1_measureFrom_219 hl (k := 3) rfl rfl (by decide) rfl (fun ls hl => ?_)
            refine lv_goto (tgt := 117) hx hb dX1_measureFrom_222 (by decide) ?_
            have e9 : f_X1_measureFrom_L117 k x5 x6 x7 x8 (n + 1) q d M = f_X1_measureFrom_L117 k x5 x6 x7 x8 n (q + 1) (d + 1) (mu (mu M 0 3 (((x7 + (sB d.toNatClampNeg)) * (M 0 1 0)) + (x6 + (eB d.toNatClampNeg))).toNatClampNeg x8) 0 4 q.toNatClampNeg (((x7 + (sB d.toNatClampNeg)) <<< (5 &&& 31)) ||| (x6 + (eB d.toNatClampNeg)))) := (by rw [f_X1_measureFrom_L117]; rw [if_neg c_120, if_neg c_153, if_neg c_163, if_pos c_182])
            exact ih (q + 1) (d + 1) (mu (mu M 0 3 (((x7 + (sB d.toNatClampNeg)) * (M 0 1 0)) + (x6 + (eB d.toNatClampNeg))).toNatClampNeg x8) 0 4 q.toNatClampNeg (((x7 + (sB d.toNatClampNeg)) <<< (5 &&& 31)) ||| (x6 + (eB d.toNatClampNeg)))) _ _ ls (by first | exact ⟨hinv.1, hinv.2.1, lpI_s hinv.2.2 c_120 (by decide)⟩ | exact bq_push hinv.1 hinv.2.1 c_153 c_163 (lpI_s hinv.2.2 c_120 (by decide))) hP hS (lv_sub hl [0, 4, 5, 6, 7, 1, 8] rfl) (by rw [e9] at kk; exact kk)
theorem bq_inner {k : CK} {x5 x6 x7 x8 : Int32} : ∀ (n : Nat) (q d : Int32) (M : Mem), cI k M → bq k M q → cI k (f_X1_measureFrom_L117 k x5 x6 x7 x8 n q d M).2 ∧ bq k (f_X1_measureFrom_L117 k x5 x6 x7 x8 n q d M).2 (f_X1_measureFrom_L117 k x5 x6 x7 x8 n q d M).1 := by
  intro n
  induction n with
  | zero => intro q d M hI hq; unfold f_X1_measureFrom_L117; exact ⟨hI, zq_0 hI⟩
  | succ n ih =>
    intro q d M hI hq
    unfold f_X1_measureFrom_L117
    split
    · exact ⟨hI, hq⟩
    · split
      · exact ih _ _ M hI hq
      · rename_i ho
        split
        · exact ih _ _ M hI hq
        · rename_i c
          split
          · obtain ⟨h1, h2, -⟩ := bq_push (d := 0) (n := 5) hI hq ho c (lpI_i 4)
            exact ih _ _ _ h1 h2
          · exact ih _ _ M hI hq
theorem bq_next {k : CK} {M : Mem} {q x x5 x6 x7 x8 : Int32} {n : Nat} (hI : cI k M) (hq : bq k M q) (hx : lpI (k.2.1 1) n x) : cI k (f_X1_measureFrom_L117 k x5 x6 x7 x8 5 q 0 M).2 ∧ bq k (f_X1_measureFrom_L117 k x5 x6 x7 x8 5 q 0 M).2 (f_X1_measureFrom_L117 k x5 x6 x7 x8 5 q 0 M).1 ∧ lpI (k.2.1 1) n x := by
  obtain ⟨h1, h2⟩ := bq_inner (x5 := x5) (x6 := x6) (x7 := x7) (x8 := x8) 5 q 0 M hI hq
  exact ⟨h1, h2, hx⟩
/-- by program: the loop at 55 of RobotWorld$Land.measureFrom -/
def f_X1_measureFrom_L55 (k : CK)  : Nat → Int32 → Int32 → Mem → Mem
  | 0, _, _, M => M
  | n + 1, q, x, M =>
    if q ≤ x then
      M
    else
      if (nI (k.2.1 1)) ≤ x then
        M
      else
        f_X1_measureFrom_L55 k n ((f_X1_measureFrom_L117 k x ((M 0 4 x.toNatClampNeg) &&& 31) ((M 0 4 x.toNatClampNeg) >>> (5 &&& 31)) ((M 0 3 ((((M 0 4 x.toNatClampNeg) >>> (5 &&& 31)) * (M 0 1 0)) + ((M 0 4 x.toNatClampNeg) &&& 31)).toNatClampNeg) + 1) (5) q 0 M).1) (x + 1) (f_X1_measureFrom_L117 k x ((M 0 4 x.toNatClampNeg) &&& 31) ((M 0 4 x.toNatClampNeg) >>> (5 &&& 31)) ((M 0 3 ((((M 0 4 x.toNatClampNeg) >>> (5 &&& 31)) * (M 0 1 0)) + ((M 0 4 x.toNatClampNeg) &&& 31)).toNatClampNeg) + 1) (5) q 0 M).2
set_option maxHeartbeats 4000000 in
set_option maxRecDepth 100000 in
theorem lp_X1_measureFrom_L55 {p : Program} {l : Launch} {e : Env} {s : State} {m : MethodId} {args : Array Value} {below : List Frame} {meth : Method} {c : Code} (k : CK)   (hx : p.tables.exec = Jvm.exec) (hb : c.code = cX1_measureFrom) (hr : meth.sig.returnType = none) (hml : c.maxLocals = 12) (hts : ∀ x ∈ wsX1_measureFrom, x.before args s = true) (hown : s.vm.findClass RX1 = some m.cls) (hlocks : meth.locks = false) (hK : va_K (wD (cw k)) vwCl (wT (cw k)) s) {M0 : Mem} (hD : va_D (wA (cw k)) (wW (cw k) M0)) (hZ : wZ (cw k) (wA (cw k)) s s.heap)  : ∀ (n : Nat) (q : Int32) (x : Int32) (M : Mem) (H : Heap) (locs : List Loc) (ls : Array Slot), cI k M ∧ bq k M q ∧ lpI (k.2.1 1) n x → wP (cw k) M H → va_S (wA (cw k)) s.heap H locs → lv_has ls 12 [(5, .int x), (4, .int q), (0, .ref (k.1 0 1))] → ∀ (post : Mem → Prop), post (f_X1_measureFrom_L55 k n q x M) → W p l e (rmK 1 23) s m args below meth c H locs 0 0 (MQ below (wQv (cw k) post) args s 0 0 (wA (cw k))) (F0 m 55 ls []) := by
  have hiX1 : ∀ x ∈ u_ws RX1 TX1 6, x ∈ wsX1_measureFrom := by decide +kernel
  have hf22 := hts (.fieldLink RX1 22 "RobotWorld$Land" "steps" "[I") (by decide +kernel)
  have hf25 := hts (.fieldLink RX1 25 "RobotWorld$Land" "queue" "[I") (by decide +kernel)
  have hf9 := hts (.fieldLink RX1 9 "RobotWorld$Land" "width" "I") (by decide +kernel)
  intro n
  induction n with
  | zero =>
    intro q x M H locs ls hinv
    exact absurd hinv (fun h => lpI_z h.2.2)
  | succ n ih =>
    intro q x M H locs ls hinv hP hS hl post hpo
    refine lv_iload hx hb dX1_measureFrom_55 (lv_at hl 0 rfl) ?_
    refine lv_iload hx hb dX1_measureFrom_57 (lv_at hl 1 rfl) ?_
    refine lv_icmp_ge (tgt := 231) hx hb dX1_measureFrom_59 (by decide) (fun c_59 => ?_) (fun c_59 => ?_)
    · have e9 : f_X1_measureFrom_L55 k (n + 1) q x M = M := (by rw [f_X1_measureFrom_L55]; rw [if_pos c_59])
      exact wx_vret hx hb hr hlocks hP hS (by rw [e9] at hpo; exact hpo) dX1_measureFrom_231
    · refine lv_iload hx hb dX1_measureFrom_62 (lv_at hl 0 rfl) ?_
      refine lv_aload_n hx hb dX1_measureFrom_64 rfl (lv_at hl 2 rfl) ?_
      refine wx_get (w := (cw k)) (g := 0) (j := 1) hx hb hts hiX1 hown hK hP (cIx_0 (by decide)) rfl rfl 4 (by decide) hf25 rfl dX1_measureFrom_65 ?_
      refine wx_alen (w := (cw k)) (g := 0) (j := 4) hx hb hK hP (cIx_0 (by decide)) 0 rfl rfl dX1_measureFrom_68 ?_
      refine lv_icmp_ge (tgt := 231) hx hb dX1_measureFrom_69 (by decide) (fun c_69 => ?_) (fun c_69 => ?_)
      · have e9 : f_X1_measureFrom_L55 k (n + 1) q x M = M := (by rw [f_X1_measureFrom_L55]; rw [if_neg c_59, if_pos c_69])
        exact wx_vret hx hb hr hlocks hP hS (by rw [e9] at hpo; exact hpo) dX1_measureFrom_231
      · refine lv_aload_n hx hb dX1_measureFrom_72 rfl (lv_at hl 2 rfl) ?_
        refine wx_get (w := (cw k)) (g := 0) (j := 1) hx hb hts hiX1 hown hK hP (cIx_0 (by decide)) rfl rfl 4 (by decide) hf25 rfl dX1_measureFrom_73 ?_
        refine lv_iload hx hb dX1_measureFrom_76 (lv_at hl 0 rfl) ?_
        refine wx_iald (w := (cw k)) (g := 0) (j := 4) hx hb hK hP (cIx_0 (by decide)) 0 rfl rfl (lpI_in hinv.2.2 c_69 (cI_w hinv.1)) dX1_measureFrom_78 ?_
        refine lv_bipush (v := 31) hx hb dX1_measureFrom_79 (by decide) ?_
        refine lv_iand hx hb dX1_measureFrom_81 ?_
        refine lv_istore (lv' := [(6, .int ((M 0 4 x.toNatClampNeg) &&& 31)), (5, .int x), (4, .int q), (0, .ref (k.1 0 1))]) hx hb dX1_measureFrom_82 hl (by decide) rfl (fun ls hl => ?_)
        refine lv_aload_n hx hb dX1_measureFrom_84 rfl (lv_at hl 3 rfl) ?_
        refine wx_get (w := (cw k)) (g := 0) (j := 1) hx hb hts hiX1 hown hK hP (cIx_0 (by decide)) rfl rfl 4 (by decide) hf25 rfl dX1_measureFrom_85 ?_
        refine lv_iload hx hb dX1_measureFrom_88 (lv_at hl 1 rfl) ?_
        refine wx_iald (w := (cw k)) (g := 0) (j := 4) hx hb hK hP (cIx_0 (by decide)) 0 rfl rfl (lpI_in hinv.2.2 c_69 (cI_w hinv.1)) dX1_measureFrom_90 ?_
        refine lv_iconst (v := 5) hx hb dX1_measureFrom_91 (by decide) ?_
        refine lv_ishr hx hb dX1_measureFrom_92 ?_
        refine lv_istore (lv' := [(7, .int ((M 0 4 x.toNatClampNeg) >>> (5 &&& 31))), (6, .int ((M 0 4 x.toNatClampNeg) &&& 31)), (5, .int x), (4, .int q), (0, .ref (k.1 0 1))]) hx hb dX1_measureFrom_93 hl (by decide) rfl (fun ls hl => ?_)
        refine lv_aload_n hx hb dX1_measureFrom_95 rfl (lv_at hl 4 rfl) ?_
        refine wx_get (w := (cw k)) (g := 0) (j := 1) hx hb hts hiX1 hown hK hP (cIx_0 (by decide)) rfl rfl 3 (by decide) hf22 rfl dX1_measureFrom_96 ?_
        refine lv_iload hx hb dX1_measureFrom_99 (lv_at hl 0 rfl) ?_
        refine lv_aload_n hx hb dX1_measureFrom_101 rfl (lv_at hl 4 rfl) ?_
        refine wx_get (w := (cw k)) (g := 0) (j := 1) hx hb hts hiX1 hown hK hP (cIx_0 (by decide)) rfl rfl 0 (by decide) hf9 rfl dX1_measureFrom_102 ?_
        refine lv_imul hx hb dX1_measureFrom_105 ?_
        refine lv_iload hx hb dX1_measureFrom_106 (lv_at hl 1 rfl) ?_
        refine lv_iadd hx hb dX1_measureFrom_108 ?_
        refine wx_iald (w := (cw k)) (g := 0) (j := 3) hx hb hK hP (cIx_0 (by decide)) 0 rfl rfl (bq_sq hinv.1 hinv.2.1 hinv.2.2 c_59) dX1_measureFrom_109 ?_
        refine lv_iconst (v := 1) hx hb dX1_measureFrom_110 (by decide) ?_
        refine lv_iadd hx hb dX1_measureFrom_111 ?_
        refine lv_istore (lv' := [(8, .int ((M 0 3 ((((M 0 4 x.toNatClampNeg) >>> (5 &&& 31)) * (M 0 1 0)) + ((M 0 4 x.toNatClampNeg) &&& 31)).toNatClampNeg) + 1)), (7, .int ((M 0 4 x.toNatClampNeg) >>> (5 &&& 31))), (6, .int ((M 0 4 x.toNatClampNeg) &&& 31)), (5, .int x), (4, .int q), (0, .ref (k.1 0 1))]) hx hb dX1_measureFrom_112 hl (by decide) rfl (fun ls hl => ?_)
        refine lv_iconst (v := 0) hx hb dX1_measureFrom_114 (by decide) ?_
        refine lv_istore (lv' := [(9, .int 0), (8, .int ((M 0 3 ((((M 0 4 x.toNatClampNeg) >>> (5 &&& 31)) * (M 0 1 0)) + ((M 0 4 x.toNatClampNeg) &&& 31)).toNatClampNeg) + 1)), (7, .int ((M 0 4 x.toNatClampNeg) >>> (5 &&& 31))), (6, .int ((M 0 4 x.toNatClampNeg) &&& 31)), (5, .int x), (4, .int q), (0, .ref (k.1 0 1))]) hx hb dX1_measureFrom_115 hl (by decide) rfl (fun ls hl => ?_)
        refine lp_X1_measureFrom_L117 k x ((M 0 4 x.toNatClampNeg) &&& 31) ((M 0 4 x.toNatClampNeg) >>> (5 &&& 31)) ((M 0 3 ((((M 0 4 x.toNatClampNeg) >>> (5 &&& 31)) * (M 0 1 0)) + ((M 0 4 x.toNatClampNeg) &&& 31)).toNatClampNeg) + 1) hx hb hr hml hts hown hlocks hK hD hZ (5) q 0 M _ _ ls (⟨hinv.1, hinv.2.1, lpI_i 4⟩) hP hS (lv_sub hl [0, 1, 2, 3, 4, 5, 6] rfl) (fun H locs ls hP hS hl => ?_)
        refine lv_iinc (v := (x + 1)) (lv' := [(5, .int (x + 1)), (4, .int ((f_X1_measureFrom_L117 k x ((M 0 4 x.toNatClampNeg) &&& 31) ((M 0 4 x.toNatClampNeg) >>> (5 &&& 31)) ((M 0 3 ((((M 0 4 x.toNatClampNeg) >>> (5 &&& 31)) * (M 0 1 0)) + ((M 0 4 x.toNatClampNeg) &&& 31)).toNatClampNeg) + 1) (5) q 0 M).1)), (0, .ref (k.1 0 1))]) hx hb dX1_measureFrom_225 hl (k := 0) rfl rfl (by decide) rfl (fun ls hl => ?_)
        refine lv_goto (tgt := 55) hx hb dX1_measureFrom_228 (by decide) ?_
        have e9 : f_X1_measureFrom_L55 k (n + 1) q x M = f_X1_measureFrom_L55 k n ((f_X1_measureFrom_L117 k x ((M 0 4 x.toNatClampNeg) &&& 31) ((M 0 4 x.toNatClampNeg) >>> (5 &&& 31)) ((M 0 3 ((((M 0 4 x.toNatClampNeg) >>> (5 &&& 31)) * (M 0 1 0)) + ((M 0 4 x.toNatClampNeg) &&& 31)).toNatClampNeg) + 1) (5) q 0 M).1) (x + 1) (f_X1_measureFrom_L117 k x ((M 0 4 x.toNatClampNeg) &&& 31) ((M 0 4 x.toNatClampNeg) >>> (5 &&& 31)) ((M 0 3 ((((M 0 4 x.toNatClampNeg) >>> (5 &&& 31)) * (M 0 1 0)) + ((M 0 4 x.toNatClampNeg) &&& 31)).toNatClampNeg) + 1) (5) q 0 M).2 := (by rw [f_X1_measureFrom_L55]; rw [if_neg c_59, if_neg c_69])
        exact ih ((f_X1_measureFrom_L117 k x ((M 0 4 x.toNatClampNeg) &&& 31) ((M 0 4 x.toNatClampNeg) >>> (5 &&& 31)) ((M 0 3 ((((M 0 4 x.toNatClampNeg) >>> (5 &&& 31)) * (M 0 1 0)) + ((M 0 4 x.toNatClampNeg) &&& 31)).toNatClampNeg) + 1) (5) q 0 M).1) (x + 1) (f_X1_measureFrom_L117 k x ((M 0 4 x.toNatClampNeg) &&& 31) ((M 0 4 x.toNatClampNeg) >>> (5 &&& 31)) ((M 0 3 ((((M 0 4 x.toNatClampNeg) >>> (5 &&& 31)) * (M 0 1 0)) + ((M 0 4 x.toNatClampNeg) &&& 31)).toNatClampNeg) + 1) (5) q 0 M).2 _ _ ls (bq_next hinv.1 hinv.2.1 (lpI_s hinv.2.2 c_69 (cI_w hinv.1))) hP hS (lv_sub hl [0, 1, 2] rfl) _ (by rw [e9] at hpo; exact hpo)
/-- by program, from the bytecode of RobotWorld$Land.measureFrom -/
def f_X1_measureFrom (k : CK) (M : Mem) (p1 : Int32) (p2 : Int32) : Mem :=
  if (M 0 1 5) = ((p2 <<< (5 &&& 31)) ||| p1) then
    M
  else
    f_X1_measureFrom_L55 k (k.2.1 1 + 1) 1 0 (mu (mu (mr (mu M 0 1 5 ((p2 <<< (5 &&& 31)) ||| p1)) 0 3 (fillF ((mu M 0 1 5 ((p2 <<< (5 &&& 31)) ||| p1)) 0 3) (k.2.1 1) (-1))) 0 3 ((p2 * ((mr (mu M 0 1 5 ((p2 <<< (5 &&& 31)) ||| p1)) 0 3 (fillF ((mu M 0 1 5 ((p2 <<< (5 &&& 31)) ||| p1)) 0 3) (k.2.1 1) (-1))) 0 1 0)) + p1).toNatClampNeg 0) 0 4 (0 : Int32).toNatClampNeg ((p2 <<< (5 &&& 31)) ||| p1))
set_option maxHeartbeats 4000000 in
set_option maxRecDepth 100000 in
theorem c_X1_measureFrom (l : Launch) (k : CK) (M : Mem) (p1 : Int32) (p2 : Int32) (hI : cI k M) (ho : ¬ f_X1_isOpen k M p1 p2 = 0) : Met l yX1_measureFrom wsX1_measureFrom (rmK 1 23) (wPc (cw k) M [.ref (k.1 0 1), .int p1, .int p2]) (wQv (cw k) (fun u => u = f_X1_measureFrom k M p1 p2)) 0 0 (wA (cw k)) := by
  refine wx_met (cc := cX1_measureFrom) (maxL := 12) (ret := none) (by decide) rfl (Nat.le_of_ble_eq_true rfl) ?_
  intro p e s m below meth c ls hx hb hr hml hts hown hlocks hP hK hD hZ hS hl
  have hown : s.vm.findClass RX1 = some m.cls := hown
  have hl : lv_has ls 12 [(0, .ref (k.1 0 1)), (1, .int p1), (2, .int p2)] := hl
  have hiX1 : ∀ x ∈ u_ws RX1 TX1 6, x ∈ wsX1_measureFrom := by decide +kernel
  have hf22 := hts (.fieldLink RX1 22 "RobotWorld$Land" "steps" "[I") (by decide +kernel)
  have hf25 := hts (.fieldLink RX1 25 "RobotWorld$Land" "queue" "[I") (by decide +kernel)
  have hf28 := hts (.fieldLink RX1 28 "RobotWorld$Land" "goal" "I") (by decide +kernel)
  have hf9 := hts (.fieldLink RX1 9 "RobotWorld$Land" "width" "I") (by decide +kernel)
  refine lv_iload_n hx hb dX1_measureFrom_0 rfl (lv_at hl 2 rfl) ?_
  refine lv_iconst (v := 5) hx hb dX1_measureFrom_1 (by decide) ?_
  refine lv_ishl hx hb dX1_measureFrom_2 ?_
  refine lv_iload_n hx hb dX1_measureFrom_3 rfl (lv_at hl 1 rfl) ?_
  refine lv_ior hx hb dX1_measureFrom_4 ?_
  refine lv_istore_n (lv' := [(3, .int ((p2 <<< (5 &&& 31)) ||| p1)), (0, .ref (k.1 0 1)), (1, .int p1), (2, .int p2)]) hx hb dX1_measureFrom_5 rfl hl (by decide) rfl (fun ls hl => ?_)
  refine lv_aload_n hx hb dX1_measureFrom_6 rfl (lv_at hl 1 rfl) ?_
  refine wx_get (w := (cw k)) (g := 0) (j := 1) hx hb hts hiX1 hown hK hP (cIx_0 (by decide)) rfl rfl 5 (by decide) hf28 rfl dX1_measureFrom_7 ?_
  refine lv_iload_n hx hb dX1_measureFrom_10 rfl (lv_at hl 0 rfl) ?_
  refine lv_icmp_ne (tgt := 15) hx hb dX1_measureFrom_11 (by decide) (fun c_11 => ?_) (fun c_11 => ?_)
  · refine lv_aload_n hx hb dX1_measureFrom_15 rfl (lv_at hl 1 rfl) ?_
    refine lv_iload_n hx hb dX1_measureFrom_16 rfl (lv_at hl 0 rfl) ?_
    refine wx_put (w := (cw k)) (g := 0) (j := 1) hx hb hts hiX1 tyX1 tyX1_ok nmX1 hown hK hP hD hS (cIx_0 (by decide)) rfl rfl 5 (by decide) hf28 rfl (by decide +kernel) rfl (Nat.le_of_ble_eq_true rfl) dX1_measureFrom_17 (fun H locs hP hS => ?_)
    refine lv_aload_n hx hb dX1_measureFrom_20 rfl (lv_at hl 1 rfl) ?_
    refine wx_get (w := (cw k)) (g := 0) (j := 1) hx hb hts hiX1 hown hK hP (cIx_0 (by decide)) rfl rfl 3 (by decide) hf22 rfl dX1_measureFrom_21 ?_
    refine lv_iconst (v := (-1)) hx hb dX1_measureFrom_24 (by decide) ?_
    refine wx_Sv (w := (cw k)) (mr (mu M 0 1 5 ((p2 <<< (5 &&& 31)) ||| p1)) 0 3 (fillF ((mu M 0 1 5 ((p2 <<< (5 &&& 31)) ||| p1)) 0 3) (k.2.1 1) (-1))) [.ref (k.1 0 3), .int (-1)] [] (cZok k) ⟨hx, hb, hml, hown, hts⟩ (c_J7_fill l k (mu M 0 1 5 ((p2 <<< (5 &&& 31)) ||| p1)) 0 3 (k.2.1 1) (-1) (cIx_0 (by decide)) (fun _ => rfl) (cI_w hI)) (va_cwS 2 hts gX1_measureFrom_J7_fill_53178 rfl rfl rfl (by decide +kernel) ⟨by decide, by decide⟩) hP hK hD hZ hS rfl hl.1 rfl (Nat.le_of_ble_eq_true rfl) dX1_measureFrom_25 ⟨by decide, by decide⟩ (fun H locs hP hS => ?_)
    refine lv_aload_n hx hb dX1_measureFrom_28 rfl (lv_at hl 1 rfl) ?_
    refine wx_get (w := (cw k)) (g := 0) (j := 1) hx hb hts hiX1 hown hK hP (cIx_0 (by decide)) rfl rfl 3 (by decide) hf22 rfl dX1_measureFrom_29 ?_
    refine lv_iload_n hx hb dX1_measureFrom_32 rfl (lv_at hl 3 rfl) ?_
    refine lv_aload_n hx hb dX1_measureFrom_33 rfl (lv_at hl 1 rfl) ?_
    refine wx_get (w := (cw k)) (g := 0) (j := 1) hx hb hts hiX1 hown hK hP (cIx_0 (by decide)) rfl rfl 0 (by decide) hf9 rfl dX1_measureFrom_34 ?_
    refine lv_imul hx hb dX1_measureFrom_37 ?_
    refine lv_iload_n hx hb dX1_measureFrom_38 rfl (lv_at hl 2 rfl) ?_
    refine lv_iadd hx hb dX1_measureFrom_39 ?_
    refine lv_iconst (v := 0) hx hb dX1_measureFrom_40 (by decide) ?_
    refine wx_iast (w := (cw k)) (g := 0) (j := 3) hx hb hK hP hD hS (cIx_0 (by decide)) 0 (fun _ => rfl) rfl (by have h := opn_sq hI ho; simpa [mr_at, mu_at] using h) dX1_measureFrom_41 (fun H locs hP hS => ?_)
    refine lv_aload_n hx hb dX1_measureFrom_42 rfl (lv_at hl 1 rfl) ?_
    refine wx_get (w := (cw k)) (g := 0) (j := 1) hx hb hts hiX1 hown hK hP (cIx_0 (by decide)) rfl rfl 4 (by decide) hf25 rfl dX1_measureFrom_43 ?_
    refine lv_iconst (v := 0) hx hb dX1_measureFrom_46 (by decide) ?_
    refine lv_iload_n hx hb dX1_measureFrom_47 rfl (lv_at hl 0 rfl) ?_
    refine wx_iast (w := (cw k)) (g := 0) (j := 4) hx hb hK hP hD hS (cIx_0 (by decide)) 0 (fun _ => rfl) rfl (sq_0 hI) dX1_measureFrom_48 (fun H locs hP hS => ?_)
    refine lv_iconst (v := 1) hx hb dX1_measureFrom_49 (by decide) ?_
    refine lv_istore (lv' := [(4, .int 1), (3, .int ((p2 <<< (5 &&& 31)) ||| p1)), (0, .ref (k.1 0 1)), (1, .int p1), (2, .int p2)]) hx hb dX1_measureFrom_50 hl (by decide) rfl (fun ls hl => ?_)
    refine lv_iconst (v := 0) hx hb dX1_measureFrom_52 (by decide) ?_
    refine lv_istore (lv' := [(5, .int 0), (4, .int 1), (3, .int ((p2 <<< (5 &&& 31)) ||| p1)), (0, .ref (k.1 0 1)), (1, .int p1), (2, .int p2)]) hx hb dX1_measureFrom_53 hl (by decide) rfl (fun ls hl => ?_)
    have e9 : f_X1_measureFrom k M p1 p2 = f_X1_measureFrom_L55 k (k.2.1 1 + 1) 1 0 (mu (mu (mr (mu M 0 1 5 ((p2 <<< (5 &&& 31)) ||| p1)) 0 3 (fillF ((mu M 0 1 5 ((p2 <<< (5 &&& 31)) ||| p1)) 0 3) (k.2.1 1) (-1))) 0 3 ((p2 * ((mr (mu M 0 1 5 ((p2 <<< (5 &&& 31)) ||| p1)) 0 3 (fillF ((mu M 0 1 5 ((p2 <<< (5 &&& 31)) ||| p1)) 0 3) (k.2.1 1) (-1))) 0 1 0)) + p1).toNatClampNeg 0) 0 4 (0 : Int32).toNatClampNeg ((p2 <<< (5 &&& 31)) ||| p1)) := (by unfold f_X1_measureFrom; rw [if_neg c_11])
    exact lp_X1_measureFrom_L55 k hx hb hr hml hts hown hlocks hK hD hZ (k.2.1 1 + 1) 1 0 (mu (mu (mr (mu M 0 1 5 ((p2 <<< (5 &&& 31)) ||| p1)) 0 3 (fillF ((mu M 0 1 5 ((p2 <<< (5 &&& 31)) ||| p1)) 0 3) (k.2.1 1) (-1))) 0 3 ((p2 * ((mr (mu M 0 1 5 ((p2 <<< (5 &&& 31)) ||| p1)) 0 3 (fillF ((mu M 0 1 5 ((p2 <<< (5 &&& 31)) ||| p1)) 0 3) (k.2.1 1) (-1))) 0 1 0)) + p1).toNatClampNeg 0) 0 4 (0 : Int32).toNatClampNeg ((p2 <<< (5 &&& 31)) ||| p1)) _ _ ls (bq_start hI ho) hP hS (lv_sub hl [0, 1, 3] rfl) _ e9.symm
  · have e9 : f_X1_measureFrom k M p1 p2 = M := (by unfold f_X1_measureFrom; rw [if_pos c_11])
    exact wx_vret hx hb hr hlocks hP hS e9.symm dX1_measureFrom_14
theorem cI_mf_L {k : CK} : ∀ (n : Nat) (q x : Int32) (M : Mem), cI k M → bq k M q → cI k (f_X1_measureFrom_L55 k n q x M) := by
  intro n
  induction n with
  | zero => intro q x M hI hq; unfold f_X1_measureFrom_L55; exact hI
  | succ n ih =>
    intro q x M hI hq
    unfold f_X1_measureFrom_L55
    split
    · exact hI
    · split
      · exact hI
      · obtain ⟨h1, h2⟩ := bq_inner (x5 := x) (x6 := M 0 4 x.toNatClampNeg &&& 31) (x7 := M 0 4 x.toNatClampNeg >>> ((5 : Int32) &&& 31)) (x8 := M 0 3 ((M 0 4 x.toNatClampNeg >>> ((5 : Int32) &&& 31)) * M 0 1 0 + (M 0 4 x.toNatClampNeg &&& 31)).toNatClampNeg + 1) 5 q 0 M hI hq
        exact ih _ _ _ h1 h2
theorem cI_measureFrom {k : CK} {M : Mem} {x y : Int32} (hI : cI k M) (ho : ¬ f_X1_isOpen k M x y = 0) : cI k (f_X1_measureFrom k M x y) := by
  unfold f_X1_measureFrom
  split
  · exact hI
  · obtain ⟨h1, h2, h3⟩ := bq_start (f := fillF (mu M 0 1 5 ((y <<< ((5 : Int32) &&& 31)) ||| x) 0 3) (k.2.1 1) (-1)) (z := (y * mr (mu M 0 1 5 ((y <<< ((5 : Int32) &&& 31)) ||| x)) 0 3 (fillF (mu M 0 1 5 ((y <<< ((5 : Int32) &&& 31)) ||| x) 0 3) (k.2.1 1) (-1)) 0 1 0 + x).toNatClampNeg) (g := (y <<< ((5 : Int32) &&& 31)) ||| x) hI ho
    exact cI_mf_L _ _ _ _ h1 h2
/-- by program, from the bytecode of RobotWorld$Land.wayLength -/
def f_X1_wayLength (k : CK) (M : Mem) (p1 : Int32) (p2 : Int32) (p3 : Int32) (p4 : Int32) : Int32 × Mem :=
  if (f_X1_isOpen k M p3 p4) = 0 then
    ((-1), M)
  else
    ((f_X1_stepsOf k (f_X1_measureFrom k M p3 p4) p1 p2), (f_X1_measureFrom k M p3 p4))
set_option maxHeartbeats 4000000 in
set_option maxRecDepth 100000 in
theorem c_X1_wayLength (l : Launch) (k : CK) (M : Mem) (p1 : Int32) (p2 : Int32) (p3 : Int32) (p4 : Int32) (hI : cI k M) : Met l yX1_wayLength wsX1_wayLength (rmK 2 54) (wPc (cw k) M [.ref (k.1 0 1), .int p1, .int p2, .int p3, .int p4]) (wQi (cw k) (fun r u => r = (f_X1_wayLength k M p1 p2 p3 p4).1 ∧ u = (f_X1_wayLength k M p1 p2 p3 p4).2)) 0 0 (wA (cw k)) := by
  refine wx_met (cc := cX1_wayLength) (maxL := 5) (ret := (some .int)) (by decide) rfl (Nat.le_of_ble_eq_true rfl) ?_
  intro p e s m below meth c ls hx hb hr hml hts hown hlocks hP hK hD hZ hS hl
  have hown : s.vm.findClass RX1 = some m.cls := hown
  have hl : lv_has ls 5 [(0, .ref (k.1 0 1)), (1, .int p1), (2, .int p2), (3, .int p3), (4, .int p4)] := hl
  refine lv_aload_n hx hb dX1_wayLength_0 rfl (lv_at hl 0 rfl) ?_
  refine lv_iload_n hx hb dX1_wayLength_1 rfl (lv_at hl 3 rfl) ?_
  refine lv_iload hx hb dX1_wayLength_2 (lv_at hl 4 rfl) ?_
  refine wx_Vi (w := (cw k)) (f_X1_isOpen k M p3 p4) M [.int p3, .int p4] [] (cZok k) ⟨hx, hb, hml, hown, hts⟩ (c_X1_isOpen l k M p3 p4 hI) (cwV 2 hts gX1_wayLength_X1_isOpen rfl rfl rfl (by decide +kernel) ⟨by decide, by decide⟩) (wx_recv (w := (cw k)) (g := 0) (j := 1) hK hP (cIx_0 (by decide)) rfl rfl) hP hK hD hZ hS rfl hl.1 rfl (Nat.le_of_ble_eq_true rfl) dX1_wayLength_4 ⟨by decide, by decide⟩ (fun H locs hP hS => ?_)
  refine lv_if_ne (tgt := 12) hx hb dX1_wayLength_7 (by decide) (fun c_7 => ?_) (fun c_7 => ?_)
  · refine lv_aload_n hx hb dX1_wayLength_12 rfl (lv_at hl 0 rfl) ?_
    refine lv_iload_n hx hb dX1_wayLength_13 rfl (lv_at hl 3 rfl) ?_
    refine lv_iload hx hb dX1_wayLength_14 (lv_at hl 4 rfl) ?_
    refine wx_Vv (w := (cw k)) (f_X1_measureFrom k M p3 p4) [.int p3, .int p4] [] (cZok k) ⟨hx, hb, hml, hown, hts⟩ (c_X1_measureFrom l k M p3 p4 hI c_7) (cwV 2 hts gX1_wayLength_X1_measureFrom rfl rfl rfl (by decide +kernel) ⟨by decide, by decide⟩) (wx_recv (w := (cw k)) (g := 0) (j := 1) hK hP (cIx_0 (by decide)) rfl rfl) hP hK hD hZ hS rfl hl.1 rfl (Nat.le_of_ble_eq_true rfl) dX1_wayLength_16 ⟨by decide, by decide⟩ (fun H locs hP hS => ?_)
    refine lv_aload_n hx hb dX1_wayLength_19 rfl (lv_at hl 0 rfl) ?_
    refine lv_iload_n hx hb dX1_wayLength_20 rfl (lv_at hl 1 rfl) ?_
    refine lv_iload_n hx hb dX1_wayLength_21 rfl (lv_at hl 2 rfl) ?_
    refine wx_Vi (w := (cw k)) (f_X1_stepsOf k (f_X1_measureFrom k M p3 p4) p1 p2) (f_X1_measureFrom k M p3 p4) [.int p1, .int p2] [] (cZok k) ⟨hx, hb, hml, hown, hts⟩ (c_X1_stepsOf l k (f_X1_measureFrom k M p3 p4) p1 p2 (cI_measureFrom hI c_7)) (cwV 2 hts gX1_wayLength_X1_stepsOf rfl rfl rfl (by decide +kernel) ⟨by decide, by decide⟩) (wx_recv (w := (cw k)) (g := 0) (j := 1) hK hP (cIx_0 (by decide)) rfl rfl) hP hK hD hZ hS rfl hl.1 rfl (Nat.le_of_ble_eq_true rfl) dX1_wayLength_22 ⟨by decide, by decide⟩ (fun H locs hP hS => ?_)
    have e9 : f_X1_wayLength k M p1 p2 p3 p4 = ((f_X1_stepsOf k (f_X1_measureFrom k M p3 p4) p1 p2), (f_X1_measureFrom k M p3 p4)) := (by unfold f_X1_wayLength; rw [if_neg c_7])
    exact wx_iret hx hb hr hlocks hP hS rfl ⟨by rw [e9], by rw [e9]⟩ dX1_wayLength_25
  · refine lv_iconst (v := (-1)) hx hb dX1_wayLength_10 (by decide) ?_
    have e9 : f_X1_wayLength k M p1 p2 p3 p4 = ((-1), M) := (by unfold f_X1_wayLength; rw [if_pos c_7])
    exact wx_iret hx hb hr hlocks hP hS rfl ⟨by rw [e9], by rw [e9]⟩ dX1_wayLength_11
theorem cI_wayLength {k : CK} {M : Mem} {x y z w : Int32} (hI : cI k M) : cI k (f_X1_wayLength k M x y z w).2 := by
  unfold f_X1_wayLength
  split
  · exact hI
  · rename_i c
    exact cI_measureFrom hI c
/-- by program: the loop at 21 of RobotWorld$Land.firstStep -/
def f_X1_firstStep_L21 (k : CK) (p1 : Int32) (p2 : Int32) (p5 : Int32) : Nat → Int32 → Mem → Int32 × Mem
  | 0, _, M => (0, M)
  | n + 1, x, M =>
    if p5 ≤ 0 then
      ((-1), M)
    else
      if 4 ≤ x then
        ((-1), M)
      else
        if (f_X1_stepsOf k M (p1 + (eB x.toNatClampNeg)) (p2 + (sB x.toNatClampNeg))) = (p5 - 1) then
          (x, M)
        else
          f_X1_firstStep_L21 k p1 p2 p5 n (x + 1) M
set_option maxHeartbeats 4000000 in
set_option maxRecDepth 100000 in
theorem lp_X1_firstStep_L21 {p : Program} {l : Launch} {e : Env} {s : State} {m : MethodId} {args : Array Value} {below : List Frame} {meth : Method} {c : Code} (k : CK) (p1 : Int32) (p2 : Int32) (p5 : Int32)  (hx : p.tables.exec = Jvm.exec) (hb : c.code = cX1_firstStep) (hr : meth.sig.returnType = (some .int)) (hml : c.maxLocals = 7) (hts : ∀ x ∈ wsX1_firstStep, x.before args s = true) (hown : s.vm.findClass RX1 = some m.cls) (hlocks : meth.locks = false) (hK : va_K (wD (cw k)) vwCl (wT (cw k)) s) {M0 : Mem} (hD : va_D (wA (cw k)) (wW (cw k) M0)) (hZ : wZ (cw k) (wA (cw k)) s s.heap)  : ∀ (n : Nat) (x : Int32) (M : Mem) (H : Heap) (locs : List Loc) (ls : Array Slot), cI k M ∧ lpI 4 n x → wP (cw k) M H → va_S (wA (cw k)) s.heap H locs → lv_has ls 7 [(6, .int x), (5, .int p5), (0, .ref (k.1 0 1)), (1, .int p1), (2, .int p2)] → ∀ (post : Int32 → Mem → Prop), post (f_X1_firstStep_L21 k p1 p2 p5 n x M).1 (f_X1_firstStep_L21 k p1 p2 p5 n x M).2 → W p l e (rmK 3 78) s m args below meth c H locs 0 0 (MQ below (wQi (cw k) post) args s 0 0 (wA (cw k))) (F0 m 21 ls []) := by
  obtain ⟨z1, z2, z3, z4, z5, z6, z7, z8, z9⟩ := (show cZ k (wA (cw k)) s s.heap from hZ)
  intro n
  induction n with
  | zero =>
    intro x M H locs ls hinv
    exact absurd hinv (fun h => lpI_z h.2)
  | succ n ih =>
    intro x M H locs ls hinv hP hS hl post hpo
    refine lv_iload hx hb dX1_firstStep_21 (lv_at hl 1 rfl) ?_
    refine lv_if_le (tgt := 68) hx hb dX1_firstStep_23 (by decide) (fun c_23 => ?_) (fun c_23 => ?_)
    · refine lv_iconst (v := (-1)) hx hb dX1_firstStep_68 (by decide) ?_
      have e9 : f_X1_firstStep_L21 k p1 p2 p5 (n + 1) x M = ((-1), M) := (by rw [f_X1_firstStep_L21]; rw [if_pos c_23])
      exact wx_iret hx hb hr hlocks hP hS rfl (by rw [e9] at hpo; exact hpo) dX1_firstStep_69
    · refine lv_iload hx hb dX1_firstStep_26 (lv_at hl 0 rfl) ?_
      refine lv_iconst (v := 4) hx hb dX1_firstStep_28 (by decide) ?_
      refine lv_icmp_ge (tgt := 68) hx hb dX1_firstStep_29 (by decide) (fun c_29 => ?_) (fun c_29 => ?_)
      · refine lv_iconst (v := (-1)) hx hb dX1_firstStep_68 (by decide) ?_
        have e9 : f_X1_firstStep_L21 k p1 p2 p5 (n + 1) x M = ((-1), M) := (by rw [f_X1_firstStep_L21]; rw [if_neg c_23, if_pos c_29])
        exact wx_iret hx hb hr hlocks hP hS rfl (by rw [e9] at hpo; exact hpo) dX1_firstStep_69
      · refine lv_aload_n hx hb dX1_firstStep_32 rfl (lv_at hl 2 rfl) ?_
        refine lv_iload_n hx hb dX1_firstStep_33 rfl (lv_at hl 3 rfl) ?_
        refine va_getsN (host := RX3) hx hb z1 hS hown (va_Nw.use rfl z5) (fun _ h9 => h9) dX1_firstStep_34 ?_
        refine lv_iload hx hb dX1_firstStep_37 (lv_at hl 0 rfl) ?_
        refine va_ti hx hb z2 hS (lpI_in hinv.2 c_29 (by decide)) rfl dX1_firstStep_39 ?_
        refine lv_iadd hx hb dX1_firstStep_40 ?_
        refine lv_iload_n hx hb dX1_firstStep_41 rfl (lv_at hl 4 rfl) ?_
        refine va_getsN (host := RX3) hx hb z3 hS hown (va_Nw.use rfl z6) (fun _ h9 => h9) dX1_firstStep_42 ?_
        refine lv_iload hx hb dX1_firstStep_45 (lv_at hl 0 rfl) ?_
        refine va_ti hx hb z4 hS (lpI_in hinv.2 c_29 (by decide)) rfl dX1_firstStep_47 ?_
        refine lv_iadd hx hb dX1_firstStep_48 ?_
        refine wx_Vi (w := (cw k)) (f_X1_stepsOf k M (p1 + (eB x.toNatClampNeg)) (p2 + (sB x.toNatClampNeg))) M [.int (p1 + (eB x.toNatClampNeg)), .int (p2 + (sB x.toNatClampNeg))] [] (cZok k) ⟨hx, hb, hml, hown, hts⟩ (c_X1_stepsOf l k M (p1 + (eB x.toNatClampNeg)) (p2 + (sB x.toNatClampNeg)) hinv.1) (cwV 2 hts gX1_firstStep_X1_stepsOf rfl rfl rfl (by decide +kernel) ⟨by decide, by decide⟩) (wx_recv (w := (cw k)) (g := 0) (j := 1) hK hP (cIx_0 (by decide)) rfl rfl) hP hK hD hZ hS rfl hl.1 rfl (Nat.le_of_ble_eq_true rfl) dX1_firstStep_49 ⟨by decide, by decide⟩ (fun H locs hP hS => ?_)
        refine lv_iload hx hb dX1_firstStep_52 (lv_at hl 1 rfl) ?_
        refine lv_iconst (v := 1) hx hb dX1_firstStep_54 (by decide) ?_
        refine lv_isub hx hb dX1_firstStep_55 ?_
        refine lv_icmp_ne (tgt := 62) hx hb dX1_firstStep_56 (by decide) (fun c_56 => ?_) (fun c_56 => ?_)
        · refine lv_iinc (v := (x + 1)) (lv' := [(6, .int (x + 1)), (5, .int p5), (0, .ref (k.1 0 1)), (1, .int p1), (2, .int p2)]) hx hb dX1_firstStep_62 hl (k := 0) rfl rfl (by decide) rfl (fun ls hl => ?_)
          refine lv_goto (tgt := 21) hx hb dX1_firstStep_65 (by decide) ?_
          have e9 : f_X1_firstStep_L21 k p1 p2 p5 (n + 1) x M = f_X1_firstStep_L21 k p1 p2 p5 n (x + 1) M := (by rw [f_X1_firstStep_L21]; rw [if_neg c_23, if_neg c_29, if_neg c_56])
          exact ih (x + 1) M _ _ ls (⟨hinv.1, lpI_s hinv.2 c_29 (by decide)⟩) hP hS (lv_sub hl [0, 1, 2, 3, 4] rfl) _ (by rw [e9] at hpo; exact hpo)
        · refine lv_iload hx hb dX1_firstStep_59 (lv_at hl 0 rfl) ?_
          have e9 : f_X1_firstStep_L21 k p1 p2 p5 (n + 1) x M = (x, M) := (by rw [f_X1_firstStep_L21]; rw [if_neg c_23, if_neg c_29, if_pos c_56])
          exact wx_iret hx hb hr hlocks hP hS rfl (by rw [e9] at hpo; exact hpo) dX1_firstStep_61
/-- by program, from the bytecode of RobotWorld$Land.firstStep -/
def f_X1_firstStep (k : CK) (M : Mem) (p1 : Int32) (p2 : Int32) (p3 : Int32) (p4 : Int32) : Int32 × Mem :=
  if (f_X1_wayLength k M p1 p2 p3 p4).1 = 0 then
    (4, (f_X1_wayLength k M p1 p2 p3 p4).2)
  else
    f_X1_firstStep_L21 k p1 p2 ((f_X1_wayLength k M p1 p2 p3 p4).1) (5) 0 (f_X1_wayLength k M p1 p2 p3 p4).2
set_option maxHeartbeats 4000000 in
set_option maxRecDepth 100000 in
theorem c_X1_firstStep (l : Launch) (k : CK) (M : Mem) (p1 : Int32) (p2 : Int32) (p3 : Int32) (p4 : Int32) (hI : cI k M) : Met l yX1_firstStep wsX1_firstStep (rmK 3 78) (wPc (cw k) M [.ref (k.1 0 1), .int p1, .int p2, .int p3, .int p4]) (wQi (cw k) (fun r u => r = (f_X1_firstStep k M p1 p2 p3 p4).1 ∧ u = (f_X1_firstStep k M p1 p2 p3 p4).2)) 0 0 (wA (cw k)) := by
  refine wx_met (cc := cX1_firstStep) (maxL := 7) (ret := (some .int)) (by decide) rfl (Nat.le_of_ble_eq_true rfl) ?_
  intro p e s m below meth c ls hx hb hr hml hts hown hlocks hP hK hD hZ hS hl
  have hown : s.vm.findClass RX1 = some m.cls := hown
  have hl : lv_has ls 7 [(0, .ref (k.1 0 1)), (1, .int p1), (2, .int p2), (3, .int p3), (4, .int p4)] := hl
  refine lv_aload_n hx hb dX1_firstStep_0 rfl (lv_at hl 0 rfl) ?_
  refine lv_iload_n hx hb dX1_firstStep_1 rfl (lv_at hl 1 rfl) ?_
  refine lv_iload_n hx hb dX1_firstStep_2 rfl (lv_at hl 2 rfl) ?_
  refine lv_iload_n hx hb dX1_firstStep_3 rfl (lv_at hl 3 rfl) ?_
  refine lv_iload hx hb dX1_firstStep_4 (lv_at hl 4 rfl) ?_
  refine wx_Vi (w := (cw k)) ((f_X1_wayLength k M p1 p2 p3 p4).1) ((f_X1_wayLength k M p1 p2 p3 p4).2) [.int p1, .int p2, .int p3, .int p4] [] (cZok k) ⟨hx, hb, hml, hown, hts⟩ (c_X1_wayLength l k M p1 p2 p3 p4 hI) (cwV 4 hts gX1_firstStep_X1_wayLength rfl rfl rfl (by decide +kernel) ⟨by decide, by decide⟩) (wx_recv (w := (cw k)) (g := 0) (j := 1) hK hP (cIx_0 (by decide)) rfl rfl) hP hK hD hZ hS rfl hl.1 rfl (Nat.le_of_ble_eq_true rfl) dX1_firstStep_6 ⟨by decide, by decide⟩ (fun H locs hP hS => ?_)
  refine lv_istore (lv' := [(5, .int ((f_X1_wayLength k M p1 p2 p3 p4).1)), (0, .ref (k.1 0 1)), (1, .int p1), (2, .int p2), (3, .int p3), (4, .int p4)]) hx hb dX1_firstStep_9 hl (by decide) rfl (fun ls hl => ?_)
  refine lv_iload hx hb dX1_firstStep_11 (lv_at hl 0 rfl) ?_
  refine lv_if_ne (tgt := 18) hx hb dX1_firstStep_13 (by decide) (fun c_13 => ?_) (fun c_13 => ?_)
  · refine lv_iconst (v := 0) hx hb dX1_firstStep_18 (by decide) ?_
    refine lv_istore (lv' := [(6, .int 0), (5, .int ((f_X1_wayLength k M p1 p2 p3 p4).1)), (0, .ref (k.1 0 1)), (1, .int p1), (2, .int p2), (3, .int p3), (4, .int p4)]) hx hb dX1_firstStep_19 hl (by decide) rfl (fun ls hl => ?_)
    have e9 : f_X1_firstStep k M p1 p2 p3 p4 = f_X1_firstStep_L21 k p1 p2 ((f_X1_wayLength k M p1 p2 p3 p4).1) (5) 0 (f_X1_wayLength k M p1 p2 p3 p4).2 := (by unfold f_X1_firstStep; rw [if_neg c_13])
    exact lp_X1_firstStep_L21 k p1 p2 ((f_X1_wayLength k M p1 p2 p3 p4).1) hx hb hr hml hts hown hlocks hK hD hZ (5) 0 (f_X1_wayLength k M p1 p2 p3 p4).2 _ _ ls (⟨cI_wayLength hI, lpI_i 4⟩) hP hS (lv_sub hl [0, 1, 2, 3, 4] rfl) _ ⟨by rw [e9], by rw [e9]⟩
  · refine lv_iconst (v := 4) hx hb dX1_firstStep_16 (by decide) ?_
    have e9 : f_X1_firstStep k M p1 p2 p3 p4 = (4, (f_X1_wayLength k M p1 p2 p3 p4).2) := (by unfold f_X1_firstStep; rw [if_pos c_13])
    exact wx_iret hx hb hr hlocks hP hS rfl ⟨by rw [e9], by rw [e9]⟩ dX1_firstStep_17
theorem fS_L {k : CK} {p1 p2 p5 : Int32} : ∀ (n : Nat) (x : Int32) (M : Mem), (f_X1_firstStep_L21 k p1 p2 p5 n x M).2 = M := by
  intro n
  induction n with
  | zero => intro x M; rfl
  | succ n ih =>
    intro x M
    unfold f_X1_firstStep_L21
    split
    · rfl
    · split
      · rfl
      · split
        · rfl
        · exact ih _ M
theorem cI_firstStep {k : CK} {M : Mem} {x y z w : Int32} (hI : cI k M) : cI k (f_X1_firstStep k M x y z w).2 := by
  unfold f_X1_firstStep
  split
  · exact cI_wayLength hI
  · rw [fS_L]
    exact cI_wayLength hI
/-- by program, from the bytecode of RobotWorld.pathLength -/
def f_X3_pathLength (k : CK) (M : Mem) (p1 : Int32) (p2 : Int32) (p3 : Int32) (p4 : Int32) : Int32 × Mem :=
  ((f_X1_wayLength k M p1 p2 p3 p4).1, (f_X1_wayLength k M p1 p2 p3 p4).2)
set_option maxHeartbeats 4000000 in
set_option maxRecDepth 100000 in
theorem c_X3_pathLength (l : Launch) (k : CK) (M : Mem) (p1 : Int32) (p2 : Int32) (p3 : Int32) (p4 : Int32) (hI : cI k M) : Met l yX3_pathLength wsX3_pathLength (rmK 3 78) (wPc (cw k) M [.ref (k.1 0 0), .int p1, .int p2, .int p3, .int p4]) (wQi (cw k) (fun r u => r = (f_X3_pathLength k M p1 p2 p3 p4).1 ∧ u = (f_X3_pathLength k M p1 p2 p3 p4).2)) 0 0 (wA (cw k)) := by
  refine wx_met (cc := cX3_pathLength) (maxL := 5) (ret := (some .int)) (by decide) rfl (Nat.le_of_ble_eq_true rfl) ?_
  intro p e s m below meth c ls hx hb hr hml hts hown hlocks hP hK hD hZ hS hl
  have hown : s.vm.findClass RX3 = some m.cls := hown
  have hl : lv_has ls 5 [(0, .ref (k.1 0 0)), (1, .int p1), (2, .int p2), (3, .int p3), (4, .int p4)] := hl
  have hiX3 : ∀ x ∈ u_ws RX3 TX3 4, x ∈ wsX3_pathLength := by decide +kernel
  have hf18 := hts (.fieldLink RX3 18 "RobotWorld" "land" "LRobotWorld$Land;") (by decide +kernel)
  refine lv_aload_n hx hb dX3_pathLength_0 rfl (lv_at hl 0 rfl) ?_
  refine wx_get (w := (cw k)) (g := 0) (j := 0) hx hb hts hiX3 hown hK hP (cIx_0 (by decide)) rfl rfl 0 (by decide) hf18 rfl dX3_pathLength_1 ?_
  refine lv_iload_n hx hb dX3_pathLength_4 rfl (lv_at hl 1 rfl) ?_
  refine lv_iload_n hx hb dX3_pathLength_5 rfl (lv_at hl 2 rfl) ?_
  refine lv_iload_n hx hb dX3_pathLength_6 rfl (lv_at hl 3 rfl) ?_
  refine lv_iload hx hb dX3_pathLength_7 (lv_at hl 4 rfl) ?_
  refine wx_Vi (w := (cw k)) ((f_X1_wayLength k M p1 p2 p3 p4).1) ((f_X1_wayLength k M p1 p2 p3 p4).2) [.int p1, .int p2, .int p3, .int p4] [] (cZok k) ⟨hx, hb, hml, hown, hts⟩ (c_X1_wayLength l k M p1 p2 p3 p4 hI) (cwV 4 hts gX3_pathLength_X1_wayLength rfl rfl rfl (by decide +kernel) ⟨by decide, by decide⟩) (wx_recv (w := (cw k)) (g := 0) (j := 1) hK hP (cIx_0 (by decide)) rfl rfl) hP hK hD hZ hS rfl hl.1 rfl (Nat.le_of_ble_eq_true rfl) dX3_pathLength_9 ⟨by decide, by decide⟩ (fun H locs hP hS => ?_)
  have e9 : f_X3_pathLength k M p1 p2 p3 p4 = ((f_X1_wayLength k M p1 p2 p3 p4).1, (f_X1_wayLength k M p1 p2 p3 p4).2) := rfl
  exact wx_iret hx hb hr hlocks hP hS rfl ⟨by rw [e9], by rw [e9]⟩ dX3_pathLength_12
theorem and3 (x : Int32) : vp_in (x &&& 3) 4 := pk_andIn x 2 (by decide) (by decide)
theorem mf_of {k : CK} {M : Mem} {i : Nat} (h : f_X2_mustFail k M i = 0) : ¬ M (i + 1) 0 7 < 0 ∧ ¬ M (i + 1) 0 8 ≤ M (i + 1) 0 7 ∧ M (i + 1) 0 7 < nI (k.2.1 2) ∧ ¬ 24 < f_X3_opOf k M (M (i + 1) 1 (M (i + 1) 0 7).toNatClampNeg) ∧ ¬ 8 ≤ f_X3_rOf k M (M (i + 1) 1 (M (i + 1) 0 7).toNatClampNeg) ∧ f_X3_sOf k M (M (i + 1) 1 (M (i + 1) 0 7).toNatClampNeg) < 8 ∧ (f_X3_opOf k M (M (i + 1) 1 (M (i + 1) 0 7).toNatClampNeg) = 6 ∨ f_X3_opOf k M (M (i + 1) 1 (M (i + 1) 0 7).toNatClampNeg) = 7 → ¬ M (i + 1) 2 (f_X3_sOf k M (M (i + 1) 1 (M (i + 1) 0 7).toNatClampNeg)).toNatClampNeg = 0) := by
  unfold f_X2_mustFail at h
  have h10 : ¬ (1 : Int32) = 0 := by decide
  split at h
  · exact absurd h h10
  · rename_i a1
    split at h
    · exact absurd h h10
    · rename_i a2
      split at h
      · rename_i a3
        split at h
        · exact absurd h h10
        · rename_i a4
          split at h
          · exact absurd h h10
          · rename_i a5
            split at h
            · rename_i a6
              refine ⟨a1, a2, a3, a4, a5, a6, fun h6 => ?_⟩
              split at h
              · split at h
                · exact absurd h h10
                · assumption
              · split at h
                · split at h
                  · exact absurd h h10
                  · assumption
                · rename_i a7 a8
                  exact absurd h6 (fun q => q.elim a7 a8)
            · exact absurd h h10
      · exact absurd h h10
theorem mf_p {k : CK} {M : Mem} {i : Nat} (hI : cI k M) (h : f_X2_mustFail k M i = 0) : vp_in (M (i + 1) 0 7) (k.2.1 2) := vinL (mf_of h).1 (mf_of h).2.2.1 (cI_l hI)
theorem mf_r {k : CK} {M : Mem} {i : Nat} (h : f_X2_mustFail k M i = 0) : vp_in (f_X3_rOf k M (M (i + 1) 1 (M (i + 1) 0 7).toNatClampNeg)) 8 := in8 (rOf_e k M _) (Int32.not_le.mp (mf_of h).2.2.2.2.1)
theorem mf_s {k : CK} {M : Mem} {i : Nat} (h : f_X2_mustFail k M i = 0) : vp_in (f_X3_sOf k M (M (i + 1) 1 (M (i + 1) 0 7).toNatClampNeg)) 8 := in8 (sOf_e k M _) (mf_of h).2.2.2.2.2.1
theorem mf_d {k : CK} {M : Mem} {i : Nat} (h : f_X2_mustFail k M i = 0) : f_X3_opOf k M (M (i + 1) 1 (M (i + 1) 0 7).toNatClampNeg) = 6 ∨ f_X3_opOf k M (M (i + 1) 1 (M (i + 1) 0 7).toNatClampNeg) = 7 → ¬ M (i + 1) 2 (f_X3_sOf k M (M (i + 1) 1 (M (i + 1) 0 7).toNatClampNeg)).toNatClampNeg = 0 := (mf_of h).2.2.2.2.2.2
/-- by program: the loop at 59 of RobotWorld.doWord -/
def f_X3_doWord_L59 (k : CK) (i : Nat) (x4 : Int32) (x5 : Int32) (x6 : Int32) (x7 : Int32) (x8 : Int32) (x9 : Int32) (x10 : Int32) (M : Mem) : Mem :=
  if x4 = 0 then
    (mu (mu (mu M (i + 1) 0 4 5) (i + 1) 0 7 x10) (i + 1) 0 9 (((mu (mu M (i + 1) 0 4 5) (i + 1) 0 7 x10) (i + 1) 0 9) + 1))
  else
    if x4 = 1 then
      (mu (mu (mu M (i + 1) 2 x5.toNatClampNeg (f_X3_calculated k M x4 x8 x9 x7)) (i + 1) 0 7 x10) (i + 1) 0 9 (((mu (mu M (i + 1) 2 x5.toNatClampNeg (f_X3_calculated k M x4 x8 x9 x7)) (i + 1) 0 7 x10) (i + 1) 0 9) + 1))
    else
      if x4 = 2 then
        (mu (mu (mu M (i + 1) 2 x5.toNatClampNeg (f_X3_calculated k M x4 x8 x9 x7)) (i + 1) 0 7 x10) (i + 1) 0 9 (((mu (mu M (i + 1) 2 x5.toNatClampNeg (f_X3_calculated k M x4 x8 x9 x7)) (i + 1) 0 7 x10) (i + 1) 0 9) + 1))
      else
        if x4 = 3 then
          (mu (mu (mu M (i + 1) 2 x5.toNatClampNeg (f_X3_calculated k M x4 x8 x9 x7)) (i + 1) 0 7 x10) (i + 1) 0 9 (((mu (mu M (i + 1) 2 x5.toNatClampNeg (f_X3_calculated k M x4 x8 x9 x7)) (i + 1) 0 7 x10) (i + 1) 0 9) + 1))
        else
          if x4 = 4 then
            (mu (mu (mu M (i + 1) 2 x5.toNatClampNeg (f_X3_calculated k M x4 x8 x9 x7)) (i + 1) 0 7 x10) (i + 1) 0 9 (((mu (mu M (i + 1) 2 x5.toNatClampNeg (f_X3_calculated k M x4 x8 x9 x7)) (i + 1) 0 7 x10) (i + 1) 0 9) + 1))
          else
            if x4 = 5 then
              (mu (mu (mu M (i + 1) 2 x5.toNatClampNeg (f_X3_calculated k M x4 x8 x9 x7)) (i + 1) 0 7 x10) (i + 1) 0 9 (((mu (mu M (i + 1) 2 x5.toNatClampNeg (f_X3_calculated k M x4 x8 x9 x7)) (i + 1) 0 7 x10) (i + 1) 0 9) + 1))
            else
              if x4 = 6 then
                (mu (mu (mu M (i + 1) 2 x5.toNatClampNeg (f_X3_calculated k M x4 x8 x9 x7)) (i + 1) 0 7 x10) (i + 1) 0 9 (((mu (mu M (i + 1) 2 x5.toNatClampNeg (f_X3_calculated k M x4 x8 x9 x7)) (i + 1) 0 7 x10) (i + 1) 0 9) + 1))
              else
                if x4 = 7 then
                  (mu (mu (mu M (i + 1) 2 x5.toNatClampNeg (f_X3_calculated k M x4 x8 x9 x7)) (i + 1) 0 7 x10) (i + 1) 0 9 (((mu (mu M (i + 1) 2 x5.toNatClampNeg (f_X3_calculated k M x4 x8 x9 x7)) (i + 1) 0 7 x10) (i + 1) 0 9) + 1))
                else
                  if x4 = 8 then
                    (mu (mu (mu M (i + 1) 2 x5.toNatClampNeg (f_X3_calculated k M x4 x8 x9 x7)) (i + 1) 0 7 x10) (i + 1) 0 9 (((mu (mu M (i + 1) 2 x5.toNatClampNeg (f_X3_calculated k M x4 x8 x9 x7)) (i + 1) 0 7 x10) (i + 1) 0 9) + 1))
                  else
                    if x4 = 9 then
                      (mu (mu (mu M (i + 1) 2 x5.toNatClampNeg (f_X3_calculated k M x4 x8 x9 x7)) (i + 1) 0 7 x10) (i + 1) 0 9 (((mu (mu M (i + 1) 2 x5.toNatClampNeg (f_X3_calculated k M x4 x8 x9 x7)) (i + 1) 0 7 x10) (i + 1) 0 9) + 1))
                    else
                      if x4 = 10 then
                        (mu (mu M (i + 1) 0 7 x7) (i + 1) 0 9 (((mu M (i + 1) 0 7 x7) (i + 1) 0 9) + 1))
                      else
                        if x4 = 11 then
                          if x8 = 0 then
                            (mu (mu M (i + 1) 0 7 x7) (i + 1) 0 9 (((mu M (i + 1) 0 7 x7) (i + 1) 0 9) + 1))
                          else
                            (mu (mu M (i + 1) 0 7 x10) (i + 1) 0 9 (((mu M (i + 1) 0 7 x10) (i + 1) 0 9) + 1))
                        else
                          if x4 = 12 then
                            if x8 = 0 then
                              (mu (mu M (i + 1) 0 7 x10) (i + 1) 0 9 (((mu M (i + 1) 0 7 x10) (i + 1) 0 9) + 1))
                            else
                              (mu (mu M (i + 1) 0 7 x7) (i + 1) 0 9 (((mu M (i + 1) 0 7 x7) (i + 1) 0 9) + 1))
                          else
                            if x4 = 13 then
                              (mu (mu (mu (f_X3_go k M i (x8 &&& 3)).2 (i + 1) 2 x6.toNatClampNeg ((f_X3_go k M i (x8 &&& 3)).1)) (i + 1) 0 7 x10) (i + 1) 0 9 (((mu (mu (f_X3_go k M i (x8 &&& 3)).2 (i + 1) 2 x6.toNatClampNeg ((f_X3_go k M i (x8 &&& 3)).1)) (i + 1) 0 7 x10) (i + 1) 0 9) + 1))
                            else
                              if x4 = 14 then
                                (mu (mu (mu M (i + 1) 2 x6.toNatClampNeg (f_X3_look k M i (x8 &&& 3))) (i + 1) 0 7 x10) (i + 1) 0 9 (((mu (mu M (i + 1) 2 x6.toNatClampNeg (f_X3_look k M i (x8 &&& 3))) (i + 1) 0 7 x10) (i + 1) 0 9) + 1))
                              else
                                if x4 = 15 then
                                  (mu (mu (mu (f_X3_take k M i).2 (i + 1) 2 x5.toNatClampNeg ((f_X3_take k M i).1)) (i + 1) 0 7 x10) (i + 1) 0 9 (((mu (mu (f_X3_take k M i).2 (i + 1) 2 x5.toNatClampNeg ((f_X3_take k M i).1)) (i + 1) 0 7 x10) (i + 1) 0 9) + 1))
                                else
                                  if x4 = 16 then
                                    (mu (mu (mu (f_X3_lay k M i).2 (i + 1) 2 x5.toNatClampNeg ((f_X3_lay k M i).1)) (i + 1) 0 7 x10) (i + 1) 0 9 (((mu (mu (f_X3_lay k M i).2 (i + 1) 2 x5.toNatClampNeg ((f_X3_lay k M i).1)) (i + 1) 0 7 x10) (i + 1) 0 9) + 1))
                                  else
                                    if x4 = 17 then
                                      (mu (mu (mu (f_X3_send k M x8 x9).2 (i + 1) 2 x5.toNatClampNeg ((f_X3_send k M x8 x9).1)) (i + 1) 0 7 x10) (i + 1) 0 9 (((mu (mu (f_X3_send k M x8 x9).2 (i + 1) 2 x5.toNatClampNeg ((f_X3_send k M x8 x9).1)) (i + 1) 0 7 x10) (i + 1) 0 9) + 1))
                                    else
                                      if x4 = 18 then
                                        if (f_X3_receive k M i x5).1 = 0 then
                                          (mu (mu (f_X3_receive k M i x5).2 (i + 1) 0 7 ((f_X3_receive k M i x5).2 (i + 1) 0 7)) (i + 1) 0 9 (((mu (f_X3_receive k M i x5).2 (i + 1) 0 7 ((f_X3_receive k M i x5).2 (i + 1) 0 7)) (i + 1) 0 9) + 1))
                                        else
                                          (mu (mu (f_X3_receive k M i x5).2 (i + 1) 0 7 x10) (i + 1) 0 9 (((mu (f_X3_receive k M i x5).2 (i + 1) 0 7 x10) (i + 1) 0 9) + 1))
                                      else
                                        if x4 = 19 then
                                          (mu (mu (f_X2_fallAsleep k M i x8) (i + 1) 0 7 x10) (i + 1) 0 9 (((mu (f_X2_fallAsleep k M i x8) (i + 1) 0 7 x10) (i + 1) 0 9) + 1))
                                        else
                                          if x4 = 20 then
                                            (mu (mu (mu (f_X1_firstStep k M (M (i + 1) 0 5) (M (i + 1) 0 6) x8 x9).2 (i + 1) 2 x5.toNatClampNeg ((f_X1_firstStep k M (M (i + 1) 0 5) (M (i + 1) 0 6) x8 x9).1)) (i + 1) 0 7 x10) (i + 1) 0 9 (((mu (mu (f_X1_firstStep k M (M (i + 1) 0 5) (M (i + 1) 0 6) x8 x9).2 (i + 1) 2 x5.toNatClampNeg ((f_X1_firstStep k M (M (i + 1) 0 5) (M (i + 1) 0 6) x8 x9).1)) (i + 1) 0 7 x10) (i + 1) 0 9) + 1))
                                          else
                                            if x4 = 21 then
                                              (mu (mu (mu (mu M (i + 1) 2 x5.toNatClampNeg (M (i + 1) 0 5)) (i + 1) 2 x6.toNatClampNeg ((mu M (i + 1) 2 x5.toNatClampNeg (M (i + 1) 0 5)) (i + 1) 0 6)) (i + 1) 0 7 x10) (i + 1) 0 9 (((mu (mu (mu M (i + 1) 2 x5.toNatClampNeg (M (i + 1) 0 5)) (i + 1) 2 x6.toNatClampNeg ((mu M (i + 1) 2 x5.toNatClampNeg (M (i + 1) 0 5)) (i + 1) 0 6)) (i + 1) 0 7 x10) (i + 1) 0 9) + 1))
                                            else
                                              if x4 = 22 then
                                                (mu (mu (mu M (i + 1) 2 x5.toNatClampNeg (M (i + 1) 0 0)) (i + 1) 0 7 x10) (i + 1) 0 9 (((mu (mu M (i + 1) 2 x5.toNatClampNeg (M (i + 1) 0 0)) (i + 1) 0 7 x10) (i + 1) 0 9) + 1))
                                              else
                                                if x4 = 23 then
                                                  (mu (mu (mu M (i + 1) 2 x5.toNatClampNeg (M 0 0 2)) (i + 1) 0 7 x10) (i + 1) 0 9 (((mu (mu M (i + 1) 2 x5.toNatClampNeg (M 0 0 2)) (i + 1) 0 7 x10) (i + 1) 0 9) + 1))
                                                else
                                                  if x4 = 24 then
                                                    (mu (mu (mu M (i + 1) 2 x5.toNatClampNeg (M (i + 1) 0 10)) (i + 1) 0 7 x10) (i + 1) 0 9 (((mu (mu M (i + 1) 2 x5.toNatClampNeg (M (i + 1) 0 10)) (i + 1) 0 7 x10) (i + 1) 0 9) + 1))
                                                  else
                                                    (mu (mu (mu M (i + 1) 2 x5.toNatClampNeg (f_X3_calculated k M x4 x8 x9 x7)) (i + 1) 0 7 x10) (i + 1) 0 9 (((mu (mu M (i + 1) 2 x5.toNatClampNeg (f_X3_calculated k M x4 x8 x9 x7)) (i + 1) 0 7 x10) (i + 1) 0 9) + 1))
set_option maxHeartbeats 4000000 in
set_option maxRecDepth 100000 in
theorem lp_X3_doWord_L59 {p : Program} {l : Launch} {e : Env} {s : State} {m : MethodId} {args : Array Value} {below : List Frame} {meth : Method} {c : Code} (k : CK) (i : Nat) (hi : i < k.2.1 0) (hx : p.tables.exec = Jvm.exec) (hb : c.code = cX3_doWord) (hr : meth.sig.returnType = none) (hml : c.maxLocals = 11) (hts : ∀ x ∈ wsX3_doWord, x.before args s = true) (hown : s.vm.findClass RX3 = some m.cls) (hlocks : meth.locks = false) (hK : va_K (wD (cw k)) vwCl (wT (cw k)) s) {M0 : Mem} (hD : va_D (wA (cw k)) (wW (cw k) M0)) (hZ : wZ (cw k) (wA (cw k)) s s.heap)  : ∀ (x4 : Int32) (x5 : Int32) (x6 : Int32) (x7 : Int32) (x8 : Int32) (x9 : Int32) (x10 : Int32) (M : Mem) (H : Heap) (locs : List Loc) (ls : Array Slot), cI k M ∧ vp_in x5 8 ∧ vp_in x6 8 ∧ (x4 = 6 ∨ x4 = 7 → ¬ x9 = 0) → wP (cw k) M H → va_S (wA (cw k)) s.heap H locs → lv_has ls 11 [(10, .int x10), (9, .int x9), (8, .int x8), (7, .int x7), (6, .int x6), (5, .int x5), (4, .int x4), (3, .ref (k.1 (i + 1) 2)), (1, .ref (k.1 (i + 1) 0)), (0, .ref (k.1 0 0))] → ∀ (post : Mem → Prop), post (f_X3_doWord_L59 k i x4 x5 x6 x7 x8 x9 x10 M) → W p l e (rmK 4 104) s m args below meth c H locs 0 0 (MQ below (wQv (cw k) post) args s 0 0 (wA (cw k))) (F0 m 59 ls []) := by
  have hiX2 : ∀ x ∈ u_ws RX2 TX2 12, x ∈ wsX3_doWord := by decide +kernel
  have hiX3 : ∀ x ∈ u_ws RX3 TX3 4, x ∈ wsX3_doWord := by decide +kernel
  have hf101 := hts (.fieldLink RX3 101 "RobotWorld$Robot" "y" "I") (by decide +kernel)
  have hf133 := hts (.fieldLink RX3 133 "RobotWorld$Robot" "place" "I") (by decide +kernel)
  have hf179 := hts (.fieldLink RX3 179 "RobotWorld$Robot" "wordsDone" "I") (by decide +kernel)
  have hf18 := hts (.fieldLink RX3 18 "RobotWorld" "land" "LRobotWorld$Land;") (by decide +kernel)
  have hf52 := hts (.fieldLink RX3 52 "RobotWorld$Robot" "state" "I") (by decide +kernel)
  have hf74 := hts (.fieldLink RX3 74 "RobotWorld$Robot" "number" "I") (by decide +kernel)
  have hf88 := hts (.fieldLink RX3 88 "RobotWorld" "clock" "I") (by decide +kernel)
  have hf95 := hts (.fieldLink RX3 95 "RobotWorld$Robot" "carried" "I") (by decide +kernel)
  have hf98 := hts (.fieldLink RX3 98 "RobotWorld$Robot" "x" "I") (by decide +kernel)
  intro x4 x5 x6 x7 x8 x9 x10 M H locs ls hinv hP hS hl post hpo
  refine lv_iload hx hb dX3_doWord_59 (lv_at hl 6 rfl) ?_
  by_cases e_61_0 : x4 = 0
  · refine lv_tableIn (tgt := 176) hx hb dX3_doWord_61 (by rw [e_61_0]; decide) (by rw [e_61_0]; decide) (by rw [e_61_0]; rfl) (by decide) ?_
    refine lv_aload_n hx hb dX3_doWord_176 rfl (lv_at hl 8 rfl) ?_
    refine lv_iconst (v := 5) hx hb dX3_doWord_177 (by decide) ?_
    refine wx_put (w := (cw k)) (g := (i + 1)) (j := 0) hx hb hts hiX2 tyX2 tyX2_ok nmX2 hown hK hP hD hS (cIx_r hi (by decide)) rfl rfl 4 (by decide) hf52 rfl (by decide +kernel) rfl (Nat.le_of_ble_eq_true rfl) dX3_doWord_178 (fun H locs hP hS => ?_)
    refine lv_goto (tgt := 421) hx hb dX3_doWord_181 (by decide) ?_
    refine lv_aload_n hx hb dX3_doWord_421 rfl (lv_at hl 8 rfl) ?_
    refine lv_iload hx hb dX3_doWord_422 (lv_at hl 0 rfl) ?_
    refine wx_put (w := (cw k)) (g := (i + 1)) (j := 0) hx hb hts hiX2 tyX2 tyX2_ok nmX2 hown hK hP hD hS (cIx_r hi (by decide)) rfl rfl 7 (by decide) hf133 rfl (by decide +kernel) rfl (Nat.le_of_ble_eq_true rfl) dX3_doWord_424 (fun H locs hP hS => ?_)
    refine lv_aload_n hx hb dX3_doWord_427 rfl (lv_at hl 8 rfl) ?_
    refine lv_dup hx hb dX3_doWord_428 rfl ?_
    refine wx_get (w := (cw k)) (g := (i + 1)) (j := 0) hx hb hts hiX2 hown hK hP (cIx_r hi (by decide)) rfl rfl 9 (by decide) hf179 rfl dX3_doWord_429 ?_
    refine lv_iconst (v := 1) hx hb dX3_doWord_432 (by decide) ?_
    refine lv_iadd hx hb dX3_doWord_433 ?_
    refine wx_put (w := (cw k)) (g := (i + 1)) (j := 0) hx hb hts hiX2 tyX2 tyX2_ok nmX2 hown hK hP hD hS (cIx_r hi (by decide)) rfl rfl 9 (by decide) hf179 rfl (by decide +kernel) rfl (Nat.le_of_ble_eq_true rfl) dX3_doWord_434 (fun H locs hP hS => ?_)
    have e9 : f_X3_doWord_L59 k i x4 x5 x6 x7 x8 x9 x10 M = (mu (mu (mu M (i + 1) 0 4 5) (i + 1) 0 7 x10) (i + 1) 0 9 (((mu (mu M (i + 1) 0 4 5) (i + 1) 0 7 x10) (i + 1) 0 9) + 1)) := (by unfold f_X3_doWord_L59; rw [if_pos e_61_0])
    exact wx_vret hx hb hr hlocks hP hS (by rw [e9] at hpo; exact hpo) dX3_doWord_437
  by_cases e_61_1 : x4 = 1
  · refine lv_tableIn (tgt := 406) hx hb dX3_doWord_61 (by rw [e_61_1]; decide) (by rw [e_61_1]; decide) (by rw [e_61_1]; rfl) (by decide) ?_
    refine lv_aload_n hx hb dX3_doWord_406 rfl (lv_at hl 7 rfl) ?_
    refine lv_iload hx hb dX3_doWord_407 (lv_at hl 5 rfl) ?_
    refine lv_iload hx hb dX3_doWord_409 (lv_at hl 6 rfl) ?_
    refine lv_iload hx hb dX3_doWord_411 (lv_at hl 2 rfl) ?_
    refine lv_iload hx hb dX3_doWord_413 (lv_at hl 1 rfl) ?_
    refine lv_iload hx hb dX3_doWord_415 (lv_at hl 3 rfl) ?_
    refine wx_Si (w := (cw k)) (f_X3_calculated k M x4 x8 x9 x7) M [.int x4, .int x8, .int x9, .int x7] [.int x5, .ref (k.1 (i + 1) 2)] (cZok k) ⟨hx, hb, hml, hown, hts⟩ (c_X3_calculated l k M x4 x8 x9 x7 hinv.2.2.2) (va_cwS 4 hts gX3_doWord_X3_calculated rfl rfl rfl (by decide +kernel) ⟨by decide, by decide⟩) hP hK hD hZ hS rfl hl.1 rfl (Nat.le_of_ble_eq_true rfl) dX3_doWord_417 ⟨by decide, by decide⟩ (fun H locs hP hS => ?_)
    refine wx_iast (w := (cw k)) (g := (i + 1)) (j := 2) hx hb hK hP hD hS (cIx_r hi (by decide)) 0 (fun _ => rfl) rfl (hinv.2.1) dX3_doWord_420 (fun H locs hP hS => ?_)
    refine lv_aload_n hx hb dX3_doWord_421 rfl (lv_at hl 8 rfl) ?_
    refine lv_iload hx hb dX3_doWord_422 (lv_at hl 0 rfl) ?_
    refine wx_put (w := (cw k)) (g := (i + 1)) (j := 0) hx hb hts hiX2 tyX2 tyX2_ok nmX2 hown hK hP hD hS (cIx_r hi (by decide)) rfl rfl 7 (by decide) hf133 rfl (by decide +kernel) rfl (Nat.le_of_ble_eq_true rfl) dX3_doWord_424 (fun H locs hP hS => ?_)
    refine lv_aload_n hx hb dX3_doWord_427 rfl (lv_at hl 8 rfl) ?_
    refine lv_dup hx hb dX3_doWord_428 rfl ?_
    refine wx_get (w := (cw k)) (g := (i + 1)) (j := 0) hx hb hts hiX2 hown hK hP (cIx_r hi (by decide)) rfl rfl 9 (by decide) hf179 rfl dX3_doWord_429 ?_
    refine lv_iconst (v := 1) hx hb dX3_doWord_432 (by decide) ?_
    refine lv_iadd hx hb dX3_doWord_433 ?_
    refine wx_put (w := (cw k)) (g := (i + 1)) (j := 0) hx hb hts hiX2 tyX2 tyX2_ok nmX2 hown hK hP hD hS (cIx_r hi (by decide)) rfl rfl 9 (by decide) hf179 rfl (by decide +kernel) rfl (Nat.le_of_ble_eq_true rfl) dX3_doWord_434 (fun H locs hP hS => ?_)
    have e9 : f_X3_doWord_L59 k i x4 x5 x6 x7 x8 x9 x10 M = (mu (mu (mu M (i + 1) 2 x5.toNatClampNeg (f_X3_calculated k M x4 x8 x9 x7)) (i + 1) 0 7 x10) (i + 1) 0 9 (((mu (mu M (i + 1) 2 x5.toNatClampNeg (f_X3_calculated k M x4 x8 x9 x7)) (i + 1) 0 7 x10) (i + 1) 0 9) + 1)) := (by unfold f_X3_doWord_L59; rw [if_neg e_61_0, if_pos e_61_1])
    exact wx_vret hx hb hr hlocks hP hS (by rw [e9] at hpo; exact hpo) dX3_doWord_437
  by_cases e_61_2 : x4 = 2
  · refine lv_tableIn (tgt := 406) hx hb dX3_doWord_61 (by rw [e_61_2]; decide) (by rw [e_61_2]; decide) (by rw [e_61_2]; rfl) (by decide) ?_
    refine lv_aload_n hx hb dX3_doWord_406 rfl (lv_at hl 7 rfl) ?_
    refine lv_iload hx hb dX3_doWord_407 (lv_at hl 5 rfl) ?_
    refine lv_iload hx hb dX3_doWord_409 (lv_at hl 6 rfl) ?_
    refine lv_iload hx hb dX3_doWord_411 (lv_at hl 2 rfl) ?_
    refine lv_iload hx hb dX3_doWord_413 (lv_at hl 1 rfl) ?_
    refine lv_iload hx hb dX3_doWord_415 (lv_at hl 3 rfl) ?_
    refine wx_Si (w := (cw k)) (f_X3_calculated k M x4 x8 x9 x7) M [.int x4, .int x8, .int x9, .int x7] [.int x5, .ref (k.1 (i + 1) 2)] (cZok k) ⟨hx, hb, hml, hown, hts⟩ (c_X3_calculated l k M x4 x8 x9 x7 hinv.2.2.2) (va_cwS 4 hts gX3_doWord_X3_calculated rfl rfl rfl (by decide +kernel) ⟨by decide, by decide⟩) hP hK hD hZ hS rfl hl.1 rfl (Nat.le_of_ble_eq_true rfl) dX3_doWord_417 ⟨by decide, by decide⟩ (fun H locs hP hS => ?_)
    refine wx_iast (w := (cw k)) (g := (i + 1)) (j := 2) hx hb hK hP hD hS (cIx_r hi (by decide)) 0 (fun _ => rfl) rfl (hinv.2.1) dX3_doWord_420 (fun H locs hP hS => ?_)
    refine lv_aload_n hx hb dX3_doWord_421 rfl (lv_at hl 8 rfl) ?_
    refine lv_iload hx hb dX3_doWord_422 (lv_at hl 0 rfl) ?_
    refine wx_put (w := (cw k)) (g := (i + 1)) (j := 0) hx hb hts hiX2 tyX2 tyX2_ok nmX2 hown hK hP hD hS (cIx_r hi (by decide)) rfl rfl 7 (by decide) hf133 rfl (by decide +kernel) rfl (Nat.le_of_ble_eq_true rfl) dX3_doWord_424 (fun H locs hP hS => ?_)
    refine lv_aload_n hx hb dX3_doWord_427 rfl (lv_at hl 8 rfl) ?_
    refine lv_dup hx hb dX3_doWord_428 rfl ?_
    refine wx_get (w := (cw k)) (g := (i + 1)) (j := 0) hx hb hts hiX2 hown hK hP (cIx_r hi (by decide)) rfl rfl 9 (by decide) hf179 rfl dX3_doWord_429 ?_
    refine lv_iconst (v := 1) hx hb dX3_doWord_432 (by decide) ?_
    refine lv_iadd hx hb dX3_doWord_433 ?_
    refine wx_put (w := (cw k)) (g := (i + 1)) (j := 0) hx hb hts hiX2 tyX2 tyX2_ok nmX2 hown hK hP hD hS (cIx_r hi (by decide)) rfl rfl 9 (by decide) hf179 rfl (by decide +kernel) rfl (Nat.le_of_ble_eq_true rfl) dX3_doWord_434 (fun H locs hP hS => ?_)
    have e9 : f_X3_doWord_L59 k i x4 x5 x6 x7 x8 x9 x10 M = (mu (mu (mu M (i + 1) 2 x5.toNatClampNeg (f_X3_calculated k M x4 x8 x9 x7)) (i + 1) 0 7 x10) (i + 1) 0 9 (((mu (mu M (i + 1) 2 x5.toNatClampNeg (f_X3_calculated k M x4 x8 x9 x7)) (i + 1) 0 7 x10) (i + 1) 0 9) + 1)) := (by unfold f_X3_doWord_L59; rw [if_neg e_61_0, if_neg e_61_1, if_pos e_61_2])
    exact wx_vret hx hb hr hlocks hP hS (by rw [e9] at hpo; exact hpo) dX3_doWord_437
  by_cases e_61_3 : x4 = 3
  · refine lv_tableIn (tgt := 406) hx hb dX3_doWord_61 (by rw [e_61_3]; decide) (by rw [e_61_3]; decide) (by rw [e_61_3]; rfl) (by decide) ?_
    refine lv_aload_n hx hb dX3_doWord_406 rfl (lv_at hl 7 rfl) ?_
    refine lv_iload hx hb dX3_doWord_407 (lv_at hl 5 rfl) ?_
    refine lv_iload hx hb dX3_doWord_409 (lv_at hl 6 rfl) ?_
    refine lv_iload hx hb dX3_doWord_411 (lv_at hl 2 rfl) ?_
    refine lv_iload hx hb dX3_doWord_413 (lv_at hl 1 rfl) ?_
    refine lv_iload hx hb dX3_doWord_415 (lv_at hl 3 rfl) ?_
    refine wx_Si (w := (cw k)) (f_X3_calculated k M x4 x8 x9 x7) M [.int x4, .int x8, .int x9, .int x7] [.int x5, .ref (k.1 (i + 1) 2)] (cZok k) ⟨hx, hb, hml, hown, hts⟩ (c_X3_calculated l k M x4 x8 x9 x7 hinv.2.2.2) (va_cwS 4 hts gX3_doWord_X3_calculated rfl rfl rfl (by decide +kernel) ⟨by decide, by decide⟩) hP hK hD hZ hS rfl hl.1 rfl (Nat.le_of_ble_eq_true rfl) dX3_doWord_417 ⟨by decide, by decide⟩ (fun H locs hP hS => ?_)
    refine wx_iast (w := (cw k)) (g := (i + 1)) (j := 2) hx hb hK hP hD hS (cIx_r hi (by decide)) 0 (fun _ => rfl) rfl (hinv.2.1) dX3_doWord_420 (fun H locs hP hS => ?_)
    refine lv_aload_n hx hb dX3_doWord_421 rfl (lv_at hl 8 rfl) ?_
    refine lv_iload hx hb dX3_doWord_422 (lv_at hl 0 rfl) ?_
    refine wx_put (w := (cw k)) (g := (i + 1)) (j := 0) hx hb hts hiX2 tyX2 tyX2_ok nmX2 hown hK hP hD hS (cIx_r hi (by decide)) rfl rfl 7 (by decide) hf133 rfl (by decide +kernel) rfl (Nat.le_of_ble_eq_true rfl) dX3_doWord_424 (fun H locs hP hS => ?_)
    refine lv_aload_n hx hb dX3_doWord_427 rfl (lv_at hl 8 rfl) ?_
    refine lv_dup hx hb dX3_doWord_428 rfl ?_
    refine wx_get (w := (cw k)) (g := (i + 1)) (j := 0) hx hb hts hiX2 hown hK hP (cIx_r hi (by decide)) rfl rfl 9 (by decide) hf179 rfl dX3_doWord_429 ?_
    refine lv_iconst (v := 1) hx hb dX3_doWord_432 (by decide) ?_
    refine lv_iadd hx hb dX3_doWord_433 ?_
    refine wx_put (w := (cw k)) (g := (i + 1)) (j := 0) hx hb hts hiX2 tyX2 tyX2_ok nmX2 hown hK hP hD hS (cIx_r hi (by decide)) rfl rfl 9 (by decide) hf179 rfl (by decide +kernel) rfl (Nat.le_of_ble_eq_true rfl) dX3_doWord_434 (fun H locs hP hS => ?_)
    have e9 : f_X3_doWord_L59 k i x4 x5 x6 x7 x8 x9 x10 M = (mu (mu (mu M (i + 1) 2 x5.toNatClampNeg (f_X3_calculated k M x4 x8 x9 x7)) (i + 1) 0 7 x10) (i + 1) 0 9 (((mu (mu M (i + 1) 2 x5.toNatClampNeg (f_X3_calculated k M x4 x8 x9 x7)) (i + 1) 0 7 x10) (i + 1) 0 9) + 1)) := (by unfold f_X3_doWord_L59; rw [if_neg e_61_0, if_neg e_61_1, if_neg e_61_2, if_pos e_61_3])
    exact wx_vret hx hb hr hlocks hP hS (by rw [e9] at hpo; exact hpo) dX3_doWord_437
  by_cases e_61_4 : x4 = 4
  · refine lv_tableIn (tgt := 406) hx hb dX3_doWord_61 (by rw [e_61_4]; decide) (by rw [e_61_4]; decide) (by rw [e_61_4]; rfl) (by decide) ?_
    refine lv_aload_n hx hb dX3_doWord_406 rfl (lv_at hl 7 rfl) ?_
    refine lv_iload hx hb dX3_doWord_407 (lv_at hl 5 rfl) ?_
    refine lv_iload hx hb dX3_doWord_409 (lv_at hl 6 rfl) ?_
    refine lv_iload hx hb dX3_doWord_411 (lv_at hl 2 rfl) ?_
    refine lv_iload hx hb dX3_doWord_413 (lv_at hl 1 rfl) ?_
    refine lv_iload hx hb dX3_doWord_415 (lv_at hl 3 rfl) ?_
    refine wx_Si (w := (cw k)) (f_X3_calculated k M x4 x8 x9 x7) M [.int x4, .int x8, .int x9, .int x7] [.int x5, .ref (k.1 (i + 1) 2)] (cZok k) ⟨hx, hb, hml, hown, hts⟩ (c_X3_calculated l k M x4 x8 x9 x7 hinv.2.2.2) (va_cwS 4 hts gX3_doWord_X3_calculated rfl rfl rfl (by decide +kernel) ⟨by decide, by decide⟩) hP hK hD hZ hS rfl hl.1 rfl (Nat.le_of_ble_eq_true rfl) dX3_doWord_417 ⟨by decide, by decide⟩ (fun H locs hP hS => ?_)
    refine wx_iast (w := (cw k)) (g := (i + 1)) (j := 2) hx hb hK hP hD hS (cIx_r hi (by decide)) 0 (fun _ => rfl) rfl (hinv.2.1) dX3_doWord_420 (fun H locs hP hS => ?_)
    refine lv_aload_n hx hb dX3_doWord_421 rfl (lv_at hl 8 rfl) ?_
    refine lv_iload hx hb dX3_doWord_422 (lv_at hl 0 rfl) ?_
    refine wx_put (w := (cw k)) (g := (i + 1)) (j := 0) hx hb hts hiX2 tyX2 tyX2_ok nmX2 hown hK hP hD hS (cIx_r hi (by decide)) rfl rfl 7 (by decide) hf133 rfl (by decide +kernel) rfl (Nat.le_of_ble_eq_true rfl) dX3_doWord_424 (fun H locs hP hS => ?_)
    refine lv_aload_n hx hb dX3_doWord_427 rfl (lv_at hl 8 rfl) ?_
    refine lv_dup hx hb dX3_doWord_428 rfl ?_
    refine wx_get (w := (cw k)) (g := (i + 1)) (j := 0) hx hb hts hiX2 hown hK hP (cIx_r hi (by decide)) rfl rfl 9 (by decide) hf179 rfl dX3_doWord_429 ?_
    refine lv_iconst (v := 1) hx hb dX3_doWord_432 (by decide) ?_
    refine lv_iadd hx hb dX3_doWord_433 ?_
    refine wx_put (w := (cw k)) (g := (i + 1)) (j := 0) hx hb hts hiX2 tyX2 tyX2_ok nmX2 hown hK hP hD hS (cIx_r hi (by decide)) rfl rfl 9 (by decide) hf179 rfl (by decide +kernel) rfl (Nat.le_of_ble_eq_true rfl) dX3_doWord_434 (fun H locs hP hS => ?_)
    have e9 : f_X3_doWord_L59 k i x4 x5 x6 x7 x8 x9 x10 M = (mu (mu (mu M (i + 1) 2 x5.toNatClampNeg (f_X3_calculated k M x4 x8 x9 x7)) (i + 1) 0 7 x10) (i + 1) 0 9 (((mu (mu M (i + 1) 2 x5.toNatClampNeg (f_X3_calculated k M x4 x8 x9 x7)) (i + 1) 0 7 x10) (i + 1) 0 9) + 1)) := (by unfold f_X3_doWord_L59; rw [if_neg e_61_0, if_neg e_61_1, if_neg e_61_2, if_neg e_61_3, if_pos e_61_4])
    exact wx_vret hx hb hr hlocks hP hS (by rw [e9] at hpo; exact hpo) dX3_doWord_437
  by_cases e_61_5 : x4 = 5
  · refine lv_tableIn (tgt := 406) hx hb dX3_doWord_61 (by rw [e_61_5]; decide) (by rw [e_61_5]; decide) (by rw [e_61_5]; rfl) (by decide) ?_
    refine lv_aload_n hx hb dX3_doWord_406 rfl (lv_at hl 7 rfl) ?_
    refine lv_iload hx hb dX3_doWord_407 (lv_at hl 5 rfl) ?_
    refine lv_iload hx hb dX3_doWord_409 (lv_at hl 6 rfl) ?_
    refine lv_iload hx hb dX3_doWord_411 (lv_at hl 2 rfl) ?_
    refine lv_iload hx hb dX3_doWord_413 (lv_at hl 1 rfl) ?_
    refine lv_iload hx hb dX3_doWord_415 (lv_at hl 3 rfl) ?_
    refine wx_Si (w := (cw k)) (f_X3_calculated k M x4 x8 x9 x7) M [.int x4, .int x8, .int x9, .int x7] [.int x5, .ref (k.1 (i + 1) 2)] (cZok k) ⟨hx, hb, hml, hown, hts⟩ (c_X3_calculated l k M x4 x8 x9 x7 hinv.2.2.2) (va_cwS 4 hts gX3_doWord_X3_calculated rfl rfl rfl (by decide +kernel) ⟨by decide, by decide⟩) hP hK hD hZ hS rfl hl.1 rfl (Nat.le_of_ble_eq_true rfl) dX3_doWord_417 ⟨by decide, by decide⟩ (fun H locs hP hS => ?_)
    refine wx_iast (w := (cw k)) (g := (i + 1)) (j := 2) hx hb hK hP hD hS (cIx_r hi (by decide)) 0 (fun _ => rfl) rfl (hinv.2.1) dX3_doWord_420 (fun H locs hP hS => ?_)
    refine lv_aload_n hx hb dX3_doWord_421 rfl (lv_at hl 8 rfl) ?_
    refine lv_iload hx hb dX3_doWord_422 (lv_at hl 0 rfl) ?_
    refine wx_put (w := (cw k)) (g := (i + 1)) (j := 0) hx hb hts hiX2 tyX2 tyX2_ok nmX2 hown hK hP hD hS (cIx_r hi (by decide)) rfl rfl 7 (by decide) hf133 rfl (by decide +kernel) rfl (Nat.le_of_ble_eq_true rfl) dX3_doWord_424 (fun H locs hP hS => ?_)
    refine lv_aload_n hx hb dX3_doWord_427 rfl (lv_at hl 8 rfl) ?_
    refine lv_dup hx hb dX3_doWord_428 rfl ?_
    refine wx_get (w := (cw k)) (g := (i + 1)) (j := 0) hx hb hts hiX2 hown hK hP (cIx_r hi (by decide)) rfl rfl 9 (by decide) hf179 rfl dX3_doWord_429 ?_
    refine lv_iconst (v := 1) hx hb dX3_doWord_432 (by decide) ?_
    refine lv_iadd hx hb dX3_doWord_433 ?_
    refine wx_put (w := (cw k)) (g := (i + 1)) (j := 0) hx hb hts hiX2 tyX2 tyX2_ok nmX2 hown hK hP hD hS (cIx_r hi (by decide)) rfl rfl 9 (by decide) hf179 rfl (by decide +kernel) rfl (Nat.le_of_ble_eq_true rfl) dX3_doWord_434 (fun H locs hP hS => ?_)
    have e9 : f_X3_doWord_L59 k i x4 x5 x6 x7 x8 x9 x10 M = (mu (mu (mu M (i + 1) 2 x5.toNatClampNeg (f_X3_calculated k M x4 x8 x9 x7)) (i + 1) 0 7 x10) (i + 1) 0 9 (((mu (mu M (i + 1) 2 x5.toNatClampNeg (f_X3_calculated k M x4 x8 x9 x7)) (i + 1) 0 7 x10) (i + 1) 0 9) + 1)) := (by unfold f_X3_doWord_L59; rw [if_neg e_61_0, if_neg e_61_1, if_neg e_61_2, if_neg e_61_3, if_neg e_61_4, if_pos e_61_5])
    exact wx_vret hx hb hr hlocks hP hS (by rw [e9] at hpo; exact hpo) dX3_doWord_437
  by_cases e_61_6 : x4 = 6
  · refine lv_tableIn (tgt := 406) hx hb dX3_doWord_61 (by rw [e_61_6]; decide) (by rw [e_61_6]; decide) (by rw [e_61_6]; rfl) (by decide) ?_
    refine lv_aload_n hx hb dX3_doWord_406 rfl (lv_at hl 7 rfl) ?_
    refine lv_iload hx hb dX3_doWord_407 (lv_at hl 5 rfl) ?_
    refine lv_iload hx hb dX3_doWord_409 (lv_at hl 6 rfl) ?_
    refine lv_iload hx hb dX3_doWord_411 (lv_at hl 2 rfl) ?_
    refine lv_iload hx hb dX3_doWord_413 (lv_at hl 1 rfl) ?_
    refine lv_iload hx hb dX3_doWord_415 (lv_at hl 3 rfl) ?_
    refine wx_Si (w := (cw k)) (f_X3_calculated k M x4 x8 x9 x7) M [.int x4, .int x8, .int x9, .int x7] [.int x5, .ref (k.1 (i + 1) 2)] (cZok k) ⟨hx, hb, hml, hown, hts⟩ (c_X3_calculated l k M x4 x8 x9 x7 hinv.2.2.2) (va_cwS 4 hts gX3_doWord_X3_calculated rfl rfl rfl (by decide +kernel) ⟨by decide, by decide⟩) hP hK hD hZ hS rfl hl.1 rfl (Nat.le_of_ble_eq_true rfl) dX3_doWord_417 ⟨by decide, by decide⟩ (fun H locs hP hS => ?_)
    refine wx_iast (w := (cw k)) (g := (i + 1)) (j := 2) hx hb hK hP hD hS (cIx_r hi (by decide)) 0 (fun _ => rfl) rfl (hinv.2.1) dX3_doWord_420 (fun H locs hP hS => ?_)
    refine lv_aload_n hx hb dX3_doWord_421 rfl (lv_at hl 8 rfl) ?_
    refine lv_iload hx hb dX3_doWord_422 (lv_at hl 0 rfl) ?_
    refine wx_put (w := (cw k)) (g := (i + 1)) (j := 0) hx hb hts hiX2 tyX2 tyX2_ok nmX2 hown hK hP hD hS (cIx_r hi (by decide)) rfl rfl 7 (by decide) hf133 rfl (by decide +kernel) rfl (Nat.le_of_ble_eq_true rfl) dX3_doWord_424 (fun H locs hP hS => ?_)
    refine lv_aload_n hx hb dX3_doWord_427 rfl (lv_at hl 8 rfl) ?_
    refine lv_dup hx hb dX3_doWord_428 rfl ?_
    refine wx_get (w := (cw k)) (g := (i + 1)) (j := 0) hx hb hts hiX2 hown hK hP (cIx_r hi (by decide)) rfl rfl 9 (by decide) hf179 rfl dX3_doWord_429 ?_
    refine lv_iconst (v := 1) hx hb dX3_doWord_432 (by decide) ?_
    refine lv_iadd hx hb dX3_doWord_433 ?_
    refine wx_put (w := (cw k)) (g := (i + 1)) (j := 0) hx hb hts hiX2 tyX2 tyX2_ok nmX2 hown hK hP hD hS (cIx_r hi (by decide)) rfl rfl 9 (by decide) hf179 rfl (by decide +kernel) rfl (Nat.le_of_ble_eq_true rfl) dX3_doWord_434 (fun H locs hP hS => ?_)
    have e9 : f_X3_doWord_L59 k i x4 x5 x6 x7 x8 x9 x10 M = (mu (mu (mu M (i + 1) 2 x5.toNatClampNeg (f_X3_calculated k M x4 x8 x9 x7)) (i + 1) 0 7 x10) (i + 1) 0 9 (((mu (mu M (i + 1) 2 x5.toNatClampNeg (f_X3_calculated k M x4 x8 x9 x7)) (i + 1) 0 7 x10) (i + 1) 0 9) + 1)) := (by unfold f_X3_doWord_L59; rw [if_neg e_61_0, if_neg e_61_1, if_neg e_61_2, if_neg e_61_3, if_neg e_61_4, if_neg e_61_5, if_pos e_61_6])
    exact wx_vret hx hb hr hlocks hP hS (by rw [e9] at hpo; exact hpo) dX3_doWord_437
  by_cases e_61_7 : x4 = 7
  · refine lv_tableIn (tgt := 406) hx hb dX3_doWord_61 (by rw [e_61_7]; decide) (by rw [e_61_7]; decide) (by rw [e_61_7]; rfl) (by decide) ?_
    refine lv_aload_n hx hb dX3_doWord_406 rfl (lv_at hl 7 rfl) ?_
    refine lv_iload hx hb dX3_doWord_407 (lv_at hl 5 rfl) ?_
    refine lv_iload hx hb dX3_doWord_409 (lv_at hl 6 rfl) ?_
    refine lv_iload hx hb dX3_doWord_411 (lv_at hl 2 rfl) ?_
    refine lv_iload hx hb dX3_doWord_413 (lv_at hl 1 rfl) ?_
    refine lv_iload hx hb dX3_doWord_415 (lv_at hl 3 rfl) ?_
    refine wx_Si (w := (cw k)) (f_X3_calculated k M x4 x8 x9 x7) M [.int x4, .int x8, .int x9, .int x7] [.int x5, .ref (k.1 (i + 1) 2)] (cZok k) ⟨hx, hb, hml, hown, hts⟩ (c_X3_calculated l k M x4 x8 x9 x7 hinv.2.2.2) (va_cwS 4 hts gX3_doWord_X3_calculated rfl rfl rfl (by decide +kernel) ⟨by decide, by decide⟩) hP hK hD hZ hS rfl hl.1 rfl (Nat.le_of_ble_eq_true rfl) dX3_doWord_417 ⟨by decide, by decide⟩ (fun H locs hP hS => ?_)
    refine wx_iast (w := (cw k)) (g := (i + 1)) (j := 2) hx hb hK hP hD hS (cIx_r hi (by decide)) 0 (fun _ => rfl) rfl (hinv.2.1) dX3_doWord_420 (fun H locs hP hS => ?_)
    refine lv_aload_n hx hb dX3_doWord_421 rfl (lv_at hl 8 rfl) ?_
    refine lv_iload hx hb dX3_doWord_422 (lv_at hl 0 rfl) ?_
    refine wx_put (w := (cw k)) (g := (i + 1)) (j := 0) hx hb hts hiX2 tyX2 tyX2_ok nmX2 hown hK hP hD hS (cIx_r hi (by decide)) rfl rfl 7 (by decide) hf133 rfl (by decide +kernel) rfl (Nat.le_of_ble_eq_true rfl) dX3_doWord_424 (fun H locs hP hS => ?_)
    refine lv_aload_n hx hb dX3_doWord_427 rfl (lv_at hl 8 rfl) ?_
    refine lv_dup hx hb dX3_doWord_428 rfl ?_
    refine wx_get (w := (cw k)) (g := (i + 1)) (j := 0) hx hb hts hiX2 hown hK hP (cIx_r hi (by decide)) rfl rfl 9 (by decide) hf179 rfl dX3_doWord_429 ?_
    refine lv_iconst (v := 1) hx hb dX3_doWord_432 (by decide) ?_
    refine lv_iadd hx hb dX3_doWord_433 ?_
    refine wx_put (w := (cw k)) (g := (i + 1)) (j := 0) hx hb hts hiX2 tyX2 tyX2_ok nmX2 hown hK hP hD hS (cIx_r hi (by decide)) rfl rfl 9 (by decide) hf179 rfl (by decide +kernel) rfl (Nat.le_of_ble_eq_true rfl) dX3_doWord_434 (fun H locs hP hS => ?_)
    have e9 : f_X3_doWord_L59 k i x4 x5 x6 x7 x8 x9 x10 M = (mu (mu (mu M (i + 1) 2 x5.toNatClampNeg (f_X3_calculated k M x4 x8 x9 x7)) (i + 1) 0 7 x10) (i + 1) 0 9 (((mu (mu M (i + 1) 2 x5.toNatClampNeg (f_X3_calculated k M x4 x8 x9 x7)) (i + 1) 0 7 x10) (i + 1) 0 9) + 1)) := (by unfold f_X3_doWord_L59; rw [if_neg e_61_0, if_neg e_61_1, if_neg e_61_2, if_neg e_61_3, if_neg e_61_4, if_neg e_61_5, if_neg e_61_6, if_pos e_61_7])
    exact wx_vret hx hb hr hlocks hP hS (by rw [e9] at hpo; exact hpo) dX3_doWord_437
  by_cases e_61_8 : x4 = 8
  · refine lv_tableIn (tgt := 406) hx hb dX3_doWord_61 (by rw [e_61_8]; decide) (by rw [e_61_8]; decide) (by rw [e_61_8]; rfl) (by decide) ?_
    refine lv_aload_n hx hb dX3_doWord_406 rfl (lv_at hl 7 rfl) ?_
    refine lv_iload hx hb dX3_doWord_407 (lv_at hl 5 rfl) ?_
    refine lv_iload hx hb dX3_doWord_409 (lv_at hl 6 rfl) ?_
    refine lv_iload hx hb dX3_doWord_411 (lv_at hl 2 rfl) ?_
    refine lv_iload hx hb dX3_doWord_413 (lv_at hl 1 rfl) ?_
    refine lv_iload hx hb dX3_doWord_415 (lv_at hl 3 rfl) ?_
    refine wx_Si (w := (cw k)) (f_X3_calculated k M x4 x8 x9 x7) M [.int x4, .int x8, .int x9, .int x7] [.int x5, .ref (k.1 (i + 1) 2)] (cZok k) ⟨hx, hb, hml, hown, hts⟩ (c_X3_calculated l k M x4 x8 x9 x7 hinv.2.2.2) (va_cwS 4 hts gX3_doWord_X3_calculated rfl rfl rfl (by decide +kernel) ⟨by decide, by decide⟩) hP hK hD hZ hS rfl hl.1 rfl (Nat.le_of_ble_eq_true rfl) dX3_doWord_417 ⟨by decide, by decide⟩ (fun H locs hP hS => ?_)
    refine wx_iast (w := (cw k)) (g := (i + 1)) (j := 2) hx hb hK hP hD hS (cIx_r hi (by decide)) 0 (fun _ => rfl) rfl (hinv.2.1) dX3_doWord_420 (fun H locs hP hS => ?_)
    refine lv_aload_n hx hb dX3_doWord_421 rfl (lv_at hl 8 rfl) ?_
    refine lv_iload hx hb dX3_doWord_422 (lv_at hl 0 rfl) ?_
    refine wx_put (w := (cw k)) (g := (i + 1)) (j := 0) hx hb hts hiX2 tyX2 tyX2_ok nmX2 hown hK hP hD hS (cIx_r hi (by decide)) rfl rfl 7 (by decide) hf133 rfl (by decide +kernel) rfl (Nat.le_of_ble_eq_true rfl) dX3_doWord_424 (fun H locs hP hS => ?_)
    refine lv_aload_n hx hb dX3_doWord_427 rfl (lv_at hl 8 rfl) ?_
    refine lv_dup hx hb dX3_doWord_428 rfl ?_
    refine wx_get (w := (cw k)) (g := (i + 1)) (j := 0) hx hb hts hiX2 hown hK hP (cIx_r hi (by decide)) rfl rfl 9 (by decide) hf179 rfl dX3_doWord_429 ?_
    refine lv_iconst (v := 1) hx hb dX3_doWord_432 (by decide) ?_
    refine lv_iadd hx hb dX3_doWord_433 ?_
    refine wx_put (w := (cw k)) (g := (i + 1)) (j := 0) hx hb hts hiX2 tyX2 tyX2_ok nmX2 hown hK hP hD hS (cIx_r hi (by decide)) rfl rfl 9 (by decide) hf179 rfl (by decide +kernel) rfl (Nat.le_of_ble_eq_true rfl) dX3_doWord_434 (fun H locs hP hS => ?_)
    have e9 : f_X3_doWord_L59 k i x4 x5 x6 x7 x8 x9 x10 M = (mu (mu (mu M (i + 1) 2 x5.toNatClampNeg (f_X3_calculated k M x4 x8 x9 x7)) (i + 1) 0 7 x10) (i + 1) 0 9 (((mu (mu M (i + 1) 2 x5.toNatClampNeg (f_X3_calculated k M x4 x8 x9 x7)) (i + 1) 0 7 x10) (i + 1) 0 9) + 1)) := (by unfold f_X3_doWord_L59; rw [if_neg e_61_0, if_neg e_61_1, if_neg e_61_2, if_neg e_61_3, if_neg e_61_4, if_neg e_61_5, if_neg e_61_6, if_neg e_61_7, if_pos e_61_8])
    exact wx_vret hx hb hr hlocks hP hS (by rw [e9] at hpo; exact hpo) dX3_doWord_437
  by_cases e_61_9 : x4 = 9
  · refine lv_tableIn (tgt := 406) hx hb dX3_doWord_61 (by rw [e_61_9]; decide) (by rw [e_61_9]; decide) (by rw [e_61_9]; rfl) (by decide) ?_
    refine lv_aload_n hx hb dX3_doWord_406 rfl (lv_at hl 7 rfl) ?_
    refine lv_iload hx hb dX3_doWord_407 (lv_at hl 5 rfl) ?_
    refine lv_iload hx hb dX3_doWord_409 (lv_at hl 6 rfl) ?_
    refine lv_iload hx hb dX3_doWord_411 (lv_at hl 2 rfl) ?_
    refine lv_iload hx hb dX3_doWord_413 (lv_at hl 1 rfl) ?_
    refine lv_iload hx hb dX3_doWord_415 (lv_at hl 3 rfl) ?_
    refine wx_Si (w := (cw k)) (f_X3_calculated k M x4 x8 x9 x7) M [.int x4, .int x8, .int x9, .int x7] [.int x5, .ref (k.1 (i + 1) 2)] (cZok k) ⟨hx, hb, hml, hown, hts⟩ (c_X3_calculated l k M x4 x8 x9 x7 hinv.2.2.2) (va_cwS 4 hts gX3_doWord_X3_calculated rfl rfl rfl (by decide +kernel) ⟨by decide, by decide⟩) hP hK hD hZ hS rfl hl.1 rfl (Nat.le_of_ble_eq_true rfl) dX3_doWord_417 ⟨by decide, by decide⟩ (fun H locs hP hS => ?_)
    refine wx_iast (w := (cw k)) (g := (i + 1)) (j := 2) hx hb hK hP hD hS (cIx_r hi (by decide)) 0 (fun _ => rfl) rfl (hinv.2.1) dX3_doWord_420 (fun H locs hP hS => ?_)
    refine lv_aload_n hx hb dX3_doWord_421 rfl (lv_at hl 8 rfl) ?_
    refine lv_iload hx hb dX3_doWord_422 (lv_at hl 0 rfl) ?_
    refine wx_put (w := (cw k)) (g := (i + 1)) (j := 0) hx hb hts hiX2 tyX2 tyX2_ok nmX2 hown hK hP hD hS (cIx_r hi (by decide)) rfl rfl 7 (by decide) hf133 rfl (by decide +kernel) rfl (Nat.le_of_ble_eq_true rfl) dX3_doWord_424 (fun H locs hP hS => ?_)
    refine lv_aload_n hx hb dX3_doWord_427 rfl (lv_at hl 8 rfl) ?_
    refine lv_dup hx hb dX3_doWord_428 rfl ?_
    refine wx_get (w := (cw k)) (g := (i + 1)) (j := 0) hx hb hts hiX2 hown hK hP (cIx_r hi (by decide)) rfl rfl 9 (by decide) hf179 rfl dX3_doWord_429 ?_
    refine lv_iconst (v := 1) hx hb dX3_doWord_432 (by decide) ?_
    refine lv_iadd hx hb dX3_doWord_433 ?_
    refine wx_put (w := (cw k)) (g := (i + 1)) (j := 0) hx hb hts hiX2 tyX2 tyX2_ok nmX2 hown hK hP hD hS (cIx_r hi (by decide)) rfl rfl 9 (by decide) hf179 rfl (by decide +kernel) rfl (Nat.le_of_ble_eq_true rfl) dX3_doWord_434 (fun H locs hP hS => ?_)
    have e9 : f_X3_doWord_L59 k i x4 x5 x6 x7 x8 x9 x10 M = (mu (mu (mu M (i + 1) 2 x5.toNatClampNeg (f_X3_calculated k M x4 x8 x9 x7)) (i + 1) 0 7 x10) (i + 1) 0 9 (((mu (mu M (i + 1) 2 x5.toNatClampNeg (f_X3_calculated k M x4 x8 x9 x7)) (i + 1) 0 7 x10) (i + 1) 0 9) + 1)) := (by unfold f_X3_doWord_L59; rw [if_neg e_61_0, if_neg e_61_1, if_neg e_61_2, if_neg e_61_3, if_neg e_61_4, if_neg e_61_5, if_neg e_61_6, if_neg e_61_7, if_neg e_61_8, if_pos e_61_9])
    exact wx_vret hx hb hr hlocks hP hS (by rw [e9] at hpo; exact hpo) dX3_doWord_437
  by_cases e_61_10 : x4 = 10
  · refine lv_tableIn (tgt := 184) hx hb dX3_doWord_61 (by rw [e_61_10]; decide) (by rw [e_61_10]; decide) (by rw [e_61_10]; rfl) (by decide) ?_
    refine lv_iload hx hb dX3_doWord_184 (lv_at hl 3 rfl) ?_
    refine lv_istore (lv' := [(10, .int x7), (9, .int x9), (8, .int x8), (7, .int x7), (6, .int x6), (5, .int x5), (4, .int x4), (3, .ref (k.1 (i + 1) 2)), (1, .ref (k.1 (i + 1) 0)), (0, .ref (k.1 0 0))]) hx hb dX3_doWord_186 hl (by decide) rfl (fun ls hl => ?_)
    refine lv_goto (tgt := 421) hx hb dX3_doWord_188 (by decide) ?_
    refine lv_aload_n hx hb dX3_doWord_421 rfl (lv_at hl 8 rfl) ?_
    refine lv_iload hx hb dX3_doWord_422 (lv_at hl 0 rfl) ?_
    refine wx_put (w := (cw k)) (g := (i + 1)) (j := 0) hx hb hts hiX2 tyX2 tyX2_ok nmX2 hown hK hP hD hS (cIx_r hi (by decide)) rfl rfl 7 (by decide) hf133 rfl (by decide +kernel) rfl (Nat.le_of_ble_eq_true rfl) dX3_doWord_424 (fun H locs hP hS => ?_)
    refine lv_aload_n hx hb dX3_doWord_427 rfl (lv_at hl 8 rfl) ?_
    refine lv_dup hx hb dX3_doWord_428 rfl ?_
    refine wx_get (w := (cw k)) (g := (i + 1)) (j := 0) hx hb hts hiX2 hown hK hP (cIx_r hi (by decide)) rfl rfl 9 (by decide) hf179 rfl dX3_doWord_429 ?_
    refine lv_iconst (v := 1) hx hb dX3_doWord_432 (by decide) ?_
    refine lv_iadd hx hb dX3_doWord_433 ?_
    refine wx_put (w := (cw k)) (g := (i + 1)) (j := 0) hx hb hts hiX2 tyX2 tyX2_ok nmX2 hown hK hP hD hS (cIx_r hi (by decide)) rfl rfl 9 (by decide) hf179 rfl (by decide +kernel) rfl (Nat.le_of_ble_eq_true rfl) dX3_doWord_434 (fun H locs hP hS => ?_)
    have e9 : f_X3_doWord_L59 k i x4 x5 x6 x7 x8 x9 x10 M = (mu (mu M (i + 1) 0 7 x7) (i + 1) 0 9 (((mu M (i + 1) 0 7 x7) (i + 1) 0 9) + 1)) := (by unfold f_X3_doWord_L59; rw [if_neg e_61_0, if_neg e_61_1, if_neg e_61_2, if_neg e_61_3, if_neg e_61_4, if_neg e_61_5, if_neg e_61_6, if_neg e_61_7, if_neg e_61_8, if_neg e_61_9, if_pos e_61_10])
    exact wx_vret hx hb hr hlocks hP hS (by rw [e9] at hpo; exact hpo) dX3_doWord_437
  by_cases e_61_11 : x4 = 11
  · refine lv_tableIn (tgt := 191) hx hb dX3_doWord_61 (by rw [e_61_11]; decide) (by rw [e_61_11]; decide) (by rw [e_61_11]; rfl) (by decide) ?_
    refine lv_iload hx hb dX3_doWord_191 (lv_at hl 2 rfl) ?_
    refine lv_if_ne (tgt := 201) hx hb dX3_doWord_193 (by decide) (fun c_193 => ?_) (fun c_193 => ?_)
    · refine lv_iload hx hb dX3_doWord_201 (lv_at hl 0 rfl) ?_
      refine lv_istore (lv' := [(10, .int x10), (9, .int x9), (8, .int x8), (7, .int x7), (6, .int x6), (5, .int x5), (4, .int x4), (3, .ref (k.1 (i + 1) 2)), (1, .ref (k.1 (i + 1) 0)), (0, .ref (k.1 0 0))]) hx hb dX3_doWord_203 hl (by decide) rfl (fun ls hl => ?_)
      refine lv_goto (tgt := 421) hx hb dX3_doWord_205 (by decide) ?_
      refine lv_aload_n hx hb dX3_doWord_421 rfl (lv_at hl 8 rfl) ?_
      refine lv_iload hx hb dX3_doWord_422 (lv_at hl 0 rfl) ?_
      refine wx_put (w := (cw k)) (g := (i + 1)) (j := 0) hx hb hts hiX2 tyX2 tyX2_ok nmX2 hown hK hP hD hS (cIx_r hi (by decide)) rfl rfl 7 (by decide) hf133 rfl (by decide +kernel) rfl (Nat.le_of_ble_eq_true rfl) dX3_doWord_424 (fun H locs hP hS => ?_)
      refine lv_aload_n hx hb dX3_doWord_427 rfl (lv_at hl 8 rfl) ?_
      refine lv_dup hx hb dX3_doWord_428 rfl ?_
      refine wx_get (w := (cw k)) (g := (i + 1)) (j := 0) hx hb hts hiX2 hown hK hP (cIx_r hi (by decide)) rfl rfl 9 (by decide) hf179 rfl dX3_doWord_429 ?_
      refine lv_iconst (v := 1) hx hb dX3_doWord_432 (by decide) ?_
      refine lv_iadd hx hb dX3_doWord_433 ?_
      refine wx_put (w := (cw k)) (g := (i + 1)) (j := 0) hx hb hts hiX2 tyX2 tyX2_ok nmX2 hown hK hP hD hS (cIx_r hi (by decide)) rfl rfl 9 (by decide) hf179 rfl (by decide +kernel) rfl (Nat.le_of_ble_eq_true rfl) dX3_doWord_434 (fun H locs hP hS => ?_)
      have e9 : f_X3_doWord_L59 k i x4 x5 x6 x7 x8 x9 x10 M = (mu (mu M (i + 1) 0 7 x10) (i + 1) 0 9 (((mu M (i + 1) 0 7 x10) (i + 1) 0 9) + 1)) := (by unfold f_X3_doWord_L59; rw [if_neg e_61_0, if_neg e_61_1, if_neg e_61_2, if_neg e_61_3, if_neg e_61_4, if_neg e_61_5, if_neg e_61_6, if_neg e_61_7, if_neg e_61_8, if_neg e_61_9, if_neg e_61_10, if_pos e_61_11, if_neg c_193])
      exact wx_vret hx hb hr hlocks hP hS (by rw [e9] at hpo; exact hpo) dX3_doWord_437
    · refine lv_iload hx hb dX3_doWord_196 (lv_at hl 3 rfl) ?_
      refine lv_goto (tgt := 203) hx hb dX3_doWord_198 (by decide) ?_
      refine lv_istore (lv' := [(10, .int x7), (9, .int x9), (8, .int x8), (7, .int x7), (6, .int x6), (5, .int x5), (4, .int x4), (3, .ref (k.1 (i + 1) 2)), (1, .ref (k.1 (i + 1) 0)), (0, .ref (k.1 0 0))]) hx hb dX3_doWord_203 hl (by decide) rfl (fun ls hl => ?_)
      refine lv_goto (tgt := 421) hx hb dX3_doWord_205 (by decide) ?_
      refine lv_aload_n hx hb dX3_doWord_421 rfl (lv_at hl 8 rfl) ?_
      refine lv_iload hx hb dX3_doWord_422 (lv_at hl 0 rfl) ?_
      refine wx_put (w := (cw k)) (g := (i + 1)) (j := 0) hx hb hts hiX2 tyX2 tyX2_ok nmX2 hown hK hP hD hS (cIx_r hi (by decide)) rfl rfl 7 (by decide) hf133 rfl (by decide +kernel) rfl (Nat.le_of_ble_eq_true rfl) dX3_doWord_424 (fun H locs hP hS => ?_)
      refine lv_aload_n hx hb dX3_doWord_427 rfl (lv_at hl 8 rfl) ?_
      refine lv_dup hx hb dX3_doWord_428 rfl ?_
      refine wx_get (w := (cw k)) (g := (i + 1)) (j := 0) hx hb hts hiX2 hown hK hP (cIx_r hi (by decide)) rfl rfl 9 (by decide) hf179 rfl dX3_doWord_429 ?_
      refine lv_iconst (v := 1) hx hb dX3_doWord_432 (by decide) ?_
      refine lv_iadd hx hb dX3_doWord_433 ?_
      refine wx_put (w := (cw k)) (g := (i + 1)) (j := 0) hx hb hts hiX2 tyX2 tyX2_ok nmX2 hown hK hP hD hS (cIx_r hi (by decide)) rfl rfl 9 (by decide) hf179 rfl (by decide +kernel) rfl (Nat.le_of_ble_eq_true rfl) dX3_doWord_434 (fun H locs hP hS => ?_)
      have e9 : f_X3_doWord_L59 k i x4 x5 x6 x7 x8 x9 x10 M = (mu (mu M (i + 1) 0 7 x7) (i + 1) 0 9 (((mu M (i + 1) 0 7 x7) (i + 1) 0 9) + 1)) := (by unfold f_X3_doWord_L59; rw [if_neg e_61_0, if_neg e_61_1, if_neg e_61_2, if_neg e_61_3, if_neg e_61_4, if_neg e_61_5, if_neg e_61_6, if_neg e_61_7, if_neg e_61_8, if_neg e_61_9, if_neg e_61_10, if_pos e_61_11, if_pos c_193])
      exact wx_vret hx hb hr hlocks hP hS (by rw [e9] at hpo; exact hpo) dX3_doWord_437
  by_cases e_61_12 : x4 = 12
  · refine lv_tableIn (tgt := 208) hx hb dX3_doWord_61 (by rw [e_61_12]; decide) (by rw [e_61_12]; decide) (by rw [e_61_12]; rfl) (by decide) ?_
    refine lv_iload hx hb dX3_doWord_208 (lv_at hl 2 rfl) ?_
    refine lv_if_eq (tgt := 218) hx hb dX3_doWord_210 (by decide) (fun c_210 => ?_) (fun c_210 => ?_)
    · refine lv_iload hx hb dX3_doWord_218 (lv_at hl 0 rfl) ?_
      refine lv_istore (lv' := [(10, .int x10), (9, .int x9), (8, .int x8), (7, .int x7), (6, .int x6), (5, .int x5), (4, .int x4), (3, .ref (k.1 (i + 1) 2)), (1, .ref (k.1 (i + 1) 0)), (0, .ref (k.1 0 0))]) hx hb dX3_doWord_220 hl (by decide) rfl (fun ls hl => ?_)
      refine lv_goto (tgt := 421) hx hb dX3_doWord_222 (by decide) ?_
      refine lv_aload_n hx hb dX3_doWord_421 rfl (lv_at hl 8 rfl) ?_
      refine lv_iload hx hb dX3_doWord_422 (lv_at hl 0 rfl) ?_
      refine wx_put (w := (cw k)) (g := (i + 1)) (j := 0) hx hb hts hiX2 tyX2 tyX2_ok nmX2 hown hK hP hD hS (cIx_r hi (by decide)) rfl rfl 7 (by decide) hf133 rfl (by decide +kernel) rfl (Nat.le_of_ble_eq_true rfl) dX3_doWord_424 (fun H locs hP hS => ?_)
      refine lv_aload_n hx hb dX3_doWord_427 rfl (lv_at hl 8 rfl) ?_
      refine lv_dup hx hb dX3_doWord_428 rfl ?_
      refine wx_get (w := (cw k)) (g := (i + 1)) (j := 0) hx hb hts hiX2 hown hK hP (cIx_r hi (by decide)) rfl rfl 9 (by decide) hf179 rfl dX3_doWord_429 ?_
      refine lv_iconst (v := 1) hx hb dX3_doWord_432 (by decide) ?_
      refine lv_iadd hx hb dX3_doWord_433 ?_
      refine wx_put (w := (cw k)) (g := (i + 1)) (j := 0) hx hb hts hiX2 tyX2 tyX2_ok nmX2 hown hK hP hD hS (cIx_r hi (by decide)) rfl rfl 9 (by decide) hf179 rfl (by decide +kernel) rfl (Nat.le_of_ble_eq_true rfl) dX3_doWord_434 (fun H locs hP hS => ?_)
      have e9 : f_X3_doWord_L59 k i x4 x5 x6 x7 x8 x9 x10 M = (mu (mu M (i + 1) 0 7 x10) (i + 1) 0 9 (((mu M (i + 1) 0 7 x10) (i + 1) 0 9) + 1)) := (by unfold f_X3_doWord_L59; rw [if_neg e_61_0, if_neg e_61_1, if_neg e_61_2, if_neg e_61_3, if_neg e_61_4, if_neg e_61_5, if_neg e_61_6, if_neg e_61_7, if_neg e_61_8, if_neg e_61_9, if_neg e_61_10, if_neg e_61_11, if_pos e_61_12, if_pos c_210])
      exact wx_vret hx hb hr hlocks hP hS (by rw [e9] at hpo; exact hpo) dX3_doWord_437
    · refine lv_iload hx hb dX3_doWord_213 (lv_at hl 3 rfl) ?_
      refine lv_goto (tgt := 220) hx hb dX3_doWord_215 (by decide) ?_
      refine lv_istore (lv' := [(10, .int x7), (9, .int x9), (8, .int x8), (7, .int x7), (6, .int x6), (5, .int x5), (4, .int x4), (3, .ref (k.1 (i + 1) 2)), (1, .ref (k.1 (i + 1) 0)), (0, .ref (k.1 0 0))]) hx hb dX3_doWord_220 hl (by decide) rfl (fun ls hl => ?_)
      refine lv_goto (tgt := 421) hx hb dX3_doWord_222 (by decide) ?_
      refine lv_aload_n hx hb dX3_doWord_421 rfl (lv_at hl 8 rfl) ?_
      refine lv_iload hx hb dX3_doWord_422 (lv_at hl 0 rfl) ?_
      refine wx_put (w := (cw k)) (g := (i + 1)) (j := 0) hx hb hts hiX2 tyX2 tyX2_ok nmX2 hown hK hP hD hS (cIx_r hi (by decide)) rfl rfl 7 (by decide) hf133 rfl (by decide +kernel) rfl (Nat.le_of_ble_eq_true rfl) dX3_doWord_424 (fun H locs hP hS => ?_)
      refine lv_aload_n hx hb dX3_doWord_427 rfl (lv_at hl 8 rfl) ?_
      refine lv_dup hx hb dX3_doWord_428 rfl ?_
      refine wx_get (w := (cw k)) (g := (i + 1)) (j := 0) hx hb hts hiX2 hown hK hP (cIx_r hi (by decide)) rfl rfl 9 (by decide) hf179 rfl dX3_doWord_429 ?_
      refine lv_iconst (v := 1) hx hb dX3_doWord_432 (by decide) ?_
      refine lv_iadd hx hb dX3_doWord_433 ?_
      refine wx_put (w := (cw k)) (g := (i + 1)) (j := 0) hx hb hts hiX2 tyX2 tyX2_ok nmX2 hown hK hP hD hS (cIx_r hi (by decide)) rfl rfl 9 (by decide) hf179 rfl (by decide +kernel) rfl (Nat.le_of_ble_eq_true rfl) dX3_doWord_434 (fun H locs hP hS => ?_)
      have e9 : f_X3_doWord_L59 k i x4 x5 x6 x7 x8 x9 x10 M = (mu (mu M (i + 1) 0 7 x7) (i + 1) 0 9 (((mu M (i + 1) 0 7 x7) (i + 1) 0 9) + 1)) := (by unfold f_X3_doWord_L59; rw [if_neg e_61_0, if_neg e_61_1, if_neg e_61_2, if_neg e_61_3, if_neg e_61_4, if_neg e_61_5, if_neg e_61_6, if_neg e_61_7, if_neg e_61_8, if_neg e_61_9, if_neg e_61_10, if_neg e_61_11, if_pos e_61_12, if_neg c_210])
      exact wx_vret hx hb hr hlocks hP hS (by rw [e9] at hpo; exact hpo) dX3_doWord_437
  by_cases e_61_13 : x4 = 13
  · refine lv_tableIn (tgt := 225) hx hb dX3_doWord_61 (by rw [e_61_13]; decide) (by rw [e_61_13]; decide) (by rw [e_61_13]; rfl) (by decide) ?_
    refine lv_aload_n hx hb dX3_doWord_225 rfl (lv_at hl 7 rfl) ?_
    refine lv_iload hx hb dX3_doWord_226 (lv_at hl 4 rfl) ?_
    refine lv_aload_n hx hb dX3_doWord_228 rfl (lv_at hl 9 rfl) ?_
    refine lv_aload_n hx hb dX3_doWord_229 rfl (lv_at hl 8 rfl) ?_
    refine lv_iload hx hb dX3_doWord_230 (lv_at hl 2 rfl) ?_
    refine lv_iconst (v := 3) hx hb dX3_doWord_232 (by decide) ?_
    refine lv_iand hx hb dX3_doWord_233 ?_
    refine wx_Vi (w := (cw k)) ((f_X3_go k M i (x8 &&& 3)).1) ((f_X3_go k M i (x8 &&& 3)).2) [.ref (k.1 (i + 1) 0), .int (x8 &&& 3)] [.int x6, .ref (k.1 (i + 1) 2)] (cZok k) ⟨hx, hb, hml, hown, hts⟩ (c_X3_go l k M i (x8 &&& 3) (hi) hinv.1 (and3 _)) (cwV 2 hts gX3_doWord_X3_go rfl rfl rfl (by decide +kernel) ⟨by decide, by decide⟩) (wx_recv (w := (cw k)) (g := 0) (j := 0) hK hP (cIx_0 (by decide)) rfl rfl) hP hK hD hZ hS rfl hl.1 rfl (Nat.le_of_ble_eq_true rfl) dX3_doWord_234 ⟨by decide, by decide⟩ (fun H locs hP hS => ?_)
    refine wx_iast (w := (cw k)) (g := (i + 1)) (j := 2) hx hb hK hP hD hS (cIx_r hi (by decide)) 0 (fun _ => rfl) rfl (hinv.2.2.1) dX3_doWord_237 (fun H locs hP hS => ?_)
    refine lv_goto (tgt := 421) hx hb dX3_doWord_238 (by decide) ?_
    refine lv_aload_n hx hb dX3_doWord_421 rfl (lv_at hl 8 rfl) ?_
    refine lv_iload hx hb dX3_doWord_422 (lv_at hl 0 rfl) ?_
    refine wx_put (w := (cw k)) (g := (i + 1)) (j := 0) hx hb hts hiX2 tyX2 tyX2_ok nmX2 hown hK hP hD hS (cIx_r hi (by decide)) rfl rfl 7 (by decide) hf133 rfl (by decide +kernel) rfl (Nat.le_of_ble_eq_true rfl) dX3_doWord_424 (fun H locs hP hS => ?_)
    refine lv_aload_n hx hb dX3_doWord_427 rfl (lv_at hl 8 rfl) ?_
    refine lv_dup hx hb dX3_doWord_428 rfl ?_
    refine wx_get (w := (cw k)) (g := (i + 1)) (j := 0) hx hb hts hiX2 hown hK hP (cIx_r hi (by decide)) rfl rfl 9 (by decide) hf179 rfl dX3_doWord_429 ?_
    refine lv_iconst (v := 1) hx hb dX3_doWord_432 (by decide) ?_
    refine lv_iadd hx hb dX3_doWord_433 ?_
    refine wx_put (w := (cw k)) (g := (i + 1)) (j := 0) hx hb hts hiX2 tyX2 tyX2_ok nmX2 hown hK hP hD hS (cIx_r hi (by decide)) rfl rfl 9 (by decide) hf179 rfl (by decide +kernel) rfl (Nat.le_of_ble_eq_true rfl) dX3_doWord_434 (fun H locs hP hS => ?_)
    have e9 : f_X3_doWord_L59 k i x4 x5 x6 x7 x8 x9 x10 M = (mu (mu (mu (f_X3_go k M i (x8 &&& 3)).2 (i + 1) 2 x6.toNatClampNeg ((f_X3_go k M i (x8 &&& 3)).1)) (i + 1) 0 7 x10) (i + 1) 0 9 (((mu (mu (f_X3_go k M i (x8 &&& 3)).2 (i + 1) 2 x6.toNatClampNeg ((f_X3_go k M i (x8 &&& 3)).1)) (i + 1) 0 7 x10) (i + 1) 0 9) + 1)) := (by unfold f_X3_doWord_L59; rw [if_neg e_61_0, if_neg e_61_1, if_neg e_61_2, if_neg e_61_3, if_neg e_61_4, if_neg e_61_5, if_neg e_61_6, if_neg e_61_7, if_neg e_61_8, if_neg e_61_9, if_neg e_61_10, if_neg e_61_11, if_neg e_61_12, if_pos e_61_13])
    exact wx_vret hx hb hr hlocks hP hS (by rw [e9] at hpo; exact hpo) dX3_doWord_437
  by_cases e_61_14 : x4 = 14
  · refine lv_tableIn (tgt := 241) hx hb dX3_doWord_61 (by rw [e_61_14]; decide) (by rw [e_61_14]; decide) (by rw [e_61_14]; rfl) (by decide) ?_
    refine lv_aload_n hx hb dX3_doWord_241 rfl (lv_at hl 7 rfl) ?_
    refine lv_iload hx hb dX3_doWord_242 (lv_at hl 4 rfl) ?_
    refine lv_aload_n hx hb dX3_doWord_244 rfl (lv_at hl 9 rfl) ?_
    refine lv_aload_n hx hb dX3_doWord_245 rfl (lv_at hl 8 rfl) ?_
    refine lv_iload hx hb dX3_doWord_246 (lv_at hl 2 rfl) ?_
    refine lv_iconst (v := 3) hx hb dX3_doWord_248 (by decide) ?_
    refine lv_iand hx hb dX3_doWord_249 ?_
    refine wx_Vi (w := (cw k)) (f_X3_look k M i (x8 &&& 3)) M [.ref (k.1 (i + 1) 0), .int (x8 &&& 3)] [.int x6, .ref (k.1 (i + 1) 2)] (cZok k) ⟨hx, hb, hml, hown, hts⟩ (c_X3_look l k M i (x8 &&& 3) (hi) hinv.1 (and3 _)) (cwV 2 hts gX3_doWord_X3_look rfl rfl rfl (by decide +kernel) ⟨by decide, by decide⟩) (wx_recv (w := (cw k)) (g := 0) (j := 0) hK hP (cIx_0 (by decide)) rfl rfl) hP hK hD hZ hS rfl hl.1 rfl (Nat.le_of_ble_eq_true rfl) dX3_doWord_250 ⟨by decide, by decide⟩ (fun H locs hP hS => ?_)
    refine wx_iast (w := (cw k)) (g := (i + 1)) (j := 2) hx hb hK hP hD hS (cIx_r hi (by decide)) 0 (fun _ => rfl) rfl (hinv.2.2.1) dX3_doWord_253 (fun H locs hP hS => ?_)
    refine lv_goto (tgt := 421) hx hb dX3_doWord_254 (by decide) ?_
    refine lv_aload_n hx hb dX3_doWord_421 rfl (lv_at hl 8 rfl) ?_
    refine lv_iload hx hb dX3_doWord_422 (lv_at hl 0 rfl) ?_
    refine wx_put (w := (cw k)) (g := (i + 1)) (j := 0) hx hb hts hiX2 tyX2 tyX2_ok nmX2 hown hK hP hD hS (cIx_r hi (by decide)) rfl rfl 7 (by decide) hf133 rfl (by decide +kernel) rfl (Nat.le_of_ble_eq_true rfl) dX3_doWord_424 (fun H locs hP hS => ?_)
    refine lv_aload_n hx hb dX3_doWord_427 rfl (lv_at hl 8 rfl) ?_
    refine lv_dup hx hb dX3_doWord_428 rfl ?_
    refine wx_get (w := (cw k)) (g := (i + 1)) (j := 0) hx hb hts hiX2 hown hK hP (cIx_r hi (by decide)) rfl rfl 9 (by decide) hf179 rfl dX3_doWord_429 ?_
    refine lv_iconst (v := 1) hx hb dX3_doWord_432 (by decide) ?_
    refine lv_iadd hx hb dX3_doWord_433 ?_
    refine wx_put (w := (cw k)) (g := (i + 1)) (j := 0) hx hb hts hiX2 tyX2 tyX2_ok nmX2 hown hK hP hD hS (cIx_r hi (by decide)) rfl rfl 9 (by decide) hf179 rfl (by decide +kernel) rfl (Nat.le_of_ble_eq_true rfl) dX3_doWord_434 (fun H locs hP hS => ?_)
    have e9 : f_X3_doWord_L59 k i x4 x5 x6 x7 x8 x9 x10 M = (mu (mu (mu M (i + 1) 2 x6.toNatClampNeg (f_X3_look k M i (x8 &&& 3))) (i + 1) 0 7 x10) (i + 1) 0 9 (((mu (mu M (i + 1) 2 x6.toNatClampNeg (f_X3_look k M i (x8 &&& 3))) (i + 1) 0 7 x10) (i + 1) 0 9) + 1)) := (by unfold f_X3_doWord_L59; rw [if_neg e_61_0, if_neg e_61_1, if_neg e_61_2, if_neg e_61_3, if_neg e_61_4, if_neg e_61_5, if_neg e_61_6, if_neg e_61_7, if_neg e_61_8, if_neg e_61_9, if_neg e_61_10, if_neg e_61_11, if_neg e_61_12, if_neg e_61_13, if_pos e_61_14])
    exact wx_vret hx hb hr hlocks hP hS (by rw [e9] at hpo; exact hpo) dX3_doWord_437
  by_cases e_61_15 : x4 = 15
  · refine lv_tableIn (tgt := 257) hx hb dX3_doWord_61 (by rw [e_61_15]; decide) (by rw [e_61_15]; decide) (by rw [e_61_15]; rfl) (by decide) ?_
    refine lv_aload_n hx hb dX3_doWord_257 rfl (lv_at hl 7 rfl) ?_
    refine lv_iload hx hb dX3_doWord_258 (lv_at hl 5 rfl) ?_
    refine lv_aload_n hx hb dX3_doWord_260 rfl (lv_at hl 9 rfl) ?_
    refine lv_aload_n hx hb dX3_doWord_261 rfl (lv_at hl 8 rfl) ?_
    refine wx_Vi (w := (cw k)) ((f_X3_take k M i).1) ((f_X3_take k M i).2) [.ref (k.1 (i + 1) 0)] [.int x5, .ref (k.1 (i + 1) 2)] (cZok k) ⟨hx, hb, hml, hown, hts⟩ (c_X3_take l k M i (hi) hinv.1) (cwV 1 hts gX3_doWord_X3_take rfl rfl rfl (by decide +kernel) ⟨by decide, by decide⟩) (wx_recv (w := (cw k)) (g := 0) (j := 0) hK hP (cIx_0 (by decide)) rfl rfl) hP hK hD hZ hS rfl hl.1 rfl (Nat.le_of_ble_eq_true rfl) dX3_doWord_262 ⟨by decide, by decide⟩ (fun H locs hP hS => ?_)
    refine wx_iast (w := (cw k)) (g := (i + 1)) (j := 2) hx hb hK hP hD hS (cIx_r hi (by decide)) 0 (fun _ => rfl) rfl (hinv.2.1) dX3_doWord_265 (fun H locs hP hS => ?_)
    refine lv_goto (tgt := 421) hx hb dX3_doWord_266 (by decide) ?_
    refine lv_aload_n hx hb dX3_doWord_421 rfl (lv_at hl 8 rfl) ?_
    refine lv_iload hx hb dX3_doWord_422 (lv_at hl 0 rfl) ?_
    refine wx_put (w := (cw k)) (g := (i + 1)) (j := 0) hx hb hts hiX2 tyX2 tyX2_ok nmX2 hown hK hP hD hS (cIx_r hi (by decide)) rfl rfl 7 (by decide) hf133 rfl (by decide +kernel) rfl (Nat.le_of_ble_eq_true rfl) dX3_doWord_424 (fun H locs hP hS => ?_)
    refine lv_aload_n hx hb dX3_doWord_427 rfl (lv_at hl 8 rfl) ?_
    refine lv_dup hx hb dX3_doWord_428 rfl ?_
    refine wx_get (w := (cw k)) (g := (i + 1)) (j := 0) hx hb hts hiX2 hown hK hP (cIx_r hi (by decide)) rfl rfl 9 (by decide) hf179 rfl dX3_doWord_429 ?_
    refine lv_iconst (v := 1) hx hb dX3_doWord_432 (by decide) ?_
    refine lv_iadd hx hb dX3_doWord_433 ?_
    refine wx_put (w := (cw k)) (g := (i + 1)) (j := 0) hx hb hts hiX2 tyX2 tyX2_ok nmX2 hown hK hP hD hS (cIx_r hi (by decide)) rfl rfl 9 (by decide) hf179 rfl (by decide +kernel) rfl (Nat.le_of_ble_eq_true rfl) dX3_doWord_434 (fun H locs hP hS => ?_)
    have e9 : f_X3_doWord_L59 k i x4 x5 x6 x7 x8 x9 x10 M = (mu (mu (mu (f_X3_take k M i).2 (i + 1) 2 x5.toNatClampNeg ((f_X3_take k M i).1)) (i + 1) 0 7 x10) (i + 1) 0 9 (((mu (mu (f_X3_take k M i).2 (i + 1) 2 x5.toNatClampNeg ((f_X3_take k M i).1)) (i + 1) 0 7 x10) (i + 1) 0 9) + 1)) := (by unfold f_X3_doWord_L59; rw [if_neg e_61_0, if_neg e_61_1, if_neg e_61_2, if_neg e_61_3, if_neg e_61_4, if_neg e_61_5, if_neg e_61_6, if_neg e_61_7, if_neg e_61_8, if_neg e_61_9, if_neg e_61_10, if_neg e_61_11, if_neg e_61_12, if_neg e_61_13, if_neg e_61_14, if_pos e_61_15])
    exact wx_vret hx hb hr hlocks hP hS (by rw [e9] at hpo; exact hpo) dX3_doWord_437
  by_cases e_61_16 : x4 = 16
  · refine lv_tableIn (tgt := 269) hx hb dX3_doWord_61 (by rw [e_61_16]; decide) (by rw [e_61_16]; decide) (by rw [e_61_16]; rfl) (by decide) ?_
    refine lv_aload_n hx hb dX3_doWord_269 rfl (lv_at hl 7 rfl) ?_
    refine lv_iload hx hb dX3_doWord_270 (lv_at hl 5 rfl) ?_
    refine lv_aload_n hx hb dX3_doWord_272 rfl (lv_at hl 9 rfl) ?_
    refine lv_aload_n hx hb dX3_doWord_273 rfl (lv_at hl 8 rfl) ?_
    refine wx_Vi (w := (cw k)) ((f_X3_lay k M i).1) ((f_X3_lay k M i).2) [.ref (k.1 (i + 1) 0)] [.int x5, .ref (k.1 (i + 1) 2)] (cZok k) ⟨hx, hb, hml, hown, hts⟩ (c_X3_lay l k M i (hi) hinv.1) (cwV 1 hts gX3_doWord_X3_lay rfl rfl rfl (by decide +kernel) ⟨by decide, by decide⟩) (wx_recv (w := (cw k)) (g := 0) (j := 0) hK hP (cIx_0 (by decide)) rfl rfl) hP hK hD hZ hS rfl hl.1 rfl (Nat.le_of_ble_eq_true rfl) dX3_doWord_274 ⟨by decide, by decide⟩ (fun H locs hP hS => ?_)
    refine wx_iast (w := (cw k)) (g := (i + 1)) (j := 2) hx hb hK hP hD hS (cIx_r hi (by decide)) 0 (fun _ => rfl) rfl (hinv.2.1) dX3_doWord_277 (fun H locs hP hS => ?_)
    refine lv_goto (tgt := 421) hx hb dX3_doWord_278 (by decide) ?_
    refine lv_aload_n hx hb dX3_doWord_421 rfl (lv_at hl 8 rfl) ?_
    refine lv_iload hx hb dX3_doWord_422 (lv_at hl 0 rfl) ?_
    refine wx_put (w := (cw k)) (g := (i + 1)) (j := 0) hx hb hts hiX2 tyX2 tyX2_ok nmX2 hown hK hP hD hS (cIx_r hi (by decide)) rfl rfl 7 (by decide) hf133 rfl (by decide +kernel) rfl (Nat.le_of_ble_eq_true rfl) dX3_doWord_424 (fun H locs hP hS => ?_)
    refine lv_aload_n hx hb dX3_doWord_427 rfl (lv_at hl 8 rfl) ?_
    refine lv_dup hx hb dX3_doWord_428 rfl ?_
    refine wx_get (w := (cw k)) (g := (i + 1)) (j := 0) hx hb hts hiX2 hown hK hP (cIx_r hi (by decide)) rfl rfl 9 (by decide) hf179 rfl dX3_doWord_429 ?_
    refine lv_iconst (v := 1) hx hb dX3_doWord_432 (by decide) ?_
    refine lv_iadd hx hb dX3_doWord_433 ?_
    refine wx_put (w := (cw k)) (g := (i + 1)) (j := 0) hx hb hts hiX2 tyX2 tyX2_ok nmX2 hown hK hP hD hS (cIx_r hi (by decide)) rfl rfl 9 (by decide) hf179 rfl (by decide +kernel) rfl (Nat.le_of_ble_eq_true rfl) dX3_doWord_434 (fun H locs hP hS => ?_)
    have e9 : f_X3_doWord_L59 k i x4 x5 x6 x7 x8 x9 x10 M = (mu (mu (mu (f_X3_lay k M i).2 (i + 1) 2 x5.toNatClampNeg ((f_X3_lay k M i).1)) (i + 1) 0 7 x10) (i + 1) 0 9 (((mu (mu (f_X3_lay k M i).2 (i + 1) 2 x5.toNatClampNeg ((f_X3_lay k M i).1)) (i + 1) 0 7 x10) (i + 1) 0 9) + 1)) := (by unfold f_X3_doWord_L59; rw [if_neg e_61_0, if_neg e_61_1, if_neg e_61_2, if_neg e_61_3, if_neg e_61_4, if_neg e_61_5, if_neg e_61_6, if_neg e_61_7, if_neg e_61_8, if_neg e_61_9, if_neg e_61_10, if_neg e_61_11, if_neg e_61_12, if_neg e_61_13, if_neg e_61_14, if_neg e_61_15, if_pos e_61_16])
    exact wx_vret hx hb hr hlocks hP hS (by rw [e9] at hpo; exact hpo) dX3_doWord_437
  by_cases e_61_17 : x4 = 17
  · refine lv_tableIn (tgt := 281) hx hb dX3_doWord_61 (by rw [e_61_17]; decide) (by rw [e_61_17]; decide) (by rw [e_61_17]; rfl) (by decide) ?_
    refine lv_aload_n hx hb dX3_doWord_281 rfl (lv_at hl 7 rfl) ?_
    refine lv_iload hx hb dX3_doWord_282 (lv_at hl 5 rfl) ?_
    refine lv_aload_n hx hb dX3_doWord_284 rfl (lv_at hl 9 rfl) ?_
    refine lv_iload hx hb dX3_doWord_285 (lv_at hl 2 rfl) ?_
    refine lv_iload hx hb dX3_doWord_287 (lv_at hl 1 rfl) ?_
    refine wx_Vi (w := (cw k)) ((f_X3_send k M x8 x9).1) ((f_X3_send k M x8 x9).2) [.int x8, .int x9] [.int x5, .ref (k.1 (i + 1) 2)] (cZok k) ⟨hx, hb, hml, hown, hts⟩ (c_X3_send l k M x8 x9 hinv.1) (cwV 2 hts gX3_doWord_X3_send rfl rfl rfl (by decide +kernel) ⟨by decide, by decide⟩) (wx_recv (w := (cw k)) (g := 0) (j := 0) hK hP (cIx_0 (by decide)) rfl rfl) hP hK hD hZ hS rfl hl.1 rfl (Nat.le_of_ble_eq_true rfl) dX3_doWord_289 ⟨by decide, by decide⟩ (fun H locs hP hS => ?_)
    refine wx_iast (w := (cw k)) (g := (i + 1)) (j := 2) hx hb hK hP hD hS (cIx_r hi (by decide)) 0 (fun _ => rfl) rfl (hinv.2.1) dX3_doWord_292 (fun H locs hP hS => ?_)
    refine lv_goto (tgt := 421) hx hb dX3_doWord_293 (by decide) ?_
    refine lv_aload_n hx hb dX3_doWord_421 rfl (lv_at hl 8 rfl) ?_
    refine lv_iload hx hb dX3_doWord_422 (lv_at hl 0 rfl) ?_
    refine wx_put (w := (cw k)) (g := (i + 1)) (j := 0) hx hb hts hiX2 tyX2 tyX2_ok nmX2 hown hK hP hD hS (cIx_r hi (by decide)) rfl rfl 7 (by decide) hf133 rfl (by decide +kernel) rfl (Nat.le_of_ble_eq_true rfl) dX3_doWord_424 (fun H locs hP hS => ?_)
    refine lv_aload_n hx hb dX3_doWord_427 rfl (lv_at hl 8 rfl) ?_
    refine lv_dup hx hb dX3_doWord_428 rfl ?_
    refine wx_get (w := (cw k)) (g := (i + 1)) (j := 0) hx hb hts hiX2 hown hK hP (cIx_r hi (by decide)) rfl rfl 9 (by decide) hf179 rfl dX3_doWord_429 ?_
    refine lv_iconst (v := 1) hx hb dX3_doWord_432 (by decide) ?_
    refine lv_iadd hx hb dX3_doWord_433 ?_
    refine wx_put (w := (cw k)) (g := (i + 1)) (j := 0) hx hb hts hiX2 tyX2 tyX2_ok nmX2 hown hK hP hD hS (cIx_r hi (by decide)) rfl rfl 9 (by decide) hf179 rfl (by decide +kernel) rfl (Nat.le_of_ble_eq_true rfl) dX3_doWord_434 (fun H locs hP hS => ?_)
    have e9 : f_X3_doWord_L59 k i x4 x5 x6 x7 x8 x9 x10 M = (mu (mu (mu (f_X3_send k M x8 x9).2 (i + 1) 2 x5.toNatClampNeg ((f_X3_send k M x8 x9).1)) (i + 1) 0 7 x10) (i + 1) 0 9 (((mu (mu (f_X3_send k M x8 x9).2 (i + 1) 2 x5.toNatClampNeg ((f_X3_send k M x8 x9).1)) (i + 1) 0 7 x10) (i + 1) 0 9) + 1)) := (by unfold f_X3_doWord_L59; rw [if_neg e_61_0, if_neg e_61_1, if_neg e_61_2, if_neg e_61_3, if_neg e_61_4, if_neg e_61_5, if_neg e_61_6, if_neg e_61_7, if_neg e_61_8, if_neg e_61_9, if_neg e_61_10, if_neg e_61_11, if_neg e_61_12, if_neg e_61_13, if_neg e_61_14, if_neg e_61_15, if_neg e_61_16, if_pos e_61_17])
    exact wx_vret hx hb hr hlocks hP hS (by rw [e9] at hpo; exact hpo) dX3_doWord_437
  by_cases e_61_18 : x4 = 18
  · refine lv_tableIn (tgt := 296) hx hb dX3_doWord_61 (by rw [e_61_18]; decide) (by rw [e_61_18]; decide) (by rw [e_61_18]; rfl) (by decide) ?_
    refine lv_aload_n hx hb dX3_doWord_296 rfl (lv_at hl 8 rfl) ?_
    refine lv_iload hx hb dX3_doWord_297 (lv_at hl 5 rfl) ?_
    refine wx_Si (w := (cw k)) ((f_X3_receive k M i x5).1) ((f_X3_receive k M i x5).2) [.ref (k.1 (i + 1) 0), .int x5] [] (cZok k) ⟨hx, hb, hml, hown, hts⟩ (c_X3_receive l k M i x5 (hi) hinv.1 hinv.2.1) (va_cwS 2 hts gX3_doWord_X3_receive rfl rfl rfl (by decide +kernel) ⟨by decide, by decide⟩) hP hK hD hZ hS rfl hl.1 rfl (Nat.le_of_ble_eq_true rfl) dX3_doWord_299 ⟨by decide, by decide⟩ (fun H locs hP hS => ?_)
    refine lv_if_eq (tgt := 310) hx hb dX3_doWord_302 (by decide) (fun c_302 => ?_) (fun c_302 => ?_)
    · refine lv_aload_n hx hb dX3_doWord_310 rfl (lv_at hl 8 rfl) ?_
      refine wx_get (w := (cw k)) (g := (i + 1)) (j := 0) hx hb hts hiX2 hown hK hP (cIx_r hi (by decide)) rfl rfl 7 (by decide) hf133 rfl dX3_doWord_311 ?_
      refine lv_istore (lv' := [(10, .int ((f_X3_receive k M i x5).2 (i + 1) 0 7)), (9, .int x9), (8, .int x8), (7, .int x7), (6, .int x6), (5, .int x5), (4, .int x4), (3, .ref (k.1 (i + 1) 2)), (1, .ref (k.1 (i + 1) 0)), (0, .ref (k.1 0 0))]) hx hb dX3_doWord_314 hl (by decide) rfl (fun ls hl => ?_)
      refine lv_goto (tgt := 421) hx hb dX3_doWord_316 (by decide) ?_
      refine lv_aload_n hx hb dX3_doWord_421 rfl (lv_at hl 8 rfl) ?_
      refine lv_iload hx hb dX3_doWord_422 (lv_at hl 0 rfl) ?_
      refine wx_put (w := (cw k)) (g := (i + 1)) (j := 0) hx hb hts hiX2 tyX2 tyX2_ok nmX2 hown hK hP hD hS (cIx_r hi (by decide)) rfl rfl 7 (by decide) hf133 rfl (by decide +kernel) rfl (Nat.le_of_ble_eq_true rfl) dX3_doWord_424 (fun H locs hP hS => ?_)
      refine lv_aload_n hx hb dX3_doWord_427 rfl (lv_at hl 8 rfl) ?_
      refine lv_dup hx hb dX3_doWord_428 rfl ?_
      refine wx_get (w := (cw k)) (g := (i + 1)) (j := 0) hx hb hts hiX2 hown hK hP (cIx_r hi (by decide)) rfl rfl 9 (by decide) hf179 rfl dX3_doWord_429 ?_
      refine lv_iconst (v := 1) hx hb dX3_doWord_432 (by decide) ?_
      refine lv_iadd hx hb dX3_doWord_433 ?_
      refine wx_put (w := (cw k)) (g := (i + 1)) (j := 0) hx hb hts hiX2 tyX2 tyX2_ok nmX2 hown hK hP hD hS (cIx_r hi (by decide)) rfl rfl 9 (by decide) hf179 rfl (by decide +kernel) rfl (Nat.le_of_ble_eq_true rfl) dX3_doWord_434 (fun H locs hP hS => ?_)
      have e9 : f_X3_doWord_L59 k i x4 x5 x6 x7 x8 x9 x10 M = (mu (mu (f_X3_receive k M i x5).2 (i + 1) 0 7 ((f_X3_receive k M i x5).2 (i + 1) 0 7)) (i + 1) 0 9 (((mu (f_X3_receive k M i x5).2 (i + 1) 0 7 ((f_X3_receive k M i x5).2 (i + 1) 0 7)) (i + 1) 0 9) + 1)) := (by unfold f_X3_doWord_L59; rw [if_neg e_61_0, if_neg e_61_1, if_neg e_61_2, if_neg e_61_3, if_neg e_61_4, if_neg e_61_5, if_neg e_61_6, if_neg e_61_7, if_neg e_61_8, if_neg e_61_9, if_neg e_61_10, if_neg e_61_11, if_neg e_61_12, if_neg e_61_13, if_neg e_61_14, if_neg e_61_15, if_neg e_61_16, if_neg e_61_17, if_pos e_61_18, if_pos c_302])
      exact wx_vret hx hb hr hlocks hP hS (by rw [e9] at hpo; exact hpo) dX3_doWord_437
    · refine lv_iload hx hb dX3_doWord_305 (lv_at hl 0 rfl) ?_
      refine lv_goto (tgt := 314) hx hb dX3_doWord_307 (by decide) ?_
      refine lv_istore (lv' := [(10, .int x10), (9, .int x9), (8, .int x8), (7, .int x7), (6, .int x6), (5, .int x5), (4, .int x4), (3, .ref (k.1 (i + 1) 2)), (1, .ref (k.1 (i + 1) 0)), (0, .ref (k.1 0 0))]) hx hb dX3_doWord_314 hl (by decide) rfl (fun ls hl => ?_)
      refine lv_goto (tgt := 421) hx hb dX3_doWord_316 (by decide) ?_
      refine lv_aload_n hx hb dX3_doWord_421 rfl (lv_at hl 8 rfl) ?_
      refine lv_iload hx hb dX3_doWord_422 (lv_at hl 0 rfl) ?_
      refine wx_put (w := (cw k)) (g := (i + 1)) (j := 0) hx hb hts hiX2 tyX2 tyX2_ok nmX2 hown hK hP hD hS (cIx_r hi (by decide)) rfl rfl 7 (by decide) hf133 rfl (by decide +kernel) rfl (Nat.le_of_ble_eq_true rfl) dX3_doWord_424 (fun H locs hP hS => ?_)
      refine lv_aload_n hx hb dX3_doWord_427 rfl (lv_at hl 8 rfl) ?_
      refine lv_dup hx hb dX3_doWord_428 rfl ?_
      refine wx_get (w := (cw k)) (g := (i + 1)) (j := 0) hx hb hts hiX2 hown hK hP (cIx_r hi (by decide)) rfl rfl 9 (by decide) hf179 rfl dX3_doWord_429 ?_
      refine lv_iconst (v := 1) hx hb dX3_doWord_432 (by decide) ?_
      refine lv_iadd hx hb dX3_doWord_433 ?_
      refine wx_put (w := (cw k)) (g := (i + 1)) (j := 0) hx hb hts hiX2 tyX2 tyX2_ok nmX2 hown hK hP hD hS (cIx_r hi (by decide)) rfl rfl 9 (by decide) hf179 rfl (by decide +kernel) rfl (Nat.le_of_ble_eq_true rfl) dX3_doWord_434 (fun H locs hP hS => ?_)
      have e9 : f_X3_doWord_L59 k i x4 x5 x6 x7 x8 x9 x10 M = (mu (mu (f_X3_receive k M i x5).2 (i + 1) 0 7 x10) (i + 1) 0 9 (((mu (f_X3_receive k M i x5).2 (i + 1) 0 7 x10) (i + 1) 0 9) + 1)) := (by unfold f_X3_doWord_L59; rw [if_neg e_61_0, if_neg e_61_1, if_neg e_61_2, if_neg e_61_3, if_neg e_61_4, if_neg e_61_5, if_neg e_61_6, if_neg e_61_7, if_neg e_61_8, if_neg e_61_9, if_neg e_61_10, if_neg e_61_11, if_neg e_61_12, if_neg e_61_13, if_neg e_61_14, if_neg e_61_15, if_neg e_61_16, if_neg e_61_17, if_pos e_61_18, if_neg c_302])
      exact wx_vret hx hb hr hlocks hP hS (by rw [e9] at hpo; exact hpo) dX3_doWord_437
  by_cases e_61_19 : x4 = 19
  · refine lv_tableIn (tgt := 319) hx hb dX3_doWord_61 (by rw [e_61_19]; decide) (by rw [e_61_19]; decide) (by rw [e_61_19]; rfl) (by decide) ?_
    refine lv_aload_n hx hb dX3_doWord_319 rfl (lv_at hl 8 rfl) ?_
    refine lv_iload hx hb dX3_doWord_320 (lv_at hl 2 rfl) ?_
    refine wx_Vv (w := (cw k)) (f_X2_fallAsleep k M i x8) [.int x8] [] (cZok k) ⟨hx, hb, hml, hown, hts⟩ (c_X2_fallAsleep l k M i x8 (hi) ) (cwV 1 hts gX3_doWord_X2_fallAsleep rfl rfl rfl (by decide +kernel) ⟨by decide, by decide⟩) (wx_recv (w := (cw k)) (g := (i + 1)) (j := 0) hK hP (cIx_r hi (by decide)) rfl rfl) hP hK hD hZ hS rfl hl.1 rfl (Nat.le_of_ble_eq_true rfl) dX3_doWord_322 ⟨by decide, by decide⟩ (fun H locs hP hS => ?_)
    refine lv_goto (tgt := 421) hx hb dX3_doWord_325 (by decide) ?_
    refine lv_aload_n hx hb dX3_doWord_421 rfl (lv_at hl 8 rfl) ?_
    refine lv_iload hx hb dX3_doWord_422 (lv_at hl 0 rfl) ?_
    refine wx_put (w := (cw k)) (g := (i + 1)) (j := 0) hx hb hts hiX2 tyX2 tyX2_ok nmX2 hown hK hP hD hS (cIx_r hi (by decide)) rfl rfl 7 (by decide) hf133 rfl (by decide +kernel) rfl (Nat.le_of_ble_eq_true rfl) dX3_doWord_424 (fun H locs hP hS => ?_)
    refine lv_aload_n hx hb dX3_doWord_427 rfl (lv_at hl 8 rfl) ?_
    refine lv_dup hx hb dX3_doWord_428 rfl ?_
    refine wx_get (w := (cw k)) (g := (i + 1)) (j := 0) hx hb hts hiX2 hown hK hP (cIx_r hi (by decide)) rfl rfl 9 (by decide) hf179 rfl dX3_doWord_429 ?_
    refine lv_iconst (v := 1) hx hb dX3_doWord_432 (by decide) ?_
    refine lv_iadd hx hb dX3_doWord_433 ?_
    refine wx_put (w := (cw k)) (g := (i + 1)) (j := 0) hx hb hts hiX2 tyX2 tyX2_ok nmX2 hown hK hP hD hS (cIx_r hi (by decide)) rfl rfl 9 (by decide) hf179 rfl (by decide +kernel) rfl (Nat.le_of_ble_eq_true rfl) dX3_doWord_434 (fun H locs hP hS => ?_)
    have e9 : f_X3_doWord_L59 k i x4 x5 x6 x7 x8 x9 x10 M = (mu (mu (f_X2_fallAsleep k M i x8) (i + 1) 0 7 x10) (i + 1) 0 9 (((mu (f_X2_fallAsleep k M i x8) (i + 1) 0 7 x10) (i + 1) 0 9) + 1)) := (by unfold f_X3_doWord_L59; rw [if_neg e_61_0, if_neg e_61_1, if_neg e_61_2, if_neg e_61_3, if_neg e_61_4, if_neg e_61_5, if_neg e_61_6, if_neg e_61_7, if_neg e_61_8, if_neg e_61_9, if_neg e_61_10, if_neg e_61_11, if_neg e_61_12, if_neg e_61_13, if_neg e_61_14, if_neg e_61_15, if_neg e_61_16, if_neg e_61_17, if_neg e_61_18, if_pos e_61_19])
    exact wx_vret hx hb hr hlocks hP hS (by rw [e9] at hpo; exact hpo) dX3_doWord_437
  by_cases e_61_20 : x4 = 20
  · refine lv_tableIn (tgt := 328) hx hb dX3_doWord_61 (by rw [e_61_20]; decide) (by rw [e_61_20]; decide) (by rw [e_61_20]; rfl) (by decide) ?_
    refine lv_aload_n hx hb dX3_doWord_328 rfl (lv_at hl 7 rfl) ?_
    refine lv_iload hx hb dX3_doWord_329 (lv_at hl 5 rfl) ?_
    refine lv_aload_n hx hb dX3_doWord_331 rfl (lv_at hl 9 rfl) ?_
    refine wx_get (w := (cw k)) (g := 0) (j := 0) hx hb hts hiX3 hown hK hP (cIx_0 (by decide)) rfl rfl 0 (by decide) hf18 rfl dX3_doWord_332 ?_
    refine lv_aload_n hx hb dX3_doWord_335 rfl (lv_at hl 8 rfl) ?_
    refine wx_get (w := (cw k)) (g := (i + 1)) (j := 0) hx hb hts hiX2 hown hK hP (cIx_r hi (by decide)) rfl rfl 5 (by decide) hf98 rfl dX3_doWord_336 ?_
    refine lv_aload_n hx hb dX3_doWord_339 rfl (lv_at hl 8 rfl) ?_
    refine wx_get (w := (cw k)) (g := (i + 1)) (j := 0) hx hb hts hiX2 hown hK hP (cIx_r hi (by decide)) rfl rfl 6 (by decide) hf101 rfl dX3_doWord_340 ?_
    refine lv_iload hx hb dX3_doWord_343 (lv_at hl 2 rfl) ?_
    refine lv_iload hx hb dX3_doWord_345 (lv_at hl 1 rfl) ?_
    refine wx_Vi (w := (cw k)) ((f_X1_firstStep k M (M (i + 1) 0 5) (M (i + 1) 0 6) x8 x9).1) ((f_X1_firstStep k M (M (i + 1) 0 5) (M (i + 1) 0 6) x8 x9).2) [.int (M (i + 1) 0 5), .int (M (i + 1) 0 6), .int x8, .int x9] [.int x5, .ref (k.1 (i + 1) 2)] (cZok k) ⟨hx, hb, hml, hown, hts⟩ (c_X1_firstStep l k M (M (i + 1) 0 5) (M (i + 1) 0 6) x8 x9 hinv.1) (cwV 4 hts gX3_doWord_X1_firstStep rfl rfl rfl (by decide +kernel) ⟨by decide, by decide⟩) (wx_recv (w := (cw k)) (g := 0) (j := 1) hK hP (cIx_0 (by decide)) rfl rfl) hP hK hD hZ hS rfl hl.1 rfl (Nat.le_of_ble_eq_true rfl) dX3_doWord_347 ⟨by decide, by decide⟩ (fun H locs hP hS => ?_)
    refine wx_iast (w := (cw k)) (g := (i + 1)) (j := 2) hx hb hK hP hD hS (cIx_r hi (by decide)) 0 (fun _ => rfl) rfl (hinv.2.1) dX3_doWord_350 (fun H locs hP hS => ?_)
    refine lv_goto (tgt := 421) hx hb dX3_doWord_351 (by decide) ?_
    refine lv_aload_n hx hb dX3_doWord_421 rfl (lv_at hl 8 rfl) ?_
    refine lv_iload hx hb dX3_doWord_422 (lv_at hl 0 rfl) ?_
    refine wx_put (w := (cw k)) (g := (i + 1)) (j := 0) hx hb hts hiX2 tyX2 tyX2_ok nmX2 hown hK hP hD hS (cIx_r hi (by decide)) rfl rfl 7 (by decide) hf133 rfl (by decide +kernel) rfl (Nat.le_of_ble_eq_true rfl) dX3_doWord_424 (fun H locs hP hS => ?_)
    refine lv_aload_n hx hb dX3_doWord_427 rfl (lv_at hl 8 rfl) ?_
    refine lv_dup hx hb dX3_doWord_428 rfl ?_
    refine wx_get (w := (cw k)) (g := (i + 1)) (j := 0) hx hb hts hiX2 hown hK hP (cIx_r hi (by decide)) rfl rfl 9 (by decide) hf179 rfl dX3_doWord_429 ?_
    refine lv_iconst (v := 1) hx hb dX3_doWord_432 (by decide) ?_
    refine lv_iadd hx hb dX3_doWord_433 ?_
    refine wx_put (w := (cw k)) (g := (i + 1)) (j := 0) hx hb hts hiX2 tyX2 tyX2_ok nmX2 hown hK hP hD hS (cIx_r hi (by decide)) rfl rfl 9 (by decide) hf179 rfl (by decide +kernel) rfl (Nat.le_of_ble_eq_true rfl) dX3_doWord_434 (fun H locs hP hS => ?_)
    have e9 : f_X3_doWord_L59 k i x4 x5 x6 x7 x8 x9 x10 M = (mu (mu (mu (f_X1_firstStep k M (M (i + 1) 0 5) (M (i + 1) 0 6) x8 x9).2 (i + 1) 2 x5.toNatClampNeg ((f_X1_firstStep k M (M (i + 1) 0 5) (M (i + 1) 0 6) x8 x9).1)) (i + 1) 0 7 x10) (i + 1) 0 9 (((mu (mu (f_X1_firstStep k M (M (i + 1) 0 5) (M (i + 1) 0 6) x8 x9).2 (i + 1) 2 x5.toNatClampNeg ((f_X1_firstStep k M (M (i + 1) 0 5) (M (i + 1) 0 6) x8 x9).1)) (i + 1) 0 7 x10) (i + 1) 0 9) + 1)) := (by unfold f_X3_doWord_L59; rw [if_neg e_61_0, if_neg e_61_1, if_neg e_61_2, if_neg e_61_3, if_neg e_61_4, if_neg e_61_5, if_neg e_61_6, if_neg e_61_7, if_neg e_61_8, if_neg e_61_9, if_neg e_61_10, if_neg e_61_11, if_neg e_61_12, if_neg e_61_13, if_neg e_61_14, if_neg e_61_15, if_neg e_61_16, if_neg e_61_17, if_neg e_61_18, if_neg e_61_19, if_pos e_61_20])
    exact wx_vret hx hb hr hlocks hP hS (by rw [e9] at hpo; exact hpo) dX3_doWord_437
  by_cases e_61_21 : x4 = 21
  · refine lv_tableIn (tgt := 354) hx hb dX3_doWord_61 (by rw [e_61_21]; decide) (by rw [e_61_21]; decide) (by rw [e_61_21]; rfl) (by decide) ?_
    refine lv_aload_n hx hb dX3_doWord_354 rfl (lv_at hl 7 rfl) ?_
    refine lv_iload hx hb dX3_doWord_355 (lv_at hl 5 rfl) ?_
    refine lv_aload_n hx hb dX3_doWord_357 rfl (lv_at hl 8 rfl) ?_
    refine wx_get (w := (cw k)) (g := (i + 1)) (j := 0) hx hb hts hiX2 hown hK hP (cIx_r hi (by decide)) rfl rfl 5 (by decide) hf98 rfl dX3_doWord_358 ?_
    refine wx_iast (w := (cw k)) (g := (i + 1)) (j := 2) hx hb hK hP hD hS (cIx_r hi (by decide)) 0 (fun _ => rfl) rfl (hinv.2.1) dX3_doWord_361 (fun H locs hP hS => ?_)
    refine lv_aload_n hx hb dX3_doWord_362 rfl (lv_at hl 7 rfl) ?_
    refine lv_iload hx hb dX3_doWord_363 (lv_at hl 4 rfl) ?_
    refine lv_aload_n hx hb dX3_doWord_365 rfl (lv_at hl 8 rfl) ?_
    refine wx_get (w := (cw k)) (g := (i + 1)) (j := 0) hx hb hts hiX2 hown hK hP (cIx_r hi (by decide)) rfl rfl 6 (by decide) hf101 rfl dX3_doWord_366 ?_
    refine wx_iast (w := (cw k)) (g := (i + 1)) (j := 2) hx hb hK hP hD hS (cIx_r hi (by decide)) 0 (fun _ => rfl) rfl (hinv.2.2.1) dX3_doWord_369 (fun H locs hP hS => ?_)
    refine lv_goto (tgt := 421) hx hb dX3_doWord_370 (by decide) ?_
    refine lv_aload_n hx hb dX3_doWord_421 rfl (lv_at hl 8 rfl) ?_
    refine lv_iload hx hb dX3_doWord_422 (lv_at hl 0 rfl) ?_
    refine wx_put (w := (cw k)) (g := (i + 1)) (j := 0) hx hb hts hiX2 tyX2 tyX2_ok nmX2 hown hK hP hD hS (cIx_r hi (by decide)) rfl rfl 7 (by decide) hf133 rfl (by decide +kernel) rfl (Nat.le_of_ble_eq_true rfl) dX3_doWord_424 (fun H locs hP hS => ?_)
    refine lv_aload_n hx hb dX3_doWord_427 rfl (lv_at hl 8 rfl) ?_
    refine lv_dup hx hb dX3_doWord_428 rfl ?_
    refine wx_get (w := (cw k)) (g := (i + 1)) (j := 0) hx hb hts hiX2 hown hK hP (cIx_r hi (by decide)) rfl rfl 9 (by decide) hf179 rfl dX3_doWord_429 ?_
    refine lv_iconst (v := 1) hx hb dX3_doWord_432 (by decide) ?_
    refine lv_iadd hx hb dX3_doWord_433 ?_
    refine wx_put (w := (cw k)) (g := (i + 1)) (j := 0) hx hb hts hiX2 tyX2 tyX2_ok nmX2 hown hK hP hD hS (cIx_r hi (by decide)) rfl rfl 9 (by decide) hf179 rfl (by decide +kernel) rfl (Nat.le_of_ble_eq_true rfl) dX3_doWord_434 (fun H locs hP hS => ?_)
    have e9 : f_X3_doWord_L59 k i x4 x5 x6 x7 x8 x9 x10 M = (mu (mu (mu (mu M (i + 1) 2 x5.toNatClampNeg (M (i + 1) 0 5)) (i + 1) 2 x6.toNatClampNeg ((mu M (i + 1) 2 x5.toNatClampNeg (M (i + 1) 0 5)) (i + 1) 0 6)) (i + 1) 0 7 x10) (i + 1) 0 9 (((mu (mu (mu M (i + 1) 2 x5.toNatClampNeg (M (i + 1) 0 5)) (i + 1) 2 x6.toNatClampNeg ((mu M (i + 1) 2 x5.toNatClampNeg (M (i + 1) 0 5)) (i + 1) 0 6)) (i + 1) 0 7 x10) (i + 1) 0 9) + 1)) := (by unfold f_X3_doWord_L59; rw [if_neg e_61_0, if_neg e_61_1, if_neg e_61_2, if_neg e_61_3, if_neg e_61_4, if_neg e_61_5, if_neg e_61_6, if_neg e_61_7, if_neg e_61_8, if_neg e_61_9, if_neg e_61_10, if_neg e_61_11, if_neg e_61_12, if_neg e_61_13, if_neg e_61_14, if_neg e_61_15, if_neg e_61_16, if_neg e_61_17, if_neg e_61_18, if_neg e_61_19, if_neg e_61_20, if_pos e_61_21])
    exact wx_vret hx hb hr hlocks hP hS (by rw [e9] at hpo; exact hpo) dX3_doWord_437
  by_cases e_61_22 : x4 = 22
  · refine lv_tableIn (tgt := 373) hx hb dX3_doWord_61 (by rw [e_61_22]; decide) (by rw [e_61_22]; decide) (by rw [e_61_22]; rfl) (by decide) ?_
    refine lv_aload_n hx hb dX3_doWord_373 rfl (lv_at hl 7 rfl) ?_
    refine lv_iload hx hb dX3_doWord_374 (lv_at hl 5 rfl) ?_
    refine lv_aload_n hx hb dX3_doWord_376 rfl (lv_at hl 8 rfl) ?_
    refine wx_get (w := (cw k)) (g := (i + 1)) (j := 0) hx hb hts hiX2 hown hK hP (cIx_r hi (by decide)) rfl rfl 0 (by decide) hf74 rfl dX3_doWord_377 ?_
    refine wx_iast (w := (cw k)) (g := (i + 1)) (j := 2) hx hb hK hP hD hS (cIx_r hi (by decide)) 0 (fun _ => rfl) rfl (hinv.2.1) dX3_doWord_380 (fun H locs hP hS => ?_)
    refine lv_goto (tgt := 421) hx hb dX3_doWord_381 (by decide) ?_
    refine lv_aload_n hx hb dX3_doWord_421 rfl (lv_at hl 8 rfl) ?_
    refine lv_iload hx hb dX3_doWord_422 (lv_at hl 0 rfl) ?_
    refine wx_put (w := (cw k)) (g := (i + 1)) (j := 0) hx hb hts hiX2 tyX2 tyX2_ok nmX2 hown hK hP hD hS (cIx_r hi (by decide)) rfl rfl 7 (by decide) hf133 rfl (by decide +kernel) rfl (Nat.le_of_ble_eq_true rfl) dX3_doWord_424 (fun H locs hP hS => ?_)
    refine lv_aload_n hx hb dX3_doWord_427 rfl (lv_at hl 8 rfl) ?_
    refine lv_dup hx hb dX3_doWord_428 rfl ?_
    refine wx_get (w := (cw k)) (g := (i + 1)) (j := 0) hx hb hts hiX2 hown hK hP (cIx_r hi (by decide)) rfl rfl 9 (by decide) hf179 rfl dX3_doWord_429 ?_
    refine lv_iconst (v := 1) hx hb dX3_doWord_432 (by decide) ?_
    refine lv_iadd hx hb dX3_doWord_433 ?_
    refine wx_put (w := (cw k)) (g := (i + 1)) (j := 0) hx hb hts hiX2 tyX2 tyX2_ok nmX2 hown hK hP hD hS (cIx_r hi (by decide)) rfl rfl 9 (by decide) hf179 rfl (by decide +kernel) rfl (Nat.le_of_ble_eq_true rfl) dX3_doWord_434 (fun H locs hP hS => ?_)
    have e9 : f_X3_doWord_L59 k i x4 x5 x6 x7 x8 x9 x10 M = (mu (mu (mu M (i + 1) 2 x5.toNatClampNeg (M (i + 1) 0 0)) (i + 1) 0 7 x10) (i + 1) 0 9 (((mu (mu M (i + 1) 2 x5.toNatClampNeg (M (i + 1) 0 0)) (i + 1) 0 7 x10) (i + 1) 0 9) + 1)) := (by unfold f_X3_doWord_L59; rw [if_neg e_61_0, if_neg e_61_1, if_neg e_61_2, if_neg e_61_3, if_neg e_61_4, if_neg e_61_5, if_neg e_61_6, if_neg e_61_7, if_neg e_61_8, if_neg e_61_9, if_neg e_61_10, if_neg e_61_11, if_neg e_61_12, if_neg e_61_13, if_neg e_61_14, if_neg e_61_15, if_neg e_61_16, if_neg e_61_17, if_neg e_61_18, if_neg e_61_19, if_neg e_61_20, if_neg e_61_21, if_pos e_61_22])
    exact wx_vret hx hb hr hlocks hP hS (by rw [e9] at hpo; exact hpo) dX3_doWord_437
  by_cases e_61_23 : x4 = 23
  · refine lv_tableIn (tgt := 384) hx hb dX3_doWord_61 (by rw [e_61_23]; decide) (by rw [e_61_23]; decide) (by rw [e_61_23]; rfl) (by decide) ?_
    refine lv_aload_n hx hb dX3_doWord_384 rfl (lv_at hl 7 rfl) ?_
    refine lv_iload hx hb dX3_doWord_385 (lv_at hl 5 rfl) ?_
    refine lv_aload_n hx hb dX3_doWord_387 rfl (lv_at hl 9 rfl) ?_
    refine wx_get (w := (cw k)) (g := 0) (j := 0) hx hb hts hiX3 hown hK hP (cIx_0 (by decide)) rfl rfl 2 (by decide) hf88 rfl dX3_doWord_388 ?_
    refine wx_iast (w := (cw k)) (g := (i + 1)) (j := 2) hx hb hK hP hD hS (cIx_r hi (by decide)) 0 (fun _ => rfl) rfl (hinv.2.1) dX3_doWord_391 (fun H locs hP hS => ?_)
    refine lv_goto (tgt := 421) hx hb dX3_doWord_392 (by decide) ?_
    refine lv_aload_n hx hb dX3_doWord_421 rfl (lv_at hl 8 rfl) ?_
    refine lv_iload hx hb dX3_doWord_422 (lv_at hl 0 rfl) ?_
    refine wx_put (w := (cw k)) (g := (i + 1)) (j := 0) hx hb hts hiX2 tyX2 tyX2_ok nmX2 hown hK hP hD hS (cIx_r hi (by decide)) rfl rfl 7 (by decide) hf133 rfl (by decide +kernel) rfl (Nat.le_of_ble_eq_true rfl) dX3_doWord_424 (fun H locs hP hS => ?_)
    refine lv_aload_n hx hb dX3_doWord_427 rfl (lv_at hl 8 rfl) ?_
    refine lv_dup hx hb dX3_doWord_428 rfl ?_
    refine wx_get (w := (cw k)) (g := (i + 1)) (j := 0) hx hb hts hiX2 hown hK hP (cIx_r hi (by decide)) rfl rfl 9 (by decide) hf179 rfl dX3_doWord_429 ?_
    refine lv_iconst (v := 1) hx hb dX3_doWord_432 (by decide) ?_
    refine lv_iadd hx hb dX3_doWord_433 ?_
    refine wx_put (w := (cw k)) (g := (i + 1)) (j := 0) hx hb hts hiX2 tyX2 tyX2_ok nmX2 hown hK hP hD hS (cIx_r hi (by decide)) rfl rfl 9 (by decide) hf179 rfl (by decide +kernel) rfl (Nat.le_of_ble_eq_true rfl) dX3_doWord_434 (fun H locs hP hS => ?_)
    have e9 : f_X3_doWord_L59 k i x4 x5 x6 x7 x8 x9 x10 M = (mu (mu (mu M (i + 1) 2 x5.toNatClampNeg (M 0 0 2)) (i + 1) 0 7 x10) (i + 1) 0 9 (((mu (mu M (i + 1) 2 x5.toNatClampNeg (M 0 0 2)) (i + 1) 0 7 x10) (i + 1) 0 9) + 1)) := (by unfold f_X3_doWord_L59; rw [if_neg e_61_0, if_neg e_61_1, if_neg e_61_2, if_neg e_61_3, if_neg e_61_4, if_neg e_61_5, if_neg e_61_6, if_neg e_61_7, if_neg e_61_8, if_neg e_61_9, if_neg e_61_10, if_neg e_61_11, if_neg e_61_12, if_neg e_61_13, if_neg e_61_14, if_neg e_61_15, if_neg e_61_16, if_neg e_61_17, if_neg e_61_18, if_neg e_61_19, if_neg e_61_20, if_neg e_61_21, if_neg e_61_22, if_pos e_61_23])
    exact wx_vret hx hb hr hlocks hP hS (by rw [e9] at hpo; exact hpo) dX3_doWord_437
  by_cases e_61_24 : x4 = 24
  · refine lv_tableIn (tgt := 395) hx hb dX3_doWord_61 (by rw [e_61_24]; decide) (by rw [e_61_24]; decide) (by rw [e_61_24]; rfl) (by decide) ?_
    refine lv_aload_n hx hb dX3_doWord_395 rfl (lv_at hl 7 rfl) ?_
    refine lv_iload hx hb dX3_doWord_396 (lv_at hl 5 rfl) ?_
    refine lv_aload_n hx hb dX3_doWord_398 rfl (lv_at hl 8 rfl) ?_
    refine wx_get (w := (cw k)) (g := (i + 1)) (j := 0) hx hb hts hiX2 hown hK hP (cIx_r hi (by decide)) rfl rfl 10 (by decide) hf95 rfl dX3_doWord_399 ?_
    refine wx_iast (w := (cw k)) (g := (i + 1)) (j := 2) hx hb hK hP hD hS (cIx_r hi (by decide)) 0 (fun _ => rfl) rfl (hinv.2.1) dX3_doWord_402 (fun H locs hP hS => ?_)
    refine lv_goto (tgt := 421) hx hb dX3_doWord_403 (by decide) ?_
    refine lv_aload_n hx hb dX3_doWord_421 rfl (lv_at hl 8 rfl) ?_
    refine lv_iload hx hb dX3_doWord_422 (lv_at hl 0 rfl) ?_
    refine wx_put (w := (cw k)) (g := (i + 1)) (j := 0) hx hb hts hiX2 tyX2 tyX2_ok nmX2 hown hK hP hD hS (cIx_r hi (by decide)) rfl rfl 7 (by decide) hf133 rfl (by decide +kernel) rfl (Nat.le_of_ble_eq_true rfl) dX3_doWord_424 (fun H locs hP hS => ?_)
    refine lv_aload_n hx hb dX3_doWord_427 rfl (lv_at hl 8 rfl) ?_
    refine lv_dup hx hb dX3_doWord_428 rfl ?_
    refine wx_get (w := (cw k)) (g := (i + 1)) (j := 0) hx hb hts hiX2 hown hK hP (cIx_r hi (by decide)) rfl rfl 9 (by decide) hf179 rfl dX3_doWord_429 ?_
    refine lv_iconst (v := 1) hx hb dX3_doWord_432 (by decide) ?_
    refine lv_iadd hx hb dX3_doWord_433 ?_
    refine wx_put (w := (cw k)) (g := (i + 1)) (j := 0) hx hb hts hiX2 tyX2 tyX2_ok nmX2 hown hK hP hD hS (cIx_r hi (by decide)) rfl rfl 9 (by decide) hf179 rfl (by decide +kernel) rfl (Nat.le_of_ble_eq_true rfl) dX3_doWord_434 (fun H locs hP hS => ?_)
    have e9 : f_X3_doWord_L59 k i x4 x5 x6 x7 x8 x9 x10 M = (mu (mu (mu M (i + 1) 2 x5.toNatClampNeg (M (i + 1) 0 10)) (i + 1) 0 7 x10) (i + 1) 0 9 (((mu (mu M (i + 1) 2 x5.toNatClampNeg (M (i + 1) 0 10)) (i + 1) 0 7 x10) (i + 1) 0 9) + 1)) := (by unfold f_X3_doWord_L59; rw [if_neg e_61_0, if_neg e_61_1, if_neg e_61_2, if_neg e_61_3, if_neg e_61_4, if_neg e_61_5, if_neg e_61_6, if_neg e_61_7, if_neg e_61_8, if_neg e_61_9, if_neg e_61_10, if_neg e_61_11, if_neg e_61_12, if_neg e_61_13, if_neg e_61_14, if_neg e_61_15, if_neg e_61_16, if_neg e_61_17, if_neg e_61_18, if_neg e_61_19, if_neg e_61_20, if_neg e_61_21, if_neg e_61_22, if_neg e_61_23, if_pos e_61_24])
    exact wx_vret hx hb hr hlocks hP hS (by rw [e9] at hpo; exact hpo) dX3_doWord_437
  have hdf : x4.toInt < 0 ∨ 24 < x4.toInt := by have n0 := lv_neT e_61_0 (a := 0) (by decide); have n1 := lv_neT e_61_1 (a := 1) (by decide); have n2 := lv_neT e_61_2 (a := 2) (by decide); have n3 := lv_neT e_61_3 (a := 3) (by decide); have n4 := lv_neT e_61_4 (a := 4) (by decide); have n5 := lv_neT e_61_5 (a := 5) (by decide); have n6 := lv_neT e_61_6 (a := 6) (by decide); have n7 := lv_neT e_61_7 (a := 7) (by decide); have n8 := lv_neT e_61_8 (a := 8) (by decide); have n9 := lv_neT e_61_9 (a := 9) (by decide); have n10 := lv_neT e_61_10 (a := 10) (by decide); have n11 := lv_neT e_61_11 (a := 11) (by decide); have n12 := lv_neT e_61_12 (a := 12) (by decide); have n13 := lv_neT e_61_13 (a := 13) (by decide); have n14 := lv_neT e_61_14 (a := 14) (by decide); have n15 := lv_neT e_61_15 (a := 15) (by decide); have n16 := lv_neT e_61_16 (a := 16) (by decide); have n17 := lv_neT e_61_17 (a := 17) (by decide); have n18 := lv_neT e_61_18 (a := 18) (by decide); have n19 := lv_neT e_61_19 (a := 19) (by decide); have n20 := lv_neT e_61_20 (a := 20) (by decide); have n21 := lv_neT e_61_21 (a := 21) (by decide); have n22 := lv_neT e_61_22 (a := 22) (by decide); have n23 := lv_neT e_61_23 (a := 23) (by decide); have n24 := lv_neT e_61_24 (a := 24) (by decide);  omega
  refine lv_tableOut (tgt := 406) hx hb dX3_doWord_61 hdf (by decide) ?_
  refine lv_aload_n hx hb dX3_doWord_406 rfl (lv_at hl 7 rfl) ?_
  refine lv_iload hx hb dX3_doWord_407 (lv_at hl 5 rfl) ?_
  refine lv_iload hx hb dX3_doWord_409 (lv_at hl 6 rfl) ?_
  refine lv_iload hx hb dX3_doWord_411 (lv_at hl 2 rfl) ?_
  refine lv_iload hx hb dX3_doWord_413 (lv_at hl 1 rfl) ?_
  refine lv_iload hx hb dX3_doWord_415 (lv_at hl 3 rfl) ?_
  refine wx_Si (w := (cw k)) (f_X3_calculated k M x4 x8 x9 x7) M [.int x4, .int x8, .int x9, .int x7] [.int x5, .ref (k.1 (i + 1) 2)] (cZok k) ⟨hx, hb, hml, hown, hts⟩ (c_X3_calculated l k M x4 x8 x9 x7 hinv.2.2.2) (va_cwS 4 hts gX3_doWord_X3_calculated rfl rfl rfl (by decide +kernel) ⟨by decide, by decide⟩) hP hK hD hZ hS rfl hl.1 rfl (Nat.le_of_ble_eq_true rfl) dX3_doWord_417 ⟨by decide, by decide⟩ (fun H locs hP hS => ?_)
  refine wx_iast (w := (cw k)) (g := (i + 1)) (j := 2) hx hb hK hP hD hS (cIx_r hi (by decide)) 0 (fun _ => rfl) rfl (hinv.2.1) dX3_doWord_420 (fun H locs hP hS => ?_)
  refine lv_aload_n hx hb dX3_doWord_421 rfl (lv_at hl 8 rfl) ?_
  refine lv_iload hx hb dX3_doWord_422 (lv_at hl 0 rfl) ?_
  refine wx_put (w := (cw k)) (g := (i + 1)) (j := 0) hx hb hts hiX2 tyX2 tyX2_ok nmX2 hown hK hP hD hS (cIx_r hi (by decide)) rfl rfl 7 (by decide) hf133 rfl (by decide +kernel) rfl (Nat.le_of_ble_eq_true rfl) dX3_doWord_424 (fun H locs hP hS => ?_)
  refine lv_aload_n hx hb dX3_doWord_427 rfl (lv_at hl 8 rfl) ?_
  refine lv_dup hx hb dX3_doWord_428 rfl ?_
  refine wx_get (w := (cw k)) (g := (i + 1)) (j := 0) hx hb hts hiX2 hown hK hP (cIx_r hi (by decide)) rfl rfl 9 (by decide) hf179 rfl dX3_doWord_429 ?_
  refine lv_iconst (v := 1) hx hb dX3_doWord_432 (by decide) ?_
  refine lv_iadd hx hb dX3_doWord_433 ?_
  refine wx_put (w := (cw k)) (g := (i + 1)) (j := 0) hx hb hts hiX2 tyX2 tyX2_ok nmX2 hown hK hP hD hS (cIx_r hi (by decide)) rfl rfl 9 (by decide) hf179 rfl (by decide +kernel) rfl (Nat.le_of_ble_eq_true rfl) dX3_doWord_434 (fun H locs hP hS => ?_)
  have e9 : f_X3_doWord_L59 k i x4 x5 x6 x7 x8 x9 x10 M = (mu (mu (mu M (i + 1) 2 x5.toNatClampNeg (f_X3_calculated k M x4 x8 x9 x7)) (i + 1) 0 7 x10) (i + 1) 0 9 (((mu (mu M (i + 1) 2 x5.toNatClampNeg (f_X3_calculated k M x4 x8 x9 x7)) (i + 1) 0 7 x10) (i + 1) 0 9) + 1)) := (by unfold f_X3_doWord_L59; rw [if_neg e_61_0, if_neg e_61_1, if_neg e_61_2, if_neg e_61_3, if_neg e_61_4, if_neg e_61_5, if_neg e_61_6, if_neg e_61_7, if_neg e_61_8, if_neg e_61_9, if_neg e_61_10, if_neg e_61_11, if_neg e_61_12, if_neg e_61_13, if_neg e_61_14, if_neg e_61_15, if_neg e_61_16, if_neg e_61_17, if_neg e_61_18, if_neg e_61_19, if_neg e_61_20, if_neg e_61_21, if_neg e_61_22, if_neg e_61_23, if_neg e_61_24])
  exact wx_vret hx hb hr hlocks hP hS (by rw [e9] at hpo; exact hpo) dX3_doWord_437
/-- by program, from the bytecode of RobotWorld.doWord -/
def f_X3_doWord (k : CK) (M : Mem) (i : Nat) : Mem :=
  f_X3_doWord_L59 k i (f_X3_opOf k M (M (i + 1) 1 (M (i + 1) 0 7).toNatClampNeg)) (f_X3_rOf k M (M (i + 1) 1 (M (i + 1) 0 7).toNatClampNeg)) (f_X3_sOf k M (M (i + 1) 1 (M (i + 1) 0 7).toNatClampNeg)) ((M (i + 1) 1 (M (i + 1) 0 7).toNatClampNeg) >>> (16 &&& 31)) (M (i + 1) 2 (f_X3_rOf k M (M (i + 1) 1 (M (i + 1) 0 7).toNatClampNeg)).toNatClampNeg) (M (i + 1) 2 (f_X3_sOf k M (M (i + 1) 1 (M (i + 1) 0 7).toNatClampNeg)).toNatClampNeg) ((M (i + 1) 0 7) + 1) M
set_option maxHeartbeats 4000000 in
set_option maxRecDepth 100000 in
theorem c_X3_doWord (l : Launch) (k : CK) (M : Mem) (i : Nat) (hi : i < k.2.1 0) (hI : cI k M) (hf : f_X2_mustFail k M i = 0) : Met l yX3_doWord wsX3_doWord (rmK 4 104) (wPc (cw k) M [.ref (k.1 0 0), .ref (k.1 (i + 1) 0)]) (wQv (cw k) (fun u => u = f_X3_doWord k M i)) 0 0 (wA (cw k)) := by
  refine wx_met (cc := cX3_doWord) (maxL := 11) (ret := none) (by decide) rfl (Nat.le_of_ble_eq_true rfl) ?_
  intro p e s m below meth c ls hx hb hr hml hts hown hlocks hP hK hD hZ hS hl
  have hown : s.vm.findClass RX3 = some m.cls := hown
  have hl : lv_has ls 11 [(0, .ref (k.1 0 0)), (1, .ref (k.1 (i + 1) 0))] := hl
  have hiX2 : ∀ x ∈ u_ws RX2 TX2 12, x ∈ wsX3_doWord := by decide +kernel
  have hf129 := hts (.fieldLink RX3 129 "RobotWorld$Robot" "program" "[I") (by decide +kernel)
  have hf133 := hts (.fieldLink RX3 133 "RobotWorld$Robot" "place" "I") (by decide +kernel)
  have hf136 := hts (.fieldLink RX3 136 "RobotWorld$Robot" "registers" "[I") (by decide +kernel)
  refine lv_aload_n hx hb dX3_doWord_0 rfl (lv_at hl 1 rfl) ?_
  refine wx_get (w := (cw k)) (g := (i + 1)) (j := 0) hx hb hts hiX2 hown hK hP (cIx_r hi (by decide)) rfl rfl 1 (by decide) hf129 rfl dX3_doWord_1 ?_
  refine lv_aload_n hx hb dX3_doWord_4 rfl (lv_at hl 1 rfl) ?_
  refine wx_get (w := (cw k)) (g := (i + 1)) (j := 0) hx hb hts hiX2 hown hK hP (cIx_r hi (by decide)) rfl rfl 7 (by decide) hf133 rfl dX3_doWord_5 ?_
  refine wx_iald (w := (cw k)) (g := (i + 1)) (j := 1) hx hb hK hP (cIx_r hi (by decide)) 0 rfl rfl (mf_p hI hf) dX3_doWord_8 ?_
  refine lv_istore_n (lv' := [(2, .int (M (i + 1) 1 (M (i + 1) 0 7).toNatClampNeg)), (0, .ref (k.1 0 0)), (1, .ref (k.1 (i + 1) 0))]) hx hb dX3_doWord_9 rfl hl (by decide) rfl (fun ls hl => ?_)
  refine lv_aload_n hx hb dX3_doWord_10 rfl (lv_at hl 2 rfl) ?_
  refine wx_get (w := (cw k)) (g := (i + 1)) (j := 0) hx hb hts hiX2 hown hK hP (cIx_r hi (by decide)) rfl rfl 2 (by decide) hf136 rfl dX3_doWord_11 ?_
  refine lv_astore_n (lv' := [(3, .ref (k.1 (i + 1) 2)), (2, .int (M (i + 1) 1 (M (i + 1) 0 7).toNatClampNeg)), (0, .ref (k.1 0 0)), (1, .ref (k.1 (i + 1) 0))]) hx hb dX3_doWord_14 rfl hl (by decide) rfl (fun ls hl => ?_)
  refine lv_iload_n hx hb dX3_doWord_15 rfl (lv_at hl 1 rfl) ?_
  refine wx_Si (w := (cw k)) (f_X3_opOf k M (M (i + 1) 1 (M (i + 1) 0 7).toNatClampNeg)) M [.int (M (i + 1) 1 (M (i + 1) 0 7).toNatClampNeg)] [] (cZok k) ⟨hx, hb, hml, hown, hts⟩ (c_X3_opOf l k M (M (i + 1) 1 (M (i + 1) 0 7).toNatClampNeg) ) (va_cwS 1 hts gX3_doWord_X3_opOf rfl rfl rfl (by decide +kernel) ⟨by decide, by decide⟩) hP hK hD hZ hS rfl hl.1 rfl (Nat.le_of_ble_eq_true rfl) dX3_doWord_16 ⟨by decide, by decide⟩ (fun H locs hP hS => ?_)
  refine lv_istore (lv' := [(4, .int (f_X3_opOf k M (M (i + 1) 1 (M (i + 1) 0 7).toNatClampNeg))), (3, .ref (k.1 (i + 1) 2)), (2, .int (M (i + 1) 1 (M (i + 1) 0 7).toNatClampNeg)), (0, .ref (k.1 0 0)), (1, .ref (k.1 (i + 1) 0))]) hx hb dX3_doWord_19 hl (by decide) rfl (fun ls hl => ?_)
  refine lv_iload_n hx hb dX3_doWord_21 rfl (lv_at hl 2 rfl) ?_
  refine wx_Si (w := (cw k)) (f_X3_rOf k M (M (i + 1) 1 (M (i + 1) 0 7).toNatClampNeg)) M [.int (M (i + 1) 1 (M (i + 1) 0 7).toNatClampNeg)] [] (cZok k) ⟨hx, hb, hml, hown, hts⟩ (c_X3_rOf l k M (M (i + 1) 1 (M (i + 1) 0 7).toNatClampNeg) ) (va_cwS 1 hts gX3_doWord_X3_rOf rfl rfl rfl (by decide +kernel) ⟨by decide, by decide⟩) hP hK hD hZ hS rfl hl.1 rfl (Nat.le_of_ble_eq_true rfl) dX3_doWord_22 ⟨by decide, by decide⟩ (fun H locs hP hS => ?_)
  refine lv_istore (lv' := [(5, .int (f_X3_rOf k M (M (i + 1) 1 (M (i + 1) 0 7).toNatClampNeg))), (4, .int (f_X3_opOf k M (M (i + 1) 1 (M (i + 1) 0 7).toNatClampNeg))), (3, .ref (k.1 (i + 1) 2)), (2, .int (M (i + 1) 1 (M (i + 1) 0 7).toNatClampNeg)), (0, .ref (k.1 0 0)), (1, .ref (k.1 (i + 1) 0))]) hx hb dX3_doWord_25 hl (by decide) rfl (fun ls hl => ?_)
  refine lv_iload_n hx hb dX3_doWord_27 rfl (lv_at hl 3 rfl) ?_
  refine wx_Si (w := (cw k)) (f_X3_sOf k M (M (i + 1) 1 (M (i + 1) 0 7).toNatClampNeg)) M [.int (M (i + 1) 1 (M (i + 1) 0 7).toNatClampNeg)] [] (cZok k) ⟨hx, hb, hml, hown, hts⟩ (c_X3_sOf l k M (M (i + 1) 1 (M (i + 1) 0 7).toNatClampNeg) ) (va_cwS 1 hts gX3_doWord_X3_sOf rfl rfl rfl (by decide +kernel) ⟨by decide, by decide⟩) hP hK hD hZ hS rfl hl.1 rfl (Nat.le_of_ble_eq_true rfl) dX3_doWord_28 ⟨by decide, by decide⟩ (fun H locs hP hS => ?_)
  refine lv_istore (lv' := [(6, .int (f_X3_sOf k M (M (i + 1) 1 (M (i + 1) 0 7).toNatClampNeg))), (5, .int (f_X3_rOf k M (M (i + 1) 1 (M (i + 1) 0 7).toNatClampNeg))), (4, .int (f_X3_opOf k M (M (i + 1) 1 (M (i + 1) 0 7).toNatClampNeg))), (3, .ref (k.1 (i + 1) 2)), (2, .int (M (i + 1) 1 (M (i + 1) 0 7).toNatClampNeg)), (0, .ref (k.1 0 0)), (1, .ref (k.1 (i + 1) 0))]) hx hb dX3_doWord_31 hl (by decide) rfl (fun ls hl => ?_)
  refine lv_iload_n hx hb dX3_doWord_33 rfl (lv_at hl 4 rfl) ?_
  refine lv_bipush (v := 16) hx hb dX3_doWord_34 (by decide) ?_
  refine lv_ishr hx hb dX3_doWord_36 ?_
  refine lv_istore (lv' := [(7, .int ((M (i + 1) 1 (M (i + 1) 0 7).toNatClampNeg) >>> (16 &&& 31))), (6, .int (f_X3_sOf k M (M (i + 1) 1 (M (i + 1) 0 7).toNatClampNeg))), (5, .int (f_X3_rOf k M (M (i + 1) 1 (M (i + 1) 0 7).toNatClampNeg))), (4, .int (f_X3_opOf k M (M (i + 1) 1 (M (i + 1) 0 7).toNatClampNeg))), (3, .ref (k.1 (i + 1) 2)), (2, .int (M (i + 1) 1 (M (i + 1) 0 7).toNatClampNeg)), (0, .ref (k.1 0 0)), (1, .ref (k.1 (i + 1) 0))]) hx hb dX3_doWord_37 hl (by decide) rfl (fun ls hl => ?_)
  refine lv_aload_n hx hb dX3_doWord_39 rfl (lv_at hl 4 rfl) ?_
  refine lv_iload hx hb dX3_doWord_40 (lv_at hl 2 rfl) ?_
  refine wx_iald (w := (cw k)) (g := (i + 1)) (j := 2) hx hb hK hP (cIx_r hi (by decide)) 0 rfl rfl (mf_r hf) dX3_doWord_42 ?_
  refine lv_istore (lv' := [(8, .int (M (i + 1) 2 (f_X3_rOf k M (M (i + 1) 1 (M (i + 1) 0 7).toNatClampNeg)).toNatClampNeg)), (7, .int ((M (i + 1) 1 (M (i + 1) 0 7).toNatClampNeg) >>> (16 &&& 31))), (6, .int (f_X3_sOf k M (M (i + 1) 1 (M (i + 1) 0 7).toNatClampNeg))), (5, .int (f_X3_rOf k M (M (i + 1) 1 (M (i + 1) 0 7).toNatClampNeg))), (4, .int (f_X3_opOf k M (M (i + 1) 1 (M (i + 1) 0 7).toNatClampNeg))), (3, .ref (k.1 (i + 1) 2)), (2, .int (M (i + 1) 1 (M (i + 1) 0 7).toNatClampNeg)), (0, .ref (k.1 0 0)), (1, .ref (k.1 (i + 1) 0))]) hx hb dX3_doWord_43 hl (by decide) rfl (fun ls hl => ?_)
  refine lv_aload_n hx hb dX3_doWord_45 rfl (lv_at hl 5 rfl) ?_
  refine lv_iload hx hb dX3_doWord_46 (lv_at hl 2 rfl) ?_
  refine wx_iald (w := (cw k)) (g := (i + 1)) (j := 2) hx hb hK hP (cIx_r hi (by decide)) 0 rfl rfl (mf_s hf) dX3_doWord_48 ?_
  refine lv_istore (lv' := [(9, .int (M (i + 1) 2 (f_X3_sOf k M (M (i + 1) 1 (M (i + 1) 0 7).toNatClampNeg)).toNatClampNeg)), (8, .int (M (i + 1) 2 (f_X3_rOf k M (M (i + 1) 1 (M (i + 1) 0 7).toNatClampNeg)).toNatClampNeg)), (7, .int ((M (i + 1) 1 (M (i + 1) 0 7).toNatClampNeg) >>> (16 &&& 31))), (6, .int (f_X3_sOf k M (M (i + 1) 1 (M (i + 1) 0 7).toNatClampNeg))), (5, .int (f_X3_rOf k M (M (i + 1) 1 (M (i + 1) 0 7).toNatClampNeg))), (4, .int (f_X3_opOf k M (M (i + 1) 1 (M (i + 1) 0 7).toNatClampNeg))), (3, .ref (k.1 (i + 1) 2)), (2, .int (M (i + 1) 1 (M (i + 1) 0 7).toNatClampNeg)), (0, .ref (k.1 0 0)), (1, .ref (k.1 (i + 1) 0))]) hx hb dX3_doWord_49 hl (by decide) rfl (fun ls hl => ?_)
  refine lv_aload_n hx hb dX3_doWord_51 rfl (lv_at hl 9 rfl) ?_
  refine wx_get (w := (cw k)) (g := (i + 1)) (j := 0) hx hb hts hiX2 hown hK hP (cIx_r hi (by decide)) rfl rfl 7 (by decide) hf133 rfl dX3_doWord_52 ?_
  refine lv_iconst (v := 1) hx hb dX3_doWord_55 (by decide) ?_
  refine lv_iadd hx hb dX3_doWord_56 ?_
  refine lv_istore (lv' := [(10, .int ((M (i + 1) 0 7) + 1)), (9, .int (M (i + 1) 2 (f_X3_sOf k M (M (i + 1) 1 (M (i + 1) 0 7).toNatClampNeg)).toNatClampNeg)), (8, .int (M (i + 1) 2 (f_X3_rOf k M (M (i + 1) 1 (M (i + 1) 0 7).toNatClampNeg)).toNatClampNeg)), (7, .int ((M (i + 1) 1 (M (i + 1) 0 7).toNatClampNeg) >>> (16 &&& 31))), (6, .int (f_X3_sOf k M (M (i + 1) 1 (M (i + 1) 0 7).toNatClampNeg))), (5, .int (f_X3_rOf k M (M (i + 1) 1 (M (i + 1) 0 7).toNatClampNeg))), (4, .int (f_X3_opOf k M (M (i + 1) 1 (M (i + 1) 0 7).toNatClampNeg))), (3, .ref (k.1 (i + 1) 2)), (2, .int (M (i + 1) 1 (M (i + 1) 0 7).toNatClampNeg)), (0, .ref (k.1 0 0)), (1, .ref (k.1 (i + 1) 0))]) hx hb dX3_doWord_57 hl (by decide) rfl (fun ls hl => ?_)
  have e9 : f_X3_doWord k M i = f_X3_doWord_L59 k i (f_X3_opOf k M (M (i + 1) 1 (M (i + 1) 0 7).toNatClampNeg)) (f_X3_rOf k M (M (i + 1) 1 (M (i + 1) 0 7).toNatClampNeg)) (f_X3_sOf k M (M (i + 1) 1 (M (i + 1) 0 7).toNatClampNeg)) ((M (i + 1) 1 (M (i + 1) 0 7).toNatClampNeg) >>> (16 &&& 31)) (M (i + 1) 2 (f_X3_rOf k M (M (i + 1) 1 (M (i + 1) 0 7).toNatClampNeg)).toNatClampNeg) (M (i + 1) 2 (f_X3_sOf k M (M (i + 1) 1 (M (i + 1) 0 7).toNatClampNeg)).toNatClampNeg) ((M (i + 1) 0 7) + 1) M := rfl
  exact lp_X3_doWord_L59 k i (hi) hx hb hr hml hts hown hlocks hK hD hZ (f_X3_opOf k M (M (i + 1) 1 (M (i + 1) 0 7).toNatClampNeg)) (f_X3_rOf k M (M (i + 1) 1 (M (i + 1) 0 7).toNatClampNeg)) (f_X3_sOf k M (M (i + 1) 1 (M (i + 1) 0 7).toNatClampNeg)) ((M (i + 1) 1 (M (i + 1) 0 7).toNatClampNeg) >>> (16 &&& 31)) (M (i + 1) 2 (f_X3_rOf k M (M (i + 1) 1 (M (i + 1) 0 7).toNatClampNeg)).toNatClampNeg) (M (i + 1) 2 (f_X3_sOf k M (M (i + 1) 1 (M (i + 1) 0 7).toNatClampNeg)).toNatClampNeg) ((M (i + 1) 0 7) + 1) M _ _ ls (⟨hI, mf_r hf, mf_s hf, mf_d hf⟩) hP hS (lv_sub hl [0, 1, 2, 3, 4, 5, 6, 7, 10, 9] rfl) _ e9.symm
theorem cI_pl {k : CK} {X : Mem} {i : Nat} {a : Int32} (h : cI k X) : cI k (mu X (i + 1) 0 7 a) := cI_mu h (by omega) (by omega) (by omega)
theorem cI_dn {k : CK} {X : Mem} {i : Nat} {a : Int32} (h : cI k X) : cI k (mu X (i + 1) 0 9 a) := cI_mu h (by omega) (by omega) (by omega)
theorem cI_tl {k : CK} {X : Mem} {i : Nat} {a b : Int32} (h : cI k X) : cI k (mu (mu X (i + 1) 0 7 a) (i + 1) 0 9 b) := cI_mu (cI_mu h (by omega) (by omega) (by omega)) (by omega) (by omega) (by omega)
theorem cI_rg {k : CK} {X : Mem} {i q : Nat} {a : Int32} (h : cI k X) : cI k (mu X (i + 1) 2 q a) := cI_mu h (by omega) (by omega) (by omega)
theorem cI_st {k : CK} {X : Mem} {i : Nat} {a : Int32} (h : cI k X) : cI k (mu X (i + 1) 0 4 a) := cI_mu h (by omega) (by omega) (by omega)
theorem cI_dw {k : CK} {M : Mem} {i : Nat} {x4 x5 x6 x7 x8 x9 x10 : Int32} (hI : cI k M) : cI k (f_X3_doWord_L59 k i x4 x5 x6 x7 x8 x9 x10 M) := by
  unfold f_X3_doWord_L59
  by_cases y0 : x4 = 0
  · rw [if_pos y0]
    exact (cI_dn (cI_pl (cI_st hI)))
  · rw [if_neg y0]
    by_cases y1 : x4 = 1
    · rw [if_pos y1]
      exact (cI_dn (cI_pl (cI_rg hI)))
    · rw [if_neg y1]
      by_cases y2 : x4 = 2
      · rw [if_pos y2]
        exact (cI_dn (cI_pl (cI_rg hI)))
      · rw [if_neg y2]
        by_cases y3 : x4 = 3
        · rw [if_pos y3]
          exact (cI_dn (cI_pl (cI_rg hI)))
        · rw [if_neg y3]
          by_cases y4 : x4 = 4
          · rw [if_pos y4]
            exact (cI_dn (cI_pl (cI_rg hI)))
          · rw [if_neg y4]
            by_cases y5 : x4 = 5
            · rw [if_pos y5]
              exact (cI_dn (cI_pl (cI_rg hI)))
            · rw [if_neg y5]
              by_cases y6 : x4 = 6
              · rw [if_pos y6]
                exact (cI_dn (cI_pl (cI_rg hI)))
              · rw [if_neg y6]
                by_cases y7 : x4 = 7
                · rw [if_pos y7]
                  exact (cI_dn (cI_pl (cI_rg hI)))
                · rw [if_neg y7]
                  by_cases y8 : x4 = 8
                  · rw [if_pos y8]
                    exact (cI_dn (cI_pl (cI_rg hI)))
                  · rw [if_neg y8]
                    by_cases y9 : x4 = 9
                    · rw [if_pos y9]
                      exact (cI_dn (cI_pl (cI_rg hI)))
                    · rw [if_neg y9]
                      by_cases y10 : x4 = 10
                      · rw [if_pos y10]
                        exact (cI_dn (cI_pl hI))
                      · rw [if_neg y10]
                        by_cases y11 : x4 = 11
                        · rw [if_pos y11]
                          by_cases y12 : x8 = 0
                          · rw [if_pos y12]
                            exact (cI_dn (cI_pl hI))
                          · rw [if_neg y12]
                            exact (cI_dn (cI_pl hI))
                        · rw [if_neg y11]
                          by_cases y12 : x4 = 12
                          · rw [if_pos y12]
                            by_cases y13 : x8 = 0
                            · rw [if_pos y13]
                              exact (cI_dn (cI_pl hI))
                            · rw [if_neg y13]
                              exact (cI_dn (cI_pl hI))
                          · rw [if_neg y12]
                            by_cases y13 : x4 = 13
                            · rw [if_pos y13]
                              exact (cI_dn (cI_pl (cI_rg (cI_go hI))))
                            · rw [if_neg y13]
                              by_cases y14 : x4 = 14
                              · rw [if_pos y14]
                                exact (cI_dn (cI_pl (cI_rg hI)))
                              · rw [if_neg y14]
                                by_cases y15 : x4 = 15
                                · rw [if_pos y15]
                                  exact (cI_dn (cI_pl (cI_rg (cI_take hI))))
                                · rw [if_neg y15]
                                  by_cases y16 : x4 = 16
                                  · rw [if_pos y16]
                                    exact (cI_dn (cI_pl (cI_rg (cI_lay hI))))
                                  · rw [if_neg y16]
                                    by_cases y17 : x4 = 17
                                    · rw [if_pos y17]
                                      exact (cI_dn (cI_pl (cI_rg (cI_send hI))))
                                    · rw [if_neg y17]
                                      by_cases y18 : x4 = 18
                                      · rw [if_pos y18]
                                        by_cases y19 : (f_X3_receive k M i x5).1 = 0
                                        · rw [if_pos y19]
                                          exact (cI_dn (cI_pl (cI_receive hI)))
                                        · rw [if_neg y19]
                                          exact (cI_dn (cI_pl (cI_receive hI)))
                                      · rw [if_neg y18]
                                        by_cases y19 : x4 = 19
                                        · rw [if_pos y19]
                                          exact (cI_dn (cI_pl (cI_fallAsleep hI)))
                                        · rw [if_neg y19]
                                          by_cases y20 : x4 = 20
                                          · rw [if_pos y20]
                                            exact (cI_dn (cI_pl (cI_rg (cI_firstStep hI))))
                                          · rw [if_neg y20]
                                            by_cases y21 : x4 = 21
                                            · rw [if_pos y21]
                                              exact (cI_dn (cI_pl (cI_rg (cI_rg hI))))
                                            · rw [if_neg y21]
                                              by_cases y22 : x4 = 22
                                              · rw [if_pos y22]
                                                exact (cI_dn (cI_pl (cI_rg hI)))
                                              · rw [if_neg y22]
                                                by_cases y23 : x4 = 23
                                                · rw [if_pos y23]
                                                  exact (cI_dn (cI_pl (cI_rg hI)))
                                                · rw [if_neg y23]
                                                  by_cases y24 : x4 = 24
                                                  · rw [if_pos y24]
                                                    exact (cI_dn (cI_pl (cI_rg hI)))
                                                  · rw [if_neg y24]
                                                    exact (cI_dn (cI_pl (cI_rg hI)))
theorem cI_doWord {k : CK} {M : Mem} {i : Nat} (hI : cI k M) : cI k (f_X3_doWord k M i) := by
  unfold f_X3_doWord
  exact cI_dw hI
/-- by program: the loop at 2 of RobotWorld.tick -/
def f_X3_tick_L2 (k : CK)  : Nat → Int32 → Mem → Mem
  | 0, _, M => M
  | n + 1, x, M =>
    if (nI (k.2.1 0)) ≤ x then
      M
    else
      f_X3_tick_L2 k n (x + 1) (f_X2_sleepOn k M x.toNatClampNeg)
set_option maxHeartbeats 4000000 in
set_option maxRecDepth 100000 in
theorem lp_X3_tick_L2 {p : Program} {l : Launch} {e : Env} {s : State} {m : MethodId} {args : Array Value} {below : List Frame} {meth : Method} {c : Code} {Q : State → Prop} (k : CK)   (hx : p.tables.exec = Jvm.exec) (hb : c.code = cX3_tick) (hr : meth.sig.returnType = (some .int)) (hml : c.maxLocals = 2) (hts : ∀ x ∈ wsX3_tick, x.before args s = true) (hown : s.vm.findClass RX3 = some m.cls) (hlocks : meth.locks = false) (hK : va_K (wD (cw k)) vwCl (wT (cw k)) s) {M0 : Mem} (hD : va_D (wA (cw k)) (wW (cw k) M0)) (hZ : wZ (cw k) (wA (cw k)) s s.heap)  : ∀ (n : Nat) (x : Int32) (M : Mem) (H : Heap) (locs : List Loc) (ls : Array Slot), cI k M ∧ lpI (k.2.1 0) n x → wP (cw k) M H → va_S (wA (cw k)) s.heap H locs → lv_has ls 2 [(1, .int x), (0, .ref (k.1 0 0))] → (∀ (H : Heap) (locs : List Loc) (ls : Array Slot), wP (cw k) (f_X3_tick_L2 k n x M) H → va_S (wA (cw k)) s.heap H locs → lv_has ls 2 [(0, .ref (k.1 0 0))] → W p l e (rmK 5 134) s m args below meth c H locs 0 0 Q (F0 m 26 ls [])) → W p l e (rmK 5 134) s m args below meth c H locs 0 0 Q (F0 m 2 ls []) := by
  have hiX3 : ∀ x ∈ u_ws RX3 TX3 4, x ∈ wsX3_tick := by decide +kernel
  have hf24 := hts (.fieldLink RX3 24 "RobotWorld" "robots" "[LRobotWorld$Robot;") (by decide +kernel)
  intro n
  induction n with
  | zero =>
    intro x M H locs ls hinv
    exact absurd hinv (fun h => lpI_z h.2)
  | succ n ih =>
    intro x M H locs ls hinv hP hS hl kk
    refine lv_iload_n hx hb dX3_tick_2 rfl (lv_at hl 0 rfl) ?_
    refine lv_aload_n hx hb dX3_tick_3 rfl (lv_at hl 1 rfl) ?_
    refine wx_get (w := (cw k)) (g := 0) (j := 0) hx hb hts hiX3 hown hK hP (cIx_0 (by decide)) rfl rfl 1 (by decide) hf24 rfl dX3_tick_4 ?_
    refine wx_alen (w := (cw k)) (g := 0) (j := 5) hx hb hK hP (cIx_0 (by decide)) 1 rfl rfl dX3_tick_7 ?_
    refine lv_icmp_ge (tgt := 26) hx hb dX3_tick_8 (by decide) (fun c_8 => ?_) (fun c_8 => ?_)
    · have e9 : f_X3_tick_L2 k (n + 1) x M = M := (by rw [f_X3_tick_L2]; rw [if_pos c_8])
      rw [e9] at kk
      exact kk _ _ ls hP hS (lv_sub hl [1] rfl)
    · refine lv_aload_n hx hb dX3_tick_11 rfl (lv_at hl 1 rfl) ?_
      refine wx_get (w := (cw k)) (g := 0) (j := 0) hx hb hts hiX3 hown hK hP (cIx_0 (by decide)) rfl rfl 1 (by decide) hf24 rfl dX3_tick_12 ?_
      refine lv_iload_n hx hb dX3_tick_15 rfl (lv_at hl 0 rfl) ?_
      refine wx_aald (w := (cw k)) (g := 0) (j := 5) hx hb hK hP (cIx_0 (by decide)) 1 rfl rfl (lpI_in hinv.2 c_8 (cI_n hinv.1)) rfl dX3_tick_16 ?_
      refine wx_Vv (w := (cw k)) (f_X2_sleepOn k M x.toNatClampNeg) [] [] (cZok k) ⟨hx, hb, hml, hown, hts⟩ (c_X2_sleepOn l k M x.toNatClampNeg ((vp_lt (lpI_in hinv.2 c_8 (cI_n hinv.1)))) ) (cwV 0 hts gX3_tick_X2_sleepOn rfl rfl rfl (by decide +kernel) ⟨by decide, by decide⟩) (wx_recv (w := (cw k)) (g := (x.toNatClampNeg + 1)) (j := 0) hK hP (cIx_r (vp_lt (lpI_in hinv.2 c_8 (cI_n hinv.1))) (by decide)) rfl rfl) hP hK hD hZ hS rfl hl.1 rfl (Nat.le_of_ble_eq_true rfl) dX3_tick_17 ⟨by decide, by decide⟩ (fun H locs hP hS => ?_)
      refine lv_iinc (v := (x + 1)) (lv' := [(1, .int (x + 1)), (0, .ref (k.1 0 0))]) hx hb dX3_tick_20 hl (k := 0) rfl rfl (by decide) rfl (fun ls hl => ?_)
      refine lv_goto (tgt := 2) hx hb dX3_tick_23 (by decide) ?_
      have e9 : f_X3_tick_L2 k (n + 1) x M = f_X3_tick_L2 k n (x + 1) (f_X2_sleepOn k M x.toNatClampNeg) := (by rw [f_X3_tick_L2]; rw [if_neg c_8])
      exact ih (x + 1) (f_X2_sleepOn k M x.toNatClampNeg) _ _ ls (⟨cI_sleepOn hinv.1, lpI_s hinv.2 c_8 (cI_n hinv.1)⟩) hP hS (lv_sub hl [0, 1] rfl) (by rw [e9] at kk; exact kk)
theorem cI_tL {k : CK} : ∀ (n : Nat) (x : Int32) (M : Mem), cI k M → cI k (f_X3_tick_L2 k n x M) := by
  intro n
  induction n with
  | zero => intro x M hI; exact hI
  | succ n ih =>
    intro x M hI
    unfold f_X3_tick_L2
    split
    · exact hI
    · exact ih _ _ (cI_sleepOn hI)
/-- by program, from the bytecode of RobotWorld.tick -/
def f_X3_tick (k : CK) (M : Mem)  : Int32 × Mem :=
  match (f_X3_nextReady k (f_X3_tick_L2 k (k.2.1 0 + 1) 0 M)) with
  | none =>
    ((-1), (mu (f_X3_tick_L2 k (k.2.1 0 + 1) 0 M) 0 0 2 (((f_X3_tick_L2 k (k.2.1 0 + 1) 0 M) 0 0 2) + 1)))
  | some i_27 =>
    if (f_X2_mustFail k (mu (f_X3_tick_L2 k (k.2.1 0 + 1) 0 M) 0 0 3 ((f_X3_tick_L2 k (k.2.1 0 + 1) 0 M) (i_27 + 1) 0 0)) i_27) = 0 then
      (((mu (f_X3_doWord k (mu (f_X3_tick_L2 k (k.2.1 0 + 1) 0 M) 0 0 3 ((f_X3_tick_L2 k (k.2.1 0 + 1) 0 M) (i_27 + 1) 0 0)) i_27) 0 0 2 (((f_X3_doWord k (mu (f_X3_tick_L2 k (k.2.1 0 + 1) 0 M) 0 0 3 ((f_X3_tick_L2 k (k.2.1 0 + 1) 0 M) (i_27 + 1) 0 0)) i_27) 0 0 2) + 1)) (i_27 + 1) 0 0), (mu (f_X3_doWord k (mu (f_X3_tick_L2 k (k.2.1 0 + 1) 0 M) 0 0 3 ((f_X3_tick_L2 k (k.2.1 0 + 1) 0 M) (i_27 + 1) 0 0)) i_27) 0 0 2 (((f_X3_doWord k (mu (f_X3_tick_L2 k (k.2.1 0 + 1) 0 M) 0 0 3 ((f_X3_tick_L2 k (k.2.1 0 + 1) 0 M) (i_27 + 1) 0 0)) i_27) 0 0 2) + 1)))
    else
      (((mu (mu (mu (f_X3_tick_L2 k (k.2.1 0 + 1) 0 M) 0 0 3 ((f_X3_tick_L2 k (k.2.1 0 + 1) 0 M) (i_27 + 1) 0 0)) (i_27 + 1) 0 4 6) 0 0 2 (((mu (mu (f_X3_tick_L2 k (k.2.1 0 + 1) 0 M) 0 0 3 ((f_X3_tick_L2 k (k.2.1 0 + 1) 0 M) (i_27 + 1) 0 0)) (i_27 + 1) 0 4 6) 0 0 2) + 1)) (i_27 + 1) 0 0), (mu (mu (mu (f_X3_tick_L2 k (k.2.1 0 + 1) 0 M) 0 0 3 ((f_X3_tick_L2 k (k.2.1 0 + 1) 0 M) (i_27 + 1) 0 0)) (i_27 + 1) 0 4 6) 0 0 2 (((mu (mu (f_X3_tick_L2 k (k.2.1 0 + 1) 0 M) 0 0 3 ((f_X3_tick_L2 k (k.2.1 0 + 1) 0 M) (i_27 + 1) 0 0)) (i_27 + 1) 0 4 6) 0 0 2) + 1)))
set_option maxHeartbeats 4000000 in
set_option maxRecDepth 100000 in
theorem c_X3_tick (l : Launch) (k : CK) (M : Mem)  (hI : cI k M) : Met l yX3_tick wsX3_tick (rmK 5 134) (wPc (cw k) M [.ref (k.1 0 0)]) (wQi (cw k) (fun r u => r = (f_X3_tick k M).1 ∧ u = (f_X3_tick k M).2)) 0 0 (wA (cw k)) := by
  refine wx_met (cc := cX3_tick) (maxL := 2) (ret := (some .int)) (by decide) rfl (Nat.le_of_ble_eq_true rfl) ?_
  intro p e s m below meth c ls hx hb hr hml hts hown hlocks hP hK hD hZ hS hl
  have hown : s.vm.findClass RX3 = some m.cls := hown
  have hl : lv_has ls 2 [(0, .ref (k.1 0 0))] := hl
  have hiX2 : ∀ x ∈ u_ws RX2 TX2 12, x ∈ wsX3_tick := by decide +kernel
  have hiX3 : ∀ x ∈ u_ws RX3 TX3 4, x ∈ wsX3_tick := by decide +kernel
  have hf52 := hts (.fieldLink RX3 52 "RobotWorld$Robot" "state" "I") (by decide +kernel)
  have hf74 := hts (.fieldLink RX3 74 "RobotWorld$Robot" "number" "I") (by decide +kernel)
  have hf77 := hts (.fieldLink RX3 77 "RobotWorld" "lastRan" "I") (by decide +kernel)
  have hf88 := hts (.fieldLink RX3 88 "RobotWorld" "clock" "I") (by decide +kernel)
  refine lv_iconst (v := 0) hx hb dX3_tick_0 (by decide) ?_
  refine lv_istore_n (lv' := [(1, .int 0), (0, .ref (k.1 0 0))]) hx hb dX3_tick_1 rfl hl (by decide) rfl (fun ls hl => ?_)
  refine lp_X3_tick_L2 k hx hb hr hml hts hown hlocks hK hD hZ (k.2.1 0 + 1) 0 M _ _ ls (⟨hI, lpI_i _⟩) hP hS (lv_sub hl [0, 1] rfl) (fun H locs ls hP hS hl => ?_)
  refine lv_aload_n hx hb dX3_tick_26 rfl (lv_at hl 0 rfl) ?_
  refine wx_Vq (w := (cw k)) (f_X3_nextReady k (f_X3_tick_L2 k (k.2.1 0 + 1) 0 M)) [] [] (cZok k) ⟨hx, hb, hml, hown, hts⟩ (c_X3_nextReady l k (f_X3_tick_L2 k (k.2.1 0 + 1) 0 M)  (cI_tL _ _ M hI)) (cwV 0 hts gX3_tick_X3_nextReady rfl rfl rfl (by decide +kernel) ⟨by decide, by decide⟩) (wx_recv (w := (cw k)) (g := 0) (j := 0) hK hP (cIx_0 (by decide)) rfl rfl) hP hK hD hZ hS rfl hl.1 rfl (Nat.le_of_ble_eq_true rfl) dX3_tick_27 ⟨by decide, by decide⟩ (fun H locs q_27 hP hS => ?_) (fun i_27 H locs q_27 hP hS => ?_)
  · refine lv_astore_nN (lv' := [(1, .null), (0, .ref (k.1 0 0))]) hx hb dX3_tick_30 rfl hl (by decide) rfl (fun ls hl => ?_)
    refine lv_aload_nN hx hb dX3_tick_31 rfl (lv_at hl 0 rfl) ?_
    refine lv_ifnullN (tgt := 64) hx hb dX3_tick_32 (by decide) ?_
    refine lv_aload_n hx hb dX3_tick_64 rfl (lv_at hl 1 rfl) ?_
    refine lv_dup hx hb dX3_tick_65 rfl ?_
    refine wx_get (w := (cw k)) (g := 0) (j := 0) hx hb hts hiX3 hown hK hP (cIx_0 (by decide)) rfl rfl 2 (by decide) hf88 rfl dX3_tick_66 ?_
    refine lv_iconst (v := 1) hx hb dX3_tick_69 (by decide) ?_
    refine lv_iadd hx hb dX3_tick_70 ?_
    refine wx_put (w := (cw k)) (g := 0) (j := 0) hx hb hts hiX3 tyX3 tyX3_ok nmX3 hown hK hP hD hS (cIx_0 (by decide)) rfl rfl 2 (by decide) hf88 rfl (by decide +kernel) rfl (Nat.le_of_ble_eq_true rfl) dX3_tick_71 (fun H locs hP hS => ?_)
    refine lv_aload_nN hx hb dX3_tick_74 rfl (lv_at hl 0 rfl) ?_
    refine lv_ifnonnullN hx hb dX3_tick_75 ?_
    refine lv_iconst (v := (-1)) hx hb dX3_tick_78 (by decide) ?_
    refine lv_goto (tgt := 86) hx hb dX3_tick_79 (by decide) ?_
    have e9 : f_X3_tick k M = ((-1), (mu (f_X3_tick_L2 k (k.2.1 0 + 1) 0 M) 0 0 2 (((f_X3_tick_L2 k (k.2.1 0 + 1) 0 M) 0 0 2) + 1))) := (by unfold f_X3_tick; simp only [q_27])
    exact wx_iret hx hb hr hlocks hP hS rfl ⟨by rw [e9], by rw [e9]⟩ dX3_tick_86
  · refine lv_astore_n (lv' := [(1, .ref (k.1 (i_27 + 1) 0)), (0, .ref (k.1 0 0))]) hx hb dX3_tick_30 rfl hl (by decide) rfl (fun ls hl => ?_)
    refine lv_aload_n hx hb dX3_tick_31 rfl (lv_at hl 0 rfl) ?_
    refine lv_ifnull hx hb dX3_tick_32 ?_
    refine lv_aload_n hx hb dX3_tick_35 rfl (lv_at hl 1 rfl) ?_
    refine lv_aload_n hx hb dX3_tick_36 rfl (lv_at hl 0 rfl) ?_
    refine wx_get (w := (cw k)) (g := (i_27 + 1)) (j := 0) hx hb hts hiX2 hown hK hP (cIx_r (nextReady_lt (cI_tL _ _ M hI) q_27) (by decide)) rfl rfl 0 (by decide) hf74 rfl dX3_tick_37 ?_
    refine wx_put (w := (cw k)) (g := 0) (j := 0) hx hb hts hiX3 tyX3 tyX3_ok nmX3 hown hK hP hD hS (cIx_0 (by decide)) rfl rfl 3 (by decide) hf77 rfl (by decide +kernel) rfl (Nat.le_of_ble_eq_true rfl) dX3_tick_40 (fun H locs hP hS => ?_)
    refine lv_aload_n hx hb dX3_tick_43 rfl (lv_at hl 0 rfl) ?_
    refine wx_Vi (w := (cw k)) (f_X2_mustFail k (mu (f_X3_tick_L2 k (k.2.1 0 + 1) 0 M) 0 0 3 ((f_X3_tick_L2 k (k.2.1 0 + 1) 0 M) (i_27 + 1) 0 0)) i_27) (mu (f_X3_tick_L2 k (k.2.1 0 + 1) 0 M) 0 0 3 ((f_X3_tick_L2 k (k.2.1 0 + 1) 0 M) (i_27 + 1) 0 0)) [] [] (cZok k) ⟨hx, hb, hml, hown, hts⟩ (c_X2_mustFail l k (mu (f_X3_tick_L2 k (k.2.1 0 + 1) 0 M) 0 0 3 ((f_X3_tick_L2 k (k.2.1 0 + 1) 0 M) (i_27 + 1) 0 0)) i_27 ((nextReady_lt (cI_tL _ _ M hI) q_27)) (cI_mu (cI_tL _ _ M hI) (by omega) (by omega) (by omega))) (cwV 0 hts gX3_tick_X2_mustFail rfl rfl rfl (by decide +kernel) ⟨by decide, by decide⟩) (wx_recv (w := (cw k)) (g := (i_27 + 1)) (j := 0) hK hP (cIx_r (nextReady_lt (cI_tL _ _ M hI) q_27) (by decide)) rfl rfl) hP hK hD hZ hS rfl hl.1 rfl (Nat.le_of_ble_eq_true rfl) dX3_tick_44 ⟨by decide, by decide⟩ (fun H locs hP hS => ?_)
    refine lv_if_eq (tgt := 59) hx hb dX3_tick_47 (by decide) (fun c_47 => ?_) (fun c_47 => ?_)
    · refine lv_aload_n hx hb dX3_tick_59 rfl (lv_at hl 1 rfl) ?_
      refine lv_aload_n hx hb dX3_tick_60 rfl (lv_at hl 0 rfl) ?_
      refine wx_Vv (w := (cw k)) (f_X3_doWord k (mu (f_X3_tick_L2 k (k.2.1 0 + 1) 0 M) 0 0 3 ((f_X3_tick_L2 k (k.2.1 0 + 1) 0 M) (i_27 + 1) 0 0)) i_27) [.ref (k.1 (i_27 + 1) 0)] [] (cZok k) ⟨hx, hb, hml, hown, hts⟩ (c_X3_doWord l k (mu (f_X3_tick_L2 k (k.2.1 0 + 1) 0 M) 0 0 3 ((f_X3_tick_L2 k (k.2.1 0 + 1) 0 M) (i_27 + 1) 0 0)) i_27 ((nextReady_lt (cI_tL _ _ M hI) q_27)) (cI_mu (cI_tL _ _ M hI) (by omega) (by omega) (by omega)) c_47) (cwV 1 hts gX3_tick_X3_doWord rfl rfl rfl (by decide +kernel) ⟨by decide, by decide⟩) (wx_recv (w := (cw k)) (g := 0) (j := 0) hK hP (cIx_0 (by decide)) rfl rfl) hP hK hD hZ hS rfl hl.1 rfl (Nat.le_of_ble_eq_true rfl) dX3_tick_61 ⟨by decide, by decide⟩ (fun H locs hP hS => ?_)
      refine lv_aload_n hx hb dX3_tick_64 rfl (lv_at hl 1 rfl) ?_
      refine lv_dup hx hb dX3_tick_65 rfl ?_
      refine wx_get (w := (cw k)) (g := 0) (j := 0) hx hb hts hiX3 hown hK hP (cIx_0 (by decide)) rfl rfl 2 (by decide) hf88 rfl dX3_tick_66 ?_
      refine lv_iconst (v := 1) hx hb dX3_tick_69 (by decide) ?_
      refine lv_iadd hx hb dX3_tick_70 ?_
      refine wx_put (w := (cw k)) (g := 0) (j := 0) hx hb hts hiX3 tyX3 tyX3_ok nmX3 hown hK hP hD hS (cIx_0 (by decide)) rfl rfl 2 (by decide) hf88 rfl (by decide +kernel) rfl (Nat.le_of_ble_eq_true rfl) dX3_tick_71 (fun H locs hP hS => ?_)
      refine lv_aload_n hx hb dX3_tick_74 rfl (lv_at hl 0 rfl) ?_
      refine lv_ifnonnull (tgt := 82) hx hb dX3_tick_75 (by decide) ?_
      refine lv_aload_n hx hb dX3_tick_82 rfl (lv_at hl 0 rfl) ?_
      refine wx_get (w := (cw k)) (g := (i_27 + 1)) (j := 0) hx hb hts hiX2 hown hK hP (cIx_r (nextReady_lt (cI_tL _ _ M hI) q_27) (by decide)) rfl rfl 0 (by decide) hf74 rfl dX3_tick_83 ?_
      have e9 : f_X3_tick k M = (((mu (f_X3_doWord k (mu (f_X3_tick_L2 k (k.2.1 0 + 1) 0 M) 0 0 3 ((f_X3_tick_L2 k (k.2.1 0 + 1) 0 M) (i_27 + 1) 0 0)) i_27) 0 0 2 (((f_X3_doWord k (mu (f_X3_tick_L2 k (k.2.1 0 + 1) 0 M) 0 0 3 ((f_X3_tick_L2 k (k.2.1 0 + 1) 0 M) (i_27 + 1) 0 0)) i_27) 0 0 2) + 1)) (i_27 + 1) 0 0), (mu (f_X3_doWord k (mu (f_X3_tick_L2 k (k.2.1 0 + 1) 0 M) 0 0 3 ((f_X3_tick_L2 k (k.2.1 0 + 1) 0 M) (i_27 + 1) 0 0)) i_27) 0 0 2 (((f_X3_doWord k (mu (f_X3_tick_L2 k (k.2.1 0 + 1) 0 M) 0 0 3 ((f_X3_tick_L2 k (k.2.1 0 + 1) 0 M) (i_27 + 1) 0 0)) i_27) 0 0 2) + 1))) := (by unfold f_X3_tick; simp only [q_27]; rw [if_pos c_47])
      exact wx_iret hx hb hr hlocks hP hS rfl ⟨by rw [e9], by rw [e9]⟩ dX3_tick_86
    · refine lv_aload_n hx hb dX3_tick_50 rfl (lv_at hl 0 rfl) ?_
      refine lv_bipush (v := 6) hx hb dX3_tick_51 (by decide) ?_
      refine wx_put (w := (cw k)) (g := (i_27 + 1)) (j := 0) hx hb hts hiX2 tyX2 tyX2_ok nmX2 hown hK hP hD hS (cIx_r (nextReady_lt (cI_tL _ _ M hI) q_27) (by decide)) rfl rfl 4 (by decide) hf52 rfl (by decide +kernel) rfl (Nat.le_of_ble_eq_true rfl) dX3_tick_53 (fun H locs hP hS => ?_)
      refine lv_goto (tgt := 64) hx hb dX3_tick_56 (by decide) ?_
      refine lv_aload_n hx hb dX3_tick_64 rfl (lv_at hl 1 rfl) ?_
      refine lv_dup hx hb dX3_tick_65 rfl ?_
      refine wx_get (w := (cw k)) (g := 0) (j := 0) hx hb hts hiX3 hown hK hP (cIx_0 (by decide)) rfl rfl 2 (by decide) hf88 rfl dX3_tick_66 ?_
      refine lv_iconst (v := 1) hx hb dX3_tick_69 (by decide) ?_
      refine lv_iadd hx hb dX3_tick_70 ?_
      refine wx_put (w := (cw k)) (g := 0) (j := 0) hx hb hts hiX3 tyX3 tyX3_ok nmX3 hown hK hP hD hS (cIx_0 (by decide)) rfl rfl 2 (by decide) hf88 rfl (by decide +kernel) rfl (Nat.le_of_ble_eq_true rfl) dX3_tick_71 (fun H locs hP hS => ?_)
      refine lv_aload_n hx hb dX3_tick_74 rfl (lv_at hl 0 rfl) ?_
      refine lv_ifnonnull (tgt := 82) hx hb dX3_tick_75 (by decide) ?_
      refine lv_aload_n hx hb dX3_tick_82 rfl (lv_at hl 0 rfl) ?_
      refine wx_get (w := (cw k)) (g := (i_27 + 1)) (j := 0) hx hb hts hiX2 hown hK hP (cIx_r (nextReady_lt (cI_tL _ _ M hI) q_27) (by decide)) rfl rfl 0 (by decide) hf74 rfl dX3_tick_83 ?_
      have e9 : f_X3_tick k M = (((mu (mu (mu (f_X3_tick_L2 k (k.2.1 0 + 1) 0 M) 0 0 3 ((f_X3_tick_L2 k (k.2.1 0 + 1) 0 M) (i_27 + 1) 0 0)) (i_27 + 1) 0 4 6) 0 0 2 (((mu (mu (f_X3_tick_L2 k (k.2.1 0 + 1) 0 M) 0 0 3 ((f_X3_tick_L2 k (k.2.1 0 + 1) 0 M) (i_27 + 1) 0 0)) (i_27 + 1) 0 4 6) 0 0 2) + 1)) (i_27 + 1) 0 0), (mu (mu (mu (f_X3_tick_L2 k (k.2.1 0 + 1) 0 M) 0 0 3 ((f_X3_tick_L2 k (k.2.1 0 + 1) 0 M) (i_27 + 1) 0 0)) (i_27 + 1) 0 4 6) 0 0 2 (((mu (mu (f_X3_tick_L2 k (k.2.1 0 + 1) 0 M) 0 0 3 ((f_X3_tick_L2 k (k.2.1 0 + 1) 0 M) (i_27 + 1) 0 0)) (i_27 + 1) 0 4 6) 0 0 2) + 1))) := (by unfold f_X3_tick; simp only [q_27]; rw [if_neg c_47])
      exact wx_iret hx hb hr hlocks hP hS rfl ⟨by rw [e9], by rw [e9]⟩ dX3_tick_86
theorem cI_tick {k : CK} {M : Mem} (hI : cI k M) : cI k (f_X3_tick k M).2 := by
  have h1 := cI_tL (k := k) (k.2.1 0 + 1) 0 M hI
  unfold f_X3_tick
  split
  · exact cI_mu h1 (by omega) (by omega) (by omega)
  · split
    · exact cI_mu (cI_doWord (cI_mu h1 (by omega) (by omega) (by omega))) (by omega) (by omega) (by omega)
    · exact cI_mu (cI_mu (cI_mu h1 (by omega) (by omega) (by omega)) (by omega) (by omega) (by omega)) (by omega) (by omega) (by omega)
/-- by program: the loop at 18 of RobotWorld.runTicks -/
def f_X3_runTicks_L18 (k : CK) (p1 : Int32) : Nat → Int32 → Int32 → Mem → Int32 × Mem
  | 0, _, _, M => (0, M)
  | n + 1, y, x, M =>
    if p1 ≤ x then
      (y, M)
    else
      if (f_X3_tick k M).1 = (-1) then
        f_X3_runTicks_L18 k p1 n y (x + 1) (f_X3_tick k M).2
      else
        f_X3_runTicks_L18 k p1 n (y + 1) (x + 1) (f_X3_tick k M).2
set_option maxHeartbeats 4000000 in
set_option maxRecDepth 100000 in
theorem lp_X3_runTicks_L18 {p : Program} {l : Launch} {e : Env} {s : State} {m : MethodId} {args : Array Value} {below : List Frame} {meth : Method} {c : Code} (k : CK) (p1 : Int32)  (hx : p.tables.exec = Jvm.exec) (hb : c.code = cX3_runTicks) (hr : meth.sig.returnType = (some .int)) (hml : c.maxLocals = 4) (hts : ∀ x ∈ wsX3_runTicks, x.before args s = true) (hown : s.vm.findClass RX3 = some m.cls) (hlocks : meth.locks = false) (hK : va_K (wD (cw k)) vwCl (wT (cw k)) s) {M0 : Mem} (hD : va_D (wA (cw k)) (wW (cw k) M0)) (hZ : wZ (cw k) (wA (cw k)) s s.heap)  : ∀ (n : Nat) (y : Int32) (x : Int32) (M : Mem) (H : Heap) (locs : List Loc) (ls : Array Slot), cI k M ∧ lpQ p1 n x → wP (cw k) M H → va_S (wA (cw k)) s.heap H locs → lv_has ls 4 [(3, .int x), (2, .int y), (0, .ref (k.1 0 0)), (1, .int p1)] → ∀ (post : Int32 → Mem → Prop), post (f_X3_runTicks_L18 k p1 n y x M).1 (f_X3_runTicks_L18 k p1 n y x M).2 → W p l e (rmK 6 155) s m args below meth c H locs 0 0 (MQ below (wQi (cw k) post) args s 0 0 (wA (cw k))) (F0 m 18 ls []) := by
  intro n
  induction n with
  | zero =>
    intro y x M H locs ls hinv
    exact absurd hinv (fun h => lpQ_z h.2)
  | succ n ih =>
    intro y x M H locs ls hinv hP hS hl post hpo
    refine lv_iload_n hx hb dX3_runTicks_18 rfl (lv_at hl 0 rfl) ?_
    refine lv_iload_n hx hb dX3_runTicks_19 rfl (lv_at hl 3 rfl) ?_
    refine lv_icmp_ge (tgt := 40) hx hb dX3_runTicks_20 (by decide) (fun c_20 => ?_) (fun c_20 => ?_)
    · refine lv_iload_n hx hb dX3_runTicks_40 rfl (lv_at hl 1 rfl) ?_
      have e9 : f_X3_runTicks_L18 k p1 (n + 1) y x M = (y, M) := (by rw [f_X3_runTicks_L18]; rw [if_pos c_20])
      exact wx_iret hx hb hr hlocks hP hS rfl (by rw [e9] at hpo; exact hpo) dX3_runTicks_41
    · refine lv_aload_n hx hb dX3_runTicks_23 rfl (lv_at hl 2 rfl) ?_
      refine wx_Vi (w := (cw k)) ((f_X3_tick k M).1) ((f_X3_tick k M).2) [] [] (cZok k) ⟨hx, hb, hml, hown, hts⟩ (c_X3_tick l k M  hinv.1) (cwV 0 hts gX3_runTicks_X3_tick rfl rfl rfl (by decide +kernel) ⟨by decide, by decide⟩) (wx_recv (w := (cw k)) (g := 0) (j := 0) hK hP (cIx_0 (by decide)) rfl rfl) hP hK hD hZ hS rfl hl.1 rfl (Nat.le_of_ble_eq_true rfl) dX3_runTicks_24 ⟨by decide, by decide⟩ (fun H locs hP hS => ?_)
      refine lv_iconst (v := (-1)) hx hb dX3_runTicks_27 (by decide) ?_
      refine lv_icmp_eq (tgt := 34) hx hb dX3_runTicks_28 (by decide) (fun c_28 => ?_) (fun c_28 => ?_)
      · refine lv_iinc (v := (x + 1)) (lv' := [(3, .int (x + 1)), (2, .int y), (0, .ref (k.1 0 0)), (1, .int p1)]) hx hb dX3_runTicks_34 hl (k := 0) rfl rfl (by decide) rfl (fun ls hl => ?_)
        refine lv_goto (tgt := 18) hx hb dX3_runTicks_37 (by decide) ?_
        have e9 : f_X3_runTicks_L18 k p1 (n + 1) y x M = f_X3_runTicks_L18 k p1 n y (x + 1) (f_X3_tick k M).2 := (by rw [f_X3_runTicks_L18]; rw [if_neg c_20, if_pos c_28])
        exact ih y (x + 1) (f_X3_tick k M).2 _ _ ls (⟨cI_tick hinv.1, lpQ_s hinv.2 c_20⟩) hP hS (lv_sub hl [0, 1, 2, 3] rfl) _ (by rw [e9] at hpo; exact hpo)
      · refine lv_iinc (v := (y + 1)) (lv' := [(2, .int (y + 1)), (3, .int x), (0, .ref (k.1 0 0)), (1, .int p1)]) hx hb dX3_runTicks_31 hl (k := 1) rfl rfl (by decide) rfl (fun ls hl => ?_)
        refine lv_iinc (v := (x + 1)) (lv' := [(3, .int (x + 1)), (2, .int (y + 1)), (0, .ref (k.1 0 0)), (1, .int p1)]) hx hb dX3_runTicks_34 hl (k := 1) rfl rfl (by decide) rfl (fun ls hl => ?_)
        refine lv_goto (tgt := 18) hx hb dX3_runTicks_37 (by decide) ?_
        have e9 : f_X3_runTicks_L18 k p1 (n + 1) y x M = f_X3_runTicks_L18 k p1 n (y + 1) (x + 1) (f_X3_tick k M).2 := (by rw [f_X3_runTicks_L18]; rw [if_neg c_20, if_neg c_28])
        exact ih (y + 1) (x + 1) (f_X3_tick k M).2 _ _ ls (⟨cI_tick hinv.1, lpQ_s hinv.2 c_20⟩) hP hS (lv_sub hl [0, 1, 2, 3] rfl) _ (by rw [e9] at hpo; exact hpo)
/-- by program, from the bytecode of RobotWorld.runTicks -/
def f_X3_runTicks (k : CK) (M : Mem) (p1 : Int32) : Int32 × Mem :=
  if p1 < 0 then
    ((-2), M)
  else
    if p1 ≤ 10000 then
      f_X3_runTicks_L18 k p1 (p1.toNatClampNeg + 1) 0 0 M
    else
      ((-2), M)
set_option maxHeartbeats 4000000 in
set_option maxRecDepth 100000 in
theorem c_X3_runTicks (l : Launch) (k : CK) (M : Mem) (p1 : Int32) (hI : cI k M) : Met l yX3_runTicks wsX3_runTicks (rmK 6 155) (wPc (cw k) M [.ref (k.1 0 0), .int p1]) (wQi (cw k) (fun r u => r = (f_X3_runTicks k M p1).1 ∧ u = (f_X3_runTicks k M p1).2)) 0 0 (wA (cw k)) := by
  refine wx_met (cc := cX3_runTicks) (maxL := 4) (ret := (some .int)) (by decide) rfl (Nat.le_of_ble_eq_true rfl) ?_
  intro p e s m below meth c ls hx hb hr hml hts hown hlocks hP hK hD hZ hS hl
  have hown : s.vm.findClass RX3 = some m.cls := hown
  have hl : lv_has ls 4 [(0, .ref (k.1 0 0)), (1, .int p1)] := hl
  refine lv_iload_n hx hb dX3_runTicks_0 rfl (lv_at hl 1 rfl) ?_
  refine lv_if_lt (tgt := 11) hx hb dX3_runTicks_1 (by decide) (fun c_1 => ?_) (fun c_1 => ?_)
  · refine lv_bipush (v := (-2)) hx hb dX3_runTicks_11 (by decide) ?_
    have e9 : f_X3_runTicks k M p1 = ((-2), M) := (by unfold f_X3_runTicks; rw [if_pos c_1])
    exact wx_iret hx hb hr hlocks hP hS rfl ⟨by rw [e9], by rw [e9]⟩ dX3_runTicks_13
  · refine lv_iload_n hx hb dX3_runTicks_4 rfl (lv_at hl 1 rfl) ?_
    refine lv_sipush (v := 10000) hx hb dX3_runTicks_5 (by decide) ?_
    refine lv_icmp_le (tgt := 14) hx hb dX3_runTicks_8 (by decide) (fun c_8 => ?_) (fun c_8 => ?_)
    · refine lv_iconst (v := 0) hx hb dX3_runTicks_14 (by decide) ?_
      refine lv_istore_n (lv' := [(2, .int 0), (0, .ref (k.1 0 0)), (1, .int p1)]) hx hb dX3_runTicks_15 rfl hl (by decide) rfl (fun ls hl => ?_)
      refine lv_iconst (v := 0) hx hb dX3_runTicks_16 (by decide) ?_
      refine lv_istore_n (lv' := [(3, .int 0), (2, .int 0), (0, .ref (k.1 0 0)), (1, .int p1)]) hx hb dX3_runTicks_17 rfl hl (by decide) rfl (fun ls hl => ?_)
      have e9 : f_X3_runTicks k M p1 = f_X3_runTicks_L18 k p1 (p1.toNatClampNeg + 1) 0 0 M := (by unfold f_X3_runTicks; rw [if_neg c_1, if_pos c_8])
      exact lp_X3_runTicks_L18 k p1 hx hb hr hml hts hown hlocks hK hD hZ (p1.toNatClampNeg + 1) 0 0 M _ _ ls (⟨hI, lpQ_i _⟩) hP hS (lv_sub hl [0, 1, 2, 3] rfl) _ ⟨by rw [e9], by rw [e9]⟩
    · refine lv_bipush (v := (-2)) hx hb dX3_runTicks_11 (by decide) ?_
      have e9 : f_X3_runTicks k M p1 = ((-2), M) := (by unfold f_X3_runTicks; rw [if_neg c_1, if_neg c_8])
      exact wx_iret hx hb hr hlocks hP hS rfl ⟨by rw [e9], by rw [e9]⟩ dX3_runTicks_13
end
