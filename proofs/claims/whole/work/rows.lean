section
-- ===== PART A: goes FIRST, ahead of the names: the tables' words, and 'selects' of the private methods out of them =====
/-- a private method of a class that the tables say can be made, by its rows of tables_1 -/
def lw_okq (q : MethodName × Nat) : Prop := (q.1.cls ≠ "java/lang/invoke/MethodHandle" ∧ q.1.cls ≠ "java/lang/invoke/VarHandle") ∧ Cond.instantiable q.1.cls q.2 ∈ tables_1 ∧ Cond.privateMethod q.1 ∈ tables_1 ∧ Cond.instanceMethod q.1 ∈ tables_1
theorem lw_p0 : lw_okq (⟨"BestBeast", "fitsLaw", "(I)Z"⟩, 8) := ⟨⟨by decide +kernel, by decide +kernel⟩, List.mem_of_getElem? (i := 9) (by decide +kernel), List.mem_of_getElem? (i := 145) (by decide +kernel), List.mem_of_getElem? (i := 146) (by decide +kernel)⟩
theorem lw_p1 : lw_okq (⟨"BestBeastModel", "faultOf", "()I"⟩, 24) := ⟨⟨by decide +kernel, by decide +kernel⟩, List.mem_of_getElem? (i := 390) (by decide +kernel), List.mem_of_getElem? (i := 485) (by decide +kernel), List.mem_of_getElem? (i := 486) (by decide +kernel)⟩
theorem lw_p2 : lw_okq (⟨"BestBeastModel", "isHolder", "(I)Z"⟩, 24) := ⟨⟨by decide +kernel, by decide +kernel⟩, List.mem_of_getElem? (i := 390) (by decide +kernel), List.mem_of_getElem? (i := 508) (by decide +kernel), List.mem_of_getElem? (i := 509) (by decide +kernel)⟩
theorem lw_p3 : lw_okq (⟨"BestBeastModel", "tell", "(II)I"⟩, 24) := ⟨⟨by decide +kernel, by decide +kernel⟩, List.mem_of_getElem? (i := 390) (by decide +kernel), List.mem_of_getElem? (i := 512) (by decide +kernel), List.mem_of_getElem? (i := 513) (by decide +kernel)⟩
theorem lw_p4 : lw_okq (⟨"BestBeastModel", "hisBits", "(I)I"⟩, 24) := ⟨⟨by decide +kernel, by decide +kernel⟩, List.mem_of_getElem? (i := 390) (by decide +kernel), List.mem_of_getElem? (i := 516) (by decide +kernel), List.mem_of_getElem? (i := 517) (by decide +kernel)⟩
theorem lw_p5 : lw_okq (⟨"BestBeastModel", "heldBits", "(II)I"⟩, 24) := ⟨⟨by decide +kernel, by decide +kernel⟩, List.mem_of_getElem? (i := 390) (by decide +kernel), List.mem_of_getElem? (i := 520) (by decide +kernel), List.mem_of_getElem? (i := 521) (by decide +kernel)⟩
theorem lw_p6 : lw_okq (⟨"BestBeastModel", "lordOf", "(I)I"⟩, 24) := ⟨⟨by decide +kernel, by decide +kernel⟩, List.mem_of_getElem? (i := 390) (by decide +kernel), List.mem_of_getElem? (i := 524) (by decide +kernel), List.mem_of_getElem? (i := 525) (by decide +kernel)⟩
theorem lw_p7 : lw_okq (⟨"BestBeastModel", "churchOf", "(I)I"⟩, 24) := ⟨⟨by decide +kernel, by decide +kernel⟩, List.mem_of_getElem? (i := 390) (by decide +kernel), List.mem_of_getElem? (i := 528) (by decide +kernel), List.mem_of_getElem? (i := 529) (by decide +kernel)⟩
theorem lw_p8 : lw_okq (⟨"BestBeastModel", "lives", "(I)Z"⟩, 24) := ⟨⟨by decide +kernel, by decide +kernel⟩, List.mem_of_getElem? (i := 390) (by decide +kernel), List.mem_of_getElem? (i := 532) (by decide +kernel), List.mem_of_getElem? (i := 533) (by decide +kernel)⟩
theorem lw_p9 : lw_okq (⟨"BestBeastModel", "lossBy", "(II)I"⟩, 24) := ⟨⟨by decide +kernel, by decide +kernel⟩, List.mem_of_getElem? (i := 390) (by decide +kernel), List.mem_of_getElem? (i := 536) (by decide +kernel), List.mem_of_getElem? (i := 537) (by decide +kernel)⟩
theorem lw_p10 : lw_okq (⟨"BestBeastModel", "takenOf", "(II)I"⟩, 24) := ⟨⟨by decide +kernel, by decide +kernel⟩, List.mem_of_getElem? (i := 390) (by decide +kernel), List.mem_of_getElem? (i := 540) (by decide +kernel), List.mem_of_getElem? (i := 541) (by decide +kernel)⟩
theorem lw_p11 : lw_okq (⟨"BestBeastModel", "bestOf", "(I)I"⟩, 24) := ⟨⟨by decide +kernel, by decide +kernel⟩, List.mem_of_getElem? (i := 390) (by decide +kernel), List.mem_of_getElem? (i := 544) (by decide +kernel), List.mem_of_getElem? (i := 545) (by decide +kernel)⟩
theorem lw_p12 : lw_okq (⟨"BestBeastModel", "worthOf", "(I)I"⟩, 24) := ⟨⟨by decide +kernel, by decide +kernel⟩, List.mem_of_getElem? (i := 390) (by decide +kernel), List.mem_of_getElem? (i := 548) (by decide +kernel), List.mem_of_getElem? (i := 549) (by decide +kernel)⟩
theorem lw_p13 : lw_okq (⟨"BestBeastModel", "lay", "(IIII)V"⟩, 24) := ⟨⟨by decide +kernel, by decide +kernel⟩, List.mem_of_getElem? (i := 390) (by decide +kernel), List.mem_of_getElem? (i := 565) (by decide +kernel), List.mem_of_getElem? (i := 566) (by decide +kernel)⟩
theorem lw_p14 : lw_okq (⟨"BestBeastModel", "isBeast", "(I)Z"⟩, 24) := ⟨⟨by decide +kernel, by decide +kernel⟩, List.mem_of_getElem? (i := 390) (by decide +kernel), List.mem_of_getElem? (i := 573) (by decide +kernel), List.mem_of_getElem? (i := 574) (by decide +kernel)⟩
theorem lw_p15 : lw_okq (⟨"BestBeastModel", "mayGive", "(II)Z"⟩, 24) := ⟨⟨by decide +kernel, by decide +kernel⟩, List.mem_of_getElem? (i := 390) (by decide +kernel), List.mem_of_getElem? (i := 581) (by decide +kernel), List.mem_of_getElem? (i := 582) (by decide +kernel)⟩
def lw_privs_1 : List (MethodName × Nat) := [(⟨"BestBeast", "fitsLaw", "(I)Z"⟩, 8), (⟨"BestBeastModel", "faultOf", "()I"⟩, 24), (⟨"BestBeastModel", "isHolder", "(I)Z"⟩, 24), (⟨"BestBeastModel", "tell", "(II)I"⟩, 24), (⟨"BestBeastModel", "hisBits", "(I)I"⟩, 24), (⟨"BestBeastModel", "heldBits", "(II)I"⟩, 24), (⟨"BestBeastModel", "lordOf", "(I)I"⟩, 24), (⟨"BestBeastModel", "churchOf", "(I)I"⟩, 24), (⟨"BestBeastModel", "lives", "(I)Z"⟩, 24), (⟨"BestBeastModel", "lossBy", "(II)I"⟩, 24), (⟨"BestBeastModel", "takenOf", "(II)I"⟩, 24), (⟨"BestBeastModel", "bestOf", "(I)I"⟩, 24), (⟨"BestBeastModel", "worthOf", "(I)I"⟩, 24), (⟨"BestBeastModel", "lay", "(IIII)V"⟩, 24), (⟨"BestBeastModel", "isBeast", "(I)Z"⟩, 24), (⟨"BestBeastModel", "mayGive", "(II)Z"⟩, 24)]
theorem lw_r1 : ∀ q ∈ lw_privs_1, lw_okq q := List.forall_mem_cons.mpr ⟨lw_p0, List.forall_mem_cons.mpr ⟨lw_p1, List.forall_mem_cons.mpr ⟨lw_p2, List.forall_mem_cons.mpr ⟨lw_p3, List.forall_mem_cons.mpr ⟨lw_p4, List.forall_mem_cons.mpr ⟨lw_p5, List.forall_mem_cons.mpr ⟨lw_p6, List.forall_mem_cons.mpr ⟨lw_p7, List.forall_mem_cons.mpr ⟨lw_p8, List.forall_mem_cons.mpr ⟨lw_p9, List.forall_mem_cons.mpr ⟨lw_p10, List.forall_mem_cons.mpr ⟨lw_p11, List.forall_mem_cons.mpr ⟨lw_p12, List.forall_mem_cons.mpr ⟨lw_p13, List.forall_mem_cons.mpr ⟨lw_p14, List.forall_mem_cons.mpr ⟨lw_p15, fun _ h => absurd h List.not_mem_nil⟩⟩⟩⟩⟩⟩⟩⟩⟩⟩⟩⟩⟩⟩⟩⟩
theorem lw_p16 : lw_okq (⟨"BestBeastModel", "gives", "(II)V"⟩, 24) := ⟨⟨by decide +kernel, by decide +kernel⟩, List.mem_of_getElem? (i := 390) (by decide +kernel), List.mem_of_getElem? (i := 585) (by decide +kernel), List.mem_of_getElem? (i := 586) (by decide +kernel)⟩
theorem lw_p17 : lw_okq (⟨"BestBeastModel", "dies", "(I)I"⟩, 24) := ⟨⟨by decide +kernel, by decide +kernel⟩, List.mem_of_getElem? (i := 390) (by decide +kernel), List.mem_of_getElem? (i := 593) (by decide +kernel), List.mem_of_getElem? (i := 594) (by decide +kernel)⟩
theorem lw_p18 : lw_okq (⟨"BestBeastModel", "safeOf", "(II)I"⟩, 24) := ⟨⟨by decide +kernel, by decide +kernel⟩, List.mem_of_getElem? (i := 390) (by decide +kernel), List.mem_of_getElem? (i := 605) (by decide +kernel), List.mem_of_getElem? (i := 606) (by decide +kernel)⟩
theorem lw_p19 : lw_okq (⟨"BestBeastModel", "givingOf", "(II)I"⟩, 24) := ⟨⟨by decide +kernel, by decide +kernel⟩, List.mem_of_getElem? (i := 390) (by decide +kernel), List.mem_of_getElem? (i := 616) (by decide +kernel), List.mem_of_getElem? (i := 617) (by decide +kernel)⟩
theorem lw_p20 : lw_okq (⟨"BestBeastModel", "lostBy", "(III)I"⟩, 24) := ⟨⟨by decide +kernel, by decide +kernel⟩, List.mem_of_getElem? (i := 390) (by decide +kernel), List.mem_of_getElem? (i := 620) (by decide +kernel), List.mem_of_getElem? (i := 621) (by decide +kernel)⟩
theorem lw_p21 : lw_okq (⟨"BestBeastModel", "meanOf", "(III)I"⟩, 24) := ⟨⟨by decide +kernel, by decide +kernel⟩, List.mem_of_getElem? (i := 390) (by decide +kernel), List.mem_of_getElem? (i := 628) (by decide +kernel), List.mem_of_getElem? (i := 629) (by decide +kernel)⟩
theorem lw_p22 : lw_okq (⟨"BestBeastModel", "isRolledBy", "(I)Z"⟩, 24) := ⟨⟨by decide +kernel, by decide +kernel⟩, List.mem_of_getElem? (i := 390) (by decide +kernel), List.mem_of_getElem? (i := 644) (by decide +kernel), List.mem_of_getElem? (i := 645) (by decide +kernel)⟩
theorem lw_p23 : lw_okq (⟨"BestBeastModel", "draw", "(I)I"⟩, 24) := ⟨⟨by decide +kernel, by decide +kernel⟩, List.mem_of_getElem? (i := 390) (by decide +kernel), List.mem_of_getElem? (i := 657) (by decide +kernel), List.mem_of_getElem? (i := 658) (by decide +kernel)⟩
theorem lw_p24 : lw_okq (⟨"BestBeastModel", "livingMany", "()I"⟩, 24) := ⟨⟨by decide +kernel, by decide +kernel⟩, List.mem_of_getElem? (i := 390) (by decide +kernel), List.mem_of_getElem? (i := 665) (by decide +kernel), List.mem_of_getElem? (i := 666) (by decide +kernel)⟩
theorem lw_p25 : lw_okq (⟨"BestBeastModel", "countOf", "(I)I"⟩, 24) := ⟨⟨by decide +kernel, by decide +kernel⟩, List.mem_of_getElem? (i := 390) (by decide +kernel), List.mem_of_getElem? (i := 681) (by decide +kernel), List.mem_of_getElem? (i := 682) (by decide +kernel)⟩
theorem lw_p26 : lw_okq (⟨"BestBeastModel", "thereMany", "()I"⟩, 24) := ⟨⟨by decide +kernel, by decide +kernel⟩, List.mem_of_getElem? (i := 390) (by decide +kernel), List.mem_of_getElem? (i := 685) (by decide +kernel), List.mem_of_getElem? (i := 686) (by decide +kernel)⟩
theorem lw_p27 : lw_okq (⟨"BestBeastModel", "say", "(J)V"⟩, 24) := ⟨⟨by decide +kernel, by decide +kernel⟩, List.mem_of_getElem? (i := 390) (by decide +kernel), List.mem_of_getElem? (i := 694) (by decide +kernel), List.mem_of_getElem? (i := 695) (by decide +kernel)⟩
def lw_privs_2 : List (MethodName × Nat) := [(⟨"BestBeastModel", "gives", "(II)V"⟩, 24), (⟨"BestBeastModel", "dies", "(I)I"⟩, 24), (⟨"BestBeastModel", "safeOf", "(II)I"⟩, 24), (⟨"BestBeastModel", "givingOf", "(II)I"⟩, 24), (⟨"BestBeastModel", "lostBy", "(III)I"⟩, 24), (⟨"BestBeastModel", "meanOf", "(III)I"⟩, 24), (⟨"BestBeastModel", "isRolledBy", "(I)Z"⟩, 24), (⟨"BestBeastModel", "draw", "(I)I"⟩, 24), (⟨"BestBeastModel", "livingMany", "()I"⟩, 24), (⟨"BestBeastModel", "countOf", "(I)I"⟩, 24), (⟨"BestBeastModel", "thereMany", "()I"⟩, 24), (⟨"BestBeastModel", "say", "(J)V"⟩, 24)]
theorem lw_r2 : ∀ q ∈ lw_privs_2, lw_okq q := List.forall_mem_cons.mpr ⟨lw_p16, List.forall_mem_cons.mpr ⟨lw_p17, List.forall_mem_cons.mpr ⟨lw_p18, List.forall_mem_cons.mpr ⟨lw_p19, List.forall_mem_cons.mpr ⟨lw_p20, List.forall_mem_cons.mpr ⟨lw_p21, List.forall_mem_cons.mpr ⟨lw_p22, List.forall_mem_cons.mpr ⟨lw_p23, List.forall_mem_cons.mpr ⟨lw_p24, List.forall_mem_cons.mpr ⟨lw_p25, List.forall_mem_cons.mpr ⟨lw_p26, List.forall_mem_cons.mpr ⟨lw_p27, fun _ h => absurd h List.not_mem_nil⟩⟩⟩⟩⟩⟩⟩⟩⟩⟩⟩⟩
def lw_privs : List (MethodName × Nat) := lw_privs_1 ++ (lw_privs_2)
def lw_tbl : List Cond := k2_sels lw_privs ++ tables_1
theorem lw_privs_ok : ∀ q ∈ lw_privs, lw_okq q := by
  show ∀ q ∈ lw_privs_1 ++ (lw_privs_2), lw_okq q
  exact List.forall_mem_append.mpr ⟨lw_r1, lw_r2⟩
/-! ===== BEGIN words of one list among another's, by their places ===== -/
theorem goodIn_r {big : List Cond} (ws : List Cond) (ps : List Nat) (hp : ws = ps.filterMap (fun i => big[i]?)) (h : ws.all goodWord = true) : GoodIn big ws := by
  intro w hw
  have h1 := List.all_eq_true.mp h w hw
  rw [hp] at hw
  obtain ⟨i, -, hi⟩ := List.mem_filterMap.mp hw
  have hm : w ∈ big := by first | exact List.mem_of_getElem? hi | exact List.getElem?_mem hi
  exact ⟨hm, good_of_word h1⟩
theorem goodIn_app {big a b : List Cond} (ha : GoodIn big a) (hb : GoodIn big b) : GoodIn big (a ++ b) := fun w h => (List.mem_append.mp h).elim (ha w) (hb w)
theorem goodIn_ca {big a b : List Cond} {c : Cond} (ha : GoodIn big (c :: a)) (hb : GoodIn big b) : GoodIn big (c :: (a ++ b)) := fun w h => (List.mem_cons.mp h).elim (fun e => ha w (List.mem_cons.mpr (Or.inl e))) (fun h => (List.mem_append.mp h).elim (fun h => ha w (List.mem_cons.mpr (Or.inr h))) (hb w))
theorem goodIn_sub {big ws : List Cond} (hm : ∀ w ∈ ws, w ∈ big) (h : ws.all goodWord = true) : GoodIn big ws := fun w hw => ⟨hm w hw, good_of_word (List.all_eq_true.mp h w hw)⟩
/-! ===== END ===== -/

/-! ===== BEGIN printed: names, fields, word lists, decode rows ===== -/
def RX0 : String := "BestBeast$Draws"
def TX0 : u_T := fun k => match k with
  | _ => ("BestBeast$Draws", "seed", "I", false)
def tyX0 : Nat → FieldType := fun k => match k with
  | _ => .int
abbrev wsX00 : List Cond := u_ws RX0 TX0 1
theorem nmX0 : ∀ a, a < 1 → ∀ b, b < 1 → a ≠ b → (TX0 a).2.1 ≠ (TX0 b).2.1 := by decide +kernel
theorem tyX0_ok : ∀ k, k < 1 → parseFieldDescriptor (TX0 k).2.2.1 = some (tyX0 k) := by decide +kernel
abbrev cX0_init : ByteArray := prog_2_method_1_code
def yX0_init : MethodName := ⟨RX0, "<init>", "()V"⟩
abbrev cX0_drawOf : ByteArray := prog_2_method_2_code
def yX0_drawOf : MethodName := ⟨RX0, "drawOf", "(I)I"⟩
def RX1 : String := "BestBeast$Manor"
def TX1 : u_T := fun k => match k with
  | 0 => ("BestBeast$Manor", "lord", "I", false)
  | 1 => ("BestBeast$Manor", "church", "I", false)
  | 2 => ("BestBeast$Manor", "voidYears", "I", false)
  | 3 => ("BestBeast$Manor", "least", "I", false)
  | 4 => ("BestBeast$Manor", "holders", "I", false)
  | 5 => ("BestBeast$Manor", "kind", "[I", true)
  | 6 => ("BestBeast$Manor", "death", "[I", true)
  | 7 => ("BestBeast$Manor", "heirOf", "[I", true)
  | 8 => ("BestBeast$Manor", "alive", "[Z", true)
  | 9 => ("BestBeast$Manor", "beasts", "I", false)
  | 10 => ("BestBeast$Manor", "worth", "[I", true)
  | 11 => ("BestBeast$Manor", "owner", "[I", true)
  | 12 => ("BestBeast$Manor", "giver", "[I", true)
  | 13 => ("BestBeast$Manor", "givenIn", "[I", true)
  | 14 => ("BestBeast$Manor", "told", "[I", true)
  | 15 => ("BestBeast$Manor", "yearNow", "I", false)
  | _ => ("BestBeast$Manor", "takenWorth", "I", false)
def tyX1 : Nat → FieldType := fun k => match k with
  | 0 => .int
  | 1 => .int
  | 2 => .int
  | 3 => .int
  | 4 => .int
  | 5 => .array .int
  | 6 => .array .int
  | 7 => .array .int
  | 8 => .array .boolean
  | 9 => .int
  | 10 => .array .int
  | 11 => .array .int
  | 12 => .array .int
  | 13 => .array .int
  | 14 => .array .int
  | 15 => .int
  | _ => .int
abbrev wsX10 : List Cond := u_ws RX1 TX1 17
theorem nmX1 : ∀ a, a < 17 → ∀ b, b < 17 → a ≠ b → (TX1 a).2.1 ≠ (TX1 b).2.1 := by decide +kernel
theorem tyX1_ok : ∀ k, k < 17 → parseFieldDescriptor (TX1 k).2.2.1 = some (tyX1 k) := by decide +kernel
abbrev cX1_init : ByteArray := prog_3_method_1_code
def yX1_init : MethodName := ⟨RX1, "<init>", "()V"⟩
abbrev cX1_copyFrom : ByteArray := prog_3_method_2_code
def yX1_copyFrom : MethodName := ⟨RX1, "copyFrom", "(LBestBeast$Manor;)V"⟩
abbrev cX1_hasHolder : ByteArray := prog_3_method_3_code
def yX1_hasHolder : MethodName := ⟨RX1, "hasHolder", "(I)Z"⟩
abbrev cX1_hasBeast : ByteArray := prog_3_method_4_code
def yX1_hasBeast : MethodName := ⟨RX1, "hasBeast", "(I)Z"⟩
abbrev cX1_isAlive : ByteArray := prog_3_method_5_code
def yX1_isAlive : MethodName := ⟨RX1, "isAlive", "(I)Z"⟩
abbrev cX1_countAlive : ByteArray := prog_3_method_6_code
def yX1_countAlive : MethodName := ⟨RX1, "countAlive", "()I"⟩
abbrev cX1_countNotGone : ByteArray := prog_3_method_7_code
def yX1_countNotGone : MethodName := ⟨RX1, "countNotGone", "()I"⟩
abbrev cX1_addHolder : ByteArray := prog_3_method_8_code
def yX1_addHolder : MethodName := ⟨RX1, "addHolder", "(II)I"⟩
abbrev cX1_addBeast : ByteArray := prog_3_method_9_code
def yX1_addBeast : MethodName := ⟨RX1, "addBeast", "(II)I"⟩
abbrev cX1_putTo : ByteArray := prog_3_method_10_code
def yX1_putTo : MethodName := ⟨RX1, "putTo", "(II)V"⟩
abbrev cX1_mayGive : ByteArray := prog_3_method_11_code
def yX1_mayGive : MethodName := ⟨RX1, "mayGive", "(II)Z"⟩
abbrev cX1_makeGift : ByteArray := prog_3_method_12_code
def yX1_makeGift : MethodName := ⟨RX1, "makeGift", "(II)V"⟩
abbrev cX1_lordMay : ByteArray := prog_3_method_13_code
def yX1_lordMay : MethodName := ⟨RX1, "lordMay", "(I)I"⟩
abbrev cX1_churchMay : ByteArray := prog_3_method_14_code
def yX1_churchMay : MethodName := ⟨RX1, "churchMay", "(I)I"⟩
abbrev cX1_ownBits : ByteArray := prog_3_method_15_code
def yX1_ownBits : MethodName := ⟨RX1, "ownBits", "(I)I"⟩
abbrev cX1_heldBits : ByteArray := prog_3_method_16_code
def yX1_heldBits : MethodName := ⟨RX1, "heldBits", "(I)I"⟩
abbrev cX1_heldLater : ByteArray := prog_3_method_17_code
def yX1_heldLater : MethodName := ⟨RX1, "heldLater", "(III)I"⟩
abbrev cX1_takenFrom : ByteArray := prog_3_method_18_code
def yX1_takenFrom : MethodName := ⟨RX1, "takenFrom", "(II)I"⟩
abbrev cX1_bestOf : ByteArray := prog_3_method_19_code
def yX1_bestOf : MethodName := ⟨RX1, "bestOf", "(I)I"⟩
abbrev cX1_worthTaken : ByteArray := prog_3_method_20_code
def yX1_worthTaken : MethodName := ⟨RX1, "worthTaken", "(II)I"⟩
abbrev cX1_worthOf : ByteArray := prog_3_method_21_code
def yX1_worthOf : MethodName := ⟨RX1, "worthOf", "(I)I"⟩
abbrev cX1_bury : ByteArray := prog_3_method_22_code
def yX1_bury : MethodName := ⟨RX1, "bury", "(I)I"⟩
abbrev cX1_fewestToBeSafe : ByteArray := prog_3_method_23_code
def yX1_fewestToBeSafe : MethodName := ⟨RX1, "fewestToBeSafe", "(I)I"⟩
abbrev cX1_bestGift : ByteArray := prog_3_method_24_code
def yX1_bestGift : MethodName := ⟨RX1, "bestGift", "(II)I"⟩
abbrev cX1_lostOnMean : ByteArray := prog_3_method_25_code
def yX1_lostOnMean : MethodName := ⟨RX1, "lostOnMean", "(III)I"⟩
abbrev cX1_isAsTold : ByteArray := prog_3_method_26_code
def yX1_isAsTold : MethodName := ⟨RX1, "isAsTold", "(I)Z"⟩
abbrev cX1_liveOneYear : ByteArray := prog_3_method_27_code
def yX1_liveOneYear : MethodName := ⟨RX1, "liveOneYear", "(LBestBeast$Draws;)V"⟩
def RX2 : String := "BestBeast"
def TX2 : u_T := fun k => match k with
  | 0 => ("BestBeast", "manor", "LBestBeast$Manor;", true)
  | 1 => ("BestBeast", "kept", "LBestBeast$Manor;", true)
  | 2 => ("BestBeast", "trial", "LBestBeast$Manor;", true)
  | 3 => ("BestBeast", "draws", "LBestBeast$Draws;", true)
  | 4 => ("BestBeast", "page", "[I", true)
  | 5 => ("BestBeast", "letters", "I", false)
  | 6 => ("BestBeast", "lawsRead", "I", false)
  | _ => ("BestBeast", "hasImage", "Z", false)
def tyX2 : Nat → FieldType := fun k => match k with
  | 0 => .object "BestBeast$Manor"
  | 1 => .object "BestBeast$Manor"
  | 2 => .object "BestBeast$Manor"
  | 3 => .object "BestBeast$Draws"
  | 4 => .array .int
  | 5 => .int
  | 6 => .int
  | _ => .boolean
abbrev wsX20 : List Cond := u_ws RX2 TX2 8
theorem nmX2 : ∀ a, a < 8 → ∀ b, b < 8 → a ≠ b → (TX2 a).2.1 ≠ (TX2 b).2.1 := by decide +kernel
theorem tyX2_ok : ∀ k, k < 8 → parseFieldDescriptor (TX2 k).2.2.1 = some (tyX2 k) := by decide +kernel
abbrev cX2_init : ByteArray := prog_1_method_1_code
def yX2_init : MethodName := ⟨RX2, "<init>", "()V"⟩
abbrev cX2_letter : ByteArray := prog_1_method_2_code
def yX2_letter : MethodName := ⟨RX2, "letter", "(I)I"⟩
abbrev cX2_blank : ByteArray := prog_1_method_3_code
def yX2_blank : MethodName := ⟨RX2, "blank", "()I"⟩
abbrev cX2_fault : ByteArray := prog_1_method_4_code
def yX2_fault : MethodName := ⟨RX2, "fault", "()I"⟩
abbrev cX2_law : ByteArray := prog_1_method_5_code
def yX2_law : MethodName := ⟨RX2, "law", "()I"⟩
abbrev cX2_fitsLaw : ByteArray := prog_1_method_6_code
def yX2_fitsLaw : MethodName := ⟨RX2, "fitsLaw", "(I)Z"⟩
abbrev cX2_holder : ByteArray := prog_1_method_7_code
def yX2_holder : MethodName := ⟨RX2, "holder", "(II)I"⟩
abbrev cX2_about : ByteArray := prog_1_method_8_code
def yX2_about : MethodName := ⟨RX2, "about", "(II)I"⟩
abbrev cX2_as : ByteArray := prog_1_method_9_code
def yX2_as : MethodName := ⟨RX2, "as", "(II)I"⟩
abbrev cX2_heir : ByteArray := prog_1_method_10_code
def yX2_heir : MethodName := ⟨RX2, "heir", "(II)I"⟩
abbrev cX2_isSuch : ByteArray := prog_1_method_11_code
def yX2_isSuch : MethodName := ⟨RX2, "isSuch", "(II)Z"⟩
abbrev cX2_beast : ByteArray := prog_1_method_12_code
def yX2_beast : MethodName := ⟨RX2, "beast", "(II)I"⟩
abbrev cX2_beastOf : ByteArray := prog_1_method_13_code
def yX2_beastOf : MethodName := ⟨RX2, "beastOf", "(II)I"⟩
abbrev cX2_give : ByteArray := prog_1_method_14_code
def yX2_give : MethodName := ⟨RX2, "give", "(II)I"⟩
abbrev cX2_die : ByteArray := prog_1_method_15_code
def yX2_die : MethodName := ⟨RX2, "die", "(I)I"⟩
abbrev cX2_year : ByteArray := prog_1_method_16_code
def yX2_year : MethodName := ⟨RX2, "year", "()I"⟩
abbrev cX2_safe : ByteArray := prog_1_method_17_code
def yX2_safe : MethodName := ⟨RX2, "safe", "(II)I"⟩
abbrev cX2_giving : ByteArray := prog_1_method_18_code
def yX2_giving : MethodName := ⟨RX2, "giving", "(II)I"⟩
abbrev cX2_mean : ByteArray := prog_1_method_19_code
def yX2_mean : MethodName := ⟨RX2, "mean", "(III)I"⟩
abbrev cX2_powerOfTen : ByteArray := prog_1_method_20_code
def yX2_powerOfTen : MethodName := ⟨RX2, "powerOfTen", "(I)I"⟩
abbrev cX2_commonDivisor : ByteArray := prog_1_method_21_code
def yX2_commonDivisor : MethodName := ⟨RX2, "commonDivisor", "(II)I"⟩
abbrev cX2_roll : ByteArray := prog_1_method_22_code
def yX2_roll : MethodName := ⟨RX2, "roll", "(II)I"⟩
abbrev cX2_whose : ByteArray := prog_1_method_23_code
def yX2_whose : MethodName := ⟨RX2, "whose", "(II)I"⟩
abbrev cX2_manors : ByteArray := prog_1_method_24_code
def yX2_manors : MethodName := ⟨RX2, "manors", "(III)I"⟩
abbrev cX2_image : ByteArray := prog_1_method_25_code
def yX2_image : MethodName := ⟨RX2, "image", "()I"⟩
abbrev cX2_restore : ByteArray := prog_1_method_26_code
def yX2_restore : MethodName := ⟨RX2, "restore", "()I"⟩
abbrev cX2_count : ByteArray := prog_1_method_27_code
def yX2_count : MethodName := ⟨RX2, "count", "(I)I"⟩
abbrev cX2_digest : ByteArray := prog_1_method_28_code
def yX2_digest : MethodName := ⟨RX2, "digest", "()J"⟩
abbrev cX2_within : ByteArray := prog_1_method_29_code
def yX2_within : MethodName := ⟨RX2, "within", "(III)Z"⟩
def RX3 : String := "BestBeastModel"
def TX3 : u_T := fun k => match k with
  | 0 => ("BestBeastModel", "page", "[I", true)
  | 1 => ("BestBeastModel", "pageMany", "I", false)
  | 2 => ("BestBeastModel", "lord", "I", false)
  | 3 => ("BestBeastModel", "church", "I", false)
  | 4 => ("BestBeastModel", "voidYears", "I", false)
  | 5 => ("BestBeastModel", "least", "I", false)
  | 6 => ("BestBeastModel", "lawsRead", "I", false)
  | 7 => ("BestBeastModel", "yearNow", "I", false)
  | 8 => ("BestBeastModel", "taken", "I", false)
  | 9 => ("BestBeastModel", "holders", "I", false)
  | 10 => ("BestBeastModel", "beasts", "I", false)
  | 11 => ("BestBeastModel", "men", "[I", true)
  | 12 => ("BestBeastModel", "rows", "[I", true)
  | 13 => ("BestBeastModel", "seedNow", "I", false)
  | 14 => ("BestBeastModel", "savedMen", "[I", true)
  | 15 => ("BestBeastModel", "savedRows", "[I", true)
  | 16 => ("BestBeastModel", "keptYear", "I", false)
  | 17 => ("BestBeastModel", "keptHolders", "I", false)
  | 18 => ("BestBeastModel", "keptBeasts", "I", false)
  | 19 => ("BestBeastModel", "keptTaken", "I", false)
  | 20 => ("BestBeastModel", "keptMen", "[I", true)
  | 21 => ("BestBeastModel", "keptRows", "[I", true)
  | 22 => ("BestBeastModel", "keptLaw", "[I", true)
  | _ => ("BestBeastModel", "hash", "J", false)
def tyX3 : Nat → FieldType := fun k => match k with
  | 0 => .array .int
  | 1 => .int
  | 2 => .int
  | 3 => .int
  | 4 => .int
  | 5 => .int
  | 6 => .int
  | 7 => .int
  | 8 => .int
  | 9 => .int
  | 10 => .int
  | 11 => .array .int
  | 12 => .array .int
  | 13 => .int
  | 14 => .array .int
  | 15 => .array .int
  | 16 => .int
  | 17 => .int
  | 18 => .int
  | 19 => .int
  | 20 => .array .int
  | 21 => .array .int
  | 22 => .array .int
  | _ => .long
abbrev wsX30 : List Cond := u_ws RX3 TX3 24
theorem nmX3 : ∀ a, a < 24 → ∀ b, b < 24 → a ≠ b → (TX3 a).2.1 ≠ (TX3 b).2.1 := by decide +kernel
theorem tyX3_ok : ∀ k, k < 24 → parseFieldDescriptor (TX3 k).2.2.1 = some (tyX3 k) := by decide +kernel
abbrev cX3_init : ByteArray := prog_5_method_1_code
def yX3_init : MethodName := ⟨RX3, "<init>", "()V"⟩
abbrev cX3_in : ByteArray := prog_5_method_2_code
def yX3_in : MethodName := ⟨RX3, "in", "(JJJ)Z"⟩
abbrev cX3_letter : ByteArray := prog_5_method_3_code
def yX3_letter : MethodName := ⟨RX3, "letter", "(I)I"⟩
abbrev cX3_blank : ByteArray := prog_5_method_4_code
def yX3_blank : MethodName := ⟨RX3, "blank", "()I"⟩
abbrev cX3_isGood : ByteArray := prog_5_method_5_code
def yX3_isGood : MethodName := ⟨RX3, "isGood", "(II)Z"⟩
abbrev cX3_faultOf : ByteArray := prog_5_method_6_code
def yX3_faultOf : MethodName := ⟨RX3, "faultOf", "()I"⟩
abbrev cX3_fault : ByteArray := prog_5_method_7_code
def yX3_fault : MethodName := ⟨RX3, "fault", "()I"⟩
abbrev cX3_law : ByteArray := prog_5_method_8_code
def yX3_law : MethodName := ⟨RX3, "law", "()I"⟩
abbrev cX3_isHolder : ByteArray := prog_5_method_9_code
def yX3_isHolder : MethodName := ⟨RX3, "isHolder", "(I)Z"⟩
abbrev cX3_isBeast : ByteArray := prog_5_method_10_code
def yX3_isBeast : MethodName := ⟨RX3, "isBeast", "(I)Z"⟩
abbrev cX3_lives : ByteArray := prog_5_method_11_code
def yX3_lives : MethodName := ⟨RX3, "lives", "(I)Z"⟩
abbrev cX3_holder : ByteArray := prog_5_method_12_code
def yX3_holder : MethodName := ⟨RX3, "holder", "(II)I"⟩
abbrev cX3_lordOf : ByteArray := prog_5_method_13_code
def yX3_lordOf : MethodName := ⟨RX3, "lordOf", "(I)I"⟩
abbrev cX3_churchOf : ByteArray := prog_5_method_14_code
def yX3_churchOf : MethodName := ⟨RX3, "churchOf", "(I)I"⟩
abbrev cX3_hisBits : ByteArray := prog_5_method_15_code
def yX3_hisBits : MethodName := ⟨RX3, "hisBits", "(I)I"⟩
abbrev cX3_heldBits : ByteArray := prog_5_method_16_code
def yX3_heldBits : MethodName := ⟨RX3, "heldBits", "(II)I"⟩
abbrev cX3_bestOf : ByteArray := prog_5_method_17_code
def yX3_bestOf : MethodName := ⟨RX3, "bestOf", "(I)I"⟩
abbrev cX3_takenOf : ByteArray := prog_5_method_18_code
def yX3_takenOf : MethodName := ⟨RX3, "takenOf", "(II)I"⟩
abbrev cX3_worthOf : ByteArray := prog_5_method_19_code
def yX3_worthOf : MethodName := ⟨RX3, "worthOf", "(I)I"⟩
abbrev cX3_lossBy : ByteArray := prog_5_method_20_code
def yX3_lossBy : MethodName := ⟨RX3, "lossBy", "(II)I"⟩
abbrev cX3_tell : ByteArray := prog_5_method_21_code
def yX3_tell : MethodName := ⟨RX3, "tell", "(II)I"⟩
abbrev cX3_about : ByteArray := prog_5_method_22_code
def yX3_about : MethodName := ⟨RX3, "about", "(II)I"⟩
abbrev cX3_as : ByteArray := prog_5_method_23_code
def yX3_as : MethodName := ⟨RX3, "as", "(II)I"⟩
abbrev cX3_heir : ByteArray := prog_5_method_24_code
def yX3_heir : MethodName := ⟨RX3, "heir", "(II)I"⟩
abbrev cX3_beast : ByteArray := prog_5_method_25_code
def yX3_beast : MethodName := ⟨RX3, "beast", "(II)I"⟩
abbrev cX3_lay : ByteArray := prog_5_method_26_code
def yX3_lay : MethodName := ⟨RX3, "lay", "(IIII)V"⟩
abbrev cX3_beastOf : ByteArray := prog_5_method_27_code
def yX3_beastOf : MethodName := ⟨RX3, "beastOf", "(II)I"⟩
abbrev cX3_mayGive : ByteArray := prog_5_method_28_code
def yX3_mayGive : MethodName := ⟨RX3, "mayGive", "(II)Z"⟩
abbrev cX3_gives : ByteArray := prog_5_method_29_code
def yX3_gives : MethodName := ⟨RX3, "gives", "(II)V"⟩
abbrev cX3_give : ByteArray := prog_5_method_30_code
def yX3_give : MethodName := ⟨RX3, "give", "(II)I"⟩
abbrev cX3_dies : ByteArray := prog_5_method_31_code
def yX3_dies : MethodName := ⟨RX3, "dies", "(I)I"⟩
abbrev cX3_die : ByteArray := prog_5_method_32_code
def yX3_die : MethodName := ⟨RX3, "die", "(I)I"⟩
abbrev cX3_year : ByteArray := prog_5_method_33_code
def yX3_year : MethodName := ⟨RX3, "year", "()I"⟩
abbrev cX3_ones : ByteArray := prog_5_method_34_code
def yX3_ones : MethodName := ⟨RX3, "ones", "(I)I"⟩
abbrev cX3_safeOf : ByteArray := prog_5_method_35_code
def yX3_safeOf : MethodName := ⟨RX3, "safeOf", "(II)I"⟩
abbrev cX3_safe : ByteArray := prog_5_method_36_code
def yX3_safe : MethodName := ⟨RX3, "safe", "(II)I"⟩
abbrev cX3_lostBy : ByteArray := prog_5_method_37_code
def yX3_lostBy : MethodName := ⟨RX3, "lostBy", "(III)I"⟩
abbrev cX3_givingOf : ByteArray := prog_5_method_38_code
def yX3_givingOf : MethodName := ⟨RX3, "givingOf", "(II)I"⟩
abbrev cX3_giving : ByteArray := prog_5_method_39_code
def yX3_giving : MethodName := ⟨RX3, "giving", "(II)I"⟩
abbrev cX3_term : ByteArray := prog_5_method_40_code
def yX3_term : MethodName := ⟨RX3, "term", "(III)I"⟩
abbrev cX3_meanOf : ByteArray := prog_5_method_41_code
def yX3_meanOf : MethodName := ⟨RX3, "meanOf", "(III)I"⟩
abbrev cX3_mean : ByteArray := prog_5_method_42_code
def yX3_mean : MethodName := ⟨RX3, "mean", "(III)I"⟩
abbrev cX3_roll : ByteArray := prog_5_method_43_code
def yX3_roll : MethodName := ⟨RX3, "roll", "(II)I"⟩
abbrev cX3_isRolledBy : ByteArray := prog_5_method_44_code
def yX3_isRolledBy : MethodName := ⟨RX3, "isRolledBy", "(I)Z"⟩
abbrev cX3_whose : ByteArray := prog_5_method_45_code
def yX3_whose : MethodName := ⟨RX3, "whose", "(II)I"⟩
abbrev cX3_draw : ByteArray := prog_5_method_46_code
def yX3_draw : MethodName := ⟨RX3, "draw", "(I)I"⟩
abbrev cX3_copy : ByteArray := prog_5_method_47_code
def yX3_copy : MethodName := ⟨RX3, "copy", "([I[I)V"⟩
abbrev cX3_livingMany : ByteArray := prog_5_method_48_code
def yX3_livingMany : MethodName := ⟨RX3, "livingMany", "()I"⟩
abbrev cX3_manors : ByteArray := prog_5_method_49_code
def yX3_manors : MethodName := ⟨RX3, "manors", "(III)I"⟩
abbrev cX3_image : ByteArray := prog_5_method_50_code
def yX3_image : MethodName := ⟨RX3, "image", "()I"⟩
abbrev cX3_restore : ByteArray := prog_5_method_51_code
def yX3_restore : MethodName := ⟨RX3, "restore", "()I"⟩
abbrev cX3_thereMany : ByteArray := prog_5_method_52_code
def yX3_thereMany : MethodName := ⟨RX3, "thereMany", "()I"⟩
abbrev cX3_countOf : ByteArray := prog_5_method_53_code
def yX3_countOf : MethodName := ⟨RX3, "countOf", "(I)I"⟩
abbrev cX3_count : ByteArray := prog_5_method_54_code
def yX3_count : MethodName := ⟨RX3, "count", "(I)I"⟩
abbrev cX3_say : ByteArray := prog_5_method_55_code
def yX3_say : MethodName := ⟨RX3, "say", "(J)V"⟩
abbrev cX3_digest : ByteArray := prog_5_method_56_code
def yX3_digest : MethodName := ⟨RX3, "digest", "()J"⟩
def RJ6 : String := "java/lang/Integer"
def TJ6 : u_T := fun k => match k with
  | _ => ("", "", "", false)
def tyJ6 : Nat → FieldType := fun k => match k with
  | _ => .int
abbrev wsJ60 : List Cond := u_ws RJ6 TJ6 0
theorem nmJ6 : ∀ a, a < 0 → ∀ b, b < 0 → a ≠ b → (TJ6 a).2.1 ≠ (TJ6 b).2.1 := by decide +kernel
theorem tyJ6_ok : ∀ k, k < 0 → parseFieldDescriptor (TJ6 k).2.2.1 = some (tyJ6 k) := by decide +kernel
abbrev cJ6_bitCount_0f7a4 : ByteArray := prog_6_method_49_code
def yJ6_bitCount_0f7a4 : MethodName := ⟨RJ6, "bitCount", "(I)I"⟩
def RJ9 : String := "java/lang/Math"
def TJ9 : u_T := fun k => match k with
  | _ => ("", "", "", false)
def tyJ9 : Nat → FieldType := fun k => match k with
  | _ => .int
abbrev wsJ90 : List Cond := u_ws RJ9 TJ9 0
theorem nmJ9 : ∀ a, a < 0 → ∀ b, b < 0 → a ≠ b → (TJ9 a).2.1 ≠ (TJ9 b).2.1 := by decide +kernel
theorem tyJ9_ok : ∀ k, k < 0 → parseFieldDescriptor (TJ9 k).2.2.1 = some (tyJ9 k) := by decide +kernel
abbrev cJ9_max_7cf53 : ByteArray := prog_7_method_65_code
def yJ9_max_7cf53 : MethodName := ⟨RJ9, "max", "(II)I"⟩
def RJ10 : String := "java/lang/System"
def TJ10 : u_T := fun k => match k with
  | _ => ("", "", "", false)
def tyJ10 : Nat → FieldType := fun k => match k with
  | _ => .int
abbrev wsJ100 : List Cond := u_ws RJ10 TJ10 0
theorem nmJ10 : ∀ a, a < 0 → ∀ b, b < 0 → a ≠ b → (TJ10 a).2.1 ≠ (TJ10 b).2.1 := by decide +kernel
theorem tyJ10_ok : ∀ k, k < 0 → parseFieldDescriptor (TJ10 k).2.2.1 = some (tyJ10 k) := by decide +kernel
def RL : String := "BestBeastLaw"
abbrev cL_law : ByteArray := code
def yL_law : MethodName := ⟨RL, "law", "([I)Z"⟩
def wsX0_init : List Cond := .code yX0_init cX0_init 1 none :: ([.methodLink RX0 1 objectInit, .instanceMethod objectInit, .code objectInit ⟨#[0xb1]⟩ 1 none, .fieldLink RX0 7 "BestBeast$Draws" "seed" "I"] ++ wsX00)
def wsX0_drawOf : List Cond := .code yX0_drawOf cX0_drawOf 2 (some .int) :: ([.constantLong RX0 13 (1103515245), .fieldLink RX0 7 "BestBeast$Draws" "seed" "I", .constantLong RX0 15 (12345), .constantLong RX0 17 (2147483647), .constant RX0 19 (65536)] ++ wsX00)
def wsX1_init : List Cond := .code yX1_init cX1_init 1 none :: ([.methodLink RX1 3 objectInit, .instanceMethod objectInit, .code objectInit ⟨#[0xb1]⟩ 1 none, .fieldLink RX1 9 "BestBeast$Manor" "lord" "I", .fieldLink RX1 15 "BestBeast$Manor" "church" "I", .fieldLink RX1 18 "BestBeast$Manor" "voidYears" "I", .fieldLink RX1 21 "BestBeast$Manor" "least" "I", .fieldLink RX1 24 "BestBeast$Manor" "holders" "I", .arrayClass .int, .fieldLink RX1 27 "BestBeast$Manor" "kind" "[I", .fieldLink RX1 31 "BestBeast$Manor" "death" "[I", .fieldLink RX1 34 "BestBeast$Manor" "heirOf" "[I", .arrayClass .boolean, .fieldLink RX1 37 "BestBeast$Manor" "alive" "[Z", .fieldLink RX1 41 "BestBeast$Manor" "beasts" "I", .fieldLink RX1 44 "BestBeast$Manor" "worth" "[I", .fieldLink RX1 47 "BestBeast$Manor" "owner" "[I", .fieldLink RX1 50 "BestBeast$Manor" "giver" "[I", .fieldLink RX1 53 "BestBeast$Manor" "givenIn" "[I", .fieldLink RX1 56 "BestBeast$Manor" "told" "[I", .fieldLink RX1 59 "BestBeast$Manor" "yearNow" "I", .fieldLink RX1 62 "BestBeast$Manor" "takenWorth" "I"] ++ wsX10)
def wsX1_copyFrom : List Cond := .code yX1_copyFrom cX1_copyFrom 2 none :: ([.fieldLink RX1 9 "BestBeast$Manor" "lord" "I", .fieldLink RX1 15 "BestBeast$Manor" "church" "I", .fieldLink RX1 18 "BestBeast$Manor" "voidYears" "I", .fieldLink RX1 21 "BestBeast$Manor" "least" "I", .fieldLink RX1 24 "BestBeast$Manor" "holders" "I", .fieldLink RX1 41 "BestBeast$Manor" "beasts" "I", .fieldLink RX1 59 "BestBeast$Manor" "yearNow" "I", .fieldLink RX1 62 "BestBeast$Manor" "takenWorth" "I", .fieldLink RX1 27 "BestBeast$Manor" "kind" "[I", .methodLink RX1 65 arraycopyName, .native arraycopyName, .static arraycopyName, .initialized "java/lang/System", .fieldLink RX1 31 "BestBeast$Manor" "death" "[I", .fieldLink RX1 34 "BestBeast$Manor" "heirOf" "[I", .fieldLink RX1 37 "BestBeast$Manor" "alive" "[Z", .fieldLink RX1 44 "BestBeast$Manor" "worth" "[I", .fieldLink RX1 47 "BestBeast$Manor" "owner" "[I", .fieldLink RX1 50 "BestBeast$Manor" "giver" "[I", .fieldLink RX1 53 "BestBeast$Manor" "givenIn" "[I", .fieldLink RX1 56 "BestBeast$Manor" "told" "[I"] ++ wsX10)
def wsX1_hasHolder : List Cond := .code yX1_hasHolder cX1_hasHolder 2 (some .boolean) :: ([.fieldLink RX1 24 "BestBeast$Manor" "holders" "I"] ++ wsX10)
def wsX1_hasBeast : List Cond := .code yX1_hasBeast cX1_hasBeast 2 (some .boolean) :: ([.fieldLink RX1 41 "BestBeast$Manor" "beasts" "I"] ++ wsX10)
def wsX1_isAlive : List Cond := .code yX1_isAlive cX1_isAlive 2 (some .boolean) :: ([.fieldLink RX1 37 "BestBeast$Manor" "alive" "[Z", .methodLink RX1 71 yX1_hasHolder, .instanceMethod yX1_hasHolder, .selects RX1 yX1_hasHolder yX1_hasHolder, .initialized RX1, .code yX1_hasHolder cX1_hasHolder 2 (some .boolean), .fieldLink RX1 24 "BestBeast$Manor" "holders" "I"] ++ wsX10)
def wsX1_countAlive : List Cond := .code yX1_countAlive cX1_countAlive 3 (some .int) :: ([.fieldLink RX1 24 "BestBeast$Manor" "holders" "I", .methodLink RX1 75 yX1_isAlive, .instanceMethod yX1_isAlive, .selects RX1 yX1_isAlive yX1_isAlive, .initialized RX1, .code yX1_isAlive cX1_isAlive 2 (some .boolean), .fieldLink RX1 37 "BestBeast$Manor" "alive" "[Z", .methodLink RX1 71 yX1_hasHolder, .instanceMethod yX1_hasHolder, .selects RX1 yX1_hasHolder yX1_hasHolder, .code yX1_hasHolder cX1_hasHolder 2 (some .boolean)] ++ wsX10)
def wsX1_countNotGone : List Cond := .code yX1_countNotGone cX1_countNotGone 3 (some .int) :: ([.fieldLink RX1 41 "BestBeast$Manor" "beasts" "I", .fieldLink RX1 47 "BestBeast$Manor" "owner" "[I", .methodLink RX1 78 yX1_hasBeast, .instanceMethod yX1_hasBeast, .selects RX1 yX1_hasBeast yX1_hasBeast, .initialized RX1, .code yX1_hasBeast cX1_hasBeast 2 (some .boolean)] ++ wsX10)
def wsX1_addHolder : List Cond := .code yX1_addHolder cX1_addHolder 4 (some .int) :: ([.fieldLink RX1 24 "BestBeast$Manor" "holders" "I", .fieldLink RX1 27 "BestBeast$Manor" "kind" "[I", .fieldLink RX1 31 "BestBeast$Manor" "death" "[I", .fieldLink RX1 34 "BestBeast$Manor" "heirOf" "[I", .fieldLink RX1 37 "BestBeast$Manor" "alive" "[Z"] ++ wsX10)
def wsX1_putTo : List Cond := .code yX1_putTo cX1_putTo 3 none :: ([.fieldLink RX1 47 "BestBeast$Manor" "owner" "[I", .fieldLink RX1 50 "BestBeast$Manor" "giver" "[I", .fieldLink RX1 53 "BestBeast$Manor" "givenIn" "[I", .methodLink RX1 78 yX1_hasBeast, .instanceMethod yX1_hasBeast, .selects RX1 yX1_hasBeast yX1_hasBeast, .initialized RX1, .code yX1_hasBeast cX1_hasBeast 2 (some .boolean), .fieldLink RX1 41 "BestBeast$Manor" "beasts" "I"] ++ wsX10)
def wsX1_addBeast : List Cond := .code yX1_addBeast cX1_addBeast 4 (some .int) :: ([.fieldLink RX1 41 "BestBeast$Manor" "beasts" "I", .fieldLink RX1 44 "BestBeast$Manor" "worth" "[I", .fieldLink RX1 56 "BestBeast$Manor" "told" "[I", .methodLink RX1 81 yX1_putTo, .instanceMethod yX1_putTo, .selects RX1 yX1_putTo yX1_putTo, .initialized RX1, .code yX1_putTo cX1_putTo 3 none, .fieldLink RX1 47 "BestBeast$Manor" "owner" "[I", .fieldLink RX1 50 "BestBeast$Manor" "giver" "[I", .fieldLink RX1 53 "BestBeast$Manor" "givenIn" "[I", .methodLink RX1 78 yX1_hasBeast, .instanceMethod yX1_hasBeast, .selects RX1 yX1_hasBeast yX1_hasBeast, .code yX1_hasBeast cX1_hasBeast 2 (some .boolean)] ++ wsX10)
def wsX1_mayGive : List Cond := .code yX1_mayGive cX1_mayGive 3 (some .boolean) :: ([.fieldLink RX1 47 "BestBeast$Manor" "owner" "[I", .methodLink RX1 78 yX1_hasBeast, .instanceMethod yX1_hasBeast, .selects RX1 yX1_hasBeast yX1_hasBeast, .initialized RX1, .code yX1_hasBeast cX1_hasBeast 2 (some .boolean), .fieldLink RX1 41 "BestBeast$Manor" "beasts" "I", .methodLink RX1 75 yX1_isAlive, .instanceMethod yX1_isAlive, .selects RX1 yX1_isAlive yX1_isAlive, .code yX1_isAlive cX1_isAlive 2 (some .boolean), .fieldLink RX1 37 "BestBeast$Manor" "alive" "[Z", .methodLink RX1 71 yX1_hasHolder, .instanceMethod yX1_hasHolder, .selects RX1 yX1_hasHolder yX1_hasHolder, .code yX1_hasHolder cX1_hasHolder 2 (some .boolean), .fieldLink RX1 24 "BestBeast$Manor" "holders" "I"] ++ wsX10)
def wsX1_makeGift : List Cond := .code yX1_makeGift cX1_makeGift 3 none :: ([.fieldLink RX1 50 "BestBeast$Manor" "giver" "[I", .fieldLink RX1 47 "BestBeast$Manor" "owner" "[I", .fieldLink RX1 53 "BestBeast$Manor" "givenIn" "[I", .fieldLink RX1 59 "BestBeast$Manor" "yearNow" "I", .methodLink RX1 85 yX1_mayGive, .instanceMethod yX1_mayGive, .selects RX1 yX1_mayGive yX1_mayGive, .initialized RX1, .code yX1_mayGive cX1_mayGive 3 (some .boolean), .methodLink RX1 78 yX1_hasBeast, .instanceMethod yX1_hasBeast, .selects RX1 yX1_hasBeast yX1_hasBeast, .code yX1_hasBeast cX1_hasBeast 2 (some .boolean), .fieldLink RX1 41 "BestBeast$Manor" "beasts" "I", .methodLink RX1 75 yX1_isAlive, .instanceMethod yX1_isAlive, .selects RX1 yX1_isAlive yX1_isAlive, .code yX1_isAlive cX1_isAlive 2 (some .boolean), .fieldLink RX1 37 "BestBeast$Manor" "alive" "[Z", .methodLink RX1 71 yX1_hasHolder, .instanceMethod yX1_hasHolder, .selects RX1 yX1_hasHolder yX1_hasHolder, .code yX1_hasHolder cX1_hasHolder 2 (some .boolean), .fieldLink RX1 24 "BestBeast$Manor" "holders" "I"] ++ wsX10)
def wsX1_lordMay : List Cond := .code yX1_lordMay cX1_lordMay 2 (some .int) :: ([.fieldLink RX1 9 "BestBeast$Manor" "lord" "I", .methodLink RX1 89 Lib.Math.max.name, .static Lib.Math.max.name, .initialized "java/lang/Math", .code Lib.Math.max.name Lib.Math.max.code 2 (some .int)] ++ wsX10)
def wsX1_churchMay : List Cond := .code yX1_churchMay cX1_churchMay 2 (some .int) :: ([.fieldLink RX1 15 "BestBeast$Manor" "church" "I", .methodLink RX1 89 Lib.Math.max.name, .static Lib.Math.max.name, .initialized "java/lang/Math", .code Lib.Math.max.name Lib.Math.max.code 2 (some .int)] ++ wsX10)
def wsX1_ownBits : List Cond := .code yX1_ownBits cX1_ownBits 4 (some .int) :: ([.fieldLink RX1 41 "BestBeast$Manor" "beasts" "I", .fieldLink RX1 47 "BestBeast$Manor" "owner" "[I", .methodLink RX1 78 yX1_hasBeast, .instanceMethod yX1_hasBeast, .selects RX1 yX1_hasBeast yX1_hasBeast, .initialized RX1, .code yX1_hasBeast cX1_hasBeast 2 (some .boolean)] ++ wsX10)
def wsX1_heldLater : List Cond := .code yX1_heldLater cX1_heldLater 6 (some .int) :: ([.fieldLink RX1 18 "BestBeast$Manor" "voidYears" "I", .fieldLink RX1 41 "BestBeast$Manor" "beasts" "I", .fieldLink RX1 50 "BestBeast$Manor" "giver" "[I", .fieldLink RX1 59 "BestBeast$Manor" "yearNow" "I", .fieldLink RX1 53 "BestBeast$Manor" "givenIn" "[I", .methodLink RX1 99 yX1_ownBits, .instanceMethod yX1_ownBits, .selects RX1 yX1_ownBits yX1_ownBits, .initialized RX1, .code yX1_ownBits cX1_ownBits 4 (some .int), .fieldLink RX1 47 "BestBeast$Manor" "owner" "[I", .methodLink RX1 78 yX1_hasBeast, .instanceMethod yX1_hasBeast, .selects RX1 yX1_hasBeast yX1_hasBeast, .code yX1_hasBeast cX1_hasBeast 2 (some .boolean)] ++ wsX10)
def wsX1_heldBits : List Cond := .code yX1_heldBits cX1_heldBits 2 (some .int) :: ([.methodLink RX1 95 yX1_heldLater, .instanceMethod yX1_heldLater, .selects RX1 yX1_heldLater yX1_heldLater, .initialized RX1, .code yX1_heldLater cX1_heldLater 6 (some .int), .fieldLink RX1 18 "BestBeast$Manor" "voidYears" "I", .fieldLink RX1 41 "BestBeast$Manor" "beasts" "I", .fieldLink RX1 50 "BestBeast$Manor" "giver" "[I", .fieldLink RX1 59 "BestBeast$Manor" "yearNow" "I", .fieldLink RX1 53 "BestBeast$Manor" "givenIn" "[I", .methodLink RX1 99 yX1_ownBits, .instanceMethod yX1_ownBits, .selects RX1 yX1_ownBits yX1_ownBits, .code yX1_ownBits cX1_ownBits 4 (some .int), .fieldLink RX1 47 "BestBeast$Manor" "owner" "[I", .methodLink RX1 78 yX1_hasBeast, .instanceMethod yX1_hasBeast, .selects RX1 yX1_hasBeast yX1_hasBeast, .code yX1_hasBeast cX1_hasBeast 2 (some .boolean)] ++ wsX10)
def wsX1_bestOf : List Cond := .code yX1_bestOf cX1_bestOf 5 (some .int) :: ([.fieldLink RX1 21 "BestBeast$Manor" "least" "I", .fieldLink RX1 41 "BestBeast$Manor" "beasts" "I", .fieldLink RX1 44 "BestBeast$Manor" "worth" "[I", .methodLink RX1 78 yX1_hasBeast, .instanceMethod yX1_hasBeast, .selects RX1 yX1_hasBeast yX1_hasBeast, .initialized RX1, .code yX1_hasBeast cX1_hasBeast 2 (some .boolean)] ++ wsX10)
def wsX1_takenFrom_r1 : List Cond := [Cond.fieldLink RX1 27 "BestBeast$Manor" "kind" "[I", Cond.methodLink RX1 71 yX1_hasHolder, Cond.instanceMethod yX1_hasHolder, Cond.selects RX1 yX1_hasHolder yX1_hasHolder, Cond.initialized RX1, Cond.code yX1_hasHolder cX1_hasHolder 2 (some .boolean), Cond.fieldLink RX1 24 "BestBeast$Manor" "holders" "I", Cond.methodLink RX1 103 yX1_lordMay, Cond.instanceMethod yX1_lordMay, Cond.selects RX1 yX1_lordMay yX1_lordMay, Cond.code yX1_lordMay cX1_lordMay 2 (some .int), Cond.fieldLink RX1 9 "BestBeast$Manor" "lord" "I", Cond.methodLink RX1 89 Lib.Math.max.name, Cond.static Lib.Math.max.name, Cond.initialized "java/lang/Math", Cond.code Lib.Math.max.name Lib.Math.max.code 2 (some .int), Cond.methodLink RX1 106 yX1_churchMay, Cond.instanceMethod yX1_churchMay, Cond.selects RX1 yX1_churchMay yX1_churchMay, Cond.code yX1_churchMay cX1_churchMay 2 (some .int), Cond.fieldLink RX1 15 "BestBeast$Manor" "church" "I", Cond.methodLink RX1 109 yX1_bestOf, Cond.instanceMethod yX1_bestOf, Cond.selects RX1 yX1_bestOf yX1_bestOf]
def wsX1_takenFrom_r2 : List Cond := [Cond.code yX1_bestOf cX1_bestOf 5 (some .int), Cond.fieldLink RX1 21 "BestBeast$Manor" "least" "I", Cond.fieldLink RX1 41 "BestBeast$Manor" "beasts" "I", Cond.fieldLink RX1 44 "BestBeast$Manor" "worth" "[I", Cond.methodLink RX1 78 yX1_hasBeast, Cond.instanceMethod yX1_hasBeast, Cond.selects RX1 yX1_hasBeast yX1_hasBeast, Cond.code yX1_hasBeast cX1_hasBeast 2 (some .boolean)]
def wsX1_takenFrom : List Cond := .code yX1_takenFrom cX1_takenFrom 7 (some .int) :: ((wsX1_takenFrom_r1 ++ wsX1_takenFrom_r2) ++ wsX10)
def wsX1_worthOf : List Cond := .code yX1_worthOf cX1_worthOf 4 (some .int) :: ([.fieldLink RX1 41 "BestBeast$Manor" "beasts" "I", .fieldLink RX1 44 "BestBeast$Manor" "worth" "[I", .methodLink RX1 78 yX1_hasBeast, .instanceMethod yX1_hasBeast, .selects RX1 yX1_hasBeast yX1_hasBeast, .initialized RX1, .code yX1_hasBeast cX1_hasBeast 2 (some .boolean)] ++ wsX10)
def wsX1_worthTaken_r1 : List Cond := [Cond.methodLink RX1 112 yX1_takenFrom, Cond.instanceMethod yX1_takenFrom, Cond.selects RX1 yX1_takenFrom yX1_takenFrom, Cond.initialized RX1, Cond.code yX1_takenFrom cX1_takenFrom 7 (some .int), Cond.fieldLink RX1 27 "BestBeast$Manor" "kind" "[I", Cond.methodLink RX1 71 yX1_hasHolder, Cond.instanceMethod yX1_hasHolder, Cond.selects RX1 yX1_hasHolder yX1_hasHolder, Cond.code yX1_hasHolder cX1_hasHolder 2 (some .boolean), Cond.fieldLink RX1 24 "BestBeast$Manor" "holders" "I", Cond.methodLink RX1 103 yX1_lordMay, Cond.instanceMethod yX1_lordMay, Cond.selects RX1 yX1_lordMay yX1_lordMay, Cond.code yX1_lordMay cX1_lordMay 2 (some .int), Cond.fieldLink RX1 9 "BestBeast$Manor" "lord" "I", Cond.methodLink RX1 89 Lib.Math.max.name, Cond.static Lib.Math.max.name, Cond.initialized "java/lang/Math", Cond.code Lib.Math.max.name Lib.Math.max.code 2 (some .int), Cond.methodLink RX1 106 yX1_churchMay, Cond.instanceMethod yX1_churchMay, Cond.selects RX1 yX1_churchMay yX1_churchMay, Cond.code yX1_churchMay cX1_churchMay 2 (some .int)]
def wsX1_worthTaken_r2 : List Cond := [Cond.fieldLink RX1 15 "BestBeast$Manor" "church" "I", Cond.methodLink RX1 109 yX1_bestOf, Cond.instanceMethod yX1_bestOf, Cond.selects RX1 yX1_bestOf yX1_bestOf, Cond.code yX1_bestOf cX1_bestOf 5 (some .int), Cond.fieldLink RX1 21 "BestBeast$Manor" "least" "I", Cond.fieldLink RX1 41 "BestBeast$Manor" "beasts" "I", Cond.fieldLink RX1 44 "BestBeast$Manor" "worth" "[I", Cond.methodLink RX1 78 yX1_hasBeast, Cond.instanceMethod yX1_hasBeast, Cond.selects RX1 yX1_hasBeast yX1_hasBeast, Cond.code yX1_hasBeast cX1_hasBeast 2 (some .boolean), Cond.methodLink RX1 115 yX1_worthOf, Cond.instanceMethod yX1_worthOf, Cond.selects RX1 yX1_worthOf yX1_worthOf, Cond.code yX1_worthOf cX1_worthOf 4 (some .int)]
def wsX1_worthTaken : List Cond := .code yX1_worthTaken cX1_worthTaken 3 (some .int) :: ((wsX1_worthTaken_r1 ++ wsX1_worthTaken_r2) ++ wsX10)
def wsX1_bury_r1 : List Cond := [Cond.fieldLink RX1 34 "BestBeast$Manor" "heirOf" "[I", Cond.fieldLink RX1 41 "BestBeast$Manor" "beasts" "I", Cond.fieldLink RX1 47 "BestBeast$Manor" "owner" "[I", Cond.fieldLink RX1 37 "BestBeast$Manor" "alive" "[Z", Cond.fieldLink RX1 62 "BestBeast$Manor" "takenWorth" "I", Cond.methodLink RX1 75 yX1_isAlive, Cond.instanceMethod yX1_isAlive, Cond.selects RX1 yX1_isAlive yX1_isAlive, Cond.initialized RX1, Cond.code yX1_isAlive cX1_isAlive 2 (some .boolean), Cond.methodLink RX1 71 yX1_hasHolder, Cond.instanceMethod yX1_hasHolder, Cond.selects RX1 yX1_hasHolder yX1_hasHolder, Cond.code yX1_hasHolder cX1_hasHolder 2 (some .boolean), Cond.fieldLink RX1 24 "BestBeast$Manor" "holders" "I", Cond.methodLink RX1 118 yX1_heldBits, Cond.instanceMethod yX1_heldBits, Cond.selects RX1 yX1_heldBits yX1_heldBits, Cond.code yX1_heldBits cX1_heldBits 2 (some .int), Cond.methodLink RX1 95 yX1_heldLater, Cond.instanceMethod yX1_heldLater, Cond.selects RX1 yX1_heldLater yX1_heldLater, Cond.code yX1_heldLater cX1_heldLater 6 (some .int), Cond.fieldLink RX1 18 "BestBeast$Manor" "voidYears" "I"]
def wsX1_bury_r2 : List Cond := [Cond.fieldLink RX1 50 "BestBeast$Manor" "giver" "[I", Cond.fieldLink RX1 59 "BestBeast$Manor" "yearNow" "I", Cond.fieldLink RX1 53 "BestBeast$Manor" "givenIn" "[I", Cond.methodLink RX1 99 yX1_ownBits, Cond.instanceMethod yX1_ownBits, Cond.selects RX1 yX1_ownBits yX1_ownBits, Cond.code yX1_ownBits cX1_ownBits 4 (some .int), Cond.methodLink RX1 78 yX1_hasBeast, Cond.instanceMethod yX1_hasBeast, Cond.selects RX1 yX1_hasBeast yX1_hasBeast, Cond.code yX1_hasBeast cX1_hasBeast 2 (some .boolean), Cond.methodLink RX1 112 yX1_takenFrom, Cond.instanceMethod yX1_takenFrom, Cond.selects RX1 yX1_takenFrom yX1_takenFrom, Cond.code yX1_takenFrom cX1_takenFrom 7 (some .int), Cond.fieldLink RX1 27 "BestBeast$Manor" "kind" "[I", Cond.methodLink RX1 103 yX1_lordMay, Cond.instanceMethod yX1_lordMay, Cond.selects RX1 yX1_lordMay yX1_lordMay, Cond.code yX1_lordMay cX1_lordMay 2 (some .int), Cond.fieldLink RX1 9 "BestBeast$Manor" "lord" "I", Cond.methodLink RX1 89 Lib.Math.max.name, Cond.static Lib.Math.max.name, Cond.initialized "java/lang/Math"]
def wsX1_bury_r3 : List Cond := [Cond.code Lib.Math.max.name Lib.Math.max.code 2 (some .int), Cond.methodLink RX1 106 yX1_churchMay, Cond.instanceMethod yX1_churchMay, Cond.selects RX1 yX1_churchMay yX1_churchMay, Cond.code yX1_churchMay cX1_churchMay 2 (some .int), Cond.fieldLink RX1 15 "BestBeast$Manor" "church" "I", Cond.methodLink RX1 109 yX1_bestOf, Cond.instanceMethod yX1_bestOf, Cond.selects RX1 yX1_bestOf yX1_bestOf, Cond.code yX1_bestOf cX1_bestOf 5 (some .int), Cond.fieldLink RX1 21 "BestBeast$Manor" "least" "I", Cond.fieldLink RX1 44 "BestBeast$Manor" "worth" "[I", Cond.methodLink RX1 115 yX1_worthOf, Cond.instanceMethod yX1_worthOf, Cond.selects RX1 yX1_worthOf yX1_worthOf, Cond.code yX1_worthOf cX1_worthOf 4 (some .int), Cond.methodLink RX1 81 yX1_putTo, Cond.instanceMethod yX1_putTo, Cond.selects RX1 yX1_putTo yX1_putTo, Cond.code yX1_putTo cX1_putTo 3 none]
def wsX1_bury : List Cond := .code yX1_bury cX1_bury 6 (some .int) :: ((wsX1_bury_r1 ++ (wsX1_bury_r2 ++ wsX1_bury_r3)) ++ wsX10)
def wsJ6_bitCount_0f7a4 : List Cond := .code yJ6_bitCount_0f7a4 cJ6_bitCount_0f7a4 1 (some .int) :: ([.constant RJ6 265 (1431655765), .constant RJ6 266 (858993459), .constant RJ6 267 (252645135)])
def wsX1_fewestToBeSafe_r1 : List Cond := [Cond.methodLink RX1 99 yX1_ownBits, Cond.instanceMethod yX1_ownBits, Cond.selects RX1 yX1_ownBits yX1_ownBits, Cond.initialized RX1, Cond.code yX1_ownBits cX1_ownBits 4 (some .int), Cond.fieldLink RX1 41 "BestBeast$Manor" "beasts" "I", Cond.fieldLink RX1 47 "BestBeast$Manor" "owner" "[I", Cond.methodLink RX1 78 yX1_hasBeast, Cond.instanceMethod yX1_hasBeast, Cond.selects RX1 yX1_hasBeast yX1_hasBeast, Cond.code yX1_hasBeast cX1_hasBeast 2 (some .boolean), Cond.methodLink RX1 118 yX1_heldBits, Cond.instanceMethod yX1_heldBits, Cond.selects RX1 yX1_heldBits yX1_heldBits, Cond.code yX1_heldBits cX1_heldBits 2 (some .int), Cond.methodLink RX1 95 yX1_heldLater, Cond.instanceMethod yX1_heldLater, Cond.selects RX1 yX1_heldLater yX1_heldLater, Cond.code yX1_heldLater cX1_heldLater 6 (some .int), Cond.fieldLink RX1 18 "BestBeast$Manor" "voidYears" "I", Cond.fieldLink RX1 50 "BestBeast$Manor" "giver" "[I", Cond.fieldLink RX1 59 "BestBeast$Manor" "yearNow" "I", Cond.fieldLink RX1 53 "BestBeast$Manor" "givenIn" "[I", Cond.methodLink RX1 112 yX1_takenFrom]
def wsX1_fewestToBeSafe_r2 : List Cond := [Cond.instanceMethod yX1_takenFrom, Cond.selects RX1 yX1_takenFrom yX1_takenFrom, Cond.code yX1_takenFrom cX1_takenFrom 7 (some .int), Cond.fieldLink RX1 27 "BestBeast$Manor" "kind" "[I", Cond.methodLink RX1 71 yX1_hasHolder, Cond.instanceMethod yX1_hasHolder, Cond.selects RX1 yX1_hasHolder yX1_hasHolder, Cond.code yX1_hasHolder cX1_hasHolder 2 (some .boolean), Cond.fieldLink RX1 24 "BestBeast$Manor" "holders" "I", Cond.methodLink RX1 103 yX1_lordMay, Cond.instanceMethod yX1_lordMay, Cond.selects RX1 yX1_lordMay yX1_lordMay, Cond.code yX1_lordMay cX1_lordMay 2 (some .int), Cond.fieldLink RX1 9 "BestBeast$Manor" "lord" "I", Cond.methodLink RX1 89 Lib.Math.max.name, Cond.static Lib.Math.max.name, Cond.initialized "java/lang/Math", Cond.code Lib.Math.max.name Lib.Math.max.code 2 (some .int), Cond.methodLink RX1 106 yX1_churchMay, Cond.instanceMethod yX1_churchMay, Cond.selects RX1 yX1_churchMay yX1_churchMay, Cond.code yX1_churchMay cX1_churchMay 2 (some .int), Cond.fieldLink RX1 15 "BestBeast$Manor" "church" "I", Cond.methodLink RX1 109 yX1_bestOf]
def wsX1_fewestToBeSafe_r3 : List Cond := [Cond.instanceMethod yX1_bestOf, Cond.selects RX1 yX1_bestOf yX1_bestOf, Cond.code yX1_bestOf cX1_bestOf 5 (some .int), Cond.fieldLink RX1 21 "BestBeast$Manor" "least" "I", Cond.fieldLink RX1 44 "BestBeast$Manor" "worth" "[I", Cond.methodLink RX1 121 yJ6_bitCount_0f7a4, Cond.static yJ6_bitCount_0f7a4, Cond.initialized RJ6, Cond.code yJ6_bitCount_0f7a4 cJ6_bitCount_0f7a4 1 (some .int), Cond.constant RJ6 265 (1431655765), Cond.constant RJ6 266 (858993459), Cond.constant RJ6 267 (252645135)]
def wsX1_fewestToBeSafe : List Cond := .code yX1_fewestToBeSafe cX1_fewestToBeSafe 6 (some .int) :: ((wsX1_fewestToBeSafe_r1 ++ (wsX1_fewestToBeSafe_r2 ++ wsX1_fewestToBeSafe_r3)) ++ wsX10)
def wsX1_lostOnMean_r1 : List Cond := [Cond.fieldLink RX1 31 "BestBeast$Manor" "death" "[I", Cond.methodLink RX1 71 yX1_hasHolder, Cond.instanceMethod yX1_hasHolder, Cond.selects RX1 yX1_hasHolder yX1_hasHolder, Cond.initialized RX1, Cond.code yX1_hasHolder cX1_hasHolder 2 (some .boolean), Cond.fieldLink RX1 24 "BestBeast$Manor" "holders" "I", Cond.methodLink RX1 95 yX1_heldLater, Cond.instanceMethod yX1_heldLater, Cond.selects RX1 yX1_heldLater yX1_heldLater, Cond.code yX1_heldLater cX1_heldLater 6 (some .int), Cond.fieldLink RX1 18 "BestBeast$Manor" "voidYears" "I", Cond.fieldLink RX1 41 "BestBeast$Manor" "beasts" "I", Cond.fieldLink RX1 50 "BestBeast$Manor" "giver" "[I", Cond.fieldLink RX1 59 "BestBeast$Manor" "yearNow" "I", Cond.fieldLink RX1 53 "BestBeast$Manor" "givenIn" "[I", Cond.methodLink RX1 99 yX1_ownBits, Cond.instanceMethod yX1_ownBits, Cond.selects RX1 yX1_ownBits yX1_ownBits, Cond.code yX1_ownBits cX1_ownBits 4 (some .int), Cond.fieldLink RX1 47 "BestBeast$Manor" "owner" "[I", Cond.methodLink RX1 78 yX1_hasBeast, Cond.instanceMethod yX1_hasBeast, Cond.selects RX1 yX1_hasBeast yX1_hasBeast]
def wsX1_lostOnMean_r2 : List Cond := [Cond.code yX1_hasBeast cX1_hasBeast 2 (some .boolean), Cond.methodLink RX1 129 yX1_worthTaken, Cond.instanceMethod yX1_worthTaken, Cond.selects RX1 yX1_worthTaken yX1_worthTaken, Cond.code yX1_worthTaken cX1_worthTaken 3 (some .int), Cond.methodLink RX1 112 yX1_takenFrom, Cond.instanceMethod yX1_takenFrom, Cond.selects RX1 yX1_takenFrom yX1_takenFrom, Cond.code yX1_takenFrom cX1_takenFrom 7 (some .int), Cond.fieldLink RX1 27 "BestBeast$Manor" "kind" "[I", Cond.methodLink RX1 103 yX1_lordMay, Cond.instanceMethod yX1_lordMay, Cond.selects RX1 yX1_lordMay yX1_lordMay, Cond.code yX1_lordMay cX1_lordMay 2 (some .int), Cond.fieldLink RX1 9 "BestBeast$Manor" "lord" "I", Cond.methodLink RX1 89 Lib.Math.max.name, Cond.static Lib.Math.max.name, Cond.initialized "java/lang/Math", Cond.code Lib.Math.max.name Lib.Math.max.code 2 (some .int), Cond.methodLink RX1 106 yX1_churchMay, Cond.instanceMethod yX1_churchMay, Cond.selects RX1 yX1_churchMay yX1_churchMay, Cond.code yX1_churchMay cX1_churchMay 2 (some .int), Cond.fieldLink RX1 15 "BestBeast$Manor" "church" "I"]
def wsX1_lostOnMean_r3 : List Cond := [Cond.methodLink RX1 109 yX1_bestOf, Cond.instanceMethod yX1_bestOf, Cond.selects RX1 yX1_bestOf yX1_bestOf, Cond.code yX1_bestOf cX1_bestOf 5 (some .int), Cond.fieldLink RX1 21 "BestBeast$Manor" "least" "I", Cond.fieldLink RX1 44 "BestBeast$Manor" "worth" "[I", Cond.methodLink RX1 115 yX1_worthOf, Cond.instanceMethod yX1_worthOf, Cond.selects RX1 yX1_worthOf yX1_worthOf, Cond.code yX1_worthOf cX1_worthOf 4 (some .int)]
def wsX1_lostOnMean : List Cond := .code yX1_lostOnMean cX1_lostOnMean 8 (some .int) :: ((wsX1_lostOnMean_r1 ++ (wsX1_lostOnMean_r2 ++ wsX1_lostOnMean_r3)) ++ wsX10)
def wsX1_bestGift_r1 : List Cond := [Cond.methodLink RX1 99 yX1_ownBits, Cond.instanceMethod yX1_ownBits, Cond.selects RX1 yX1_ownBits yX1_ownBits, Cond.initialized RX1, Cond.code yX1_ownBits cX1_ownBits 4 (some .int), Cond.fieldLink RX1 41 "BestBeast$Manor" "beasts" "I", Cond.fieldLink RX1 47 "BestBeast$Manor" "owner" "[I", Cond.methodLink RX1 78 yX1_hasBeast, Cond.instanceMethod yX1_hasBeast, Cond.selects RX1 yX1_hasBeast yX1_hasBeast, Cond.code yX1_hasBeast cX1_hasBeast 2 (some .boolean), Cond.methodLink RX1 126 yX1_lostOnMean, Cond.instanceMethod yX1_lostOnMean, Cond.selects RX1 yX1_lostOnMean yX1_lostOnMean, Cond.code yX1_lostOnMean cX1_lostOnMean 8 (some .int), Cond.fieldLink RX1 31 "BestBeast$Manor" "death" "[I", Cond.methodLink RX1 71 yX1_hasHolder, Cond.instanceMethod yX1_hasHolder, Cond.selects RX1 yX1_hasHolder yX1_hasHolder, Cond.code yX1_hasHolder cX1_hasHolder 2 (some .boolean), Cond.fieldLink RX1 24 "BestBeast$Manor" "holders" "I", Cond.methodLink RX1 95 yX1_heldLater, Cond.instanceMethod yX1_heldLater, Cond.selects RX1 yX1_heldLater yX1_heldLater]
def wsX1_bestGift_r2 : List Cond := [Cond.code yX1_heldLater cX1_heldLater 6 (some .int), Cond.fieldLink RX1 18 "BestBeast$Manor" "voidYears" "I", Cond.fieldLink RX1 50 "BestBeast$Manor" "giver" "[I", Cond.fieldLink RX1 59 "BestBeast$Manor" "yearNow" "I", Cond.fieldLink RX1 53 "BestBeast$Manor" "givenIn" "[I", Cond.methodLink RX1 129 yX1_worthTaken, Cond.instanceMethod yX1_worthTaken, Cond.selects RX1 yX1_worthTaken yX1_worthTaken, Cond.code yX1_worthTaken cX1_worthTaken 3 (some .int), Cond.methodLink RX1 112 yX1_takenFrom, Cond.instanceMethod yX1_takenFrom, Cond.selects RX1 yX1_takenFrom yX1_takenFrom, Cond.code yX1_takenFrom cX1_takenFrom 7 (some .int), Cond.fieldLink RX1 27 "BestBeast$Manor" "kind" "[I", Cond.methodLink RX1 103 yX1_lordMay, Cond.instanceMethod yX1_lordMay, Cond.selects RX1 yX1_lordMay yX1_lordMay, Cond.code yX1_lordMay cX1_lordMay 2 (some .int), Cond.fieldLink RX1 9 "BestBeast$Manor" "lord" "I", Cond.methodLink RX1 89 Lib.Math.max.name, Cond.static Lib.Math.max.name, Cond.initialized "java/lang/Math", Cond.code Lib.Math.max.name Lib.Math.max.code 2 (some .int), Cond.methodLink RX1 106 yX1_churchMay]
def wsX1_bestGift_r3 : List Cond := [Cond.instanceMethod yX1_churchMay, Cond.selects RX1 yX1_churchMay yX1_churchMay, Cond.code yX1_churchMay cX1_churchMay 2 (some .int), Cond.fieldLink RX1 15 "BestBeast$Manor" "church" "I", Cond.methodLink RX1 109 yX1_bestOf, Cond.instanceMethod yX1_bestOf, Cond.selects RX1 yX1_bestOf yX1_bestOf, Cond.code yX1_bestOf cX1_bestOf 5 (some .int), Cond.fieldLink RX1 21 "BestBeast$Manor" "least" "I", Cond.fieldLink RX1 44 "BestBeast$Manor" "worth" "[I", Cond.methodLink RX1 115 yX1_worthOf, Cond.instanceMethod yX1_worthOf, Cond.selects RX1 yX1_worthOf yX1_worthOf, Cond.code yX1_worthOf cX1_worthOf 4 (some .int), Cond.methodLink RX1 121 yJ6_bitCount_0f7a4, Cond.static yJ6_bitCount_0f7a4, Cond.initialized RJ6, Cond.code yJ6_bitCount_0f7a4 cJ6_bitCount_0f7a4 1 (some .int), Cond.constant RJ6 265 (1431655765), Cond.constant RJ6 266 (858993459), Cond.constant RJ6 267 (252645135)]
def wsX1_bestGift : List Cond := .code yX1_bestGift cX1_bestGift 9 (some .int) :: ((wsX1_bestGift_r1 ++ (wsX1_bestGift_r2 ++ wsX1_bestGift_r3)) ++ wsX10)
def wsX1_isAsTold : List Cond := .code yX1_isAsTold cX1_isAsTold 3 (some .boolean) :: ([.fieldLink RX1 41 "BestBeast$Manor" "beasts" "I", .fieldLink RX1 56 "BestBeast$Manor" "told" "[I", .methodLink RX1 78 yX1_hasBeast, .instanceMethod yX1_hasBeast, .selects RX1 yX1_hasBeast yX1_hasBeast, .initialized RX1, .code yX1_hasBeast cX1_hasBeast 2 (some .boolean)] ++ wsX10)
def wsX1_liveOneYear_r1 : List Cond := [Cond.fieldLink RX1 24 "BestBeast$Manor" "holders" "I", Cond.fieldLink RX1 31 "BestBeast$Manor" "death" "[I", Cond.fieldLink RX1 41 "BestBeast$Manor" "beasts" "I", Cond.fieldLink RX1 59 "BestBeast$Manor" "yearNow" "I", Cond.methodLink RX1 75 yX1_isAlive, Cond.instanceMethod yX1_isAlive, Cond.selects RX1 yX1_isAlive yX1_isAlive, Cond.initialized RX1, Cond.code yX1_isAlive cX1_isAlive 2 (some .boolean), Cond.fieldLink RX1 37 "BestBeast$Manor" "alive" "[Z", Cond.methodLink RX1 71 yX1_hasHolder, Cond.instanceMethod yX1_hasHolder, Cond.selects RX1 yX1_hasHolder yX1_hasHolder, Cond.code yX1_hasHolder cX1_hasHolder 2 (some .boolean), Cond.methodLink RX1 132 yX0_drawOf, Cond.instanceMethod yX0_drawOf, Cond.selects RX0 yX0_drawOf yX0_drawOf, Cond.initialized RX0, Cond.code yX0_drawOf cX0_drawOf 2 (some .int), Cond.constantLong RX0 13 (1103515245), Cond.fieldLink RX0 7 "BestBeast$Draws" "seed" "I", Cond.constantLong RX0 15 (12345), Cond.constantLong RX0 17 (2147483647), Cond.constant RX0 19 (65536)]
def wsX1_liveOneYear_r2 : List Cond := [Cond.methodLink RX1 137 yX1_bury, Cond.instanceMethod yX1_bury, Cond.selects RX1 yX1_bury yX1_bury, Cond.code yX1_bury cX1_bury 6 (some .int), Cond.fieldLink RX1 34 "BestBeast$Manor" "heirOf" "[I", Cond.fieldLink RX1 47 "BestBeast$Manor" "owner" "[I", Cond.fieldLink RX1 62 "BestBeast$Manor" "takenWorth" "I", Cond.methodLink RX1 118 yX1_heldBits, Cond.instanceMethod yX1_heldBits, Cond.selects RX1 yX1_heldBits yX1_heldBits, Cond.code yX1_heldBits cX1_heldBits 2 (some .int), Cond.methodLink RX1 95 yX1_heldLater, Cond.instanceMethod yX1_heldLater, Cond.selects RX1 yX1_heldLater yX1_heldLater, Cond.code yX1_heldLater cX1_heldLater 6 (some .int), Cond.fieldLink RX1 18 "BestBeast$Manor" "voidYears" "I", Cond.fieldLink RX1 50 "BestBeast$Manor" "giver" "[I", Cond.fieldLink RX1 53 "BestBeast$Manor" "givenIn" "[I", Cond.methodLink RX1 99 yX1_ownBits, Cond.instanceMethod yX1_ownBits, Cond.selects RX1 yX1_ownBits yX1_ownBits, Cond.code yX1_ownBits cX1_ownBits 4 (some .int), Cond.methodLink RX1 78 yX1_hasBeast, Cond.instanceMethod yX1_hasBeast]
def wsX1_liveOneYear_r3 : List Cond := [Cond.selects RX1 yX1_hasBeast yX1_hasBeast, Cond.code yX1_hasBeast cX1_hasBeast 2 (some .boolean), Cond.methodLink RX1 112 yX1_takenFrom, Cond.instanceMethod yX1_takenFrom, Cond.selects RX1 yX1_takenFrom yX1_takenFrom, Cond.code yX1_takenFrom cX1_takenFrom 7 (some .int), Cond.fieldLink RX1 27 "BestBeast$Manor" "kind" "[I", Cond.methodLink RX1 103 yX1_lordMay, Cond.instanceMethod yX1_lordMay, Cond.selects RX1 yX1_lordMay yX1_lordMay, Cond.code yX1_lordMay cX1_lordMay 2 (some .int), Cond.fieldLink RX1 9 "BestBeast$Manor" "lord" "I", Cond.methodLink RX1 89 Lib.Math.max.name, Cond.static Lib.Math.max.name, Cond.initialized "java/lang/Math", Cond.code Lib.Math.max.name Lib.Math.max.code 2 (some .int), Cond.methodLink RX1 106 yX1_churchMay, Cond.instanceMethod yX1_churchMay, Cond.selects RX1 yX1_churchMay yX1_churchMay, Cond.code yX1_churchMay cX1_churchMay 2 (some .int), Cond.fieldLink RX1 15 "BestBeast$Manor" "church" "I", Cond.methodLink RX1 109 yX1_bestOf, Cond.instanceMethod yX1_bestOf, Cond.selects RX1 yX1_bestOf yX1_bestOf]
def wsX1_liveOneYear_r4 : List Cond := [Cond.code yX1_bestOf cX1_bestOf 5 (some .int), Cond.fieldLink RX1 21 "BestBeast$Manor" "least" "I", Cond.fieldLink RX1 44 "BestBeast$Manor" "worth" "[I", Cond.methodLink RX1 115 yX1_worthOf, Cond.instanceMethod yX1_worthOf, Cond.selects RX1 yX1_worthOf yX1_worthOf, Cond.code yX1_worthOf cX1_worthOf 4 (some .int), Cond.methodLink RX1 81 yX1_putTo, Cond.instanceMethod yX1_putTo, Cond.selects RX1 yX1_putTo yX1_putTo, Cond.code yX1_putTo cX1_putTo 3 none, Cond.methodLink RX1 140 yX1_makeGift, Cond.instanceMethod yX1_makeGift, Cond.selects RX1 yX1_makeGift yX1_makeGift, Cond.code yX1_makeGift cX1_makeGift 3 none, Cond.methodLink RX1 85 yX1_mayGive, Cond.instanceMethod yX1_mayGive, Cond.selects RX1 yX1_mayGive yX1_mayGive, Cond.code yX1_mayGive cX1_mayGive 3 (some .boolean)]
def wsX1_liveOneYear : List Cond := .code yX1_liveOneYear cX1_liveOneYear 3 none :: ((wsX1_liveOneYear_r1 ++ (wsX1_liveOneYear_r2 ++ (wsX1_liveOneYear_r3 ++ wsX1_liveOneYear_r4))) ++ wsX10 ++ wsX00)
def wsX2_init_r1 : List Cond := [Cond.methodLink RX2 1 objectInit, Cond.instanceMethod objectInit, Cond.code objectInit ⟨#[0xb1]⟩ 1 none, Cond.classLink RX2 7 RX1, Cond.instantiable RX1 17, Cond.initialized RX1, Cond.fieldLink RX2 10 "BestBeast" "manor" "LBestBeast$Manor;", Cond.fieldLink RX2 16 "BestBeast" "kept" "LBestBeast$Manor;", Cond.fieldLink RX2 19 "BestBeast" "trial" "LBestBeast$Manor;", Cond.classLink RX2 22 RX0, Cond.instantiable RX0 1, Cond.initialized RX0, Cond.fieldLink RX2 25 "BestBeast" "draws" "LBestBeast$Draws;", Cond.arrayClass .int, Cond.fieldLink RX2 29 "BestBeast" "page" "[I", Cond.fieldLink RX2 33 "BestBeast" "letters" "I", Cond.fieldLink RX2 37 "BestBeast" "lawsRead" "I", Cond.fieldLink RX2 40 "BestBeast" "hasImage" "Z", Cond.instanceMethod yX1_init, Cond.code yX1_init cX1_init 1 none, Cond.methodLink RX1 3 objectInit, Cond.fieldLink RX1 9 "BestBeast$Manor" "lord" "I", Cond.fieldLink RX1 15 "BestBeast$Manor" "church" "I", Cond.fieldLink RX1 18 "BestBeast$Manor" "voidYears" "I"]
def wsX2_init_r2 : List Cond := [Cond.fieldLink RX1 21 "BestBeast$Manor" "least" "I", Cond.fieldLink RX1 24 "BestBeast$Manor" "holders" "I", Cond.fieldLink RX1 27 "BestBeast$Manor" "kind" "[I", Cond.fieldLink RX1 31 "BestBeast$Manor" "death" "[I", Cond.fieldLink RX1 34 "BestBeast$Manor" "heirOf" "[I", Cond.arrayClass .boolean, Cond.fieldLink RX1 37 "BestBeast$Manor" "alive" "[Z", Cond.fieldLink RX1 41 "BestBeast$Manor" "beasts" "I", Cond.fieldLink RX1 44 "BestBeast$Manor" "worth" "[I", Cond.fieldLink RX1 47 "BestBeast$Manor" "owner" "[I", Cond.fieldLink RX1 50 "BestBeast$Manor" "giver" "[I", Cond.fieldLink RX1 53 "BestBeast$Manor" "givenIn" "[I", Cond.fieldLink RX1 56 "BestBeast$Manor" "told" "[I", Cond.fieldLink RX1 59 "BestBeast$Manor" "yearNow" "I", Cond.fieldLink RX1 62 "BestBeast$Manor" "takenWorth" "I", Cond.instanceMethod yX0_init, Cond.code yX0_init cX0_init 1 none, Cond.methodLink RX0 1 objectInit, Cond.fieldLink RX0 7 "BestBeast$Draws" "seed" "I"]
def wsX2_init : List Cond := .code yX2_init cX2_init 1 none :: ((wsX2_init_r1 ++ wsX2_init_r2) ++ wsX10 ++ wsX20 ++ wsX00)
def wsX2_within : List Cond := .code yX2_within cX2_within 3 (some .boolean) :: ([])
def wsX2_letter : List Cond := .code yX2_letter cX2_letter 2 (some .int) :: ([.fieldLink RX2 33 "BestBeast" "letters" "I", .fieldLink RX2 29 "BestBeast" "page" "[I", .methodLink RX2 44 yX2_within, .static yX2_within, .initialized RX2, .code yX2_within cX2_within 3 (some .boolean)] ++ wsX20)
def wsX2_blank : List Cond := .code yX2_blank cX2_blank 2 (some .int) :: ([.fieldLink RX2 33 "BestBeast" "letters" "I"] ++ wsX20)
def wsX2_fitsLaw : List Cond := .code yX2_fitsLaw cX2_fitsLaw 2 (some .boolean) :: ([.fieldLink RX2 52 "BestBeast" "LAW_FROM" "[C", .fieldLink RX2 72 "BestBeast" "LAW_TO" "[C", .fieldLink RX2 29 "BestBeast" "page" "[I", .methodLink RX2 44 yX2_within, .static yX2_within, .initialized RX2, .code yX2_within cX2_within 3 (some .boolean)] ++ wsX20)
def wsX2_fault : List Cond := .code yX2_fault cX2_fault 2 (some .int) :: ([.fieldLink RX2 33 "BestBeast" "letters" "I", .methodLink RX2 48 yX2_fitsLaw, .instanceMethod yX2_fitsLaw, .selects RX2 yX2_fitsLaw yX2_fitsLaw, .initialized RX2, .code yX2_fitsLaw cX2_fitsLaw 2 (some .boolean), .fieldLink RX2 52 "BestBeast" "LAW_FROM" "[C", .fieldLink RX2 72 "BestBeast" "LAW_TO" "[C", .fieldLink RX2 29 "BestBeast" "page" "[I", .methodLink RX2 44 yX2_within, .static yX2_within, .code yX2_within cX2_within 3 (some .boolean)] ++ wsX20)
def wsX2_law : List Cond := .code yX2_law cX2_law 1 (some .int) :: ([.fieldLink RX2 33 "BestBeast" "letters" "I", .fieldLink RX2 52 "BestBeast" "LAW_FROM" "[C", .fieldLink RX2 10 "BestBeast" "manor" "LBestBeast$Manor;", .fieldLink RX2 29 "BestBeast" "page" "[I", .fieldLink RX2 60 "BestBeast$Manor" "lord" "I", .fieldLink RX2 63 "BestBeast$Manor" "church" "I", .fieldLink RX2 66 "BestBeast$Manor" "voidYears" "I", .fieldLink RX2 69 "BestBeast$Manor" "least" "I", .fieldLink RX2 37 "BestBeast" "lawsRead" "I", .methodLink RX2 56 yX2_fault, .instanceMethod yX2_fault, .selects RX2 yX2_fault yX2_fault, .initialized RX2, .code yX2_fault cX2_fault 2 (some .int), .methodLink RX2 48 yX2_fitsLaw, .instanceMethod yX2_fitsLaw, .selects RX2 yX2_fitsLaw yX2_fitsLaw, .code yX2_fitsLaw cX2_fitsLaw 2 (some .boolean), .fieldLink RX2 72 "BestBeast" "LAW_TO" "[C", .methodLink RX2 44 yX2_within, .static yX2_within, .code yX2_within cX2_within 3 (some .boolean)] ++ wsX20 ++ wsX10)
def wsX2_holder : List Cond := .code yX2_holder cX2_holder 3 (some .int) :: ([.fieldLink RX2 10 "BestBeast" "manor" "LBestBeast$Manor;", .fieldLink RX2 75 "BestBeast$Manor" "holders" "I", .methodLink RX2 44 yX2_within, .static yX2_within, .initialized RX2, .code yX2_within cX2_within 3 (some .boolean), .methodLink RX2 78 yX1_addHolder, .instanceMethod yX1_addHolder, .selects RX1 yX1_addHolder yX1_addHolder, .initialized RX1, .code yX1_addHolder cX1_addHolder 4 (some .int), .fieldLink RX1 24 "BestBeast$Manor" "holders" "I", .fieldLink RX1 27 "BestBeast$Manor" "kind" "[I", .fieldLink RX1 31 "BestBeast$Manor" "death" "[I", .fieldLink RX1 34 "BestBeast$Manor" "heirOf" "[I", .fieldLink RX1 37 "BestBeast$Manor" "alive" "[Z"] ++ wsX20 ++ wsX10)
def wsX2_about_r1 : List Cond := [Cond.fieldLink RX2 10 "BestBeast" "manor" "LBestBeast$Manor;", Cond.fieldLink RX2 85 "BestBeast$Manor" "kind" "[I", Cond.fieldLink RX2 88 "BestBeast$Manor" "death" "[I", Cond.fieldLink RX2 91 "BestBeast$Manor" "alive" "[Z", Cond.fieldLink RX2 95 "BestBeast$Manor" "heirOf" "[I", Cond.methodLink RX2 82 yX1_hasHolder, Cond.instanceMethod yX1_hasHolder, Cond.selects RX1 yX1_hasHolder yX1_hasHolder, Cond.initialized RX1, Cond.code yX1_hasHolder cX1_hasHolder 2 (some .boolean), Cond.fieldLink RX1 24 "BestBeast$Manor" "holders" "I", Cond.methodLink RX2 98 yX1_ownBits, Cond.instanceMethod yX1_ownBits, Cond.selects RX1 yX1_ownBits yX1_ownBits, Cond.code yX1_ownBits cX1_ownBits 4 (some .int), Cond.fieldLink RX1 41 "BestBeast$Manor" "beasts" "I", Cond.fieldLink RX1 47 "BestBeast$Manor" "owner" "[I", Cond.methodLink RX1 78 yX1_hasBeast, Cond.instanceMethod yX1_hasBeast, Cond.selects RX1 yX1_hasBeast yX1_hasBeast, Cond.code yX1_hasBeast cX1_hasBeast 2 (some .boolean), Cond.methodLink RX2 102 yX1_heldBits, Cond.instanceMethod yX1_heldBits, Cond.selects RX1 yX1_heldBits yX1_heldBits]
def wsX2_about_r2 : List Cond := [Cond.code yX1_heldBits cX1_heldBits 2 (some .int), Cond.methodLink RX1 95 yX1_heldLater, Cond.instanceMethod yX1_heldLater, Cond.selects RX1 yX1_heldLater yX1_heldLater, Cond.code yX1_heldLater cX1_heldLater 6 (some .int), Cond.fieldLink RX1 18 "BestBeast$Manor" "voidYears" "I", Cond.fieldLink RX1 50 "BestBeast$Manor" "giver" "[I", Cond.fieldLink RX1 59 "BestBeast$Manor" "yearNow" "I", Cond.fieldLink RX1 53 "BestBeast$Manor" "givenIn" "[I", Cond.methodLink RX1 99 yX1_ownBits, Cond.methodLink RX2 105 yX1_lordMay, Cond.instanceMethod yX1_lordMay, Cond.selects RX1 yX1_lordMay yX1_lordMay, Cond.code yX1_lordMay cX1_lordMay 2 (some .int), Cond.fieldLink RX1 9 "BestBeast$Manor" "lord" "I", Cond.methodLink RX1 89 Lib.Math.max.name, Cond.static Lib.Math.max.name, Cond.initialized "java/lang/Math", Cond.code Lib.Math.max.name Lib.Math.max.code 2 (some .int), Cond.methodLink RX2 108 yX1_churchMay, Cond.instanceMethod yX1_churchMay, Cond.selects RX1 yX1_churchMay yX1_churchMay, Cond.code yX1_churchMay cX1_churchMay 2 (some .int), Cond.fieldLink RX1 15 "BestBeast$Manor" "church" "I"]
def wsX2_about_r3 : List Cond := [Cond.methodLink RX2 111 yX1_worthTaken, Cond.instanceMethod yX1_worthTaken, Cond.selects RX1 yX1_worthTaken yX1_worthTaken, Cond.code yX1_worthTaken cX1_worthTaken 3 (some .int), Cond.methodLink RX1 112 yX1_takenFrom, Cond.instanceMethod yX1_takenFrom, Cond.selects RX1 yX1_takenFrom yX1_takenFrom, Cond.code yX1_takenFrom cX1_takenFrom 7 (some .int), Cond.fieldLink RX1 27 "BestBeast$Manor" "kind" "[I", Cond.methodLink RX1 71 yX1_hasHolder, Cond.methodLink RX1 103 yX1_lordMay, Cond.methodLink RX1 106 yX1_churchMay, Cond.methodLink RX1 109 yX1_bestOf, Cond.instanceMethod yX1_bestOf, Cond.selects RX1 yX1_bestOf yX1_bestOf, Cond.code yX1_bestOf cX1_bestOf 5 (some .int), Cond.fieldLink RX1 21 "BestBeast$Manor" "least" "I", Cond.fieldLink RX1 44 "BestBeast$Manor" "worth" "[I", Cond.methodLink RX1 115 yX1_worthOf, Cond.instanceMethod yX1_worthOf, Cond.selects RX1 yX1_worthOf yX1_worthOf, Cond.code yX1_worthOf cX1_worthOf 4 (some .int)]
def wsX2_about : List Cond := .code yX2_about cX2_about 3 (some .int) :: ((wsX2_about_r1 ++ (wsX2_about_r2 ++ wsX2_about_r3)) ++ wsX20 ++ wsX10)
def wsX2_isSuch : List Cond := .code yX2_isSuch cX2_isSuch 2 (some .boolean) :: ([])
def wsX2_as : List Cond := .code yX2_as cX2_as 3 (some .int) :: ([.fieldLink RX2 10 "BestBeast" "manor" "LBestBeast$Manor;", .fieldLink RX2 85 "BestBeast$Manor" "kind" "[I", .methodLink RX2 82 yX1_hasHolder, .instanceMethod yX1_hasHolder, .selects RX1 yX1_hasHolder yX1_hasHolder, .initialized RX1, .code yX1_hasHolder cX1_hasHolder 2 (some .boolean), .fieldLink RX1 24 "BestBeast$Manor" "holders" "I", .methodLink RX2 44 yX2_within, .static yX2_within, .initialized RX2, .code yX2_within cX2_within 3 (some .boolean), .methodLink RX2 114 yX2_isSuch, .static yX2_isSuch, .code yX2_isSuch cX2_isSuch 2 (some .boolean)] ++ wsX20 ++ wsX10)
def wsX2_heir : List Cond := .code yX2_heir cX2_heir 4 (some .int) :: ([.fieldLink RX2 10 "BestBeast" "manor" "LBestBeast$Manor;", .fieldLink RX2 95 "BestBeast$Manor" "heirOf" "[I", .methodLink RX2 82 yX1_hasHolder, .instanceMethod yX1_hasHolder, .selects RX1 yX1_hasHolder yX1_hasHolder, .initialized RX1, .code yX1_hasHolder cX1_hasHolder 2 (some .boolean), .fieldLink RX1 24 "BestBeast$Manor" "holders" "I"] ++ wsX20 ++ wsX10)
def wsX2_beast_r1 : List Cond := [Cond.fieldLink RX2 10 "BestBeast" "manor" "LBestBeast$Manor;", Cond.fieldLink RX2 91 "BestBeast$Manor" "alive" "[Z", Cond.fieldLink RX2 118 "BestBeast$Manor" "beasts" "I", Cond.methodLink RX2 82 yX1_hasHolder, Cond.instanceMethod yX1_hasHolder, Cond.selects RX1 yX1_hasHolder yX1_hasHolder, Cond.initialized RX1, Cond.code yX1_hasHolder cX1_hasHolder 2 (some .boolean), Cond.fieldLink RX1 24 "BestBeast$Manor" "holders" "I", Cond.methodLink RX2 44 yX2_within, Cond.static yX2_within, Cond.initialized RX2, Cond.code yX2_within cX2_within 3 (some .boolean), Cond.methodLink RX2 121 yX1_addBeast, Cond.instanceMethod yX1_addBeast, Cond.selects RX1 yX1_addBeast yX1_addBeast, Cond.code yX1_addBeast cX1_addBeast 4 (some .int), Cond.fieldLink RX1 41 "BestBeast$Manor" "beasts" "I", Cond.fieldLink RX1 44 "BestBeast$Manor" "worth" "[I", Cond.fieldLink RX1 56 "BestBeast$Manor" "told" "[I", Cond.methodLink RX1 81 yX1_putTo, Cond.instanceMethod yX1_putTo, Cond.selects RX1 yX1_putTo yX1_putTo, Cond.code yX1_putTo cX1_putTo 3 none]
def wsX2_beast_r2 : List Cond := [Cond.fieldLink RX1 47 "BestBeast$Manor" "owner" "[I", Cond.fieldLink RX1 50 "BestBeast$Manor" "giver" "[I", Cond.fieldLink RX1 53 "BestBeast$Manor" "givenIn" "[I", Cond.methodLink RX1 78 yX1_hasBeast, Cond.instanceMethod yX1_hasBeast, Cond.selects RX1 yX1_hasBeast yX1_hasBeast, Cond.code yX1_hasBeast cX1_hasBeast 2 (some .boolean)]
def wsX2_beast : List Cond := .code yX2_beast cX2_beast 3 (some .int) :: ((wsX2_beast_r1 ++ wsX2_beast_r2) ++ wsX20 ++ wsX10)
def wsX2_beastOf : List Cond := .code yX2_beastOf cX2_beastOf 3 (some .int) :: ([.fieldLink RX2 10 "BestBeast" "manor" "LBestBeast$Manor;", .fieldLink RX2 127 "BestBeast$Manor" "worth" "[I", .fieldLink RX2 130 "BestBeast$Manor" "owner" "[I", .fieldLink RX2 133 "BestBeast$Manor" "giver" "[I", .fieldLink RX2 136 "BestBeast$Manor" "givenIn" "[I", .fieldLink RX2 139 "BestBeast$Manor" "told" "[I", .methodLink RX2 124 yX1_hasBeast, .instanceMethod yX1_hasBeast, .selects RX1 yX1_hasBeast yX1_hasBeast, .initialized RX1, .code yX1_hasBeast cX1_hasBeast 2 (some .boolean), .fieldLink RX1 41 "BestBeast$Manor" "beasts" "I"] ++ wsX20 ++ wsX10)
def wsX2_give_r1 : List Cond := [Cond.fieldLink RX2 10 "BestBeast" "manor" "LBestBeast$Manor;", Cond.fieldLink RX2 130 "BestBeast$Manor" "owner" "[I", Cond.methodLink RX2 124 yX1_hasBeast, Cond.instanceMethod yX1_hasBeast, Cond.selects RX1 yX1_hasBeast yX1_hasBeast, Cond.initialized RX1, Cond.code yX1_hasBeast cX1_hasBeast 2 (some .boolean), Cond.fieldLink RX1 41 "BestBeast$Manor" "beasts" "I", Cond.methodLink RX2 82 yX1_hasHolder, Cond.instanceMethod yX1_hasHolder, Cond.selects RX1 yX1_hasHolder yX1_hasHolder, Cond.code yX1_hasHolder cX1_hasHolder 2 (some .boolean), Cond.fieldLink RX1 24 "BestBeast$Manor" "holders" "I", Cond.methodLink RX2 142 yX1_mayGive, Cond.instanceMethod yX1_mayGive, Cond.selects RX1 yX1_mayGive yX1_mayGive, Cond.code yX1_mayGive cX1_mayGive 3 (some .boolean), Cond.fieldLink RX1 47 "BestBeast$Manor" "owner" "[I", Cond.methodLink RX1 78 yX1_hasBeast, Cond.methodLink RX1 75 yX1_isAlive, Cond.instanceMethod yX1_isAlive, Cond.selects RX1 yX1_isAlive yX1_isAlive, Cond.code yX1_isAlive cX1_isAlive 2 (some .boolean), Cond.fieldLink RX1 37 "BestBeast$Manor" "alive" "[Z"]
def wsX2_give_r2 : List Cond := [Cond.methodLink RX1 71 yX1_hasHolder, Cond.methodLink RX2 145 yX1_makeGift, Cond.instanceMethod yX1_makeGift, Cond.selects RX1 yX1_makeGift yX1_makeGift, Cond.code yX1_makeGift cX1_makeGift 3 none, Cond.fieldLink RX1 50 "BestBeast$Manor" "giver" "[I", Cond.fieldLink RX1 53 "BestBeast$Manor" "givenIn" "[I", Cond.fieldLink RX1 59 "BestBeast$Manor" "yearNow" "I", Cond.methodLink RX1 85 yX1_mayGive]
def wsX2_give : List Cond := .code yX2_give cX2_give 4 (some .int) :: ((wsX2_give_r1 ++ wsX2_give_r2) ++ wsX20 ++ wsX10)
def wsX2_die_r1 : List Cond := [Cond.fieldLink RX2 10 "BestBeast" "manor" "LBestBeast$Manor;", Cond.fieldLink RX2 91 "BestBeast$Manor" "alive" "[Z", Cond.methodLink RX2 82 yX1_hasHolder, Cond.instanceMethod yX1_hasHolder, Cond.selects RX1 yX1_hasHolder yX1_hasHolder, Cond.initialized RX1, Cond.code yX1_hasHolder cX1_hasHolder 2 (some .boolean), Cond.fieldLink RX1 24 "BestBeast$Manor" "holders" "I", Cond.methodLink RX2 149 yX1_bury, Cond.instanceMethod yX1_bury, Cond.selects RX1 yX1_bury yX1_bury, Cond.code yX1_bury cX1_bury 6 (some .int), Cond.fieldLink RX1 34 "BestBeast$Manor" "heirOf" "[I", Cond.fieldLink RX1 41 "BestBeast$Manor" "beasts" "I", Cond.fieldLink RX1 47 "BestBeast$Manor" "owner" "[I", Cond.fieldLink RX1 37 "BestBeast$Manor" "alive" "[Z", Cond.fieldLink RX1 62 "BestBeast$Manor" "takenWorth" "I", Cond.methodLink RX1 75 yX1_isAlive, Cond.instanceMethod yX1_isAlive, Cond.selects RX1 yX1_isAlive yX1_isAlive, Cond.code yX1_isAlive cX1_isAlive 2 (some .boolean), Cond.methodLink RX1 71 yX1_hasHolder, Cond.methodLink RX1 118 yX1_heldBits, Cond.instanceMethod yX1_heldBits]
def wsX2_die_r2 : List Cond := [Cond.selects RX1 yX1_heldBits yX1_heldBits, Cond.code yX1_heldBits cX1_heldBits 2 (some .int), Cond.methodLink RX1 95 yX1_heldLater, Cond.instanceMethod yX1_heldLater, Cond.selects RX1 yX1_heldLater yX1_heldLater, Cond.code yX1_heldLater cX1_heldLater 6 (some .int), Cond.fieldLink RX1 18 "BestBeast$Manor" "voidYears" "I", Cond.fieldLink RX1 50 "BestBeast$Manor" "giver" "[I", Cond.fieldLink RX1 59 "BestBeast$Manor" "yearNow" "I", Cond.fieldLink RX1 53 "BestBeast$Manor" "givenIn" "[I", Cond.methodLink RX1 99 yX1_ownBits, Cond.instanceMethod yX1_ownBits, Cond.selects RX1 yX1_ownBits yX1_ownBits, Cond.code yX1_ownBits cX1_ownBits 4 (some .int), Cond.methodLink RX1 78 yX1_hasBeast, Cond.instanceMethod yX1_hasBeast, Cond.selects RX1 yX1_hasBeast yX1_hasBeast, Cond.code yX1_hasBeast cX1_hasBeast 2 (some .boolean), Cond.methodLink RX1 112 yX1_takenFrom, Cond.instanceMethod yX1_takenFrom, Cond.selects RX1 yX1_takenFrom yX1_takenFrom, Cond.code yX1_takenFrom cX1_takenFrom 7 (some .int), Cond.fieldLink RX1 27 "BestBeast$Manor" "kind" "[I", Cond.methodLink RX1 103 yX1_lordMay]
def wsX2_die_r3 : List Cond := [Cond.instanceMethod yX1_lordMay, Cond.selects RX1 yX1_lordMay yX1_lordMay, Cond.code yX1_lordMay cX1_lordMay 2 (some .int), Cond.fieldLink RX1 9 "BestBeast$Manor" "lord" "I", Cond.methodLink RX1 89 Lib.Math.max.name, Cond.static Lib.Math.max.name, Cond.initialized "java/lang/Math", Cond.code Lib.Math.max.name Lib.Math.max.code 2 (some .int), Cond.methodLink RX1 106 yX1_churchMay, Cond.instanceMethod yX1_churchMay, Cond.selects RX1 yX1_churchMay yX1_churchMay, Cond.code yX1_churchMay cX1_churchMay 2 (some .int), Cond.fieldLink RX1 15 "BestBeast$Manor" "church" "I", Cond.methodLink RX1 109 yX1_bestOf, Cond.instanceMethod yX1_bestOf, Cond.selects RX1 yX1_bestOf yX1_bestOf, Cond.code yX1_bestOf cX1_bestOf 5 (some .int), Cond.fieldLink RX1 21 "BestBeast$Manor" "least" "I", Cond.fieldLink RX1 44 "BestBeast$Manor" "worth" "[I", Cond.methodLink RX1 115 yX1_worthOf, Cond.instanceMethod yX1_worthOf, Cond.selects RX1 yX1_worthOf yX1_worthOf, Cond.code yX1_worthOf cX1_worthOf 4 (some .int), Cond.methodLink RX1 81 yX1_putTo]
def wsX2_die_r4 : List Cond := [Cond.instanceMethod yX1_putTo, Cond.selects RX1 yX1_putTo yX1_putTo, Cond.code yX1_putTo cX1_putTo 3 none]
def wsX2_die : List Cond := .code yX2_die cX2_die 2 (some .int) :: ((wsX2_die_r1 ++ (wsX2_die_r2 ++ (wsX2_die_r3 ++ wsX2_die_r4))) ++ wsX20 ++ wsX10)
def wsX2_year : List Cond := .code yX2_year cX2_year 1 (some .int) :: ([.fieldLink RX2 10 "BestBeast" "manor" "LBestBeast$Manor;", .fieldLink RX2 152 "BestBeast$Manor" "yearNow" "I"] ++ wsX20 ++ wsX10)
def wsX2_safe_r1 : List Cond := [Cond.fieldLink RX2 10 "BestBeast" "manor" "LBestBeast$Manor;", Cond.fieldLink RX2 91 "BestBeast$Manor" "alive" "[Z", Cond.methodLink RX2 82 yX1_hasHolder, Cond.instanceMethod yX1_hasHolder, Cond.selects RX1 yX1_hasHolder yX1_hasHolder, Cond.initialized RX1, Cond.code yX1_hasHolder cX1_hasHolder 2 (some .boolean), Cond.fieldLink RX1 24 "BestBeast$Manor" "holders" "I", Cond.methodLink RX2 44 yX2_within, Cond.static yX2_within, Cond.initialized RX2, Cond.code yX2_within cX2_within 3 (some .boolean), Cond.methodLink RX2 155 yX1_fewestToBeSafe, Cond.instanceMethod yX1_fewestToBeSafe, Cond.selects RX1 yX1_fewestToBeSafe yX1_fewestToBeSafe, Cond.code yX1_fewestToBeSafe cX1_fewestToBeSafe 6 (some .int), Cond.methodLink RX1 99 yX1_ownBits, Cond.instanceMethod yX1_ownBits, Cond.selects RX1 yX1_ownBits yX1_ownBits, Cond.code yX1_ownBits cX1_ownBits 4 (some .int), Cond.fieldLink RX1 41 "BestBeast$Manor" "beasts" "I", Cond.fieldLink RX1 47 "BestBeast$Manor" "owner" "[I", Cond.methodLink RX1 78 yX1_hasBeast, Cond.instanceMethod yX1_hasBeast]
def wsX2_safe_r2 : List Cond := [Cond.selects RX1 yX1_hasBeast yX1_hasBeast, Cond.code yX1_hasBeast cX1_hasBeast 2 (some .boolean), Cond.methodLink RX1 118 yX1_heldBits, Cond.instanceMethod yX1_heldBits, Cond.selects RX1 yX1_heldBits yX1_heldBits, Cond.code yX1_heldBits cX1_heldBits 2 (some .int), Cond.methodLink RX1 95 yX1_heldLater, Cond.instanceMethod yX1_heldLater, Cond.selects RX1 yX1_heldLater yX1_heldLater, Cond.code yX1_heldLater cX1_heldLater 6 (some .int), Cond.fieldLink RX1 18 "BestBeast$Manor" "voidYears" "I", Cond.fieldLink RX1 50 "BestBeast$Manor" "giver" "[I", Cond.fieldLink RX1 59 "BestBeast$Manor" "yearNow" "I", Cond.fieldLink RX1 53 "BestBeast$Manor" "givenIn" "[I", Cond.methodLink RX1 112 yX1_takenFrom, Cond.instanceMethod yX1_takenFrom, Cond.selects RX1 yX1_takenFrom yX1_takenFrom, Cond.code yX1_takenFrom cX1_takenFrom 7 (some .int), Cond.fieldLink RX1 27 "BestBeast$Manor" "kind" "[I", Cond.methodLink RX1 71 yX1_hasHolder, Cond.methodLink RX1 103 yX1_lordMay, Cond.instanceMethod yX1_lordMay, Cond.selects RX1 yX1_lordMay yX1_lordMay, Cond.code yX1_lordMay cX1_lordMay 2 (some .int)]
def wsX2_safe_r3 : List Cond := [Cond.fieldLink RX1 9 "BestBeast$Manor" "lord" "I", Cond.methodLink RX1 89 Lib.Math.max.name, Cond.static Lib.Math.max.name, Cond.initialized "java/lang/Math", Cond.code Lib.Math.max.name Lib.Math.max.code 2 (some .int), Cond.methodLink RX1 106 yX1_churchMay, Cond.instanceMethod yX1_churchMay, Cond.selects RX1 yX1_churchMay yX1_churchMay, Cond.code yX1_churchMay cX1_churchMay 2 (some .int), Cond.fieldLink RX1 15 "BestBeast$Manor" "church" "I", Cond.methodLink RX1 109 yX1_bestOf, Cond.instanceMethod yX1_bestOf, Cond.selects RX1 yX1_bestOf yX1_bestOf, Cond.code yX1_bestOf cX1_bestOf 5 (some .int), Cond.fieldLink RX1 21 "BestBeast$Manor" "least" "I", Cond.fieldLink RX1 44 "BestBeast$Manor" "worth" "[I", Cond.methodLink RX1 121 yJ6_bitCount_0f7a4, Cond.static yJ6_bitCount_0f7a4, Cond.initialized RJ6, Cond.code yJ6_bitCount_0f7a4 cJ6_bitCount_0f7a4 1 (some .int), Cond.constant RJ6 265 (1431655765), Cond.constant RJ6 266 (858993459), Cond.constant RJ6 267 (252645135), Cond.methodLink RX2 158 yJ6_bitCount_0f7a4]
def wsX2_safe : List Cond := .code yX2_safe cX2_safe 4 (some .int) :: ((wsX2_safe_r1 ++ (wsX2_safe_r2 ++ wsX2_safe_r3)) ++ wsX20 ++ wsX10)
def wsX2_giving_r1 : List Cond := [Cond.fieldLink RX2 10 "BestBeast" "manor" "LBestBeast$Manor;", Cond.fieldLink RX2 91 "BestBeast$Manor" "alive" "[Z", Cond.methodLink RX2 82 yX1_hasHolder, Cond.instanceMethod yX1_hasHolder, Cond.selects RX1 yX1_hasHolder yX1_hasHolder, Cond.initialized RX1, Cond.code yX1_hasHolder cX1_hasHolder 2 (some .boolean), Cond.fieldLink RX1 24 "BestBeast$Manor" "holders" "I", Cond.methodLink RX2 44 yX2_within, Cond.static yX2_within, Cond.initialized RX2, Cond.code yX2_within cX2_within 3 (some .boolean), Cond.methodLink RX2 163 yX1_bestGift, Cond.instanceMethod yX1_bestGift, Cond.selects RX1 yX1_bestGift yX1_bestGift, Cond.code yX1_bestGift cX1_bestGift 9 (some .int), Cond.methodLink RX1 99 yX1_ownBits, Cond.instanceMethod yX1_ownBits, Cond.selects RX1 yX1_ownBits yX1_ownBits, Cond.code yX1_ownBits cX1_ownBits 4 (some .int), Cond.fieldLink RX1 41 "BestBeast$Manor" "beasts" "I", Cond.fieldLink RX1 47 "BestBeast$Manor" "owner" "[I", Cond.methodLink RX1 78 yX1_hasBeast, Cond.instanceMethod yX1_hasBeast]
def wsX2_giving_r2 : List Cond := [Cond.selects RX1 yX1_hasBeast yX1_hasBeast, Cond.code yX1_hasBeast cX1_hasBeast 2 (some .boolean), Cond.methodLink RX1 126 yX1_lostOnMean, Cond.instanceMethod yX1_lostOnMean, Cond.selects RX1 yX1_lostOnMean yX1_lostOnMean, Cond.code yX1_lostOnMean cX1_lostOnMean 8 (some .int), Cond.fieldLink RX1 31 "BestBeast$Manor" "death" "[I", Cond.methodLink RX1 71 yX1_hasHolder, Cond.methodLink RX1 95 yX1_heldLater, Cond.instanceMethod yX1_heldLater, Cond.selects RX1 yX1_heldLater yX1_heldLater, Cond.code yX1_heldLater cX1_heldLater 6 (some .int), Cond.fieldLink RX1 18 "BestBeast$Manor" "voidYears" "I", Cond.fieldLink RX1 50 "BestBeast$Manor" "giver" "[I", Cond.fieldLink RX1 59 "BestBeast$Manor" "yearNow" "I", Cond.fieldLink RX1 53 "BestBeast$Manor" "givenIn" "[I", Cond.methodLink RX1 129 yX1_worthTaken, Cond.instanceMethod yX1_worthTaken, Cond.selects RX1 yX1_worthTaken yX1_worthTaken, Cond.code yX1_worthTaken cX1_worthTaken 3 (some .int), Cond.methodLink RX1 112 yX1_takenFrom, Cond.instanceMethod yX1_takenFrom, Cond.selects RX1 yX1_takenFrom yX1_takenFrom, Cond.code yX1_takenFrom cX1_takenFrom 7 (some .int)]
def wsX2_giving_r3 : List Cond := [Cond.fieldLink RX1 27 "BestBeast$Manor" "kind" "[I", Cond.methodLink RX1 103 yX1_lordMay, Cond.instanceMethod yX1_lordMay, Cond.selects RX1 yX1_lordMay yX1_lordMay, Cond.code yX1_lordMay cX1_lordMay 2 (some .int), Cond.fieldLink RX1 9 "BestBeast$Manor" "lord" "I", Cond.methodLink RX1 89 Lib.Math.max.name, Cond.static Lib.Math.max.name, Cond.initialized "java/lang/Math", Cond.code Lib.Math.max.name Lib.Math.max.code 2 (some .int), Cond.methodLink RX1 106 yX1_churchMay, Cond.instanceMethod yX1_churchMay, Cond.selects RX1 yX1_churchMay yX1_churchMay, Cond.code yX1_churchMay cX1_churchMay 2 (some .int), Cond.fieldLink RX1 15 "BestBeast$Manor" "church" "I", Cond.methodLink RX1 109 yX1_bestOf, Cond.instanceMethod yX1_bestOf, Cond.selects RX1 yX1_bestOf yX1_bestOf, Cond.code yX1_bestOf cX1_bestOf 5 (some .int), Cond.fieldLink RX1 21 "BestBeast$Manor" "least" "I", Cond.fieldLink RX1 44 "BestBeast$Manor" "worth" "[I", Cond.methodLink RX1 115 yX1_worthOf, Cond.instanceMethod yX1_worthOf, Cond.selects RX1 yX1_worthOf yX1_worthOf]
def wsX2_giving_r4 : List Cond := [Cond.code yX1_worthOf cX1_worthOf 4 (some .int), Cond.methodLink RX1 121 yJ6_bitCount_0f7a4, Cond.static yJ6_bitCount_0f7a4, Cond.initialized RJ6, Cond.code yJ6_bitCount_0f7a4 cJ6_bitCount_0f7a4 1 (some .int), Cond.constant RJ6 265 (1431655765), Cond.constant RJ6 266 (858993459), Cond.constant RJ6 267 (252645135)]
def wsX2_giving : List Cond := .code yX2_giving cX2_giving 3 (some .int) :: ((wsX2_giving_r1 ++ (wsX2_giving_r2 ++ (wsX2_giving_r3 ++ wsX2_giving_r4))) ++ wsX20 ++ wsX10)
def wsX2_powerOfTen : List Cond := .code yX2_powerOfTen cX2_powerOfTen 3 (some .int) :: ([])
def wsX2_commonDivisor : List Cond := .code yX2_commonDivisor cX2_commonDivisor 6 (some .int) :: ([])
def wsX2_mean_r1 : List Cond := [Cond.fieldLink RX2 10 "BestBeast" "manor" "LBestBeast$Manor;", Cond.fieldLink RX2 91 "BestBeast$Manor" "alive" "[Z", Cond.methodLink RX2 82 yX1_hasHolder, Cond.instanceMethod yX1_hasHolder, Cond.selects RX1 yX1_hasHolder yX1_hasHolder, Cond.initialized RX1, Cond.code yX1_hasHolder cX1_hasHolder 2 (some .boolean), Cond.fieldLink RX1 24 "BestBeast$Manor" "holders" "I", Cond.methodLink RX2 44 yX2_within, Cond.static yX2_within, Cond.initialized RX2, Cond.code yX2_within cX2_within 3 (some .boolean), Cond.methodLink RX2 163 yX1_bestGift, Cond.instanceMethod yX1_bestGift, Cond.selects RX1 yX1_bestGift yX1_bestGift, Cond.code yX1_bestGift cX1_bestGift 9 (some .int), Cond.methodLink RX1 99 yX1_ownBits, Cond.instanceMethod yX1_ownBits, Cond.selects RX1 yX1_ownBits yX1_ownBits, Cond.code yX1_ownBits cX1_ownBits 4 (some .int), Cond.fieldLink RX1 41 "BestBeast$Manor" "beasts" "I", Cond.fieldLink RX1 47 "BestBeast$Manor" "owner" "[I", Cond.methodLink RX1 78 yX1_hasBeast, Cond.instanceMethod yX1_hasBeast]
def wsX2_mean_r2 : List Cond := [Cond.selects RX1 yX1_hasBeast yX1_hasBeast, Cond.code yX1_hasBeast cX1_hasBeast 2 (some .boolean), Cond.methodLink RX1 126 yX1_lostOnMean, Cond.instanceMethod yX1_lostOnMean, Cond.selects RX1 yX1_lostOnMean yX1_lostOnMean, Cond.code yX1_lostOnMean cX1_lostOnMean 8 (some .int), Cond.fieldLink RX1 31 "BestBeast$Manor" "death" "[I", Cond.methodLink RX1 71 yX1_hasHolder, Cond.methodLink RX1 95 yX1_heldLater, Cond.instanceMethod yX1_heldLater, Cond.selects RX1 yX1_heldLater yX1_heldLater, Cond.code yX1_heldLater cX1_heldLater 6 (some .int), Cond.fieldLink RX1 18 "BestBeast$Manor" "voidYears" "I", Cond.fieldLink RX1 50 "BestBeast$Manor" "giver" "[I", Cond.fieldLink RX1 59 "BestBeast$Manor" "yearNow" "I", Cond.fieldLink RX1 53 "BestBeast$Manor" "givenIn" "[I", Cond.methodLink RX1 129 yX1_worthTaken, Cond.instanceMethod yX1_worthTaken, Cond.selects RX1 yX1_worthTaken yX1_worthTaken, Cond.code yX1_worthTaken cX1_worthTaken 3 (some .int), Cond.methodLink RX1 112 yX1_takenFrom, Cond.instanceMethod yX1_takenFrom, Cond.selects RX1 yX1_takenFrom yX1_takenFrom, Cond.code yX1_takenFrom cX1_takenFrom 7 (some .int)]
def wsX2_mean_r3 : List Cond := [Cond.fieldLink RX1 27 "BestBeast$Manor" "kind" "[I", Cond.methodLink RX1 103 yX1_lordMay, Cond.instanceMethod yX1_lordMay, Cond.selects RX1 yX1_lordMay yX1_lordMay, Cond.code yX1_lordMay cX1_lordMay 2 (some .int), Cond.fieldLink RX1 9 "BestBeast$Manor" "lord" "I", Cond.methodLink RX1 89 Lib.Math.max.name, Cond.static Lib.Math.max.name, Cond.initialized "java/lang/Math", Cond.code Lib.Math.max.name Lib.Math.max.code 2 (some .int), Cond.methodLink RX1 106 yX1_churchMay, Cond.instanceMethod yX1_churchMay, Cond.selects RX1 yX1_churchMay yX1_churchMay, Cond.code yX1_churchMay cX1_churchMay 2 (some .int), Cond.fieldLink RX1 15 "BestBeast$Manor" "church" "I", Cond.methodLink RX1 109 yX1_bestOf, Cond.instanceMethod yX1_bestOf, Cond.selects RX1 yX1_bestOf yX1_bestOf, Cond.code yX1_bestOf cX1_bestOf 5 (some .int), Cond.fieldLink RX1 21 "BestBeast$Manor" "least" "I", Cond.fieldLink RX1 44 "BestBeast$Manor" "worth" "[I", Cond.methodLink RX1 115 yX1_worthOf, Cond.instanceMethod yX1_worthOf, Cond.selects RX1 yX1_worthOf yX1_worthOf]
def wsX2_mean_r4 : List Cond := [Cond.code yX1_worthOf cX1_worthOf 4 (some .int), Cond.methodLink RX1 121 yJ6_bitCount_0f7a4, Cond.static yJ6_bitCount_0f7a4, Cond.initialized RJ6, Cond.code yJ6_bitCount_0f7a4 cJ6_bitCount_0f7a4 1 (some .int), Cond.constant RJ6 265 (1431655765), Cond.constant RJ6 266 (858993459), Cond.constant RJ6 267 (252645135), Cond.methodLink RX2 166 yX1_lostOnMean, Cond.methodLink RX2 170 yX2_powerOfTen, Cond.static yX2_powerOfTen, Cond.code yX2_powerOfTen cX2_powerOfTen 3 (some .int), Cond.methodLink RX2 173 yX2_commonDivisor, Cond.static yX2_commonDivisor, Cond.code yX2_commonDivisor cX2_commonDivisor 6 (some .int)]
def wsX2_mean : List Cond := .code yX2_mean cX2_mean 7 (some .int) :: ((wsX2_mean_r1 ++ (wsX2_mean_r2 ++ (wsX2_mean_r3 ++ wsX2_mean_r4))) ++ wsX20 ++ wsX10)
def wsX2_roll : List Cond := .code yX2_roll cX2_roll 4 (some .int) :: ([.fieldLink RX2 10 "BestBeast" "manor" "LBestBeast$Manor;", .fieldLink RX2 139 "BestBeast$Manor" "told" "[I", .methodLink RX2 124 yX1_hasBeast, .instanceMethod yX1_hasBeast, .selects RX1 yX1_hasBeast yX1_hasBeast, .initialized RX1, .code yX1_hasBeast cX1_hasBeast 2 (some .boolean), .fieldLink RX1 41 "BestBeast$Manor" "beasts" "I", .methodLink RX2 44 yX2_within, .static yX2_within, .initialized RX2, .code yX2_within cX2_within 3 (some .boolean)] ++ wsX20 ++ wsX10)
def wsX2_whose_r1 : List Cond := [Cond.fieldLink RX2 10 "BestBeast" "manor" "LBestBeast$Manor;", Cond.fieldLink RX2 91 "BestBeast$Manor" "alive" "[Z", Cond.fieldLink RX2 19 "BestBeast" "trial" "LBestBeast$Manor;", Cond.fieldLink RX2 75 "BestBeast$Manor" "holders" "I", Cond.methodLink RX2 124 yX1_hasBeast, Cond.instanceMethod yX1_hasBeast, Cond.selects RX1 yX1_hasBeast yX1_hasBeast, Cond.initialized RX1, Cond.code yX1_hasBeast cX1_hasBeast 2 (some .boolean), Cond.fieldLink RX1 41 "BestBeast$Manor" "beasts" "I", Cond.methodLink RX2 82 yX1_hasHolder, Cond.instanceMethod yX1_hasHolder, Cond.selects RX1 yX1_hasHolder yX1_hasHolder, Cond.code yX1_hasHolder cX1_hasHolder 2 (some .boolean), Cond.fieldLink RX1 24 "BestBeast$Manor" "holders" "I", Cond.methodLink RX2 176 yX1_copyFrom, Cond.instanceMethod yX1_copyFrom, Cond.selects RX1 yX1_copyFrom yX1_copyFrom, Cond.code yX1_copyFrom cX1_copyFrom 2 none, Cond.fieldLink RX1 9 "BestBeast$Manor" "lord" "I", Cond.fieldLink RX1 15 "BestBeast$Manor" "church" "I", Cond.fieldLink RX1 18 "BestBeast$Manor" "voidYears" "I", Cond.fieldLink RX1 21 "BestBeast$Manor" "least" "I", Cond.fieldLink RX1 59 "BestBeast$Manor" "yearNow" "I"]
def wsX2_whose_r2 : List Cond := [Cond.fieldLink RX1 62 "BestBeast$Manor" "takenWorth" "I", Cond.fieldLink RX1 27 "BestBeast$Manor" "kind" "[I", Cond.methodLink RX1 65 arraycopyName, Cond.native arraycopyName, Cond.static arraycopyName, Cond.initialized "java/lang/System", Cond.fieldLink RX1 31 "BestBeast$Manor" "death" "[I", Cond.fieldLink RX1 34 "BestBeast$Manor" "heirOf" "[I", Cond.fieldLink RX1 37 "BestBeast$Manor" "alive" "[Z", Cond.fieldLink RX1 44 "BestBeast$Manor" "worth" "[I", Cond.fieldLink RX1 47 "BestBeast$Manor" "owner" "[I", Cond.fieldLink RX1 50 "BestBeast$Manor" "giver" "[I", Cond.fieldLink RX1 53 "BestBeast$Manor" "givenIn" "[I", Cond.fieldLink RX1 56 "BestBeast$Manor" "told" "[I", Cond.methodLink RX2 180 yX1_isAlive, Cond.instanceMethod yX1_isAlive, Cond.selects RX1 yX1_isAlive yX1_isAlive, Cond.code yX1_isAlive cX1_isAlive 2 (some .boolean), Cond.methodLink RX1 71 yX1_hasHolder, Cond.methodLink RX2 183 yX1_putTo, Cond.instanceMethod yX1_putTo, Cond.selects RX1 yX1_putTo yX1_putTo, Cond.code yX1_putTo cX1_putTo 3 none, Cond.methodLink RX1 78 yX1_hasBeast]
def wsX2_whose_r3 : List Cond := [Cond.methodLink RX2 102 yX1_heldBits, Cond.instanceMethod yX1_heldBits, Cond.selects RX1 yX1_heldBits yX1_heldBits, Cond.code yX1_heldBits cX1_heldBits 2 (some .int), Cond.methodLink RX1 95 yX1_heldLater, Cond.instanceMethod yX1_heldLater, Cond.selects RX1 yX1_heldLater yX1_heldLater, Cond.code yX1_heldLater cX1_heldLater 6 (some .int), Cond.methodLink RX1 99 yX1_ownBits, Cond.instanceMethod yX1_ownBits, Cond.selects RX1 yX1_ownBits yX1_ownBits, Cond.code yX1_ownBits cX1_ownBits 4 (some .int), Cond.methodLink RX2 186 yX1_takenFrom, Cond.instanceMethod yX1_takenFrom, Cond.selects RX1 yX1_takenFrom yX1_takenFrom, Cond.code yX1_takenFrom cX1_takenFrom 7 (some .int), Cond.methodLink RX1 103 yX1_lordMay, Cond.instanceMethod yX1_lordMay, Cond.selects RX1 yX1_lordMay yX1_lordMay, Cond.code yX1_lordMay cX1_lordMay 2 (some .int), Cond.methodLink RX1 89 Lib.Math.max.name, Cond.static Lib.Math.max.name, Cond.initialized "java/lang/Math", Cond.code Lib.Math.max.name Lib.Math.max.code 2 (some .int)]
def wsX2_whose_r4 : List Cond := [Cond.methodLink RX1 106 yX1_churchMay, Cond.instanceMethod yX1_churchMay, Cond.selects RX1 yX1_churchMay yX1_churchMay, Cond.code yX1_churchMay cX1_churchMay 2 (some .int), Cond.methodLink RX1 109 yX1_bestOf, Cond.instanceMethod yX1_bestOf, Cond.selects RX1 yX1_bestOf yX1_bestOf, Cond.code yX1_bestOf cX1_bestOf 5 (some .int), Cond.methodLink RX2 189 yX1_isAsTold, Cond.instanceMethod yX1_isAsTold, Cond.selects RX1 yX1_isAsTold yX1_isAsTold, Cond.code yX1_isAsTold cX1_isAsTold 3 (some .boolean)]
def wsX2_whose : List Cond := .code yX2_whose cX2_whose 5 (some .int) :: ((wsX2_whose_r1 ++ (wsX2_whose_r2 ++ (wsX2_whose_r3 ++ wsX2_whose_r4))) ++ wsX20 ++ wsX10)
def wsX2_manors_r1 : List Cond := [Cond.fieldLink RX2 10 "BestBeast" "manor" "LBestBeast$Manor;", Cond.fieldLink RX2 75 "BestBeast$Manor" "holders" "I", Cond.fieldLink RX2 19 "BestBeast" "trial" "LBestBeast$Manor;", Cond.fieldLink RX2 25 "BestBeast" "draws" "LBestBeast$Draws;", Cond.fieldLink RX2 192 "BestBeast$Draws" "seed" "I", Cond.fieldLink RX2 199 "BestBeast$Manor" "takenWorth" "I", Cond.methodLink RX2 44 yX2_within, Cond.static yX2_within, Cond.initialized RX2, Cond.code yX2_within cX2_within 3 (some .boolean), Cond.methodLink RX2 176 yX1_copyFrom, Cond.instanceMethod yX1_copyFrom, Cond.selects RX1 yX1_copyFrom yX1_copyFrom, Cond.initialized RX1, Cond.code yX1_copyFrom cX1_copyFrom 2 none, Cond.fieldLink RX1 9 "BestBeast$Manor" "lord" "I", Cond.fieldLink RX1 15 "BestBeast$Manor" "church" "I", Cond.fieldLink RX1 18 "BestBeast$Manor" "voidYears" "I", Cond.fieldLink RX1 21 "BestBeast$Manor" "least" "I", Cond.fieldLink RX1 24 "BestBeast$Manor" "holders" "I", Cond.fieldLink RX1 41 "BestBeast$Manor" "beasts" "I", Cond.fieldLink RX1 59 "BestBeast$Manor" "yearNow" "I", Cond.fieldLink RX1 62 "BestBeast$Manor" "takenWorth" "I", Cond.fieldLink RX1 27 "BestBeast$Manor" "kind" "[I"]
def wsX2_manors_r2 : List Cond := [Cond.methodLink RX1 65 arraycopyName, Cond.native arraycopyName, Cond.static arraycopyName, Cond.initialized "java/lang/System", Cond.fieldLink RX1 31 "BestBeast$Manor" "death" "[I", Cond.fieldLink RX1 34 "BestBeast$Manor" "heirOf" "[I", Cond.fieldLink RX1 37 "BestBeast$Manor" "alive" "[Z", Cond.fieldLink RX1 44 "BestBeast$Manor" "worth" "[I", Cond.fieldLink RX1 47 "BestBeast$Manor" "owner" "[I", Cond.fieldLink RX1 50 "BestBeast$Manor" "giver" "[I", Cond.fieldLink RX1 53 "BestBeast$Manor" "givenIn" "[I", Cond.fieldLink RX1 56 "BestBeast$Manor" "told" "[I", Cond.methodLink RX2 195 yX1_liveOneYear, Cond.instanceMethod yX1_liveOneYear, Cond.selects RX1 yX1_liveOneYear yX1_liveOneYear, Cond.code yX1_liveOneYear cX1_liveOneYear 3 none, Cond.methodLink RX1 75 yX1_isAlive, Cond.instanceMethod yX1_isAlive, Cond.selects RX1 yX1_isAlive yX1_isAlive, Cond.code yX1_isAlive cX1_isAlive 2 (some .boolean), Cond.methodLink RX1 71 yX1_hasHolder, Cond.instanceMethod yX1_hasHolder, Cond.selects RX1 yX1_hasHolder yX1_hasHolder, Cond.code yX1_hasHolder cX1_hasHolder 2 (some .boolean)]
def wsX2_manors_r3 : List Cond := [Cond.methodLink RX1 132 yX0_drawOf, Cond.instanceMethod yX0_drawOf, Cond.selects RX0 yX0_drawOf yX0_drawOf, Cond.initialized RX0, Cond.code yX0_drawOf cX0_drawOf 2 (some .int), Cond.constantLong RX0 13 (1103515245), Cond.fieldLink RX0 7 "BestBeast$Draws" "seed" "I", Cond.constantLong RX0 15 (12345), Cond.constantLong RX0 17 (2147483647), Cond.constant RX0 19 (65536), Cond.methodLink RX1 137 yX1_bury, Cond.instanceMethod yX1_bury, Cond.selects RX1 yX1_bury yX1_bury, Cond.code yX1_bury cX1_bury 6 (some .int), Cond.methodLink RX1 118 yX1_heldBits, Cond.instanceMethod yX1_heldBits, Cond.selects RX1 yX1_heldBits yX1_heldBits, Cond.code yX1_heldBits cX1_heldBits 2 (some .int), Cond.methodLink RX1 95 yX1_heldLater, Cond.instanceMethod yX1_heldLater, Cond.selects RX1 yX1_heldLater yX1_heldLater, Cond.code yX1_heldLater cX1_heldLater 6 (some .int), Cond.methodLink RX1 99 yX1_ownBits, Cond.instanceMethod yX1_ownBits]
def wsX2_manors_r4 : List Cond := [Cond.selects RX1 yX1_ownBits yX1_ownBits, Cond.code yX1_ownBits cX1_ownBits 4 (some .int), Cond.methodLink RX1 78 yX1_hasBeast, Cond.instanceMethod yX1_hasBeast, Cond.selects RX1 yX1_hasBeast yX1_hasBeast, Cond.code yX1_hasBeast cX1_hasBeast 2 (some .boolean), Cond.methodLink RX1 112 yX1_takenFrom, Cond.instanceMethod yX1_takenFrom, Cond.selects RX1 yX1_takenFrom yX1_takenFrom, Cond.code yX1_takenFrom cX1_takenFrom 7 (some .int), Cond.methodLink RX1 103 yX1_lordMay, Cond.instanceMethod yX1_lordMay, Cond.selects RX1 yX1_lordMay yX1_lordMay, Cond.code yX1_lordMay cX1_lordMay 2 (some .int), Cond.methodLink RX1 89 Lib.Math.max.name, Cond.static Lib.Math.max.name, Cond.initialized "java/lang/Math", Cond.code Lib.Math.max.name Lib.Math.max.code 2 (some .int), Cond.methodLink RX1 106 yX1_churchMay, Cond.instanceMethod yX1_churchMay, Cond.selects RX1 yX1_churchMay yX1_churchMay, Cond.code yX1_churchMay cX1_churchMay 2 (some .int), Cond.methodLink RX1 109 yX1_bestOf, Cond.instanceMethod yX1_bestOf]
def wsX2_manors_r5 : List Cond := [Cond.selects RX1 yX1_bestOf yX1_bestOf, Cond.code yX1_bestOf cX1_bestOf 5 (some .int), Cond.methodLink RX1 115 yX1_worthOf, Cond.instanceMethod yX1_worthOf, Cond.selects RX1 yX1_worthOf yX1_worthOf, Cond.code yX1_worthOf cX1_worthOf 4 (some .int), Cond.methodLink RX1 81 yX1_putTo, Cond.instanceMethod yX1_putTo, Cond.selects RX1 yX1_putTo yX1_putTo, Cond.code yX1_putTo cX1_putTo 3 none, Cond.methodLink RX1 140 yX1_makeGift, Cond.instanceMethod yX1_makeGift, Cond.selects RX1 yX1_makeGift yX1_makeGift, Cond.code yX1_makeGift cX1_makeGift 3 none, Cond.methodLink RX1 85 yX1_mayGive, Cond.instanceMethod yX1_mayGive, Cond.selects RX1 yX1_mayGive yX1_mayGive, Cond.code yX1_mayGive cX1_mayGive 3 (some .boolean), Cond.methodLink RX2 202 yX1_countAlive, Cond.instanceMethod yX1_countAlive, Cond.selects RX1 yX1_countAlive yX1_countAlive, Cond.code yX1_countAlive cX1_countAlive 3 (some .int)]
def wsX2_manors : List Cond := .code yX2_manors cX2_manors 5 (some .int) :: ((wsX2_manors_r1 ++ (wsX2_manors_r2 ++ (wsX2_manors_r3 ++ (wsX2_manors_r4 ++ wsX2_manors_r5)))) ++ wsX20 ++ wsX10 ++ wsX00)
def wsX2_image_r1 : List Cond := [Cond.fieldLink RX2 16 "BestBeast" "kept" "LBestBeast$Manor;", Cond.fieldLink RX2 10 "BestBeast" "manor" "LBestBeast$Manor;", Cond.fieldLink RX2 40 "BestBeast" "hasImage" "Z", Cond.fieldLink RX2 152 "BestBeast$Manor" "yearNow" "I", Cond.methodLink RX2 176 yX1_copyFrom, Cond.instanceMethod yX1_copyFrom, Cond.selects RX1 yX1_copyFrom yX1_copyFrom, Cond.initialized RX1, Cond.code yX1_copyFrom cX1_copyFrom 2 none, Cond.fieldLink RX1 9 "BestBeast$Manor" "lord" "I", Cond.fieldLink RX1 15 "BestBeast$Manor" "church" "I", Cond.fieldLink RX1 18 "BestBeast$Manor" "voidYears" "I", Cond.fieldLink RX1 21 "BestBeast$Manor" "least" "I", Cond.fieldLink RX1 24 "BestBeast$Manor" "holders" "I", Cond.fieldLink RX1 41 "BestBeast$Manor" "beasts" "I", Cond.fieldLink RX1 59 "BestBeast$Manor" "yearNow" "I", Cond.fieldLink RX1 62 "BestBeast$Manor" "takenWorth" "I", Cond.fieldLink RX1 27 "BestBeast$Manor" "kind" "[I", Cond.methodLink RX1 65 arraycopyName, Cond.native arraycopyName, Cond.static arraycopyName, Cond.initialized "java/lang/System", Cond.fieldLink RX1 31 "BestBeast$Manor" "death" "[I", Cond.fieldLink RX1 34 "BestBeast$Manor" "heirOf" "[I"]
def wsX2_image_r2 : List Cond := [Cond.fieldLink RX1 37 "BestBeast$Manor" "alive" "[Z", Cond.fieldLink RX1 44 "BestBeast$Manor" "worth" "[I", Cond.fieldLink RX1 47 "BestBeast$Manor" "owner" "[I", Cond.fieldLink RX1 50 "BestBeast$Manor" "giver" "[I", Cond.fieldLink RX1 53 "BestBeast$Manor" "givenIn" "[I", Cond.fieldLink RX1 56 "BestBeast$Manor" "told" "[I"]
def wsX2_image : List Cond := .code yX2_image cX2_image 1 (some .int) :: ((wsX2_image_r1 ++ wsX2_image_r2) ++ wsX20 ++ wsX10)
def wsX2_restore_r1 : List Cond := [Cond.fieldLink RX2 40 "BestBeast" "hasImage" "Z", Cond.fieldLink RX2 10 "BestBeast" "manor" "LBestBeast$Manor;", Cond.fieldLink RX2 16 "BestBeast" "kept" "LBestBeast$Manor;", Cond.fieldLink RX2 152 "BestBeast$Manor" "yearNow" "I", Cond.methodLink RX2 176 yX1_copyFrom, Cond.instanceMethod yX1_copyFrom, Cond.selects RX1 yX1_copyFrom yX1_copyFrom, Cond.initialized RX1, Cond.code yX1_copyFrom cX1_copyFrom 2 none, Cond.fieldLink RX1 9 "BestBeast$Manor" "lord" "I", Cond.fieldLink RX1 15 "BestBeast$Manor" "church" "I", Cond.fieldLink RX1 18 "BestBeast$Manor" "voidYears" "I", Cond.fieldLink RX1 21 "BestBeast$Manor" "least" "I", Cond.fieldLink RX1 24 "BestBeast$Manor" "holders" "I", Cond.fieldLink RX1 41 "BestBeast$Manor" "beasts" "I", Cond.fieldLink RX1 59 "BestBeast$Manor" "yearNow" "I", Cond.fieldLink RX1 62 "BestBeast$Manor" "takenWorth" "I", Cond.fieldLink RX1 27 "BestBeast$Manor" "kind" "[I", Cond.methodLink RX1 65 arraycopyName, Cond.native arraycopyName, Cond.static arraycopyName, Cond.initialized "java/lang/System", Cond.fieldLink RX1 31 "BestBeast$Manor" "death" "[I", Cond.fieldLink RX1 34 "BestBeast$Manor" "heirOf" "[I"]
def wsX2_restore_r2 : List Cond := [Cond.fieldLink RX1 37 "BestBeast$Manor" "alive" "[Z", Cond.fieldLink RX1 44 "BestBeast$Manor" "worth" "[I", Cond.fieldLink RX1 47 "BestBeast$Manor" "owner" "[I", Cond.fieldLink RX1 50 "BestBeast$Manor" "giver" "[I", Cond.fieldLink RX1 53 "BestBeast$Manor" "givenIn" "[I", Cond.fieldLink RX1 56 "BestBeast$Manor" "told" "[I"]
def wsX2_restore : List Cond := .code yX2_restore cX2_restore 1 (some .int) :: ((wsX2_restore_r1 ++ wsX2_restore_r2) ++ wsX20 ++ wsX10)
def wsX2_count_r1 : List Cond := [Cond.fieldLink RX2 10 "BestBeast" "manor" "LBestBeast$Manor;", Cond.fieldLink RX2 60 "BestBeast$Manor" "lord" "I", Cond.fieldLink RX2 63 "BestBeast$Manor" "church" "I", Cond.fieldLink RX2 66 "BestBeast$Manor" "voidYears" "I", Cond.fieldLink RX2 69 "BestBeast$Manor" "least" "I", Cond.fieldLink RX2 75 "BestBeast$Manor" "holders" "I", Cond.fieldLink RX2 118 "BestBeast$Manor" "beasts" "I", Cond.fieldLink RX2 152 "BestBeast$Manor" "yearNow" "I", Cond.fieldLink RX2 199 "BestBeast$Manor" "takenWorth" "I", Cond.fieldLink RX2 33 "BestBeast" "letters" "I", Cond.fieldLink RX2 37 "BestBeast" "lawsRead" "I", Cond.methodLink RX2 202 yX1_countAlive, Cond.instanceMethod yX1_countAlive, Cond.selects RX1 yX1_countAlive yX1_countAlive, Cond.initialized RX1, Cond.code yX1_countAlive cX1_countAlive 3 (some .int), Cond.fieldLink RX1 24 "BestBeast$Manor" "holders" "I", Cond.methodLink RX1 75 yX1_isAlive, Cond.instanceMethod yX1_isAlive, Cond.selects RX1 yX1_isAlive yX1_isAlive, Cond.code yX1_isAlive cX1_isAlive 2 (some .boolean), Cond.fieldLink RX1 37 "BestBeast$Manor" "alive" "[Z", Cond.methodLink RX1 71 yX1_hasHolder, Cond.instanceMethod yX1_hasHolder]
def wsX2_count_r2 : List Cond := [Cond.selects RX1 yX1_hasHolder yX1_hasHolder, Cond.code yX1_hasHolder cX1_hasHolder 2 (some .boolean), Cond.methodLink RX2 205 yX1_countNotGone, Cond.instanceMethod yX1_countNotGone, Cond.selects RX1 yX1_countNotGone yX1_countNotGone, Cond.code yX1_countNotGone cX1_countNotGone 3 (some .int), Cond.fieldLink RX1 41 "BestBeast$Manor" "beasts" "I", Cond.fieldLink RX1 47 "BestBeast$Manor" "owner" "[I", Cond.methodLink RX1 78 yX1_hasBeast, Cond.instanceMethod yX1_hasBeast, Cond.selects RX1 yX1_hasBeast yX1_hasBeast, Cond.code yX1_hasBeast cX1_hasBeast 2 (some .boolean)]
def wsX2_count : List Cond := .code yX2_count cX2_count 2 (some .int) :: ((wsX2_count_r1 ++ wsX2_count_r2) ++ wsX20 ++ wsX10)
def wsX2_digest_r1 : List Cond := [Cond.constantLong RX2 208 (827), Cond.fieldLink RX2 10 "BestBeast" "manor" "LBestBeast$Manor;", Cond.fieldLink RX2 75 "BestBeast$Manor" "holders" "I", Cond.constantLong RX2 210 (31), Cond.fieldLink RX2 118 "BestBeast$Manor" "beasts" "I", Cond.fieldLink RX2 33 "BestBeast" "letters" "I", Cond.fieldLink RX2 29 "BestBeast" "page" "[I", Cond.methodLink RX2 212 yX2_about, Cond.instanceMethod yX2_about, Cond.selects RX2 yX2_about yX2_about, Cond.initialized RX2, Cond.code yX2_about cX2_about 3 (some .int), Cond.fieldLink RX2 85 "BestBeast$Manor" "kind" "[I", Cond.fieldLink RX2 88 "BestBeast$Manor" "death" "[I", Cond.fieldLink RX2 91 "BestBeast$Manor" "alive" "[Z", Cond.fieldLink RX2 95 "BestBeast$Manor" "heirOf" "[I", Cond.methodLink RX2 82 yX1_hasHolder, Cond.instanceMethod yX1_hasHolder, Cond.selects RX1 yX1_hasHolder yX1_hasHolder, Cond.initialized RX1, Cond.code yX1_hasHolder cX1_hasHolder 2 (some .boolean), Cond.fieldLink RX1 24 "BestBeast$Manor" "holders" "I", Cond.methodLink RX2 98 yX1_ownBits, Cond.instanceMethod yX1_ownBits]
def wsX2_digest_r2 : List Cond := [Cond.selects RX1 yX1_ownBits yX1_ownBits, Cond.code yX1_ownBits cX1_ownBits 4 (some .int), Cond.fieldLink RX1 41 "BestBeast$Manor" "beasts" "I", Cond.fieldLink RX1 47 "BestBeast$Manor" "owner" "[I", Cond.methodLink RX1 78 yX1_hasBeast, Cond.instanceMethod yX1_hasBeast, Cond.selects RX1 yX1_hasBeast yX1_hasBeast, Cond.code yX1_hasBeast cX1_hasBeast 2 (some .boolean), Cond.methodLink RX2 102 yX1_heldBits, Cond.instanceMethod yX1_heldBits, Cond.selects RX1 yX1_heldBits yX1_heldBits, Cond.code yX1_heldBits cX1_heldBits 2 (some .int), Cond.methodLink RX1 95 yX1_heldLater, Cond.instanceMethod yX1_heldLater, Cond.selects RX1 yX1_heldLater yX1_heldLater, Cond.code yX1_heldLater cX1_heldLater 6 (some .int), Cond.fieldLink RX1 18 "BestBeast$Manor" "voidYears" "I", Cond.fieldLink RX1 50 "BestBeast$Manor" "giver" "[I", Cond.fieldLink RX1 59 "BestBeast$Manor" "yearNow" "I", Cond.fieldLink RX1 53 "BestBeast$Manor" "givenIn" "[I", Cond.methodLink RX1 99 yX1_ownBits, Cond.methodLink RX2 105 yX1_lordMay, Cond.instanceMethod yX1_lordMay, Cond.selects RX1 yX1_lordMay yX1_lordMay]
def wsX2_digest_r3 : List Cond := [Cond.code yX1_lordMay cX1_lordMay 2 (some .int), Cond.fieldLink RX1 9 "BestBeast$Manor" "lord" "I", Cond.methodLink RX1 89 Lib.Math.max.name, Cond.static Lib.Math.max.name, Cond.initialized "java/lang/Math", Cond.code Lib.Math.max.name Lib.Math.max.code 2 (some .int), Cond.methodLink RX2 108 yX1_churchMay, Cond.instanceMethod yX1_churchMay, Cond.selects RX1 yX1_churchMay yX1_churchMay, Cond.code yX1_churchMay cX1_churchMay 2 (some .int), Cond.fieldLink RX1 15 "BestBeast$Manor" "church" "I", Cond.methodLink RX2 111 yX1_worthTaken, Cond.instanceMethod yX1_worthTaken, Cond.selects RX1 yX1_worthTaken yX1_worthTaken, Cond.code yX1_worthTaken cX1_worthTaken 3 (some .int), Cond.methodLink RX1 112 yX1_takenFrom, Cond.instanceMethod yX1_takenFrom, Cond.selects RX1 yX1_takenFrom yX1_takenFrom, Cond.code yX1_takenFrom cX1_takenFrom 7 (some .int), Cond.fieldLink RX1 27 "BestBeast$Manor" "kind" "[I", Cond.methodLink RX1 71 yX1_hasHolder, Cond.methodLink RX1 103 yX1_lordMay, Cond.methodLink RX1 106 yX1_churchMay, Cond.methodLink RX1 109 yX1_bestOf]
def wsX2_digest_r4 : List Cond := [Cond.instanceMethod yX1_bestOf, Cond.selects RX1 yX1_bestOf yX1_bestOf, Cond.code yX1_bestOf cX1_bestOf 5 (some .int), Cond.fieldLink RX1 21 "BestBeast$Manor" "least" "I", Cond.fieldLink RX1 44 "BestBeast$Manor" "worth" "[I", Cond.methodLink RX1 115 yX1_worthOf, Cond.instanceMethod yX1_worthOf, Cond.selects RX1 yX1_worthOf yX1_worthOf, Cond.code yX1_worthOf cX1_worthOf 4 (some .int), Cond.methodLink RX2 180 yX1_isAlive, Cond.instanceMethod yX1_isAlive, Cond.selects RX1 yX1_isAlive yX1_isAlive, Cond.code yX1_isAlive cX1_isAlive 2 (some .boolean), Cond.fieldLink RX1 37 "BestBeast$Manor" "alive" "[Z", Cond.methodLink RX2 215 yX2_safe, Cond.instanceMethod yX2_safe, Cond.selects RX2 yX2_safe yX2_safe, Cond.code yX2_safe cX2_safe 4 (some .int), Cond.methodLink RX2 44 yX2_within, Cond.static yX2_within, Cond.code yX2_within cX2_within 3 (some .boolean), Cond.methodLink RX2 155 yX1_fewestToBeSafe, Cond.instanceMethod yX1_fewestToBeSafe, Cond.selects RX1 yX1_fewestToBeSafe yX1_fewestToBeSafe]
def wsX2_digest_r5 : List Cond := [Cond.code yX1_fewestToBeSafe cX1_fewestToBeSafe 6 (some .int), Cond.methodLink RX1 118 yX1_heldBits, Cond.methodLink RX1 121 yJ6_bitCount_0f7a4, Cond.static yJ6_bitCount_0f7a4, Cond.initialized RJ6, Cond.code yJ6_bitCount_0f7a4 cJ6_bitCount_0f7a4 1 (some .int), Cond.constant RJ6 265 (1431655765), Cond.constant RJ6 266 (858993459), Cond.constant RJ6 267 (252645135), Cond.methodLink RX2 158 yJ6_bitCount_0f7a4, Cond.methodLink RX2 218 yX2_giving, Cond.instanceMethod yX2_giving, Cond.selects RX2 yX2_giving yX2_giving, Cond.code yX2_giving cX2_giving 3 (some .int), Cond.methodLink RX2 163 yX1_bestGift, Cond.instanceMethod yX1_bestGift, Cond.selects RX1 yX1_bestGift yX1_bestGift, Cond.code yX1_bestGift cX1_bestGift 9 (some .int), Cond.methodLink RX1 126 yX1_lostOnMean, Cond.instanceMethod yX1_lostOnMean, Cond.selects RX1 yX1_lostOnMean yX1_lostOnMean, Cond.code yX1_lostOnMean cX1_lostOnMean 8 (some .int), Cond.fieldLink RX1 31 "BestBeast$Manor" "death" "[I", Cond.methodLink RX1 129 yX1_worthTaken]
def wsX2_digest_r6 : List Cond := [Cond.methodLink RX2 221 yX2_mean, Cond.instanceMethod yX2_mean, Cond.selects RX2 yX2_mean yX2_mean, Cond.code yX2_mean cX2_mean 7 (some .int), Cond.methodLink RX2 166 yX1_lostOnMean, Cond.methodLink RX2 170 yX2_powerOfTen, Cond.static yX2_powerOfTen, Cond.code yX2_powerOfTen cX2_powerOfTen 3 (some .int), Cond.methodLink RX2 173 yX2_commonDivisor, Cond.static yX2_commonDivisor, Cond.code yX2_commonDivisor cX2_commonDivisor 6 (some .int), Cond.methodLink RX2 224 yX2_beastOf, Cond.instanceMethod yX2_beastOf, Cond.selects RX2 yX2_beastOf yX2_beastOf, Cond.code yX2_beastOf cX2_beastOf 3 (some .int), Cond.fieldLink RX2 127 "BestBeast$Manor" "worth" "[I", Cond.fieldLink RX2 130 "BestBeast$Manor" "owner" "[I", Cond.fieldLink RX2 133 "BestBeast$Manor" "giver" "[I", Cond.fieldLink RX2 136 "BestBeast$Manor" "givenIn" "[I", Cond.fieldLink RX2 139 "BestBeast$Manor" "told" "[I", Cond.methodLink RX2 124 yX1_hasBeast, Cond.methodLink RX2 227 yX2_count, Cond.instanceMethod yX2_count, Cond.selects RX2 yX2_count yX2_count]
def wsX2_digest_r7 : List Cond := [Cond.code yX2_count cX2_count 2 (some .int), Cond.fieldLink RX2 60 "BestBeast$Manor" "lord" "I", Cond.fieldLink RX2 63 "BestBeast$Manor" "church" "I", Cond.fieldLink RX2 66 "BestBeast$Manor" "voidYears" "I", Cond.fieldLink RX2 69 "BestBeast$Manor" "least" "I", Cond.fieldLink RX2 152 "BestBeast$Manor" "yearNow" "I", Cond.fieldLink RX2 199 "BestBeast$Manor" "takenWorth" "I", Cond.fieldLink RX2 37 "BestBeast" "lawsRead" "I", Cond.methodLink RX2 202 yX1_countAlive, Cond.instanceMethod yX1_countAlive, Cond.selects RX1 yX1_countAlive yX1_countAlive, Cond.code yX1_countAlive cX1_countAlive 3 (some .int), Cond.methodLink RX1 75 yX1_isAlive, Cond.methodLink RX2 205 yX1_countNotGone, Cond.instanceMethod yX1_countNotGone, Cond.selects RX1 yX1_countNotGone yX1_countNotGone, Cond.code yX1_countNotGone cX1_countNotGone 3 (some .int)]
def wsX2_digest : List Cond := .code yX2_digest cX2_digest 5 (some .long) :: ((wsX2_digest_r1 ++ (wsX2_digest_r2 ++ (wsX2_digest_r3 ++ (wsX2_digest_r4 ++ (wsX2_digest_r5 ++ (wsX2_digest_r6 ++ wsX2_digest_r7)))))) ++ wsX20 ++ wsX10)
def wsX3_init : List Cond := .code yX3_init cX3_init 1 none :: ([.methodLink RX3 1 objectInit, .instanceMethod objectInit, .code objectInit ⟨#[0xb1]⟩ 1 none, .arrayClass .int, .fieldLink RX3 7 "BestBeastModel" "page" "[I", .fieldLink RX3 13 "BestBeastModel" "men" "[I", .fieldLink RX3 16 "BestBeastModel" "rows" "[I", .fieldLink RX3 19 "BestBeastModel" "savedMen" "[I", .fieldLink RX3 22 "BestBeastModel" "savedRows" "[I", .fieldLink RX3 25 "BestBeastModel" "keptMen" "[I", .fieldLink RX3 28 "BestBeastModel" "keptRows" "[I", .fieldLink RX3 31 "BestBeastModel" "keptLaw" "[I", .fieldLink RX3 34 "BestBeastModel" "lord" "I", .fieldLink RX3 38 "BestBeastModel" "church" "I", .fieldLink RX3 41 "BestBeastModel" "voidYears" "I", .fieldLink RX3 44 "BestBeastModel" "keptYear" "I"] ++ wsX30)
def wsX3_in : List Cond := .code yX3_in cX3_in 6 (some .boolean) :: ([])
def wsX3_letter : List Cond := .code yX3_letter cX3_letter 2 (some .int) :: ([.constantLong RX3 47 (126), .fieldLink RX3 53 "BestBeastModel" "pageMany" "I", .fieldLink RX3 7 "BestBeastModel" "page" "[I", .methodLink RX3 49 yX3_in, .static yX3_in, .initialized RX3, .code yX3_in cX3_in 6 (some .boolean)] ++ wsX30)
def wsX3_blank : List Cond := .code yX3_blank cX3_blank 2 (some .int) :: ([.fieldLink RX3 53 "BestBeastModel" "pageMany" "I"] ++ wsX30)
def wsX3_isGood : List Cond := .code yX3_isGood cX3_isGood 3 (some .boolean) :: ([.constantLong RX3 56 (3), .constantLong RX3 58 (5), .constantLong RX3 60 (9), .methodLink RX3 49 yX3_in, .static yX3_in, .initialized RX3, .code yX3_in cX3_in 6 (some .boolean)])
def wsX3_faultOf : List Cond := .code yX3_faultOf cX3_faultOf 2 (some .int) :: ([.fieldLink RX3 53 "BestBeastModel" "pageMany" "I", .fieldLink RX3 7 "BestBeastModel" "page" "[I", .methodLink RX3 62 yX3_isGood, .static yX3_isGood, .initialized RX3, .code yX3_isGood cX3_isGood 3 (some .boolean), .constantLong RX3 56 (3), .constantLong RX3 58 (5), .constantLong RX3 60 (9), .methodLink RX3 49 yX3_in, .static yX3_in, .code yX3_in cX3_in 6 (some .boolean)] ++ wsX30)
def wsX3_fault : List Cond := .code yX3_fault cX3_fault 1 (some .int) :: ([.methodLink RX3 66 yX3_faultOf, .instanceMethod yX3_faultOf, .selects RX3 yX3_faultOf yX3_faultOf, .initialized RX3, .code yX3_faultOf cX3_faultOf 2 (some .int), .fieldLink RX3 53 "BestBeastModel" "pageMany" "I", .fieldLink RX3 7 "BestBeastModel" "page" "[I", .methodLink RX3 62 yX3_isGood, .static yX3_isGood, .code yX3_isGood cX3_isGood 3 (some .boolean), .constantLong RX3 56 (3), .constantLong RX3 58 (5), .constantLong RX3 60 (9), .methodLink RX3 49 yX3_in, .static yX3_in, .code yX3_in cX3_in 6 (some .boolean)] ++ wsX30)
def wsX3_law : List Cond := .code yX3_law cX3_law 1 (some .int) :: ([.fieldLink RX3 53 "BestBeastModel" "pageMany" "I", .fieldLink RX3 7 "BestBeastModel" "page" "[I", .fieldLink RX3 34 "BestBeastModel" "lord" "I", .fieldLink RX3 38 "BestBeastModel" "church" "I", .fieldLink RX3 41 "BestBeastModel" "voidYears" "I", .fieldLink RX3 70 "BestBeastModel" "least" "I", .fieldLink RX3 73 "BestBeastModel" "lawsRead" "I", .methodLink RX3 66 yX3_faultOf, .instanceMethod yX3_faultOf, .selects RX3 yX3_faultOf yX3_faultOf, .initialized RX3, .code yX3_faultOf cX3_faultOf 2 (some .int), .methodLink RX3 62 yX3_isGood, .static yX3_isGood, .code yX3_isGood cX3_isGood 3 (some .boolean), .constantLong RX3 56 (3), .constantLong RX3 58 (5), .constantLong RX3 60 (9), .methodLink RX3 49 yX3_in, .static yX3_in, .code yX3_in cX3_in 6 (some .boolean)] ++ wsX30)
def wsX3_isHolder : List Cond := .code yX3_isHolder cX3_isHolder 2 (some .boolean) :: ([.fieldLink RX3 76 "BestBeastModel" "holders" "I", .methodLink RX3 49 yX3_in, .static yX3_in, .initialized RX3, .code yX3_in cX3_in 6 (some .boolean)] ++ wsX30)
def wsX3_isBeast : List Cond := .code yX3_isBeast cX3_isBeast 2 (some .boolean) :: ([.fieldLink RX3 79 "BestBeastModel" "beasts" "I", .methodLink RX3 49 yX3_in, .static yX3_in, .initialized RX3, .code yX3_in cX3_in 6 (some .boolean)] ++ wsX30)
def wsX3_lives : List Cond := .code yX3_lives cX3_lives 2 (some .boolean) :: ([.fieldLink RX3 13 "BestBeastModel" "men" "[I"] ++ wsX30)
def wsX3_holder : List Cond := .code yX3_holder cX3_holder 3 (some .int) :: ([.constantLong RX3 82 (4), .constantLong RX3 60 (9), .fieldLink RX3 76 "BestBeastModel" "holders" "I", .fieldLink RX3 13 "BestBeastModel" "men" "[I", .methodLink RX3 49 yX3_in, .static yX3_in, .initialized RX3, .code yX3_in cX3_in 6 (some .boolean)] ++ wsX30)
def wsX3_lordOf : List Cond := .code yX3_lordOf cX3_lordOf 4 (some .int) :: ([.fieldLink RX3 13 "BestBeastModel" "men" "[I", .fieldLink RX3 34 "BestBeastModel" "lord" "I"] ++ wsX30)
def wsX3_churchOf : List Cond := .code yX3_churchOf cX3_churchOf 4 (some .int) :: ([.fieldLink RX3 13 "BestBeastModel" "men" "[I", .fieldLink RX3 38 "BestBeastModel" "church" "I"] ++ wsX30)
def wsX3_hisBits : List Cond := .code yX3_hisBits cX3_hisBits 4 (some .int) :: ([.fieldLink RX3 79 "BestBeastModel" "beasts" "I", .fieldLink RX3 16 "BestBeastModel" "rows" "[I"] ++ wsX30)
def wsX3_heldBits : List Cond := .code yX3_heldBits cX3_heldBits 6 (some .int) :: ([.fieldLink RX3 79 "BestBeastModel" "beasts" "I", .fieldLink RX3 16 "BestBeastModel" "rows" "[I", .fieldLink RX3 41 "BestBeastModel" "voidYears" "I", .methodLink RX3 84 yX3_hisBits, .instanceMethod yX3_hisBits, .selects RX3 yX3_hisBits yX3_hisBits, .initialized RX3, .code yX3_hisBits cX3_hisBits 4 (some .int)] ++ wsX30)
def wsX3_bestOf : List Cond := .code yX3_bestOf cX3_bestOf 5 (some .int) :: ([.fieldLink RX3 79 "BestBeastModel" "beasts" "I", .fieldLink RX3 16 "BestBeastModel" "rows" "[I", .fieldLink RX3 70 "BestBeastModel" "least" "I"] ++ wsX30)
def wsX3_takenOf : List Cond := .code yX3_takenOf cX3_takenOf 7 (some .int) :: ([.methodLink RX3 88 yX3_lordOf, .instanceMethod yX3_lordOf, .selects RX3 yX3_lordOf yX3_lordOf, .initialized RX3, .code yX3_lordOf cX3_lordOf 4 (some .int), .fieldLink RX3 13 "BestBeastModel" "men" "[I", .fieldLink RX3 34 "BestBeastModel" "lord" "I", .methodLink RX3 91 yX3_churchOf, .instanceMethod yX3_churchOf, .selects RX3 yX3_churchOf yX3_churchOf, .code yX3_churchOf cX3_churchOf 4 (some .int), .fieldLink RX3 38 "BestBeastModel" "church" "I", .methodLink RX3 94 yX3_bestOf, .instanceMethod yX3_bestOf, .selects RX3 yX3_bestOf yX3_bestOf, .code yX3_bestOf cX3_bestOf 5 (some .int), .fieldLink RX3 79 "BestBeastModel" "beasts" "I", .fieldLink RX3 16 "BestBeastModel" "rows" "[I", .fieldLink RX3 70 "BestBeastModel" "least" "I"] ++ wsX30)
def wsX3_worthOf : List Cond := .code yX3_worthOf cX3_worthOf 4 (some .int) :: ([.fieldLink RX3 79 "BestBeastModel" "beasts" "I", .fieldLink RX3 16 "BestBeastModel" "rows" "[I"] ++ wsX30)
def wsX3_lossBy_r1 : List Cond := [Cond.methodLink RX3 97 yX3_takenOf, Cond.instanceMethod yX3_takenOf, Cond.selects RX3 yX3_takenOf yX3_takenOf, Cond.initialized RX3, Cond.code yX3_takenOf cX3_takenOf 7 (some .int), Cond.methodLink RX3 88 yX3_lordOf, Cond.instanceMethod yX3_lordOf, Cond.selects RX3 yX3_lordOf yX3_lordOf, Cond.code yX3_lordOf cX3_lordOf 4 (some .int), Cond.fieldLink RX3 13 "BestBeastModel" "men" "[I", Cond.fieldLink RX3 34 "BestBeastModel" "lord" "I", Cond.methodLink RX3 91 yX3_churchOf, Cond.instanceMethod yX3_churchOf, Cond.selects RX3 yX3_churchOf yX3_churchOf, Cond.code yX3_churchOf cX3_churchOf 4 (some .int), Cond.fieldLink RX3 38 "BestBeastModel" "church" "I", Cond.methodLink RX3 94 yX3_bestOf, Cond.instanceMethod yX3_bestOf, Cond.selects RX3 yX3_bestOf yX3_bestOf, Cond.code yX3_bestOf cX3_bestOf 5 (some .int), Cond.fieldLink RX3 79 "BestBeastModel" "beasts" "I", Cond.fieldLink RX3 16 "BestBeastModel" "rows" "[I", Cond.fieldLink RX3 70 "BestBeastModel" "least" "I", Cond.methodLink RX3 101 yX3_worthOf]
def wsX3_lossBy_r2 : List Cond := [Cond.instanceMethod yX3_worthOf, Cond.selects RX3 yX3_worthOf yX3_worthOf, Cond.code yX3_worthOf cX3_worthOf 4 (some .int)]
def wsX3_lossBy : List Cond := .code yX3_lossBy cX3_lossBy 3 (some .int) :: ((wsX3_lossBy_r1 ++ wsX3_lossBy_r2) ++ wsX30)
def wsX3_tell_r1 : List Cond := [Cond.fieldLink RX3 13 "BestBeastModel" "men" "[I", Cond.fieldLink RX3 104 "BestBeastModel" "yearNow" "I", Cond.methodLink RX3 84 yX3_hisBits, Cond.instanceMethod yX3_hisBits, Cond.selects RX3 yX3_hisBits yX3_hisBits, Cond.initialized RX3, Cond.code yX3_hisBits cX3_hisBits 4 (some .int), Cond.fieldLink RX3 79 "BestBeastModel" "beasts" "I", Cond.fieldLink RX3 16 "BestBeastModel" "rows" "[I", Cond.methodLink RX3 107 yX3_heldBits, Cond.instanceMethod yX3_heldBits, Cond.selects RX3 yX3_heldBits yX3_heldBits, Cond.code yX3_heldBits cX3_heldBits 6 (some .int), Cond.fieldLink RX3 41 "BestBeastModel" "voidYears" "I", Cond.methodLink RX3 88 yX3_lordOf, Cond.instanceMethod yX3_lordOf, Cond.selects RX3 yX3_lordOf yX3_lordOf, Cond.code yX3_lordOf cX3_lordOf 4 (some .int), Cond.fieldLink RX3 34 "BestBeastModel" "lord" "I", Cond.methodLink RX3 91 yX3_churchOf, Cond.instanceMethod yX3_churchOf, Cond.selects RX3 yX3_churchOf yX3_churchOf, Cond.code yX3_churchOf cX3_churchOf 4 (some .int), Cond.fieldLink RX3 38 "BestBeastModel" "church" "I"]
def wsX3_tell_r2 : List Cond := [Cond.methodLink RX3 110 yX3_lives, Cond.instanceMethod yX3_lives, Cond.selects RX3 yX3_lives yX3_lives, Cond.code yX3_lives cX3_lives 2 (some .boolean), Cond.methodLink RX3 114 yX3_lossBy, Cond.instanceMethod yX3_lossBy, Cond.selects RX3 yX3_lossBy yX3_lossBy, Cond.code yX3_lossBy cX3_lossBy 3 (some .int), Cond.methodLink RX3 97 yX3_takenOf, Cond.instanceMethod yX3_takenOf, Cond.selects RX3 yX3_takenOf yX3_takenOf, Cond.code yX3_takenOf cX3_takenOf 7 (some .int), Cond.methodLink RX3 94 yX3_bestOf, Cond.instanceMethod yX3_bestOf, Cond.selects RX3 yX3_bestOf yX3_bestOf, Cond.code yX3_bestOf cX3_bestOf 5 (some .int), Cond.fieldLink RX3 70 "BestBeastModel" "least" "I", Cond.methodLink RX3 101 yX3_worthOf, Cond.instanceMethod yX3_worthOf, Cond.selects RX3 yX3_worthOf yX3_worthOf, Cond.code yX3_worthOf cX3_worthOf 4 (some .int)]
def wsX3_tell : List Cond := .code yX3_tell cX3_tell 3 (some .int) :: ((wsX3_tell_r1 ++ wsX3_tell_r2) ++ wsX30)
def wsX3_about_r1 : List Cond := [Cond.methodLink RX3 117 yX3_isHolder, Cond.instanceMethod yX3_isHolder, Cond.selects RX3 yX3_isHolder yX3_isHolder, Cond.initialized RX3, Cond.code yX3_isHolder cX3_isHolder 2 (some .boolean), Cond.fieldLink RX3 76 "BestBeastModel" "holders" "I", Cond.methodLink RX3 49 yX3_in, Cond.static yX3_in, Cond.code yX3_in cX3_in 6 (some .boolean), Cond.methodLink RX3 120 yX3_tell, Cond.instanceMethod yX3_tell, Cond.selects RX3 yX3_tell yX3_tell, Cond.code yX3_tell cX3_tell 3 (some .int), Cond.fieldLink RX3 13 "BestBeastModel" "men" "[I", Cond.fieldLink RX3 104 "BestBeastModel" "yearNow" "I", Cond.methodLink RX3 84 yX3_hisBits, Cond.instanceMethod yX3_hisBits, Cond.selects RX3 yX3_hisBits yX3_hisBits, Cond.code yX3_hisBits cX3_hisBits 4 (some .int), Cond.fieldLink RX3 79 "BestBeastModel" "beasts" "I", Cond.fieldLink RX3 16 "BestBeastModel" "rows" "[I", Cond.methodLink RX3 107 yX3_heldBits, Cond.instanceMethod yX3_heldBits, Cond.selects RX3 yX3_heldBits yX3_heldBits]
def wsX3_about_r2 : List Cond := [Cond.code yX3_heldBits cX3_heldBits 6 (some .int), Cond.fieldLink RX3 41 "BestBeastModel" "voidYears" "I", Cond.methodLink RX3 88 yX3_lordOf, Cond.instanceMethod yX3_lordOf, Cond.selects RX3 yX3_lordOf yX3_lordOf, Cond.code yX3_lordOf cX3_lordOf 4 (some .int), Cond.fieldLink RX3 34 "BestBeastModel" "lord" "I", Cond.methodLink RX3 91 yX3_churchOf, Cond.instanceMethod yX3_churchOf, Cond.selects RX3 yX3_churchOf yX3_churchOf, Cond.code yX3_churchOf cX3_churchOf 4 (some .int), Cond.fieldLink RX3 38 "BestBeastModel" "church" "I", Cond.methodLink RX3 110 yX3_lives, Cond.instanceMethod yX3_lives, Cond.selects RX3 yX3_lives yX3_lives, Cond.code yX3_lives cX3_lives 2 (some .boolean), Cond.methodLink RX3 114 yX3_lossBy, Cond.instanceMethod yX3_lossBy, Cond.selects RX3 yX3_lossBy yX3_lossBy, Cond.code yX3_lossBy cX3_lossBy 3 (some .int), Cond.methodLink RX3 97 yX3_takenOf, Cond.instanceMethod yX3_takenOf, Cond.selects RX3 yX3_takenOf yX3_takenOf, Cond.code yX3_takenOf cX3_takenOf 7 (some .int)]
def wsX3_about_r3 : List Cond := [Cond.methodLink RX3 94 yX3_bestOf, Cond.instanceMethod yX3_bestOf, Cond.selects RX3 yX3_bestOf yX3_bestOf, Cond.code yX3_bestOf cX3_bestOf 5 (some .int), Cond.fieldLink RX3 70 "BestBeastModel" "least" "I", Cond.methodLink RX3 101 yX3_worthOf, Cond.instanceMethod yX3_worthOf, Cond.selects RX3 yX3_worthOf yX3_worthOf, Cond.code yX3_worthOf cX3_worthOf 4 (some .int)]
def wsX3_about : List Cond := .code yX3_about cX3_about 3 (some .int) :: ((wsX3_about_r1 ++ (wsX3_about_r2 ++ wsX3_about_r3)) ++ wsX30)
def wsX3_as : List Cond := .code yX3_as cX3_as 5 (some .int) :: ([.constantLong RX3 82 (4), .fieldLink RX3 13 "BestBeastModel" "men" "[I", .methodLink RX3 117 yX3_isHolder, .instanceMethod yX3_isHolder, .selects RX3 yX3_isHolder yX3_isHolder, .initialized RX3, .code yX3_isHolder cX3_isHolder 2 (some .boolean), .fieldLink RX3 76 "BestBeastModel" "holders" "I", .methodLink RX3 49 yX3_in, .static yX3_in, .code yX3_in cX3_in 6 (some .boolean)] ++ wsX30)
def wsX3_heir : List Cond := .code yX3_heir cX3_heir 4 (some .int) :: ([.fieldLink RX3 13 "BestBeastModel" "men" "[I", .methodLink RX3 117 yX3_isHolder, .instanceMethod yX3_isHolder, .selects RX3 yX3_isHolder yX3_isHolder, .initialized RX3, .code yX3_isHolder cX3_isHolder 2 (some .boolean), .fieldLink RX3 76 "BestBeastModel" "holders" "I", .methodLink RX3 49 yX3_in, .static yX3_in, .code yX3_in cX3_in 6 (some .boolean)] ++ wsX30)
def wsX3_lay : List Cond := .code yX3_lay cX3_lay 5 none :: ([.fieldLink RX3 16 "BestBeastModel" "rows" "[I"] ++ wsX30)
def wsX3_beast : List Cond := .code yX3_beast cX3_beast 3 (some .int) :: ([.constantLong RX3 123 (99), .fieldLink RX3 79 "BestBeastModel" "beasts" "I", .fieldLink RX3 16 "BestBeastModel" "rows" "[I", .methodLink RX3 117 yX3_isHolder, .instanceMethod yX3_isHolder, .selects RX3 yX3_isHolder yX3_isHolder, .initialized RX3, .code yX3_isHolder cX3_isHolder 2 (some .boolean), .fieldLink RX3 76 "BestBeastModel" "holders" "I", .methodLink RX3 49 yX3_in, .static yX3_in, .code yX3_in cX3_in 6 (some .boolean), .methodLink RX3 110 yX3_lives, .instanceMethod yX3_lives, .selects RX3 yX3_lives yX3_lives, .code yX3_lives cX3_lives 2 (some .boolean), .fieldLink RX3 13 "BestBeastModel" "men" "[I", .methodLink RX3 125 yX3_lay, .instanceMethod yX3_lay, .selects RX3 yX3_lay yX3_lay, .code yX3_lay cX3_lay 5 none] ++ wsX30)
def wsX3_beastOf : List Cond := .code yX3_beastOf cX3_beastOf 3 (some .int) :: ([.constantLong RX3 82 (4), .fieldLink RX3 16 "BestBeastModel" "rows" "[I", .methodLink RX3 129 yX3_isBeast, .instanceMethod yX3_isBeast, .selects RX3 yX3_isBeast yX3_isBeast, .initialized RX3, .code yX3_isBeast cX3_isBeast 2 (some .boolean), .fieldLink RX3 79 "BestBeastModel" "beasts" "I", .methodLink RX3 49 yX3_in, .static yX3_in, .code yX3_in cX3_in 6 (some .boolean)] ++ wsX30)
def wsX3_mayGive : List Cond := .code yX3_mayGive cX3_mayGive 4 (some .boolean) :: ([.fieldLink RX3 16 "BestBeastModel" "rows" "[I", .methodLink RX3 110 yX3_lives, .instanceMethod yX3_lives, .selects RX3 yX3_lives yX3_lives, .initialized RX3, .code yX3_lives cX3_lives 2 (some .boolean), .fieldLink RX3 13 "BestBeastModel" "men" "[I"] ++ wsX30)
def wsX3_gives : List Cond := .code yX3_gives cX3_gives 3 none :: ([.fieldLink RX3 16 "BestBeastModel" "rows" "[I", .fieldLink RX3 104 "BestBeastModel" "yearNow" "I", .methodLink RX3 125 yX3_lay, .instanceMethod yX3_lay, .selects RX3 yX3_lay yX3_lay, .initialized RX3, .code yX3_lay cX3_lay 5 none] ++ wsX30)
def wsX3_give_r1 : List Cond := [Cond.fieldLink RX3 16 "BestBeastModel" "rows" "[I", Cond.methodLink RX3 129 yX3_isBeast, Cond.instanceMethod yX3_isBeast, Cond.selects RX3 yX3_isBeast yX3_isBeast, Cond.initialized RX3, Cond.code yX3_isBeast cX3_isBeast 2 (some .boolean), Cond.fieldLink RX3 79 "BestBeastModel" "beasts" "I", Cond.methodLink RX3 49 yX3_in, Cond.static yX3_in, Cond.code yX3_in cX3_in 6 (some .boolean), Cond.methodLink RX3 117 yX3_isHolder, Cond.instanceMethod yX3_isHolder, Cond.selects RX3 yX3_isHolder yX3_isHolder, Cond.code yX3_isHolder cX3_isHolder 2 (some .boolean), Cond.fieldLink RX3 76 "BestBeastModel" "holders" "I", Cond.methodLink RX3 132 yX3_mayGive, Cond.instanceMethod yX3_mayGive, Cond.selects RX3 yX3_mayGive yX3_mayGive, Cond.code yX3_mayGive cX3_mayGive 4 (some .boolean), Cond.methodLink RX3 110 yX3_lives, Cond.instanceMethod yX3_lives, Cond.selects RX3 yX3_lives yX3_lives, Cond.code yX3_lives cX3_lives 2 (some .boolean), Cond.fieldLink RX3 13 "BestBeastModel" "men" "[I"]
def wsX3_give_r2 : List Cond := [Cond.methodLink RX3 135 yX3_gives, Cond.instanceMethod yX3_gives, Cond.selects RX3 yX3_gives yX3_gives, Cond.code yX3_gives cX3_gives 3 none, Cond.fieldLink RX3 104 "BestBeastModel" "yearNow" "I", Cond.methodLink RX3 125 yX3_lay, Cond.instanceMethod yX3_lay, Cond.selects RX3 yX3_lay yX3_lay, Cond.code yX3_lay cX3_lay 5 none]
def wsX3_give : List Cond := .code yX3_give cX3_give 4 (some .int) :: ((wsX3_give_r1 ++ wsX3_give_r2) ++ wsX30)
def wsX3_dies_r1 : List Cond := [Cond.fieldLink RX3 104 "BestBeastModel" "yearNow" "I", Cond.fieldLink RX3 13 "BestBeastModel" "men" "[I", Cond.fieldLink RX3 79 "BestBeastModel" "beasts" "I", Cond.fieldLink RX3 16 "BestBeastModel" "rows" "[I", Cond.methodLink RX3 107 yX3_heldBits, Cond.instanceMethod yX3_heldBits, Cond.selects RX3 yX3_heldBits yX3_heldBits, Cond.initialized RX3, Cond.code yX3_heldBits cX3_heldBits 6 (some .int), Cond.fieldLink RX3 41 "BestBeastModel" "voidYears" "I", Cond.methodLink RX3 84 yX3_hisBits, Cond.instanceMethod yX3_hisBits, Cond.selects RX3 yX3_hisBits yX3_hisBits, Cond.code yX3_hisBits cX3_hisBits 4 (some .int), Cond.methodLink RX3 97 yX3_takenOf, Cond.instanceMethod yX3_takenOf, Cond.selects RX3 yX3_takenOf yX3_takenOf, Cond.code yX3_takenOf cX3_takenOf 7 (some .int), Cond.methodLink RX3 88 yX3_lordOf, Cond.instanceMethod yX3_lordOf, Cond.selects RX3 yX3_lordOf yX3_lordOf, Cond.code yX3_lordOf cX3_lordOf 4 (some .int), Cond.fieldLink RX3 34 "BestBeastModel" "lord" "I", Cond.methodLink RX3 91 yX3_churchOf]
def wsX3_dies_r2 : List Cond := [Cond.instanceMethod yX3_churchOf, Cond.selects RX3 yX3_churchOf yX3_churchOf, Cond.code yX3_churchOf cX3_churchOf 4 (some .int), Cond.fieldLink RX3 38 "BestBeastModel" "church" "I", Cond.methodLink RX3 94 yX3_bestOf, Cond.instanceMethod yX3_bestOf, Cond.selects RX3 yX3_bestOf yX3_bestOf, Cond.code yX3_bestOf cX3_bestOf 5 (some .int), Cond.fieldLink RX3 70 "BestBeastModel" "least" "I", Cond.methodLink RX3 101 yX3_worthOf, Cond.instanceMethod yX3_worthOf, Cond.selects RX3 yX3_worthOf yX3_worthOf, Cond.code yX3_worthOf cX3_worthOf 4 (some .int), Cond.methodLink RX3 125 yX3_lay, Cond.instanceMethod yX3_lay, Cond.selects RX3 yX3_lay yX3_lay, Cond.code yX3_lay cX3_lay 5 none, Cond.methodLink RX3 110 yX3_lives, Cond.instanceMethod yX3_lives, Cond.selects RX3 yX3_lives yX3_lives, Cond.code yX3_lives cX3_lives 2 (some .boolean)]
def wsX3_dies : List Cond := .code yX3_dies cX3_dies 6 (some .int) :: ((wsX3_dies_r1 ++ wsX3_dies_r2) ++ wsX30)
def wsX3_die_r1 : List Cond := [Cond.fieldLink RX3 142 "BestBeastModel" "taken" "I", Cond.methodLink RX3 117 yX3_isHolder, Cond.instanceMethod yX3_isHolder, Cond.selects RX3 yX3_isHolder yX3_isHolder, Cond.initialized RX3, Cond.code yX3_isHolder cX3_isHolder 2 (some .boolean), Cond.fieldLink RX3 76 "BestBeastModel" "holders" "I", Cond.methodLink RX3 49 yX3_in, Cond.static yX3_in, Cond.code yX3_in cX3_in 6 (some .boolean), Cond.methodLink RX3 110 yX3_lives, Cond.instanceMethod yX3_lives, Cond.selects RX3 yX3_lives yX3_lives, Cond.code yX3_lives cX3_lives 2 (some .boolean), Cond.fieldLink RX3 13 "BestBeastModel" "men" "[I", Cond.methodLink RX3 139 yX3_dies, Cond.instanceMethod yX3_dies, Cond.selects RX3 yX3_dies yX3_dies, Cond.code yX3_dies cX3_dies 6 (some .int), Cond.fieldLink RX3 104 "BestBeastModel" "yearNow" "I", Cond.fieldLink RX3 79 "BestBeastModel" "beasts" "I", Cond.fieldLink RX3 16 "BestBeastModel" "rows" "[I", Cond.methodLink RX3 107 yX3_heldBits, Cond.instanceMethod yX3_heldBits]
def wsX3_die_r2 : List Cond := [Cond.selects RX3 yX3_heldBits yX3_heldBits, Cond.code yX3_heldBits cX3_heldBits 6 (some .int), Cond.fieldLink RX3 41 "BestBeastModel" "voidYears" "I", Cond.methodLink RX3 84 yX3_hisBits, Cond.instanceMethod yX3_hisBits, Cond.selects RX3 yX3_hisBits yX3_hisBits, Cond.code yX3_hisBits cX3_hisBits 4 (some .int), Cond.methodLink RX3 97 yX3_takenOf, Cond.instanceMethod yX3_takenOf, Cond.selects RX3 yX3_takenOf yX3_takenOf, Cond.code yX3_takenOf cX3_takenOf 7 (some .int), Cond.methodLink RX3 88 yX3_lordOf, Cond.instanceMethod yX3_lordOf, Cond.selects RX3 yX3_lordOf yX3_lordOf, Cond.code yX3_lordOf cX3_lordOf 4 (some .int), Cond.fieldLink RX3 34 "BestBeastModel" "lord" "I", Cond.methodLink RX3 91 yX3_churchOf, Cond.instanceMethod yX3_churchOf, Cond.selects RX3 yX3_churchOf yX3_churchOf, Cond.code yX3_churchOf cX3_churchOf 4 (some .int), Cond.fieldLink RX3 38 "BestBeastModel" "church" "I", Cond.methodLink RX3 94 yX3_bestOf, Cond.instanceMethod yX3_bestOf, Cond.selects RX3 yX3_bestOf yX3_bestOf]
def wsX3_die_r3 : List Cond := [Cond.code yX3_bestOf cX3_bestOf 5 (some .int), Cond.fieldLink RX3 70 "BestBeastModel" "least" "I", Cond.methodLink RX3 101 yX3_worthOf, Cond.instanceMethod yX3_worthOf, Cond.selects RX3 yX3_worthOf yX3_worthOf, Cond.code yX3_worthOf cX3_worthOf 4 (some .int), Cond.methodLink RX3 125 yX3_lay, Cond.instanceMethod yX3_lay, Cond.selects RX3 yX3_lay yX3_lay, Cond.code yX3_lay cX3_lay 5 none]
def wsX3_die : List Cond := .code yX3_die cX3_die 3 (some .int) :: ((wsX3_die_r1 ++ (wsX3_die_r2 ++ wsX3_die_r3)) ++ wsX30)
def wsX3_year : List Cond := .code yX3_year cX3_year 1 (some .int) :: ([.fieldLink RX3 104 "BestBeastModel" "yearNow" "I"] ++ wsX30)
def wsX3_ones : List Cond := .code yX3_ones cX3_ones 3 (some .int) :: ([])
def wsX3_safeOf_r1 : List Cond := [Cond.fieldLink RX3 104 "BestBeastModel" "yearNow" "I", Cond.methodLink RX3 84 yX3_hisBits, Cond.instanceMethod yX3_hisBits, Cond.selects RX3 yX3_hisBits yX3_hisBits, Cond.initialized RX3, Cond.code yX3_hisBits cX3_hisBits 4 (some .int), Cond.fieldLink RX3 79 "BestBeastModel" "beasts" "I", Cond.fieldLink RX3 16 "BestBeastModel" "rows" "[I", Cond.methodLink RX3 107 yX3_heldBits, Cond.instanceMethod yX3_heldBits, Cond.selects RX3 yX3_heldBits yX3_heldBits, Cond.code yX3_heldBits cX3_heldBits 6 (some .int), Cond.fieldLink RX3 41 "BestBeastModel" "voidYears" "I", Cond.methodLink RX3 145 yX3_ones, Cond.static yX3_ones, Cond.code yX3_ones cX3_ones 3 (some .int), Cond.methodLink RX3 114 yX3_lossBy, Cond.instanceMethod yX3_lossBy, Cond.selects RX3 yX3_lossBy yX3_lossBy, Cond.code yX3_lossBy cX3_lossBy 3 (some .int), Cond.methodLink RX3 97 yX3_takenOf, Cond.instanceMethod yX3_takenOf, Cond.selects RX3 yX3_takenOf yX3_takenOf, Cond.code yX3_takenOf cX3_takenOf 7 (some .int)]
def wsX3_safeOf_r2 : List Cond := [Cond.methodLink RX3 88 yX3_lordOf, Cond.instanceMethod yX3_lordOf, Cond.selects RX3 yX3_lordOf yX3_lordOf, Cond.code yX3_lordOf cX3_lordOf 4 (some .int), Cond.fieldLink RX3 13 "BestBeastModel" "men" "[I", Cond.fieldLink RX3 34 "BestBeastModel" "lord" "I", Cond.methodLink RX3 91 yX3_churchOf, Cond.instanceMethod yX3_churchOf, Cond.selects RX3 yX3_churchOf yX3_churchOf, Cond.code yX3_churchOf cX3_churchOf 4 (some .int), Cond.fieldLink RX3 38 "BestBeastModel" "church" "I", Cond.methodLink RX3 94 yX3_bestOf, Cond.instanceMethod yX3_bestOf, Cond.selects RX3 yX3_bestOf yX3_bestOf, Cond.code yX3_bestOf cX3_bestOf 5 (some .int), Cond.fieldLink RX3 70 "BestBeastModel" "least" "I", Cond.methodLink RX3 101 yX3_worthOf, Cond.instanceMethod yX3_worthOf, Cond.selects RX3 yX3_worthOf yX3_worthOf, Cond.code yX3_worthOf cX3_worthOf 4 (some .int)]
def wsX3_safeOf : List Cond := .code yX3_safeOf cX3_safeOf 8 (some .int) :: ((wsX3_safeOf_r1 ++ wsX3_safeOf_r2) ++ wsX30)
def wsX3_safe_r1 : List Cond := [Cond.methodLink RX3 117 yX3_isHolder, Cond.instanceMethod yX3_isHolder, Cond.selects RX3 yX3_isHolder yX3_isHolder, Cond.initialized RX3, Cond.code yX3_isHolder cX3_isHolder 2 (some .boolean), Cond.fieldLink RX3 76 "BestBeastModel" "holders" "I", Cond.methodLink RX3 49 yX3_in, Cond.static yX3_in, Cond.code yX3_in cX3_in 6 (some .boolean), Cond.methodLink RX3 110 yX3_lives, Cond.instanceMethod yX3_lives, Cond.selects RX3 yX3_lives yX3_lives, Cond.code yX3_lives cX3_lives 2 (some .boolean), Cond.fieldLink RX3 13 "BestBeastModel" "men" "[I", Cond.methodLink RX3 148 yX3_safeOf, Cond.instanceMethod yX3_safeOf, Cond.selects RX3 yX3_safeOf yX3_safeOf, Cond.code yX3_safeOf cX3_safeOf 8 (some .int), Cond.fieldLink RX3 104 "BestBeastModel" "yearNow" "I", Cond.methodLink RX3 84 yX3_hisBits, Cond.instanceMethod yX3_hisBits, Cond.selects RX3 yX3_hisBits yX3_hisBits, Cond.code yX3_hisBits cX3_hisBits 4 (some .int), Cond.fieldLink RX3 79 "BestBeastModel" "beasts" "I"]
def wsX3_safe_r2 : List Cond := [Cond.fieldLink RX3 16 "BestBeastModel" "rows" "[I", Cond.methodLink RX3 107 yX3_heldBits, Cond.instanceMethod yX3_heldBits, Cond.selects RX3 yX3_heldBits yX3_heldBits, Cond.code yX3_heldBits cX3_heldBits 6 (some .int), Cond.fieldLink RX3 41 "BestBeastModel" "voidYears" "I", Cond.methodLink RX3 145 yX3_ones, Cond.static yX3_ones, Cond.code yX3_ones cX3_ones 3 (some .int), Cond.methodLink RX3 114 yX3_lossBy, Cond.instanceMethod yX3_lossBy, Cond.selects RX3 yX3_lossBy yX3_lossBy, Cond.code yX3_lossBy cX3_lossBy 3 (some .int), Cond.methodLink RX3 97 yX3_takenOf, Cond.instanceMethod yX3_takenOf, Cond.selects RX3 yX3_takenOf yX3_takenOf, Cond.code yX3_takenOf cX3_takenOf 7 (some .int), Cond.methodLink RX3 88 yX3_lordOf, Cond.instanceMethod yX3_lordOf, Cond.selects RX3 yX3_lordOf yX3_lordOf, Cond.code yX3_lordOf cX3_lordOf 4 (some .int), Cond.fieldLink RX3 34 "BestBeastModel" "lord" "I", Cond.methodLink RX3 91 yX3_churchOf, Cond.instanceMethod yX3_churchOf]
def wsX3_safe_r3 : List Cond := [Cond.selects RX3 yX3_churchOf yX3_churchOf, Cond.code yX3_churchOf cX3_churchOf 4 (some .int), Cond.fieldLink RX3 38 "BestBeastModel" "church" "I", Cond.methodLink RX3 94 yX3_bestOf, Cond.instanceMethod yX3_bestOf, Cond.selects RX3 yX3_bestOf yX3_bestOf, Cond.code yX3_bestOf cX3_bestOf 5 (some .int), Cond.fieldLink RX3 70 "BestBeastModel" "least" "I", Cond.methodLink RX3 101 yX3_worthOf, Cond.instanceMethod yX3_worthOf, Cond.selects RX3 yX3_worthOf yX3_worthOf, Cond.code yX3_worthOf cX3_worthOf 4 (some .int)]
def wsX3_safe : List Cond := .code yX3_safe cX3_safe 3 (some .int) :: ((wsX3_safe_r1 ++ (wsX3_safe_r2 ++ wsX3_safe_r3)) ++ wsX30)
def wsX3_lostBy_r1 : List Cond := [Cond.fieldLink RX3 13 "BestBeastModel" "men" "[I", Cond.fieldLink RX3 104 "BestBeastModel" "yearNow" "I", Cond.fieldLink RX3 41 "BestBeastModel" "voidYears" "I", Cond.methodLink RX3 107 yX3_heldBits, Cond.instanceMethod yX3_heldBits, Cond.selects RX3 yX3_heldBits yX3_heldBits, Cond.initialized RX3, Cond.code yX3_heldBits cX3_heldBits 6 (some .int), Cond.fieldLink RX3 79 "BestBeastModel" "beasts" "I", Cond.fieldLink RX3 16 "BestBeastModel" "rows" "[I", Cond.methodLink RX3 84 yX3_hisBits, Cond.instanceMethod yX3_hisBits, Cond.selects RX3 yX3_hisBits yX3_hisBits, Cond.code yX3_hisBits cX3_hisBits 4 (some .int), Cond.methodLink RX3 114 yX3_lossBy, Cond.instanceMethod yX3_lossBy, Cond.selects RX3 yX3_lossBy yX3_lossBy, Cond.code yX3_lossBy cX3_lossBy 3 (some .int), Cond.methodLink RX3 97 yX3_takenOf, Cond.instanceMethod yX3_takenOf, Cond.selects RX3 yX3_takenOf yX3_takenOf, Cond.code yX3_takenOf cX3_takenOf 7 (some .int), Cond.methodLink RX3 88 yX3_lordOf, Cond.instanceMethod yX3_lordOf]
def wsX3_lostBy_r2 : List Cond := [Cond.selects RX3 yX3_lordOf yX3_lordOf, Cond.code yX3_lordOf cX3_lordOf 4 (some .int), Cond.fieldLink RX3 34 "BestBeastModel" "lord" "I", Cond.methodLink RX3 91 yX3_churchOf, Cond.instanceMethod yX3_churchOf, Cond.selects RX3 yX3_churchOf yX3_churchOf, Cond.code yX3_churchOf cX3_churchOf 4 (some .int), Cond.fieldLink RX3 38 "BestBeastModel" "church" "I", Cond.methodLink RX3 94 yX3_bestOf, Cond.instanceMethod yX3_bestOf, Cond.selects RX3 yX3_bestOf yX3_bestOf, Cond.code yX3_bestOf cX3_bestOf 5 (some .int), Cond.fieldLink RX3 70 "BestBeastModel" "least" "I", Cond.methodLink RX3 101 yX3_worthOf, Cond.instanceMethod yX3_worthOf, Cond.selects RX3 yX3_worthOf yX3_worthOf, Cond.code yX3_worthOf cX3_worthOf 4 (some .int)]
def wsX3_lostBy : List Cond := .code yX3_lostBy cX3_lostBy 11 (some .int) :: ((wsX3_lostBy_r1 ++ wsX3_lostBy_r2) ++ wsX30)
def wsX3_givingOf_r1 : List Cond := [Cond.methodLink RX3 84 yX3_hisBits, Cond.instanceMethod yX3_hisBits, Cond.selects RX3 yX3_hisBits yX3_hisBits, Cond.initialized RX3, Cond.code yX3_hisBits cX3_hisBits 4 (some .int), Cond.fieldLink RX3 79 "BestBeastModel" "beasts" "I", Cond.fieldLink RX3 16 "BestBeastModel" "rows" "[I", Cond.methodLink RX3 151 yX3_lostBy, Cond.instanceMethod yX3_lostBy, Cond.selects RX3 yX3_lostBy yX3_lostBy, Cond.code yX3_lostBy cX3_lostBy 11 (some .int), Cond.fieldLink RX3 13 "BestBeastModel" "men" "[I", Cond.fieldLink RX3 104 "BestBeastModel" "yearNow" "I", Cond.fieldLink RX3 41 "BestBeastModel" "voidYears" "I", Cond.methodLink RX3 107 yX3_heldBits, Cond.instanceMethod yX3_heldBits, Cond.selects RX3 yX3_heldBits yX3_heldBits, Cond.code yX3_heldBits cX3_heldBits 6 (some .int), Cond.methodLink RX3 114 yX3_lossBy, Cond.instanceMethod yX3_lossBy, Cond.selects RX3 yX3_lossBy yX3_lossBy, Cond.code yX3_lossBy cX3_lossBy 3 (some .int), Cond.methodLink RX3 97 yX3_takenOf, Cond.instanceMethod yX3_takenOf]
def wsX3_givingOf_r2 : List Cond := [Cond.selects RX3 yX3_takenOf yX3_takenOf, Cond.code yX3_takenOf cX3_takenOf 7 (some .int), Cond.methodLink RX3 88 yX3_lordOf, Cond.instanceMethod yX3_lordOf, Cond.selects RX3 yX3_lordOf yX3_lordOf, Cond.code yX3_lordOf cX3_lordOf 4 (some .int), Cond.fieldLink RX3 34 "BestBeastModel" "lord" "I", Cond.methodLink RX3 91 yX3_churchOf, Cond.instanceMethod yX3_churchOf, Cond.selects RX3 yX3_churchOf yX3_churchOf, Cond.code yX3_churchOf cX3_churchOf 4 (some .int), Cond.fieldLink RX3 38 "BestBeastModel" "church" "I", Cond.methodLink RX3 94 yX3_bestOf, Cond.instanceMethod yX3_bestOf, Cond.selects RX3 yX3_bestOf yX3_bestOf, Cond.code yX3_bestOf cX3_bestOf 5 (some .int), Cond.fieldLink RX3 70 "BestBeastModel" "least" "I", Cond.methodLink RX3 101 yX3_worthOf, Cond.instanceMethod yX3_worthOf, Cond.selects RX3 yX3_worthOf yX3_worthOf, Cond.code yX3_worthOf cX3_worthOf 4 (some .int), Cond.methodLink RX3 145 yX3_ones, Cond.static yX3_ones, Cond.code yX3_ones cX3_ones 3 (some .int)]
def wsX3_givingOf : List Cond := .code yX3_givingOf cX3_givingOf 9 (some .int) :: ((wsX3_givingOf_r1 ++ wsX3_givingOf_r2) ++ wsX30)
def wsX3_giving_r1 : List Cond := [Cond.constantLong RX3 82 (4), Cond.methodLink RX3 117 yX3_isHolder, Cond.instanceMethod yX3_isHolder, Cond.selects RX3 yX3_isHolder yX3_isHolder, Cond.initialized RX3, Cond.code yX3_isHolder cX3_isHolder 2 (some .boolean), Cond.fieldLink RX3 76 "BestBeastModel" "holders" "I", Cond.methodLink RX3 49 yX3_in, Cond.static yX3_in, Cond.code yX3_in cX3_in 6 (some .boolean), Cond.methodLink RX3 110 yX3_lives, Cond.instanceMethod yX3_lives, Cond.selects RX3 yX3_lives yX3_lives, Cond.code yX3_lives cX3_lives 2 (some .boolean), Cond.fieldLink RX3 13 "BestBeastModel" "men" "[I", Cond.methodLink RX3 155 yX3_givingOf, Cond.instanceMethod yX3_givingOf, Cond.selects RX3 yX3_givingOf yX3_givingOf, Cond.code yX3_givingOf cX3_givingOf 9 (some .int), Cond.methodLink RX3 84 yX3_hisBits, Cond.instanceMethod yX3_hisBits, Cond.selects RX3 yX3_hisBits yX3_hisBits, Cond.code yX3_hisBits cX3_hisBits 4 (some .int), Cond.fieldLink RX3 79 "BestBeastModel" "beasts" "I"]
def wsX3_giving_r2 : List Cond := [Cond.fieldLink RX3 16 "BestBeastModel" "rows" "[I", Cond.methodLink RX3 151 yX3_lostBy, Cond.instanceMethod yX3_lostBy, Cond.selects RX3 yX3_lostBy yX3_lostBy, Cond.code yX3_lostBy cX3_lostBy 11 (some .int), Cond.fieldLink RX3 104 "BestBeastModel" "yearNow" "I", Cond.fieldLink RX3 41 "BestBeastModel" "voidYears" "I", Cond.methodLink RX3 107 yX3_heldBits, Cond.instanceMethod yX3_heldBits, Cond.selects RX3 yX3_heldBits yX3_heldBits, Cond.code yX3_heldBits cX3_heldBits 6 (some .int), Cond.methodLink RX3 114 yX3_lossBy, Cond.instanceMethod yX3_lossBy, Cond.selects RX3 yX3_lossBy yX3_lossBy, Cond.code yX3_lossBy cX3_lossBy 3 (some .int), Cond.methodLink RX3 97 yX3_takenOf, Cond.instanceMethod yX3_takenOf, Cond.selects RX3 yX3_takenOf yX3_takenOf, Cond.code yX3_takenOf cX3_takenOf 7 (some .int), Cond.methodLink RX3 88 yX3_lordOf, Cond.instanceMethod yX3_lordOf, Cond.selects RX3 yX3_lordOf yX3_lordOf, Cond.code yX3_lordOf cX3_lordOf 4 (some .int), Cond.fieldLink RX3 34 "BestBeastModel" "lord" "I"]
def wsX3_giving_r3 : List Cond := [Cond.methodLink RX3 91 yX3_churchOf, Cond.instanceMethod yX3_churchOf, Cond.selects RX3 yX3_churchOf yX3_churchOf, Cond.code yX3_churchOf cX3_churchOf 4 (some .int), Cond.fieldLink RX3 38 "BestBeastModel" "church" "I", Cond.methodLink RX3 94 yX3_bestOf, Cond.instanceMethod yX3_bestOf, Cond.selects RX3 yX3_bestOf yX3_bestOf, Cond.code yX3_bestOf cX3_bestOf 5 (some .int), Cond.fieldLink RX3 70 "BestBeastModel" "least" "I", Cond.methodLink RX3 101 yX3_worthOf, Cond.instanceMethod yX3_worthOf, Cond.selects RX3 yX3_worthOf yX3_worthOf, Cond.code yX3_worthOf cX3_worthOf 4 (some .int), Cond.methodLink RX3 145 yX3_ones, Cond.static yX3_ones, Cond.code yX3_ones cX3_ones 3 (some .int)]
def wsX3_giving : List Cond := .code yX3_giving cX3_giving 3 (some .int) :: ((wsX3_giving_r1 ++ (wsX3_giving_r2 ++ wsX3_giving_r3)) ++ wsX30)
def wsX3_term : List Cond := .code yX3_term cX3_term 6 (some .int) :: ([])
def wsX3_meanOf_r1 : List Cond := [Cond.methodLink RX3 155 yX3_givingOf, Cond.instanceMethod yX3_givingOf, Cond.selects RX3 yX3_givingOf yX3_givingOf, Cond.initialized RX3, Cond.code yX3_givingOf cX3_givingOf 9 (some .int), Cond.methodLink RX3 84 yX3_hisBits, Cond.instanceMethod yX3_hisBits, Cond.selects RX3 yX3_hisBits yX3_hisBits, Cond.code yX3_hisBits cX3_hisBits 4 (some .int), Cond.fieldLink RX3 79 "BestBeastModel" "beasts" "I", Cond.fieldLink RX3 16 "BestBeastModel" "rows" "[I", Cond.methodLink RX3 151 yX3_lostBy, Cond.instanceMethod yX3_lostBy, Cond.selects RX3 yX3_lostBy yX3_lostBy, Cond.code yX3_lostBy cX3_lostBy 11 (some .int), Cond.fieldLink RX3 13 "BestBeastModel" "men" "[I", Cond.fieldLink RX3 104 "BestBeastModel" "yearNow" "I", Cond.fieldLink RX3 41 "BestBeastModel" "voidYears" "I", Cond.methodLink RX3 107 yX3_heldBits, Cond.instanceMethod yX3_heldBits, Cond.selects RX3 yX3_heldBits yX3_heldBits, Cond.code yX3_heldBits cX3_heldBits 6 (some .int), Cond.methodLink RX3 114 yX3_lossBy, Cond.instanceMethod yX3_lossBy]
def wsX3_meanOf_r2 : List Cond := [Cond.selects RX3 yX3_lossBy yX3_lossBy, Cond.code yX3_lossBy cX3_lossBy 3 (some .int), Cond.methodLink RX3 97 yX3_takenOf, Cond.instanceMethod yX3_takenOf, Cond.selects RX3 yX3_takenOf yX3_takenOf, Cond.code yX3_takenOf cX3_takenOf 7 (some .int), Cond.methodLink RX3 88 yX3_lordOf, Cond.instanceMethod yX3_lordOf, Cond.selects RX3 yX3_lordOf yX3_lordOf, Cond.code yX3_lordOf cX3_lordOf 4 (some .int), Cond.fieldLink RX3 34 "BestBeastModel" "lord" "I", Cond.methodLink RX3 91 yX3_churchOf, Cond.instanceMethod yX3_churchOf, Cond.selects RX3 yX3_churchOf yX3_churchOf, Cond.code yX3_churchOf cX3_churchOf 4 (some .int), Cond.fieldLink RX3 38 "BestBeastModel" "church" "I", Cond.methodLink RX3 94 yX3_bestOf, Cond.instanceMethod yX3_bestOf, Cond.selects RX3 yX3_bestOf yX3_bestOf, Cond.code yX3_bestOf cX3_bestOf 5 (some .int), Cond.fieldLink RX3 70 "BestBeastModel" "least" "I", Cond.methodLink RX3 101 yX3_worthOf, Cond.instanceMethod yX3_worthOf, Cond.selects RX3 yX3_worthOf yX3_worthOf]
def wsX3_meanOf_r3 : List Cond := [Cond.code yX3_worthOf cX3_worthOf 4 (some .int), Cond.methodLink RX3 145 yX3_ones, Cond.static yX3_ones, Cond.code yX3_ones cX3_ones 3 (some .int), Cond.methodLink RX3 158 yX3_term, Cond.static yX3_term, Cond.code yX3_term cX3_term 6 (some .int)]
def wsX3_meanOf : List Cond := .code yX3_meanOf cX3_meanOf 6 (some .int) :: ((wsX3_meanOf_r1 ++ (wsX3_meanOf_r2 ++ wsX3_meanOf_r3)) ++ wsX30)
def wsX3_mean_r1 : List Cond := [Cond.constantLong RX3 82 (4), Cond.methodLink RX3 117 yX3_isHolder, Cond.instanceMethod yX3_isHolder, Cond.selects RX3 yX3_isHolder yX3_isHolder, Cond.initialized RX3, Cond.code yX3_isHolder cX3_isHolder 2 (some .boolean), Cond.fieldLink RX3 76 "BestBeastModel" "holders" "I", Cond.methodLink RX3 49 yX3_in, Cond.static yX3_in, Cond.code yX3_in cX3_in 6 (some .boolean), Cond.methodLink RX3 110 yX3_lives, Cond.instanceMethod yX3_lives, Cond.selects RX3 yX3_lives yX3_lives, Cond.code yX3_lives cX3_lives 2 (some .boolean), Cond.fieldLink RX3 13 "BestBeastModel" "men" "[I", Cond.methodLink RX3 161 yX3_meanOf, Cond.instanceMethod yX3_meanOf, Cond.selects RX3 yX3_meanOf yX3_meanOf, Cond.code yX3_meanOf cX3_meanOf 6 (some .int), Cond.methodLink RX3 155 yX3_givingOf, Cond.instanceMethod yX3_givingOf, Cond.selects RX3 yX3_givingOf yX3_givingOf, Cond.code yX3_givingOf cX3_givingOf 9 (some .int), Cond.methodLink RX3 84 yX3_hisBits]
def wsX3_mean_r2 : List Cond := [Cond.instanceMethod yX3_hisBits, Cond.selects RX3 yX3_hisBits yX3_hisBits, Cond.code yX3_hisBits cX3_hisBits 4 (some .int), Cond.fieldLink RX3 79 "BestBeastModel" "beasts" "I", Cond.fieldLink RX3 16 "BestBeastModel" "rows" "[I", Cond.methodLink RX3 151 yX3_lostBy, Cond.instanceMethod yX3_lostBy, Cond.selects RX3 yX3_lostBy yX3_lostBy, Cond.code yX3_lostBy cX3_lostBy 11 (some .int), Cond.fieldLink RX3 104 "BestBeastModel" "yearNow" "I", Cond.fieldLink RX3 41 "BestBeastModel" "voidYears" "I", Cond.methodLink RX3 107 yX3_heldBits, Cond.instanceMethod yX3_heldBits, Cond.selects RX3 yX3_heldBits yX3_heldBits, Cond.code yX3_heldBits cX3_heldBits 6 (some .int), Cond.methodLink RX3 114 yX3_lossBy, Cond.instanceMethod yX3_lossBy, Cond.selects RX3 yX3_lossBy yX3_lossBy, Cond.code yX3_lossBy cX3_lossBy 3 (some .int), Cond.methodLink RX3 97 yX3_takenOf, Cond.instanceMethod yX3_takenOf, Cond.selects RX3 yX3_takenOf yX3_takenOf, Cond.code yX3_takenOf cX3_takenOf 7 (some .int), Cond.methodLink RX3 88 yX3_lordOf]
def wsX3_mean_r3 : List Cond := [Cond.instanceMethod yX3_lordOf, Cond.selects RX3 yX3_lordOf yX3_lordOf, Cond.code yX3_lordOf cX3_lordOf 4 (some .int), Cond.fieldLink RX3 34 "BestBeastModel" "lord" "I", Cond.methodLink RX3 91 yX3_churchOf, Cond.instanceMethod yX3_churchOf, Cond.selects RX3 yX3_churchOf yX3_churchOf, Cond.code yX3_churchOf cX3_churchOf 4 (some .int), Cond.fieldLink RX3 38 "BestBeastModel" "church" "I", Cond.methodLink RX3 94 yX3_bestOf, Cond.instanceMethod yX3_bestOf, Cond.selects RX3 yX3_bestOf yX3_bestOf, Cond.code yX3_bestOf cX3_bestOf 5 (some .int), Cond.fieldLink RX3 70 "BestBeastModel" "least" "I", Cond.methodLink RX3 101 yX3_worthOf, Cond.instanceMethod yX3_worthOf, Cond.selects RX3 yX3_worthOf yX3_worthOf, Cond.code yX3_worthOf cX3_worthOf 4 (some .int), Cond.methodLink RX3 145 yX3_ones, Cond.static yX3_ones, Cond.code yX3_ones cX3_ones 3 (some .int), Cond.methodLink RX3 158 yX3_term, Cond.static yX3_term, Cond.code yX3_term cX3_term 6 (some .int)]
def wsX3_mean : List Cond := .code yX3_mean cX3_mean 4 (some .int) :: ((wsX3_mean_r1 ++ (wsX3_mean_r2 ++ wsX3_mean_r3)) ++ wsX30)
def wsX3_roll : List Cond := .code yX3_roll cX3_roll 4 (some .int) :: ([.constantLong RX3 164 (-1), .fieldLink RX3 16 "BestBeastModel" "rows" "[I", .methodLink RX3 129 yX3_isBeast, .instanceMethod yX3_isBeast, .selects RX3 yX3_isBeast yX3_isBeast, .initialized RX3, .code yX3_isBeast cX3_isBeast 2 (some .boolean), .fieldLink RX3 79 "BestBeastModel" "beasts" "I", .methodLink RX3 49 yX3_in, .static yX3_in, .code yX3_in cX3_in 6 (some .boolean)] ++ wsX30)
def wsX3_isRolledBy_r1 : List Cond := [Cond.fieldLink RX3 104 "BestBeastModel" "yearNow" "I", Cond.fieldLink RX3 79 "BestBeastModel" "beasts" "I", Cond.fieldLink RX3 16 "BestBeastModel" "rows" "[I", Cond.methodLink RX3 107 yX3_heldBits, Cond.instanceMethod yX3_heldBits, Cond.selects RX3 yX3_heldBits yX3_heldBits, Cond.initialized RX3, Cond.code yX3_heldBits cX3_heldBits 6 (some .int), Cond.fieldLink RX3 41 "BestBeastModel" "voidYears" "I", Cond.methodLink RX3 84 yX3_hisBits, Cond.instanceMethod yX3_hisBits, Cond.selects RX3 yX3_hisBits yX3_hisBits, Cond.code yX3_hisBits cX3_hisBits 4 (some .int), Cond.methodLink RX3 97 yX3_takenOf, Cond.instanceMethod yX3_takenOf, Cond.selects RX3 yX3_takenOf yX3_takenOf, Cond.code yX3_takenOf cX3_takenOf 7 (some .int), Cond.methodLink RX3 88 yX3_lordOf, Cond.instanceMethod yX3_lordOf, Cond.selects RX3 yX3_lordOf yX3_lordOf, Cond.code yX3_lordOf cX3_lordOf 4 (some .int), Cond.fieldLink RX3 13 "BestBeastModel" "men" "[I", Cond.fieldLink RX3 34 "BestBeastModel" "lord" "I", Cond.methodLink RX3 91 yX3_churchOf]
def wsX3_isRolledBy_r2 : List Cond := [Cond.instanceMethod yX3_churchOf, Cond.selects RX3 yX3_churchOf yX3_churchOf, Cond.code yX3_churchOf cX3_churchOf 4 (some .int), Cond.fieldLink RX3 38 "BestBeastModel" "church" "I", Cond.methodLink RX3 94 yX3_bestOf, Cond.instanceMethod yX3_bestOf, Cond.selects RX3 yX3_bestOf yX3_bestOf, Cond.code yX3_bestOf cX3_bestOf 5 (some .int), Cond.fieldLink RX3 70 "BestBeastModel" "least" "I"]
def wsX3_isRolledBy : List Cond := .code yX3_isRolledBy cX3_isRolledBy 5 (some .boolean) :: ((wsX3_isRolledBy_r1 ++ wsX3_isRolledBy_r2) ++ wsX30)
def wsX3_whose_r1 : List Cond := [Cond.fieldLink RX3 16 "BestBeastModel" "rows" "[I", Cond.fieldLink RX3 76 "BestBeastModel" "holders" "I", Cond.methodLink RX3 129 yX3_isBeast, Cond.instanceMethod yX3_isBeast, Cond.selects RX3 yX3_isBeast yX3_isBeast, Cond.initialized RX3, Cond.code yX3_isBeast cX3_isBeast 2 (some .boolean), Cond.fieldLink RX3 79 "BestBeastModel" "beasts" "I", Cond.methodLink RX3 49 yX3_in, Cond.static yX3_in, Cond.code yX3_in cX3_in 6 (some .boolean), Cond.methodLink RX3 117 yX3_isHolder, Cond.instanceMethod yX3_isHolder, Cond.selects RX3 yX3_isHolder yX3_isHolder, Cond.code yX3_isHolder cX3_isHolder 2 (some .boolean), Cond.methodLink RX3 110 yX3_lives, Cond.instanceMethod yX3_lives, Cond.selects RX3 yX3_lives yX3_lives, Cond.code yX3_lives cX3_lives 2 (some .boolean), Cond.fieldLink RX3 13 "BestBeastModel" "men" "[I", Cond.methodLink RX3 125 yX3_lay, Cond.instanceMethod yX3_lay, Cond.selects RX3 yX3_lay yX3_lay, Cond.code yX3_lay cX3_lay 5 none]
def wsX3_whose_r2 : List Cond := [Cond.methodLink RX3 166 yX3_isRolledBy, Cond.instanceMethod yX3_isRolledBy, Cond.selects RX3 yX3_isRolledBy yX3_isRolledBy, Cond.code yX3_isRolledBy cX3_isRolledBy 5 (some .boolean), Cond.fieldLink RX3 104 "BestBeastModel" "yearNow" "I", Cond.methodLink RX3 107 yX3_heldBits, Cond.instanceMethod yX3_heldBits, Cond.selects RX3 yX3_heldBits yX3_heldBits, Cond.code yX3_heldBits cX3_heldBits 6 (some .int), Cond.fieldLink RX3 41 "BestBeastModel" "voidYears" "I", Cond.methodLink RX3 84 yX3_hisBits, Cond.instanceMethod yX3_hisBits, Cond.selects RX3 yX3_hisBits yX3_hisBits, Cond.code yX3_hisBits cX3_hisBits 4 (some .int), Cond.methodLink RX3 97 yX3_takenOf, Cond.instanceMethod yX3_takenOf, Cond.selects RX3 yX3_takenOf yX3_takenOf, Cond.code yX3_takenOf cX3_takenOf 7 (some .int), Cond.methodLink RX3 88 yX3_lordOf, Cond.instanceMethod yX3_lordOf, Cond.selects RX3 yX3_lordOf yX3_lordOf, Cond.code yX3_lordOf cX3_lordOf 4 (some .int), Cond.fieldLink RX3 34 "BestBeastModel" "lord" "I", Cond.methodLink RX3 91 yX3_churchOf]
def wsX3_whose_r3 : List Cond := [Cond.instanceMethod yX3_churchOf, Cond.selects RX3 yX3_churchOf yX3_churchOf, Cond.code yX3_churchOf cX3_churchOf 4 (some .int), Cond.fieldLink RX3 38 "BestBeastModel" "church" "I", Cond.methodLink RX3 94 yX3_bestOf, Cond.instanceMethod yX3_bestOf, Cond.selects RX3 yX3_bestOf yX3_bestOf, Cond.code yX3_bestOf cX3_bestOf 5 (some .int), Cond.fieldLink RX3 70 "BestBeastModel" "least" "I"]
def wsX3_whose : List Cond := .code yX3_whose cX3_whose 8 (some .int) :: ((wsX3_whose_r1 ++ (wsX3_whose_r2 ++ wsX3_whose_r3)) ++ wsX30)
def wsX3_draw : List Cond := .code yX3_draw cX3_draw 2 (some .int) :: ([.constantLong RX3 169 (1103515245), .fieldLink RX3 171 "BestBeastModel" "seedNow" "I", .constantLong RX3 174 (12345), .constantLong RX3 176 (2147483647), .constant RX3 178 (65536)] ++ wsX30)
def wsX3_copy : List Cond := .code yX3_copy cX3_copy 3 none :: ([])
def wsX3_livingMany : List Cond := .code yX3_livingMany cX3_livingMany 3 (some .int) :: ([.fieldLink RX3 76 "BestBeastModel" "holders" "I", .fieldLink RX3 13 "BestBeastModel" "men" "[I"] ++ wsX30)
def wsX3_manors_r1 : List Cond := [Cond.constantLong RX3 179 (60), Cond.constantLong RX3 181 (2), Cond.fieldLink RX3 76 "BestBeastModel" "holders" "I", Cond.fieldLink RX3 13 "BestBeastModel" "men" "[I", Cond.fieldLink RX3 19 "BestBeastModel" "savedMen" "[I", Cond.fieldLink RX3 16 "BestBeastModel" "rows" "[I", Cond.fieldLink RX3 22 "BestBeastModel" "savedRows" "[I", Cond.fieldLink RX3 104 "BestBeastModel" "yearNow" "I", Cond.fieldLink RX3 171 "BestBeastModel" "seedNow" "I", Cond.fieldLink RX3 79 "BestBeastModel" "beasts" "I", Cond.methodLink RX3 49 yX3_in, Cond.static yX3_in, Cond.initialized RX3, Cond.code yX3_in cX3_in 6 (some .boolean), Cond.methodLink RX3 183 yX3_copy, Cond.static yX3_copy, Cond.code yX3_copy cX3_copy 3 none, Cond.methodLink RX3 110 yX3_lives, Cond.instanceMethod yX3_lives, Cond.selects RX3 yX3_lives yX3_lives, Cond.code yX3_lives cX3_lives 2 (some .boolean), Cond.methodLink RX3 187 yX3_draw, Cond.instanceMethod yX3_draw, Cond.selects RX3 yX3_draw yX3_draw]
def wsX3_manors_r2 : List Cond := [Cond.code yX3_draw cX3_draw 2 (some .int), Cond.constantLong RX3 169 (1103515245), Cond.constantLong RX3 174 (12345), Cond.constantLong RX3 176 (2147483647), Cond.constant RX3 178 (65536), Cond.methodLink RX3 139 yX3_dies, Cond.instanceMethod yX3_dies, Cond.selects RX3 yX3_dies yX3_dies, Cond.code yX3_dies cX3_dies 6 (some .int), Cond.methodLink RX3 107 yX3_heldBits, Cond.instanceMethod yX3_heldBits, Cond.selects RX3 yX3_heldBits yX3_heldBits, Cond.code yX3_heldBits cX3_heldBits 6 (some .int), Cond.fieldLink RX3 41 "BestBeastModel" "voidYears" "I", Cond.methodLink RX3 84 yX3_hisBits, Cond.instanceMethod yX3_hisBits, Cond.selects RX3 yX3_hisBits yX3_hisBits, Cond.code yX3_hisBits cX3_hisBits 4 (some .int), Cond.methodLink RX3 97 yX3_takenOf, Cond.instanceMethod yX3_takenOf, Cond.selects RX3 yX3_takenOf yX3_takenOf, Cond.code yX3_takenOf cX3_takenOf 7 (some .int), Cond.methodLink RX3 88 yX3_lordOf, Cond.instanceMethod yX3_lordOf]
def wsX3_manors_r3 : List Cond := [Cond.selects RX3 yX3_lordOf yX3_lordOf, Cond.code yX3_lordOf cX3_lordOf 4 (some .int), Cond.fieldLink RX3 34 "BestBeastModel" "lord" "I", Cond.methodLink RX3 91 yX3_churchOf, Cond.instanceMethod yX3_churchOf, Cond.selects RX3 yX3_churchOf yX3_churchOf, Cond.code yX3_churchOf cX3_churchOf 4 (some .int), Cond.fieldLink RX3 38 "BestBeastModel" "church" "I", Cond.methodLink RX3 94 yX3_bestOf, Cond.instanceMethod yX3_bestOf, Cond.selects RX3 yX3_bestOf yX3_bestOf, Cond.code yX3_bestOf cX3_bestOf 5 (some .int), Cond.fieldLink RX3 70 "BestBeastModel" "least" "I", Cond.methodLink RX3 101 yX3_worthOf, Cond.instanceMethod yX3_worthOf, Cond.selects RX3 yX3_worthOf yX3_worthOf, Cond.code yX3_worthOf cX3_worthOf 4 (some .int), Cond.methodLink RX3 125 yX3_lay, Cond.instanceMethod yX3_lay, Cond.selects RX3 yX3_lay yX3_lay, Cond.code yX3_lay cX3_lay 5 none, Cond.methodLink RX3 132 yX3_mayGive, Cond.instanceMethod yX3_mayGive, Cond.selects RX3 yX3_mayGive yX3_mayGive]
def wsX3_manors_r4 : List Cond := [Cond.code yX3_mayGive cX3_mayGive 4 (some .boolean), Cond.methodLink RX3 135 yX3_gives, Cond.instanceMethod yX3_gives, Cond.selects RX3 yX3_gives yX3_gives, Cond.code yX3_gives cX3_gives 3 none, Cond.methodLink RX3 190 yX3_livingMany, Cond.instanceMethod yX3_livingMany, Cond.selects RX3 yX3_livingMany yX3_livingMany, Cond.code yX3_livingMany cX3_livingMany 3 (some .int)]
def wsX3_manors : List Cond := .code yX3_manors cX3_manors 9 (some .int) :: ((wsX3_manors_r1 ++ (wsX3_manors_r2 ++ (wsX3_manors_r3 ++ wsX3_manors_r4))) ++ wsX30)
def wsX3_image : List Cond := .code yX3_image cX3_image 1 (some .int) :: ([.fieldLink RX3 13 "BestBeastModel" "men" "[I", .fieldLink RX3 25 "BestBeastModel" "keptMen" "[I", .fieldLink RX3 16 "BestBeastModel" "rows" "[I", .fieldLink RX3 28 "BestBeastModel" "keptRows" "[I", .fieldLink RX3 31 "BestBeastModel" "keptLaw" "[I", .fieldLink RX3 34 "BestBeastModel" "lord" "I", .fieldLink RX3 38 "BestBeastModel" "church" "I", .fieldLink RX3 41 "BestBeastModel" "voidYears" "I", .fieldLink RX3 70 "BestBeastModel" "least" "I", .fieldLink RX3 76 "BestBeastModel" "holders" "I", .fieldLink RX3 193 "BestBeastModel" "keptHolders" "I", .fieldLink RX3 79 "BestBeastModel" "beasts" "I", .fieldLink RX3 196 "BestBeastModel" "keptBeasts" "I", .fieldLink RX3 142 "BestBeastModel" "taken" "I", .fieldLink RX3 199 "BestBeastModel" "keptTaken" "I", .fieldLink RX3 104 "BestBeastModel" "yearNow" "I", .fieldLink RX3 44 "BestBeastModel" "keptYear" "I", .methodLink RX3 183 yX3_copy, .static yX3_copy, .initialized RX3, .code yX3_copy cX3_copy 3 none] ++ wsX30)
def wsX3_restore : List Cond := .code yX3_restore cX3_restore 1 (some .int) :: ([.fieldLink RX3 44 "BestBeastModel" "keptYear" "I", .fieldLink RX3 25 "BestBeastModel" "keptMen" "[I", .fieldLink RX3 13 "BestBeastModel" "men" "[I", .fieldLink RX3 28 "BestBeastModel" "keptRows" "[I", .fieldLink RX3 16 "BestBeastModel" "rows" "[I", .fieldLink RX3 31 "BestBeastModel" "keptLaw" "[I", .fieldLink RX3 34 "BestBeastModel" "lord" "I", .fieldLink RX3 38 "BestBeastModel" "church" "I", .fieldLink RX3 41 "BestBeastModel" "voidYears" "I", .fieldLink RX3 70 "BestBeastModel" "least" "I", .fieldLink RX3 193 "BestBeastModel" "keptHolders" "I", .fieldLink RX3 76 "BestBeastModel" "holders" "I", .fieldLink RX3 196 "BestBeastModel" "keptBeasts" "I", .fieldLink RX3 79 "BestBeastModel" "beasts" "I", .fieldLink RX3 199 "BestBeastModel" "keptTaken" "I", .fieldLink RX3 142 "BestBeastModel" "taken" "I", .fieldLink RX3 104 "BestBeastModel" "yearNow" "I", .methodLink RX3 183 yX3_copy, .static yX3_copy, .initialized RX3, .code yX3_copy cX3_copy 3 none] ++ wsX30)
def wsX3_thereMany : List Cond := .code yX3_thereMany cX3_thereMany 3 (some .int) :: ([.fieldLink RX3 79 "BestBeastModel" "beasts" "I", .fieldLink RX3 16 "BestBeastModel" "rows" "[I"] ++ wsX30)
def wsX3_countOf : List Cond := .code yX3_countOf cX3_countOf 2 (some .int) :: ([.fieldLink RX3 34 "BestBeastModel" "lord" "I", .fieldLink RX3 38 "BestBeastModel" "church" "I", .fieldLink RX3 41 "BestBeastModel" "voidYears" "I", .fieldLink RX3 70 "BestBeastModel" "least" "I", .fieldLink RX3 76 "BestBeastModel" "holders" "I", .fieldLink RX3 79 "BestBeastModel" "beasts" "I", .fieldLink RX3 104 "BestBeastModel" "yearNow" "I", .fieldLink RX3 142 "BestBeastModel" "taken" "I", .fieldLink RX3 53 "BestBeastModel" "pageMany" "I", .fieldLink RX3 73 "BestBeastModel" "lawsRead" "I", .methodLink RX3 190 yX3_livingMany, .instanceMethod yX3_livingMany, .selects RX3 yX3_livingMany yX3_livingMany, .initialized RX3, .code yX3_livingMany cX3_livingMany 3 (some .int), .fieldLink RX3 13 "BestBeastModel" "men" "[I", .methodLink RX3 202 yX3_thereMany, .instanceMethod yX3_thereMany, .selects RX3 yX3_thereMany yX3_thereMany, .code yX3_thereMany cX3_thereMany 3 (some .int), .fieldLink RX3 16 "BestBeastModel" "rows" "[I"] ++ wsX30)
def wsX3_count_r1 : List Cond := [Cond.methodLink RX3 205 yX3_countOf, Cond.instanceMethod yX3_countOf, Cond.selects RX3 yX3_countOf yX3_countOf, Cond.initialized RX3, Cond.code yX3_countOf cX3_countOf 2 (some .int), Cond.fieldLink RX3 34 "BestBeastModel" "lord" "I", Cond.fieldLink RX3 38 "BestBeastModel" "church" "I", Cond.fieldLink RX3 41 "BestBeastModel" "voidYears" "I", Cond.fieldLink RX3 70 "BestBeastModel" "least" "I", Cond.fieldLink RX3 76 "BestBeastModel" "holders" "I", Cond.fieldLink RX3 79 "BestBeastModel" "beasts" "I", Cond.fieldLink RX3 104 "BestBeastModel" "yearNow" "I", Cond.fieldLink RX3 142 "BestBeastModel" "taken" "I", Cond.fieldLink RX3 53 "BestBeastModel" "pageMany" "I", Cond.fieldLink RX3 73 "BestBeastModel" "lawsRead" "I", Cond.methodLink RX3 190 yX3_livingMany, Cond.instanceMethod yX3_livingMany, Cond.selects RX3 yX3_livingMany yX3_livingMany, Cond.code yX3_livingMany cX3_livingMany 3 (some .int), Cond.fieldLink RX3 13 "BestBeastModel" "men" "[I", Cond.methodLink RX3 202 yX3_thereMany, Cond.instanceMethod yX3_thereMany, Cond.selects RX3 yX3_thereMany yX3_thereMany, Cond.code yX3_thereMany cX3_thereMany 3 (some .int)]
def wsX3_count_r2 : List Cond := [Cond.fieldLink RX3 16 "BestBeastModel" "rows" "[I"]
def wsX3_count : List Cond := .code yX3_count cX3_count 2 (some .int) :: ((wsX3_count_r1 ++ wsX3_count_r2) ++ wsX30)
def wsX3_say : List Cond := .code yX3_say cX3_say 3 none :: ([.constantLong RX3 208 (31), .fieldLink RX3 210 "BestBeastModel" "hash" "J"] ++ wsX30)
def wsX3_digest_r1 : List Cond := [Cond.constantLong RX3 214 (827), Cond.fieldLink RX3 210 "BestBeastModel" "hash" "J", Cond.fieldLink RX3 76 "BestBeastModel" "holders" "I", Cond.fieldLink RX3 79 "BestBeastModel" "beasts" "I", Cond.fieldLink RX3 16 "BestBeastModel" "rows" "[I", Cond.fieldLink RX3 53 "BestBeastModel" "pageMany" "I", Cond.fieldLink RX3 7 "BestBeastModel" "page" "[I", Cond.methodLink RX3 120 yX3_tell, Cond.instanceMethod yX3_tell, Cond.selects RX3 yX3_tell yX3_tell, Cond.initialized RX3, Cond.code yX3_tell cX3_tell 3 (some .int), Cond.fieldLink RX3 13 "BestBeastModel" "men" "[I", Cond.fieldLink RX3 104 "BestBeastModel" "yearNow" "I", Cond.methodLink RX3 84 yX3_hisBits, Cond.instanceMethod yX3_hisBits, Cond.selects RX3 yX3_hisBits yX3_hisBits, Cond.code yX3_hisBits cX3_hisBits 4 (some .int), Cond.methodLink RX3 107 yX3_heldBits, Cond.instanceMethod yX3_heldBits, Cond.selects RX3 yX3_heldBits yX3_heldBits, Cond.code yX3_heldBits cX3_heldBits 6 (some .int), Cond.fieldLink RX3 41 "BestBeastModel" "voidYears" "I", Cond.methodLink RX3 88 yX3_lordOf]
def wsX3_digest_r2 : List Cond := [Cond.instanceMethod yX3_lordOf, Cond.selects RX3 yX3_lordOf yX3_lordOf, Cond.code yX3_lordOf cX3_lordOf 4 (some .int), Cond.fieldLink RX3 34 "BestBeastModel" "lord" "I", Cond.methodLink RX3 91 yX3_churchOf, Cond.instanceMethod yX3_churchOf, Cond.selects RX3 yX3_churchOf yX3_churchOf, Cond.code yX3_churchOf cX3_churchOf 4 (some .int), Cond.fieldLink RX3 38 "BestBeastModel" "church" "I", Cond.methodLink RX3 110 yX3_lives, Cond.instanceMethod yX3_lives, Cond.selects RX3 yX3_lives yX3_lives, Cond.code yX3_lives cX3_lives 2 (some .boolean), Cond.methodLink RX3 114 yX3_lossBy, Cond.instanceMethod yX3_lossBy, Cond.selects RX3 yX3_lossBy yX3_lossBy, Cond.code yX3_lossBy cX3_lossBy 3 (some .int), Cond.methodLink RX3 97 yX3_takenOf, Cond.instanceMethod yX3_takenOf, Cond.selects RX3 yX3_takenOf yX3_takenOf, Cond.code yX3_takenOf cX3_takenOf 7 (some .int), Cond.methodLink RX3 94 yX3_bestOf, Cond.instanceMethod yX3_bestOf, Cond.selects RX3 yX3_bestOf yX3_bestOf]
def wsX3_digest_r3 : List Cond := [Cond.code yX3_bestOf cX3_bestOf 5 (some .int), Cond.fieldLink RX3 70 "BestBeastModel" "least" "I", Cond.methodLink RX3 101 yX3_worthOf, Cond.instanceMethod yX3_worthOf, Cond.selects RX3 yX3_worthOf yX3_worthOf, Cond.code yX3_worthOf cX3_worthOf 4 (some .int), Cond.methodLink RX3 216 yX3_say, Cond.instanceMethod yX3_say, Cond.selects RX3 yX3_say yX3_say, Cond.code yX3_say cX3_say 3 none, Cond.constantLong RX3 208 (31), Cond.methodLink RX3 148 yX3_safeOf, Cond.instanceMethod yX3_safeOf, Cond.selects RX3 yX3_safeOf yX3_safeOf, Cond.code yX3_safeOf cX3_safeOf 8 (some .int), Cond.methodLink RX3 145 yX3_ones, Cond.static yX3_ones, Cond.code yX3_ones cX3_ones 3 (some .int), Cond.methodLink RX3 155 yX3_givingOf, Cond.instanceMethod yX3_givingOf, Cond.selects RX3 yX3_givingOf yX3_givingOf, Cond.code yX3_givingOf cX3_givingOf 9 (some .int), Cond.methodLink RX3 151 yX3_lostBy, Cond.instanceMethod yX3_lostBy]
def wsX3_digest_r4 : List Cond := [Cond.selects RX3 yX3_lostBy yX3_lostBy, Cond.code yX3_lostBy cX3_lostBy 11 (some .int), Cond.methodLink RX3 161 yX3_meanOf, Cond.instanceMethod yX3_meanOf, Cond.selects RX3 yX3_meanOf yX3_meanOf, Cond.code yX3_meanOf cX3_meanOf 6 (some .int), Cond.methodLink RX3 158 yX3_term, Cond.static yX3_term, Cond.code yX3_term cX3_term 6 (some .int), Cond.methodLink RX3 205 yX3_countOf, Cond.instanceMethod yX3_countOf, Cond.selects RX3 yX3_countOf yX3_countOf, Cond.code yX3_countOf cX3_countOf 2 (some .int), Cond.fieldLink RX3 142 "BestBeastModel" "taken" "I", Cond.fieldLink RX3 73 "BestBeastModel" "lawsRead" "I", Cond.methodLink RX3 190 yX3_livingMany, Cond.instanceMethod yX3_livingMany, Cond.selects RX3 yX3_livingMany yX3_livingMany, Cond.code yX3_livingMany cX3_livingMany 3 (some .int), Cond.methodLink RX3 202 yX3_thereMany, Cond.instanceMethod yX3_thereMany, Cond.selects RX3 yX3_thereMany yX3_thereMany, Cond.code yX3_thereMany cX3_thereMany 3 (some .int)]
def wsX3_digest : List Cond := .code yX3_digest cX3_digest 3 (some .long) :: ((wsX3_digest_r1 ++ (wsX3_digest_r2 ++ (wsX3_digest_r3 ++ wsX3_digest_r4))) ++ wsX30)
def wsJ9_max_7cf53 : List Cond := .code yJ9_max_7cf53 cJ9_max_7cf53 2 (some .int) :: ([])
def wsL_law_r1 : List Cond := [Cond.classLink RL 7 RX2, Cond.instantiable RX2 8, Cond.initialized RX2, Cond.classLink RL 10 RX3, Cond.instantiable RX3 24, Cond.initialized RX3, Cond.methodLink RL 9 yX2_init, Cond.instanceMethod yX2_init, Cond.code yX2_init cX2_init 1 none, Cond.methodLink RX2 1 objectInit, Cond.instanceMethod objectInit, Cond.code objectInit ⟨#[0xb1]⟩ 1 none, Cond.classLink RX2 7 RX1, Cond.instantiable RX1 17, Cond.initialized RX1, Cond.fieldLink RX2 10 "BestBeast" "manor" "LBestBeast$Manor;", Cond.fieldLink RX2 16 "BestBeast" "kept" "LBestBeast$Manor;", Cond.fieldLink RX2 19 "BestBeast" "trial" "LBestBeast$Manor;", Cond.classLink RX2 22 RX0, Cond.instantiable RX0 1, Cond.initialized RX0, Cond.fieldLink RX2 25 "BestBeast" "draws" "LBestBeast$Draws;", Cond.arrayClass .int, Cond.fieldLink RX2 29 "BestBeast" "page" "[I"]
def wsL_law_r2 : List Cond := [Cond.fieldLink RX2 33 "BestBeast" "letters" "I", Cond.fieldLink RX2 37 "BestBeast" "lawsRead" "I", Cond.fieldLink RX2 40 "BestBeast" "hasImage" "Z", Cond.instanceMethod yX1_init, Cond.code yX1_init cX1_init 1 none, Cond.methodLink RX1 3 objectInit, Cond.fieldLink RX1 9 "BestBeast$Manor" "lord" "I", Cond.fieldLink RX1 15 "BestBeast$Manor" "church" "I", Cond.fieldLink RX1 18 "BestBeast$Manor" "voidYears" "I", Cond.fieldLink RX1 21 "BestBeast$Manor" "least" "I", Cond.fieldLink RX1 24 "BestBeast$Manor" "holders" "I", Cond.fieldLink RX1 27 "BestBeast$Manor" "kind" "[I", Cond.fieldLink RX1 31 "BestBeast$Manor" "death" "[I", Cond.fieldLink RX1 34 "BestBeast$Manor" "heirOf" "[I", Cond.arrayClass .boolean, Cond.fieldLink RX1 37 "BestBeast$Manor" "alive" "[Z", Cond.fieldLink RX1 41 "BestBeast$Manor" "beasts" "I", Cond.fieldLink RX1 44 "BestBeast$Manor" "worth" "[I", Cond.fieldLink RX1 47 "BestBeast$Manor" "owner" "[I", Cond.fieldLink RX1 50 "BestBeast$Manor" "giver" "[I", Cond.fieldLink RX1 53 "BestBeast$Manor" "givenIn" "[I", Cond.fieldLink RX1 56 "BestBeast$Manor" "told" "[I", Cond.fieldLink RX1 59 "BestBeast$Manor" "yearNow" "I", Cond.fieldLink RX1 62 "BestBeast$Manor" "takenWorth" "I"]
def wsL_law_r3 : List Cond := [Cond.instanceMethod yX0_init, Cond.code yX0_init cX0_init 1 none, Cond.methodLink RX0 1 objectInit, Cond.fieldLink RX0 7 "BestBeast$Draws" "seed" "I", Cond.methodLink RL 12 yX3_init, Cond.instanceMethod yX3_init, Cond.code yX3_init cX3_init 1 none, Cond.methodLink RX3 1 objectInit, Cond.fieldLink RX3 7 "BestBeastModel" "page" "[I", Cond.fieldLink RX3 13 "BestBeastModel" "men" "[I", Cond.fieldLink RX3 16 "BestBeastModel" "rows" "[I", Cond.fieldLink RX3 19 "BestBeastModel" "savedMen" "[I", Cond.fieldLink RX3 22 "BestBeastModel" "savedRows" "[I", Cond.fieldLink RX3 25 "BestBeastModel" "keptMen" "[I", Cond.fieldLink RX3 28 "BestBeastModel" "keptRows" "[I", Cond.fieldLink RX3 31 "BestBeastModel" "keptLaw" "[I", Cond.fieldLink RX3 34 "BestBeastModel" "lord" "I", Cond.fieldLink RX3 38 "BestBeastModel" "church" "I", Cond.fieldLink RX3 41 "BestBeastModel" "voidYears" "I", Cond.fieldLink RX3 44 "BestBeastModel" "keptYear" "I", Cond.methodLink RL 13 yX2_letter, Cond.instanceMethod yX2_letter, Cond.selects RX2 yX2_letter yX2_letter, Cond.code yX2_letter cX2_letter 2 (some .int)]
def wsL_law_r4 : List Cond := [Cond.methodLink RX2 44 yX2_within, Cond.static yX2_within, Cond.code yX2_within cX2_within 3 (some .boolean), Cond.methodLink RL 17 yX3_letter, Cond.instanceMethod yX3_letter, Cond.selects RX3 yX3_letter yX3_letter, Cond.code yX3_letter cX3_letter 2 (some .int), Cond.constantLong RX3 47 (126), Cond.fieldLink RX3 53 "BestBeastModel" "pageMany" "I", Cond.methodLink RX3 49 yX3_in, Cond.static yX3_in, Cond.code yX3_in cX3_in 6 (some .boolean), Cond.methodLink RL 18 yX2_blank, Cond.instanceMethod yX2_blank, Cond.selects RX2 yX2_blank yX2_blank, Cond.code yX2_blank cX2_blank 2 (some .int), Cond.methodLink RL 22 yX3_blank, Cond.instanceMethod yX3_blank, Cond.selects RX3 yX3_blank yX3_blank, Cond.code yX3_blank cX3_blank 2 (some .int), Cond.methodLink RL 23 yX2_fault, Cond.instanceMethod yX2_fault, Cond.selects RX2 yX2_fault yX2_fault, Cond.code yX2_fault cX2_fault 2 (some .int)]
def wsL_law_r5 : List Cond := [Cond.methodLink RX2 48 yX2_fitsLaw, Cond.instanceMethod yX2_fitsLaw, Cond.selects RX2 yX2_fitsLaw yX2_fitsLaw, Cond.code yX2_fitsLaw cX2_fitsLaw 2 (some .boolean), Cond.fieldLink RX2 52 "BestBeast" "LAW_FROM" "[C", Cond.fieldLink RX2 72 "BestBeast" "LAW_TO" "[C", Cond.methodLink RL 26 yX3_fault, Cond.instanceMethod yX3_fault, Cond.selects RX3 yX3_fault yX3_fault, Cond.code yX3_fault cX3_fault 1 (some .int), Cond.methodLink RX3 66 yX3_faultOf, Cond.instanceMethod yX3_faultOf, Cond.selects RX3 yX3_faultOf yX3_faultOf, Cond.code yX3_faultOf cX3_faultOf 2 (some .int), Cond.methodLink RX3 62 yX3_isGood, Cond.static yX3_isGood, Cond.code yX3_isGood cX3_isGood 3 (some .boolean), Cond.constantLong RX3 56 (3), Cond.constantLong RX3 58 (5), Cond.constantLong RX3 60 (9), Cond.methodLink RL 27 yX2_law, Cond.instanceMethod yX2_law, Cond.selects RX2 yX2_law yX2_law, Cond.code yX2_law cX2_law 1 (some .int)]
def wsL_law_r6 : List Cond := [Cond.fieldLink RX2 60 "BestBeast$Manor" "lord" "I", Cond.fieldLink RX2 63 "BestBeast$Manor" "church" "I", Cond.fieldLink RX2 66 "BestBeast$Manor" "voidYears" "I", Cond.fieldLink RX2 69 "BestBeast$Manor" "least" "I", Cond.methodLink RX2 56 yX2_fault, Cond.methodLink RL 30 yX3_law, Cond.instanceMethod yX3_law, Cond.selects RX3 yX3_law yX3_law, Cond.code yX3_law cX3_law 1 (some .int), Cond.fieldLink RX3 70 "BestBeastModel" "least" "I", Cond.fieldLink RX3 73 "BestBeastModel" "lawsRead" "I", Cond.methodLink RL 31 yX2_holder, Cond.instanceMethod yX2_holder, Cond.selects RX2 yX2_holder yX2_holder, Cond.code yX2_holder cX2_holder 3 (some .int), Cond.fieldLink RX2 75 "BestBeast$Manor" "holders" "I", Cond.methodLink RX2 78 yX1_addHolder, Cond.instanceMethod yX1_addHolder, Cond.selects RX1 yX1_addHolder yX1_addHolder, Cond.code yX1_addHolder cX1_addHolder 4 (some .int), Cond.methodLink RL 35 yX3_holder, Cond.instanceMethod yX3_holder, Cond.selects RX3 yX3_holder yX3_holder, Cond.code yX3_holder cX3_holder 3 (some .int)]
def wsL_law_r7 : List Cond := [Cond.constantLong RX3 82 (4), Cond.fieldLink RX3 76 "BestBeastModel" "holders" "I", Cond.methodLink RL 36 yX2_about, Cond.instanceMethod yX2_about, Cond.selects RX2 yX2_about yX2_about, Cond.code yX2_about cX2_about 3 (some .int), Cond.fieldLink RX2 85 "BestBeast$Manor" "kind" "[I", Cond.fieldLink RX2 88 "BestBeast$Manor" "death" "[I", Cond.fieldLink RX2 91 "BestBeast$Manor" "alive" "[Z", Cond.fieldLink RX2 95 "BestBeast$Manor" "heirOf" "[I", Cond.methodLink RX2 82 yX1_hasHolder, Cond.instanceMethod yX1_hasHolder, Cond.selects RX1 yX1_hasHolder yX1_hasHolder, Cond.code yX1_hasHolder cX1_hasHolder 2 (some .boolean), Cond.methodLink RX2 98 yX1_ownBits, Cond.instanceMethod yX1_ownBits, Cond.selects RX1 yX1_ownBits yX1_ownBits, Cond.code yX1_ownBits cX1_ownBits 4 (some .int), Cond.methodLink RX1 78 yX1_hasBeast, Cond.instanceMethod yX1_hasBeast, Cond.selects RX1 yX1_hasBeast yX1_hasBeast, Cond.code yX1_hasBeast cX1_hasBeast 2 (some .boolean), Cond.methodLink RX2 102 yX1_heldBits, Cond.instanceMethod yX1_heldBits]
def wsL_law_r8 : List Cond := [Cond.selects RX1 yX1_heldBits yX1_heldBits, Cond.code yX1_heldBits cX1_heldBits 2 (some .int), Cond.methodLink RX1 95 yX1_heldLater, Cond.instanceMethod yX1_heldLater, Cond.selects RX1 yX1_heldLater yX1_heldLater, Cond.code yX1_heldLater cX1_heldLater 6 (some .int), Cond.methodLink RX1 99 yX1_ownBits, Cond.methodLink RX2 105 yX1_lordMay, Cond.instanceMethod yX1_lordMay, Cond.selects RX1 yX1_lordMay yX1_lordMay, Cond.code yX1_lordMay cX1_lordMay 2 (some .int), Cond.methodLink RX1 89 Lib.Math.max.name, Cond.static Lib.Math.max.name, Cond.initialized "java/lang/Math", Cond.code Lib.Math.max.name Lib.Math.max.code 2 (some .int), Cond.methodLink RX2 108 yX1_churchMay, Cond.instanceMethod yX1_churchMay, Cond.selects RX1 yX1_churchMay yX1_churchMay, Cond.code yX1_churchMay cX1_churchMay 2 (some .int), Cond.methodLink RX2 111 yX1_worthTaken, Cond.instanceMethod yX1_worthTaken, Cond.selects RX1 yX1_worthTaken yX1_worthTaken, Cond.code yX1_worthTaken cX1_worthTaken 3 (some .int), Cond.methodLink RX1 112 yX1_takenFrom]
def wsL_law_r9 : List Cond := [Cond.instanceMethod yX1_takenFrom, Cond.selects RX1 yX1_takenFrom yX1_takenFrom, Cond.code yX1_takenFrom cX1_takenFrom 7 (some .int), Cond.methodLink RX1 71 yX1_hasHolder, Cond.methodLink RX1 103 yX1_lordMay, Cond.methodLink RX1 106 yX1_churchMay, Cond.methodLink RX1 109 yX1_bestOf, Cond.instanceMethod yX1_bestOf, Cond.selects RX1 yX1_bestOf yX1_bestOf, Cond.code yX1_bestOf cX1_bestOf 5 (some .int), Cond.methodLink RX1 115 yX1_worthOf, Cond.instanceMethod yX1_worthOf, Cond.selects RX1 yX1_worthOf yX1_worthOf, Cond.code yX1_worthOf cX1_worthOf 4 (some .int), Cond.methodLink RL 39 yX3_about, Cond.instanceMethod yX3_about, Cond.selects RX3 yX3_about yX3_about, Cond.code yX3_about cX3_about 3 (some .int), Cond.methodLink RX3 117 yX3_isHolder, Cond.instanceMethod yX3_isHolder, Cond.selects RX3 yX3_isHolder yX3_isHolder, Cond.code yX3_isHolder cX3_isHolder 2 (some .boolean), Cond.methodLink RX3 120 yX3_tell, Cond.instanceMethod yX3_tell]
def wsL_law_r10 : List Cond := [Cond.selects RX3 yX3_tell yX3_tell, Cond.code yX3_tell cX3_tell 3 (some .int), Cond.fieldLink RX3 104 "BestBeastModel" "yearNow" "I", Cond.methodLink RX3 84 yX3_hisBits, Cond.instanceMethod yX3_hisBits, Cond.selects RX3 yX3_hisBits yX3_hisBits, Cond.code yX3_hisBits cX3_hisBits 4 (some .int), Cond.fieldLink RX3 79 "BestBeastModel" "beasts" "I", Cond.methodLink RX3 107 yX3_heldBits, Cond.instanceMethod yX3_heldBits, Cond.selects RX3 yX3_heldBits yX3_heldBits, Cond.code yX3_heldBits cX3_heldBits 6 (some .int), Cond.methodLink RX3 88 yX3_lordOf, Cond.instanceMethod yX3_lordOf, Cond.selects RX3 yX3_lordOf yX3_lordOf, Cond.code yX3_lordOf cX3_lordOf 4 (some .int), Cond.methodLink RX3 91 yX3_churchOf, Cond.instanceMethod yX3_churchOf, Cond.selects RX3 yX3_churchOf yX3_churchOf, Cond.code yX3_churchOf cX3_churchOf 4 (some .int), Cond.methodLink RX3 110 yX3_lives, Cond.instanceMethod yX3_lives, Cond.selects RX3 yX3_lives yX3_lives, Cond.code yX3_lives cX3_lives 2 (some .boolean)]
def wsL_law_r11 : List Cond := [Cond.methodLink RX3 114 yX3_lossBy, Cond.instanceMethod yX3_lossBy, Cond.selects RX3 yX3_lossBy yX3_lossBy, Cond.code yX3_lossBy cX3_lossBy 3 (some .int), Cond.methodLink RX3 97 yX3_takenOf, Cond.instanceMethod yX3_takenOf, Cond.selects RX3 yX3_takenOf yX3_takenOf, Cond.code yX3_takenOf cX3_takenOf 7 (some .int), Cond.methodLink RX3 94 yX3_bestOf, Cond.instanceMethod yX3_bestOf, Cond.selects RX3 yX3_bestOf yX3_bestOf, Cond.code yX3_bestOf cX3_bestOf 5 (some .int), Cond.methodLink RX3 101 yX3_worthOf, Cond.instanceMethod yX3_worthOf, Cond.selects RX3 yX3_worthOf yX3_worthOf, Cond.code yX3_worthOf cX3_worthOf 4 (some .int), Cond.methodLink RL 40 yX2_as, Cond.instanceMethod yX2_as, Cond.selects RX2 yX2_as yX2_as, Cond.code yX2_as cX2_as 3 (some .int), Cond.methodLink RX2 114 yX2_isSuch, Cond.static yX2_isSuch, Cond.code yX2_isSuch cX2_isSuch 2 (some .boolean), Cond.methodLink RL 43 yX3_as]
def wsL_law_r12 : List Cond := [Cond.instanceMethod yX3_as, Cond.selects RX3 yX3_as yX3_as, Cond.code yX3_as cX3_as 5 (some .int), Cond.methodLink RL 44 yX2_heir, Cond.instanceMethod yX2_heir, Cond.selects RX2 yX2_heir yX2_heir, Cond.code yX2_heir cX2_heir 4 (some .int), Cond.methodLink RL 47 yX3_heir, Cond.instanceMethod yX3_heir, Cond.selects RX3 yX3_heir yX3_heir, Cond.code yX3_heir cX3_heir 4 (some .int), Cond.methodLink RL 48 yX2_beast, Cond.instanceMethod yX2_beast, Cond.selects RX2 yX2_beast yX2_beast, Cond.code yX2_beast cX2_beast 3 (some .int), Cond.fieldLink RX2 118 "BestBeast$Manor" "beasts" "I", Cond.methodLink RX2 121 yX1_addBeast, Cond.instanceMethod yX1_addBeast, Cond.selects RX1 yX1_addBeast yX1_addBeast, Cond.code yX1_addBeast cX1_addBeast 4 (some .int), Cond.methodLink RX1 81 yX1_putTo, Cond.instanceMethod yX1_putTo, Cond.selects RX1 yX1_putTo yX1_putTo, Cond.code yX1_putTo cX1_putTo 3 none]
def wsL_law_r13 : List Cond := [Cond.methodLink RL 51 yX3_beast, Cond.instanceMethod yX3_beast, Cond.selects RX3 yX3_beast yX3_beast, Cond.code yX3_beast cX3_beast 3 (some .int), Cond.constantLong RX3 123 (99), Cond.methodLink RX3 125 yX3_lay, Cond.instanceMethod yX3_lay, Cond.selects RX3 yX3_lay yX3_lay, Cond.code yX3_lay cX3_lay 5 none, Cond.methodLink RL 52 yX2_beastOf, Cond.instanceMethod yX2_beastOf, Cond.selects RX2 yX2_beastOf yX2_beastOf, Cond.code yX2_beastOf cX2_beastOf 3 (some .int), Cond.fieldLink RX2 127 "BestBeast$Manor" "worth" "[I", Cond.fieldLink RX2 130 "BestBeast$Manor" "owner" "[I", Cond.fieldLink RX2 133 "BestBeast$Manor" "giver" "[I", Cond.fieldLink RX2 136 "BestBeast$Manor" "givenIn" "[I", Cond.fieldLink RX2 139 "BestBeast$Manor" "told" "[I", Cond.methodLink RX2 124 yX1_hasBeast, Cond.methodLink RL 55 yX3_beastOf, Cond.instanceMethod yX3_beastOf, Cond.selects RX3 yX3_beastOf yX3_beastOf, Cond.code yX3_beastOf cX3_beastOf 3 (some .int), Cond.methodLink RX3 129 yX3_isBeast]
def wsL_law_r14 : List Cond := [Cond.instanceMethod yX3_isBeast, Cond.selects RX3 yX3_isBeast yX3_isBeast, Cond.code yX3_isBeast cX3_isBeast 2 (some .boolean), Cond.methodLink RL 56 yX2_give, Cond.instanceMethod yX2_give, Cond.selects RX2 yX2_give yX2_give, Cond.code yX2_give cX2_give 4 (some .int), Cond.methodLink RX2 142 yX1_mayGive, Cond.instanceMethod yX1_mayGive, Cond.selects RX1 yX1_mayGive yX1_mayGive, Cond.code yX1_mayGive cX1_mayGive 3 (some .boolean), Cond.methodLink RX1 75 yX1_isAlive, Cond.instanceMethod yX1_isAlive, Cond.selects RX1 yX1_isAlive yX1_isAlive, Cond.code yX1_isAlive cX1_isAlive 2 (some .boolean), Cond.methodLink RX2 145 yX1_makeGift, Cond.instanceMethod yX1_makeGift, Cond.selects RX1 yX1_makeGift yX1_makeGift, Cond.code yX1_makeGift cX1_makeGift 3 none, Cond.methodLink RX1 85 yX1_mayGive, Cond.methodLink RL 59 yX3_give, Cond.instanceMethod yX3_give, Cond.selects RX3 yX3_give yX3_give, Cond.code yX3_give cX3_give 4 (some .int)]
def wsL_law_r15 : List Cond := [Cond.methodLink RX3 132 yX3_mayGive, Cond.instanceMethod yX3_mayGive, Cond.selects RX3 yX3_mayGive yX3_mayGive, Cond.code yX3_mayGive cX3_mayGive 4 (some .boolean), Cond.methodLink RX3 135 yX3_gives, Cond.instanceMethod yX3_gives, Cond.selects RX3 yX3_gives yX3_gives, Cond.code yX3_gives cX3_gives 3 none, Cond.methodLink RL 60 yX2_die, Cond.instanceMethod yX2_die, Cond.selects RX2 yX2_die yX2_die, Cond.code yX2_die cX2_die 2 (some .int), Cond.methodLink RX2 149 yX1_bury, Cond.instanceMethod yX1_bury, Cond.selects RX1 yX1_bury yX1_bury, Cond.code yX1_bury cX1_bury 6 (some .int), Cond.methodLink RX1 118 yX1_heldBits, Cond.methodLink RL 63 yX3_die, Cond.instanceMethod yX3_die, Cond.selects RX3 yX3_die yX3_die, Cond.code yX3_die cX3_die 3 (some .int), Cond.fieldLink RX3 142 "BestBeastModel" "taken" "I", Cond.methodLink RX3 139 yX3_dies, Cond.instanceMethod yX3_dies]
def wsL_law_r16 : List Cond := [Cond.selects RX3 yX3_dies yX3_dies, Cond.code yX3_dies cX3_dies 6 (some .int), Cond.methodLink RL 64 yX2_year, Cond.instanceMethod yX2_year, Cond.selects RX2 yX2_year yX2_year, Cond.code yX2_year cX2_year 1 (some .int), Cond.fieldLink RX2 152 "BestBeast$Manor" "yearNow" "I", Cond.methodLink RL 67 yX3_year, Cond.instanceMethod yX3_year, Cond.selects RX3 yX3_year yX3_year, Cond.code yX3_year cX3_year 1 (some .int), Cond.methodLink RL 68 yX2_safe, Cond.instanceMethod yX2_safe, Cond.selects RX2 yX2_safe yX2_safe, Cond.code yX2_safe cX2_safe 4 (some .int), Cond.methodLink RX2 155 yX1_fewestToBeSafe, Cond.instanceMethod yX1_fewestToBeSafe, Cond.selects RX1 yX1_fewestToBeSafe yX1_fewestToBeSafe, Cond.code yX1_fewestToBeSafe cX1_fewestToBeSafe 6 (some .int), Cond.methodLink RX1 121 yJ6_bitCount_0f7a4, Cond.static yJ6_bitCount_0f7a4, Cond.initialized RJ6, Cond.code yJ6_bitCount_0f7a4 cJ6_bitCount_0f7a4 1 (some .int), Cond.constant RJ6 265 (1431655765)]
def wsL_law_r17 : List Cond := [Cond.constant RJ6 266 (858993459), Cond.constant RJ6 267 (252645135), Cond.methodLink RX2 158 yJ6_bitCount_0f7a4, Cond.methodLink RL 71 yX3_safe, Cond.instanceMethod yX3_safe, Cond.selects RX3 yX3_safe yX3_safe, Cond.code yX3_safe cX3_safe 3 (some .int), Cond.methodLink RX3 148 yX3_safeOf, Cond.instanceMethod yX3_safeOf, Cond.selects RX3 yX3_safeOf yX3_safeOf, Cond.code yX3_safeOf cX3_safeOf 8 (some .int), Cond.methodLink RX3 145 yX3_ones, Cond.static yX3_ones, Cond.code yX3_ones cX3_ones 3 (some .int), Cond.methodLink RL 72 yX2_giving, Cond.instanceMethod yX2_giving, Cond.selects RX2 yX2_giving yX2_giving, Cond.code yX2_giving cX2_giving 3 (some .int), Cond.methodLink RX2 163 yX1_bestGift, Cond.instanceMethod yX1_bestGift, Cond.selects RX1 yX1_bestGift yX1_bestGift, Cond.code yX1_bestGift cX1_bestGift 9 (some .int), Cond.methodLink RX1 126 yX1_lostOnMean, Cond.instanceMethod yX1_lostOnMean]
def wsL_law_r18 : List Cond := [Cond.selects RX1 yX1_lostOnMean yX1_lostOnMean, Cond.code yX1_lostOnMean cX1_lostOnMean 8 (some .int), Cond.methodLink RX1 129 yX1_worthTaken, Cond.methodLink RL 75 yX3_giving, Cond.instanceMethod yX3_giving, Cond.selects RX3 yX3_giving yX3_giving, Cond.code yX3_giving cX3_giving 3 (some .int), Cond.methodLink RX3 155 yX3_givingOf, Cond.instanceMethod yX3_givingOf, Cond.selects RX3 yX3_givingOf yX3_givingOf, Cond.code yX3_givingOf cX3_givingOf 9 (some .int), Cond.methodLink RX3 151 yX3_lostBy, Cond.instanceMethod yX3_lostBy, Cond.selects RX3 yX3_lostBy yX3_lostBy, Cond.code yX3_lostBy cX3_lostBy 11 (some .int), Cond.methodLink RL 76 yX2_mean, Cond.instanceMethod yX2_mean, Cond.selects RX2 yX2_mean yX2_mean, Cond.code yX2_mean cX2_mean 7 (some .int), Cond.methodLink RX2 166 yX1_lostOnMean, Cond.methodLink RX2 170 yX2_powerOfTen, Cond.static yX2_powerOfTen, Cond.code yX2_powerOfTen cX2_powerOfTen 3 (some .int), Cond.methodLink RX2 173 yX2_commonDivisor]
def wsL_law_r19 : List Cond := [Cond.static yX2_commonDivisor, Cond.code yX2_commonDivisor cX2_commonDivisor 6 (some .int), Cond.methodLink RL 80 yX3_mean, Cond.instanceMethod yX3_mean, Cond.selects RX3 yX3_mean yX3_mean, Cond.code yX3_mean cX3_mean 4 (some .int), Cond.methodLink RX3 161 yX3_meanOf, Cond.instanceMethod yX3_meanOf, Cond.selects RX3 yX3_meanOf yX3_meanOf, Cond.code yX3_meanOf cX3_meanOf 6 (some .int), Cond.methodLink RX3 158 yX3_term, Cond.static yX3_term, Cond.code yX3_term cX3_term 6 (some .int), Cond.methodLink RL 81 yX2_roll, Cond.instanceMethod yX2_roll, Cond.selects RX2 yX2_roll yX2_roll, Cond.code yX2_roll cX2_roll 4 (some .int), Cond.methodLink RL 84 yX3_roll, Cond.instanceMethod yX3_roll, Cond.selects RX3 yX3_roll yX3_roll, Cond.code yX3_roll cX3_roll 4 (some .int), Cond.constantLong RX3 164 (-1), Cond.methodLink RL 85 yX2_whose, Cond.instanceMethod yX2_whose]
def wsL_law_r20 : List Cond := [Cond.selects RX2 yX2_whose yX2_whose, Cond.code yX2_whose cX2_whose 5 (some .int), Cond.methodLink RX2 176 yX1_copyFrom, Cond.instanceMethod yX1_copyFrom, Cond.selects RX1 yX1_copyFrom yX1_copyFrom, Cond.code yX1_copyFrom cX1_copyFrom 2 none, Cond.methodLink RX1 65 arraycopyName, Cond.native arraycopyName, Cond.static arraycopyName, Cond.initialized "java/lang/System", Cond.methodLink RX2 180 yX1_isAlive, Cond.methodLink RX2 183 yX1_putTo, Cond.methodLink RX2 186 yX1_takenFrom, Cond.methodLink RX2 189 yX1_isAsTold, Cond.instanceMethod yX1_isAsTold, Cond.selects RX1 yX1_isAsTold yX1_isAsTold, Cond.code yX1_isAsTold cX1_isAsTold 3 (some .boolean), Cond.methodLink RL 88 yX3_whose, Cond.instanceMethod yX3_whose, Cond.selects RX3 yX3_whose yX3_whose, Cond.code yX3_whose cX3_whose 8 (some .int), Cond.methodLink RX3 166 yX3_isRolledBy, Cond.instanceMethod yX3_isRolledBy, Cond.selects RX3 yX3_isRolledBy yX3_isRolledBy]
def wsL_law_r21 : List Cond := [Cond.code yX3_isRolledBy cX3_isRolledBy 5 (some .boolean), Cond.methodLink RL 89 yX2_manors, Cond.instanceMethod yX2_manors, Cond.selects RX2 yX2_manors yX2_manors, Cond.code yX2_manors cX2_manors 5 (some .int), Cond.fieldLink RX2 192 "BestBeast$Draws" "seed" "I", Cond.fieldLink RX2 199 "BestBeast$Manor" "takenWorth" "I", Cond.methodLink RX2 195 yX1_liveOneYear, Cond.instanceMethod yX1_liveOneYear, Cond.selects RX1 yX1_liveOneYear yX1_liveOneYear, Cond.code yX1_liveOneYear cX1_liveOneYear 3 none, Cond.methodLink RX1 132 yX0_drawOf, Cond.instanceMethod yX0_drawOf, Cond.selects RX0 yX0_drawOf yX0_drawOf, Cond.code yX0_drawOf cX0_drawOf 2 (some .int), Cond.constantLong RX0 13 (1103515245), Cond.constantLong RX0 15 (12345), Cond.constantLong RX0 17 (2147483647), Cond.constant RX0 19 (65536), Cond.methodLink RX1 137 yX1_bury, Cond.methodLink RX1 140 yX1_makeGift, Cond.methodLink RX2 202 yX1_countAlive, Cond.instanceMethod yX1_countAlive, Cond.selects RX1 yX1_countAlive yX1_countAlive]
def wsL_law_r22 : List Cond := [Cond.code yX1_countAlive cX1_countAlive 3 (some .int), Cond.methodLink RL 92 yX3_manors, Cond.instanceMethod yX3_manors, Cond.selects RX3 yX3_manors yX3_manors, Cond.code yX3_manors cX3_manors 9 (some .int), Cond.constantLong RX3 179 (60), Cond.constantLong RX3 181 (2), Cond.fieldLink RX3 171 "BestBeastModel" "seedNow" "I", Cond.methodLink RX3 183 yX3_copy, Cond.static yX3_copy, Cond.code yX3_copy cX3_copy 3 none, Cond.methodLink RX3 187 yX3_draw, Cond.instanceMethod yX3_draw, Cond.selects RX3 yX3_draw yX3_draw, Cond.code yX3_draw cX3_draw 2 (some .int), Cond.constantLong RX3 169 (1103515245), Cond.constantLong RX3 174 (12345), Cond.constantLong RX3 176 (2147483647), Cond.constant RX3 178 (65536), Cond.methodLink RX3 190 yX3_livingMany, Cond.instanceMethod yX3_livingMany, Cond.selects RX3 yX3_livingMany yX3_livingMany, Cond.code yX3_livingMany cX3_livingMany 3 (some .int), Cond.methodLink RL 93 yX2_image]
def wsL_law_r23 : List Cond := [Cond.instanceMethod yX2_image, Cond.selects RX2 yX2_image yX2_image, Cond.code yX2_image cX2_image 1 (some .int), Cond.methodLink RL 96 yX3_image, Cond.instanceMethod yX3_image, Cond.selects RX3 yX3_image yX3_image, Cond.code yX3_image cX3_image 1 (some .int), Cond.fieldLink RX3 193 "BestBeastModel" "keptHolders" "I", Cond.fieldLink RX3 196 "BestBeastModel" "keptBeasts" "I", Cond.fieldLink RX3 199 "BestBeastModel" "keptTaken" "I", Cond.methodLink RL 97 yX2_restore, Cond.instanceMethod yX2_restore, Cond.selects RX2 yX2_restore yX2_restore, Cond.code yX2_restore cX2_restore 1 (some .int), Cond.methodLink RL 100 yX3_restore, Cond.instanceMethod yX3_restore, Cond.selects RX3 yX3_restore yX3_restore, Cond.code yX3_restore cX3_restore 1 (some .int), Cond.methodLink RL 101 yX2_count, Cond.instanceMethod yX2_count, Cond.selects RX2 yX2_count yX2_count, Cond.code yX2_count cX2_count 2 (some .int), Cond.methodLink RX2 205 yX1_countNotGone, Cond.instanceMethod yX1_countNotGone]
def wsL_law_r24 : List Cond := [Cond.selects RX1 yX1_countNotGone yX1_countNotGone, Cond.code yX1_countNotGone cX1_countNotGone 3 (some .int), Cond.methodLink RL 104 yX3_count, Cond.instanceMethod yX3_count, Cond.selects RX3 yX3_count yX3_count, Cond.code yX3_count cX3_count 2 (some .int), Cond.methodLink RX3 205 yX3_countOf, Cond.instanceMethod yX3_countOf, Cond.selects RX3 yX3_countOf yX3_countOf, Cond.code yX3_countOf cX3_countOf 2 (some .int), Cond.methodLink RX3 202 yX3_thereMany, Cond.instanceMethod yX3_thereMany, Cond.selects RX3 yX3_thereMany yX3_thereMany, Cond.code yX3_thereMany cX3_thereMany 3 (some .int), Cond.methodLink RL 105 yX2_digest, Cond.instanceMethod yX2_digest, Cond.selects RX2 yX2_digest yX2_digest, Cond.code yX2_digest cX2_digest 5 (some .long), Cond.constantLong RX2 208 (827), Cond.constantLong RX2 210 (31), Cond.methodLink RX2 212 yX2_about, Cond.methodLink RX2 215 yX2_safe, Cond.methodLink RX2 218 yX2_giving, Cond.methodLink RX2 221 yX2_mean]
def wsL_law_r25 : List Cond := [Cond.methodLink RX2 224 yX2_beastOf, Cond.methodLink RX2 227 yX2_count, Cond.methodLink RL 109 yX3_digest, Cond.instanceMethod yX3_digest, Cond.selects RX3 yX3_digest yX3_digest, Cond.code yX3_digest cX3_digest 3 (some .long), Cond.constantLong RX3 214 (827), Cond.fieldLink RX3 210 "BestBeastModel" "hash" "J", Cond.methodLink RX3 216 yX3_say, Cond.instanceMethod yX3_say, Cond.selects RX3 yX3_say yX3_say, Cond.code yX3_say cX3_say 3 none, Cond.constantLong RX3 208 (31)]
def wsL_law : List Cond := (wsL_law_r1 ++ (wsL_law_r2 ++ (wsL_law_r3 ++ (wsL_law_r4 ++ (wsL_law_r5 ++ (wsL_law_r6 ++ (wsL_law_r7 ++ (wsL_law_r8 ++ (wsL_law_r9 ++ (wsL_law_r10 ++ (wsL_law_r11 ++ (wsL_law_r12 ++ (wsL_law_r13 ++ (wsL_law_r14 ++ (wsL_law_r15 ++ (wsL_law_r16 ++ (wsL_law_r17 ++ (wsL_law_r18 ++ (wsL_law_r19 ++ (wsL_law_r20 ++ (wsL_law_r21 ++ (wsL_law_r22 ++ (wsL_law_r23 ++ (wsL_law_r24 ++ wsL_law_r25)))))))))))))))))))))))) ++ wsX20 ++ wsX30 ++ wsX10 ++ wsX00 ++ ([] : List Cond)
theorem memIn_r {big : List Cond} (ws : List Cond) (ps : List Nat) (hp : ws = ps.filterMap (fun i => big[i]?)) : ∀ w ∈ ws, w ∈ big := by
  intro w hw
  rw [hp] at hw
  obtain ⟨i, -, hi⟩ := List.mem_filterMap.mp hw
  first | exact List.mem_of_getElem? hi | exact List.getElem?_mem hi
set_option maxRecDepth 20000 in
theorem in_wsL_law_r1 : ∀ w ∈ wsL_law_r1, w ∈ lw_tbl := memIn_r _ [36, 37, 29, 417, 418, 32, 38, 39, 40, 41, 42, 43, 44, 45, 30, 132, 133, 134, 121, 122, 31, 135, 119, 136] (by decide +kernel)
set_option maxRecDepth 20000 in
theorem in_wsL_law_r2 : ∀ w ∈ wsL_law_r2, w ∈ lw_tbl := memIn_r _ [137, 138, 139, 47, 48, 49, 50, 52, 54, 56, 58, 60, 62, 64, 120, 66, 68, 70, 72, 74, 76, 78, 80, 82] (by decide +kernel)
set_option maxRecDepth 20000 in
theorem in_wsL_law_r3 : ∀ w ∈ wsL_law_r3, w ∈ lw_tbl := memIn_r _ [124, 125, 126, 127, 419, 420, 421, 422, 423, 434, 435, 437, 438, 443, 444, 445, 425, 426, 427, 439, 157, 158, 159, 160] (by decide +kernel)
set_option maxRecDepth 20000 in
theorem in_wsL_law_r4 : ∀ w ∈ wsL_law_r4, w ∈ lw_tbl := memIn_r _ [161, 162, 163, 496, 497, 498, 499, 500, 424, 501, 502, 503, 164, 165, 166, 167, 504, 505, 506, 507, 168, 169, 170, 171] (by decide +kernel)
set_option maxRecDepth 20000 in
theorem in_wsL_law_r5 : ∀ w ∈ wsL_law_r5, w ∈ lw_tbl := memIn_r _ [172, 174, 0, 175, 176, 178, 508, 509, 510, 511, 512, 514, 1, 515, 516, 517, 518, 519, 520, 521, 180, 181, 182, 183] (by decide +kernel)
set_option maxRecDepth 20000 in
theorem in_wsL_law_r6 : ∀ w ∈ wsL_law_r6, w ∈ lw_tbl := memIn_r _ [51, 53, 55, 57, 184, 522, 523, 524, 525, 428, 429, 185, 186, 187, 188, 59, 189, 190, 191, 192, 526, 527, 528, 529] (by decide +kernel)
set_option maxRecDepth 20000 in
theorem in_wsL_law_r7 : ∀ w ∈ wsL_law_r7, w ∈ lw_tbl := memIn_r _ [530, 432, 193, 194, 195, 196, 61, 63, 67, 65, 197, 198, 199, 200, 201, 202, 203, 204, 205, 206, 207, 208, 209, 210] (by decide +kernel)
set_option maxRecDepth 20000 in
theorem in_wsL_law_r8 : ∀ w ∈ wsL_law_r8, w ∈ lw_tbl := memIn_r _ [211, 212, 213, 214, 215, 216, 217, 218, 219, 220, 221, 222, 223, 33, 224, 225, 226, 227, 228, 229, 230, 231, 232, 233] (by decide +kernel)
set_option maxRecDepth 20000 in
theorem in_wsL_law_r9 : ∀ w ∈ wsL_law_r9, w ∈ lw_tbl := memIn_r _ [234, 235, 236, 237, 238, 239, 240, 241, 242, 243, 244, 245, 246, 247, 531, 532, 533, 534, 535, 537, 2, 538, 539, 541] (by decide +kernel)
set_option maxRecDepth 20000 in
theorem in_wsL_law_r10 : ∀ w ∈ wsL_law_r10, w ∈ lw_tbl := memIn_r _ [3, 542, 430, 543, 545, 4, 546, 433, 547, 549, 5, 550, 551, 553, 6, 554, 555, 557, 7, 558, 559, 561, 8, 562] (by decide +kernel)
set_option maxRecDepth 20000 in
theorem in_wsL_law_r11 : ∀ w ∈ wsL_law_r11, w ∈ lw_tbl := memIn_r _ [563, 565, 9, 566, 567, 569, 10, 570, 571, 573, 11, 574, 575, 577, 12, 578, 248, 249, 250, 251, 252, 253, 254, 579] (by decide +kernel)
set_option maxRecDepth 20000 in
theorem in_wsL_law_r12 : ∀ w ∈ wsL_law_r12, w ∈ lw_tbl := memIn_r _ [580, 581, 582, 255, 256, 257, 258, 583, 584, 585, 586, 259, 260, 261, 262, 69, 263, 264, 265, 266, 267, 268, 269, 270] (by decide +kernel)
set_option maxRecDepth 20000 in
theorem in_wsL_law_r13 : ∀ w ∈ wsL_law_r13, w ∈ lw_tbl := memIn_r _ [587, 588, 589, 590, 591, 592, 594, 13, 595, 271, 272, 273, 274, 71, 73, 75, 77, 79, 275, 596, 597, 598, 599, 600] (by decide +kernel)
set_option maxRecDepth 20000 in
theorem in_wsL_law_r14 : ∀ w ∈ wsL_law_r14, w ∈ lw_tbl := memIn_r _ [602, 14, 603, 276, 277, 278, 279, 280, 281, 282, 283, 284, 285, 286, 287, 288, 289, 290, 291, 292, 604, 605, 606, 607] (by decide +kernel)
set_option maxRecDepth 20000 in
theorem in_wsL_law_r15 : ∀ w ∈ wsL_law_r15, w ∈ lw_tbl := memIn_r _ [608, 610, 15, 611, 612, 614, 16, 615, 293, 294, 295, 296, 297, 298, 299, 300, 301, 616, 617, 618, 619, 431, 620, 622] (by decide +kernel)
set_option maxRecDepth 20000 in
theorem in_wsL_law_r16 : ∀ w ∈ wsL_law_r16, w ∈ lw_tbl := memIn_r _ [17, 623, 302, 303, 304, 305, 81, 624, 625, 626, 627, 306, 307, 308, 309, 310, 311, 312, 313, 314, 315, 34, 316, 317] (by decide +kernel)
set_option maxRecDepth 20000 in
theorem in_wsL_law_r17 : ∀ w ∈ wsL_law_r17, w ∈ lw_tbl := memIn_r _ [318, 319, 320, 628, 629, 630, 631, 632, 634, 18, 635, 636, 637, 638, 321, 322, 323, 324, 325, 326, 327, 328, 329, 330] (by decide +kernel)
set_option maxRecDepth 20000 in
theorem in_wsL_law_r18 : ∀ w ∈ wsL_law_r18, w ∈ lw_tbl := memIn_r _ [331, 332, 333, 639, 640, 641, 642, 643, 645, 19, 646, 647, 649, 20, 650, 334, 335, 336, 337, 338, 339, 340, 341, 342] (by decide +kernel)
set_option maxRecDepth 20000 in
theorem in_wsL_law_r19 : ∀ w ∈ wsL_law_r19, w ∈ lw_tbl := memIn_r _ [343, 344, 651, 652, 653, 654, 655, 657, 21, 658, 659, 660, 661, 345, 346, 347, 348, 662, 663, 664, 665, 666, 349, 350] (by decide +kernel)
set_option maxRecDepth 20000 in
theorem in_wsL_law_r20 : ∀ w ∈ wsL_law_r20, w ∈ lw_tbl := memIn_r _ [351, 352, 353, 354, 355, 356, 357, 359, 358, 35, 360, 361, 362, 363, 364, 365, 366, 667, 668, 669, 670, 671, 673, 22] (by decide +kernel)
set_option maxRecDepth 20000 in
theorem in_wsL_law_r21 : ∀ w ∈ wsL_law_r21, w ∈ lw_tbl := memIn_r _ [674, 367, 368, 369, 370, 128, 83, 371, 372, 373, 374, 375, 376, 377, 378, 379, 380, 381, 382, 383, 384, 385, 386, 387] (by decide +kernel)
set_option maxRecDepth 20000 in
theorem in_wsL_law_r22 : ∀ w ∈ wsL_law_r22, w ∈ lw_tbl := memIn_r _ [388, 675, 676, 677, 678, 679, 680, 436, 681, 682, 683, 684, 686, 23, 687, 688, 689, 690, 691, 692, 694, 24, 695, 389] (by decide +kernel)
set_option maxRecDepth 20000 in
theorem in_wsL_law_r23 : ∀ w ∈ wsL_law_r23, w ∈ lw_tbl := memIn_r _ [390, 391, 392, 696, 697, 698, 699, 440, 441, 442, 393, 394, 395, 396, 700, 701, 702, 703, 397, 398, 399, 400, 401, 402] (by decide +kernel)
set_option maxRecDepth 20000 in
theorem in_wsL_law_r24 : ∀ w ∈ wsL_law_r24, w ∈ lw_tbl := memIn_r _ [403, 404, 704, 705, 706, 707, 708, 710, 25, 711, 712, 714, 26, 715, 405, 406, 407, 408, 409, 410, 411, 412, 413, 414] (by decide +kernel)
set_option maxRecDepth 20000 in
theorem in_wsL_law_r25 : ∀ w ∈ wsL_law_r25, w ∈ lw_tbl := memIn_r _ [415, 416, 716, 717, 718, 719, 720, 446, 721, 723, 27, 724, 725] (by decide +kernel)
set_option maxRecDepth 20000 in
theorem in_wsX20 : ∀ w ∈ wsX20, w ∈ lw_tbl := memIn_r _ [140, 142, 144, 146, 148, 150, 152, 154] (by decide +kernel)
set_option maxRecDepth 20000 in
theorem in_wsX30 : ∀ w ∈ wsX30, w ∈ lw_tbl := memIn_r _ [447, 449, 451, 453, 455, 457, 459, 461, 463, 465, 467, 469, 471, 473, 475, 477, 479, 481, 483, 485, 487, 489, 491, 493] (by decide +kernel)
set_option maxRecDepth 20000 in
theorem in_wsX10 : ∀ w ∈ wsX10, w ∈ lw_tbl := memIn_r _ [84, 86, 88, 90, 92, 94, 96, 98, 100, 102, 104, 106, 108, 110, 112, 114, 116] (by decide +kernel)
set_option maxRecDepth 20000 in
theorem in_wsX00 : ∀ w ∈ wsX00, w ∈ lw_tbl := memIn_r _ [129] (by decide +kernel)
theorem wsL_law_in : ∀ w ∈ wsL_law, w ∈ lw_tbl := by
  unfold wsL_law
  exact List.forall_mem_append.mpr ⟨List.forall_mem_append.mpr ⟨List.forall_mem_append.mpr ⟨List.forall_mem_append.mpr ⟨List.forall_mem_append.mpr ⟨List.forall_mem_append.mpr ⟨in_wsL_law_r1, List.forall_mem_append.mpr ⟨in_wsL_law_r2, List.forall_mem_append.mpr ⟨in_wsL_law_r3, List.forall_mem_append.mpr ⟨in_wsL_law_r4, List.forall_mem_append.mpr ⟨in_wsL_law_r5, List.forall_mem_append.mpr ⟨in_wsL_law_r6, List.forall_mem_append.mpr ⟨in_wsL_law_r7, List.forall_mem_append.mpr ⟨in_wsL_law_r8, List.forall_mem_append.mpr ⟨in_wsL_law_r9, List.forall_mem_append.mpr ⟨in_wsL_law_r10, List.forall_mem_append.mpr ⟨in_wsL_law_r11, List.forall_mem_append.mpr ⟨in_wsL_law_r12, List.forall_mem_append.mpr ⟨in_wsL_law_r13, List.forall_mem_append.mpr ⟨in_wsL_law_r14, List.forall_mem_append.mpr ⟨in_wsL_law_r15, List.forall_mem_append.mpr ⟨in_wsL_law_r16, List.forall_mem_append.mpr ⟨in_wsL_law_r17, List.forall_mem_append.mpr ⟨in_wsL_law_r18, List.forall_mem_append.mpr ⟨in_wsL_law_r19, List.forall_mem_append.mpr ⟨in_wsL_law_r20, List.forall_mem_append.mpr ⟨in_wsL_law_r21, List.forall_mem_append.mpr ⟨in_wsL_law_r22, List.forall_mem_append.mpr ⟨in_wsL_law_r23, List.forall_mem_append.mpr ⟨in_wsL_law_r24, in_wsL_law_r25⟩⟩⟩⟩⟩⟩⟩⟩⟩⟩⟩⟩⟩⟩⟩⟩⟩⟩⟩⟩⟩⟩⟩⟩, in_wsX20⟩, in_wsX30⟩, in_wsX10⟩, in_wsX00⟩, fun _ h => absurd h List.not_mem_nil⟩
theorem inlX0 : ∀ w ∈ wsX00, w ∈ wsL_law := fun _ h => List.mem_append_left _ (List.mem_append_right _ h)
theorem inX0 : ∀ w ∈ wsX00, w ∈ lw_tbl := fun w h => wsL_law_in w (inlX0 w h)
theorem inlX1 : ∀ w ∈ wsX10, w ∈ wsL_law := fun _ h => List.mem_append_left _ (List.mem_append_left _ (List.mem_append_right _ h))
theorem inX1 : ∀ w ∈ wsX10, w ∈ lw_tbl := fun w h => wsL_law_in w (inlX1 w h)
theorem inlX2 : ∀ w ∈ wsX20, w ∈ wsL_law := fun _ h => List.mem_append_left _ (List.mem_append_left _ (List.mem_append_left _ (List.mem_append_left _ (List.mem_append_right _ h))))
theorem inX2 : ∀ w ∈ wsX20, w ∈ lw_tbl := fun w h => wsL_law_in w (inlX2 w h)
theorem inlX3 : ∀ w ∈ wsX30, w ∈ wsL_law := fun _ h => List.mem_append_left _ (List.mem_append_left _ (List.mem_append_left _ (List.mem_append_right _ h)))
theorem inX3 : ∀ w ∈ wsX30, w ∈ lw_tbl := fun w h => wsL_law_in w (inlX3 w h)
theorem inJ6 : ∀ w ∈ wsJ60, w ∈ lw_tbl := by decide +kernel
theorem inJ9 : ∀ w ∈ wsJ90, w ∈ lw_tbl := by decide +kernel
theorem inJ10 : ∀ w ∈ wsJ100, w ∈ lw_tbl := by decide +kernel
abbrev vwCl : List vw_C := [(RX0, TX0, 1), (RX1, TX1, 17), (RX2, TX2, 8), (RX3, TX3, 24)]
end
section
theorem dX0_init_0 : decode cX0_init 0 = .ok (.aload_n 0, 1) := by decide +kernel
theorem dX0_init_1 : decode cX0_init 1 = .ok (.invokespecial 1, 3) := by decide +kernel
theorem dX0_init_4 : decode cX0_init 4 = .ok (.aload_n 0, 1) := by decide +kernel
theorem dX0_init_5 : decode cX0_init 5 = .ok (.iconst 0, 1) := by decide +kernel
theorem dX0_init_6 : decode cX0_init 6 = .ok (.putfield 7, 3) := by decide +kernel
theorem dX0_init_9 : decode cX0_init 9 = .ok (.return_, 1) := by decide +kernel
theorem dX0_drawOf_0 : decode cX0_drawOf 0 = .ok (.aload_n 0, 1) := by decide +kernel
theorem dX0_drawOf_1 : decode cX0_drawOf 1 = .ok (.ldc2_w 13, 3) := by decide +kernel
theorem dX0_drawOf_4 : decode cX0_drawOf 4 = .ok (.aload_n 0, 1) := by decide +kernel
theorem dX0_drawOf_5 : decode cX0_drawOf 5 = .ok (.getfield 7, 3) := by decide +kernel
theorem dX0_drawOf_8 : decode cX0_drawOf 8 = .ok (.i2l, 1) := by decide +kernel
theorem dX0_drawOf_9 : decode cX0_drawOf 9 = .ok (.lmul, 1) := by decide +kernel
theorem dX0_drawOf_10 : decode cX0_drawOf 10 = .ok (.ldc2_w 15, 3) := by decide +kernel
theorem dX0_drawOf_13 : decode cX0_drawOf 13 = .ok (.ladd, 1) := by decide +kernel
theorem dX0_drawOf_14 : decode cX0_drawOf 14 = .ok (.ldc2_w 17, 3) := by decide +kernel
theorem dX0_drawOf_17 : decode cX0_drawOf 17 = .ok (.land, 1) := by decide +kernel
theorem dX0_drawOf_18 : decode cX0_drawOf 18 = .ok (.l2i, 1) := by decide +kernel
theorem dX0_drawOf_19 : decode cX0_drawOf 19 = .ok (.putfield 7, 3) := by decide +kernel
theorem dX0_drawOf_22 : decode cX0_drawOf 22 = .ok (.iload_n 1, 1) := by decide +kernel
theorem dX0_drawOf_23 : decode cX0_drawOf 23 = .ok (.ifCond .le 15, 3) := by decide +kernel
theorem dX0_drawOf_26 : decode cX0_drawOf 26 = .ok (.aload_n 0, 1) := by decide +kernel
theorem dX0_drawOf_27 : decode cX0_drawOf 27 = .ok (.getfield 7, 3) := by decide +kernel
theorem dX0_drawOf_30 : decode cX0_drawOf 30 = .ok (.ldc 19, 2) := by decide +kernel
theorem dX0_drawOf_32 : decode cX0_drawOf 32 = .ok (.idiv, 1) := by decide +kernel
theorem dX0_drawOf_33 : decode cX0_drawOf 33 = .ok (.iload_n 1, 1) := by decide +kernel
theorem dX0_drawOf_34 : decode cX0_drawOf 34 = .ok (.irem, 1) := by decide +kernel
theorem dX0_drawOf_35 : decode cX0_drawOf 35 = .ok (.goto 4, 3) := by decide +kernel
theorem dX0_drawOf_38 : decode cX0_drawOf 38 = .ok (.iconst 0, 1) := by decide +kernel
theorem dX0_drawOf_39 : decode cX0_drawOf 39 = .ok (.ireturn, 1) := by decide +kernel
theorem dX1_init_0 : decode cX1_init 0 = .ok (.aload_n 0, 1) := by decide +kernel
theorem dX1_init_1 : decode cX1_init 1 = .ok (.invokespecial 3, 3) := by decide +kernel
theorem dX1_init_4 : decode cX1_init 4 = .ok (.aload_n 0, 1) := by decide +kernel
theorem dX1_init_5 : decode cX1_init 5 = .ok (.iconst 1, 1) := by decide +kernel
theorem dX1_init_6 : decode cX1_init 6 = .ok (.putfield 9, 3) := by decide +kernel
theorem dX1_init_9 : decode cX1_init 9 = .ok (.aload_n 0, 1) := by decide +kernel
theorem dX1_init_10 : decode cX1_init 10 = .ok (.iconst 1, 1) := by decide +kernel
theorem dX1_init_11 : decode cX1_init 11 = .ok (.putfield 15, 3) := by decide +kernel
theorem dX1_init_14 : decode cX1_init 14 = .ok (.aload_n 0, 1) := by decide +kernel
theorem dX1_init_15 : decode cX1_init 15 = .ok (.iconst 1, 1) := by decide +kernel
theorem dX1_init_16 : decode cX1_init 16 = .ok (.putfield 18, 3) := by decide +kernel
theorem dX1_init_19 : decode cX1_init 19 = .ok (.aload_n 0, 1) := by decide +kernel
theorem dX1_init_20 : decode cX1_init 20 = .ok (.iconst 0, 1) := by decide +kernel
theorem dX1_init_21 : decode cX1_init 21 = .ok (.putfield 21, 3) := by decide +kernel
theorem dX1_init_24 : decode cX1_init 24 = .ok (.aload_n 0, 1) := by decide +kernel
theorem dX1_init_25 : decode cX1_init 25 = .ok (.iconst 0, 1) := by decide +kernel
theorem dX1_init_26 : decode cX1_init 26 = .ok (.putfield 24, 3) := by decide +kernel
theorem dX1_init_29 : decode cX1_init 29 = .ok (.aload_n 0, 1) := by decide +kernel
theorem dX1_init_30 : decode cX1_init 30 = .ok (.iconst 4, 1) := by decide +kernel
theorem dX1_init_31 : decode cX1_init 31 = .ok (.newarray .int, 2) := by decide +kernel
theorem dX1_init_33 : decode cX1_init 33 = .ok (.putfield 27, 3) := by decide +kernel
theorem dX1_init_36 : decode cX1_init 36 = .ok (.aload_n 0, 1) := by decide +kernel
theorem dX1_init_37 : decode cX1_init 37 = .ok (.iconst 4, 1) := by decide +kernel
theorem dX1_init_38 : decode cX1_init 38 = .ok (.newarray .int, 2) := by decide +kernel
theorem dX1_init_40 : decode cX1_init 40 = .ok (.putfield 31, 3) := by decide +kernel
theorem dX1_init_43 : decode cX1_init 43 = .ok (.aload_n 0, 1) := by decide +kernel
theorem dX1_init_44 : decode cX1_init 44 = .ok (.iconst 4, 1) := by decide +kernel
theorem dX1_init_45 : decode cX1_init 45 = .ok (.newarray .int, 2) := by decide +kernel
theorem dX1_init_47 : decode cX1_init 47 = .ok (.putfield 34, 3) := by decide +kernel
theorem dX1_init_50 : decode cX1_init 50 = .ok (.aload_n 0, 1) := by decide +kernel
theorem dX1_init_51 : decode cX1_init 51 = .ok (.iconst 4, 1) := by decide +kernel
theorem dX1_init_52 : decode cX1_init 52 = .ok (.newarray .boolean, 2) := by decide +kernel
theorem dX1_init_54 : decode cX1_init 54 = .ok (.putfield 37, 3) := by decide +kernel
theorem dX1_init_57 : decode cX1_init 57 = .ok (.aload_n 0, 1) := by decide +kernel
theorem dX1_init_58 : decode cX1_init 58 = .ok (.iconst 0, 1) := by decide +kernel
theorem dX1_init_59 : decode cX1_init 59 = .ok (.putfield 41, 3) := by decide +kernel
theorem dX1_init_62 : decode cX1_init 62 = .ok (.aload_n 0, 1) := by decide +kernel
theorem dX1_init_63 : decode cX1_init 63 = .ok (.bipush 6, 2) := by decide +kernel
theorem dX1_init_65 : decode cX1_init 65 = .ok (.newarray .int, 2) := by decide +kernel
theorem dX1_init_67 : decode cX1_init 67 = .ok (.putfield 44, 3) := by decide +kernel
theorem dX1_init_70 : decode cX1_init 70 = .ok (.aload_n 0, 1) := by decide +kernel
theorem dX1_init_71 : decode cX1_init 71 = .ok (.bipush 6, 2) := by decide +kernel
theorem dX1_init_73 : decode cX1_init 73 = .ok (.newarray .int, 2) := by decide +kernel
theorem dX1_init_75 : decode cX1_init 75 = .ok (.putfield 47, 3) := by decide +kernel
theorem dX1_init_78 : decode cX1_init 78 = .ok (.aload_n 0, 1) := by decide +kernel
theorem dX1_init_79 : decode cX1_init 79 = .ok (.bipush 6, 2) := by decide +kernel
theorem dX1_init_81 : decode cX1_init 81 = .ok (.newarray .int, 2) := by decide +kernel
theorem dX1_init_83 : decode cX1_init 83 = .ok (.putfield 50, 3) := by decide +kernel
theorem dX1_init_86 : decode cX1_init 86 = .ok (.aload_n 0, 1) := by decide +kernel
theorem dX1_init_87 : decode cX1_init 87 = .ok (.bipush 6, 2) := by decide +kernel
theorem dX1_init_89 : decode cX1_init 89 = .ok (.newarray .int, 2) := by decide +kernel
theorem dX1_init_91 : decode cX1_init 91 = .ok (.putfield 53, 3) := by decide +kernel
theorem dX1_init_94 : decode cX1_init 94 = .ok (.aload_n 0, 1) := by decide +kernel
theorem dX1_init_95 : decode cX1_init 95 = .ok (.bipush 6, 2) := by decide +kernel
theorem dX1_init_97 : decode cX1_init 97 = .ok (.newarray .int, 2) := by decide +kernel
theorem dX1_init_99 : decode cX1_init 99 = .ok (.putfield 56, 3) := by decide +kernel
theorem dX1_init_102 : decode cX1_init 102 = .ok (.aload_n 0, 1) := by decide +kernel
theorem dX1_init_103 : decode cX1_init 103 = .ok (.iconst 0, 1) := by decide +kernel
theorem dX1_init_104 : decode cX1_init 104 = .ok (.putfield 59, 3) := by decide +kernel
theorem dX1_init_107 : decode cX1_init 107 = .ok (.aload_n 0, 1) := by decide +kernel
theorem dX1_init_108 : decode cX1_init 108 = .ok (.iconst 0, 1) := by decide +kernel
theorem dX1_init_109 : decode cX1_init 109 = .ok (.putfield 62, 3) := by decide +kernel
theorem dX1_init_112 : decode cX1_init 112 = .ok (.return_, 1) := by decide +kernel
theorem dX1_copyFrom_0 : decode cX1_copyFrom 0 = .ok (.aload_n 1, 1) := by decide +kernel
theorem dX1_copyFrom_1 : decode cX1_copyFrom 1 = .ok (.ifnonnull 4, 3) := by decide +kernel
theorem dX1_copyFrom_4 : decode cX1_copyFrom 4 = .ok (.return_, 1) := by decide +kernel
theorem dX1_copyFrom_5 : decode cX1_copyFrom 5 = .ok (.aload_n 0, 1) := by decide +kernel
theorem dX1_copyFrom_6 : decode cX1_copyFrom 6 = .ok (.aload_n 1, 1) := by decide +kernel
theorem dX1_copyFrom_7 : decode cX1_copyFrom 7 = .ok (.getfield 9, 3) := by decide +kernel
theorem dX1_copyFrom_10 : decode cX1_copyFrom 10 = .ok (.putfield 9, 3) := by decide +kernel
theorem dX1_copyFrom_13 : decode cX1_copyFrom 13 = .ok (.aload_n 0, 1) := by decide +kernel
theorem dX1_copyFrom_14 : decode cX1_copyFrom 14 = .ok (.aload_n 1, 1) := by decide +kernel
theorem dX1_copyFrom_15 : decode cX1_copyFrom 15 = .ok (.getfield 15, 3) := by decide +kernel
theorem dX1_copyFrom_18 : decode cX1_copyFrom 18 = .ok (.putfield 15, 3) := by decide +kernel
theorem dX1_copyFrom_21 : decode cX1_copyFrom 21 = .ok (.aload_n 0, 1) := by decide +kernel
theorem dX1_copyFrom_22 : decode cX1_copyFrom 22 = .ok (.aload_n 1, 1) := by decide +kernel
theorem dX1_copyFrom_23 : decode cX1_copyFrom 23 = .ok (.getfield 18, 3) := by decide +kernel
theorem dX1_copyFrom_26 : decode cX1_copyFrom 26 = .ok (.putfield 18, 3) := by decide +kernel
theorem dX1_copyFrom_29 : decode cX1_copyFrom 29 = .ok (.aload_n 0, 1) := by decide +kernel
theorem dX1_copyFrom_30 : decode cX1_copyFrom 30 = .ok (.aload_n 1, 1) := by decide +kernel
theorem dX1_copyFrom_31 : decode cX1_copyFrom 31 = .ok (.getfield 21, 3) := by decide +kernel
theorem dX1_copyFrom_34 : decode cX1_copyFrom 34 = .ok (.putfield 21, 3) := by decide +kernel
theorem dX1_copyFrom_37 : decode cX1_copyFrom 37 = .ok (.aload_n 0, 1) := by decide +kernel
theorem dX1_copyFrom_38 : decode cX1_copyFrom 38 = .ok (.aload_n 1, 1) := by decide +kernel
theorem dX1_copyFrom_39 : decode cX1_copyFrom 39 = .ok (.getfield 24, 3) := by decide +kernel
theorem dX1_copyFrom_42 : decode cX1_copyFrom 42 = .ok (.putfield 24, 3) := by decide +kernel
theorem dX1_copyFrom_45 : decode cX1_copyFrom 45 = .ok (.aload_n 0, 1) := by decide +kernel
theorem dX1_copyFrom_46 : decode cX1_copyFrom 46 = .ok (.aload_n 1, 1) := by decide +kernel
theorem dX1_copyFrom_47 : decode cX1_copyFrom 47 = .ok (.getfield 41, 3) := by decide +kernel
theorem dX1_copyFrom_50 : decode cX1_copyFrom 50 = .ok (.putfield 41, 3) := by decide +kernel
theorem dX1_copyFrom_53 : decode cX1_copyFrom 53 = .ok (.aload_n 0, 1) := by decide +kernel
theorem dX1_copyFrom_54 : decode cX1_copyFrom 54 = .ok (.aload_n 1, 1) := by decide +kernel
theorem dX1_copyFrom_55 : decode cX1_copyFrom 55 = .ok (.getfield 59, 3) := by decide +kernel
theorem dX1_copyFrom_58 : decode cX1_copyFrom 58 = .ok (.putfield 59, 3) := by decide +kernel
theorem dX1_copyFrom_61 : decode cX1_copyFrom 61 = .ok (.aload_n 0, 1) := by decide +kernel
theorem dX1_copyFrom_62 : decode cX1_copyFrom 62 = .ok (.aload_n 1, 1) := by decide +kernel
theorem dX1_copyFrom_63 : decode cX1_copyFrom 63 = .ok (.getfield 62, 3) := by decide +kernel
theorem dX1_copyFrom_66 : decode cX1_copyFrom 66 = .ok (.putfield 62, 3) := by decide +kernel
theorem dX1_copyFrom_69 : decode cX1_copyFrom 69 = .ok (.aload_n 1, 1) := by decide +kernel
theorem dX1_copyFrom_70 : decode cX1_copyFrom 70 = .ok (.getfield 27, 3) := by decide +kernel
theorem dX1_copyFrom_73 : decode cX1_copyFrom 73 = .ok (.iconst 0, 1) := by decide +kernel
theorem dX1_copyFrom_74 : decode cX1_copyFrom 74 = .ok (.aload_n 0, 1) := by decide +kernel
theorem dX1_copyFrom_75 : decode cX1_copyFrom 75 = .ok (.getfield 27, 3) := by decide +kernel
theorem dX1_copyFrom_78 : decode cX1_copyFrom 78 = .ok (.iconst 0, 1) := by decide +kernel
theorem dX1_copyFrom_79 : decode cX1_copyFrom 79 = .ok (.iconst 4, 1) := by decide +kernel
theorem dX1_copyFrom_80 : decode cX1_copyFrom 80 = .ok (.invokestatic 65, 3) := by decide +kernel
theorem dX1_copyFrom_83 : decode cX1_copyFrom 83 = .ok (.aload_n 1, 1) := by decide +kernel
theorem dX1_copyFrom_84 : decode cX1_copyFrom 84 = .ok (.getfield 31, 3) := by decide +kernel
theorem dX1_copyFrom_87 : decode cX1_copyFrom 87 = .ok (.iconst 0, 1) := by decide +kernel
theorem dX1_copyFrom_88 : decode cX1_copyFrom 88 = .ok (.aload_n 0, 1) := by decide +kernel
theorem dX1_copyFrom_89 : decode cX1_copyFrom 89 = .ok (.getfield 31, 3) := by decide +kernel
theorem dX1_copyFrom_92 : decode cX1_copyFrom 92 = .ok (.iconst 0, 1) := by decide +kernel
theorem dX1_copyFrom_93 : decode cX1_copyFrom 93 = .ok (.iconst 4, 1) := by decide +kernel
theorem dX1_copyFrom_94 : decode cX1_copyFrom 94 = .ok (.invokestatic 65, 3) := by decide +kernel
theorem dX1_copyFrom_97 : decode cX1_copyFrom 97 = .ok (.aload_n 1, 1) := by decide +kernel
theorem dX1_copyFrom_98 : decode cX1_copyFrom 98 = .ok (.getfield 34, 3) := by decide +kernel
theorem dX1_copyFrom_101 : decode cX1_copyFrom 101 = .ok (.iconst 0, 1) := by decide +kernel
theorem dX1_copyFrom_102 : decode cX1_copyFrom 102 = .ok (.aload_n 0, 1) := by decide +kernel
theorem dX1_copyFrom_103 : decode cX1_copyFrom 103 = .ok (.getfield 34, 3) := by decide +kernel
theorem dX1_copyFrom_106 : decode cX1_copyFrom 106 = .ok (.iconst 0, 1) := by decide +kernel
theorem dX1_copyFrom_107 : decode cX1_copyFrom 107 = .ok (.iconst 4, 1) := by decide +kernel
theorem dX1_copyFrom_108 : decode cX1_copyFrom 108 = .ok (.invokestatic 65, 3) := by decide +kernel
theorem dX1_copyFrom_111 : decode cX1_copyFrom 111 = .ok (.aload_n 1, 1) := by decide +kernel
theorem dX1_copyFrom_112 : decode cX1_copyFrom 112 = .ok (.getfield 37, 3) := by decide +kernel
theorem dX1_copyFrom_115 : decode cX1_copyFrom 115 = .ok (.iconst 0, 1) := by decide +kernel
theorem dX1_copyFrom_116 : decode cX1_copyFrom 116 = .ok (.aload_n 0, 1) := by decide +kernel
theorem dX1_copyFrom_117 : decode cX1_copyFrom 117 = .ok (.getfield 37, 3) := by decide +kernel
theorem dX1_copyFrom_120 : decode cX1_copyFrom 120 = .ok (.iconst 0, 1) := by decide +kernel
theorem dX1_copyFrom_121 : decode cX1_copyFrom 121 = .ok (.iconst 4, 1) := by decide +kernel
theorem dX1_copyFrom_122 : decode cX1_copyFrom 122 = .ok (.invokestatic 65, 3) := by decide +kernel
theorem dX1_copyFrom_125 : decode cX1_copyFrom 125 = .ok (.aload_n 1, 1) := by decide +kernel
theorem dX1_copyFrom_126 : decode cX1_copyFrom 126 = .ok (.getfield 44, 3) := by decide +kernel
theorem dX1_copyFrom_129 : decode cX1_copyFrom 129 = .ok (.iconst 0, 1) := by decide +kernel
theorem dX1_copyFrom_130 : decode cX1_copyFrom 130 = .ok (.aload_n 0, 1) := by decide +kernel
theorem dX1_copyFrom_131 : decode cX1_copyFrom 131 = .ok (.getfield 44, 3) := by decide +kernel
theorem dX1_copyFrom_134 : decode cX1_copyFrom 134 = .ok (.iconst 0, 1) := by decide +kernel
theorem dX1_copyFrom_135 : decode cX1_copyFrom 135 = .ok (.bipush 6, 2) := by decide +kernel
theorem dX1_copyFrom_137 : decode cX1_copyFrom 137 = .ok (.invokestatic 65, 3) := by decide +kernel
theorem dX1_copyFrom_140 : decode cX1_copyFrom 140 = .ok (.aload_n 1, 1) := by decide +kernel
theorem dX1_copyFrom_141 : decode cX1_copyFrom 141 = .ok (.getfield 47, 3) := by decide +kernel
theorem dX1_copyFrom_144 : decode cX1_copyFrom 144 = .ok (.iconst 0, 1) := by decide +kernel
theorem dX1_copyFrom_145 : decode cX1_copyFrom 145 = .ok (.aload_n 0, 1) := by decide +kernel
theorem dX1_copyFrom_146 : decode cX1_copyFrom 146 = .ok (.getfield 47, 3) := by decide +kernel
theorem dX1_copyFrom_149 : decode cX1_copyFrom 149 = .ok (.iconst 0, 1) := by decide +kernel
theorem dX1_copyFrom_150 : decode cX1_copyFrom 150 = .ok (.bipush 6, 2) := by decide +kernel
theorem dX1_copyFrom_152 : decode cX1_copyFrom 152 = .ok (.invokestatic 65, 3) := by decide +kernel
theorem dX1_copyFrom_155 : decode cX1_copyFrom 155 = .ok (.aload_n 1, 1) := by decide +kernel
theorem dX1_copyFrom_156 : decode cX1_copyFrom 156 = .ok (.getfield 50, 3) := by decide +kernel
theorem dX1_copyFrom_159 : decode cX1_copyFrom 159 = .ok (.iconst 0, 1) := by decide +kernel
theorem dX1_copyFrom_160 : decode cX1_copyFrom 160 = .ok (.aload_n 0, 1) := by decide +kernel
theorem dX1_copyFrom_161 : decode cX1_copyFrom 161 = .ok (.getfield 50, 3) := by decide +kernel
theorem dX1_copyFrom_164 : decode cX1_copyFrom 164 = .ok (.iconst 0, 1) := by decide +kernel
theorem dX1_copyFrom_165 : decode cX1_copyFrom 165 = .ok (.bipush 6, 2) := by decide +kernel
theorem dX1_copyFrom_167 : decode cX1_copyFrom 167 = .ok (.invokestatic 65, 3) := by decide +kernel
theorem dX1_copyFrom_170 : decode cX1_copyFrom 170 = .ok (.aload_n 1, 1) := by decide +kernel
theorem dX1_copyFrom_171 : decode cX1_copyFrom 171 = .ok (.getfield 53, 3) := by decide +kernel
theorem dX1_copyFrom_174 : decode cX1_copyFrom 174 = .ok (.iconst 0, 1) := by decide +kernel
theorem dX1_copyFrom_175 : decode cX1_copyFrom 175 = .ok (.aload_n 0, 1) := by decide +kernel
theorem dX1_copyFrom_176 : decode cX1_copyFrom 176 = .ok (.getfield 53, 3) := by decide +kernel
theorem dX1_copyFrom_179 : decode cX1_copyFrom 179 = .ok (.iconst 0, 1) := by decide +kernel
theorem dX1_copyFrom_180 : decode cX1_copyFrom 180 = .ok (.bipush 6, 2) := by decide +kernel
theorem dX1_copyFrom_182 : decode cX1_copyFrom 182 = .ok (.invokestatic 65, 3) := by decide +kernel
theorem dX1_copyFrom_185 : decode cX1_copyFrom 185 = .ok (.aload_n 1, 1) := by decide +kernel
theorem dX1_copyFrom_186 : decode cX1_copyFrom 186 = .ok (.getfield 56, 3) := by decide +kernel
theorem dX1_copyFrom_189 : decode cX1_copyFrom 189 = .ok (.iconst 0, 1) := by decide +kernel
theorem dX1_copyFrom_190 : decode cX1_copyFrom 190 = .ok (.aload_n 0, 1) := by decide +kernel
theorem dX1_copyFrom_191 : decode cX1_copyFrom 191 = .ok (.getfield 56, 3) := by decide +kernel
theorem dX1_copyFrom_194 : decode cX1_copyFrom 194 = .ok (.iconst 0, 1) := by decide +kernel
theorem dX1_copyFrom_195 : decode cX1_copyFrom 195 = .ok (.bipush 6, 2) := by decide +kernel
theorem dX1_copyFrom_197 : decode cX1_copyFrom 197 = .ok (.invokestatic 65, 3) := by decide +kernel
theorem dX1_copyFrom_200 : decode cX1_copyFrom 200 = .ok (.return_, 1) := by decide +kernel
theorem dX1_hasHolder_0 : decode cX1_hasHolder 0 = .ok (.iload_n 1, 1) := by decide +kernel
theorem dX1_hasHolder_1 : decode cX1_hasHolder 1 = .ok (.ifCond .lt 20, 3) := by decide +kernel
theorem dX1_hasHolder_4 : decode cX1_hasHolder 4 = .ok (.iload_n 1, 1) := by decide +kernel
theorem dX1_hasHolder_5 : decode cX1_hasHolder 5 = .ok (.aload_n 0, 1) := by decide +kernel
theorem dX1_hasHolder_6 : decode cX1_hasHolder 6 = .ok (.getfield 24, 3) := by decide +kernel
theorem dX1_hasHolder_9 : decode cX1_hasHolder 9 = .ok (.if_icmp .ge 12, 3) := by decide +kernel
theorem dX1_hasHolder_12 : decode cX1_hasHolder 12 = .ok (.iload_n 1, 1) := by decide +kernel
theorem dX1_hasHolder_13 : decode cX1_hasHolder 13 = .ok (.iconst 4, 1) := by decide +kernel
theorem dX1_hasHolder_14 : decode cX1_hasHolder 14 = .ok (.if_icmp .ge 7, 3) := by decide +kernel
theorem dX1_hasHolder_17 : decode cX1_hasHolder 17 = .ok (.iconst 1, 1) := by decide +kernel
theorem dX1_hasHolder_18 : decode cX1_hasHolder 18 = .ok (.goto 4, 3) := by decide +kernel
theorem dX1_hasHolder_21 : decode cX1_hasHolder 21 = .ok (.iconst 0, 1) := by decide +kernel
theorem dX1_hasHolder_22 : decode cX1_hasHolder 22 = .ok (.ireturn, 1) := by decide +kernel
theorem dX1_hasBeast_0 : decode cX1_hasBeast 0 = .ok (.iload_n 1, 1) := by decide +kernel
theorem dX1_hasBeast_1 : decode cX1_hasBeast 1 = .ok (.ifCond .lt 21, 3) := by decide +kernel
theorem dX1_hasBeast_4 : decode cX1_hasBeast 4 = .ok (.iload_n 1, 1) := by decide +kernel
theorem dX1_hasBeast_5 : decode cX1_hasBeast 5 = .ok (.aload_n 0, 1) := by decide +kernel
theorem dX1_hasBeast_6 : decode cX1_hasBeast 6 = .ok (.getfield 41, 3) := by decide +kernel
theorem dX1_hasBeast_9 : decode cX1_hasBeast 9 = .ok (.if_icmp .ge 13, 3) := by decide +kernel
theorem dX1_hasBeast_12 : decode cX1_hasBeast 12 = .ok (.iload_n 1, 1) := by decide +kernel
theorem dX1_hasBeast_13 : decode cX1_hasBeast 13 = .ok (.bipush 6, 2) := by decide +kernel
theorem dX1_hasBeast_15 : decode cX1_hasBeast 15 = .ok (.if_icmp .ge 7, 3) := by decide +kernel
theorem dX1_hasBeast_18 : decode cX1_hasBeast 18 = .ok (.iconst 1, 1) := by decide +kernel
theorem dX1_hasBeast_19 : decode cX1_hasBeast 19 = .ok (.goto 4, 3) := by decide +kernel
theorem dX1_hasBeast_22 : decode cX1_hasBeast 22 = .ok (.iconst 0, 1) := by decide +kernel
theorem dX1_hasBeast_23 : decode cX1_hasBeast 23 = .ok (.ireturn, 1) := by decide +kernel
set_option maxRecDepth 20000 in
theorem ggX1_isAlive_X1_hasHolder : GoodIn wsX1_isAlive wsX1_hasHolder := goodIn_r _ [6, 7, 8, 9, 10, 11, 12, 13, 14, 15, 16, 17, 18, 19, 20, 21, 22, 23, 24] (by decide +kernel) (by decide +kernel)
set_option maxRecDepth 20000 in
theorem gX1_isAlive_X1_hasHolder : GoodIn wsX1_isAlive (wsV RX1 71 RX1 yX1_hasHolder wsX1_hasHolder) := goodIn_app (goodIn_of _ (by decide +kernel)) ggX1_isAlive_X1_hasHolder
theorem dX1_isAlive_0 : decode cX1_isAlive 0 = .ok (.aload_n 0, 1) := by decide +kernel
theorem dX1_isAlive_1 : decode cX1_isAlive 1 = .ok (.iload_n 1, 1) := by decide +kernel
theorem dX1_isAlive_2 : decode cX1_isAlive 2 = .ok (.invokevirtual 71, 3) := by decide +kernel
theorem dX1_isAlive_5 : decode cX1_isAlive 5 = .ok (.ifCond .eq 16, 3) := by decide +kernel
theorem dX1_isAlive_8 : decode cX1_isAlive 8 = .ok (.aload_n 0, 1) := by decide +kernel
theorem dX1_isAlive_9 : decode cX1_isAlive 9 = .ok (.getfield 37, 3) := by decide +kernel
theorem dX1_isAlive_12 : decode cX1_isAlive 12 = .ok (.iload_n 1, 1) := by decide +kernel
theorem dX1_isAlive_13 : decode cX1_isAlive 13 = .ok (.baload, 1) := by decide +kernel
theorem dX1_isAlive_14 : decode cX1_isAlive 14 = .ok (.ifCond .eq 7, 3) := by decide +kernel
theorem dX1_isAlive_17 : decode cX1_isAlive 17 = .ok (.iconst 1, 1) := by decide +kernel
theorem dX1_isAlive_18 : decode cX1_isAlive 18 = .ok (.goto 4, 3) := by decide +kernel
theorem dX1_isAlive_21 : decode cX1_isAlive 21 = .ok (.iconst 0, 1) := by decide +kernel
theorem dX1_isAlive_22 : decode cX1_isAlive 22 = .ok (.ireturn, 1) := by decide +kernel
set_option maxRecDepth 20000 in
theorem ggX1_countAlive_X1_isAlive : GoodIn wsX1_countAlive wsX1_isAlive := goodIn_r _ [6, 7, 8, 9, 10, 5, 11, 1, 12, 13, 14, 15, 16, 17, 18, 19, 20, 21, 22, 23, 24, 25, 26, 27, 28] (by decide +kernel) (by decide +kernel)
set_option maxRecDepth 20000 in
theorem gX1_countAlive_X1_isAlive : GoodIn wsX1_countAlive (wsV RX1 75 RX1 yX1_isAlive wsX1_isAlive) := goodIn_app (goodIn_of _ (by decide +kernel)) ggX1_countAlive_X1_isAlive
theorem dX1_countAlive_0 : decode cX1_countAlive 0 = .ok (.iconst 0, 1) := by decide +kernel
theorem dX1_countAlive_1 : decode cX1_countAlive 1 = .ok (.istore_n 1, 1) := by decide +kernel
theorem dX1_countAlive_2 : decode cX1_countAlive 2 = .ok (.iconst 0, 1) := by decide +kernel
theorem dX1_countAlive_3 : decode cX1_countAlive 3 = .ok (.istore_n 2, 1) := by decide +kernel
theorem dX1_countAlive_4 : decode cX1_countAlive 4 = .ok (.iload_n 2, 1) := by decide +kernel
theorem dX1_countAlive_5 : decode cX1_countAlive 5 = .ok (.aload_n 0, 1) := by decide +kernel
theorem dX1_countAlive_6 : decode cX1_countAlive 6 = .ok (.getfield 24, 3) := by decide +kernel
theorem dX1_countAlive_9 : decode cX1_countAlive 9 = .ok (.if_icmp .ge 20, 3) := by decide +kernel
theorem dX1_countAlive_12 : decode cX1_countAlive 12 = .ok (.aload_n 0, 1) := by decide +kernel
theorem dX1_countAlive_13 : decode cX1_countAlive 13 = .ok (.iload_n 2, 1) := by decide +kernel
theorem dX1_countAlive_14 : decode cX1_countAlive 14 = .ok (.invokevirtual 75, 3) := by decide +kernel
theorem dX1_countAlive_17 : decode cX1_countAlive 17 = .ok (.ifCond .eq 6, 3) := by decide +kernel
theorem dX1_countAlive_20 : decode cX1_countAlive 20 = .ok (.iinc 1 1, 3) := by decide +kernel
theorem dX1_countAlive_23 : decode cX1_countAlive 23 = .ok (.iinc 2 1, 3) := by decide +kernel
theorem dX1_countAlive_26 : decode cX1_countAlive 26 = .ok (.goto (-22), 3) := by decide +kernel
theorem dX1_countAlive_29 : decode cX1_countAlive 29 = .ok (.iload_n 1, 1) := by decide +kernel
theorem dX1_countAlive_30 : decode cX1_countAlive 30 = .ok (.ireturn, 1) := by decide +kernel
set_option maxRecDepth 20000 in
theorem ggX1_countNotGone_X1_hasBeast : GoodIn wsX1_countNotGone wsX1_hasBeast := goodIn_r _ [7, 1, 8, 9, 10, 11, 12, 13, 14, 15, 16, 17, 18, 19, 20, 21, 22, 23, 24] (by decide +kernel) (by decide +kernel)
set_option maxRecDepth 20000 in
theorem gX1_countNotGone_X1_hasBeast : GoodIn wsX1_countNotGone (wsV RX1 78 RX1 yX1_hasBeast wsX1_hasBeast) := goodIn_app (goodIn_of _ (by decide +kernel)) ggX1_countNotGone_X1_hasBeast
theorem dX1_countNotGone_0 : decode cX1_countNotGone 0 = .ok (.iconst 0, 1) := by decide +kernel
theorem dX1_countNotGone_1 : decode cX1_countNotGone 1 = .ok (.istore_n 1, 1) := by decide +kernel
theorem dX1_countNotGone_2 : decode cX1_countNotGone 2 = .ok (.iconst 0, 1) := by decide +kernel
theorem dX1_countNotGone_3 : decode cX1_countNotGone 3 = .ok (.istore_n 2, 1) := by decide +kernel
theorem dX1_countNotGone_4 : decode cX1_countNotGone 4 = .ok (.iload_n 2, 1) := by decide +kernel
theorem dX1_countNotGone_5 : decode cX1_countNotGone 5 = .ok (.aload_n 0, 1) := by decide +kernel
theorem dX1_countNotGone_6 : decode cX1_countNotGone 6 = .ok (.getfield 41, 3) := by decide +kernel
theorem dX1_countNotGone_9 : decode cX1_countNotGone 9 = .ok (.if_icmp .ge 30, 3) := by decide +kernel
theorem dX1_countNotGone_12 : decode cX1_countNotGone 12 = .ok (.aload_n 0, 1) := by decide +kernel
theorem dX1_countNotGone_13 : decode cX1_countNotGone 13 = .ok (.iload_n 2, 1) := by decide +kernel
theorem dX1_countNotGone_14 : decode cX1_countNotGone 14 = .ok (.invokevirtual 78, 3) := by decide +kernel
theorem dX1_countNotGone_17 : decode cX1_countNotGone 17 = .ok (.ifCond .eq 16, 3) := by decide +kernel
theorem dX1_countNotGone_20 : decode cX1_countNotGone 20 = .ok (.aload_n 0, 1) := by decide +kernel
theorem dX1_countNotGone_21 : decode cX1_countNotGone 21 = .ok (.getfield 47, 3) := by decide +kernel
theorem dX1_countNotGone_24 : decode cX1_countNotGone 24 = .ok (.iload_n 2, 1) := by decide +kernel
theorem dX1_countNotGone_25 : decode cX1_countNotGone 25 = .ok (.iaload, 1) := by decide +kernel
theorem dX1_countNotGone_26 : decode cX1_countNotGone 26 = .ok (.iconst (-1), 1) := by decide +kernel
theorem dX1_countNotGone_27 : decode cX1_countNotGone 27 = .ok (.if_icmp .eq 6, 3) := by decide +kernel
theorem dX1_countNotGone_30 : decode cX1_countNotGone 30 = .ok (.iinc 1 1, 3) := by decide +kernel
theorem dX1_countNotGone_33 : decode cX1_countNotGone 33 = .ok (.iinc 2 1, 3) := by decide +kernel
theorem dX1_countNotGone_36 : decode cX1_countNotGone 36 = .ok (.goto (-32), 3) := by decide +kernel
theorem dX1_countNotGone_39 : decode cX1_countNotGone 39 = .ok (.iload_n 1, 1) := by decide +kernel
theorem dX1_countNotGone_40 : decode cX1_countNotGone 40 = .ok (.ireturn, 1) := by decide +kernel
theorem dX1_addHolder_0 : decode cX1_addHolder 0 = .ok (.aload_n 0, 1) := by decide +kernel
theorem dX1_addHolder_1 : decode cX1_addHolder 1 = .ok (.getfield 24, 3) := by decide +kernel
theorem dX1_addHolder_4 : decode cX1_addHolder 4 = .ok (.ifCond .lt 11, 3) := by decide +kernel
theorem dX1_addHolder_7 : decode cX1_addHolder 7 = .ok (.aload_n 0, 1) := by decide +kernel
theorem dX1_addHolder_8 : decode cX1_addHolder 8 = .ok (.getfield 24, 3) := by decide +kernel
theorem dX1_addHolder_11 : decode cX1_addHolder 11 = .ok (.iconst 4, 1) := by decide +kernel
theorem dX1_addHolder_12 : decode cX1_addHolder 12 = .ok (.if_icmp .lt 6, 3) := by decide +kernel
theorem dX1_addHolder_15 : decode cX1_addHolder 15 = .ok (.bipush (-104), 2) := by decide +kernel
theorem dX1_addHolder_17 : decode cX1_addHolder 17 = .ok (.ireturn, 1) := by decide +kernel
theorem dX1_addHolder_18 : decode cX1_addHolder 18 = .ok (.aload_n 0, 1) := by decide +kernel
theorem dX1_addHolder_19 : decode cX1_addHolder 19 = .ok (.getfield 24, 3) := by decide +kernel
theorem dX1_addHolder_22 : decode cX1_addHolder 22 = .ok (.istore_n 3, 1) := by decide +kernel
theorem dX1_addHolder_23 : decode cX1_addHolder 23 = .ok (.aload_n 0, 1) := by decide +kernel
theorem dX1_addHolder_24 : decode cX1_addHolder 24 = .ok (.getfield 27, 3) := by decide +kernel
theorem dX1_addHolder_27 : decode cX1_addHolder 27 = .ok (.iload_n 3, 1) := by decide +kernel
theorem dX1_addHolder_28 : decode cX1_addHolder 28 = .ok (.iload_n 1, 1) := by decide +kernel
theorem dX1_addHolder_29 : decode cX1_addHolder 29 = .ok (.iastore, 1) := by decide +kernel
theorem dX1_addHolder_30 : decode cX1_addHolder 30 = .ok (.aload_n 0, 1) := by decide +kernel
theorem dX1_addHolder_31 : decode cX1_addHolder 31 = .ok (.getfield 31, 3) := by decide +kernel
theorem dX1_addHolder_34 : decode cX1_addHolder 34 = .ok (.iload_n 3, 1) := by decide +kernel
theorem dX1_addHolder_35 : decode cX1_addHolder 35 = .ok (.iload_n 2, 1) := by decide +kernel
theorem dX1_addHolder_36 : decode cX1_addHolder 36 = .ok (.iastore, 1) := by decide +kernel
theorem dX1_addHolder_37 : decode cX1_addHolder 37 = .ok (.aload_n 0, 1) := by decide +kernel
theorem dX1_addHolder_38 : decode cX1_addHolder 38 = .ok (.getfield 34, 3) := by decide +kernel
theorem dX1_addHolder_41 : decode cX1_addHolder 41 = .ok (.iload_n 3, 1) := by decide +kernel
theorem dX1_addHolder_42 : decode cX1_addHolder 42 = .ok (.iconst (-1), 1) := by decide +kernel
theorem dX1_addHolder_43 : decode cX1_addHolder 43 = .ok (.iastore, 1) := by decide +kernel
theorem dX1_addHolder_44 : decode cX1_addHolder 44 = .ok (.aload_n 0, 1) := by decide +kernel
theorem dX1_addHolder_45 : decode cX1_addHolder 45 = .ok (.getfield 37, 3) := by decide +kernel
theorem dX1_addHolder_48 : decode cX1_addHolder 48 = .ok (.iload_n 3, 1) := by decide +kernel
theorem dX1_addHolder_49 : decode cX1_addHolder 49 = .ok (.iconst 1, 1) := by decide +kernel
theorem dX1_addHolder_50 : decode cX1_addHolder 50 = .ok (.bastore, 1) := by decide +kernel
theorem dX1_addHolder_51 : decode cX1_addHolder 51 = .ok (.aload_n 0, 1) := by decide +kernel
theorem dX1_addHolder_52 : decode cX1_addHolder 52 = .ok (.dup, 1) := by decide +kernel
theorem dX1_addHolder_53 : decode cX1_addHolder 53 = .ok (.getfield 24, 3) := by decide +kernel
theorem dX1_addHolder_56 : decode cX1_addHolder 56 = .ok (.iconst 1, 1) := by decide +kernel
theorem dX1_addHolder_57 : decode cX1_addHolder 57 = .ok (.iadd, 1) := by decide +kernel
theorem dX1_addHolder_58 : decode cX1_addHolder 58 = .ok (.putfield 24, 3) := by decide +kernel
theorem dX1_addHolder_61 : decode cX1_addHolder 61 = .ok (.iload_n 3, 1) := by decide +kernel
theorem dX1_addHolder_62 : decode cX1_addHolder 62 = .ok (.ireturn, 1) := by decide +kernel
set_option maxRecDepth 20000 in
theorem ggX1_addBeast_X1_putTo : GoodIn wsX1_addBeast wsX1_putTo := goodIn_r _ [8, 9, 10, 11, 12, 13, 14, 7, 15, 1, 16, 17, 18, 19, 20, 21, 22, 23, 24, 25, 26, 27, 28, 29, 30, 31, 32] (by decide +kernel) (by decide +kernel)
set_option maxRecDepth 20000 in
theorem gX1_addBeast_X1_putTo : GoodIn wsX1_addBeast (wsV RX1 81 RX1 yX1_putTo wsX1_putTo) := goodIn_app (goodIn_of _ (by decide +kernel)) ggX1_addBeast_X1_putTo
theorem dX1_addBeast_0 : decode cX1_addBeast 0 = .ok (.aload_n 0, 1) := by decide +kernel
theorem dX1_addBeast_1 : decode cX1_addBeast 1 = .ok (.getfield 41, 3) := by decide +kernel
theorem dX1_addBeast_4 : decode cX1_addBeast 4 = .ok (.ifCond .lt 12, 3) := by decide +kernel
theorem dX1_addBeast_7 : decode cX1_addBeast 7 = .ok (.aload_n 0, 1) := by decide +kernel
theorem dX1_addBeast_8 : decode cX1_addBeast 8 = .ok (.getfield 41, 3) := by decide +kernel
theorem dX1_addBeast_11 : decode cX1_addBeast 11 = .ok (.bipush 6, 2) := by decide +kernel
theorem dX1_addBeast_13 : decode cX1_addBeast 13 = .ok (.if_icmp .lt 6, 3) := by decide +kernel
theorem dX1_addBeast_16 : decode cX1_addBeast 16 = .ok (.bipush (-104), 2) := by decide +kernel
theorem dX1_addBeast_18 : decode cX1_addBeast 18 = .ok (.ireturn, 1) := by decide +kernel
theorem dX1_addBeast_19 : decode cX1_addBeast 19 = .ok (.aload_n 0, 1) := by decide +kernel
theorem dX1_addBeast_20 : decode cX1_addBeast 20 = .ok (.getfield 41, 3) := by decide +kernel
theorem dX1_addBeast_23 : decode cX1_addBeast 23 = .ok (.istore_n 3, 1) := by decide +kernel
theorem dX1_addBeast_24 : decode cX1_addBeast 24 = .ok (.aload_n 0, 1) := by decide +kernel
theorem dX1_addBeast_25 : decode cX1_addBeast 25 = .ok (.dup, 1) := by decide +kernel
theorem dX1_addBeast_26 : decode cX1_addBeast 26 = .ok (.getfield 41, 3) := by decide +kernel
theorem dX1_addBeast_29 : decode cX1_addBeast 29 = .ok (.iconst 1, 1) := by decide +kernel
theorem dX1_addBeast_30 : decode cX1_addBeast 30 = .ok (.iadd, 1) := by decide +kernel
theorem dX1_addBeast_31 : decode cX1_addBeast 31 = .ok (.putfield 41, 3) := by decide +kernel
theorem dX1_addBeast_34 : decode cX1_addBeast 34 = .ok (.aload_n 0, 1) := by decide +kernel
theorem dX1_addBeast_35 : decode cX1_addBeast 35 = .ok (.getfield 44, 3) := by decide +kernel
theorem dX1_addBeast_38 : decode cX1_addBeast 38 = .ok (.iload_n 3, 1) := by decide +kernel
theorem dX1_addBeast_39 : decode cX1_addBeast 39 = .ok (.iload_n 2, 1) := by decide +kernel
theorem dX1_addBeast_40 : decode cX1_addBeast 40 = .ok (.iastore, 1) := by decide +kernel
theorem dX1_addBeast_41 : decode cX1_addBeast 41 = .ok (.aload_n 0, 1) := by decide +kernel
theorem dX1_addBeast_42 : decode cX1_addBeast 42 = .ok (.getfield 56, 3) := by decide +kernel
theorem dX1_addBeast_45 : decode cX1_addBeast 45 = .ok (.iload_n 3, 1) := by decide +kernel
theorem dX1_addBeast_46 : decode cX1_addBeast 46 = .ok (.iconst (-1), 1) := by decide +kernel
theorem dX1_addBeast_47 : decode cX1_addBeast 47 = .ok (.iastore, 1) := by decide +kernel
theorem dX1_addBeast_48 : decode cX1_addBeast 48 = .ok (.aload_n 0, 1) := by decide +kernel
theorem dX1_addBeast_49 : decode cX1_addBeast 49 = .ok (.iload_n 3, 1) := by decide +kernel
theorem dX1_addBeast_50 : decode cX1_addBeast 50 = .ok (.iload_n 1, 1) := by decide +kernel
theorem dX1_addBeast_51 : decode cX1_addBeast 51 = .ok (.invokevirtual 81, 3) := by decide +kernel
theorem dX1_addBeast_54 : decode cX1_addBeast 54 = .ok (.iload_n 3, 1) := by decide +kernel
theorem dX1_addBeast_55 : decode cX1_addBeast 55 = .ok (.ireturn, 1) := by decide +kernel
set_option maxRecDepth 20000 in
theorem ggX1_putTo_X1_hasBeast : GoodIn wsX1_putTo wsX1_hasBeast := goodIn_r _ [8, 9, 10, 11, 12, 13, 14, 15, 16, 17, 18, 19, 20, 21, 22, 23, 24, 25, 26] (by decide +kernel) (by decide +kernel)
set_option maxRecDepth 20000 in
theorem gX1_putTo_X1_hasBeast : GoodIn wsX1_putTo (wsV RX1 78 RX1 yX1_hasBeast wsX1_hasBeast) := goodIn_app (goodIn_of _ (by decide +kernel)) ggX1_putTo_X1_hasBeast
theorem dX1_putTo_0 : decode cX1_putTo 0 = .ok (.aload_n 0, 1) := by decide +kernel
theorem dX1_putTo_1 : decode cX1_putTo 1 = .ok (.iload_n 1, 1) := by decide +kernel
theorem dX1_putTo_2 : decode cX1_putTo 2 = .ok (.invokevirtual 78, 3) := by decide +kernel
theorem dX1_putTo_5 : decode cX1_putTo 5 = .ok (.ifCond .ne 4, 3) := by decide +kernel
theorem dX1_putTo_8 : decode cX1_putTo 8 = .ok (.return_, 1) := by decide +kernel
theorem dX1_putTo_9 : decode cX1_putTo 9 = .ok (.aload_n 0, 1) := by decide +kernel
theorem dX1_putTo_10 : decode cX1_putTo 10 = .ok (.getfield 47, 3) := by decide +kernel
theorem dX1_putTo_13 : decode cX1_putTo 13 = .ok (.iload_n 1, 1) := by decide +kernel
theorem dX1_putTo_14 : decode cX1_putTo 14 = .ok (.iload_n 2, 1) := by decide +kernel
theorem dX1_putTo_15 : decode cX1_putTo 15 = .ok (.iastore, 1) := by decide +kernel
theorem dX1_putTo_16 : decode cX1_putTo 16 = .ok (.aload_n 0, 1) := by decide +kernel
theorem dX1_putTo_17 : decode cX1_putTo 17 = .ok (.getfield 50, 3) := by decide +kernel
theorem dX1_putTo_20 : decode cX1_putTo 20 = .ok (.iload_n 1, 1) := by decide +kernel
theorem dX1_putTo_21 : decode cX1_putTo 21 = .ok (.iconst (-1), 1) := by decide +kernel
theorem dX1_putTo_22 : decode cX1_putTo 22 = .ok (.iastore, 1) := by decide +kernel
theorem dX1_putTo_23 : decode cX1_putTo 23 = .ok (.aload_n 0, 1) := by decide +kernel
theorem dX1_putTo_24 : decode cX1_putTo 24 = .ok (.getfield 53, 3) := by decide +kernel
theorem dX1_putTo_27 : decode cX1_putTo 27 = .ok (.iload_n 1, 1) := by decide +kernel
theorem dX1_putTo_28 : decode cX1_putTo 28 = .ok (.iconst (-1), 1) := by decide +kernel
theorem dX1_putTo_29 : decode cX1_putTo 29 = .ok (.iastore, 1) := by decide +kernel
theorem dX1_putTo_30 : decode cX1_putTo 30 = .ok (.return_, 1) := by decide +kernel
set_option maxRecDepth 20000 in
theorem ggX1_mayGive_X1_hasBeast : GoodIn wsX1_mayGive wsX1_hasBeast := goodIn_r _ [6, 7, 18, 19, 20, 21, 22, 23, 24, 25, 26, 27, 28, 29, 30, 31, 32, 33, 34] (by decide +kernel) (by decide +kernel)
set_option maxRecDepth 20000 in
theorem gX1_mayGive_X1_hasBeast : GoodIn wsX1_mayGive (wsV RX1 78 RX1 yX1_hasBeast wsX1_hasBeast) := goodIn_app (goodIn_of _ (by decide +kernel)) ggX1_mayGive_X1_hasBeast
set_option maxRecDepth 20000 in
theorem ggX1_mayGive_X1_isAlive : GoodIn wsX1_mayGive wsX1_isAlive := goodIn_r _ [11, 12, 13, 14, 15, 5, 16, 17, 18, 19, 20, 21, 22, 23, 24, 25, 26, 27, 28, 29, 30, 31, 32, 33, 34] (by decide +kernel) (by decide +kernel)
set_option maxRecDepth 20000 in
theorem gX1_mayGive_X1_isAlive : GoodIn wsX1_mayGive (wsV RX1 75 RX1 yX1_isAlive wsX1_isAlive) := goodIn_app (goodIn_of _ (by decide +kernel)) ggX1_mayGive_X1_isAlive
theorem dX1_mayGive_0 : decode cX1_mayGive 0 = .ok (.aload_n 0, 1) := by decide +kernel
theorem dX1_mayGive_1 : decode cX1_mayGive 1 = .ok (.iload_n 1, 1) := by decide +kernel
theorem dX1_mayGive_2 : decode cX1_mayGive 2 = .ok (.invokevirtual 78, 3) := by decide +kernel
theorem dX1_mayGive_5 : decode cX1_mayGive 5 = .ok (.ifCond .eq 35, 3) := by decide +kernel
theorem dX1_mayGive_8 : decode cX1_mayGive 8 = .ok (.aload_n 0, 1) := by decide +kernel
theorem dX1_mayGive_9 : decode cX1_mayGive 9 = .ok (.iload_n 2, 1) := by decide +kernel
theorem dX1_mayGive_10 : decode cX1_mayGive 10 = .ok (.invokevirtual 75, 3) := by decide +kernel
theorem dX1_mayGive_13 : decode cX1_mayGive 13 = .ok (.ifCond .eq 27, 3) := by decide +kernel
theorem dX1_mayGive_16 : decode cX1_mayGive 16 = .ok (.aload_n 0, 1) := by decide +kernel
theorem dX1_mayGive_17 : decode cX1_mayGive 17 = .ok (.getfield 47, 3) := by decide +kernel
theorem dX1_mayGive_20 : decode cX1_mayGive 20 = .ok (.iload_n 1, 1) := by decide +kernel
theorem dX1_mayGive_21 : decode cX1_mayGive 21 = .ok (.iaload, 1) := by decide +kernel
theorem dX1_mayGive_22 : decode cX1_mayGive 22 = .ok (.iconst (-1), 1) := by decide +kernel
theorem dX1_mayGive_23 : decode cX1_mayGive 23 = .ok (.if_icmp .eq 17, 3) := by decide +kernel
theorem dX1_mayGive_26 : decode cX1_mayGive 26 = .ok (.aload_n 0, 1) := by decide +kernel
theorem dX1_mayGive_27 : decode cX1_mayGive 27 = .ok (.getfield 47, 3) := by decide +kernel
theorem dX1_mayGive_30 : decode cX1_mayGive 30 = .ok (.iload_n 1, 1) := by decide +kernel
theorem dX1_mayGive_31 : decode cX1_mayGive 31 = .ok (.iaload, 1) := by decide +kernel
theorem dX1_mayGive_32 : decode cX1_mayGive 32 = .ok (.iload_n 2, 1) := by decide +kernel
theorem dX1_mayGive_33 : decode cX1_mayGive 33 = .ok (.if_icmp .eq 7, 3) := by decide +kernel
theorem dX1_mayGive_36 : decode cX1_mayGive 36 = .ok (.iconst 1, 1) := by decide +kernel
theorem dX1_mayGive_37 : decode cX1_mayGive 37 = .ok (.goto 4, 3) := by decide +kernel
theorem dX1_mayGive_40 : decode cX1_mayGive 40 = .ok (.iconst 0, 1) := by decide +kernel
theorem dX1_mayGive_41 : decode cX1_mayGive 41 = .ok (.ireturn, 1) := by decide +kernel
set_option maxRecDepth 20000 in
theorem ggX1_makeGift_X1_mayGive : GoodIn wsX1_makeGift wsX1_mayGive := goodIn_r _ [9, 2, 10, 11, 12, 8, 13, 14, 15, 16, 17, 18, 19, 20, 21, 22, 23, 24, 25, 26, 27, 28, 29, 30, 31, 32, 33, 34, 35, 36, 37, 38, 39, 40, 41] (by decide +kernel) (by decide +kernel)
set_option maxRecDepth 20000 in
theorem gX1_makeGift_X1_mayGive : GoodIn wsX1_makeGift (wsV RX1 85 RX1 yX1_mayGive wsX1_mayGive) := goodIn_app (goodIn_of _ (by decide +kernel)) ggX1_makeGift_X1_mayGive
theorem dX1_makeGift_0 : decode cX1_makeGift 0 = .ok (.aload_n 0, 1) := by decide +kernel
theorem dX1_makeGift_1 : decode cX1_makeGift 1 = .ok (.iload_n 1, 1) := by decide +kernel
theorem dX1_makeGift_2 : decode cX1_makeGift 2 = .ok (.iload_n 2, 1) := by decide +kernel
theorem dX1_makeGift_3 : decode cX1_makeGift 3 = .ok (.invokevirtual 85, 3) := by decide +kernel
theorem dX1_makeGift_6 : decode cX1_makeGift 6 = .ok (.ifCond .ne 4, 3) := by decide +kernel
theorem dX1_makeGift_9 : decode cX1_makeGift 9 = .ok (.return_, 1) := by decide +kernel
theorem dX1_makeGift_10 : decode cX1_makeGift 10 = .ok (.aload_n 0, 1) := by decide +kernel
theorem dX1_makeGift_11 : decode cX1_makeGift 11 = .ok (.getfield 50, 3) := by decide +kernel
theorem dX1_makeGift_14 : decode cX1_makeGift 14 = .ok (.iload_n 1, 1) := by decide +kernel
theorem dX1_makeGift_15 : decode cX1_makeGift 15 = .ok (.aload_n 0, 1) := by decide +kernel
theorem dX1_makeGift_16 : decode cX1_makeGift 16 = .ok (.getfield 47, 3) := by decide +kernel
theorem dX1_makeGift_19 : decode cX1_makeGift 19 = .ok (.iload_n 1, 1) := by decide +kernel
theorem dX1_makeGift_20 : decode cX1_makeGift 20 = .ok (.iaload, 1) := by decide +kernel
theorem dX1_makeGift_21 : decode cX1_makeGift 21 = .ok (.iastore, 1) := by decide +kernel
theorem dX1_makeGift_22 : decode cX1_makeGift 22 = .ok (.aload_n 0, 1) := by decide +kernel
theorem dX1_makeGift_23 : decode cX1_makeGift 23 = .ok (.getfield 53, 3) := by decide +kernel
theorem dX1_makeGift_26 : decode cX1_makeGift 26 = .ok (.iload_n 1, 1) := by decide +kernel
theorem dX1_makeGift_27 : decode cX1_makeGift 27 = .ok (.aload_n 0, 1) := by decide +kernel
theorem dX1_makeGift_28 : decode cX1_makeGift 28 = .ok (.getfield 59, 3) := by decide +kernel
theorem dX1_makeGift_31 : decode cX1_makeGift 31 = .ok (.iastore, 1) := by decide +kernel
theorem dX1_makeGift_32 : decode cX1_makeGift 32 = .ok (.aload_n 0, 1) := by decide +kernel
theorem dX1_makeGift_33 : decode cX1_makeGift 33 = .ok (.getfield 47, 3) := by decide +kernel
theorem dX1_makeGift_36 : decode cX1_makeGift 36 = .ok (.iload_n 1, 1) := by decide +kernel
theorem dX1_makeGift_37 : decode cX1_makeGift 37 = .ok (.iload_n 2, 1) := by decide +kernel
theorem dX1_makeGift_38 : decode cX1_makeGift 38 = .ok (.iastore, 1) := by decide +kernel
theorem dX1_makeGift_39 : decode cX1_makeGift 39 = .ok (.return_, 1) := by decide +kernel
theorem dX1_lordMay_0 : decode cX1_lordMay 0 = .ok (.iload_n 1, 1) := by decide +kernel
theorem dX1_lordMay_1 : decode cX1_lordMay 1 = .ok (.iconst 3, 1) := by decide +kernel
theorem dX1_lordMay_2 : decode cX1_lordMay 2 = .ok (.if_icmp .eq 8, 3) := by decide +kernel
theorem dX1_lordMay_5 : decode cX1_lordMay 5 = .ok (.iload_n 1, 1) := by decide +kernel
theorem dX1_lordMay_6 : decode cX1_lordMay 6 = .ok (.iconst 4, 1) := by decide +kernel
theorem dX1_lordMay_7 : decode cX1_lordMay 7 = .ok (.if_icmp .ne 5, 3) := by decide +kernel
theorem dX1_lordMay_10 : decode cX1_lordMay 10 = .ok (.iconst 0, 1) := by decide +kernel
theorem dX1_lordMay_11 : decode cX1_lordMay 11 = .ok (.ireturn, 1) := by decide +kernel
theorem dX1_lordMay_12 : decode cX1_lordMay 12 = .ok (.iload_n 1, 1) := by decide +kernel
theorem dX1_lordMay_13 : decode cX1_lordMay 13 = .ok (.iconst 1, 1) := by decide +kernel
theorem dX1_lordMay_14 : decode cX1_lordMay 14 = .ok (.if_icmp .ne 16, 3) := by decide +kernel
theorem dX1_lordMay_17 : decode cX1_lordMay 17 = .ok (.iconst 0, 1) := by decide +kernel
theorem dX1_lordMay_18 : decode cX1_lordMay 18 = .ok (.aload_n 0, 1) := by decide +kernel
theorem dX1_lordMay_19 : decode cX1_lordMay 19 = .ok (.getfield 9, 3) := by decide +kernel
theorem dX1_lordMay_22 : decode cX1_lordMay 22 = .ok (.iconst 1, 1) := by decide +kernel
theorem dX1_lordMay_23 : decode cX1_lordMay 23 = .ok (.isub, 1) := by decide +kernel
theorem dX1_lordMay_24 : decode cX1_lordMay 24 = .ok (.invokestatic 89, 3) := by decide +kernel
theorem dX1_lordMay_27 : decode cX1_lordMay 27 = .ok (.goto 7, 3) := by decide +kernel
theorem dX1_lordMay_30 : decode cX1_lordMay 30 = .ok (.aload_n 0, 1) := by decide +kernel
theorem dX1_lordMay_31 : decode cX1_lordMay 31 = .ok (.getfield 9, 3) := by decide +kernel
theorem dX1_lordMay_34 : decode cX1_lordMay 34 = .ok (.ireturn, 1) := by decide +kernel
theorem dX1_churchMay_0 : decode cX1_churchMay 0 = .ok (.iload_n 1, 1) := by decide +kernel
theorem dX1_churchMay_1 : decode cX1_churchMay 1 = .ok (.iconst 2, 1) := by decide +kernel
theorem dX1_churchMay_2 : decode cX1_churchMay 2 = .ok (.if_icmp .ne 10, 3) := by decide +kernel
theorem dX1_churchMay_5 : decode cX1_churchMay 5 = .ok (.aload_n 0, 1) := by decide +kernel
theorem dX1_churchMay_6 : decode cX1_churchMay 6 = .ok (.getfield 15, 3) := by decide +kernel
theorem dX1_churchMay_9 : decode cX1_churchMay 9 = .ok (.iconst 1, 1) := by decide +kernel
theorem dX1_churchMay_10 : decode cX1_churchMay 10 = .ok (.iadd, 1) := by decide +kernel
theorem dX1_churchMay_11 : decode cX1_churchMay 11 = .ok (.ireturn, 1) := by decide +kernel
theorem dX1_churchMay_12 : decode cX1_churchMay 12 = .ok (.iload_n 1, 1) := by decide +kernel
theorem dX1_churchMay_13 : decode cX1_churchMay 13 = .ok (.iconst 4, 1) := by decide +kernel
theorem dX1_churchMay_14 : decode cX1_churchMay 14 = .ok (.if_icmp .ne 16, 3) := by decide +kernel
theorem dX1_churchMay_17 : decode cX1_churchMay 17 = .ok (.iconst 0, 1) := by decide +kernel
theorem dX1_churchMay_18 : decode cX1_churchMay 18 = .ok (.aload_n 0, 1) := by decide +kernel
theorem dX1_churchMay_19 : decode cX1_churchMay 19 = .ok (.getfield 15, 3) := by decide +kernel
theorem dX1_churchMay_22 : decode cX1_churchMay 22 = .ok (.iconst 2, 1) := by decide +kernel
theorem dX1_churchMay_23 : decode cX1_churchMay 23 = .ok (.isub, 1) := by decide +kernel
theorem dX1_churchMay_24 : decode cX1_churchMay 24 = .ok (.invokestatic 89, 3) := by decide +kernel
theorem dX1_churchMay_27 : decode cX1_churchMay 27 = .ok (.goto 7, 3) := by decide +kernel
theorem dX1_churchMay_30 : decode cX1_churchMay 30 = .ok (.aload_n 0, 1) := by decide +kernel
theorem dX1_churchMay_31 : decode cX1_churchMay 31 = .ok (.getfield 15, 3) := by decide +kernel
theorem dX1_churchMay_34 : decode cX1_churchMay 34 = .ok (.ireturn, 1) := by decide +kernel
set_option maxRecDepth 20000 in
theorem ggX1_ownBits_X1_hasBeast : GoodIn wsX1_ownBits wsX1_hasBeast := goodIn_r _ [7, 1, 8, 9, 10, 11, 12, 13, 14, 15, 16, 17, 18, 19, 20, 21, 22, 23, 24] (by decide +kernel) (by decide +kernel)
set_option maxRecDepth 20000 in
theorem gX1_ownBits_X1_hasBeast : GoodIn wsX1_ownBits (wsV RX1 78 RX1 yX1_hasBeast wsX1_hasBeast) := goodIn_app (goodIn_of _ (by decide +kernel)) ggX1_ownBits_X1_hasBeast
theorem dX1_ownBits_0 : decode cX1_ownBits 0 = .ok (.iconst 0, 1) := by decide +kernel
theorem dX1_ownBits_1 : decode cX1_ownBits 1 = .ok (.istore_n 2, 1) := by decide +kernel
theorem dX1_ownBits_2 : decode cX1_ownBits 2 = .ok (.iconst 0, 1) := by decide +kernel
theorem dX1_ownBits_3 : decode cX1_ownBits 3 = .ok (.istore_n 3, 1) := by decide +kernel
theorem dX1_ownBits_4 : decode cX1_ownBits 4 = .ok (.iload_n 3, 1) := by decide +kernel
theorem dX1_ownBits_5 : decode cX1_ownBits 5 = .ok (.aload_n 0, 1) := by decide +kernel
theorem dX1_ownBits_6 : decode cX1_ownBits 6 = .ok (.getfield 41, 3) := by decide +kernel
theorem dX1_ownBits_9 : decode cX1_ownBits 9 = .ok (.if_icmp .ge 33, 3) := by decide +kernel
theorem dX1_ownBits_12 : decode cX1_ownBits 12 = .ok (.aload_n 0, 1) := by decide +kernel
theorem dX1_ownBits_13 : decode cX1_ownBits 13 = .ok (.iload_n 3, 1) := by decide +kernel
theorem dX1_ownBits_14 : decode cX1_ownBits 14 = .ok (.invokevirtual 78, 3) := by decide +kernel
theorem dX1_ownBits_17 : decode cX1_ownBits 17 = .ok (.ifCond .eq 19, 3) := by decide +kernel
theorem dX1_ownBits_20 : decode cX1_ownBits 20 = .ok (.aload_n 0, 1) := by decide +kernel
theorem dX1_ownBits_21 : decode cX1_ownBits 21 = .ok (.getfield 47, 3) := by decide +kernel
theorem dX1_ownBits_24 : decode cX1_ownBits 24 = .ok (.iload_n 3, 1) := by decide +kernel
theorem dX1_ownBits_25 : decode cX1_ownBits 25 = .ok (.iaload, 1) := by decide +kernel
theorem dX1_ownBits_26 : decode cX1_ownBits 26 = .ok (.iload_n 1, 1) := by decide +kernel
theorem dX1_ownBits_27 : decode cX1_ownBits 27 = .ok (.if_icmp .ne 9, 3) := by decide +kernel
theorem dX1_ownBits_30 : decode cX1_ownBits 30 = .ok (.iload_n 2, 1) := by decide +kernel
theorem dX1_ownBits_31 : decode cX1_ownBits 31 = .ok (.iconst 1, 1) := by decide +kernel
theorem dX1_ownBits_32 : decode cX1_ownBits 32 = .ok (.iload_n 3, 1) := by decide +kernel
theorem dX1_ownBits_33 : decode cX1_ownBits 33 = .ok (.ishl, 1) := by decide +kernel
theorem dX1_ownBits_34 : decode cX1_ownBits 34 = .ok (.ior, 1) := by decide +kernel
theorem dX1_ownBits_35 : decode cX1_ownBits 35 = .ok (.istore_n 2, 1) := by decide +kernel
theorem dX1_ownBits_36 : decode cX1_ownBits 36 = .ok (.iinc 3 1, 3) := by decide +kernel
theorem dX1_ownBits_39 : decode cX1_ownBits 39 = .ok (.goto (-35), 3) := by decide +kernel
theorem dX1_ownBits_42 : decode cX1_ownBits 42 = .ok (.iload_n 2, 1) := by decide +kernel
theorem dX1_ownBits_43 : decode cX1_ownBits 43 = .ok (.ireturn, 1) := by decide +kernel
set_option maxRecDepth 20000 in
theorem ggX1_heldBits_X1_heldLater : GoodIn wsX1_heldBits wsX1_heldLater := goodIn_r _ [5, 6, 7, 8, 9, 10, 11, 12, 13, 4, 14, 15, 16, 17, 18, 19, 20, 21, 22, 23, 24, 25, 26, 27, 28, 29, 30, 31, 32, 33, 34, 35, 36] (by decide +kernel) (by decide +kernel)
set_option maxRecDepth 20000 in
theorem gX1_heldBits_X1_heldLater : GoodIn wsX1_heldBits (wsV RX1 95 RX1 yX1_heldLater wsX1_heldLater) := goodIn_app (goodIn_of _ (by decide +kernel)) ggX1_heldBits_X1_heldLater
theorem dX1_heldBits_0 : decode cX1_heldBits 0 = .ok (.aload_n 0, 1) := by decide +kernel
theorem dX1_heldBits_1 : decode cX1_heldBits 1 = .ok (.iload_n 1, 1) := by decide +kernel
theorem dX1_heldBits_2 : decode cX1_heldBits 2 = .ok (.iconst 0, 1) := by decide +kernel
theorem dX1_heldBits_3 : decode cX1_heldBits 3 = .ok (.iconst 0, 1) := by decide +kernel
theorem dX1_heldBits_4 : decode cX1_heldBits 4 = .ok (.invokevirtual 95, 3) := by decide +kernel
theorem dX1_heldBits_7 : decode cX1_heldBits 7 = .ok (.ireturn, 1) := by decide +kernel
set_option maxRecDepth 20000 in
theorem ggX1_heldLater_X1_ownBits : GoodIn wsX1_heldLater wsX1_ownBits := goodIn_r _ [10, 2, 11, 12, 13, 14, 9, 15, 16, 17, 18, 19, 20, 21, 22, 23, 24, 25, 26, 27, 28, 29, 30, 31, 32] (by decide +kernel) (by decide +kernel)
set_option maxRecDepth 20000 in
theorem gX1_heldLater_X1_ownBits : GoodIn wsX1_heldLater (wsV RX1 99 RX1 yX1_ownBits wsX1_ownBits) := goodIn_app (goodIn_of _ (by decide +kernel)) ggX1_heldLater_X1_ownBits
set_option maxRecDepth 20000 in
theorem ggX1_heldLater_X1_hasBeast : GoodIn wsX1_heldLater wsX1_hasBeast := goodIn_r _ [15, 2, 16, 17, 18, 19, 20, 21, 22, 23, 24, 25, 26, 27, 28, 29, 30, 31, 32] (by decide +kernel) (by decide +kernel)
set_option maxRecDepth 20000 in
theorem gX1_heldLater_X1_hasBeast : GoodIn wsX1_heldLater (wsV RX1 78 RX1 yX1_hasBeast wsX1_hasBeast) := goodIn_app (goodIn_of _ (by decide +kernel)) ggX1_heldLater_X1_hasBeast
theorem dX1_heldLater_0 : decode cX1_heldLater 0 = .ok (.aload_n 0, 1) := by decide +kernel
theorem dX1_heldLater_1 : decode cX1_heldLater 1 = .ok (.iload_n 1, 1) := by decide +kernel
theorem dX1_heldLater_2 : decode cX1_heldLater 2 = .ok (.invokevirtual 99, 3) := by decide +kernel
theorem dX1_heldLater_5 : decode cX1_heldLater 5 = .ok (.istore 4, 2) := by decide +kernel
theorem dX1_heldLater_7 : decode cX1_heldLater 7 = .ok (.iload_n 2, 1) := by decide +kernel
theorem dX1_heldLater_8 : decode cX1_heldLater 8 = .ok (.aload_n 0, 1) := by decide +kernel
theorem dX1_heldLater_9 : decode cX1_heldLater 9 = .ok (.getfield 18, 3) := by decide +kernel
theorem dX1_heldLater_12 : decode cX1_heldLater 12 = .ok (.if_icmp .lt 11, 3) := by decide +kernel
theorem dX1_heldLater_15 : decode cX1_heldLater 15 = .ok (.iload 4, 2) := by decide +kernel
theorem dX1_heldLater_17 : decode cX1_heldLater 17 = .ok (.iload_n 3, 1) := by decide +kernel
theorem dX1_heldLater_18 : decode cX1_heldLater 18 = .ok (.iconst (-1), 1) := by decide +kernel
theorem dX1_heldLater_19 : decode cX1_heldLater 19 = .ok (.ixor, 1) := by decide +kernel
theorem dX1_heldLater_20 : decode cX1_heldLater 20 = .ok (.iand, 1) := by decide +kernel
theorem dX1_heldLater_21 : decode cX1_heldLater 21 = .ok (.istore 4, 2) := by decide +kernel
theorem dX1_heldLater_23 : decode cX1_heldLater 23 = .ok (.iconst 0, 1) := by decide +kernel
theorem dX1_heldLater_24 : decode cX1_heldLater 24 = .ok (.istore 5, 2) := by decide +kernel
theorem dX1_heldLater_26 : decode cX1_heldLater 26 = .ok (.iload 5, 2) := by decide +kernel
theorem dX1_heldLater_28 : decode cX1_heldLater 28 = .ok (.aload_n 0, 1) := by decide +kernel
theorem dX1_heldLater_29 : decode cX1_heldLater 29 = .ok (.getfield 41, 3) := by decide +kernel
theorem dX1_heldLater_32 : decode cX1_heldLater 32 = .ok (.if_icmp .ge 59, 3) := by decide +kernel
theorem dX1_heldLater_35 : decode cX1_heldLater 35 = .ok (.aload_n 0, 1) := by decide +kernel
theorem dX1_heldLater_36 : decode cX1_heldLater 36 = .ok (.iload 5, 2) := by decide +kernel
theorem dX1_heldLater_38 : decode cX1_heldLater 38 = .ok (.invokevirtual 78, 3) := by decide +kernel
theorem dX1_heldLater_41 : decode cX1_heldLater 41 = .ok (.ifCond .eq 44, 3) := by decide +kernel
theorem dX1_heldLater_44 : decode cX1_heldLater 44 = .ok (.aload_n 0, 1) := by decide +kernel
theorem dX1_heldLater_45 : decode cX1_heldLater 45 = .ok (.getfield 50, 3) := by decide +kernel
theorem dX1_heldLater_48 : decode cX1_heldLater 48 = .ok (.iload 5, 2) := by decide +kernel
theorem dX1_heldLater_50 : decode cX1_heldLater 50 = .ok (.iaload, 1) := by decide +kernel
theorem dX1_heldLater_51 : decode cX1_heldLater 51 = .ok (.iload_n 1, 1) := by decide +kernel
theorem dX1_heldLater_52 : decode cX1_heldLater 52 = .ok (.if_icmp .ne 33, 3) := by decide +kernel
theorem dX1_heldLater_55 : decode cX1_heldLater 55 = .ok (.aload_n 0, 1) := by decide +kernel
theorem dX1_heldLater_56 : decode cX1_heldLater 56 = .ok (.getfield 59, 3) := by decide +kernel
theorem dX1_heldLater_59 : decode cX1_heldLater 59 = .ok (.iload_n 2, 1) := by decide +kernel
theorem dX1_heldLater_60 : decode cX1_heldLater 60 = .ok (.iadd, 1) := by decide +kernel
theorem dX1_heldLater_61 : decode cX1_heldLater 61 = .ok (.aload_n 0, 1) := by decide +kernel
theorem dX1_heldLater_62 : decode cX1_heldLater 62 = .ok (.getfield 53, 3) := by decide +kernel
theorem dX1_heldLater_65 : decode cX1_heldLater 65 = .ok (.iload 5, 2) := by decide +kernel
theorem dX1_heldLater_67 : decode cX1_heldLater 67 = .ok (.iaload, 1) := by decide +kernel
theorem dX1_heldLater_68 : decode cX1_heldLater 68 = .ok (.isub, 1) := by decide +kernel
theorem dX1_heldLater_69 : decode cX1_heldLater 69 = .ok (.aload_n 0, 1) := by decide +kernel
theorem dX1_heldLater_70 : decode cX1_heldLater 70 = .ok (.getfield 18, 3) := by decide +kernel
theorem dX1_heldLater_73 : decode cX1_heldLater 73 = .ok (.if_icmp .ge 12, 3) := by decide +kernel
theorem dX1_heldLater_76 : decode cX1_heldLater 76 = .ok (.iload 4, 2) := by decide +kernel
theorem dX1_heldLater_78 : decode cX1_heldLater 78 = .ok (.iconst 1, 1) := by decide +kernel
theorem dX1_heldLater_79 : decode cX1_heldLater 79 = .ok (.iload 5, 2) := by decide +kernel
theorem dX1_heldLater_81 : decode cX1_heldLater 81 = .ok (.ishl, 1) := by decide +kernel
theorem dX1_heldLater_82 : decode cX1_heldLater 82 = .ok (.ior, 1) := by decide +kernel
theorem dX1_heldLater_83 : decode cX1_heldLater 83 = .ok (.istore 4, 2) := by decide +kernel
theorem dX1_heldLater_85 : decode cX1_heldLater 85 = .ok (.iinc 5 1, 3) := by decide +kernel
theorem dX1_heldLater_88 : decode cX1_heldLater 88 = .ok (.goto (-62), 3) := by decide +kernel
theorem dX1_heldLater_91 : decode cX1_heldLater 91 = .ok (.iload 4, 2) := by decide +kernel
theorem dX1_heldLater_93 : decode cX1_heldLater 93 = .ok (.ireturn, 1) := by decide +kernel
set_option maxRecDepth 20000 in
theorem ggX1_takenFrom_X1_hasHolder : GoodIn wsX1_takenFrom wsX1_hasHolder := goodIn_r _ [6, 7, 33, 34, 35, 36, 37, 38, 39, 40, 41, 42, 43, 44, 45, 46, 47, 48, 49] (by decide +kernel) (by decide +kernel)
set_option maxRecDepth 20000 in
theorem gX1_takenFrom_X1_hasHolder : GoodIn wsX1_takenFrom (wsV RX1 71 RX1 yX1_hasHolder wsX1_hasHolder) := goodIn_app (goodIn_of _ (by decide +kernel)) ggX1_takenFrom_X1_hasHolder
set_option maxRecDepth 20000 in
theorem ggX1_takenFrom_X1_lordMay : GoodIn wsX1_takenFrom wsX1_lordMay := goodIn_r _ [11, 12, 13, 14, 15, 16, 33, 34, 35, 36, 37, 38, 39, 40, 41, 42, 43, 44, 45, 46, 47, 48, 49] (by decide +kernel) (by decide +kernel)
set_option maxRecDepth 20000 in
theorem gX1_takenFrom_X1_lordMay : GoodIn wsX1_takenFrom (wsV RX1 103 RX1 yX1_lordMay wsX1_lordMay) := goodIn_app (goodIn_of _ (by decide +kernel)) ggX1_takenFrom_X1_lordMay
set_option maxRecDepth 20000 in
theorem ggX1_takenFrom_X1_churchMay : GoodIn wsX1_takenFrom wsX1_churchMay := goodIn_r _ [20, 21, 13, 14, 15, 16, 33, 34, 35, 36, 37, 38, 39, 40, 41, 42, 43, 44, 45, 46, 47, 48, 49] (by decide +kernel) (by decide +kernel)
set_option maxRecDepth 20000 in
theorem gX1_takenFrom_X1_churchMay : GoodIn wsX1_takenFrom (wsV RX1 106 RX1 yX1_churchMay wsX1_churchMay) := goodIn_app (goodIn_of _ (by decide +kernel)) ggX1_takenFrom_X1_churchMay
set_option maxRecDepth 20000 in
theorem ggX1_takenFrom_X1_bestOf : GoodIn wsX1_takenFrom wsX1_bestOf := goodIn_r _ [25, 26, 27, 28, 29, 30, 31, 5, 32, 33, 34, 35, 36, 37, 38, 39, 40, 41, 42, 43, 44, 45, 46, 47, 48, 49] (by decide +kernel) (by decide +kernel)
set_option maxRecDepth 20000 in
theorem gX1_takenFrom_X1_bestOf : GoodIn wsX1_takenFrom (wsV RX1 109 RX1 yX1_bestOf wsX1_bestOf) := goodIn_app (goodIn_of _ (by decide +kernel)) ggX1_takenFrom_X1_bestOf
theorem dX1_takenFrom_0 : decode cX1_takenFrom 0 = .ok (.aload_n 0, 1) := by decide +kernel
theorem dX1_takenFrom_1 : decode cX1_takenFrom 1 = .ok (.iload_n 1, 1) := by decide +kernel
theorem dX1_takenFrom_2 : decode cX1_takenFrom 2 = .ok (.invokevirtual 71, 3) := by decide +kernel
theorem dX1_takenFrom_5 : decode cX1_takenFrom 5 = .ok (.ifCond .ne 5, 3) := by decide +kernel
theorem dX1_takenFrom_8 : decode cX1_takenFrom 8 = .ok (.iconst 0, 1) := by decide +kernel
theorem dX1_takenFrom_9 : decode cX1_takenFrom 9 = .ok (.ireturn, 1) := by decide +kernel
theorem dX1_takenFrom_10 : decode cX1_takenFrom 10 = .ok (.aload_n 0, 1) := by decide +kernel
theorem dX1_takenFrom_11 : decode cX1_takenFrom 11 = .ok (.aload_n 0, 1) := by decide +kernel
theorem dX1_takenFrom_12 : decode cX1_takenFrom 12 = .ok (.getfield 27, 3) := by decide +kernel
theorem dX1_takenFrom_15 : decode cX1_takenFrom 15 = .ok (.iload_n 1, 1) := by decide +kernel
theorem dX1_takenFrom_16 : decode cX1_takenFrom 16 = .ok (.iaload, 1) := by decide +kernel
theorem dX1_takenFrom_17 : decode cX1_takenFrom 17 = .ok (.invokevirtual 103, 3) := by decide +kernel
theorem dX1_takenFrom_20 : decode cX1_takenFrom 20 = .ok (.aload_n 0, 1) := by decide +kernel
theorem dX1_takenFrom_21 : decode cX1_takenFrom 21 = .ok (.aload_n 0, 1) := by decide +kernel
theorem dX1_takenFrom_22 : decode cX1_takenFrom 22 = .ok (.getfield 27, 3) := by decide +kernel
theorem dX1_takenFrom_25 : decode cX1_takenFrom 25 = .ok (.iload_n 1, 1) := by decide +kernel
theorem dX1_takenFrom_26 : decode cX1_takenFrom 26 = .ok (.iaload, 1) := by decide +kernel
theorem dX1_takenFrom_27 : decode cX1_takenFrom 27 = .ok (.invokevirtual 106, 3) := by decide +kernel
theorem dX1_takenFrom_30 : decode cX1_takenFrom 30 = .ok (.iadd, 1) := by decide +kernel
theorem dX1_takenFrom_31 : decode cX1_takenFrom 31 = .ok (.istore_n 3, 1) := by decide +kernel
theorem dX1_takenFrom_32 : decode cX1_takenFrom 32 = .ok (.iconst 0, 1) := by decide +kernel
theorem dX1_takenFrom_33 : decode cX1_takenFrom 33 = .ok (.istore 4, 2) := by decide +kernel
theorem dX1_takenFrom_35 : decode cX1_takenFrom 35 = .ok (.iconst 0, 1) := by decide +kernel
theorem dX1_takenFrom_36 : decode cX1_takenFrom 36 = .ok (.istore 5, 2) := by decide +kernel
theorem dX1_takenFrom_38 : decode cX1_takenFrom 38 = .ok (.iload 5, 2) := by decide +kernel
theorem dX1_takenFrom_40 : decode cX1_takenFrom 40 = .ok (.iload_n 3, 1) := by decide +kernel
theorem dX1_takenFrom_41 : decode cX1_takenFrom 41 = .ok (.if_icmp .ge 39, 3) := by decide +kernel
theorem dX1_takenFrom_44 : decode cX1_takenFrom 44 = .ok (.aload_n 0, 1) := by decide +kernel
theorem dX1_takenFrom_45 : decode cX1_takenFrom 45 = .ok (.iload_n 2, 1) := by decide +kernel
theorem dX1_takenFrom_46 : decode cX1_takenFrom 46 = .ok (.iload 4, 2) := by decide +kernel
theorem dX1_takenFrom_48 : decode cX1_takenFrom 48 = .ok (.iconst (-1), 1) := by decide +kernel
theorem dX1_takenFrom_49 : decode cX1_takenFrom 49 = .ok (.ixor, 1) := by decide +kernel
theorem dX1_takenFrom_50 : decode cX1_takenFrom 50 = .ok (.iand, 1) := by decide +kernel
theorem dX1_takenFrom_51 : decode cX1_takenFrom 51 = .ok (.invokevirtual 109, 3) := by decide +kernel
theorem dX1_takenFrom_54 : decode cX1_takenFrom 54 = .ok (.istore 6, 2) := by decide +kernel
theorem dX1_takenFrom_56 : decode cX1_takenFrom 56 = .ok (.iload 6, 2) := by decide +kernel
theorem dX1_takenFrom_58 : decode cX1_takenFrom 58 = .ok (.iconst (-1), 1) := by decide +kernel
theorem dX1_takenFrom_59 : decode cX1_takenFrom 59 = .ok (.if_icmp .ne 6, 3) := by decide +kernel
theorem dX1_takenFrom_62 : decode cX1_takenFrom 62 = .ok (.goto 18, 3) := by decide +kernel
theorem dX1_takenFrom_65 : decode cX1_takenFrom 65 = .ok (.iload 4, 2) := by decide +kernel
theorem dX1_takenFrom_67 : decode cX1_takenFrom 67 = .ok (.iconst 1, 1) := by decide +kernel
theorem dX1_takenFrom_68 : decode cX1_takenFrom 68 = .ok (.iload 6, 2) := by decide +kernel
theorem dX1_takenFrom_70 : decode cX1_takenFrom 70 = .ok (.ishl, 1) := by decide +kernel
theorem dX1_takenFrom_71 : decode cX1_takenFrom 71 = .ok (.ior, 1) := by decide +kernel
theorem dX1_takenFrom_72 : decode cX1_takenFrom 72 = .ok (.istore 4, 2) := by decide +kernel
theorem dX1_takenFrom_74 : decode cX1_takenFrom 74 = .ok (.iinc 5 1, 3) := by decide +kernel
theorem dX1_takenFrom_77 : decode cX1_takenFrom 77 = .ok (.goto (-39), 3) := by decide +kernel
theorem dX1_takenFrom_80 : decode cX1_takenFrom 80 = .ok (.iload 4, 2) := by decide +kernel
theorem dX1_takenFrom_82 : decode cX1_takenFrom 82 = .ok (.ireturn, 1) := by decide +kernel
set_option maxRecDepth 20000 in
theorem ggX1_bestOf_X1_hasBeast : GoodIn wsX1_bestOf wsX1_hasBeast := goodIn_r _ [8, 2, 9, 10, 11, 12, 13, 14, 15, 16, 17, 18, 19, 20, 21, 22, 23, 24, 25] (by decide +kernel) (by decide +kernel)
set_option maxRecDepth 20000 in
theorem gX1_bestOf_X1_hasBeast : GoodIn wsX1_bestOf (wsV RX1 78 RX1 yX1_hasBeast wsX1_hasBeast) := goodIn_app (goodIn_of _ (by decide +kernel)) ggX1_bestOf_X1_hasBeast
theorem dX1_bestOf_0 : decode cX1_bestOf 0 = .ok (.iconst (-1), 1) := by decide +kernel
theorem dX1_bestOf_1 : decode cX1_bestOf 1 = .ok (.istore_n 2, 1) := by decide +kernel
theorem dX1_bestOf_2 : decode cX1_bestOf 2 = .ok (.aload_n 0, 1) := by decide +kernel
theorem dX1_bestOf_3 : decode cX1_bestOf 3 = .ok (.getfield 21, 3) := by decide +kernel
theorem dX1_bestOf_6 : decode cX1_bestOf 6 = .ok (.iconst 1, 1) := by decide +kernel
theorem dX1_bestOf_7 : decode cX1_bestOf 7 = .ok (.isub, 1) := by decide +kernel
theorem dX1_bestOf_8 : decode cX1_bestOf 8 = .ok (.istore_n 3, 1) := by decide +kernel
theorem dX1_bestOf_9 : decode cX1_bestOf 9 = .ok (.iconst 0, 1) := by decide +kernel
theorem dX1_bestOf_10 : decode cX1_bestOf 10 = .ok (.istore 4, 2) := by decide +kernel
theorem dX1_bestOf_12 : decode cX1_bestOf 12 = .ok (.iload 4, 2) := by decide +kernel
theorem dX1_bestOf_14 : decode cX1_bestOf 14 = .ok (.aload_n 0, 1) := by decide +kernel
theorem dX1_bestOf_15 : decode cX1_bestOf 15 = .ok (.getfield 41, 3) := by decide +kernel
theorem dX1_bestOf_18 : decode cX1_bestOf 18 = .ok (.if_icmp .ge 50, 3) := by decide +kernel
theorem dX1_bestOf_21 : decode cX1_bestOf 21 = .ok (.iload_n 1, 1) := by decide +kernel
theorem dX1_bestOf_22 : decode cX1_bestOf 22 = .ok (.iload 4, 2) := by decide +kernel
theorem dX1_bestOf_24 : decode cX1_bestOf 24 = .ok (.ishr, 1) := by decide +kernel
theorem dX1_bestOf_25 : decode cX1_bestOf 25 = .ok (.iconst 1, 1) := by decide +kernel
theorem dX1_bestOf_26 : decode cX1_bestOf 26 = .ok (.iand, 1) := by decide +kernel
theorem dX1_bestOf_27 : decode cX1_bestOf 27 = .ok (.iconst 1, 1) := by decide +kernel
theorem dX1_bestOf_28 : decode cX1_bestOf 28 = .ok (.if_icmp .ne 34, 3) := by decide +kernel
theorem dX1_bestOf_31 : decode cX1_bestOf 31 = .ok (.aload_n 0, 1) := by decide +kernel
theorem dX1_bestOf_32 : decode cX1_bestOf 32 = .ok (.iload 4, 2) := by decide +kernel
theorem dX1_bestOf_34 : decode cX1_bestOf 34 = .ok (.invokevirtual 78, 3) := by decide +kernel
theorem dX1_bestOf_37 : decode cX1_bestOf 37 = .ok (.ifCond .eq 25, 3) := by decide +kernel
theorem dX1_bestOf_40 : decode cX1_bestOf 40 = .ok (.aload_n 0, 1) := by decide +kernel
theorem dX1_bestOf_41 : decode cX1_bestOf 41 = .ok (.getfield 44, 3) := by decide +kernel
theorem dX1_bestOf_44 : decode cX1_bestOf 44 = .ok (.iload 4, 2) := by decide +kernel
theorem dX1_bestOf_46 : decode cX1_bestOf 46 = .ok (.iaload, 1) := by decide +kernel
theorem dX1_bestOf_47 : decode cX1_bestOf 47 = .ok (.iload_n 3, 1) := by decide +kernel
theorem dX1_bestOf_48 : decode cX1_bestOf 48 = .ok (.if_icmp .le 14, 3) := by decide +kernel
theorem dX1_bestOf_51 : decode cX1_bestOf 51 = .ok (.iload 4, 2) := by decide +kernel
theorem dX1_bestOf_53 : decode cX1_bestOf 53 = .ok (.istore_n 2, 1) := by decide +kernel
theorem dX1_bestOf_54 : decode cX1_bestOf 54 = .ok (.aload_n 0, 1) := by decide +kernel
theorem dX1_bestOf_55 : decode cX1_bestOf 55 = .ok (.getfield 44, 3) := by decide +kernel
theorem dX1_bestOf_58 : decode cX1_bestOf 58 = .ok (.iload 4, 2) := by decide +kernel
theorem dX1_bestOf_60 : decode cX1_bestOf 60 = .ok (.iaload, 1) := by decide +kernel
theorem dX1_bestOf_61 : decode cX1_bestOf 61 = .ok (.istore_n 3, 1) := by decide +kernel
theorem dX1_bestOf_62 : decode cX1_bestOf 62 = .ok (.iinc 4 1, 3) := by decide +kernel
theorem dX1_bestOf_65 : decode cX1_bestOf 65 = .ok (.goto (-53), 3) := by decide +kernel
theorem dX1_bestOf_68 : decode cX1_bestOf 68 = .ok (.iload_n 2, 1) := by decide +kernel
theorem dX1_bestOf_69 : decode cX1_bestOf 69 = .ok (.ireturn, 1) := by decide +kernel
set_option maxRecDepth 20000 in
theorem ggX1_worthTaken_X1_takenFrom : GoodIn wsX1_worthTaken wsX1_takenFrom := goodIn_r _ [5, 6, 7, 8, 9, 4, 10, 11, 12, 13, 14, 15, 16, 17, 18, 19, 20, 21, 22, 23, 24, 25, 26, 27, 28, 29, 30, 31, 32, 33, 34, 35, 36, 41, 42, 43, 44, 45, 46, 47, 48, 49, 50, 51, 52, 53, 54, 55, 56, 57] (by decide +kernel) (by decide +kernel)
set_option maxRecDepth 20000 in
theorem gX1_worthTaken_X1_takenFrom : GoodIn wsX1_worthTaken (wsV RX1 112 RX1 yX1_takenFrom wsX1_takenFrom) := goodIn_app (goodIn_of _ (by decide +kernel)) ggX1_worthTaken_X1_takenFrom
set_option maxRecDepth 20000 in
theorem ggX1_worthTaken_X1_worthOf : GoodIn wsX1_worthTaken wsX1_worthOf := goodIn_r _ [40, 31, 32, 33, 34, 35, 4, 36, 41, 42, 43, 44, 45, 46, 47, 48, 49, 50, 51, 52, 53, 54, 55, 56, 57] (by decide +kernel) (by decide +kernel)
set_option maxRecDepth 20000 in
theorem gX1_worthTaken_X1_worthOf : GoodIn wsX1_worthTaken (wsV RX1 115 RX1 yX1_worthOf wsX1_worthOf) := goodIn_app (goodIn_of _ (by decide +kernel)) ggX1_worthTaken_X1_worthOf
theorem dX1_worthTaken_0 : decode cX1_worthTaken 0 = .ok (.aload_n 0, 1) := by decide +kernel
theorem dX1_worthTaken_1 : decode cX1_worthTaken 1 = .ok (.aload_n 0, 1) := by decide +kernel
theorem dX1_worthTaken_2 : decode cX1_worthTaken 2 = .ok (.iload_n 1, 1) := by decide +kernel
theorem dX1_worthTaken_3 : decode cX1_worthTaken 3 = .ok (.iload_n 2, 1) := by decide +kernel
theorem dX1_worthTaken_4 : decode cX1_worthTaken 4 = .ok (.invokevirtual 112, 3) := by decide +kernel
theorem dX1_worthTaken_7 : decode cX1_worthTaken 7 = .ok (.invokevirtual 115, 3) := by decide +kernel
theorem dX1_worthTaken_10 : decode cX1_worthTaken 10 = .ok (.ireturn, 1) := by decide +kernel
set_option maxRecDepth 20000 in
theorem ggX1_worthOf_X1_hasBeast : GoodIn wsX1_worthOf wsX1_hasBeast := goodIn_r _ [7, 1, 8, 9, 10, 11, 12, 13, 14, 15, 16, 17, 18, 19, 20, 21, 22, 23, 24] (by decide +kernel) (by decide +kernel)
set_option maxRecDepth 20000 in
theorem gX1_worthOf_X1_hasBeast : GoodIn wsX1_worthOf (wsV RX1 78 RX1 yX1_hasBeast wsX1_hasBeast) := goodIn_app (goodIn_of _ (by decide +kernel)) ggX1_worthOf_X1_hasBeast
theorem dX1_worthOf_0 : decode cX1_worthOf 0 = .ok (.iconst 0, 1) := by decide +kernel
theorem dX1_worthOf_1 : decode cX1_worthOf 1 = .ok (.istore_n 2, 1) := by decide +kernel
theorem dX1_worthOf_2 : decode cX1_worthOf 2 = .ok (.iconst 0, 1) := by decide +kernel
theorem dX1_worthOf_3 : decode cX1_worthOf 3 = .ok (.istore_n 3, 1) := by decide +kernel
theorem dX1_worthOf_4 : decode cX1_worthOf 4 = .ok (.iload_n 3, 1) := by decide +kernel
theorem dX1_worthOf_5 : decode cX1_worthOf 5 = .ok (.aload_n 0, 1) := by decide +kernel
theorem dX1_worthOf_6 : decode cX1_worthOf 6 = .ok (.getfield 41, 3) := by decide +kernel
theorem dX1_worthOf_9 : decode cX1_worthOf 9 = .ok (.if_icmp .ge 35, 3) := by decide +kernel
theorem dX1_worthOf_12 : decode cX1_worthOf 12 = .ok (.iload_n 1, 1) := by decide +kernel
theorem dX1_worthOf_13 : decode cX1_worthOf 13 = .ok (.iload_n 3, 1) := by decide +kernel
theorem dX1_worthOf_14 : decode cX1_worthOf 14 = .ok (.ishr, 1) := by decide +kernel
theorem dX1_worthOf_15 : decode cX1_worthOf 15 = .ok (.iconst 1, 1) := by decide +kernel
theorem dX1_worthOf_16 : decode cX1_worthOf 16 = .ok (.iand, 1) := by decide +kernel
theorem dX1_worthOf_17 : decode cX1_worthOf 17 = .ok (.iconst 1, 1) := by decide +kernel
theorem dX1_worthOf_18 : decode cX1_worthOf 18 = .ok (.if_icmp .ne 20, 3) := by decide +kernel
theorem dX1_worthOf_21 : decode cX1_worthOf 21 = .ok (.aload_n 0, 1) := by decide +kernel
theorem dX1_worthOf_22 : decode cX1_worthOf 22 = .ok (.iload_n 3, 1) := by decide +kernel
theorem dX1_worthOf_23 : decode cX1_worthOf 23 = .ok (.invokevirtual 78, 3) := by decide +kernel
theorem dX1_worthOf_26 : decode cX1_worthOf 26 = .ok (.ifCond .eq 12, 3) := by decide +kernel
theorem dX1_worthOf_29 : decode cX1_worthOf 29 = .ok (.iload_n 2, 1) := by decide +kernel
theorem dX1_worthOf_30 : decode cX1_worthOf 30 = .ok (.aload_n 0, 1) := by decide +kernel
theorem dX1_worthOf_31 : decode cX1_worthOf 31 = .ok (.getfield 44, 3) := by decide +kernel
theorem dX1_worthOf_34 : decode cX1_worthOf 34 = .ok (.iload_n 3, 1) := by decide +kernel
theorem dX1_worthOf_35 : decode cX1_worthOf 35 = .ok (.iaload, 1) := by decide +kernel
theorem dX1_worthOf_36 : decode cX1_worthOf 36 = .ok (.iadd, 1) := by decide +kernel
theorem dX1_worthOf_37 : decode cX1_worthOf 37 = .ok (.istore_n 2, 1) := by decide +kernel
theorem dX1_worthOf_38 : decode cX1_worthOf 38 = .ok (.iinc 3 1, 3) := by decide +kernel
theorem dX1_worthOf_41 : decode cX1_worthOf 41 = .ok (.goto (-37), 3) := by decide +kernel
theorem dX1_worthOf_44 : decode cX1_worthOf 44 = .ok (.iload_n 2, 1) := by decide +kernel
theorem dX1_worthOf_45 : decode cX1_worthOf 45 = .ok (.ireturn, 1) := by decide +kernel
set_option maxRecDepth 20000 in
theorem ggX1_bury_X1_isAlive : GoodIn wsX1_bury wsX1_isAlive := goodIn_r _ [10, 4, 11, 12, 13, 9, 14, 15, 69, 70, 71, 72, 73, 74, 75, 76, 77, 78, 79, 80, 81, 82, 83, 84, 85] (by decide +kernel) (by decide +kernel)
set_option maxRecDepth 20000 in
theorem gX1_bury_X1_isAlive : GoodIn wsX1_bury (wsV RX1 75 RX1 yX1_isAlive wsX1_isAlive) := goodIn_app (goodIn_of _ (by decide +kernel)) ggX1_bury_X1_isAlive
set_option maxRecDepth 20000 in
theorem ggX1_bury_X1_heldBits : GoodIn wsX1_bury wsX1_heldBits := goodIn_r _ [19, 20, 21, 22, 9, 23, 24, 2, 25, 26, 27, 28, 29, 30, 31, 3, 32, 33, 34, 35, 69, 70, 71, 72, 73, 74, 75, 76, 77, 78, 79, 80, 81, 82, 83, 84, 85] (by decide +kernel) (by decide +kernel)
set_option maxRecDepth 20000 in
theorem gX1_bury_X1_heldBits : GoodIn wsX1_bury (wsV RX1 118 RX1 yX1_heldBits wsX1_heldBits) := goodIn_app (goodIn_of _ (by decide +kernel)) ggX1_bury_X1_heldBits
set_option maxRecDepth 20000 in
theorem ggX1_bury_X1_takenFrom : GoodIn wsX1_bury wsX1_takenFrom := goodIn_r _ [39, 40, 11, 12, 13, 9, 14, 15, 41, 42, 43, 44, 45, 46, 47, 48, 49, 50, 51, 52, 53, 54, 55, 56, 57, 58, 59, 2, 60, 32, 33, 34, 35, 69, 70, 71, 72, 73, 74, 75, 76, 77, 78, 79, 80, 81, 82, 83, 84, 85] (by decide +kernel) (by decide +kernel)
set_option maxRecDepth 20000 in
theorem gX1_bury_X1_takenFrom : GoodIn wsX1_bury (wsV RX1 112 RX1 yX1_takenFrom wsX1_takenFrom) := goodIn_app (goodIn_of _ (by decide +kernel)) ggX1_bury_X1_takenFrom
set_option maxRecDepth 20000 in
theorem ggX1_bury_X1_worthOf : GoodIn wsX1_bury wsX1_worthOf := goodIn_r _ [64, 2, 60, 32, 33, 34, 9, 35, 69, 70, 71, 72, 73, 74, 75, 76, 77, 78, 79, 80, 81, 82, 83, 84, 85] (by decide +kernel) (by decide +kernel)
set_option maxRecDepth 20000 in
theorem gX1_bury_X1_worthOf : GoodIn wsX1_bury (wsV RX1 115 RX1 yX1_worthOf wsX1_worthOf) := goodIn_app (goodIn_of _ (by decide +kernel)) ggX1_bury_X1_worthOf
set_option maxRecDepth 20000 in
theorem ggX1_bury_X1_putTo : GoodIn wsX1_bury wsX1_putTo := goodIn_r _ [68, 3, 25, 27, 32, 33, 34, 9, 35, 2, 69, 70, 71, 72, 73, 74, 75, 76, 77, 78, 79, 80, 81, 82, 83, 84, 85] (by decide +kernel) (by decide +kernel)
set_option maxRecDepth 20000 in
theorem gX1_bury_X1_putTo : GoodIn wsX1_bury (wsV RX1 81 RX1 yX1_putTo wsX1_putTo) := goodIn_app (goodIn_of _ (by decide +kernel)) ggX1_bury_X1_putTo
set_option maxRecDepth 20000 in
theorem ggX1_bury_X1_hasBeast : GoodIn wsX1_bury wsX1_hasBeast := goodIn_r _ [35, 2, 69, 70, 71, 72, 73, 74, 75, 76, 77, 78, 79, 80, 81, 82, 83, 84, 85] (by decide +kernel) (by decide +kernel)
set_option maxRecDepth 20000 in
theorem gX1_bury_X1_hasBeast : GoodIn wsX1_bury (wsV RX1 78 RX1 yX1_hasBeast wsX1_hasBeast) := goodIn_app (goodIn_of _ (by decide +kernel)) ggX1_bury_X1_hasBeast
theorem dX1_bury_0 : decode cX1_bury 0 = .ok (.aload_n 0, 1) := by decide +kernel
theorem dX1_bury_1 : decode cX1_bury 1 = .ok (.iload_n 1, 1) := by decide +kernel
theorem dX1_bury_2 : decode cX1_bury 2 = .ok (.invokevirtual 75, 3) := by decide +kernel
theorem dX1_bury_5 : decode cX1_bury 5 = .ok (.ifCond .ne 5, 3) := by decide +kernel
theorem dX1_bury_8 : decode cX1_bury 8 = .ok (.iconst 0, 1) := by decide +kernel
theorem dX1_bury_9 : decode cX1_bury 9 = .ok (.ireturn, 1) := by decide +kernel
theorem dX1_bury_10 : decode cX1_bury 10 = .ok (.aload_n 0, 1) := by decide +kernel
theorem dX1_bury_11 : decode cX1_bury 11 = .ok (.iload_n 1, 1) := by decide +kernel
theorem dX1_bury_12 : decode cX1_bury 12 = .ok (.aload_n 0, 1) := by decide +kernel
theorem dX1_bury_13 : decode cX1_bury 13 = .ok (.iload_n 1, 1) := by decide +kernel
theorem dX1_bury_14 : decode cX1_bury 14 = .ok (.invokevirtual 118, 3) := by decide +kernel
theorem dX1_bury_17 : decode cX1_bury 17 = .ok (.invokevirtual 112, 3) := by decide +kernel
theorem dX1_bury_20 : decode cX1_bury 20 = .ok (.istore_n 2, 1) := by decide +kernel
theorem dX1_bury_21 : decode cX1_bury 21 = .ok (.aload_n 0, 1) := by decide +kernel
theorem dX1_bury_22 : decode cX1_bury 22 = .ok (.iload_n 2, 1) := by decide +kernel
theorem dX1_bury_23 : decode cX1_bury 23 = .ok (.invokevirtual 115, 3) := by decide +kernel
theorem dX1_bury_26 : decode cX1_bury 26 = .ok (.istore_n 3, 1) := by decide +kernel
theorem dX1_bury_27 : decode cX1_bury 27 = .ok (.aload_n 0, 1) := by decide +kernel
theorem dX1_bury_28 : decode cX1_bury 28 = .ok (.aload_n 0, 1) := by decide +kernel
theorem dX1_bury_29 : decode cX1_bury 29 = .ok (.getfield 34, 3) := by decide +kernel
theorem dX1_bury_32 : decode cX1_bury 32 = .ok (.iload_n 1, 1) := by decide +kernel
theorem dX1_bury_33 : decode cX1_bury 33 = .ok (.iaload, 1) := by decide +kernel
theorem dX1_bury_34 : decode cX1_bury 34 = .ok (.invokevirtual 75, 3) := by decide +kernel
theorem dX1_bury_37 : decode cX1_bury 37 = .ok (.ifCond .eq 12, 3) := by decide +kernel
theorem dX1_bury_40 : decode cX1_bury 40 = .ok (.aload_n 0, 1) := by decide +kernel
theorem dX1_bury_41 : decode cX1_bury 41 = .ok (.getfield 34, 3) := by decide +kernel
theorem dX1_bury_44 : decode cX1_bury 44 = .ok (.iload_n 1, 1) := by decide +kernel
theorem dX1_bury_45 : decode cX1_bury 45 = .ok (.iaload, 1) := by decide +kernel
theorem dX1_bury_46 : decode cX1_bury 46 = .ok (.goto 4, 3) := by decide +kernel
theorem dX1_bury_49 : decode cX1_bury 49 = .ok (.iconst (-1), 1) := by decide +kernel
theorem dX1_bury_50 : decode cX1_bury 50 = .ok (.istore 4, 2) := by decide +kernel
theorem dX1_bury_52 : decode cX1_bury 52 = .ok (.iconst 0, 1) := by decide +kernel
theorem dX1_bury_53 : decode cX1_bury 53 = .ok (.istore 5, 2) := by decide +kernel
theorem dX1_bury_55 : decode cX1_bury 55 = .ok (.iload 5, 2) := by decide +kernel
theorem dX1_bury_57 : decode cX1_bury 57 = .ok (.aload_n 0, 1) := by decide +kernel
theorem dX1_bury_58 : decode cX1_bury 58 = .ok (.getfield 41, 3) := by decide +kernel
theorem dX1_bury_61 : decode cX1_bury 61 = .ok (.if_icmp .ge 57, 3) := by decide +kernel
theorem dX1_bury_64 : decode cX1_bury 64 = .ok (.iload_n 2, 1) := by decide +kernel
theorem dX1_bury_65 : decode cX1_bury 65 = .ok (.iload 5, 2) := by decide +kernel
theorem dX1_bury_67 : decode cX1_bury 67 = .ok (.ishr, 1) := by decide +kernel
theorem dX1_bury_68 : decode cX1_bury 68 = .ok (.iconst 1, 1) := by decide +kernel
theorem dX1_bury_69 : decode cX1_bury 69 = .ok (.iand, 1) := by decide +kernel
theorem dX1_bury_70 : decode cX1_bury 70 = .ok (.iconst 1, 1) := by decide +kernel
theorem dX1_bury_71 : decode cX1_bury 71 = .ok (.if_icmp .ne 13, 3) := by decide +kernel
theorem dX1_bury_74 : decode cX1_bury 74 = .ok (.aload_n 0, 1) := by decide +kernel
theorem dX1_bury_75 : decode cX1_bury 75 = .ok (.iload 5, 2) := by decide +kernel
theorem dX1_bury_77 : decode cX1_bury 77 = .ok (.iconst (-1), 1) := by decide +kernel
theorem dX1_bury_78 : decode cX1_bury 78 = .ok (.invokevirtual 81, 3) := by decide +kernel
theorem dX1_bury_81 : decode cX1_bury 81 = .ok (.goto 31, 3) := by decide +kernel
theorem dX1_bury_84 : decode cX1_bury 84 = .ok (.aload_n 0, 1) := by decide +kernel
theorem dX1_bury_85 : decode cX1_bury 85 = .ok (.iload 5, 2) := by decide +kernel
theorem dX1_bury_87 : decode cX1_bury 87 = .ok (.invokevirtual 78, 3) := by decide +kernel
theorem dX1_bury_90 : decode cX1_bury 90 = .ok (.ifCond .eq 22, 3) := by decide +kernel
theorem dX1_bury_93 : decode cX1_bury 93 = .ok (.aload_n 0, 1) := by decide +kernel
theorem dX1_bury_94 : decode cX1_bury 94 = .ok (.getfield 47, 3) := by decide +kernel
theorem dX1_bury_97 : decode cX1_bury 97 = .ok (.iload 5, 2) := by decide +kernel
theorem dX1_bury_99 : decode cX1_bury 99 = .ok (.iaload, 1) := by decide +kernel
theorem dX1_bury_100 : decode cX1_bury 100 = .ok (.iload_n 1, 1) := by decide +kernel
theorem dX1_bury_101 : decode cX1_bury 101 = .ok (.if_icmp .ne 11, 3) := by decide +kernel
theorem dX1_bury_104 : decode cX1_bury 104 = .ok (.aload_n 0, 1) := by decide +kernel
theorem dX1_bury_105 : decode cX1_bury 105 = .ok (.iload 5, 2) := by decide +kernel
theorem dX1_bury_107 : decode cX1_bury 107 = .ok (.iload 4, 2) := by decide +kernel
theorem dX1_bury_109 : decode cX1_bury 109 = .ok (.invokevirtual 81, 3) := by decide +kernel
theorem dX1_bury_112 : decode cX1_bury 112 = .ok (.iinc 5 1, 3) := by decide +kernel
theorem dX1_bury_115 : decode cX1_bury 115 = .ok (.goto (-60), 3) := by decide +kernel
theorem dX1_bury_118 : decode cX1_bury 118 = .ok (.aload_n 0, 1) := by decide +kernel
theorem dX1_bury_119 : decode cX1_bury 119 = .ok (.getfield 37, 3) := by decide +kernel
theorem dX1_bury_122 : decode cX1_bury 122 = .ok (.iload_n 1, 1) := by decide +kernel
theorem dX1_bury_123 : decode cX1_bury 123 = .ok (.iconst 0, 1) := by decide +kernel
theorem dX1_bury_124 : decode cX1_bury 124 = .ok (.bastore, 1) := by decide +kernel
theorem dX1_bury_125 : decode cX1_bury 125 = .ok (.aload_n 0, 1) := by decide +kernel
theorem dX1_bury_126 : decode cX1_bury 126 = .ok (.dup, 1) := by decide +kernel
theorem dX1_bury_127 : decode cX1_bury 127 = .ok (.getfield 62, 3) := by decide +kernel
theorem dX1_bury_130 : decode cX1_bury 130 = .ok (.iload_n 3, 1) := by decide +kernel
theorem dX1_bury_131 : decode cX1_bury 131 = .ok (.iadd, 1) := by decide +kernel
theorem dX1_bury_132 : decode cX1_bury 132 = .ok (.putfield 62, 3) := by decide +kernel
theorem dX1_bury_135 : decode cX1_bury 135 = .ok (.iload_n 3, 1) := by decide +kernel
theorem dX1_bury_136 : decode cX1_bury 136 = .ok (.ireturn, 1) := by decide +kernel
set_option maxRecDepth 20000 in
theorem ggX1_fewestToBeSafe_X1_ownBits : GoodIn wsX1_fewestToBeSafe wsX1_ownBits := goodIn_r _ [5, 6, 7, 8, 9, 10, 4, 11, 61, 62, 63, 64, 65, 66, 67, 68, 69, 70, 71, 72, 73, 74, 75, 76, 77] (by decide +kernel) (by decide +kernel)
set_option maxRecDepth 20000 in
theorem gX1_fewestToBeSafe_X1_ownBits : GoodIn wsX1_fewestToBeSafe (wsV RX1 99 RX1 yX1_ownBits wsX1_ownBits) := goodIn_app (goodIn_of _ (by decide +kernel)) ggX1_fewestToBeSafe_X1_ownBits
set_option maxRecDepth 20000 in
theorem ggX1_fewestToBeSafe_X1_heldBits : GoodIn wsX1_fewestToBeSafe wsX1_heldBits := goodIn_r _ [15, 16, 17, 18, 4, 19, 20, 6, 21, 22, 23, 1, 2, 3, 5, 7, 8, 9, 10, 11, 61, 62, 63, 64, 65, 66, 67, 68, 69, 70, 71, 72, 73, 74, 75, 76, 77] (by decide +kernel) (by decide +kernel)
set_option maxRecDepth 20000 in
theorem gX1_fewestToBeSafe_X1_heldBits : GoodIn wsX1_fewestToBeSafe (wsV RX1 118 RX1 yX1_heldBits wsX1_heldBits) := goodIn_app (goodIn_of _ (by decide +kernel)) ggX1_fewestToBeSafe_X1_heldBits
set_option maxRecDepth 20000 in
theorem ggX1_fewestToBeSafe_X1_takenFrom : GoodIn wsX1_fewestToBeSafe wsX1_takenFrom := goodIn_r _ [27, 28, 29, 30, 31, 4, 32, 33, 34, 35, 36, 37, 38, 39, 40, 41, 42, 43, 44, 45, 46, 47, 48, 49, 50, 51, 52, 6, 53, 8, 9, 10, 11, 61, 62, 63, 64, 65, 66, 67, 68, 69, 70, 71, 72, 73, 74, 75, 76, 77] (by decide +kernel) (by decide +kernel)
set_option maxRecDepth 20000 in
theorem gX1_fewestToBeSafe_X1_takenFrom : GoodIn wsX1_fewestToBeSafe (wsV RX1 112 RX1 yX1_takenFrom wsX1_takenFrom) := goodIn_app (goodIn_of _ (by decide +kernel)) ggX1_fewestToBeSafe_X1_takenFrom
set_option maxRecDepth 20000 in
theorem ggX1_fewestToBeSafe_J6_bitCount_0f7a4 : GoodIn wsX1_fewestToBeSafe wsJ6_bitCount_0f7a4 := goodIn_r _ [57, 58, 59, 60] (by decide +kernel) (by decide +kernel)
set_option maxRecDepth 20000 in
theorem gX1_fewestToBeSafe_J6_bitCount_0f7a4 : GoodIn wsX1_fewestToBeSafe (va_wsS RX1 121 yJ6_bitCount_0f7a4 wsJ6_bitCount_0f7a4) := goodIn_app (goodIn_of _ (by decide +kernel)) ggX1_fewestToBeSafe_J6_bitCount_0f7a4
theorem dX1_fewestToBeSafe_0 : decode cX1_fewestToBeSafe 0 = .ok (.aload_n 0, 1) := by decide +kernel
theorem dX1_fewestToBeSafe_1 : decode cX1_fewestToBeSafe 1 = .ok (.iload_n 1, 1) := by decide +kernel
theorem dX1_fewestToBeSafe_2 : decode cX1_fewestToBeSafe 2 = .ok (.invokevirtual 99, 3) := by decide +kernel
theorem dX1_fewestToBeSafe_5 : decode cX1_fewestToBeSafe 5 = .ok (.istore_n 2, 1) := by decide +kernel
theorem dX1_fewestToBeSafe_6 : decode cX1_fewestToBeSafe 6 = .ok (.aload_n 0, 1) := by decide +kernel
theorem dX1_fewestToBeSafe_7 : decode cX1_fewestToBeSafe 7 = .ok (.iload_n 1, 1) := by decide +kernel
theorem dX1_fewestToBeSafe_8 : decode cX1_fewestToBeSafe 8 = .ok (.invokevirtual 118, 3) := by decide +kernel
theorem dX1_fewestToBeSafe_11 : decode cX1_fewestToBeSafe 11 = .ok (.istore_n 3, 1) := by decide +kernel
theorem dX1_fewestToBeSafe_12 : decode cX1_fewestToBeSafe 12 = .ok (.iconst (-1), 1) := by decide +kernel
theorem dX1_fewestToBeSafe_13 : decode cX1_fewestToBeSafe 13 = .ok (.istore 4, 2) := by decide +kernel
theorem dX1_fewestToBeSafe_15 : decode cX1_fewestToBeSafe 15 = .ok (.iconst 0, 1) := by decide +kernel
theorem dX1_fewestToBeSafe_16 : decode cX1_fewestToBeSafe 16 = .ok (.istore 5, 2) := by decide +kernel
theorem dX1_fewestToBeSafe_18 : decode cX1_fewestToBeSafe 18 = .ok (.iload 5, 2) := by decide +kernel
theorem dX1_fewestToBeSafe_20 : decode cX1_fewestToBeSafe 20 = .ok (.iload_n 2, 1) := by decide +kernel
theorem dX1_fewestToBeSafe_21 : decode cX1_fewestToBeSafe 21 = .ok (.if_icmp .gt 58, 3) := by decide +kernel
theorem dX1_fewestToBeSafe_24 : decode cX1_fewestToBeSafe 24 = .ok (.iload 5, 2) := by decide +kernel
theorem dX1_fewestToBeSafe_26 : decode cX1_fewestToBeSafe 26 = .ok (.iload_n 2, 1) := by decide +kernel
theorem dX1_fewestToBeSafe_27 : decode cX1_fewestToBeSafe 27 = .ok (.iconst (-1), 1) := by decide +kernel
theorem dX1_fewestToBeSafe_28 : decode cX1_fewestToBeSafe 28 = .ok (.ixor, 1) := by decide +kernel
theorem dX1_fewestToBeSafe_29 : decode cX1_fewestToBeSafe 29 = .ok (.iand, 1) := by decide +kernel
theorem dX1_fewestToBeSafe_30 : decode cX1_fewestToBeSafe 30 = .ok (.ifCond .ne 43, 3) := by decide +kernel
theorem dX1_fewestToBeSafe_33 : decode cX1_fewestToBeSafe 33 = .ok (.aload_n 0, 1) := by decide +kernel
theorem dX1_fewestToBeSafe_34 : decode cX1_fewestToBeSafe 34 = .ok (.iload_n 1, 1) := by decide +kernel
theorem dX1_fewestToBeSafe_35 : decode cX1_fewestToBeSafe 35 = .ok (.iload_n 3, 1) := by decide +kernel
theorem dX1_fewestToBeSafe_36 : decode cX1_fewestToBeSafe 36 = .ok (.iload 5, 2) := by decide +kernel
theorem dX1_fewestToBeSafe_38 : decode cX1_fewestToBeSafe 38 = .ok (.iconst (-1), 1) := by decide +kernel
theorem dX1_fewestToBeSafe_39 : decode cX1_fewestToBeSafe 39 = .ok (.ixor, 1) := by decide +kernel
theorem dX1_fewestToBeSafe_40 : decode cX1_fewestToBeSafe 40 = .ok (.iand, 1) := by decide +kernel
theorem dX1_fewestToBeSafe_41 : decode cX1_fewestToBeSafe 41 = .ok (.invokevirtual 112, 3) := by decide +kernel
theorem dX1_fewestToBeSafe_44 : decode cX1_fewestToBeSafe 44 = .ok (.ifCond .eq 6, 3) := by decide +kernel
theorem dX1_fewestToBeSafe_47 : decode cX1_fewestToBeSafe 47 = .ok (.goto 26, 3) := by decide +kernel
theorem dX1_fewestToBeSafe_50 : decode cX1_fewestToBeSafe 50 = .ok (.iload 4, 2) := by decide +kernel
theorem dX1_fewestToBeSafe_52 : decode cX1_fewestToBeSafe 52 = .ok (.iconst (-1), 1) := by decide +kernel
theorem dX1_fewestToBeSafe_53 : decode cX1_fewestToBeSafe 53 = .ok (.if_icmp .eq 16, 3) := by decide +kernel
theorem dX1_fewestToBeSafe_56 : decode cX1_fewestToBeSafe 56 = .ok (.iload 5, 2) := by decide +kernel
theorem dX1_fewestToBeSafe_58 : decode cX1_fewestToBeSafe 58 = .ok (.invokestatic 121, 3) := by decide +kernel
theorem dX1_fewestToBeSafe_61 : decode cX1_fewestToBeSafe 61 = .ok (.iload 4, 2) := by decide +kernel
theorem dX1_fewestToBeSafe_63 : decode cX1_fewestToBeSafe 63 = .ok (.invokestatic 121, 3) := by decide +kernel
theorem dX1_fewestToBeSafe_66 : decode cX1_fewestToBeSafe 66 = .ok (.if_icmp .ge 7, 3) := by decide +kernel
theorem dX1_fewestToBeSafe_69 : decode cX1_fewestToBeSafe 69 = .ok (.iload 5, 2) := by decide +kernel
theorem dX1_fewestToBeSafe_71 : decode cX1_fewestToBeSafe 71 = .ok (.istore 4, 2) := by decide +kernel
theorem dX1_fewestToBeSafe_73 : decode cX1_fewestToBeSafe 73 = .ok (.iinc 5 1, 3) := by decide +kernel
theorem dX1_fewestToBeSafe_76 : decode cX1_fewestToBeSafe 76 = .ok (.goto (-58), 3) := by decide +kernel
theorem dX1_fewestToBeSafe_79 : decode cX1_fewestToBeSafe 79 = .ok (.iload 4, 2) := by decide +kernel
theorem dX1_fewestToBeSafe_81 : decode cX1_fewestToBeSafe 81 = .ok (.ireturn, 1) := by decide +kernel
set_option maxRecDepth 20000 in
theorem ggX1_bestGift_X1_ownBits : GoodIn wsX1_bestGift wsX1_ownBits := goodIn_r _ [5, 6, 7, 8, 9, 10, 4, 11, 70, 71, 72, 73, 74, 75, 76, 77, 78, 79, 80, 81, 82, 83, 84, 85, 86] (by decide +kernel) (by decide +kernel)
set_option maxRecDepth 20000 in
theorem gX1_bestGift_X1_ownBits : GoodIn wsX1_bestGift (wsV RX1 99 RX1 yX1_ownBits wsX1_ownBits) := goodIn_app (goodIn_of _ (by decide +kernel)) ggX1_bestGift_X1_ownBits
set_option maxRecDepth 20000 in
theorem ggX1_bestGift_X1_lostOnMean : GoodIn wsX1_bestGift wsX1_lostOnMean := goodIn_r _ [15, 16, 17, 18, 19, 4, 20, 21, 22, 23, 24, 25, 26, 6, 27, 28, 29, 1, 2, 3, 5, 7, 8, 9, 10, 11, 30, 31, 32, 33, 34, 35, 36, 37, 38, 39, 40, 41, 42, 43, 44, 45, 46, 47, 48, 49, 50, 51, 52, 53, 54, 55, 56, 57, 58, 59, 60, 61, 62, 70, 71, 72, 73, 74, 75, 76, 77, 78, 79, 80, 81, 82, 83, 84, 85, 86] (by decide +kernel) (by decide +kernel)
set_option maxRecDepth 20000 in
theorem gX1_bestGift_X1_lostOnMean : GoodIn wsX1_bestGift (wsV RX1 126 RX1 yX1_lostOnMean wsX1_lostOnMean) := goodIn_app (goodIn_of _ (by decide +kernel)) ggX1_bestGift_X1_lostOnMean
set_option maxRecDepth 20000 in
theorem ggX1_bestGift_J6_bitCount_0f7a4 : GoodIn wsX1_bestGift wsJ6_bitCount_0f7a4 := goodIn_r _ [66, 67, 68, 69] (by decide +kernel) (by decide +kernel)
set_option maxRecDepth 20000 in
theorem gX1_bestGift_J6_bitCount_0f7a4 : GoodIn wsX1_bestGift (va_wsS RX1 121 yJ6_bitCount_0f7a4 wsJ6_bitCount_0f7a4) := goodIn_app (goodIn_of _ (by decide +kernel)) ggX1_bestGift_J6_bitCount_0f7a4
theorem dX1_bestGift_0 : decode cX1_bestGift 0 = .ok (.aload_n 0, 1) := by decide +kernel
theorem dX1_bestGift_1 : decode cX1_bestGift 1 = .ok (.iload_n 1, 1) := by decide +kernel
theorem dX1_bestGift_2 : decode cX1_bestGift 2 = .ok (.invokevirtual 99, 3) := by decide +kernel
theorem dX1_bestGift_5 : decode cX1_bestGift 5 = .ok (.istore_n 3, 1) := by decide +kernel
theorem dX1_bestGift_6 : decode cX1_bestGift 6 = .ok (.iconst 0, 1) := by decide +kernel
theorem dX1_bestGift_7 : decode cX1_bestGift 7 = .ok (.istore 4, 2) := by decide +kernel
theorem dX1_bestGift_9 : decode cX1_bestGift 9 = .ok (.aload_n 0, 1) := by decide +kernel
theorem dX1_bestGift_10 : decode cX1_bestGift 10 = .ok (.iload_n 1, 1) := by decide +kernel
theorem dX1_bestGift_11 : decode cX1_bestGift 11 = .ok (.iload_n 2, 1) := by decide +kernel
theorem dX1_bestGift_12 : decode cX1_bestGift 12 = .ok (.iconst 0, 1) := by decide +kernel
theorem dX1_bestGift_13 : decode cX1_bestGift 13 = .ok (.invokevirtual 126, 3) := by decide +kernel
theorem dX1_bestGift_16 : decode cX1_bestGift 16 = .ok (.istore 5, 2) := by decide +kernel
theorem dX1_bestGift_18 : decode cX1_bestGift 18 = .ok (.iconst 1, 1) := by decide +kernel
theorem dX1_bestGift_19 : decode cX1_bestGift 19 = .ok (.istore 6, 2) := by decide +kernel
theorem dX1_bestGift_21 : decode cX1_bestGift 21 = .ok (.iload 6, 2) := by decide +kernel
theorem dX1_bestGift_23 : decode cX1_bestGift 23 = .ok (.iload_n 3, 1) := by decide +kernel
theorem dX1_bestGift_24 : decode cX1_bestGift 24 = .ok (.if_icmp .gt 78, 3) := by decide +kernel
theorem dX1_bestGift_27 : decode cX1_bestGift 27 = .ok (.iload 6, 2) := by decide +kernel
theorem dX1_bestGift_29 : decode cX1_bestGift 29 = .ok (.iload_n 3, 1) := by decide +kernel
theorem dX1_bestGift_30 : decode cX1_bestGift 30 = .ok (.iconst (-1), 1) := by decide +kernel
theorem dX1_bestGift_31 : decode cX1_bestGift 31 = .ok (.ixor, 1) := by decide +kernel
theorem dX1_bestGift_32 : decode cX1_bestGift 32 = .ok (.iand, 1) := by decide +kernel
theorem dX1_bestGift_33 : decode cX1_bestGift 33 = .ok (.ifCond .eq 6, 3) := by decide +kernel
theorem dX1_bestGift_36 : decode cX1_bestGift 36 = .ok (.goto 60, 3) := by decide +kernel
theorem dX1_bestGift_39 : decode cX1_bestGift 39 = .ok (.aload_n 0, 1) := by decide +kernel
theorem dX1_bestGift_40 : decode cX1_bestGift 40 = .ok (.iload_n 1, 1) := by decide +kernel
theorem dX1_bestGift_41 : decode cX1_bestGift 41 = .ok (.iload_n 2, 1) := by decide +kernel
theorem dX1_bestGift_42 : decode cX1_bestGift 42 = .ok (.iload 6, 2) := by decide +kernel
theorem dX1_bestGift_44 : decode cX1_bestGift 44 = .ok (.invokevirtual 126, 3) := by decide +kernel
theorem dX1_bestGift_47 : decode cX1_bestGift 47 = .ok (.istore 7, 2) := by decide +kernel
theorem dX1_bestGift_49 : decode cX1_bestGift 49 = .ok (.iload 6, 2) := by decide +kernel
theorem dX1_bestGift_51 : decode cX1_bestGift 51 = .ok (.invokestatic 121, 3) := by decide +kernel
theorem dX1_bestGift_54 : decode cX1_bestGift 54 = .ok (.iload 4, 2) := by decide +kernel
theorem dX1_bestGift_56 : decode cX1_bestGift 56 = .ok (.invokestatic 121, 3) := by decide +kernel
theorem dX1_bestGift_59 : decode cX1_bestGift 59 = .ok (.if_icmp .ge 7, 3) := by decide +kernel
theorem dX1_bestGift_62 : decode cX1_bestGift 62 = .ok (.iconst 1, 1) := by decide +kernel
theorem dX1_bestGift_63 : decode cX1_bestGift 63 = .ok (.goto 4, 3) := by decide +kernel
theorem dX1_bestGift_66 : decode cX1_bestGift 66 = .ok (.iconst 0, 1) := by decide +kernel
theorem dX1_bestGift_67 : decode cX1_bestGift 67 = .ok (.istore 8, 2) := by decide +kernel
theorem dX1_bestGift_69 : decode cX1_bestGift 69 = .ok (.iload 7, 2) := by decide +kernel
theorem dX1_bestGift_71 : decode cX1_bestGift 71 = .ok (.iload 5, 2) := by decide +kernel
theorem dX1_bestGift_73 : decode cX1_bestGift 73 = .ok (.if_icmp .lt 15, 3) := by decide +kernel
theorem dX1_bestGift_76 : decode cX1_bestGift 76 = .ok (.iload 7, 2) := by decide +kernel
theorem dX1_bestGift_78 : decode cX1_bestGift 78 = .ok (.iload 5, 2) := by decide +kernel
theorem dX1_bestGift_80 : decode cX1_bestGift 80 = .ok (.if_icmp .ne 16, 3) := by decide +kernel
theorem dX1_bestGift_83 : decode cX1_bestGift 83 = .ok (.iload 8, 2) := by decide +kernel
theorem dX1_bestGift_85 : decode cX1_bestGift 85 = .ok (.ifCond .eq 11, 3) := by decide +kernel
theorem dX1_bestGift_88 : decode cX1_bestGift 88 = .ok (.iload 6, 2) := by decide +kernel
theorem dX1_bestGift_90 : decode cX1_bestGift 90 = .ok (.istore 4, 2) := by decide +kernel
theorem dX1_bestGift_92 : decode cX1_bestGift 92 = .ok (.iload 7, 2) := by decide +kernel
theorem dX1_bestGift_94 : decode cX1_bestGift 94 = .ok (.istore 5, 2) := by decide +kernel
theorem dX1_bestGift_96 : decode cX1_bestGift 96 = .ok (.iinc 6 1, 3) := by decide +kernel
theorem dX1_bestGift_99 : decode cX1_bestGift 99 = .ok (.goto (-78), 3) := by decide +kernel
theorem dX1_bestGift_102 : decode cX1_bestGift 102 = .ok (.iload 4, 2) := by decide +kernel
theorem dX1_bestGift_104 : decode cX1_bestGift 104 = .ok (.ireturn, 1) := by decide +kernel
set_option maxRecDepth 20000 in
theorem ggX1_lostOnMean_X1_hasHolder : GoodIn wsX1_lostOnMean wsX1_hasHolder := goodIn_r _ [6, 7, 59, 60, 61, 62, 63, 64, 65, 66, 67, 68, 69, 70, 71, 72, 73, 74, 75] (by decide +kernel) (by decide +kernel)
set_option maxRecDepth 20000 in
theorem gX1_lostOnMean_X1_hasHolder : GoodIn wsX1_lostOnMean (wsV RX1 71 RX1 yX1_hasHolder wsX1_hasHolder) := goodIn_app (goodIn_of _ (by decide +kernel)) ggX1_lostOnMean_X1_hasHolder
set_option maxRecDepth 20000 in
theorem ggX1_lostOnMean_X1_heldLater : GoodIn wsX1_lostOnMean wsX1_heldLater := goodIn_r _ [11, 12, 13, 14, 15, 16, 17, 18, 19, 5, 20, 21, 22, 23, 24, 25, 59, 60, 61, 62, 63, 64, 65, 66, 67, 68, 69, 70, 71, 72, 73, 74, 75] (by decide +kernel) (by decide +kernel)
set_option maxRecDepth 20000 in
theorem gX1_lostOnMean_X1_heldLater : GoodIn wsX1_lostOnMean (wsV RX1 95 RX1 yX1_heldLater wsX1_heldLater) := goodIn_app (goodIn_of _ (by decide +kernel)) ggX1_lostOnMean_X1_heldLater
set_option maxRecDepth 20000 in
theorem ggX1_lostOnMean_X1_worthTaken : GoodIn wsX1_lostOnMean wsX1_worthTaken := goodIn_r _ [29, 30, 31, 32, 5, 33, 34, 2, 3, 4, 6, 7, 35, 36, 37, 38, 39, 40, 41, 42, 43, 44, 45, 46, 47, 48, 49, 50, 51, 52, 53, 13, 54, 22, 23, 24, 25, 55, 56, 57, 58, 59, 60, 61, 62, 63, 64, 65, 66, 67, 68, 69, 70, 71, 72, 73, 74, 75] (by decide +kernel) (by decide +kernel)
set_option maxRecDepth 20000 in
theorem gX1_lostOnMean_X1_worthTaken : GoodIn wsX1_lostOnMean (wsV RX1 129 RX1 yX1_worthTaken wsX1_worthTaken) := goodIn_app (goodIn_of _ (by decide +kernel)) ggX1_lostOnMean_X1_worthTaken
theorem dX1_lostOnMean_0 : decode cX1_lostOnMean 0 = .ok (.aload_n 0, 1) := by decide +kernel
theorem dX1_lostOnMean_1 : decode cX1_lostOnMean 1 = .ok (.iload_n 1, 1) := by decide +kernel
theorem dX1_lostOnMean_2 : decode cX1_lostOnMean 2 = .ok (.invokevirtual 71, 3) := by decide +kernel
theorem dX1_lostOnMean_5 : decode cX1_lostOnMean 5 = .ok (.ifCond .ne 5, 3) := by decide +kernel
theorem dX1_lostOnMean_8 : decode cX1_lostOnMean 8 = .ok (.iconst 0, 1) := by decide +kernel
theorem dX1_lostOnMean_9 : decode cX1_lostOnMean 9 = .ok (.ireturn, 1) := by decide +kernel
theorem dX1_lostOnMean_10 : decode cX1_lostOnMean 10 = .ok (.iconst 0, 1) := by decide +kernel
theorem dX1_lostOnMean_11 : decode cX1_lostOnMean 11 = .ok (.istore 4, 2) := by decide +kernel
theorem dX1_lostOnMean_13 : decode cX1_lostOnMean 13 = .ok (.iconst 1, 1) := by decide +kernel
theorem dX1_lostOnMean_14 : decode cX1_lostOnMean 14 = .ok (.istore 5, 2) := by decide +kernel
theorem dX1_lostOnMean_16 : decode cX1_lostOnMean 16 = .ok (.iconst 0, 1) := by decide +kernel
theorem dX1_lostOnMean_17 : decode cX1_lostOnMean 17 = .ok (.istore 6, 2) := by decide +kernel
theorem dX1_lostOnMean_19 : decode cX1_lostOnMean 19 = .ok (.iload 6, 2) := by decide +kernel
theorem dX1_lostOnMean_21 : decode cX1_lostOnMean 21 = .ok (.iload_n 2, 1) := by decide +kernel
theorem dX1_lostOnMean_22 : decode cX1_lostOnMean 22 = .ok (.if_icmp .ge 58, 3) := by decide +kernel
theorem dX1_lostOnMean_25 : decode cX1_lostOnMean 25 = .ok (.aload_n 0, 1) := by decide +kernel
theorem dX1_lostOnMean_26 : decode cX1_lostOnMean 26 = .ok (.iload_n 1, 1) := by decide +kernel
theorem dX1_lostOnMean_27 : decode cX1_lostOnMean 27 = .ok (.aload_n 0, 1) := by decide +kernel
theorem dX1_lostOnMean_28 : decode cX1_lostOnMean 28 = .ok (.iload_n 1, 1) := by decide +kernel
theorem dX1_lostOnMean_29 : decode cX1_lostOnMean 29 = .ok (.iload 6, 2) := by decide +kernel
theorem dX1_lostOnMean_31 : decode cX1_lostOnMean 31 = .ok (.iload_n 3, 1) := by decide +kernel
theorem dX1_lostOnMean_32 : decode cX1_lostOnMean 32 = .ok (.invokevirtual 95, 3) := by decide +kernel
theorem dX1_lostOnMean_35 : decode cX1_lostOnMean 35 = .ok (.invokevirtual 129, 3) := by decide +kernel
theorem dX1_lostOnMean_38 : decode cX1_lostOnMean 38 = .ok (.istore 7, 2) := by decide +kernel
theorem dX1_lostOnMean_40 : decode cX1_lostOnMean 40 = .ok (.iload 4, 2) := by decide +kernel
theorem dX1_lostOnMean_42 : decode cX1_lostOnMean 42 = .ok (.bipush 10, 2) := by decide +kernel
theorem dX1_lostOnMean_44 : decode cX1_lostOnMean 44 = .ok (.imul, 1) := by decide +kernel
theorem dX1_lostOnMean_45 : decode cX1_lostOnMean 45 = .ok (.iload 5, 2) := by decide +kernel
theorem dX1_lostOnMean_47 : decode cX1_lostOnMean 47 = .ok (.aload_n 0, 1) := by decide +kernel
theorem dX1_lostOnMean_48 : decode cX1_lostOnMean 48 = .ok (.getfield 31, 3) := by decide +kernel
theorem dX1_lostOnMean_51 : decode cX1_lostOnMean 51 = .ok (.iload_n 1, 1) := by decide +kernel
theorem dX1_lostOnMean_52 : decode cX1_lostOnMean 52 = .ok (.iaload, 1) := by decide +kernel
theorem dX1_lostOnMean_53 : decode cX1_lostOnMean 53 = .ok (.imul, 1) := by decide +kernel
theorem dX1_lostOnMean_54 : decode cX1_lostOnMean 54 = .ok (.iload 7, 2) := by decide +kernel
theorem dX1_lostOnMean_56 : decode cX1_lostOnMean 56 = .ok (.imul, 1) := by decide +kernel
theorem dX1_lostOnMean_57 : decode cX1_lostOnMean 57 = .ok (.iadd, 1) := by decide +kernel
theorem dX1_lostOnMean_58 : decode cX1_lostOnMean 58 = .ok (.istore 4, 2) := by decide +kernel
theorem dX1_lostOnMean_60 : decode cX1_lostOnMean 60 = .ok (.iload 5, 2) := by decide +kernel
theorem dX1_lostOnMean_62 : decode cX1_lostOnMean 62 = .ok (.bipush 10, 2) := by decide +kernel
theorem dX1_lostOnMean_64 : decode cX1_lostOnMean 64 = .ok (.aload_n 0, 1) := by decide +kernel
theorem dX1_lostOnMean_65 : decode cX1_lostOnMean 65 = .ok (.getfield 31, 3) := by decide +kernel
theorem dX1_lostOnMean_68 : decode cX1_lostOnMean 68 = .ok (.iload_n 1, 1) := by decide +kernel
theorem dX1_lostOnMean_69 : decode cX1_lostOnMean 69 = .ok (.iaload, 1) := by decide +kernel
theorem dX1_lostOnMean_70 : decode cX1_lostOnMean 70 = .ok (.isub, 1) := by decide +kernel
theorem dX1_lostOnMean_71 : decode cX1_lostOnMean 71 = .ok (.imul, 1) := by decide +kernel
theorem dX1_lostOnMean_72 : decode cX1_lostOnMean 72 = .ok (.istore 5, 2) := by decide +kernel
theorem dX1_lostOnMean_74 : decode cX1_lostOnMean 74 = .ok (.iinc 6 1, 3) := by decide +kernel
theorem dX1_lostOnMean_77 : decode cX1_lostOnMean 77 = .ok (.goto (-58), 3) := by decide +kernel
theorem dX1_lostOnMean_80 : decode cX1_lostOnMean 80 = .ok (.iload 4, 2) := by decide +kernel
theorem dX1_lostOnMean_82 : decode cX1_lostOnMean 82 = .ok (.ireturn, 1) := by decide +kernel
set_option maxRecDepth 20000 in
theorem ggX1_isAsTold_X1_hasBeast : GoodIn wsX1_isAsTold wsX1_hasBeast := goodIn_r _ [7, 1, 8, 9, 10, 11, 12, 13, 14, 15, 16, 17, 18, 19, 20, 21, 22, 23, 24] (by decide +kernel) (by decide +kernel)
set_option maxRecDepth 20000 in
theorem gX1_isAsTold_X1_hasBeast : GoodIn wsX1_isAsTold (wsV RX1 78 RX1 yX1_hasBeast wsX1_hasBeast) := goodIn_app (goodIn_of _ (by decide +kernel)) ggX1_isAsTold_X1_hasBeast
theorem dX1_isAsTold_0 : decode cX1_isAsTold 0 = .ok (.iconst 0, 1) := by decide +kernel
theorem dX1_isAsTold_1 : decode cX1_isAsTold 1 = .ok (.istore_n 2, 1) := by decide +kernel
theorem dX1_isAsTold_2 : decode cX1_isAsTold 2 = .ok (.iload_n 2, 1) := by decide +kernel
theorem dX1_isAsTold_3 : decode cX1_isAsTold 3 = .ok (.aload_n 0, 1) := by decide +kernel
theorem dX1_isAsTold_4 : decode cX1_isAsTold 4 = .ok (.getfield 41, 3) := by decide +kernel
theorem dX1_isAsTold_7 : decode cX1_isAsTold 7 = .ok (.if_icmp .ge 43, 3) := by decide +kernel
theorem dX1_isAsTold_10 : decode cX1_isAsTold 10 = .ok (.aload_n 0, 1) := by decide +kernel
theorem dX1_isAsTold_11 : decode cX1_isAsTold 11 = .ok (.iload_n 2, 1) := by decide +kernel
theorem dX1_isAsTold_12 : decode cX1_isAsTold 12 = .ok (.invokevirtual 78, 3) := by decide +kernel
theorem dX1_isAsTold_15 : decode cX1_isAsTold 15 = .ok (.ifCond .eq 29, 3) := by decide +kernel
theorem dX1_isAsTold_18 : decode cX1_isAsTold 18 = .ok (.aload_n 0, 1) := by decide +kernel
theorem dX1_isAsTold_19 : decode cX1_isAsTold 19 = .ok (.getfield 56, 3) := by decide +kernel
theorem dX1_isAsTold_22 : decode cX1_isAsTold 22 = .ok (.iload_n 2, 1) := by decide +kernel
theorem dX1_isAsTold_23 : decode cX1_isAsTold 23 = .ok (.iaload, 1) := by decide +kernel
theorem dX1_isAsTold_24 : decode cX1_isAsTold 24 = .ok (.iconst (-1), 1) := by decide +kernel
theorem dX1_isAsTold_25 : decode cX1_isAsTold 25 = .ok (.if_icmp .eq 19, 3) := by decide +kernel
theorem dX1_isAsTold_28 : decode cX1_isAsTold 28 = .ok (.aload_n 0, 1) := by decide +kernel
theorem dX1_isAsTold_29 : decode cX1_isAsTold 29 = .ok (.getfield 56, 3) := by decide +kernel
theorem dX1_isAsTold_32 : decode cX1_isAsTold 32 = .ok (.iload_n 2, 1) := by decide +kernel
theorem dX1_isAsTold_33 : decode cX1_isAsTold 33 = .ok (.iaload, 1) := by decide +kernel
theorem dX1_isAsTold_34 : decode cX1_isAsTold 34 = .ok (.iload_n 1, 1) := by decide +kernel
theorem dX1_isAsTold_35 : decode cX1_isAsTold 35 = .ok (.iload_n 2, 1) := by decide +kernel
theorem dX1_isAsTold_36 : decode cX1_isAsTold 36 = .ok (.ishr, 1) := by decide +kernel
theorem dX1_isAsTold_37 : decode cX1_isAsTold 37 = .ok (.iconst 1, 1) := by decide +kernel
theorem dX1_isAsTold_38 : decode cX1_isAsTold 38 = .ok (.iand, 1) := by decide +kernel
theorem dX1_isAsTold_39 : decode cX1_isAsTold 39 = .ok (.if_icmp .eq 5, 3) := by decide +kernel
theorem dX1_isAsTold_42 : decode cX1_isAsTold 42 = .ok (.iconst 0, 1) := by decide +kernel
theorem dX1_isAsTold_43 : decode cX1_isAsTold 43 = .ok (.ireturn, 1) := by decide +kernel
theorem dX1_isAsTold_44 : decode cX1_isAsTold 44 = .ok (.iinc 2 1, 3) := by decide +kernel
theorem dX1_isAsTold_47 : decode cX1_isAsTold 47 = .ok (.goto (-45), 3) := by decide +kernel
theorem dX1_isAsTold_50 : decode cX1_isAsTold 50 = .ok (.iconst 1, 1) := by decide +kernel
theorem dX1_isAsTold_51 : decode cX1_isAsTold 51 = .ok (.ireturn, 1) := by decide +kernel
set_option maxRecDepth 20000 in
theorem ggX1_liveOneYear_X1_isAlive : GoodIn wsX1_liveOneYear wsX1_isAlive := goodIn_r _ [9, 10, 11, 12, 13, 8, 14, 1, 92, 93, 94, 95, 96, 97, 98, 99, 100, 101, 102, 103, 104, 105, 106, 107, 108] (by decide +kernel) (by decide +kernel)
set_option maxRecDepth 20000 in
theorem gX1_liveOneYear_X1_isAlive : GoodIn wsX1_liveOneYear (wsV RX1 75 RX1 yX1_isAlive wsX1_isAlive) := goodIn_app (goodIn_of _ (by decide +kernel)) ggX1_liveOneYear_X1_isAlive
set_option maxRecDepth 20000 in
theorem ggX1_liveOneYear_X0_drawOf : GoodIn wsX1_liveOneYear wsX0_drawOf := goodIn_r _ [19, 20, 21, 22, 23, 24, 109] (by decide +kernel) (by decide +kernel)
set_option maxRecDepth 20000 in
theorem gX1_liveOneYear_X0_drawOf : GoodIn wsX1_liveOneYear (wsV RX1 132 RX0 yX0_drawOf wsX0_drawOf) := goodIn_app (goodIn_of _ (by decide +kernel)) ggX1_liveOneYear_X0_drawOf
set_option maxRecDepth 20000 in
theorem ggX1_liveOneYear_X1_bury : GoodIn wsX1_liveOneYear wsX1_bury := goodIn_r _ [28, 29, 3, 30, 10, 31, 5, 6, 7, 8, 9, 11, 12, 13, 14, 1, 32, 33, 34, 35, 36, 37, 38, 39, 40, 41, 4, 42, 43, 44, 45, 46, 47, 48, 49, 50, 51, 52, 53, 54, 55, 56, 57, 58, 59, 60, 61, 62, 63, 64, 65, 66, 67, 68, 69, 70, 71, 72, 73, 74, 75, 76, 77, 78, 79, 80, 81, 82, 83, 92, 93, 94, 95, 96, 97, 98, 99, 100, 101, 102, 103, 104, 105, 106, 107, 108] (by decide +kernel) (by decide +kernel)
set_option maxRecDepth 20000 in
theorem gX1_liveOneYear_X1_bury : GoodIn wsX1_liveOneYear (wsV RX1 137 RX1 yX1_bury wsX1_bury) := goodIn_app (goodIn_of _ (by decide +kernel)) ggX1_liveOneYear_X1_bury
set_option maxRecDepth 20000 in
theorem ggX1_liveOneYear_X1_makeGift : GoodIn wsX1_liveOneYear wsX1_makeGift := goodIn_r _ [87, 41, 30, 42, 4, 88, 89, 90, 8, 91, 47, 48, 49, 50, 3, 5, 6, 7, 9, 10, 11, 12, 13, 14, 1, 92, 93, 94, 95, 96, 97, 98, 99, 100, 101, 102, 103, 104, 105, 106, 107, 108] (by decide +kernel) (by decide +kernel)
set_option maxRecDepth 20000 in
theorem gX1_liveOneYear_X1_makeGift : GoodIn wsX1_liveOneYear (wsV RX1 140 RX1 yX1_makeGift wsX1_makeGift) := goodIn_app (goodIn_of _ (by decide +kernel)) ggX1_liveOneYear_X1_makeGift
theorem dX1_liveOneYear_0 : decode cX1_liveOneYear 0 = .ok (.aload_n 1, 1) := by decide +kernel
theorem dX1_liveOneYear_1 : decode cX1_liveOneYear 1 = .ok (.ifnonnull 4, 3) := by decide +kernel
theorem dX1_liveOneYear_4 : decode cX1_liveOneYear 4 = .ok (.return_, 1) := by decide +kernel
theorem dX1_liveOneYear_5 : decode cX1_liveOneYear 5 = .ok (.iconst 0, 1) := by decide +kernel
theorem dX1_liveOneYear_6 : decode cX1_liveOneYear 6 = .ok (.istore_n 2, 1) := by decide +kernel
theorem dX1_liveOneYear_7 : decode cX1_liveOneYear 7 = .ok (.iload_n 2, 1) := by decide +kernel
theorem dX1_liveOneYear_8 : decode cX1_liveOneYear 8 = .ok (.aload_n 0, 1) := by decide +kernel
theorem dX1_liveOneYear_9 : decode cX1_liveOneYear 9 = .ok (.getfield 24, 3) := by decide +kernel
theorem dX1_liveOneYear_12 : decode cX1_liveOneYear 12 = .ok (.if_icmp .ge 38, 3) := by decide +kernel
theorem dX1_liveOneYear_15 : decode cX1_liveOneYear 15 = .ok (.aload_n 0, 1) := by decide +kernel
theorem dX1_liveOneYear_16 : decode cX1_liveOneYear 16 = .ok (.iload_n 2, 1) := by decide +kernel
theorem dX1_liveOneYear_17 : decode cX1_liveOneYear 17 = .ok (.invokevirtual 75, 3) := by decide +kernel
theorem dX1_liveOneYear_20 : decode cX1_liveOneYear 20 = .ok (.ifCond .eq 24, 3) := by decide +kernel
theorem dX1_liveOneYear_23 : decode cX1_liveOneYear 23 = .ok (.aload_n 1, 1) := by decide +kernel
theorem dX1_liveOneYear_24 : decode cX1_liveOneYear 24 = .ok (.bipush 10, 2) := by decide +kernel
theorem dX1_liveOneYear_26 : decode cX1_liveOneYear 26 = .ok (.invokevirtual 132, 3) := by decide +kernel
theorem dX1_liveOneYear_29 : decode cX1_liveOneYear 29 = .ok (.aload_n 0, 1) := by decide +kernel
theorem dX1_liveOneYear_30 : decode cX1_liveOneYear 30 = .ok (.getfield 31, 3) := by decide +kernel
theorem dX1_liveOneYear_33 : decode cX1_liveOneYear 33 = .ok (.iload_n 2, 1) := by decide +kernel
theorem dX1_liveOneYear_34 : decode cX1_liveOneYear 34 = .ok (.iaload, 1) := by decide +kernel
theorem dX1_liveOneYear_35 : decode cX1_liveOneYear 35 = .ok (.if_icmp .ge 9, 3) := by decide +kernel
theorem dX1_liveOneYear_38 : decode cX1_liveOneYear 38 = .ok (.aload_n 0, 1) := by decide +kernel
theorem dX1_liveOneYear_39 : decode cX1_liveOneYear 39 = .ok (.iload_n 2, 1) := by decide +kernel
theorem dX1_liveOneYear_40 : decode cX1_liveOneYear 40 = .ok (.invokevirtual 137, 3) := by decide +kernel
theorem dX1_liveOneYear_43 : decode cX1_liveOneYear 43 = .ok (.pop, 1) := by decide +kernel
theorem dX1_liveOneYear_44 : decode cX1_liveOneYear 44 = .ok (.iinc 2 1, 3) := by decide +kernel
theorem dX1_liveOneYear_47 : decode cX1_liveOneYear 47 = .ok (.goto (-40), 3) := by decide +kernel
theorem dX1_liveOneYear_50 : decode cX1_liveOneYear 50 = .ok (.aload_n 0, 1) := by decide +kernel
theorem dX1_liveOneYear_51 : decode cX1_liveOneYear 51 = .ok (.getfield 41, 3) := by decide +kernel
theorem dX1_liveOneYear_54 : decode cX1_liveOneYear 54 = .ok (.ifCond .le 25, 3) := by decide +kernel
theorem dX1_liveOneYear_57 : decode cX1_liveOneYear 57 = .ok (.aload_n 1, 1) := by decide +kernel
theorem dX1_liveOneYear_58 : decode cX1_liveOneYear 58 = .ok (.aload_n 0, 1) := by decide +kernel
theorem dX1_liveOneYear_59 : decode cX1_liveOneYear 59 = .ok (.getfield 41, 3) := by decide +kernel
theorem dX1_liveOneYear_62 : decode cX1_liveOneYear 62 = .ok (.invokevirtual 132, 3) := by decide +kernel
theorem dX1_liveOneYear_65 : decode cX1_liveOneYear 65 = .ok (.istore_n 2, 1) := by decide +kernel
theorem dX1_liveOneYear_66 : decode cX1_liveOneYear 66 = .ok (.aload_n 0, 1) := by decide +kernel
theorem dX1_liveOneYear_67 : decode cX1_liveOneYear 67 = .ok (.iload_n 2, 1) := by decide +kernel
theorem dX1_liveOneYear_68 : decode cX1_liveOneYear 68 = .ok (.aload_n 1, 1) := by decide +kernel
theorem dX1_liveOneYear_69 : decode cX1_liveOneYear 69 = .ok (.aload_n 0, 1) := by decide +kernel
theorem dX1_liveOneYear_70 : decode cX1_liveOneYear 70 = .ok (.getfield 24, 3) := by decide +kernel
theorem dX1_liveOneYear_73 : decode cX1_liveOneYear 73 = .ok (.invokevirtual 132, 3) := by decide +kernel
theorem dX1_liveOneYear_76 : decode cX1_liveOneYear 76 = .ok (.invokevirtual 140, 3) := by decide +kernel
theorem dX1_liveOneYear_79 : decode cX1_liveOneYear 79 = .ok (.aload_n 0, 1) := by decide +kernel
theorem dX1_liveOneYear_80 : decode cX1_liveOneYear 80 = .ok (.dup, 1) := by decide +kernel
theorem dX1_liveOneYear_81 : decode cX1_liveOneYear 81 = .ok (.getfield 59, 3) := by decide +kernel
theorem dX1_liveOneYear_84 : decode cX1_liveOneYear 84 = .ok (.iconst 1, 1) := by decide +kernel
theorem dX1_liveOneYear_85 : decode cX1_liveOneYear 85 = .ok (.iadd, 1) := by decide +kernel
theorem dX1_liveOneYear_86 : decode cX1_liveOneYear 86 = .ok (.putfield 59, 3) := by decide +kernel
theorem dX1_liveOneYear_89 : decode cX1_liveOneYear 89 = .ok (.return_, 1) := by decide +kernel
end
section
set_option maxRecDepth 20000 in
theorem ggX2_init_X1_init : GoodIn wsX2_init wsX1_init := goodIn_r _ [20, 21, 2, 3, 22, 23, 24, 25, 26, 14, 27, 28, 29, 30, 31, 32, 33, 34, 35, 36, 37, 38, 39, 44, 45, 46, 47, 48, 49, 50, 51, 52, 53, 54, 55, 56, 57, 58, 59, 60] (by decide +kernel) (by decide +kernel)
set_option maxRecDepth 20000 in
theorem gX2_init_X1_init_n9 : GoodIn wsX2_init (wsX1_init) := ggX2_init_X1_init
set_option maxRecDepth 20000 in
theorem ggX2_init_X0_init : GoodIn wsX2_init wsX0_init := goodIn_r _ [41, 42, 2, 3, 43, 69] (by decide +kernel) (by decide +kernel)
set_option maxRecDepth 20000 in
theorem gX2_init_X0_init_n24 : GoodIn wsX2_init (wsX0_init) := ggX2_init_X0_init
theorem dX2_init_0 : decode cX2_init 0 = .ok (.aload_n 0, 1) := by decide +kernel
theorem dX2_init_1 : decode cX2_init 1 = .ok (.invokespecial 1, 3) := by decide +kernel
theorem dX2_init_4 : decode cX2_init 4 = .ok (.aload_n 0, 1) := by decide +kernel
theorem dX2_init_5 : decode cX2_init 5 = .ok (.new 7, 3) := by decide +kernel
theorem dX2_init_8 : decode cX2_init 8 = .ok (.dup, 1) := by decide +kernel
theorem dX2_init_9 : decode cX2_init 9 = .ok (.invokespecial 9, 3) := by decide +kernel
theorem dX2_init_12 : decode cX2_init 12 = .ok (.putfield 10, 3) := by decide +kernel
theorem dX2_init_15 : decode cX2_init 15 = .ok (.aload_n 0, 1) := by decide +kernel
theorem dX2_init_16 : decode cX2_init 16 = .ok (.new 7, 3) := by decide +kernel
theorem dX2_init_19 : decode cX2_init 19 = .ok (.dup, 1) := by decide +kernel
theorem dX2_init_20 : decode cX2_init 20 = .ok (.invokespecial 9, 3) := by decide +kernel
theorem dX2_init_23 : decode cX2_init 23 = .ok (.putfield 16, 3) := by decide +kernel
theorem dX2_init_26 : decode cX2_init 26 = .ok (.aload_n 0, 1) := by decide +kernel
theorem dX2_init_27 : decode cX2_init 27 = .ok (.new 7, 3) := by decide +kernel
theorem dX2_init_30 : decode cX2_init 30 = .ok (.dup, 1) := by decide +kernel
theorem dX2_init_31 : decode cX2_init 31 = .ok (.invokespecial 9, 3) := by decide +kernel
theorem dX2_init_34 : decode cX2_init 34 = .ok (.putfield 19, 3) := by decide +kernel
theorem dX2_init_37 : decode cX2_init 37 = .ok (.aload_n 0, 1) := by decide +kernel
theorem dX2_init_38 : decode cX2_init 38 = .ok (.new 22, 3) := by decide +kernel
theorem dX2_init_41 : decode cX2_init 41 = .ok (.dup, 1) := by decide +kernel
theorem dX2_init_42 : decode cX2_init 42 = .ok (.invokespecial 24, 3) := by decide +kernel
theorem dX2_init_45 : decode cX2_init 45 = .ok (.putfield 25, 3) := by decide +kernel
theorem dX2_init_48 : decode cX2_init 48 = .ok (.aload_n 0, 1) := by decide +kernel
theorem dX2_init_49 : decode cX2_init 49 = .ok (.bipush 8, 2) := by decide +kernel
theorem dX2_init_51 : decode cX2_init 51 = .ok (.newarray .int, 2) := by decide +kernel
theorem dX2_init_53 : decode cX2_init 53 = .ok (.putfield 29, 3) := by decide +kernel
theorem dX2_init_56 : decode cX2_init 56 = .ok (.aload_n 0, 1) := by decide +kernel
theorem dX2_init_57 : decode cX2_init 57 = .ok (.iconst 0, 1) := by decide +kernel
theorem dX2_init_58 : decode cX2_init 58 = .ok (.putfield 33, 3) := by decide +kernel
theorem dX2_init_61 : decode cX2_init 61 = .ok (.aload_n 0, 1) := by decide +kernel
theorem dX2_init_62 : decode cX2_init 62 = .ok (.iconst 0, 1) := by decide +kernel
theorem dX2_init_63 : decode cX2_init 63 = .ok (.putfield 37, 3) := by decide +kernel
theorem dX2_init_66 : decode cX2_init 66 = .ok (.aload_n 0, 1) := by decide +kernel
theorem dX2_init_67 : decode cX2_init 67 = .ok (.iconst 0, 1) := by decide +kernel
theorem dX2_init_68 : decode cX2_init 68 = .ok (.putfield 40, 3) := by decide +kernel
theorem dX2_init_71 : decode cX2_init 71 = .ok (.return_, 1) := by decide +kernel
set_option maxRecDepth 20000 in
theorem ggX2_letter_X2_within : GoodIn wsX2_letter wsX2_within := goodIn_r _ [6] (by decide +kernel) (by decide +kernel)
set_option maxRecDepth 20000 in
theorem gX2_letter_X2_within : GoodIn wsX2_letter (va_wsS RX2 44 yX2_within wsX2_within) := goodIn_app (goodIn_of _ (by decide +kernel)) ggX2_letter_X2_within
theorem dX2_letter_0 : decode cX2_letter 0 = .ok (.iload_n 1, 1) := by decide +kernel
theorem dX2_letter_1 : decode cX2_letter 1 = .ok (.iconst 1, 1) := by decide +kernel
theorem dX2_letter_2 : decode cX2_letter 2 = .ok (.bipush 126, 2) := by decide +kernel
theorem dX2_letter_4 : decode cX2_letter 4 = .ok (.invokestatic 44, 3) := by decide +kernel
theorem dX2_letter_7 : decode cX2_letter 7 = .ok (.ifCond .ne 6, 3) := by decide +kernel
theorem dX2_letter_10 : decode cX2_letter 10 = .ok (.bipush (-102), 2) := by decide +kernel
theorem dX2_letter_12 : decode cX2_letter 12 = .ok (.ireturn, 1) := by decide +kernel
theorem dX2_letter_13 : decode cX2_letter 13 = .ok (.aload_n 0, 1) := by decide +kernel
theorem dX2_letter_14 : decode cX2_letter 14 = .ok (.getfield 33, 3) := by decide +kernel
theorem dX2_letter_17 : decode cX2_letter 17 = .ok (.aload_n 0, 1) := by decide +kernel
theorem dX2_letter_18 : decode cX2_letter 18 = .ok (.getfield 29, 3) := by decide +kernel
theorem dX2_letter_21 : decode cX2_letter 21 = .ok (.arraylength, 1) := by decide +kernel
theorem dX2_letter_22 : decode cX2_letter 22 = .ok (.if_icmp .lt 6, 3) := by decide +kernel
theorem dX2_letter_25 : decode cX2_letter 25 = .ok (.bipush (-104), 2) := by decide +kernel
theorem dX2_letter_27 : decode cX2_letter 27 = .ok (.ireturn, 1) := by decide +kernel
theorem dX2_letter_28 : decode cX2_letter 28 = .ok (.aload_n 0, 1) := by decide +kernel
theorem dX2_letter_29 : decode cX2_letter 29 = .ok (.getfield 29, 3) := by decide +kernel
theorem dX2_letter_32 : decode cX2_letter 32 = .ok (.aload_n 0, 1) := by decide +kernel
theorem dX2_letter_33 : decode cX2_letter 33 = .ok (.getfield 33, 3) := by decide +kernel
theorem dX2_letter_36 : decode cX2_letter 36 = .ok (.iload_n 1, 1) := by decide +kernel
theorem dX2_letter_37 : decode cX2_letter 37 = .ok (.iastore, 1) := by decide +kernel
theorem dX2_letter_38 : decode cX2_letter 38 = .ok (.aload_n 0, 1) := by decide +kernel
theorem dX2_letter_39 : decode cX2_letter 39 = .ok (.dup, 1) := by decide +kernel
theorem dX2_letter_40 : decode cX2_letter 40 = .ok (.getfield 33, 3) := by decide +kernel
theorem dX2_letter_43 : decode cX2_letter 43 = .ok (.iconst 1, 1) := by decide +kernel
theorem dX2_letter_44 : decode cX2_letter 44 = .ok (.iadd, 1) := by decide +kernel
theorem dX2_letter_45 : decode cX2_letter 45 = .ok (.putfield 33, 3) := by decide +kernel
theorem dX2_letter_48 : decode cX2_letter 48 = .ok (.aload_n 0, 1) := by decide +kernel
theorem dX2_letter_49 : decode cX2_letter 49 = .ok (.getfield 33, 3) := by decide +kernel
theorem dX2_letter_52 : decode cX2_letter 52 = .ok (.ireturn, 1) := by decide +kernel
theorem dX2_blank_0 : decode cX2_blank 0 = .ok (.aload_n 0, 1) := by decide +kernel
theorem dX2_blank_1 : decode cX2_blank 1 = .ok (.getfield 33, 3) := by decide +kernel
theorem dX2_blank_4 : decode cX2_blank 4 = .ok (.istore_n 1, 1) := by decide +kernel
theorem dX2_blank_5 : decode cX2_blank 5 = .ok (.aload_n 0, 1) := by decide +kernel
theorem dX2_blank_6 : decode cX2_blank 6 = .ok (.iconst 0, 1) := by decide +kernel
theorem dX2_blank_7 : decode cX2_blank 7 = .ok (.putfield 33, 3) := by decide +kernel
theorem dX2_blank_10 : decode cX2_blank 10 = .ok (.iload_n 1, 1) := by decide +kernel
theorem dX2_blank_11 : decode cX2_blank 11 = .ok (.ireturn, 1) := by decide +kernel
set_option maxRecDepth 20000 in
theorem ggX2_fault_X2_fitsLaw : GoodIn wsX2_fault wsX2_fitsLaw := goodIn_r _ [6, 7, 8, 9, 10, 11, 5, 12, 13, 14, 15, 16, 17, 18, 19, 20] (by decide +kernel) (by decide +kernel)
set_option maxRecDepth 20000 in
theorem gX2_fault_X2_fitsLaw : GoodIn wsX2_fault (wsV RX2 48 RX2 yX2_fitsLaw wsX2_fitsLaw) := goodIn_app (goodIn_of _ (by decide +kernel)) ggX2_fault_X2_fitsLaw
theorem dX2_fault_0 : decode cX2_fault 0 = .ok (.iconst 0, 1) := by decide +kernel
theorem dX2_fault_1 : decode cX2_fault 1 = .ok (.istore_n 1, 1) := by decide +kernel
theorem dX2_fault_2 : decode cX2_fault 2 = .ok (.iload_n 1, 1) := by decide +kernel
theorem dX2_fault_3 : decode cX2_fault 3 = .ok (.aload_n 0, 1) := by decide +kernel
theorem dX2_fault_4 : decode cX2_fault 4 = .ok (.getfield 33, 3) := by decide +kernel
theorem dX2_fault_7 : decode cX2_fault 7 = .ok (.if_icmp .ge 19, 3) := by decide +kernel
theorem dX2_fault_10 : decode cX2_fault 10 = .ok (.aload_n 0, 1) := by decide +kernel
theorem dX2_fault_11 : decode cX2_fault 11 = .ok (.iload_n 1, 1) := by decide +kernel
theorem dX2_fault_12 : decode cX2_fault 12 = .ok (.invokevirtual 48, 3) := by decide +kernel
theorem dX2_fault_15 : decode cX2_fault 15 = .ok (.ifCond .ne 5, 3) := by decide +kernel
theorem dX2_fault_18 : decode cX2_fault 18 = .ok (.iload_n 1, 1) := by decide +kernel
theorem dX2_fault_19 : decode cX2_fault 19 = .ok (.ireturn, 1) := by decide +kernel
theorem dX2_fault_20 : decode cX2_fault 20 = .ok (.iinc 1 1, 3) := by decide +kernel
theorem dX2_fault_23 : decode cX2_fault 23 = .ok (.goto (-21), 3) := by decide +kernel
theorem dX2_fault_26 : decode cX2_fault 26 = .ok (.aload_n 0, 1) := by decide +kernel
theorem dX2_fault_27 : decode cX2_fault 27 = .ok (.getfield 33, 3) := by decide +kernel
theorem dX2_fault_30 : decode cX2_fault 30 = .ok (.ireturn, 1) := by decide +kernel
set_option maxRecDepth 20000 in
theorem ggX2_law_X2_fault : GoodIn wsX2_law wsX2_fault := goodIn_r _ [14, 1, 15, 16, 17, 13, 18, 2, 19, 4, 20, 21, 22, 23, 24, 25, 26, 27, 28, 29, 30] (by decide +kernel) (by decide +kernel)
set_option maxRecDepth 20000 in
theorem gX2_law_X2_fault : GoodIn wsX2_law (wsV RX2 56 RX2 yX2_fault wsX2_fault) := goodIn_app (goodIn_of _ (by decide +kernel)) ggX2_law_X2_fault
theorem dX2_law_0 : decode cX2_law 0 = .ok (.aload_n 0, 1) := by decide +kernel
theorem dX2_law_1 : decode cX2_law 1 = .ok (.getfield 33, 3) := by decide +kernel
theorem dX2_law_4 : decode cX2_law 4 = .ok (.getstatic 52, 3) := by decide +kernel
theorem dX2_law_7 : decode cX2_law 7 = .ok (.arraylength, 1) := by decide +kernel
theorem dX2_law_8 : decode cX2_law 8 = .ok (.if_icmp .ne 14, 3) := by decide +kernel
theorem dX2_law_11 : decode cX2_law 11 = .ok (.aload_n 0, 1) := by decide +kernel
theorem dX2_law_12 : decode cX2_law 12 = .ok (.invokevirtual 56, 3) := by decide +kernel
theorem dX2_law_15 : decode cX2_law 15 = .ok (.aload_n 0, 1) := by decide +kernel
theorem dX2_law_16 : decode cX2_law 16 = .ok (.getfield 33, 3) := by decide +kernel
theorem dX2_law_19 : decode cX2_law 19 = .ok (.if_icmp .eq 6, 3) := by decide +kernel
theorem dX2_law_22 : decode cX2_law 22 = .ok (.bipush (-103), 2) := by decide +kernel
theorem dX2_law_24 : decode cX2_law 24 = .ok (.ireturn, 1) := by decide +kernel
theorem dX2_law_25 : decode cX2_law 25 = .ok (.aload_n 0, 1) := by decide +kernel
theorem dX2_law_26 : decode cX2_law 26 = .ok (.getfield 10, 3) := by decide +kernel
theorem dX2_law_29 : decode cX2_law 29 = .ok (.aload_n 0, 1) := by decide +kernel
theorem dX2_law_30 : decode cX2_law 30 = .ok (.getfield 29, 3) := by decide +kernel
theorem dX2_law_33 : decode cX2_law 33 = .ok (.iconst 0, 1) := by decide +kernel
theorem dX2_law_34 : decode cX2_law 34 = .ok (.iaload, 1) := by decide +kernel
theorem dX2_law_35 : decode cX2_law 35 = .ok (.bipush 48, 2) := by decide +kernel
theorem dX2_law_37 : decode cX2_law 37 = .ok (.isub, 1) := by decide +kernel
theorem dX2_law_38 : decode cX2_law 38 = .ok (.putfield 60, 3) := by decide +kernel
theorem dX2_law_41 : decode cX2_law 41 = .ok (.aload_n 0, 1) := by decide +kernel
theorem dX2_law_42 : decode cX2_law 42 = .ok (.getfield 10, 3) := by decide +kernel
theorem dX2_law_45 : decode cX2_law 45 = .ok (.aload_n 0, 1) := by decide +kernel
theorem dX2_law_46 : decode cX2_law 46 = .ok (.getfield 29, 3) := by decide +kernel
theorem dX2_law_49 : decode cX2_law 49 = .ok (.iconst 1, 1) := by decide +kernel
theorem dX2_law_50 : decode cX2_law 50 = .ok (.iaload, 1) := by decide +kernel
theorem dX2_law_51 : decode cX2_law 51 = .ok (.bipush 48, 2) := by decide +kernel
theorem dX2_law_53 : decode cX2_law 53 = .ok (.isub, 1) := by decide +kernel
theorem dX2_law_54 : decode cX2_law 54 = .ok (.putfield 63, 3) := by decide +kernel
theorem dX2_law_57 : decode cX2_law 57 = .ok (.aload_n 0, 1) := by decide +kernel
theorem dX2_law_58 : decode cX2_law 58 = .ok (.getfield 10, 3) := by decide +kernel
theorem dX2_law_61 : decode cX2_law 61 = .ok (.aload_n 0, 1) := by decide +kernel
theorem dX2_law_62 : decode cX2_law 62 = .ok (.getfield 29, 3) := by decide +kernel
theorem dX2_law_65 : decode cX2_law 65 = .ok (.iconst 2, 1) := by decide +kernel
theorem dX2_law_66 : decode cX2_law 66 = .ok (.iaload, 1) := by decide +kernel
theorem dX2_law_67 : decode cX2_law 67 = .ok (.bipush 48, 2) := by decide +kernel
theorem dX2_law_69 : decode cX2_law 69 = .ok (.isub, 1) := by decide +kernel
theorem dX2_law_70 : decode cX2_law 70 = .ok (.putfield 66, 3) := by decide +kernel
theorem dX2_law_73 : decode cX2_law 73 = .ok (.aload_n 0, 1) := by decide +kernel
theorem dX2_law_74 : decode cX2_law 74 = .ok (.getfield 10, 3) := by decide +kernel
theorem dX2_law_77 : decode cX2_law 77 = .ok (.aload_n 0, 1) := by decide +kernel
theorem dX2_law_78 : decode cX2_law 78 = .ok (.getfield 29, 3) := by decide +kernel
theorem dX2_law_81 : decode cX2_law 81 = .ok (.iconst 4, 1) := by decide +kernel
theorem dX2_law_82 : decode cX2_law 82 = .ok (.iaload, 1) := by decide +kernel
theorem dX2_law_83 : decode cX2_law 83 = .ok (.bipush 48, 2) := by decide +kernel
theorem dX2_law_85 : decode cX2_law 85 = .ok (.isub, 1) := by decide +kernel
theorem dX2_law_86 : decode cX2_law 86 = .ok (.putfield 69, 3) := by decide +kernel
theorem dX2_law_89 : decode cX2_law 89 = .ok (.aload_n 0, 1) := by decide +kernel
theorem dX2_law_90 : decode cX2_law 90 = .ok (.iconst 0, 1) := by decide +kernel
theorem dX2_law_91 : decode cX2_law 91 = .ok (.putfield 33, 3) := by decide +kernel
theorem dX2_law_94 : decode cX2_law 94 = .ok (.aload_n 0, 1) := by decide +kernel
theorem dX2_law_95 : decode cX2_law 95 = .ok (.dup, 1) := by decide +kernel
theorem dX2_law_96 : decode cX2_law 96 = .ok (.getfield 37, 3) := by decide +kernel
theorem dX2_law_99 : decode cX2_law 99 = .ok (.iconst 1, 1) := by decide +kernel
theorem dX2_law_100 : decode cX2_law 100 = .ok (.iadd, 1) := by decide +kernel
theorem dX2_law_101 : decode cX2_law 101 = .ok (.putfield 37, 3) := by decide +kernel
theorem dX2_law_104 : decode cX2_law 104 = .ok (.aload_n 0, 1) := by decide +kernel
theorem dX2_law_105 : decode cX2_law 105 = .ok (.getfield 37, 3) := by decide +kernel
theorem dX2_law_108 : decode cX2_law 108 = .ok (.ireturn, 1) := by decide +kernel
set_option maxRecDepth 20000 in
theorem ggX2_fitsLaw_X2_within : GoodIn wsX2_fitsLaw wsX2_within := goodIn_r _ [7] (by decide +kernel) (by decide +kernel)
set_option maxRecDepth 20000 in
theorem gX2_fitsLaw_X2_within : GoodIn wsX2_fitsLaw (va_wsS RX2 44 yX2_within wsX2_within) := goodIn_app (goodIn_of _ (by decide +kernel)) ggX2_fitsLaw_X2_within
theorem dX2_fitsLaw_0 : decode cX2_fitsLaw 0 = .ok (.iload_n 1, 1) := by decide +kernel
theorem dX2_fitsLaw_1 : decode cX2_fitsLaw 1 = .ok (.ifCond .lt 28, 3) := by decide +kernel
theorem dX2_fitsLaw_4 : decode cX2_fitsLaw 4 = .ok (.iload_n 1, 1) := by decide +kernel
theorem dX2_fitsLaw_5 : decode cX2_fitsLaw 5 = .ok (.getstatic 52, 3) := by decide +kernel
theorem dX2_fitsLaw_8 : decode cX2_fitsLaw 8 = .ok (.arraylength, 1) := by decide +kernel
theorem dX2_fitsLaw_9 : decode cX2_fitsLaw 9 = .ok (.if_icmp .ge 20, 3) := by decide +kernel
theorem dX2_fitsLaw_12 : decode cX2_fitsLaw 12 = .ok (.iload_n 1, 1) := by decide +kernel
theorem dX2_fitsLaw_13 : decode cX2_fitsLaw 13 = .ok (.getstatic 72, 3) := by decide +kernel
theorem dX2_fitsLaw_16 : decode cX2_fitsLaw 16 = .ok (.arraylength, 1) := by decide +kernel
theorem dX2_fitsLaw_17 : decode cX2_fitsLaw 17 = .ok (.if_icmp .ge 12, 3) := by decide +kernel
theorem dX2_fitsLaw_20 : decode cX2_fitsLaw 20 = .ok (.iload_n 1, 1) := by decide +kernel
theorem dX2_fitsLaw_21 : decode cX2_fitsLaw 21 = .ok (.aload_n 0, 1) := by decide +kernel
theorem dX2_fitsLaw_22 : decode cX2_fitsLaw 22 = .ok (.getfield 29, 3) := by decide +kernel
theorem dX2_fitsLaw_25 : decode cX2_fitsLaw 25 = .ok (.arraylength, 1) := by decide +kernel
theorem dX2_fitsLaw_26 : decode cX2_fitsLaw 26 = .ok (.if_icmp .lt 5, 3) := by decide +kernel
theorem dX2_fitsLaw_29 : decode cX2_fitsLaw 29 = .ok (.iconst 0, 1) := by decide +kernel
theorem dX2_fitsLaw_30 : decode cX2_fitsLaw 30 = .ok (.ireturn, 1) := by decide +kernel
theorem dX2_fitsLaw_31 : decode cX2_fitsLaw 31 = .ok (.aload_n 0, 1) := by decide +kernel
theorem dX2_fitsLaw_32 : decode cX2_fitsLaw 32 = .ok (.getfield 29, 3) := by decide +kernel
theorem dX2_fitsLaw_35 : decode cX2_fitsLaw 35 = .ok (.iload_n 1, 1) := by decide +kernel
theorem dX2_fitsLaw_36 : decode cX2_fitsLaw 36 = .ok (.iaload, 1) := by decide +kernel
theorem dX2_fitsLaw_37 : decode cX2_fitsLaw 37 = .ok (.getstatic 52, 3) := by decide +kernel
theorem dX2_fitsLaw_40 : decode cX2_fitsLaw 40 = .ok (.iload_n 1, 1) := by decide +kernel
theorem dX2_fitsLaw_41 : decode cX2_fitsLaw 41 = .ok (.caload, 1) := by decide +kernel
theorem dX2_fitsLaw_42 : decode cX2_fitsLaw 42 = .ok (.getstatic 72, 3) := by decide +kernel
theorem dX2_fitsLaw_45 : decode cX2_fitsLaw 45 = .ok (.iload_n 1, 1) := by decide +kernel
theorem dX2_fitsLaw_46 : decode cX2_fitsLaw 46 = .ok (.caload, 1) := by decide +kernel
theorem dX2_fitsLaw_47 : decode cX2_fitsLaw 47 = .ok (.invokestatic 44, 3) := by decide +kernel
theorem dX2_fitsLaw_50 : decode cX2_fitsLaw 50 = .ok (.ireturn, 1) := by decide +kernel
set_option maxRecDepth 20000 in
theorem ggX2_holder_X2_within : GoodIn wsX2_holder wsX2_within := goodIn_r _ [6] (by decide +kernel) (by decide +kernel)
set_option maxRecDepth 20000 in
theorem gX2_holder_X2_within : GoodIn wsX2_holder (va_wsS RX2 44 yX2_within wsX2_within) := goodIn_app (goodIn_of _ (by decide +kernel)) ggX2_holder_X2_within
set_option maxRecDepth 20000 in
theorem ggX2_holder_X1_addHolder : GoodIn wsX2_holder wsX1_addHolder := goodIn_r _ [11, 12, 13, 14, 15, 16, 25, 26, 27, 28, 29, 30, 31, 32, 33, 34, 35, 36, 37, 38, 39, 40, 41] (by decide +kernel) (by decide +kernel)
set_option maxRecDepth 20000 in
theorem gX2_holder_X1_addHolder : GoodIn wsX2_holder (wsV RX2 78 RX1 yX1_addHolder wsX1_addHolder) := goodIn_app (goodIn_of _ (by decide +kernel)) ggX2_holder_X1_addHolder
theorem dX2_holder_0 : decode cX2_holder 0 = .ok (.iload_n 1, 1) := by decide +kernel
theorem dX2_holder_1 : decode cX2_holder 1 = .ok (.iconst 0, 1) := by decide +kernel
theorem dX2_holder_2 : decode cX2_holder 2 = .ok (.iconst 4, 1) := by decide +kernel
theorem dX2_holder_3 : decode cX2_holder 3 = .ok (.invokestatic 44, 3) := by decide +kernel
theorem dX2_holder_6 : decode cX2_holder 6 = .ok (.ifCond .eq 13, 3) := by decide +kernel
theorem dX2_holder_9 : decode cX2_holder 9 = .ok (.iload_n 2, 1) := by decide +kernel
theorem dX2_holder_10 : decode cX2_holder 10 = .ok (.iconst 0, 1) := by decide +kernel
theorem dX2_holder_11 : decode cX2_holder 11 = .ok (.bipush 9, 2) := by decide +kernel
theorem dX2_holder_13 : decode cX2_holder 13 = .ok (.invokestatic 44, 3) := by decide +kernel
theorem dX2_holder_16 : decode cX2_holder 16 = .ok (.ifCond .ne 6, 3) := by decide +kernel
theorem dX2_holder_19 : decode cX2_holder 19 = .ok (.bipush (-102), 2) := by decide +kernel
theorem dX2_holder_21 : decode cX2_holder 21 = .ok (.ireturn, 1) := by decide +kernel
theorem dX2_holder_22 : decode cX2_holder 22 = .ok (.aload_n 0, 1) := by decide +kernel
theorem dX2_holder_23 : decode cX2_holder 23 = .ok (.getfield 10, 3) := by decide +kernel
theorem dX2_holder_26 : decode cX2_holder 26 = .ok (.getfield 75, 3) := by decide +kernel
theorem dX2_holder_29 : decode cX2_holder 29 = .ok (.iconst 4, 1) := by decide +kernel
theorem dX2_holder_30 : decode cX2_holder 30 = .ok (.if_icmp .lt 6, 3) := by decide +kernel
theorem dX2_holder_33 : decode cX2_holder 33 = .ok (.bipush (-104), 2) := by decide +kernel
theorem dX2_holder_35 : decode cX2_holder 35 = .ok (.ireturn, 1) := by decide +kernel
theorem dX2_holder_36 : decode cX2_holder 36 = .ok (.aload_n 0, 1) := by decide +kernel
theorem dX2_holder_37 : decode cX2_holder 37 = .ok (.getfield 10, 3) := by decide +kernel
theorem dX2_holder_40 : decode cX2_holder 40 = .ok (.iload_n 1, 1) := by decide +kernel
theorem dX2_holder_41 : decode cX2_holder 41 = .ok (.iload_n 2, 1) := by decide +kernel
theorem dX2_holder_42 : decode cX2_holder 42 = .ok (.invokevirtual 78, 3) := by decide +kernel
theorem dX2_holder_45 : decode cX2_holder 45 = .ok (.ireturn, 1) := by decide +kernel
set_option maxRecDepth 20000 in
theorem ggX2_about_X1_hasHolder : GoodIn wsX2_about wsX1_hasHolder := goodIn_r _ [10, 11, 79, 80, 81, 82, 83, 84, 85, 86, 87, 88, 89, 90, 91, 92, 93, 94, 95] (by decide +kernel) (by decide +kernel)
set_option maxRecDepth 20000 in
theorem gX2_about_X1_hasHolder : GoodIn wsX2_about (wsV RX2 82 RX1 yX1_hasHolder wsX1_hasHolder) := goodIn_app (goodIn_of _ (by decide +kernel)) ggX2_about_X1_hasHolder
set_option maxRecDepth 20000 in
theorem ggX2_about_X1_ownBits : GoodIn wsX2_about wsX1_ownBits := goodIn_r _ [15, 16, 17, 18, 19, 20, 9, 21, 79, 80, 81, 82, 83, 84, 85, 86, 87, 88, 89, 90, 91, 92, 93, 94, 95] (by decide +kernel) (by decide +kernel)
set_option maxRecDepth 20000 in
theorem gX2_about_X1_ownBits : GoodIn wsX2_about (wsV RX2 98 RX1 yX1_ownBits wsX1_ownBits) := goodIn_app (goodIn_of _ (by decide +kernel)) ggX2_about_X1_ownBits
set_option maxRecDepth 20000 in
theorem ggX2_about_X1_heldBits : GoodIn wsX2_about wsX1_heldBits := goodIn_r _ [25, 26, 27, 28, 9, 29, 30, 16, 31, 32, 33, 34, 13, 14, 15, 17, 18, 19, 20, 21, 79, 80, 81, 82, 83, 84, 85, 86, 87, 88, 89, 90, 91, 92, 93, 94, 95] (by decide +kernel) (by decide +kernel)
set_option maxRecDepth 20000 in
theorem gX2_about_X1_heldBits : GoodIn wsX2_about (wsV RX2 102 RX1 yX1_heldBits wsX1_heldBits) := goodIn_app (goodIn_of _ (by decide +kernel)) ggX2_about_X1_heldBits
set_option maxRecDepth 20000 in
theorem ggX2_about_X1_lordMay : GoodIn wsX2_about wsX1_lordMay := goodIn_r _ [38, 39, 40, 41, 42, 43, 79, 80, 81, 82, 83, 84, 85, 86, 87, 88, 89, 90, 91, 92, 93, 94, 95] (by decide +kernel) (by decide +kernel)
set_option maxRecDepth 20000 in
theorem gX2_about_X1_lordMay : GoodIn wsX2_about (wsV RX2 105 RX1 yX1_lordMay wsX1_lordMay) := goodIn_app (goodIn_of _ (by decide +kernel)) ggX2_about_X1_lordMay
set_option maxRecDepth 20000 in
theorem ggX2_about_X1_churchMay : GoodIn wsX2_about wsX1_churchMay := goodIn_r _ [47, 48, 40, 41, 42, 43, 79, 80, 81, 82, 83, 84, 85, 86, 87, 88, 89, 90, 91, 92, 93, 94, 95] (by decide +kernel) (by decide +kernel)
set_option maxRecDepth 20000 in
theorem gX2_about_X1_churchMay : GoodIn wsX2_about (wsV RX2 108 RX1 yX1_churchMay wsX1_churchMay) := goodIn_app (goodIn_of _ (by decide +kernel)) ggX2_about_X1_churchMay
set_option maxRecDepth 20000 in
theorem ggX2_about_X1_worthTaken : GoodIn wsX2_about wsX1_worthTaken := goodIn_r _ [52, 53, 54, 55, 9, 56, 57, 58, 7, 8, 10, 11, 59, 36, 37, 38, 39, 40, 41, 42, 43, 60, 45, 46, 47, 48, 61, 62, 63, 64, 65, 16, 66, 18, 19, 20, 21, 67, 68, 69, 70, 79, 80, 81, 82, 83, 84, 85, 86, 87, 88, 89, 90, 91, 92, 93, 94, 95] (by decide +kernel) (by decide +kernel)
set_option maxRecDepth 20000 in
theorem gX2_about_X1_worthTaken : GoodIn wsX2_about (wsV RX2 111 RX1 yX1_worthTaken wsX1_worthTaken) := goodIn_app (goodIn_of _ (by decide +kernel)) ggX2_about_X1_worthTaken
theorem dX2_about_0 : decode cX2_about 0 = .ok (.aload_n 0, 1) := by decide +kernel
theorem dX2_about_1 : decode cX2_about 1 = .ok (.getfield 10, 3) := by decide +kernel
theorem dX2_about_4 : decode cX2_about 4 = .ok (.iload_n 1, 1) := by decide +kernel
theorem dX2_about_5 : decode cX2_about 5 = .ok (.invokevirtual 82, 3) := by decide +kernel
theorem dX2_about_8 : decode cX2_about 8 = .ok (.ifCond .ne 6, 3) := by decide +kernel
theorem dX2_about_11 : decode cX2_about 11 = .ok (.bipush (-101), 2) := by decide +kernel
theorem dX2_about_13 : decode cX2_about 13 = .ok (.ireturn, 1) := by decide +kernel
theorem dX2_about_14 : decode cX2_about 14 = .ok (.iload_n 2, 1) := by decide +kernel
theorem dX2_about_15 : decode cX2_about 15 = .ok (.tableswitch 182 0 8 #[49, 59, 69, 87, 97, 106, 115, 132, 149], 49) := by decide +kernel
theorem dX2_about_64 : decode cX2_about 64 = .ok (.aload_n 0, 1) := by decide +kernel
theorem dX2_about_65 : decode cX2_about 65 = .ok (.getfield 10, 3) := by decide +kernel
theorem dX2_about_68 : decode cX2_about 68 = .ok (.getfield 85, 3) := by decide +kernel
theorem dX2_about_71 : decode cX2_about 71 = .ok (.iload_n 1, 1) := by decide +kernel
theorem dX2_about_72 : decode cX2_about 72 = .ok (.iaload, 1) := by decide +kernel
theorem dX2_about_73 : decode cX2_about 73 = .ok (.ireturn, 1) := by decide +kernel
theorem dX2_about_74 : decode cX2_about 74 = .ok (.aload_n 0, 1) := by decide +kernel
theorem dX2_about_75 : decode cX2_about 75 = .ok (.getfield 10, 3) := by decide +kernel
theorem dX2_about_78 : decode cX2_about 78 = .ok (.getfield 88, 3) := by decide +kernel
theorem dX2_about_81 : decode cX2_about 81 = .ok (.iload_n 1, 1) := by decide +kernel
theorem dX2_about_82 : decode cX2_about 82 = .ok (.iaload, 1) := by decide +kernel
theorem dX2_about_83 : decode cX2_about 83 = .ok (.ireturn, 1) := by decide +kernel
theorem dX2_about_84 : decode cX2_about 84 = .ok (.aload_n 0, 1) := by decide +kernel
theorem dX2_about_85 : decode cX2_about 85 = .ok (.getfield 10, 3) := by decide +kernel
theorem dX2_about_88 : decode cX2_about 88 = .ok (.getfield 91, 3) := by decide +kernel
theorem dX2_about_91 : decode cX2_about 91 = .ok (.iload_n 1, 1) := by decide +kernel
theorem dX2_about_92 : decode cX2_about 92 = .ok (.baload, 1) := by decide +kernel
theorem dX2_about_93 : decode cX2_about 93 = .ok (.ifCond .eq 7, 3) := by decide +kernel
theorem dX2_about_96 : decode cX2_about 96 = .ok (.iconst 1, 1) := by decide +kernel
theorem dX2_about_97 : decode cX2_about 97 = .ok (.goto 4, 3) := by decide +kernel
theorem dX2_about_100 : decode cX2_about 100 = .ok (.iconst 0, 1) := by decide +kernel
theorem dX2_about_101 : decode cX2_about 101 = .ok (.ireturn, 1) := by decide +kernel
theorem dX2_about_102 : decode cX2_about 102 = .ok (.aload_n 0, 1) := by decide +kernel
theorem dX2_about_103 : decode cX2_about 103 = .ok (.getfield 10, 3) := by decide +kernel
theorem dX2_about_106 : decode cX2_about 106 = .ok (.getfield 95, 3) := by decide +kernel
theorem dX2_about_109 : decode cX2_about 109 = .ok (.iload_n 1, 1) := by decide +kernel
theorem dX2_about_110 : decode cX2_about 110 = .ok (.iaload, 1) := by decide +kernel
theorem dX2_about_111 : decode cX2_about 111 = .ok (.ireturn, 1) := by decide +kernel
theorem dX2_about_112 : decode cX2_about 112 = .ok (.aload_n 0, 1) := by decide +kernel
theorem dX2_about_113 : decode cX2_about 113 = .ok (.getfield 10, 3) := by decide +kernel
theorem dX2_about_116 : decode cX2_about 116 = .ok (.iload_n 1, 1) := by decide +kernel
theorem dX2_about_117 : decode cX2_about 117 = .ok (.invokevirtual 98, 3) := by decide +kernel
theorem dX2_about_120 : decode cX2_about 120 = .ok (.ireturn, 1) := by decide +kernel
theorem dX2_about_121 : decode cX2_about 121 = .ok (.aload_n 0, 1) := by decide +kernel
theorem dX2_about_122 : decode cX2_about 122 = .ok (.getfield 10, 3) := by decide +kernel
theorem dX2_about_125 : decode cX2_about 125 = .ok (.iload_n 1, 1) := by decide +kernel
theorem dX2_about_126 : decode cX2_about 126 = .ok (.invokevirtual 102, 3) := by decide +kernel
theorem dX2_about_129 : decode cX2_about 129 = .ok (.ireturn, 1) := by decide +kernel
theorem dX2_about_130 : decode cX2_about 130 = .ok (.aload_n 0, 1) := by decide +kernel
theorem dX2_about_131 : decode cX2_about 131 = .ok (.getfield 10, 3) := by decide +kernel
theorem dX2_about_134 : decode cX2_about 134 = .ok (.aload_n 0, 1) := by decide +kernel
theorem dX2_about_135 : decode cX2_about 135 = .ok (.getfield 10, 3) := by decide +kernel
theorem dX2_about_138 : decode cX2_about 138 = .ok (.getfield 85, 3) := by decide +kernel
theorem dX2_about_141 : decode cX2_about 141 = .ok (.iload_n 1, 1) := by decide +kernel
theorem dX2_about_142 : decode cX2_about 142 = .ok (.iaload, 1) := by decide +kernel
theorem dX2_about_143 : decode cX2_about 143 = .ok (.invokevirtual 105, 3) := by decide +kernel
theorem dX2_about_146 : decode cX2_about 146 = .ok (.ireturn, 1) := by decide +kernel
theorem dX2_about_147 : decode cX2_about 147 = .ok (.aload_n 0, 1) := by decide +kernel
theorem dX2_about_148 : decode cX2_about 148 = .ok (.getfield 10, 3) := by decide +kernel
theorem dX2_about_151 : decode cX2_about 151 = .ok (.aload_n 0, 1) := by decide +kernel
theorem dX2_about_152 : decode cX2_about 152 = .ok (.getfield 10, 3) := by decide +kernel
theorem dX2_about_155 : decode cX2_about 155 = .ok (.getfield 85, 3) := by decide +kernel
theorem dX2_about_158 : decode cX2_about 158 = .ok (.iload_n 1, 1) := by decide +kernel
theorem dX2_about_159 : decode cX2_about 159 = .ok (.iaload, 1) := by decide +kernel
theorem dX2_about_160 : decode cX2_about 160 = .ok (.invokevirtual 108, 3) := by decide +kernel
theorem dX2_about_163 : decode cX2_about 163 = .ok (.ireturn, 1) := by decide +kernel
theorem dX2_about_164 : decode cX2_about 164 = .ok (.aload_n 0, 1) := by decide +kernel
theorem dX2_about_165 : decode cX2_about 165 = .ok (.getfield 10, 3) := by decide +kernel
theorem dX2_about_168 : decode cX2_about 168 = .ok (.getfield 91, 3) := by decide +kernel
theorem dX2_about_171 : decode cX2_about 171 = .ok (.iload_n 1, 1) := by decide +kernel
theorem dX2_about_172 : decode cX2_about 172 = .ok (.baload, 1) := by decide +kernel
theorem dX2_about_173 : decode cX2_about 173 = .ok (.ifCond .eq 22, 3) := by decide +kernel
theorem dX2_about_176 : decode cX2_about 176 = .ok (.aload_n 0, 1) := by decide +kernel
theorem dX2_about_177 : decode cX2_about 177 = .ok (.getfield 10, 3) := by decide +kernel
theorem dX2_about_180 : decode cX2_about 180 = .ok (.iload_n 1, 1) := by decide +kernel
theorem dX2_about_181 : decode cX2_about 181 = .ok (.aload_n 0, 1) := by decide +kernel
theorem dX2_about_182 : decode cX2_about 182 = .ok (.getfield 10, 3) := by decide +kernel
theorem dX2_about_185 : decode cX2_about 185 = .ok (.iload_n 1, 1) := by decide +kernel
theorem dX2_about_186 : decode cX2_about 186 = .ok (.invokevirtual 102, 3) := by decide +kernel
theorem dX2_about_189 : decode cX2_about 189 = .ok (.invokevirtual 111, 3) := by decide +kernel
theorem dX2_about_192 : decode cX2_about 192 = .ok (.goto 4, 3) := by decide +kernel
theorem dX2_about_195 : decode cX2_about 195 = .ok (.iconst 0, 1) := by decide +kernel
theorem dX2_about_196 : decode cX2_about 196 = .ok (.ireturn, 1) := by decide +kernel
theorem dX2_about_197 : decode cX2_about 197 = .ok (.bipush (-102), 2) := by decide +kernel
theorem dX2_about_199 : decode cX2_about 199 = .ok (.ireturn, 1) := by decide +kernel
set_option maxRecDepth 20000 in
theorem ggX2_as_X1_hasHolder : GoodIn wsX2_as wsX1_hasHolder := goodIn_r _ [7, 8, 24, 25, 26, 27, 28, 29, 30, 31, 32, 33, 34, 35, 36, 37, 38, 39, 40] (by decide +kernel) (by decide +kernel)
set_option maxRecDepth 20000 in
theorem gX2_as_X1_hasHolder : GoodIn wsX2_as (wsV RX2 82 RX1 yX1_hasHolder wsX1_hasHolder) := goodIn_app (goodIn_of _ (by decide +kernel)) ggX2_as_X1_hasHolder
set_option maxRecDepth 20000 in
theorem ggX2_as_X2_within : GoodIn wsX2_as wsX2_within := goodIn_r _ [12] (by decide +kernel) (by decide +kernel)
set_option maxRecDepth 20000 in
theorem gX2_as_X2_within : GoodIn wsX2_as (va_wsS RX2 44 yX2_within wsX2_within) := goodIn_app (goodIn_of _ (by decide +kernel)) ggX2_as_X2_within
set_option maxRecDepth 20000 in
theorem ggX2_as_X2_isSuch : GoodIn wsX2_as wsX2_isSuch := goodIn_r _ [15] (by decide +kernel) (by decide +kernel)
set_option maxRecDepth 20000 in
theorem gX2_as_X2_isSuch : GoodIn wsX2_as (va_wsS RX2 114 yX2_isSuch wsX2_isSuch) := goodIn_app (goodIn_of _ (by decide +kernel)) ggX2_as_X2_isSuch
theorem dX2_as_0 : decode cX2_as 0 = .ok (.aload_n 0, 1) := by decide +kernel
theorem dX2_as_1 : decode cX2_as 1 = .ok (.getfield 10, 3) := by decide +kernel
theorem dX2_as_4 : decode cX2_as 4 = .ok (.iload_n 1, 1) := by decide +kernel
theorem dX2_as_5 : decode cX2_as 5 = .ok (.invokevirtual 82, 3) := by decide +kernel
theorem dX2_as_8 : decode cX2_as 8 = .ok (.ifCond .ne 6, 3) := by decide +kernel
theorem dX2_as_11 : decode cX2_as 11 = .ok (.bipush (-101), 2) := by decide +kernel
theorem dX2_as_13 : decode cX2_as 13 = .ok (.ireturn, 1) := by decide +kernel
theorem dX2_as_14 : decode cX2_as 14 = .ok (.iload_n 2, 1) := by decide +kernel
theorem dX2_as_15 : decode cX2_as 15 = .ok (.iconst 0, 1) := by decide +kernel
theorem dX2_as_16 : decode cX2_as 16 = .ok (.iconst 4, 1) := by decide +kernel
theorem dX2_as_17 : decode cX2_as 17 = .ok (.invokestatic 44, 3) := by decide +kernel
theorem dX2_as_20 : decode cX2_as 20 = .ok (.ifCond .ne 6, 3) := by decide +kernel
theorem dX2_as_23 : decode cX2_as 23 = .ok (.bipush (-102), 2) := by decide +kernel
theorem dX2_as_25 : decode cX2_as 25 = .ok (.ireturn, 1) := by decide +kernel
theorem dX2_as_26 : decode cX2_as 26 = .ok (.aload_n 0, 1) := by decide +kernel
theorem dX2_as_27 : decode cX2_as 27 = .ok (.getfield 10, 3) := by decide +kernel
theorem dX2_as_30 : decode cX2_as 30 = .ok (.getfield 85, 3) := by decide +kernel
theorem dX2_as_33 : decode cX2_as 33 = .ok (.iload_n 1, 1) := by decide +kernel
theorem dX2_as_34 : decode cX2_as 34 = .ok (.iaload, 1) := by decide +kernel
theorem dX2_as_35 : decode cX2_as 35 = .ok (.iload_n 2, 1) := by decide +kernel
theorem dX2_as_36 : decode cX2_as 36 = .ok (.invokestatic 114, 3) := by decide +kernel
theorem dX2_as_39 : decode cX2_as 39 = .ok (.ifCond .eq 7, 3) := by decide +kernel
theorem dX2_as_42 : decode cX2_as 42 = .ok (.iload_n 1, 1) := by decide +kernel
theorem dX2_as_43 : decode cX2_as 43 = .ok (.goto 4, 3) := by decide +kernel
theorem dX2_as_46 : decode cX2_as 46 = .ok (.iconst (-1), 1) := by decide +kernel
theorem dX2_as_47 : decode cX2_as 47 = .ok (.ireturn, 1) := by decide +kernel
set_option maxRecDepth 20000 in
theorem ggX2_heir_X1_hasHolder : GoodIn wsX2_heir wsX1_hasHolder := goodIn_r _ [7, 8, 17, 18, 19, 20, 21, 22, 23, 24, 25, 26, 27, 28, 29, 30, 31, 32, 33] (by decide +kernel) (by decide +kernel)
set_option maxRecDepth 20000 in
theorem gX2_heir_X1_hasHolder : GoodIn wsX2_heir (wsV RX2 82 RX1 yX1_hasHolder wsX1_hasHolder) := goodIn_app (goodIn_of _ (by decide +kernel)) ggX2_heir_X1_hasHolder
theorem dX2_heir_0 : decode cX2_heir 0 = .ok (.aload_n 0, 1) := by decide +kernel
theorem dX2_heir_1 : decode cX2_heir 1 = .ok (.getfield 10, 3) := by decide +kernel
theorem dX2_heir_4 : decode cX2_heir 4 = .ok (.iload_n 1, 1) := by decide +kernel
theorem dX2_heir_5 : decode cX2_heir 5 = .ok (.invokevirtual 82, 3) := by decide +kernel
theorem dX2_heir_8 : decode cX2_heir 8 = .ok (.ifCond .eq 24, 3) := by decide +kernel
theorem dX2_heir_11 : decode cX2_heir 11 = .ok (.iload_n 2, 1) := by decide +kernel
theorem dX2_heir_12 : decode cX2_heir 12 = .ok (.iload_n 1, 1) := by decide +kernel
theorem dX2_heir_13 : decode cX2_heir 13 = .ok (.if_icmp .eq 19, 3) := by decide +kernel
theorem dX2_heir_16 : decode cX2_heir 16 = .ok (.iload_n 2, 1) := by decide +kernel
theorem dX2_heir_17 : decode cX2_heir 17 = .ok (.iconst (-1), 1) := by decide +kernel
theorem dX2_heir_18 : decode cX2_heir 18 = .ok (.if_icmp .eq 17, 3) := by decide +kernel
theorem dX2_heir_21 : decode cX2_heir 21 = .ok (.aload_n 0, 1) := by decide +kernel
theorem dX2_heir_22 : decode cX2_heir 22 = .ok (.getfield 10, 3) := by decide +kernel
theorem dX2_heir_25 : decode cX2_heir 25 = .ok (.iload_n 2, 1) := by decide +kernel
theorem dX2_heir_26 : decode cX2_heir 26 = .ok (.invokevirtual 82, 3) := by decide +kernel
theorem dX2_heir_29 : decode cX2_heir 29 = .ok (.ifCond .ne 6, 3) := by decide +kernel
theorem dX2_heir_32 : decode cX2_heir 32 = .ok (.bipush (-101), 2) := by decide +kernel
theorem dX2_heir_34 : decode cX2_heir 34 = .ok (.ireturn, 1) := by decide +kernel
theorem dX2_heir_35 : decode cX2_heir 35 = .ok (.aload_n 0, 1) := by decide +kernel
theorem dX2_heir_36 : decode cX2_heir 36 = .ok (.getfield 10, 3) := by decide +kernel
theorem dX2_heir_39 : decode cX2_heir 39 = .ok (.getfield 95, 3) := by decide +kernel
theorem dX2_heir_42 : decode cX2_heir 42 = .ok (.iload_n 1, 1) := by decide +kernel
theorem dX2_heir_43 : decode cX2_heir 43 = .ok (.iaload, 1) := by decide +kernel
theorem dX2_heir_44 : decode cX2_heir 44 = .ok (.istore_n 3, 1) := by decide +kernel
theorem dX2_heir_45 : decode cX2_heir 45 = .ok (.aload_n 0, 1) := by decide +kernel
theorem dX2_heir_46 : decode cX2_heir 46 = .ok (.getfield 10, 3) := by decide +kernel
theorem dX2_heir_49 : decode cX2_heir 49 = .ok (.getfield 95, 3) := by decide +kernel
theorem dX2_heir_52 : decode cX2_heir 52 = .ok (.iload_n 1, 1) := by decide +kernel
theorem dX2_heir_53 : decode cX2_heir 53 = .ok (.iload_n 2, 1) := by decide +kernel
theorem dX2_heir_54 : decode cX2_heir 54 = .ok (.iastore, 1) := by decide +kernel
theorem dX2_heir_55 : decode cX2_heir 55 = .ok (.iload_n 3, 1) := by decide +kernel
theorem dX2_heir_56 : decode cX2_heir 56 = .ok (.ireturn, 1) := by decide +kernel
theorem dX2_isSuch_0 : decode cX2_isSuch 0 = .ok (.iload_n 1, 1) := by decide +kernel
theorem dX2_isSuch_1 : decode cX2_isSuch 1 = .ok (.ifCond .eq 18, 3) := by decide +kernel
theorem dX2_isSuch_4 : decode cX2_isSuch 4 = .ok (.iload_n 1, 1) := by decide +kernel
theorem dX2_isSuch_5 : decode cX2_isSuch 5 = .ok (.iload_n 0, 1) := by decide +kernel
theorem dX2_isSuch_6 : decode cX2_isSuch 6 = .ok (.if_icmp .eq 13, 3) := by decide +kernel
theorem dX2_isSuch_9 : decode cX2_isSuch 9 = .ok (.iload_n 1, 1) := by decide +kernel
theorem dX2_isSuch_10 : decode cX2_isSuch 10 = .ok (.iconst 3, 1) := by decide +kernel
theorem dX2_isSuch_11 : decode cX2_isSuch 11 = .ok (.if_icmp .ne 12, 3) := by decide +kernel
theorem dX2_isSuch_14 : decode cX2_isSuch 14 = .ok (.iload_n 0, 1) := by decide +kernel
theorem dX2_isSuch_15 : decode cX2_isSuch 15 = .ok (.iconst 4, 1) := by decide +kernel
theorem dX2_isSuch_16 : decode cX2_isSuch 16 = .ok (.if_icmp .ne 7, 3) := by decide +kernel
theorem dX2_isSuch_19 : decode cX2_isSuch 19 = .ok (.iconst 1, 1) := by decide +kernel
theorem dX2_isSuch_20 : decode cX2_isSuch 20 = .ok (.goto 4, 3) := by decide +kernel
theorem dX2_isSuch_23 : decode cX2_isSuch 23 = .ok (.iconst 0, 1) := by decide +kernel
theorem dX2_isSuch_24 : decode cX2_isSuch 24 = .ok (.ireturn, 1) := by decide +kernel
set_option maxRecDepth 20000 in
theorem ggX2_beast_X1_hasHolder : GoodIn wsX2_beast wsX1_hasHolder := goodIn_r _ [8, 9, 40, 41, 42, 43, 44, 45, 46, 47, 48, 49, 50, 51, 52, 53, 54, 55, 56] (by decide +kernel) (by decide +kernel)
set_option maxRecDepth 20000 in
theorem gX2_beast_X1_hasHolder : GoodIn wsX2_beast (wsV RX2 82 RX1 yX1_hasHolder wsX1_hasHolder) := goodIn_app (goodIn_of _ (by decide +kernel)) ggX2_beast_X1_hasHolder
set_option maxRecDepth 20000 in
theorem ggX2_beast_X2_within : GoodIn wsX2_beast wsX2_within := goodIn_r _ [13] (by decide +kernel) (by decide +kernel)
set_option maxRecDepth 20000 in
theorem gX2_beast_X2_within : GoodIn wsX2_beast (va_wsS RX2 44 yX2_within wsX2_within) := goodIn_app (goodIn_of _ (by decide +kernel)) ggX2_beast_X2_within
set_option maxRecDepth 20000 in
theorem ggX2_beast_X1_addBeast : GoodIn wsX2_beast wsX1_addBeast := goodIn_r _ [17, 18, 19, 20, 21, 22, 23, 7, 24, 25, 26, 27, 28, 29, 30, 31, 40, 41, 42, 43, 44, 45, 46, 47, 48, 49, 50, 51, 52, 53, 54, 55, 56] (by decide +kernel) (by decide +kernel)
set_option maxRecDepth 20000 in
theorem gX2_beast_X1_addBeast : GoodIn wsX2_beast (wsV RX2 121 RX1 yX1_addBeast wsX1_addBeast) := goodIn_app (goodIn_of _ (by decide +kernel)) ggX2_beast_X1_addBeast
theorem dX2_beast_0 : decode cX2_beast 0 = .ok (.aload_n 0, 1) := by decide +kernel
theorem dX2_beast_1 : decode cX2_beast 1 = .ok (.getfield 10, 3) := by decide +kernel
theorem dX2_beast_4 : decode cX2_beast 4 = .ok (.iload_n 1, 1) := by decide +kernel
theorem dX2_beast_5 : decode cX2_beast 5 = .ok (.invokevirtual 82, 3) := by decide +kernel
theorem dX2_beast_8 : decode cX2_beast 8 = .ok (.ifCond .ne 6, 3) := by decide +kernel
theorem dX2_beast_11 : decode cX2_beast 11 = .ok (.bipush (-101), 2) := by decide +kernel
theorem dX2_beast_13 : decode cX2_beast 13 = .ok (.ireturn, 1) := by decide +kernel
theorem dX2_beast_14 : decode cX2_beast 14 = .ok (.iload_n 2, 1) := by decide +kernel
theorem dX2_beast_15 : decode cX2_beast 15 = .ok (.iconst 1, 1) := by decide +kernel
theorem dX2_beast_16 : decode cX2_beast 16 = .ok (.bipush 99, 2) := by decide +kernel
theorem dX2_beast_18 : decode cX2_beast 18 = .ok (.invokestatic 44, 3) := by decide +kernel
theorem dX2_beast_21 : decode cX2_beast 21 = .ok (.ifCond .ne 6, 3) := by decide +kernel
theorem dX2_beast_24 : decode cX2_beast 24 = .ok (.bipush (-102), 2) := by decide +kernel
theorem dX2_beast_26 : decode cX2_beast 26 = .ok (.ireturn, 1) := by decide +kernel
theorem dX2_beast_27 : decode cX2_beast 27 = .ok (.aload_n 0, 1) := by decide +kernel
theorem dX2_beast_28 : decode cX2_beast 28 = .ok (.getfield 10, 3) := by decide +kernel
theorem dX2_beast_31 : decode cX2_beast 31 = .ok (.getfield 91, 3) := by decide +kernel
theorem dX2_beast_34 : decode cX2_beast 34 = .ok (.iload_n 1, 1) := by decide +kernel
theorem dX2_beast_35 : decode cX2_beast 35 = .ok (.baload, 1) := by decide +kernel
theorem dX2_beast_36 : decode cX2_beast 36 = .ok (.ifCond .ne 6, 3) := by decide +kernel
theorem dX2_beast_39 : decode cX2_beast 39 = .ok (.bipush (-103), 2) := by decide +kernel
theorem dX2_beast_41 : decode cX2_beast 41 = .ok (.ireturn, 1) := by decide +kernel
theorem dX2_beast_42 : decode cX2_beast 42 = .ok (.aload_n 0, 1) := by decide +kernel
theorem dX2_beast_43 : decode cX2_beast 43 = .ok (.getfield 10, 3) := by decide +kernel
theorem dX2_beast_46 : decode cX2_beast 46 = .ok (.getfield 118, 3) := by decide +kernel
theorem dX2_beast_49 : decode cX2_beast 49 = .ok (.bipush 6, 2) := by decide +kernel
theorem dX2_beast_51 : decode cX2_beast 51 = .ok (.if_icmp .lt 6, 3) := by decide +kernel
theorem dX2_beast_54 : decode cX2_beast 54 = .ok (.bipush (-104), 2) := by decide +kernel
theorem dX2_beast_56 : decode cX2_beast 56 = .ok (.ireturn, 1) := by decide +kernel
theorem dX2_beast_57 : decode cX2_beast 57 = .ok (.aload_n 0, 1) := by decide +kernel
theorem dX2_beast_58 : decode cX2_beast 58 = .ok (.getfield 10, 3) := by decide +kernel
theorem dX2_beast_61 : decode cX2_beast 61 = .ok (.iload_n 1, 1) := by decide +kernel
theorem dX2_beast_62 : decode cX2_beast 62 = .ok (.iload_n 2, 1) := by decide +kernel
theorem dX2_beast_63 : decode cX2_beast 63 = .ok (.invokevirtual 121, 3) := by decide +kernel
theorem dX2_beast_66 : decode cX2_beast 66 = .ok (.ireturn, 1) := by decide +kernel
set_option maxRecDepth 20000 in
theorem ggX2_beastOf_X1_hasBeast : GoodIn wsX2_beastOf wsX1_hasBeast := goodIn_r _ [11, 12, 21, 22, 23, 24, 25, 26, 27, 28, 29, 30, 31, 32, 33, 34, 35, 36, 37] (by decide +kernel) (by decide +kernel)
set_option maxRecDepth 20000 in
theorem gX2_beastOf_X1_hasBeast : GoodIn wsX2_beastOf (wsV RX2 124 RX1 yX1_hasBeast wsX1_hasBeast) := goodIn_app (goodIn_of _ (by decide +kernel)) ggX2_beastOf_X1_hasBeast
theorem dX2_beastOf_0 : decode cX2_beastOf 0 = .ok (.aload_n 0, 1) := by decide +kernel
theorem dX2_beastOf_1 : decode cX2_beastOf 1 = .ok (.getfield 10, 3) := by decide +kernel
theorem dX2_beastOf_4 : decode cX2_beastOf 4 = .ok (.iload_n 1, 1) := by decide +kernel
theorem dX2_beastOf_5 : decode cX2_beastOf 5 = .ok (.invokevirtual 124, 3) := by decide +kernel
theorem dX2_beastOf_8 : decode cX2_beastOf 8 = .ok (.ifCond .ne 6, 3) := by decide +kernel
theorem dX2_beastOf_11 : decode cX2_beastOf 11 = .ok (.bipush (-101), 2) := by decide +kernel
theorem dX2_beastOf_13 : decode cX2_beastOf 13 = .ok (.ireturn, 1) := by decide +kernel
theorem dX2_beastOf_14 : decode cX2_beastOf 14 = .ok (.iload_n 2, 1) := by decide +kernel
theorem dX2_beastOf_15 : decode cX2_beastOf 15 = .ok (.tableswitch 83 0 4 #[33, 43, 53, 63, 73], 33) := by decide +kernel
theorem dX2_beastOf_48 : decode cX2_beastOf 48 = .ok (.aload_n 0, 1) := by decide +kernel
theorem dX2_beastOf_49 : decode cX2_beastOf 49 = .ok (.getfield 10, 3) := by decide +kernel
theorem dX2_beastOf_52 : decode cX2_beastOf 52 = .ok (.getfield 127, 3) := by decide +kernel
theorem dX2_beastOf_55 : decode cX2_beastOf 55 = .ok (.iload_n 1, 1) := by decide +kernel
theorem dX2_beastOf_56 : decode cX2_beastOf 56 = .ok (.iaload, 1) := by decide +kernel
theorem dX2_beastOf_57 : decode cX2_beastOf 57 = .ok (.ireturn, 1) := by decide +kernel
theorem dX2_beastOf_58 : decode cX2_beastOf 58 = .ok (.aload_n 0, 1) := by decide +kernel
theorem dX2_beastOf_59 : decode cX2_beastOf 59 = .ok (.getfield 10, 3) := by decide +kernel
theorem dX2_beastOf_62 : decode cX2_beastOf 62 = .ok (.getfield 130, 3) := by decide +kernel
theorem dX2_beastOf_65 : decode cX2_beastOf 65 = .ok (.iload_n 1, 1) := by decide +kernel
theorem dX2_beastOf_66 : decode cX2_beastOf 66 = .ok (.iaload, 1) := by decide +kernel
theorem dX2_beastOf_67 : decode cX2_beastOf 67 = .ok (.ireturn, 1) := by decide +kernel
theorem dX2_beastOf_68 : decode cX2_beastOf 68 = .ok (.aload_n 0, 1) := by decide +kernel
theorem dX2_beastOf_69 : decode cX2_beastOf 69 = .ok (.getfield 10, 3) := by decide +kernel
theorem dX2_beastOf_72 : decode cX2_beastOf 72 = .ok (.getfield 133, 3) := by decide +kernel
theorem dX2_beastOf_75 : decode cX2_beastOf 75 = .ok (.iload_n 1, 1) := by decide +kernel
theorem dX2_beastOf_76 : decode cX2_beastOf 76 = .ok (.iaload, 1) := by decide +kernel
theorem dX2_beastOf_77 : decode cX2_beastOf 77 = .ok (.ireturn, 1) := by decide +kernel
theorem dX2_beastOf_78 : decode cX2_beastOf 78 = .ok (.aload_n 0, 1) := by decide +kernel
theorem dX2_beastOf_79 : decode cX2_beastOf 79 = .ok (.getfield 10, 3) := by decide +kernel
theorem dX2_beastOf_82 : decode cX2_beastOf 82 = .ok (.getfield 136, 3) := by decide +kernel
theorem dX2_beastOf_85 : decode cX2_beastOf 85 = .ok (.iload_n 1, 1) := by decide +kernel
theorem dX2_beastOf_86 : decode cX2_beastOf 86 = .ok (.iaload, 1) := by decide +kernel
theorem dX2_beastOf_87 : decode cX2_beastOf 87 = .ok (.ireturn, 1) := by decide +kernel
theorem dX2_beastOf_88 : decode cX2_beastOf 88 = .ok (.aload_n 0, 1) := by decide +kernel
theorem dX2_beastOf_89 : decode cX2_beastOf 89 = .ok (.getfield 10, 3) := by decide +kernel
theorem dX2_beastOf_92 : decode cX2_beastOf 92 = .ok (.getfield 139, 3) := by decide +kernel
theorem dX2_beastOf_95 : decode cX2_beastOf 95 = .ok (.iload_n 1, 1) := by decide +kernel
theorem dX2_beastOf_96 : decode cX2_beastOf 96 = .ok (.iaload, 1) := by decide +kernel
theorem dX2_beastOf_97 : decode cX2_beastOf 97 = .ok (.ireturn, 1) := by decide +kernel
theorem dX2_beastOf_98 : decode cX2_beastOf 98 = .ok (.bipush (-102), 2) := by decide +kernel
theorem dX2_beastOf_100 : decode cX2_beastOf 100 = .ok (.ireturn, 1) := by decide +kernel
set_option maxRecDepth 20000 in
theorem ggX2_give_X1_hasBeast : GoodIn wsX2_give wsX1_hasBeast := goodIn_r _ [7, 8, 42, 43, 44, 45, 46, 47, 48, 49, 50, 51, 52, 53, 54, 55, 56, 57, 58] (by decide +kernel) (by decide +kernel)
set_option maxRecDepth 20000 in
theorem gX2_give_X1_hasBeast : GoodIn wsX2_give (wsV RX2 124 RX1 yX1_hasBeast wsX1_hasBeast) := goodIn_app (goodIn_of _ (by decide +kernel)) ggX2_give_X1_hasBeast
set_option maxRecDepth 20000 in
theorem ggX2_give_X1_hasHolder : GoodIn wsX2_give wsX1_hasHolder := goodIn_r _ [12, 13, 42, 43, 44, 45, 46, 47, 48, 49, 50, 51, 52, 53, 54, 55, 56, 57, 58] (by decide +kernel) (by decide +kernel)
set_option maxRecDepth 20000 in
theorem gX2_give_X1_hasHolder : GoodIn wsX2_give (wsV RX2 82 RX1 yX1_hasHolder wsX1_hasHolder) := goodIn_app (goodIn_of _ (by decide +kernel)) ggX2_give_X1_hasHolder
set_option maxRecDepth 20000 in
theorem ggX2_give_X1_mayGive : GoodIn wsX2_give wsX1_mayGive := goodIn_r _ [17, 18, 19, 4, 5, 6, 7, 8, 20, 21, 22, 23, 24, 25, 10, 11, 12, 13, 42, 43, 44, 45, 46, 47, 48, 49, 50, 51, 52, 53, 54, 55, 56, 57, 58] (by decide +kernel) (by decide +kernel)
set_option maxRecDepth 20000 in
theorem gX2_give_X1_mayGive : GoodIn wsX2_give (wsV RX2 142 RX1 yX1_mayGive wsX1_mayGive) := goodIn_app (goodIn_of _ (by decide +kernel)) ggX2_give_X1_mayGive
set_option maxRecDepth 20000 in
theorem ggX2_give_X1_makeGift : GoodIn wsX2_give wsX1_makeGift := goodIn_r _ [29, 30, 18, 31, 32, 33, 15, 16, 6, 17, 19, 4, 5, 7, 8, 20, 21, 22, 23, 24, 25, 10, 11, 12, 13, 42, 43, 44, 45, 46, 47, 48, 49, 50, 51, 52, 53, 54, 55, 56, 57, 58] (by decide +kernel) (by decide +kernel)
set_option maxRecDepth 20000 in
theorem gX2_give_X1_makeGift : GoodIn wsX2_give (wsV RX2 145 RX1 yX1_makeGift wsX1_makeGift) := goodIn_app (goodIn_of _ (by decide +kernel)) ggX2_give_X1_makeGift
theorem dX2_give_0 : decode cX2_give 0 = .ok (.aload_n 0, 1) := by decide +kernel
theorem dX2_give_1 : decode cX2_give 1 = .ok (.getfield 10, 3) := by decide +kernel
theorem dX2_give_4 : decode cX2_give 4 = .ok (.iload_n 1, 1) := by decide +kernel
theorem dX2_give_5 : decode cX2_give 5 = .ok (.invokevirtual 124, 3) := by decide +kernel
theorem dX2_give_8 : decode cX2_give 8 = .ok (.ifCond .eq 14, 3) := by decide +kernel
theorem dX2_give_11 : decode cX2_give 11 = .ok (.aload_n 0, 1) := by decide +kernel
theorem dX2_give_12 : decode cX2_give 12 = .ok (.getfield 10, 3) := by decide +kernel
theorem dX2_give_15 : decode cX2_give 15 = .ok (.iload_n 2, 1) := by decide +kernel
theorem dX2_give_16 : decode cX2_give 16 = .ok (.invokevirtual 82, 3) := by decide +kernel
theorem dX2_give_19 : decode cX2_give 19 = .ok (.ifCond .ne 6, 3) := by decide +kernel
theorem dX2_give_22 : decode cX2_give 22 = .ok (.bipush (-101), 2) := by decide +kernel
theorem dX2_give_24 : decode cX2_give 24 = .ok (.ireturn, 1) := by decide +kernel
theorem dX2_give_25 : decode cX2_give 25 = .ok (.aload_n 0, 1) := by decide +kernel
theorem dX2_give_26 : decode cX2_give 26 = .ok (.getfield 10, 3) := by decide +kernel
theorem dX2_give_29 : decode cX2_give 29 = .ok (.iload_n 1, 1) := by decide +kernel
theorem dX2_give_30 : decode cX2_give 30 = .ok (.iload_n 2, 1) := by decide +kernel
theorem dX2_give_31 : decode cX2_give 31 = .ok (.invokevirtual 142, 3) := by decide +kernel
theorem dX2_give_34 : decode cX2_give 34 = .ok (.ifCond .ne 6, 3) := by decide +kernel
theorem dX2_give_37 : decode cX2_give 37 = .ok (.bipush (-103), 2) := by decide +kernel
theorem dX2_give_39 : decode cX2_give 39 = .ok (.ireturn, 1) := by decide +kernel
theorem dX2_give_40 : decode cX2_give 40 = .ok (.aload_n 0, 1) := by decide +kernel
theorem dX2_give_41 : decode cX2_give 41 = .ok (.getfield 10, 3) := by decide +kernel
theorem dX2_give_44 : decode cX2_give 44 = .ok (.getfield 130, 3) := by decide +kernel
theorem dX2_give_47 : decode cX2_give 47 = .ok (.iload_n 1, 1) := by decide +kernel
theorem dX2_give_48 : decode cX2_give 48 = .ok (.iaload, 1) := by decide +kernel
theorem dX2_give_49 : decode cX2_give 49 = .ok (.istore_n 3, 1) := by decide +kernel
theorem dX2_give_50 : decode cX2_give 50 = .ok (.aload_n 0, 1) := by decide +kernel
theorem dX2_give_51 : decode cX2_give 51 = .ok (.getfield 10, 3) := by decide +kernel
theorem dX2_give_54 : decode cX2_give 54 = .ok (.iload_n 1, 1) := by decide +kernel
theorem dX2_give_55 : decode cX2_give 55 = .ok (.iload_n 2, 1) := by decide +kernel
theorem dX2_give_56 : decode cX2_give 56 = .ok (.invokevirtual 145, 3) := by decide +kernel
theorem dX2_give_59 : decode cX2_give 59 = .ok (.iload_n 3, 1) := by decide +kernel
theorem dX2_give_60 : decode cX2_give 60 = .ok (.ireturn, 1) := by decide +kernel
set_option maxRecDepth 20000 in
theorem ggX2_die_X1_hasHolder : GoodIn wsX2_die wsX1_hasHolder := goodIn_r _ [7, 8, 84, 85, 86, 87, 88, 89, 90, 91, 92, 93, 94, 95, 96, 97, 98, 99, 100] (by decide +kernel) (by decide +kernel)
set_option maxRecDepth 20000 in
theorem gX2_die_X1_hasHolder : GoodIn wsX2_die (wsV RX2 82 RX1 yX1_hasHolder wsX1_hasHolder) := goodIn_app (goodIn_of _ (by decide +kernel)) ggX2_die_X1_hasHolder
set_option maxRecDepth 20000 in
theorem ggX2_die_X1_bury : GoodIn wsX2_die wsX1_bury := goodIn_r _ [12, 13, 14, 15, 16, 17, 18, 19, 20, 6, 21, 22, 4, 5, 7, 8, 23, 24, 25, 26, 27, 28, 29, 30, 31, 32, 33, 34, 35, 36, 37, 38, 39, 40, 41, 42, 43, 44, 45, 46, 47, 48, 49, 50, 51, 52, 53, 54, 55, 56, 57, 58, 59, 60, 61, 62, 63, 64, 65, 66, 67, 68, 69, 70, 71, 72, 73, 74, 75, 84, 85, 86, 87, 88, 89, 90, 91, 92, 93, 94, 95, 96, 97, 98, 99, 100] (by decide +kernel) (by decide +kernel)
set_option maxRecDepth 20000 in
theorem gX2_die_X1_bury : GoodIn wsX2_die (wsV RX2 149 RX1 yX1_bury wsX1_bury) := goodIn_app (goodIn_of _ (by decide +kernel)) ggX2_die_X1_bury
theorem dX2_die_0 : decode cX2_die 0 = .ok (.aload_n 0, 1) := by decide +kernel
theorem dX2_die_1 : decode cX2_die 1 = .ok (.getfield 10, 3) := by decide +kernel
theorem dX2_die_4 : decode cX2_die 4 = .ok (.iload_n 1, 1) := by decide +kernel
theorem dX2_die_5 : decode cX2_die 5 = .ok (.invokevirtual 82, 3) := by decide +kernel
theorem dX2_die_8 : decode cX2_die 8 = .ok (.ifCond .ne 6, 3) := by decide +kernel
theorem dX2_die_11 : decode cX2_die 11 = .ok (.bipush (-101), 2) := by decide +kernel
theorem dX2_die_13 : decode cX2_die 13 = .ok (.ireturn, 1) := by decide +kernel
theorem dX2_die_14 : decode cX2_die 14 = .ok (.aload_n 0, 1) := by decide +kernel
theorem dX2_die_15 : decode cX2_die 15 = .ok (.getfield 10, 3) := by decide +kernel
theorem dX2_die_18 : decode cX2_die 18 = .ok (.getfield 91, 3) := by decide +kernel
theorem dX2_die_21 : decode cX2_die 21 = .ok (.iload_n 1, 1) := by decide +kernel
theorem dX2_die_22 : decode cX2_die 22 = .ok (.baload, 1) := by decide +kernel
theorem dX2_die_23 : decode cX2_die 23 = .ok (.ifCond .ne 6, 3) := by decide +kernel
theorem dX2_die_26 : decode cX2_die 26 = .ok (.bipush (-103), 2) := by decide +kernel
theorem dX2_die_28 : decode cX2_die 28 = .ok (.ireturn, 1) := by decide +kernel
theorem dX2_die_29 : decode cX2_die 29 = .ok (.aload_n 0, 1) := by decide +kernel
theorem dX2_die_30 : decode cX2_die 30 = .ok (.getfield 10, 3) := by decide +kernel
theorem dX2_die_33 : decode cX2_die 33 = .ok (.iload_n 1, 1) := by decide +kernel
theorem dX2_die_34 : decode cX2_die 34 = .ok (.invokevirtual 149, 3) := by decide +kernel
theorem dX2_die_37 : decode cX2_die 37 = .ok (.ireturn, 1) := by decide +kernel
theorem dX2_year_0 : decode cX2_year 0 = .ok (.aload_n 0, 1) := by decide +kernel
theorem dX2_year_1 : decode cX2_year 1 = .ok (.getfield 10, 3) := by decide +kernel
theorem dX2_year_4 : decode cX2_year 4 = .ok (.dup, 1) := by decide +kernel
theorem dX2_year_5 : decode cX2_year 5 = .ok (.getfield 152, 3) := by decide +kernel
theorem dX2_year_8 : decode cX2_year 8 = .ok (.iconst 1, 1) := by decide +kernel
theorem dX2_year_9 : decode cX2_year 9 = .ok (.iadd, 1) := by decide +kernel
theorem dX2_year_10 : decode cX2_year 10 = .ok (.putfield 152, 3) := by decide +kernel
theorem dX2_year_13 : decode cX2_year 13 = .ok (.aload_n 0, 1) := by decide +kernel
theorem dX2_year_14 : decode cX2_year 14 = .ok (.getfield 10, 3) := by decide +kernel
theorem dX2_year_17 : decode cX2_year 17 = .ok (.getfield 152, 3) := by decide +kernel
theorem dX2_year_20 : decode cX2_year 20 = .ok (.ireturn, 1) := by decide +kernel
set_option maxRecDepth 20000 in
theorem ggX2_safe_X1_hasHolder : GoodIn wsX2_safe wsX1_hasHolder := goodIn_r _ [7, 8, 81, 82, 83, 84, 85, 86, 87, 88, 89, 90, 91, 92, 93, 94, 95, 96, 97] (by decide +kernel) (by decide +kernel)
set_option maxRecDepth 20000 in
theorem gX2_safe_X1_hasHolder : GoodIn wsX2_safe (wsV RX2 82 RX1 yX1_hasHolder wsX1_hasHolder) := goodIn_app (goodIn_of _ (by decide +kernel)) ggX2_safe_X1_hasHolder
set_option maxRecDepth 20000 in
theorem ggX2_safe_X2_within : GoodIn wsX2_safe wsX2_within := goodIn_r _ [12] (by decide +kernel) (by decide +kernel)
set_option maxRecDepth 20000 in
theorem gX2_safe_X2_within : GoodIn wsX2_safe (va_wsS RX2 44 yX2_within wsX2_within) := goodIn_app (goodIn_of _ (by decide +kernel)) ggX2_safe_X2_within
set_option maxRecDepth 20000 in
theorem ggX2_safe_X1_fewestToBeSafe : GoodIn wsX2_safe wsX1_fewestToBeSafe := goodIn_r _ [16, 17, 18, 19, 6, 20, 21, 22, 23, 24, 25, 26, 27, 28, 29, 30, 31, 32, 33, 34, 35, 36, 37, 38, 39, 40, 41, 42, 43, 44, 4, 5, 7, 8, 45, 46, 47, 48, 49, 50, 51, 52, 53, 54, 55, 56, 57, 58, 59, 60, 61, 62, 63, 64, 65, 66, 67, 68, 69, 70, 71, 81, 82, 83, 84, 85, 86, 87, 88, 89, 90, 91, 92, 93, 94, 95, 96, 97] (by decide +kernel) (by decide +kernel)
set_option maxRecDepth 20000 in
theorem gX2_safe_X1_fewestToBeSafe : GoodIn wsX2_safe (wsV RX2 155 RX1 yX1_fewestToBeSafe wsX1_fewestToBeSafe) := goodIn_app (goodIn_of _ (by decide +kernel)) ggX2_safe_X1_fewestToBeSafe
set_option maxRecDepth 20000 in
theorem ggX2_safe_J6_bitCount_0f7a4 : GoodIn wsX2_safe wsJ6_bitCount_0f7a4 := goodIn_r _ [68, 69, 70, 71] (by decide +kernel) (by decide +kernel)
set_option maxRecDepth 20000 in
theorem gX2_safe_J6_bitCount_0f7a4 : GoodIn wsX2_safe (va_wsS RX2 158 yJ6_bitCount_0f7a4 wsJ6_bitCount_0f7a4) := goodIn_app (goodIn_of _ (by decide +kernel)) ggX2_safe_J6_bitCount_0f7a4
theorem dX2_safe_0 : decode cX2_safe 0 = .ok (.aload_n 0, 1) := by decide +kernel
theorem dX2_safe_1 : decode cX2_safe 1 = .ok (.getfield 10, 3) := by decide +kernel
theorem dX2_safe_4 : decode cX2_safe 4 = .ok (.iload_n 1, 1) := by decide +kernel
theorem dX2_safe_5 : decode cX2_safe 5 = .ok (.invokevirtual 82, 3) := by decide +kernel
theorem dX2_safe_8 : decode cX2_safe 8 = .ok (.ifCond .ne 6, 3) := by decide +kernel
theorem dX2_safe_11 : decode cX2_safe 11 = .ok (.bipush (-101), 2) := by decide +kernel
theorem dX2_safe_13 : decode cX2_safe 13 = .ok (.ireturn, 1) := by decide +kernel
theorem dX2_safe_14 : decode cX2_safe 14 = .ok (.iload_n 2, 1) := by decide +kernel
theorem dX2_safe_15 : decode cX2_safe 15 = .ok (.iconst 0, 1) := by decide +kernel
theorem dX2_safe_16 : decode cX2_safe 16 = .ok (.iconst 1, 1) := by decide +kernel
theorem dX2_safe_17 : decode cX2_safe 17 = .ok (.invokestatic 44, 3) := by decide +kernel
theorem dX2_safe_20 : decode cX2_safe 20 = .ok (.ifCond .ne 6, 3) := by decide +kernel
theorem dX2_safe_23 : decode cX2_safe 23 = .ok (.bipush (-102), 2) := by decide +kernel
theorem dX2_safe_25 : decode cX2_safe 25 = .ok (.ireturn, 1) := by decide +kernel
theorem dX2_safe_26 : decode cX2_safe 26 = .ok (.aload_n 0, 1) := by decide +kernel
theorem dX2_safe_27 : decode cX2_safe 27 = .ok (.getfield 10, 3) := by decide +kernel
theorem dX2_safe_30 : decode cX2_safe 30 = .ok (.getfield 91, 3) := by decide +kernel
theorem dX2_safe_33 : decode cX2_safe 33 = .ok (.iload_n 1, 1) := by decide +kernel
theorem dX2_safe_34 : decode cX2_safe 34 = .ok (.baload, 1) := by decide +kernel
theorem dX2_safe_35 : decode cX2_safe 35 = .ok (.ifCond .ne 6, 3) := by decide +kernel
theorem dX2_safe_38 : decode cX2_safe 38 = .ok (.bipush (-103), 2) := by decide +kernel
theorem dX2_safe_40 : decode cX2_safe 40 = .ok (.ireturn, 1) := by decide +kernel
theorem dX2_safe_41 : decode cX2_safe 41 = .ok (.aload_n 0, 1) := by decide +kernel
theorem dX2_safe_42 : decode cX2_safe 42 = .ok (.getfield 10, 3) := by decide +kernel
theorem dX2_safe_45 : decode cX2_safe 45 = .ok (.iload_n 1, 1) := by decide +kernel
theorem dX2_safe_46 : decode cX2_safe 46 = .ok (.invokevirtual 155, 3) := by decide +kernel
theorem dX2_safe_49 : decode cX2_safe 49 = .ok (.istore_n 3, 1) := by decide +kernel
theorem dX2_safe_50 : decode cX2_safe 50 = .ok (.iload_n 2, 1) := by decide +kernel
theorem dX2_safe_51 : decode cX2_safe 51 = .ok (.ifCond .ne 15, 3) := by decide +kernel
theorem dX2_safe_54 : decode cX2_safe 54 = .ok (.iload_n 3, 1) := by decide +kernel
theorem dX2_safe_55 : decode cX2_safe 55 = .ok (.iconst (-1), 1) := by decide +kernel
theorem dX2_safe_56 : decode cX2_safe 56 = .ok (.if_icmp .eq 10, 3) := by decide +kernel
theorem dX2_safe_59 : decode cX2_safe 59 = .ok (.iload_n 3, 1) := by decide +kernel
theorem dX2_safe_60 : decode cX2_safe 60 = .ok (.invokestatic 158, 3) := by decide +kernel
theorem dX2_safe_63 : decode cX2_safe 63 = .ok (.goto 4, 3) := by decide +kernel
theorem dX2_safe_66 : decode cX2_safe 66 = .ok (.iload_n 3, 1) := by decide +kernel
theorem dX2_safe_67 : decode cX2_safe 67 = .ok (.ireturn, 1) := by decide +kernel
set_option maxRecDepth 20000 in
theorem ggX2_giving_X1_hasHolder : GoodIn wsX2_giving wsX1_hasHolder := goodIn_r _ [7, 8, 89, 90, 91, 92, 93, 94, 95, 96, 97, 98, 99, 100, 101, 102, 103, 104, 105] (by decide +kernel) (by decide +kernel)
set_option maxRecDepth 20000 in
theorem gX2_giving_X1_hasHolder : GoodIn wsX2_giving (wsV RX2 82 RX1 yX1_hasHolder wsX1_hasHolder) := goodIn_app (goodIn_of _ (by decide +kernel)) ggX2_giving_X1_hasHolder
set_option maxRecDepth 20000 in
theorem ggX2_giving_X2_within : GoodIn wsX2_giving wsX2_within := goodIn_r _ [12] (by decide +kernel) (by decide +kernel)
set_option maxRecDepth 20000 in
theorem gX2_giving_X2_within : GoodIn wsX2_giving (va_wsS RX2 44 yX2_within wsX2_within) := goodIn_app (goodIn_of _ (by decide +kernel)) ggX2_giving_X2_within
set_option maxRecDepth 20000 in
theorem ggX2_giving_X1_bestGift : GoodIn wsX2_giving wsX1_bestGift := goodIn_r _ [16, 17, 18, 19, 6, 20, 21, 22, 23, 24, 25, 26, 27, 28, 29, 30, 31, 32, 4, 5, 7, 8, 33, 34, 35, 36, 37, 38, 39, 40, 41, 42, 43, 44, 45, 46, 47, 48, 49, 50, 51, 52, 53, 54, 55, 56, 57, 58, 59, 60, 61, 62, 63, 64, 65, 66, 67, 68, 69, 70, 71, 72, 73, 74, 75, 76, 77, 78, 79, 80, 89, 90, 91, 92, 93, 94, 95, 96, 97, 98, 99, 100, 101, 102, 103, 104, 105] (by decide +kernel) (by decide +kernel)
set_option maxRecDepth 20000 in
theorem gX2_giving_X1_bestGift : GoodIn wsX2_giving (wsV RX2 163 RX1 yX1_bestGift wsX1_bestGift) := goodIn_app (goodIn_of _ (by decide +kernel)) ggX2_giving_X1_bestGift
theorem dX2_giving_0 : decode cX2_giving 0 = .ok (.aload_n 0, 1) := by decide +kernel
theorem dX2_giving_1 : decode cX2_giving 1 = .ok (.getfield 10, 3) := by decide +kernel
theorem dX2_giving_4 : decode cX2_giving 4 = .ok (.iload_n 1, 1) := by decide +kernel
theorem dX2_giving_5 : decode cX2_giving 5 = .ok (.invokevirtual 82, 3) := by decide +kernel
theorem dX2_giving_8 : decode cX2_giving 8 = .ok (.ifCond .ne 6, 3) := by decide +kernel
theorem dX2_giving_11 : decode cX2_giving 11 = .ok (.bipush (-101), 2) := by decide +kernel
theorem dX2_giving_13 : decode cX2_giving 13 = .ok (.ireturn, 1) := by decide +kernel
theorem dX2_giving_14 : decode cX2_giving 14 = .ok (.iload_n 2, 1) := by decide +kernel
theorem dX2_giving_15 : decode cX2_giving 15 = .ok (.iconst 1, 1) := by decide +kernel
theorem dX2_giving_16 : decode cX2_giving 16 = .ok (.iconst 4, 1) := by decide +kernel
theorem dX2_giving_17 : decode cX2_giving 17 = .ok (.invokestatic 44, 3) := by decide +kernel
theorem dX2_giving_20 : decode cX2_giving 20 = .ok (.ifCond .ne 6, 3) := by decide +kernel
theorem dX2_giving_23 : decode cX2_giving 23 = .ok (.bipush (-102), 2) := by decide +kernel
theorem dX2_giving_25 : decode cX2_giving 25 = .ok (.ireturn, 1) := by decide +kernel
theorem dX2_giving_26 : decode cX2_giving 26 = .ok (.aload_n 0, 1) := by decide +kernel
theorem dX2_giving_27 : decode cX2_giving 27 = .ok (.getfield 10, 3) := by decide +kernel
theorem dX2_giving_30 : decode cX2_giving 30 = .ok (.getfield 91, 3) := by decide +kernel
theorem dX2_giving_33 : decode cX2_giving 33 = .ok (.iload_n 1, 1) := by decide +kernel
theorem dX2_giving_34 : decode cX2_giving 34 = .ok (.baload, 1) := by decide +kernel
theorem dX2_giving_35 : decode cX2_giving 35 = .ok (.ifCond .ne 6, 3) := by decide +kernel
theorem dX2_giving_38 : decode cX2_giving 38 = .ok (.bipush (-103), 2) := by decide +kernel
theorem dX2_giving_40 : decode cX2_giving 40 = .ok (.ireturn, 1) := by decide +kernel
theorem dX2_giving_41 : decode cX2_giving 41 = .ok (.aload_n 0, 1) := by decide +kernel
theorem dX2_giving_42 : decode cX2_giving 42 = .ok (.getfield 10, 3) := by decide +kernel
theorem dX2_giving_45 : decode cX2_giving 45 = .ok (.iload_n 1, 1) := by decide +kernel
theorem dX2_giving_46 : decode cX2_giving 46 = .ok (.iload_n 2, 1) := by decide +kernel
theorem dX2_giving_47 : decode cX2_giving 47 = .ok (.invokevirtual 163, 3) := by decide +kernel
theorem dX2_giving_50 : decode cX2_giving 50 = .ok (.ireturn, 1) := by decide +kernel
set_option maxRecDepth 20000 in
theorem ggX2_mean_X1_hasHolder : GoodIn wsX2_mean wsX1_hasHolder := goodIn_r _ [7, 8, 96, 97, 98, 99, 100, 101, 102, 103, 104, 105, 106, 107, 108, 109, 110, 111, 112] (by decide +kernel) (by decide +kernel)
set_option maxRecDepth 20000 in
theorem gX2_mean_X1_hasHolder : GoodIn wsX2_mean (wsV RX2 82 RX1 yX1_hasHolder wsX1_hasHolder) := goodIn_app (goodIn_of _ (by decide +kernel)) ggX2_mean_X1_hasHolder
set_option maxRecDepth 20000 in
theorem ggX2_mean_X2_within : GoodIn wsX2_mean wsX2_within := goodIn_r _ [12] (by decide +kernel) (by decide +kernel)
set_option maxRecDepth 20000 in
theorem gX2_mean_X2_within : GoodIn wsX2_mean (va_wsS RX2 44 yX2_within wsX2_within) := goodIn_app (goodIn_of _ (by decide +kernel)) ggX2_mean_X2_within
set_option maxRecDepth 20000 in
theorem ggX2_mean_X1_bestGift : GoodIn wsX2_mean wsX1_bestGift := goodIn_r _ [16, 17, 18, 19, 6, 20, 21, 22, 23, 24, 25, 26, 27, 28, 29, 30, 31, 32, 4, 5, 7, 8, 33, 34, 35, 36, 37, 38, 39, 40, 41, 42, 43, 44, 45, 46, 47, 48, 49, 50, 51, 52, 53, 54, 55, 56, 57, 58, 59, 60, 61, 62, 63, 64, 65, 66, 67, 68, 69, 70, 71, 72, 73, 74, 75, 76, 77, 78, 79, 80, 96, 97, 98, 99, 100, 101, 102, 103, 104, 105, 106, 107, 108, 109, 110, 111, 112] (by decide +kernel) (by decide +kernel)
set_option maxRecDepth 20000 in
theorem gX2_mean_X1_bestGift : GoodIn wsX2_mean (wsV RX2 163 RX1 yX1_bestGift wsX1_bestGift) := goodIn_app (goodIn_of _ (by decide +kernel)) ggX2_mean_X1_bestGift
set_option maxRecDepth 20000 in
theorem ggX2_mean_X1_lostOnMean : GoodIn wsX2_mean wsX1_lostOnMean := goodIn_r _ [30, 31, 32, 4, 5, 6, 7, 8, 33, 34, 35, 36, 37, 21, 38, 39, 40, 17, 18, 19, 20, 22, 23, 24, 25, 26, 41, 42, 43, 44, 45, 46, 47, 48, 49, 50, 51, 52, 53, 54, 55, 56, 57, 58, 59, 60, 61, 62, 63, 64, 65, 66, 67, 68, 69, 70, 71, 72, 73, 96, 97, 98, 99, 100, 101, 102, 103, 104, 105, 106, 107, 108, 109, 110, 111, 112] (by decide +kernel) (by decide +kernel)
set_option maxRecDepth 20000 in
theorem gX2_mean_X1_lostOnMean : GoodIn wsX2_mean (wsV RX2 166 RX1 yX1_lostOnMean wsX1_lostOnMean) := goodIn_app (goodIn_of _ (by decide +kernel)) ggX2_mean_X1_lostOnMean
set_option maxRecDepth 20000 in
theorem ggX2_mean_X2_powerOfTen : GoodIn wsX2_mean wsX2_powerOfTen := goodIn_r _ [84] (by decide +kernel) (by decide +kernel)
set_option maxRecDepth 20000 in
theorem gX2_mean_X2_powerOfTen : GoodIn wsX2_mean (va_wsS RX2 170 yX2_powerOfTen wsX2_powerOfTen) := goodIn_app (goodIn_of _ (by decide +kernel)) ggX2_mean_X2_powerOfTen
set_option maxRecDepth 20000 in
theorem ggX2_mean_X2_commonDivisor : GoodIn wsX2_mean wsX2_commonDivisor := goodIn_r _ [87] (by decide +kernel) (by decide +kernel)
set_option maxRecDepth 20000 in
theorem gX2_mean_X2_commonDivisor : GoodIn wsX2_mean (va_wsS RX2 173 yX2_commonDivisor wsX2_commonDivisor) := goodIn_app (goodIn_of _ (by decide +kernel)) ggX2_mean_X2_commonDivisor
theorem dX2_mean_0 : decode cX2_mean 0 = .ok (.aload_n 0, 1) := by decide +kernel
theorem dX2_mean_1 : decode cX2_mean 1 = .ok (.getfield 10, 3) := by decide +kernel
theorem dX2_mean_4 : decode cX2_mean 4 = .ok (.iload_n 1, 1) := by decide +kernel
theorem dX2_mean_5 : decode cX2_mean 5 = .ok (.invokevirtual 82, 3) := by decide +kernel
theorem dX2_mean_8 : decode cX2_mean 8 = .ok (.ifCond .ne 6, 3) := by decide +kernel
theorem dX2_mean_11 : decode cX2_mean 11 = .ok (.bipush (-101), 2) := by decide +kernel
theorem dX2_mean_13 : decode cX2_mean 13 = .ok (.ireturn, 1) := by decide +kernel
theorem dX2_mean_14 : decode cX2_mean 14 = .ok (.iload_n 2, 1) := by decide +kernel
theorem dX2_mean_15 : decode cX2_mean 15 = .ok (.iconst 1, 1) := by decide +kernel
theorem dX2_mean_16 : decode cX2_mean 16 = .ok (.iconst 4, 1) := by decide +kernel
theorem dX2_mean_17 : decode cX2_mean 17 = .ok (.invokestatic 44, 3) := by decide +kernel
theorem dX2_mean_20 : decode cX2_mean 20 = .ok (.ifCond .eq 12, 3) := by decide +kernel
theorem dX2_mean_23 : decode cX2_mean 23 = .ok (.iload_n 3, 1) := by decide +kernel
theorem dX2_mean_24 : decode cX2_mean 24 = .ok (.iconst 0, 1) := by decide +kernel
theorem dX2_mean_25 : decode cX2_mean 25 = .ok (.iconst 1, 1) := by decide +kernel
theorem dX2_mean_26 : decode cX2_mean 26 = .ok (.invokestatic 44, 3) := by decide +kernel
theorem dX2_mean_29 : decode cX2_mean 29 = .ok (.ifCond .ne 6, 3) := by decide +kernel
theorem dX2_mean_32 : decode cX2_mean 32 = .ok (.bipush (-102), 2) := by decide +kernel
theorem dX2_mean_34 : decode cX2_mean 34 = .ok (.ireturn, 1) := by decide +kernel
theorem dX2_mean_35 : decode cX2_mean 35 = .ok (.aload_n 0, 1) := by decide +kernel
theorem dX2_mean_36 : decode cX2_mean 36 = .ok (.getfield 10, 3) := by decide +kernel
theorem dX2_mean_39 : decode cX2_mean 39 = .ok (.getfield 91, 3) := by decide +kernel
theorem dX2_mean_42 : decode cX2_mean 42 = .ok (.iload_n 1, 1) := by decide +kernel
theorem dX2_mean_43 : decode cX2_mean 43 = .ok (.baload, 1) := by decide +kernel
theorem dX2_mean_44 : decode cX2_mean 44 = .ok (.ifCond .ne 6, 3) := by decide +kernel
theorem dX2_mean_47 : decode cX2_mean 47 = .ok (.bipush (-103), 2) := by decide +kernel
theorem dX2_mean_49 : decode cX2_mean 49 = .ok (.ireturn, 1) := by decide +kernel
theorem dX2_mean_50 : decode cX2_mean 50 = .ok (.aload_n 0, 1) := by decide +kernel
theorem dX2_mean_51 : decode cX2_mean 51 = .ok (.getfield 10, 3) := by decide +kernel
theorem dX2_mean_54 : decode cX2_mean 54 = .ok (.iload_n 1, 1) := by decide +kernel
theorem dX2_mean_55 : decode cX2_mean 55 = .ok (.iload_n 2, 1) := by decide +kernel
theorem dX2_mean_56 : decode cX2_mean 56 = .ok (.aload_n 0, 1) := by decide +kernel
theorem dX2_mean_57 : decode cX2_mean 57 = .ok (.getfield 10, 3) := by decide +kernel
theorem dX2_mean_60 : decode cX2_mean 60 = .ok (.iload_n 1, 1) := by decide +kernel
theorem dX2_mean_61 : decode cX2_mean 61 = .ok (.iload_n 2, 1) := by decide +kernel
theorem dX2_mean_62 : decode cX2_mean 62 = .ok (.invokevirtual 163, 3) := by decide +kernel
theorem dX2_mean_65 : decode cX2_mean 65 = .ok (.invokevirtual 166, 3) := by decide +kernel
theorem dX2_mean_68 : decode cX2_mean 68 = .ok (.istore 4, 2) := by decide +kernel
theorem dX2_mean_70 : decode cX2_mean 70 = .ok (.iload_n 2, 1) := by decide +kernel
theorem dX2_mean_71 : decode cX2_mean 71 = .ok (.invokestatic 170, 3) := by decide +kernel
theorem dX2_mean_74 : decode cX2_mean 74 = .ok (.istore 5, 2) := by decide +kernel
theorem dX2_mean_76 : decode cX2_mean 76 = .ok (.iload 4, 2) := by decide +kernel
theorem dX2_mean_78 : decode cX2_mean 78 = .ok (.iload 5, 2) := by decide +kernel
theorem dX2_mean_80 : decode cX2_mean 80 = .ok (.invokestatic 173, 3) := by decide +kernel
theorem dX2_mean_83 : decode cX2_mean 83 = .ok (.istore 6, 2) := by decide +kernel
theorem dX2_mean_85 : decode cX2_mean 85 = .ok (.iload 6, 2) := by decide +kernel
theorem dX2_mean_87 : decode cX2_mean 87 = .ok (.ifCond .ne 5, 3) := by decide +kernel
theorem dX2_mean_90 : decode cX2_mean 90 = .ok (.iconst 0, 1) := by decide +kernel
theorem dX2_mean_91 : decode cX2_mean 91 = .ok (.ireturn, 1) := by decide +kernel
theorem dX2_mean_92 : decode cX2_mean 92 = .ok (.iload_n 3, 1) := by decide +kernel
theorem dX2_mean_93 : decode cX2_mean 93 = .ok (.ifCond .ne 8, 3) := by decide +kernel
theorem dX2_mean_96 : decode cX2_mean 96 = .ok (.iload 4, 2) := by decide +kernel
theorem dX2_mean_98 : decode cX2_mean 98 = .ok (.goto 5, 3) := by decide +kernel
theorem dX2_mean_101 : decode cX2_mean 101 = .ok (.iload 5, 2) := by decide +kernel
theorem dX2_mean_103 : decode cX2_mean 103 = .ok (.iload 6, 2) := by decide +kernel
theorem dX2_mean_105 : decode cX2_mean 105 = .ok (.idiv, 1) := by decide +kernel
theorem dX2_mean_106 : decode cX2_mean 106 = .ok (.ireturn, 1) := by decide +kernel
theorem dX2_powerOfTen_0 : decode cX2_powerOfTen 0 = .ok (.iconst 1, 1) := by decide +kernel
theorem dX2_powerOfTen_1 : decode cX2_powerOfTen 1 = .ok (.istore_n 1, 1) := by decide +kernel
theorem dX2_powerOfTen_2 : decode cX2_powerOfTen 2 = .ok (.iconst 0, 1) := by decide +kernel
theorem dX2_powerOfTen_3 : decode cX2_powerOfTen 3 = .ok (.istore_n 2, 1) := by decide +kernel
theorem dX2_powerOfTen_4 : decode cX2_powerOfTen 4 = .ok (.iload_n 2, 1) := by decide +kernel
theorem dX2_powerOfTen_5 : decode cX2_powerOfTen 5 = .ok (.iload_n 0, 1) := by decide +kernel
theorem dX2_powerOfTen_6 : decode cX2_powerOfTen 6 = .ok (.if_icmp .ge 14, 3) := by decide +kernel
theorem dX2_powerOfTen_9 : decode cX2_powerOfTen 9 = .ok (.iload_n 1, 1) := by decide +kernel
theorem dX2_powerOfTen_10 : decode cX2_powerOfTen 10 = .ok (.bipush 10, 2) := by decide +kernel
theorem dX2_powerOfTen_12 : decode cX2_powerOfTen 12 = .ok (.imul, 1) := by decide +kernel
theorem dX2_powerOfTen_13 : decode cX2_powerOfTen 13 = .ok (.istore_n 1, 1) := by decide +kernel
theorem dX2_powerOfTen_14 : decode cX2_powerOfTen 14 = .ok (.iinc 2 1, 3) := by decide +kernel
theorem dX2_powerOfTen_17 : decode cX2_powerOfTen 17 = .ok (.goto (-13), 3) := by decide +kernel
theorem dX2_powerOfTen_20 : decode cX2_powerOfTen 20 = .ok (.iload_n 1, 1) := by decide +kernel
theorem dX2_powerOfTen_21 : decode cX2_powerOfTen 21 = .ok (.ireturn, 1) := by decide +kernel
theorem dX2_commonDivisor_0 : decode cX2_commonDivisor 0 = .ok (.iload_n 0, 1) := by decide +kernel
theorem dX2_commonDivisor_1 : decode cX2_commonDivisor 1 = .ok (.istore_n 2, 1) := by decide +kernel
theorem dX2_commonDivisor_2 : decode cX2_commonDivisor 2 = .ok (.iload_n 1, 1) := by decide +kernel
theorem dX2_commonDivisor_3 : decode cX2_commonDivisor 3 = .ok (.istore_n 3, 1) := by decide +kernel
theorem dX2_commonDivisor_4 : decode cX2_commonDivisor 4 = .ok (.iconst 0, 1) := by decide +kernel
theorem dX2_commonDivisor_5 : decode cX2_commonDivisor 5 = .ok (.istore 4, 2) := by decide +kernel
theorem dX2_commonDivisor_7 : decode cX2_commonDivisor 7 = .ok (.iload 4, 2) := by decide +kernel
theorem dX2_commonDivisor_9 : decode cX2_commonDivisor 9 = .ok (.sipush 1000, 3) := by decide +kernel
theorem dX2_commonDivisor_12 : decode cX2_commonDivisor 12 = .ok (.if_icmp .ge 23, 3) := by decide +kernel
theorem dX2_commonDivisor_15 : decode cX2_commonDivisor 15 = .ok (.iload_n 3, 1) := by decide +kernel
theorem dX2_commonDivisor_16 : decode cX2_commonDivisor 16 = .ok (.ifCond .eq 19, 3) := by decide +kernel
theorem dX2_commonDivisor_19 : decode cX2_commonDivisor 19 = .ok (.iload_n 2, 1) := by decide +kernel
theorem dX2_commonDivisor_20 : decode cX2_commonDivisor 20 = .ok (.iload_n 3, 1) := by decide +kernel
theorem dX2_commonDivisor_21 : decode cX2_commonDivisor 21 = .ok (.irem, 1) := by decide +kernel
theorem dX2_commonDivisor_22 : decode cX2_commonDivisor 22 = .ok (.istore 5, 2) := by decide +kernel
theorem dX2_commonDivisor_24 : decode cX2_commonDivisor 24 = .ok (.iload_n 3, 1) := by decide +kernel
theorem dX2_commonDivisor_25 : decode cX2_commonDivisor 25 = .ok (.istore_n 2, 1) := by decide +kernel
theorem dX2_commonDivisor_26 : decode cX2_commonDivisor 26 = .ok (.iload 5, 2) := by decide +kernel
theorem dX2_commonDivisor_28 : decode cX2_commonDivisor 28 = .ok (.istore_n 3, 1) := by decide +kernel
theorem dX2_commonDivisor_29 : decode cX2_commonDivisor 29 = .ok (.iinc 4 1, 3) := by decide +kernel
theorem dX2_commonDivisor_32 : decode cX2_commonDivisor 32 = .ok (.goto (-25), 3) := by decide +kernel
theorem dX2_commonDivisor_35 : decode cX2_commonDivisor 35 = .ok (.iload_n 2, 1) := by decide +kernel
theorem dX2_commonDivisor_36 : decode cX2_commonDivisor 36 = .ok (.ireturn, 1) := by decide +kernel
set_option maxRecDepth 20000 in
theorem ggX2_roll_X1_hasBeast : GoodIn wsX2_roll wsX1_hasBeast := goodIn_r _ [7, 8, 21, 22, 23, 24, 25, 26, 27, 28, 29, 30, 31, 32, 33, 34, 35, 36, 37] (by decide +kernel) (by decide +kernel)
set_option maxRecDepth 20000 in
theorem gX2_roll_X1_hasBeast : GoodIn wsX2_roll (wsV RX2 124 RX1 yX1_hasBeast wsX1_hasBeast) := goodIn_app (goodIn_of _ (by decide +kernel)) ggX2_roll_X1_hasBeast
set_option maxRecDepth 20000 in
theorem ggX2_roll_X2_within : GoodIn wsX2_roll wsX2_within := goodIn_r _ [12] (by decide +kernel) (by decide +kernel)
set_option maxRecDepth 20000 in
theorem gX2_roll_X2_within : GoodIn wsX2_roll (va_wsS RX2 44 yX2_within wsX2_within) := goodIn_app (goodIn_of _ (by decide +kernel)) ggX2_roll_X2_within
theorem dX2_roll_0 : decode cX2_roll 0 = .ok (.aload_n 0, 1) := by decide +kernel
theorem dX2_roll_1 : decode cX2_roll 1 = .ok (.getfield 10, 3) := by decide +kernel
theorem dX2_roll_4 : decode cX2_roll 4 = .ok (.iload_n 1, 1) := by decide +kernel
theorem dX2_roll_5 : decode cX2_roll 5 = .ok (.invokevirtual 124, 3) := by decide +kernel
theorem dX2_roll_8 : decode cX2_roll 8 = .ok (.ifCond .ne 6, 3) := by decide +kernel
theorem dX2_roll_11 : decode cX2_roll 11 = .ok (.bipush (-101), 2) := by decide +kernel
theorem dX2_roll_13 : decode cX2_roll 13 = .ok (.ireturn, 1) := by decide +kernel
theorem dX2_roll_14 : decode cX2_roll 14 = .ok (.iload_n 2, 1) := by decide +kernel
theorem dX2_roll_15 : decode cX2_roll 15 = .ok (.iconst (-1), 1) := by decide +kernel
theorem dX2_roll_16 : decode cX2_roll 16 = .ok (.iconst 1, 1) := by decide +kernel
theorem dX2_roll_17 : decode cX2_roll 17 = .ok (.invokestatic 44, 3) := by decide +kernel
theorem dX2_roll_20 : decode cX2_roll 20 = .ok (.ifCond .ne 6, 3) := by decide +kernel
theorem dX2_roll_23 : decode cX2_roll 23 = .ok (.bipush (-102), 2) := by decide +kernel
theorem dX2_roll_25 : decode cX2_roll 25 = .ok (.ireturn, 1) := by decide +kernel
theorem dX2_roll_26 : decode cX2_roll 26 = .ok (.aload_n 0, 1) := by decide +kernel
theorem dX2_roll_27 : decode cX2_roll 27 = .ok (.getfield 10, 3) := by decide +kernel
theorem dX2_roll_30 : decode cX2_roll 30 = .ok (.getfield 139, 3) := by decide +kernel
theorem dX2_roll_33 : decode cX2_roll 33 = .ok (.iload_n 1, 1) := by decide +kernel
theorem dX2_roll_34 : decode cX2_roll 34 = .ok (.iaload, 1) := by decide +kernel
theorem dX2_roll_35 : decode cX2_roll 35 = .ok (.istore_n 3, 1) := by decide +kernel
theorem dX2_roll_36 : decode cX2_roll 36 = .ok (.aload_n 0, 1) := by decide +kernel
theorem dX2_roll_37 : decode cX2_roll 37 = .ok (.getfield 10, 3) := by decide +kernel
theorem dX2_roll_40 : decode cX2_roll 40 = .ok (.getfield 139, 3) := by decide +kernel
theorem dX2_roll_43 : decode cX2_roll 43 = .ok (.iload_n 1, 1) := by decide +kernel
theorem dX2_roll_44 : decode cX2_roll 44 = .ok (.iload_n 2, 1) := by decide +kernel
theorem dX2_roll_45 : decode cX2_roll 45 = .ok (.iastore, 1) := by decide +kernel
theorem dX2_roll_46 : decode cX2_roll 46 = .ok (.iload_n 3, 1) := by decide +kernel
theorem dX2_roll_47 : decode cX2_roll 47 = .ok (.ireturn, 1) := by decide +kernel
set_option maxRecDepth 20000 in
theorem ggX2_whose_X1_hasBeast : GoodIn wsX2_whose wsX1_hasBeast := goodIn_r _ [9, 10, 93, 94, 95, 96, 97, 98, 99, 100, 101, 102, 103, 104, 105, 106, 107, 108, 109] (by decide +kernel) (by decide +kernel)
set_option maxRecDepth 20000 in
theorem gX2_whose_X1_hasBeast : GoodIn wsX2_whose (wsV RX2 124 RX1 yX1_hasBeast wsX1_hasBeast) := goodIn_app (goodIn_of _ (by decide +kernel)) ggX2_whose_X1_hasBeast
set_option maxRecDepth 20000 in
theorem ggX2_whose_X1_hasHolder : GoodIn wsX2_whose wsX1_hasHolder := goodIn_r _ [14, 15, 93, 94, 95, 96, 97, 98, 99, 100, 101, 102, 103, 104, 105, 106, 107, 108, 109] (by decide +kernel) (by decide +kernel)
set_option maxRecDepth 20000 in
theorem gX2_whose_X1_hasHolder : GoodIn wsX2_whose (wsV RX2 82 RX1 yX1_hasHolder wsX1_hasHolder) := goodIn_app (goodIn_of _ (by decide +kernel)) ggX2_whose_X1_hasHolder
set_option maxRecDepth 20000 in
theorem ggX2_whose_X1_copyFrom : GoodIn wsX2_whose wsX1_copyFrom := goodIn_r _ [19, 20, 21, 22, 23, 15, 10, 24, 25, 26, 27, 28, 29, 30, 31, 32, 33, 34, 35, 36, 37, 38, 93, 94, 95, 96, 97, 98, 99, 100, 101, 102, 103, 104, 105, 106, 107, 108, 109] (by decide +kernel) (by decide +kernel)
set_option maxRecDepth 20000 in
theorem gX2_whose_X1_copyFrom : GoodIn wsX2_whose (wsV RX2 176 RX1 yX1_copyFrom wsX1_copyFrom) := goodIn_app (goodIn_of _ (by decide +kernel)) ggX2_whose_X1_copyFrom
set_option maxRecDepth 20000 in
theorem ggX2_whose_X1_isAlive : GoodIn wsX2_whose wsX1_isAlive := goodIn_r _ [42, 33, 43, 12, 13, 8, 14, 15, 93, 94, 95, 96, 97, 98, 99, 100, 101, 102, 103, 104, 105, 106, 107, 108, 109] (by decide +kernel) (by decide +kernel)
set_option maxRecDepth 20000 in
theorem gX2_whose_X1_isAlive : GoodIn wsX2_whose (wsV RX2 180 RX1 yX1_isAlive wsX1_isAlive) := goodIn_app (goodIn_of _ (by decide +kernel)) ggX2_whose_X1_isAlive
set_option maxRecDepth 20000 in
theorem ggX2_whose_X1_putTo : GoodIn wsX2_whose wsX1_putTo := goodIn_r _ [47, 35, 36, 37, 48, 6, 7, 8, 9, 10, 93, 94, 95, 96, 97, 98, 99, 100, 101, 102, 103, 104, 105, 106, 107, 108, 109] (by decide +kernel) (by decide +kernel)
set_option maxRecDepth 20000 in
theorem gX2_whose_X1_putTo : GoodIn wsX2_whose (wsV RX2 183 RX1 yX1_putTo wsX1_putTo) := goodIn_app (goodIn_of _ (by decide +kernel)) ggX2_whose_X1_putTo
set_option maxRecDepth 20000 in
theorem ggX2_whose_X1_heldBits : GoodIn wsX2_whose wsX1_heldBits := goodIn_r _ [52, 53, 54, 55, 8, 56, 22, 10, 36, 24, 37, 57, 58, 59, 60, 35, 48, 6, 7, 9, 93, 94, 95, 96, 97, 98, 99, 100, 101, 102, 103, 104, 105, 106, 107, 108, 109] (by decide +kernel) (by decide +kernel)
set_option maxRecDepth 20000 in
theorem gX2_whose_X1_heldBits : GoodIn wsX2_whose (wsV RX2 102 RX1 yX1_heldBits wsX1_heldBits) := goodIn_app (goodIn_of _ (by decide +kernel)) ggX2_whose_X1_heldBits
set_option maxRecDepth 20000 in
theorem ggX2_whose_X1_takenFrom : GoodIn wsX2_whose wsX1_takenFrom := goodIn_r _ [64, 26, 43, 12, 13, 8, 14, 15, 65, 66, 67, 68, 20, 69, 70, 71, 72, 73, 74, 75, 76, 21, 77, 78, 79, 80, 23, 10, 34, 48, 6, 7, 9, 93, 94, 95, 96, 97, 98, 99, 100, 101, 102, 103, 104, 105, 106, 107, 108, 109] (by decide +kernel) (by decide +kernel)
set_option maxRecDepth 20000 in
theorem gX2_whose_X1_takenFrom : GoodIn wsX2_whose (wsV RX2 186 RX1 yX1_takenFrom wsX1_takenFrom) := goodIn_app (goodIn_of _ (by decide +kernel)) ggX2_whose_X1_takenFrom
set_option maxRecDepth 20000 in
theorem ggX2_whose_X1_isAsTold : GoodIn wsX2_whose wsX1_isAsTold := goodIn_r _ [84, 10, 38, 48, 6, 7, 8, 9, 93, 94, 95, 96, 97, 98, 99, 100, 101, 102, 103, 104, 105, 106, 107, 108, 109] (by decide +kernel) (by decide +kernel)
set_option maxRecDepth 20000 in
theorem gX2_whose_X1_isAsTold : GoodIn wsX2_whose (wsV RX2 189 RX1 yX1_isAsTold wsX1_isAsTold) := goodIn_app (goodIn_of _ (by decide +kernel)) ggX2_whose_X1_isAsTold
theorem dX2_whose_0 : decode cX2_whose 0 = .ok (.aload_n 0, 1) := by decide +kernel
theorem dX2_whose_1 : decode cX2_whose 1 = .ok (.getfield 10, 3) := by decide +kernel
theorem dX2_whose_4 : decode cX2_whose 4 = .ok (.iload_n 1, 1) := by decide +kernel
theorem dX2_whose_5 : decode cX2_whose 5 = .ok (.invokevirtual 124, 3) := by decide +kernel
theorem dX2_whose_8 : decode cX2_whose 8 = .ok (.ifCond .eq 14, 3) := by decide +kernel
theorem dX2_whose_11 : decode cX2_whose 11 = .ok (.aload_n 0, 1) := by decide +kernel
theorem dX2_whose_12 : decode cX2_whose 12 = .ok (.getfield 10, 3) := by decide +kernel
theorem dX2_whose_15 : decode cX2_whose 15 = .ok (.iload_n 2, 1) := by decide +kernel
theorem dX2_whose_16 : decode cX2_whose 16 = .ok (.invokevirtual 82, 3) := by decide +kernel
theorem dX2_whose_19 : decode cX2_whose 19 = .ok (.ifCond .ne 6, 3) := by decide +kernel
theorem dX2_whose_22 : decode cX2_whose 22 = .ok (.bipush (-101), 2) := by decide +kernel
theorem dX2_whose_24 : decode cX2_whose 24 = .ok (.ireturn, 1) := by decide +kernel
theorem dX2_whose_25 : decode cX2_whose 25 = .ok (.aload_n 0, 1) := by decide +kernel
theorem dX2_whose_26 : decode cX2_whose 26 = .ok (.getfield 10, 3) := by decide +kernel
theorem dX2_whose_29 : decode cX2_whose 29 = .ok (.getfield 91, 3) := by decide +kernel
theorem dX2_whose_32 : decode cX2_whose 32 = .ok (.iload_n 2, 1) := by decide +kernel
theorem dX2_whose_33 : decode cX2_whose 33 = .ok (.baload, 1) := by decide +kernel
theorem dX2_whose_34 : decode cX2_whose 34 = .ok (.ifCond .ne 6, 3) := by decide +kernel
theorem dX2_whose_37 : decode cX2_whose 37 = .ok (.bipush (-103), 2) := by decide +kernel
theorem dX2_whose_39 : decode cX2_whose 39 = .ok (.ireturn, 1) := by decide +kernel
theorem dX2_whose_40 : decode cX2_whose 40 = .ok (.aload_n 0, 1) := by decide +kernel
theorem dX2_whose_41 : decode cX2_whose 41 = .ok (.getfield 19, 3) := by decide +kernel
theorem dX2_whose_44 : decode cX2_whose 44 = .ok (.aload_n 0, 1) := by decide +kernel
theorem dX2_whose_45 : decode cX2_whose 45 = .ok (.getfield 10, 3) := by decide +kernel
theorem dX2_whose_48 : decode cX2_whose 48 = .ok (.invokevirtual 176, 3) := by decide +kernel
theorem dX2_whose_51 : decode cX2_whose 51 = .ok (.iconst 0, 1) := by decide +kernel
theorem dX2_whose_52 : decode cX2_whose 52 = .ok (.istore_n 3, 1) := by decide +kernel
theorem dX2_whose_53 : decode cX2_whose 53 = .ok (.iconst 0, 1) := by decide +kernel
theorem dX2_whose_54 : decode cX2_whose 54 = .ok (.istore 4, 2) := by decide +kernel
theorem dX2_whose_56 : decode cX2_whose 56 = .ok (.iload 4, 2) := by decide +kernel
theorem dX2_whose_58 : decode cX2_whose 58 = .ok (.aload_n 0, 1) := by decide +kernel
theorem dX2_whose_59 : decode cX2_whose 59 = .ok (.getfield 19, 3) := by decide +kernel
theorem dX2_whose_62 : decode cX2_whose 62 = .ok (.getfield 75, 3) := by decide +kernel
theorem dX2_whose_65 : decode cX2_whose 65 = .ok (.if_icmp .ge 67, 3) := by decide +kernel
theorem dX2_whose_68 : decode cX2_whose 68 = .ok (.aload_n 0, 1) := by decide +kernel
theorem dX2_whose_69 : decode cX2_whose 69 = .ok (.getfield 19, 3) := by decide +kernel
theorem dX2_whose_72 : decode cX2_whose 72 = .ok (.iload 4, 2) := by decide +kernel
theorem dX2_whose_74 : decode cX2_whose 74 = .ok (.invokevirtual 180, 3) := by decide +kernel
theorem dX2_whose_77 : decode cX2_whose 77 = .ok (.ifCond .ne 6, 3) := by decide +kernel
theorem dX2_whose_80 : decode cX2_whose 80 = .ok (.goto 46, 3) := by decide +kernel
theorem dX2_whose_83 : decode cX2_whose 83 = .ok (.aload_n 0, 1) := by decide +kernel
theorem dX2_whose_84 : decode cX2_whose 84 = .ok (.getfield 19, 3) := by decide +kernel
theorem dX2_whose_87 : decode cX2_whose 87 = .ok (.iload_n 1, 1) := by decide +kernel
theorem dX2_whose_88 : decode cX2_whose 88 = .ok (.iload 4, 2) := by decide +kernel
theorem dX2_whose_90 : decode cX2_whose 90 = .ok (.invokevirtual 183, 3) := by decide +kernel
theorem dX2_whose_93 : decode cX2_whose 93 = .ok (.aload_n 0, 1) := by decide +kernel
theorem dX2_whose_94 : decode cX2_whose 94 = .ok (.getfield 19, 3) := by decide +kernel
theorem dX2_whose_97 : decode cX2_whose 97 = .ok (.aload_n 0, 1) := by decide +kernel
theorem dX2_whose_98 : decode cX2_whose 98 = .ok (.getfield 19, 3) := by decide +kernel
theorem dX2_whose_101 : decode cX2_whose 101 = .ok (.iload_n 2, 1) := by decide +kernel
theorem dX2_whose_102 : decode cX2_whose 102 = .ok (.aload_n 0, 1) := by decide +kernel
theorem dX2_whose_103 : decode cX2_whose 103 = .ok (.getfield 19, 3) := by decide +kernel
theorem dX2_whose_106 : decode cX2_whose 106 = .ok (.iload_n 2, 1) := by decide +kernel
theorem dX2_whose_107 : decode cX2_whose 107 = .ok (.invokevirtual 102, 3) := by decide +kernel
theorem dX2_whose_110 : decode cX2_whose 110 = .ok (.invokevirtual 186, 3) := by decide +kernel
theorem dX2_whose_113 : decode cX2_whose 113 = .ok (.invokevirtual 189, 3) := by decide +kernel
theorem dX2_whose_116 : decode cX2_whose 116 = .ok (.ifCond .eq 10, 3) := by decide +kernel
theorem dX2_whose_119 : decode cX2_whose 119 = .ok (.iload_n 3, 1) := by decide +kernel
theorem dX2_whose_120 : decode cX2_whose 120 = .ok (.iconst 1, 1) := by decide +kernel
theorem dX2_whose_121 : decode cX2_whose 121 = .ok (.iload 4, 2) := by decide +kernel
theorem dX2_whose_123 : decode cX2_whose 123 = .ok (.ishl, 1) := by decide +kernel
theorem dX2_whose_124 : decode cX2_whose 124 = .ok (.ior, 1) := by decide +kernel
theorem dX2_whose_125 : decode cX2_whose 125 = .ok (.istore_n 3, 1) := by decide +kernel
theorem dX2_whose_126 : decode cX2_whose 126 = .ok (.iinc 4 1, 3) := by decide +kernel
theorem dX2_whose_129 : decode cX2_whose 129 = .ok (.goto (-73), 3) := by decide +kernel
theorem dX2_whose_132 : decode cX2_whose 132 = .ok (.iload_n 3, 1) := by decide +kernel
theorem dX2_whose_133 : decode cX2_whose 133 = .ok (.ireturn, 1) := by decide +kernel
set_option maxRecDepth 20000 in
theorem ggX2_manors_X2_within : GoodIn wsX2_manors wsX2_within := goodIn_r _ [10] (by decide +kernel) (by decide +kernel)
set_option maxRecDepth 20000 in
theorem gX2_manors_X2_within : GoodIn wsX2_manors (va_wsS RX2 44 yX2_within wsX2_within) := goodIn_app (goodIn_of _ (by decide +kernel)) ggX2_manors_X2_within
set_option maxRecDepth 20000 in
theorem ggX2_manors_X1_copyFrom : GoodIn wsX2_manors wsX1_copyFrom := goodIn_r _ [15, 16, 17, 18, 19, 20, 21, 22, 23, 24, 25, 26, 27, 28, 29, 30, 31, 32, 33, 34, 35, 36, 127, 128, 129, 130, 131, 132, 133, 134, 135, 136, 137, 138, 139, 140, 141, 142, 143] (by decide +kernel) (by decide +kernel)
set_option maxRecDepth 20000 in
theorem gX2_manors_X1_copyFrom : GoodIn wsX2_manors (wsV RX2 176 RX1 yX1_copyFrom wsX1_copyFrom) := goodIn_app (goodIn_of _ (by decide +kernel)) ggX2_manors_X1_copyFrom
set_option maxRecDepth 20000 in
theorem ggX2_manors_X1_liveOneYear : GoodIn wsX2_manors wsX1_liveOneYear := goodIn_r _ [40, 20, 29, 21, 22, 41, 42, 43, 14, 44, 31, 45, 46, 47, 48, 49, 50, 51, 52, 53, 54, 55, 56, 57, 58, 59, 60, 61, 62, 30, 33, 23, 63, 64, 65, 66, 67, 68, 69, 70, 18, 34, 35, 71, 72, 73, 74, 75, 76, 77, 78, 79, 80, 81, 82, 24, 83, 84, 85, 86, 16, 87, 88, 89, 90, 91, 92, 93, 94, 17, 95, 96, 97, 98, 19, 32, 99, 100, 101, 102, 103, 104, 105, 106, 107, 108, 109, 110, 111, 112, 113, 114, 127, 128, 129, 130, 131, 132, 133, 134, 135, 136, 137, 138, 139, 140, 141, 142, 143, 144] (by decide +kernel) (by decide +kernel)
set_option maxRecDepth 20000 in
theorem gX2_manors_X1_liveOneYear : GoodIn wsX2_manors (wsV RX2 195 RX1 yX1_liveOneYear wsX1_liveOneYear) := goodIn_app (goodIn_of _ (by decide +kernel)) ggX2_manors_X1_liveOneYear
set_option maxRecDepth 20000 in
theorem ggX2_manors_X1_countAlive : GoodIn wsX2_manors wsX1_countAlive := goodIn_r _ [118, 20, 41, 42, 43, 14, 44, 31, 45, 46, 47, 48, 127, 128, 129, 130, 131, 132, 133, 134, 135, 136, 137, 138, 139, 140, 141, 142, 143] (by decide +kernel) (by decide +kernel)
set_option maxRecDepth 20000 in
theorem gX2_manors_X1_countAlive : GoodIn wsX2_manors (wsV RX2 202 RX1 yX1_countAlive wsX1_countAlive) := goodIn_app (goodIn_of _ (by decide +kernel)) ggX2_manors_X1_countAlive
theorem dX2_manors_0 : decode cX2_manors 0 = .ok (.iload_n 1, 1) := by decide +kernel
theorem dX2_manors_1 : decode cX2_manors 1 = .ok (.iconst 1, 1) := by decide +kernel
theorem dX2_manors_2 : decode cX2_manors 2 = .ok (.bipush 60, 2) := by decide +kernel
theorem dX2_manors_4 : decode cX2_manors 4 = .ok (.invokestatic 44, 3) := by decide +kernel
theorem dX2_manors_7 : decode cX2_manors 7 = .ok (.ifCond .eq 16, 3) := by decide +kernel
theorem dX2_manors_10 : decode cX2_manors 10 = .ok (.iload_n 2, 1) := by decide +kernel
theorem dX2_manors_11 : decode cX2_manors 11 = .ok (.ifCond .lt 12, 3) := by decide +kernel
theorem dX2_manors_14 : decode cX2_manors 14 = .ok (.iload_n 3, 1) := by decide +kernel
theorem dX2_manors_15 : decode cX2_manors 15 = .ok (.iconst 0, 1) := by decide +kernel
theorem dX2_manors_16 : decode cX2_manors 16 = .ok (.iconst 2, 1) := by decide +kernel
theorem dX2_manors_17 : decode cX2_manors 17 = .ok (.invokestatic 44, 3) := by decide +kernel
theorem dX2_manors_20 : decode cX2_manors 20 = .ok (.ifCond .ne 6, 3) := by decide +kernel
theorem dX2_manors_23 : decode cX2_manors 23 = .ok (.bipush (-102), 2) := by decide +kernel
theorem dX2_manors_25 : decode cX2_manors 25 = .ok (.ireturn, 1) := by decide +kernel
theorem dX2_manors_26 : decode cX2_manors 26 = .ok (.aload_n 0, 1) := by decide +kernel
theorem dX2_manors_27 : decode cX2_manors 27 = .ok (.getfield 10, 3) := by decide +kernel
theorem dX2_manors_30 : decode cX2_manors 30 = .ok (.getfield 75, 3) := by decide +kernel
theorem dX2_manors_33 : decode cX2_manors 33 = .ok (.ifCond .ne 6, 3) := by decide +kernel
theorem dX2_manors_36 : decode cX2_manors 36 = .ok (.bipush (-103), 2) := by decide +kernel
theorem dX2_manors_38 : decode cX2_manors 38 = .ok (.ireturn, 1) := by decide +kernel
theorem dX2_manors_39 : decode cX2_manors 39 = .ok (.aload_n 0, 1) := by decide +kernel
theorem dX2_manors_40 : decode cX2_manors 40 = .ok (.getfield 19, 3) := by decide +kernel
theorem dX2_manors_43 : decode cX2_manors 43 = .ok (.aload_n 0, 1) := by decide +kernel
theorem dX2_manors_44 : decode cX2_manors 44 = .ok (.getfield 10, 3) := by decide +kernel
theorem dX2_manors_47 : decode cX2_manors 47 = .ok (.invokevirtual 176, 3) := by decide +kernel
theorem dX2_manors_50 : decode cX2_manors 50 = .ok (.aload_n 0, 1) := by decide +kernel
theorem dX2_manors_51 : decode cX2_manors 51 = .ok (.getfield 25, 3) := by decide +kernel
theorem dX2_manors_54 : decode cX2_manors 54 = .ok (.iload_n 2, 1) := by decide +kernel
theorem dX2_manors_55 : decode cX2_manors 55 = .ok (.putfield 192, 3) := by decide +kernel
theorem dX2_manors_58 : decode cX2_manors 58 = .ok (.iconst 0, 1) := by decide +kernel
theorem dX2_manors_59 : decode cX2_manors 59 = .ok (.istore 4, 2) := by decide +kernel
theorem dX2_manors_61 : decode cX2_manors 61 = .ok (.iload 4, 2) := by decide +kernel
theorem dX2_manors_63 : decode cX2_manors 63 = .ok (.iload_n 1, 1) := by decide +kernel
theorem dX2_manors_64 : decode cX2_manors 64 = .ok (.if_icmp .ge 20, 3) := by decide +kernel
theorem dX2_manors_67 : decode cX2_manors 67 = .ok (.aload_n 0, 1) := by decide +kernel
theorem dX2_manors_68 : decode cX2_manors 68 = .ok (.getfield 19, 3) := by decide +kernel
theorem dX2_manors_71 : decode cX2_manors 71 = .ok (.aload_n 0, 1) := by decide +kernel
theorem dX2_manors_72 : decode cX2_manors 72 = .ok (.getfield 25, 3) := by decide +kernel
theorem dX2_manors_75 : decode cX2_manors 75 = .ok (.invokevirtual 195, 3) := by decide +kernel
theorem dX2_manors_78 : decode cX2_manors 78 = .ok (.iinc 4 1, 3) := by decide +kernel
theorem dX2_manors_81 : decode cX2_manors 81 = .ok (.goto (-20), 3) := by decide +kernel
theorem dX2_manors_84 : decode cX2_manors 84 = .ok (.iload_n 3, 1) := by decide +kernel
theorem dX2_manors_85 : decode cX2_manors 85 = .ok (.lookupswitch 51 #[(0, 27), (1, 43)], 27) := by decide +kernel
theorem dX2_manors_112 : decode cX2_manors 112 = .ok (.aload_n 0, 1) := by decide +kernel
theorem dX2_manors_113 : decode cX2_manors 113 = .ok (.getfield 19, 3) := by decide +kernel
theorem dX2_manors_116 : decode cX2_manors 116 = .ok (.getfield 199, 3) := by decide +kernel
theorem dX2_manors_119 : decode cX2_manors 119 = .ok (.aload_n 0, 1) := by decide +kernel
theorem dX2_manors_120 : decode cX2_manors 120 = .ok (.getfield 10, 3) := by decide +kernel
theorem dX2_manors_123 : decode cX2_manors 123 = .ok (.getfield 199, 3) := by decide +kernel
theorem dX2_manors_126 : decode cX2_manors 126 = .ok (.isub, 1) := by decide +kernel
theorem dX2_manors_127 : decode cX2_manors 127 = .ok (.ireturn, 1) := by decide +kernel
theorem dX2_manors_128 : decode cX2_manors 128 = .ok (.aload_n 0, 1) := by decide +kernel
theorem dX2_manors_129 : decode cX2_manors 129 = .ok (.getfield 19, 3) := by decide +kernel
theorem dX2_manors_132 : decode cX2_manors 132 = .ok (.invokevirtual 202, 3) := by decide +kernel
theorem dX2_manors_135 : decode cX2_manors 135 = .ok (.ireturn, 1) := by decide +kernel
theorem dX2_manors_136 : decode cX2_manors 136 = .ok (.aload_n 0, 1) := by decide +kernel
theorem dX2_manors_137 : decode cX2_manors 137 = .ok (.getfield 25, 3) := by decide +kernel
theorem dX2_manors_140 : decode cX2_manors 140 = .ok (.getfield 192, 3) := by decide +kernel
theorem dX2_manors_143 : decode cX2_manors 143 = .ok (.ireturn, 1) := by decide +kernel
set_option maxRecDepth 20000 in
theorem ggX2_image_X1_copyFrom : GoodIn wsX2_image wsX1_copyFrom := goodIn_r _ [9, 10, 11, 12, 13, 14, 15, 16, 17, 18, 19, 20, 21, 22, 23, 24, 25, 26, 27, 28, 29, 30, 39, 40, 41, 42, 43, 44, 45, 46, 47, 48, 49, 50, 51, 52, 53, 54, 55] (by decide +kernel) (by decide +kernel)
set_option maxRecDepth 20000 in
theorem gX2_image_X1_copyFrom : GoodIn wsX2_image (wsV RX2 176 RX1 yX1_copyFrom wsX1_copyFrom) := goodIn_app (goodIn_of _ (by decide +kernel)) ggX2_image_X1_copyFrom
theorem dX2_image_0 : decode cX2_image 0 = .ok (.aload_n 0, 1) := by decide +kernel
theorem dX2_image_1 : decode cX2_image 1 = .ok (.getfield 16, 3) := by decide +kernel
theorem dX2_image_4 : decode cX2_image 4 = .ok (.aload_n 0, 1) := by decide +kernel
theorem dX2_image_5 : decode cX2_image 5 = .ok (.getfield 10, 3) := by decide +kernel
theorem dX2_image_8 : decode cX2_image 8 = .ok (.invokevirtual 176, 3) := by decide +kernel
theorem dX2_image_11 : decode cX2_image 11 = .ok (.aload_n 0, 1) := by decide +kernel
theorem dX2_image_12 : decode cX2_image 12 = .ok (.iconst 1, 1) := by decide +kernel
theorem dX2_image_13 : decode cX2_image 13 = .ok (.putfield 40, 3) := by decide +kernel
theorem dX2_image_16 : decode cX2_image 16 = .ok (.aload_n 0, 1) := by decide +kernel
theorem dX2_image_17 : decode cX2_image 17 = .ok (.getfield 10, 3) := by decide +kernel
theorem dX2_image_20 : decode cX2_image 20 = .ok (.getfield 152, 3) := by decide +kernel
theorem dX2_image_23 : decode cX2_image 23 = .ok (.ireturn, 1) := by decide +kernel
set_option maxRecDepth 20000 in
theorem ggX2_restore_X1_copyFrom : GoodIn wsX2_restore wsX1_copyFrom := goodIn_r _ [9, 10, 11, 12, 13, 14, 15, 16, 17, 18, 19, 20, 21, 22, 23, 24, 25, 26, 27, 28, 29, 30, 39, 40, 41, 42, 43, 44, 45, 46, 47, 48, 49, 50, 51, 52, 53, 54, 55] (by decide +kernel) (by decide +kernel)
set_option maxRecDepth 20000 in
theorem gX2_restore_X1_copyFrom : GoodIn wsX2_restore (wsV RX2 176 RX1 yX1_copyFrom wsX1_copyFrom) := goodIn_app (goodIn_of _ (by decide +kernel)) ggX2_restore_X1_copyFrom
theorem dX2_restore_0 : decode cX2_restore 0 = .ok (.aload_n 0, 1) := by decide +kernel
theorem dX2_restore_1 : decode cX2_restore 1 = .ok (.getfield 40, 3) := by decide +kernel
theorem dX2_restore_4 : decode cX2_restore 4 = .ok (.ifCond .ne 6, 3) := by decide +kernel
theorem dX2_restore_7 : decode cX2_restore 7 = .ok (.bipush (-103), 2) := by decide +kernel
theorem dX2_restore_9 : decode cX2_restore 9 = .ok (.ireturn, 1) := by decide +kernel
theorem dX2_restore_10 : decode cX2_restore 10 = .ok (.aload_n 0, 1) := by decide +kernel
theorem dX2_restore_11 : decode cX2_restore 11 = .ok (.getfield 10, 3) := by decide +kernel
theorem dX2_restore_14 : decode cX2_restore 14 = .ok (.aload_n 0, 1) := by decide +kernel
theorem dX2_restore_15 : decode cX2_restore 15 = .ok (.getfield 16, 3) := by decide +kernel
theorem dX2_restore_18 : decode cX2_restore 18 = .ok (.invokevirtual 176, 3) := by decide +kernel
theorem dX2_restore_21 : decode cX2_restore 21 = .ok (.aload_n 0, 1) := by decide +kernel
theorem dX2_restore_22 : decode cX2_restore 22 = .ok (.getfield 10, 3) := by decide +kernel
theorem dX2_restore_25 : decode cX2_restore 25 = .ok (.getfield 152, 3) := by decide +kernel
theorem dX2_restore_28 : decode cX2_restore 28 = .ok (.ireturn, 1) := by decide +kernel
set_option maxRecDepth 20000 in
theorem ggX2_count_X1_countAlive : GoodIn wsX2_count wsX1_countAlive := goodIn_r _ [16, 17, 18, 19, 20, 15, 21, 22, 23, 24, 25, 26, 45, 46, 47, 48, 49, 50, 51, 52, 53, 54, 55, 56, 57, 58, 59, 60, 61] (by decide +kernel) (by decide +kernel)
set_option maxRecDepth 20000 in
theorem gX2_count_X1_countAlive : GoodIn wsX2_count (wsV RX2 202 RX1 yX1_countAlive wsX1_countAlive) := goodIn_app (goodIn_of _ (by decide +kernel)) ggX2_count_X1_countAlive
set_option maxRecDepth 20000 in
theorem ggX2_count_X1_countNotGone : GoodIn wsX2_count wsX1_countNotGone := goodIn_r _ [30, 31, 32, 33, 34, 35, 15, 36, 45, 46, 47, 48, 49, 50, 51, 52, 53, 54, 55, 56, 57, 58, 59, 60, 61] (by decide +kernel) (by decide +kernel)
set_option maxRecDepth 20000 in
theorem gX2_count_X1_countNotGone : GoodIn wsX2_count (wsV RX2 205 RX1 yX1_countNotGone wsX1_countNotGone) := goodIn_app (goodIn_of _ (by decide +kernel)) ggX2_count_X1_countNotGone
theorem dX2_count_0 : decode cX2_count 0 = .ok (.iload_n 1, 1) := by decide +kernel
theorem dX2_count_1 : decode cX2_count 1 = .ok (.tableswitch 153 0 11 #[63, 71, 79, 87, 95, 103, 111, 119, 127, 135, 143, 148], 63) := by decide +kernel
theorem dX2_count_64 : decode cX2_count 64 = .ok (.aload_n 0, 1) := by decide +kernel
theorem dX2_count_65 : decode cX2_count 65 = .ok (.getfield 10, 3) := by decide +kernel
theorem dX2_count_68 : decode cX2_count 68 = .ok (.getfield 60, 3) := by decide +kernel
theorem dX2_count_71 : decode cX2_count 71 = .ok (.ireturn, 1) := by decide +kernel
theorem dX2_count_72 : decode cX2_count 72 = .ok (.aload_n 0, 1) := by decide +kernel
theorem dX2_count_73 : decode cX2_count 73 = .ok (.getfield 10, 3) := by decide +kernel
theorem dX2_count_76 : decode cX2_count 76 = .ok (.getfield 63, 3) := by decide +kernel
theorem dX2_count_79 : decode cX2_count 79 = .ok (.ireturn, 1) := by decide +kernel
theorem dX2_count_80 : decode cX2_count 80 = .ok (.aload_n 0, 1) := by decide +kernel
theorem dX2_count_81 : decode cX2_count 81 = .ok (.getfield 10, 3) := by decide +kernel
theorem dX2_count_84 : decode cX2_count 84 = .ok (.getfield 66, 3) := by decide +kernel
theorem dX2_count_87 : decode cX2_count 87 = .ok (.ireturn, 1) := by decide +kernel
theorem dX2_count_88 : decode cX2_count 88 = .ok (.aload_n 0, 1) := by decide +kernel
theorem dX2_count_89 : decode cX2_count 89 = .ok (.getfield 10, 3) := by decide +kernel
theorem dX2_count_92 : decode cX2_count 92 = .ok (.getfield 69, 3) := by decide +kernel
theorem dX2_count_95 : decode cX2_count 95 = .ok (.ireturn, 1) := by decide +kernel
theorem dX2_count_96 : decode cX2_count 96 = .ok (.aload_n 0, 1) := by decide +kernel
theorem dX2_count_97 : decode cX2_count 97 = .ok (.getfield 10, 3) := by decide +kernel
theorem dX2_count_100 : decode cX2_count 100 = .ok (.getfield 75, 3) := by decide +kernel
theorem dX2_count_103 : decode cX2_count 103 = .ok (.ireturn, 1) := by decide +kernel
theorem dX2_count_104 : decode cX2_count 104 = .ok (.aload_n 0, 1) := by decide +kernel
theorem dX2_count_105 : decode cX2_count 105 = .ok (.getfield 10, 3) := by decide +kernel
theorem dX2_count_108 : decode cX2_count 108 = .ok (.invokevirtual 202, 3) := by decide +kernel
theorem dX2_count_111 : decode cX2_count 111 = .ok (.ireturn, 1) := by decide +kernel
theorem dX2_count_112 : decode cX2_count 112 = .ok (.aload_n 0, 1) := by decide +kernel
theorem dX2_count_113 : decode cX2_count 113 = .ok (.getfield 10, 3) := by decide +kernel
theorem dX2_count_116 : decode cX2_count 116 = .ok (.getfield 118, 3) := by decide +kernel
theorem dX2_count_119 : decode cX2_count 119 = .ok (.ireturn, 1) := by decide +kernel
theorem dX2_count_120 : decode cX2_count 120 = .ok (.aload_n 0, 1) := by decide +kernel
theorem dX2_count_121 : decode cX2_count 121 = .ok (.getfield 10, 3) := by decide +kernel
theorem dX2_count_124 : decode cX2_count 124 = .ok (.invokevirtual 205, 3) := by decide +kernel
theorem dX2_count_127 : decode cX2_count 127 = .ok (.ireturn, 1) := by decide +kernel
theorem dX2_count_128 : decode cX2_count 128 = .ok (.aload_n 0, 1) := by decide +kernel
theorem dX2_count_129 : decode cX2_count 129 = .ok (.getfield 10, 3) := by decide +kernel
theorem dX2_count_132 : decode cX2_count 132 = .ok (.getfield 152, 3) := by decide +kernel
theorem dX2_count_135 : decode cX2_count 135 = .ok (.ireturn, 1) := by decide +kernel
theorem dX2_count_136 : decode cX2_count 136 = .ok (.aload_n 0, 1) := by decide +kernel
theorem dX2_count_137 : decode cX2_count 137 = .ok (.getfield 10, 3) := by decide +kernel
theorem dX2_count_140 : decode cX2_count 140 = .ok (.getfield 199, 3) := by decide +kernel
theorem dX2_count_143 : decode cX2_count 143 = .ok (.ireturn, 1) := by decide +kernel
theorem dX2_count_144 : decode cX2_count 144 = .ok (.aload_n 0, 1) := by decide +kernel
theorem dX2_count_145 : decode cX2_count 145 = .ok (.getfield 33, 3) := by decide +kernel
theorem dX2_count_148 : decode cX2_count 148 = .ok (.ireturn, 1) := by decide +kernel
theorem dX2_count_149 : decode cX2_count 149 = .ok (.aload_n 0, 1) := by decide +kernel
theorem dX2_count_150 : decode cX2_count 150 = .ok (.getfield 37, 3) := by decide +kernel
theorem dX2_count_153 : decode cX2_count 153 = .ok (.ireturn, 1) := by decide +kernel
theorem dX2_count_154 : decode cX2_count 154 = .ok (.bipush (-102), 2) := by decide +kernel
theorem dX2_count_156 : decode cX2_count 156 = .ok (.ireturn, 1) := by decide +kernel
set_option maxRecDepth 20000 in
theorem ggX2_digest_X2_about : GoodIn wsX2_digest wsX2_about := goodIn_r _ [12, 2, 13, 14, 15, 16, 17, 18, 19, 20, 21, 22, 23, 24, 25, 26, 27, 28, 29, 30, 31, 32, 33, 34, 35, 36, 37, 38, 39, 40, 41, 42, 43, 44, 45, 46, 47, 48, 49, 50, 51, 52, 53, 54, 55, 56, 57, 58, 59, 60, 61, 62, 63, 64, 65, 66, 67, 68, 69, 70, 71, 72, 73, 74, 75, 76, 77, 78, 79, 80, 81, 162, 163, 164, 165, 166, 167, 168, 169, 170, 171, 172, 173, 174, 175, 176, 177, 178, 179, 180, 181, 182, 183, 184, 185, 186] (by decide +kernel) (by decide +kernel)
set_option maxRecDepth 20000 in
theorem gX2_digest_X2_about : GoodIn wsX2_digest (wsV RX2 212 RX2 yX2_about wsX2_about) := goodIn_app (goodIn_of _ (by decide +kernel)) ggX2_digest_X2_about
set_option maxRecDepth 20000 in
theorem ggX2_digest_X1_isAlive : GoodIn wsX2_digest wsX1_isAlive := goodIn_r _ [85, 86, 69, 18, 19, 20, 21, 22, 170, 171, 172, 173, 174, 175, 176, 177, 178, 179, 180, 181, 182, 183, 184, 185, 186] (by decide +kernel) (by decide +kernel)
set_option maxRecDepth 20000 in
theorem gX2_digest_X1_isAlive : GoodIn wsX2_digest (wsV RX2 180 RX1 yX1_isAlive wsX1_isAlive) := goodIn_app (goodIn_of _ (by decide +kernel)) ggX2_digest_X1_isAlive
set_option maxRecDepth 20000 in
theorem ggX2_digest_X2_safe : GoodIn wsX2_digest wsX2_safe := goodIn_r _ [90, 2, 15, 17, 18, 19, 20, 21, 22, 91, 92, 11, 93, 94, 95, 96, 97, 45, 24, 25, 26, 27, 28, 29, 30, 31, 32, 98, 34, 35, 36, 37, 38, 39, 40, 41, 42, 43, 44, 64, 65, 66, 67, 68, 69, 70, 47, 48, 49, 50, 51, 52, 53, 54, 71, 56, 57, 58, 59, 72, 73, 74, 75, 76, 77, 99, 100, 101, 102, 103, 104, 105, 106, 162, 163, 164, 165, 166, 167, 168, 169, 170, 171, 172, 173, 174, 175, 176, 177, 178, 179, 180, 181, 182, 183, 184, 185, 186] (by decide +kernel) (by decide +kernel)
set_option maxRecDepth 20000 in
theorem gX2_digest_X2_safe : GoodIn wsX2_digest (wsV RX2 215 RX2 yX2_safe wsX2_safe) := goodIn_app (goodIn_of _ (by decide +kernel)) ggX2_digest_X2_safe
set_option maxRecDepth 20000 in
theorem ggX2_digest_X2_giving : GoodIn wsX2_digest wsX2_giving := goodIn_r _ [110, 2, 15, 17, 18, 19, 20, 21, 22, 91, 92, 11, 93, 111, 112, 113, 114, 45, 24, 25, 26, 27, 28, 29, 30, 31, 32, 115, 116, 117, 118, 119, 69, 37, 38, 39, 40, 41, 42, 43, 44, 120, 61, 62, 63, 64, 65, 66, 67, 68, 70, 47, 48, 49, 50, 51, 52, 53, 54, 71, 56, 57, 58, 59, 72, 73, 74, 75, 76, 77, 78, 79, 80, 81, 99, 100, 101, 102, 103, 104, 105, 162, 163, 164, 165, 166, 167, 168, 169, 170, 171, 172, 173, 174, 175, 176, 177, 178, 179, 180, 181, 182, 183, 184, 185, 186] (by decide +kernel) (by decide +kernel)
set_option maxRecDepth 20000 in
theorem gX2_digest_X2_giving : GoodIn wsX2_digest (wsV RX2 218 RX2 yX2_giving wsX2_giving) := goodIn_app (goodIn_of _ (by decide +kernel)) ggX2_digest_X2_giving
set_option maxRecDepth 20000 in
theorem ggX2_digest_X2_mean : GoodIn wsX2_digest wsX2_mean := goodIn_r _ [124, 2, 15, 17, 18, 19, 20, 21, 22, 91, 92, 11, 93, 111, 112, 113, 114, 45, 24, 25, 26, 27, 28, 29, 30, 31, 32, 115, 116, 117, 118, 119, 69, 37, 38, 39, 40, 41, 42, 43, 44, 120, 61, 62, 63, 64, 65, 66, 67, 68, 70, 47, 48, 49, 50, 51, 52, 53, 54, 71, 56, 57, 58, 59, 72, 73, 74, 75, 76, 77, 78, 79, 80, 81, 99, 100, 101, 102, 103, 104, 105, 125, 126, 127, 128, 129, 130, 131, 162, 163, 164, 165, 166, 167, 168, 169, 170, 171, 172, 173, 174, 175, 176, 177, 178, 179, 180, 181, 182, 183, 184, 185, 186] (by decide +kernel) (by decide +kernel)
set_option maxRecDepth 20000 in
theorem gX2_digest_X2_mean : GoodIn wsX2_digest (wsV RX2 221 RX2 yX2_mean wsX2_mean) := goodIn_app (goodIn_of _ (by decide +kernel)) ggX2_digest_X2_mean
set_option maxRecDepth 20000 in
theorem ggX2_digest_X2_beastOf : GoodIn wsX2_digest wsX2_beastOf := goodIn_r _ [135, 2, 136, 137, 138, 139, 140, 141, 30, 31, 20, 32, 27, 162, 163, 164, 165, 166, 167, 168, 169, 170, 171, 172, 173, 174, 175, 176, 177, 178, 179, 180, 181, 182, 183, 184, 185, 186] (by decide +kernel) (by decide +kernel)
set_option maxRecDepth 20000 in
theorem gX2_digest_X2_beastOf : GoodIn wsX2_digest (wsV RX2 224 RX2 yX2_beastOf wsX2_beastOf) := goodIn_app (goodIn_of _ (by decide +kernel)) ggX2_digest_X2_beastOf
set_option maxRecDepth 20000 in
theorem ggX2_digest_X2_count : GoodIn wsX2_digest wsX2_count := goodIn_r _ [145, 2, 146, 147, 148, 149, 3, 5, 150, 151, 6, 152, 153, 154, 155, 20, 156, 22, 157, 83, 84, 85, 86, 69, 18, 19, 21, 158, 159, 160, 161, 27, 28, 29, 30, 31, 32, 162, 163, 164, 165, 166, 167, 168, 169, 170, 171, 172, 173, 174, 175, 176, 177, 178, 179, 180, 181, 182, 183, 184, 185, 186] (by decide +kernel) (by decide +kernel)
set_option maxRecDepth 20000 in
theorem gX2_digest_X2_count : GoodIn wsX2_digest (wsV RX2 227 RX2 yX2_count wsX2_count) := goodIn_app (goodIn_of _ (by decide +kernel)) ggX2_digest_X2_count
theorem dX2_digest_0 : decode cX2_digest 0 = .ok (.ldc2_w 208, 3) := by decide +kernel
theorem dX2_digest_3 : decode cX2_digest 3 = .ok (.lstore_n 1, 1) := by decide +kernel
theorem dX2_digest_4 : decode cX2_digest 4 = .ok (.iconst 0, 1) := by decide +kernel
theorem dX2_digest_5 : decode cX2_digest 5 = .ok (.istore_n 3, 1) := by decide +kernel
theorem dX2_digest_6 : decode cX2_digest 6 = .ok (.iload_n 3, 1) := by decide +kernel
theorem dX2_digest_7 : decode cX2_digest 7 = .ok (.aload_n 0, 1) := by decide +kernel
theorem dX2_digest_8 : decode cX2_digest 8 = .ok (.getfield 10, 3) := by decide +kernel
theorem dX2_digest_11 : decode cX2_digest 11 = .ok (.getfield 75, 3) := by decide +kernel
theorem dX2_digest_14 : decode cX2_digest 14 = .ok (.if_icmp .ge 123, 3) := by decide +kernel
theorem dX2_digest_17 : decode cX2_digest 17 = .ok (.iconst 0, 1) := by decide +kernel
theorem dX2_digest_18 : decode cX2_digest 18 = .ok (.istore 4, 2) := by decide +kernel
theorem dX2_digest_20 : decode cX2_digest 20 = .ok (.iload 4, 2) := by decide +kernel
theorem dX2_digest_22 : decode cX2_digest 22 = .ok (.bipush 8, 2) := by decide +kernel
theorem dX2_digest_24 : decode cX2_digest 24 = .ok (.if_icmp .gt 24, 3) := by decide +kernel
theorem dX2_digest_27 : decode cX2_digest 27 = .ok (.ldc2_w 210, 3) := by decide +kernel
theorem dX2_digest_30 : decode cX2_digest 30 = .ok (.lload_n 1, 1) := by decide +kernel
theorem dX2_digest_31 : decode cX2_digest 31 = .ok (.lmul, 1) := by decide +kernel
theorem dX2_digest_32 : decode cX2_digest 32 = .ok (.aload_n 0, 1) := by decide +kernel
theorem dX2_digest_33 : decode cX2_digest 33 = .ok (.iload_n 3, 1) := by decide +kernel
theorem dX2_digest_34 : decode cX2_digest 34 = .ok (.iload 4, 2) := by decide +kernel
theorem dX2_digest_36 : decode cX2_digest 36 = .ok (.invokevirtual 212, 3) := by decide +kernel
theorem dX2_digest_39 : decode cX2_digest 39 = .ok (.i2l, 1) := by decide +kernel
theorem dX2_digest_40 : decode cX2_digest 40 = .ok (.ladd, 1) := by decide +kernel
theorem dX2_digest_41 : decode cX2_digest 41 = .ok (.lstore_n 1, 1) := by decide +kernel
theorem dX2_digest_42 : decode cX2_digest 42 = .ok (.iinc 4 1, 3) := by decide +kernel
theorem dX2_digest_45 : decode cX2_digest 45 = .ok (.goto (-25), 3) := by decide +kernel
theorem dX2_digest_48 : decode cX2_digest 48 = .ok (.aload_n 0, 1) := by decide +kernel
theorem dX2_digest_49 : decode cX2_digest 49 = .ok (.getfield 10, 3) := by decide +kernel
theorem dX2_digest_52 : decode cX2_digest 52 = .ok (.iload_n 3, 1) := by decide +kernel
theorem dX2_digest_53 : decode cX2_digest 53 = .ok (.invokevirtual 180, 3) := by decide +kernel
theorem dX2_digest_56 : decode cX2_digest 56 = .ok (.ifCond .eq 75, 3) := by decide +kernel
theorem dX2_digest_59 : decode cX2_digest 59 = .ok (.ldc2_w 210, 3) := by decide +kernel
theorem dX2_digest_62 : decode cX2_digest 62 = .ok (.lload_n 1, 1) := by decide +kernel
theorem dX2_digest_63 : decode cX2_digest 63 = .ok (.lmul, 1) := by decide +kernel
theorem dX2_digest_64 : decode cX2_digest 64 = .ok (.aload_n 0, 1) := by decide +kernel
theorem dX2_digest_65 : decode cX2_digest 65 = .ok (.iload_n 3, 1) := by decide +kernel
theorem dX2_digest_66 : decode cX2_digest 66 = .ok (.iconst 0, 1) := by decide +kernel
theorem dX2_digest_67 : decode cX2_digest 67 = .ok (.invokevirtual 215, 3) := by decide +kernel
theorem dX2_digest_70 : decode cX2_digest 70 = .ok (.i2l, 1) := by decide +kernel
theorem dX2_digest_71 : decode cX2_digest 71 = .ok (.ladd, 1) := by decide +kernel
theorem dX2_digest_72 : decode cX2_digest 72 = .ok (.lstore_n 1, 1) := by decide +kernel
theorem dX2_digest_73 : decode cX2_digest 73 = .ok (.ldc2_w 210, 3) := by decide +kernel
theorem dX2_digest_76 : decode cX2_digest 76 = .ok (.lload_n 1, 1) := by decide +kernel
theorem dX2_digest_77 : decode cX2_digest 77 = .ok (.lmul, 1) := by decide +kernel
theorem dX2_digest_78 : decode cX2_digest 78 = .ok (.aload_n 0, 1) := by decide +kernel
theorem dX2_digest_79 : decode cX2_digest 79 = .ok (.iload_n 3, 1) := by decide +kernel
theorem dX2_digest_80 : decode cX2_digest 80 = .ok (.iconst 1, 1) := by decide +kernel
theorem dX2_digest_81 : decode cX2_digest 81 = .ok (.invokevirtual 215, 3) := by decide +kernel
theorem dX2_digest_84 : decode cX2_digest 84 = .ok (.i2l, 1) := by decide +kernel
theorem dX2_digest_85 : decode cX2_digest 85 = .ok (.ladd, 1) := by decide +kernel
theorem dX2_digest_86 : decode cX2_digest 86 = .ok (.lstore_n 1, 1) := by decide +kernel
theorem dX2_digest_87 : decode cX2_digest 87 = .ok (.ldc2_w 210, 3) := by decide +kernel
theorem dX2_digest_90 : decode cX2_digest 90 = .ok (.lload_n 1, 1) := by decide +kernel
theorem dX2_digest_91 : decode cX2_digest 91 = .ok (.lmul, 1) := by decide +kernel
theorem dX2_digest_92 : decode cX2_digest 92 = .ok (.aload_n 0, 1) := by decide +kernel
theorem dX2_digest_93 : decode cX2_digest 93 = .ok (.iload_n 3, 1) := by decide +kernel
theorem dX2_digest_94 : decode cX2_digest 94 = .ok (.iconst 2, 1) := by decide +kernel
theorem dX2_digest_95 : decode cX2_digest 95 = .ok (.invokevirtual 218, 3) := by decide +kernel
theorem dX2_digest_98 : decode cX2_digest 98 = .ok (.i2l, 1) := by decide +kernel
theorem dX2_digest_99 : decode cX2_digest 99 = .ok (.ladd, 1) := by decide +kernel
theorem dX2_digest_100 : decode cX2_digest 100 = .ok (.lstore_n 1, 1) := by decide +kernel
theorem dX2_digest_101 : decode cX2_digest 101 = .ok (.ldc2_w 210, 3) := by decide +kernel
theorem dX2_digest_104 : decode cX2_digest 104 = .ok (.lload_n 1, 1) := by decide +kernel
theorem dX2_digest_105 : decode cX2_digest 105 = .ok (.lmul, 1) := by decide +kernel
theorem dX2_digest_106 : decode cX2_digest 106 = .ok (.aload_n 0, 1) := by decide +kernel
theorem dX2_digest_107 : decode cX2_digest 107 = .ok (.iload_n 3, 1) := by decide +kernel
theorem dX2_digest_108 : decode cX2_digest 108 = .ok (.iconst 2, 1) := by decide +kernel
theorem dX2_digest_109 : decode cX2_digest 109 = .ok (.iconst 0, 1) := by decide +kernel
theorem dX2_digest_110 : decode cX2_digest 110 = .ok (.invokevirtual 221, 3) := by decide +kernel
theorem dX2_digest_113 : decode cX2_digest 113 = .ok (.i2l, 1) := by decide +kernel
theorem dX2_digest_114 : decode cX2_digest 114 = .ok (.ladd, 1) := by decide +kernel
theorem dX2_digest_115 : decode cX2_digest 115 = .ok (.lstore_n 1, 1) := by decide +kernel
theorem dX2_digest_116 : decode cX2_digest 116 = .ok (.ldc2_w 210, 3) := by decide +kernel
theorem dX2_digest_119 : decode cX2_digest 119 = .ok (.lload_n 1, 1) := by decide +kernel
theorem dX2_digest_120 : decode cX2_digest 120 = .ok (.lmul, 1) := by decide +kernel
theorem dX2_digest_121 : decode cX2_digest 121 = .ok (.aload_n 0, 1) := by decide +kernel
theorem dX2_digest_122 : decode cX2_digest 122 = .ok (.iload_n 3, 1) := by decide +kernel
theorem dX2_digest_123 : decode cX2_digest 123 = .ok (.iconst 2, 1) := by decide +kernel
theorem dX2_digest_124 : decode cX2_digest 124 = .ok (.iconst 1, 1) := by decide +kernel
theorem dX2_digest_125 : decode cX2_digest 125 = .ok (.invokevirtual 221, 3) := by decide +kernel
theorem dX2_digest_128 : decode cX2_digest 128 = .ok (.i2l, 1) := by decide +kernel
theorem dX2_digest_129 : decode cX2_digest 129 = .ok (.ladd, 1) := by decide +kernel
theorem dX2_digest_130 : decode cX2_digest 130 = .ok (.lstore_n 1, 1) := by decide +kernel
theorem dX2_digest_131 : decode cX2_digest 131 = .ok (.iinc 3 1, 3) := by decide +kernel
theorem dX2_digest_134 : decode cX2_digest 134 = .ok (.goto (-128), 3) := by decide +kernel
theorem dX2_digest_137 : decode cX2_digest 137 = .ok (.iconst 0, 1) := by decide +kernel
theorem dX2_digest_138 : decode cX2_digest 138 = .ok (.istore_n 3, 1) := by decide +kernel
theorem dX2_digest_139 : decode cX2_digest 139 = .ok (.iload_n 3, 1) := by decide +kernel
theorem dX2_digest_140 : decode cX2_digest 140 = .ok (.aload_n 0, 1) := by decide +kernel
theorem dX2_digest_141 : decode cX2_digest 141 = .ok (.getfield 10, 3) := by decide +kernel
theorem dX2_digest_144 : decode cX2_digest 144 = .ok (.getfield 118, 3) := by decide +kernel
theorem dX2_digest_147 : decode cX2_digest 147 = .ok (.if_icmp .ge 39, 3) := by decide +kernel
theorem dX2_digest_150 : decode cX2_digest 150 = .ok (.iconst 0, 1) := by decide +kernel
theorem dX2_digest_151 : decode cX2_digest 151 = .ok (.istore 4, 2) := by decide +kernel
theorem dX2_digest_153 : decode cX2_digest 153 = .ok (.iload 4, 2) := by decide +kernel
theorem dX2_digest_155 : decode cX2_digest 155 = .ok (.iconst 4, 1) := by decide +kernel
theorem dX2_digest_156 : decode cX2_digest 156 = .ok (.if_icmp .gt 24, 3) := by decide +kernel
theorem dX2_digest_159 : decode cX2_digest 159 = .ok (.ldc2_w 210, 3) := by decide +kernel
theorem dX2_digest_162 : decode cX2_digest 162 = .ok (.lload_n 1, 1) := by decide +kernel
theorem dX2_digest_163 : decode cX2_digest 163 = .ok (.lmul, 1) := by decide +kernel
theorem dX2_digest_164 : decode cX2_digest 164 = .ok (.aload_n 0, 1) := by decide +kernel
theorem dX2_digest_165 : decode cX2_digest 165 = .ok (.iload_n 3, 1) := by decide +kernel
theorem dX2_digest_166 : decode cX2_digest 166 = .ok (.iload 4, 2) := by decide +kernel
theorem dX2_digest_168 : decode cX2_digest 168 = .ok (.invokevirtual 224, 3) := by decide +kernel
theorem dX2_digest_171 : decode cX2_digest 171 = .ok (.i2l, 1) := by decide +kernel
theorem dX2_digest_172 : decode cX2_digest 172 = .ok (.ladd, 1) := by decide +kernel
theorem dX2_digest_173 : decode cX2_digest 173 = .ok (.lstore_n 1, 1) := by decide +kernel
theorem dX2_digest_174 : decode cX2_digest 174 = .ok (.iinc 4 1, 3) := by decide +kernel
theorem dX2_digest_177 : decode cX2_digest 177 = .ok (.goto (-24), 3) := by decide +kernel
theorem dX2_digest_180 : decode cX2_digest 180 = .ok (.iinc 3 1, 3) := by decide +kernel
theorem dX2_digest_183 : decode cX2_digest 183 = .ok (.goto (-44), 3) := by decide +kernel
theorem dX2_digest_186 : decode cX2_digest 186 = .ok (.iconst 0, 1) := by decide +kernel
theorem dX2_digest_187 : decode cX2_digest 187 = .ok (.istore_n 3, 1) := by decide +kernel
theorem dX2_digest_188 : decode cX2_digest 188 = .ok (.iload_n 3, 1) := by decide +kernel
theorem dX2_digest_189 : decode cX2_digest 189 = .ok (.aload_n 0, 1) := by decide +kernel
theorem dX2_digest_190 : decode cX2_digest 190 = .ok (.getfield 33, 3) := by decide +kernel
theorem dX2_digest_193 : decode cX2_digest 193 = .ok (.if_icmp .ge 23, 3) := by decide +kernel
theorem dX2_digest_196 : decode cX2_digest 196 = .ok (.ldc2_w 210, 3) := by decide +kernel
theorem dX2_digest_199 : decode cX2_digest 199 = .ok (.lload_n 1, 1) := by decide +kernel
theorem dX2_digest_200 : decode cX2_digest 200 = .ok (.lmul, 1) := by decide +kernel
theorem dX2_digest_201 : decode cX2_digest 201 = .ok (.aload_n 0, 1) := by decide +kernel
theorem dX2_digest_202 : decode cX2_digest 202 = .ok (.getfield 29, 3) := by decide +kernel
theorem dX2_digest_205 : decode cX2_digest 205 = .ok (.iload_n 3, 1) := by decide +kernel
theorem dX2_digest_206 : decode cX2_digest 206 = .ok (.iaload, 1) := by decide +kernel
theorem dX2_digest_207 : decode cX2_digest 207 = .ok (.i2l, 1) := by decide +kernel
theorem dX2_digest_208 : decode cX2_digest 208 = .ok (.ladd, 1) := by decide +kernel
theorem dX2_digest_209 : decode cX2_digest 209 = .ok (.lstore_n 1, 1) := by decide +kernel
theorem dX2_digest_210 : decode cX2_digest 210 = .ok (.iinc 3 1, 3) := by decide +kernel
theorem dX2_digest_213 : decode cX2_digest 213 = .ok (.goto (-25), 3) := by decide +kernel
theorem dX2_digest_216 : decode cX2_digest 216 = .ok (.iconst 0, 1) := by decide +kernel
theorem dX2_digest_217 : decode cX2_digest 217 = .ok (.istore_n 3, 1) := by decide +kernel
theorem dX2_digest_218 : decode cX2_digest 218 = .ok (.iload_n 3, 1) := by decide +kernel
theorem dX2_digest_219 : decode cX2_digest 219 = .ok (.bipush 11, 2) := by decide +kernel
theorem dX2_digest_221 : decode cX2_digest 221 = .ok (.if_icmp .gt 22, 3) := by decide +kernel
theorem dX2_digest_224 : decode cX2_digest 224 = .ok (.ldc2_w 210, 3) := by decide +kernel
theorem dX2_digest_227 : decode cX2_digest 227 = .ok (.lload_n 1, 1) := by decide +kernel
theorem dX2_digest_228 : decode cX2_digest 228 = .ok (.lmul, 1) := by decide +kernel
theorem dX2_digest_229 : decode cX2_digest 229 = .ok (.aload_n 0, 1) := by decide +kernel
theorem dX2_digest_230 : decode cX2_digest 230 = .ok (.iload_n 3, 1) := by decide +kernel
theorem dX2_digest_231 : decode cX2_digest 231 = .ok (.invokevirtual 227, 3) := by decide +kernel
theorem dX2_digest_234 : decode cX2_digest 234 = .ok (.i2l, 1) := by decide +kernel
theorem dX2_digest_235 : decode cX2_digest 235 = .ok (.ladd, 1) := by decide +kernel
theorem dX2_digest_236 : decode cX2_digest 236 = .ok (.lstore_n 1, 1) := by decide +kernel
theorem dX2_digest_237 : decode cX2_digest 237 = .ok (.iinc 3 1, 3) := by decide +kernel
theorem dX2_digest_240 : decode cX2_digest 240 = .ok (.goto (-22), 3) := by decide +kernel
theorem dX2_digest_243 : decode cX2_digest 243 = .ok (.lload_n 1, 1) := by decide +kernel
theorem dX2_digest_244 : decode cX2_digest 244 = .ok (.lreturn, 1) := by decide +kernel
theorem dX2_within_0 : decode cX2_within 0 = .ok (.iload_n 0, 1) := by decide +kernel
theorem dX2_within_1 : decode cX2_within 1 = .ok (.iload_n 1, 1) := by decide +kernel
theorem dX2_within_2 : decode cX2_within 2 = .ok (.if_icmp .lt 12, 3) := by decide +kernel
theorem dX2_within_5 : decode cX2_within 5 = .ok (.iload_n 0, 1) := by decide +kernel
theorem dX2_within_6 : decode cX2_within 6 = .ok (.iload_n 2, 1) := by decide +kernel
theorem dX2_within_7 : decode cX2_within 7 = .ok (.if_icmp .gt 7, 3) := by decide +kernel
theorem dX2_within_10 : decode cX2_within 10 = .ok (.iconst 1, 1) := by decide +kernel
theorem dX2_within_11 : decode cX2_within 11 = .ok (.goto 4, 3) := by decide +kernel
theorem dX2_within_14 : decode cX2_within 14 = .ok (.iconst 0, 1) := by decide +kernel
theorem dX2_within_15 : decode cX2_within 15 = .ok (.ireturn, 1) := by decide +kernel
theorem dJ6_bitCount_0f7a4_0 : decode cJ6_bitCount_0f7a4 0 = .ok (.iload_n 0, 1) := by decide +kernel
theorem dJ6_bitCount_0f7a4_1 : decode cJ6_bitCount_0f7a4 1 = .ok (.iload_n 0, 1) := by decide +kernel
theorem dJ6_bitCount_0f7a4_2 : decode cJ6_bitCount_0f7a4 2 = .ok (.iconst 1, 1) := by decide +kernel
theorem dJ6_bitCount_0f7a4_3 : decode cJ6_bitCount_0f7a4 3 = .ok (.iushr, 1) := by decide +kernel
theorem dJ6_bitCount_0f7a4_4 : decode cJ6_bitCount_0f7a4 4 = .ok (.ldc_w 265, 3) := by decide +kernel
theorem dJ6_bitCount_0f7a4_7 : decode cJ6_bitCount_0f7a4 7 = .ok (.iand, 1) := by decide +kernel
theorem dJ6_bitCount_0f7a4_8 : decode cJ6_bitCount_0f7a4 8 = .ok (.isub, 1) := by decide +kernel
theorem dJ6_bitCount_0f7a4_9 : decode cJ6_bitCount_0f7a4 9 = .ok (.istore_n 0, 1) := by decide +kernel
theorem dJ6_bitCount_0f7a4_10 : decode cJ6_bitCount_0f7a4 10 = .ok (.iload_n 0, 1) := by decide +kernel
theorem dJ6_bitCount_0f7a4_11 : decode cJ6_bitCount_0f7a4 11 = .ok (.ldc_w 266, 3) := by decide +kernel
theorem dJ6_bitCount_0f7a4_14 : decode cJ6_bitCount_0f7a4 14 = .ok (.iand, 1) := by decide +kernel
theorem dJ6_bitCount_0f7a4_15 : decode cJ6_bitCount_0f7a4 15 = .ok (.iload_n 0, 1) := by decide +kernel
theorem dJ6_bitCount_0f7a4_16 : decode cJ6_bitCount_0f7a4 16 = .ok (.iconst 2, 1) := by decide +kernel
theorem dJ6_bitCount_0f7a4_17 : decode cJ6_bitCount_0f7a4 17 = .ok (.iushr, 1) := by decide +kernel
theorem dJ6_bitCount_0f7a4_18 : decode cJ6_bitCount_0f7a4 18 = .ok (.ldc_w 266, 3) := by decide +kernel
theorem dJ6_bitCount_0f7a4_21 : decode cJ6_bitCount_0f7a4 21 = .ok (.iand, 1) := by decide +kernel
theorem dJ6_bitCount_0f7a4_22 : decode cJ6_bitCount_0f7a4 22 = .ok (.iadd, 1) := by decide +kernel
theorem dJ6_bitCount_0f7a4_23 : decode cJ6_bitCount_0f7a4 23 = .ok (.istore_n 0, 1) := by decide +kernel
theorem dJ6_bitCount_0f7a4_24 : decode cJ6_bitCount_0f7a4 24 = .ok (.iload_n 0, 1) := by decide +kernel
theorem dJ6_bitCount_0f7a4_25 : decode cJ6_bitCount_0f7a4 25 = .ok (.iload_n 0, 1) := by decide +kernel
theorem dJ6_bitCount_0f7a4_26 : decode cJ6_bitCount_0f7a4 26 = .ok (.iconst 4, 1) := by decide +kernel
theorem dJ6_bitCount_0f7a4_27 : decode cJ6_bitCount_0f7a4 27 = .ok (.iushr, 1) := by decide +kernel
theorem dJ6_bitCount_0f7a4_28 : decode cJ6_bitCount_0f7a4 28 = .ok (.iadd, 1) := by decide +kernel
theorem dJ6_bitCount_0f7a4_29 : decode cJ6_bitCount_0f7a4 29 = .ok (.ldc_w 267, 3) := by decide +kernel
theorem dJ6_bitCount_0f7a4_32 : decode cJ6_bitCount_0f7a4 32 = .ok (.iand, 1) := by decide +kernel
theorem dJ6_bitCount_0f7a4_33 : decode cJ6_bitCount_0f7a4 33 = .ok (.istore_n 0, 1) := by decide +kernel
theorem dJ6_bitCount_0f7a4_34 : decode cJ6_bitCount_0f7a4 34 = .ok (.iload_n 0, 1) := by decide +kernel
theorem dJ6_bitCount_0f7a4_35 : decode cJ6_bitCount_0f7a4 35 = .ok (.iload_n 0, 1) := by decide +kernel
theorem dJ6_bitCount_0f7a4_36 : decode cJ6_bitCount_0f7a4 36 = .ok (.bipush 8, 2) := by decide +kernel
theorem dJ6_bitCount_0f7a4_38 : decode cJ6_bitCount_0f7a4 38 = .ok (.iushr, 1) := by decide +kernel
theorem dJ6_bitCount_0f7a4_39 : decode cJ6_bitCount_0f7a4 39 = .ok (.iadd, 1) := by decide +kernel
theorem dJ6_bitCount_0f7a4_40 : decode cJ6_bitCount_0f7a4 40 = .ok (.istore_n 0, 1) := by decide +kernel
theorem dJ6_bitCount_0f7a4_41 : decode cJ6_bitCount_0f7a4 41 = .ok (.iload_n 0, 1) := by decide +kernel
theorem dJ6_bitCount_0f7a4_42 : decode cJ6_bitCount_0f7a4 42 = .ok (.iload_n 0, 1) := by decide +kernel
theorem dJ6_bitCount_0f7a4_43 : decode cJ6_bitCount_0f7a4 43 = .ok (.bipush 16, 2) := by decide +kernel
theorem dJ6_bitCount_0f7a4_45 : decode cJ6_bitCount_0f7a4 45 = .ok (.iushr, 1) := by decide +kernel
theorem dJ6_bitCount_0f7a4_46 : decode cJ6_bitCount_0f7a4 46 = .ok (.iadd, 1) := by decide +kernel
theorem dJ6_bitCount_0f7a4_47 : decode cJ6_bitCount_0f7a4 47 = .ok (.istore_n 0, 1) := by decide +kernel
theorem dJ6_bitCount_0f7a4_48 : decode cJ6_bitCount_0f7a4 48 = .ok (.iload_n 0, 1) := by decide +kernel
theorem dJ6_bitCount_0f7a4_49 : decode cJ6_bitCount_0f7a4 49 = .ok (.bipush 63, 2) := by decide +kernel
theorem dJ6_bitCount_0f7a4_51 : decode cJ6_bitCount_0f7a4 51 = .ok (.iand, 1) := by decide +kernel
theorem dJ6_bitCount_0f7a4_52 : decode cJ6_bitCount_0f7a4 52 = .ok (.ireturn, 1) := by decide +kernel
theorem dJ9_max_7cf53_0 : decode cJ9_max_7cf53 0 = .ok (.iload_n 0, 1) := by decide +kernel
theorem dJ9_max_7cf53_1 : decode cJ9_max_7cf53 1 = .ok (.iload_n 1, 1) := by decide +kernel
theorem dJ9_max_7cf53_2 : decode cJ9_max_7cf53 2 = .ok (.if_icmp .lt 7, 3) := by decide +kernel
theorem dJ9_max_7cf53_5 : decode cJ9_max_7cf53 5 = .ok (.iload_n 0, 1) := by decide +kernel
theorem dJ9_max_7cf53_6 : decode cJ9_max_7cf53 6 = .ok (.goto 4, 3) := by decide +kernel
theorem dJ9_max_7cf53_9 : decode cJ9_max_7cf53 9 = .ok (.iload_n 1, 1) := by decide +kernel
theorem dJ9_max_7cf53_10 : decode cJ9_max_7cf53 10 = .ok (.ireturn, 1) := by decide +kernel
end
section
theorem dX3_init_0 : decode cX3_init 0 = .ok (.aload_n 0, 1) := by decide +kernel
theorem dX3_init_1 : decode cX3_init 1 = .ok (.invokespecial 1, 3) := by decide +kernel
theorem dX3_init_4 : decode cX3_init 4 = .ok (.aload_n 0, 1) := by decide +kernel
theorem dX3_init_5 : decode cX3_init 5 = .ok (.bipush 8, 2) := by decide +kernel
theorem dX3_init_7 : decode cX3_init 7 = .ok (.newarray .int, 2) := by decide +kernel
theorem dX3_init_9 : decode cX3_init 9 = .ok (.putfield 7, 3) := by decide +kernel
theorem dX3_init_12 : decode cX3_init 12 = .ok (.aload_n 0, 1) := by decide +kernel
theorem dX3_init_13 : decode cX3_init 13 = .ok (.bipush 16, 2) := by decide +kernel
theorem dX3_init_15 : decode cX3_init 15 = .ok (.newarray .int, 2) := by decide +kernel
theorem dX3_init_17 : decode cX3_init 17 = .ok (.putfield 13, 3) := by decide +kernel
theorem dX3_init_20 : decode cX3_init 20 = .ok (.aload_n 0, 1) := by decide +kernel
theorem dX3_init_21 : decode cX3_init 21 = .ok (.bipush 30, 2) := by decide +kernel
theorem dX3_init_23 : decode cX3_init 23 = .ok (.newarray .int, 2) := by decide +kernel
theorem dX3_init_25 : decode cX3_init 25 = .ok (.putfield 16, 3) := by decide +kernel
theorem dX3_init_28 : decode cX3_init 28 = .ok (.aload_n 0, 1) := by decide +kernel
theorem dX3_init_29 : decode cX3_init 29 = .ok (.bipush 16, 2) := by decide +kernel
theorem dX3_init_31 : decode cX3_init 31 = .ok (.newarray .int, 2) := by decide +kernel
theorem dX3_init_33 : decode cX3_init 33 = .ok (.putfield 19, 3) := by decide +kernel
theorem dX3_init_36 : decode cX3_init 36 = .ok (.aload_n 0, 1) := by decide +kernel
theorem dX3_init_37 : decode cX3_init 37 = .ok (.bipush 30, 2) := by decide +kernel
theorem dX3_init_39 : decode cX3_init 39 = .ok (.newarray .int, 2) := by decide +kernel
theorem dX3_init_41 : decode cX3_init 41 = .ok (.putfield 22, 3) := by decide +kernel
theorem dX3_init_44 : decode cX3_init 44 = .ok (.aload_n 0, 1) := by decide +kernel
theorem dX3_init_45 : decode cX3_init 45 = .ok (.bipush 16, 2) := by decide +kernel
theorem dX3_init_47 : decode cX3_init 47 = .ok (.newarray .int, 2) := by decide +kernel
theorem dX3_init_49 : decode cX3_init 49 = .ok (.putfield 25, 3) := by decide +kernel
theorem dX3_init_52 : decode cX3_init 52 = .ok (.aload_n 0, 1) := by decide +kernel
theorem dX3_init_53 : decode cX3_init 53 = .ok (.bipush 30, 2) := by decide +kernel
theorem dX3_init_55 : decode cX3_init 55 = .ok (.newarray .int, 2) := by decide +kernel
theorem dX3_init_57 : decode cX3_init 57 = .ok (.putfield 28, 3) := by decide +kernel
theorem dX3_init_60 : decode cX3_init 60 = .ok (.aload_n 0, 1) := by decide +kernel
theorem dX3_init_61 : decode cX3_init 61 = .ok (.iconst 4, 1) := by decide +kernel
theorem dX3_init_62 : decode cX3_init 62 = .ok (.newarray .int, 2) := by decide +kernel
theorem dX3_init_64 : decode cX3_init 64 = .ok (.putfield 31, 3) := by decide +kernel
theorem dX3_init_67 : decode cX3_init 67 = .ok (.aload_n 0, 1) := by decide +kernel
theorem dX3_init_68 : decode cX3_init 68 = .ok (.iconst 1, 1) := by decide +kernel
theorem dX3_init_69 : decode cX3_init 69 = .ok (.putfield 34, 3) := by decide +kernel
theorem dX3_init_72 : decode cX3_init 72 = .ok (.aload_n 0, 1) := by decide +kernel
theorem dX3_init_73 : decode cX3_init 73 = .ok (.iconst 1, 1) := by decide +kernel
theorem dX3_init_74 : decode cX3_init 74 = .ok (.putfield 38, 3) := by decide +kernel
theorem dX3_init_77 : decode cX3_init 77 = .ok (.aload_n 0, 1) := by decide +kernel
theorem dX3_init_78 : decode cX3_init 78 = .ok (.iconst 1, 1) := by decide +kernel
theorem dX3_init_79 : decode cX3_init 79 = .ok (.putfield 41, 3) := by decide +kernel
theorem dX3_init_82 : decode cX3_init 82 = .ok (.aload_n 0, 1) := by decide +kernel
theorem dX3_init_83 : decode cX3_init 83 = .ok (.iconst (-1), 1) := by decide +kernel
theorem dX3_init_84 : decode cX3_init 84 = .ok (.putfield 44, 3) := by decide +kernel
theorem dX3_init_87 : decode cX3_init 87 = .ok (.return_, 1) := by decide +kernel
theorem dX3_in_0 : decode cX3_in 0 = .ok (.lload_n 0, 1) := by decide +kernel
theorem dX3_in_1 : decode cX3_in 1 = .ok (.lload_n 2, 1) := by decide +kernel
theorem dX3_in_2 : decode cX3_in 2 = .ok (.lcmp, 1) := by decide +kernel
theorem dX3_in_3 : decode cX3_in 3 = .ok (.ifCond .lt 14, 3) := by decide +kernel
theorem dX3_in_6 : decode cX3_in 6 = .ok (.lload_n 0, 1) := by decide +kernel
theorem dX3_in_7 : decode cX3_in 7 = .ok (.lload 4, 2) := by decide +kernel
theorem dX3_in_9 : decode cX3_in 9 = .ok (.lcmp, 1) := by decide +kernel
theorem dX3_in_10 : decode cX3_in 10 = .ok (.ifCond .gt 7, 3) := by decide +kernel
theorem dX3_in_13 : decode cX3_in 13 = .ok (.iconst 1, 1) := by decide +kernel
theorem dX3_in_14 : decode cX3_in 14 = .ok (.goto 4, 3) := by decide +kernel
theorem dX3_in_17 : decode cX3_in 17 = .ok (.iconst 0, 1) := by decide +kernel
theorem dX3_in_18 : decode cX3_in 18 = .ok (.ireturn, 1) := by decide +kernel
set_option maxRecDepth 20000 in
theorem ggX3_letter_X3_in : GoodIn wsX3_letter wsX3_in := goodIn_r _ [7] (by decide +kernel) (by decide +kernel)
set_option maxRecDepth 20000 in
theorem gX3_letter_X3_in : GoodIn wsX3_letter (va_wsS RX3 49 yX3_in wsX3_in) := goodIn_app (goodIn_of _ (by decide +kernel)) ggX3_letter_X3_in
theorem dX3_letter_0 : decode cX3_letter 0 = .ok (.iload_n 1, 1) := by decide +kernel
theorem dX3_letter_1 : decode cX3_letter 1 = .ok (.i2l, 1) := by decide +kernel
theorem dX3_letter_2 : decode cX3_letter 2 = .ok (.lconst 1, 1) := by decide +kernel
theorem dX3_letter_3 : decode cX3_letter 3 = .ok (.ldc2_w 47, 3) := by decide +kernel
theorem dX3_letter_6 : decode cX3_letter 6 = .ok (.invokestatic 49, 3) := by decide +kernel
theorem dX3_letter_9 : decode cX3_letter 9 = .ok (.ifCond .ne 6, 3) := by decide +kernel
theorem dX3_letter_12 : decode cX3_letter 12 = .ok (.bipush (-102), 2) := by decide +kernel
theorem dX3_letter_14 : decode cX3_letter 14 = .ok (.ireturn, 1) := by decide +kernel
theorem dX3_letter_15 : decode cX3_letter 15 = .ok (.aload_n 0, 1) := by decide +kernel
theorem dX3_letter_16 : decode cX3_letter 16 = .ok (.getfield 53, 3) := by decide +kernel
theorem dX3_letter_19 : decode cX3_letter 19 = .ok (.bipush 8, 2) := by decide +kernel
theorem dX3_letter_21 : decode cX3_letter 21 = .ok (.if_icmp .ne 6, 3) := by decide +kernel
theorem dX3_letter_24 : decode cX3_letter 24 = .ok (.bipush (-104), 2) := by decide +kernel
theorem dX3_letter_26 : decode cX3_letter 26 = .ok (.ireturn, 1) := by decide +kernel
theorem dX3_letter_27 : decode cX3_letter 27 = .ok (.aload_n 0, 1) := by decide +kernel
theorem dX3_letter_28 : decode cX3_letter 28 = .ok (.getfield 7, 3) := by decide +kernel
theorem dX3_letter_31 : decode cX3_letter 31 = .ok (.aload_n 0, 1) := by decide +kernel
theorem dX3_letter_32 : decode cX3_letter 32 = .ok (.getfield 53, 3) := by decide +kernel
theorem dX3_letter_35 : decode cX3_letter 35 = .ok (.iload_n 1, 1) := by decide +kernel
theorem dX3_letter_36 : decode cX3_letter 36 = .ok (.iastore, 1) := by decide +kernel
theorem dX3_letter_37 : decode cX3_letter 37 = .ok (.aload_n 0, 1) := by decide +kernel
theorem dX3_letter_38 : decode cX3_letter 38 = .ok (.dup, 1) := by decide +kernel
theorem dX3_letter_39 : decode cX3_letter 39 = .ok (.getfield 53, 3) := by decide +kernel
theorem dX3_letter_42 : decode cX3_letter 42 = .ok (.iconst 1, 1) := by decide +kernel
theorem dX3_letter_43 : decode cX3_letter 43 = .ok (.iadd, 1) := by decide +kernel
theorem dX3_letter_44 : decode cX3_letter 44 = .ok (.putfield 53, 3) := by decide +kernel
theorem dX3_letter_47 : decode cX3_letter 47 = .ok (.aload_n 0, 1) := by decide +kernel
theorem dX3_letter_48 : decode cX3_letter 48 = .ok (.getfield 53, 3) := by decide +kernel
theorem dX3_letter_51 : decode cX3_letter 51 = .ok (.ireturn, 1) := by decide +kernel
theorem dX3_blank_0 : decode cX3_blank 0 = .ok (.aload_n 0, 1) := by decide +kernel
theorem dX3_blank_1 : decode cX3_blank 1 = .ok (.getfield 53, 3) := by decide +kernel
theorem dX3_blank_4 : decode cX3_blank 4 = .ok (.istore_n 1, 1) := by decide +kernel
theorem dX3_blank_5 : decode cX3_blank 5 = .ok (.aload_n 0, 1) := by decide +kernel
theorem dX3_blank_6 : decode cX3_blank 6 = .ok (.iconst 0, 1) := by decide +kernel
theorem dX3_blank_7 : decode cX3_blank 7 = .ok (.putfield 53, 3) := by decide +kernel
theorem dX3_blank_10 : decode cX3_blank 10 = .ok (.iload_n 1, 1) := by decide +kernel
theorem dX3_blank_11 : decode cX3_blank 11 = .ok (.ireturn, 1) := by decide +kernel
set_option maxRecDepth 20000 in
theorem ggX3_isGood_X3_in : GoodIn wsX3_isGood wsX3_in := goodIn_r _ [7] (by decide +kernel) (by decide +kernel)
set_option maxRecDepth 20000 in
theorem gX3_isGood_X3_in : GoodIn wsX3_isGood (va_wsS RX3 49 yX3_in wsX3_in) := goodIn_app (goodIn_of _ (by decide +kernel)) ggX3_isGood_X3_in
theorem dX3_isGood_0 : decode cX3_isGood 0 = .ok (.iload_n 1, 1) := by decide +kernel
theorem dX3_isGood_1 : decode cX3_isGood 1 = .ok (.bipush 48, 2) := by decide +kernel
theorem dX3_isGood_3 : decode cX3_isGood 3 = .ok (.isub, 1) := by decide +kernel
theorem dX3_isGood_4 : decode cX3_isGood 4 = .ok (.istore_n 2, 1) := by decide +kernel
theorem dX3_isGood_5 : decode cX3_isGood 5 = .ok (.iload_n 0, 1) := by decide +kernel
theorem dX3_isGood_6 : decode cX3_isGood 6 = .ok (.iconst 2, 1) := by decide +kernel
theorem dX3_isGood_7 : decode cX3_isGood 7 = .ok (.if_icmp .ge 15, 3) := by decide +kernel
theorem dX3_isGood_10 : decode cX3_isGood 10 = .ok (.iload_n 2, 1) := by decide +kernel
theorem dX3_isGood_11 : decode cX3_isGood 11 = .ok (.i2l, 1) := by decide +kernel
theorem dX3_isGood_12 : decode cX3_isGood 12 = .ok (.lconst 0, 1) := by decide +kernel
theorem dX3_isGood_13 : decode cX3_isGood 13 = .ok (.ldc2_w 56, 3) := by decide +kernel
theorem dX3_isGood_16 : decode cX3_isGood 16 = .ok (.invokestatic 49, 3) := by decide +kernel
theorem dX3_isGood_19 : decode cX3_isGood 19 = .ok (.goto 61, 3) := by decide +kernel
theorem dX3_isGood_22 : decode cX3_isGood 22 = .ok (.iload_n 0, 1) := by decide +kernel
theorem dX3_isGood_23 : decode cX3_isGood 23 = .ok (.iconst 2, 1) := by decide +kernel
theorem dX3_isGood_24 : decode cX3_isGood 24 = .ok (.if_icmp .ne 15, 3) := by decide +kernel
theorem dX3_isGood_27 : decode cX3_isGood 27 = .ok (.iload_n 2, 1) := by decide +kernel
theorem dX3_isGood_28 : decode cX3_isGood 28 = .ok (.i2l, 1) := by decide +kernel
theorem dX3_isGood_29 : decode cX3_isGood 29 = .ok (.lconst 0, 1) := by decide +kernel
theorem dX3_isGood_30 : decode cX3_isGood 30 = .ok (.ldc2_w 58, 3) := by decide +kernel
theorem dX3_isGood_33 : decode cX3_isGood 33 = .ok (.invokestatic 49, 3) := by decide +kernel
theorem dX3_isGood_36 : decode cX3_isGood 36 = .ok (.goto 44, 3) := by decide +kernel
theorem dX3_isGood_39 : decode cX3_isGood 39 = .ok (.iload_n 0, 1) := by decide +kernel
theorem dX3_isGood_40 : decode cX3_isGood 40 = .ok (.iconst 3, 1) := by decide +kernel
theorem dX3_isGood_41 : decode cX3_isGood 41 = .ok (.if_icmp .ne 17, 3) := by decide +kernel
theorem dX3_isGood_44 : decode cX3_isGood 44 = .ok (.iload_n 1, 1) := by decide +kernel
theorem dX3_isGood_45 : decode cX3_isGood 45 = .ok (.bipush 59, 2) := by decide +kernel
theorem dX3_isGood_47 : decode cX3_isGood 47 = .ok (.if_icmp .ne 7, 3) := by decide +kernel
theorem dX3_isGood_50 : decode cX3_isGood 50 = .ok (.iconst 1, 1) := by decide +kernel
theorem dX3_isGood_51 : decode cX3_isGood 51 = .ok (.goto 29, 3) := by decide +kernel
theorem dX3_isGood_54 : decode cX3_isGood 54 = .ok (.iconst 0, 1) := by decide +kernel
theorem dX3_isGood_55 : decode cX3_isGood 55 = .ok (.goto 25, 3) := by decide +kernel
theorem dX3_isGood_58 : decode cX3_isGood 58 = .ok (.iload_n 0, 1) := by decide +kernel
theorem dX3_isGood_59 : decode cX3_isGood 59 = .ok (.iconst 4, 1) := by decide +kernel
theorem dX3_isGood_60 : decode cX3_isGood 60 = .ok (.if_icmp .ne 19, 3) := by decide +kernel
theorem dX3_isGood_63 : decode cX3_isGood 63 = .ok (.iload_n 2, 1) := by decide +kernel
theorem dX3_isGood_64 : decode cX3_isGood 64 = .ok (.i2l, 1) := by decide +kernel
theorem dX3_isGood_65 : decode cX3_isGood 65 = .ok (.lconst 0, 1) := by decide +kernel
theorem dX3_isGood_66 : decode cX3_isGood 66 = .ok (.ldc2_w 60, 3) := by decide +kernel
theorem dX3_isGood_69 : decode cX3_isGood 69 = .ok (.invokestatic 49, 3) := by decide +kernel
theorem dX3_isGood_72 : decode cX3_isGood 72 = .ok (.ifCond .eq 7, 3) := by decide +kernel
theorem dX3_isGood_75 : decode cX3_isGood 75 = .ok (.iconst 1, 1) := by decide +kernel
theorem dX3_isGood_76 : decode cX3_isGood 76 = .ok (.goto 4, 3) := by decide +kernel
theorem dX3_isGood_79 : decode cX3_isGood 79 = .ok (.iconst 0, 1) := by decide +kernel
theorem dX3_isGood_80 : decode cX3_isGood 80 = .ok (.ireturn, 1) := by decide +kernel
set_option maxRecDepth 20000 in
theorem ggX3_faultOf_X3_isGood : GoodIn wsX3_faultOf wsX3_isGood := goodIn_r _ [6, 7, 8, 9, 10, 11, 5, 12] (by decide +kernel) (by decide +kernel)
set_option maxRecDepth 20000 in
theorem gX3_faultOf_X3_isGood : GoodIn wsX3_faultOf (va_wsS RX3 62 yX3_isGood wsX3_isGood) := goodIn_app (goodIn_of _ (by decide +kernel)) ggX3_faultOf_X3_isGood
theorem dX3_faultOf_0 : decode cX3_faultOf 0 = .ok (.iconst 0, 1) := by decide +kernel
theorem dX3_faultOf_1 : decode cX3_faultOf 1 = .ok (.istore_n 1, 1) := by decide +kernel
theorem dX3_faultOf_2 : decode cX3_faultOf 2 = .ok (.iload_n 1, 1) := by decide +kernel
theorem dX3_faultOf_3 : decode cX3_faultOf 3 = .ok (.aload_n 0, 1) := by decide +kernel
theorem dX3_faultOf_4 : decode cX3_faultOf 4 = .ok (.getfield 53, 3) := by decide +kernel
theorem dX3_faultOf_7 : decode cX3_faultOf 7 = .ok (.if_icmp .ge 22, 3) := by decide +kernel
theorem dX3_faultOf_10 : decode cX3_faultOf 10 = .ok (.iload_n 1, 1) := by decide +kernel
theorem dX3_faultOf_11 : decode cX3_faultOf 11 = .ok (.aload_n 0, 1) := by decide +kernel
theorem dX3_faultOf_12 : decode cX3_faultOf 12 = .ok (.getfield 7, 3) := by decide +kernel
theorem dX3_faultOf_15 : decode cX3_faultOf 15 = .ok (.iload_n 1, 1) := by decide +kernel
theorem dX3_faultOf_16 : decode cX3_faultOf 16 = .ok (.iaload, 1) := by decide +kernel
theorem dX3_faultOf_17 : decode cX3_faultOf 17 = .ok (.invokestatic 62, 3) := by decide +kernel
theorem dX3_faultOf_20 : decode cX3_faultOf 20 = .ok (.ifCond .eq 9, 3) := by decide +kernel
theorem dX3_faultOf_23 : decode cX3_faultOf 23 = .ok (.iinc 1 1, 3) := by decide +kernel
theorem dX3_faultOf_26 : decode cX3_faultOf 26 = .ok (.goto (-24), 3) := by decide +kernel
theorem dX3_faultOf_29 : decode cX3_faultOf 29 = .ok (.iload_n 1, 1) := by decide +kernel
theorem dX3_faultOf_30 : decode cX3_faultOf 30 = .ok (.ireturn, 1) := by decide +kernel
set_option maxRecDepth 20000 in
theorem ggX3_fault_X3_faultOf : GoodIn wsX3_fault wsX3_faultOf := goodIn_r _ [5, 6, 7, 8, 9, 4, 10, 11, 12, 13, 14, 15, 16, 17, 18, 19, 20, 21, 22, 23, 24, 25, 26, 27, 28, 29, 30, 31, 32, 33, 34, 35, 36, 37, 38, 39, 40] (by decide +kernel) (by decide +kernel)
set_option maxRecDepth 20000 in
theorem gX3_fault_X3_faultOf : GoodIn wsX3_fault (wsV RX3 66 RX3 yX3_faultOf wsX3_faultOf) := goodIn_app (goodIn_of _ (by decide +kernel)) ggX3_fault_X3_faultOf
theorem dX3_fault_0 : decode cX3_fault 0 = .ok (.aload_n 0, 1) := by decide +kernel
theorem dX3_fault_1 : decode cX3_fault 1 = .ok (.invokevirtual 66, 3) := by decide +kernel
theorem dX3_fault_4 : decode cX3_fault 4 = .ok (.ireturn, 1) := by decide +kernel
set_option maxRecDepth 20000 in
theorem ggX3_law_X3_faultOf : GoodIn wsX3_law wsX3_faultOf := goodIn_r _ [12, 1, 2, 13, 14, 11, 15, 16, 17, 18, 19, 20, 21, 22, 23, 24, 25, 26, 27, 28, 29, 30, 31, 32, 33, 34, 35, 36, 37, 38, 39, 40, 41, 42, 43, 44, 45] (by decide +kernel) (by decide +kernel)
set_option maxRecDepth 20000 in
theorem gX3_law_X3_faultOf : GoodIn wsX3_law (wsV RX3 66 RX3 yX3_faultOf wsX3_faultOf) := goodIn_app (goodIn_of _ (by decide +kernel)) ggX3_law_X3_faultOf
theorem dX3_law_0 : decode cX3_law 0 = .ok (.aload_n 0, 1) := by decide +kernel
theorem dX3_law_1 : decode cX3_law 1 = .ok (.getfield 53, 3) := by decide +kernel
theorem dX3_law_4 : decode cX3_law 4 = .ok (.iconst 5, 1) := by decide +kernel
theorem dX3_law_5 : decode cX3_law 5 = .ok (.if_icmp .ne 11, 3) := by decide +kernel
theorem dX3_law_8 : decode cX3_law 8 = .ok (.aload_n 0, 1) := by decide +kernel
theorem dX3_law_9 : decode cX3_law 9 = .ok (.invokevirtual 66, 3) := by decide +kernel
theorem dX3_law_12 : decode cX3_law 12 = .ok (.iconst 5, 1) := by decide +kernel
theorem dX3_law_13 : decode cX3_law 13 = .ok (.if_icmp .ge 6, 3) := by decide +kernel
theorem dX3_law_16 : decode cX3_law 16 = .ok (.bipush (-103), 2) := by decide +kernel
theorem dX3_law_18 : decode cX3_law 18 = .ok (.ireturn, 1) := by decide +kernel
theorem dX3_law_19 : decode cX3_law 19 = .ok (.aload_n 0, 1) := by decide +kernel
theorem dX3_law_20 : decode cX3_law 20 = .ok (.aload_n 0, 1) := by decide +kernel
theorem dX3_law_21 : decode cX3_law 21 = .ok (.getfield 7, 3) := by decide +kernel
theorem dX3_law_24 : decode cX3_law 24 = .ok (.iconst 0, 1) := by decide +kernel
theorem dX3_law_25 : decode cX3_law 25 = .ok (.iaload, 1) := by decide +kernel
theorem dX3_law_26 : decode cX3_law 26 = .ok (.bipush 48, 2) := by decide +kernel
theorem dX3_law_28 : decode cX3_law 28 = .ok (.isub, 1) := by decide +kernel
theorem dX3_law_29 : decode cX3_law 29 = .ok (.putfield 34, 3) := by decide +kernel
theorem dX3_law_32 : decode cX3_law 32 = .ok (.aload_n 0, 1) := by decide +kernel
theorem dX3_law_33 : decode cX3_law 33 = .ok (.aload_n 0, 1) := by decide +kernel
theorem dX3_law_34 : decode cX3_law 34 = .ok (.getfield 7, 3) := by decide +kernel
theorem dX3_law_37 : decode cX3_law 37 = .ok (.iconst 1, 1) := by decide +kernel
theorem dX3_law_38 : decode cX3_law 38 = .ok (.iaload, 1) := by decide +kernel
theorem dX3_law_39 : decode cX3_law 39 = .ok (.bipush 48, 2) := by decide +kernel
theorem dX3_law_41 : decode cX3_law 41 = .ok (.isub, 1) := by decide +kernel
theorem dX3_law_42 : decode cX3_law 42 = .ok (.putfield 38, 3) := by decide +kernel
theorem dX3_law_45 : decode cX3_law 45 = .ok (.aload_n 0, 1) := by decide +kernel
theorem dX3_law_46 : decode cX3_law 46 = .ok (.aload_n 0, 1) := by decide +kernel
theorem dX3_law_47 : decode cX3_law 47 = .ok (.getfield 7, 3) := by decide +kernel
theorem dX3_law_50 : decode cX3_law 50 = .ok (.iconst 2, 1) := by decide +kernel
theorem dX3_law_51 : decode cX3_law 51 = .ok (.iaload, 1) := by decide +kernel
theorem dX3_law_52 : decode cX3_law 52 = .ok (.bipush 48, 2) := by decide +kernel
theorem dX3_law_54 : decode cX3_law 54 = .ok (.isub, 1) := by decide +kernel
theorem dX3_law_55 : decode cX3_law 55 = .ok (.putfield 41, 3) := by decide +kernel
theorem dX3_law_58 : decode cX3_law 58 = .ok (.aload_n 0, 1) := by decide +kernel
theorem dX3_law_59 : decode cX3_law 59 = .ok (.aload_n 0, 1) := by decide +kernel
theorem dX3_law_60 : decode cX3_law 60 = .ok (.getfield 7, 3) := by decide +kernel
theorem dX3_law_63 : decode cX3_law 63 = .ok (.iconst 4, 1) := by decide +kernel
theorem dX3_law_64 : decode cX3_law 64 = .ok (.iaload, 1) := by decide +kernel
theorem dX3_law_65 : decode cX3_law 65 = .ok (.bipush 48, 2) := by decide +kernel
theorem dX3_law_67 : decode cX3_law 67 = .ok (.isub, 1) := by decide +kernel
theorem dX3_law_68 : decode cX3_law 68 = .ok (.putfield 70, 3) := by decide +kernel
theorem dX3_law_71 : decode cX3_law 71 = .ok (.aload_n 0, 1) := by decide +kernel
theorem dX3_law_72 : decode cX3_law 72 = .ok (.dup, 1) := by decide +kernel
theorem dX3_law_73 : decode cX3_law 73 = .ok (.getfield 73, 3) := by decide +kernel
theorem dX3_law_76 : decode cX3_law 76 = .ok (.iconst 1, 1) := by decide +kernel
theorem dX3_law_77 : decode cX3_law 77 = .ok (.iadd, 1) := by decide +kernel
theorem dX3_law_78 : decode cX3_law 78 = .ok (.putfield 73, 3) := by decide +kernel
theorem dX3_law_81 : decode cX3_law 81 = .ok (.aload_n 0, 1) := by decide +kernel
theorem dX3_law_82 : decode cX3_law 82 = .ok (.iconst 0, 1) := by decide +kernel
theorem dX3_law_83 : decode cX3_law 83 = .ok (.putfield 53, 3) := by decide +kernel
theorem dX3_law_86 : decode cX3_law 86 = .ok (.aload_n 0, 1) := by decide +kernel
theorem dX3_law_87 : decode cX3_law 87 = .ok (.getfield 73, 3) := by decide +kernel
theorem dX3_law_90 : decode cX3_law 90 = .ok (.ireturn, 1) := by decide +kernel
set_option maxRecDepth 20000 in
theorem ggX3_isHolder_X3_in : GoodIn wsX3_isHolder wsX3_in := goodIn_r _ [5] (by decide +kernel) (by decide +kernel)
set_option maxRecDepth 20000 in
theorem gX3_isHolder_X3_in : GoodIn wsX3_isHolder (va_wsS RX3 49 yX3_in wsX3_in) := goodIn_app (goodIn_of _ (by decide +kernel)) ggX3_isHolder_X3_in
theorem dX3_isHolder_0 : decode cX3_isHolder 0 = .ok (.iload_n 1, 1) := by decide +kernel
theorem dX3_isHolder_1 : decode cX3_isHolder 1 = .ok (.i2l, 1) := by decide +kernel
theorem dX3_isHolder_2 : decode cX3_isHolder 2 = .ok (.lconst 0, 1) := by decide +kernel
theorem dX3_isHolder_3 : decode cX3_isHolder 3 = .ok (.aload_n 0, 1) := by decide +kernel
theorem dX3_isHolder_4 : decode cX3_isHolder 4 = .ok (.getfield 76, 3) := by decide +kernel
theorem dX3_isHolder_7 : decode cX3_isHolder 7 = .ok (.iconst 1, 1) := by decide +kernel
theorem dX3_isHolder_8 : decode cX3_isHolder 8 = .ok (.isub, 1) := by decide +kernel
theorem dX3_isHolder_9 : decode cX3_isHolder 9 = .ok (.i2l, 1) := by decide +kernel
theorem dX3_isHolder_10 : decode cX3_isHolder 10 = .ok (.invokestatic 49, 3) := by decide +kernel
theorem dX3_isHolder_13 : decode cX3_isHolder 13 = .ok (.ireturn, 1) := by decide +kernel
set_option maxRecDepth 20000 in
theorem ggX3_isBeast_X3_in : GoodIn wsX3_isBeast wsX3_in := goodIn_r _ [5] (by decide +kernel) (by decide +kernel)
set_option maxRecDepth 20000 in
theorem gX3_isBeast_X3_in : GoodIn wsX3_isBeast (va_wsS RX3 49 yX3_in wsX3_in) := goodIn_app (goodIn_of _ (by decide +kernel)) ggX3_isBeast_X3_in
theorem dX3_isBeast_0 : decode cX3_isBeast 0 = .ok (.iload_n 1, 1) := by decide +kernel
theorem dX3_isBeast_1 : decode cX3_isBeast 1 = .ok (.i2l, 1) := by decide +kernel
theorem dX3_isBeast_2 : decode cX3_isBeast 2 = .ok (.lconst 0, 1) := by decide +kernel
theorem dX3_isBeast_3 : decode cX3_isBeast 3 = .ok (.aload_n 0, 1) := by decide +kernel
theorem dX3_isBeast_4 : decode cX3_isBeast 4 = .ok (.getfield 79, 3) := by decide +kernel
theorem dX3_isBeast_7 : decode cX3_isBeast 7 = .ok (.iconst 1, 1) := by decide +kernel
theorem dX3_isBeast_8 : decode cX3_isBeast 8 = .ok (.isub, 1) := by decide +kernel
theorem dX3_isBeast_9 : decode cX3_isBeast 9 = .ok (.i2l, 1) := by decide +kernel
theorem dX3_isBeast_10 : decode cX3_isBeast 10 = .ok (.invokestatic 49, 3) := by decide +kernel
theorem dX3_isBeast_13 : decode cX3_isBeast 13 = .ok (.ireturn, 1) := by decide +kernel
theorem dX3_lives_0 : decode cX3_lives 0 = .ok (.aload_n 0, 1) := by decide +kernel
theorem dX3_lives_1 : decode cX3_lives 1 = .ok (.getfield 13, 3) := by decide +kernel
theorem dX3_lives_4 : decode cX3_lives 4 = .ok (.iconst 4, 1) := by decide +kernel
theorem dX3_lives_5 : decode cX3_lives 5 = .ok (.iload_n 1, 1) := by decide +kernel
theorem dX3_lives_6 : decode cX3_lives 6 = .ok (.imul, 1) := by decide +kernel
theorem dX3_lives_7 : decode cX3_lives 7 = .ok (.iconst 2, 1) := by decide +kernel
theorem dX3_lives_8 : decode cX3_lives 8 = .ok (.iadd, 1) := by decide +kernel
theorem dX3_lives_9 : decode cX3_lives 9 = .ok (.iaload, 1) := by decide +kernel
theorem dX3_lives_10 : decode cX3_lives 10 = .ok (.iconst 1, 1) := by decide +kernel
theorem dX3_lives_11 : decode cX3_lives 11 = .ok (.if_icmp .ne 7, 3) := by decide +kernel
theorem dX3_lives_14 : decode cX3_lives 14 = .ok (.iconst 1, 1) := by decide +kernel
theorem dX3_lives_15 : decode cX3_lives 15 = .ok (.goto 4, 3) := by decide +kernel
theorem dX3_lives_18 : decode cX3_lives 18 = .ok (.iconst 0, 1) := by decide +kernel
theorem dX3_lives_19 : decode cX3_lives 19 = .ok (.ireturn, 1) := by decide +kernel
set_option maxRecDepth 20000 in
theorem ggX3_holder_X3_in : GoodIn wsX3_holder wsX3_in := goodIn_r _ [8] (by decide +kernel) (by decide +kernel)
set_option maxRecDepth 20000 in
theorem gX3_holder_X3_in : GoodIn wsX3_holder (va_wsS RX3 49 yX3_in wsX3_in) := goodIn_app (goodIn_of _ (by decide +kernel)) ggX3_holder_X3_in
theorem dX3_holder_0 : decode cX3_holder 0 = .ok (.iload_n 1, 1) := by decide +kernel
theorem dX3_holder_1 : decode cX3_holder 1 = .ok (.i2l, 1) := by decide +kernel
theorem dX3_holder_2 : decode cX3_holder 2 = .ok (.lconst 0, 1) := by decide +kernel
theorem dX3_holder_3 : decode cX3_holder 3 = .ok (.ldc2_w 82, 3) := by decide +kernel
theorem dX3_holder_6 : decode cX3_holder 6 = .ok (.invokestatic 49, 3) := by decide +kernel
theorem dX3_holder_9 : decode cX3_holder 9 = .ok (.ifCond .eq 15, 3) := by decide +kernel
theorem dX3_holder_12 : decode cX3_holder 12 = .ok (.iload_n 2, 1) := by decide +kernel
theorem dX3_holder_13 : decode cX3_holder 13 = .ok (.i2l, 1) := by decide +kernel
theorem dX3_holder_14 : decode cX3_holder 14 = .ok (.lconst 0, 1) := by decide +kernel
theorem dX3_holder_15 : decode cX3_holder 15 = .ok (.ldc2_w 60, 3) := by decide +kernel
theorem dX3_holder_18 : decode cX3_holder 18 = .ok (.invokestatic 49, 3) := by decide +kernel
theorem dX3_holder_21 : decode cX3_holder 21 = .ok (.ifCond .ne 6, 3) := by decide +kernel
theorem dX3_holder_24 : decode cX3_holder 24 = .ok (.bipush (-102), 2) := by decide +kernel
theorem dX3_holder_26 : decode cX3_holder 26 = .ok (.ireturn, 1) := by decide +kernel
theorem dX3_holder_27 : decode cX3_holder 27 = .ok (.aload_n 0, 1) := by decide +kernel
theorem dX3_holder_28 : decode cX3_holder 28 = .ok (.getfield 76, 3) := by decide +kernel
theorem dX3_holder_31 : decode cX3_holder 31 = .ok (.iconst 4, 1) := by decide +kernel
theorem dX3_holder_32 : decode cX3_holder 32 = .ok (.if_icmp .ne 6, 3) := by decide +kernel
theorem dX3_holder_35 : decode cX3_holder 35 = .ok (.bipush (-104), 2) := by decide +kernel
theorem dX3_holder_37 : decode cX3_holder 37 = .ok (.ireturn, 1) := by decide +kernel
theorem dX3_holder_38 : decode cX3_holder 38 = .ok (.aload_n 0, 1) := by decide +kernel
theorem dX3_holder_39 : decode cX3_holder 39 = .ok (.getfield 13, 3) := by decide +kernel
theorem dX3_holder_42 : decode cX3_holder 42 = .ok (.iconst 4, 1) := by decide +kernel
theorem dX3_holder_43 : decode cX3_holder 43 = .ok (.aload_n 0, 1) := by decide +kernel
theorem dX3_holder_44 : decode cX3_holder 44 = .ok (.getfield 76, 3) := by decide +kernel
theorem dX3_holder_47 : decode cX3_holder 47 = .ok (.imul, 1) := by decide +kernel
theorem dX3_holder_48 : decode cX3_holder 48 = .ok (.iload_n 1, 1) := by decide +kernel
theorem dX3_holder_49 : decode cX3_holder 49 = .ok (.iastore, 1) := by decide +kernel
theorem dX3_holder_50 : decode cX3_holder 50 = .ok (.aload_n 0, 1) := by decide +kernel
theorem dX3_holder_51 : decode cX3_holder 51 = .ok (.getfield 13, 3) := by decide +kernel
theorem dX3_holder_54 : decode cX3_holder 54 = .ok (.iconst 4, 1) := by decide +kernel
theorem dX3_holder_55 : decode cX3_holder 55 = .ok (.aload_n 0, 1) := by decide +kernel
theorem dX3_holder_56 : decode cX3_holder 56 = .ok (.getfield 76, 3) := by decide +kernel
theorem dX3_holder_59 : decode cX3_holder 59 = .ok (.imul, 1) := by decide +kernel
theorem dX3_holder_60 : decode cX3_holder 60 = .ok (.iconst 1, 1) := by decide +kernel
theorem dX3_holder_61 : decode cX3_holder 61 = .ok (.iadd, 1) := by decide +kernel
theorem dX3_holder_62 : decode cX3_holder 62 = .ok (.iload_n 2, 1) := by decide +kernel
theorem dX3_holder_63 : decode cX3_holder 63 = .ok (.iastore, 1) := by decide +kernel
theorem dX3_holder_64 : decode cX3_holder 64 = .ok (.aload_n 0, 1) := by decide +kernel
theorem dX3_holder_65 : decode cX3_holder 65 = .ok (.getfield 13, 3) := by decide +kernel
theorem dX3_holder_68 : decode cX3_holder 68 = .ok (.iconst 4, 1) := by decide +kernel
theorem dX3_holder_69 : decode cX3_holder 69 = .ok (.aload_n 0, 1) := by decide +kernel
theorem dX3_holder_70 : decode cX3_holder 70 = .ok (.getfield 76, 3) := by decide +kernel
theorem dX3_holder_73 : decode cX3_holder 73 = .ok (.imul, 1) := by decide +kernel
theorem dX3_holder_74 : decode cX3_holder 74 = .ok (.iconst 2, 1) := by decide +kernel
theorem dX3_holder_75 : decode cX3_holder 75 = .ok (.iadd, 1) := by decide +kernel
theorem dX3_holder_76 : decode cX3_holder 76 = .ok (.iconst 1, 1) := by decide +kernel
theorem dX3_holder_77 : decode cX3_holder 77 = .ok (.iastore, 1) := by decide +kernel
theorem dX3_holder_78 : decode cX3_holder 78 = .ok (.aload_n 0, 1) := by decide +kernel
theorem dX3_holder_79 : decode cX3_holder 79 = .ok (.getfield 13, 3) := by decide +kernel
theorem dX3_holder_82 : decode cX3_holder 82 = .ok (.iconst 4, 1) := by decide +kernel
theorem dX3_holder_83 : decode cX3_holder 83 = .ok (.aload_n 0, 1) := by decide +kernel
theorem dX3_holder_84 : decode cX3_holder 84 = .ok (.getfield 76, 3) := by decide +kernel
theorem dX3_holder_87 : decode cX3_holder 87 = .ok (.imul, 1) := by decide +kernel
theorem dX3_holder_88 : decode cX3_holder 88 = .ok (.iconst 3, 1) := by decide +kernel
theorem dX3_holder_89 : decode cX3_holder 89 = .ok (.iadd, 1) := by decide +kernel
theorem dX3_holder_90 : decode cX3_holder 90 = .ok (.iconst (-1), 1) := by decide +kernel
theorem dX3_holder_91 : decode cX3_holder 91 = .ok (.iastore, 1) := by decide +kernel
theorem dX3_holder_92 : decode cX3_holder 92 = .ok (.aload_n 0, 1) := by decide +kernel
theorem dX3_holder_93 : decode cX3_holder 93 = .ok (.dup, 1) := by decide +kernel
theorem dX3_holder_94 : decode cX3_holder 94 = .ok (.getfield 76, 3) := by decide +kernel
theorem dX3_holder_97 : decode cX3_holder 97 = .ok (.iconst 1, 1) := by decide +kernel
theorem dX3_holder_98 : decode cX3_holder 98 = .ok (.iadd, 1) := by decide +kernel
theorem dX3_holder_99 : decode cX3_holder 99 = .ok (.putfield 76, 3) := by decide +kernel
theorem dX3_holder_102 : decode cX3_holder 102 = .ok (.aload_n 0, 1) := by decide +kernel
theorem dX3_holder_103 : decode cX3_holder 103 = .ok (.getfield 76, 3) := by decide +kernel
theorem dX3_holder_106 : decode cX3_holder 106 = .ok (.iconst 1, 1) := by decide +kernel
theorem dX3_holder_107 : decode cX3_holder 107 = .ok (.isub, 1) := by decide +kernel
theorem dX3_holder_108 : decode cX3_holder 108 = .ok (.ireturn, 1) := by decide +kernel
theorem dX3_lordOf_0 : decode cX3_lordOf 0 = .ok (.aload_n 0, 1) := by decide +kernel
theorem dX3_lordOf_1 : decode cX3_lordOf 1 = .ok (.getfield 13, 3) := by decide +kernel
theorem dX3_lordOf_4 : decode cX3_lordOf 4 = .ok (.iconst 4, 1) := by decide +kernel
theorem dX3_lordOf_5 : decode cX3_lordOf 5 = .ok (.iload_n 1, 1) := by decide +kernel
theorem dX3_lordOf_6 : decode cX3_lordOf 6 = .ok (.imul, 1) := by decide +kernel
theorem dX3_lordOf_7 : decode cX3_lordOf 7 = .ok (.iaload, 1) := by decide +kernel
theorem dX3_lordOf_8 : decode cX3_lordOf 8 = .ok (.istore_n 2, 1) := by decide +kernel
theorem dX3_lordOf_9 : decode cX3_lordOf 9 = .ok (.iload_n 2, 1) := by decide +kernel
theorem dX3_lordOf_10 : decode cX3_lordOf 10 = .ok (.iconst 2, 1) := by decide +kernel
theorem dX3_lordOf_11 : decode cX3_lordOf 11 = .ok (.if_icmp .le 7, 3) := by decide +kernel
theorem dX3_lordOf_14 : decode cX3_lordOf 14 = .ok (.iconst 0, 1) := by decide +kernel
theorem dX3_lordOf_15 : decode cX3_lordOf 15 = .ok (.goto 21, 3) := by decide +kernel
theorem dX3_lordOf_18 : decode cX3_lordOf 18 = .ok (.iload_n 2, 1) := by decide +kernel
theorem dX3_lordOf_19 : decode cX3_lordOf 19 = .ok (.iconst 1, 1) := by decide +kernel
theorem dX3_lordOf_20 : decode cX3_lordOf 20 = .ok (.if_icmp .ne 12, 3) := by decide +kernel
theorem dX3_lordOf_23 : decode cX3_lordOf 23 = .ok (.aload_n 0, 1) := by decide +kernel
theorem dX3_lordOf_24 : decode cX3_lordOf 24 = .ok (.getfield 34, 3) := by decide +kernel
theorem dX3_lordOf_27 : decode cX3_lordOf 27 = .ok (.iconst 1, 1) := by decide +kernel
theorem dX3_lordOf_28 : decode cX3_lordOf 28 = .ok (.isub, 1) := by decide +kernel
theorem dX3_lordOf_29 : decode cX3_lordOf 29 = .ok (.goto 7, 3) := by decide +kernel
theorem dX3_lordOf_32 : decode cX3_lordOf 32 = .ok (.aload_n 0, 1) := by decide +kernel
theorem dX3_lordOf_33 : decode cX3_lordOf 33 = .ok (.getfield 34, 3) := by decide +kernel
theorem dX3_lordOf_36 : decode cX3_lordOf 36 = .ok (.istore_n 3, 1) := by decide +kernel
theorem dX3_lordOf_37 : decode cX3_lordOf 37 = .ok (.iload_n 3, 1) := by decide +kernel
theorem dX3_lordOf_38 : decode cX3_lordOf 38 = .ok (.ifCond .ge 7, 3) := by decide +kernel
theorem dX3_lordOf_41 : decode cX3_lordOf 41 = .ok (.iconst 0, 1) := by decide +kernel
theorem dX3_lordOf_42 : decode cX3_lordOf 42 = .ok (.goto 4, 3) := by decide +kernel
theorem dX3_lordOf_45 : decode cX3_lordOf 45 = .ok (.iload_n 3, 1) := by decide +kernel
theorem dX3_lordOf_46 : decode cX3_lordOf 46 = .ok (.ireturn, 1) := by decide +kernel
theorem dX3_churchOf_0 : decode cX3_churchOf 0 = .ok (.aload_n 0, 1) := by decide +kernel
theorem dX3_churchOf_1 : decode cX3_churchOf 1 = .ok (.getfield 13, 3) := by decide +kernel
theorem dX3_churchOf_4 : decode cX3_churchOf 4 = .ok (.iconst 4, 1) := by decide +kernel
theorem dX3_churchOf_5 : decode cX3_churchOf 5 = .ok (.iload_n 1, 1) := by decide +kernel
theorem dX3_churchOf_6 : decode cX3_churchOf 6 = .ok (.imul, 1) := by decide +kernel
theorem dX3_churchOf_7 : decode cX3_churchOf 7 = .ok (.iaload, 1) := by decide +kernel
theorem dX3_churchOf_8 : decode cX3_churchOf 8 = .ok (.istore_n 2, 1) := by decide +kernel
theorem dX3_churchOf_9 : decode cX3_churchOf 9 = .ok (.iload_n 2, 1) := by decide +kernel
theorem dX3_churchOf_10 : decode cX3_churchOf 10 = .ok (.iconst 2, 1) := by decide +kernel
theorem dX3_churchOf_11 : decode cX3_churchOf 11 = .ok (.if_icmp .ne 12, 3) := by decide +kernel
theorem dX3_churchOf_14 : decode cX3_churchOf 14 = .ok (.aload_n 0, 1) := by decide +kernel
theorem dX3_churchOf_15 : decode cX3_churchOf 15 = .ok (.getfield 38, 3) := by decide +kernel
theorem dX3_churchOf_18 : decode cX3_churchOf 18 = .ok (.iconst 1, 1) := by decide +kernel
theorem dX3_churchOf_19 : decode cX3_churchOf 19 = .ok (.iadd, 1) := by decide +kernel
theorem dX3_churchOf_20 : decode cX3_churchOf 20 = .ok (.goto 21, 3) := by decide +kernel
theorem dX3_churchOf_23 : decode cX3_churchOf 23 = .ok (.iload_n 2, 1) := by decide +kernel
theorem dX3_churchOf_24 : decode cX3_churchOf 24 = .ok (.iconst 4, 1) := by decide +kernel
theorem dX3_churchOf_25 : decode cX3_churchOf 25 = .ok (.if_icmp .ne 12, 3) := by decide +kernel
theorem dX3_churchOf_28 : decode cX3_churchOf 28 = .ok (.aload_n 0, 1) := by decide +kernel
theorem dX3_churchOf_29 : decode cX3_churchOf 29 = .ok (.getfield 38, 3) := by decide +kernel
theorem dX3_churchOf_32 : decode cX3_churchOf 32 = .ok (.iconst 2, 1) := by decide +kernel
theorem dX3_churchOf_33 : decode cX3_churchOf 33 = .ok (.isub, 1) := by decide +kernel
theorem dX3_churchOf_34 : decode cX3_churchOf 34 = .ok (.goto 7, 3) := by decide +kernel
theorem dX3_churchOf_37 : decode cX3_churchOf 37 = .ok (.aload_n 0, 1) := by decide +kernel
theorem dX3_churchOf_38 : decode cX3_churchOf 38 = .ok (.getfield 38, 3) := by decide +kernel
theorem dX3_churchOf_41 : decode cX3_churchOf 41 = .ok (.istore_n 3, 1) := by decide +kernel
theorem dX3_churchOf_42 : decode cX3_churchOf 42 = .ok (.iload_n 3, 1) := by decide +kernel
theorem dX3_churchOf_43 : decode cX3_churchOf 43 = .ok (.ifCond .ge 7, 3) := by decide +kernel
theorem dX3_churchOf_46 : decode cX3_churchOf 46 = .ok (.iconst 0, 1) := by decide +kernel
theorem dX3_churchOf_47 : decode cX3_churchOf 47 = .ok (.goto 4, 3) := by decide +kernel
theorem dX3_churchOf_50 : decode cX3_churchOf 50 = .ok (.iload_n 3, 1) := by decide +kernel
theorem dX3_churchOf_51 : decode cX3_churchOf 51 = .ok (.ireturn, 1) := by decide +kernel
theorem dX3_hisBits_0 : decode cX3_hisBits 0 = .ok (.iconst 0, 1) := by decide +kernel
theorem dX3_hisBits_1 : decode cX3_hisBits 1 = .ok (.istore_n 2, 1) := by decide +kernel
theorem dX3_hisBits_2 : decode cX3_hisBits 2 = .ok (.iconst 0, 1) := by decide +kernel
theorem dX3_hisBits_3 : decode cX3_hisBits 3 = .ok (.istore_n 3, 1) := by decide +kernel
theorem dX3_hisBits_4 : decode cX3_hisBits 4 = .ok (.iload_n 3, 1) := by decide +kernel
theorem dX3_hisBits_5 : decode cX3_hisBits 5 = .ok (.aload_n 0, 1) := by decide +kernel
theorem dX3_hisBits_6 : decode cX3_hisBits 6 = .ok (.getfield 79, 3) := by decide +kernel
theorem dX3_hisBits_9 : decode cX3_hisBits 9 = .ok (.if_icmp .ge 33, 3) := by decide +kernel
theorem dX3_hisBits_12 : decode cX3_hisBits 12 = .ok (.iload_n 2, 1) := by decide +kernel
theorem dX3_hisBits_13 : decode cX3_hisBits 13 = .ok (.aload_n 0, 1) := by decide +kernel
theorem dX3_hisBits_14 : decode cX3_hisBits 14 = .ok (.getfield 16, 3) := by decide +kernel
theorem dX3_hisBits_17 : decode cX3_hisBits 17 = .ok (.iconst 5, 1) := by decide +kernel
theorem dX3_hisBits_18 : decode cX3_hisBits 18 = .ok (.iload_n 3, 1) := by decide +kernel
theorem dX3_hisBits_19 : decode cX3_hisBits 19 = .ok (.imul, 1) := by decide +kernel
theorem dX3_hisBits_20 : decode cX3_hisBits 20 = .ok (.iconst 1, 1) := by decide +kernel
theorem dX3_hisBits_21 : decode cX3_hisBits 21 = .ok (.iadd, 1) := by decide +kernel
theorem dX3_hisBits_22 : decode cX3_hisBits 22 = .ok (.iaload, 1) := by decide +kernel
theorem dX3_hisBits_23 : decode cX3_hisBits 23 = .ok (.iload_n 1, 1) := by decide +kernel
theorem dX3_hisBits_24 : decode cX3_hisBits 24 = .ok (.if_icmp .ne 9, 3) := by decide +kernel
theorem dX3_hisBits_27 : decode cX3_hisBits 27 = .ok (.iconst 1, 1) := by decide +kernel
theorem dX3_hisBits_28 : decode cX3_hisBits 28 = .ok (.iload_n 3, 1) := by decide +kernel
theorem dX3_hisBits_29 : decode cX3_hisBits 29 = .ok (.ishl, 1) := by decide +kernel
theorem dX3_hisBits_30 : decode cX3_hisBits 30 = .ok (.goto 4, 3) := by decide +kernel
theorem dX3_hisBits_33 : decode cX3_hisBits 33 = .ok (.iconst 0, 1) := by decide +kernel
theorem dX3_hisBits_34 : decode cX3_hisBits 34 = .ok (.ior, 1) := by decide +kernel
theorem dX3_hisBits_35 : decode cX3_hisBits 35 = .ok (.istore_n 2, 1) := by decide +kernel
theorem dX3_hisBits_36 : decode cX3_hisBits 36 = .ok (.iinc 3 1, 3) := by decide +kernel
theorem dX3_hisBits_39 : decode cX3_hisBits 39 = .ok (.goto (-35), 3) := by decide +kernel
theorem dX3_hisBits_42 : decode cX3_hisBits 42 = .ok (.iload_n 2, 1) := by decide +kernel
theorem dX3_hisBits_43 : decode cX3_hisBits 43 = .ok (.ireturn, 1) := by decide +kernel
set_option maxRecDepth 20000 in
theorem ggX3_heldBits_X3_hisBits : GoodIn wsX3_heldBits wsX3_hisBits := goodIn_r _ [8, 1, 2, 9, 10, 11, 12, 13, 14, 15, 16, 17, 18, 19, 20, 21, 22, 23, 24, 25, 26, 27, 28, 29, 30, 31, 32] (by decide +kernel) (by decide +kernel)
set_option maxRecDepth 20000 in
theorem gX3_heldBits_X3_hisBits : GoodIn wsX3_heldBits (wsV RX3 84 RX3 yX3_hisBits wsX3_hisBits) := goodIn_app (goodIn_of _ (by decide +kernel)) ggX3_heldBits_X3_hisBits
theorem dX3_heldBits_0 : decode cX3_heldBits 0 = .ok (.aload_n 0, 1) := by decide +kernel
theorem dX3_heldBits_1 : decode cX3_heldBits 1 = .ok (.iload_n 1, 1) := by decide +kernel
theorem dX3_heldBits_2 : decode cX3_heldBits 2 = .ok (.invokevirtual 84, 3) := by decide +kernel
theorem dX3_heldBits_5 : decode cX3_heldBits 5 = .ok (.istore_n 3, 1) := by decide +kernel
theorem dX3_heldBits_6 : decode cX3_heldBits 6 = .ok (.iconst 0, 1) := by decide +kernel
theorem dX3_heldBits_7 : decode cX3_heldBits 7 = .ok (.istore 4, 2) := by decide +kernel
theorem dX3_heldBits_9 : decode cX3_heldBits 9 = .ok (.iload 4, 2) := by decide +kernel
theorem dX3_heldBits_11 : decode cX3_heldBits 11 = .ok (.aload_n 0, 1) := by decide +kernel
theorem dX3_heldBits_12 : decode cX3_heldBits 12 = .ok (.getfield 79, 3) := by decide +kernel
theorem dX3_heldBits_15 : decode cX3_heldBits 15 = .ok (.if_icmp .ge 82, 3) := by decide +kernel
theorem dX3_heldBits_18 : decode cX3_heldBits 18 = .ok (.aload_n 0, 1) := by decide +kernel
theorem dX3_heldBits_19 : decode cX3_heldBits 19 = .ok (.getfield 16, 3) := by decide +kernel
theorem dX3_heldBits_22 : decode cX3_heldBits 22 = .ok (.iconst 5, 1) := by decide +kernel
theorem dX3_heldBits_23 : decode cX3_heldBits 23 = .ok (.iload 4, 2) := by decide +kernel
theorem dX3_heldBits_25 : decode cX3_heldBits 25 = .ok (.imul, 1) := by decide +kernel
theorem dX3_heldBits_26 : decode cX3_heldBits 26 = .ok (.iconst 1, 1) := by decide +kernel
theorem dX3_heldBits_27 : decode cX3_heldBits 27 = .ok (.iadd, 1) := by decide +kernel
theorem dX3_heldBits_28 : decode cX3_heldBits 28 = .ok (.iaload, 1) := by decide +kernel
theorem dX3_heldBits_29 : decode cX3_heldBits 29 = .ok (.iconst (-1), 1) := by decide +kernel
theorem dX3_heldBits_30 : decode cX3_heldBits 30 = .ok (.if_icmp .eq 42, 3) := by decide +kernel
theorem dX3_heldBits_33 : decode cX3_heldBits 33 = .ok (.aload_n 0, 1) := by decide +kernel
theorem dX3_heldBits_34 : decode cX3_heldBits 34 = .ok (.getfield 16, 3) := by decide +kernel
theorem dX3_heldBits_37 : decode cX3_heldBits 37 = .ok (.iconst 5, 1) := by decide +kernel
theorem dX3_heldBits_38 : decode cX3_heldBits 38 = .ok (.iload 4, 2) := by decide +kernel
theorem dX3_heldBits_40 : decode cX3_heldBits 40 = .ok (.imul, 1) := by decide +kernel
theorem dX3_heldBits_41 : decode cX3_heldBits 41 = .ok (.iconst 2, 1) := by decide +kernel
theorem dX3_heldBits_42 : decode cX3_heldBits 42 = .ok (.iadd, 1) := by decide +kernel
theorem dX3_heldBits_43 : decode cX3_heldBits 43 = .ok (.iaload, 1) := by decide +kernel
theorem dX3_heldBits_44 : decode cX3_heldBits 44 = .ok (.iload_n 1, 1) := by decide +kernel
theorem dX3_heldBits_45 : decode cX3_heldBits 45 = .ok (.if_icmp .ne 27, 3) := by decide +kernel
theorem dX3_heldBits_48 : decode cX3_heldBits 48 = .ok (.iload_n 2, 1) := by decide +kernel
theorem dX3_heldBits_49 : decode cX3_heldBits 49 = .ok (.aload_n 0, 1) := by decide +kernel
theorem dX3_heldBits_50 : decode cX3_heldBits 50 = .ok (.getfield 16, 3) := by decide +kernel
theorem dX3_heldBits_53 : decode cX3_heldBits 53 = .ok (.iconst 5, 1) := by decide +kernel
theorem dX3_heldBits_54 : decode cX3_heldBits 54 = .ok (.iload 4, 2) := by decide +kernel
theorem dX3_heldBits_56 : decode cX3_heldBits 56 = .ok (.imul, 1) := by decide +kernel
theorem dX3_heldBits_57 : decode cX3_heldBits 57 = .ok (.iconst 3, 1) := by decide +kernel
theorem dX3_heldBits_58 : decode cX3_heldBits 58 = .ok (.iadd, 1) := by decide +kernel
theorem dX3_heldBits_59 : decode cX3_heldBits 59 = .ok (.iaload, 1) := by decide +kernel
theorem dX3_heldBits_60 : decode cX3_heldBits 60 = .ok (.isub, 1) := by decide +kernel
theorem dX3_heldBits_61 : decode cX3_heldBits 61 = .ok (.aload_n 0, 1) := by decide +kernel
theorem dX3_heldBits_62 : decode cX3_heldBits 62 = .ok (.getfield 41, 3) := by decide +kernel
theorem dX3_heldBits_65 : decode cX3_heldBits 65 = .ok (.if_icmp .ge 7, 3) := by decide +kernel
theorem dX3_heldBits_68 : decode cX3_heldBits 68 = .ok (.iconst 1, 1) := by decide +kernel
theorem dX3_heldBits_69 : decode cX3_heldBits 69 = .ok (.goto 4, 3) := by decide +kernel
theorem dX3_heldBits_72 : decode cX3_heldBits 72 = .ok (.iconst 0, 1) := by decide +kernel
theorem dX3_heldBits_73 : decode cX3_heldBits 73 = .ok (.istore 5, 2) := by decide +kernel
theorem dX3_heldBits_75 : decode cX3_heldBits 75 = .ok (.iload_n 3, 1) := by decide +kernel
theorem dX3_heldBits_76 : decode cX3_heldBits 76 = .ok (.iload 5, 2) := by decide +kernel
theorem dX3_heldBits_78 : decode cX3_heldBits 78 = .ok (.ifCond .eq 10, 3) := by decide +kernel
theorem dX3_heldBits_81 : decode cX3_heldBits 81 = .ok (.iconst 1, 1) := by decide +kernel
theorem dX3_heldBits_82 : decode cX3_heldBits 82 = .ok (.iload 4, 2) := by decide +kernel
theorem dX3_heldBits_84 : decode cX3_heldBits 84 = .ok (.ishl, 1) := by decide +kernel
theorem dX3_heldBits_85 : decode cX3_heldBits 85 = .ok (.goto 4, 3) := by decide +kernel
theorem dX3_heldBits_88 : decode cX3_heldBits 88 = .ok (.iconst 0, 1) := by decide +kernel
theorem dX3_heldBits_89 : decode cX3_heldBits 89 = .ok (.ior, 1) := by decide +kernel
theorem dX3_heldBits_90 : decode cX3_heldBits 90 = .ok (.istore_n 3, 1) := by decide +kernel
theorem dX3_heldBits_91 : decode cX3_heldBits 91 = .ok (.iinc 4 1, 3) := by decide +kernel
theorem dX3_heldBits_94 : decode cX3_heldBits 94 = .ok (.goto (-85), 3) := by decide +kernel
theorem dX3_heldBits_97 : decode cX3_heldBits 97 = .ok (.iload_n 3, 1) := by decide +kernel
theorem dX3_heldBits_98 : decode cX3_heldBits 98 = .ok (.ireturn, 1) := by decide +kernel
theorem dX3_bestOf_0 : decode cX3_bestOf 0 = .ok (.iconst (-1), 1) := by decide +kernel
theorem dX3_bestOf_1 : decode cX3_bestOf 1 = .ok (.istore_n 2, 1) := by decide +kernel
theorem dX3_bestOf_2 : decode cX3_bestOf 2 = .ok (.iconst 0, 1) := by decide +kernel
theorem dX3_bestOf_3 : decode cX3_bestOf 3 = .ok (.istore_n 3, 1) := by decide +kernel
theorem dX3_bestOf_4 : decode cX3_bestOf 4 = .ok (.iload_n 3, 1) := by decide +kernel
theorem dX3_bestOf_5 : decode cX3_bestOf 5 = .ok (.aload_n 0, 1) := by decide +kernel
theorem dX3_bestOf_6 : decode cX3_bestOf 6 = .ok (.getfield 79, 3) := by decide +kernel
theorem dX3_bestOf_9 : decode cX3_bestOf 9 = .ok (.if_icmp .ge 75, 3) := by decide +kernel
theorem dX3_bestOf_12 : decode cX3_bestOf 12 = .ok (.iload_n 1, 1) := by decide +kernel
theorem dX3_bestOf_13 : decode cX3_bestOf 13 = .ok (.iload_n 3, 1) := by decide +kernel
theorem dX3_bestOf_14 : decode cX3_bestOf 14 = .ok (.ishr, 1) := by decide +kernel
theorem dX3_bestOf_15 : decode cX3_bestOf 15 = .ok (.iconst 1, 1) := by decide +kernel
theorem dX3_bestOf_16 : decode cX3_bestOf 16 = .ok (.iand, 1) := by decide +kernel
theorem dX3_bestOf_17 : decode cX3_bestOf 17 = .ok (.iconst 1, 1) := by decide +kernel
theorem dX3_bestOf_18 : decode cX3_bestOf 18 = .ok (.if_icmp .ne 22, 3) := by decide +kernel
theorem dX3_bestOf_21 : decode cX3_bestOf 21 = .ok (.aload_n 0, 1) := by decide +kernel
theorem dX3_bestOf_22 : decode cX3_bestOf 22 = .ok (.getfield 16, 3) := by decide +kernel
theorem dX3_bestOf_25 : decode cX3_bestOf 25 = .ok (.iconst 5, 1) := by decide +kernel
theorem dX3_bestOf_26 : decode cX3_bestOf 26 = .ok (.iload_n 3, 1) := by decide +kernel
theorem dX3_bestOf_27 : decode cX3_bestOf 27 = .ok (.imul, 1) := by decide +kernel
theorem dX3_bestOf_28 : decode cX3_bestOf 28 = .ok (.iaload, 1) := by decide +kernel
theorem dX3_bestOf_29 : decode cX3_bestOf 29 = .ok (.aload_n 0, 1) := by decide +kernel
theorem dX3_bestOf_30 : decode cX3_bestOf 30 = .ok (.getfield 70, 3) := by decide +kernel
theorem dX3_bestOf_33 : decode cX3_bestOf 33 = .ok (.if_icmp .lt 7, 3) := by decide +kernel
theorem dX3_bestOf_36 : decode cX3_bestOf 36 = .ok (.iconst 1, 1) := by decide +kernel
theorem dX3_bestOf_37 : decode cX3_bestOf 37 = .ok (.goto 4, 3) := by decide +kernel
theorem dX3_bestOf_40 : decode cX3_bestOf 40 = .ok (.iconst 0, 1) := by decide +kernel
theorem dX3_bestOf_41 : decode cX3_bestOf 41 = .ok (.istore 4, 2) := by decide +kernel
theorem dX3_bestOf_43 : decode cX3_bestOf 43 = .ok (.iload 4, 2) := by decide +kernel
theorem dX3_bestOf_45 : decode cX3_bestOf 45 = .ok (.ifCond .eq 31, 3) := by decide +kernel
theorem dX3_bestOf_48 : decode cX3_bestOf 48 = .ok (.iload_n 2, 1) := by decide +kernel
theorem dX3_bestOf_49 : decode cX3_bestOf 49 = .ok (.iconst (-1), 1) := by decide +kernel
theorem dX3_bestOf_50 : decode cX3_bestOf 50 = .ok (.if_icmp .eq 22, 3) := by decide +kernel
theorem dX3_bestOf_53 : decode cX3_bestOf 53 = .ok (.aload_n 0, 1) := by decide +kernel
theorem dX3_bestOf_54 : decode cX3_bestOf 54 = .ok (.getfield 16, 3) := by decide +kernel
theorem dX3_bestOf_57 : decode cX3_bestOf 57 = .ok (.iconst 5, 1) := by decide +kernel
theorem dX3_bestOf_58 : decode cX3_bestOf 58 = .ok (.iload_n 3, 1) := by decide +kernel
theorem dX3_bestOf_59 : decode cX3_bestOf 59 = .ok (.imul, 1) := by decide +kernel
theorem dX3_bestOf_60 : decode cX3_bestOf 60 = .ok (.iaload, 1) := by decide +kernel
theorem dX3_bestOf_61 : decode cX3_bestOf 61 = .ok (.aload_n 0, 1) := by decide +kernel
theorem dX3_bestOf_62 : decode cX3_bestOf 62 = .ok (.getfield 16, 3) := by decide +kernel
theorem dX3_bestOf_65 : decode cX3_bestOf 65 = .ok (.iconst 5, 1) := by decide +kernel
theorem dX3_bestOf_66 : decode cX3_bestOf 66 = .ok (.iload_n 2, 1) := by decide +kernel
theorem dX3_bestOf_67 : decode cX3_bestOf 67 = .ok (.imul, 1) := by decide +kernel
theorem dX3_bestOf_68 : decode cX3_bestOf 68 = .ok (.iaload, 1) := by decide +kernel
theorem dX3_bestOf_69 : decode cX3_bestOf 69 = .ok (.if_icmp .le 7, 3) := by decide +kernel
theorem dX3_bestOf_72 : decode cX3_bestOf 72 = .ok (.iload_n 3, 1) := by decide +kernel
theorem dX3_bestOf_73 : decode cX3_bestOf 73 = .ok (.goto 4, 3) := by decide +kernel
theorem dX3_bestOf_76 : decode cX3_bestOf 76 = .ok (.iload_n 2, 1) := by decide +kernel
theorem dX3_bestOf_77 : decode cX3_bestOf 77 = .ok (.istore_n 2, 1) := by decide +kernel
theorem dX3_bestOf_78 : decode cX3_bestOf 78 = .ok (.iinc 3 1, 3) := by decide +kernel
theorem dX3_bestOf_81 : decode cX3_bestOf 81 = .ok (.goto (-77), 3) := by decide +kernel
theorem dX3_bestOf_84 : decode cX3_bestOf 84 = .ok (.iload_n 2, 1) := by decide +kernel
theorem dX3_bestOf_85 : decode cX3_bestOf 85 = .ok (.ireturn, 1) := by decide +kernel
set_option maxRecDepth 20000 in
theorem ggX3_takenOf_X3_lordOf : GoodIn wsX3_takenOf wsX3_lordOf := goodIn_r _ [5, 6, 7, 20, 21, 22, 23, 24, 25, 26, 27, 28, 29, 30, 31, 32, 33, 34, 35, 36, 37, 38, 39, 40, 41, 42, 43] (by decide +kernel) (by decide +kernel)
set_option maxRecDepth 20000 in
theorem gX3_takenOf_X3_lordOf : GoodIn wsX3_takenOf (wsV RX3 88 RX3 yX3_lordOf wsX3_lordOf) := goodIn_app (goodIn_of _ (by decide +kernel)) ggX3_takenOf_X3_lordOf
set_option maxRecDepth 20000 in
theorem ggX3_takenOf_X3_churchOf : GoodIn wsX3_takenOf wsX3_churchOf := goodIn_r _ [11, 6, 12, 20, 21, 22, 23, 24, 25, 26, 27, 28, 29, 30, 31, 32, 33, 34, 35, 36, 37, 38, 39, 40, 41, 42, 43] (by decide +kernel) (by decide +kernel)
set_option maxRecDepth 20000 in
theorem gX3_takenOf_X3_churchOf : GoodIn wsX3_takenOf (wsV RX3 91 RX3 yX3_churchOf wsX3_churchOf) := goodIn_app (goodIn_of _ (by decide +kernel)) ggX3_takenOf_X3_churchOf
set_option maxRecDepth 20000 in
theorem ggX3_takenOf_X3_bestOf : GoodIn wsX3_takenOf wsX3_bestOf := goodIn_r _ [16, 17, 18, 19, 20, 21, 22, 23, 24, 25, 26, 27, 28, 29, 30, 31, 32, 33, 34, 35, 36, 37, 38, 39, 40, 41, 42, 43] (by decide +kernel) (by decide +kernel)
set_option maxRecDepth 20000 in
theorem gX3_takenOf_X3_bestOf : GoodIn wsX3_takenOf (wsV RX3 94 RX3 yX3_bestOf wsX3_bestOf) := goodIn_app (goodIn_of _ (by decide +kernel)) ggX3_takenOf_X3_bestOf
theorem dX3_takenOf_0 : decode cX3_takenOf 0 = .ok (.iload_n 2, 1) := by decide +kernel
theorem dX3_takenOf_1 : decode cX3_takenOf 1 = .ok (.istore_n 3, 1) := by decide +kernel
theorem dX3_takenOf_2 : decode cX3_takenOf 2 = .ok (.iconst 0, 1) := by decide +kernel
theorem dX3_takenOf_3 : decode cX3_takenOf 3 = .ok (.istore 4, 2) := by decide +kernel
theorem dX3_takenOf_5 : decode cX3_takenOf 5 = .ok (.iconst 0, 1) := by decide +kernel
theorem dX3_takenOf_6 : decode cX3_takenOf 6 = .ok (.istore 5, 2) := by decide +kernel
theorem dX3_takenOf_8 : decode cX3_takenOf 8 = .ok (.iload 5, 2) := by decide +kernel
theorem dX3_takenOf_10 : decode cX3_takenOf 10 = .ok (.aload_n 0, 1) := by decide +kernel
theorem dX3_takenOf_11 : decode cX3_takenOf 11 = .ok (.iload_n 1, 1) := by decide +kernel
theorem dX3_takenOf_12 : decode cX3_takenOf 12 = .ok (.invokevirtual 88, 3) := by decide +kernel
theorem dX3_takenOf_15 : decode cX3_takenOf 15 = .ok (.aload_n 0, 1) := by decide +kernel
theorem dX3_takenOf_16 : decode cX3_takenOf 16 = .ok (.iload_n 1, 1) := by decide +kernel
theorem dX3_takenOf_17 : decode cX3_takenOf 17 = .ok (.invokevirtual 91, 3) := by decide +kernel
theorem dX3_takenOf_20 : decode cX3_takenOf 20 = .ok (.iadd, 1) := by decide +kernel
theorem dX3_takenOf_21 : decode cX3_takenOf 21 = .ok (.if_icmp .ge 54, 3) := by decide +kernel
theorem dX3_takenOf_24 : decode cX3_takenOf 24 = .ok (.aload_n 0, 1) := by decide +kernel
theorem dX3_takenOf_25 : decode cX3_takenOf 25 = .ok (.iload_n 3, 1) := by decide +kernel
theorem dX3_takenOf_26 : decode cX3_takenOf 26 = .ok (.invokevirtual 94, 3) := by decide +kernel
theorem dX3_takenOf_29 : decode cX3_takenOf 29 = .ok (.istore 6, 2) := by decide +kernel
theorem dX3_takenOf_31 : decode cX3_takenOf 31 = .ok (.iload 4, 2) := by decide +kernel
theorem dX3_takenOf_33 : decode cX3_takenOf 33 = .ok (.iload 6, 2) := by decide +kernel
theorem dX3_takenOf_35 : decode cX3_takenOf 35 = .ok (.iconst (-1), 1) := by decide +kernel
theorem dX3_takenOf_36 : decode cX3_takenOf 36 = .ok (.if_icmp .ne 7, 3) := by decide +kernel
theorem dX3_takenOf_39 : decode cX3_takenOf 39 = .ok (.iconst 0, 1) := by decide +kernel
theorem dX3_takenOf_40 : decode cX3_takenOf 40 = .ok (.goto 7, 3) := by decide +kernel
theorem dX3_takenOf_43 : decode cX3_takenOf 43 = .ok (.iconst 1, 1) := by decide +kernel
theorem dX3_takenOf_44 : decode cX3_takenOf 44 = .ok (.iload 6, 2) := by decide +kernel
theorem dX3_takenOf_46 : decode cX3_takenOf 46 = .ok (.ishl, 1) := by decide +kernel
theorem dX3_takenOf_47 : decode cX3_takenOf 47 = .ok (.ior, 1) := by decide +kernel
theorem dX3_takenOf_48 : decode cX3_takenOf 48 = .ok (.istore 4, 2) := by decide +kernel
theorem dX3_takenOf_50 : decode cX3_takenOf 50 = .ok (.iload_n 3, 1) := by decide +kernel
theorem dX3_takenOf_51 : decode cX3_takenOf 51 = .ok (.iload 6, 2) := by decide +kernel
theorem dX3_takenOf_53 : decode cX3_takenOf 53 = .ok (.iconst (-1), 1) := by decide +kernel
theorem dX3_takenOf_54 : decode cX3_takenOf 54 = .ok (.if_icmp .ne 7, 3) := by decide +kernel
theorem dX3_takenOf_57 : decode cX3_takenOf 57 = .ok (.iload_n 3, 1) := by decide +kernel
theorem dX3_takenOf_58 : decode cX3_takenOf 58 = .ok (.goto 9, 3) := by decide +kernel
theorem dX3_takenOf_61 : decode cX3_takenOf 61 = .ok (.iconst 1, 1) := by decide +kernel
theorem dX3_takenOf_62 : decode cX3_takenOf 62 = .ok (.iload 6, 2) := by decide +kernel
theorem dX3_takenOf_64 : decode cX3_takenOf 64 = .ok (.ishl, 1) := by decide +kernel
theorem dX3_takenOf_65 : decode cX3_takenOf 65 = .ok (.iconst (-1), 1) := by decide +kernel
theorem dX3_takenOf_66 : decode cX3_takenOf 66 = .ok (.ixor, 1) := by decide +kernel
theorem dX3_takenOf_67 : decode cX3_takenOf 67 = .ok (.iand, 1) := by decide +kernel
theorem dX3_takenOf_68 : decode cX3_takenOf 68 = .ok (.istore_n 3, 1) := by decide +kernel
theorem dX3_takenOf_69 : decode cX3_takenOf 69 = .ok (.iinc 5 1, 3) := by decide +kernel
theorem dX3_takenOf_72 : decode cX3_takenOf 72 = .ok (.goto (-64), 3) := by decide +kernel
theorem dX3_takenOf_75 : decode cX3_takenOf 75 = .ok (.iload 4, 2) := by decide +kernel
theorem dX3_takenOf_77 : decode cX3_takenOf 77 = .ok (.ireturn, 1) := by decide +kernel
theorem dX3_worthOf_0 : decode cX3_worthOf 0 = .ok (.iconst 0, 1) := by decide +kernel
theorem dX3_worthOf_1 : decode cX3_worthOf 1 = .ok (.istore_n 2, 1) := by decide +kernel
theorem dX3_worthOf_2 : decode cX3_worthOf 2 = .ok (.iconst 0, 1) := by decide +kernel
theorem dX3_worthOf_3 : decode cX3_worthOf 3 = .ok (.istore_n 3, 1) := by decide +kernel
theorem dX3_worthOf_4 : decode cX3_worthOf 4 = .ok (.iload_n 3, 1) := by decide +kernel
theorem dX3_worthOf_5 : decode cX3_worthOf 5 = .ok (.aload_n 0, 1) := by decide +kernel
theorem dX3_worthOf_6 : decode cX3_worthOf 6 = .ok (.getfield 79, 3) := by decide +kernel
theorem dX3_worthOf_9 : decode cX3_worthOf 9 = .ok (.if_icmp .ge 33, 3) := by decide +kernel
theorem dX3_worthOf_12 : decode cX3_worthOf 12 = .ok (.iload_n 2, 1) := by decide +kernel
theorem dX3_worthOf_13 : decode cX3_worthOf 13 = .ok (.iload_n 1, 1) := by decide +kernel
theorem dX3_worthOf_14 : decode cX3_worthOf 14 = .ok (.iload_n 3, 1) := by decide +kernel
theorem dX3_worthOf_15 : decode cX3_worthOf 15 = .ok (.ishr, 1) := by decide +kernel
theorem dX3_worthOf_16 : decode cX3_worthOf 16 = .ok (.iconst 1, 1) := by decide +kernel
theorem dX3_worthOf_17 : decode cX3_worthOf 17 = .ok (.iand, 1) := by decide +kernel
theorem dX3_worthOf_18 : decode cX3_worthOf 18 = .ok (.iconst 1, 1) := by decide +kernel
theorem dX3_worthOf_19 : decode cX3_worthOf 19 = .ok (.if_icmp .ne 14, 3) := by decide +kernel
theorem dX3_worthOf_22 : decode cX3_worthOf 22 = .ok (.aload_n 0, 1) := by decide +kernel
theorem dX3_worthOf_23 : decode cX3_worthOf 23 = .ok (.getfield 16, 3) := by decide +kernel
theorem dX3_worthOf_26 : decode cX3_worthOf 26 = .ok (.iconst 5, 1) := by decide +kernel
theorem dX3_worthOf_27 : decode cX3_worthOf 27 = .ok (.iload_n 3, 1) := by decide +kernel
theorem dX3_worthOf_28 : decode cX3_worthOf 28 = .ok (.imul, 1) := by decide +kernel
theorem dX3_worthOf_29 : decode cX3_worthOf 29 = .ok (.iaload, 1) := by decide +kernel
theorem dX3_worthOf_30 : decode cX3_worthOf 30 = .ok (.goto 4, 3) := by decide +kernel
theorem dX3_worthOf_33 : decode cX3_worthOf 33 = .ok (.iconst 0, 1) := by decide +kernel
theorem dX3_worthOf_34 : decode cX3_worthOf 34 = .ok (.iadd, 1) := by decide +kernel
theorem dX3_worthOf_35 : decode cX3_worthOf 35 = .ok (.istore_n 2, 1) := by decide +kernel
theorem dX3_worthOf_36 : decode cX3_worthOf 36 = .ok (.iinc 3 1, 3) := by decide +kernel
theorem dX3_worthOf_39 : decode cX3_worthOf 39 = .ok (.goto (-35), 3) := by decide +kernel
theorem dX3_worthOf_42 : decode cX3_worthOf 42 = .ok (.iload_n 2, 1) := by decide +kernel
theorem dX3_worthOf_43 : decode cX3_worthOf 43 = .ok (.ireturn, 1) := by decide +kernel
set_option maxRecDepth 20000 in
theorem ggX3_lossBy_X3_takenOf : GoodIn wsX3_lossBy wsX3_takenOf := goodIn_r _ [5, 6, 7, 8, 4, 9, 10, 11, 12, 13, 14, 15, 16, 17, 18, 19, 20, 21, 22, 23, 28, 29, 30, 31, 32, 33, 34, 35, 36, 37, 38, 39, 40, 41, 42, 43, 44, 45, 46, 47, 48, 49, 50, 51] (by decide +kernel) (by decide +kernel)
set_option maxRecDepth 20000 in
theorem gX3_lossBy_X3_takenOf : GoodIn wsX3_lossBy (wsV RX3 97 RX3 yX3_takenOf wsX3_takenOf) := goodIn_app (goodIn_of _ (by decide +kernel)) ggX3_lossBy_X3_takenOf
set_option maxRecDepth 20000 in
theorem ggX3_lossBy_X3_worthOf : GoodIn wsX3_lossBy wsX3_worthOf := goodIn_r _ [27, 21, 22, 28, 29, 30, 31, 32, 33, 34, 35, 36, 37, 38, 39, 40, 41, 42, 43, 44, 45, 46, 47, 48, 49, 50, 51] (by decide +kernel) (by decide +kernel)
set_option maxRecDepth 20000 in
theorem gX3_lossBy_X3_worthOf : GoodIn wsX3_lossBy (wsV RX3 101 RX3 yX3_worthOf wsX3_worthOf) := goodIn_app (goodIn_of _ (by decide +kernel)) ggX3_lossBy_X3_worthOf
theorem dX3_lossBy_0 : decode cX3_lossBy 0 = .ok (.aload_n 0, 1) := by decide +kernel
theorem dX3_lossBy_1 : decode cX3_lossBy 1 = .ok (.aload_n 0, 1) := by decide +kernel
theorem dX3_lossBy_2 : decode cX3_lossBy 2 = .ok (.iload_n 1, 1) := by decide +kernel
theorem dX3_lossBy_3 : decode cX3_lossBy 3 = .ok (.iload_n 2, 1) := by decide +kernel
theorem dX3_lossBy_4 : decode cX3_lossBy 4 = .ok (.invokevirtual 97, 3) := by decide +kernel
theorem dX3_lossBy_7 : decode cX3_lossBy 7 = .ok (.invokevirtual 101, 3) := by decide +kernel
theorem dX3_lossBy_10 : decode cX3_lossBy 10 = .ok (.ireturn, 1) := by decide +kernel
set_option maxRecDepth 20000 in
theorem ggX3_tell_X3_hisBits : GoodIn wsX3_tell wsX3_hisBits := goodIn_r _ [7, 8, 9, 46, 47, 48, 49, 50, 51, 52, 53, 54, 55, 56, 57, 58, 59, 60, 61, 62, 63, 64, 65, 66, 67, 68, 69] (by decide +kernel) (by decide +kernel)
set_option maxRecDepth 20000 in
theorem gX3_tell_X3_hisBits : GoodIn wsX3_tell (wsV RX3 84 RX3 yX3_hisBits wsX3_hisBits) := goodIn_app (goodIn_of _ (by decide +kernel)) ggX3_tell_X3_hisBits
set_option maxRecDepth 20000 in
theorem ggX3_tell_X3_heldBits : GoodIn wsX3_tell wsX3_heldBits := goodIn_r _ [13, 8, 9, 14, 3, 4, 5, 6, 7, 46, 47, 48, 49, 50, 51, 52, 53, 54, 55, 56, 57, 58, 59, 60, 61, 62, 63, 64, 65, 66, 67, 68, 69] (by decide +kernel) (by decide +kernel)
set_option maxRecDepth 20000 in
theorem gX3_tell_X3_heldBits : GoodIn wsX3_tell (wsV RX3 107 RX3 yX3_heldBits wsX3_heldBits) := goodIn_app (goodIn_of _ (by decide +kernel)) ggX3_tell_X3_heldBits
set_option maxRecDepth 20000 in
theorem ggX3_tell_X3_lordOf : GoodIn wsX3_tell wsX3_lordOf := goodIn_r _ [18, 1, 19, 46, 47, 48, 49, 50, 51, 52, 53, 54, 55, 56, 57, 58, 59, 60, 61, 62, 63, 64, 65, 66, 67, 68, 69] (by decide +kernel) (by decide +kernel)
set_option maxRecDepth 20000 in
theorem gX3_tell_X3_lordOf : GoodIn wsX3_tell (wsV RX3 88 RX3 yX3_lordOf wsX3_lordOf) := goodIn_app (goodIn_of _ (by decide +kernel)) ggX3_tell_X3_lordOf
set_option maxRecDepth 20000 in
theorem ggX3_tell_X3_churchOf : GoodIn wsX3_tell wsX3_churchOf := goodIn_r _ [23, 1, 24, 46, 47, 48, 49, 50, 51, 52, 53, 54, 55, 56, 57, 58, 59, 60, 61, 62, 63, 64, 65, 66, 67, 68, 69] (by decide +kernel) (by decide +kernel)
set_option maxRecDepth 20000 in
theorem gX3_tell_X3_churchOf : GoodIn wsX3_tell (wsV RX3 91 RX3 yX3_churchOf wsX3_churchOf) := goodIn_app (goodIn_of _ (by decide +kernel)) ggX3_tell_X3_churchOf
set_option maxRecDepth 20000 in
theorem ggX3_tell_X3_lives : GoodIn wsX3_tell wsX3_lives := goodIn_r _ [28, 1, 46, 47, 48, 49, 50, 51, 52, 53, 54, 55, 56, 57, 58, 59, 60, 61, 62, 63, 64, 65, 66, 67, 68, 69] (by decide +kernel) (by decide +kernel)
set_option maxRecDepth 20000 in
theorem gX3_tell_X3_lives : GoodIn wsX3_tell (wsV RX3 110 RX3 yX3_lives wsX3_lives) := goodIn_app (goodIn_of _ (by decide +kernel)) ggX3_tell_X3_lives
set_option maxRecDepth 20000 in
theorem ggX3_tell_X3_lossBy : GoodIn wsX3_tell wsX3_lossBy := goodIn_r _ [32, 33, 34, 35, 6, 36, 15, 16, 17, 18, 1, 19, 20, 21, 22, 23, 24, 37, 38, 39, 40, 8, 9, 41, 42, 43, 44, 45, 46, 47, 48, 49, 50, 51, 52, 53, 54, 55, 56, 57, 58, 59, 60, 61, 62, 63, 64, 65, 66, 67, 68, 69] (by decide +kernel) (by decide +kernel)
set_option maxRecDepth 20000 in
theorem gX3_tell_X3_lossBy : GoodIn wsX3_tell (wsV RX3 114 RX3 yX3_lossBy wsX3_lossBy) := goodIn_app (goodIn_of _ (by decide +kernel)) ggX3_tell_X3_lossBy
theorem dX3_tell_0 : decode cX3_tell 0 = .ok (.iload_n 2, 1) := by decide +kernel
theorem dX3_tell_1 : decode cX3_tell 1 = .ok (.tableswitch 117 0 8 #[51, 51, 51, 51, 62, 68, 78, 84, 90], 51) := by decide +kernel
theorem dX3_tell_52 : decode cX3_tell 52 = .ok (.aload_n 0, 1) := by decide +kernel
theorem dX3_tell_53 : decode cX3_tell 53 = .ok (.getfield 13, 3) := by decide +kernel
theorem dX3_tell_56 : decode cX3_tell 56 = .ok (.iconst 4, 1) := by decide +kernel
theorem dX3_tell_57 : decode cX3_tell 57 = .ok (.iload_n 1, 1) := by decide +kernel
theorem dX3_tell_58 : decode cX3_tell 58 = .ok (.imul, 1) := by decide +kernel
theorem dX3_tell_59 : decode cX3_tell 59 = .ok (.iload_n 2, 1) := by decide +kernel
theorem dX3_tell_60 : decode cX3_tell 60 = .ok (.iadd, 1) := by decide +kernel
theorem dX3_tell_61 : decode cX3_tell 61 = .ok (.iaload, 1) := by decide +kernel
theorem dX3_tell_62 : decode cX3_tell 62 = .ok (.ireturn, 1) := by decide +kernel
theorem dX3_tell_63 : decode cX3_tell 63 = .ok (.aload_n 0, 1) := by decide +kernel
theorem dX3_tell_64 : decode cX3_tell 64 = .ok (.iload_n 1, 1) := by decide +kernel
theorem dX3_tell_65 : decode cX3_tell 65 = .ok (.invokevirtual 84, 3) := by decide +kernel
theorem dX3_tell_68 : decode cX3_tell 68 = .ok (.ireturn, 1) := by decide +kernel
theorem dX3_tell_69 : decode cX3_tell 69 = .ok (.aload_n 0, 1) := by decide +kernel
theorem dX3_tell_70 : decode cX3_tell 70 = .ok (.iload_n 1, 1) := by decide +kernel
theorem dX3_tell_71 : decode cX3_tell 71 = .ok (.aload_n 0, 1) := by decide +kernel
theorem dX3_tell_72 : decode cX3_tell 72 = .ok (.getfield 104, 3) := by decide +kernel
theorem dX3_tell_75 : decode cX3_tell 75 = .ok (.invokevirtual 107, 3) := by decide +kernel
theorem dX3_tell_78 : decode cX3_tell 78 = .ok (.ireturn, 1) := by decide +kernel
theorem dX3_tell_79 : decode cX3_tell 79 = .ok (.aload_n 0, 1) := by decide +kernel
theorem dX3_tell_80 : decode cX3_tell 80 = .ok (.iload_n 1, 1) := by decide +kernel
theorem dX3_tell_81 : decode cX3_tell 81 = .ok (.invokevirtual 88, 3) := by decide +kernel
theorem dX3_tell_84 : decode cX3_tell 84 = .ok (.ireturn, 1) := by decide +kernel
theorem dX3_tell_85 : decode cX3_tell 85 = .ok (.aload_n 0, 1) := by decide +kernel
theorem dX3_tell_86 : decode cX3_tell 86 = .ok (.iload_n 1, 1) := by decide +kernel
theorem dX3_tell_87 : decode cX3_tell 87 = .ok (.invokevirtual 91, 3) := by decide +kernel
theorem dX3_tell_90 : decode cX3_tell 90 = .ok (.ireturn, 1) := by decide +kernel
theorem dX3_tell_91 : decode cX3_tell 91 = .ok (.aload_n 0, 1) := by decide +kernel
theorem dX3_tell_92 : decode cX3_tell 92 = .ok (.iload_n 1, 1) := by decide +kernel
theorem dX3_tell_93 : decode cX3_tell 93 = .ok (.invokevirtual 110, 3) := by decide +kernel
theorem dX3_tell_96 : decode cX3_tell 96 = .ok (.ifCond .eq 20, 3) := by decide +kernel
theorem dX3_tell_99 : decode cX3_tell 99 = .ok (.aload_n 0, 1) := by decide +kernel
theorem dX3_tell_100 : decode cX3_tell 100 = .ok (.iload_n 1, 1) := by decide +kernel
theorem dX3_tell_101 : decode cX3_tell 101 = .ok (.aload_n 0, 1) := by decide +kernel
theorem dX3_tell_102 : decode cX3_tell 102 = .ok (.iload_n 1, 1) := by decide +kernel
theorem dX3_tell_103 : decode cX3_tell 103 = .ok (.aload_n 0, 1) := by decide +kernel
theorem dX3_tell_104 : decode cX3_tell 104 = .ok (.getfield 104, 3) := by decide +kernel
theorem dX3_tell_107 : decode cX3_tell 107 = .ok (.invokevirtual 107, 3) := by decide +kernel
theorem dX3_tell_110 : decode cX3_tell 110 = .ok (.invokevirtual 114, 3) := by decide +kernel
theorem dX3_tell_113 : decode cX3_tell 113 = .ok (.goto 4, 3) := by decide +kernel
theorem dX3_tell_116 : decode cX3_tell 116 = .ok (.iconst 0, 1) := by decide +kernel
theorem dX3_tell_117 : decode cX3_tell 117 = .ok (.ireturn, 1) := by decide +kernel
theorem dX3_tell_118 : decode cX3_tell 118 = .ok (.bipush (-102), 2) := by decide +kernel
theorem dX3_tell_120 : decode cX3_tell 120 = .ok (.ireturn, 1) := by decide +kernel
set_option maxRecDepth 20000 in
theorem ggX3_about_X3_isHolder : GoodIn wsX3_about wsX3_isHolder := goodIn_r _ [5, 6, 7, 8, 4, 9, 58, 59, 60, 61, 62, 63, 64, 65, 66, 67, 68, 69, 70, 71, 72, 73, 74, 75, 76, 77, 78, 79, 80, 81] (by decide +kernel) (by decide +kernel)
set_option maxRecDepth 20000 in
theorem gX3_about_X3_isHolder : GoodIn wsX3_about (wsV RX3 117 RX3 yX3_isHolder wsX3_isHolder) := goodIn_app (goodIn_of _ (by decide +kernel)) ggX3_about_X3_isHolder
set_option maxRecDepth 20000 in
theorem ggX3_about_X3_tell : GoodIn wsX3_about wsX3_tell := goodIn_r _ [13, 14, 15, 16, 17, 18, 4, 19, 20, 21, 22, 23, 24, 25, 26, 27, 28, 29, 30, 31, 32, 33, 34, 35, 36, 37, 38, 39, 40, 41, 42, 43, 44, 45, 46, 47, 48, 49, 50, 51, 52, 53, 54, 55, 56, 57, 58, 59, 60, 61, 62, 63, 64, 65, 66, 67, 68, 69, 70, 71, 72, 73, 74, 75, 76, 77, 78, 79, 80, 81] (by decide +kernel) (by decide +kernel)
set_option maxRecDepth 20000 in
theorem gX3_about_X3_tell : GoodIn wsX3_about (wsV RX3 120 RX3 yX3_tell wsX3_tell) := goodIn_app (goodIn_of _ (by decide +kernel)) ggX3_about_X3_tell
theorem dX3_about_0 : decode cX3_about 0 = .ok (.aload_n 0, 1) := by decide +kernel
theorem dX3_about_1 : decode cX3_about 1 = .ok (.iload_n 1, 1) := by decide +kernel
theorem dX3_about_2 : decode cX3_about 2 = .ok (.invokevirtual 117, 3) := by decide +kernel
theorem dX3_about_5 : decode cX3_about 5 = .ok (.ifCond .eq 12, 3) := by decide +kernel
theorem dX3_about_8 : decode cX3_about 8 = .ok (.aload_n 0, 1) := by decide +kernel
theorem dX3_about_9 : decode cX3_about 9 = .ok (.iload_n 1, 1) := by decide +kernel
theorem dX3_about_10 : decode cX3_about 10 = .ok (.iload_n 2, 1) := by decide +kernel
theorem dX3_about_11 : decode cX3_about 11 = .ok (.invokevirtual 120, 3) := by decide +kernel
theorem dX3_about_14 : decode cX3_about 14 = .ok (.goto 5, 3) := by decide +kernel
theorem dX3_about_17 : decode cX3_about 17 = .ok (.bipush (-101), 2) := by decide +kernel
theorem dX3_about_19 : decode cX3_about 19 = .ok (.ireturn, 1) := by decide +kernel
set_option maxRecDepth 20000 in
theorem ggX3_as_X3_isHolder : GoodIn wsX3_as wsX3_isHolder := goodIn_r _ [7, 8, 9, 10, 6, 11, 12, 13, 14, 15, 16, 17, 18, 19, 20, 21, 22, 23, 24, 25, 26, 27, 28, 29, 30, 31, 32, 33, 34, 35] (by decide +kernel) (by decide +kernel)
set_option maxRecDepth 20000 in
theorem gX3_as_X3_isHolder : GoodIn wsX3_as (wsV RX3 117 RX3 yX3_isHolder wsX3_isHolder) := goodIn_app (goodIn_of _ (by decide +kernel)) ggX3_as_X3_isHolder
set_option maxRecDepth 20000 in
theorem ggX3_as_X3_in : GoodIn wsX3_as wsX3_in := goodIn_r _ [11] (by decide +kernel) (by decide +kernel)
set_option maxRecDepth 20000 in
theorem gX3_as_X3_in : GoodIn wsX3_as (va_wsS RX3 49 yX3_in wsX3_in) := goodIn_app (goodIn_of _ (by decide +kernel)) ggX3_as_X3_in
theorem dX3_as_0 : decode cX3_as 0 = .ok (.aload_n 0, 1) := by decide +kernel
theorem dX3_as_1 : decode cX3_as 1 = .ok (.iload_n 1, 1) := by decide +kernel
theorem dX3_as_2 : decode cX3_as 2 = .ok (.invokevirtual 117, 3) := by decide +kernel
theorem dX3_as_5 : decode cX3_as 5 = .ok (.ifCond .ne 6, 3) := by decide +kernel
theorem dX3_as_8 : decode cX3_as 8 = .ok (.bipush (-101), 2) := by decide +kernel
theorem dX3_as_10 : decode cX3_as 10 = .ok (.ireturn, 1) := by decide +kernel
theorem dX3_as_11 : decode cX3_as 11 = .ok (.iload_n 2, 1) := by decide +kernel
theorem dX3_as_12 : decode cX3_as 12 = .ok (.i2l, 1) := by decide +kernel
theorem dX3_as_13 : decode cX3_as 13 = .ok (.lconst 0, 1) := by decide +kernel
theorem dX3_as_14 : decode cX3_as 14 = .ok (.ldc2_w 82, 3) := by decide +kernel
theorem dX3_as_17 : decode cX3_as 17 = .ok (.invokestatic 49, 3) := by decide +kernel
theorem dX3_as_20 : decode cX3_as 20 = .ok (.ifCond .ne 6, 3) := by decide +kernel
theorem dX3_as_23 : decode cX3_as 23 = .ok (.bipush (-102), 2) := by decide +kernel
theorem dX3_as_25 : decode cX3_as 25 = .ok (.ireturn, 1) := by decide +kernel
theorem dX3_as_26 : decode cX3_as 26 = .ok (.aload_n 0, 1) := by decide +kernel
theorem dX3_as_27 : decode cX3_as 27 = .ok (.getfield 13, 3) := by decide +kernel
theorem dX3_as_30 : decode cX3_as 30 = .ok (.iconst 4, 1) := by decide +kernel
theorem dX3_as_31 : decode cX3_as 31 = .ok (.iload_n 1, 1) := by decide +kernel
theorem dX3_as_32 : decode cX3_as 32 = .ok (.imul, 1) := by decide +kernel
theorem dX3_as_33 : decode cX3_as 33 = .ok (.iaload, 1) := by decide +kernel
theorem dX3_as_34 : decode cX3_as 34 = .ok (.istore_n 3, 1) := by decide +kernel
theorem dX3_as_35 : decode cX3_as 35 = .ok (.iload_n 2, 1) := by decide +kernel
theorem dX3_as_36 : decode cX3_as 36 = .ok (.ifCond .eq 18, 3) := by decide +kernel
theorem dX3_as_39 : decode cX3_as 39 = .ok (.iload_n 2, 1) := by decide +kernel
theorem dX3_as_40 : decode cX3_as 40 = .ok (.iload_n 3, 1) := by decide +kernel
theorem dX3_as_41 : decode cX3_as 41 = .ok (.if_icmp .eq 13, 3) := by decide +kernel
theorem dX3_as_44 : decode cX3_as 44 = .ok (.iload_n 2, 1) := by decide +kernel
theorem dX3_as_45 : decode cX3_as 45 = .ok (.iconst 3, 1) := by decide +kernel
theorem dX3_as_46 : decode cX3_as 46 = .ok (.if_icmp .ne 12, 3) := by decide +kernel
theorem dX3_as_49 : decode cX3_as 49 = .ok (.iload_n 3, 1) := by decide +kernel
theorem dX3_as_50 : decode cX3_as 50 = .ok (.iconst 4, 1) := by decide +kernel
theorem dX3_as_51 : decode cX3_as 51 = .ok (.if_icmp .ne 7, 3) := by decide +kernel
theorem dX3_as_54 : decode cX3_as 54 = .ok (.iconst 1, 1) := by decide +kernel
theorem dX3_as_55 : decode cX3_as 55 = .ok (.goto 4, 3) := by decide +kernel
theorem dX3_as_58 : decode cX3_as 58 = .ok (.iconst 0, 1) := by decide +kernel
theorem dX3_as_59 : decode cX3_as 59 = .ok (.istore 4, 2) := by decide +kernel
theorem dX3_as_61 : decode cX3_as 61 = .ok (.iload 4, 2) := by decide +kernel
theorem dX3_as_63 : decode cX3_as 63 = .ok (.ifCond .eq 7, 3) := by decide +kernel
theorem dX3_as_66 : decode cX3_as 66 = .ok (.iload_n 1, 1) := by decide +kernel
theorem dX3_as_67 : decode cX3_as 67 = .ok (.goto 4, 3) := by decide +kernel
theorem dX3_as_70 : decode cX3_as 70 = .ok (.iconst (-1), 1) := by decide +kernel
theorem dX3_as_71 : decode cX3_as 71 = .ok (.ireturn, 1) := by decide +kernel
set_option maxRecDepth 20000 in
theorem ggX3_heir_X3_isHolder : GoodIn wsX3_heir wsX3_isHolder := goodIn_r _ [6, 7, 8, 9, 5, 10, 11, 12, 13, 14, 15, 16, 17, 18, 19, 20, 21, 22, 23, 24, 25, 26, 27, 28, 29, 30, 31, 32, 33, 34] (by decide +kernel) (by decide +kernel)
set_option maxRecDepth 20000 in
theorem gX3_heir_X3_isHolder : GoodIn wsX3_heir (wsV RX3 117 RX3 yX3_isHolder wsX3_isHolder) := goodIn_app (goodIn_of _ (by decide +kernel)) ggX3_heir_X3_isHolder
theorem dX3_heir_0 : decode cX3_heir 0 = .ok (.aload_n 0, 1) := by decide +kernel
theorem dX3_heir_1 : decode cX3_heir 1 = .ok (.iload_n 1, 1) := by decide +kernel
theorem dX3_heir_2 : decode cX3_heir 2 = .ok (.invokevirtual 117, 3) := by decide +kernel
theorem dX3_heir_5 : decode cX3_heir 5 = .ok (.ifCond .eq 21, 3) := by decide +kernel
theorem dX3_heir_8 : decode cX3_heir 8 = .ok (.iload_n 2, 1) := by decide +kernel
theorem dX3_heir_9 : decode cX3_heir 9 = .ok (.iconst (-1), 1) := by decide +kernel
theorem dX3_heir_10 : decode cX3_heir 10 = .ok (.if_icmp .eq 11, 3) := by decide +kernel
theorem dX3_heir_13 : decode cX3_heir 13 = .ok (.aload_n 0, 1) := by decide +kernel
theorem dX3_heir_14 : decode cX3_heir 14 = .ok (.iload_n 2, 1) := by decide +kernel
theorem dX3_heir_15 : decode cX3_heir 15 = .ok (.invokevirtual 117, 3) := by decide +kernel
theorem dX3_heir_18 : decode cX3_heir 18 = .ok (.ifCond .eq 8, 3) := by decide +kernel
theorem dX3_heir_21 : decode cX3_heir 21 = .ok (.iload_n 1, 1) := by decide +kernel
theorem dX3_heir_22 : decode cX3_heir 22 = .ok (.iload_n 2, 1) := by decide +kernel
theorem dX3_heir_23 : decode cX3_heir 23 = .ok (.if_icmp .ne 6, 3) := by decide +kernel
theorem dX3_heir_26 : decode cX3_heir 26 = .ok (.bipush (-101), 2) := by decide +kernel
theorem dX3_heir_28 : decode cX3_heir 28 = .ok (.ireturn, 1) := by decide +kernel
theorem dX3_heir_29 : decode cX3_heir 29 = .ok (.aload_n 0, 1) := by decide +kernel
theorem dX3_heir_30 : decode cX3_heir 30 = .ok (.getfield 13, 3) := by decide +kernel
theorem dX3_heir_33 : decode cX3_heir 33 = .ok (.iconst 4, 1) := by decide +kernel
theorem dX3_heir_34 : decode cX3_heir 34 = .ok (.iload_n 1, 1) := by decide +kernel
theorem dX3_heir_35 : decode cX3_heir 35 = .ok (.imul, 1) := by decide +kernel
theorem dX3_heir_36 : decode cX3_heir 36 = .ok (.iconst 3, 1) := by decide +kernel
theorem dX3_heir_37 : decode cX3_heir 37 = .ok (.iadd, 1) := by decide +kernel
theorem dX3_heir_38 : decode cX3_heir 38 = .ok (.iaload, 1) := by decide +kernel
theorem dX3_heir_39 : decode cX3_heir 39 = .ok (.istore_n 3, 1) := by decide +kernel
theorem dX3_heir_40 : decode cX3_heir 40 = .ok (.aload_n 0, 1) := by decide +kernel
theorem dX3_heir_41 : decode cX3_heir 41 = .ok (.getfield 13, 3) := by decide +kernel
theorem dX3_heir_44 : decode cX3_heir 44 = .ok (.iconst 4, 1) := by decide +kernel
theorem dX3_heir_45 : decode cX3_heir 45 = .ok (.iload_n 1, 1) := by decide +kernel
theorem dX3_heir_46 : decode cX3_heir 46 = .ok (.imul, 1) := by decide +kernel
theorem dX3_heir_47 : decode cX3_heir 47 = .ok (.iconst 3, 1) := by decide +kernel
theorem dX3_heir_48 : decode cX3_heir 48 = .ok (.iadd, 1) := by decide +kernel
theorem dX3_heir_49 : decode cX3_heir 49 = .ok (.iload_n 2, 1) := by decide +kernel
theorem dX3_heir_50 : decode cX3_heir 50 = .ok (.iastore, 1) := by decide +kernel
theorem dX3_heir_51 : decode cX3_heir 51 = .ok (.iload_n 3, 1) := by decide +kernel
theorem dX3_heir_52 : decode cX3_heir 52 = .ok (.ireturn, 1) := by decide +kernel
set_option maxRecDepth 20000 in
theorem ggX3_beast_X3_isHolder : GoodIn wsX3_beast wsX3_isHolder := goodIn_r _ [8, 9, 10, 11, 7, 12, 22, 23, 24, 25, 26, 27, 28, 29, 30, 31, 32, 33, 34, 35, 36, 37, 38, 39, 40, 41, 42, 43, 44, 45] (by decide +kernel) (by decide +kernel)
set_option maxRecDepth 20000 in
theorem gX3_beast_X3_isHolder : GoodIn wsX3_beast (wsV RX3 117 RX3 yX3_isHolder wsX3_isHolder) := goodIn_app (goodIn_of _ (by decide +kernel)) ggX3_beast_X3_isHolder
set_option maxRecDepth 20000 in
theorem ggX3_beast_X3_in : GoodIn wsX3_beast wsX3_in := goodIn_r _ [12] (by decide +kernel) (by decide +kernel)
set_option maxRecDepth 20000 in
theorem gX3_beast_X3_in : GoodIn wsX3_beast (va_wsS RX3 49 yX3_in wsX3_in) := goodIn_app (goodIn_of _ (by decide +kernel)) ggX3_beast_X3_in
set_option maxRecDepth 20000 in
theorem ggX3_beast_X3_lives : GoodIn wsX3_beast wsX3_lives := goodIn_r _ [16, 17, 22, 23, 24, 25, 26, 27, 28, 29, 30, 31, 32, 33, 34, 35, 36, 37, 38, 39, 40, 41, 42, 43, 44, 45] (by decide +kernel) (by decide +kernel)
set_option maxRecDepth 20000 in
theorem gX3_beast_X3_lives : GoodIn wsX3_beast (wsV RX3 110 RX3 yX3_lives wsX3_lives) := goodIn_app (goodIn_of _ (by decide +kernel)) ggX3_beast_X3_lives
set_option maxRecDepth 20000 in
theorem ggX3_beast_X3_lay : GoodIn wsX3_beast wsX3_lay := goodIn_r _ [21, 3, 22, 23, 24, 25, 26, 27, 28, 29, 30, 31, 32, 33, 34, 35, 36, 37, 38, 39, 40, 41, 42, 43, 44, 45] (by decide +kernel) (by decide +kernel)
set_option maxRecDepth 20000 in
theorem gX3_beast_X3_lay : GoodIn wsX3_beast (wsV RX3 125 RX3 yX3_lay wsX3_lay) := goodIn_app (goodIn_of _ (by decide +kernel)) ggX3_beast_X3_lay
theorem dX3_beast_0 : decode cX3_beast 0 = .ok (.aload_n 0, 1) := by decide +kernel
theorem dX3_beast_1 : decode cX3_beast 1 = .ok (.iload_n 1, 1) := by decide +kernel
theorem dX3_beast_2 : decode cX3_beast 2 = .ok (.invokevirtual 117, 3) := by decide +kernel
theorem dX3_beast_5 : decode cX3_beast 5 = .ok (.ifCond .ne 6, 3) := by decide +kernel
theorem dX3_beast_8 : decode cX3_beast 8 = .ok (.bipush (-101), 2) := by decide +kernel
theorem dX3_beast_10 : decode cX3_beast 10 = .ok (.ireturn, 1) := by decide +kernel
theorem dX3_beast_11 : decode cX3_beast 11 = .ok (.iload_n 2, 1) := by decide +kernel
theorem dX3_beast_12 : decode cX3_beast 12 = .ok (.i2l, 1) := by decide +kernel
theorem dX3_beast_13 : decode cX3_beast 13 = .ok (.lconst 1, 1) := by decide +kernel
theorem dX3_beast_14 : decode cX3_beast 14 = .ok (.ldc2_w 123, 3) := by decide +kernel
theorem dX3_beast_17 : decode cX3_beast 17 = .ok (.invokestatic 49, 3) := by decide +kernel
theorem dX3_beast_20 : decode cX3_beast 20 = .ok (.ifCond .ne 6, 3) := by decide +kernel
theorem dX3_beast_23 : decode cX3_beast 23 = .ok (.bipush (-102), 2) := by decide +kernel
theorem dX3_beast_25 : decode cX3_beast 25 = .ok (.ireturn, 1) := by decide +kernel
theorem dX3_beast_26 : decode cX3_beast 26 = .ok (.aload_n 0, 1) := by decide +kernel
theorem dX3_beast_27 : decode cX3_beast 27 = .ok (.iload_n 1, 1) := by decide +kernel
theorem dX3_beast_28 : decode cX3_beast 28 = .ok (.invokevirtual 110, 3) := by decide +kernel
theorem dX3_beast_31 : decode cX3_beast 31 = .ok (.ifCond .ne 6, 3) := by decide +kernel
theorem dX3_beast_34 : decode cX3_beast 34 = .ok (.bipush (-103), 2) := by decide +kernel
theorem dX3_beast_36 : decode cX3_beast 36 = .ok (.ireturn, 1) := by decide +kernel
theorem dX3_beast_37 : decode cX3_beast 37 = .ok (.aload_n 0, 1) := by decide +kernel
theorem dX3_beast_38 : decode cX3_beast 38 = .ok (.getfield 79, 3) := by decide +kernel
theorem dX3_beast_41 : decode cX3_beast 41 = .ok (.bipush 6, 2) := by decide +kernel
theorem dX3_beast_43 : decode cX3_beast 43 = .ok (.if_icmp .ne 6, 3) := by decide +kernel
theorem dX3_beast_46 : decode cX3_beast 46 = .ok (.bipush (-104), 2) := by decide +kernel
theorem dX3_beast_48 : decode cX3_beast 48 = .ok (.ireturn, 1) := by decide +kernel
theorem dX3_beast_49 : decode cX3_beast 49 = .ok (.aload_n 0, 1) := by decide +kernel
theorem dX3_beast_50 : decode cX3_beast 50 = .ok (.getfield 16, 3) := by decide +kernel
theorem dX3_beast_53 : decode cX3_beast 53 = .ok (.iconst 5, 1) := by decide +kernel
theorem dX3_beast_54 : decode cX3_beast 54 = .ok (.aload_n 0, 1) := by decide +kernel
theorem dX3_beast_55 : decode cX3_beast 55 = .ok (.getfield 79, 3) := by decide +kernel
theorem dX3_beast_58 : decode cX3_beast 58 = .ok (.imul, 1) := by decide +kernel
theorem dX3_beast_59 : decode cX3_beast 59 = .ok (.iload_n 2, 1) := by decide +kernel
theorem dX3_beast_60 : decode cX3_beast 60 = .ok (.iastore, 1) := by decide +kernel
theorem dX3_beast_61 : decode cX3_beast 61 = .ok (.aload_n 0, 1) := by decide +kernel
theorem dX3_beast_62 : decode cX3_beast 62 = .ok (.getfield 16, 3) := by decide +kernel
theorem dX3_beast_65 : decode cX3_beast 65 = .ok (.iconst 5, 1) := by decide +kernel
theorem dX3_beast_66 : decode cX3_beast 66 = .ok (.aload_n 0, 1) := by decide +kernel
theorem dX3_beast_67 : decode cX3_beast 67 = .ok (.getfield 79, 3) := by decide +kernel
theorem dX3_beast_70 : decode cX3_beast 70 = .ok (.imul, 1) := by decide +kernel
theorem dX3_beast_71 : decode cX3_beast 71 = .ok (.iconst 4, 1) := by decide +kernel
theorem dX3_beast_72 : decode cX3_beast 72 = .ok (.iadd, 1) := by decide +kernel
theorem dX3_beast_73 : decode cX3_beast 73 = .ok (.iconst (-1), 1) := by decide +kernel
theorem dX3_beast_74 : decode cX3_beast 74 = .ok (.iastore, 1) := by decide +kernel
theorem dX3_beast_75 : decode cX3_beast 75 = .ok (.aload_n 0, 1) := by decide +kernel
theorem dX3_beast_76 : decode cX3_beast 76 = .ok (.aload_n 0, 1) := by decide +kernel
theorem dX3_beast_77 : decode cX3_beast 77 = .ok (.getfield 79, 3) := by decide +kernel
theorem dX3_beast_80 : decode cX3_beast 80 = .ok (.iload_n 1, 1) := by decide +kernel
theorem dX3_beast_81 : decode cX3_beast 81 = .ok (.iconst (-1), 1) := by decide +kernel
theorem dX3_beast_82 : decode cX3_beast 82 = .ok (.iconst (-1), 1) := by decide +kernel
theorem dX3_beast_83 : decode cX3_beast 83 = .ok (.invokevirtual 125, 3) := by decide +kernel
theorem dX3_beast_86 : decode cX3_beast 86 = .ok (.aload_n 0, 1) := by decide +kernel
theorem dX3_beast_87 : decode cX3_beast 87 = .ok (.dup, 1) := by decide +kernel
theorem dX3_beast_88 : decode cX3_beast 88 = .ok (.getfield 79, 3) := by decide +kernel
theorem dX3_beast_91 : decode cX3_beast 91 = .ok (.iconst 1, 1) := by decide +kernel
theorem dX3_beast_92 : decode cX3_beast 92 = .ok (.iadd, 1) := by decide +kernel
theorem dX3_beast_93 : decode cX3_beast 93 = .ok (.putfield 79, 3) := by decide +kernel
theorem dX3_beast_96 : decode cX3_beast 96 = .ok (.aload_n 0, 1) := by decide +kernel
theorem dX3_beast_97 : decode cX3_beast 97 = .ok (.getfield 79, 3) := by decide +kernel
theorem dX3_beast_100 : decode cX3_beast 100 = .ok (.iconst 1, 1) := by decide +kernel
theorem dX3_beast_101 : decode cX3_beast 101 = .ok (.isub, 1) := by decide +kernel
theorem dX3_beast_102 : decode cX3_beast 102 = .ok (.ireturn, 1) := by decide +kernel
theorem dX3_lay_0 : decode cX3_lay 0 = .ok (.aload_n 0, 1) := by decide +kernel
theorem dX3_lay_1 : decode cX3_lay 1 = .ok (.getfield 16, 3) := by decide +kernel
theorem dX3_lay_4 : decode cX3_lay 4 = .ok (.iconst 5, 1) := by decide +kernel
theorem dX3_lay_5 : decode cX3_lay 5 = .ok (.iload_n 1, 1) := by decide +kernel
theorem dX3_lay_6 : decode cX3_lay 6 = .ok (.imul, 1) := by decide +kernel
theorem dX3_lay_7 : decode cX3_lay 7 = .ok (.iconst 1, 1) := by decide +kernel
theorem dX3_lay_8 : decode cX3_lay 8 = .ok (.iadd, 1) := by decide +kernel
theorem dX3_lay_9 : decode cX3_lay 9 = .ok (.iload_n 2, 1) := by decide +kernel
theorem dX3_lay_10 : decode cX3_lay 10 = .ok (.iastore, 1) := by decide +kernel
theorem dX3_lay_11 : decode cX3_lay 11 = .ok (.aload_n 0, 1) := by decide +kernel
theorem dX3_lay_12 : decode cX3_lay 12 = .ok (.getfield 16, 3) := by decide +kernel
theorem dX3_lay_15 : decode cX3_lay 15 = .ok (.iconst 5, 1) := by decide +kernel
theorem dX3_lay_16 : decode cX3_lay 16 = .ok (.iload_n 1, 1) := by decide +kernel
theorem dX3_lay_17 : decode cX3_lay 17 = .ok (.imul, 1) := by decide +kernel
theorem dX3_lay_18 : decode cX3_lay 18 = .ok (.iconst 2, 1) := by decide +kernel
theorem dX3_lay_19 : decode cX3_lay 19 = .ok (.iadd, 1) := by decide +kernel
theorem dX3_lay_20 : decode cX3_lay 20 = .ok (.iload_n 3, 1) := by decide +kernel
theorem dX3_lay_21 : decode cX3_lay 21 = .ok (.iastore, 1) := by decide +kernel
theorem dX3_lay_22 : decode cX3_lay 22 = .ok (.aload_n 0, 1) := by decide +kernel
theorem dX3_lay_23 : decode cX3_lay 23 = .ok (.getfield 16, 3) := by decide +kernel
theorem dX3_lay_26 : decode cX3_lay 26 = .ok (.iconst 5, 1) := by decide +kernel
theorem dX3_lay_27 : decode cX3_lay 27 = .ok (.iload_n 1, 1) := by decide +kernel
theorem dX3_lay_28 : decode cX3_lay 28 = .ok (.imul, 1) := by decide +kernel
theorem dX3_lay_29 : decode cX3_lay 29 = .ok (.iconst 3, 1) := by decide +kernel
theorem dX3_lay_30 : decode cX3_lay 30 = .ok (.iadd, 1) := by decide +kernel
theorem dX3_lay_31 : decode cX3_lay 31 = .ok (.iload 4, 2) := by decide +kernel
theorem dX3_lay_33 : decode cX3_lay 33 = .ok (.iastore, 1) := by decide +kernel
theorem dX3_lay_34 : decode cX3_lay 34 = .ok (.return_, 1) := by decide +kernel
set_option maxRecDepth 20000 in
theorem ggX3_beastOf_X3_isBeast : GoodIn wsX3_beastOf wsX3_isBeast := goodIn_r _ [7, 8, 9, 10, 6, 11, 12, 13, 14, 15, 16, 17, 18, 19, 20, 21, 22, 23, 24, 25, 26, 27, 28, 29, 30, 31, 32, 33, 34, 35] (by decide +kernel) (by decide +kernel)
set_option maxRecDepth 20000 in
theorem gX3_beastOf_X3_isBeast : GoodIn wsX3_beastOf (wsV RX3 129 RX3 yX3_isBeast wsX3_isBeast) := goodIn_app (goodIn_of _ (by decide +kernel)) ggX3_beastOf_X3_isBeast
set_option maxRecDepth 20000 in
theorem ggX3_beastOf_X3_in : GoodIn wsX3_beastOf wsX3_in := goodIn_r _ [11] (by decide +kernel) (by decide +kernel)
set_option maxRecDepth 20000 in
theorem gX3_beastOf_X3_in : GoodIn wsX3_beastOf (va_wsS RX3 49 yX3_in wsX3_in) := goodIn_app (goodIn_of _ (by decide +kernel)) ggX3_beastOf_X3_in
theorem dX3_beastOf_0 : decode cX3_beastOf 0 = .ok (.aload_n 0, 1) := by decide +kernel
theorem dX3_beastOf_1 : decode cX3_beastOf 1 = .ok (.iload_n 1, 1) := by decide +kernel
theorem dX3_beastOf_2 : decode cX3_beastOf 2 = .ok (.invokevirtual 129, 3) := by decide +kernel
theorem dX3_beastOf_5 : decode cX3_beastOf 5 = .ok (.ifCond .ne 6, 3) := by decide +kernel
theorem dX3_beastOf_8 : decode cX3_beastOf 8 = .ok (.bipush (-101), 2) := by decide +kernel
theorem dX3_beastOf_10 : decode cX3_beastOf 10 = .ok (.ireturn, 1) := by decide +kernel
theorem dX3_beastOf_11 : decode cX3_beastOf 11 = .ok (.iload_n 2, 1) := by decide +kernel
theorem dX3_beastOf_12 : decode cX3_beastOf 12 = .ok (.i2l, 1) := by decide +kernel
theorem dX3_beastOf_13 : decode cX3_beastOf 13 = .ok (.lconst 0, 1) := by decide +kernel
theorem dX3_beastOf_14 : decode cX3_beastOf 14 = .ok (.ldc2_w 82, 3) := by decide +kernel
theorem dX3_beastOf_17 : decode cX3_beastOf 17 = .ok (.invokestatic 49, 3) := by decide +kernel
theorem dX3_beastOf_20 : decode cX3_beastOf 20 = .ok (.ifCond .eq 16, 3) := by decide +kernel
theorem dX3_beastOf_23 : decode cX3_beastOf 23 = .ok (.aload_n 0, 1) := by decide +kernel
theorem dX3_beastOf_24 : decode cX3_beastOf 24 = .ok (.getfield 16, 3) := by decide +kernel
theorem dX3_beastOf_27 : decode cX3_beastOf 27 = .ok (.iconst 5, 1) := by decide +kernel
theorem dX3_beastOf_28 : decode cX3_beastOf 28 = .ok (.iload_n 1, 1) := by decide +kernel
theorem dX3_beastOf_29 : decode cX3_beastOf 29 = .ok (.imul, 1) := by decide +kernel
theorem dX3_beastOf_30 : decode cX3_beastOf 30 = .ok (.iload_n 2, 1) := by decide +kernel
theorem dX3_beastOf_31 : decode cX3_beastOf 31 = .ok (.iadd, 1) := by decide +kernel
theorem dX3_beastOf_32 : decode cX3_beastOf 32 = .ok (.iaload, 1) := by decide +kernel
theorem dX3_beastOf_33 : decode cX3_beastOf 33 = .ok (.goto 5, 3) := by decide +kernel
theorem dX3_beastOf_36 : decode cX3_beastOf 36 = .ok (.bipush (-102), 2) := by decide +kernel
theorem dX3_beastOf_38 : decode cX3_beastOf 38 = .ok (.ireturn, 1) := by decide +kernel
set_option maxRecDepth 20000 in
theorem ggX3_mayGive_X3_lives : GoodIn wsX3_mayGive wsX3_lives := goodIn_r _ [6, 7, 8, 9, 10, 11, 12, 13, 14, 15, 16, 17, 18, 19, 20, 21, 22, 23, 24, 25, 26, 27, 28, 29, 30, 31] (by decide +kernel) (by decide +kernel)
set_option maxRecDepth 20000 in
theorem gX3_mayGive_X3_lives : GoodIn wsX3_mayGive (wsV RX3 110 RX3 yX3_lives wsX3_lives) := goodIn_app (goodIn_of _ (by decide +kernel)) ggX3_mayGive_X3_lives
theorem dX3_mayGive_0 : decode cX3_mayGive 0 = .ok (.aload_n 0, 1) := by decide +kernel
theorem dX3_mayGive_1 : decode cX3_mayGive 1 = .ok (.getfield 16, 3) := by decide +kernel
theorem dX3_mayGive_4 : decode cX3_mayGive 4 = .ok (.iconst 5, 1) := by decide +kernel
theorem dX3_mayGive_5 : decode cX3_mayGive 5 = .ok (.iload_n 1, 1) := by decide +kernel
theorem dX3_mayGive_6 : decode cX3_mayGive 6 = .ok (.imul, 1) := by decide +kernel
theorem dX3_mayGive_7 : decode cX3_mayGive 7 = .ok (.iconst 1, 1) := by decide +kernel
theorem dX3_mayGive_8 : decode cX3_mayGive 8 = .ok (.iadd, 1) := by decide +kernel
theorem dX3_mayGive_9 : decode cX3_mayGive 9 = .ok (.iaload, 1) := by decide +kernel
theorem dX3_mayGive_10 : decode cX3_mayGive 10 = .ok (.istore_n 3, 1) := by decide +kernel
theorem dX3_mayGive_11 : decode cX3_mayGive 11 = .ok (.iload_n 3, 1) := by decide +kernel
theorem dX3_mayGive_12 : decode cX3_mayGive 12 = .ok (.iconst (-1), 1) := by decide +kernel
theorem dX3_mayGive_13 : decode cX3_mayGive 13 = .ok (.if_icmp .eq 20, 3) := by decide +kernel
theorem dX3_mayGive_16 : decode cX3_mayGive 16 = .ok (.iload_n 3, 1) := by decide +kernel
theorem dX3_mayGive_17 : decode cX3_mayGive 17 = .ok (.iload_n 2, 1) := by decide +kernel
theorem dX3_mayGive_18 : decode cX3_mayGive 18 = .ok (.if_icmp .eq 15, 3) := by decide +kernel
theorem dX3_mayGive_21 : decode cX3_mayGive 21 = .ok (.aload_n 0, 1) := by decide +kernel
theorem dX3_mayGive_22 : decode cX3_mayGive 22 = .ok (.iload_n 2, 1) := by decide +kernel
theorem dX3_mayGive_23 : decode cX3_mayGive 23 = .ok (.invokevirtual 110, 3) := by decide +kernel
theorem dX3_mayGive_26 : decode cX3_mayGive 26 = .ok (.ifCond .eq 7, 3) := by decide +kernel
theorem dX3_mayGive_29 : decode cX3_mayGive 29 = .ok (.iconst 1, 1) := by decide +kernel
theorem dX3_mayGive_30 : decode cX3_mayGive 30 = .ok (.goto 4, 3) := by decide +kernel
theorem dX3_mayGive_33 : decode cX3_mayGive 33 = .ok (.iconst 0, 1) := by decide +kernel
theorem dX3_mayGive_34 : decode cX3_mayGive 34 = .ok (.ireturn, 1) := by decide +kernel
set_option maxRecDepth 20000 in
theorem ggX3_gives_X3_lay : GoodIn wsX3_gives wsX3_lay := goodIn_r _ [7, 1, 8, 9, 10, 11, 12, 13, 14, 15, 16, 17, 18, 19, 20, 21, 22, 23, 24, 25, 26, 27, 28, 29, 30, 31] (by decide +kernel) (by decide +kernel)
set_option maxRecDepth 20000 in
theorem gX3_gives_X3_lay : GoodIn wsX3_gives (wsV RX3 125 RX3 yX3_lay wsX3_lay) := goodIn_app (goodIn_of _ (by decide +kernel)) ggX3_gives_X3_lay
theorem dX3_gives_0 : decode cX3_gives 0 = .ok (.aload_n 0, 1) := by decide +kernel
theorem dX3_gives_1 : decode cX3_gives 1 = .ok (.iload_n 1, 1) := by decide +kernel
theorem dX3_gives_2 : decode cX3_gives 2 = .ok (.iload_n 2, 1) := by decide +kernel
theorem dX3_gives_3 : decode cX3_gives 3 = .ok (.aload_n 0, 1) := by decide +kernel
theorem dX3_gives_4 : decode cX3_gives 4 = .ok (.getfield 16, 3) := by decide +kernel
theorem dX3_gives_7 : decode cX3_gives 7 = .ok (.iconst 5, 1) := by decide +kernel
theorem dX3_gives_8 : decode cX3_gives 8 = .ok (.iload_n 1, 1) := by decide +kernel
theorem dX3_gives_9 : decode cX3_gives 9 = .ok (.imul, 1) := by decide +kernel
theorem dX3_gives_10 : decode cX3_gives 10 = .ok (.iconst 1, 1) := by decide +kernel
theorem dX3_gives_11 : decode cX3_gives 11 = .ok (.iadd, 1) := by decide +kernel
theorem dX3_gives_12 : decode cX3_gives 12 = .ok (.iaload, 1) := by decide +kernel
theorem dX3_gives_13 : decode cX3_gives 13 = .ok (.aload_n 0, 1) := by decide +kernel
theorem dX3_gives_14 : decode cX3_gives 14 = .ok (.getfield 104, 3) := by decide +kernel
theorem dX3_gives_17 : decode cX3_gives 17 = .ok (.invokevirtual 125, 3) := by decide +kernel
theorem dX3_gives_20 : decode cX3_gives 20 = .ok (.return_, 1) := by decide +kernel
set_option maxRecDepth 20000 in
theorem ggX3_give_X3_isBeast : GoodIn wsX3_give wsX3_isBeast := goodIn_r _ [6, 7, 8, 9, 5, 10, 34, 35, 36, 37, 38, 39, 40, 41, 42, 43, 44, 45, 46, 47, 48, 49, 50, 51, 52, 53, 54, 55, 56, 57] (by decide +kernel) (by decide +kernel)
set_option maxRecDepth 20000 in
theorem gX3_give_X3_isBeast : GoodIn wsX3_give (wsV RX3 129 RX3 yX3_isBeast wsX3_isBeast) := goodIn_app (goodIn_of _ (by decide +kernel)) ggX3_give_X3_isBeast
set_option maxRecDepth 20000 in
theorem ggX3_give_X3_isHolder : GoodIn wsX3_give wsX3_isHolder := goodIn_r _ [14, 15, 8, 9, 5, 10, 34, 35, 36, 37, 38, 39, 40, 41, 42, 43, 44, 45, 46, 47, 48, 49, 50, 51, 52, 53, 54, 55, 56, 57] (by decide +kernel) (by decide +kernel)
set_option maxRecDepth 20000 in
theorem gX3_give_X3_isHolder : GoodIn wsX3_give (wsV RX3 117 RX3 yX3_isHolder wsX3_isHolder) := goodIn_app (goodIn_of _ (by decide +kernel)) ggX3_give_X3_isHolder
set_option maxRecDepth 20000 in
theorem ggX3_give_X3_mayGive : GoodIn wsX3_give wsX3_mayGive := goodIn_r _ [19, 1, 20, 21, 22, 5, 23, 24, 34, 35, 36, 37, 38, 39, 40, 41, 42, 43, 44, 45, 46, 47, 48, 49, 50, 51, 52, 53, 54, 55, 56, 57] (by decide +kernel) (by decide +kernel)
set_option maxRecDepth 20000 in
theorem gX3_give_X3_mayGive : GoodIn wsX3_give (wsV RX3 132 RX3 yX3_mayGive wsX3_mayGive) := goodIn_app (goodIn_of _ (by decide +kernel)) ggX3_give_X3_mayGive
set_option maxRecDepth 20000 in
theorem ggX3_give_X3_gives : GoodIn wsX3_give wsX3_gives := goodIn_r _ [28, 1, 29, 30, 31, 32, 5, 33, 34, 35, 36, 37, 38, 39, 40, 41, 42, 43, 44, 45, 46, 47, 48, 49, 50, 51, 52, 53, 54, 55, 56, 57] (by decide +kernel) (by decide +kernel)
set_option maxRecDepth 20000 in
theorem gX3_give_X3_gives : GoodIn wsX3_give (wsV RX3 135 RX3 yX3_gives wsX3_gives) := goodIn_app (goodIn_of _ (by decide +kernel)) ggX3_give_X3_gives
theorem dX3_give_0 : decode cX3_give 0 = .ok (.aload_n 0, 1) := by decide +kernel
theorem dX3_give_1 : decode cX3_give 1 = .ok (.iload_n 1, 1) := by decide +kernel
theorem dX3_give_2 : decode cX3_give 2 = .ok (.invokevirtual 129, 3) := by decide +kernel
theorem dX3_give_5 : decode cX3_give 5 = .ok (.ifCond .eq 11, 3) := by decide +kernel
theorem dX3_give_8 : decode cX3_give 8 = .ok (.aload_n 0, 1) := by decide +kernel
theorem dX3_give_9 : decode cX3_give 9 = .ok (.iload_n 2, 1) := by decide +kernel
theorem dX3_give_10 : decode cX3_give 10 = .ok (.invokevirtual 117, 3) := by decide +kernel
theorem dX3_give_13 : decode cX3_give 13 = .ok (.ifCond .ne 6, 3) := by decide +kernel
theorem dX3_give_16 : decode cX3_give 16 = .ok (.bipush (-101), 2) := by decide +kernel
theorem dX3_give_18 : decode cX3_give 18 = .ok (.ireturn, 1) := by decide +kernel
theorem dX3_give_19 : decode cX3_give 19 = .ok (.aload_n 0, 1) := by decide +kernel
theorem dX3_give_20 : decode cX3_give 20 = .ok (.iload_n 1, 1) := by decide +kernel
theorem dX3_give_21 : decode cX3_give 21 = .ok (.iload_n 2, 1) := by decide +kernel
theorem dX3_give_22 : decode cX3_give 22 = .ok (.invokevirtual 132, 3) := by decide +kernel
theorem dX3_give_25 : decode cX3_give 25 = .ok (.ifCond .ne 6, 3) := by decide +kernel
theorem dX3_give_28 : decode cX3_give 28 = .ok (.bipush (-103), 2) := by decide +kernel
theorem dX3_give_30 : decode cX3_give 30 = .ok (.ireturn, 1) := by decide +kernel
theorem dX3_give_31 : decode cX3_give 31 = .ok (.aload_n 0, 1) := by decide +kernel
theorem dX3_give_32 : decode cX3_give 32 = .ok (.getfield 16, 3) := by decide +kernel
theorem dX3_give_35 : decode cX3_give 35 = .ok (.iconst 5, 1) := by decide +kernel
theorem dX3_give_36 : decode cX3_give 36 = .ok (.iload_n 1, 1) := by decide +kernel
theorem dX3_give_37 : decode cX3_give 37 = .ok (.imul, 1) := by decide +kernel
theorem dX3_give_38 : decode cX3_give 38 = .ok (.iconst 1, 1) := by decide +kernel
theorem dX3_give_39 : decode cX3_give 39 = .ok (.iadd, 1) := by decide +kernel
theorem dX3_give_40 : decode cX3_give 40 = .ok (.iaload, 1) := by decide +kernel
theorem dX3_give_41 : decode cX3_give 41 = .ok (.istore_n 3, 1) := by decide +kernel
theorem dX3_give_42 : decode cX3_give 42 = .ok (.aload_n 0, 1) := by decide +kernel
theorem dX3_give_43 : decode cX3_give 43 = .ok (.iload_n 1, 1) := by decide +kernel
theorem dX3_give_44 : decode cX3_give 44 = .ok (.iload_n 2, 1) := by decide +kernel
theorem dX3_give_45 : decode cX3_give 45 = .ok (.invokevirtual 135, 3) := by decide +kernel
theorem dX3_give_48 : decode cX3_give 48 = .ok (.iload_n 3, 1) := by decide +kernel
theorem dX3_give_49 : decode cX3_give 49 = .ok (.ireturn, 1) := by decide +kernel
set_option maxRecDepth 20000 in
theorem ggX3_dies_X3_heldBits : GoodIn wsX3_dies wsX3_heldBits := goodIn_r _ [9, 3, 4, 10, 11, 12, 13, 8, 14, 46, 47, 48, 49, 50, 51, 52, 53, 54, 55, 56, 57, 58, 59, 60, 61, 62, 63, 64, 65, 66, 67, 68, 69] (by decide +kernel) (by decide +kernel)
set_option maxRecDepth 20000 in
theorem gX3_dies_X3_heldBits : GoodIn wsX3_dies (wsV RX3 107 RX3 yX3_heldBits wsX3_heldBits) := goodIn_app (goodIn_of _ (by decide +kernel)) ggX3_dies_X3_heldBits
set_option maxRecDepth 20000 in
theorem ggX3_dies_X3_takenOf : GoodIn wsX3_dies wsX3_takenOf := goodIn_r _ [18, 19, 20, 21, 8, 22, 2, 23, 24, 25, 26, 27, 28, 29, 30, 31, 32, 3, 4, 33, 46, 47, 48, 49, 50, 51, 52, 53, 54, 55, 56, 57, 58, 59, 60, 61, 62, 63, 64, 65, 66, 67, 68, 69] (by decide +kernel) (by decide +kernel)
set_option maxRecDepth 20000 in
theorem gX3_dies_X3_takenOf : GoodIn wsX3_dies (wsV RX3 97 RX3 yX3_takenOf wsX3_takenOf) := goodIn_app (goodIn_of _ (by decide +kernel)) ggX3_dies_X3_takenOf
set_option maxRecDepth 20000 in
theorem ggX3_dies_X3_worthOf : GoodIn wsX3_dies wsX3_worthOf := goodIn_r _ [37, 3, 4, 46, 47, 48, 49, 50, 51, 52, 53, 54, 55, 56, 57, 58, 59, 60, 61, 62, 63, 64, 65, 66, 67, 68, 69] (by decide +kernel) (by decide +kernel)
set_option maxRecDepth 20000 in
theorem gX3_dies_X3_worthOf : GoodIn wsX3_dies (wsV RX3 101 RX3 yX3_worthOf wsX3_worthOf) := goodIn_app (goodIn_of _ (by decide +kernel)) ggX3_dies_X3_worthOf
set_option maxRecDepth 20000 in
theorem ggX3_dies_X3_lay : GoodIn wsX3_dies wsX3_lay := goodIn_r _ [41, 4, 46, 47, 48, 49, 50, 51, 52, 53, 54, 55, 56, 57, 58, 59, 60, 61, 62, 63, 64, 65, 66, 67, 68, 69] (by decide +kernel) (by decide +kernel)
set_option maxRecDepth 20000 in
theorem gX3_dies_X3_lay : GoodIn wsX3_dies (wsV RX3 125 RX3 yX3_lay wsX3_lay) := goodIn_app (goodIn_of _ (by decide +kernel)) ggX3_dies_X3_lay
set_option maxRecDepth 20000 in
theorem ggX3_dies_X3_lives : GoodIn wsX3_dies wsX3_lives := goodIn_r _ [45, 2, 46, 47, 48, 49, 50, 51, 52, 53, 54, 55, 56, 57, 58, 59, 60, 61, 62, 63, 64, 65, 66, 67, 68, 69] (by decide +kernel) (by decide +kernel)
set_option maxRecDepth 20000 in
theorem gX3_dies_X3_lives : GoodIn wsX3_dies (wsV RX3 110 RX3 yX3_lives wsX3_lives) := goodIn_app (goodIn_of _ (by decide +kernel)) ggX3_dies_X3_lives
theorem dX3_dies_0 : decode cX3_dies 0 = .ok (.aload_n 0, 1) := by decide +kernel
theorem dX3_dies_1 : decode cX3_dies 1 = .ok (.iload_n 1, 1) := by decide +kernel
theorem dX3_dies_2 : decode cX3_dies 2 = .ok (.aload_n 0, 1) := by decide +kernel
theorem dX3_dies_3 : decode cX3_dies 3 = .ok (.iload_n 1, 1) := by decide +kernel
theorem dX3_dies_4 : decode cX3_dies 4 = .ok (.aload_n 0, 1) := by decide +kernel
theorem dX3_dies_5 : decode cX3_dies 5 = .ok (.getfield 104, 3) := by decide +kernel
theorem dX3_dies_8 : decode cX3_dies 8 = .ok (.invokevirtual 107, 3) := by decide +kernel
theorem dX3_dies_11 : decode cX3_dies 11 = .ok (.invokevirtual 97, 3) := by decide +kernel
theorem dX3_dies_14 : decode cX3_dies 14 = .ok (.istore_n 2, 1) := by decide +kernel
theorem dX3_dies_15 : decode cX3_dies 15 = .ok (.aload_n 0, 1) := by decide +kernel
theorem dX3_dies_16 : decode cX3_dies 16 = .ok (.iload_n 2, 1) := by decide +kernel
theorem dX3_dies_17 : decode cX3_dies 17 = .ok (.invokevirtual 101, 3) := by decide +kernel
theorem dX3_dies_20 : decode cX3_dies 20 = .ok (.istore_n 3, 1) := by decide +kernel
theorem dX3_dies_21 : decode cX3_dies 21 = .ok (.aload_n 0, 1) := by decide +kernel
theorem dX3_dies_22 : decode cX3_dies 22 = .ok (.getfield 13, 3) := by decide +kernel
theorem dX3_dies_25 : decode cX3_dies 25 = .ok (.iconst 4, 1) := by decide +kernel
theorem dX3_dies_26 : decode cX3_dies 26 = .ok (.iload_n 1, 1) := by decide +kernel
theorem dX3_dies_27 : decode cX3_dies 27 = .ok (.imul, 1) := by decide +kernel
theorem dX3_dies_28 : decode cX3_dies 28 = .ok (.iconst 3, 1) := by decide +kernel
theorem dX3_dies_29 : decode cX3_dies 29 = .ok (.iadd, 1) := by decide +kernel
theorem dX3_dies_30 : decode cX3_dies 30 = .ok (.iaload, 1) := by decide +kernel
theorem dX3_dies_31 : decode cX3_dies 31 = .ok (.istore 4, 2) := by decide +kernel
theorem dX3_dies_33 : decode cX3_dies 33 = .ok (.aload_n 0, 1) := by decide +kernel
theorem dX3_dies_34 : decode cX3_dies 34 = .ok (.getfield 13, 3) := by decide +kernel
theorem dX3_dies_37 : decode cX3_dies 37 = .ok (.iconst 4, 1) := by decide +kernel
theorem dX3_dies_38 : decode cX3_dies 38 = .ok (.iload_n 1, 1) := by decide +kernel
theorem dX3_dies_39 : decode cX3_dies 39 = .ok (.imul, 1) := by decide +kernel
theorem dX3_dies_40 : decode cX3_dies 40 = .ok (.iconst 2, 1) := by decide +kernel
theorem dX3_dies_41 : decode cX3_dies 41 = .ok (.iadd, 1) := by decide +kernel
theorem dX3_dies_42 : decode cX3_dies 42 = .ok (.iconst 0, 1) := by decide +kernel
theorem dX3_dies_43 : decode cX3_dies 43 = .ok (.iastore, 1) := by decide +kernel
theorem dX3_dies_44 : decode cX3_dies 44 = .ok (.iconst 0, 1) := by decide +kernel
theorem dX3_dies_45 : decode cX3_dies 45 = .ok (.istore 5, 2) := by decide +kernel
theorem dX3_dies_47 : decode cX3_dies 47 = .ok (.iload 5, 2) := by decide +kernel
theorem dX3_dies_49 : decode cX3_dies 49 = .ok (.aload_n 0, 1) := by decide +kernel
theorem dX3_dies_50 : decode cX3_dies 50 = .ok (.getfield 79, 3) := by decide +kernel
theorem dX3_dies_53 : decode cX3_dies 53 = .ok (.if_icmp .ge 75, 3) := by decide +kernel
theorem dX3_dies_56 : decode cX3_dies 56 = .ok (.iload_n 2, 1) := by decide +kernel
theorem dX3_dies_57 : decode cX3_dies 57 = .ok (.iload 5, 2) := by decide +kernel
theorem dX3_dies_59 : decode cX3_dies 59 = .ok (.ishr, 1) := by decide +kernel
theorem dX3_dies_60 : decode cX3_dies 60 = .ok (.iconst 1, 1) := by decide +kernel
theorem dX3_dies_61 : decode cX3_dies 61 = .ok (.iand, 1) := by decide +kernel
theorem dX3_dies_62 : decode cX3_dies 62 = .ok (.iconst 1, 1) := by decide +kernel
theorem dX3_dies_63 : decode cX3_dies 63 = .ok (.if_icmp .ne 15, 3) := by decide +kernel
theorem dX3_dies_66 : decode cX3_dies 66 = .ok (.aload_n 0, 1) := by decide +kernel
theorem dX3_dies_67 : decode cX3_dies 67 = .ok (.iload 5, 2) := by decide +kernel
theorem dX3_dies_69 : decode cX3_dies 69 = .ok (.iconst (-1), 1) := by decide +kernel
theorem dX3_dies_70 : decode cX3_dies 70 = .ok (.iconst (-1), 1) := by decide +kernel
theorem dX3_dies_71 : decode cX3_dies 71 = .ok (.iconst (-1), 1) := by decide +kernel
theorem dX3_dies_72 : decode cX3_dies 72 = .ok (.invokevirtual 125, 3) := by decide +kernel
theorem dX3_dies_75 : decode cX3_dies 75 = .ok (.goto 47, 3) := by decide +kernel
theorem dX3_dies_78 : decode cX3_dies 78 = .ok (.aload_n 0, 1) := by decide +kernel
theorem dX3_dies_79 : decode cX3_dies 79 = .ok (.getfield 16, 3) := by decide +kernel
theorem dX3_dies_82 : decode cX3_dies 82 = .ok (.iconst 5, 1) := by decide +kernel
theorem dX3_dies_83 : decode cX3_dies 83 = .ok (.iload 5, 2) := by decide +kernel
theorem dX3_dies_85 : decode cX3_dies 85 = .ok (.imul, 1) := by decide +kernel
theorem dX3_dies_86 : decode cX3_dies 86 = .ok (.iconst 1, 1) := by decide +kernel
theorem dX3_dies_87 : decode cX3_dies 87 = .ok (.iadd, 1) := by decide +kernel
theorem dX3_dies_88 : decode cX3_dies 88 = .ok (.iaload, 1) := by decide +kernel
theorem dX3_dies_89 : decode cX3_dies 89 = .ok (.iload_n 1, 1) := by decide +kernel
theorem dX3_dies_90 : decode cX3_dies 90 = .ok (.if_icmp .ne 32, 3) := by decide +kernel
theorem dX3_dies_93 : decode cX3_dies 93 = .ok (.aload_n 0, 1) := by decide +kernel
theorem dX3_dies_94 : decode cX3_dies 94 = .ok (.iload 5, 2) := by decide +kernel
theorem dX3_dies_96 : decode cX3_dies 96 = .ok (.iload 4, 2) := by decide +kernel
theorem dX3_dies_98 : decode cX3_dies 98 = .ok (.iconst (-1), 1) := by decide +kernel
theorem dX3_dies_99 : decode cX3_dies 99 = .ok (.if_icmp .eq 17, 3) := by decide +kernel
theorem dX3_dies_102 : decode cX3_dies 102 = .ok (.aload_n 0, 1) := by decide +kernel
theorem dX3_dies_103 : decode cX3_dies 103 = .ok (.iload 4, 2) := by decide +kernel
theorem dX3_dies_105 : decode cX3_dies 105 = .ok (.invokevirtual 110, 3) := by decide +kernel
theorem dX3_dies_108 : decode cX3_dies 108 = .ok (.ifCond .eq 8, 3) := by decide +kernel
theorem dX3_dies_111 : decode cX3_dies 111 = .ok (.iload 4, 2) := by decide +kernel
theorem dX3_dies_113 : decode cX3_dies 113 = .ok (.goto 4, 3) := by decide +kernel
theorem dX3_dies_116 : decode cX3_dies 116 = .ok (.iconst (-1), 1) := by decide +kernel
theorem dX3_dies_117 : decode cX3_dies 117 = .ok (.iconst (-1), 1) := by decide +kernel
theorem dX3_dies_118 : decode cX3_dies 118 = .ok (.iconst (-1), 1) := by decide +kernel
theorem dX3_dies_119 : decode cX3_dies 119 = .ok (.invokevirtual 125, 3) := by decide +kernel
theorem dX3_dies_122 : decode cX3_dies 122 = .ok (.iinc 5 1, 3) := by decide +kernel
theorem dX3_dies_125 : decode cX3_dies 125 = .ok (.goto (-78), 3) := by decide +kernel
theorem dX3_dies_128 : decode cX3_dies 128 = .ok (.iload_n 3, 1) := by decide +kernel
theorem dX3_dies_129 : decode cX3_dies 129 = .ok (.ireturn, 1) := by decide +kernel
set_option maxRecDepth 20000 in
theorem ggX3_die_X3_isHolder : GoodIn wsX3_die wsX3_isHolder := goodIn_r _ [6, 7, 8, 9, 5, 10, 59, 60, 61, 62, 63, 64, 65, 66, 67, 68, 69, 70, 71, 72, 73, 74, 75, 76, 77, 78, 79, 80, 81, 82] (by decide +kernel) (by decide +kernel)
set_option maxRecDepth 20000 in
theorem gX3_die_X3_isHolder : GoodIn wsX3_die (wsV RX3 117 RX3 yX3_isHolder wsX3_isHolder) := goodIn_app (goodIn_of _ (by decide +kernel)) ggX3_die_X3_isHolder
set_option maxRecDepth 20000 in
theorem ggX3_die_X3_lives : GoodIn wsX3_die wsX3_lives := goodIn_r _ [14, 15, 59, 60, 61, 62, 63, 64, 65, 66, 67, 68, 69, 70, 71, 72, 73, 74, 75, 76, 77, 78, 79, 80, 81, 82] (by decide +kernel) (by decide +kernel)
set_option maxRecDepth 20000 in
theorem gX3_die_X3_lives : GoodIn wsX3_die (wsV RX3 110 RX3 yX3_lives wsX3_lives) := goodIn_app (goodIn_of _ (by decide +kernel)) ggX3_die_X3_lives
set_option maxRecDepth 20000 in
theorem ggX3_die_X3_dies : GoodIn wsX3_die wsX3_dies := goodIn_r _ [19, 20, 15, 21, 22, 23, 24, 25, 5, 26, 27, 28, 29, 30, 31, 32, 33, 34, 35, 36, 37, 38, 39, 40, 41, 42, 43, 44, 45, 46, 47, 48, 49, 50, 51, 52, 53, 54, 55, 56, 57, 58, 11, 12, 13, 14, 59, 60, 61, 62, 63, 64, 65, 66, 67, 68, 69, 70, 71, 72, 73, 74, 75, 76, 77, 78, 79, 80, 81, 82] (by decide +kernel) (by decide +kernel)
set_option maxRecDepth 20000 in
theorem gX3_die_X3_dies : GoodIn wsX3_die (wsV RX3 139 RX3 yX3_dies wsX3_dies) := goodIn_app (goodIn_of _ (by decide +kernel)) ggX3_die_X3_dies
theorem dX3_die_0 : decode cX3_die 0 = .ok (.aload_n 0, 1) := by decide +kernel
theorem dX3_die_1 : decode cX3_die 1 = .ok (.iload_n 1, 1) := by decide +kernel
theorem dX3_die_2 : decode cX3_die 2 = .ok (.invokevirtual 117, 3) := by decide +kernel
theorem dX3_die_5 : decode cX3_die 5 = .ok (.ifCond .ne 6, 3) := by decide +kernel
theorem dX3_die_8 : decode cX3_die 8 = .ok (.bipush (-101), 2) := by decide +kernel
theorem dX3_die_10 : decode cX3_die 10 = .ok (.ireturn, 1) := by decide +kernel
theorem dX3_die_11 : decode cX3_die 11 = .ok (.aload_n 0, 1) := by decide +kernel
theorem dX3_die_12 : decode cX3_die 12 = .ok (.iload_n 1, 1) := by decide +kernel
theorem dX3_die_13 : decode cX3_die 13 = .ok (.invokevirtual 110, 3) := by decide +kernel
theorem dX3_die_16 : decode cX3_die 16 = .ok (.ifCond .ne 6, 3) := by decide +kernel
theorem dX3_die_19 : decode cX3_die 19 = .ok (.bipush (-103), 2) := by decide +kernel
theorem dX3_die_21 : decode cX3_die 21 = .ok (.ireturn, 1) := by decide +kernel
theorem dX3_die_22 : decode cX3_die 22 = .ok (.aload_n 0, 1) := by decide +kernel
theorem dX3_die_23 : decode cX3_die 23 = .ok (.iload_n 1, 1) := by decide +kernel
theorem dX3_die_24 : decode cX3_die 24 = .ok (.invokevirtual 139, 3) := by decide +kernel
theorem dX3_die_27 : decode cX3_die 27 = .ok (.istore_n 2, 1) := by decide +kernel
theorem dX3_die_28 : decode cX3_die 28 = .ok (.aload_n 0, 1) := by decide +kernel
theorem dX3_die_29 : decode cX3_die 29 = .ok (.dup, 1) := by decide +kernel
theorem dX3_die_30 : decode cX3_die 30 = .ok (.getfield 142, 3) := by decide +kernel
theorem dX3_die_33 : decode cX3_die 33 = .ok (.iload_n 2, 1) := by decide +kernel
theorem dX3_die_34 : decode cX3_die 34 = .ok (.iadd, 1) := by decide +kernel
theorem dX3_die_35 : decode cX3_die 35 = .ok (.putfield 142, 3) := by decide +kernel
theorem dX3_die_38 : decode cX3_die 38 = .ok (.iload_n 2, 1) := by decide +kernel
theorem dX3_die_39 : decode cX3_die 39 = .ok (.ireturn, 1) := by decide +kernel
theorem dX3_year_0 : decode cX3_year 0 = .ok (.aload_n 0, 1) := by decide +kernel
theorem dX3_year_1 : decode cX3_year 1 = .ok (.dup, 1) := by decide +kernel
theorem dX3_year_2 : decode cX3_year 2 = .ok (.getfield 104, 3) := by decide +kernel
theorem dX3_year_5 : decode cX3_year 5 = .ok (.iconst 1, 1) := by decide +kernel
theorem dX3_year_6 : decode cX3_year 6 = .ok (.iadd, 1) := by decide +kernel
theorem dX3_year_7 : decode cX3_year 7 = .ok (.putfield 104, 3) := by decide +kernel
theorem dX3_year_10 : decode cX3_year 10 = .ok (.aload_n 0, 1) := by decide +kernel
theorem dX3_year_11 : decode cX3_year 11 = .ok (.getfield 104, 3) := by decide +kernel
theorem dX3_year_14 : decode cX3_year 14 = .ok (.ireturn, 1) := by decide +kernel
theorem dX3_ones_0 : decode cX3_ones 0 = .ok (.iconst 0, 1) := by decide +kernel
theorem dX3_ones_1 : decode cX3_ones 1 = .ok (.istore_n 1, 1) := by decide +kernel
theorem dX3_ones_2 : decode cX3_ones 2 = .ok (.iconst 0, 1) := by decide +kernel
theorem dX3_ones_3 : decode cX3_ones 3 = .ok (.istore_n 2, 1) := by decide +kernel
theorem dX3_ones_4 : decode cX3_ones 4 = .ok (.iload_n 2, 1) := by decide +kernel
theorem dX3_ones_5 : decode cX3_ones 5 = .ok (.bipush 6, 2) := by decide +kernel
theorem dX3_ones_7 : decode cX3_ones 7 = .ok (.if_icmp .ge 17, 3) := by decide +kernel
end
section
theorem dX3_ones_10 : decode cX3_ones 10 = .ok (.iload_n 1, 1) := by decide +kernel
theorem dX3_ones_11 : decode cX3_ones 11 = .ok (.iload_n 0, 1) := by decide +kernel
theorem dX3_ones_12 : decode cX3_ones 12 = .ok (.iload_n 2, 1) := by decide +kernel
theorem dX3_ones_13 : decode cX3_ones 13 = .ok (.ishr, 1) := by decide +kernel
theorem dX3_ones_14 : decode cX3_ones 14 = .ok (.iconst 1, 1) := by decide +kernel
theorem dX3_ones_15 : decode cX3_ones 15 = .ok (.iand, 1) := by decide +kernel
theorem dX3_ones_16 : decode cX3_ones 16 = .ok (.iadd, 1) := by decide +kernel
theorem dX3_ones_17 : decode cX3_ones 17 = .ok (.istore_n 1, 1) := by decide +kernel
theorem dX3_ones_18 : decode cX3_ones 18 = .ok (.iinc 2 1, 3) := by decide +kernel
theorem dX3_ones_21 : decode cX3_ones 21 = .ok (.goto (-17), 3) := by decide +kernel
theorem dX3_ones_24 : decode cX3_ones 24 = .ok (.iload_n 1, 1) := by decide +kernel
theorem dX3_ones_25 : decode cX3_ones 25 = .ok (.ireturn, 1) := by decide +kernel
set_option maxRecDepth 20000 in
theorem ggX3_safeOf_X3_hisBits : GoodIn wsX3_safeOf wsX3_hisBits := goodIn_r _ [6, 7, 8, 45, 46, 47, 48, 49, 50, 51, 52, 53, 54, 55, 56, 57, 58, 59, 60, 61, 62, 63, 64, 65, 66, 67, 68] (by decide +kernel) (by decide +kernel)
set_option maxRecDepth 20000 in
theorem gX3_safeOf_X3_hisBits : GoodIn wsX3_safeOf (wsV RX3 84 RX3 yX3_hisBits wsX3_hisBits) := goodIn_app (goodIn_of _ (by decide +kernel)) ggX3_safeOf_X3_hisBits
set_option maxRecDepth 20000 in
theorem ggX3_safeOf_X3_heldBits : GoodIn wsX3_safeOf wsX3_heldBits := goodIn_r _ [12, 7, 8, 13, 2, 3, 4, 5, 6, 45, 46, 47, 48, 49, 50, 51, 52, 53, 54, 55, 56, 57, 58, 59, 60, 61, 62, 63, 64, 65, 66, 67, 68] (by decide +kernel) (by decide +kernel)
set_option maxRecDepth 20000 in
theorem gX3_safeOf_X3_heldBits : GoodIn wsX3_safeOf (wsV RX3 107 RX3 yX3_heldBits wsX3_heldBits) := goodIn_app (goodIn_of _ (by decide +kernel)) ggX3_safeOf_X3_heldBits
set_option maxRecDepth 20000 in
theorem ggX3_safeOf_X3_ones : GoodIn wsX3_safeOf wsX3_ones := goodIn_r _ [16] (by decide +kernel) (by decide +kernel)
set_option maxRecDepth 20000 in
theorem gX3_safeOf_X3_ones : GoodIn wsX3_safeOf (va_wsS RX3 145 yX3_ones wsX3_ones) := goodIn_app (goodIn_of _ (by decide +kernel)) ggX3_safeOf_X3_ones
set_option maxRecDepth 20000 in
theorem ggX3_safeOf_X3_lossBy : GoodIn wsX3_safeOf wsX3_lossBy := goodIn_r _ [20, 21, 22, 23, 5, 24, 25, 26, 27, 28, 29, 30, 31, 32, 33, 34, 35, 36, 37, 38, 39, 7, 8, 40, 41, 42, 43, 44, 45, 46, 47, 48, 49, 50, 51, 52, 53, 54, 55, 56, 57, 58, 59, 60, 61, 62, 63, 64, 65, 66, 67, 68] (by decide +kernel) (by decide +kernel)
set_option maxRecDepth 20000 in
theorem gX3_safeOf_X3_lossBy : GoodIn wsX3_safeOf (wsV RX3 114 RX3 yX3_lossBy wsX3_lossBy) := goodIn_app (goodIn_of _ (by decide +kernel)) ggX3_safeOf_X3_lossBy
theorem dX3_safeOf_0 : decode cX3_safeOf 0 = .ok (.aload_n 0, 1) := by decide +kernel
theorem dX3_safeOf_1 : decode cX3_safeOf 1 = .ok (.iload_n 1, 1) := by decide +kernel
theorem dX3_safeOf_2 : decode cX3_safeOf 2 = .ok (.invokevirtual 84, 3) := by decide +kernel
theorem dX3_safeOf_5 : decode cX3_safeOf 5 = .ok (.istore_n 3, 1) := by decide +kernel
theorem dX3_safeOf_6 : decode cX3_safeOf 6 = .ok (.aload_n 0, 1) := by decide +kernel
theorem dX3_safeOf_7 : decode cX3_safeOf 7 = .ok (.iload_n 1, 1) := by decide +kernel
theorem dX3_safeOf_8 : decode cX3_safeOf 8 = .ok (.aload_n 0, 1) := by decide +kernel
theorem dX3_safeOf_9 : decode cX3_safeOf 9 = .ok (.getfield 104, 3) := by decide +kernel
theorem dX3_safeOf_12 : decode cX3_safeOf 12 = .ok (.invokevirtual 107, 3) := by decide +kernel
theorem dX3_safeOf_15 : decode cX3_safeOf 15 = .ok (.istore 4, 2) := by decide +kernel
theorem dX3_safeOf_17 : decode cX3_safeOf 17 = .ok (.iconst (-1), 1) := by decide +kernel
theorem dX3_safeOf_18 : decode cX3_safeOf 18 = .ok (.istore 5, 2) := by decide +kernel
theorem dX3_safeOf_20 : decode cX3_safeOf 20 = .ok (.iconst 0, 1) := by decide +kernel
theorem dX3_safeOf_21 : decode cX3_safeOf 21 = .ok (.istore 6, 2) := by decide +kernel
theorem dX3_safeOf_23 : decode cX3_safeOf 23 = .ok (.iload 6, 2) := by decide +kernel
theorem dX3_safeOf_25 : decode cX3_safeOf 25 = .ok (.bipush 64, 2) := by decide +kernel
theorem dX3_safeOf_27 : decode cX3_safeOf 27 = .ok (.if_icmp .ge 73, 3) := by decide +kernel
theorem dX3_safeOf_30 : decode cX3_safeOf 30 = .ok (.iload 6, 2) := by decide +kernel
theorem dX3_safeOf_32 : decode cX3_safeOf 32 = .ok (.iload_n 3, 1) := by decide +kernel
theorem dX3_safeOf_33 : decode cX3_safeOf 33 = .ok (.iconst (-1), 1) := by decide +kernel
theorem dX3_safeOf_34 : decode cX3_safeOf 34 = .ok (.ixor, 1) := by decide +kernel
theorem dX3_safeOf_35 : decode cX3_safeOf 35 = .ok (.iand, 1) := by decide +kernel
theorem dX3_safeOf_36 : decode cX3_safeOf 36 = .ok (.ifCond .ne 26, 3) := by decide +kernel
theorem dX3_safeOf_39 : decode cX3_safeOf 39 = .ok (.iload 5, 2) := by decide +kernel
theorem dX3_safeOf_41 : decode cX3_safeOf 41 = .ok (.iconst (-1), 1) := by decide +kernel
theorem dX3_safeOf_42 : decode cX3_safeOf 42 = .ok (.if_icmp .eq 16, 3) := by decide +kernel
theorem dX3_safeOf_45 : decode cX3_safeOf 45 = .ok (.iload 6, 2) := by decide +kernel
theorem dX3_safeOf_47 : decode cX3_safeOf 47 = .ok (.invokestatic 145, 3) := by decide +kernel
theorem dX3_safeOf_50 : decode cX3_safeOf 50 = .ok (.iload 5, 2) := by decide +kernel
theorem dX3_safeOf_52 : decode cX3_safeOf 52 = .ok (.invokestatic 145, 3) := by decide +kernel
theorem dX3_safeOf_55 : decode cX3_safeOf 55 = .ok (.if_icmp .ge 7, 3) := by decide +kernel
theorem dX3_safeOf_58 : decode cX3_safeOf 58 = .ok (.iconst 1, 1) := by decide +kernel
theorem dX3_safeOf_59 : decode cX3_safeOf 59 = .ok (.goto 4, 3) := by decide +kernel
theorem dX3_safeOf_62 : decode cX3_safeOf 62 = .ok (.iconst 0, 1) := by decide +kernel
theorem dX3_safeOf_63 : decode cX3_safeOf 63 = .ok (.istore 7, 2) := by decide +kernel
theorem dX3_safeOf_65 : decode cX3_safeOf 65 = .ok (.iload 7, 2) := by decide +kernel
theorem dX3_safeOf_67 : decode cX3_safeOf 67 = .ok (.ifCond .eq 23, 3) := by decide +kernel
theorem dX3_safeOf_70 : decode cX3_safeOf 70 = .ok (.aload_n 0, 1) := by decide +kernel
theorem dX3_safeOf_71 : decode cX3_safeOf 71 = .ok (.iload_n 1, 1) := by decide +kernel
theorem dX3_safeOf_72 : decode cX3_safeOf 72 = .ok (.iload 4, 2) := by decide +kernel
theorem dX3_safeOf_74 : decode cX3_safeOf 74 = .ok (.iload 6, 2) := by decide +kernel
theorem dX3_safeOf_76 : decode cX3_safeOf 76 = .ok (.iconst (-1), 1) := by decide +kernel
theorem dX3_safeOf_77 : decode cX3_safeOf 77 = .ok (.ixor, 1) := by decide +kernel
theorem dX3_safeOf_78 : decode cX3_safeOf 78 = .ok (.iand, 1) := by decide +kernel
theorem dX3_safeOf_79 : decode cX3_safeOf 79 = .ok (.invokevirtual 114, 3) := by decide +kernel
theorem dX3_safeOf_82 : decode cX3_safeOf 82 = .ok (.ifCond .ne 8, 3) := by decide +kernel
theorem dX3_safeOf_85 : decode cX3_safeOf 85 = .ok (.iload 6, 2) := by decide +kernel
theorem dX3_safeOf_87 : decode cX3_safeOf 87 = .ok (.goto 5, 3) := by decide +kernel
theorem dX3_safeOf_90 : decode cX3_safeOf 90 = .ok (.iload 5, 2) := by decide +kernel
theorem dX3_safeOf_92 : decode cX3_safeOf 92 = .ok (.istore 5, 2) := by decide +kernel
theorem dX3_safeOf_94 : decode cX3_safeOf 94 = .ok (.iinc 6 1, 3) := by decide +kernel
theorem dX3_safeOf_97 : decode cX3_safeOf 97 = .ok (.goto (-74), 3) := by decide +kernel
theorem dX3_safeOf_100 : decode cX3_safeOf 100 = .ok (.iload 5, 2) := by decide +kernel
theorem dX3_safeOf_102 : decode cX3_safeOf 102 = .ok (.iconst (-1), 1) := by decide +kernel
theorem dX3_safeOf_103 : decode cX3_safeOf 103 = .ok (.if_icmp .eq 8, 3) := by decide +kernel
theorem dX3_safeOf_106 : decode cX3_safeOf 106 = .ok (.iload_n 2, 1) := by decide +kernel
theorem dX3_safeOf_107 : decode cX3_safeOf 107 = .ok (.iconst 1, 1) := by decide +kernel
theorem dX3_safeOf_108 : decode cX3_safeOf 108 = .ok (.if_icmp .ne 8, 3) := by decide +kernel
theorem dX3_safeOf_111 : decode cX3_safeOf 111 = .ok (.iload 5, 2) := by decide +kernel
theorem dX3_safeOf_113 : decode cX3_safeOf 113 = .ok (.goto 8, 3) := by decide +kernel
theorem dX3_safeOf_116 : decode cX3_safeOf 116 = .ok (.iload 5, 2) := by decide +kernel
theorem dX3_safeOf_118 : decode cX3_safeOf 118 = .ok (.invokestatic 145, 3) := by decide +kernel
theorem dX3_safeOf_121 : decode cX3_safeOf 121 = .ok (.ireturn, 1) := by decide +kernel
set_option maxRecDepth 20000 in
theorem ggX3_safe_X3_isHolder : GoodIn wsX3_safe wsX3_isHolder := goodIn_r _ [5, 6, 7, 8, 4, 9, 61, 62, 63, 64, 65, 66, 67, 68, 69, 70, 71, 72, 73, 74, 75, 76, 77, 78, 79, 80, 81, 82, 83, 84] (by decide +kernel) (by decide +kernel)
set_option maxRecDepth 20000 in
theorem gX3_safe_X3_isHolder : GoodIn wsX3_safe (wsV RX3 117 RX3 yX3_isHolder wsX3_isHolder) := goodIn_app (goodIn_of _ (by decide +kernel)) ggX3_safe_X3_isHolder
set_option maxRecDepth 20000 in
theorem ggX3_safe_X3_in : GoodIn wsX3_safe wsX3_in := goodIn_r _ [9] (by decide +kernel) (by decide +kernel)
set_option maxRecDepth 20000 in
theorem gX3_safe_X3_in : GoodIn wsX3_safe (va_wsS RX3 49 yX3_in wsX3_in) := goodIn_app (goodIn_of _ (by decide +kernel)) ggX3_safe_X3_in
set_option maxRecDepth 20000 in
theorem ggX3_safe_X3_lives : GoodIn wsX3_safe wsX3_lives := goodIn_r _ [13, 14, 61, 62, 63, 64, 65, 66, 67, 68, 69, 70, 71, 72, 73, 74, 75, 76, 77, 78, 79, 80, 81, 82, 83, 84] (by decide +kernel) (by decide +kernel)
set_option maxRecDepth 20000 in
theorem gX3_safe_X3_lives : GoodIn wsX3_safe (wsV RX3 110 RX3 yX3_lives wsX3_lives) := goodIn_app (goodIn_of _ (by decide +kernel)) ggX3_safe_X3_lives
set_option maxRecDepth 20000 in
theorem ggX3_safe_X3_safeOf : GoodIn wsX3_safe wsX3_safeOf := goodIn_r _ [18, 19, 20, 21, 22, 4, 23, 24, 25, 26, 27, 28, 29, 30, 31, 32, 33, 34, 35, 36, 37, 38, 39, 40, 41, 42, 43, 44, 45, 14, 46, 47, 48, 49, 50, 51, 52, 53, 54, 55, 56, 57, 58, 59, 60, 61, 62, 63, 64, 65, 66, 67, 68, 69, 70, 71, 72, 73, 74, 75, 76, 77, 78, 79, 80, 81, 82, 83, 84] (by decide +kernel) (by decide +kernel)
set_option maxRecDepth 20000 in
theorem gX3_safe_X3_safeOf : GoodIn wsX3_safe (wsV RX3 148 RX3 yX3_safeOf wsX3_safeOf) := goodIn_app (goodIn_of _ (by decide +kernel)) ggX3_safe_X3_safeOf
theorem dX3_safe_0 : decode cX3_safe 0 = .ok (.aload_n 0, 1) := by decide +kernel
theorem dX3_safe_1 : decode cX3_safe 1 = .ok (.iload_n 1, 1) := by decide +kernel
theorem dX3_safe_2 : decode cX3_safe 2 = .ok (.invokevirtual 117, 3) := by decide +kernel
theorem dX3_safe_5 : decode cX3_safe 5 = .ok (.ifCond .ne 6, 3) := by decide +kernel
theorem dX3_safe_8 : decode cX3_safe 8 = .ok (.bipush (-101), 2) := by decide +kernel
theorem dX3_safe_10 : decode cX3_safe 10 = .ok (.ireturn, 1) := by decide +kernel
theorem dX3_safe_11 : decode cX3_safe 11 = .ok (.iload_n 2, 1) := by decide +kernel
theorem dX3_safe_12 : decode cX3_safe 12 = .ok (.i2l, 1) := by decide +kernel
theorem dX3_safe_13 : decode cX3_safe 13 = .ok (.lconst 0, 1) := by decide +kernel
theorem dX3_safe_14 : decode cX3_safe 14 = .ok (.lconst 1, 1) := by decide +kernel
theorem dX3_safe_15 : decode cX3_safe 15 = .ok (.invokestatic 49, 3) := by decide +kernel
theorem dX3_safe_18 : decode cX3_safe 18 = .ok (.ifCond .ne 6, 3) := by decide +kernel
theorem dX3_safe_21 : decode cX3_safe 21 = .ok (.bipush (-102), 2) := by decide +kernel
theorem dX3_safe_23 : decode cX3_safe 23 = .ok (.ireturn, 1) := by decide +kernel
theorem dX3_safe_24 : decode cX3_safe 24 = .ok (.aload_n 0, 1) := by decide +kernel
theorem dX3_safe_25 : decode cX3_safe 25 = .ok (.iload_n 1, 1) := by decide +kernel
theorem dX3_safe_26 : decode cX3_safe 26 = .ok (.invokevirtual 110, 3) := by decide +kernel
theorem dX3_safe_29 : decode cX3_safe 29 = .ok (.ifCond .eq 12, 3) := by decide +kernel
theorem dX3_safe_32 : decode cX3_safe 32 = .ok (.aload_n 0, 1) := by decide +kernel
theorem dX3_safe_33 : decode cX3_safe 33 = .ok (.iload_n 1, 1) := by decide +kernel
theorem dX3_safe_34 : decode cX3_safe 34 = .ok (.iload_n 2, 1) := by decide +kernel
theorem dX3_safe_35 : decode cX3_safe 35 = .ok (.invokevirtual 148, 3) := by decide +kernel
theorem dX3_safe_38 : decode cX3_safe 38 = .ok (.goto 5, 3) := by decide +kernel
theorem dX3_safe_41 : decode cX3_safe 41 = .ok (.bipush (-103), 2) := by decide +kernel
theorem dX3_safe_43 : decode cX3_safe 43 = .ok (.ireturn, 1) := by decide +kernel
set_option maxRecDepth 20000 in
theorem ggX3_lostBy_X3_heldBits : GoodIn wsX3_lostBy wsX3_heldBits := goodIn_r _ [8, 9, 10, 3, 11, 12, 13, 7, 14, 42, 43, 44, 45, 46, 47, 48, 49, 50, 51, 52, 53, 54, 55, 56, 57, 58, 59, 60, 61, 62, 63, 64, 65] (by decide +kernel) (by decide +kernel)
set_option maxRecDepth 20000 in
theorem gX3_lostBy_X3_heldBits : GoodIn wsX3_lostBy (wsV RX3 107 RX3 yX3_heldBits wsX3_heldBits) := goodIn_app (goodIn_of _ (by decide +kernel)) ggX3_lostBy_X3_heldBits
set_option maxRecDepth 20000 in
theorem ggX3_lostBy_X3_lossBy : GoodIn wsX3_lostBy wsX3_lossBy := goodIn_r _ [18, 19, 20, 21, 7, 22, 23, 24, 25, 26, 1, 27, 28, 29, 30, 31, 32, 33, 34, 35, 36, 9, 10, 37, 38, 39, 40, 41, 42, 43, 44, 45, 46, 47, 48, 49, 50, 51, 52, 53, 54, 55, 56, 57, 58, 59, 60, 61, 62, 63, 64, 65] (by decide +kernel) (by decide +kernel)
set_option maxRecDepth 20000 in
theorem gX3_lostBy_X3_lossBy : GoodIn wsX3_lostBy (wsV RX3 114 RX3 yX3_lossBy wsX3_lossBy) := goodIn_app (goodIn_of _ (by decide +kernel)) ggX3_lostBy_X3_lossBy
theorem dX3_lostBy_0 : decode cX3_lostBy 0 = .ok (.aload_n 0, 1) := by decide +kernel
theorem dX3_lostBy_1 : decode cX3_lostBy 1 = .ok (.getfield 13, 3) := by decide +kernel
theorem dX3_lostBy_4 : decode cX3_lostBy 4 = .ok (.iconst 4, 1) := by decide +kernel
theorem dX3_lostBy_5 : decode cX3_lostBy 5 = .ok (.iload_n 1, 1) := by decide +kernel
theorem dX3_lostBy_6 : decode cX3_lostBy 6 = .ok (.imul, 1) := by decide +kernel
theorem dX3_lostBy_7 : decode cX3_lostBy 7 = .ok (.iconst 1, 1) := by decide +kernel
theorem dX3_lostBy_8 : decode cX3_lostBy 8 = .ok (.iadd, 1) := by decide +kernel
theorem dX3_lostBy_9 : decode cX3_lostBy 9 = .ok (.iaload, 1) := by decide +kernel
theorem dX3_lostBy_10 : decode cX3_lostBy 10 = .ok (.istore 4, 2) := by decide +kernel
theorem dX3_lostBy_12 : decode cX3_lostBy 12 = .ok (.iconst 1, 1) := by decide +kernel
theorem dX3_lostBy_13 : decode cX3_lostBy 13 = .ok (.istore 5, 2) := by decide +kernel
theorem dX3_lostBy_15 : decode cX3_lostBy 15 = .ok (.iconst 0, 1) := by decide +kernel
theorem dX3_lostBy_16 : decode cX3_lostBy 16 = .ok (.istore 6, 2) := by decide +kernel
theorem dX3_lostBy_18 : decode cX3_lostBy 18 = .ok (.iconst 0, 1) := by decide +kernel
theorem dX3_lostBy_19 : decode cX3_lostBy 19 = .ok (.istore 7, 2) := by decide +kernel
theorem dX3_lostBy_21 : decode cX3_lostBy 21 = .ok (.iload 7, 2) := by decide +kernel
theorem dX3_lostBy_23 : decode cX3_lostBy 23 = .ok (.iload_n 3, 1) := by decide +kernel
theorem dX3_lostBy_24 : decode cX3_lostBy 24 = .ok (.if_icmp .ge 102, 3) := by decide +kernel
theorem dX3_lostBy_27 : decode cX3_lostBy 27 = .ok (.aload_n 0, 1) := by decide +kernel
theorem dX3_lostBy_28 : decode cX3_lostBy 28 = .ok (.iload_n 1, 1) := by decide +kernel
theorem dX3_lostBy_29 : decode cX3_lostBy 29 = .ok (.aload_n 0, 1) := by decide +kernel
theorem dX3_lostBy_30 : decode cX3_lostBy 30 = .ok (.getfield 104, 3) := by decide +kernel
theorem dX3_lostBy_33 : decode cX3_lostBy 33 = .ok (.iload 7, 2) := by decide +kernel
theorem dX3_lostBy_35 : decode cX3_lostBy 35 = .ok (.iadd, 1) := by decide +kernel
theorem dX3_lostBy_36 : decode cX3_lostBy 36 = .ok (.invokevirtual 107, 3) := by decide +kernel
theorem dX3_lostBy_39 : decode cX3_lostBy 39 = .ok (.istore 8, 2) := by decide +kernel
theorem dX3_lostBy_41 : decode cX3_lostBy 41 = .ok (.iload 7, 2) := by decide +kernel
theorem dX3_lostBy_43 : decode cX3_lostBy 43 = .ok (.aload_n 0, 1) := by decide +kernel
theorem dX3_lostBy_44 : decode cX3_lostBy 44 = .ok (.getfield 41, 3) := by decide +kernel
theorem dX3_lostBy_47 : decode cX3_lostBy 47 = .ok (.if_icmp .ge 8, 3) := by decide +kernel
theorem dX3_lostBy_50 : decode cX3_lostBy 50 = .ok (.iload 8, 2) := by decide +kernel
theorem dX3_lostBy_52 : decode cX3_lostBy 52 = .ok (.goto 9, 3) := by decide +kernel
theorem dX3_lostBy_55 : decode cX3_lostBy 55 = .ok (.iload 8, 2) := by decide +kernel
theorem dX3_lostBy_57 : decode cX3_lostBy 57 = .ok (.iload_n 2, 1) := by decide +kernel
theorem dX3_lostBy_58 : decode cX3_lostBy 58 = .ok (.iconst (-1), 1) := by decide +kernel
theorem dX3_lostBy_59 : decode cX3_lostBy 59 = .ok (.ixor, 1) := by decide +kernel
theorem dX3_lostBy_60 : decode cX3_lostBy 60 = .ok (.iand, 1) := by decide +kernel
theorem dX3_lostBy_61 : decode cX3_lostBy 61 = .ok (.istore 8, 2) := by decide +kernel
theorem dX3_lostBy_63 : decode cX3_lostBy 63 = .ok (.iload 5, 2) := by decide +kernel
theorem dX3_lostBy_65 : decode cX3_lostBy 65 = .ok (.iload 4, 2) := by decide +kernel
theorem dX3_lostBy_67 : decode cX3_lostBy 67 = .ok (.imul, 1) := by decide +kernel
theorem dX3_lostBy_68 : decode cX3_lostBy 68 = .ok (.aload_n 0, 1) := by decide +kernel
theorem dX3_lostBy_69 : decode cX3_lostBy 69 = .ok (.iload_n 1, 1) := by decide +kernel
theorem dX3_lostBy_70 : decode cX3_lostBy 70 = .ok (.iload 8, 2) := by decide +kernel
theorem dX3_lostBy_72 : decode cX3_lostBy 72 = .ok (.invokevirtual 114, 3) := by decide +kernel
theorem dX3_lostBy_75 : decode cX3_lostBy 75 = .ok (.imul, 1) := by decide +kernel
theorem dX3_lostBy_76 : decode cX3_lostBy 76 = .ok (.istore 9, 2) := by decide +kernel
theorem dX3_lostBy_78 : decode cX3_lostBy 78 = .ok (.iload 7, 2) := by decide +kernel
theorem dX3_lostBy_80 : decode cX3_lostBy 80 = .ok (.iconst 1, 1) := by decide +kernel
theorem dX3_lostBy_81 : decode cX3_lostBy 81 = .ok (.iadd, 1) := by decide +kernel
theorem dX3_lostBy_82 : decode cX3_lostBy 82 = .ok (.istore 10, 2) := by decide +kernel
theorem dX3_lostBy_84 : decode cX3_lostBy 84 = .ok (.iload 10, 2) := by decide +kernel
theorem dX3_lostBy_86 : decode cX3_lostBy 86 = .ok (.iload_n 3, 1) := by decide +kernel
theorem dX3_lostBy_87 : decode cX3_lostBy 87 = .ok (.if_icmp .ge 16, 3) := by decide +kernel
theorem dX3_lostBy_90 : decode cX3_lostBy 90 = .ok (.iload 9, 2) := by decide +kernel
theorem dX3_lostBy_92 : decode cX3_lostBy 92 = .ok (.bipush 10, 2) := by decide +kernel
theorem dX3_lostBy_94 : decode cX3_lostBy 94 = .ok (.imul, 1) := by decide +kernel
theorem dX3_lostBy_95 : decode cX3_lostBy 95 = .ok (.istore 9, 2) := by decide +kernel
theorem dX3_lostBy_97 : decode cX3_lostBy 97 = .ok (.iinc 10 1, 3) := by decide +kernel
theorem dX3_lostBy_100 : decode cX3_lostBy 100 = .ok (.goto (-16), 3) := by decide +kernel
theorem dX3_lostBy_103 : decode cX3_lostBy 103 = .ok (.iload 6, 2) := by decide +kernel
theorem dX3_lostBy_105 : decode cX3_lostBy 105 = .ok (.iload 9, 2) := by decide +kernel
theorem dX3_lostBy_107 : decode cX3_lostBy 107 = .ok (.iadd, 1) := by decide +kernel
theorem dX3_lostBy_108 : decode cX3_lostBy 108 = .ok (.istore 6, 2) := by decide +kernel
theorem dX3_lostBy_110 : decode cX3_lostBy 110 = .ok (.iload 5, 2) := by decide +kernel
theorem dX3_lostBy_112 : decode cX3_lostBy 112 = .ok (.bipush 10, 2) := by decide +kernel
theorem dX3_lostBy_114 : decode cX3_lostBy 114 = .ok (.iload 4, 2) := by decide +kernel
theorem dX3_lostBy_116 : decode cX3_lostBy 116 = .ok (.isub, 1) := by decide +kernel
theorem dX3_lostBy_117 : decode cX3_lostBy 117 = .ok (.imul, 1) := by decide +kernel
theorem dX3_lostBy_118 : decode cX3_lostBy 118 = .ok (.istore 5, 2) := by decide +kernel
theorem dX3_lostBy_120 : decode cX3_lostBy 120 = .ok (.iinc 7 1, 3) := by decide +kernel
theorem dX3_lostBy_123 : decode cX3_lostBy 123 = .ok (.goto (-102), 3) := by decide +kernel
theorem dX3_lostBy_126 : decode cX3_lostBy 126 = .ok (.iload 6, 2) := by decide +kernel
theorem dX3_lostBy_128 : decode cX3_lostBy 128 = .ok (.ireturn, 1) := by decide +kernel
set_option maxRecDepth 20000 in
theorem ggX3_givingOf_X3_hisBits : GoodIn wsX3_givingOf wsX3_hisBits := goodIn_r _ [5, 6, 7, 49, 50, 51, 52, 53, 54, 55, 56, 57, 58, 59, 60, 61, 62, 63, 64, 65, 66, 67, 68, 69, 70, 71, 72] (by decide +kernel) (by decide +kernel)
set_option maxRecDepth 20000 in
theorem gX3_givingOf_X3_hisBits : GoodIn wsX3_givingOf (wsV RX3 84 RX3 yX3_hisBits wsX3_hisBits) := goodIn_app (goodIn_of _ (by decide +kernel)) ggX3_givingOf_X3_hisBits
set_option maxRecDepth 20000 in
theorem ggX3_givingOf_X3_lostBy : GoodIn wsX3_givingOf wsX3_lostBy := goodIn_r _ [11, 12, 13, 14, 15, 16, 17, 4, 18, 6, 7, 1, 2, 3, 5, 19, 20, 21, 22, 23, 24, 25, 26, 27, 28, 29, 30, 31, 32, 33, 34, 35, 36, 37, 38, 39, 40, 41, 42, 43, 44, 45, 49, 50, 51, 52, 53, 54, 55, 56, 57, 58, 59, 60, 61, 62, 63, 64, 65, 66, 67, 68, 69, 70, 71, 72] (by decide +kernel) (by decide +kernel)
set_option maxRecDepth 20000 in
theorem gX3_givingOf_X3_lostBy : GoodIn wsX3_givingOf (wsV RX3 151 RX3 yX3_lostBy wsX3_lostBy) := goodIn_app (goodIn_of _ (by decide +kernel)) ggX3_givingOf_X3_lostBy
set_option maxRecDepth 20000 in
theorem ggX3_givingOf_X3_ones : GoodIn wsX3_givingOf wsX3_ones := goodIn_r _ [48] (by decide +kernel) (by decide +kernel)
set_option maxRecDepth 20000 in
theorem gX3_givingOf_X3_ones : GoodIn wsX3_givingOf (va_wsS RX3 145 yX3_ones wsX3_ones) := goodIn_app (goodIn_of _ (by decide +kernel)) ggX3_givingOf_X3_ones
theorem dX3_givingOf_0 : decode cX3_givingOf 0 = .ok (.aload_n 0, 1) := by decide +kernel
theorem dX3_givingOf_1 : decode cX3_givingOf 1 = .ok (.iload_n 1, 1) := by decide +kernel
theorem dX3_givingOf_2 : decode cX3_givingOf 2 = .ok (.invokevirtual 84, 3) := by decide +kernel
theorem dX3_givingOf_5 : decode cX3_givingOf 5 = .ok (.istore_n 3, 1) := by decide +kernel
theorem dX3_givingOf_6 : decode cX3_givingOf 6 = .ok (.iconst (-1), 1) := by decide +kernel
theorem dX3_givingOf_7 : decode cX3_givingOf 7 = .ok (.istore 4, 2) := by decide +kernel
theorem dX3_givingOf_9 : decode cX3_givingOf 9 = .ok (.iconst (-1), 1) := by decide +kernel
theorem dX3_givingOf_10 : decode cX3_givingOf 10 = .ok (.istore 5, 2) := by decide +kernel
theorem dX3_givingOf_12 : decode cX3_givingOf 12 = .ok (.iconst 0, 1) := by decide +kernel
theorem dX3_givingOf_13 : decode cX3_givingOf 13 = .ok (.istore 6, 2) := by decide +kernel
theorem dX3_givingOf_15 : decode cX3_givingOf 15 = .ok (.iload 6, 2) := by decide +kernel
theorem dX3_givingOf_17 : decode cX3_givingOf 17 = .ok (.bipush 64, 2) := by decide +kernel
theorem dX3_givingOf_19 : decode cX3_givingOf 19 = .ok (.if_icmp .ge 96, 3) := by decide +kernel
theorem dX3_givingOf_22 : decode cX3_givingOf 22 = .ok (.iload 6, 2) := by decide +kernel
theorem dX3_givingOf_24 : decode cX3_givingOf 24 = .ok (.iload_n 3, 1) := by decide +kernel
theorem dX3_givingOf_25 : decode cX3_givingOf 25 = .ok (.iconst (-1), 1) := by decide +kernel
theorem dX3_givingOf_26 : decode cX3_givingOf 26 = .ok (.ixor, 1) := by decide +kernel
theorem dX3_givingOf_27 : decode cX3_givingOf 27 = .ok (.iand, 1) := by decide +kernel
theorem dX3_givingOf_28 : decode cX3_givingOf 28 = .ok (.ifCond .ne 81, 3) := by decide +kernel
theorem dX3_givingOf_31 : decode cX3_givingOf 31 = .ok (.aload_n 0, 1) := by decide +kernel
theorem dX3_givingOf_32 : decode cX3_givingOf 32 = .ok (.iload_n 1, 1) := by decide +kernel
theorem dX3_givingOf_33 : decode cX3_givingOf 33 = .ok (.iload 6, 2) := by decide +kernel
theorem dX3_givingOf_35 : decode cX3_givingOf 35 = .ok (.iload_n 2, 1) := by decide +kernel
theorem dX3_givingOf_36 : decode cX3_givingOf 36 = .ok (.invokevirtual 151, 3) := by decide +kernel
theorem dX3_givingOf_39 : decode cX3_givingOf 39 = .ok (.istore 7, 2) := by decide +kernel
theorem dX3_givingOf_41 : decode cX3_givingOf 41 = .ok (.iload 4, 2) := by decide +kernel
theorem dX3_givingOf_43 : decode cX3_givingOf 43 = .ok (.iconst (-1), 1) := by decide +kernel
theorem dX3_givingOf_44 : decode cX3_givingOf 44 = .ok (.if_icmp .eq 30, 3) := by decide +kernel
theorem dX3_givingOf_47 : decode cX3_givingOf 47 = .ok (.iload 7, 2) := by decide +kernel
theorem dX3_givingOf_49 : decode cX3_givingOf 49 = .ok (.iload 5, 2) := by decide +kernel
theorem dX3_givingOf_51 : decode cX3_givingOf 51 = .ok (.if_icmp .lt 23, 3) := by decide +kernel
theorem dX3_givingOf_54 : decode cX3_givingOf 54 = .ok (.iload 7, 2) := by decide +kernel
theorem dX3_givingOf_56 : decode cX3_givingOf 56 = .ok (.iload 5, 2) := by decide +kernel
theorem dX3_givingOf_58 : decode cX3_givingOf 58 = .ok (.if_icmp .ne 20, 3) := by decide +kernel
theorem dX3_givingOf_61 : decode cX3_givingOf 61 = .ok (.iload 6, 2) := by decide +kernel
theorem dX3_givingOf_63 : decode cX3_givingOf 63 = .ok (.invokestatic 145, 3) := by decide +kernel
theorem dX3_givingOf_66 : decode cX3_givingOf 66 = .ok (.iload 4, 2) := by decide +kernel
theorem dX3_givingOf_68 : decode cX3_givingOf 68 = .ok (.invokestatic 145, 3) := by decide +kernel
theorem dX3_givingOf_71 : decode cX3_givingOf 71 = .ok (.if_icmp .ge 7, 3) := by decide +kernel
theorem dX3_givingOf_74 : decode cX3_givingOf 74 = .ok (.iconst 1, 1) := by decide +kernel
theorem dX3_givingOf_75 : decode cX3_givingOf 75 = .ok (.goto 4, 3) := by decide +kernel
theorem dX3_givingOf_78 : decode cX3_givingOf 78 = .ok (.iconst 0, 1) := by decide +kernel
theorem dX3_givingOf_79 : decode cX3_givingOf 79 = .ok (.istore 8, 2) := by decide +kernel
theorem dX3_givingOf_81 : decode cX3_givingOf 81 = .ok (.iload 8, 2) := by decide +kernel
theorem dX3_givingOf_83 : decode cX3_givingOf 83 = .ok (.ifCond .eq 8, 3) := by decide +kernel
theorem dX3_givingOf_86 : decode cX3_givingOf 86 = .ok (.iload 6, 2) := by decide +kernel
theorem dX3_givingOf_88 : decode cX3_givingOf 88 = .ok (.goto 5, 3) := by decide +kernel
theorem dX3_givingOf_91 : decode cX3_givingOf 91 = .ok (.iload 4, 2) := by decide +kernel
theorem dX3_givingOf_93 : decode cX3_givingOf 93 = .ok (.istore 4, 2) := by decide +kernel
theorem dX3_givingOf_95 : decode cX3_givingOf 95 = .ok (.iload 8, 2) := by decide +kernel
theorem dX3_givingOf_97 : decode cX3_givingOf 97 = .ok (.ifCond .eq 8, 3) := by decide +kernel
theorem dX3_givingOf_100 : decode cX3_givingOf 100 = .ok (.iload 7, 2) := by decide +kernel
theorem dX3_givingOf_102 : decode cX3_givingOf 102 = .ok (.goto 5, 3) := by decide +kernel
theorem dX3_givingOf_105 : decode cX3_givingOf 105 = .ok (.iload 5, 2) := by decide +kernel
theorem dX3_givingOf_107 : decode cX3_givingOf 107 = .ok (.istore 5, 2) := by decide +kernel
theorem dX3_givingOf_109 : decode cX3_givingOf 109 = .ok (.iinc 6 1, 3) := by decide +kernel
theorem dX3_givingOf_112 : decode cX3_givingOf 112 = .ok (.goto (-97), 3) := by decide +kernel
theorem dX3_givingOf_115 : decode cX3_givingOf 115 = .ok (.iload 4, 2) := by decide +kernel
theorem dX3_givingOf_117 : decode cX3_givingOf 117 = .ok (.ireturn, 1) := by decide +kernel
set_option maxRecDepth 20000 in
theorem ggX3_giving_X3_isHolder : GoodIn wsX3_giving wsX3_isHolder := goodIn_r _ [6, 7, 8, 9, 5, 10, 66, 67, 68, 69, 70, 71, 72, 73, 74, 75, 76, 77, 78, 79, 80, 81, 82, 83, 84, 85, 86, 87, 88, 89] (by decide +kernel) (by decide +kernel)
set_option maxRecDepth 20000 in
theorem gX3_giving_X3_isHolder : GoodIn wsX3_giving (wsV RX3 117 RX3 yX3_isHolder wsX3_isHolder) := goodIn_app (goodIn_of _ (by decide +kernel)) ggX3_giving_X3_isHolder
set_option maxRecDepth 20000 in
theorem ggX3_giving_X3_in : GoodIn wsX3_giving wsX3_in := goodIn_r _ [10] (by decide +kernel) (by decide +kernel)
set_option maxRecDepth 20000 in
theorem gX3_giving_X3_in : GoodIn wsX3_giving (va_wsS RX3 49 yX3_in wsX3_in) := goodIn_app (goodIn_of _ (by decide +kernel)) ggX3_giving_X3_in
set_option maxRecDepth 20000 in
theorem ggX3_giving_X3_lives : GoodIn wsX3_giving wsX3_lives := goodIn_r _ [14, 15, 66, 67, 68, 69, 70, 71, 72, 73, 74, 75, 76, 77, 78, 79, 80, 81, 82, 83, 84, 85, 86, 87, 88, 89] (by decide +kernel) (by decide +kernel)
set_option maxRecDepth 20000 in
theorem gX3_giving_X3_lives : GoodIn wsX3_giving (wsV RX3 110 RX3 yX3_lives wsX3_lives) := goodIn_app (goodIn_of _ (by decide +kernel)) ggX3_giving_X3_lives
set_option maxRecDepth 20000 in
theorem ggX3_giving_X3_givingOf : GoodIn wsX3_giving wsX3_givingOf := goodIn_r _ [19, 20, 21, 22, 5, 23, 24, 25, 26, 27, 28, 29, 15, 30, 31, 32, 33, 34, 35, 36, 37, 38, 39, 40, 41, 42, 43, 44, 45, 46, 47, 48, 49, 50, 51, 52, 53, 54, 55, 56, 57, 58, 59, 60, 61, 62, 63, 64, 65, 66, 67, 68, 69, 70, 71, 72, 73, 74, 75, 76, 77, 78, 79, 80, 81, 82, 83, 84, 85, 86, 87, 88, 89] (by decide +kernel) (by decide +kernel)
set_option maxRecDepth 20000 in
theorem gX3_giving_X3_givingOf : GoodIn wsX3_giving (wsV RX3 155 RX3 yX3_givingOf wsX3_givingOf) := goodIn_app (goodIn_of _ (by decide +kernel)) ggX3_giving_X3_givingOf
theorem dX3_giving_0 : decode cX3_giving 0 = .ok (.aload_n 0, 1) := by decide +kernel
theorem dX3_giving_1 : decode cX3_giving 1 = .ok (.iload_n 1, 1) := by decide +kernel
theorem dX3_giving_2 : decode cX3_giving 2 = .ok (.invokevirtual 117, 3) := by decide +kernel
theorem dX3_giving_5 : decode cX3_giving 5 = .ok (.ifCond .ne 6, 3) := by decide +kernel
theorem dX3_giving_8 : decode cX3_giving 8 = .ok (.bipush (-101), 2) := by decide +kernel
theorem dX3_giving_10 : decode cX3_giving 10 = .ok (.ireturn, 1) := by decide +kernel
theorem dX3_giving_11 : decode cX3_giving 11 = .ok (.iload_n 2, 1) := by decide +kernel
theorem dX3_giving_12 : decode cX3_giving 12 = .ok (.i2l, 1) := by decide +kernel
theorem dX3_giving_13 : decode cX3_giving 13 = .ok (.lconst 1, 1) := by decide +kernel
theorem dX3_giving_14 : decode cX3_giving 14 = .ok (.ldc2_w 82, 3) := by decide +kernel
theorem dX3_giving_17 : decode cX3_giving 17 = .ok (.invokestatic 49, 3) := by decide +kernel
theorem dX3_giving_20 : decode cX3_giving 20 = .ok (.ifCond .ne 6, 3) := by decide +kernel
theorem dX3_giving_23 : decode cX3_giving 23 = .ok (.bipush (-102), 2) := by decide +kernel
theorem dX3_giving_25 : decode cX3_giving 25 = .ok (.ireturn, 1) := by decide +kernel
theorem dX3_giving_26 : decode cX3_giving 26 = .ok (.aload_n 0, 1) := by decide +kernel
theorem dX3_giving_27 : decode cX3_giving 27 = .ok (.iload_n 1, 1) := by decide +kernel
theorem dX3_giving_28 : decode cX3_giving 28 = .ok (.invokevirtual 110, 3) := by decide +kernel
theorem dX3_giving_31 : decode cX3_giving 31 = .ok (.ifCond .eq 12, 3) := by decide +kernel
theorem dX3_giving_34 : decode cX3_giving 34 = .ok (.aload_n 0, 1) := by decide +kernel
theorem dX3_giving_35 : decode cX3_giving 35 = .ok (.iload_n 1, 1) := by decide +kernel
theorem dX3_giving_36 : decode cX3_giving 36 = .ok (.iload_n 2, 1) := by decide +kernel
theorem dX3_giving_37 : decode cX3_giving 37 = .ok (.invokevirtual 155, 3) := by decide +kernel
theorem dX3_giving_40 : decode cX3_giving 40 = .ok (.goto 5, 3) := by decide +kernel
theorem dX3_giving_43 : decode cX3_giving 43 = .ok (.bipush (-103), 2) := by decide +kernel
theorem dX3_giving_45 : decode cX3_giving 45 = .ok (.ireturn, 1) := by decide +kernel
theorem dX3_term_0 : decode cX3_term 0 = .ok (.iload_n 0, 1) := by decide +kernel
theorem dX3_term_1 : decode cX3_term 1 = .ok (.istore_n 3, 1) := by decide +kernel
theorem dX3_term_2 : decode cX3_term 2 = .ok (.iload_n 1, 1) := by decide +kernel
theorem dX3_term_3 : decode cX3_term 3 = .ok (.istore 4, 2) := by decide +kernel
theorem dX3_term_5 : decode cX3_term 5 = .ok (.iload_n 3, 1) := by decide +kernel
theorem dX3_term_6 : decode cX3_term 6 = .ok (.ifCond .eq 18, 3) := by decide +kernel
theorem dX3_term_9 : decode cX3_term 9 = .ok (.iload 4, 2) := by decide +kernel
theorem dX3_term_11 : decode cX3_term 11 = .ok (.iload_n 3, 1) := by decide +kernel
theorem dX3_term_12 : decode cX3_term 12 = .ok (.irem, 1) := by decide +kernel
theorem dX3_term_13 : decode cX3_term 13 = .ok (.istore 5, 2) := by decide +kernel
theorem dX3_term_15 : decode cX3_term 15 = .ok (.iload_n 3, 1) := by decide +kernel
theorem dX3_term_16 : decode cX3_term 16 = .ok (.istore 4, 2) := by decide +kernel
theorem dX3_term_18 : decode cX3_term 18 = .ok (.iload 5, 2) := by decide +kernel
theorem dX3_term_20 : decode cX3_term 20 = .ok (.istore_n 3, 1) := by decide +kernel
theorem dX3_term_21 : decode cX3_term 21 = .ok (.goto (-16), 3) := by decide +kernel
theorem dX3_term_24 : decode cX3_term 24 = .ok (.iload_n 2, 1) := by decide +kernel
theorem dX3_term_25 : decode cX3_term 25 = .ok (.ifCond .ne 10, 3) := by decide +kernel
theorem dX3_term_28 : decode cX3_term 28 = .ok (.iload_n 0, 1) := by decide +kernel
theorem dX3_term_29 : decode cX3_term 29 = .ok (.iload 4, 2) := by decide +kernel
theorem dX3_term_31 : decode cX3_term 31 = .ok (.idiv, 1) := by decide +kernel
theorem dX3_term_32 : decode cX3_term 32 = .ok (.goto 7, 3) := by decide +kernel
theorem dX3_term_35 : decode cX3_term 35 = .ok (.iload_n 1, 1) := by decide +kernel
theorem dX3_term_36 : decode cX3_term 36 = .ok (.iload 4, 2) := by decide +kernel
theorem dX3_term_38 : decode cX3_term 38 = .ok (.idiv, 1) := by decide +kernel
theorem dX3_term_39 : decode cX3_term 39 = .ok (.ireturn, 1) := by decide +kernel
set_option maxRecDepth 20000 in
theorem ggX3_meanOf_X3_givingOf : GoodIn wsX3_meanOf wsX3_givingOf := goodIn_r _ [5, 6, 7, 8, 4, 9, 10, 11, 12, 13, 14, 15, 16, 17, 18, 19, 20, 21, 22, 23, 24, 25, 26, 27, 28, 29, 30, 31, 32, 33, 34, 35, 36, 37, 38, 39, 40, 41, 42, 43, 44, 45, 46, 47, 48, 49, 50, 51, 52, 56, 57, 58, 59, 60, 61, 62, 63, 64, 65, 66, 67, 68, 69, 70, 71, 72, 73, 74, 75, 76, 77, 78, 79] (by decide +kernel) (by decide +kernel)
set_option maxRecDepth 20000 in
theorem gX3_meanOf_X3_givingOf : GoodIn wsX3_meanOf (wsV RX3 155 RX3 yX3_givingOf wsX3_givingOf) := goodIn_app (goodIn_of _ (by decide +kernel)) ggX3_meanOf_X3_givingOf
set_option maxRecDepth 20000 in
theorem ggX3_meanOf_X3_lostBy : GoodIn wsX3_meanOf wsX3_lostBy := goodIn_r _ [15, 16, 17, 18, 19, 20, 21, 4, 22, 10, 11, 6, 7, 8, 9, 23, 24, 25, 26, 27, 28, 29, 30, 31, 32, 33, 34, 35, 36, 37, 38, 39, 40, 41, 42, 43, 44, 45, 46, 47, 48, 49, 56, 57, 58, 59, 60, 61, 62, 63, 64, 65, 66, 67, 68, 69, 70, 71, 72, 73, 74, 75, 76, 77, 78, 79] (by decide +kernel) (by decide +kernel)
set_option maxRecDepth 20000 in
theorem gX3_meanOf_X3_lostBy : GoodIn wsX3_meanOf (wsV RX3 151 RX3 yX3_lostBy wsX3_lostBy) := goodIn_app (goodIn_of _ (by decide +kernel)) ggX3_meanOf_X3_lostBy
set_option maxRecDepth 20000 in
theorem ggX3_meanOf_X3_term : GoodIn wsX3_meanOf wsX3_term := goodIn_r _ [55] (by decide +kernel) (by decide +kernel)
set_option maxRecDepth 20000 in
theorem gX3_meanOf_X3_term : GoodIn wsX3_meanOf (va_wsS RX3 158 yX3_term wsX3_term) := goodIn_app (goodIn_of _ (by decide +kernel)) ggX3_meanOf_X3_term
theorem dX3_meanOf_0 : decode cX3_meanOf 0 = .ok (.iconst 1, 1) := by decide +kernel
theorem dX3_meanOf_1 : decode cX3_meanOf 1 = .ok (.istore 4, 2) := by decide +kernel
theorem dX3_meanOf_3 : decode cX3_meanOf 3 = .ok (.iconst 0, 1) := by decide +kernel
theorem dX3_meanOf_4 : decode cX3_meanOf 4 = .ok (.istore 5, 2) := by decide +kernel
theorem dX3_meanOf_6 : decode cX3_meanOf 6 = .ok (.iload 5, 2) := by decide +kernel
theorem dX3_meanOf_8 : decode cX3_meanOf 8 = .ok (.iload_n 2, 1) := by decide +kernel
theorem dX3_meanOf_9 : decode cX3_meanOf 9 = .ok (.if_icmp .ge 16, 3) := by decide +kernel
theorem dX3_meanOf_12 : decode cX3_meanOf 12 = .ok (.iload 4, 2) := by decide +kernel
theorem dX3_meanOf_14 : decode cX3_meanOf 14 = .ok (.bipush 10, 2) := by decide +kernel
theorem dX3_meanOf_16 : decode cX3_meanOf 16 = .ok (.imul, 1) := by decide +kernel
theorem dX3_meanOf_17 : decode cX3_meanOf 17 = .ok (.istore 4, 2) := by decide +kernel
theorem dX3_meanOf_19 : decode cX3_meanOf 19 = .ok (.iinc 5 1, 3) := by decide +kernel
theorem dX3_meanOf_22 : decode cX3_meanOf 22 = .ok (.goto (-16), 3) := by decide +kernel
theorem dX3_meanOf_25 : decode cX3_meanOf 25 = .ok (.aload_n 0, 1) := by decide +kernel
theorem dX3_meanOf_26 : decode cX3_meanOf 26 = .ok (.iload_n 1, 1) := by decide +kernel
theorem dX3_meanOf_27 : decode cX3_meanOf 27 = .ok (.aload_n 0, 1) := by decide +kernel
theorem dX3_meanOf_28 : decode cX3_meanOf 28 = .ok (.iload_n 1, 1) := by decide +kernel
theorem dX3_meanOf_29 : decode cX3_meanOf 29 = .ok (.iload_n 2, 1) := by decide +kernel
theorem dX3_meanOf_30 : decode cX3_meanOf 30 = .ok (.invokevirtual 155, 3) := by decide +kernel
theorem dX3_meanOf_33 : decode cX3_meanOf 33 = .ok (.iload_n 2, 1) := by decide +kernel
theorem dX3_meanOf_34 : decode cX3_meanOf 34 = .ok (.invokevirtual 151, 3) := by decide +kernel
theorem dX3_meanOf_37 : decode cX3_meanOf 37 = .ok (.iload 4, 2) := by decide +kernel
theorem dX3_meanOf_39 : decode cX3_meanOf 39 = .ok (.iload_n 3, 1) := by decide +kernel
theorem dX3_meanOf_40 : decode cX3_meanOf 40 = .ok (.invokestatic 158, 3) := by decide +kernel
theorem dX3_meanOf_43 : decode cX3_meanOf 43 = .ok (.ireturn, 1) := by decide +kernel
set_option maxRecDepth 20000 in
theorem ggX3_mean_X3_isHolder : GoodIn wsX3_mean wsX3_isHolder := goodIn_r _ [6, 7, 8, 9, 5, 10, 73, 74, 75, 76, 77, 78, 79, 80, 81, 82, 83, 84, 85, 86, 87, 88, 89, 90, 91, 92, 93, 94, 95, 96] (by decide +kernel) (by decide +kernel)
set_option maxRecDepth 20000 in
theorem gX3_mean_X3_isHolder : GoodIn wsX3_mean (wsV RX3 117 RX3 yX3_isHolder wsX3_isHolder) := goodIn_app (goodIn_of _ (by decide +kernel)) ggX3_mean_X3_isHolder
set_option maxRecDepth 20000 in
theorem ggX3_mean_X3_in : GoodIn wsX3_mean wsX3_in := goodIn_r _ [10] (by decide +kernel) (by decide +kernel)
set_option maxRecDepth 20000 in
theorem gX3_mean_X3_in : GoodIn wsX3_mean (va_wsS RX3 49 yX3_in wsX3_in) := goodIn_app (goodIn_of _ (by decide +kernel)) ggX3_mean_X3_in
set_option maxRecDepth 20000 in
theorem ggX3_mean_X3_lives : GoodIn wsX3_mean wsX3_lives := goodIn_r _ [14, 15, 73, 74, 75, 76, 77, 78, 79, 80, 81, 82, 83, 84, 85, 86, 87, 88, 89, 90, 91, 92, 93, 94, 95, 96] (by decide +kernel) (by decide +kernel)
set_option maxRecDepth 20000 in
theorem gX3_mean_X3_lives : GoodIn wsX3_mean (wsV RX3 110 RX3 yX3_lives wsX3_lives) := goodIn_app (goodIn_of _ (by decide +kernel)) ggX3_mean_X3_lives
set_option maxRecDepth 20000 in
theorem ggX3_mean_X3_meanOf : GoodIn wsX3_mean wsX3_meanOf := goodIn_r _ [19, 20, 21, 22, 5, 23, 24, 25, 26, 27, 28, 29, 30, 31, 32, 33, 15, 34, 35, 36, 37, 38, 39, 40, 41, 42, 43, 44, 45, 46, 47, 48, 49, 50, 51, 52, 53, 54, 55, 56, 57, 58, 59, 60, 61, 62, 63, 64, 65, 66, 67, 68, 69, 70, 71, 72, 73, 74, 75, 76, 77, 78, 79, 80, 81, 82, 83, 84, 85, 86, 87, 88, 89, 90, 91, 92, 93, 94, 95, 96] (by decide +kernel) (by decide +kernel)
set_option maxRecDepth 20000 in
theorem gX3_mean_X3_meanOf : GoodIn wsX3_mean (wsV RX3 161 RX3 yX3_meanOf wsX3_meanOf) := goodIn_app (goodIn_of _ (by decide +kernel)) ggX3_mean_X3_meanOf
theorem dX3_mean_0 : decode cX3_mean 0 = .ok (.aload_n 0, 1) := by decide +kernel
theorem dX3_mean_1 : decode cX3_mean 1 = .ok (.iload_n 1, 1) := by decide +kernel
theorem dX3_mean_2 : decode cX3_mean 2 = .ok (.invokevirtual 117, 3) := by decide +kernel
theorem dX3_mean_5 : decode cX3_mean 5 = .ok (.ifCond .ne 6, 3) := by decide +kernel
theorem dX3_mean_8 : decode cX3_mean 8 = .ok (.bipush (-101), 2) := by decide +kernel
theorem dX3_mean_10 : decode cX3_mean 10 = .ok (.ireturn, 1) := by decide +kernel
theorem dX3_mean_11 : decode cX3_mean 11 = .ok (.iload_n 2, 1) := by decide +kernel
theorem dX3_mean_12 : decode cX3_mean 12 = .ok (.i2l, 1) := by decide +kernel
theorem dX3_mean_13 : decode cX3_mean 13 = .ok (.lconst 1, 1) := by decide +kernel
theorem dX3_mean_14 : decode cX3_mean 14 = .ok (.ldc2_w 82, 3) := by decide +kernel
theorem dX3_mean_17 : decode cX3_mean 17 = .ok (.invokestatic 49, 3) := by decide +kernel
theorem dX3_mean_20 : decode cX3_mean 20 = .ok (.ifCond .eq 13, 3) := by decide +kernel
theorem dX3_mean_23 : decode cX3_mean 23 = .ok (.iload_n 3, 1) := by decide +kernel
theorem dX3_mean_24 : decode cX3_mean 24 = .ok (.i2l, 1) := by decide +kernel
theorem dX3_mean_25 : decode cX3_mean 25 = .ok (.lconst 0, 1) := by decide +kernel
theorem dX3_mean_26 : decode cX3_mean 26 = .ok (.lconst 1, 1) := by decide +kernel
theorem dX3_mean_27 : decode cX3_mean 27 = .ok (.invokestatic 49, 3) := by decide +kernel
theorem dX3_mean_30 : decode cX3_mean 30 = .ok (.ifCond .ne 6, 3) := by decide +kernel
theorem dX3_mean_33 : decode cX3_mean 33 = .ok (.bipush (-102), 2) := by decide +kernel
theorem dX3_mean_35 : decode cX3_mean 35 = .ok (.ireturn, 1) := by decide +kernel
theorem dX3_mean_36 : decode cX3_mean 36 = .ok (.aload_n 0, 1) := by decide +kernel
theorem dX3_mean_37 : decode cX3_mean 37 = .ok (.iload_n 1, 1) := by decide +kernel
theorem dX3_mean_38 : decode cX3_mean 38 = .ok (.invokevirtual 110, 3) := by decide +kernel
theorem dX3_mean_41 : decode cX3_mean 41 = .ok (.ifCond .eq 13, 3) := by decide +kernel
theorem dX3_mean_44 : decode cX3_mean 44 = .ok (.aload_n 0, 1) := by decide +kernel
theorem dX3_mean_45 : decode cX3_mean 45 = .ok (.iload_n 1, 1) := by decide +kernel
theorem dX3_mean_46 : decode cX3_mean 46 = .ok (.iload_n 2, 1) := by decide +kernel
theorem dX3_mean_47 : decode cX3_mean 47 = .ok (.iload_n 3, 1) := by decide +kernel
theorem dX3_mean_48 : decode cX3_mean 48 = .ok (.invokevirtual 161, 3) := by decide +kernel
theorem dX3_mean_51 : decode cX3_mean 51 = .ok (.goto 5, 3) := by decide +kernel
theorem dX3_mean_54 : decode cX3_mean 54 = .ok (.bipush (-103), 2) := by decide +kernel
theorem dX3_mean_56 : decode cX3_mean 56 = .ok (.ireturn, 1) := by decide +kernel
set_option maxRecDepth 20000 in
theorem ggX3_roll_X3_isBeast : GoodIn wsX3_roll wsX3_isBeast := goodIn_r _ [7, 8, 9, 10, 6, 11, 12, 13, 14, 15, 16, 17, 18, 19, 20, 21, 22, 23, 24, 25, 26, 27, 28, 29, 30, 31, 32, 33, 34, 35] (by decide +kernel) (by decide +kernel)
set_option maxRecDepth 20000 in
theorem gX3_roll_X3_isBeast : GoodIn wsX3_roll (wsV RX3 129 RX3 yX3_isBeast wsX3_isBeast) := goodIn_app (goodIn_of _ (by decide +kernel)) ggX3_roll_X3_isBeast
set_option maxRecDepth 20000 in
theorem ggX3_roll_X3_in : GoodIn wsX3_roll wsX3_in := goodIn_r _ [11] (by decide +kernel) (by decide +kernel)
set_option maxRecDepth 20000 in
theorem gX3_roll_X3_in : GoodIn wsX3_roll (va_wsS RX3 49 yX3_in wsX3_in) := goodIn_app (goodIn_of _ (by decide +kernel)) ggX3_roll_X3_in
theorem dX3_roll_0 : decode cX3_roll 0 = .ok (.aload_n 0, 1) := by decide +kernel
theorem dX3_roll_1 : decode cX3_roll 1 = .ok (.iload_n 1, 1) := by decide +kernel
theorem dX3_roll_2 : decode cX3_roll 2 = .ok (.invokevirtual 129, 3) := by decide +kernel
theorem dX3_roll_5 : decode cX3_roll 5 = .ok (.ifCond .ne 6, 3) := by decide +kernel
theorem dX3_roll_8 : decode cX3_roll 8 = .ok (.bipush (-101), 2) := by decide +kernel
theorem dX3_roll_10 : decode cX3_roll 10 = .ok (.ireturn, 1) := by decide +kernel
theorem dX3_roll_11 : decode cX3_roll 11 = .ok (.iload_n 2, 1) := by decide +kernel
theorem dX3_roll_12 : decode cX3_roll 12 = .ok (.i2l, 1) := by decide +kernel
theorem dX3_roll_13 : decode cX3_roll 13 = .ok (.ldc2_w 164, 3) := by decide +kernel
theorem dX3_roll_16 : decode cX3_roll 16 = .ok (.lconst 1, 1) := by decide +kernel
theorem dX3_roll_17 : decode cX3_roll 17 = .ok (.invokestatic 49, 3) := by decide +kernel
theorem dX3_roll_20 : decode cX3_roll 20 = .ok (.ifCond .ne 6, 3) := by decide +kernel
theorem dX3_roll_23 : decode cX3_roll 23 = .ok (.bipush (-102), 2) := by decide +kernel
theorem dX3_roll_25 : decode cX3_roll 25 = .ok (.ireturn, 1) := by decide +kernel
theorem dX3_roll_26 : decode cX3_roll 26 = .ok (.aload_n 0, 1) := by decide +kernel
theorem dX3_roll_27 : decode cX3_roll 27 = .ok (.getfield 16, 3) := by decide +kernel
theorem dX3_roll_30 : decode cX3_roll 30 = .ok (.iconst 5, 1) := by decide +kernel
theorem dX3_roll_31 : decode cX3_roll 31 = .ok (.iload_n 1, 1) := by decide +kernel
theorem dX3_roll_32 : decode cX3_roll 32 = .ok (.imul, 1) := by decide +kernel
theorem dX3_roll_33 : decode cX3_roll 33 = .ok (.iconst 4, 1) := by decide +kernel
theorem dX3_roll_34 : decode cX3_roll 34 = .ok (.iadd, 1) := by decide +kernel
theorem dX3_roll_35 : decode cX3_roll 35 = .ok (.iaload, 1) := by decide +kernel
theorem dX3_roll_36 : decode cX3_roll 36 = .ok (.istore_n 3, 1) := by decide +kernel
theorem dX3_roll_37 : decode cX3_roll 37 = .ok (.aload_n 0, 1) := by decide +kernel
theorem dX3_roll_38 : decode cX3_roll 38 = .ok (.getfield 16, 3) := by decide +kernel
theorem dX3_roll_41 : decode cX3_roll 41 = .ok (.iconst 5, 1) := by decide +kernel
theorem dX3_roll_42 : decode cX3_roll 42 = .ok (.iload_n 1, 1) := by decide +kernel
theorem dX3_roll_43 : decode cX3_roll 43 = .ok (.imul, 1) := by decide +kernel
theorem dX3_roll_44 : decode cX3_roll 44 = .ok (.iconst 4, 1) := by decide +kernel
theorem dX3_roll_45 : decode cX3_roll 45 = .ok (.iadd, 1) := by decide +kernel
theorem dX3_roll_46 : decode cX3_roll 46 = .ok (.iload_n 2, 1) := by decide +kernel
theorem dX3_roll_47 : decode cX3_roll 47 = .ok (.iastore, 1) := by decide +kernel
theorem dX3_roll_48 : decode cX3_roll 48 = .ok (.iload_n 3, 1) := by decide +kernel
theorem dX3_roll_49 : decode cX3_roll 49 = .ok (.ireturn, 1) := by decide +kernel
set_option maxRecDepth 20000 in
theorem ggX3_isRolledBy_X3_heldBits : GoodIn wsX3_isRolledBy wsX3_heldBits := goodIn_r _ [8, 2, 3, 9, 10, 11, 12, 7, 13, 34, 35, 36, 37, 38, 39, 40, 41, 42, 43, 44, 45, 46, 47, 48, 49, 50, 51, 52, 53, 54, 55, 56, 57] (by decide +kernel) (by decide +kernel)
set_option maxRecDepth 20000 in
theorem gX3_isRolledBy_X3_heldBits : GoodIn wsX3_isRolledBy (wsV RX3 107 RX3 yX3_heldBits wsX3_heldBits) := goodIn_app (goodIn_of _ (by decide +kernel)) ggX3_isRolledBy_X3_heldBits
set_option maxRecDepth 20000 in
theorem ggX3_isRolledBy_X3_takenOf : GoodIn wsX3_isRolledBy wsX3_takenOf := goodIn_r _ [17, 18, 19, 20, 7, 21, 22, 23, 24, 25, 26, 27, 28, 29, 30, 31, 32, 2, 3, 33, 34, 35, 36, 37, 38, 39, 40, 41, 42, 43, 44, 45, 46, 47, 48, 49, 50, 51, 52, 53, 54, 55, 56, 57] (by decide +kernel) (by decide +kernel)
set_option maxRecDepth 20000 in
theorem gX3_isRolledBy_X3_takenOf : GoodIn wsX3_isRolledBy (wsV RX3 97 RX3 yX3_takenOf wsX3_takenOf) := goodIn_app (goodIn_of _ (by decide +kernel)) ggX3_isRolledBy_X3_takenOf
theorem dX3_isRolledBy_0 : decode cX3_isRolledBy 0 = .ok (.aload_n 0, 1) := by decide +kernel
theorem dX3_isRolledBy_1 : decode cX3_isRolledBy 1 = .ok (.iload_n 1, 1) := by decide +kernel
theorem dX3_isRolledBy_2 : decode cX3_isRolledBy 2 = .ok (.aload_n 0, 1) := by decide +kernel
theorem dX3_isRolledBy_3 : decode cX3_isRolledBy 3 = .ok (.iload_n 1, 1) := by decide +kernel
theorem dX3_isRolledBy_4 : decode cX3_isRolledBy 4 = .ok (.aload_n 0, 1) := by decide +kernel
theorem dX3_isRolledBy_5 : decode cX3_isRolledBy 5 = .ok (.getfield 104, 3) := by decide +kernel
theorem dX3_isRolledBy_8 : decode cX3_isRolledBy 8 = .ok (.invokevirtual 107, 3) := by decide +kernel
theorem dX3_isRolledBy_11 : decode cX3_isRolledBy 11 = .ok (.invokevirtual 97, 3) := by decide +kernel
theorem dX3_isRolledBy_14 : decode cX3_isRolledBy 14 = .ok (.istore_n 2, 1) := by decide +kernel
theorem dX3_isRolledBy_15 : decode cX3_isRolledBy 15 = .ok (.iconst 1, 1) := by decide +kernel
theorem dX3_isRolledBy_16 : decode cX3_isRolledBy 16 = .ok (.istore_n 3, 1) := by decide +kernel
theorem dX3_isRolledBy_17 : decode cX3_isRolledBy 17 = .ok (.iconst 0, 1) := by decide +kernel
theorem dX3_isRolledBy_18 : decode cX3_isRolledBy 18 = .ok (.istore 4, 2) := by decide +kernel
theorem dX3_isRolledBy_20 : decode cX3_isRolledBy 20 = .ok (.iload 4, 2) := by decide +kernel
theorem dX3_isRolledBy_22 : decode cX3_isRolledBy 22 = .ok (.aload_n 0, 1) := by decide +kernel
theorem dX3_isRolledBy_23 : decode cX3_isRolledBy 23 = .ok (.getfield 79, 3) := by decide +kernel
theorem dX3_isRolledBy_26 : decode cX3_isRolledBy 26 = .ok (.if_icmp .ge 54, 3) := by decide +kernel
theorem dX3_isRolledBy_29 : decode cX3_isRolledBy 29 = .ok (.iload_n 3, 1) := by decide +kernel
theorem dX3_isRolledBy_30 : decode cX3_isRolledBy 30 = .ok (.ifCond .eq 42, 3) := by decide +kernel
theorem dX3_isRolledBy_33 : decode cX3_isRolledBy 33 = .ok (.aload_n 0, 1) := by decide +kernel
theorem dX3_isRolledBy_34 : decode cX3_isRolledBy 34 = .ok (.getfield 16, 3) := by decide +kernel
theorem dX3_isRolledBy_37 : decode cX3_isRolledBy 37 = .ok (.iconst 5, 1) := by decide +kernel
theorem dX3_isRolledBy_38 : decode cX3_isRolledBy 38 = .ok (.iload 4, 2) := by decide +kernel
theorem dX3_isRolledBy_40 : decode cX3_isRolledBy 40 = .ok (.imul, 1) := by decide +kernel
theorem dX3_isRolledBy_41 : decode cX3_isRolledBy 41 = .ok (.iconst 4, 1) := by decide +kernel
theorem dX3_isRolledBy_42 : decode cX3_isRolledBy 42 = .ok (.iadd, 1) := by decide +kernel
theorem dX3_isRolledBy_43 : decode cX3_isRolledBy 43 = .ok (.iaload, 1) := by decide +kernel
theorem dX3_isRolledBy_44 : decode cX3_isRolledBy 44 = .ok (.iconst (-1), 1) := by decide +kernel
theorem dX3_isRolledBy_45 : decode cX3_isRolledBy 45 = .ok (.if_icmp .eq 23, 3) := by decide +kernel
theorem dX3_isRolledBy_48 : decode cX3_isRolledBy 48 = .ok (.aload_n 0, 1) := by decide +kernel
theorem dX3_isRolledBy_49 : decode cX3_isRolledBy 49 = .ok (.getfield 16, 3) := by decide +kernel
theorem dX3_isRolledBy_52 : decode cX3_isRolledBy 52 = .ok (.iconst 5, 1) := by decide +kernel
theorem dX3_isRolledBy_53 : decode cX3_isRolledBy 53 = .ok (.iload 4, 2) := by decide +kernel
theorem dX3_isRolledBy_55 : decode cX3_isRolledBy 55 = .ok (.imul, 1) := by decide +kernel
theorem dX3_isRolledBy_56 : decode cX3_isRolledBy 56 = .ok (.iconst 4, 1) := by decide +kernel
theorem dX3_isRolledBy_57 : decode cX3_isRolledBy 57 = .ok (.iadd, 1) := by decide +kernel
theorem dX3_isRolledBy_58 : decode cX3_isRolledBy 58 = .ok (.iaload, 1) := by decide +kernel
theorem dX3_isRolledBy_59 : decode cX3_isRolledBy 59 = .ok (.iload_n 2, 1) := by decide +kernel
theorem dX3_isRolledBy_60 : decode cX3_isRolledBy 60 = .ok (.iload 4, 2) := by decide +kernel
theorem dX3_isRolledBy_62 : decode cX3_isRolledBy 62 = .ok (.ishr, 1) := by decide +kernel
theorem dX3_isRolledBy_63 : decode cX3_isRolledBy 63 = .ok (.iconst 1, 1) := by decide +kernel
theorem dX3_isRolledBy_64 : decode cX3_isRolledBy 64 = .ok (.iand, 1) := by decide +kernel
theorem dX3_isRolledBy_65 : decode cX3_isRolledBy 65 = .ok (.if_icmp .ne 7, 3) := by decide +kernel
theorem dX3_isRolledBy_68 : decode cX3_isRolledBy 68 = .ok (.iconst 1, 1) := by decide +kernel
theorem dX3_isRolledBy_69 : decode cX3_isRolledBy 69 = .ok (.goto 4, 3) := by decide +kernel
theorem dX3_isRolledBy_72 : decode cX3_isRolledBy 72 = .ok (.iconst 0, 1) := by decide +kernel
theorem dX3_isRolledBy_73 : decode cX3_isRolledBy 73 = .ok (.istore_n 3, 1) := by decide +kernel
theorem dX3_isRolledBy_74 : decode cX3_isRolledBy 74 = .ok (.iinc 4 1, 3) := by decide +kernel
theorem dX3_isRolledBy_77 : decode cX3_isRolledBy 77 = .ok (.goto (-57), 3) := by decide +kernel
theorem dX3_isRolledBy_80 : decode cX3_isRolledBy 80 = .ok (.iload_n 3, 1) := by decide +kernel
theorem dX3_isRolledBy_81 : decode cX3_isRolledBy 81 = .ok (.ireturn, 1) := by decide +kernel
set_option maxRecDepth 20000 in
theorem ggX3_whose_X3_isBeast : GoodIn wsX3_whose wsX3_isBeast := goodIn_r _ [7, 8, 9, 10, 6, 11, 58, 59, 60, 61, 62, 63, 64, 65, 66, 67, 68, 69, 70, 71, 72, 73, 74, 75, 76, 77, 78, 79, 80, 81] (by decide +kernel) (by decide +kernel)
set_option maxRecDepth 20000 in
theorem gX3_whose_X3_isBeast : GoodIn wsX3_whose (wsV RX3 129 RX3 yX3_isBeast wsX3_isBeast) := goodIn_app (goodIn_of _ (by decide +kernel)) ggX3_whose_X3_isBeast
set_option maxRecDepth 20000 in
theorem ggX3_whose_X3_isHolder : GoodIn wsX3_whose wsX3_isHolder := goodIn_r _ [15, 2, 9, 10, 6, 11, 58, 59, 60, 61, 62, 63, 64, 65, 66, 67, 68, 69, 70, 71, 72, 73, 74, 75, 76, 77, 78, 79, 80, 81] (by decide +kernel) (by decide +kernel)
set_option maxRecDepth 20000 in
theorem gX3_whose_X3_isHolder : GoodIn wsX3_whose (wsV RX3 117 RX3 yX3_isHolder wsX3_isHolder) := goodIn_app (goodIn_of _ (by decide +kernel)) ggX3_whose_X3_isHolder
set_option maxRecDepth 20000 in
theorem ggX3_whose_X3_lives : GoodIn wsX3_whose wsX3_lives := goodIn_r _ [19, 20, 58, 59, 60, 61, 62, 63, 64, 65, 66, 67, 68, 69, 70, 71, 72, 73, 74, 75, 76, 77, 78, 79, 80, 81] (by decide +kernel) (by decide +kernel)
set_option maxRecDepth 20000 in
theorem gX3_whose_X3_lives : GoodIn wsX3_whose (wsV RX3 110 RX3 yX3_lives wsX3_lives) := goodIn_app (goodIn_of _ (by decide +kernel)) ggX3_whose_X3_lives
set_option maxRecDepth 20000 in
theorem ggX3_whose_X3_lay : GoodIn wsX3_whose wsX3_lay := goodIn_r _ [24, 1, 58, 59, 60, 61, 62, 63, 64, 65, 66, 67, 68, 69, 70, 71, 72, 73, 74, 75, 76, 77, 78, 79, 80, 81] (by decide +kernel) (by decide +kernel)
set_option maxRecDepth 20000 in
theorem gX3_whose_X3_lay : GoodIn wsX3_whose (wsV RX3 125 RX3 yX3_lay wsX3_lay) := goodIn_app (goodIn_of _ (by decide +kernel)) ggX3_whose_X3_lay
set_option maxRecDepth 20000 in
theorem ggX3_whose_X3_isRolledBy : GoodIn wsX3_whose wsX3_isRolledBy := goodIn_r _ [28, 29, 8, 1, 30, 31, 32, 6, 33, 34, 35, 36, 37, 38, 39, 40, 41, 42, 43, 44, 45, 46, 20, 47, 48, 49, 50, 51, 52, 53, 54, 55, 56, 57, 58, 59, 60, 61, 62, 63, 64, 65, 66, 67, 68, 69, 70, 71, 72, 73, 74, 75, 76, 77, 78, 79, 80, 81] (by decide +kernel) (by decide +kernel)
set_option maxRecDepth 20000 in
theorem gX3_whose_X3_isRolledBy : GoodIn wsX3_whose (wsV RX3 166 RX3 yX3_isRolledBy wsX3_isRolledBy) := goodIn_app (goodIn_of _ (by decide +kernel)) ggX3_whose_X3_isRolledBy
theorem dX3_whose_0 : decode cX3_whose 0 = .ok (.aload_n 0, 1) := by decide +kernel
theorem dX3_whose_1 : decode cX3_whose 1 = .ok (.iload_n 1, 1) := by decide +kernel
theorem dX3_whose_2 : decode cX3_whose 2 = .ok (.invokevirtual 129, 3) := by decide +kernel
theorem dX3_whose_5 : decode cX3_whose 5 = .ok (.ifCond .eq 11, 3) := by decide +kernel
theorem dX3_whose_8 : decode cX3_whose 8 = .ok (.aload_n 0, 1) := by decide +kernel
theorem dX3_whose_9 : decode cX3_whose 9 = .ok (.iload_n 2, 1) := by decide +kernel
theorem dX3_whose_10 : decode cX3_whose 10 = .ok (.invokevirtual 117, 3) := by decide +kernel
theorem dX3_whose_13 : decode cX3_whose 13 = .ok (.ifCond .ne 6, 3) := by decide +kernel
theorem dX3_whose_16 : decode cX3_whose 16 = .ok (.bipush (-101), 2) := by decide +kernel
theorem dX3_whose_18 : decode cX3_whose 18 = .ok (.ireturn, 1) := by decide +kernel
theorem dX3_whose_19 : decode cX3_whose 19 = .ok (.aload_n 0, 1) := by decide +kernel
theorem dX3_whose_20 : decode cX3_whose 20 = .ok (.iload_n 2, 1) := by decide +kernel
theorem dX3_whose_21 : decode cX3_whose 21 = .ok (.invokevirtual 110, 3) := by decide +kernel
theorem dX3_whose_24 : decode cX3_whose 24 = .ok (.ifCond .ne 6, 3) := by decide +kernel
theorem dX3_whose_27 : decode cX3_whose 27 = .ok (.bipush (-103), 2) := by decide +kernel
theorem dX3_whose_29 : decode cX3_whose 29 = .ok (.ireturn, 1) := by decide +kernel
theorem dX3_whose_30 : decode cX3_whose 30 = .ok (.aload_n 0, 1) := by decide +kernel
theorem dX3_whose_31 : decode cX3_whose 31 = .ok (.getfield 16, 3) := by decide +kernel
theorem dX3_whose_34 : decode cX3_whose 34 = .ok (.iconst 5, 1) := by decide +kernel
theorem dX3_whose_35 : decode cX3_whose 35 = .ok (.iload_n 1, 1) := by decide +kernel
theorem dX3_whose_36 : decode cX3_whose 36 = .ok (.imul, 1) := by decide +kernel
theorem dX3_whose_37 : decode cX3_whose 37 = .ok (.iconst 1, 1) := by decide +kernel
theorem dX3_whose_38 : decode cX3_whose 38 = .ok (.iadd, 1) := by decide +kernel
theorem dX3_whose_39 : decode cX3_whose 39 = .ok (.iaload, 1) := by decide +kernel
theorem dX3_whose_40 : decode cX3_whose 40 = .ok (.istore_n 3, 1) := by decide +kernel
theorem dX3_whose_41 : decode cX3_whose 41 = .ok (.aload_n 0, 1) := by decide +kernel
theorem dX3_whose_42 : decode cX3_whose 42 = .ok (.getfield 16, 3) := by decide +kernel
theorem dX3_whose_45 : decode cX3_whose 45 = .ok (.iconst 5, 1) := by decide +kernel
theorem dX3_whose_46 : decode cX3_whose 46 = .ok (.iload_n 1, 1) := by decide +kernel
theorem dX3_whose_47 : decode cX3_whose 47 = .ok (.imul, 1) := by decide +kernel
theorem dX3_whose_48 : decode cX3_whose 48 = .ok (.iconst 2, 1) := by decide +kernel
theorem dX3_whose_49 : decode cX3_whose 49 = .ok (.iadd, 1) := by decide +kernel
theorem dX3_whose_50 : decode cX3_whose 50 = .ok (.iaload, 1) := by decide +kernel
theorem dX3_whose_51 : decode cX3_whose 51 = .ok (.istore 4, 2) := by decide +kernel
theorem dX3_whose_53 : decode cX3_whose 53 = .ok (.aload_n 0, 1) := by decide +kernel
theorem dX3_whose_54 : decode cX3_whose 54 = .ok (.getfield 16, 3) := by decide +kernel
theorem dX3_whose_57 : decode cX3_whose 57 = .ok (.iconst 5, 1) := by decide +kernel
theorem dX3_whose_58 : decode cX3_whose 58 = .ok (.iload_n 1, 1) := by decide +kernel
theorem dX3_whose_59 : decode cX3_whose 59 = .ok (.imul, 1) := by decide +kernel
theorem dX3_whose_60 : decode cX3_whose 60 = .ok (.iconst 3, 1) := by decide +kernel
theorem dX3_whose_61 : decode cX3_whose 61 = .ok (.iadd, 1) := by decide +kernel
theorem dX3_whose_62 : decode cX3_whose 62 = .ok (.iaload, 1) := by decide +kernel
theorem dX3_whose_63 : decode cX3_whose 63 = .ok (.istore 5, 2) := by decide +kernel
theorem dX3_whose_65 : decode cX3_whose 65 = .ok (.iconst 0, 1) := by decide +kernel
theorem dX3_whose_66 : decode cX3_whose 66 = .ok (.istore 6, 2) := by decide +kernel
theorem dX3_whose_68 : decode cX3_whose 68 = .ok (.iconst 0, 1) := by decide +kernel
theorem dX3_whose_69 : decode cX3_whose 69 = .ok (.istore 7, 2) := by decide +kernel
theorem dX3_whose_71 : decode cX3_whose 71 = .ok (.iload 7, 2) := by decide +kernel
theorem dX3_whose_73 : decode cX3_whose 73 = .ok (.aload_n 0, 1) := by decide +kernel
theorem dX3_whose_74 : decode cX3_whose 74 = .ok (.getfield 76, 3) := by decide +kernel
theorem dX3_whose_77 : decode cX3_whose 77 = .ok (.if_icmp .ge 48, 3) := by decide +kernel
theorem dX3_whose_80 : decode cX3_whose 80 = .ok (.aload_n 0, 1) := by decide +kernel
theorem dX3_whose_81 : decode cX3_whose 81 = .ok (.iload_n 1, 1) := by decide +kernel
theorem dX3_whose_82 : decode cX3_whose 82 = .ok (.iload 7, 2) := by decide +kernel
theorem dX3_whose_84 : decode cX3_whose 84 = .ok (.iconst (-1), 1) := by decide +kernel
theorem dX3_whose_85 : decode cX3_whose 85 = .ok (.iconst (-1), 1) := by decide +kernel
theorem dX3_whose_86 : decode cX3_whose 86 = .ok (.invokevirtual 125, 3) := by decide +kernel
theorem dX3_whose_89 : decode cX3_whose 89 = .ok (.iload 6, 2) := by decide +kernel
theorem dX3_whose_91 : decode cX3_whose 91 = .ok (.aload_n 0, 1) := by decide +kernel
theorem dX3_whose_92 : decode cX3_whose 92 = .ok (.iload 7, 2) := by decide +kernel
theorem dX3_whose_94 : decode cX3_whose 94 = .ok (.invokevirtual 110, 3) := by decide +kernel
theorem dX3_whose_97 : decode cX3_whose 97 = .ok (.ifCond .eq 18, 3) := by decide +kernel
theorem dX3_whose_100 : decode cX3_whose 100 = .ok (.aload_n 0, 1) := by decide +kernel
theorem dX3_whose_101 : decode cX3_whose 101 = .ok (.iload_n 2, 1) := by decide +kernel
theorem dX3_whose_102 : decode cX3_whose 102 = .ok (.invokevirtual 166, 3) := by decide +kernel
theorem dX3_whose_105 : decode cX3_whose 105 = .ok (.ifCond .eq 10, 3) := by decide +kernel
theorem dX3_whose_108 : decode cX3_whose 108 = .ok (.iconst 1, 1) := by decide +kernel
theorem dX3_whose_109 : decode cX3_whose 109 = .ok (.iload 7, 2) := by decide +kernel
theorem dX3_whose_111 : decode cX3_whose 111 = .ok (.ishl, 1) := by decide +kernel
theorem dX3_whose_112 : decode cX3_whose 112 = .ok (.goto 4, 3) := by decide +kernel
theorem dX3_whose_115 : decode cX3_whose 115 = .ok (.iconst 0, 1) := by decide +kernel
theorem dX3_whose_116 : decode cX3_whose 116 = .ok (.ior, 1) := by decide +kernel
theorem dX3_whose_117 : decode cX3_whose 117 = .ok (.istore 6, 2) := by decide +kernel
theorem dX3_whose_119 : decode cX3_whose 119 = .ok (.iinc 7 1, 3) := by decide +kernel
theorem dX3_whose_122 : decode cX3_whose 122 = .ok (.goto (-51), 3) := by decide +kernel
theorem dX3_whose_125 : decode cX3_whose 125 = .ok (.aload_n 0, 1) := by decide +kernel
theorem dX3_whose_126 : decode cX3_whose 126 = .ok (.iload_n 1, 1) := by decide +kernel
theorem dX3_whose_127 : decode cX3_whose 127 = .ok (.iload_n 3, 1) := by decide +kernel
theorem dX3_whose_128 : decode cX3_whose 128 = .ok (.iload 4, 2) := by decide +kernel
theorem dX3_whose_130 : decode cX3_whose 130 = .ok (.iload 5, 2) := by decide +kernel
theorem dX3_whose_132 : decode cX3_whose 132 = .ok (.invokevirtual 125, 3) := by decide +kernel
theorem dX3_whose_135 : decode cX3_whose 135 = .ok (.iload 6, 2) := by decide +kernel
theorem dX3_whose_137 : decode cX3_whose 137 = .ok (.ireturn, 1) := by decide +kernel
theorem dX3_draw_0 : decode cX3_draw 0 = .ok (.aload_n 0, 1) := by decide +kernel
theorem dX3_draw_1 : decode cX3_draw 1 = .ok (.ldc2_w 169, 3) := by decide +kernel
theorem dX3_draw_4 : decode cX3_draw 4 = .ok (.aload_n 0, 1) := by decide +kernel
theorem dX3_draw_5 : decode cX3_draw 5 = .ok (.getfield 171, 3) := by decide +kernel
theorem dX3_draw_8 : decode cX3_draw 8 = .ok (.i2l, 1) := by decide +kernel
theorem dX3_draw_9 : decode cX3_draw 9 = .ok (.lmul, 1) := by decide +kernel
theorem dX3_draw_10 : decode cX3_draw 10 = .ok (.ldc2_w 174, 3) := by decide +kernel
theorem dX3_draw_13 : decode cX3_draw 13 = .ok (.ladd, 1) := by decide +kernel
theorem dX3_draw_14 : decode cX3_draw 14 = .ok (.ldc2_w 176, 3) := by decide +kernel
theorem dX3_draw_17 : decode cX3_draw 17 = .ok (.land, 1) := by decide +kernel
theorem dX3_draw_18 : decode cX3_draw 18 = .ok (.l2i, 1) := by decide +kernel
theorem dX3_draw_19 : decode cX3_draw 19 = .ok (.putfield 171, 3) := by decide +kernel
theorem dX3_draw_22 : decode cX3_draw 22 = .ok (.aload_n 0, 1) := by decide +kernel
theorem dX3_draw_23 : decode cX3_draw 23 = .ok (.getfield 171, 3) := by decide +kernel
theorem dX3_draw_26 : decode cX3_draw 26 = .ok (.ldc 178, 2) := by decide +kernel
theorem dX3_draw_28 : decode cX3_draw 28 = .ok (.idiv, 1) := by decide +kernel
theorem dX3_draw_29 : decode cX3_draw 29 = .ok (.iload_n 1, 1) := by decide +kernel
theorem dX3_draw_30 : decode cX3_draw 30 = .ok (.irem, 1) := by decide +kernel
theorem dX3_draw_31 : decode cX3_draw 31 = .ok (.ireturn, 1) := by decide +kernel
theorem dX3_copy_0 : decode cX3_copy 0 = .ok (.iconst 0, 1) := by decide +kernel
theorem dX3_copy_1 : decode cX3_copy 1 = .ok (.istore_n 2, 1) := by decide +kernel
theorem dX3_copy_2 : decode cX3_copy 2 = .ok (.iload_n 2, 1) := by decide +kernel
theorem dX3_copy_3 : decode cX3_copy 3 = .ok (.aload_n 0, 1) := by decide +kernel
theorem dX3_copy_4 : decode cX3_copy 4 = .ok (.arraylength, 1) := by decide +kernel
theorem dX3_copy_5 : decode cX3_copy 5 = .ok (.if_icmp .ge 15, 3) := by decide +kernel
theorem dX3_copy_8 : decode cX3_copy 8 = .ok (.aload_n 1, 1) := by decide +kernel
theorem dX3_copy_9 : decode cX3_copy 9 = .ok (.iload_n 2, 1) := by decide +kernel
theorem dX3_copy_10 : decode cX3_copy 10 = .ok (.aload_n 0, 1) := by decide +kernel
theorem dX3_copy_11 : decode cX3_copy 11 = .ok (.iload_n 2, 1) := by decide +kernel
theorem dX3_copy_12 : decode cX3_copy 12 = .ok (.iaload, 1) := by decide +kernel
theorem dX3_copy_13 : decode cX3_copy 13 = .ok (.iastore, 1) := by decide +kernel
theorem dX3_copy_14 : decode cX3_copy 14 = .ok (.iinc 2 1, 3) := by decide +kernel
theorem dX3_copy_17 : decode cX3_copy 17 = .ok (.goto (-15), 3) := by decide +kernel
theorem dX3_copy_20 : decode cX3_copy 20 = .ok (.return_, 1) := by decide +kernel
theorem dX3_livingMany_0 : decode cX3_livingMany 0 = .ok (.iconst 0, 1) := by decide +kernel
theorem dX3_livingMany_1 : decode cX3_livingMany 1 = .ok (.istore_n 1, 1) := by decide +kernel
theorem dX3_livingMany_2 : decode cX3_livingMany 2 = .ok (.iconst 0, 1) := by decide +kernel
theorem dX3_livingMany_3 : decode cX3_livingMany 3 = .ok (.istore_n 2, 1) := by decide +kernel
theorem dX3_livingMany_4 : decode cX3_livingMany 4 = .ok (.iload_n 2, 1) := by decide +kernel
theorem dX3_livingMany_5 : decode cX3_livingMany 5 = .ok (.aload_n 0, 1) := by decide +kernel
theorem dX3_livingMany_6 : decode cX3_livingMany 6 = .ok (.getfield 76, 3) := by decide +kernel
theorem dX3_livingMany_9 : decode cX3_livingMany 9 = .ok (.if_icmp .ge 22, 3) := by decide +kernel
theorem dX3_livingMany_12 : decode cX3_livingMany 12 = .ok (.iload_n 1, 1) := by decide +kernel
theorem dX3_livingMany_13 : decode cX3_livingMany 13 = .ok (.aload_n 0, 1) := by decide +kernel
theorem dX3_livingMany_14 : decode cX3_livingMany 14 = .ok (.getfield 13, 3) := by decide +kernel
theorem dX3_livingMany_17 : decode cX3_livingMany 17 = .ok (.iconst 4, 1) := by decide +kernel
theorem dX3_livingMany_18 : decode cX3_livingMany 18 = .ok (.iload_n 2, 1) := by decide +kernel
theorem dX3_livingMany_19 : decode cX3_livingMany 19 = .ok (.imul, 1) := by decide +kernel
theorem dX3_livingMany_20 : decode cX3_livingMany 20 = .ok (.iconst 2, 1) := by decide +kernel
theorem dX3_livingMany_21 : decode cX3_livingMany 21 = .ok (.iadd, 1) := by decide +kernel
theorem dX3_livingMany_22 : decode cX3_livingMany 22 = .ok (.iaload, 1) := by decide +kernel
theorem dX3_livingMany_23 : decode cX3_livingMany 23 = .ok (.iadd, 1) := by decide +kernel
theorem dX3_livingMany_24 : decode cX3_livingMany 24 = .ok (.istore_n 1, 1) := by decide +kernel
theorem dX3_livingMany_25 : decode cX3_livingMany 25 = .ok (.iinc 2 1, 3) := by decide +kernel
theorem dX3_livingMany_28 : decode cX3_livingMany 28 = .ok (.goto (-24), 3) := by decide +kernel
theorem dX3_livingMany_31 : decode cX3_livingMany 31 = .ok (.iload_n 1, 1) := by decide +kernel
theorem dX3_livingMany_32 : decode cX3_livingMany 32 = .ok (.ireturn, 1) := by decide +kernel
set_option maxRecDepth 20000 in
theorem ggX3_manors_X3_in : GoodIn wsX3_manors wsX3_in := goodIn_r _ [14] (by decide +kernel) (by decide +kernel)
set_option maxRecDepth 20000 in
theorem gX3_manors_X3_in : GoodIn wsX3_manors (va_wsS RX3 49 yX3_in wsX3_in) := goodIn_app (goodIn_of _ (by decide +kernel)) ggX3_manors_X3_in
set_option maxRecDepth 20000 in
theorem ggX3_manors_X3_copy : GoodIn wsX3_manors wsX3_copy := goodIn_r _ [17] (by decide +kernel) (by decide +kernel)
set_option maxRecDepth 20000 in
theorem gX3_manors_X3_copy : GoodIn wsX3_manors (va_wsS RX3 183 yX3_copy wsX3_copy) := goodIn_app (goodIn_of _ (by decide +kernel)) ggX3_manors_X3_copy
set_option maxRecDepth 20000 in
theorem ggX3_manors_X3_lives : GoodIn wsX3_manors wsX3_lives := goodIn_r _ [21, 4, 82, 83, 84, 85, 86, 87, 88, 89, 90, 91, 92, 93, 94, 95, 96, 97, 98, 99, 100, 101, 102, 103, 104, 105] (by decide +kernel) (by decide +kernel)
set_option maxRecDepth 20000 in
theorem gX3_manors_X3_lives : GoodIn wsX3_manors (wsV RX3 110 RX3 yX3_lives wsX3_lives) := goodIn_app (goodIn_of _ (by decide +kernel)) ggX3_manors_X3_lives
set_option maxRecDepth 20000 in
theorem ggX3_manors_X3_draw : GoodIn wsX3_manors wsX3_draw := goodIn_r _ [25, 26, 9, 27, 28, 29, 82, 83, 84, 85, 86, 87, 88, 89, 90, 91, 92, 93, 94, 95, 96, 97, 98, 99, 100, 101, 102, 103, 104, 105] (by decide +kernel) (by decide +kernel)
set_option maxRecDepth 20000 in
theorem gX3_manors_X3_draw : GoodIn wsX3_manors (wsV RX3 187 RX3 yX3_draw wsX3_draw) := goodIn_app (goodIn_of _ (by decide +kernel)) ggX3_manors_X3_draw
set_option maxRecDepth 20000 in
theorem ggX3_manors_X3_dies : GoodIn wsX3_manors wsX3_dies := goodIn_r _ [33, 8, 4, 10, 6, 34, 35, 36, 13, 37, 38, 39, 40, 41, 42, 43, 44, 45, 46, 47, 48, 49, 50, 51, 52, 53, 54, 55, 56, 57, 58, 59, 60, 61, 62, 63, 64, 65, 66, 67, 68, 69, 18, 19, 20, 21, 82, 83, 84, 85, 86, 87, 88, 89, 90, 91, 92, 93, 94, 95, 96, 97, 98, 99, 100, 101, 102, 103, 104, 105] (by decide +kernel) (by decide +kernel)
set_option maxRecDepth 20000 in
theorem gX3_manors_X3_dies : GoodIn wsX3_manors (wsV RX3 139 RX3 yX3_dies wsX3_dies) := goodIn_app (goodIn_of _ (by decide +kernel)) ggX3_manors_X3_dies
set_option maxRecDepth 20000 in
theorem ggX3_manors_X3_mayGive : GoodIn wsX3_manors wsX3_mayGive := goodIn_r _ [73, 6, 18, 19, 20, 13, 21, 4, 82, 83, 84, 85, 86, 87, 88, 89, 90, 91, 92, 93, 94, 95, 96, 97, 98, 99, 100, 101, 102, 103, 104, 105] (by decide +kernel) (by decide +kernel)
set_option maxRecDepth 20000 in
theorem gX3_manors_X3_mayGive : GoodIn wsX3_manors (wsV RX3 132 RX3 yX3_mayGive wsX3_mayGive) := goodIn_app (goodIn_of _ (by decide +kernel)) ggX3_manors_X3_mayGive
set_option maxRecDepth 20000 in
theorem ggX3_manors_X3_gives : GoodIn wsX3_manors wsX3_gives := goodIn_r _ [77, 6, 8, 66, 67, 68, 13, 69, 82, 83, 84, 85, 86, 87, 88, 89, 90, 91, 92, 93, 94, 95, 96, 97, 98, 99, 100, 101, 102, 103, 104, 105] (by decide +kernel) (by decide +kernel)
set_option maxRecDepth 20000 in
theorem gX3_manors_X3_gives : GoodIn wsX3_manors (wsV RX3 135 RX3 yX3_gives wsX3_gives) := goodIn_app (goodIn_of _ (by decide +kernel)) ggX3_manors_X3_gives
set_option maxRecDepth 20000 in
theorem ggX3_manors_X3_livingMany : GoodIn wsX3_manors wsX3_livingMany := goodIn_r _ [81, 3, 4, 82, 83, 84, 85, 86, 87, 88, 89, 90, 91, 92, 93, 94, 95, 96, 97, 98, 99, 100, 101, 102, 103, 104, 105] (by decide +kernel) (by decide +kernel)
set_option maxRecDepth 20000 in
theorem gX3_manors_X3_livingMany : GoodIn wsX3_manors (wsV RX3 190 RX3 yX3_livingMany wsX3_livingMany) := goodIn_app (goodIn_of _ (by decide +kernel)) ggX3_manors_X3_livingMany
theorem dX3_manors_0 : decode cX3_manors 0 = .ok (.iload_n 1, 1) := by decide +kernel
theorem dX3_manors_1 : decode cX3_manors 1 = .ok (.i2l, 1) := by decide +kernel
theorem dX3_manors_2 : decode cX3_manors 2 = .ok (.lconst 1, 1) := by decide +kernel
theorem dX3_manors_3 : decode cX3_manors 3 = .ok (.ldc2_w 179, 3) := by decide +kernel
theorem dX3_manors_6 : decode cX3_manors 6 = .ok (.invokestatic 49, 3) := by decide +kernel
theorem dX3_manors_9 : decode cX3_manors 9 = .ok (.ifCond .eq 19, 3) := by decide +kernel
theorem dX3_manors_12 : decode cX3_manors 12 = .ok (.iload_n 2, 1) := by decide +kernel
theorem dX3_manors_13 : decode cX3_manors 13 = .ok (.ifCond .lt 15, 3) := by decide +kernel
theorem dX3_manors_16 : decode cX3_manors 16 = .ok (.iload_n 3, 1) := by decide +kernel
theorem dX3_manors_17 : decode cX3_manors 17 = .ok (.i2l, 1) := by decide +kernel
theorem dX3_manors_18 : decode cX3_manors 18 = .ok (.lconst 0, 1) := by decide +kernel
theorem dX3_manors_19 : decode cX3_manors 19 = .ok (.ldc2_w 181, 3) := by decide +kernel
theorem dX3_manors_22 : decode cX3_manors 22 = .ok (.invokestatic 49, 3) := by decide +kernel
theorem dX3_manors_25 : decode cX3_manors 25 = .ok (.ifCond .ne 6, 3) := by decide +kernel
theorem dX3_manors_28 : decode cX3_manors 28 = .ok (.bipush (-102), 2) := by decide +kernel
theorem dX3_manors_30 : decode cX3_manors 30 = .ok (.ireturn, 1) := by decide +kernel
theorem dX3_manors_31 : decode cX3_manors 31 = .ok (.aload_n 0, 1) := by decide +kernel
theorem dX3_manors_32 : decode cX3_manors 32 = .ok (.getfield 76, 3) := by decide +kernel
theorem dX3_manors_35 : decode cX3_manors 35 = .ok (.ifCond .ne 6, 3) := by decide +kernel
theorem dX3_manors_38 : decode cX3_manors 38 = .ok (.bipush (-103), 2) := by decide +kernel
theorem dX3_manors_40 : decode cX3_manors 40 = .ok (.ireturn, 1) := by decide +kernel
theorem dX3_manors_41 : decode cX3_manors 41 = .ok (.aload_n 0, 1) := by decide +kernel
theorem dX3_manors_42 : decode cX3_manors 42 = .ok (.getfield 13, 3) := by decide +kernel
theorem dX3_manors_45 : decode cX3_manors 45 = .ok (.aload_n 0, 1) := by decide +kernel
theorem dX3_manors_46 : decode cX3_manors 46 = .ok (.getfield 19, 3) := by decide +kernel
theorem dX3_manors_49 : decode cX3_manors 49 = .ok (.invokestatic 183, 3) := by decide +kernel
theorem dX3_manors_52 : decode cX3_manors 52 = .ok (.aload_n 0, 1) := by decide +kernel
theorem dX3_manors_53 : decode cX3_manors 53 = .ok (.getfield 16, 3) := by decide +kernel
theorem dX3_manors_56 : decode cX3_manors 56 = .ok (.aload_n 0, 1) := by decide +kernel
theorem dX3_manors_57 : decode cX3_manors 57 = .ok (.getfield 22, 3) := by decide +kernel
theorem dX3_manors_60 : decode cX3_manors 60 = .ok (.invokestatic 183, 3) := by decide +kernel
theorem dX3_manors_63 : decode cX3_manors 63 = .ok (.aload_n 0, 1) := by decide +kernel
theorem dX3_manors_64 : decode cX3_manors 64 = .ok (.getfield 104, 3) := by decide +kernel
theorem dX3_manors_67 : decode cX3_manors 67 = .ok (.istore 4, 2) := by decide +kernel
theorem dX3_manors_69 : decode cX3_manors 69 = .ok (.aload_n 0, 1) := by decide +kernel
theorem dX3_manors_70 : decode cX3_manors 70 = .ok (.iload_n 2, 1) := by decide +kernel
theorem dX3_manors_71 : decode cX3_manors 71 = .ok (.putfield 171, 3) := by decide +kernel
theorem dX3_manors_74 : decode cX3_manors 74 = .ok (.iconst 0, 1) := by decide +kernel
theorem dX3_manors_75 : decode cX3_manors 75 = .ok (.istore 5, 2) := by decide +kernel
theorem dX3_manors_77 : decode cX3_manors 77 = .ok (.iconst 0, 1) := by decide +kernel
theorem dX3_manors_78 : decode cX3_manors 78 = .ok (.istore 6, 2) := by decide +kernel
theorem dX3_manors_80 : decode cX3_manors 80 = .ok (.iload 6, 2) := by decide +kernel
theorem dX3_manors_82 : decode cX3_manors 82 = .ok (.iload_n 1, 1) := by decide +kernel
theorem dX3_manors_83 : decode cX3_manors 83 = .ok (.if_icmp .ge 123, 3) := by decide +kernel
theorem dX3_manors_86 : decode cX3_manors 86 = .ok (.iconst 0, 1) := by decide +kernel
theorem dX3_manors_87 : decode cX3_manors 87 = .ok (.istore 7, 2) := by decide +kernel
theorem dX3_manors_89 : decode cX3_manors 89 = .ok (.iload 7, 2) := by decide +kernel
theorem dX3_manors_91 : decode cX3_manors 91 = .ok (.aload_n 0, 1) := by decide +kernel
theorem dX3_manors_92 : decode cX3_manors 92 = .ok (.getfield 76, 3) := by decide +kernel
theorem dX3_manors_95 : decode cX3_manors 95 = .ok (.if_icmp .ge 49, 3) := by decide +kernel
theorem dX3_manors_98 : decode cX3_manors 98 = .ok (.aload_n 0, 1) := by decide +kernel
theorem dX3_manors_99 : decode cX3_manors 99 = .ok (.iload 7, 2) := by decide +kernel
theorem dX3_manors_101 : decode cX3_manors 101 = .ok (.invokevirtual 110, 3) := by decide +kernel
theorem dX3_manors_104 : decode cX3_manors 104 = .ok (.ifCond .eq 34, 3) := by decide +kernel
theorem dX3_manors_107 : decode cX3_manors 107 = .ok (.aload_n 0, 1) := by decide +kernel
theorem dX3_manors_108 : decode cX3_manors 108 = .ok (.bipush 10, 2) := by decide +kernel
theorem dX3_manors_110 : decode cX3_manors 110 = .ok (.invokevirtual 187, 3) := by decide +kernel
theorem dX3_manors_113 : decode cX3_manors 113 = .ok (.aload_n 0, 1) := by decide +kernel
theorem dX3_manors_114 : decode cX3_manors 114 = .ok (.getfield 13, 3) := by decide +kernel
theorem dX3_manors_117 : decode cX3_manors 117 = .ok (.iconst 4, 1) := by decide +kernel
theorem dX3_manors_118 : decode cX3_manors 118 = .ok (.iload 7, 2) := by decide +kernel
theorem dX3_manors_120 : decode cX3_manors 120 = .ok (.imul, 1) := by decide +kernel
theorem dX3_manors_121 : decode cX3_manors 121 = .ok (.iconst 1, 1) := by decide +kernel
theorem dX3_manors_122 : decode cX3_manors 122 = .ok (.iadd, 1) := by decide +kernel
theorem dX3_manors_123 : decode cX3_manors 123 = .ok (.iaload, 1) := by decide +kernel
theorem dX3_manors_124 : decode cX3_manors 124 = .ok (.if_icmp .ge 14, 3) := by decide +kernel
theorem dX3_manors_127 : decode cX3_manors 127 = .ok (.iload 5, 2) := by decide +kernel
theorem dX3_manors_129 : decode cX3_manors 129 = .ok (.aload_n 0, 1) := by decide +kernel
theorem dX3_manors_130 : decode cX3_manors 130 = .ok (.iload 7, 2) := by decide +kernel
theorem dX3_manors_132 : decode cX3_manors 132 = .ok (.invokevirtual 139, 3) := by decide +kernel
theorem dX3_manors_135 : decode cX3_manors 135 = .ok (.iadd, 1) := by decide +kernel
theorem dX3_manors_136 : decode cX3_manors 136 = .ok (.istore 5, 2) := by decide +kernel
theorem dX3_manors_138 : decode cX3_manors 138 = .ok (.iinc 7 1, 3) := by decide +kernel
theorem dX3_manors_141 : decode cX3_manors 141 = .ok (.goto (-52), 3) := by decide +kernel
theorem dX3_manors_144 : decode cX3_manors 144 = .ok (.aload_n 0, 1) := by decide +kernel
theorem dX3_manors_145 : decode cX3_manors 145 = .ok (.getfield 79, 3) := by decide +kernel
theorem dX3_manors_148 : decode cX3_manors 148 = .ok (.ifCond .le 42, 3) := by decide +kernel
theorem dX3_manors_151 : decode cX3_manors 151 = .ok (.aload_n 0, 1) := by decide +kernel
theorem dX3_manors_152 : decode cX3_manors 152 = .ok (.aload_n 0, 1) := by decide +kernel
theorem dX3_manors_153 : decode cX3_manors 153 = .ok (.getfield 79, 3) := by decide +kernel
theorem dX3_manors_156 : decode cX3_manors 156 = .ok (.invokevirtual 187, 3) := by decide +kernel
theorem dX3_manors_159 : decode cX3_manors 159 = .ok (.istore 7, 2) := by decide +kernel
theorem dX3_manors_161 : decode cX3_manors 161 = .ok (.aload_n 0, 1) := by decide +kernel
theorem dX3_manors_162 : decode cX3_manors 162 = .ok (.aload_n 0, 1) := by decide +kernel
theorem dX3_manors_163 : decode cX3_manors 163 = .ok (.getfield 76, 3) := by decide +kernel
theorem dX3_manors_166 : decode cX3_manors 166 = .ok (.invokevirtual 187, 3) := by decide +kernel
theorem dX3_manors_169 : decode cX3_manors 169 = .ok (.istore 8, 2) := by decide +kernel
theorem dX3_manors_171 : decode cX3_manors 171 = .ok (.aload_n 0, 1) := by decide +kernel
theorem dX3_manors_172 : decode cX3_manors 172 = .ok (.iload 7, 2) := by decide +kernel
theorem dX3_manors_174 : decode cX3_manors 174 = .ok (.iload 8, 2) := by decide +kernel
theorem dX3_manors_176 : decode cX3_manors 176 = .ok (.invokevirtual 132, 3) := by decide +kernel
theorem dX3_manors_179 : decode cX3_manors 179 = .ok (.ifCond .eq 11, 3) := by decide +kernel
theorem dX3_manors_182 : decode cX3_manors 182 = .ok (.aload_n 0, 1) := by decide +kernel
theorem dX3_manors_183 : decode cX3_manors 183 = .ok (.iload 7, 2) := by decide +kernel
theorem dX3_manors_185 : decode cX3_manors 185 = .ok (.iload 8, 2) := by decide +kernel
theorem dX3_manors_187 : decode cX3_manors 187 = .ok (.invokevirtual 135, 3) := by decide +kernel
theorem dX3_manors_190 : decode cX3_manors 190 = .ok (.aload_n 0, 1) := by decide +kernel
theorem dX3_manors_191 : decode cX3_manors 191 = .ok (.dup, 1) := by decide +kernel
theorem dX3_manors_192 : decode cX3_manors 192 = .ok (.getfield 104, 3) := by decide +kernel
theorem dX3_manors_195 : decode cX3_manors 195 = .ok (.iconst 1, 1) := by decide +kernel
theorem dX3_manors_196 : decode cX3_manors 196 = .ok (.iadd, 1) := by decide +kernel
theorem dX3_manors_197 : decode cX3_manors 197 = .ok (.putfield 104, 3) := by decide +kernel
theorem dX3_manors_200 : decode cX3_manors 200 = .ok (.iinc 6 1, 3) := by decide +kernel
theorem dX3_manors_203 : decode cX3_manors 203 = .ok (.goto (-123), 3) := by decide +kernel
theorem dX3_manors_206 : decode cX3_manors 206 = .ok (.aload_n 0, 1) := by decide +kernel
theorem dX3_manors_207 : decode cX3_manors 207 = .ok (.invokevirtual 190, 3) := by decide +kernel
theorem dX3_manors_210 : decode cX3_manors 210 = .ok (.istore 6, 2) := by decide +kernel
theorem dX3_manors_212 : decode cX3_manors 212 = .ok (.aload_n 0, 1) := by decide +kernel
theorem dX3_manors_213 : decode cX3_manors 213 = .ok (.getfield 19, 3) := by decide +kernel
theorem dX3_manors_216 : decode cX3_manors 216 = .ok (.aload_n 0, 1) := by decide +kernel
theorem dX3_manors_217 : decode cX3_manors 217 = .ok (.getfield 13, 3) := by decide +kernel
theorem dX3_manors_220 : decode cX3_manors 220 = .ok (.invokestatic 183, 3) := by decide +kernel
theorem dX3_manors_223 : decode cX3_manors 223 = .ok (.aload_n 0, 1) := by decide +kernel
theorem dX3_manors_224 : decode cX3_manors 224 = .ok (.getfield 22, 3) := by decide +kernel
theorem dX3_manors_227 : decode cX3_manors 227 = .ok (.aload_n 0, 1) := by decide +kernel
theorem dX3_manors_228 : decode cX3_manors 228 = .ok (.getfield 16, 3) := by decide +kernel
theorem dX3_manors_231 : decode cX3_manors 231 = .ok (.invokestatic 183, 3) := by decide +kernel
theorem dX3_manors_234 : decode cX3_manors 234 = .ok (.aload_n 0, 1) := by decide +kernel
theorem dX3_manors_235 : decode cX3_manors 235 = .ok (.iload 4, 2) := by decide +kernel
theorem dX3_manors_237 : decode cX3_manors 237 = .ok (.putfield 104, 3) := by decide +kernel
theorem dX3_manors_240 : decode cX3_manors 240 = .ok (.iload_n 3, 1) := by decide +kernel
theorem dX3_manors_241 : decode cX3_manors 241 = .ok (.ifCond .ne 8, 3) := by decide +kernel
theorem dX3_manors_244 : decode cX3_manors 244 = .ok (.iload 5, 2) := by decide +kernel
theorem dX3_manors_246 : decode cX3_manors 246 = .ok (.goto 17, 3) := by decide +kernel
theorem dX3_manors_249 : decode cX3_manors 249 = .ok (.iload_n 3, 1) := by decide +kernel
theorem dX3_manors_250 : decode cX3_manors 250 = .ok (.iconst 1, 1) := by decide +kernel
theorem dX3_manors_251 : decode cX3_manors 251 = .ok (.if_icmp .ne 8, 3) := by decide +kernel
theorem dX3_manors_254 : decode cX3_manors 254 = .ok (.iload 6, 2) := by decide +kernel
theorem dX3_manors_256 : decode cX3_manors 256 = .ok (.goto 7, 3) := by decide +kernel
theorem dX3_manors_259 : decode cX3_manors 259 = .ok (.aload_n 0, 1) := by decide +kernel
theorem dX3_manors_260 : decode cX3_manors 260 = .ok (.getfield 171, 3) := by decide +kernel
theorem dX3_manors_263 : decode cX3_manors 263 = .ok (.ireturn, 1) := by decide +kernel
set_option maxRecDepth 20000 in
theorem ggX3_image_X3_copy : GoodIn wsX3_image wsX3_copy := goodIn_r _ [21] (by decide +kernel) (by decide +kernel)
set_option maxRecDepth 20000 in
theorem gX3_image_X3_copy : GoodIn wsX3_image (va_wsS RX3 183 yX3_copy wsX3_copy) := goodIn_app (goodIn_of _ (by decide +kernel)) ggX3_image_X3_copy
theorem dX3_image_0 : decode cX3_image 0 = .ok (.aload_n 0, 1) := by decide +kernel
theorem dX3_image_1 : decode cX3_image 1 = .ok (.getfield 13, 3) := by decide +kernel
theorem dX3_image_4 : decode cX3_image 4 = .ok (.aload_n 0, 1) := by decide +kernel
theorem dX3_image_5 : decode cX3_image 5 = .ok (.getfield 25, 3) := by decide +kernel
theorem dX3_image_8 : decode cX3_image 8 = .ok (.invokestatic 183, 3) := by decide +kernel
theorem dX3_image_11 : decode cX3_image 11 = .ok (.aload_n 0, 1) := by decide +kernel
theorem dX3_image_12 : decode cX3_image 12 = .ok (.getfield 16, 3) := by decide +kernel
theorem dX3_image_15 : decode cX3_image 15 = .ok (.aload_n 0, 1) := by decide +kernel
theorem dX3_image_16 : decode cX3_image 16 = .ok (.getfield 28, 3) := by decide +kernel
theorem dX3_image_19 : decode cX3_image 19 = .ok (.invokestatic 183, 3) := by decide +kernel
theorem dX3_image_22 : decode cX3_image 22 = .ok (.aload_n 0, 1) := by decide +kernel
theorem dX3_image_23 : decode cX3_image 23 = .ok (.getfield 31, 3) := by decide +kernel
theorem dX3_image_26 : decode cX3_image 26 = .ok (.iconst 0, 1) := by decide +kernel
theorem dX3_image_27 : decode cX3_image 27 = .ok (.aload_n 0, 1) := by decide +kernel
theorem dX3_image_28 : decode cX3_image 28 = .ok (.getfield 34, 3) := by decide +kernel
theorem dX3_image_31 : decode cX3_image 31 = .ok (.iastore, 1) := by decide +kernel
theorem dX3_image_32 : decode cX3_image 32 = .ok (.aload_n 0, 1) := by decide +kernel
theorem dX3_image_33 : decode cX3_image 33 = .ok (.getfield 31, 3) := by decide +kernel
theorem dX3_image_36 : decode cX3_image 36 = .ok (.iconst 1, 1) := by decide +kernel
theorem dX3_image_37 : decode cX3_image 37 = .ok (.aload_n 0, 1) := by decide +kernel
theorem dX3_image_38 : decode cX3_image 38 = .ok (.getfield 38, 3) := by decide +kernel
theorem dX3_image_41 : decode cX3_image 41 = .ok (.iastore, 1) := by decide +kernel
theorem dX3_image_42 : decode cX3_image 42 = .ok (.aload_n 0, 1) := by decide +kernel
theorem dX3_image_43 : decode cX3_image 43 = .ok (.getfield 31, 3) := by decide +kernel
theorem dX3_image_46 : decode cX3_image 46 = .ok (.iconst 2, 1) := by decide +kernel
theorem dX3_image_47 : decode cX3_image 47 = .ok (.aload_n 0, 1) := by decide +kernel
theorem dX3_image_48 : decode cX3_image 48 = .ok (.getfield 41, 3) := by decide +kernel
theorem dX3_image_51 : decode cX3_image 51 = .ok (.iastore, 1) := by decide +kernel
theorem dX3_image_52 : decode cX3_image 52 = .ok (.aload_n 0, 1) := by decide +kernel
theorem dX3_image_53 : decode cX3_image 53 = .ok (.getfield 31, 3) := by decide +kernel
theorem dX3_image_56 : decode cX3_image 56 = .ok (.iconst 3, 1) := by decide +kernel
theorem dX3_image_57 : decode cX3_image 57 = .ok (.aload_n 0, 1) := by decide +kernel
theorem dX3_image_58 : decode cX3_image 58 = .ok (.getfield 70, 3) := by decide +kernel
theorem dX3_image_61 : decode cX3_image 61 = .ok (.iastore, 1) := by decide +kernel
theorem dX3_image_62 : decode cX3_image 62 = .ok (.aload_n 0, 1) := by decide +kernel
theorem dX3_image_63 : decode cX3_image 63 = .ok (.aload_n 0, 1) := by decide +kernel
theorem dX3_image_64 : decode cX3_image 64 = .ok (.getfield 76, 3) := by decide +kernel
theorem dX3_image_67 : decode cX3_image 67 = .ok (.putfield 193, 3) := by decide +kernel
theorem dX3_image_70 : decode cX3_image 70 = .ok (.aload_n 0, 1) := by decide +kernel
theorem dX3_image_71 : decode cX3_image 71 = .ok (.aload_n 0, 1) := by decide +kernel
theorem dX3_image_72 : decode cX3_image 72 = .ok (.getfield 79, 3) := by decide +kernel
theorem dX3_image_75 : decode cX3_image 75 = .ok (.putfield 196, 3) := by decide +kernel
theorem dX3_image_78 : decode cX3_image 78 = .ok (.aload_n 0, 1) := by decide +kernel
theorem dX3_image_79 : decode cX3_image 79 = .ok (.aload_n 0, 1) := by decide +kernel
theorem dX3_image_80 : decode cX3_image 80 = .ok (.getfield 142, 3) := by decide +kernel
theorem dX3_image_83 : decode cX3_image 83 = .ok (.putfield 199, 3) := by decide +kernel
theorem dX3_image_86 : decode cX3_image 86 = .ok (.aload_n 0, 1) := by decide +kernel
theorem dX3_image_87 : decode cX3_image 87 = .ok (.aload_n 0, 1) := by decide +kernel
theorem dX3_image_88 : decode cX3_image 88 = .ok (.getfield 104, 3) := by decide +kernel
theorem dX3_image_91 : decode cX3_image 91 = .ok (.putfield 44, 3) := by decide +kernel
theorem dX3_image_94 : decode cX3_image 94 = .ok (.aload_n 0, 1) := by decide +kernel
theorem dX3_image_95 : decode cX3_image 95 = .ok (.getfield 104, 3) := by decide +kernel
theorem dX3_image_98 : decode cX3_image 98 = .ok (.ireturn, 1) := by decide +kernel
set_option maxRecDepth 20000 in
theorem ggX3_restore_X3_copy : GoodIn wsX3_restore wsX3_copy := goodIn_r _ [21] (by decide +kernel) (by decide +kernel)
set_option maxRecDepth 20000 in
theorem gX3_restore_X3_copy : GoodIn wsX3_restore (va_wsS RX3 183 yX3_copy wsX3_copy) := goodIn_app (goodIn_of _ (by decide +kernel)) ggX3_restore_X3_copy
theorem dX3_restore_0 : decode cX3_restore 0 = .ok (.aload_n 0, 1) := by decide +kernel
theorem dX3_restore_1 : decode cX3_restore 1 = .ok (.getfield 44, 3) := by decide +kernel
theorem dX3_restore_4 : decode cX3_restore 4 = .ok (.iconst (-1), 1) := by decide +kernel
theorem dX3_restore_5 : decode cX3_restore 5 = .ok (.if_icmp .ne 6, 3) := by decide +kernel
theorem dX3_restore_8 : decode cX3_restore 8 = .ok (.bipush (-103), 2) := by decide +kernel
theorem dX3_restore_10 : decode cX3_restore 10 = .ok (.ireturn, 1) := by decide +kernel
theorem dX3_restore_11 : decode cX3_restore 11 = .ok (.aload_n 0, 1) := by decide +kernel
theorem dX3_restore_12 : decode cX3_restore 12 = .ok (.getfield 25, 3) := by decide +kernel
theorem dX3_restore_15 : decode cX3_restore 15 = .ok (.aload_n 0, 1) := by decide +kernel
theorem dX3_restore_16 : decode cX3_restore 16 = .ok (.getfield 13, 3) := by decide +kernel
theorem dX3_restore_19 : decode cX3_restore 19 = .ok (.invokestatic 183, 3) := by decide +kernel
theorem dX3_restore_22 : decode cX3_restore 22 = .ok (.aload_n 0, 1) := by decide +kernel
theorem dX3_restore_23 : decode cX3_restore 23 = .ok (.getfield 28, 3) := by decide +kernel
theorem dX3_restore_26 : decode cX3_restore 26 = .ok (.aload_n 0, 1) := by decide +kernel
theorem dX3_restore_27 : decode cX3_restore 27 = .ok (.getfield 16, 3) := by decide +kernel
theorem dX3_restore_30 : decode cX3_restore 30 = .ok (.invokestatic 183, 3) := by decide +kernel
theorem dX3_restore_33 : decode cX3_restore 33 = .ok (.aload_n 0, 1) := by decide +kernel
theorem dX3_restore_34 : decode cX3_restore 34 = .ok (.aload_n 0, 1) := by decide +kernel
theorem dX3_restore_35 : decode cX3_restore 35 = .ok (.getfield 31, 3) := by decide +kernel
theorem dX3_restore_38 : decode cX3_restore 38 = .ok (.iconst 0, 1) := by decide +kernel
theorem dX3_restore_39 : decode cX3_restore 39 = .ok (.iaload, 1) := by decide +kernel
theorem dX3_restore_40 : decode cX3_restore 40 = .ok (.putfield 34, 3) := by decide +kernel
theorem dX3_restore_43 : decode cX3_restore 43 = .ok (.aload_n 0, 1) := by decide +kernel
theorem dX3_restore_44 : decode cX3_restore 44 = .ok (.aload_n 0, 1) := by decide +kernel
theorem dX3_restore_45 : decode cX3_restore 45 = .ok (.getfield 31, 3) := by decide +kernel
theorem dX3_restore_48 : decode cX3_restore 48 = .ok (.iconst 1, 1) := by decide +kernel
theorem dX3_restore_49 : decode cX3_restore 49 = .ok (.iaload, 1) := by decide +kernel
theorem dX3_restore_50 : decode cX3_restore 50 = .ok (.putfield 38, 3) := by decide +kernel
theorem dX3_restore_53 : decode cX3_restore 53 = .ok (.aload_n 0, 1) := by decide +kernel
theorem dX3_restore_54 : decode cX3_restore 54 = .ok (.aload_n 0, 1) := by decide +kernel
theorem dX3_restore_55 : decode cX3_restore 55 = .ok (.getfield 31, 3) := by decide +kernel
theorem dX3_restore_58 : decode cX3_restore 58 = .ok (.iconst 2, 1) := by decide +kernel
theorem dX3_restore_59 : decode cX3_restore 59 = .ok (.iaload, 1) := by decide +kernel
theorem dX3_restore_60 : decode cX3_restore 60 = .ok (.putfield 41, 3) := by decide +kernel
theorem dX3_restore_63 : decode cX3_restore 63 = .ok (.aload_n 0, 1) := by decide +kernel
theorem dX3_restore_64 : decode cX3_restore 64 = .ok (.aload_n 0, 1) := by decide +kernel
theorem dX3_restore_65 : decode cX3_restore 65 = .ok (.getfield 31, 3) := by decide +kernel
theorem dX3_restore_68 : decode cX3_restore 68 = .ok (.iconst 3, 1) := by decide +kernel
theorem dX3_restore_69 : decode cX3_restore 69 = .ok (.iaload, 1) := by decide +kernel
theorem dX3_restore_70 : decode cX3_restore 70 = .ok (.putfield 70, 3) := by decide +kernel
theorem dX3_restore_73 : decode cX3_restore 73 = .ok (.aload_n 0, 1) := by decide +kernel
theorem dX3_restore_74 : decode cX3_restore 74 = .ok (.aload_n 0, 1) := by decide +kernel
theorem dX3_restore_75 : decode cX3_restore 75 = .ok (.getfield 193, 3) := by decide +kernel
theorem dX3_restore_78 : decode cX3_restore 78 = .ok (.putfield 76, 3) := by decide +kernel
theorem dX3_restore_81 : decode cX3_restore 81 = .ok (.aload_n 0, 1) := by decide +kernel
theorem dX3_restore_82 : decode cX3_restore 82 = .ok (.aload_n 0, 1) := by decide +kernel
theorem dX3_restore_83 : decode cX3_restore 83 = .ok (.getfield 196, 3) := by decide +kernel
theorem dX3_restore_86 : decode cX3_restore 86 = .ok (.putfield 79, 3) := by decide +kernel
theorem dX3_restore_89 : decode cX3_restore 89 = .ok (.aload_n 0, 1) := by decide +kernel
theorem dX3_restore_90 : decode cX3_restore 90 = .ok (.aload_n 0, 1) := by decide +kernel
theorem dX3_restore_91 : decode cX3_restore 91 = .ok (.getfield 199, 3) := by decide +kernel
theorem dX3_restore_94 : decode cX3_restore 94 = .ok (.putfield 142, 3) := by decide +kernel
theorem dX3_restore_97 : decode cX3_restore 97 = .ok (.aload_n 0, 1) := by decide +kernel
theorem dX3_restore_98 : decode cX3_restore 98 = .ok (.aload_n 0, 1) := by decide +kernel
theorem dX3_restore_99 : decode cX3_restore 99 = .ok (.getfield 44, 3) := by decide +kernel
theorem dX3_restore_102 : decode cX3_restore 102 = .ok (.putfield 104, 3) := by decide +kernel
theorem dX3_restore_105 : decode cX3_restore 105 = .ok (.aload_n 0, 1) := by decide +kernel
theorem dX3_restore_106 : decode cX3_restore 106 = .ok (.getfield 104, 3) := by decide +kernel
theorem dX3_restore_109 : decode cX3_restore 109 = .ok (.ireturn, 1) := by decide +kernel
theorem dX3_thereMany_0 : decode cX3_thereMany 0 = .ok (.iconst 0, 1) := by decide +kernel
theorem dX3_thereMany_1 : decode cX3_thereMany 1 = .ok (.istore_n 1, 1) := by decide +kernel
theorem dX3_thereMany_2 : decode cX3_thereMany 2 = .ok (.iconst 0, 1) := by decide +kernel
theorem dX3_thereMany_3 : decode cX3_thereMany 3 = .ok (.istore_n 2, 1) := by decide +kernel
theorem dX3_thereMany_4 : decode cX3_thereMany 4 = .ok (.iload_n 2, 1) := by decide +kernel
theorem dX3_thereMany_5 : decode cX3_thereMany 5 = .ok (.aload_n 0, 1) := by decide +kernel
theorem dX3_thereMany_6 : decode cX3_thereMany 6 = .ok (.getfield 79, 3) := by decide +kernel
theorem dX3_thereMany_9 : decode cX3_thereMany 9 = .ok (.if_icmp .ge 31, 3) := by decide +kernel
theorem dX3_thereMany_12 : decode cX3_thereMany 12 = .ok (.iload_n 1, 1) := by decide +kernel
theorem dX3_thereMany_13 : decode cX3_thereMany 13 = .ok (.aload_n 0, 1) := by decide +kernel
theorem dX3_thereMany_14 : decode cX3_thereMany 14 = .ok (.getfield 16, 3) := by decide +kernel
theorem dX3_thereMany_17 : decode cX3_thereMany 17 = .ok (.iconst 5, 1) := by decide +kernel
theorem dX3_thereMany_18 : decode cX3_thereMany 18 = .ok (.iload_n 2, 1) := by decide +kernel
theorem dX3_thereMany_19 : decode cX3_thereMany 19 = .ok (.imul, 1) := by decide +kernel
theorem dX3_thereMany_20 : decode cX3_thereMany 20 = .ok (.iconst 1, 1) := by decide +kernel
theorem dX3_thereMany_21 : decode cX3_thereMany 21 = .ok (.iadd, 1) := by decide +kernel
theorem dX3_thereMany_22 : decode cX3_thereMany 22 = .ok (.iaload, 1) := by decide +kernel
theorem dX3_thereMany_23 : decode cX3_thereMany 23 = .ok (.iconst (-1), 1) := by decide +kernel
theorem dX3_thereMany_24 : decode cX3_thereMany 24 = .ok (.if_icmp .ne 7, 3) := by decide +kernel
theorem dX3_thereMany_27 : decode cX3_thereMany 27 = .ok (.iconst 0, 1) := by decide +kernel
theorem dX3_thereMany_28 : decode cX3_thereMany 28 = .ok (.goto 4, 3) := by decide +kernel
theorem dX3_thereMany_31 : decode cX3_thereMany 31 = .ok (.iconst 1, 1) := by decide +kernel
theorem dX3_thereMany_32 : decode cX3_thereMany 32 = .ok (.iadd, 1) := by decide +kernel
theorem dX3_thereMany_33 : decode cX3_thereMany 33 = .ok (.istore_n 1, 1) := by decide +kernel
theorem dX3_thereMany_34 : decode cX3_thereMany 34 = .ok (.iinc 2 1, 3) := by decide +kernel
theorem dX3_thereMany_37 : decode cX3_thereMany 37 = .ok (.goto (-33), 3) := by decide +kernel
theorem dX3_thereMany_40 : decode cX3_thereMany 40 = .ok (.iload_n 1, 1) := by decide +kernel
theorem dX3_thereMany_41 : decode cX3_thereMany 41 = .ok (.ireturn, 1) := by decide +kernel
set_option maxRecDepth 20000 in
theorem ggX3_countOf_X3_livingMany : GoodIn wsX3_countOf wsX3_livingMany := goodIn_r _ [15, 5, 16, 22, 23, 24, 25, 26, 27, 28, 29, 30, 31, 32, 33, 34, 35, 36, 37, 38, 39, 40, 41, 42, 43, 44, 45] (by decide +kernel) (by decide +kernel)
set_option maxRecDepth 20000 in
theorem gX3_countOf_X3_livingMany : GoodIn wsX3_countOf (wsV RX3 190 RX3 yX3_livingMany wsX3_livingMany) := goodIn_app (goodIn_of _ (by decide +kernel)) ggX3_countOf_X3_livingMany
set_option maxRecDepth 20000 in
theorem ggX3_countOf_X3_thereMany : GoodIn wsX3_countOf wsX3_thereMany := goodIn_r _ [20, 6, 21, 22, 23, 24, 25, 26, 27, 28, 29, 30, 31, 32, 33, 34, 35, 36, 37, 38, 39, 40, 41, 42, 43, 44, 45] (by decide +kernel) (by decide +kernel)
set_option maxRecDepth 20000 in
theorem gX3_countOf_X3_thereMany : GoodIn wsX3_countOf (wsV RX3 202 RX3 yX3_thereMany wsX3_thereMany) := goodIn_app (goodIn_of _ (by decide +kernel)) ggX3_countOf_X3_thereMany
theorem dX3_countOf_0 : decode cX3_countOf 0 = .ok (.iload_n 1, 1) := by decide +kernel
theorem dX3_countOf_1 : decode cX3_countOf 1 = .ok (.tableswitch 123 0 11 #[63, 68, 73, 78, 83, 88, 93, 98, 103, 108, 113, 118], 63) := by decide +kernel
theorem dX3_countOf_64 : decode cX3_countOf 64 = .ok (.aload_n 0, 1) := by decide +kernel
theorem dX3_countOf_65 : decode cX3_countOf 65 = .ok (.getfield 34, 3) := by decide +kernel
theorem dX3_countOf_68 : decode cX3_countOf 68 = .ok (.ireturn, 1) := by decide +kernel
theorem dX3_countOf_69 : decode cX3_countOf 69 = .ok (.aload_n 0, 1) := by decide +kernel
theorem dX3_countOf_70 : decode cX3_countOf 70 = .ok (.getfield 38, 3) := by decide +kernel
theorem dX3_countOf_73 : decode cX3_countOf 73 = .ok (.ireturn, 1) := by decide +kernel
theorem dX3_countOf_74 : decode cX3_countOf 74 = .ok (.aload_n 0, 1) := by decide +kernel
theorem dX3_countOf_75 : decode cX3_countOf 75 = .ok (.getfield 41, 3) := by decide +kernel
theorem dX3_countOf_78 : decode cX3_countOf 78 = .ok (.ireturn, 1) := by decide +kernel
theorem dX3_countOf_79 : decode cX3_countOf 79 = .ok (.aload_n 0, 1) := by decide +kernel
theorem dX3_countOf_80 : decode cX3_countOf 80 = .ok (.getfield 70, 3) := by decide +kernel
theorem dX3_countOf_83 : decode cX3_countOf 83 = .ok (.ireturn, 1) := by decide +kernel
theorem dX3_countOf_84 : decode cX3_countOf 84 = .ok (.aload_n 0, 1) := by decide +kernel
theorem dX3_countOf_85 : decode cX3_countOf 85 = .ok (.getfield 76, 3) := by decide +kernel
theorem dX3_countOf_88 : decode cX3_countOf 88 = .ok (.ireturn, 1) := by decide +kernel
theorem dX3_countOf_89 : decode cX3_countOf 89 = .ok (.aload_n 0, 1) := by decide +kernel
theorem dX3_countOf_90 : decode cX3_countOf 90 = .ok (.invokevirtual 190, 3) := by decide +kernel
theorem dX3_countOf_93 : decode cX3_countOf 93 = .ok (.ireturn, 1) := by decide +kernel
theorem dX3_countOf_94 : decode cX3_countOf 94 = .ok (.aload_n 0, 1) := by decide +kernel
theorem dX3_countOf_95 : decode cX3_countOf 95 = .ok (.getfield 79, 3) := by decide +kernel
theorem dX3_countOf_98 : decode cX3_countOf 98 = .ok (.ireturn, 1) := by decide +kernel
theorem dX3_countOf_99 : decode cX3_countOf 99 = .ok (.aload_n 0, 1) := by decide +kernel
theorem dX3_countOf_100 : decode cX3_countOf 100 = .ok (.invokevirtual 202, 3) := by decide +kernel
theorem dX3_countOf_103 : decode cX3_countOf 103 = .ok (.ireturn, 1) := by decide +kernel
theorem dX3_countOf_104 : decode cX3_countOf 104 = .ok (.aload_n 0, 1) := by decide +kernel
theorem dX3_countOf_105 : decode cX3_countOf 105 = .ok (.getfield 104, 3) := by decide +kernel
theorem dX3_countOf_108 : decode cX3_countOf 108 = .ok (.ireturn, 1) := by decide +kernel
theorem dX3_countOf_109 : decode cX3_countOf 109 = .ok (.aload_n 0, 1) := by decide +kernel
theorem dX3_countOf_110 : decode cX3_countOf 110 = .ok (.getfield 142, 3) := by decide +kernel
theorem dX3_countOf_113 : decode cX3_countOf 113 = .ok (.ireturn, 1) := by decide +kernel
theorem dX3_countOf_114 : decode cX3_countOf 114 = .ok (.aload_n 0, 1) := by decide +kernel
theorem dX3_countOf_115 : decode cX3_countOf 115 = .ok (.getfield 53, 3) := by decide +kernel
theorem dX3_countOf_118 : decode cX3_countOf 118 = .ok (.ireturn, 1) := by decide +kernel
theorem dX3_countOf_119 : decode cX3_countOf 119 = .ok (.aload_n 0, 1) := by decide +kernel
theorem dX3_countOf_120 : decode cX3_countOf 120 = .ok (.getfield 73, 3) := by decide +kernel
theorem dX3_countOf_123 : decode cX3_countOf 123 = .ok (.ireturn, 1) := by decide +kernel
theorem dX3_countOf_124 : decode cX3_countOf 124 = .ok (.bipush (-102), 2) := by decide +kernel
theorem dX3_countOf_126 : decode cX3_countOf 126 = .ok (.ireturn, 1) := by decide +kernel
set_option maxRecDepth 20000 in
theorem ggX3_count_X3_countOf : GoodIn wsX3_count wsX3_countOf := goodIn_r _ [5, 6, 7, 8, 9, 10, 11, 12, 13, 14, 15, 16, 17, 18, 4, 19, 20, 21, 22, 23, 24, 25, 26, 27, 28, 29, 30, 31, 32, 33, 34, 35, 36, 37, 38, 39, 40, 41, 42, 43, 44, 45, 46, 47, 48, 49] (by decide +kernel) (by decide +kernel)
set_option maxRecDepth 20000 in
theorem gX3_count_X3_countOf : GoodIn wsX3_count (wsV RX3 205 RX3 yX3_countOf wsX3_countOf) := goodIn_app (goodIn_of _ (by decide +kernel)) ggX3_count_X3_countOf
theorem dX3_count_0 : decode cX3_count 0 = .ok (.aload_n 0, 1) := by decide +kernel
theorem dX3_count_1 : decode cX3_count 1 = .ok (.iload_n 1, 1) := by decide +kernel
theorem dX3_count_2 : decode cX3_count 2 = .ok (.invokevirtual 205, 3) := by decide +kernel
theorem dX3_count_5 : decode cX3_count 5 = .ok (.ireturn, 1) := by decide +kernel
theorem dX3_say_0 : decode cX3_say 0 = .ok (.aload_n 0, 1) := by decide +kernel
theorem dX3_say_1 : decode cX3_say 1 = .ok (.ldc2_w 208, 3) := by decide +kernel
theorem dX3_say_4 : decode cX3_say 4 = .ok (.aload_n 0, 1) := by decide +kernel
theorem dX3_say_5 : decode cX3_say 5 = .ok (.getfield 210, 3) := by decide +kernel
theorem dX3_say_8 : decode cX3_say 8 = .ok (.lmul, 1) := by decide +kernel
theorem dX3_say_9 : decode cX3_say 9 = .ok (.lload_n 1, 1) := by decide +kernel
theorem dX3_say_10 : decode cX3_say 10 = .ok (.ladd, 1) := by decide +kernel
theorem dX3_say_11 : decode cX3_say 11 = .ok (.putfield 210, 3) := by decide +kernel
theorem dX3_say_14 : decode cX3_say 14 = .ok (.return_, 1) := by decide +kernel
set_option maxRecDepth 20000 in
theorem ggX3_digest_X3_tell : GoodIn wsX3_digest wsX3_tell := goodIn_r _ [12, 13, 14, 15, 16, 17, 11, 18, 4, 5, 19, 20, 21, 22, 23, 24, 25, 26, 27, 28, 29, 30, 31, 32, 33, 34, 35, 36, 37, 38, 39, 40, 41, 42, 43, 44, 45, 46, 47, 48, 49, 50, 51, 52, 53, 54, 96, 97, 98, 99, 100, 101, 102, 103, 104, 105, 106, 107, 108, 109, 110, 111, 112, 113, 114, 115, 116, 117, 118, 119] (by decide +kernel) (by decide +kernel)
set_option maxRecDepth 20000 in
theorem gX3_digest_X3_tell : GoodIn wsX3_digest (wsV RX3 120 RX3 yX3_tell wsX3_tell) := goodIn_app (goodIn_of _ (by decide +kernel)) ggX3_digest_X3_tell
set_option maxRecDepth 20000 in
theorem ggX3_digest_X3_say : GoodIn wsX3_digest wsX3_say := goodIn_r _ [58, 59, 2, 96, 97, 98, 99, 100, 101, 102, 103, 104, 105, 106, 107, 108, 109, 110, 111, 112, 113, 114, 115, 116, 117, 118, 119] (by decide +kernel) (by decide +kernel)
set_option maxRecDepth 20000 in
theorem gX3_digest_X3_say : GoodIn wsX3_digest (wsV RX3 216 RX3 yX3_say wsX3_say) := goodIn_app (goodIn_of _ (by decide +kernel)) ggX3_digest_X3_say
set_option maxRecDepth 20000 in
theorem ggX3_digest_X3_lives : GoodIn wsX3_digest wsX3_lives := goodIn_r _ [37, 13, 96, 97, 98, 99, 100, 101, 102, 103, 104, 105, 106, 107, 108, 109, 110, 111, 112, 113, 114, 115, 116, 117, 118, 119] (by decide +kernel) (by decide +kernel)
set_option maxRecDepth 20000 in
theorem gX3_digest_X3_lives : GoodIn wsX3_digest (wsV RX3 110 RX3 yX3_lives wsX3_lives) := goodIn_app (goodIn_of _ (by decide +kernel)) ggX3_digest_X3_lives
set_option maxRecDepth 20000 in
theorem ggX3_digest_X3_safeOf : GoodIn wsX3_digest wsX3_safeOf := goodIn_r _ [63, 14, 15, 16, 17, 11, 18, 4, 5, 19, 20, 21, 22, 23, 64, 65, 66, 38, 39, 40, 41, 42, 43, 44, 45, 24, 25, 26, 27, 13, 28, 29, 30, 31, 32, 33, 46, 47, 48, 49, 50, 51, 52, 53, 54, 96, 97, 98, 99, 100, 101, 102, 103, 104, 105, 106, 107, 108, 109, 110, 111, 112, 113, 114, 115, 116, 117, 118, 119] (by decide +kernel) (by decide +kernel)
set_option maxRecDepth 20000 in
theorem gX3_digest_X3_safeOf : GoodIn wsX3_digest (wsV RX3 148 RX3 yX3_safeOf wsX3_safeOf) := goodIn_app (goodIn_of _ (by decide +kernel)) ggX3_digest_X3_safeOf
set_option maxRecDepth 20000 in
theorem ggX3_digest_X3_givingOf : GoodIn wsX3_digest wsX3_givingOf := goodIn_r _ [70, 15, 16, 17, 11, 18, 4, 5, 71, 72, 73, 74, 13, 14, 23, 19, 20, 21, 22, 38, 39, 40, 41, 42, 43, 44, 45, 24, 25, 26, 27, 28, 29, 30, 31, 32, 33, 46, 47, 48, 49, 50, 51, 52, 53, 54, 64, 65, 66, 96, 97, 98, 99, 100, 101, 102, 103, 104, 105, 106, 107, 108, 109, 110, 111, 112, 113, 114, 115, 116, 117, 118, 119] (by decide +kernel) (by decide +kernel)
set_option maxRecDepth 20000 in
theorem gX3_digest_X3_givingOf : GoodIn wsX3_digest (wsV RX3 155 RX3 yX3_givingOf wsX3_givingOf) := goodIn_app (goodIn_of _ (by decide +kernel)) ggX3_digest_X3_givingOf
set_option maxRecDepth 20000 in
theorem ggX3_digest_X3_meanOf : GoodIn wsX3_digest wsX3_meanOf := goodIn_r _ [78, 67, 68, 69, 11, 70, 15, 16, 17, 18, 4, 5, 71, 72, 73, 74, 13, 14, 23, 19, 20, 21, 22, 38, 39, 40, 41, 42, 43, 44, 45, 24, 25, 26, 27, 28, 29, 30, 31, 32, 33, 46, 47, 48, 49, 50, 51, 52, 53, 54, 64, 65, 66, 79, 80, 81, 96, 97, 98, 99, 100, 101, 102, 103, 104, 105, 106, 107, 108, 109, 110, 111, 112, 113, 114, 115, 116, 117, 118, 119] (by decide +kernel) (by decide +kernel)
set_option maxRecDepth 20000 in
theorem gX3_digest_X3_meanOf : GoodIn wsX3_digest (wsV RX3 161 RX3 yX3_meanOf wsX3_meanOf) := goodIn_app (goodIn_of _ (by decide +kernel)) ggX3_digest_X3_meanOf
set_option maxRecDepth 20000 in
theorem ggX3_digest_X3_countOf : GoodIn wsX3_digest wsX3_countOf := goodIn_r _ [85, 28, 33, 23, 50, 3, 4, 14, 86, 6, 87, 88, 89, 90, 11, 91, 13, 92, 93, 94, 95, 5, 96, 97, 98, 99, 100, 101, 102, 103, 104, 105, 106, 107, 108, 109, 110, 111, 112, 113, 114, 115, 116, 117, 118, 119] (by decide +kernel) (by decide +kernel)
set_option maxRecDepth 20000 in
theorem gX3_digest_X3_countOf : GoodIn wsX3_digest (wsV RX3 205 RX3 yX3_countOf wsX3_countOf) := goodIn_app (goodIn_of _ (by decide +kernel)) ggX3_digest_X3_countOf
theorem dX3_digest_0 : decode cX3_digest 0 = .ok (.aload_n 0, 1) := by decide +kernel
theorem dX3_digest_1 : decode cX3_digest 1 = .ok (.ldc2_w 214, 3) := by decide +kernel
theorem dX3_digest_4 : decode cX3_digest 4 = .ok (.putfield 210, 3) := by decide +kernel
theorem dX3_digest_7 : decode cX3_digest 7 = .ok (.iconst 0, 1) := by decide +kernel
theorem dX3_digest_8 : decode cX3_digest 8 = .ok (.istore_n 1, 1) := by decide +kernel
theorem dX3_digest_9 : decode cX3_digest 9 = .ok (.iload_n 1, 1) := by decide +kernel
theorem dX3_digest_10 : decode cX3_digest 10 = .ok (.aload_n 0, 1) := by decide +kernel
theorem dX3_digest_11 : decode cX3_digest 11 = .ok (.getfield 76, 3) := by decide +kernel
theorem dX3_digest_14 : decode cX3_digest 14 = .ok (.if_icmp .ge 99, 3) := by decide +kernel
theorem dX3_digest_17 : decode cX3_digest 17 = .ok (.iconst 0, 1) := by decide +kernel
theorem dX3_digest_18 : decode cX3_digest 18 = .ok (.istore_n 2, 1) := by decide +kernel
theorem dX3_digest_19 : decode cX3_digest 19 = .ok (.iload_n 2, 1) := by decide +kernel
theorem dX3_digest_20 : decode cX3_digest 20 = .ok (.bipush 9, 2) := by decide +kernel
theorem dX3_digest_22 : decode cX3_digest 22 = .ok (.if_icmp .ge 20, 3) := by decide +kernel
theorem dX3_digest_25 : decode cX3_digest 25 = .ok (.aload_n 0, 1) := by decide +kernel
theorem dX3_digest_26 : decode cX3_digest 26 = .ok (.aload_n 0, 1) := by decide +kernel
theorem dX3_digest_27 : decode cX3_digest 27 = .ok (.iload_n 1, 1) := by decide +kernel
theorem dX3_digest_28 : decode cX3_digest 28 = .ok (.iload_n 2, 1) := by decide +kernel
theorem dX3_digest_29 : decode cX3_digest 29 = .ok (.invokevirtual 120, 3) := by decide +kernel
theorem dX3_digest_32 : decode cX3_digest 32 = .ok (.i2l, 1) := by decide +kernel
theorem dX3_digest_33 : decode cX3_digest 33 = .ok (.invokevirtual 216, 3) := by decide +kernel
theorem dX3_digest_36 : decode cX3_digest 36 = .ok (.iinc 2 1, 3) := by decide +kernel
theorem dX3_digest_39 : decode cX3_digest 39 = .ok (.goto (-20), 3) := by decide +kernel
theorem dX3_digest_42 : decode cX3_digest 42 = .ok (.aload_n 0, 1) := by decide +kernel
theorem dX3_digest_43 : decode cX3_digest 43 = .ok (.iload_n 1, 1) := by decide +kernel
theorem dX3_digest_44 : decode cX3_digest 44 = .ok (.invokevirtual 110, 3) := by decide +kernel
theorem dX3_digest_47 : decode cX3_digest 47 = .ok (.ifCond .eq 60, 3) := by decide +kernel
theorem dX3_digest_50 : decode cX3_digest 50 = .ok (.aload_n 0, 1) := by decide +kernel
theorem dX3_digest_51 : decode cX3_digest 51 = .ok (.aload_n 0, 1) := by decide +kernel
theorem dX3_digest_52 : decode cX3_digest 52 = .ok (.iload_n 1, 1) := by decide +kernel
theorem dX3_digest_53 : decode cX3_digest 53 = .ok (.iconst 0, 1) := by decide +kernel
theorem dX3_digest_54 : decode cX3_digest 54 = .ok (.invokevirtual 148, 3) := by decide +kernel
theorem dX3_digest_57 : decode cX3_digest 57 = .ok (.i2l, 1) := by decide +kernel
theorem dX3_digest_58 : decode cX3_digest 58 = .ok (.invokevirtual 216, 3) := by decide +kernel
theorem dX3_digest_61 : decode cX3_digest 61 = .ok (.aload_n 0, 1) := by decide +kernel
theorem dX3_digest_62 : decode cX3_digest 62 = .ok (.aload_n 0, 1) := by decide +kernel
theorem dX3_digest_63 : decode cX3_digest 63 = .ok (.iload_n 1, 1) := by decide +kernel
theorem dX3_digest_64 : decode cX3_digest 64 = .ok (.iconst 1, 1) := by decide +kernel
theorem dX3_digest_65 : decode cX3_digest 65 = .ok (.invokevirtual 148, 3) := by decide +kernel
theorem dX3_digest_68 : decode cX3_digest 68 = .ok (.i2l, 1) := by decide +kernel
theorem dX3_digest_69 : decode cX3_digest 69 = .ok (.invokevirtual 216, 3) := by decide +kernel
theorem dX3_digest_72 : decode cX3_digest 72 = .ok (.aload_n 0, 1) := by decide +kernel
theorem dX3_digest_73 : decode cX3_digest 73 = .ok (.aload_n 0, 1) := by decide +kernel
theorem dX3_digest_74 : decode cX3_digest 74 = .ok (.iload_n 1, 1) := by decide +kernel
theorem dX3_digest_75 : decode cX3_digest 75 = .ok (.iconst 2, 1) := by decide +kernel
theorem dX3_digest_76 : decode cX3_digest 76 = .ok (.invokevirtual 155, 3) := by decide +kernel
theorem dX3_digest_79 : decode cX3_digest 79 = .ok (.i2l, 1) := by decide +kernel
theorem dX3_digest_80 : decode cX3_digest 80 = .ok (.invokevirtual 216, 3) := by decide +kernel
theorem dX3_digest_83 : decode cX3_digest 83 = .ok (.aload_n 0, 1) := by decide +kernel
theorem dX3_digest_84 : decode cX3_digest 84 = .ok (.aload_n 0, 1) := by decide +kernel
theorem dX3_digest_85 : decode cX3_digest 85 = .ok (.iload_n 1, 1) := by decide +kernel
theorem dX3_digest_86 : decode cX3_digest 86 = .ok (.iconst 2, 1) := by decide +kernel
theorem dX3_digest_87 : decode cX3_digest 87 = .ok (.iconst 0, 1) := by decide +kernel
theorem dX3_digest_88 : decode cX3_digest 88 = .ok (.invokevirtual 161, 3) := by decide +kernel
theorem dX3_digest_91 : decode cX3_digest 91 = .ok (.i2l, 1) := by decide +kernel
theorem dX3_digest_92 : decode cX3_digest 92 = .ok (.invokevirtual 216, 3) := by decide +kernel
theorem dX3_digest_95 : decode cX3_digest 95 = .ok (.aload_n 0, 1) := by decide +kernel
theorem dX3_digest_96 : decode cX3_digest 96 = .ok (.aload_n 0, 1) := by decide +kernel
theorem dX3_digest_97 : decode cX3_digest 97 = .ok (.iload_n 1, 1) := by decide +kernel
theorem dX3_digest_98 : decode cX3_digest 98 = .ok (.iconst 2, 1) := by decide +kernel
theorem dX3_digest_99 : decode cX3_digest 99 = .ok (.iconst 1, 1) := by decide +kernel
theorem dX3_digest_100 : decode cX3_digest 100 = .ok (.invokevirtual 161, 3) := by decide +kernel
theorem dX3_digest_103 : decode cX3_digest 103 = .ok (.i2l, 1) := by decide +kernel
theorem dX3_digest_104 : decode cX3_digest 104 = .ok (.invokevirtual 216, 3) := by decide +kernel
theorem dX3_digest_107 : decode cX3_digest 107 = .ok (.iinc 1 1, 3) := by decide +kernel
theorem dX3_digest_110 : decode cX3_digest 110 = .ok (.goto (-101), 3) := by decide +kernel
theorem dX3_digest_113 : decode cX3_digest 113 = .ok (.iconst 0, 1) := by decide +kernel
theorem dX3_digest_114 : decode cX3_digest 114 = .ok (.istore_n 1, 1) := by decide +kernel
theorem dX3_digest_115 : decode cX3_digest 115 = .ok (.iload_n 1, 1) := by decide +kernel
theorem dX3_digest_116 : decode cX3_digest 116 = .ok (.aload_n 0, 1) := by decide +kernel
theorem dX3_digest_117 : decode cX3_digest 117 = .ok (.getfield 79, 3) := by decide +kernel
theorem dX3_digest_120 : decode cX3_digest 120 = .ok (.if_icmp .ge 37, 3) := by decide +kernel
theorem dX3_digest_123 : decode cX3_digest 123 = .ok (.iconst 0, 1) := by decide +kernel
theorem dX3_digest_124 : decode cX3_digest 124 = .ok (.istore_n 2, 1) := by decide +kernel
theorem dX3_digest_125 : decode cX3_digest 125 = .ok (.iload_n 2, 1) := by decide +kernel
theorem dX3_digest_126 : decode cX3_digest 126 = .ok (.iconst 5, 1) := by decide +kernel
theorem dX3_digest_127 : decode cX3_digest 127 = .ok (.if_icmp .ge 24, 3) := by decide +kernel
theorem dX3_digest_130 : decode cX3_digest 130 = .ok (.aload_n 0, 1) := by decide +kernel
theorem dX3_digest_131 : decode cX3_digest 131 = .ok (.aload_n 0, 1) := by decide +kernel
theorem dX3_digest_132 : decode cX3_digest 132 = .ok (.getfield 16, 3) := by decide +kernel
theorem dX3_digest_135 : decode cX3_digest 135 = .ok (.iconst 5, 1) := by decide +kernel
theorem dX3_digest_136 : decode cX3_digest 136 = .ok (.iload_n 1, 1) := by decide +kernel
theorem dX3_digest_137 : decode cX3_digest 137 = .ok (.imul, 1) := by decide +kernel
theorem dX3_digest_138 : decode cX3_digest 138 = .ok (.iload_n 2, 1) := by decide +kernel
theorem dX3_digest_139 : decode cX3_digest 139 = .ok (.iadd, 1) := by decide +kernel
theorem dX3_digest_140 : decode cX3_digest 140 = .ok (.iaload, 1) := by decide +kernel
theorem dX3_digest_141 : decode cX3_digest 141 = .ok (.i2l, 1) := by decide +kernel
theorem dX3_digest_142 : decode cX3_digest 142 = .ok (.invokevirtual 216, 3) := by decide +kernel
theorem dX3_digest_145 : decode cX3_digest 145 = .ok (.iinc 2 1, 3) := by decide +kernel
theorem dX3_digest_148 : decode cX3_digest 148 = .ok (.goto (-23), 3) := by decide +kernel
theorem dX3_digest_151 : decode cX3_digest 151 = .ok (.iinc 1 1, 3) := by decide +kernel
theorem dX3_digest_154 : decode cX3_digest 154 = .ok (.goto (-39), 3) := by decide +kernel
theorem dX3_digest_157 : decode cX3_digest 157 = .ok (.iconst 0, 1) := by decide +kernel
theorem dX3_digest_158 : decode cX3_digest 158 = .ok (.istore_n 1, 1) := by decide +kernel
theorem dX3_digest_159 : decode cX3_digest 159 = .ok (.iload_n 1, 1) := by decide +kernel
theorem dX3_digest_160 : decode cX3_digest 160 = .ok (.aload_n 0, 1) := by decide +kernel
theorem dX3_digest_161 : decode cX3_digest 161 = .ok (.getfield 53, 3) := by decide +kernel
theorem dX3_digest_164 : decode cX3_digest 164 = .ok (.if_icmp .ge 20, 3) := by decide +kernel
theorem dX3_digest_167 : decode cX3_digest 167 = .ok (.aload_n 0, 1) := by decide +kernel
theorem dX3_digest_168 : decode cX3_digest 168 = .ok (.aload_n 0, 1) := by decide +kernel
theorem dX3_digest_169 : decode cX3_digest 169 = .ok (.getfield 7, 3) := by decide +kernel
theorem dX3_digest_172 : decode cX3_digest 172 = .ok (.iload_n 1, 1) := by decide +kernel
theorem dX3_digest_173 : decode cX3_digest 173 = .ok (.iaload, 1) := by decide +kernel
theorem dX3_digest_174 : decode cX3_digest 174 = .ok (.i2l, 1) := by decide +kernel
theorem dX3_digest_175 : decode cX3_digest 175 = .ok (.invokevirtual 216, 3) := by decide +kernel
theorem dX3_digest_178 : decode cX3_digest 178 = .ok (.iinc 1 1, 3) := by decide +kernel
theorem dX3_digest_181 : decode cX3_digest 181 = .ok (.goto (-22), 3) := by decide +kernel
theorem dX3_digest_184 : decode cX3_digest 184 = .ok (.iconst 0, 1) := by decide +kernel
theorem dX3_digest_185 : decode cX3_digest 185 = .ok (.istore_n 1, 1) := by decide +kernel
theorem dX3_digest_186 : decode cX3_digest 186 = .ok (.iload_n 1, 1) := by decide +kernel
theorem dX3_digest_187 : decode cX3_digest 187 = .ok (.bipush 12, 2) := by decide +kernel
theorem dX3_digest_189 : decode cX3_digest 189 = .ok (.if_icmp .ge 19, 3) := by decide +kernel
theorem dX3_digest_192 : decode cX3_digest 192 = .ok (.aload_n 0, 1) := by decide +kernel
theorem dX3_digest_193 : decode cX3_digest 193 = .ok (.aload_n 0, 1) := by decide +kernel
theorem dX3_digest_194 : decode cX3_digest 194 = .ok (.iload_n 1, 1) := by decide +kernel
theorem dX3_digest_195 : decode cX3_digest 195 = .ok (.invokevirtual 205, 3) := by decide +kernel
theorem dX3_digest_198 : decode cX3_digest 198 = .ok (.i2l, 1) := by decide +kernel
theorem dX3_digest_199 : decode cX3_digest 199 = .ok (.invokevirtual 216, 3) := by decide +kernel
theorem dX3_digest_202 : decode cX3_digest 202 = .ok (.iinc 1 1, 3) := by decide +kernel
theorem dX3_digest_205 : decode cX3_digest 205 = .ok (.goto (-19), 3) := by decide +kernel
theorem dX3_digest_208 : decode cX3_digest 208 = .ok (.aload_n 0, 1) := by decide +kernel
theorem dX3_digest_209 : decode cX3_digest 209 = .ok (.getfield 210, 3) := by decide +kernel
theorem dX3_digest_212 : decode cX3_digest 212 = .ok (.lreturn, 1) := by decide +kernel
end
section
/-! ===== base: own rows over the kit (pure calls, answers in numbers, truth values) ===== -/
noncomputable def zb (P : Prop) : Int32 := @ite _ P (Classical.propDecidable P) 1 0
theorem zb_t {P : Prop} (h : P) : zb P = 1 := by unfold zb; rw [if_pos h]
theorem zb_f {P : Prop} (h : ¬ P) : zb P = 0 := by unfold zb; rw [if_neg h]
theorem zb_0 {P : Prop} : zb P = 0 ↔ ¬ P := by
  constructor
  · intro h hp
    rw [zb_t hp] at h
    exact absurd h (by decide)
  · exact zb_f
theorem zb_1 {P : Prop} : zb P = 1 ↔ P := by
  constructor
  · intro h
    refine Classical.byContradiction fun hp => ?_
    rw [zb_f hp] at h
    exact absurd h (by decide)
  · exact zb_t
theorem zb_iff {P R : Prop} (h : P ↔ R) : zb P = zb R := by rw [propext h]
theorem zb_cases (P : Prop) : (zb P = 0 ∨ zb P = 1) := by
  by_cases h : P
  · exact Or.inr (zb_t h)
  · exact Or.inl (zb_f h)
theorem z_nz {v : Int32} (h : v = 0 ∨ v = 1) : narrow .boolean (.int v) = .int v := by rcases h with rfl | rfl <;> rfl
theorem z_vpb {v : Int32} (h : v = 0 ∨ v = 1) : vp_nar .boolean v = v := by rcases h with rfl | rfl <;> rfl
section ZA
variable {p : Program} {l : Launch} {e : Env} {R : Room} {s : State} {m : MethodId} {args : Array Value} {below : List Frame} {meth : Method} {c : Code} {H : Heap} {locs : List Loc} {cells slots : Nat} {Q : State → Prop}
variable {cc : ByteArray} {pc : Nat} {ls : Array Slot} {rest : List Value}
theorem z_iadd (hexec : p.tables.exec = Jvm.exec) (hb : c.code = cc) {x y v : Int32} (hdg : decode cc pc = .ok (.iadd, 1)) (hv : x + y = v)
    (k : W p l e R s m args below meth c H locs cells slots Q (F0 m (pc + 1) ls (.int v :: rest))) : W p l e R s m args below meth c H locs cells slots Q (F0 m pc ls (.int y :: .int x :: rest)) := by subst hv; exact lv_iadd hexec hb hdg k
theorem z_isub (hexec : p.tables.exec = Jvm.exec) (hb : c.code = cc) {x y v : Int32} (hdg : decode cc pc = .ok (.isub, 1)) (hv : x - y = v)
    (k : W p l e R s m args below meth c H locs cells slots Q (F0 m (pc + 1) ls (.int v :: rest))) : W p l e R s m args below meth c H locs cells slots Q (F0 m pc ls (.int y :: .int x :: rest)) := by subst hv; exact lv_isub hexec hb hdg k
theorem z_imul (hexec : p.tables.exec = Jvm.exec) (hb : c.code = cc) {x y v : Int32} (hdg : decode cc pc = .ok (.imul, 1)) (hv : x * y = v)
    (k : W p l e R s m args below meth c H locs cells slots Q (F0 m (pc + 1) ls (.int v :: rest))) : W p l e R s m args below meth c H locs cells slots Q (F0 m pc ls (.int y :: .int x :: rest)) := by subst hv; exact lv_imul hexec hb hdg k
theorem z_iand (hexec : p.tables.exec = Jvm.exec) (hb : c.code = cc) {x y v : Int32} (hdg : decode cc pc = .ok (.iand, 1)) (hv : x &&& y = v)
    (k : W p l e R s m args below meth c H locs cells slots Q (F0 m (pc + 1) ls (.int v :: rest))) : W p l e R s m args below meth c H locs cells slots Q (F0 m pc ls (.int y :: .int x :: rest)) := by subst hv; exact lv_iand hexec hb hdg k
theorem z_ior (hexec : p.tables.exec = Jvm.exec) (hb : c.code = cc) {x y v : Int32} (hdg : decode cc pc = .ok (.ior, 1)) (hv : x ||| y = v)
    (k : W p l e R s m args below meth c H locs cells slots Q (F0 m (pc + 1) ls (.int v :: rest))) : W p l e R s m args below meth c H locs cells slots Q (F0 m pc ls (.int y :: .int x :: rest)) := by subst hv; exact lv_ior hexec hb hdg k
theorem z_ixor (hexec : p.tables.exec = Jvm.exec) (hb : c.code = cc) {x y v : Int32} (hdg : decode cc pc = .ok (.ixor, 1)) (hv : x ^^^ y = v)
    (k : W p l e R s m args below meth c H locs cells slots Q (F0 m (pc + 1) ls (.int v :: rest))) : W p l e R s m args below meth c H locs cells slots Q (F0 m pc ls (.int y :: .int x :: rest)) := by subst hv; exact lv_ixor hexec hb hdg k
theorem z_ishl (hexec : p.tables.exec = Jvm.exec) (hb : c.code = cc) {x y v : Int32} (hdg : decode cc pc = .ok (.ishl, 1)) (hv : x <<< (y &&& 31) = v)
    (k : W p l e R s m args below meth c H locs cells slots Q (F0 m (pc + 1) ls (.int v :: rest))) : W p l e R s m args below meth c H locs cells slots Q (F0 m pc ls (.int y :: .int x :: rest)) := by subst hv; exact lv_ishl hexec hb hdg k
theorem z_ishr (hexec : p.tables.exec = Jvm.exec) (hb : c.code = cc) {x y v : Int32} (hdg : decode cc pc = .ok (.ishr, 1)) (hv : x >>> (y &&& 31) = v)
    (k : W p l e R s m args below meth c H locs cells slots Q (F0 m (pc + 1) ls (.int v :: rest))) : W p l e R s m args below meth c H locs cells slots Q (F0 m pc ls (.int y :: .int x :: rest)) := by subst hv; exact lv_ishr hexec hb hdg k
theorem z_idiv (hexec : p.tables.exec = Jvm.exec) (hb : c.code = cc) {x y v : Int32} (hdg : decode cc pc = .ok (.idiv, 1)) (hne : ¬ y = 0) (hv : x / y = v)
    (k : W p l e R s m args below meth c H locs cells slots Q (F0 m (pc + 1) ls (.int v :: rest))) : W p l e R s m args below meth c H locs cells slots Q (F0 m pc ls (.int y :: .int x :: rest)) := by subst hv; exact lv_idiv hexec hb hdg hne k
theorem z_irem (hexec : p.tables.exec = Jvm.exec) (hb : c.code = cc) {x y v : Int32} (hdg : decode cc pc = .ok (.irem, 1)) (hne : ¬ y = 0) (hv : x - x / y * y = v)
    (k : W p l e R s m args below meth c H locs cells slots Q (F0 m (pc + 1) ls (.int v :: rest))) : W p l e R s m args below meth c H locs cells slots Q (F0 m pc ls (.int y :: .int x :: rest)) := by subst hv; exact lv_irem hexec hb hdg hne k
theorem z_topi {x v : Int32} (hv : x = v) (k : W p l e R s m args below meth c H locs cells slots Q (F0 m pc ls (.int v :: rest))) : W p l e R s m args below meth c H locs cells slots Q (F0 m pc ls (.int x :: rest)) := by subst hv; exact k
theorem z_topl {x v : Int64} (hv : x = v) (k : W p l e R s m args below meth c H locs cells slots Q (F0 m pc ls (.long v :: rest))) : W p l e R s m args below meth c H locs cells slots Q (F0 m pc ls (.long x :: rest)) := by subst hv; exact k
/-! branches between numbers -/
theorem z_icmp_ge (hexec : p.tables.exec = Jvm.exec) (hb : c.code = cc) {a b : Nat} {off : Int} {tgt : Nat} (ha : a < 2 ^ 31) (hb2 : b < 2 ^ 31) (hdg : decode cc pc = .ok (.if_icmp .ge off, 3)) (ht : (pc : Int) + off = (tgt : Int))
    (kt : b ≤ a → W p l e R s m args below meth c H locs cells slots Q (F0 m tgt ls rest)) (kf : a < b → W p l e R s m args below meth c H locs cells slots Q (F0 m (pc + 3) ls rest)) : W p l e R s m args below meth c H locs cells slots Q (F0 m pc ls (.int (nI b) :: .int (nI a) :: rest)) :=
  lv_icmp_ge hexec hb hdg ht (fun h => kt ((nI_leI hb2 ha).mp h)) (fun h => kf (Nat.not_le.mp fun q => h ((nI_leI hb2 ha).mpr q)))
theorem z_icmp_lt (hexec : p.tables.exec = Jvm.exec) (hb : c.code = cc) {a b : Nat} {off : Int} {tgt : Nat} (ha : a < 2 ^ 31) (hb2 : b < 2 ^ 31) (hdg : decode cc pc = .ok (.if_icmp .lt off, 3)) (ht : (pc : Int) + off = (tgt : Int))
    (kt : a < b → W p l e R s m args below meth c H locs cells slots Q (F0 m tgt ls rest)) (kf : b ≤ a → W p l e R s m args below meth c H locs cells slots Q (F0 m (pc + 3) ls rest)) : W p l e R s m args below meth c H locs cells slots Q (F0 m pc ls (.int (nI b) :: .int (nI a) :: rest)) :=
  lv_icmp_lt hexec hb hdg ht (fun h => kt ((nI_ltI ha hb2).mp h)) (fun h => kf (Nat.not_lt.mp fun q => h ((nI_ltI ha hb2).mpr q)))
theorem z_icmp_gt (hexec : p.tables.exec = Jvm.exec) (hb : c.code = cc) {a b : Nat} {off : Int} {tgt : Nat} (ha : a < 2 ^ 31) (hb2 : b < 2 ^ 31) (hdg : decode cc pc = .ok (.if_icmp .gt off, 3)) (ht : (pc : Int) + off = (tgt : Int))
    (kt : b < a → W p l e R s m args below meth c H locs cells slots Q (F0 m tgt ls rest)) (kf : a ≤ b → W p l e R s m args below meth c H locs cells slots Q (F0 m (pc + 3) ls rest)) : W p l e R s m args below meth c H locs cells slots Q (F0 m pc ls (.int (nI b) :: .int (nI a) :: rest)) :=
  lv_icmp_gt hexec hb hdg ht (fun h => kt ((nI_ltI hb2 ha).mp h)) (fun h => kf (Nat.not_lt.mp fun q => h ((nI_ltI hb2 ha).mpr q)))
theorem z_icmp_le (hexec : p.tables.exec = Jvm.exec) (hb : c.code = cc) {a b : Nat} {off : Int} {tgt : Nat} (ha : a < 2 ^ 31) (hb2 : b < 2 ^ 31) (hdg : decode cc pc = .ok (.if_icmp .le off, 3)) (ht : (pc : Int) + off = (tgt : Int))
    (kt : a ≤ b → W p l e R s m args below meth c H locs cells slots Q (F0 m tgt ls rest)) (kf : b < a → W p l e R s m args below meth c H locs cells slots Q (F0 m (pc + 3) ls rest)) : W p l e R s m args below meth c H locs cells slots Q (F0 m pc ls (.int (nI b) :: .int (nI a) :: rest)) :=
  lv_icmp_le hexec hb hdg ht (fun h => kt ((nI_leI ha hb2).mp h)) (fun h => kf (Nat.not_le.mp fun q => h ((nI_leI ha hb2).mpr q)))
theorem z_icmp_eq (hexec : p.tables.exec = Jvm.exec) (hb : c.code = cc) {a b : Nat} {off : Int} {tgt : Nat} (ha : a < 2 ^ 31) (hb2 : b < 2 ^ 31) (hdg : decode cc pc = .ok (.if_icmp .eq off, 3)) (ht : (pc : Int) + off = (tgt : Int))
    (kt : a = b → W p l e R s m args below meth c H locs cells slots Q (F0 m tgt ls rest)) (kf : a ≠ b → W p l e R s m args below meth c H locs cells slots Q (F0 m (pc + 3) ls rest)) : W p l e R s m args below meth c H locs cells slots Q (F0 m pc ls (.int (nI b) :: .int (nI a) :: rest)) :=
  lv_icmp_eq hexec hb hdg ht (fun h => kt ((nI_eq ha hb2).mp h)) (fun h => kf (fun q => h ((nI_eq ha hb2).mpr q)))
theorem z_icmp_ne (hexec : p.tables.exec = Jvm.exec) (hb : c.code = cc) {a b : Nat} {off : Int} {tgt : Nat} (ha : a < 2 ^ 31) (hb2 : b < 2 ^ 31) (hdg : decode cc pc = .ok (.if_icmp .ne off, 3)) (ht : (pc : Int) + off = (tgt : Int))
    (kt : a ≠ b → W p l e R s m args below meth c H locs cells slots Q (F0 m tgt ls rest)) (kf : a = b → W p l e R s m args below meth c H locs cells slots Q (F0 m (pc + 3) ls rest)) : W p l e R s m args below meth c H locs cells slots Q (F0 m pc ls (.int (nI b) :: .int (nI a) :: rest)) :=
  lv_icmp_ne hexec hb hdg ht (fun h => kt (fun q => h ((nI_eq ha hb2).mpr q))) (fun h => kf ((nI_eq ha hb2).mp h))
/-! branches on truth values -/
theorem z_ifeq_b (hexec : p.tables.exec = Jvm.exec) (hb : c.code = cc) {P : Prop} {off : Int} {tgt : Nat} (hdg : decode cc pc = .ok (.ifCond .eq off, 3)) (ht : (pc : Int) + off = (tgt : Int))
    (kt : ¬ P → W p l e R s m args below meth c H locs cells slots Q (F0 m tgt ls rest)) (kf : P → W p l e R s m args below meth c H locs cells slots Q (F0 m (pc + 3) ls rest)) : W p l e R s m args below meth c H locs cells slots Q (F0 m pc ls (.int (zb P) :: rest)) :=
  lv_if_eq hexec hb hdg ht (fun h => kt (zb_0.mp h)) (fun h => kf (Classical.byContradiction fun q => h (zb_f q)))
theorem z_ifne_b (hexec : p.tables.exec = Jvm.exec) (hb : c.code = cc) {P : Prop} {off : Int} {tgt : Nat} (hdg : decode cc pc = .ok (.ifCond .ne off, 3)) (ht : (pc : Int) + off = (tgt : Int))
    (kt : P → W p l e R s m args below meth c H locs cells slots Q (F0 m tgt ls rest)) (kf : ¬ P → W p l e R s m args below meth c H locs cells slots Q (F0 m (pc + 3) ls rest)) : W p l e R s m args below meth c H locs cells slots Q (F0 m pc ls (.int (zb P) :: rest)) :=
  lv_if_ne hexec hb hdg ht (fun h => kt (Classical.byContradiction fun q => h (zb_f q))) (fun h => kf (zb_0.mp h))
end ZA
/-! worlds: arrays by numbers -/
section ZB
variable {p : Program} {l : Launch} {e : Env} {R : Room} {s : State} {m : MethodId} {args : Array Value} {below : List Frame} {meth : Method} {c : Code} {H : Heap} {locs : List Loc} {cells slots : Nat} {Q : State → Prop}
variable {cc : ByteArray} {pc : Nat} {ls : Array Slot} {rest : List Value} {D : va_G} {cl : List vw_C} {A : Nat → Prop} {a : Nat} {tys : List (ClassId × FieldType)} {ws : va_W} {H0 : Heap}
theorem z_iald (hexec : p.tables.exec = Jvm.exec) (hb : c.code = cc) (hK : va_K D cl tys s) (hP : va_P D cl ws H) (q0 t0 : Nat) {cA : ClassId} {n : Nat} {f : Nat → Int32} (ha : ws[q0]? = some (a, .inl (cA, n, .inl f))) (ht : tys[t0]? = some (cA, .int)) {i : Int32} (j : Nat) (hi : i = nI j) (hj : j < n) (hn : n < 2 ^ 31) {v : Int32} (hv : f j = v) (hdg : decode cc pc = .ok (.iaload, 1))
    (kk : W p l e R s m args below meth c H locs cells slots Q (F0 m (pc + 1) ls (.int v :: rest))) : W p l e R s m args below meth c H locs cells slots Q (F0 m pc ls (.int i :: .ref a :: rest)) := by
  subst hi
  refine va_iald hexec hb hK hP q0 t0 ha ht (vp_in_nI hj hn) hdg ?_
  rw [nI_clamp (Nat.lt_trans hj hn), hv]
  exact kk
theorem z_zald (hexec : p.tables.exec = Jvm.exec) (hb : c.code = cc) (hK : va_K D cl tys s) (hP : va_P D cl ws H) (q0 t0 : Nat) {cA : ClassId} {n : Nat} {f : Nat → Int32} (ha : ws[q0]? = some (a, .inl (cA, n, .inl f))) (ht : tys[t0]? = some (cA, .boolean)) {i : Int32} (j : Nat) (hi : i = nI j) (hj : j < n) (hn : n < 2 ^ 31) {v : Int32} (hv : f j = v) (hdg : decode cc pc = .ok (.baload, 1))
    (kk : W p l e R s m args below meth c H locs cells slots Q (F0 m (pc + 1) ls (.int v :: rest))) : W p l e R s m args below meth c H locs cells slots Q (F0 m pc ls (.int i :: .ref a :: rest)) := by
  subst hi
  refine va_zald hexec hb hK hP q0 t0 ha ht (vp_in_nI hj hn) hdg ?_
  rw [nI_clamp (Nat.lt_trans hj hn), hv]
  exact kk
theorem z_iast (hexec : p.tables.exec = Jvm.exec) (hb : c.code = cc) (hK : va_K D cl tys s) (hP : va_P D cl ws H) (hD : va_D A ws) (hS : va_S A H0 H locs) (q0 t0 : Nat) {cA : ClassId} {n : Nat} {f : Nat → Int32} (ha : ws[q0]? = some (a, .inl (cA, n, .inl f))) (ht : tys[t0]? = some (cA, .int)) {i : Int32} {x : Int32} (j : Nat) (hi : i = nI j) (hj : j < n) (hn : n < 2 ^ 31) {f' : Nat → Int32} (hv : upd f j x = f') (hdg : decode cc pc = .ok (.iastore, 1))
    (kk : ∀ (H1 : Heap) (locs1 : List Loc), va_P D cl (ws.set q0 (a, .inl (cA, n, .inl f'))) H1 → va_D A (ws.set q0 (a, .inl (cA, n, .inl f'))) → va_S A H0 H1 locs1 → W p l e R s m args below meth c H1 locs1 cells slots Q (F0 m (pc + 1) ls rest)) : W p l e R s m args below meth c H locs cells slots Q (F0 m pc ls (.int x :: .int i :: .ref a :: rest)) := by
  subst hi; subst hv
  refine va_iast hexec hb hK hP hD hS q0 t0 ha ht (vp_in_nI hj hn) hdg ?_
  rw [nI_clamp (Nat.lt_trans hj hn)]
  exact kk
theorem z_zast (hexec : p.tables.exec = Jvm.exec) (hb : c.code = cc) (hK : va_K D cl tys s) (hP : va_P D cl ws H) (hD : va_D A ws) (hS : va_S A H0 H locs) (q0 t0 : Nat) {cA : ClassId} {n : Nat} {f : Nat → Int32} (ha : ws[q0]? = some (a, .inl (cA, n, .inl f))) (ht : tys[t0]? = some (cA, .boolean)) {i : Int32} {x : Int32} (hx01 : x = 0 ∨ x = 1) (j : Nat) (hi : i = nI j) (hj : j < n) (hn : n < 2 ^ 31) {f' : Nat → Int32} (hv : upd f j x = f') (hdg : decode cc pc = .ok (.bastore, 1))
    (kk : ∀ (H1 : Heap) (locs1 : List Loc), va_P D cl (ws.set q0 (a, .inl (cA, n, .inl f'))) H1 → va_D A (ws.set q0 (a, .inl (cA, n, .inl f'))) → va_S A H0 H1 locs1 → W p l e R s m args below meth c H1 locs1 cells slots Q (F0 m (pc + 1) ls rest)) : W p l e R s m args below meth c H locs cells slots Q (F0 m pc ls (.int x :: .int i :: .ref a :: rest)) := by
  subst hi; subst hv
  refine va_zast hexec hb hK hP hD hS q0 t0 ha ht (vp_in_nI hj hn) hdg ?_
  rw [nI_clamp (Nat.lt_trans hj hn), z_vpb hx01]
  exact kk
/-! pure calls: the heap stays -/
variable {y : MethodName} {bytes : ByteArray} {maxL nL n index : Nat} {ret : Option FieldType} {ws2 : List Cond} {rm : Room} {Ts : List Cond} {own C : String} {b : Addr} {As st0 : List Value} {wc : va_W} {tc : List (ClassId × FieldType)} {post : Int32 → Prop}
theorem z_blind {av : List Value} : FrameBlind (va_Pc av (fun U => va_P D cl wc U.heap ∧ va_K D cl tc U)) := fun a U g mk q => ⟨q.1, q.2.1, va_K.moved (u := U) (U := U.calling g mk a) (Vm.Alike.refl U.vm) q.2.2⟩
theorem z_callV (S : CallFix p m c cc nL s args Ts own) (hM : Met l y ws2 rm (va_Pc (Value.ref b :: As) (fun U => va_P D cl wc U.heap ∧ va_K D cl tc U)) (vp_Si post) 0 0 (fun _ => False)) (cw : CallW R s args own C index y bytes maxL ret ws2 rm 0 0 n)
    (hP : va_P D cl wc H) (hK : va_K D cl tc s) (hrec : ∃ cell : Cell, H[b]? = some cell ∧ cell.vm.isStatics = false ∧ s.vm.findClass C = some cell.cls) (hn : As.length = n) (hsz : ls.size = nL) (hst : st0 = As.reverse ++ .ref b :: rest) (hcat : (rest.map fun v => v.category).sum ≤ 8) (hcs : cells ≤ R.cells ∧ slots ≤ R.slots) (hdg : decode cc pc = .ok (.invokevirtual index, 3))
    (kk : ∀ r : Int32, post r → W p l e R s m args below meth c H locs cells slots Q (F0 m (pc + 3) ls (.int r :: rest))) : W p l e R s m args below meth c H locs cells slots Q (F0 m pc ls st0) := by
  intro T hT X
  have hr := va_runV (below := below) (e := e) (meth := meth) (locs := locs) (cells := cells) (slots := slots) (H := H) (g := F0 m pc ls st0) (rest := rest) S hM cw ⟨z_blind, hrec, fun U hU hW => ⟨rfl, by rw [hU]; exact hP, va_K.moved hW.alike hK⟩⟩ rfl hn hsz hst (lv_room hcat) hdg hcs
  obtain ⟨v, st₀, t, T', L, h0, X', hL, e1, e2, ⟨r, hv, hp, hh⟩, st⟩ := hr T hT X
  cases hv
  obtain ⟨t2, a1, b1⟩ := kk r hp T' (by rw [e1, hh, h0]) (Stand.forget X' (fun q h => (hL q h).elim))
  exact ⟨t2, st t2 a1, b1⟩
theorem z_callS (S : CallFix p m c cc nL s args Ts own) (hM : Met l y ws2 rm (va_Pc As (fun _ => True)) (vp_Si post) 0 0 (fun _ => False)) (cw : CallB R s args own index y bytes maxL ret ws2 rm 0 0 n ∧ (Cond.static y).before args s = true)
    (hn : As.length = n) (hsz : ls.size = nL) (hst : st0 = As.reverse ++ rest) (hcat : (rest.map fun v => v.category).sum ≤ 8) (hcs : cells ≤ R.cells ∧ slots ≤ R.slots) (hdg : decode cc pc = .ok (.invokestatic index, 3))
    (kk : ∀ r : Int32, post r → W p l e R s m args below meth c H locs cells slots Q (F0 m (pc + 3) ls (.int r :: rest))) : W p l e R s m args below meth c H locs cells slots Q (F0 m pc ls st0) := by
  intro T hT X
  have hr := va_runS (below := below) (e := e) (meth := meth) (locs := locs) (cells := cells) (slots := slots) (H := H) (g := F0 m pc ls st0) (rest := rest) S hM cw ⟨fun _ _ _ _ q => q, fun U hU hW => ⟨rfl, trivial⟩⟩ rfl hn hsz hst (lv_room hcat) hdg hcs
  obtain ⟨v, st₀, t, T', L, h0, X', hL, e1, e2, ⟨r, hv, hp, hh⟩, st⟩ := hr T hT X
  cases hv
  obtain ⟨t2, a1, b1⟩ := kk r hp T' (by rw [e1, hh, h0]) (Stand.forget X' (fun q h => (hL q h).elim))
  exact ⟨t2, st t2 a1, b1⟩
end ZB
/-! heads of pure methods: an int, a truth value -/
theorem z_pureI {l : Launch} {y : MethodName} {ws ws' : List Cond} {rm : Room} {cc : ByteArray} {maxL : Nat} {av : List Value} {B : State → Prop} {post : Int32 → Prop} (hy : plainName y.cls = true) (hw : ws = Cond.code y cc maxL (some .int) :: ws') (hlen : (lg_sl av).length ≤ maxL)
    (body : ∀ (p : Program) (e : Env) (s : State) (m : MethodId) (below : List Frame) (meth : Method) (c : Code) (Q : State → Prop) (ls : Array Slot), p.tables.exec = Jvm.exec → c.code = cc → c.maxLocals = maxL → s.vm.findClass y.cls = some m.cls → (∀ w ∈ ws, w.before av.toArray s = true) → B s →
      (∀ (v : Int32) (pc : Nat) (ls : Array Slot), decode cc pc = .ok (.ireturn, 1) → post v → W p l e rm s m av.toArray below meth c s.heap [] 0 0 Q (F0 m pc ls [.int v])) →
      lv_has ls maxL (lv_args 0 av) → W p l e rm s m av.toArray below meth c s.heap [] 0 0 Q (F0 m 0 ls [])) : Met l y ws rm (va_Pc av B) (vp_Si post) 0 0 (fun _ => False) := by
  refine Met.ofW (cc := cc) (maxL := maxL) (ret := some .int) hy hw ?_
  intro p e s m args below meth c s₁ Bd hml hv
  obtain ⟨rfl, hB⟩ := hv
  have hts := atoms_spec (ws := ws) Bd.pre
  have hown : s.vm.findClass y.cls = some m.cls := findClass_of_methodNamed Bd.named
  have hl := lv_entry av (n := maxL) hlen
  rw [lg_entry_eq]
  refine body p e s m below meth c _ _ Bd.exec Bd.bytes hml hown hts hB ?_ hl
  intro v pc ls hd hp
  exact W.iret Bd.exec Bd.bytes Bd.returns (fun t ht hW => ⟨v, rfl, hp, ht⟩) (fun q h => by cases h) hd Bd.notSynchronized
theorem z_pureZ {l : Launch} {y : MethodName} {ws ws' : List Cond} {rm : Room} {cc : ByteArray} {maxL : Nat} {av : List Value} {B : State → Prop} {post : Int32 → Prop} (hy : plainName y.cls = true) (hw : ws = Cond.code y cc maxL (some .boolean) :: ws') (hlen : (lg_sl av).length ≤ maxL)
    (body : ∀ (p : Program) (e : Env) (s : State) (m : MethodId) (below : List Frame) (meth : Method) (c : Code) (Q : State → Prop) (ls : Array Slot), p.tables.exec = Jvm.exec → c.code = cc → c.maxLocals = maxL → s.vm.findClass y.cls = some m.cls → (∀ w ∈ ws, w.before av.toArray s = true) → B s →
      (∀ (v : Int32) (pc : Nat) (ls : Array Slot), decode cc pc = .ok (.ireturn, 1) → (v = 0 ∨ v = 1) → post v → W p l e rm s m av.toArray below meth c s.heap [] 0 0 Q (F0 m pc ls [.int v])) →
      lv_has ls maxL (lv_args 0 av) → W p l e rm s m av.toArray below meth c s.heap [] 0 0 Q (F0 m 0 ls [])) : Met l y ws rm (va_Pc av B) (vp_Si post) 0 0 (fun _ => False) := by
  refine Met.ofW (cc := cc) (maxL := maxL) (ret := some .boolean) hy hw ?_
  intro p e s m args below meth c s₁ Bd hml hv
  obtain ⟨rfl, hB⟩ := hv
  have hts := atoms_spec (ws := ws) Bd.pre
  have hown : s.vm.findClass y.cls = some m.cls := findClass_of_methodNamed Bd.named
  have hl := lv_entry av (n := maxL) hlen
  rw [lg_entry_eq]
  refine body p e s m below meth c _ _ Bd.exec Bd.bytes hml hown hts hB ?_ hl
  intro v pc ls hd hz hp
  exact W.zret Bd.exec Bd.bytes Bd.returns (z_nz hz) (fun t ht hW => ⟨v, rfl, hp, ht⟩) (fun q h => by cases h) hd Bd.notSynchronized
end
section
/-! ===== the pure picture: a manor's state by rows of numbers: row 0 the single numbers (lord, church, void, least, holders, beasts, year, taken), rows 1..4 of holders (kind, death, alive, heir), rows 5..9 of beasts (worth, owner, giver, given in, told) ===== -/
abbrev St : Type := Nat → Nat → Int32
def up2 (σ : St) (i j : Nat) (x : Int32) : St := fun a => if a = i then upd (σ i) j x else σ a
def zbit (b : Nat) : Int32 := (1 : Int32) <<< (nI b &&& 31)
def zin (x : Int32) (b : Nat) : Int32 := (x >>> (nI b &&& 31)) &&& 1
def znot (x : Int32) : Int32 := x ^^^ (-1)
abbrev tn (x : Int32) : Nat := x.toNatClampNeg
def hasP (N : Nat) (x : Int32) : Prop := ∃ j, j < N ∧ x = nI j
theorem hasP_nI {N j : Nat} (h : j < N) : hasP N (nI j) := ⟨j, h, rfl⟩
theorem hasP_of {N j : Nat} (h : hasP N (nI j)) (hj : j < 2 ^ 31) (hN : N < 2 ^ 31) : j < N := by
  obtain ⟨i, hi, e⟩ := h
  rw [(nI_eq hj (by omega)).mp e]; exact hi
theorem hasP_iff {N : Nat} {x : Int32} (hN : N < 2 ^ 31) : hasP N x ↔ (¬ x < 0 ∧ ¬ nI N ≤ x) := by
  constructor
  · rintro ⟨j, hj, rfl⟩
    exact ⟨nI_pos (by omega), nI_ge hj hN⟩
  · rintro ⟨h1, h2⟩
    rcases pk_ix x hN with h | h | h
    · exact absurd h h1
    · exact absurd h h2
    · exact h
theorem hasP_out {x : Int32} {hi : Int} (M : Nat) (h : ¬ hasP M x) (hM : M < 2 ^ 31 := by decide) (hh : hi = (M : Int) - 1 := by decide) : x.toInt < 0 ∨ hi < x.toInt := by
  subst hh
  rcases pk_ix x hM with h1 | h1 | h1
  · left
    have := Int32.lt_iff_toInt_lt.mp h1
    rwa [Int32.toInt_zero] at this
  · right
    have := Int32.le_iff_toInt_le.mp h1
    rw [nI_toInt hM] at this
    omega
  · exact absurd h1 h
/-- what holds of every manor: its numbers -/
def Nums (σ : St) (Hn B L C V M : Nat) : Prop := σ 0 0 = nI L ∧ σ 0 1 = nI C ∧ σ 0 2 = nI V ∧ σ 0 3 = nI M ∧ σ 0 4 = nI Hn ∧ σ 0 5 = nI B ∧ L ≤ 3 ∧ C ≤ 3 ∧ V ≤ 5 ∧ M ≤ 9 ∧ Hn ≤ 4 ∧ B ≤ 6
/-- .. and its rows -/
def Rows (σ : St) (Hn B : Nat) : Prop := (∀ j, j < 4 → ∃ k, k ≤ 4 ∧ σ 1 j = nI k) ∧ (∀ j, j < 4 → ∃ k, k ≤ 9 ∧ σ 2 j = nI k) ∧ (∀ j, j < 4 → σ 3 j = 0 ∨ σ 3 j = 1) ∧ (∀ j, j < Hn → σ 4 j = -1 ∨ ∃ i, i < Hn ∧ i ≠ j ∧ σ 4 j = nI i) ∧ (∀ b, b < B → ∃ w, 1 ≤ w ∧ w ≤ 99 ∧ σ 5 b = nI w) ∧ (∀ b, b < B → σ 6 b = -1 → σ 7 b = -1) ∧ (∀ b, b < B → σ 7 b = -1 ∨ σ 7 b ≠ σ 6 b)
def Inv (σ : St) (Hn B L C V M : Nat) : Prop := Nums σ Hn B L C V M ∧ Rows σ Hn B
/-! what is told of a manor -/
def lordN (L K : Nat) : Nat := if K = 3 ∨ K = 4 then 0 else if K = 1 then L - 1 else L
def churchN (C K : Nat) : Nat := if K = 2 then C + 1 else if K = 4 then C - 2 else C
def ownR (σ : St) (h : Int32) : Nat → Int32
  | 0 => 0
  | b + 1 => if σ 6 b = h then ownR σ h b ||| zbit b else ownR σ h b
def heldR (σ : St) (h yr st : Int32) : Nat → Int32
  | 0 => st
  | b + 1 => if σ 7 b = h ∧ yr - σ 8 b < σ 0 2 then heldR σ h yr st b ||| zbit b else heldR σ h yr st b
def heldL (σ : St) (B : Nat) (h later gift : Int32) : Int32 := heldR σ h (σ 0 6 + later) (if σ 0 2 ≤ later then ownR σ h B &&& znot gift else ownR σ h B) B
def heldF (σ : St) (B : Nat) (h : Int32) : Int32 := heldR σ h (σ 0 6) (ownR σ h B) B
def bestR (σ : St) (set : Int32) : Nat → Int32
  | 0 => -1
  | b + 1 => if zin set b = 1 ∧ σ 0 3 ≤ σ 5 b ∧ (bestR σ set b = -1 ∨ σ 5 (tn (bestR σ set b)) < σ 5 b) then nI b else bestR σ set b
def takR (σ : St) (B : Nat) (set : Int32) : Nat → Int32
  | 0 => 0
  | k + 1 => if bestR σ (set &&& znot (takR σ B set k)) B = -1 then takR σ B set k else takR σ B set k ||| zbit (tn (bestR σ (set &&& znot (takR σ B set k)) B))
def manyF (σ : St) (j : Nat) : Nat := lordN (tn (σ 0 0)) (tn (σ 1 j)) + churchN (tn (σ 0 1)) (tn (σ 1 j))
def takenF (σ : St) (B j : Nat) (set : Int32) : Int32 := takR σ B set (manyF σ j)
def worthR (σ : St) (set : Int32) : Nat → Int32
  | 0 => 0
  | b + 1 => if zin set b = 1 then worthR σ set b + σ 5 b else worthR σ set b
def lossF (σ : St) (B j : Nat) (set : Int32) : Int32 := worthR σ (takenF σ B j set) B
def stillR (σ : St) (j : Nat) : Nat → Int32
  | 0 => 1
  | k + 1 => stillR σ j k * (10 - σ 2 j)
def lostR (σ : St) (B j : Nat) (gift : Int32) : Nat → Int32
  | 0 => 0
  | k + 1 => lostR σ B j gift k * 10 + stillR σ j k * σ 2 j * lossF σ B j (heldL σ B (nI j) (nI k) gift)
def ones (k : Nat) : Nat := k % 2 + k / 2 % 2 + k / 4 % 2 + k / 8 % 2 + k / 16 % 2 + k / 32 % 2
def fewR (σ : St) (B j : Nat) (own held : Int32) : Nat → Int32
  | 0 => -1
  | k + 1 => if nI k &&& znot own = 0 ∧ takenF σ B j (held &&& znot (nI k)) = 0 ∧ (fewR σ B j own held k = -1 ∨ ones k < ones (tn (fewR σ B j own held k))) then nI k else fewR σ B j own held k
def fewF (σ : St) (B j : Nat) : Int32 := fewR σ B j (ownR σ (nI j) B) (heldF σ B (nI j)) 64
def giveR (σ : St) (B j y : Nat) (own : Int32) : Nat → Int32
  | 0 => -1
  | k + 1 => if nI k &&& znot own = 0 ∧ (giveR σ B j y own k = -1 ∨ lostR σ B j (nI k) y < lostR σ B j (giveR σ B j y own k) y ∨ (lostR σ B j (nI k) y = lostR σ B j (giveR σ B j y own k) y ∧ ones k < ones (tn (giveR σ B j y own k)))) then nI k else giveR σ B j y own k
def giveF (σ : St) (B j y : Nat) : Int32 := giveR σ B j y (ownR σ (nI j) B) 64
def aliveR (σ : St) : Nat → Int32
  | 0 => 0
  | k + 1 => aliveR σ k + σ 3 k
def thereR (σ : St) : Nat → Int32
  | 0 => 0
  | b + 1 => if σ 6 b = -1 then thereR σ b else thereR σ b + 1
def toldR (σ : St) (taken : Int32) (b : Nat) : Prop := ∀ i, i < b → σ 9 i = -1 ∨ σ 9 i = zin taken i
def liveP (σ : St) (Hn : Nat) (x : Int32) : Prop := ∃ j, j < Hn ∧ x = nI j ∧ σ 3 j = 1
/-! worlds -/
abbrev tyIZ (cI cZ : ClassId) : List (ClassId × FieldType) := [(cI, .int), (cZ, .boolean)]
abbrev mw (cI cZ : ClassId) (ad : Nat → Nat) (σ : St) : va_W := [(ad 0, .inr (1, [.int (σ 0 0), .int (σ 0 1), .int (σ 0 2), .int (σ 0 3), .int (σ 0 4), .ref (ad 1), .ref (ad 2), .ref (ad 4), .ref (ad 3), .int (σ 0 5), .ref (ad 5), .ref (ad 6), .ref (ad 7), .ref (ad 8), .ref (ad 9), .int (σ 0 6), .int (σ 0 7)])), (ad 1, .inl (cI, 4, .inl (σ 1))), (ad 2, .inl (cI, 4, .inl (σ 2))), (ad 3, .inl (cZ, 4, .inl (σ 3))), (ad 4, .inl (cI, 4, .inl (σ 4))), (ad 5, .inl (cI, 6, .inl (σ 5))), (ad 6, .inl (cI, 6, .inl (σ 6))), (ad 7, .inl (cI, 6, .inl (σ 7))), (ad 8, .inl (cI, 6, .inl (σ 8))), (ad 9, .inl (cI, 6, .inl (σ 9)))]
end
section
/-! ===== plain facts of the picture ===== -/
theorem nI_m1 {n : Nat} (h : n < 2 ^ 31) : nI n ≠ -1 := by
  intro q
  have a := nI_toInt h
  rw [q] at a
  have b : (-1 : Int32).toInt = -1 := by decide
  omega
theorem nI_0' : (0 : Int32) = nI 0 := rfl
theorem sub_toInt {M : Nat} (h : M ≤ 9) : (nI M - 1).toInt = (M : Int) - 1 := pk_sub_toInt (a := M) (b := 1) (by omega) (by omega)
theorem live_yes {σ : St} {Hn j : Nat} (hj : j < Hn) (h : σ 3 j = 1) : liveP σ Hn (nI j) := ⟨j, hj, rfl, h⟩
theorem live_1 {σ : St} {Hn j : Nat} (hj : j < Hn) (hH : Hn ≤ 4) (h : liveP σ Hn (nI j)) : σ 3 j = 1 := by
  obtain ⟨i, hi, e, h1⟩ := h
  rw [(nI_eq (by omega) (by omega)).mp e]; exact h1
theorem live_no {σ : St} {Hn j : Nat} (hj : j < Hn) (hH : Hn ≤ 4) (c : σ 3 j = 0) : ¬ liveP σ Hn (nI j) := by
  intro h
  have := live_1 hj hH h
  rw [c] at this
  exact absurd this (by decide)
theorem live_0 {σ : St} {Hn j : Nat} (h01 : σ 3 j = 0 ∨ σ 3 j = 1) (hj : j < Hn) (hH : Hn ≤ 4) (c : ¬ liveP σ Hn (nI j)) : σ 3 j = 0 := by
  rcases h01 with h | h
  · exact h
  · exact absurd (live_yes hj h) c
theorem aliveR_n {σ : St} {k : Nat} (h : σ 3 k = 0) : aliveR σ k = aliveR σ (k + 1) := by rw [aliveR, h, Int32.add_zero]
theorem aliveR_y {σ : St} {k : Nat} (h : σ 3 k = 1) : aliveR σ k + 1 = aliveR σ (k + 1) := by rw [aliveR, h]
theorem thereR_n {σ : St} {k : Nat} (h : σ 6 k = -1) : thereR σ k = thereR σ (k + 1) := by rw [thereR, if_pos h]
theorem thereR_y {σ : St} {k : Nat} (h : ¬ σ 6 k = -1) : thereR σ k + 1 = thereR σ (k + 1) := by rw [thereR, if_neg h]
theorem mx1' : ∀ L, L < 4 → (if nI 0 < nI L - nI 1 then nI L - nI 1 else nI 0) = nI (L - 1) := by decide +kernel
theorem mx1 (L : Nat) (h : L < 4) : (if nI 0 < nI L - nI 1 then nI L - nI 1 else nI 0) = nI (L - 1) := mx1' L h
theorem mx2' : ∀ L, L < 4 → (if nI 0 < nI L - nI 2 then nI L - nI 2 else nI 0) = nI (L - 2) := by decide +kernel
theorem mx2 (L : Nat) (h : L < 4) : (if nI 0 < nI L - nI 2 then nI L - nI 2 else nI 0) = nI (L - 2) := mx2' L h
theorem ownR_n {σ : St} {h : Int32} {k : Nat} (c : ¬ σ 6 k = h) : ownR σ h k = ownR σ h (k + 1) := by rw [ownR, if_neg c]
theorem ownR_y {σ : St} {h : Int32} {k : Nat} (c : σ 6 k = h) : ownR σ h k ||| zbit k = ownR σ h (k + 1) := by rw [ownR, if_pos c]
theorem heldR_n {σ : St} {h yr st : Int32} {k : Nat} (c : ¬ (σ 7 k = h ∧ yr - σ 8 k < σ 0 2)) : heldR σ h yr st k = heldR σ h yr st (k + 1) := by rw [heldR, if_neg c]
theorem heldR_y {σ : St} {h yr st : Int32} {k : Nat} (c : σ 7 k = h) (c2 : yr - σ 8 k < σ 0 2) : heldR σ h yr st k ||| zbit k = heldR σ h yr st (k + 1) := by rw [heldR, if_pos ⟨c, c2⟩]
theorem znot_0 : znot 0 = -1 := by decide
theorem and_m1 (x : Int32) : x &&& (-1) = x := by
  apply Int32.toBitVec_inj.mp
  show x.toBitVec &&& BitVec.allOnes 32 = x.toBitVec
  exact BitVec.and_allOnes
theorem heldL_0 (σ : St) (B : Nat) (h : Int32) : heldL σ B h (nI 0) (nI 0) = heldF σ B h := by
  unfold heldL heldF
  have e1 : σ 0 6 + nI 0 = σ 0 6 := Int32.add_zero _
  have e2 : (if σ 0 2 ≤ nI 0 then ownR σ h B &&& znot (nI 0) else ownR σ h B) = ownR σ h B := by
    have e3 : ownR σ h B &&& znot (nI 0) = ownR σ h B := by
      show ownR σ h B &&& znot 0 = _
      rw [znot_0, and_m1]
    rw [e3]
    exact ite_self _
  rw [e1, e2]
noncomputable def bwF (σ : St) (set : Int32) (k : Nat) : Int32 := if bestR σ set k = -1 then σ 0 3 - 1 else σ 5 (tn (bestR σ set k))
theorem bwF_0 {σ : St} {set : Int32} : bwF σ set 0 = σ 0 3 - 1 := by unfold bwF; rw [if_pos (show bestR σ set 0 = -1 from rfl)]
theorem bestR_in {σ : St} {set : Int32} : ∀ k : Nat, bestR σ set k = -1 ∨ ∃ j, j < k ∧ bestR σ set k = nI j ∧ zin set j = 1 ∧ σ 0 3 ≤ σ 5 j
  | 0 => Or.inl rfl
  | k + 1 => by
    rw [bestR]
    split
    · rename_i h
      exact Or.inr ⟨k, Nat.lt_succ_self k, rfl, h.1, h.2.1⟩
    · rcases bestR_in (σ := σ) (set := set) k with h | ⟨j, h1, h2⟩
      · exact Or.inl h
      · exact Or.inr ⟨j, Nat.lt_succ_of_lt h1, h2⟩
theorem bestR_has {σ : St} {set : Int32} {k : Nat} (c : ¬ bestR σ set k = -1) : hasP k (bestR σ set k) := by
  rcases bestR_in (σ := σ) (set := set) k with h | ⟨j, h1, h2, _⟩
  · exact absurd h c
  · exact ⟨j, h1, h2⟩
theorem bestR_n {σ : St} {set : Int32} {k : Nat} (c : ¬ zin set k = 1) : bestR σ set k = bestR σ set (k + 1) := by rw [bestR, if_neg (fun h => c h.1)]
theorem bwF_n {σ : St} {set : Int32} {k : Nat} (c : ¬ zin set k = 1) : bwF σ set k = bwF σ set (k + 1) := by unfold bwF; rw [← bestR_n c]
theorem bestR_l {σ : St} {set : Int32} {k M : Nat} (iM : σ 0 3 = nI M) (jM : M ≤ 9) (c : σ 5 k ≤ bwF σ set k) : bestR σ set k = bestR σ set (k + 1) := by
  rw [bestR, if_neg]
  rintro ⟨-, h2, h3⟩
  unfold bwF at c
  split at c
  · rw [iM] at c h2
    have a := Int32.le_iff_toInt_le.mp c
    have b := Int32.le_iff_toInt_le.mp h2
    rw [sub_toInt jM] at a
    rw [nI_toInt (by omega)] at b
    omega
  · rename_i hn
    rcases h3 with h3 | h3
    · exact hn h3
    · have a := Int32.le_iff_toInt_le.mp c
      have b := Int32.lt_iff_toInt_lt.mp h3
      omega
theorem bwF_l {σ : St} {set : Int32} {k M : Nat} (iM : σ 0 3 = nI M) (jM : M ≤ 9) (c : σ 5 k ≤ bwF σ set k) : bwF σ set k = bwF σ set (k + 1) := by
  have e := bestR_l iM jM c
  unfold bwF; rw [← e]
theorem bestR_y {σ : St} {set : Int32} {k M : Nat} (hk : k < 2 ^ 31) (iM : σ 0 3 = nI M) (jM : M ≤ 9) (c : zin set k = 1) (c2 : ¬ σ 5 k ≤ bwF σ set k) : nI k = bestR σ set (k + 1) := by
  rw [bestR, if_pos]
  unfold bwF at c2
  split at c2
  · rename_i h
    refine ⟨c, ?_, Or.inl h⟩
    rw [iM] at c2 ⊢
    rw [Int32.le_iff_toInt_le, sub_toInt jM] at c2
    rw [Int32.le_iff_toInt_le, nI_toInt (by omega)]
    omega
  · rename_i h
    rcases bestR_in (σ := σ) (set := set) k with h1 | ⟨j, h1, h2, h3, h4⟩
    · exact absurd h1 h
    · refine ⟨c, ?_, Or.inr (Int32.not_le.mp c2)⟩
      have e : tn (bestR σ set k) = j := by rw [h2]; exact nI_clamp (by omega)
      rw [e] at c2
      have a := Int32.le_iff_toInt_le.mp h4
      have b := Int32.lt_iff_toInt_lt.mp (Int32.not_le.mp c2)
      rw [Int32.le_iff_toInt_le]
      omega
theorem bwF_y {σ : St} {set : Int32} {k M : Nat} (hk : k < 2 ^ 31) (iM : σ 0 3 = nI M) (jM : M ≤ 9) (c : zin set k = 1) (c2 : ¬ σ 5 k ≤ bwF σ set k) : σ 5 k = bwF σ set (k + 1) := by
  have e := bestR_y hk iM jM c c2
  unfold bwF
  rw [← e, if_neg (nI_m1 hk)]
  show _ = σ 5 (nI k).toNatClampNeg
  rw [nI_clamp hk]
theorem shl_bit {j : Nat} : nI 1 <<< (nI j &&& 31) = zbit j := rfl
theorem zbit_tn {x : Int32} {N : Nat} (h : hasP N x) (hN : N ≤ 2 ^ 31) : nI 1 <<< (x &&& 31) = zbit (tn x) := by
  obtain ⟨j, hj, rfl⟩ := h
  show _ = zbit (nI j).toNatClampNeg
  rw [nI_clamp (by omega)]
  rfl
theorem manyF_eq {σ : St} {j L C K : Nat} (iL : σ 0 0 = nI L) (iC : σ 0 1 = nI C) (hK : σ 1 j = nI K) (hL : L < 2 ^ 31) (hC : C < 2 ^ 31) (hK4 : K < 2 ^ 31) : manyF σ j = lordN L K + churchN C K := by
  unfold manyF
  rw [iL, iC, hK]
  show lordN (nI L).toNatClampNeg (nI K).toNatClampNeg + churchN (nI C).toNatClampNeg (nI K).toNatClampNeg = _
  rw [nI_clamp hL, nI_clamp hC, nI_clamp hK4]
theorem many7 {L C K : Nat} (hL : L ≤ 3) (hC : C ≤ 3) : lordN L K + churchN C K ≤ 7 := by
  unfold lordN churchN
  split <;> split <;> (try split) <;> (try split) <;> omega
theorem takR_y {σ : St} {B : Nat} {set : Int32} {k : Nat} (c : ¬ bestR σ (set &&& znot (takR σ B set k)) B = -1) : takR σ B set k ||| zbit (tn (bestR σ (set &&& znot (takR σ B set k)) B)) = takR σ B set (k + 1) := by rw [takR, if_neg c]
theorem takR_stop {σ : St} {B : Nat} {set : Int32} {k m : Nat} (c : bestR σ (set &&& znot (takR σ B set k)) B = -1) (h : k ≤ m) : takR σ B set m = takR σ B set k := by
  induction h with
  | refl => rfl
  | step h ih =>
    rw [takR, ih, if_pos c]
theorem worthR_n {σ : St} {set : Int32} {k : Nat} (c : ¬ zin set k = 1) : worthR σ set k = worthR σ set (k + 1) := by rw [worthR, if_neg c]
theorem worthR_y {σ : St} {set : Int32} {k : Nat} (c : zin set k = 1) : worthR σ set k + σ 5 k = worthR σ set (k + 1) := by rw [worthR, if_pos c]
end
section
/-! ===== plain facts: sets of beasts as bits ===== -/
theorem nI_or (a b : Nat) : nI a ||| nI b = nI (a ||| b) := by
  apply Int32.toBitVec_inj.mp
  show BitVec.ofNat 32 a ||| BitVec.ofNat 32 b = BitVec.ofNat 32 (a ||| b)
  exact (BitVec.ofNat_or (x := a) (y := b)).symm
theorem nI_and (a b : Nat) : nI a &&& nI b = nI (a &&& b) := by
  apply Int32.toBitVec_inj.mp
  show BitVec.ofNat 32 a &&& BitVec.ofNat 32 b = BitVec.ofNat 32 (a &&& b)
  exact (BitVec.ofNat_and (x := a) (y := b)).symm
theorem zbit_pow : ∀ b, b < 6 → zbit b = nI (2 ^ b) := by decide +kernel
theorem ownR_bits {σ : St} {h : Int32} : ∀ b : Nat, b ≤ 6 → ∃ w, w < 2 ^ b ∧ ownR σ h b = nI w
  | 0, _ => ⟨0, by decide, rfl⟩
  | b + 1, hb => by
    obtain ⟨w, hw, e⟩ := ownR_bits (σ := σ) (h := h) b (by omega)
    have hp : 2 ^ b < 2 ^ (b + 1) := Nat.pow_lt_pow_right (by decide) (Nat.lt_succ_self b)
    rw [ownR]
    split
    · refine ⟨w ||| 2 ^ b, Nat.or_lt_two_pow (Nat.lt_trans hw hp) hp, ?_⟩
      rw [e, zbit_pow b (by omega), nI_or]
    · exact ⟨w, Nat.lt_trans hw hp, e⟩
theorem pow_le64 {b : Nat} (h : b ≤ 6) : 2 ^ b ≤ 64 := by
  have := Nat.pow_le_pow_right (n := 2) (by decide) h
  omega
theorem own64 (σ : St) (h : Int32) {B : Nat} (hB : B ≤ 6) : ∃ w, w < 64 ∧ ownR σ h B = nI w := by
  obtain ⟨w, hw, e⟩ := ownR_bits (σ := σ) (h := h) B hB
  exact ⟨w, Nat.lt_of_lt_of_le hw (pow_le64 hB), e⟩
theorem sub_no : ∀ w, w < 64 → ∀ k, k < 64 → w < k → ¬ nI k &&& znot (nI w) = 0 := by decide +kernel
theorem ones_lt (k : Nat) : ones k < 7 := by unfold ones; omega
/-! the JDK's bit count -/
def ush (x : Int32) (n : Nat) : Int32 := (x.toUInt32 >>> ((nI n).toUInt32 &&& Int32.toUInt32 31)).toInt32
def bc1 (x : Int32) : Int32 := x - (ush x 1 &&& 1431655765)
def bc2 (x : Int32) : Int32 := (x &&& 858993459) + (ush x 2 &&& 858993459)
def bc3 (x : Int32) : Int32 := (x + ush x 4) &&& 252645135
def bc4 (x : Int32) : Int32 := x + ush x 8
def bc5 (x : Int32) : Int32 := x + ush x 16
def bcF (x : Int32) : Int32 := bc5 (bc4 (bc3 (bc2 (bc1 x)))) &&& nI 63
theorem bc_nI : ∀ k, k < 64 → bcF (nI k) = nI (ones k) := by decide +kernel
theorem bc_tn {x : Int32} (h : hasP 64 x) : bcF x = nI (ones (tn x)) := by
  obtain ⟨j, hj, rfl⟩ := h
  show _ = nI (ones (nI j).toNatClampNeg)
  rw [nI_clamp (by omega)]
  exact bc_nI j hj
/-! SAFE -/
section FEW
variable {σ : St} {B j k w : Nat} {own held : Int32}
theorem fewR_in : ∀ k : Nat, fewR σ B j own held k = -1 ∨ hasP k (fewR σ B j own held k)
  | 0 => Or.inl rfl
  | k + 1 => by
    rw [fewR]
    split
    · exact Or.inr ⟨k, Nat.lt_succ_self k, rfl⟩
    · rcases fewR_in k with h | ⟨i, h1, h2⟩
      · exact Or.inl h
      · exact Or.inr ⟨i, Nat.lt_succ_of_lt h1, h2⟩
theorem fewR_a (c : ¬ nI k &&& znot own = 0) : fewR σ B j own held k = fewR σ B j own held (k + 1) := by rw [fewR, if_neg (fun h => c h.1)]
theorem fewR_b (c : ¬ takenF σ B j (held &&& znot (nI k)) = 0) : fewR σ B j own held k = fewR σ B j own held (k + 1) := by rw [fewR, if_neg (fun h => c h.2.1)]
theorem fewR_c (c1 : nI k &&& znot own = 0) (c2 : takenF σ B j (held &&& znot (nI k)) = 0) (c3 : fewR σ B j own held k = -1 ∨ ones k < ones (tn (fewR σ B j own held k))) : nI k = fewR σ B j own held (k + 1) := by rw [fewR, if_pos ⟨c1, c2, c3⟩]
theorem fewR_d (c3 : ¬ fewR σ B j own held k = -1) (c4 : ones (tn (fewR σ B j own held k)) ≤ ones k) : fewR σ B j own held k = fewR σ B j own held (k + 1) := by
  rw [fewR, if_neg]
  rintro ⟨-, -, h | h⟩
  · exact c3 h
  · omega
theorem fewR_top (hw : w < 64) : ∀ m : Nat, w + 1 ≤ m → m ≤ 64 → fewR σ B j (nI w) held m = fewR σ B j (nI w) held (w + 1) := by
  intro m h
  induction h with
  | refl => intro _; rfl
  | @step m h ih =>
    intro h64
    have h1 : w + 1 ≤ m := h
    rw [← ih (by omega)]
    exact (fewR_a (sub_no w hw m (by omega) (by omega))).symm
end FEW
/-! GIVING -/
section GIVE
variable {σ : St} {B j y k t w : Nat} {own : Int32}
theorem giveR_1 (own : Int32) : giveR σ B j y own 1 = nI 0 := by
  rw [giveR, if_pos]
  · refine ⟨?_, Or.inl rfl⟩
    show (0 : Int32) &&& znot own = 0
    exact Int32.zero_and
theorem giveR_a (ht : giveR σ B j y own k = nI t) (c : ¬ nI k &&& znot own = 0) : giveR σ B j y own (k + 1) = nI t := by rw [giveR, if_neg (fun h => c h.1)]; exact ht
theorem giveR_s (ht : giveR σ B j y own k = nI t) (h64 : t < 64) (c : nI k &&& znot own = 0) (d : lostR σ B j (nI k) y < lostR σ B j (nI t) y ∨ (lostR σ B j (nI k) y = lostR σ B j (nI t) y ∧ ones k < ones t)) : giveR σ B j y own (k + 1) = nI k := by
  rw [giveR, if_pos]
  refine ⟨c, Or.inr ?_⟩
  rw [ht, show tn (nI t) = t from nI_clamp (by omega)]
  exact d
theorem giveR_k (ht : giveR σ B j y own k = nI t) (h64 : t < 64) (d : ¬ (lostR σ B j (nI k) y < lostR σ B j (nI t) y ∨ (lostR σ B j (nI k) y = lostR σ B j (nI t) y ∧ ones k < ones t))) : giveR σ B j y own (k + 1) = nI t := by
  rw [giveR, if_neg]
  · exact ht
  · rintro ⟨-, h | h⟩
    · rw [ht] at h; exact nI_m1 (by omega) h
    · rw [ht, show tn (nI t) = t from nI_clamp (by omega)] at h
      exact d h
theorem giveR_top (hw : w < 64) : ∀ m : Nat, w + 1 ≤ m → m ≤ 64 → giveR σ B j y (nI w) m = giveR σ B j y (nI w) (w + 1) := by
  intro m h
  induction h with
  | refl => intro _; rfl
  | @step m h ih =>
    intro h64
    have h1 : w + 1 ≤ m := h
    rw [← ih (by omega)]
    rw [giveR, if_neg (fun z => sub_no w hw m (by omega) (by omega) z.1)]
theorem giveR_in : ∀ k : Nat, 1 ≤ k → hasP k (giveR σ B j y own k)
  | 0, h => absurd h (by omega)
  | 1, _ => ⟨0, by decide, giveR_1 own⟩
  | k + 2, _ => by
    rw [giveR]
    split
    · exact ⟨k + 1, by omega, rfl⟩
    · obtain ⟨i, h1, h2⟩ := giveR_in (k + 1) (by omega)
      exact ⟨i, by omega, h2⟩
end GIVE
theorem toldR_s {σ : St} {taken : Int32} {k : Nat} (h : toldR σ taken k) (c : σ 9 k = -1 ∨ σ 9 k = zin taken k) : toldR σ taken (k + 1) := by
  intro i hi
  rcases Nat.lt_succ_iff_lt_or_eq.mp hi with h1 | rfl
  · exact h i h1
  · exact c
def giveP (σ : St) (b t : Nat) : Prop := σ 3 t = 1 ∧ ¬ σ 6 b = -1 ∧ ¬ σ 6 b = nI t
end
section
/-! ===== base: methods that write, and calls of such ===== -/
abbrev zPre (D : va_G) (cl : List vw_C) (tc : List (ClassId × FieldType)) (W0 : va_W) (sz : Nat) (B : State → Prop) : State → Prop := fun U => U.heap.size = sz ∧ va_P D cl W0 U.heap ∧ va_K D cl tc U ∧ va_D (fun _ => True) W0 ∧ B U
abbrev zPost {S : Type} (D : va_G) (cl : List vw_C) (tc : List (ClassId × FieldType)) (W0 : va_W) (sz : Nat) (wd : S → va_W) : S → State → Prop := fun u t => va_P D cl (wd u) t.heap ∧ va_K D cl tc t ∧ va_D (va_A W0 sz) (wd u)
theorem z_impI {S : Type} {l : Launch} {y : MethodName} {ws ws' : List Cond} {rm : Room} {cc : ByteArray} {maxL : Nat} {av : List Value} {D : va_G} {cl : List vw_C} {tc : List (ClassId × FieldType)} {W0 : va_W} {sz : Nat} {B : State → Prop} {post : Int32 → S → Prop} {wd : S → va_W} (hy : plainName y.cls = true) (hw : ws = Cond.code y cc maxL (some .int) :: ws') (hlen : (lg_sl av).length ≤ maxL)
    (body : ∀ (p : Program) (e : Env) (s : State) (m : MethodId) (below : List Frame) (meth : Method) (c : Code) (Q : State → Prop) (A : Nat → Prop) (ls : Array Slot), p.tables.exec = Jvm.exec → c.code = cc → c.maxLocals = maxL → s.vm.findClass y.cls = some m.cls → (∀ w ∈ ws, w.before av.toArray s = true) → B s →
      va_P D cl W0 s.heap → va_K D cl tc s → va_D A W0 → va_S A s.heap s.heap [] → (∀ q : Nat, s.heap.size ≤ q → A q) → (∀ q, A q → va_A W0 s.heap.size q) →
      (∀ (v : Int32) (u : S) (H : Heap) (locs : List Loc) (pc : Nat) (ls : Array Slot), decode cc pc = .ok (.ireturn, 1) → post v u → va_P D cl (wd u) H → va_D A (wd u) → va_S A s.heap H locs → W p l e rm s m av.toArray below meth c H locs 0 0 Q (F0 m pc ls [.int v])) →
      lv_has ls maxL (lv_args 0 av) → W p l e rm s m av.toArray below meth c s.heap [] 0 0 Q (F0 m 0 ls [])) : Met l y ws rm (va_Pc av (zPre D cl tc W0 sz B)) (va_Qi post (zPost D cl tc W0 sz wd) (va_A W0 sz)) 0 0 (va_A W0 sz) := by
  refine Met.ofW (cc := cc) (maxL := maxL) (ret := some .int) hy hw ?_
  intro p e s m args below meth c s₁ Bd hml hv
  obtain ⟨rfl, hsz, hP, hK, hD0, hB⟩ := hv
  subst hsz
  have hts := atoms_spec (ws := ws) Bd.pre
  have hown : s.vm.findClass y.cls = some m.cls := findClass_of_methodNamed Bd.named
  have hl := lv_entry av (n := maxL) hlen
  rw [lg_entry_eq]
  refine body p e s m below meth c _ (va_A W0 s.heap.size) _ Bd.exec Bd.bytes hml hown hts hB hP hK hD0.self va_S.rf (fun q h => Or.inr h) (fun _ h => h) ?_ hl
  intro v u H locs pc ls hd hp hP1 hD1 hS1
  exact W.iret Bd.exec Bd.bytes Bd.returns (fun t ht hW => ⟨⟨v, u, rfl, hp, by rw [ht]; exact hP1, va_K.moved hW.alike hK, hD1⟩, hS1.F ht⟩) hS1.2.2 hd Bd.notSynchronized
theorem z_impL {S : Type} {l : Launch} {y : MethodName} {ws ws' : List Cond} {rm : Room} {cc : ByteArray} {maxL : Nat} {av : List Value} {D : va_G} {cl : List vw_C} {tc : List (ClassId × FieldType)} {W0 : va_W} {sz : Nat} {B : State → Prop} {post : Int64 → S → Prop} {wd : S → va_W} (hy : plainName y.cls = true) (hw : ws = Cond.code y cc maxL (some .long) :: ws') (hlen : (lg_sl av).length ≤ maxL)
    (body : ∀ (p : Program) (e : Env) (s : State) (m : MethodId) (below : List Frame) (meth : Method) (c : Code) (Q : State → Prop) (A : Nat → Prop) (ls : Array Slot), p.tables.exec = Jvm.exec → c.code = cc → c.maxLocals = maxL → s.vm.findClass y.cls = some m.cls → (∀ w ∈ ws, w.before av.toArray s = true) → B s →
      va_P D cl W0 s.heap → va_K D cl tc s → va_D A W0 → va_S A s.heap s.heap [] → (∀ q : Nat, s.heap.size ≤ q → A q) → (∀ q, A q → va_A W0 s.heap.size q) →
      (∀ (v : Int64) (u : S) (H : Heap) (locs : List Loc) (pc : Nat) (ls : Array Slot), decode cc pc = .ok (.lreturn, 1) → post v u → va_P D cl (wd u) H → va_D A (wd u) → va_S A s.heap H locs → W p l e rm s m av.toArray below meth c H locs 0 0 Q (F0 m pc ls [.long v])) →
      lv_has ls maxL (lv_args 0 av) → W p l e rm s m av.toArray below meth c s.heap [] 0 0 Q (F0 m 0 ls [])) : Met l y ws rm (va_Pc av (zPre D cl tc W0 sz B)) (va_Ql post (zPost D cl tc W0 sz wd) (va_A W0 sz)) 0 0 (va_A W0 sz) := by
  refine Met.ofW (cc := cc) (maxL := maxL) (ret := some .long) hy hw ?_
  intro p e s m args below meth c s₁ Bd hml hv
  obtain ⟨rfl, hsz, hP, hK, hD0, hB⟩ := hv
  subst hsz
  have hts := atoms_spec (ws := ws) Bd.pre
  have hown : s.vm.findClass y.cls = some m.cls := findClass_of_methodNamed Bd.named
  have hl := lv_entry av (n := maxL) hlen
  rw [lg_entry_eq]
  refine body p e s m below meth c _ (va_A W0 s.heap.size) _ Bd.exec Bd.bytes hml hown hts hB hP hK hD0.self va_S.rf (fun q h => Or.inr h) (fun _ h => h) ?_ hl
  intro v u H locs pc ls hd hp hP1 hD1 hS1
  exact W.lret Bd.exec Bd.bytes Bd.returns (fun t ht hW => ⟨⟨v, u, rfl, hp, by rw [ht]; exact hP1, va_K.moved hW.alike hK, hD1⟩, hS1.F ht⟩) hS1.2.2 hd Bd.notSynchronized
theorem z_impV {S : Type} {l : Launch} {y : MethodName} {ws ws' : List Cond} {rm : Room} {cc : ByteArray} {maxL : Nat} {av : List Value} {D : va_G} {cl : List vw_C} {tc : List (ClassId × FieldType)} {W0 : va_W} {sz mc ms : Nat} {B : State → Prop} {post : S → Prop} {wd : S → va_W} (hy : plainName y.cls = true) (hw : ws = Cond.code y cc maxL none :: ws') (hlen : (lg_sl av).length ≤ maxL)
    (body : ∀ (p : Program) (e : Env) (s : State) (m : MethodId) (below : List Frame) (meth : Method) (c : Code) (Q : State → Prop) (A : Nat → Prop) (ls : Array Slot), p.tables.exec = Jvm.exec → c.code = cc → c.maxLocals = maxL → s.vm.findClass y.cls = some m.cls → meth.name = y.name → (∀ w ∈ ws, w.before av.toArray s = true) → B s →
      va_P D cl W0 s.heap → va_K D cl tc s → va_D A W0 → va_S A s.heap s.heap [] → (∀ q : Nat, s.heap.size ≤ q → A q) → (∀ q, A q → va_A W0 s.heap.size q) →
      (∀ (u : S) (H : Heap) (locs : List Loc) (pc : Nat) (ls : Array Slot), decode cc pc = .ok (.return_, 1) → post u → va_P D cl (wd u) H → va_D A (wd u) → va_S A s.heap H locs → W p l e rm s m av.toArray below meth c H locs mc ms Q (F0 m pc ls [])) →
      lv_has ls maxL (lv_args 0 av) → W p l e rm s m av.toArray below meth c s.heap [] 0 0 Q (F0 m 0 ls [])) : Met l y ws rm (va_Pc av (zPre D cl tc W0 sz B)) (va_Qv post (zPost D cl tc W0 sz wd) (va_A W0 sz)) mc ms (va_A W0 sz) := by
  refine Met.ofW (cc := cc) (maxL := maxL) (ret := none) hy hw ?_
  intro p e s m args below meth c s₁ Bd hml hv
  obtain ⟨rfl, hsz, hP, hK, hD0, hB⟩ := hv
  subst hsz
  have hts := atoms_spec (ws := ws) Bd.pre
  have hown : s.vm.findClass y.cls = some m.cls := findClass_of_methodNamed Bd.named
  have hl := lv_entry av (n := maxL) hlen
  rw [lg_entry_eq]
  refine body p e s m below meth c _ (va_A W0 s.heap.size) _ Bd.exec Bd.bytes hml hown (name_of_methodNamed Bd.named Bd.method).1 hts hB hP hK hD0.self va_S.rf (fun q h => Or.inr h) (fun _ h => h) ?_ hl
  intro u H locs pc ls hd hp hP1 hD1 hS1
  exact W.vret Bd.exec Bd.bytes Bd.returns (fun t ht hW => ⟨⟨u, rfl, hp, by rw [ht]; exact hP1, va_K.moved hW.alike hK, hD1⟩, hS1.F ht⟩) hS1.2.2 hd Bd.notSynchronized
theorem z_inR {α : Type} {ws : List α} : ∀ {is : List Nat}, is.all (fun i => decide (i < ws.length)) = true → is.map (fun i => ws[i]?) = (is.filterMap (fun i => ws[i]?)).map some
  | [], _ => rfl
  | i :: is, h => by
    rw [List.all_cons, Bool.and_eq_true] at h
    have hi : i < ws.length := of_decide_eq_true h.1
    have e : ws[i]? = some ws[i] := List.getElem?_eq_getElem hi
    rw [List.map_cons, List.filterMap_cons, e, z_inR h.2]
    rfl
section ZC
variable {p : Program} {l : Launch} {e : Env} {R : Room} {s : State} {m : MethodId} {args : Array Value} {below : List Frame} {meth : Method} {c : Code} {H : Heap} {locs : List Loc} {cells slots : Nat} {Q : State → Prop}
variable {cc : ByteArray} {pc : Nat} {ls : Array Slot} {rest : List Value} {D : va_G} {cl : List vw_C} {A : Nat → Prop} {tys : List (ClassId × FieldType)} {ws : va_W} {H0 : Heap}
variable {y : MethodName} {bytes : ByteArray} {maxL nL n index : Nat} {ret : Option FieldType} {ws2 : List Cond} {rm : Room} {Ts : List Cond} {own C : String} {b : Addr} {As st0 : List Value} {wc : va_W} {tc : List (ClassId × FieldType)}
theorem z_blindW {av : List Value} {W0 : va_W} {sz : Nat} {B : State → Prop} (hB : ∀ (U : State) (g : JFrame) (mk : MethodId) (a : Array Value), B U → B (U.calling g mk a)) : FrameBlind (va_Pc av (zPre D cl tc W0 sz B)) := fun a U g mk q => ⟨q.1, q.2.1, q.2.2.1, va_K.moved (u := U) (U := U.calling g mk a) (Vm.Alike.refl U.vm) q.2.2.2.1, q.2.2.2.2.1, hB U g mk a q.2.2.2.2.2⟩
theorem z_runW {S : Type} {Qa : Array Value → State → Outcome → State → Prop} {B : State → Prop} {mc ms : Nat} (S : CallFix p m c cc nL s args Ts own) (hM : Met l y ws2 rm (va_Pc (Value.ref b :: As) (zPre D cl tc wc H.size B)) Qa mc ms (va_A wc H.size)) (cw : CallW R s args own C index y bytes maxL ret ws2 rm mc ms n) (hBb : ∀ (U : State) (g : JFrame) (mk : MethodId) (a : Array Value), B U → B (U.calling g mk a)) (hBs : ∀ U : State, U.heap = H → s.WarmedH U.vm → B U)
    (hP : va_P D cl ws H) (hD : va_D A ws) (hK : va_K D cl tc s) (isC : List Nat) (hC : isC.map (fun i => ws[i]?) = wc.map some) (hnC : va_nd isC = true) (hrec : ∃ cell : Cell, H[b]? = some cell ∧ cell.vm.isStatics = false ∧ s.vm.findClass C = some cell.cls) (hn : As.length = n) (hsz : ls.size = nL) (hst : st0 = As.reverse ++ .ref b :: rest) (hcat : (rest.map fun v => v.category).sum ≤ 8) (hcs : cells + mc ≤ R.cells ∧ slots + ms ≤ R.slots) (hdg : decode cc pc = .ok (.invokevirtual index, 3)) :
    va_Run p l e R s m args below meth c H locs cells slots mc ms (F0 m pc ls st0) rest (Qa (Value.ref b :: As).toArray) (va_A wc H.size) := by
  have hPc : va_P D cl wc H := by
    intro k q hk
    have h1 : (isC.map (fun i => ws[i]?))[k]? = some (some q) := by rw [hC, List.getElem?_map, hk]; rfl
    rw [List.getElem?_map] at h1
    cases hi : isC[k]? with
    | none => rw [hi] at h1; cases h1
    | some i => rw [hi] at h1; exact hP i q (Option.some.inj h1)
  have hDc : va_D A wc := hD.sub isC hnC hC
  exact va_runV (below := below) (e := e) (meth := meth) (locs := locs) (cells := cells) (slots := slots) (H := H) (g := F0 m pc ls st0) (rest := rest) S hM cw ⟨z_blindW hBb, hrec, fun U hU hW => ⟨rfl, by rw [hU], by rw [hU]; exact hPc, va_K.moved hW.alike hK, hDc.weaken (fun _ _ _ _ => trivial), hBs U hU hW⟩⟩ rfl hn hsz hst (lv_room hcat) hdg hcs
theorem z_callQi {S : Type} {post : Int32 → S → Prop} {wd : S → va_W} {B : State → Prop} (SS : CallFix p m c cc nL s args Ts own) (hM : Met l y ws2 rm (va_Pc (Value.ref b :: As) (zPre D cl tc wc H.size B)) (va_Qi post (zPost D cl tc wc H.size wd) (va_A wc H.size)) 0 0 (va_A wc H.size)) (cw : CallW R s args own C index y bytes maxL ret ws2 rm 0 0 n) (hBb : ∀ (U : State) (g : JFrame) (mk : MethodId) (a : Array Value), B U → B (U.calling g mk a)) (hBs : ∀ U : State, U.heap = H → s.WarmedH U.vm → B U)
    (hP : va_P D cl ws H) (hD : va_D A ws) (hK : va_K D cl tc s) (hS : va_S A H0 H locs) (hA : ∀ q, H0.size ≤ q → A q) (isC isR : List Nat) (hC : isC.map (fun i => ws[i]?) = wc.map some) (hnC : va_nd isC = true) (hR : isR.all (fun i => decide (i < ws.length)) = true) (hnR : va_nd isR = true) (hdis : ∀ i ∈ isR, i ∉ isC) (hrec : ∃ cell : Cell, H[b]? = some cell ∧ cell.vm.isStatics = false ∧ s.vm.findClass C = some cell.cls) (hn : As.length = n) (hsz : ls.size = nL) (hst : st0 = As.reverse ++ .ref b :: rest) (hcat : (rest.map fun v => v.category).sum ≤ 8) (hcs : cells + 0 ≤ R.cells ∧ slots + 0 ≤ R.slots) (hdg : decode cc pc = .ok (.invokevirtual index, 3))
    (kk : ∀ (r : Int32) (u : S) (H1 : Heap) (locs1 : List Loc), post r u → va_P D cl (isR.filterMap (fun i => ws[i]?) ++ wd u) H1 → va_D A (isR.filterMap (fun i => ws[i]?) ++ wd u) → va_S A H0 H1 locs1 → W p l e R s m args below meth c H1 locs1 cells slots Q (F0 m (pc + 3) ls (.int r :: rest))) : W p l e R s m args below meth c H locs cells slots Q (F0 m pc ls st0) := by
  have hF := va_free (wc := wc) hD hS hA isC hC
  refine va_calli (z_runW (S := S) SS hM cw hBb hBs hP hD hK isC hC hnC hrec hn hsz hst hcat hcs hdg) hS (fun q _ h => hF q h) hF (fun r u t H1 locs1 ht hvm hp hB hz1 hk1 hS1 => ?_)
  obtain ⟨hP1, hK1, hD1⟩ := hB
  rw [ht] at hP1
  obtain ⟨hP2, hD2⟩ := va_join (wr := isR.filterMap (fun i => ws[i]?)) (w1 := wd u) hP hD isC isR hC (z_inR hR) hnR hdis hk1 hF hP1 hD1
  exact kk r u H1 locs1 hp hP2 hD2 hS1
theorem z_callQl {S : Type} {post : Int64 → S → Prop} {wd : S → va_W} {B : State → Prop} (SS : CallFix p m c cc nL s args Ts own) (hM : Met l y ws2 rm (va_Pc (Value.ref b :: As) (zPre D cl tc wc H.size B)) (va_Ql post (zPost D cl tc wc H.size wd) (va_A wc H.size)) 0 0 (va_A wc H.size)) (cw : CallW R s args own C index y bytes maxL ret ws2 rm 0 0 n) (hBb : ∀ (U : State) (g : JFrame) (mk : MethodId) (a : Array Value), B U → B (U.calling g mk a)) (hBs : ∀ U : State, U.heap = H → s.WarmedH U.vm → B U)
    (hP : va_P D cl ws H) (hD : va_D A ws) (hK : va_K D cl tc s) (hS : va_S A H0 H locs) (hA : ∀ q, H0.size ≤ q → A q) (isC isR : List Nat) (hC : isC.map (fun i => ws[i]?) = wc.map some) (hnC : va_nd isC = true) (hR : isR.all (fun i => decide (i < ws.length)) = true) (hnR : va_nd isR = true) (hdis : ∀ i ∈ isR, i ∉ isC) (hrec : ∃ cell : Cell, H[b]? = some cell ∧ cell.vm.isStatics = false ∧ s.vm.findClass C = some cell.cls) (hn : As.length = n) (hsz : ls.size = nL) (hst : st0 = As.reverse ++ .ref b :: rest) (hcat : (rest.map fun v => v.category).sum ≤ 8) (hcs : cells + 0 ≤ R.cells ∧ slots + 0 ≤ R.slots) (hdg : decode cc pc = .ok (.invokevirtual index, 3))
    (kk : ∀ (r : Int64) (u : S) (H1 : Heap) (locs1 : List Loc), post r u → va_P D cl (isR.filterMap (fun i => ws[i]?) ++ wd u) H1 → va_D A (isR.filterMap (fun i => ws[i]?) ++ wd u) → va_S A H0 H1 locs1 → W p l e R s m args below meth c H1 locs1 cells slots Q (F0 m (pc + 3) ls (.long r :: rest))) : W p l e R s m args below meth c H locs cells slots Q (F0 m pc ls st0) := by
  have hF := va_free (wc := wc) hD hS hA isC hC
  refine va_calll (z_runW (S := S) SS hM cw hBb hBs hP hD hK isC hC hnC hrec hn hsz hst hcat hcs hdg) hS (fun q _ h => hF q h) hF (fun r u t H1 locs1 ht hvm hp hB hz1 hk1 hS1 => ?_)
  obtain ⟨hP1, hK1, hD1⟩ := hB
  rw [ht] at hP1
  obtain ⟨hP2, hD2⟩ := va_join (wr := isR.filterMap (fun i => ws[i]?)) (w1 := wd u) hP hD isC isR hC (z_inR hR) hnR hdis hk1 hF hP1 hD1
  exact kk r u H1 locs1 hp hP2 hD2 hS1
theorem z_callQv {S : Type} {post : S → Prop} {wd : S → va_W} {B : State → Prop} (SS : CallFix p m c cc nL s args Ts own) (hM : Met l y ws2 rm (va_Pc (Value.ref b :: As) (zPre D cl tc wc H.size B)) (va_Qv post (zPost D cl tc wc H.size wd) (va_A wc H.size)) 0 0 (va_A wc H.size)) (cw : CallW R s args own C index y bytes maxL ret ws2 rm 0 0 n) (hBb : ∀ (U : State) (g : JFrame) (mk : MethodId) (a : Array Value), B U → B (U.calling g mk a)) (hBs : ∀ U : State, U.heap = H → s.WarmedH U.vm → B U)
    (hP : va_P D cl ws H) (hD : va_D A ws) (hK : va_K D cl tc s) (hS : va_S A H0 H locs) (hA : ∀ q, H0.size ≤ q → A q) (isC isR : List Nat) (hC : isC.map (fun i => ws[i]?) = wc.map some) (hnC : va_nd isC = true) (hR : isR.all (fun i => decide (i < ws.length)) = true) (hnR : va_nd isR = true) (hdis : ∀ i ∈ isR, i ∉ isC) (hrec : ∃ cell : Cell, H[b]? = some cell ∧ cell.vm.isStatics = false ∧ s.vm.findClass C = some cell.cls) (hn : As.length = n) (hsz : ls.size = nL) (hst : st0 = As.reverse ++ .ref b :: rest) (hcat : (rest.map fun v => v.category).sum ≤ 8) (hcs : cells + 0 ≤ R.cells ∧ slots + 0 ≤ R.slots) (hdg : decode cc pc = .ok (.invokevirtual index, 3))
    (kk : ∀ (u : S) (H1 : Heap) (locs1 : List Loc), post u → va_P D cl (isR.filterMap (fun i => ws[i]?) ++ wd u) H1 → va_D A (isR.filterMap (fun i => ws[i]?) ++ wd u) → va_S A H0 H1 locs1 → W p l e R s m args below meth c H1 locs1 cells slots Q (F0 m (pc + 3) ls rest)) : W p l e R s m args below meth c H locs cells slots Q (F0 m pc ls st0) := by
  have hF := va_free (wc := wc) hD hS hA isC hC
  refine va_callv (z_runW (S := S) SS hM cw hBb hBs hP hD hK isC hC hnC hrec hn hsz hst hcat hcs hdg) hS (fun q _ h => hF q h) hF (fun u t H1 locs1 ht hvm hp hB hz1 hk1 hS1 => ?_)
  obtain ⟨hP1, hK1, hD1⟩ := hB
  rw [ht] at hP1
  obtain ⟨hP2, hD2⟩ := va_join (wr := isR.filterMap (fun i => ws[i]?)) (w1 := wd u) hP hD isC isR hC (z_inR hR) hnR hdis hk1 hF hP1 hD1
  exact kk u H1 locs1 hp hP2 hD2 hS1
end ZC
/-! arrays copied whole -/
theorem va_cpy_all {α : Type} (f g : Nat → α) (n j : Nat) (h : j < n) : va_cpy f g 0 0 n j = f j := by
  rw [pk_cpy_in (Nat.zero_le j) (by omega)]
  simp
theorem cell_eq {cA : ClassId} {n : Nat} {f g : Nat → Int32} (h : ∀ j, j < n → f j = g j) : vp_cell cA (n, .inl f) = vp_cell cA (n, .inl g) := by
  show arrV cA n (fun j => .int (f j)) = arrV cA n (fun j => .int (g j))
  unfold arrV
  have e : (fun j : Fin n => Value.int (f j.val)) = (fun j : Fin n => Value.int (g j.val)) := by
    funext j
    rw [h j.val j.isLt]
  rw [e]
theorem va_P_swap {D : va_G} {cl : List vw_C} {ws : va_W} {p : Nat} {x x' : Nat × va_E} {H : Heap} (h : va_P D cl (ws.set p x) H) (hx : va_at D cl x H → va_at D cl x' H) : va_P D cl (ws.set p x') H := by
  intro k q hk
  by_cases hkp : k = p
  · subst hkp
    by_cases hl : k < ws.length
    · rw [List.getElem?_set_self hl] at hk
      cases hk
      exact hx (h k x (List.getElem?_set_self hl))
    · have hn : (ws.set k x')[k]? = none := List.getElem?_eq_none (by rw [List.length_set]; omega)
      rw [hn] at hk
      cases hk
  · rw [List.getElem?_set_ne (Ne.symm hkp)] at hk
    exact h k q (by rw [List.getElem?_set_ne (Ne.symm hkp)]; exact hk)
section ZCP
variable {p : Program} {l : Launch} {e : Env} {R : Room} {s : State} {m : MethodId} {args : Array Value} {below : List Frame} {meth : Method} {c : Code} {H : Heap} {locs : List Loc} {cells slots : Nat} {Q : State → Prop}
variable {cc : ByteArray} {pc : Nat} {ls : Array Slot} {rest : List Value} {D : va_G} {cl : List vw_C} {A : Nat → Prop} {a : Nat} {tys : List (ClassId × FieldType)} {ws : va_W} {H0 : Heap}
theorem z_copy {cc : ByteArray} (hexec : p.tables.exec = Jvm.exec) (hb : c.code = cc) (hml : c.maxLocals = ls.size) {own : String} {index : Nat} (hown : s.vm.findClass own = some m.cls) (hlink : (Cond.methodLink own index arraycopyName).before args s = true) (hnat : (Cond.native arraycopyName).before args s = true) (hstat : (Cond.static arraycopyName).before args s = true) (hini : (Cond.initialized "java/lang/System").before args s = true)
    (hK : va_K D cl tys s) (hP : va_P D cl ws H) (hD : va_D A ws) (hS : va_S A H0 H locs) (q0 q1 t0 t1 : Nat) {a0 : Nat} {c0 c1 : ClassId} {n : Nat} {f g : Nat → Int32} {ty : FieldType} (ha0 : ws[q0]? = some (a0, .inl (c0, n, .inl f))) (ha1 : ws[q1]? = some (a, .inl (c1, n, .inl g))) (ht0 : tys[t0]? = some (c0, ty)) (ht1 : tys[t1]? = some (c1, ty)) (hprim : refKind ty = false) (hn : n < 2 ^ 31)
    (hfit : ∀ i, i < n → fits ty (.int (f i)) = true)
    (hframes : 1 ≤ R.frames) (hlocals : (rest.map fun v => v.category).sum + (nativeFrameWords "java/lang/System" "arraycopy" 5 + 11) ≤ R.locals) (hdg : decode cc pc = .ok (.invokestatic index, 3))
    (kk : ∀ (H1 : Heap) (locs1 : List Loc), va_P D cl (ws.set q1 (a, .inl (c1, n, .inl f))) H1 → va_D A (ws.set q1 (a, .inl (c1, n, .inl f))) → va_S A H0 H1 locs1 → W p l e R s m args below meth c H1 locs1 cells slots Q (F0 m (pc + 3) ls rest)) : W p l e R s m args below meth c H locs cells slots Q (F0 m pc ls (.int (nI n) :: .int (nI 0) :: .ref a :: .int (nI 0) :: .ref a0 :: rest)) := by
  have z0 : (nI 0).toNatClampNeg = 0 := nI_clamp (by decide)
  have zn : (nI n).toNatClampNeg = n := nI_clamp hn
  refine va_copyi hexec hb hml hown hlink hnat hstat hini hK hP hD hS q0 q1 t0 t1 ha0 ha1 ht0 ht1 hprim (nI_pos (by decide)) (nI_pos (by decide)) (nI_pos hn) (by rw [z0, zn]; omega) (by rw [z0, zn]; omega) (fun i hi => by rw [zn] at hi; rw [z0, Nat.zero_add]; exact hfit i hi) hframes hlocals hdg (fun H1 locs1 hP1 hD1 hS1 => ?_)
  rw [z0, zn] at hP1
  refine kk H1 locs1 (va_P_swap hP1 (fun h => ?_)) (hD.set ha1) hS1
  exact (show H1[a]? = some (vp_cell c1 (n, .inl f)) from by rw [← cell_eq (fun j hj => va_cpy_all f g n j hj)]; exact h)
end ZCP
theorem fit_i (x : Int32) : fits .int (.int x) = true := rfl
theorem fit_b {x : Int32} (h : x = 0 ∨ x = 1) : fits .boolean (.int x) = true := by rcases h with rfl | rfl <;> rfl
end
section
/-! ===== how the picture changes ===== -/
def layS (σ : St) (b : Nat) (x y z : Int32) : St := up2 (up2 (up2 σ 6 b x) 7 b y) 8 b z
def putS (σ : St) (b : Nat) (x : Int32) : St := layS σ b x (-1) (-1)
def holdS (σ : St) (n : Nat) (kd d : Int32) : St := up2 (up2 (up2 (up2 (up2 σ 1 n kd) 2 n d) 4 n (-1)) 3 n 1) 0 4 (nI (n + 1))
def beastS (σ : St) (n : Nat) (h w : Int32) : St := putS (up2 (up2 (up2 σ 0 5 (nI (n + 1))) 5 n w) 9 n (-1)) n h
noncomputable def giftS (σ : St) (b t : Nat) : St := @ite _ (giveP σ b t) (Classical.propDecidable _) (layS σ b (nI t) (σ 6 b) (σ 0 6)) σ
theorem giftS_y {σ : St} {b t : Nat} (h : giveP σ b t) : giftS σ b t = layS σ b (nI t) (σ 6 b) (σ 0 6) := by unfold giftS; rw [if_pos h]
theorem giftS_n {σ : St} {b t : Nat} (h : ¬ giveP σ b t) : giftS σ b t = σ := by unfold giftS; rw [if_neg h]
/-- whose what he leaves is then -/
noncomputable def nextF (σ : St) (Hn j : Nat) : Int32 := @ite _ (liveP σ Hn (σ 4 j)) (Classical.propDecidable _) (σ 4 j) (-1)
def buryR (σ : St) (taken h next : Int32) : Nat → St
  | 0 => σ
  | b + 1 => if zin taken b = 1 then putS (buryR σ taken h next b) b (-1) else if σ 6 b = h then putS (buryR σ taken h next b) b next else buryR σ taken h next b
noncomputable def buryS (σ : St) (Hn B j : Nat) : St :=
  up2 (up2 (buryR σ (takenF σ B j (heldF σ B (nI j))) (nI j) (nextF σ Hn j) B) 3 j 0) 0 7 (σ 0 7 + lossF σ B j (heldF σ B (nI j)))
theorem up2_at (σ : St) (i j : Nat) (x : Int32) (a b : Nat) : up2 σ i j x a b = if a = i ∧ b = j then x else σ a b := by
  unfold up2
  by_cases h : a = i
  · subst h
    rw [if_pos rfl]
    unfold upd
    by_cases h2 : b = j
    · rw [if_pos h2, if_pos ⟨rfl, h2⟩]
    · rw [if_neg h2, if_neg (fun z => h2 z.2)]
  · rw [if_neg h, if_neg (fun z => h z.1)]
theorem up2_comm (σ : St) {i j i2 j2 : Nat} (x y : Int32) (h : i ≠ i2) : up2 (up2 σ i j x) i2 j2 y = up2 (up2 σ i2 j2 y) i j x := by
  funext a b
  simp only [up2_at]
  by_cases h1 : a = i ∧ b = j <;> by_cases h2 : a = i2 ∧ b = j2
  · exact absurd (h1.1.symm.trans h2.1) h
  · rw [if_neg h2, if_pos h1, if_pos h1]
  · rw [if_pos h2, if_neg h1, if_pos h2]
  · rw [if_neg h2, if_neg h1, if_neg h1, if_neg h2]
section INV
variable {σ : St} {Hn B L C V M : Nat}
theorem Inv.lay (hI : Inv σ Hn B L C V M) {b : Nat} {x y z : Int32} (h1 : x = -1 → y = -1) (h2 : y = -1 ∨ y ≠ x) : Inv (layS σ b x y z) Hn B L C V M := by
  obtain ⟨iN, iK, iDe, iAl, iHe, iWo, iO1, iO2⟩ := hI
  refine ⟨iN, iK, iDe, iAl, iHe, iWo, fun b' hb' => ?_, fun b' hb' => ?_⟩
  · show (up2 (up2 (up2 σ 6 b x) 7 b y) 8 b z) 6 b' = -1 → (up2 (up2 (up2 σ 6 b x) 7 b y) 8 b z) 7 b' = -1
    show upd (σ 6) b x b' = -1 → upd (σ 7) b y b' = -1
    unfold upd
    by_cases e : b' = b
    · rw [if_pos e, if_pos e]; exact h1
    · rw [if_neg e, if_neg e]; exact iO1 b' hb'
  · show upd (σ 7) b y b' = -1 ∨ upd (σ 7) b y b' ≠ upd (σ 6) b x b'
    unfold upd
    by_cases e : b' = b
    · rw [if_pos e, if_pos e]; exact h2
    · rw [if_neg e, if_neg e]; exact iO2 b' hb'
theorem Inv.put (hI : Inv σ Hn B L C V M) (b : Nat) (x : Int32) : Inv (putS σ b x) Hn B L C V M := hI.lay (fun _ => rfl) (Or.inl rfl)
theorem Inv.gift (hI : Inv σ Hn B L C V M) (b t : Nat) (ht : t < 2 ^ 31) : Inv (giftS σ b t) Hn B L C V M := by
  by_cases h : giveP σ b t
  · rw [giftS_y h]
    exact hI.lay (fun q => absurd q (nI_m1 ht)) (Or.inr h.2.2)
  · rw [giftS_n h]; exact hI
theorem Inv.bury (hI : Inv σ Hn B L C V M) (tk h nx : Int32) : ∀ k : Nat, Inv (buryR σ tk h nx k) Hn B L C V M
  | 0 => hI
  | k + 1 => by
    rw [buryR]
    split
    · exact (Inv.bury hI tk h nx k).put _ _
    · split
      · exact (Inv.bury hI tk h nx k).put _ _
      · exact Inv.bury hI tk h nx k
theorem Inv.num7 (hI : Inv σ Hn B L C V M) (x : Int32) : Inv (up2 σ 0 7 x) Hn B L C V M := hI
theorem Inv.num6 (hI : Inv σ Hn B L C V M) (x : Int32) : Inv (up2 σ 0 6 x) Hn B L C V M := hI
theorem Inv.told (hI : Inv σ Hn B L C V M) (b : Nat) (x : Int32) : Inv (up2 σ 9 b x) Hn B L C V M := hI
theorem Inv.alive0 (hI : Inv σ Hn B L C V M) (j : Nat) : Inv (up2 σ 3 j 0) Hn B L C V M := by
  obtain ⟨iN, iK, iDe, iAl, iHe, iWo, iO1, iO2⟩ := hI
  refine ⟨iN, iK, iDe, fun i hi => ?_, iHe, iWo, iO1, iO2⟩
  show upd (σ 3) j 0 i = 0 ∨ upd (σ 3) j 0 i = 1
  unfold upd
  by_cases e : i = j
  · rw [if_pos e]; exact Or.inl rfl
  · rw [if_neg e]; exact iAl i hi
theorem Inv.buried (hI : Inv σ Hn B L C V M) (j : Nat) : Inv (buryS σ Hn B j) Hn B L C V M := ((hI.bury _ _ _ B).alive0 j).num7 _
theorem Inv.heir (hI : Inv σ Hn B L C V M) {j : Nat} {x : Int32} (hx : x = -1 ∨ ∃ i, i < Hn ∧ i ≠ j ∧ x = nI i) : Inv (up2 σ 4 j x) Hn B L C V M := by
  obtain ⟨iN, iK, iDe, iAl, iHe, iWo, iO1, iO2⟩ := hI
  refine ⟨iN, iK, iDe, iAl, fun i hi => ?_, iWo, iO1, iO2⟩
  show upd (σ 4) j x i = -1 ∨ ∃ a, a < Hn ∧ a ≠ i ∧ upd (σ 4) j x i = nI a
  unfold upd
  by_cases e : i = j
  · rw [if_pos e, e]; exact hx
  · rw [if_neg e]; exact iHe i hi
theorem Inv.hold (hI : Inv σ Hn B L C V M) (h4 : Hn < 4) {kd d : Nat} (hk : kd ≤ 4) (hd : d ≤ 9) : Inv (holdS σ Hn (nI kd) (nI d)) (Hn + 1) B L C V M := by
  obtain ⟨⟨iL, iC, iV, iM, iH, iB, jL, jC, jV, jM, jH, jB⟩, iK, iDe, iAl, iHe, iWo, iO1, iO2⟩ := hI
  refine ⟨⟨iL, iC, iV, iM, rfl, iB, jL, jC, jV, jM, by omega, jB⟩, fun i hi => ?_, fun i hi => ?_, fun i hi => ?_, fun i hi => ?_, iWo, iO1, iO2⟩
  · show ∃ k, k ≤ 4 ∧ upd (σ 1) Hn (nI kd) i = nI k
    unfold upd
    by_cases e : i = Hn
    · rw [if_pos e]; exact ⟨kd, hk, rfl⟩
    · rw [if_neg e]; exact iK i hi
  · show ∃ k, k ≤ 9 ∧ upd (σ 2) Hn (nI d) i = nI k
    unfold upd
    by_cases e : i = Hn
    · rw [if_pos e]; exact ⟨d, hd, rfl⟩
    · rw [if_neg e]; exact iDe i hi
  · show upd (σ 3) Hn 1 i = 0 ∨ upd (σ 3) Hn 1 i = 1
    unfold upd
    by_cases e : i = Hn
    · rw [if_pos e]; exact Or.inr rfl
    · rw [if_neg e]; exact iAl i hi
  · show upd (σ 4) Hn (-1) i = -1 ∨ ∃ a, a < Hn + 1 ∧ a ≠ i ∧ upd (σ 4) Hn (-1) i = nI a
    unfold upd
    by_cases e : i = Hn
    · rw [if_pos e]; exact Or.inl rfl
    · rw [if_neg e]
      rcases iHe i (by omega) with h | ⟨a, h1, h2, h3⟩
      · exact Or.inl h
      · exact Or.inr ⟨a, by omega, h2, h3⟩
theorem Inv.beast (hI : Inv σ Hn B L C V M) (h6 : B < 6) (h : Int32) {w : Nat} (hw : 1 ≤ w) (hw2 : w ≤ 99) : Inv (beastS σ B h (nI w)) Hn (B + 1) L C V M := by
  obtain ⟨⟨iL, iC, iV, iM, iH, iB, jL, jC, jV, jM, jH, jB⟩, iK, iDe, iAl, iHe, iWo, iO1, iO2⟩ := hI
  refine ⟨⟨iL, iC, iV, iM, iH, rfl, jL, jC, jV, jM, jH, by omega⟩, iK, iDe, iAl, iHe, fun i hi => ?_, fun i hi => ?_, fun i hi => ?_⟩
  · show ∃ a, 1 ≤ a ∧ a ≤ 99 ∧ upd (σ 5) B (nI w) i = nI a
    unfold upd
    by_cases e : i = B
    · rw [if_pos e]; exact ⟨w, hw, hw2, rfl⟩
    · rw [if_neg e]; exact iWo i (by omega)
  · show upd (σ 6) B h i = -1 → upd (σ 7) B (-1) i = -1
    unfold upd
    by_cases e : i = B
    · rw [if_pos e, if_pos e]; exact fun _ => rfl
    · rw [if_neg e, if_neg e]; exact iO1 i (by omega)
  · show upd (σ 7) B (-1) i = -1 ∨ upd (σ 7) B (-1) i ≠ upd (σ 6) B h i
    unfold upd
    by_cases e : i = B
    · rw [if_pos e, if_pos e]; exact Or.inl rfl
    · rw [if_neg e, if_neg e]; exact iO2 i (by omega)
theorem Inv.law (hI : Inv σ Hn B L C V M) {L2 C2 V2 M2 : Nat} (h1 : L2 ≤ 3) (h2 : C2 ≤ 3) (h3 : V2 ≤ 5) (h4 : M2 ≤ 9) : Inv (up2 (up2 (up2 (up2 σ 0 0 (nI L2)) 0 1 (nI C2)) 0 2 (nI V2)) 0 3 (nI M2)) Hn B L2 C2 V2 M2 := by
  obtain ⟨⟨iL, iC, iV, iM, iH, iB, jL, jC, jV, jM, jH, jB⟩, iR⟩ := hI
  exact ⟨⟨rfl, rfl, rfl, rfl, iH, iB, h1, h2, h3, h4, jH, jB⟩, iR⟩
end INV
theorem buryR_own {σ : St} {tk h nx : Int32} : ∀ (k b : Nat), k ≤ b → buryR σ tk h nx k 6 b = σ 6 b
  | 0, _, _ => rfl
  | k + 1, b, hb => by
    have ih := buryR_own (σ := σ) (tk := tk) (h := h) (nx := nx) k b (by omega)
    have e : ∀ x : Int32, putS (buryR σ tk h nx k) k x 6 b = σ 6 b := by
      intro x
      show upd (buryR σ tk h nx k 6) k x b = σ 6 b
      unfold upd
      rw [if_neg (by omega)]; exact ih
    rw [buryR]
    split
    · exact e _
    · split
      · exact e _
      · exact ih
theorem buryR_t {σ : St} {tk h nx : Int32} {k : Nat} (c : zin tk k = 1) : putS (buryR σ tk h nx k) k (-1) = buryR σ tk h nx (k + 1) := by rw [buryR, if_pos c]
theorem buryR_o {σ : St} {tk h nx : Int32} {k : Nat} (c : ¬ zin tk k = 1) (c2 : σ 6 k = h) : putS (buryR σ tk h nx k) k nx = buryR σ tk h nx (k + 1) := by rw [buryR, if_neg c, if_pos c2]
theorem buryR_n {σ : St} {tk h nx : Int32} {k : Nat} (c : ¬ zin tk k = 1) (c2 : ¬ σ 6 k = h) : buryR σ tk h nx k = buryR σ tk h nx (k + 1) := by rw [buryR, if_neg c, if_neg c2]
theorem buryR_num {σ : St} {tk h nx : Int32} (i : Nat) (hi : i ≤ 5 ∨ i = 9) : ∀ k : Nat, buryR σ tk h nx k i = σ i
  | 0 => rfl
  | k + 1 => by
    have ih := buryR_num (σ := σ) (tk := tk) (h := h) (nx := nx) i hi k
    have e : ∀ x : Int32, putS (buryR σ tk h nx k) k x i = σ i := by
      intro x
      unfold putS layS up2
      rw [if_neg (by omega), if_neg (by omega), if_neg (by omega)]
      exact ih
    rw [buryR]
    split
    · exact e _
    · split
      · exact e _
      · exact ih
theorem nextF_y {σ : St} {Hn j : Nat} (h : liveP σ Hn (σ 4 j)) : nextF σ Hn j = σ 4 j := by unfold nextF; rw [if_pos h]
theorem nextF_n {σ : St} {Hn j : Nat} (h : ¬ liveP σ Hn (σ 4 j)) : nextF σ Hn j = -1 := by unfold nextF; rw [if_neg h]
/-- the next number that is drawn, and what it draws -/
def seedF (x : Int32) : Int32 := ((1103515245 : Int64) * x.toInt64 + 12345 &&& 2147483647).toInt32
def drawF (x n : Int32) : Int32 := x / 65536 - x / 65536 / n * n
end
section
/-! ===== draws, a year of a manor as it would be ===== -/
theorem seedF_pos (x : Int32) : ¬ seedF x < 0 := by
  have h : (seedF x).toBitVec = ((((1103515245 : Int64) * x.toInt64 + 12345).toBitVec &&& (2147483647 : Int64).toBitVec)).setWidth 32 := by
    unfold seedF
    rw [Int64.toBitVec_toInt32, Int64.toBitVec_and, BitVec.signExtend_eq_setWidth_of_le _ (by decide)]
  have h2 : (seedF x).toInt = ((seedF x).toBitVec).toInt := rfl
  intro hlt
  have h3 := Int32.lt_iff_toInt_lt.mp hlt
  rw [Int32.toInt_zero] at h3
  have h4 : (seedF x).toBitVec.toNat < 2 ^ 31 := by
    rw [h, BitVec.toNat_setWidth, BitVec.toNat_and]
    have h5 : (2147483647 : Int64).toBitVec.toNat = 2147483647 := by decide
    rw [h5]
    have h6 := @Nat.and_le_right (((1103515245 : Int64) * x.toInt64 + 12345).toBitVec.toNat) 2147483647
    have h7 : (((1103515245 : Int64) * x.toInt64 + 12345).toBitVec.toNat &&& 2147483647) % 2 ^ 32 ≤ (((1103515245 : Int64) * x.toInt64 + 12345).toBitVec.toNat &&& 2147483647) := Nat.mod_le _ _
    omega
  have h5 : (seedF x).toInt = ((seedF x).toBitVec.toNat : Int) := by
    rw [h2]
    exact BitVec.toInt_eq_toNat_of_lt (by omega)
  omega
theorem drawF_in {x : Int32} (h : ¬ x < 0) {n : Nat} (h1 : 1 ≤ n) (h2 : n < 2 ^ 31) : hasP n (drawF x (nI n)) := by
  obtain ⟨j, hj, rfl⟩ := nI_of h
  have e1 : nI j / 65536 = nI (j / 65536) := pk_div hj (by decide) (by decide)
  have hj2 : j / 65536 < 2 ^ 31 := by omega
  have e2 : drawF (nI j) (nI n) = nI (j / 65536 % n) := by
    unfold drawF
    rw [e1]
    exact pk_rem hj2 (by omega) h2
  exact ⟨j / 65536 % n, Nat.mod_lt _ (by omega), e2⟩
abbrev tdraw (x : Int32) (n : Nat) : Nat := tn (drawF x (nI n))
theorem tdraw_eq {x : Int32} (h : ¬ x < 0) {n : Nat} (h1 : 1 ≤ n) (h2 : n < 2 ^ 31) : drawF x (nI n) = nI (tdraw x n) ∧ tdraw x n < n := by
  obtain ⟨j, hj, e⟩ := drawF_in h h1 h2
  have e3 : tdraw x n = j := by
    show (drawF x (nI n)).toNatClampNeg = j
    rw [e]; exact nI_clamp (by omega)
  rw [e3]; exact ⟨e, hj⟩
noncomputable def dayR (σ : St) (Hn B : Nat) (sd : Int32) : Nat → St × Int32
  | 0 => (σ, sd)
  | k + 1 => if (dayR σ Hn B sd k).1 3 k = 1 then (if drawF (seedF (dayR σ Hn B sd k).2) (nI 10) < (dayR σ Hn B sd k).1 2 k then (buryS (dayR σ Hn B sd k).1 Hn B k, seedF (dayR σ Hn B sd k).2) else ((dayR σ Hn B sd k).1, seedF (dayR σ Hn B sd k).2)) else dayR σ Hn B sd k
noncomputable def gaveS (σ : St) (Hn B : Nat) (sd : Int32) : St × Int32 := if 0 < B then (giftS σ (tdraw (seedF sd) B) (tdraw (seedF (seedF sd)) Hn), seedF (seedF sd)) else (σ, sd)
noncomputable def yearS (σ : St) (Hn B : Nat) (sd : Int32) : St × Int32 := (up2 (gaveS (dayR σ Hn B sd Hn).1 Hn B (dayR σ Hn B sd Hn).2).1 0 6 (σ 0 6 + 1), (gaveS (dayR σ Hn B sd Hn).1 Hn B (dayR σ Hn B sd Hn).2).2)
section DAY
variable {σ τ : St} {Hn B k : Nat} {sd w : Int32}
theorem dayR_n (h : dayR σ Hn B sd k = (τ, w)) (c : ¬ τ 3 k = 1) : dayR σ Hn B sd (k + 1) = (τ, w) := by rw [dayR, h, if_neg c]
theorem dayR_s (h : dayR σ Hn B sd k = (τ, w)) (c : τ 3 k = 1) (d : ¬ drawF (seedF w) (nI 10) < τ 2 k) : dayR σ Hn B sd (k + 1) = (τ, seedF w) := by rw [dayR, h, if_pos c, if_neg d]
theorem dayR_d (h : dayR σ Hn B sd k = (τ, w)) (c : τ 3 k = 1) (d : drawF (seedF w) (nI 10) < τ 2 k) : dayR σ Hn B sd (k + 1) = (buryS τ Hn B k, seedF w) := by rw [dayR, h, if_pos c, if_pos d]
theorem buryS_6 (j : Nat) : buryS σ Hn B j 0 6 = σ 0 6 := by
  show (buryR σ _ _ _ B) 0 6 = σ 0 6
  rw [buryR_num 0 (Or.inl (by decide))]
theorem giftS_6 (b t : Nat) : giftS σ b t 0 6 = σ 0 6 := by
  unfold giftS
  split
  · rfl
  · rfl
theorem dayR_6 : ∀ k : Nat, (dayR σ Hn B sd k).1 0 6 = σ 0 6
  | 0 => rfl
  | k + 1 => by
    rw [dayR]
    split
    · split
      · show buryS _ Hn B k 0 6 = _
        rw [buryS_6]; exact dayR_6 k
      · exact dayR_6 k
    · exact dayR_6 k
theorem gaveS_6 : (gaveS σ Hn B sd).1 0 6 = σ 0 6 := by
  unfold gaveS
  split
  · exact giftS_6 _ _
  · rfl
end DAY
theorem Inv.day {σ : St} {Hn B L C V M : Nat} (hI : Inv σ Hn B L C V M) (sd : Int32) : ∀ k : Nat, Inv (dayR σ Hn B sd k).1 Hn B L C V M
  | 0 => hI
  | k + 1 => by
    rw [dayR]
    split
    · split
      · exact (Inv.day hI sd k).buried k
      · exact Inv.day hI sd k
    · exact Inv.day hI sd k
theorem Inv.gave {σ : St} {Hn B L C V M : Nat} (hI : Inv σ Hn B L C V M) (hH : 1 ≤ Hn) (sd : Int32) : Inv (gaveS σ Hn B sd).1 Hn B L C V M := by
  have hj : Hn ≤ 4 := hI.1.2.2.2.2.2.2.2.2.2.2.1
  unfold gaveS
  split
  · have h1 := (tdraw_eq (x := seedF (seedF sd)) (seedF_pos _) hH (by omega)).2
    exact hI.gift _ _ (by omega)
  · exact hI
theorem Inv.year {σ : St} {Hn B L C V M : Nat} (hI : Inv σ Hn B L C V M) (hH : 1 ≤ Hn) (sd : Int32) : Inv (yearS σ Hn B sd).1 Hn B L C V M := ((hI.day sd Hn).gave hH _).num6 _
def upR (σ : St) (i : Nat) (f : Nat → Int32) : St := fun a => if a = i then f else σ a
theorem nI_z {B : Nat} (h : nI B ≤ 0) (hB : B < 2 ^ 31) : B = 0 := by
  rcases Nat.eq_zero_or_pos B with h1 | h1
  · exact h1
  · exact absurd h (nI_nle h1 hB)
theorem nI_nz {B : Nat} (h : ¬ nI B ≤ 0) : 0 < B := by
  rcases Nat.eq_zero_or_pos B with h1 | h1
  · subst h1; exact absurd (by decide) h
  · exact h1
theorem yearS_n {σ τ : St} {Hn B : Nat} {sd w : Int32} (hd : dayR σ Hn B sd Hn = (τ, w)) (hB : B = 0) : (up2 τ 0 6 (τ 0 6 + nI 1), w) = yearS σ Hn B sd := by
  have h6 := dayR_6 (σ := σ) (Hn := Hn) (B := B) (sd := sd) Hn
  rw [hd] at h6
  have h6' : τ 0 6 = σ 0 6 := h6
  unfold yearS gaveS
  rw [hd, if_neg (show ¬ 0 < B by omega), h6']
  rfl
theorem yearS_y {σ τ : St} {Hn B : Nat} {sd w : Int32} (hd : dayR σ Hn B sd Hn = (τ, w)) (hB : 0 < B) : (up2 (giftS τ (tdraw (seedF w) B) (tdraw (seedF (seedF w)) Hn)) 0 6 ((giftS τ (tdraw (seedF w) B) (tdraw (seedF (seedF w)) Hn)) 0 6 + nI 1), seedF (seedF w)) = yearS σ Hn B sd := by
  have h6 := dayR_6 (σ := σ) (Hn := Hn) (B := B) (sd := sd) Hn
  rw [hd] at h6
  have h6' : τ 0 6 = σ 0 6 := h6
  unfold yearS gaveS
  rw [hd, if_pos hB, giftS_6, h6']
  rfl
end
section
/-! ===== what each call answers ===== -/
noncomputable def zif {α : Type} (P : Prop) (a b : α) : α := @ite _ P (Classical.propDecidable P) a b
theorem zif_t {α : Type} {P : Prop} {a b : α} (h : P) : zif P a b = a := by unfold zif; rw [if_pos h]
theorem zif_f {α : Type} {P : Prop} {a b : α} (h : ¬ P) : zif P a b = b := by unfold zif; rw [if_neg h]
theorem tn_nI {j : Nat} (h : j < 2 ^ 31) : tn (nI j) = j := nI_clamp h
/-- a number from a to b -/
def inP (a b : Nat) (x : Int32) : Prop := ∃ j, a ≤ j ∧ j ≤ b ∧ x = nI j
theorem inP_iff {a b : Nat} {x : Int32} (ha : a < 2 ^ 31) (hb : b < 2 ^ 31) : (nI a ≤ x ∧ x ≤ nI b) ↔ inP a b x := by
  constructor
  · rintro ⟨h1, h2⟩
    rcases pk_ix x (n := b + 1 - 1) (by omega) with h | h | ⟨j, hj, rfl⟩
    · have p1 := Int32.le_iff_toInt_le.mp h1
      have p2 := Int32.lt_iff_toInt_lt.mp h
      rw [nI_toInt ha] at p1
      rw [Int32.toInt_zero] at p2
      omega
    · have p1 := Int32.le_iff_toInt_le.mp h
      have p2 := Int32.le_iff_toInt_le.mp h2
      have e : x = nI b := by
        apply Int32.toInt_inj.mp
        have : b + 1 - 1 = b := by omega
        rw [this] at p1
        omega
      subst e
      exact ⟨b, (nI_leI ha hb).mp h1, Nat.le_refl _, rfl⟩
    · exact ⟨j, (nI_leI ha (by omega)).mp h1, by omega, rfl⟩
  · rintro ⟨j, h1, h2, rfl⟩
    exact ⟨nI_le h1 (by omega), nI_le h2 hb⟩
theorem inP_nI {a b j : Nat} (h1 : a ≤ j) (h2 : j ≤ b) : inP a b (nI j) := ⟨j, h1, h2, rfl⟩
theorem inP_of {a b j : Nat} (h : inP a b (nI j)) (hj : j < 2 ^ 31) (hb : b < 2 ^ 31) : a ≤ j ∧ j ≤ b := by
  obtain ⟨i, h1, h2, e⟩ := h
  rw [(nI_eq hj (by omega)).mp e]; exact ⟨h1, h2⟩
def suchP (k kd : Int32) : Prop := kd = 0 ∨ kd = k ∨ (kd = 3 ∧ k = 4)
def lordA (σ : St) (j : Nat) : Nat := lordN (tn (σ 0 0)) (tn (σ 1 j))
def churchA (σ : St) (j : Nat) : Nat := churchN (tn (σ 0 1)) (tn (σ 1 j))
def aboutN (σ : St) (B j : Nat) : Nat → Int32
  | 0 => σ 1 j
  | 1 => σ 2 j
  | 2 => σ 3 j
  | 3 => σ 4 j
  | 4 => ownR σ (nI j) B
  | 5 => heldF σ B (nI j)
  | 6 => nI (lordA σ j)
  | 7 => nI (churchA σ j)
  | _ => if σ 3 j = 1 then lossF σ B j (heldF σ B (nI j)) else 0
noncomputable def aboutF (σ : St) (Hn B : Nat) (x what : Int32) : Int32 := zif (hasP Hn x) (zif (hasP 9 what) (aboutN σ B (tn x) (tn what)) (-102)) (-101)
noncomputable def asF (σ : St) (Hn : Nat) (x kd : Int32) : Int32 := zif (hasP Hn x) (zif (inP 0 4 kd) (zif (suchP (σ 1 (tn x)) kd) x (-1)) (-102)) (-101)
noncomputable def beastOfF (σ : St) (B : Nat) (x what : Int32) : Int32 := zif (hasP B x) (zif (hasP 5 what) (σ (tn what + 5) (tn x)) (-102)) (-101)
def safeN (σ : St) (B j w : Nat) : Int32 := if w = 0 then (if fewF σ B j = -1 then -1 else nI (ones (tn (fewF σ B j)))) else fewF σ B j
noncomputable def safeF (σ : St) (Hn B : Nat) (x what : Int32) : Int32 := zif (hasP Hn x) (zif (inP 0 1 what) (zif (σ 3 (tn x) = 1) (safeN σ B (tn x) (tn what)) (-103)) (-102)) (-101)
noncomputable def givingF (σ : St) (Hn B : Nat) (x y : Int32) : Int32 := zif (hasP Hn x) (zif (inP 1 4 y) (zif (σ 3 (tn x) = 1) (giveF σ B (tn x) (tn y)) (-103)) (-102)) (-101)
def meanUp (σ : St) (B j y : Nat) : Nat := tn (lostR σ B j (giveF σ B j y) y)
def meanN (σ : St) (B j y p : Nat) : Int32 := nI ((if p = 0 then meanUp σ B j y else 10 ^ y) / Nat.gcd (meanUp σ B j y) (10 ^ y))
noncomputable def meanF (σ : St) (Hn B : Nat) (x y p : Int32) : Int32 := zif (hasP Hn x) (zif (inP 1 4 y ∧ inP 0 1 p) (zif (σ 3 (tn x) = 1) (meanN σ B (tn x) (tn y) (tn p)) (-103)) (-102)) (-101)
def cntN (σ : St) (Hn B : Nat) (ξ : Nat → Int32) : Nat → Int32
  | 0 => σ 0 0
  | 1 => σ 0 1
  | 2 => σ 0 2
  | 3 => σ 0 3
  | 4 => nI Hn
  | 5 => aliveR σ Hn
  | 6 => nI B
  | 7 => thereR σ B
  | 8 => σ 0 6
  | 9 => σ 0 7
  | 10 => ξ 0
  | _ => ξ 1
noncomputable def countF (σ : St) (Hn B : Nat) (ξ : Nat → Int32) (w : Int32) : Int32 := zif (hasP 12 w) (cntN σ Hn B ξ (tn w)) (-102)
/-! calls that change -/
noncomputable def holderF (σ : St) (Hn : Nat) (kd d : Int32) : Int32 × St := zif (inP 0 4 kd ∧ inP 0 9 d) (if Hn = 4 then (-104, σ) else (nI Hn, holdS σ Hn kd d)) (-102, σ)
noncomputable def heirF (σ : St) (Hn : Nat) (x h : Int32) : Int32 × St := zif (hasP Hn x ∧ h ≠ x ∧ (h = -1 ∨ hasP Hn h)) (σ 4 (tn x), up2 σ 4 (tn x) h) (-101, σ)
noncomputable def beastF (σ : St) (Hn B : Nat) (x w : Int32) : Int32 × St := zif (hasP Hn x) (zif (inP 1 99 w) (zif (σ 3 (tn x) = 1) (if B = 6 then (-104, σ) else (nI B, beastS σ B x w)) (-103, σ)) (-102, σ)) (-101, σ)
noncomputable def giveCF (σ : St) (Hn B : Nat) (b t : Int32) : Int32 × St := zif (hasP B b ∧ hasP Hn t) (zif (giveP σ (tn b) (tn t)) (σ 6 (tn b), giftS σ (tn b) (tn t)) (-103, σ)) (-101, σ)
noncomputable def dieF (σ : St) (Hn B : Nat) (x : Int32) : Int32 × St := zif (hasP Hn x) (zif (σ 3 (tn x) = 1) (lossF σ B (tn x) (heldF σ B (nI (tn x))), buryS σ Hn B (tn x)) (-103, σ)) (-101, σ)
noncomputable def rollF (σ : St) (B : Nat) (b k : Int32) : Int32 × St := zif (hasP B b) (zif (k = -1 ∨ inP 0 1 k) (σ 9 (tn b), up2 σ 9 (tn b) k) (-102, σ)) (-101, σ)
/-! bounds -/
theorem worthR_b {σ : St} {set : Int32} {B : Nat} (h : ∀ b, b < B → ∃ w, 1 ≤ w ∧ w ≤ 99 ∧ σ 5 b = nI w) : ∀ b : Nat, b ≤ B → ∃ w, w ≤ 99 * b ∧ worthR σ set b = nI w
  | 0, _ => ⟨0, Nat.le_refl _, rfl⟩
  | b + 1, hb => by
    obtain ⟨w, h1, h2⟩ := worthR_b (σ := σ) (set := set) h b (by omega)
    obtain ⟨v, g1, g2, g3⟩ := h b (by omega)
    rw [worthR]
    split
    · exact ⟨w + v, by omega, by rw [h2, g3, nI_add]⟩
    · exact ⟨w, by omega, h2⟩
theorem loss_b {σ : St} {Hn B L C V M : Nat} (hI : Inv σ Hn B L C V M) (j : Nat) (set : Int32) : ∃ w, w ≤ 594 ∧ lossF σ B j set = nI w := by
  have jB : B ≤ 6 := hI.1.2.2.2.2.2.2.2.2.2.2.2
  obtain ⟨w, h1, h2⟩ := worthR_b (set := takenF σ B j set) hI.2.2.2.2.2.1 B (Nat.le_refl _)
  exact ⟨w, by omega, h2⟩
theorem still_b {σ : St} {j d : Nat} (hd : d ≤ 9) (e : σ 2 j = nI d) : ∀ k : Nat, ∃ s, s ≤ 10 ^ k ∧ stillR σ j k = nI s
  | 0 => ⟨1, Nat.le_refl _, rfl⟩
  | k + 1 => by
    obtain ⟨s, h1, h2⟩ := still_b (σ := σ) hd e k
    refine ⟨s * (10 - d), ?_, ?_⟩
    · rw [Nat.pow_succ]
      exact Nat.mul_le_mul h1 (by omega)
    · rw [stillR, h2, e]
      show nI s * (nI 10 - nI d) = _
      rw [pk_sub (by omega), pk_mul]
theorem lost_b {σ : St} {Hn B L C V M : Nat} (hI : Inv σ Hn B L C V M) {j : Nat} (hj : j < 4) (gift : Int32) : ∀ k : Nat, ∃ u, u ≤ k * 5346 * 10 ^ k ∧ lostR σ B j gift k = nI u
  | 0 => ⟨0, Nat.le_refl _, rfl⟩
  | k + 1 => by
    obtain ⟨u, h1, h2⟩ := lost_b hI hj gift k
    obtain ⟨d, hd, e⟩ := hI.2.2.1 j hj
    obtain ⟨s, s1, s2⟩ := still_b hd e k
    obtain ⟨w, w1, w2⟩ := loss_b hI j (heldL σ B (nI j) (nI k) gift)
    refine ⟨u * 10 + s * d * w, ?_, ?_⟩
    · have a1 : s * d * w ≤ 10 ^ k * 9 * 594 := Nat.mul_le_mul (Nat.mul_le_mul s1 hd) w1
      have a2 : 10 ^ (k + 1) = 10 * 10 ^ k := by rw [Nat.pow_succ, Nat.mul_comm]
      have a3 : (k + 1) * 5346 * 10 ^ (k + 1) = 10 * (k * 5346 * 10 ^ k) + 53460 * 10 ^ k := by
        rw [a2, Nat.add_mul, Nat.add_mul, Nat.one_mul]
        have b1 : k * 5346 * (10 * 10 ^ k) = 10 * (k * 5346 * 10 ^ k) := by rw [Nat.mul_left_comm]
        have b2 : 5346 * (10 * 10 ^ k) = 53460 * 10 ^ k := by rw [← Nat.mul_assoc]
        rw [b1, b2]
      have a4 : 10 ^ k * 9 * 594 = 5346 * 10 ^ k := by rw [Nat.mul_assoc, Nat.mul_comm]
      rw [a3]
      omega
    · rw [lostR, h2, s2, e, w2]
      show nI u * nI 10 + nI s * nI d * nI w = _
      rw [pk_mul, pk_mul, pk_mul, nI_add]
theorem lost_4 {σ : St} {Hn B L C V M : Nat} (hI : Inv σ Hn B L C V M) {j : Nat} (hj : j < 4) (gift : Int32) {y : Nat} (hy : y ≤ 4) : ∃ u, u < 2 ^ 30 ∧ lostR σ B j gift y = nI u := by
  obtain ⟨u, h1, h2⟩ := lost_b hI hj gift y
  refine ⟨u, ?_, h2⟩
  have h3 : y * 5346 * 10 ^ y ≤ 4 * 5346 * 10 ^ 4 := Nat.mul_le_mul (Nat.mul_le_mul hy (Nat.le_refl _)) (Nat.pow_le_pow_right (by decide) hy)
  omega
/-! the common divisor: both ways end in time -/
theorem gcd_fast : ∀ (n a b : Nat), b < 2 ^ n → b ≠ 0 → a % b ≠ 0 → b % (a % b) < 2 ^ n / 2 := by
  intro n a b h0 h1 h2
  have h3 : a % b < b := Nat.mod_lt _ (by omega)
  rcases Nat.lt_or_ge (b / 2) (a % b) with h | h
  · have h4 : b % (a % b) = b - a % b := by
      rw [Nat.mod_eq_sub_mod (by omega), Nat.mod_eq_of_lt (by omega)]
    omega
  · have h4 : b % (a % b) < a % b := Nat.mod_lt _ (by omega)
    omega
theorem gcd_step (a b : Nat) : Nat.gcd a b = Nat.gcd b (a % b) := by
  rw [Nat.gcd_comm a b, Nat.gcd_rec b a, Nat.gcd_comm]
def cdI (k a b : Nat) : Prop := k = 0 ∨ (b ≤ a ∧ a * b * 2 ^ k ≤ 2 ^ 41)
theorem cdI_s {k a b : Nat} (h : cdI k a b) (hb : b ≠ 0) (h0 : k = 0 → b < 2 ^ 20) : cdI (k + 1) b (a % b) := by
  have hr : a % b < b := Nat.mod_lt _ (by omega)
  refine Or.inr ⟨by omega, ?_⟩
  rcases h with h | ⟨h1, h2⟩
  · subst h
    have h3 := h0 rfl
    have h4 : b * (a % b) ≤ 2 ^ 20 * 2 ^ 20 := Nat.mul_le_mul (by omega) (by omega)
    omega
  · have e1 : a % b + b ≤ a := by
      have := Nat.mod_add_div a b
      have h5 : 1 ≤ a / b := (Nat.one_le_div_iff (by omega)).mpr h1
      have h6 : b * 1 ≤ b * (a / b) := Nat.mul_le_mul (Nat.le_refl _) h5
      omega
    have e2 : 2 * (a % b) ≤ a := by omega
    have e3 : b * (a % b) * 2 ^ (k + 1) = b * (2 * (a % b)) * 2 ^ k := by
      rw [Nat.pow_succ, Nat.mul_comm (2 ^ k) 2, ← Nat.mul_assoc, Nat.mul_assoc b, Nat.mul_comm (a % b) 2]
    rw [e3]
    refine Nat.le_trans (Nat.mul_le_mul ?_ (Nat.le_refl _)) h2
    rw [Nat.mul_comm a b]
    exact Nat.mul_le_mul (Nat.le_refl _) e2
theorem cdI_end {k a b : Nat} (h : cdI k a b) (hk : 1000 ≤ k) : b = 0 := by
  rcases h with h | ⟨h1, h2⟩
  · omega
  · rcases Nat.eq_zero_or_pos b with h3 | h3
    · exact h3
    · have h4 : 1 * 1 ≤ a * b := Nat.mul_le_mul (by omega) h3
      have h5 : 2 ^ 1000 ≤ 2 ^ k := Nat.pow_le_pow_right (by decide) hk
      have h6 : 1 * 2 ^ k ≤ a * b * 2 ^ k := Nat.mul_le_mul (by omega) (Nat.le_refl _)
      have h7 : (2 : Nat) ^ 41 < 2 ^ 1000 := Nat.pow_lt_pow_right (by decide) (by decide)
      omega
theorem gcd_pos {a b : Nat} (h : 0 < b) : 0 < Nat.gcd a b := Nat.gcd_pos_of_pos_right _ h
section ZN
variable {p : Program} {l : Launch} {e : Env} {R : Room} {s : State} {m : MethodId} {args : Array Value} {below : List Frame} {meth : Method} {c : Code} {H : Heap} {locs : List Loc} {cells slots : Nat} {Q : State → Prop}
variable {cc : ByteArray} {pc : Nat} {ls : Array Slot} {rest : List Value}
theorem z_if_eq (hexec : p.tables.exec = Jvm.exec) (hb : c.code = cc) {a : Nat} {off : Int} {tgt : Nat} (ha : a < 2 ^ 31) (hdg : decode cc pc = .ok (.ifCond .eq off, 3)) (ht : (pc : Int) + off = (tgt : Int))
    (kt : a = 0 → W p l e R s m args below meth c H locs cells slots Q (F0 m tgt ls rest)) (kf : a ≠ 0 → W p l e R s m args below meth c H locs cells slots Q (F0 m (pc + 3) ls rest)) : W p l e R s m args below meth c H locs cells slots Q (F0 m pc ls (.int (nI a) :: rest)) :=
  lv_if_eq hexec hb hdg ht (fun h => kt ((nI_eq ha (by decide)).mp (h.trans nI_0'))) (fun h => kf (fun q => h (by rw [q]; rfl)))
theorem z_if_ne (hexec : p.tables.exec = Jvm.exec) (hb : c.code = cc) {a : Nat} {off : Int} {tgt : Nat} (ha : a < 2 ^ 31) (hdg : decode cc pc = .ok (.ifCond .ne off, 3)) (ht : (pc : Int) + off = (tgt : Int))
    (kt : a ≠ 0 → W p l e R s m args below meth c H locs cells slots Q (F0 m tgt ls rest)) (kf : a = 0 → W p l e R s m args below meth c H locs cells slots Q (F0 m (pc + 3) ls rest)) : W p l e R s m args below meth c H locs cells slots Q (F0 m pc ls (.int (nI a) :: rest)) :=
  lv_if_ne hexec hb hdg ht (fun h => kt (fun q => h (by rw [q]; rfl))) (fun h => kf ((nI_eq ha (by decide)).mp (h.trans nI_0')))
end ZN
section ABOUT
variable {σ : St} {Hn B : Nat}
theorem aboutF_in {j w : Nat} (hj : j < Hn) (hH : Hn ≤ 4) (hw : w < 9) : aboutF σ Hn B (nI j) (nI w) = aboutN σ B j w := by
  unfold aboutF
  rw [zif_t (hasP_nI hj), zif_t (hasP_nI hw), tn_nI (by omega), tn_nI (by omega)]
theorem aboutF_u {x w : Int32} (h : ¬ hasP Hn x) : aboutF σ Hn B x w = -101 := by unfold aboutF; rw [zif_f h]
theorem aboutF_o {j : Nat} {w : Int32} (hj : j < Hn) (h : ¬ hasP 9 w) : aboutF σ Hn B (nI j) w = -102 := by unfold aboutF; rw [zif_t (hasP_nI hj), zif_f h]
theorem lordA_eq {j L K : Nat} (iL : σ 0 0 = nI L) (hK : σ 1 j = nI K) (hL : L < 2 ^ 31) (hK4 : K < 2 ^ 31) : lordA σ j = lordN L K := by unfold lordA; rw [iL, hK, tn_nI hL, tn_nI hK4]
theorem churchA_eq {j C K : Nat} (iC : σ 0 1 = nI C) (hK : σ 1 j = nI K) (hC : C < 2 ^ 31) (hK4 : K < 2 ^ 31) : churchA σ j = churchN C K := by unfold churchA; rw [iC, hK, tn_nI hC, tn_nI hK4]
theorem beastOfF_in {b w : Nat} (hb : b < B) (hB : B ≤ 6) (hw : w < 5) : beastOfF σ B (nI b) (nI w) = σ (w + 5) b := by
  unfold beastOfF
  rw [zif_t (hasP_nI hb), zif_t (hasP_nI hw), tn_nI (by omega), tn_nI (by omega)]
theorem beastOfF_u {x w : Int32} (h : ¬ hasP B x) : beastOfF σ B x w = -101 := by unfold beastOfF; rw [zif_f h]
theorem beastOfF_o {b : Nat} {w : Int32} (hb : b < B) (h : ¬ hasP 5 w) : beastOfF σ B (nI b) w = -102 := by unfold beastOfF; rw [zif_t (hasP_nI hb), zif_f h]
theorem countF_in {ξ : Nat → Int32} {w : Nat} (hw : w < 12) : countF σ Hn B ξ (nI w) = cntN σ Hn B ξ w := by
  unfold countF
  rw [zif_t (hasP_nI hw), tn_nI (by omega)]
theorem al_1 {j : Nat} (h : σ 3 j = 0 ∨ σ 3 j = 1) (c : ¬ σ 3 j = 0) : σ 3 j = 1 := h.resolve_left c
theorem al_0 {j : Nat} (c : σ 3 j = 0) : ¬ σ 3 j = 1 := by rw [c]; decide
theorem safeF_in {j w : Nat} (hj : j < Hn) (hH : Hn ≤ 4) (hw : w ≤ 1) (ha : σ 3 j = 1) : safeF σ Hn B (nI j) (nI w) = safeN σ B j w := by
  unfold safeF
  rw [zif_t (hasP_nI hj), zif_t (inP_nI (Nat.zero_le _) hw), tn_nI (by omega), tn_nI (by omega), zif_t ha]
theorem givingF_in {j y : Nat} (hj : j < Hn) (hH : Hn ≤ 4) (h1 : 1 ≤ y) (h4 : y ≤ 4) (ha : σ 3 j = 1) : givingF σ Hn B (nI j) (nI y) = giveF σ B j y := by
  unfold givingF
  rw [zif_t (hasP_nI hj), zif_t (inP_nI h1 h4), tn_nI (by omega), tn_nI (by omega), zif_t ha]
theorem meanF_in {j y p : Nat} (hj : j < Hn) (hH : Hn ≤ 4) (h1 : 1 ≤ y) (h4 : y ≤ 4) (hp : p ≤ 1) (ha : σ 3 j = 1) : meanF σ Hn B (nI j) (nI y) (nI p) = meanN σ B j y p := by
  unfold meanF
  rw [zif_t (hasP_nI hj), zif_t ⟨inP_nI h1 h4, inP_nI (Nat.zero_le _) hp⟩, tn_nI (by omega), tn_nI (by omega), tn_nI (by omega), zif_t ha]
end ABOUT
abbrev xo (xd ma ka ta : Nat → Nat) (ξ : Nat → Int32) (hi : Int32) : Nat × va_E := (xd 0, .inr (2, [.ref (ma 0), .ref (ka 0), .ref (ta 0), .ref (xd 2), .ref (xd 1), .int (ξ 0), .int (ξ 1), .int hi]))
end
section
/-! ===== base: the two rows that are written out; long answers ===== -/
def loF (k : Nat) : Nat := if k = 3 then 59 else 48
def hiF (k : Nat) : Nat := if k < 2 then 51 else if k = 2 then 53 else if k = 3 then 59 else 57
def lawE (tf tt : Nat) (U : State) : Prop := va_Z "BestBeast" "LAW_FROM" "[C" (.ref tf) (fun _ => False) U U.heap ∧ va_T .char tf 5 (fun j => .int (nI (loF j))) (fun _ => False) U U.heap ∧ va_Z "BestBeast" "LAW_TO" "[C" (.ref tt) (fun _ => False) U U.heap ∧ va_T .char tt 5 (fun j => .int (nI (hiF j))) (fun _ => False) U U.heap
theorem lawE.calling {tf tt : Nat} (U : State) (g : JFrame) (mk : MethodId) (a : Array Value) (h : lawE tf tt U) : lawE tf tt (U.calling g mk a) := ⟨va_Z.moved (u := U) (Vm.Alike.refl U.vm) h.1, va_T.moved (u := U) (Vm.Alike.refl U.vm) h.2.1, va_Z.moved (u := U) (Vm.Alike.refl U.vm) h.2.2.1, va_T.moved (u := U) (Vm.Alike.refl U.vm) h.2.2.2⟩
theorem lawE.at {tf tt : Nat} {s U : State} {H : Heap} (h : lawE tf tt s) (hH : H = s.heap) (hU : U.heap = H) (hW : s.WarmedH U.vm) : lawE tf tt U := by
  subst hH
  unfold lawE
  rw [hU]
  exact ⟨va_Z.moved hW.alike h.1, va_T.moved hW.alike h.2.1, va_Z.moved hW.alike h.2.2.1, va_T.moved hW.alike h.2.2.2⟩
/-- how much of the page is a law's: so many letters, each at its place -/
def goodP (k : Nat) (c : Int32) : Prop := k < 5 ∧ inP (loF k) (hiF k) c
noncomputable def faultR (P : Nat → Int32) : Nat → Nat
  | 0 => 0
  | k + 1 => zif (faultR P k = k ∧ goodP k (P k)) (k + 1) (faultR P k)
theorem faultR_le (P : Nat → Int32) : ∀ k : Nat, faultR P k ≤ k
  | 0 => Nat.le_refl _
  | k + 1 => by
    rw [faultR]
    by_cases h : faultR P k = k ∧ goodP k (P k)
    · rw [zif_t h]; exact Nat.le_refl _
    · rw [zif_f h]; exact Nat.le_succ_of_le (faultR_le P k)
theorem faultR_y {P : Nat → Int32} {k : Nat} (h : faultR P k = k) (c : goodP k (P k)) : faultR P (k + 1) = k + 1 := by rw [faultR, zif_t ⟨h, c⟩]
theorem faultR_stop {P : Nat → Int32} {k : Nat} (h : faultR P k = k) (c : ¬ goodP k (P k)) : ∀ m : Nat, k < m → faultR P m = k
  | 0, hm => absurd hm (by omega)
  | m + 1, hm => by
    rcases Nat.lt_or_ge k m with h1 | h1
    · have ih := faultR_stop h c m h1
      rw [faultR, ih, zif_f (fun z => absurd z.1 (by omega))]
    · obtain rfl : k = m := by omega
      rw [faultR, zif_f (fun z => c z.2), h]
theorem faultR_5 {P : Nat → Int32} (h : faultR P 5 = 5) : ∀ i, i < 5 → goodP i (P i) := by
  have key : ∀ m : Nat, faultR P m = m → ∀ i, i < m → goodP i (P i) := by
    intro m
    induction m with
    | zero => intro _ i hi; exact absurd hi (by omega)
    | succ m ih =>
      intro hm i hi
      rw [faultR] at hm
      by_cases c : faultR P m = m ∧ goodP m (P m)
      · rcases Nat.lt_succ_iff_lt_or_eq.mp hi with h1 | rfl
        · exact ih c.1 i h1
        · exact c.2
      · rw [zif_f c] at hm
        have := faultR_le P m
        omega
  exact key 5 h
noncomputable def letterF (P ξ : Nat → Int32) (n : Nat) (code : Int32) : Int32 × (Nat → Int32) × (Nat → Int32) := zif (inP 1 126 code) (if n = 8 then (-104, P, ξ) else (nI (n + 1), upd P n code, upd ξ 0 (nI (n + 1)))) (-102, P, ξ)
def lawS (σ : St) (P : Nat → Int32) : St := up2 (up2 (up2 (up2 σ 0 0 (P 0 - nI 48)) 0 1 (P 1 - nI 48)) 0 2 (P 2 - nI 48)) 0 3 (P 4 - nI 48)
noncomputable def lawF (σ : St) (P ξ : Nat → Int32) (n : Nat) : Int32 × St × (Nat → Int32) := zif (n = 5 ∧ faultR P 5 = 5) (ξ 1 + nI 1, lawS σ P, upd (upd ξ 0 (nI 0)) 1 (ξ 1 + nI 1)) (-103, σ, ξ)
theorem rollP_iff {k : Int32} : ((-1) ≤ k ∧ k ≤ nI 1) ↔ (k = -1 ∨ inP 0 1 k) := by
  have m1 : (-1 : Int32).toInt = -1 := by decide
  constructor
  · rintro ⟨h1, h2⟩
    have p1 := Int32.le_iff_toInt_le.mp h1
    rw [m1] at p1
    rcases Int.lt_or_le k.toInt 0 with h | h
    · left
      apply Int32.toInt_inj.mp
      rw [m1]; omega
    · right
      refine (inP_iff (by decide) (by decide)).mp ⟨?_, h2⟩
      rw [Int32.le_iff_toInt_le, nI_toInt (by decide)]
      exact h
  · rintro (rfl | ⟨j, h1, h2, rfl⟩)
    · exact ⟨Int32.le_refl _, by decide⟩
    · refine ⟨?_, nI_le h2 (by decide)⟩
      rw [Int32.le_iff_toInt_le, nI_toInt (by omega), m1]
      omega
def vpL (post : Int64 → Prop) : Array Value → State → Outcome → State → Prop := fun _ st o t => ∃ r : Int64, o = .returned (some (.long r)) ∧ post r ∧ t.heap = st.heap
theorem z_pureL {l : Launch} {y : MethodName} {ws ws' : List Cond} {rm : Room} {cc : ByteArray} {maxL : Nat} {av : List Value} {B : State → Prop} {post : Int64 → Prop} (hy : plainName y.cls = true) (hw : ws = Cond.code y cc maxL (some .long) :: ws') (hlen : (lg_sl av).length ≤ maxL)
    (body : ∀ (p : Program) (e : Env) (s : State) (m : MethodId) (below : List Frame) (meth : Method) (c : Code) (Q : State → Prop) (ls : Array Slot), p.tables.exec = Jvm.exec → c.code = cc → c.maxLocals = maxL → s.vm.findClass y.cls = some m.cls → (∀ w ∈ ws, w.before av.toArray s = true) → B s →
      (∀ (v : Int64) (pc : Nat) (ls : Array Slot), decode cc pc = .ok (.lreturn, 1) → post v → W p l e rm s m av.toArray below meth c s.heap [] 0 0 Q (F0 m pc ls [.long v])) →
      lv_has ls maxL (lv_args 0 av) → W p l e rm s m av.toArray below meth c s.heap [] 0 0 Q (F0 m 0 ls [])) : Met l y ws rm (va_Pc av B) (vpL post) 0 0 (fun _ => False) := by
  refine Met.ofW (cc := cc) (maxL := maxL) (ret := some .long) hy hw ?_
  intro p e s m args below meth c s₁ Bd hml hv
  obtain ⟨rfl, hB⟩ := hv
  have hts := atoms_spec (ws := ws) Bd.pre
  have hown : s.vm.findClass y.cls = some m.cls := findClass_of_methodNamed Bd.named
  have hl := lv_entry av (n := maxL) hlen
  rw [lg_entry_eq]
  refine body p e s m below meth c _ _ Bd.exec Bd.bytes hml hown hts hB ?_ hl
  intro v pc ls hd hp
  exact W.lret Bd.exec Bd.bytes Bd.returns (fun t ht hW => ⟨v, rfl, hp, ht⟩) (fun q h => by cases h) hd Bd.notSynchronized
section ZE
variable {p : Program} {l : Launch} {e : Env} {R : Room} {s : State} {m : MethodId} {args : Array Value} {below : List Frame} {meth : Method} {c : Code} {H : Heap} {locs : List Loc} {cells slots : Nat} {Q : State → Prop}
variable {cc : ByteArray} {pc : Nat} {ls : Array Slot} {rest : List Value} {D : va_G} {cl : List vw_C}
variable {y : MethodName} {bytes : ByteArray} {maxL nL n index : Nat} {ret : Option FieldType} {ws2 : List Cond} {rm : Room} {Ts : List Cond} {own C : String} {b : Addr} {As st0 : List Value} {wc : va_W} {tc : List (ClassId × FieldType)}
theorem z_callVE {post : Int32 → Prop} {E : State → Prop} (S : CallFix p m c cc nL s args Ts own) (hM : Met l y ws2 rm (va_Pc (Value.ref b :: As) (fun U => (va_P D cl wc U.heap ∧ va_K D cl tc U) ∧ E U)) (vp_Si post) 0 0 (fun _ => False)) (cw : CallW R s args own C index y bytes maxL ret ws2 rm 0 0 n)
    (hEb : ∀ (U : State) (g : JFrame) (mk : MethodId) (a : Array Value), E U → E (U.calling g mk a)) (hEs : ∀ U : State, U.heap = H → s.WarmedH U.vm → E U)
    (hP : va_P D cl wc H) (hK : va_K D cl tc s) (hrec : ∃ cell : Cell, H[b]? = some cell ∧ cell.vm.isStatics = false ∧ s.vm.findClass C = some cell.cls) (hn : As.length = n) (hsz : ls.size = nL) (hst : st0 = As.reverse ++ .ref b :: rest) (hcat : (rest.map fun v => v.category).sum ≤ 8) (hcs : cells ≤ R.cells ∧ slots ≤ R.slots) (hdg : decode cc pc = .ok (.invokevirtual index, 3))
    (kk : ∀ r : Int32, post r → W p l e R s m args below meth c H locs cells slots Q (F0 m (pc + 3) ls (.int r :: rest))) : W p l e R s m args below meth c H locs cells slots Q (F0 m pc ls st0) := by
  intro T hT X
  have hr := va_runV (below := below) (e := e) (meth := meth) (locs := locs) (cells := cells) (slots := slots) (H := H) (g := F0 m pc ls st0) (rest := rest) S hM cw ⟨fun a U g mk q => ⟨q.1, ⟨q.2.1.1, va_K.moved (u := U) (U := U.calling g mk a) (Vm.Alike.refl U.vm) q.2.1.2⟩, hEb U g mk a q.2.2⟩, hrec, fun U hU hW => ⟨rfl, ⟨by rw [hU]; exact hP, va_K.moved hW.alike hK⟩, hEs U hU hW⟩⟩ rfl hn hsz hst (lv_room hcat) hdg hcs
  obtain ⟨v, st₀, t, T', L, h0, X', hL, e1, e2, ⟨r, hv, hp, hh⟩, st⟩ := hr T hT X
  cases hv
  obtain ⟨t2, a1, b1⟩ := kk r hp T' (by rw [e1, hh, h0]) (Stand.forget X' (fun q h => (hL q h).elim))
  exact ⟨t2, st t2 a1, b1⟩
theorem z_callVL {post : Int64 → Prop} (S : CallFix p m c cc nL s args Ts own) (hM : Met l y ws2 rm (va_Pc (Value.ref b :: As) (fun U => va_P D cl wc U.heap ∧ va_K D cl tc U)) (vpL post) 0 0 (fun _ => False)) (cw : CallW R s args own C index y bytes maxL ret ws2 rm 0 0 n)
    (hP : va_P D cl wc H) (hK : va_K D cl tc s) (hrec : ∃ cell : Cell, H[b]? = some cell ∧ cell.vm.isStatics = false ∧ s.vm.findClass C = some cell.cls) (hn : As.length = n) (hsz : ls.size = nL) (hst : st0 = As.reverse ++ .ref b :: rest) (hcat : (rest.map fun v => v.category).sum ≤ 8) (hcs : cells ≤ R.cells ∧ slots ≤ R.slots) (hdg : decode cc pc = .ok (.invokevirtual index, 3))
    (kk : ∀ r : Int64, post r → W p l e R s m args below meth c H locs cells slots Q (F0 m (pc + 3) ls (.long r :: rest))) : W p l e R s m args below meth c H locs cells slots Q (F0 m pc ls st0) := by
  intro T hT X
  have hr := va_runV (below := below) (e := e) (meth := meth) (locs := locs) (cells := cells) (slots := slots) (H := H) (g := F0 m pc ls st0) (rest := rest) S hM cw ⟨z_blind, hrec, fun U hU hW => ⟨rfl, by rw [hU]; exact hP, va_K.moved hW.alike hK⟩⟩ rfl hn hsz hst (lv_room hcat) hdg hcs
  obtain ⟨v, st₀, t, T', L, h0, X', hL, e1, e2, ⟨r, hv, hp, hh⟩, st⟩ := hr T hT X
  cases hv
  obtain ⟨t2, a1, b1⟩ := kk r hp T' (by rw [e1, hh, h0]) (Stand.forget X' (fun q h => (hL q h).elim))
  exact ⟨t2, st t2 a1, b1⟩
end ZE
end
section
/-! ===== what each call answers: the longer ones ===== -/
theorem putS_putS (σ : St) (b : Nat) (x y : Int32) : putS (putS σ b x) b y = putS σ b y := by
  unfold putS layS
  funext i j
  simp only [up2_at]
  by_cases h8 : i = 8 ∧ j = b
  · rw [if_pos h8, if_pos h8]
  · by_cases h7 : i = 7 ∧ j = b
    · rw [if_neg h8, if_pos h7, if_neg h8, if_pos h7]
    · by_cases h6 : i = 6 ∧ j = b
      · rw [if_neg h8, if_neg h7, if_pos h6, if_neg h8, if_neg h7, if_pos h6]
      · rw [if_neg h8, if_neg h7, if_neg h6, if_neg h8, if_neg h7, if_neg h6, if_neg h8, if_neg h7, if_neg h6]
def toldF (τ : St) (B j : Nat) : Prop := toldR τ (takenF τ B j (heldF τ B (nI j))) B
noncomputable def whoseR (σ : St) (B b j : Nat) : Nat → Int32
  | 0 => 0
  | k + 1 => zif (σ 3 k = 1 ∧ toldF (putS σ b (nI k)) B j) (whoseR σ B b j k ||| zbit k) (whoseR σ B b j k)
theorem whoseR_y {σ : St} {B b j k : Nat} (h : σ 3 k = 1) (c : toldF (putS σ b (nI k)) B j) : whoseR σ B b j k ||| zbit k = whoseR σ B b j (k + 1) := by rw [whoseR, zif_t ⟨h, c⟩]
theorem whoseR_n {σ : St} {B b j k : Nat} (h : ¬ (σ 3 k = 1 ∧ toldF (putS σ b (nI k)) B j)) : whoseR σ B b j k = whoseR σ B b j (k + 1) := by rw [whoseR, zif_f h]
noncomputable def whoseF (σ : St) (Hn B : Nat) (x h : Int32) : Int32 := zif (hasP B x ∧ hasP Hn h) (zif (σ 3 (tn h) = 1) (whoseR σ B (tn x) (tn h) Hn) (-103)) (-101)
noncomputable def yearsR (σ : St) (Hn B : Nat) (sd : Int32) : Nat → St × Int32
  | 0 => (σ, sd)
  | k + 1 => yearS (yearsR σ Hn B sd k).1 Hn B (yearsR σ Hn B sd k).2
noncomputable def manorsN (σ : St) (Hn B y : Nat) (sd : Int32) : Nat → Int32
  | 0 => (yearsR σ Hn B sd y).1 0 7 - σ 0 7
  | 1 => aliveR (yearsR σ Hn B sd y).1 Hn
  | _ => (yearsR σ Hn B sd y).2
noncomputable def manorsF (σ : St) (Hn B : Nat) (y sd w : Int32) : Int32 := zif (inP 1 60 y ∧ ¬ sd < 0 ∧ inP 0 2 w) (if Hn = 0 then -103 else manorsN σ Hn B (tn y) sd (tn w)) (-102)
theorem Inv.years {σ : St} {Hn B L C V M : Nat} (hI : Inv σ Hn B L C V M) (hH : 1 ≤ Hn) (sd : Int32) : ∀ k : Nat, Inv (yearsR σ Hn B sd k).1 Hn B L C V M
  | 0 => hI
  | k + 1 => (Inv.years hI hH sd k).year hH _
def hs (h : Int64) (v : Int32) : Int64 := 31 * h + v.toInt64
def digW (σ : St) (B j : Nat) (h : Int64) : Nat → Int64
  | 0 => h
  | w + 1 => hs (digW σ B j h w) (aboutN σ B j w)
def digJ (σ : St) (B j : Nat) (h : Int64) : Int64 := if σ 3 j = 1 then hs (hs (hs (hs (hs (digW σ B j h 9) (safeN σ B j 0)) (safeN σ B j 1)) (giveF σ B j 2)) (meanN σ B j 2 0)) (meanN σ B j 2 1) else digW σ B j h 9
def digH (σ : St) (B : Nat) : Nat → Int64
  | 0 => 827
  | n + 1 => digJ σ B n (digH σ B n)
def digX (σ : St) (b : Nat) (h : Int64) : Nat → Int64
  | 0 => h
  | w + 1 => hs (digX σ b h w) (σ (w + 5) b)
def digB (σ : St) (h : Int64) : Nat → Int64
  | 0 => h
  | b + 1 => digX σ b (digB σ h b) 5
def digP (P : Nat → Int32) (h : Int64) : Nat → Int64
  | 0 => h
  | k + 1 => hs (digP P h k) (P k)
def digC (σ : St) (Hn B : Nat) (ξ : Nat → Int32) (h : Int64) : Nat → Int64
  | 0 => h
  | w + 1 => hs (digC σ Hn B ξ h w) (cntN σ Hn B ξ w)
def digF (σ : St) (Hn B : Nat) (P ξ : Nat → Int32) (n : Nat) : Int64 := digC σ Hn B ξ (digP P (digB σ (digH σ B Hn) B) n) 12
noncomputable def restoreF (σ κ : St) (hi : Int32) : Int32 × St := zif (hi = 0) (-103, σ) (κ 0 6, κ)
end
section
/-! ===== the reference's rows: holders four numbers each, beasts five ===== -/
def menOf (σ : St) (j : Nat) : Int32 := match j % 4 with
  | 0 => σ 1 (j / 4)
  | 1 => σ 2 (j / 4)
  | 2 => σ 3 (j / 4)
  | _ => σ 4 (j / 4)
def rowsOf (σ : St) (j : Nat) : Int32 := match j % 5 with
  | 0 => σ 5 (j / 5)
  | 1 => σ 6 (j / 5)
  | 2 => σ 7 (j / 5)
  | 3 => σ 8 (j / 5)
  | _ => σ 9 (j / 5)
theorem menOf_eq (σ : St) (j : Nat) : menOf σ j = σ (j % 4 + 1) (j / 4) := by
  have h : j % 4 < 4 := Nat.mod_lt _ (by decide)
  unfold menOf
  generalize j % 4 = m at h
  match m, h with
  | 0, _ => rfl
  | 1, _ => rfl
  | 2, _ => rfl
  | 3, _ => rfl
theorem rowsOf_eq (σ : St) (j : Nat) : rowsOf σ j = σ (j % 5 + 5) (j / 5) := by
  have h : j % 5 < 5 := Nat.mod_lt _ (by decide)
  unfold rowsOf
  generalize j % 5 = m at h
  match m, h with
  | 0, _ => rfl
  | 1, _ => rfl
  | 2, _ => rfl
  | 3, _ => rfl
  | 4, _ => rfl
theorem menR (σ : St) (j w : Nat) (hw : w < 4) : menOf σ (4 * j + w) = σ (w + 1) j := by
  rw [menOf_eq, show (4 * j + w) % 4 = w by omega, show (4 * j + w) / 4 = j by omega]
theorem rowsR (σ : St) (b w : Nat) (hw : w < 5) : rowsOf σ (5 * b + w) = σ (w + 5) b := by
  rw [rowsOf_eq, show (5 * b + w) % 5 = w by omega, show (5 * b + w) / 5 = b by omega]
theorem menW (σ : St) (j w : Nat) (hw : w < 4) (x : Int32) : upd (menOf σ) (4 * j + w) x = menOf (up2 σ (w + 1) j x) := by
  funext i
  unfold upd
  rw [menOf_eq, menOf_eq, up2_at]
  by_cases h : i = 4 * j + w
  · rw [if_pos h, if_pos (by omega)]
  · rw [if_neg h, if_neg (by omega)]
theorem rowsW (σ : St) (b w : Nat) (hw : w < 5) (x : Int32) : upd (rowsOf σ) (5 * b + w) x = rowsOf (up2 σ (w + 5) b x) := by
  funext i
  unfold upd
  rw [rowsOf_eq, rowsOf_eq, up2_at]
  by_cases h : i = 5 * b + w
  · rw [if_pos h, if_pos (by omega)]
  · rw [if_neg h, if_neg (by omega)]
abbrev bo (bd : Nat → Nat) (σ : St) (ξ : Nat → Int32) (tk sd : Int32) (kv : Nat → Int32) (hh : Int64) : Nat × va_E := (bd 0, .inr (3, [.ref (bd 1), .int (ξ 0), .int (σ 0 0), .int (σ 0 1), .int (σ 0 2), .int (σ 0 3), .int (ξ 1), .int (σ 0 6), .int tk, .int (σ 0 4), .int (σ 0 5), .ref (bd 2), .ref (bd 3), .int sd, .ref (bd 4), .ref (bd 5), .int (kv 0), .int (kv 1), .int (kv 2), .int (kv 3), .ref (bd 6), .ref (bd 7), .ref (bd 8), .long hh]))
/-! comparing longs -/
theorem cmp_lt {x y : Int64} : lg_cmp x y < 0 ↔ x < y := by
  unfold lg_cmp
  by_cases h1 : y < x
  · rw [if_pos h1]
    constructor
    · intro h; exact absurd h (by decide)
    · intro h
      have a := Int64.lt_iff_toInt_lt.mp h1
      have b := Int64.lt_iff_toInt_lt.mp h
      omega
  · rw [if_neg h1]
    by_cases h2 : x = y
    · subst h2
      rw [if_pos rfl]
      constructor
      · intro h; exact absurd h (by decide)
      · intro h; exact absurd h h1
    · rw [if_neg h2]
      constructor
      · intro _
        rw [Int64.lt_iff_toInt_lt] at h1 ⊢
        have h3 : x.toInt ≠ y.toInt := fun q => h2 (Int64.toInt_inj.mp q)
        omega
      · intro _; decide
theorem cmp_gt {x y : Int64} : 0 < lg_cmp x y ↔ y < x := by
  unfold lg_cmp
  by_cases h1 : y < x
  · rw [if_pos h1]
    exact ⟨fun _ => h1, fun _ => by decide⟩
  · rw [if_neg h1]
    by_cases h2 : x = y
    · subst h2
      rw [if_pos rfl]
      constructor
      · intro h; exact absurd h (by decide)
      · intro h; exact absurd h h1
    · rw [if_neg h2]
      constructor
      · intro h; exact absurd h (by decide)
      · intro h; exact absurd h h1
theorem t64 (x : Int32) : x.toInt64.toInt = x.toInt := Int32.toInt_toInt64 x
theorem in64 {a b : Nat} {x : Int32} (ha : a < 2 ^ 31) (hb : b < 2 ^ 31) : (lN a ≤ x.toInt64 ∧ x.toInt64 ≤ lN b) ↔ inP a b x := by
  rw [← inP_iff ha hb, Int64.le_iff_toInt_le, Int64.le_iff_toInt_le, lN_toInt ha, lN_toInt hb, t64, Int32.le_iff_toInt_le, Int32.le_iff_toInt_le, nI_toInt ha, nI_toInt hb]
theorem has64 {N : Nat} {x : Int32} (hN : N < 2 ^ 30) : ((0 : Int64) ≤ x.toInt64 ∧ x.toInt64 ≤ (nI N - nI 1).toInt64) ↔ hasP N x := by
  have z0 : (0 : Int64).toInt = 0 := by decide
  have e1 := pk_sub_toInt (a := N) (b := 1) hN (by decide)
  rw [hasP_iff (by omega), Int64.le_iff_toInt_le, Int64.le_iff_toInt_le, t64, t64, e1, Int32.lt_iff_toInt_lt, Int32.le_iff_toInt_le, nI_toInt (by omega), Int32.toInt_zero, z0]
  omega
theorem roll64 {k : Int32} : ((-1 : Int64) ≤ k.toInt64 ∧ k.toInt64 ≤ 1) ↔ (k = -1 ∨ inP 0 1 k) := by
  have z0 : (-1 : Int64).toInt = -1 := by decide
  have z1 : (1 : Int64).toInt = 1 := by decide
  have m1 : (-1 : Int32).toInt = -1 := by decide
  rw [← rollP_iff, Int64.le_iff_toInt_le, Int64.le_iff_toInt_le, t64, z0, z1, Int32.le_iff_toInt_le, Int32.le_iff_toInt_le, m1, nI_toInt (by decide)]
  rfl
theorem has_in {N : Nat} {x : Int32} (hN : 0 < N) : inP 0 (N - 1) x ↔ hasP N x := by
  constructor
  · rintro ⟨j, -, h, e⟩; exact ⟨j, by omega, e⟩
  · rintro ⟨j, h, e⟩; exact ⟨j, Nat.zero_le _, by omega, e⟩
/-! small numbers -/
theorem sub_ge1 : ∀ L, L < 4 → 0 ≤ nI L - nI 1 → nI L - nI 1 = nI (L - 1) := by decide +kernel
theorem sub_lt1 : ∀ L, L < 4 → ¬ 0 ≤ nI L - nI 1 → nI 0 = nI (L - 1) := by decide +kernel
theorem sub_ge2 : ∀ L, L < 4 → 0 ≤ nI L - nI 2 → nI L - nI 2 = nI (L - 2) := by decide +kernel
theorem sub_lt2 : ∀ L, L < 4 → ¬ 0 ≤ nI L - nI 2 → nI 0 = nI (L - 2) := by decide +kernel
theorem or_0 (x : Int32) : x ||| nI 0 = x := by
  apply Int32.toBitVec_inj.mp
  show x.toBitVec ||| 0#32 = x.toBitVec
  exact BitVec.or_zero
theorem and_self' (x : Int32) : x &&& x = x := by
  apply Int32.toBitVec_inj.mp
  show x.toBitVec &&& x.toBitVec = x.toBitVec
  exact BitVec.and_self
theorem and_znot0 (x : Int32) : x = x &&& znot 0 := by rw [znot_0, and_m1]
theorem and_znot_or (x a b : Int32) : x &&& znot a &&& znot b = x &&& znot (a ||| b) := by
  apply Int32.toBitVec_inj.mp
  show (x.toBitVec &&& (a.toBitVec ^^^ BitVec.allOnes 32)) &&& (b.toBitVec ^^^ BitVec.allOnes 32) = x.toBitVec &&& ((a.toBitVec ||| b.toBitVec) ^^^ BitVec.allOnes 32)
  simp only [BitVec.xor_allOnes, BitVec.not_or, BitVec.and_assoc]
theorem zin_nI : ∀ k, k < 64 → ∀ i, i < 6 → zin (nI k) i = nI (k / 2 ^ i % 2) := by decide +kernel
theorem zin_or : ∀ k, k < 64 → ∀ b, b < 6 → zin (nI k ||| zbit b) b = 1 := by decide +kernel
def onesR (k : Nat) : Nat → Nat
  | 0 => 0
  | i + 1 => onesR k i + k / 2 ^ i % 2
theorem onesR_6 (k : Nat) : onesR k 6 = ones k := by unfold ones; simp [onesR]
/-! what is lost is nought only where nothing is taken -/
theorem tak64 {σ : St} {B : Nat} {set : Int32} (hB : B ≤ 6) : ∀ k : Nat, ∃ w, w < 64 ∧ takR σ B set k = nI w
  | 0 => ⟨0, by decide, rfl⟩
  | k + 1 => by
    obtain ⟨w, hw, e⟩ := tak64 (σ := σ) (set := set) hB k
    rw [takR]
    split
    · exact ⟨w, hw, e⟩
    · rename_i c
      obtain ⟨j, hj, e2⟩ := bestR_has c
      rw [e2, tn_nI (by omega), e, zbit_pow j (by omega), nI_or]
      have h3 : 2 ^ j < 64 := Nat.lt_of_lt_of_le (Nat.pow_lt_pow_right (by decide) (show j < 6 by omega)) (by decide)
      exact ⟨w ||| 2 ^ j, Nat.or_lt_two_pow (n := 6) hw h3, rfl⟩
theorem tak_bit {σ : St} {B : Nat} {set : Int32} (hB : B ≤ 6) : ∀ k : Nat, takR σ B set k = 0 ∨ ∃ b, b < B ∧ zin (takR σ B set k) b = 1
  | 0 => Or.inl rfl
  | k + 1 => by
    rw [takR]
    split
    · exact tak_bit hB k
    · rename_i c
      obtain ⟨j, hj, e2⟩ := bestR_has c
      obtain ⟨w, hw, e⟩ := tak64 (σ := σ) (set := set) hB k
      refine Or.inr ⟨j, hj, ?_⟩
      rw [e2, tn_nI (by omega), e]
      exact zin_or w hw j (by omega)
theorem worthR_pos {σ : St} {set : Int32} {B b0 : Nat} (h : ∀ b, b < B → ∃ w, 1 ≤ w ∧ w ≤ 99 ∧ σ 5 b = nI w) (h0 : zin set b0 = 1) : ∀ b : Nat, b ≤ B → b0 < b → ∃ w, 1 ≤ w ∧ w ≤ 99 * b ∧ worthR σ set b = nI w
  | 0, _, h1 => absurd h1 (by omega)
  | b + 1, hb, h1 => by
    obtain ⟨v, g1, g2, g3⟩ := h b (by omega)
    rcases Nat.lt_succ_iff_lt_or_eq.mp h1 with h2 | rfl
    · obtain ⟨w, a1, a2, a3⟩ := worthR_pos h h0 b (by omega) h2
      rw [worthR]
      split
      · exact ⟨w + v, by omega, by omega, by rw [a3, g3, nI_add]⟩
      · exact ⟨w, a1, by omega, a3⟩
    · obtain ⟨w, a2, a3⟩ := worthR_b (set := set) h b0 (by omega)
      rw [worthR, if_pos h0]
      exact ⟨w + v, by omega, by omega, by rw [a3, g3, nI_add]⟩
theorem zin_0 (b : Nat) : zin 0 b = 0 := by
  unfold zin
  have e : (0 : Int32) >>> (nI b &&& 31) = 0 := by
    apply Int32.toBitVec_inj.mp
    show (0#32).sshiftRight' _ = 0#32
    simp [BitVec.sshiftRight']
  rw [e]
  rfl
theorem worthR_0 {σ : St} : ∀ b : Nat, worthR σ 0 b = 0
  | 0 => rfl
  | b + 1 => by rw [worthR, if_neg (by rw [zin_0]; decide), worthR_0 b]
theorem loss_0 {σ : St} {Hn B L C V M : Nat} (hI : Inv σ Hn B L C V M) (j : Nat) (set : Int32) : lossF σ B j set = 0 ↔ takenF σ B j set = 0 := by
  have jB : B ≤ 6 := hI.1.2.2.2.2.2.2.2.2.2.2.2
  unfold lossF
  constructor
  · intro h
    rcases tak_bit (σ := σ) (set := set) jB (manyF σ j) with h1 | ⟨b, h1, h2⟩
    · exact h1
    · obtain ⟨w, a1, a2, a3⟩ := worthR_pos hI.2.2.2.2.2.1 h2 B (Nat.le_refl _) h1
      have h' : nI w = 0 := by rw [← a3]; exact h
      exact absurd h' (nI_ne0 (by omega) (by omega))
  · intro h
    rw [h]; exact worthR_0 B
/-! what is HELD, but for what is given away -/
theorem zbit_and : ∀ k, k < 64 → ∀ b, b < 6 → ∀ s, s < 64 → s / 2 ^ b % 2 = 0 → (nI k ||| zbit b) &&& znot (nI s) = nI k &&& znot (nI s) ||| zbit b := by decide +kernel
end
section
/-! ===== plain facts that the reference's own ways need ===== -/
theorem sub_bit : ∀ s, s < 64 → ∀ w, w < 64 → nI s &&& znot (nI w) = 0 → ∀ b, b < 6 → w / 2 ^ b % 2 = 0 → s / 2 ^ b % 2 = 0 := by decide +kernel
theorem or_bit : ∀ w, w < 64 → ∀ m, m < 6 → ∀ b, b < 6 → b ≠ m → (w ||| 2 ^ m) / 2 ^ b % 2 = w / 2 ^ b % 2 := by decide +kernel
theorem own_bit {σ : St} {h : Int32} : ∀ m : Nat, m ≤ 6 → ∃ w, w < 2 ^ m ∧ ownR σ h m = nI w ∧ ∀ b, b < m → ¬ σ 6 b = h → w / 2 ^ b % 2 = 0
  | 0, _ => ⟨0, by decide, rfl, fun b hb => absurd hb (Nat.not_lt_zero b)⟩
  | m + 1, hm => by
    obtain ⟨w, hw, e, hz⟩ := own_bit (σ := σ) (h := h) m (by omega)
    have hp : 2 ^ m < 2 ^ (m + 1) := Nat.pow_lt_pow_right (by decide) (Nat.lt_succ_self m)
    have h64 := pow_le64 (b := m) (by omega)
    rw [ownR]
    split
    · rename_i c
      refine ⟨w ||| 2 ^ m, Nat.or_lt_two_pow (Nat.lt_trans hw hp) hp, by rw [e, zbit_pow m (by omega), nI_or], fun b hb hn => ?_⟩
      have hbm : b ≠ m := fun q => hn (by rw [q]; exact c)
      rw [or_bit w (by omega) m (by omega) b (by omega) hbm]
      exact hz b (by omega) hn
    · refine ⟨w, Nat.lt_trans hw hp, e, fun b hb hn => ?_⟩
      rcases Nat.lt_succ_iff_lt_or_eq.mp hb with h1 | rfl
      · exact hz b h1 hn
      · rw [Nat.div_eq_of_lt hw]
theorem heldM {σ : St} {Hn B L C V M : Nat} (hI : Inv σ Hn B L C V M) {h yr : Int32} (hh : ¬ h = -1) {s : Nat} (hs : s < 64) (hsub : nI s &&& znot (ownR σ h B) = 0) : heldR σ h yr (ownR σ h B) B &&& znot (nI s) = heldR σ h yr (ownR σ h B &&& znot (nI s)) B := by
  have jB : B ≤ 6 := hI.1.2.2.2.2.2.2.2.2.2.2.2
  have iO2 := hI.2.2.2.2.2.2.2
  obtain ⟨w, hw, e, hz⟩ := own_bit (σ := σ) (h := h) B jB
  have h64 := pow_le64 (b := B) jB
  rw [e] at hsub
  have key : ∀ b : Nat, b ≤ B → ∃ k, k < 64 ∧ heldR σ h yr (ownR σ h B) b = nI k ∧ nI k &&& znot (nI s) = heldR σ h yr (ownR σ h B &&& znot (nI s)) b := by
    intro b
    induction b with
    | zero => intro _; exact ⟨w, by omega, e, by rw [heldR, e]⟩
    | succ b ih =>
      intro hb
      obtain ⟨k, hk, e1, e2⟩ := ih (by omega)
      rw [heldR, heldR]
      by_cases c : σ 7 b = h ∧ yr - σ 8 b < σ 0 2
      · rw [if_pos c, if_pos c, ← e2, e1]
        have h6 : ¬ σ 6 b = h := by
          intro q
          rcases iO2 b (by omega) with h1 | h1
          · exact hh (by rw [← c.1]; exact h1)
          · exact h1 (by rw [c.1, q])
        have hs0 := sub_bit s hs w (by omega) hsub b (by omega) (hz b (by omega) h6)
        have hp : 2 ^ b < 64 := Nat.lt_of_lt_of_le (Nat.pow_lt_pow_right (by decide) (show b < 6 by omega)) (by decide)
        refine ⟨k ||| 2 ^ b, Nat.or_lt_two_pow (n := 6) hk hp, by rw [zbit_pow b (by omega), nI_or], ?_⟩
        rw [← nI_or, ← zbit_pow b (by omega)]
        exact zbit_and k hk b (by omega) s hs hs0
      · rw [if_neg c, if_neg c]
        exact ⟨k, hk, e1, e2⟩
  obtain ⟨k, hk, e1, e2⟩ := key B (Nat.le_refl _)
  rw [e1]; exact e2
/-! sums, told the other way round -/
def mul10 (x : Int32) : Nat → Int32
  | 0 => x
  | n + 1 => mul10 x n * nI 10
theorem mul10_in (x : Int32) : ∀ n : Nat, mul10 x (n + 1) = mul10 (x * nI 10) n
  | 0 => rfl
  | n + 1 => by
    have ih := mul10_in x n
    show mul10 x (n + 1) * nI 10 = _
    rw [ih]; rfl
theorem mul10_add (x y : Int32) : ∀ n : Nat, mul10 x n + mul10 y n = mul10 (x + y) n
  | 0 => rfl
  | n + 1 => by
    show mul10 x n * nI 10 + mul10 y n * nI 10 = mul10 (x + y) n * nI 10
    rw [← Int32.add_mul, mul10_add x y n]
theorem mul10_0 : ∀ n : Nat, mul10 (nI 0) n = nI 0
  | 0 => rfl
  | n + 1 => by
    show mul10 (nI 0) n * nI 10 = nI 0
    rw [mul10_0 n]; rfl
def termF (σ : St) (B j : Nat) (gift : Int32) (k : Nat) : Int32 := stillR σ j k * σ 2 j * lossF σ B j (heldL σ B (nI j) (nI k) gift)
theorem sum_step {σ : St} {B j k y : Nat} {gift : Int32} (h : k < y) : mul10 (lostR σ B j gift k) (y - k) + mul10 (termF σ B j gift k) (y - (k + 1)) = mul10 (lostR σ B j gift (k + 1)) (y - (k + 1)) := by
  rw [show y - k = (y - (k + 1)) + 1 by omega, mul10_in, mul10_add]
  rfl
noncomputable def lessF (σ : St) (B j y : Nat) (own : Int32) (k : Nat) : Int32 := if giveR σ B j y own k = -1 then -1 else lostR σ B j (giveR σ B j y own k) y
section GIVEM
variable {σ : St} {B j y k : Nat} {own : Int32}
theorem giveM_n (c : ¬ nI k &&& znot own = 0) : giveR σ B j y own k = giveR σ B j y own (k + 1) := by rw [giveR, if_neg (fun h => c h.1)]
theorem giveM_s (c : nI k &&& znot own = 0) (d : giveR σ B j y own k = -1 ∨ lostR σ B j (nI k) y < lostR σ B j (giveR σ B j y own k) y ∨ (lostR σ B j (nI k) y = lostR σ B j (giveR σ B j y own k) y ∧ ones k < ones (tn (giveR σ B j y own k)))) : nI k = giveR σ B j y own (k + 1) := by rw [giveR, if_pos ⟨c, d⟩]
theorem giveM_k (d : ¬ (giveR σ B j y own k = -1 ∨ lostR σ B j (nI k) y < lostR σ B j (giveR σ B j y own k) y ∨ (lostR σ B j (nI k) y = lostR σ B j (giveR σ B j y own k) y ∧ ones k < ones (tn (giveR σ B j y own k))))) : giveR σ B j y own k = giveR σ B j y own (k + 1) := by rw [giveR, if_neg (fun h => d h.2)]
theorem lessF_n (h : giveR σ B j y own k = giveR σ B j y own (k + 1)) : lessF σ B j y own k = lessF σ B j y own (k + 1) := by unfold lessF; rw [← h]
theorem lessF_s (hk : k < 2 ^ 31) (h : nI k = giveR σ B j y own (k + 1)) : lostR σ B j (nI k) y = lessF σ B j y own (k + 1) := by unfold lessF; rw [← h, if_neg (nI_m1 hk)]
theorem lessF_g (h : ¬ giveR σ B j y own k = -1) : lessF σ B j y own k = lostR σ B j (giveR σ B j y own k) y := by unfold lessF; rw [if_neg h]
theorem giveM_in : ∀ k : Nat, giveR σ B j y own k = -1 ∨ ∃ i, i < k ∧ giveR σ B j y own k = nI i ∧ nI i &&& znot own = 0
  | 0 => Or.inl rfl
  | k + 1 => by
    rw [giveR]
    split
    · rename_i c
      exact Or.inr ⟨k, Nat.lt_succ_self k, rfl, c.1⟩
    · rcases giveM_in k with h | ⟨i, h1, h2, h3⟩
      · exact Or.inl h
      · exact Or.inr ⟨i, by omega, h2, h3⟩
theorem giveF_in : ∃ i, i < 64 ∧ giveF σ B j y = nI i ∧ nI i &&& znot (ownR σ (nI j) B) = 0 := by
  unfold giveF
  rcases giveM_in (σ := σ) (B := B) (j := j) (y := y) (own := ownR σ (nI j) B) 64 with h | h
  · obtain ⟨i, h1, h2⟩ := giveR_in (σ := σ) (B := B) (j := j) (y := y) (own := ownR σ (nI j) B) 64 (by decide)
    rw [h2] at h
    exact absurd h (nI_m1 (by omega))
  · exact h
end GIVEM
theorem hasP5 {x : Int32} : inP 0 4 x ↔ hasP 5 x := has_in (N := 5) (by decide)
theorem ownM_n {σ : St} {h : Int32} {k : Nat} (c : ¬ σ 6 k = h) : ownR σ h k ||| nI 0 = ownR σ h (k + 1) := by rw [or_0]; exact ownR_n c
theorem heldM_n {σ : St} {h yr st : Int32} {k : Nat} (c : ¬ (σ 7 k = h ∧ yr - σ 8 k < σ 0 2)) : heldR σ h yr st k ||| nI 0 = heldR σ h yr st (k + 1) := by rw [or_0]; exact heldR_n c
theorem bestM_k {σ : St} {set : Int32} {k : Nat} (c : ¬ (zin set k = 1 ∧ σ 0 3 ≤ σ 5 k ∧ (bestR σ set k = -1 ∨ σ 5 (tn (bestR σ set k)) < σ 5 k))) : bestR σ set k = bestR σ set (k + 1) := by rw [bestR, if_neg c]
theorem bestM_s {σ : St} {set : Int32} {k : Nat} (c : zin set k = 1 ∧ σ 0 3 ≤ σ 5 k ∧ (bestR σ set k = -1 ∨ σ 5 (tn (bestR σ set k)) < σ 5 k)) : nI k = bestR σ set (k + 1) := by rw [bestR, if_pos c]
theorem takM_n {σ : St} {B : Nat} {set : Int32} {k : Nat} (c : bestR σ (set &&& znot (takR σ B set k)) B = -1) : takR σ B set k ||| nI 0 = takR σ B set (k + 1) := by rw [or_0, takR, if_pos c]
theorem takM_l {σ : St} {B : Nat} {set : Int32} {k : Nat} (c : ¬ bestR σ (set &&& znot (takR σ B set k)) B = -1) : set &&& znot (takR σ B set k) &&& znot (zbit (tn (bestR σ (set &&& znot (takR σ B set k)) B))) = set &&& znot (takR σ B set (k + 1)) := by rw [and_znot_or, ← takR_y c]
theorem takM_m {σ : St} {B : Nat} {set : Int32} {k : Nat} (c : bestR σ (set &&& znot (takR σ B set k)) B = -1) : set &&& znot (takR σ B set k) &&& (set &&& znot (takR σ B set k)) = set &&& znot (takR σ B set (k + 1)) := by rw [and_self', ← takM_n c, or_0]
theorem worthM_n {σ : St} {set : Int32} {k : Nat} (c : ¬ zin set k = 1) : worthR σ set k + nI 0 = worthR σ set (k + 1) := by
  rw [← worthR_n c]; exact Int32.add_zero _
theorem thereM_n {σ : St} {k : Nat} (h : σ 6 k = -1) : thereR σ k + nI 0 = thereR σ (k + 1) := by
  rw [← thereR_n h]; exact Int32.add_zero _
theorem goodP_of {k : Nat} {c : Int32} : (goodP k c) ↔ (k < 5 ∧ inP (loF k) (hiF k) c) := Iff.rfl
/-- a letter less '0' from 0 to m is a letter from 48 on -/
theorem inP_48 {m : Nat} {c : Int32} (hm : m < 100) : inP 0 m (c - nI 48) ↔ inP 48 (48 + m) c := by
  constructor
  · rintro ⟨j, -, h, e⟩
    refine ⟨j + 48, by omega, by omega, ?_⟩
    rw [← nI_add, ← e, Int32.sub_add_cancel]
  · rintro ⟨j, h1, h2, e⟩
    exact ⟨j - 48, Nat.zero_le _, by omega, by rw [e, pk_sub h1]⟩
theorem diesS_eq (σ : St) (Hn B j : Nat) : up2 (buryR (up2 σ 3 j 0) (takenF σ B j (heldF σ B (nI j))) (nI j) (nextF σ Hn j) B) 0 7 (σ 0 7 + lossF σ B j (heldF σ B (nI j))) = buryS σ Hn B j := by
  have key : ∀ k : Nat, buryR (up2 σ 3 j 0) (takenF σ B j (heldF σ B (nI j))) (nI j) (nextF σ Hn j) k = up2 (buryR σ (takenF σ B j (heldF σ B (nI j))) (nI j) (nextF σ Hn j) k) 3 j 0 := by
    intro k
    induction k with
    | zero => rfl
    | succ k ih =>
      have ep : ∀ (τ : St) (x : Int32), putS (up2 τ 3 j 0) k x = up2 (putS τ k x) 3 j 0 := by
        intro τ x
        unfold putS layS
        rw [up2_comm _ _ _ (show 3 ≠ 6 by decide), up2_comm _ _ _ (show 3 ≠ 7 by decide), up2_comm _ _ _ (show 3 ≠ 8 by decide)]
      rw [buryR, buryR, ih]
      show (if _ then putS _ k (-1) else if σ 6 k = _ then putS _ k _ else _) = _
      split
      · exact ep _ _
      · split
        · exact ep _ _
        · rfl
  unfold buryS
  rw [key]
theorem has_tn {N : Nat} {x : Int32} (h : hasP N x) (hN : N ≤ 2 ^ 31) : x = nI (tn x) ∧ tn x < N := by
  obtain ⟨j, hj, rfl⟩ := h
  rw [tn_nI (by omega)]; exact ⟨rfl, hj⟩
theorem giveM_has {σ : St} {B j y k : Nat} {own : Int32} (c : ¬ giveR σ B j y own k = -1) : hasP k (giveR σ B j y own k) := by
  obtain ⟨i, h1, h2, _⟩ := (giveM_in k).resolve_left c
  exact ⟨i, h1, h2⟩
theorem giftS_num {σ : St} {b t : Nat} (i : Nat) : giftS σ b t 0 i = σ 0 i := by
  unfold giftS
  split
  · rfl
  · rfl
theorem nextF_m1 {σ : St} {Hn j : Nat} (hH : Hn ≤ 4) (h : σ 4 j = -1) : nextF σ Hn j = -1 := nextF_n (fun ⟨i, hi, e, _⟩ => nI_m1 (by omega) (e.symm.trans h))
theorem sum7 (a b c : Int32) : a - b + c = a + c - b := by
  rw [Int32.sub_eq_add_neg, Int32.sub_eq_add_neg, Int32.add_assoc, Int32.add_comm (-b) c, ← Int32.add_assoc]
theorem beastM (σ : St) (B : Nat) (h w : Int32) : up2 (layS (up2 (up2 σ 5 B w) 9 B (-1)) B h (-1) (-1)) 0 5 (nI (B + 1)) = beastS σ B h w := by
  unfold beastS putS layS
  rw [up2_comm _ _ _ (show 8 ≠ 0 by decide), up2_comm _ _ _ (show 7 ≠ 0 by decide), up2_comm _ _ _ (show 6 ≠ 0 by decide), up2_comm _ _ _ (show 9 ≠ 0 by decide), up2_comm _ _ _ (show 5 ≠ 0 by decide)]
theorem holdM (σ : St) (n : Nat) (kd d : Int32) : up2 (up2 (up2 (up2 (up2 σ 1 n kd) 2 n d) 3 n (nI 1)) 4 n (-1)) 0 4 (nI (n + 1)) = holdS σ n kd d := by
  unfold holdS
  rw [up2_comm _ _ _ (show 3 ≠ 4 by decide)]
  rfl
theorem layS_back (σ : St) (b : Nat) (x : Int32) : layS (putS σ b x) b (σ 6 b) (σ 7 b) (σ 8 b) = σ := by
  unfold putS layS
  funext i j
  simp only [up2_at]
  by_cases h8 : i = 8 ∧ j = b
  · rw [if_pos h8, h8.1, h8.2]
  · by_cases h7 : i = 7 ∧ j = b
    · rw [if_neg h8, if_pos h7, h7.1, h7.2]
    · by_cases h6 : i = 6 ∧ j = b
      · rw [if_neg h8, if_neg h7, if_pos h6, h6.1, h6.2]
      · rw [if_neg h8, if_neg h7, if_neg h6, if_neg h8, if_neg h7, if_neg h6]
theorem layS_back0 (σ : St) (b : Nat) : layS σ b (σ 6 b) (σ 7 b) (σ 8 b) = σ := by
  unfold layS
  funext i j
  simp only [up2_at]
  by_cases h8 : i = 8 ∧ j = b
  · rw [if_pos h8, h8.1, h8.2]
  · by_cases h7 : i = 7 ∧ j = b
    · rw [if_neg h8, if_pos h7, h7.1, h7.2]
    · by_cases h6 : i = 6 ∧ j = b
      · rw [if_neg h8, if_neg h7, if_pos h6, h6.1, h6.2]
      · rw [if_neg h8, if_neg h7, if_neg h6]
theorem good_0 {k : Nat} {c : Int32} (hk : k < 2) : zb (inP 0 3 (c - nI 48)) = zb (goodP k c) := by
  refine zb_iff ((inP_48 (by decide)).trans ?_)
  unfold goodP loF hiF
  rw [if_neg (by omega), if_pos hk]
  exact ⟨fun h => ⟨by omega, h⟩, fun h => h.2⟩
theorem good_2 {c : Int32} : zb (inP 0 5 (c - nI 48)) = zb (goodP 2 c) := by
  refine zb_iff ((inP_48 (by decide)).trans ?_)
  exact ⟨fun h => ⟨by decide, h⟩, fun h => h.2⟩
theorem good_4 {c : Int32} : inP 0 9 (c - nI 48) ↔ goodP 4 c := by
  refine (inP_48 (by decide)).trans ?_
  exact ⟨fun h => ⟨by decide, h⟩, fun h => h.2⟩
theorem good_3 {c : Int32} : c = nI 59 ↔ goodP 3 c := by
  constructor
  · intro h; exact ⟨by decide, 59, Nat.le_refl _, Nat.le_refl _, h⟩
  · rintro ⟨-, j, h1, h2, e⟩
    have h1' : 59 ≤ j := h1
    have h2' : j ≤ 59 := h2
    rw [e, show j = 59 by omega]
section ZQS
variable {p : Program} {l : Launch} {e : Env} {R : Room} {s : State} {m : MethodId} {args : Array Value} {below : List Frame} {meth : Method} {c : Code} {H : Heap} {locs : List Loc} {cells slots : Nat} {Q : State → Prop}
variable {cc : ByteArray} {pc : Nat} {ls : Array Slot} {rest : List Value} {D : va_G} {cl : List vw_C} {A : Nat → Prop} {ws : va_W} {H0 : Heap}
variable {y : MethodName} {bytes : ByteArray} {maxL nL n index : Nat} {ret : Option FieldType} {ws2 : List Cond} {rm : Room} {Ts : List Cond} {own : String} {As st0 : List Value} {wc : va_W} {tc : List (ClassId × FieldType)}
theorem z_callQvS {S : Type} {post : S → Prop} {wd : S → va_W} (SS : CallFix p m c cc nL s args Ts own) (hM : Met l y ws2 rm (va_Pc As (zPre D cl tc wc H.size (fun _ => True))) (va_Qv post (zPost D cl tc wc H.size wd) (va_A wc H.size)) 0 0 (va_A wc H.size)) (cw : CallB R s args own index y bytes maxL ret ws2 rm 0 0 n ∧ (Cond.static y).before args s = true)
    (hP : va_P D cl ws H) (hD : va_D A ws) (hK : va_K D cl tc s) (hS : va_S A H0 H locs) (hA : ∀ q, H0.size ≤ q → A q) (isC isR : List Nat) (hC : isC.map (fun i => ws[i]?) = wc.map some) (hnC : va_nd isC = true) (hR : isR.all (fun i => decide (i < ws.length)) = true) (hnR : va_nd isR = true) (hdis : ∀ i ∈ isR, i ∉ isC) (hn : As.length = n) (hsz : ls.size = nL) (hst : st0 = As.reverse ++ rest) (hcat : (rest.map fun v => v.category).sum ≤ 8) (hcs : cells + 0 ≤ R.cells ∧ slots + 0 ≤ R.slots) (hdg : decode cc pc = .ok (.invokestatic index, 3))
    (kk : ∀ (u : S) (H1 : Heap) (locs1 : List Loc), post u → va_P D cl (isR.filterMap (fun i => ws[i]?) ++ wd u) H1 → va_D A (isR.filterMap (fun i => ws[i]?) ++ wd u) → va_S A H0 H1 locs1 → W p l e R s m args below meth c H1 locs1 cells slots Q (F0 m (pc + 3) ls rest)) : W p l e R s m args below meth c H locs cells slots Q (F0 m pc ls st0) := by
  have hPc : va_P D cl wc H := by
    intro k q hk
    have h1 : (isC.map (fun i => ws[i]?))[k]? = some (some q) := by rw [hC, List.getElem?_map, hk]; rfl
    rw [List.getElem?_map] at h1
    cases hi : isC[k]? with
    | none => rw [hi] at h1; cases h1
    | some i => rw [hi] at h1; exact hP i q (Option.some.inj h1)
  have hDc : va_D A wc := hD.sub isC hnC hC
  have hF := va_free (wc := wc) hD hS hA isC hC
  have hr := va_runS (below := below) (e := e) (meth := meth) (locs := locs) (cells := cells) (slots := slots) (H := H) (g := F0 m pc ls st0) (rest := rest) SS hM cw ⟨z_blindW (fun _ _ _ _ q => q), fun U hU hW => ⟨rfl, by rw [hU], by rw [hU]; exact hPc, va_K.moved hW.alike hK, hDc.weaken (fun _ _ _ _ => trivial), trivial⟩⟩ rfl hn hsz hst (lv_room hcat) hdg hcs
  refine va_callv hr hS (fun q _ h => hF q h) hF (fun u t H1 locs1 ht hvm hp hB hz1 hk1 hS1 => ?_)
  obtain ⟨hP1, hK1, hD1⟩ := hB
  rw [ht] at hP1
  obtain ⟨hP2, hD2⟩ := va_join (wr := isR.filterMap (fun i => ws[i]?)) (w1 := wd u) hP hD isC isR hC (z_inR hR) hnR hdis hk1 hF hP1 hD1
  exact kk u H1 locs1 hp hP2 hD2 hS1
end ZQS
theorem buryS_num {σ : St} {Hn B j i : Nat} (hi : i ≤ 5) : buryS σ Hn B j 0 i = σ 0 i := by
  unfold buryS
  rw [up2_at, if_neg (by omega), up2_at, if_neg (by omega), buryR_num 0 (Or.inl (by decide))]
theorem dayR_num {σ : St} {Hn B i : Nat} {sd : Int32} (hi : i ≤ 5) : ∀ k : Nat, (dayR σ Hn B sd k).1 0 i = σ 0 i
  | 0 => rfl
  | k + 1 => by
    rw [dayR]
    split
    · split
      · show buryS _ Hn B k 0 i = _
        rw [buryS_num hi]; exact dayR_num hi k
      · exact dayR_num hi k
    · exact dayR_num hi k
theorem yearS_num {σ : St} {Hn B i : Nat} {sd : Int32} (hi : i ≤ 5) : (yearS σ Hn B sd).1 0 i = σ 0 i := by
  unfold yearS
  show (up2 _ 0 6 _) 0 i = _
  rw [up2_at, if_neg (by omega)]
  unfold gaveS
  split
  · show giftS _ _ _ 0 i = _
    rw [giftS_num]; exact dayR_num hi Hn
  · exact dayR_num hi Hn
theorem yearsR_num {σ : St} {Hn B i : Nat} {sd : Int32} (hi : i ≤ 5) : ∀ k : Nat, (yearsR σ Hn B sd k).1 0 i = σ 0 i
  | 0 => rfl
  | k + 1 => by
    rw [yearsR]
    rw [yearS_num hi]; exact yearsR_num hi k
def cpR (f g : Nat → Int32) : Nat → Nat → Int32
  | 0 => g
  | k + 1 => upd (cpR f g k) k (f k)
theorem cpR_in (f g : Nat → Int32) : ∀ k j : Nat, j < k → cpR f g k j = f j
  | 0, j, h => absurd h (Nat.not_lt_zero j)
  | k + 1, j, h => by
    show upd (cpR f g k) k (f k) j = f j
    unfold upd
    by_cases e : j = k
    · rw [if_pos e, e]
    · rw [if_neg e]; exact cpR_in f g k j (by omega)
/-! what is kept -/
def kvK (σ : St) (i : Nat) : Int32 := match i with
  | 0 => σ 0 6
  | 1 => σ 0 4
  | 2 => σ 0 5
  | _ => σ 0 7
def lawU (f : Nat → Int32) (σ : St) : Nat → Int32 := upd (upd (upd (upd f 0 (σ 0 0)) 1 (σ 0 1)) 2 (σ 0 2)) 3 (σ 0 3)
theorem lawU_in (f : Nat → Int32) (σ : St) : ∀ j, j < 4 → lawU f σ j = σ 0 j
  | 0, _ => rfl
  | 1, _ => rfl
  | 2, _ => rfl
  | 3, _ => rfl
  | j + 4, h => absurd h (by omega)
def keptP (κ : St) (hi : Int32) (kv fm fr fl : Nat → Int32) : Prop := hi = 1 ∧ ¬ kv 0 = -1 ∧ fm = menOf κ ∧ fr = rowsOf κ ∧ kv 0 = κ 0 6 ∧ kv 1 = κ 0 4 ∧ kv 2 = κ 0 5 ∧ kv 3 = κ 0 7 ∧ ∀ j, j < 4 → fl j = κ 0 j
end
section
/-! ===== what is made: new cells ===== -/
theorem z_arr {args : Array Value} {s : State} {ty : FieldType} (h : (Cond.arrayClass ty).before args s = true) : ∃ cA : ClassId, ArrOfT s cA ty ∧ s.vm.findClass ("[" ++ ty.toString) = some cA := by
  obtain ⟨cA, kA, comp, h1, h2, h3⟩ := Cond.arrayClass_spec h
  exact ⟨cA, fun n z => ⟨fun k h => (by cases h), kA, h2, comp, h3⟩, h1⟩
def adr : List Nat → Nat → Nat
  | [], _ => 0
  | a :: _, 0 => a
  | _ :: t, i + 1 => adr t i
def st0 : St := fun i j => match i with
  | 0 => (match j with
    | 0 => nI 1
    | 1 => nI 1
    | 2 => nI 1
    | _ => 0)
  | _ => 0
def kv0 (i : Nat) : Int32 := match i with
  | 0 => (-1)
  | _ => 0
theorem st0_in (i j : Nat) : st0 (i + 1) j = 0 := rfl
theorem men0 : menOf st0 = fun _ => 0 := by
  funext j
  rw [menOf_eq]
  exact st0_in _ _
theorem rows0 : rowsOf st0 = fun _ => 0 := by
  funext j
  rw [rowsOf_eq, show j % 5 + 5 = (j % 5 + 4) + 1 by omega]
  exact st0_in _ _
section ZN
variable {p : Program} {l : Launch} {e : Env} {R : Room} {s : State} {m : MethodId} {args : Array Value} {below : List Frame} {meth : Method} {c : Code} {H : Heap} {locs : List Loc} {cells slots : Nat} {Q : State → Prop}
variable {cc : ByteArray} {pc : Nat} {ls : Array Slot} {rest : List Value} {D : va_G} {cl : List vw_C} {A : Nat → Prop} {ws : va_W} {H0 : Heap} {tys : List (ClassId × FieldType)}
theorem z_newa (hexec : p.tables.exec = Jvm.exec) (hb : c.code = cc) {atype : ArrayType} (harr : (Cond.arrayClass (newarray.typeOf atype)).before args s = true) {ty : FieldType} (hty : newarray.typeOf atype = ty) (hK : va_K D cl tys s) (hP : va_P D cl ws H) (hD : va_D A ws) (hS : va_S A H0 H locs) (hA : ∀ q, H0.size ≤ q → A q)
    (k : Nat) {cA0 : ClassId} (hk : tys[k]? = some (cA0, ty)) (hra : ∀ cA : ClassId, va_RA s cA ty → s.vm.findClass ("[" ++ ty.toString) = some cA) (N : Nat) (hN : N < 100) (hdv : defaultValue ty = .int 0) (hcb : componentBytes ty ≤ 8) (hcells : cells + 1 ≤ R.cells) (hslots : slots + N ≤ R.slots) (hdg : decode cc pc = .ok (.newarray atype, 2))
    (kk : ∀ (q : Nat) (H1 : Heap), va_P D cl (ws ++ [(q, .inl (cA0, N, .inl (fun _ => 0)))]) H1 → va_D A (ws ++ [(q, .inl (cA0, N, .inl (fun _ => 0)))]) → va_S A H0 H1 locs →
      W p l e R s m args below meth c H1 locs (cells + 1) (slots + N) Q (F0 m (pc + 2) ls (.ref q :: rest))) : W p l e R s m args below meth c H locs cells slots Q (F0 m pc ls (.int (nI N) :: rest)) := by
  refine va_newa (a0 := (N, .inl (fun _ => 0))) hexec hb harr hty hK hP hD hS hA (fun cA => by rw [hdv]; rfl) (fun h => by have h9 := Int32.lt_iff_toInt_lt.mp h; rw [nI_toInt (by omega), Int32.toInt_zero] at h9; omega) (nI_clamp (by omega)) (Nat.le_trans (Nat.mul_le_mul (Nat.le_of_lt hN) hcb) (by decide)) hcells hslots hdg (fun q cA H1 hK1 hP1 hD1 hS1 => ?_)
  have h1 := hra _ (hK1.2 tys.length (cA, ty) (by simp)).2
  have h2 := hra _ (hK.2 k _ hk).2
  have e1 : cA = cA0 := Option.some.inj (h1.symm.trans h2)
  subst e1
  exact kk q H1 hP1 hD1 hS1
variable {y : MethodName} {bytes : ByteArray} {maxL nL n index mc ms : Nat} {ret : Option FieldType} {ws2 : List Cond} {rm : Room} {Ts : List Cond} {own host : String} {As st9 : List Value} {b : Nat} {wc : va_W} {tc : List (ClassId × FieldType)}
theorem z_made {S : Type} {post : S → Prop} {wd : S → va_W} (hr : va_Run p l e R s m args below meth c H locs cells slots mc ms (F0 m pc ls st9) rest (va_Qv post (zPost D cl tc wc H.size wd) (va_A wc H.size) (Value.ref b :: As).toArray) (va_A wc H.size))
    (hP : va_P D cl ws H) (hD : va_D A ws) (hS : va_S A H0 H locs) (hA : ∀ q, H0.size ≤ q → A q) (isC isR : List Nat) (hC : isC.map (fun i => ws[i]?) = wc.map some) (hnC : va_nd isC = true) (hR : isR.all (fun i => decide (i < ws.length)) = true) (hnR : va_nd isR = true) (hdis : ∀ i ∈ isR, i ∉ isC)
    (kk : ∀ (u : S) (H1 : Heap) (locs1 : List Loc), post u → va_P D cl (isR.filterMap (fun i => ws[i]?) ++ wd u) H1 → va_D A (isR.filterMap (fun i => ws[i]?) ++ wd u) → va_S A H0 H1 locs1 → W p l e R s m args below meth c H1 locs1 (cells + mc) (slots + ms) Q (F0 m (pc + 3) ls rest)) : W p l e R s m args below meth c H locs cells slots Q (F0 m pc ls st9) := by
  have hF := va_free (wc := wc) hD hS hA isC hC
  refine va_callv hr hS (fun q _ h => hF q h) hF (fun u t H1 locs1 ht hvm hp hB hz1 hk1 hS1 => ?_)
  obtain ⟨hP1, hK1, hD1⟩ := hB
  rw [ht] at hP1
  obtain ⟨hP2, hD2⟩ := va_join (wr := isR.filterMap (fun i => ws[i]?)) (w1 := wd u) hP hD isC isR hC (z_inR hR) hnR hdis hk1 hF hP1 hD1
  exact kk u H1 locs1 hp hP2 hD2 hS1
theorem z_pre {B : State → Prop} {av : List Value} (hBs : ∀ U : State, U.heap = H → s.WarmedH U.vm → B U) (hP : va_P D cl ws H) (hD : va_D A ws) (hK : va_K D cl tc s) (isC : List Nat) (hC : isC.map (fun i => ws[i]?) = wc.map some) (hnC : va_nd isC = true) : ∀ U : State, U.heap = H → s.WarmedH U.vm → va_Pc av (zPre D cl tc wc H.size B) av.toArray U := by
  intro U hU hW
  have hPc : va_P D cl wc H := by
    intro k q hk
    have h1 : (isC.map (fun i => ws[i]?))[k]? = some (some q) := by rw [hC, List.getElem?_map, hk]; rfl
    rw [List.getElem?_map] at h1
    cases hi : isC[k]? with
    | none => rw [hi] at h1; cases h1
    | some i => rw [hi] at h1; exact hP i q (Option.some.inj h1)
  have hDc : va_D A wc := hD.sub isC hnC hC
  exact ⟨rfl, by rw [hU], by rw [hU]; exact hPc, va_K.moved hW.alike hK, hDc.weaken (fun _ _ _ _ => trivial), hBs U hU hW⟩
/-- a nest mate's constructor -/
theorem z_initN {S : Type} {post : S → Prop} {wd : S → va_W} {B : State → Prop} (SS : CallFix p m c cc nL s args Ts own) (hM : Met l y ws2 rm (va_Pc (Value.ref b :: As) (zPre D cl tc wc H.size B)) (va_Qv post (zPost D cl tc wc H.size wd) (va_A wc H.size)) mc ms (va_A wc H.size)) (cw : va_CN R s args own index y host bytes maxL none ws2 rm mc ms n ∧ y.name = "<init>" ∧ (Cond.instanceMethod y).before args s = true) (hBb : ∀ (U : State) (g : JFrame) (mk : MethodId) (a : Array Value), B U → B (U.calling g mk a)) (hBs : ∀ U : State, U.heap = H → s.WarmedH U.vm → B U)
    (hP : va_P D cl ws H) (hD : va_D A ws) (hK : va_K D cl tc s) (hS : va_S A H0 H locs) (hA : ∀ q, H0.size ≤ q → A q) (isC isR : List Nat) (hC : isC.map (fun i => ws[i]?) = wc.map some) (hnC : va_nd isC = true) (hR : isR.all (fun i => decide (i < ws.length)) = true) (hnR : va_nd isR = true) (hdis : ∀ i ∈ isR, i ∉ isC) (hn : As.length = n) (hsz : ls.size = nL) (hst : st9 = As.reverse ++ .ref b :: rest) (hcat : (rest.map fun v => v.category).sum ≤ 8) (hcs : cells + mc ≤ R.cells ∧ slots + ms ≤ R.slots) (hdg : decode cc pc = .ok (.invokespecial index, 3))
    (kk : ∀ (u : S) (H1 : Heap) (locs1 : List Loc), post u → va_P D cl (isR.filterMap (fun i => ws[i]?) ++ wd u) H1 → va_D A (isR.filterMap (fun i => ws[i]?) ++ wd u) → va_S A H0 H1 locs1 → W p l e R s m args below meth c H1 locs1 (cells + mc) (slots + ms) Q (F0 m (pc + 3) ls rest)) : W p l e R s m args below meth c H locs cells slots Q (F0 m pc ls st9) :=
  z_made (va_runIN (below := below) (e := e) (meth := meth) (locs := locs) (cells := cells) (slots := slots) (H := H) (g := F0 m pc ls st9) (rest := rest) SS hM cw ⟨z_blindW hBb, z_pre hBs hP hD hK isC hC hnC⟩ rfl hn hsz hst (lv_room hcat) hdg hcs) hP hD hS hA isC isR hC hnC hR hnR hdis kk
/-- a constructor that all may call -/
theorem z_initB {S : Type} {post : S → Prop} {wd : S → va_W} {B : State → Prop} (SS : CallFix p m c cc nL s args Ts own) (hM : Met l y ws2 rm (va_Pc (Value.ref b :: As) (zPre D cl tc wc H.size B)) (va_Qv post (zPost D cl tc wc H.size wd) (va_A wc H.size)) mc ms (va_A wc H.size)) (cw : CallB R s args own index y bytes maxL none ws2 rm mc ms n ∧ y.name = "<init>" ∧ (Cond.instanceMethod y).before args s = true) (hBb : ∀ (U : State) (g : JFrame) (mk : MethodId) (a : Array Value), B U → B (U.calling g mk a)) (hBs : ∀ U : State, U.heap = H → s.WarmedH U.vm → B U)
    (hP : va_P D cl ws H) (hD : va_D A ws) (hK : va_K D cl tc s) (hS : va_S A H0 H locs) (hA : ∀ q, H0.size ≤ q → A q) (isC isR : List Nat) (hC : isC.map (fun i => ws[i]?) = wc.map some) (hnC : va_nd isC = true) (hR : isR.all (fun i => decide (i < ws.length)) = true) (hnR : va_nd isR = true) (hdis : ∀ i ∈ isR, i ∉ isC) (hn : As.length = n) (hsz : ls.size = nL) (hst : st9 = As.reverse ++ .ref b :: rest) (hcat : (rest.map fun v => v.category).sum ≤ 8) (hcs : cells + mc ≤ R.cells ∧ slots + ms ≤ R.slots) (hdg : decode cc pc = .ok (.invokespecial index, 3))
    (kk : ∀ (u : S) (H1 : Heap) (locs1 : List Loc), post u → va_P D cl (isR.filterMap (fun i => ws[i]?) ++ wd u) H1 → va_D A (isR.filterMap (fun i => ws[i]?) ++ wd u) → va_S A H0 H1 locs1 → W p l e R s m args below meth c H1 locs1 (cells + mc) (slots + ms) Q (F0 m (pc + 3) ls rest)) : W p l e R s m args below meth c H locs cells slots Q (F0 m pc ls st9) :=
  z_made (va_runI (below := below) (e := e) (meth := meth) (locs := locs) (cells := cells) (slots := slots) (H := H) (g := F0 m pc ls st9) (rest := rest) SS hM cw ⟨z_blindW hBb, z_pre hBs hP hD hK isC hC hnC⟩ rfl hn hsz hst (lv_room hcat) hdg hcs) hP hD hS hA isC isR hC hnC hR hnR hdis kk
end ZN
def nestE (U : State) : Prop := va_Nw (.methodLinkNest RX2 9 yX1_init RX2) U ∧ va_Nw (.methodLinkNest RX2 24 yX0_init RX2) U
theorem nestE.calling (U : State) (g : JFrame) (mk : MethodId) (a : Array Value) (h : nestE U) : nestE (U.calling g mk a) := ⟨va_Nw.same rfl rfl h.1, va_Nw.same rfl rfl h.2⟩
theorem nestE.warm {s U : State} (hW : s.WarmedH U.vm) (h : nestE s) : nestE U := ⟨va_Nw.warmM hW h.1, va_Nw.warmM hW h.2⟩
section ZNI
variable {p : Program} {l : Launch} {e : Env} {R : Room} {s : State} {m : MethodId} {args : Array Value} {below : List Frame} {meth : Method} {c : Code} {H : Heap} {locs : List Loc} {cells slots : Nat} {Q : State → Prop}
variable {cc : ByteArray} {pc : Nat} {ls : Array Slot} {rest : List Value} {D : va_G} {cl : List vw_C} {A : Nat → Prop} {ws : va_W} {H0 : Heap} {tys : List (ClassId × FieldType)}
theorem z_newaI (hexec : p.tables.exec = Jvm.exec) (hb : c.code = cc) (harr : (Cond.arrayClass .int).before args s = true) (hK : va_K D cl tys s) (hP : va_P D cl ws H) (hD : va_D A ws) (hS : va_S A H0 H locs) (hA : ∀ q, H0.size ≤ q → A q)
    (k : Nat) {cA0 : ClassId} (hk : tys[k]? = some (cA0, .int)) (N : Nat) (hN : N < 100) (hcells : cells + 1 ≤ R.cells) (hslots : slots + N ≤ R.slots) (hdg : decode cc pc = .ok (.newarray .int, 2))
    (kk : ∀ (q : Nat) (H1 : Heap), va_P D cl (ws ++ [(q, .inl (cA0, N, .inl (fun _ => 0)))]) H1 → va_D A (ws ++ [(q, .inl (cA0, N, .inl (fun _ => 0)))]) → va_S A H0 H1 locs →
      W p l e R s m args below meth c H1 locs (cells + 1) (slots + N) Q (F0 m (pc + 2) ls (.ref q :: rest))) : W p l e R s m args below meth c H locs cells slots Q (F0 m pc ls (.int (nI N) :: rest)) :=
  z_newa (atype := .int) (ty := .int) hexec hb harr rfl hK hP hD hS hA k hk (fun _ h => h) N hN rfl (by decide) hcells hslots hdg kk
theorem z_newaZ (hexec : p.tables.exec = Jvm.exec) (hb : c.code = cc) (harr : (Cond.arrayClass .boolean).before args s = true) (hK : va_K D cl tys s) (hP : va_P D cl ws H) (hD : va_D A ws) (hS : va_S A H0 H locs) (hA : ∀ q, H0.size ≤ q → A q)
    (k : Nat) {cA0 : ClassId} (hk : tys[k]? = some (cA0, .boolean)) (N : Nat) (hN : N < 100) (hcells : cells + 1 ≤ R.cells) (hslots : slots + N ≤ R.slots) (hdg : decode cc pc = .ok (.newarray .boolean, 2))
    (kk : ∀ (q : Nat) (H1 : Heap), va_P D cl (ws ++ [(q, .inl (cA0, N, .inl (fun _ => 0)))]) H1 → va_D A (ws ++ [(q, .inl (cA0, N, .inl (fun _ => 0)))]) → va_S A H0 H1 locs →
      W p l e R s m args below meth c H1 locs (cells + 1) (slots + N) Q (F0 m (pc + 2) ls (.ref q :: rest))) : W p l e R s m args below meth c H locs cells slots Q (F0 m pc ls (.int (nI N) :: rest)) :=
  z_newa (atype := .boolean) (ty := .boolean) hexec hb harr rfl hK hP hD hS hA k hk (fun _ h => h) N hN rfl (by decide) hcells hslots hdg kk
end ZNI
end
section
/-! ===== what the law keeps between its rounds ===== -/
def okS (σ : St) (y : Nat) : Prop := (∃ Hn B L C V M, Inv σ Hn B L C V M) ∧ ∃ k, k ≤ y ∧ σ 0 6 = nI k
theorem st0_ok : okS st0 0 := by
  refine ⟨⟨0, 0, 1, 1, 1, 0, ⟨rfl, rfl, rfl, rfl, rfl, rfl, by decide, by decide, by decide, by decide, by decide, by decide⟩, ?_, ?_, ?_, ?_, ?_, ?_, ?_⟩, 0, Nat.le_refl _, rfl⟩
  · exact fun j _ => ⟨0, by decide, rfl⟩
  · exact fun j _ => ⟨0, by decide, rfl⟩
  · exact fun j _ => Or.inl rfl
  · exact fun j h => absurd h (Nat.not_lt_zero j)
  · exact fun j h => absurd h (Nat.not_lt_zero j)
  · exact fun j h => absurd h (Nat.not_lt_zero j)
  · exact fun j h => absurd h (Nat.not_lt_zero j)
theorem okS.mono {σ : St} {y z : Nat} (h : okS σ y) (hz : y ≤ z) : okS σ z := ⟨h.1, by obtain ⟨k, h1, h2⟩ := h.2; exact ⟨k, Nat.le_trans h1 hz, h2⟩⟩
section OK
variable {σ : St} {Hn B L C V M y : Nat}
theorem ok_same (hI : Inv σ Hn B L C V M) (hy : ∃ k, k ≤ y ∧ σ 0 6 = nI k) : okS σ y := ⟨⟨_, _, _, _, _, _, hI⟩, hy⟩
theorem ok_holder (hI : Inv σ Hn B L C V M) (hy : ∃ k, k ≤ y ∧ σ 0 6 = nI k) (kd d : Int32) : okS (holderF σ Hn kd d).2 y := by
  have h4 : Hn ≤ 4 := hI.1.2.2.2.2.2.2.2.2.2.2.1
  unfold holderF
  by_cases c : inP 0 4 kd ∧ inP 0 9 d
  · rw [zif_t c]
    by_cases e : Hn = 4
    · rw [if_pos e]; exact ok_same hI hy
    · rw [if_neg e]
      obtain ⟨⟨a, _, ha, rfl⟩, ⟨b, _, hb, rfl⟩⟩ := c
      exact ⟨⟨_, _, _, _, _, _, hI.hold (by omega) ha hb⟩, hy⟩
  · rw [zif_f c]; exact ok_same hI hy
theorem ok_heir (hI : Inv σ Hn B L C V M) (hy : ∃ k, k ≤ y ∧ σ 0 6 = nI k) (x h : Int32) : okS (heirF σ Hn x h).2 y := by
  have h4 : Hn ≤ 4 := hI.1.2.2.2.2.2.2.2.2.2.2.1
  unfold heirF
  by_cases c : hasP Hn x ∧ h ≠ x ∧ (h = -1 ∨ hasP Hn h)
  · rw [zif_t c]
    obtain ⟨⟨j, hj, rfl⟩, hne, hc⟩ := c
    refine ⟨⟨_, _, _, _, _, _, hI.heir ?_⟩, hy⟩
    rcases hc with hc | ⟨i, hi, rfl⟩
    · exact Or.inl hc
    · refine Or.inr ⟨i, hi, fun q => hne ?_, rfl⟩
      rw [tn_nI (by omega)] at q
      rw [q]
  · rw [zif_f c]; exact ok_same hI hy
theorem ok_beast (hI : Inv σ Hn B L C V M) (hy : ∃ k, k ≤ y ∧ σ 0 6 = nI k) (x w : Int32) : okS (beastF σ Hn B x w).2 y := by
  have h6 : B ≤ 6 := hI.1.2.2.2.2.2.2.2.2.2.2.2
  unfold beastF
  by_cases c : hasP Hn x
  · rw [zif_t c]
    by_cases d : inP 1 99 w
    · rw [zif_t d]
      by_cases a : σ 3 (tn x) = 1
      · rw [zif_t a]
        by_cases e : B = 6
        · rw [if_pos e]; exact ok_same hI hy
        · rw [if_neg e]
          obtain ⟨v, hv1, hv2, rfl⟩ := d
          exact ⟨⟨_, _, _, _, _, _, hI.beast (by omega) x hv1 hv2⟩, hy⟩
      · rw [zif_f a]; exact ok_same hI hy
    · rw [zif_f d]; exact ok_same hI hy
  · rw [zif_f c]; exact ok_same hI hy
theorem ok_give (hI : Inv σ Hn B L C V M) (hy : ∃ k, k ≤ y ∧ σ 0 6 = nI k) (b t : Int32) : okS (giveCF σ Hn B b t).2 y := by
  have h4 : Hn ≤ 4 := hI.1.2.2.2.2.2.2.2.2.2.2.1
  unfold giveCF
  by_cases c : hasP B b ∧ hasP Hn t
  · rw [zif_t c]
    by_cases d : giveP σ (tn b) (tn t)
    · rw [zif_t d]
      obtain ⟨-, ⟨j, hj, rfl⟩⟩ := c
      refine ⟨⟨_, _, _, _, _, _, hI.gift _ _ (by rw [tn_nI (by omega)]; omega)⟩, ?_⟩
      show ∃ k, k ≤ y ∧ giftS σ (tn b) (tn (nI j)) 0 6 = nI k
      rw [giftS_num]; exact hy
    · rw [zif_f d]; exact ok_same hI hy
  · rw [zif_f c]; exact ok_same hI hy
theorem ok_die (hI : Inv σ Hn B L C V M) (hy : ∃ k, k ≤ y ∧ σ 0 6 = nI k) (x : Int32) : okS (dieF σ Hn B x).2 y := by
  unfold dieF
  by_cases c : hasP Hn x
  · rw [zif_t c]
    by_cases d : σ 3 (tn x) = 1
    · rw [zif_t d]
      refine ⟨⟨_, _, _, _, _, _, hI.buried _⟩, ?_⟩
      show ∃ k, k ≤ y ∧ buryS σ Hn B (tn x) 0 6 = nI k
      rw [buryS_6]; exact hy
    · rw [zif_f d]; exact ok_same hI hy
  · rw [zif_f c]; exact ok_same hI hy
theorem ok_roll (hI : Inv σ Hn B L C V M) (hy : ∃ k, k ≤ y ∧ σ 0 6 = nI k) (b k : Int32) : okS (rollF σ B b k).2 y := by
  unfold rollF
  by_cases c : hasP B b
  · rw [zif_t c]
    by_cases d : k = -1 ∨ inP 0 1 k
    · rw [zif_t d]; exact ⟨⟨_, _, _, _, _, _, hI.told _ _⟩, hy⟩
    · rw [zif_f d]; exact ok_same hI hy
  · rw [zif_f c]; exact ok_same hI hy
theorem ok_year (hI : Inv σ Hn B L C V M) (hy : ∃ k, k ≤ y ∧ σ 0 6 = nI k) : okS (up2 σ 0 6 (σ 0 6 + nI 1)) (y + 1) := by
  obtain ⟨k, h1, h2⟩ := hy
  refine ⟨⟨_, _, _, _, _, _, hI.num6 _⟩, k + 1, by omega, ?_⟩
  show σ 0 6 + nI 1 = nI (k + 1)
  rw [h2, nI_add]
theorem ok_law (hI : Inv σ Hn B L C V M) (hy : ∃ k, k ≤ y ∧ σ 0 6 = nI k) (P ξ : Nat → Int32) (n : Nat) : okS (lawF σ P ξ n).2.1 y := by
  unfold lawF
  by_cases c : n = 5 ∧ faultR P 5 = 5
  · rw [zif_t c]
    have g := faultR_5 c.2
    obtain ⟨-, a0, p0, q0, e0⟩ := g 0 (by decide)
    obtain ⟨-, a1, p1, q1, e1⟩ := g 1 (by decide)
    obtain ⟨-, a2, p2, q2, e2⟩ := g 2 (by decide)
    obtain ⟨-, a4, p4, q4, e4⟩ := g 4 (by decide)
    have p0 : 48 ≤ a0 := p0
    have q0 : a0 ≤ 51 := q0
    have p1 : 48 ≤ a1 := p1
    have q1 : a1 ≤ 51 := q1
    have p2 : 48 ≤ a2 := p2
    have q2 : a2 ≤ 53 := q2
    have p4 : 48 ≤ a4 := p4
    have q4 : a4 ≤ 57 := q4
    refine ⟨⟨Hn, B, a0 - 48, a1 - 48, a2 - 48, a4 - 48, ?_⟩, hy⟩
    show Inv (lawS σ P) _ _ _ _ _ _
    unfold lawS
    rw [e0, e1, e2, e4, pk_sub p0, pk_sub p1, pk_sub p2, pk_sub p4]
    exact hI.law (by omega) (by omega) (by omega) (by omega)
  · rw [zif_f c]; exact ok_same hI hy
end OK
def pageP (ξ : Nat → Int32) : Prop := ∃ n, n ≤ 8 ∧ ξ 0 = nI n
theorem page_letter {P ξ : Nat → Int32} {n : Nat} (h8 : n ≤ 8) (h0 : ξ 0 = nI n) (code : Int32) : pageP (letterF P ξ n code).2.2 := by
  unfold letterF
  by_cases c : inP 1 126 code
  · rw [zif_t c]
    by_cases e : n = 8
    · rw [if_pos e]; exact ⟨n, h8, h0⟩
    · rw [if_neg e]; exact ⟨n + 1, by omega, rfl⟩
  · rw [zif_f c]; exact ⟨n, h8, h0⟩
theorem page_law {σ : St} {P ξ : Nat → Int32} {n : Nat} (h8 : n ≤ 8) (h0 : ξ 0 = nI n) : pageP (lawF σ P ξ n).2.2 := by
  unfold lawF
  by_cases c : n = 5 ∧ faultR P 5 = 5
  · rw [zif_t c]; exact ⟨0, by decide, rfl⟩
  · rw [zif_f c]; exact ⟨n, h8, h0⟩
def LI (y : Nat) (σ κ : St) (ξ kv fm fr fl : Nat → Int32) (hi : Int32) : Prop := okS σ y ∧ pageP ξ ∧ (∀ j, j < 4 → κ 3 j = 0 ∨ κ 3 j = 1) ∧ ((hi = 0 ∧ kv 0 = -1) ∨ (keptP κ hi kv fm fr fl ∧ okS κ y))
theorem LI.mono {y z : Nat} {σ κ : St} {ξ kv fm fr fl : Nat → Int32} {hi : Int32} (h : LI y σ κ ξ kv fm fr fl hi) (hz : y ≤ z) : LI z σ κ ξ kv fm fr fl hi := ⟨h.1.mono hz, h.2.1, h.2.2.1, h.2.2.2.elim Or.inl (fun q => Or.inr ⟨q.1, q.2.mono hz⟩)⟩
theorem LI.with {y : Nat} {σ σ2 κ : St} {ξ ξ2 kv fm fr fl : Nat → Int32} {hi : Int32} (h : LI y σ κ ξ kv fm fr fl hi) (h1 : okS σ2 (y + 1)) (h2 : pageP ξ2) : LI (y + 1) σ2 κ ξ2 kv fm fr fl hi := ⟨h1, h2, h.2.2.1, h.2.2.2.elim Or.inl (fun q => Or.inr ⟨q.1, q.2.mono (Nat.le_succ y)⟩)⟩
theorem LI.kp {y : Nat} {σ κ : St} {ξ kv fm fr fl : Nat → Int32} {hi : Int32} (h : LI y σ κ ξ kv fm fr fl hi) : (hi = 0 ∧ kv 0 = -1) ∨ keptP κ hi kv fm fr fl := h.2.2.2.elim Or.inl (fun q => Or.inr q.1)
theorem LI.image {y : Nat} {σ κ : St} {ξ kv fm fr fl : Nat → Int32} {hi : Int32} (h : LI y σ κ ξ kv fm fr fl hi) (hy : y < 2 ^ 20) : LI (y + 1) σ σ ξ (kvK σ) (menOf σ) (rowsOf σ) (lawU fl σ) (nI 1) := by
  have hs := h.1.mono (Nat.le_succ y)
  obtain ⟨⟨Hn, B, L, C, V, M, hI⟩, k, h1, h2⟩ := id h.1
  refine ⟨hs, h.2.1, fun j hj => hI.2.2.2.1 j hj, Or.inr ⟨⟨rfl, ?_, rfl, rfl, rfl, rfl, rfl, rfl, lawU_in fl σ⟩, hs⟩⟩
  show ¬ σ 0 6 = -1
  rw [h2]
  exact nI_m1 (by omega)
theorem LI.restore {y : Nat} {σ κ : St} {ξ kv fm fr fl : Nat → Int32} {hi : Int32} (h : LI y σ κ ξ kv fm fr fl hi) : LI (y + 1) (restoreF σ κ hi).2 κ ξ kv fm fr fl hi := by
  refine h.with ?_ h.2.1
  unfold restoreF
  by_cases c : hi = 0
  · rw [zif_t c]; exact h.1.mono (Nat.le_succ y)
  · rw [zif_f c]
    rcases h.2.2.2 with q | q
    · exact absurd q.1 c
    · exact q.2.mono (Nat.le_succ y)
abbrev WL (cI cZ : ClassId) (xd ma ka ta bd : Nat → Nat) (σ κ ρ : St) (P ξ : Nat → Int32) (hi sd : Int32) (σ2 : St) (P2 ξ2 : Nat → Int32) (sd2 : Int32) (kv : Nat → Int32) (hh : Int64) (sm sr fm fr fl : Nat → Int32) : va_W :=
  xo xd ma ka ta ξ hi :: (xd 1, .inl (cI, 8, .inl P)) :: (xd 2, .inr (0, [.int sd])) :: (mw cI cZ ma σ ++ mw cI cZ ka κ ++ mw cI cZ ta ρ ++ [bo bd σ2 ξ2 (σ2 0 7) sd2 kv hh, (bd 1, .inl (cI, 8, .inl P2)), (bd 2, .inl (cI, 16, .inl (menOf σ2))), (bd 3, .inl (cI, 30, .inl (rowsOf σ2))), (bd 4, .inl (cI, 16, .inl sm)), (bd 5, .inl (cI, 30, .inl sr)), (bd 6, .inl (cI, 16, .inl fm)), (bd 7, .inl (cI, 30, .inl fr)), (bd 8, .inl (cI, 4, .inl fl))])
end
