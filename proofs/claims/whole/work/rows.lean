section
-- ===== PART A: goes FIRST, ahead of the names: the tables' words, and 'selects' of the private methods out of them =====
/-- a private method of a class that the tables say can be made, by its rows of tables_1 -/
def lw_okq (q : MethodName × Nat) : Prop := (q.1.cls ≠ "java/lang/invoke/MethodHandle" ∧ q.1.cls ≠ "java/lang/invoke/VarHandle") ∧ Cond.instantiable q.1.cls q.2 ∈ tables_1 ∧ Cond.privateMethod q.1 ∈ tables_1 ∧ Cond.instanceMethod q.1 ∈ tables_1
theorem lw_p0 : lw_okq (⟨"BoxIntegrals", "forgetRoles", "()V"⟩, 6) := ⟨⟨by decide +kernel, by decide +kernel⟩, List.mem_of_getElem? (i := 18) (by decide +kernel), List.mem_of_getElem? (i := 144) (by decide +kernel), List.mem_of_getElem? (i := 145) (by decide +kernel)⟩
theorem lw_p1 : lw_okq (⟨"BoxIntegrals", "settle", "(I)V"⟩, 6) := ⟨⟨by decide +kernel, by decide +kernel⟩, List.mem_of_getElem? (i := 18) (by decide +kernel), List.mem_of_getElem? (i := 198) (by decide +kernel), List.mem_of_getElem? (i := 199) (by decide +kernel)⟩
theorem lw_p2 : lw_okq (⟨"BoxIntegrals$Formulas", "put", "(IJJ)V"⟩, 8) := ⟨⟨by decide +kernel, by decide +kernel⟩, List.mem_of_getElem? (i := 26) (by decide +kernel), List.mem_of_getElem? (i := 209) (by decide +kernel), List.mem_of_getElem? (i := 210) (by decide +kernel)⟩
theorem lw_p3 : lw_okq (⟨"BoxIntegrals$Formulas", "putWholeLine", "(I)V"⟩, 8) := ⟨⟨by decide +kernel, by decide +kernel⟩, List.mem_of_getElem? (i := 26) (by decide +kernel), List.mem_of_getElem? (i := 214) (by decide +kernel), List.mem_of_getElem? (i := 215) (by decide +kernel)⟩
theorem lw_p4 : lw_okq (⟨"BoxIntegrals$Formulas", "encloseMade", "(I)V"⟩, 8) := ⟨⟨by decide +kernel, by decide +kernel⟩, List.mem_of_getElem? (i := 26) (by decide +kernel), List.mem_of_getElem? (i := 220) (by decide +kernel), List.mem_of_getElem? (i := 221) (by decide +kernel)⟩
theorem lw_p5 : lw_okq (⟨"BoxIntegrals$Formulas", "putFour", "(IJJJJ)V"⟩, 8) := ⟨⟨by decide +kernel, by decide +kernel⟩, List.mem_of_getElem? (i := 26) (by decide +kernel), List.mem_of_getElem? (i := 279) (by decide +kernel), List.mem_of_getElem? (i := 280) (by decide +kernel)⟩
theorem lw_p6 : lw_okq (⟨"BoxIntegrals$Formulas", "putSize", "(IJJ)V"⟩, 8) := ⟨⟨by decide +kernel, by decide +kernel⟩, List.mem_of_getElem? (i := 26) (by decide +kernel), List.mem_of_getElem? (i := 300) (by decide +kernel), List.mem_of_getElem? (i := 301) (by decide +kernel)⟩
theorem lw_p7 : lw_okq (⟨"BoxIntegrals$Formulas", "putRoot", "(IJJ)V"⟩, 8) := ⟨⟨by decide +kernel, by decide +kernel⟩, List.mem_of_getElem? (i := 26) (by decide +kernel), List.mem_of_getElem? (i := 304) (by decide +kernel), List.mem_of_getElem? (i := 305) (by decide +kernel)⟩
theorem lw_p8 : lw_okq (⟨"BoxIntegrals$Formulas", "putSquare", "(IJJ)V"⟩, 8) := ⟨⟨by decide +kernel, by decide +kernel⟩, List.mem_of_getElem? (i := 26) (by decide +kernel), List.mem_of_getElem? (i := 319) (by decide +kernel), List.mem_of_getElem? (i := 320) (by decide +kernel)⟩
theorem lw_p9 : lw_okq (⟨"BoxIntegrals", "kindNow", "()I"⟩, 6) := ⟨⟨by decide +kernel, by decide +kernel⟩, List.mem_of_getElem? (i := 18) (by decide +kernel), List.mem_of_getElem? (i := 352) (by decide +kernel), List.mem_of_getElem? (i := 353) (by decide +kernel)⟩
theorem lw_p10 : lw_okq (⟨"BoxIntegrals", "surelyNot", "(I)Z"⟩, 6) := ⟨⟨by decide +kernel, by decide +kernel⟩, List.mem_of_getElem? (i := 18) (by decide +kernel), List.mem_of_getElem? (i := 356) (by decide +kernel), List.mem_of_getElem? (i := 357) (by decide +kernel)⟩
theorem lw_p11 : lw_okq (⟨"BoxIntegrals", "surely", "(I)Z"⟩, 6) := ⟨⟨by decide +kernel, by decide +kernel⟩, List.mem_of_getElem? (i := 18) (by decide +kernel), List.mem_of_getElem? (i := 360) (by decide +kernel), List.mem_of_getElem? (i := 361) (by decide +kernel)⟩
theorem lw_p12 : lw_okq (⟨"BoxIntegrals", "weigh", "(I)V"⟩, 6) := ⟨⟨by decide +kernel, by decide +kernel⟩, List.mem_of_getElem? (i := 18) (by decide +kernel), List.mem_of_getElem? (i := 374) (by decide +kernel), List.mem_of_getElem? (i := 375) (by decide +kernel)⟩
theorem lw_p13 : lw_okq (⟨"BoxIntegrals", "lowOdds", "()J"⟩, 6) := ⟨⟨by decide +kernel, by decide +kernel⟩, List.mem_of_getElem? (i := 18) (by decide +kernel), List.mem_of_getElem? (i := 477) (by decide +kernel), List.mem_of_getElem? (i := 478) (by decide +kernel)⟩
theorem lw_p14 : lw_okq (⟨"BoxIntegrals", "highOdds", "()J"⟩, 6) := ⟨⟨by decide +kernel, by decide +kernel⟩, List.mem_of_getElem? (i := 18) (by decide +kernel), List.mem_of_getElem? (i := 484) (by decide +kernel), List.mem_of_getElem? (i := 485) (by decide +kernel)⟩
theorem lw_p15 : lw_okq (⟨"java/lang/Throwable", "fillInStackTrace", "(I)Ljava/lang/Throwable;"⟩, 6) := ⟨⟨by decide +kernel, by decide +kernel⟩, List.mem_of_getElem? (i := 535) (by decide +kernel), List.mem_of_getElem? (i := 533) (by decide +kernel), List.mem_of_getElem? (i := 534) (by decide +kernel)⟩
def lw_privs_1 : List (MethodName × Nat) := [(⟨"BoxIntegrals", "forgetRoles", "()V"⟩, 6), (⟨"BoxIntegrals", "settle", "(I)V"⟩, 6), (⟨"BoxIntegrals$Formulas", "put", "(IJJ)V"⟩, 8), (⟨"BoxIntegrals$Formulas", "putWholeLine", "(I)V"⟩, 8), (⟨"BoxIntegrals$Formulas", "encloseMade", "(I)V"⟩, 8), (⟨"BoxIntegrals$Formulas", "putFour", "(IJJJJ)V"⟩, 8), (⟨"BoxIntegrals$Formulas", "putSize", "(IJJ)V"⟩, 8), (⟨"BoxIntegrals$Formulas", "putRoot", "(IJJ)V"⟩, 8), (⟨"BoxIntegrals$Formulas", "putSquare", "(IJJ)V"⟩, 8), (⟨"BoxIntegrals", "kindNow", "()I"⟩, 6), (⟨"BoxIntegrals", "surelyNot", "(I)Z"⟩, 6), (⟨"BoxIntegrals", "surely", "(I)Z"⟩, 6), (⟨"BoxIntegrals", "weigh", "(I)V"⟩, 6), (⟨"BoxIntegrals", "lowOdds", "()J"⟩, 6), (⟨"BoxIntegrals", "highOdds", "()J"⟩, 6), (⟨"java/lang/Throwable", "fillInStackTrace", "(I)Ljava/lang/Throwable;"⟩, 6)]
theorem lw_r1 : ∀ q ∈ lw_privs_1, lw_okq q := List.forall_mem_cons.mpr ⟨lw_p0, List.forall_mem_cons.mpr ⟨lw_p1, List.forall_mem_cons.mpr ⟨lw_p2, List.forall_mem_cons.mpr ⟨lw_p3, List.forall_mem_cons.mpr ⟨lw_p4, List.forall_mem_cons.mpr ⟨lw_p5, List.forall_mem_cons.mpr ⟨lw_p6, List.forall_mem_cons.mpr ⟨lw_p7, List.forall_mem_cons.mpr ⟨lw_p8, List.forall_mem_cons.mpr ⟨lw_p9, List.forall_mem_cons.mpr ⟨lw_p10, List.forall_mem_cons.mpr ⟨lw_p11, List.forall_mem_cons.mpr ⟨lw_p12, List.forall_mem_cons.mpr ⟨lw_p13, List.forall_mem_cons.mpr ⟨lw_p14, List.forall_mem_cons.mpr ⟨lw_p15, fun _ h => absurd h List.not_mem_nil⟩⟩⟩⟩⟩⟩⟩⟩⟩⟩⟩⟩⟩⟩⟩⟩
theorem lw_p16 : lw_okq (⟨"BoxIntegralsModel", "ends", "()V"⟩, 21) := ⟨⟨by decide +kernel, by decide +kernel⟩, List.mem_of_getElem? (i := 629) (by decide +kernel), List.mem_of_getElem? (i := 719) (by decide +kernel), List.mem_of_getElem? (i := 720) (by decide +kernel)⟩
theorem lw_p17 : lw_okq (⟨"BoxIntegralsModel", "isNode", "(I)Z"⟩, 21) := ⟨⟨by decide +kernel, by decide +kernel⟩, List.mem_of_getElem? (i := 629) (by decide +kernel), List.mem_of_getElem? (i := 730) (by decide +kernel), List.mem_of_getElem? (i := 731) (by decide +kernel)⟩
theorem lw_p18 : lw_okq (⟨"BoxIntegralsModel", "valueAt", "(IDDD)D"⟩, 21) := ⟨⟨by decide +kernel, by decide +kernel⟩, List.mem_of_getElem? (i := 629) (by decide +kernel), List.mem_of_getElem? (i := 745) (by decide +kernel), List.mem_of_getElem? (i := 746) (by decide +kernel)⟩
theorem lw_p19 : lw_okq (⟨"BoxIntegralsModel", "judge", "(I)V"⟩, 21) := ⟨⟨by decide +kernel, by decide +kernel⟩, List.mem_of_getElem? (i := 629) (by decide +kernel), List.mem_of_getElem? (i := 808) (by decide +kernel), List.mem_of_getElem? (i := 809) (by decide +kernel)⟩
theorem lw_p20 : lw_okq (⟨"BoxIntegralsModel", "holds", "(II)I"⟩, 21) := ⟨⟨by decide +kernel, by decide +kernel⟩, List.mem_of_getElem? (i := 629) (by decide +kernel), List.mem_of_getElem? (i := 812) (by decide +kernel), List.mem_of_getElem? (i := 813) (by decide +kernel)⟩
theorem lw_p21 : lw_okq (⟨"BoxIntegralsModel", "encloseTo", "(II)V"⟩, 21) := ⟨⟨by decide +kernel, by decide +kernel⟩, List.mem_of_getElem? (i := 629) (by decide +kernel), List.mem_of_getElem? (i := 816) (by decide +kernel), List.mem_of_getElem? (i := 817) (by decide +kernel)⟩
theorem lw_p22 : lw_okq (⟨"BoxIntegralsModel", "enclose", "(II)V"⟩, 21) := ⟨⟨by decide +kernel, by decide +kernel⟩, List.mem_of_getElem? (i := 629) (by decide +kernel), List.mem_of_getElem? (i := 820) (by decide +kernel), List.mem_of_getElem? (i := 821) (by decide +kernel)⟩
theorem lw_p23 : lw_okq (⟨"BoxIntegralsModel", "put", "(IDD)V"⟩, 21) := ⟨⟨by decide +kernel, by decide +kernel⟩, List.mem_of_getElem? (i := 629) (by decide +kernel), List.mem_of_getElem? (i := 824) (by decide +kernel), List.mem_of_getElem? (i := 825) (by decide +kernel)⟩
theorem lw_p24 : lw_okq (⟨"BoxIntegralsModel", "putFour", "(IDDDD)V"⟩, 21) := ⟨⟨by decide +kernel, by decide +kernel⟩, List.mem_of_getElem? (i := 629) (by decide +kernel), List.mem_of_getElem? (i := 834) (by decide +kernel), List.mem_of_getElem? (i := 835) (by decide +kernel)⟩
theorem lw_p25 : lw_okq (⟨"BoxIntegralsModel", "putUp", "(IDD)V"⟩, 21) := ⟨⟨by decide +kernel, by decide +kernel⟩, List.mem_of_getElem? (i := 629) (by decide +kernel), List.mem_of_getElem? (i := 844) (by decide +kernel), List.mem_of_getElem? (i := 845) (by decide +kernel)⟩
theorem lw_p26 : lw_okq (⟨"BoxIntegralsModel", "times", "(IDD)V"⟩, 21) := ⟨⟨by decide +kernel, by decide +kernel⟩, List.mem_of_getElem? (i := 629) (by decide +kernel), List.mem_of_getElem? (i := 848) (by decide +kernel), List.mem_of_getElem? (i := 849) (by decide +kernel)⟩
theorem lw_p27 : lw_okq (⟨"BoxIntegralsModel", "next", "()I"⟩, 21) := ⟨⟨by decide +kernel, by decide +kernel⟩, List.mem_of_getElem? (i := 629) (by decide +kernel), List.mem_of_getElem? (i := 856) (by decide +kernel), List.mem_of_getElem? (i := 857) (by decide +kernel)⟩
theorem lw_p28 : lw_okq (⟨"BoxIntegralsModel", "isTight", "(I)Z"⟩, 21) := ⟨⟨by decide +kernel, by decide +kernel⟩, List.mem_of_getElem? (i := 629) (by decide +kernel), List.mem_of_getElem? (i := 860) (by decide +kernel), List.mem_of_getElem? (i := 861) (by decide +kernel)⟩
theorem lw_p29 : lw_okq (⟨"BoxIntegralsModel", "widest", "(I)I"⟩, 21) := ⟨⟨by decide +kernel, by decide +kernel⟩, List.mem_of_getElem? (i := 629) (by decide +kernel), List.mem_of_getElem? (i := 864) (by decide +kernel), List.mem_of_getElem? (i := 865) (by decide +kernel)⟩
theorem lw_p30 : lw_okq (⟨"BoxIntegralsModel", "middle", "(I)D"⟩, 21) := ⟨⟨by decide +kernel, by decide +kernel⟩, List.mem_of_getElem? (i := 629) (by decide +kernel), List.mem_of_getElem? (i := 868) (by decide +kernel), List.mem_of_getElem? (i := 869) (by decide +kernel)⟩
theorem lw_p31 : lw_okq (⟨"BoxIntegralsModel", "isBox", "(I)Z"⟩, 21) := ⟨⟨by decide +kernel, by decide +kernel⟩, List.mem_of_getElem? (i := 629) (by decide +kernel), List.mem_of_getElem? (i := 881) (by decide +kernel), List.mem_of_getElem? (i := 882) (by decide +kernel)⟩
def lw_privs_2 : List (MethodName × Nat) := [(⟨"BoxIntegralsModel", "ends", "()V"⟩, 21), (⟨"BoxIntegralsModel", "isNode", "(I)Z"⟩, 21), (⟨"BoxIntegralsModel", "valueAt", "(IDDD)D"⟩, 21), (⟨"BoxIntegralsModel", "judge", "(I)V"⟩, 21), (⟨"BoxIntegralsModel", "holds", "(II)I"⟩, 21), (⟨"BoxIntegralsModel", "encloseTo", "(II)V"⟩, 21), (⟨"BoxIntegralsModel", "enclose", "(II)V"⟩, 21), (⟨"BoxIntegralsModel", "put", "(IDD)V"⟩, 21), (⟨"BoxIntegralsModel", "putFour", "(IDDDD)V"⟩, 21), (⟨"BoxIntegralsModel", "putUp", "(IDD)V"⟩, 21), (⟨"BoxIntegralsModel", "times", "(IDD)V"⟩, 21), (⟨"BoxIntegralsModel", "next", "()I"⟩, 21), (⟨"BoxIntegralsModel", "isTight", "(I)Z"⟩, 21), (⟨"BoxIntegralsModel", "widest", "(I)I"⟩, 21), (⟨"BoxIntegralsModel", "middle", "(I)D"⟩, 21), (⟨"BoxIntegralsModel", "isBox", "(I)Z"⟩, 21)]
theorem lw_r2 : ∀ q ∈ lw_privs_2, lw_okq q := List.forall_mem_cons.mpr ⟨lw_p16, List.forall_mem_cons.mpr ⟨lw_p17, List.forall_mem_cons.mpr ⟨lw_p18, List.forall_mem_cons.mpr ⟨lw_p19, List.forall_mem_cons.mpr ⟨lw_p20, List.forall_mem_cons.mpr ⟨lw_p21, List.forall_mem_cons.mpr ⟨lw_p22, List.forall_mem_cons.mpr ⟨lw_p23, List.forall_mem_cons.mpr ⟨lw_p24, List.forall_mem_cons.mpr ⟨lw_p25, List.forall_mem_cons.mpr ⟨lw_p26, List.forall_mem_cons.mpr ⟨lw_p27, List.forall_mem_cons.mpr ⟨lw_p28, List.forall_mem_cons.mpr ⟨lw_p29, List.forall_mem_cons.mpr ⟨lw_p30, List.forall_mem_cons.mpr ⟨lw_p31, fun _ h => absurd h List.not_mem_nil⟩⟩⟩⟩⟩⟩⟩⟩⟩⟩⟩⟩⟩⟩⟩⟩
theorem lw_p32 : lw_okq (⟨"BoxIntegralsModel", "isIn", "(IDDD)Z"⟩, 21) := ⟨⟨by decide +kernel, by decide +kernel⟩, List.mem_of_getElem? (i := 629) (by decide +kernel), List.mem_of_getElem? (i := 901) (by decide +kernel), List.mem_of_getElem? (i := 902) (by decide +kernel)⟩
theorem lw_p33 : lw_okq (⟨"BoxIntegralsModel", "massLow", "(I)D"⟩, 21) := ⟨⟨by decide +kernel, by decide +kernel⟩, List.mem_of_getElem? (i := 629) (by decide +kernel), List.mem_of_getElem? (i := 916) (by decide +kernel), List.mem_of_getElem? (i := 917) (by decide +kernel)⟩
theorem lw_p34 : lw_okq (⟨"BoxIntegralsModel", "massHigh", "(I)D"⟩, 21) := ⟨⟨by decide +kernel, by decide +kernel⟩, List.mem_of_getElem? (i := 629) (by decide +kernel), List.mem_of_getElem? (i := 920) (by decide +kernel), List.mem_of_getElem? (i := 921) (by decide +kernel)⟩
theorem lw_p35 : lw_okq (⟨"BoxIntegralsModel", "countOf", "(I)I"⟩, 21) := ⟨⟨by decide +kernel, by decide +kernel⟩, List.mem_of_getElem? (i := 629) (by decide +kernel), List.mem_of_getElem? (i := 932) (by decide +kernel), List.mem_of_getElem? (i := 933) (by decide +kernel)⟩
def lw_privs_3 : List (MethodName × Nat) := [(⟨"BoxIntegralsModel", "isIn", "(IDDD)Z"⟩, 21), (⟨"BoxIntegralsModel", "massLow", "(I)D"⟩, 21), (⟨"BoxIntegralsModel", "massHigh", "(I)D"⟩, 21), (⟨"BoxIntegralsModel", "countOf", "(I)I"⟩, 21)]
theorem lw_r3 : ∀ q ∈ lw_privs_3, lw_okq q := List.forall_mem_cons.mpr ⟨lw_p32, List.forall_mem_cons.mpr ⟨lw_p33, List.forall_mem_cons.mpr ⟨lw_p34, List.forall_mem_cons.mpr ⟨lw_p35, fun _ h => absurd h List.not_mem_nil⟩⟩⟩⟩
def lw_privs : List (MethodName × Nat) := lw_privs_1 ++ (lw_privs_2 ++ (lw_privs_3))
def lw_tbl : List Cond := k2_sels lw_privs ++ tables_1
theorem lw_privs_ok : ∀ q ∈ lw_privs, lw_okq q := by
  show ∀ q ∈ lw_privs_1 ++ (lw_privs_2 ++ (lw_privs_3)), lw_okq q
  exact List.forall_mem_append.mpr ⟨lw_r1, List.forall_mem_append.mpr ⟨lw_r2, lw_r3⟩⟩
/-- the streams that the claim lets the run draw from -/
abbrev lw_cs : List Choice := [Jvm.Choice.named "NaN.bits", Jvm.Choice.named "NaN.copy"]
theorem lw_bits : nanBits ∈ lw_cs := by first | decide | exact List.mem_cons_self | simp [lw_cs, nanBits]
/-- every good word of the tables: one list for all methods -/
def lw_all : List Cond := lw_tbl.filter goodWord
theorem lw_all_tbl {w : Cond} (h : w ∈ lw_all) : w ∈ lw_tbl := (List.mem_filter.mp h).1
theorem mw {w : Cond} (k : Nat) (h : tables_1[k]? = some w) (g : goodWord w = true) : w ∈ lw_all := List.mem_filter.mpr ⟨List.mem_append_right _ (List.mem_of_getElem? h), g⟩
theorem ms {w : Cond} (k : Nat) (h : (k2_sels lw_privs)[k]? = some w) (g : goodWord w = true) : w ∈ lw_all := List.mem_filter.mpr ⟨List.mem_append_left _ (List.mem_of_getElem? h), g⟩
theorem lw_all_good {w : Cond} (h : w ∈ lw_all) : goodWord w = true := (List.mem_filter.mp h).2
theorem lw_goodT : GoodIn lw_tbl lw_all := fun w h => ⟨lw_all_tbl h, good_of_word (lw_all_good h)⟩
theorem lw_good1 (c : Cond) : GoodIn (c :: lw_all) lw_all := fun w h => ⟨List.mem_cons_of_mem _ h, good_of_word (lw_all_good h)⟩
theorem lw_goodM {big : List Cond} (hb : ∀ w ∈ lw_all, w ∈ big) {c : Cond} (h : c ∈ lw_all) : GoodIn big (c :: lw_all) := fun w hw => by
  rcases List.mem_cons.mp hw with rfl | hw
  · exact ⟨hb _ h, good_of_word (lw_all_good h)⟩
  · exact ⟨hb _ hw, good_of_word (lw_all_good hw)⟩
end
section
def RX0 : String := "BoxIntegrals$Formulas"
def TX0 : u_T := fun k => match k with
  | 0 => ("BoxIntegrals$Formulas", "lows", "[J", true)
  | 1 => ("BoxIntegrals$Formulas", "highs", "[J", true)
  | 2 => ("BoxIntegrals$Formulas", "size", "I", false)
  | 3 => ("BoxIntegrals$Formulas", "kinds", "[I", true)
  | 4 => ("BoxIntegrals$Formulas", "firsts", "[I", true)
  | 5 => ("BoxIntegrals$Formulas", "seconds", "[I", true)
  | 6 => ("BoxIntegrals$Formulas", "numbers", "[J", true)
  | _ => ("BoxIntegrals$Formulas", "values", "[J", true)
def tyX0 : Nat → FieldType := fun k => match k with
  | 0 => .array .long
  | 1 => .array .long
  | 2 => .int
  | 3 => .array .int
  | 4 => .array .int
  | 5 => .array .int
  | 6 => .array .long
  | _ => .array .long
theorem nmX0 : ∀ a, a < 8 → ∀ b, b < 8 → a ≠ b → (TX0 a).2.1 ≠ (TX0 b).2.1 := by decide +kernel
theorem tyX0_ok : ∀ k, k < 8 → parseFieldDescriptor (TX0 k).2.2.1 = some (tyX0 k) := by decide +kernel
abbrev cX0_init : ByteArray := prog_2_method_1_code
def yX0_init : MethodName := ⟨RX0, "<init>", "()V"⟩
abbrev cX0_isKind : ByteArray := prog_2_method_2_code
def yX0_isKind : MethodName := ⟨RX0, "isKind", "(I)Z"⟩
abbrev cX0_hasFirst : ByteArray := prog_2_method_3_code
def yX0_hasFirst : MethodName := ⟨RX0, "hasFirst", "(I)Z"⟩
abbrev cX0_hasSecond : ByteArray := prog_2_method_4_code
def yX0_hasSecond : MethodName := ⟨RX0, "hasSecond", "(I)Z"⟩
abbrev cX0_has : ByteArray := prog_2_method_5_code
def yX0_has : MethodName := ⟨RX0, "has", "(I)Z"⟩
abbrev cX0_areParts : ByteArray := prog_2_method_6_code
def yX0_areParts : MethodName := ⟨RX0, "areParts", "(IIII)Z"⟩
abbrev cX0_add : ByteArray := prog_2_method_7_code
def yX0_add : MethodName := ⟨RX0, "add", "(IIIJ)I"⟩
abbrev cX0_withParts : ByteArray := prog_2_method_8_code
def yX0_withParts : MethodName := ⟨RX0, "withParts", "(I)I"⟩
abbrev cX0_valueAt : ByteArray := prog_2_method_9_code
def yX0_valueAt : MethodName := ⟨RX0, "valueAt", "(IJJJ)J"⟩
abbrev cX0_made : ByteArray := prog_2_method_10_code
def yX0_made : MethodName := ⟨RX0, "made", "(IJJ)J"⟩
abbrev cX0_enclose : ByteArray := prog_2_method_11_code
def yX0_enclose : MethodName := ⟨RX0, "enclose", "(I[JI)V"⟩
abbrev cX0_encloseMade : ByteArray := prog_2_method_12_code
def yX0_encloseMade : MethodName := ⟨RX0, "encloseMade", "(I)V"⟩
abbrev cX0_putWholeLine : ByteArray := prog_2_method_13_code
def yX0_putWholeLine : MethodName := ⟨RX0, "putWholeLine", "(I)V"⟩
abbrev cX0_put : ByteArray := prog_2_method_14_code
def yX0_put : MethodName := ⟨RX0, "put", "(IJJ)V"⟩
abbrev cX0_putFour : ByteArray := prog_2_method_15_code
def yX0_putFour : MethodName := ⟨RX0, "putFour", "(IJJJJ)V"⟩
abbrev cX0_putSize : ByteArray := prog_2_method_16_code
def yX0_putSize : MethodName := ⟨RX0, "putSize", "(IJJ)V"⟩
abbrev cX0_putRoot : ByteArray := prog_2_method_17_code
def yX0_putRoot : MethodName := ⟨RX0, "putRoot", "(IJJ)V"⟩
abbrev cX0_putSquare : ByteArray := prog_2_method_18_code
def yX0_putSquare : MethodName := ⟨RX0, "putSquare", "(IJJ)V"⟩
def RX1 : String := "BoxIntegrals$Reals"
def TX1 : u_T := fun k => match k with
  | _ => ("", "", "", false)
def tyX1 : Nat → FieldType := fun k => match k with
  | _ => .int
theorem nmX1 : ∀ a, a < 0 → ∀ b, b < 0 → a ≠ b → (TX1 a).2.1 ≠ (TX1 b).2.1 := by decide +kernel
theorem tyX1_ok : ∀ k, k < 0 → parseFieldDescriptor (TX1 k).2.2.1 = some (tyX1 k) := by decide +kernel
abbrev cX1_told : ByteArray := prog_3_method_2_code
def yX1_told : MethodName := ⟨RX1, "told", "(J)J"⟩
abbrev cX1_ofThree : ByteArray := prog_3_method_3_code
def yX1_ofThree : MethodName := ⟨RX1, "ofThree", "(IJJJ)J"⟩
abbrev cX1_isNone : ByteArray := prog_3_method_4_code
def yX1_isNone : MethodName := ⟨RX1, "isNone", "(J)Z"⟩
abbrev cX1_isFinite : ByteArray := prog_3_method_5_code
def yX1_isFinite : MethodName := ⟨RX1, "isFinite", "(J)Z"⟩
abbrev cX1_isInfinite : ByteArray := prog_3_method_6_code
def yX1_isInfinite : MethodName := ⟨RX1, "isInfinite", "(J)Z"⟩
abbrev cX1_isZero : ByteArray := prog_3_method_7_code
def yX1_isZero : MethodName := ⟨RX1, "isZero", "(J)Z"⟩
abbrev cX1_rank : ByteArray := prog_3_method_8_code
def yX1_rank : MethodName := ⟨RX1, "rank", "(J)J"⟩
abbrev cX1_isBelow : ByteArray := prog_3_method_9_code
def yX1_isBelow : MethodName := ⟨RX1, "isBelow", "(JJ)Z"⟩
abbrev cX1_isFromTo : ByteArray := prog_3_method_10_code
def yX1_isFromTo : MethodName := ⟨RX1, "isFromTo", "(JJJ)Z"⟩
abbrev cX1_strictRank : ByteArray := prog_3_method_11_code
def yX1_strictRank : MethodName := ⟨RX1, "strictRank", "(J)J"⟩
abbrev cX1_lesser : ByteArray := prog_3_method_12_code
def yX1_lesser : MethodName := ⟨RX1, "lesser", "(JJ)J"⟩
abbrev cX1_greater : ByteArray := prog_3_method_13_code
def yX1_greater : MethodName := ⟨RX1, "greater", "(JJ)J"⟩
abbrev cX1_zeroIfLess : ByteArray := prog_3_method_14_code
def yX1_zeroIfLess : MethodName := ⟨RX1, "zeroIfLess", "(J)J"⟩
abbrev cX1_oneIfMore : ByteArray := prog_3_method_15_code
def yX1_oneIfMore : MethodName := ⟨RX1, "oneIfMore", "(J)J"⟩
abbrev cX1_opposite : ByteArray := prog_3_method_16_code
def yX1_opposite : MethodName := ⟨RX1, "opposite", "(J)J"⟩
abbrev cX1_size : ByteArray := prog_3_method_17_code
def yX1_size : MethodName := ⟨RX1, "size", "(J)J"⟩
abbrev cX1_signum : ByteArray := prog_3_method_18_code
def yX1_signum : MethodName := ⟨RX1, "signum", "(J)J"⟩
abbrev cX1_up : ByteArray := prog_3_method_19_code
def yX1_up : MethodName := ⟨RX1, "up", "(J)J"⟩
abbrev cX1_down : ByteArray := prog_3_method_20_code
def yX1_down : MethodName := ⟨RX1, "down", "(J)J"⟩
abbrev cX1_scale : ByteArray := prog_3_method_21_code
def yX1_scale : MethodName := ⟨RX1, "scale", "(J)I"⟩
abbrev cX1_fraction : ByteArray := prog_3_method_22_code
def yX1_fraction : MethodName := ⟨RX1, "fraction", "(J)J"⟩
abbrev cX1_lack : ByteArray := prog_3_method_23_code
def yX1_lack : MethodName := ⟨RX1, "lack", "(J)I"⟩
abbrev cX1_moved : ByteArray := prog_3_method_24_code
def yX1_moved : MethodName := ⟨RX1, "moved", "(JI)J"⟩
abbrev cX1_packed : ByteArray := prog_3_method_25_code
def yX1_packed : MethodName := ⟨RX1, "packed", "(JIJ)J"⟩
abbrev cX1_plus : ByteArray := prog_3_method_26_code
def yX1_plus : MethodName := ⟨RX1, "plus", "(JJ)J"⟩
abbrev cX1_times : ByteArray := prog_3_method_27_code
def yX1_times : MethodName := ⟨RX1, "times", "(JJ)J"⟩
abbrev cX1_topOfProduct : ByteArray := prog_3_method_28_code
def yX1_topOfProduct : MethodName := ⟨RX1, "topOfProduct", "(JJ)J"⟩
abbrev cX1_over : ByteArray := prog_3_method_29_code
def yX1_over : MethodName := ⟨RX1, "over", "(JJ)J"⟩
abbrev cX1_quotient : ByteArray := prog_3_method_30_code
def yX1_quotient : MethodName := ⟨RX1, "quotient", "(JJ)J"⟩
abbrev cX1_root : ByteArray := prog_3_method_31_code
def yX1_root : MethodName := ⟨RX1, "root", "(J)J"⟩
abbrev cX1_wholeRoot : ByteArray := prog_3_method_32_code
def yX1_wholeRoot : MethodName := ⟨RX1, "wholeRoot", "(J)J"⟩
abbrev cX1_behindPoint : ByteArray := prog_3_method_33_code
def yX1_behindPoint : MethodName := ⟨RX1, "behindPoint", "(I)J"⟩
abbrev cX1_floor : ByteArray := prog_3_method_34_code
def yX1_floor : MethodName := ⟨RX1, "floor", "(J)J"⟩
abbrev cX1_throughFloat : ByteArray := prog_3_method_35_code
def yX1_throughFloat : MethodName := ⟨RX1, "throughFloat", "(J)J"⟩
abbrev cX1_cut : ByteArray := prog_3_method_36_code
def yX1_cut : MethodName := ⟨RX1, "cut", "(JJJ)J"⟩
abbrev cX1_lowTimes : ByteArray := prog_3_method_37_code
def yX1_lowTimes : MethodName := ⟨RX1, "lowTimes", "(JJ)J"⟩
abbrev cX1_highTimes : ByteArray := prog_3_method_38_code
def yX1_highTimes : MethodName := ⟨RX1, "highTimes", "(JJ)J"⟩
def RX2 : String := "BoxIntegrals$Tiling"
def TX2 : u_T := fun k => match k with
  | 0 => ("BoxIntegrals$Tiling", "sides", "[J", true)
  | 1 => ("BoxIntegrals$Tiling", "lows", "[J", true)
  | 2 => ("BoxIntegrals$Tiling", "highs", "[J", true)
  | 3 => ("BoxIntegrals$Tiling", "kinds", "[I", true)
  | 4 => ("BoxIntegrals$Tiling", "widths", "[J", true)
  | 5 => ("BoxIntegrals$Tiling", "size", "I", false)
  | 6 => ("BoxIntegrals$Tiling", "cutDraws", "[I", true)
  | 7 => ("BoxIntegrals$Tiling", "middles", "[J", true)
  | 8 => ("BoxIntegrals$Tiling", "tight", "[Z", true)
  | _ => ("BoxIntegrals$Tiling", "draws", "I", false)
def tyX2 : Nat → FieldType := fun k => match k with
  | 0 => .array .long
  | 1 => .array .long
  | 2 => .array .long
  | 3 => .array .int
  | 4 => .array .long
  | 5 => .int
  | 6 => .array .int
  | 7 => .array .long
  | 8 => .array .boolean
  | _ => .int
theorem nmX2 : ∀ a, a < 10 → ∀ b, b < 10 → a ≠ b → (TX2 a).2.1 ≠ (TX2 b).2.1 := by decide +kernel
theorem tyX2_ok : ∀ k, k < 10 → parseFieldDescriptor (TX2 k).2.2.1 = some (tyX2 k) := by decide +kernel
abbrev cX2_init : ByteArray := prog_4_method_1_code
def yX2_init : MethodName := ⟨RX2, "<init>", "()V"⟩
abbrev cX2_place : ByteArray := prog_4_method_2_code
def yX2_place : MethodName := ⟨RX2, "place", "(II)I"⟩
abbrev cX2_has : ByteArray := prog_4_method_3_code
def yX2_has : MethodName := ⟨RX2, "has", "(I)Z"⟩
abbrev cX2_start : ByteArray := prog_4_method_4_code
def yX2_start : MethodName := ⟨RX2, "start", "([JI)V"⟩
abbrev cX2_end : ByteArray := prog_4_method_5_code
def yX2_end : MethodName := ⟨RX2, "end", "()V"⟩
abbrev cX2_measure : ByteArray := prog_4_method_6_code
def yX2_measure : MethodName := ⟨RX2, "measure", "(I)V"⟩
abbrev cX2_split : ByteArray := prog_4_method_7_code
def yX2_split : MethodName := ⟨RX2, "split", "(I)I"⟩
abbrev cX2_heaviest : ByteArray := prog_4_method_8_code
def yX2_heaviest : MethodName := ⟨RX2, "heaviest", "()I"⟩
abbrev cX2_holds : ByteArray := prog_4_method_9_code
def yX2_holds : MethodName := ⟨RX2, "holds", "(IJJJ)Z"⟩
abbrev cX2_lowMass : ByteArray := prog_4_method_10_code
def yX2_lowMass : MethodName := ⟨RX2, "lowMass", "(I)J"⟩
abbrev cX2_highMass : ByteArray := prog_4_method_11_code
def yX2_highMass : MethodName := ⟨RX2, "highMass", "(I)J"⟩
abbrev cX2_howMany : ByteArray := prog_4_method_12_code
def yX2_howMany : MethodName := ⟨RX2, "howMany", "(I)I"⟩
abbrev cX2_howManyStuck : ByteArray := prog_4_method_13_code
def yX2_howManyStuck : MethodName := ⟨RX2, "howManyStuck", "()I"⟩
def RX3 : String := "BoxIntegrals"
def TX3 : u_T := fun k => match k with
  | 0 => ("BoxIntegrals", "formulas", "LBoxIntegrals$Formulas;", true)
  | 1 => ("BoxIntegrals", "tiling", "LBoxIntegrals$Tiling;", true)
  | 2 => ("BoxIntegrals", "spans", "[J", true)
  | 3 => ("BoxIntegrals", "roles", "[I", true)
  | 4 => ("BoxIntegrals", "draws", "I", false)
  | _ => ("BoxIntegrals", "needed", "I", false)
def tyX3 : Nat → FieldType := fun k => match k with
  | 0 => .object "BoxIntegrals$Formulas"
  | 1 => .object "BoxIntegrals$Tiling"
  | 2 => .array .long
  | 3 => .array .int
  | 4 => .int
  | _ => .int
theorem nmX3 : ∀ a, a < 6 → ∀ b, b < 6 → a ≠ b → (TX3 a).2.1 ≠ (TX3 b).2.1 := by decide +kernel
theorem tyX3_ok : ∀ k, k < 6 → parseFieldDescriptor (TX3 k).2.2.1 = some (tyX3 k) := by decide +kernel
abbrev cX3_init : ByteArray := prog_1_method_1_code
def yX3_init : MethodName := ⟨RX3, "<init>", "()V"⟩
abbrev cX3_draw : ByteArray := prog_1_method_2_code
def yX3_draw : MethodName := ⟨RX3, "draw", "(JJ)I"⟩
abbrev cX3_node : ByteArray := prog_1_method_3_code
def yX3_node : MethodName := ⟨RX3, "node", "(IIIJ)I"⟩
abbrev cX3_role : ByteArray := prog_1_method_4_code
def yX3_role : MethodName := ⟨RX3, "role", "(II)I"⟩
abbrev cX3_begin : ByteArray := prog_1_method_5_code
def yX3_begin : MethodName := ⟨RX3, "begin", "()I"⟩
abbrev cX3_run : ByteArray := prog_1_method_6_code
def yX3_run : MethodName := ⟨RX3, "run", "(I)I"⟩
abbrev cX3_boxes : ByteArray := prog_1_method_7_code
def yX3_boxes : MethodName := ⟨RX3, "boxes", "()I"⟩
abbrev cX3_kind : ByteArray := prog_1_method_8_code
def yX3_kind : MethodName := ⟨RX3, "kind", "(I)I"⟩
abbrev cX3_side : ByteArray := prog_1_method_9_code
def yX3_side : MethodName := ⟨RX3, "side", "(III)J"⟩
abbrev cX3_weight : ByteArray := prog_1_method_10_code
def yX3_weight : MethodName := ⟨RX3, "weight", "(II)J"⟩
abbrev cX3_enclosed : ByteArray := prog_1_method_11_code
def yX3_enclosed : MethodName := ⟨RX3, "enclosed", "(III)J"⟩
abbrev cX3_value : ByteArray := prog_1_method_12_code
def yX3_value : MethodName := ⟨RX3, "value", "(IJJJ)J"⟩
abbrev cX3_within : ByteArray := prog_1_method_13_code
def yX3_within : MethodName := ⟨RX3, "within", "(IIJJJ)I"⟩
abbrev cX3_where : ByteArray := prog_1_method_14_code
def yX3_where : MethodName := ⟨RX3, "where", "(JJJ)I"⟩
abbrev cX3_mass : ByteArray := prog_1_method_15_code
def yX3_mass : MethodName := ⟨RX3, "mass", "(II)J"⟩
abbrev cX3_odds : ByteArray := prog_1_method_16_code
def yX3_odds : MethodName := ⟨RX3, "odds", "(I)J"⟩
abbrev cX3_share : ByteArray := prog_1_method_17_code
def yX3_share : MethodName := ⟨RX3, "share", "(I)I"⟩
abbrev cX3_count : ByteArray := prog_1_method_18_code
def yX3_count : MethodName := ⟨RX3, "count", "(I)I"⟩
abbrev cX3_clear : ByteArray := prog_1_method_19_code
def yX3_clear : MethodName := ⟨RX3, "clear", "()I"⟩
abbrev cX3_isEnd : ByteArray := prog_1_method_20_code
def yX3_isEnd : MethodName := ⟨RX3, "isEnd", "(I)Z"⟩
abbrev cX3_isBoxKind : ByteArray := prog_1_method_21_code
def yX3_isBoxKind : MethodName := ⟨RX3, "isBoxKind", "(I)Z"⟩
abbrev cX3_forgetRoles : ByteArray := prog_1_method_22_code
def yX3_forgetRoles : MethodName := ⟨RX3, "forgetRoles", "()V"⟩
abbrev cX3_settle : ByteArray := prog_1_method_23_code
def yX3_settle : MethodName := ⟨RX3, "settle", "(I)V"⟩
abbrev cX3_kindNow : ByteArray := prog_1_method_24_code
def yX3_kindNow : MethodName := ⟨RX3, "kindNow", "()I"⟩
abbrev cX3_surely : ByteArray := prog_1_method_25_code
def yX3_surely : MethodName := ⟨RX3, "surely", "(I)Z"⟩
abbrev cX3_surelyNot : ByteArray := prog_1_method_26_code
def yX3_surelyNot : MethodName := ⟨RX3, "surelyNot", "(I)Z"⟩
abbrev cX3_weigh : ByteArray := prog_1_method_27_code
def yX3_weigh : MethodName := ⟨RX3, "weigh", "(I)V"⟩
abbrev cX3_lowOdds : ByteArray := prog_1_method_28_code
def yX3_lowOdds : MethodName := ⟨RX3, "lowOdds", "()J"⟩
abbrev cX3_highOdds : ByteArray := prog_1_method_29_code
def yX3_highOdds : MethodName := ⟨RX3, "highOdds", "()J"⟩
def RX4 : String := "BoxIntegralsModel"
def TX4 : u_T := fun k => match k with
  | 0 => ("BoxIntegralsModel", "fault", "I", false)
  | 1 => ("BoxIntegralsModel", "draws", "I", false)
  | 2 => ("BoxIntegralsModel", "spanLow", "[D", true)
  | 3 => ("BoxIntegralsModel", "spanHigh", "[D", true)
  | 4 => ("BoxIntegralsModel", "nodes", "I", false)
  | 5 => ("BoxIntegralsModel", "kinds", "[I", true)
  | 6 => ("BoxIntegralsModel", "firsts", "[I", true)
  | 7 => ("BoxIntegralsModel", "seconds", "[I", true)
  | 8 => ("BoxIntegralsModel", "numbers", "[D", true)
  | 9 => ("BoxIntegralsModel", "roles", "[I", true)
  | 10 => ("BoxIntegralsModel", "isRun", "Z", false)
  | 11 => ("BoxIntegralsModel", "boxes", "I", false)
  | 12 => ("BoxIntegralsModel", "steps", "I", false)
  | 13 => ("BoxIntegralsModel", "lows", "[D", true)
  | 14 => ("BoxIntegralsModel", "highs", "[D", true)
  | 15 => ("BoxIntegralsModel", "boxKind", "[I", true)
  | 16 => ("BoxIntegralsModel", "weightLow", "[D", true)
  | 17 => ("BoxIntegralsModel", "weightHigh", "[D", true)
  | 18 => ("BoxIntegralsModel", "values", "[D", true)
  | 19 => ("BoxIntegralsModel", "low", "[D", true)
  | _ => ("BoxIntegralsModel", "high", "[D", true)
def tyX4 : Nat → FieldType := fun k => match k with
  | 0 => .int
  | 1 => .int
  | 2 => .array .double
  | 3 => .array .double
  | 4 => .int
  | 5 => .array .int
  | 6 => .array .int
  | 7 => .array .int
  | 8 => .array .double
  | 9 => .array .int
  | 10 => .boolean
  | 11 => .int
  | 12 => .int
  | 13 => .array .double
  | 14 => .array .double
  | 15 => .array .int
  | 16 => .array .double
  | 17 => .array .double
  | 18 => .array .double
  | 19 => .array .double
  | _ => .array .double
theorem nmX4 : ∀ a, a < 21 → ∀ b, b < 21 → a ≠ b → (TX4 a).2.1 ≠ (TX4 b).2.1 := by decide +kernel
theorem tyX4_ok : ∀ k, k < 21 → parseFieldDescriptor (TX4 k).2.2.1 = some (tyX4 k) := by decide +kernel
abbrev cX4_init : ByteArray := prog_6_method_1_code
def yX4_init : MethodName := ⟨RX4, "<init>", "()V"⟩
abbrev cX4_thrown : ByteArray := prog_6_method_2_code
def yX4_thrown : MethodName := ⟨RX4, "thrown", "()I"⟩
abbrev cX4_in : ByteArray := prog_6_method_3_code
def yX4_in : MethodName := ⟨RX4, "in", "(III)Z"⟩
abbrev cX4_bits : ByteArray := prog_6_method_4_code
def yX4_bits : MethodName := ⟨RX4, "bits", "(D)J"⟩
abbrev cX4_of : ByteArray := prog_6_method_5_code
def yX4_of : MethodName := ⟨RX4, "of", "(J)D"⟩
abbrev cX4_isNot : ByteArray := prog_6_method_6_code
def yX4_isNot : MethodName := ⟨RX4, "isNot", "(D)Z"⟩
abbrev cX4_up : ByteArray := prog_6_method_7_code
def yX4_up : MethodName := ⟨RX4, "up", "(D)D"⟩
abbrev cX4_down : ByteArray := prog_6_method_8_code
def yX4_down : MethodName := ⟨RX4, "down", "(D)D"⟩
abbrev cX4_isMinus : ByteArray := prog_6_method_9_code
def yX4_isMinus : MethodName := ⟨RX4, "isMinus", "(D)Z"⟩
abbrev cX4_least : ByteArray := prog_6_method_10_code
def yX4_least : MethodName := ⟨RX4, "least", "(DD)D"⟩
abbrev cX4_greatest : ByteArray := prog_6_method_11_code
def yX4_greatest : MethodName := ⟨RX4, "greatest", "(DD)D"⟩
abbrev cX4_size : ByteArray := prog_6_method_12_code
def yX4_size : MethodName := ⟨RX4, "size", "(D)D"⟩
abbrev cX4_isFar : ByteArray := prog_6_method_13_code
def yX4_isFar : MethodName := ⟨RX4, "isFar", "(D)Z"⟩
abbrev cX4_added : ByteArray := prog_6_method_14_code
def yX4_added : MethodName := ⟨RX4, "added", "(DD)D"⟩
abbrev cX4_lessened : ByteArray := prog_6_method_15_code
def yX4_lessened : MethodName := ⟨RX4, "lessened", "(DD)D"⟩
abbrev cX4_timed : ByteArray := prog_6_method_16_code
def yX4_timed : MethodName := ⟨RX4, "timed", "(DD)D"⟩
abbrev cX4_divided : ByteArray := prog_6_method_17_code
def yX4_divided : MethodName := ⟨RX4, "divided", "(DD)D"⟩
abbrev cX4_floor : ByteArray := prog_6_method_18_code
def yX4_floor : MethodName := ⟨RX4, "floor", "(D)D"⟩
abbrev cX4_root : ByteArray := prog_6_method_19_code
def yX4_root : MethodName := ⟨RX4, "root", "(D)D"⟩
abbrev cX4_ends : ByteArray := prog_6_method_20_code
def yX4_ends : MethodName := ⟨RX4, "ends", "()V"⟩
abbrev cX4_draw : ByteArray := prog_6_method_21_code
def yX4_draw : MethodName := ⟨RX4, "draw", "(JJ)I"⟩
abbrev cX4_isNode : ByteArray := prog_6_method_22_code
def yX4_isNode : MethodName := ⟨RX4, "isNode", "(I)Z"⟩
abbrev cX4_isTwo : ByteArray := prog_6_method_23_code
def yX4_isTwo : MethodName := ⟨RX4, "isTwo", "(I)Z"⟩
abbrev cX4_node : ByteArray := prog_6_method_24_code
def yX4_node : MethodName := ⟨RX4, "node", "(IIIJ)I"⟩
abbrev cX4_role : ByteArray := prog_6_method_25_code
def yX4_role : MethodName := ⟨RX4, "role", "(II)I"⟩
abbrev cX4_made : ByteArray := prog_6_method_26_code
def yX4_made : MethodName := ⟨RX4, "made", "(IDD)D"⟩
abbrev cX4_valueAt : ByteArray := prog_6_method_27_code
def yX4_valueAt : MethodName := ⟨RX4, "valueAt", "(IDDD)D"⟩
abbrev cX4_value : ByteArray := prog_6_method_28_code
def yX4_value : MethodName := ⟨RX4, "value", "(IJJJ)J"⟩
abbrev cX4_put : ByteArray := prog_6_method_29_code
def yX4_put : MethodName := ⟨RX4, "put", "(IDD)V"⟩
abbrev cX4_putUp : ByteArray := prog_6_method_30_code
def yX4_putUp : MethodName := ⟨RX4, "putUp", "(IDD)V"⟩
abbrev cX4_putFour : ByteArray := prog_6_method_31_code
def yX4_putFour : MethodName := ⟨RX4, "putFour", "(IDDDD)V"⟩
abbrev cX4_sizeLow : ByteArray := prog_6_method_32_code
def yX4_sizeLow : MethodName := ⟨RX4, "sizeLow", "(DD)D"⟩
abbrev cX4_sizeHigh : ByteArray := prog_6_method_33_code
def yX4_sizeHigh : MethodName := ⟨RX4, "sizeHigh", "(DD)D"⟩
abbrev cX4_enclose : ByteArray := prog_6_method_34_code
def yX4_enclose : MethodName := ⟨RX4, "enclose", "(II)V"⟩
abbrev cX4_encloseTo : ByteArray := prog_6_method_35_code
def yX4_encloseTo : MethodName := ⟨RX4, "encloseTo", "(II)V"⟩
abbrev cX4_holds : ByteArray := prog_6_method_36_code
def yX4_holds : MethodName := ⟨RX4, "holds", "(II)I"⟩
abbrev cX4_judge : ByteArray := prog_6_method_37_code
def yX4_judge : MethodName := ⟨RX4, "judge", "(I)V"⟩
abbrev cX4_times : ByteArray := prog_6_method_38_code
def yX4_times : MethodName := ⟨RX4, "times", "(IDD)V"⟩
abbrev cX4_begin : ByteArray := prog_6_method_39_code
def yX4_begin : MethodName := ⟨RX4, "begin", "()I"⟩
abbrev cX4_widest : ByteArray := prog_6_method_40_code
def yX4_widest : MethodName := ⟨RX4, "widest", "(I)I"⟩
abbrev cX4_middle : ByteArray := prog_6_method_41_code
def yX4_middle : MethodName := ⟨RX4, "middle", "(I)D"⟩
abbrev cX4_isTight : ByteArray := prog_6_method_42_code
def yX4_isTight : MethodName := ⟨RX4, "isTight", "(I)Z"⟩
abbrev cX4_next : ByteArray := prog_6_method_43_code
def yX4_next : MethodName := ⟨RX4, "next", "()I"⟩
abbrev cX4_run : ByteArray := prog_6_method_44_code
def yX4_run : MethodName := ⟨RX4, "run", "(I)I"⟩
abbrev cX4_boxes : ByteArray := prog_6_method_45_code
def yX4_boxes : MethodName := ⟨RX4, "boxes", "()I"⟩
abbrev cX4_isBox : ByteArray := prog_6_method_46_code
def yX4_isBox : MethodName := ⟨RX4, "isBox", "(I)Z"⟩
abbrev cX4_kind : ByteArray := prog_6_method_47_code
def yX4_kind : MethodName := ⟨RX4, "kind", "(I)I"⟩
abbrev cX4_side : ByteArray := prog_6_method_48_code
def yX4_side : MethodName := ⟨RX4, "side", "(III)J"⟩
abbrev cX4_weight : ByteArray := prog_6_method_49_code
def yX4_weight : MethodName := ⟨RX4, "weight", "(II)J"⟩
abbrev cX4_enclosed : ByteArray := prog_6_method_50_code
def yX4_enclosed : MethodName := ⟨RX4, "enclosed", "(III)J"⟩
abbrev cX4_isIn : ByteArray := prog_6_method_51_code
def yX4_isIn : MethodName := ⟨RX4, "isIn", "(IDDD)Z"⟩
abbrev cX4_within : ByteArray := prog_6_method_52_code
def yX4_within : MethodName := ⟨RX4, "within", "(IIJJJ)I"⟩
abbrev cX4_where : ByteArray := prog_6_method_53_code
def yX4_where : MethodName := ⟨RX4, "where", "(JJJ)I"⟩
abbrev cX4_massLow : ByteArray := prog_6_method_54_code
def yX4_massLow : MethodName := ⟨RX4, "massLow", "(I)D"⟩
abbrev cX4_massHigh : ByteArray := prog_6_method_55_code
def yX4_massHigh : MethodName := ⟨RX4, "massHigh", "(I)D"⟩
abbrev cX4_mass : ByteArray := prog_6_method_56_code
def yX4_mass : MethodName := ⟨RX4, "mass", "(II)J"⟩
abbrev cX4_odds : ByteArray := prog_6_method_57_code
def yX4_odds : MethodName := ⟨RX4, "odds", "(I)J"⟩
abbrev cX4_countOf : ByteArray := prog_6_method_58_code
def yX4_countOf : MethodName := ⟨RX4, "countOf", "(I)I"⟩
abbrev cX4_share : ByteArray := prog_6_method_59_code
def yX4_share : MethodName := ⟨RX4, "share", "(I)I"⟩
abbrev cX4_count : ByteArray := prog_6_method_60_code
def yX4_count : MethodName := ⟨RX4, "count", "(I)I"⟩
abbrev cX4_clear : ByteArray := prog_6_method_61_code
def yX4_clear : MethodName := ⟨RX4, "clear", "()I"⟩
def RJx00060 : String := "java/lang/ArrayIndexOutOfBoundsException"
def TJx00060 : u_T := fun k => match k with
  | 0 => ("java/lang/Throwable", "backtrace", "Ljava/lang/Object;", false)
  | 1 => ("java/lang/Throwable", "detailMessage", "Ljava/lang/String;", false)
  | 2 => ("java/lang/Throwable", "cause", "Ljava/lang/Throwable;", false)
  | 3 => ("java/lang/Throwable", "stackTrace", "[Ljava/lang/StackTraceElement;", false)
  | 4 => ("java/lang/Throwable", "depth", "I", false)
  | _ => ("java/lang/Throwable", "suppressedExceptions", "Ljava/util/List;", false)
def tyJx00060 : Nat → FieldType := fun k => match k with
  | 0 => .object "java/lang/Object"
  | 1 => .object "java/lang/String"
  | 2 => .object "java/lang/Throwable"
  | 3 => .array (.object "java/lang/StackTraceElement")
  | 4 => .int
  | _ => .object "java/util/List"
theorem nmJx00060 : ∀ a, a < 6 → ∀ b, b < 6 → a ≠ b → (TJx00060 a).2.1 ≠ (TJx00060 b).2.1 := by decide +kernel
theorem tyJx00060_ok : ∀ k, k < 6 → parseFieldDescriptor (TJx00060 k).2.2.1 = some (tyJx00060 k) := by decide +kernel
abbrev cJx00060_init_da8c8 : ByteArray := prog_8_method_1_code
def yJx00060_init_da8c8 : MethodName := ⟨RJx00060, "<init>", "()V"⟩
abbrev cJx00060_init_a7421 : ByteArray := prog_8_method_2_code
def yJx00060_init_a7421 : MethodName := ⟨RJx00060, "<init>", "(Ljava/lang/String;)V"⟩
def RJxe99ae : String := "java/lang/Double"
def TJxe99ae : u_T := fun k => match k with
  | _ => ("", "", "", false)
def tyJxe99ae : Nat → FieldType := fun k => match k with
  | _ => .int
theorem nmJxe99ae : ∀ a, a < 0 → ∀ b, b < 0 → a ≠ b → (TJxe99ae a).2.1 ≠ (TJxe99ae b).2.1 := by decide +kernel
theorem tyJxe99ae_ok : ∀ k, k < 0 → parseFieldDescriptor (TJxe99ae k).2.2.1 = some (tyJxe99ae k) := by decide +kernel
abbrev cJxe99ae_isNaN_b9ae7 : ByteArray := prog_9_method_6_code
def yJxe99ae_isNaN_b9ae7 : MethodName := ⟨RJxe99ae, "isNaN", "(D)Z"⟩
abbrev cJxe99ae_doubleToLongBits_ccdee : ByteArray := prog_9_method_23_code
def yJxe99ae_doubleToLongBits_ccdee : MethodName := ⟨RJxe99ae, "doubleToLongBits", "(D)J"⟩
def RJ6 : String := "java/lang/Integer"
def TJ6 : u_T := fun k => match k with
  | _ => ("", "", "", false)
def tyJ6 : Nat → FieldType := fun k => match k with
  | _ => .int
theorem nmJ6 : ∀ a, a < 0 → ∀ b, b < 0 → a ≠ b → (TJ6 a).2.1 ≠ (TJ6 b).2.1 := by decide +kernel
theorem tyJ6_ok : ∀ k, k < 0 → parseFieldDescriptor (TJ6 k).2.2.1 = some (tyJ6 k) := by decide +kernel
abbrev cJ6_numberOfLeadingZeros_0f7a4 : ByteArray := prog_12_method_47_code
def yJ6_numberOfLeadingZeros_0f7a4 : MethodName := ⟨RJ6, "numberOfLeadingZeros", "(I)I"⟩
def RJ13 : String := "java/lang/Long"
def TJ13 : u_T := fun k => match k with
  | _ => ("", "", "", false)
def tyJ13 : Nat → FieldType := fun k => match k with
  | _ => .int
theorem nmJ13 : ∀ a, a < 0 → ∀ b, b < 0 → a ≠ b → (TJ13 a).2.1 ≠ (TJ13 b).2.1 := by decide +kernel
theorem tyJ13_ok : ∀ k, k < 0 → parseFieldDescriptor (TJ13 k).2.2.1 = some (tyJ13 k) := by decide +kernel
abbrev cJ13_numberOfLeadingZeros_95d88 : ByteArray := prog_13_method_48_code
def yJ13_numberOfLeadingZeros_95d88 : MethodName := ⟨RJ13, "numberOfLeadingZeros", "(J)I"⟩
def RJ9 : String := "java/lang/Math"
def TJ9 : u_T := fun k => match k with
  | _ => ("", "", "", false)
def tyJ9 : Nat → FieldType := fun k => match k with
  | _ => .int
theorem nmJ9 : ∀ a, a < 0 → ∀ b, b < 0 → a ≠ b → (TJ9 a).2.1 ≠ (TJ9 b).2.1 := by decide +kernel
theorem tyJ9_ok : ∀ k, k < 0 → parseFieldDescriptor (TJ9 k).2.2.1 = some (tyJ9 k) := by decide +kernel
abbrev cJ9_max_7cf53 : ByteArray := prog_14_method_65_code
def yJ9_max_7cf53 : MethodName := ⟨RJ9, "max", "(II)I"⟩
def RJ0 : String := "java/lang/String"
def TJ0 : u_T := fun k => match k with
  | 0 => ("java/lang/String", "value", "[B", true)
  | _ => ("java/lang/String", "coder", "B", true)
def tyJ0 : Nat → FieldType := fun k => match k with
  | 0 => .array .byte
  | _ => .byte
theorem nmJ0 : ∀ a, a < 2 → ∀ b, b < 2 → a ≠ b → (TJ0 a).2.1 ≠ (TJ0 b).2.1 := by decide +kernel
theorem tyJ0_ok : ∀ k, k < 2 → parseFieldDescriptor (TJ0 k).2.2.1 = some (tyJ0 k) := by decide +kernel
def RL : String := "BoxIntegralsLaw"
abbrev cL_side : ByteArray := method_3_code
def yL_side : MethodName := ⟨RL, "side", "(LBoxIntegrals;III[J)I"⟩
abbrev cL_share : ByteArray := method_4_code
def yL_share : MethodName := ⟨RL, "share", "(LBoxIntegrals;I[J)I"⟩
abbrev cL_law : ByteArray := code
def yL_law : MethodName := ⟨RL, "law", "([I)Z"⟩
abbrev vwCl : List vw_C := [(RJ0, TJ0, 2), (RJx00060, TJx00060, 6), (RX0, TX0, 8), (RX2, TX2, 10), (RX3, TX3, 6), (RX4, TX4, 21)]
end
section
/-! A PROGRAM'S OWN READING: bytecode over a world of numbered cells; what it says holds of the machine (st_sound). Cells are named by their places: a reference's number is its place; ρ gives the addresses. -/
abbrev aE : Type := (Nat × vp_A) ⊕ (Nat × List Value)
abbrev aS : Type := List aE
abbrev LV : Type := List (Nat × Value)
/-- pc, instruction, length; target or field; class; constant; the word's place in the tables -/
abbrev En : Type := Nat × Instr × Nat × Nat × Nat × Value × Nat
abbrev Tr : Type := List Value → aS → (Option Value → aS → Prop) → Prop
abbrev cl0 : List vw_C := [(RX0, TX0, 8), (RX2, TX2, 10), (RX3, TX3, 6), (RX4, TX4, 21)]
def rv (ρ : Nat → Nat) (v : Value) : Value := match v with
  | .ref a => .ref (ρ a)
  | w => w
theorem rv_cat (ρ : Nat → Nat) (v : Value) : (rv ρ v).category = v.category := by cases v <;> rfl
def re (ρ : Nat → Nat) (τ : Nat → ClassId) (e : aE) : va_E := match e with
  | .inl a => .inl (τ a.1, a.2)
  | .inr o => .inr (o.1, o.2.map (rv ρ))
def wl (ρ : Nat → Nat) (τ : Nat → ClassId) (σ : aS) : va_W := σ.mapIdx (fun k e => (ρ k, re ρ τ e))
def lr (ρ : Nat → Nat) (lv : LV) : LV := lv.map (fun q => (q.1, rv ρ q.2))
abbrev tyl (τ : Nat → ClassId) : List (ClassId × FieldType) := [(τ 0, .int), (τ 1, .long), (τ 2, .double), (τ 3, .boolean)]
theorem wl_get (ρ : Nat → Nat) (τ : Nat → ClassId) (σ : aS) {k : Nat} {e : aE} (h : σ[k]? = some e) : (wl ρ τ σ)[k]? = some (ρ k, re ρ τ e) := by
  simp [wl, List.getElem?_mapIdx, h]
theorem wl_set (ρ : Nat → Nat) (τ : Nat → ClassId) (σ : aS) (k : Nat) (e : aE) : (wl ρ τ σ).set k (ρ k, re ρ τ e) = wl ρ τ (σ.set k e) := by
  apply List.ext_getElem?
  intro i
  simp only [wl, List.getElem?_set, List.getElem?_mapIdx, List.length_mapIdx]
  by_cases h : k = i
  · subst h
    by_cases h2 : k < σ.length <;> simp [h2]
  · simp [h]
-- stack shapes
def s1i (st : List Value) (f : Int32 → List Value → Prop) : Prop := match st with
  | .int x :: r => f x r
  | _ => False
def s2i (st : List Value) (f : Int32 → Int32 → List Value → Prop) : Prop := match st with
  | .int y :: .int x :: r => f x y r
  | _ => False
def s1l (st : List Value) (f : Int64 → List Value → Prop) : Prop := match st with
  | .long x :: r => f x r
  | _ => False
def s2l (st : List Value) (f : Int64 → Int64 → List Value → Prop) : Prop := match st with
  | .long y :: .long x :: r => f x y r
  | _ => False
def sli (st : List Value) (f : Int64 → Int32 → List Value → Prop) : Prop := match st with
  | .int y :: .long x :: r => f x y r
  | _ => False
def s1d (st : List Value) (f : UInt64 → List Value → Prop) : Prop := match st with
  | .double x :: r => f x r
  | _ => False
def s1f (st : List Value) (f : UInt32 → List Value → Prop) : Prop := match st with
  | .float x :: r => f x r
  | _ => False
def s2d (st : List Value) (f : UInt64 → UInt64 → List Value → Prop) : Prop := match st with
  | .double y :: .double x :: r => f x y r
  | _ => False
def s1r (st : List Value) (f : Nat → List Value → Prop) : Prop := match st with
  | .ref a :: r => f a r
  | _ => False
def sri (st : List Value) (f : Nat → Int32 → List Value → Prop) : Prop := match st with
  | .int i :: .ref a :: r => f a i r
  | _ => False
def srv (st : List Value) (f : Nat → Value → List Value → Prop) : Prop := match st with
  | v :: .ref a :: r => f a v r
  | _ => False
def srii (st : List Value) (f : Nat → Int32 → Int32 → List Value → Prop) : Prop := match st with
  | .int x :: .int i :: .ref a :: r => f a i x r
  | _ => False
def sril (st : List Value) (f : Nat → Int32 → Int64 → List Value → Prop) : Prop := match st with
  | .long x :: .int i :: .ref a :: r => f a i x r
  | _ => False
def srid (st : List Value) (f : Nat → Int32 → UInt64 → List Value → Prop) : Prop := match st with
  | .double x :: .int i :: .ref a :: r => f a i x r
  | _ => False
def sdp (st : List Value) (f : Value → List Value → Prop) : Prop := match st with
  | w :: r => bif w.category == 1 then f w r else False
  | [] => False
def ai (σ : aS) (a t : Nat) (f : Nat → (Nat → Int32) → Prop) : Prop := match σ[a]? with
  | some (.inl (t', n, .inl g)) => bif t' == t then f n g else False
  | _ => False
def al (σ : aS) (a t : Nat) (f : Nat → (Nat → Int64) → Prop) : Prop := match σ[a]? with
  | some (.inl (t', n, .inr (.inl g))) => bif t' == t then f n g else False
  | _ => False
def ad (σ : aS) (a t : Nat) (f : Nat → (Nat → UInt64) → Prop) : Prop := match σ[a]? with
  | some (.inl (t', n, .inr (.inr (.inr (.inl g))))) => bif t' == t then f n g else False
  | _ => False
def ao (σ : aS) (a ci : Nat) (f : List Value → Prop) : Prop := match σ[a]? with
  | some (.inr (c', fs)) => bif c' == ci then f fs else False
  | _ => False
def op1 {α : Type} (o : Option α) (f : α → Prop) : Prop := match o with
  | some x => f x
  | none => False
theorem s1i_of {st : List Value} {f : Int32 → List Value → Prop} (h : s1i st f) : ∃ x r, st = .int x :: r ∧ f x r := by
  unfold s1i at h; split at h
  · exact ⟨_, _, rfl, h⟩
  · exact h.elim
theorem s2i_of {st : List Value} {f : Int32 → Int32 → List Value → Prop} (h : s2i st f) : ∃ x y r, st = .int y :: .int x :: r ∧ f x y r := by
  unfold s2i at h; split at h
  · exact ⟨_, _, _, rfl, h⟩
  · exact h.elim
theorem s1l_of {st : List Value} {f : Int64 → List Value → Prop} (h : s1l st f) : ∃ x r, st = .long x :: r ∧ f x r := by
  unfold s1l at h; split at h
  · exact ⟨_, _, rfl, h⟩
  · exact h.elim
theorem s2l_of {st : List Value} {f : Int64 → Int64 → List Value → Prop} (h : s2l st f) : ∃ x y r, st = .long y :: .long x :: r ∧ f x y r := by
  unfold s2l at h; split at h
  · exact ⟨_, _, _, rfl, h⟩
  · exact h.elim
theorem sli_of {st : List Value} {f : Int64 → Int32 → List Value → Prop} (h : sli st f) : ∃ x y r, st = .int y :: .long x :: r ∧ f x y r := by
  unfold sli at h; split at h
  · exact ⟨_, _, _, rfl, h⟩
  · exact h.elim
theorem s1d_of {st : List Value} {f : UInt64 → List Value → Prop} (h : s1d st f) : ∃ x r, st = .double x :: r ∧ f x r := by
  unfold s1d at h; split at h
  · exact ⟨_, _, rfl, h⟩
  · exact h.elim
theorem s1f_of {st : List Value} {f : UInt32 → List Value → Prop} (h : s1f st f) : ∃ x r, st = .float x :: r ∧ f x r := by
  unfold s1f at h; split at h
  · exact ⟨_, _, rfl, h⟩
  · exact h.elim
theorem s2d_of {st : List Value} {f : UInt64 → UInt64 → List Value → Prop} (h : s2d st f) : ∃ x y r, st = .double y :: .double x :: r ∧ f x y r := by
  unfold s2d at h; split at h
  · exact ⟨_, _, _, rfl, h⟩
  · exact h.elim
theorem s1r_of {st : List Value} {f : Nat → List Value → Prop} (h : s1r st f) : ∃ a r, st = .ref a :: r ∧ f a r := by
  unfold s1r at h; split at h
  · exact ⟨_, _, rfl, h⟩
  · exact h.elim
theorem sri_of {st : List Value} {f : Nat → Int32 → List Value → Prop} (h : sri st f) : ∃ a i r, st = .int i :: .ref a :: r ∧ f a i r := by
  unfold sri at h; split at h
  · exact ⟨_, _, _, rfl, h⟩
  · exact h.elim
theorem srv_of {st : List Value} {f : Nat → Value → List Value → Prop} (h : srv st f) : ∃ a v r, st = v :: .ref a :: r ∧ f a v r := by
  unfold srv at h; split at h
  · exact ⟨_, _, _, rfl, h⟩
  · exact h.elim
theorem srii_of {st : List Value} {f : Nat → Int32 → Int32 → List Value → Prop} (h : srii st f) : ∃ a i x r, st = .int x :: .int i :: .ref a :: r ∧ f a i x r := by
  unfold srii at h; split at h
  · exact ⟨_, _, _, _, rfl, h⟩
  · exact h.elim
theorem sril_of {st : List Value} {f : Nat → Int32 → Int64 → List Value → Prop} (h : sril st f) : ∃ a i x r, st = .long x :: .int i :: .ref a :: r ∧ f a i x r := by
  unfold sril at h; split at h
  · exact ⟨_, _, _, _, rfl, h⟩
  · exact h.elim
theorem srid_of {st : List Value} {f : Nat → Int32 → UInt64 → List Value → Prop} (h : srid st f) : ∃ a i x r, st = .double x :: .int i :: .ref a :: r ∧ f a i x r := by
  unfold srid at h; split at h
  · exact ⟨_, _, _, _, rfl, h⟩
  · exact h.elim
theorem bif_of0 {b : Bool} {P : Prop} (h : bif b then P else False) : b = true ∧ P := by cases b with
  | true => exact ⟨rfl, h⟩
  | false => exact h.elim
theorem sdp_of {st : List Value} {f : Value → List Value → Prop} (h : sdp st f) : ∃ w r, st = w :: r ∧ w.category = 1 ∧ f w r := by
  unfold sdp at h; split at h
  · obtain ⟨h1, h2⟩ := bif_of0 h; exact ⟨_, _, rfl, eq_of_beq h1, h2⟩
  · exact h.elim
theorem bif_of {b : Bool} {P : Prop} (h : bif b then P else False) : b = true ∧ P := by cases b with
  | true => exact ⟨rfl, h⟩
  | false => exact h.elim
theorem ai_of {σ : aS} {a t : Nat} {f : Nat → (Nat → Int32) → Prop} (h : ai σ a t f) : ∃ n g, σ[a]? = some (.inl (t, n, .inl g)) ∧ f n g := by
  unfold ai at h; split at h
  · rename_i t' n g e; obtain ⟨h1, h2⟩ := bif_of h; have := eq_of_beq h1; subst this; exact ⟨n, g, e, h2⟩
  · exact h.elim
theorem al_of {σ : aS} {a t : Nat} {f : Nat → (Nat → Int64) → Prop} (h : al σ a t f) : ∃ n g, σ[a]? = some (.inl (t, n, .inr (.inl g))) ∧ f n g := by
  unfold al at h; split at h
  · rename_i t' n g e; obtain ⟨h1, h2⟩ := bif_of h; have := eq_of_beq h1; subst this; exact ⟨n, g, e, h2⟩
  · exact h.elim
theorem ad_of {σ : aS} {a t : Nat} {f : Nat → (Nat → UInt64) → Prop} (h : ad σ a t f) : ∃ n g, σ[a]? = some (.inl (t, n, .inr (.inr (.inr (.inl g))))) ∧ f n g := by
  unfold ad at h; split at h
  · rename_i t' n g e; obtain ⟨h1, h2⟩ := bif_of h; have := eq_of_beq h1; subst this; exact ⟨n, g, e, h2⟩
  · exact h.elim
theorem ao_of {σ : aS} {a ci : Nat} {f : List Value → Prop} (h : ao σ a ci f) : ∃ fs, σ[a]? = some (.inr (ci, fs)) ∧ f fs := by
  unfold ao at h; split at h
  · rename_i c' fs e; obtain ⟨h1, h2⟩ := bif_of h; have := eq_of_beq h1; subst this; exact ⟨fs, e, h2⟩
  · exact h.elim
theorem op1_of {α : Type} {o : Option α} {f : α → Prop} (h : op1 o f) : ∃ x, o = some x ∧ f x := by
  unfold op1 at h; split at h
  · exact ⟨_, rfl, h⟩
  · exact h.elim
-- locals
def lg (lv : LV) (i : Nat) : Option Value := (lv.find? (fun q => q.1 == i)).map (fun q => q.2)
def sp1 (lv : LV) (i : Nat) (v : Value) : LV := (i, v) :: lv.filter (fun q => !(q.1 == i) && !(q.1 + 1 == i && q.2.category == 2))
def sp2 (lv : LV) (i : Nat) (v : Value) : LV := (i, v) :: lv.filter (fun q => !(q.1 == i) && (!(q.1 == i + 1) && !(q.1 + 1 == i && q.2.category == 2)))
def lgi (lv : LV) (i : Nat) (f : Int32 → Prop) : Prop := match lg lv i with
  | some (.int x) => f x
  | _ => False
def lgl (lv : LV) (i : Nat) (f : Int64 → Prop) : Prop := match lg lv i with
  | some (.long x) => f x
  | _ => False
def lgd (lv : LV) (i : Nat) (f : UInt64 → Prop) : Prop := match lg lv i with
  | some (.double x) => f x
  | _ => False
def lga (lv : LV) (i : Nat) (f : Nat → Prop) : Prop := match lg lv i with
  | some (.ref x) => f x
  | _ => False
theorem lg_mem {lv : LV} {i : Nat} {v : Value} (h : lg lv i = some v) : (i, v) ∈ lv := by
  unfold lg at h
  obtain ⟨q, h1, h2⟩ := Option.map_eq_some_iff.mp h
  have h3 := List.find?_some h1
  have h4 : q.1 = i := by simpa using h3
  have h5 := List.mem_of_find?_eq_some h1
  rw [← h4, ← h2]; exact h5
theorem lgi_of {lv : LV} {i : Nat} {f : Int32 → Prop} (h : lgi lv i f) : ∃ x, (i, .int x) ∈ lv ∧ f x := by
  unfold lgi at h; split at h
  · exact ⟨_, lg_mem (by assumption), h⟩
  · exact h.elim
theorem lgl_of {lv : LV} {i : Nat} {f : Int64 → Prop} (h : lgl lv i f) : ∃ x, (i, .long x) ∈ lv ∧ f x := by
  unfold lgl at h; split at h
  · exact ⟨_, lg_mem (by assumption), h⟩
  · exact h.elim
theorem lgd_of {lv : LV} {i : Nat} {f : UInt64 → Prop} (h : lgd lv i f) : ∃ x, (i, .double x) ∈ lv ∧ f x := by
  unfold lgd at h; split at h
  · exact ⟨_, lg_mem (by assumption), h⟩
  · exact h.elim
theorem lga_of {lv : LV} {i : Nat} {f : Nat → Prop} (h : lga lv i f) : ∃ x, (i, .ref x) ∈ lv ∧ f x := by
  unfold lga at h; split at h
  · exact ⟨_, lg_mem (by assumption), h⟩
  · exact h.elim
theorem lr_at {ρ : Nat → Nat} {ls : Array Slot} {nL : Nat} {lv : LV} (h : lv_has ls nL (lr ρ lv)) {i : Nat} {v : Value} (hm : (i, v) ∈ lv) : ls[i]? = some (.val (rv ρ v)) := h.2.2 (i, rv ρ v) (List.mem_map.mpr ⟨(i, v), hm, rfl⟩)
theorem lr_sp1 (ρ : Nat → Nat) (lv : LV) (i : Nat) (v : Value) : (i, rv ρ v) :: (lr ρ lv).filter (fun q => !(q.1 == i) && !(q.1 + 1 == i && q.2.category == 2)) = lr ρ (sp1 lv i v) := by
  simp only [lr, sp1, List.map_cons, List.filter_map]
  congr 2
  apply List.filter_congr
  intro q _
  simp [rv_cat]
theorem lr_sp2 (ρ : Nat → Nat) (lv : LV) (i : Nat) (v : Value) : (i, rv ρ v) :: (lr ρ lv).filter (fun q => !(q.1 == i) && (!(q.1 == i + 1) && !(q.1 + 1 == i && q.2.category == 2))) = lr ρ (sp2 lv i v) := by
  simp only [lr, sp2, List.map_cons, List.filter_map]
  congr 2
  apply List.filter_congr
  intro q _
  simp [rv_cat]
-- conditions
def c0 (c : ClassFile.Cond) (x : Int32) : Prop := match c with
  | .eq => x = 0
  | .ne => ¬ x = 0
  | .lt => x < 0
  | .ge => 0 ≤ x
  | .gt => 0 < x
  | .le => x ≤ 0
def c2 (c : ClassFile.Cond) (x y : Int32) : Prop := match c with
  | .eq => x = y
  | .ne => ¬ x = y
  | .lt => x < y
  | .ge => y ≤ x
  | .gt => y < x
  | .le => x ≤ y
/-- the cases of a tableswitch -/
def tsw (f : Nat → Prop) (pc : Nat) (x : Int32) : Int → List Int → Prop
  | _, [] => True
  | lo, off :: r => (x = Int32.ofInt lo → f ((pc : Int) + off).toNat) ∧ tsw f pc x (lo + 1) r
/-- n values off the stack, in the order in which they were pushed -/
def popK : Nat → List Value → List Value → (List Value → List Value → Prop) → Prop
  | 0, acc, st, f => f acc st
  | n + 1, acc, v :: st, f => popK n (v :: acc) st f
  | _ + 1, _, [], _ => False
theorem popK_of : ∀ (n : Nat) (acc st : List Value) {f : List Value → List Value → Prop}, popK n acc st f → ∃ as rest, st = as ++ rest ∧ as.length = n ∧ f (as.reverse ++ acc) rest
  | 0, acc, st, f, h => ⟨[], st, rfl, rfl, h⟩
  | n + 1, acc, v :: st, f, h => by
    obtain ⟨as, rest, h1, h2, h3⟩ := popK_of n (v :: acc) st h
    exact ⟨v :: as, rest, by rw [h1]; rfl, by rw [List.length_cons, h2], by simpa using h3⟩
  | n + 1, acc, [], f, h => h.elim
/-- the locals that a store leaves -/
def ltK (i : Nat) (two : Bool) : LV → (LV → Prop) → Prop
  | [], f => f []
  | q :: r, f => bif (q.1 == i) || ((two && q.1 == i + 1) || (q.1 + 1 == i && q.2.category == 2)) then ltK i two r f else ltK i two r (fun l => f (q :: l))
theorem bb1 (a d b c : Bool) : (!a && !(b && c)) = !(a || ((false && d) || (b && c))) := by cases a <;> cases b <;> cases c <;> rfl
theorem bb2 (a d b c : Bool) : (!a && (!d && !(b && c))) = !(a || ((true && d) || (b && c))) := by cases a <;> cases d <;> cases b <;> cases c <;> rfl
theorem ltK_1 (i : Nat) : ∀ (lv : LV) {f : LV → Prop}, ltK i false lv f → f (lv.filter (fun q => !(q.1 == i) && !(q.1 + 1 == i && q.2.category == 2)))
  | [], f, h => h
  | q :: r, f, h => by
    rw [ltK] at h
    rw [List.filter_cons, bb1 _ (q.1 == i + 1)]
    cases hc : ((q.1 == i) || ((false && q.1 == i + 1) || (q.1 + 1 == i && q.2.category == 2))) with
    | true => rw [hc] at h; exact ltK_1 i r h
    | false => rw [hc] at h; exact ltK_1 i r h
theorem ltK_2 (i : Nat) : ∀ (lv : LV) {f : LV → Prop}, ltK i true lv f → f (lv.filter (fun q => !(q.1 == i) && (!(q.1 == i + 1) && !(q.1 + 1 == i && q.2.category == 2))))
  | [], f, h => h
  | q :: r, f, h => by
    rw [ltK] at h
    rw [List.filter_cons, bb2]
    cases hc : ((q.1 == i) || ((true && q.1 == i + 1) || (q.1 + 1 == i && q.2.category == 2))) with
    | true => rw [hc] at h; exact ltK_2 i r h
    | false => rw [hc] at h; exact ltK_2 i r h
def fty (v : Value) : FieldType := match v with
  | .null => .boolean
  | _ => .int
def pN (v : Value) (x : Int32) (K : Prop) : Prop := match v with
  | .null => (x = 0 ∨ x = 1) ∧ K
  | _ => K
theorem pN_of {v : Value} {x : Int32} {K : Prop} (h : pN v x K) : narrow (fty v) (.int x) = .int x ∧ fits (fty v) (.int x) = true ∧ K := by
  cases v with
  | null => exact ⟨by rcases h.1 with e | e <;> rw [e] <;> rfl, by rcases h.1 with e | e <;> rw [e] <;> rfl, h.2⟩
  | _ => exact ⟨rfl, rfl, h⟩
def s1 (X : Nat × (Nat → Int32)) (CE : List (Nat × Nat × Tr)) (Q : Option Value → aS → Prop) (k : Nat → LV → List Value → aS → Prop) (en : En) (lv : LV) (st : List Value) (σ : aS) : Prop := match en with
  | (pc, ins, len, tgt, ci, v, _) => match ins with
    | .iconst _ => k (pc + len) lv (v :: st) σ
    | .bipush _ => k (pc + len) lv (v :: st) σ
    | .sipush _ => k (pc + len) lv (v :: st) σ
    | .lconst _ => k (pc + len) lv (v :: st) σ
    | .dconst _ => k (pc + len) lv (v :: st) σ
    | .ldc2_w _ => k (pc + len) lv (v :: st) σ
    | .ldc_w _ => k (pc + len) lv (v :: st) σ
    | .ldc _ => k (pc + len) lv (v :: st) σ
    | .iload_n _ => lgi lv tgt (fun x => k (pc + 1) lv (.int x :: st) σ)
    | .iload i => lgi lv i (fun x => k (pc + 2) lv (.int x :: st) σ)
    | .lload_n _ => lgl lv tgt (fun x => k (pc + 1) lv (.long x :: st) σ)
    | .lload i => lgl lv i (fun x => k (pc + 2) lv (.long x :: st) σ)
    | .dload_n _ => lgd lv tgt (fun x => k (pc + 1) lv (.double x :: st) σ)
    | .dload i => lgd lv i (fun x => k (pc + 2) lv (.double x :: st) σ)
    | .aload_n _ => lga lv tgt (fun x => k (pc + 1) lv (.ref x :: st) σ)
    | .aload i => lga lv i (fun x => k (pc + 2) lv (.ref x :: st) σ)
    | .istore_n _ => s1i st (fun x r => ltK tgt false lv (fun l => k (pc + 1) ((tgt, .int x) :: l) r σ))
    | .istore i => s1i st (fun x r => ltK i false lv (fun l => k (pc + 2) ((i, .int x) :: l) r σ))
    | .astore_n _ => s1r st (fun x r => ltK tgt false lv (fun l => k (pc + 1) ((tgt, .ref x) :: l) r σ))
    | .astore i => s1r st (fun x r => ltK i false lv (fun l => k (pc + 2) ((i, .ref x) :: l) r σ))
    | .lstore_n _ => s1l st (fun x r => ltK tgt true lv (fun l => k (pc + 1) ((tgt, .long x) :: l) r σ))
    | .lstore i => s1l st (fun x r => ltK i true lv (fun l => k (pc + 2) ((i, .long x) :: l) r σ))
    | .dstore_n _ => s1d st (fun x r => ltK tgt true lv (fun l => k (pc + 1) ((tgt, .double x) :: l) r σ))
    | .dstore i => s1d st (fun x r => ltK i true lv (fun l => k (pc + 2) ((i, .double x) :: l) r σ))
    | .iinc i n => lgi lv i (fun x => ltK i false lv (fun l => k (pc + 3) ((i, .int (x + Int32.ofInt n)) :: l) st σ))
    | .iadd => s2i st (fun x y r => k (pc + 1) lv (.int (x + y) :: r) σ)
    | .isub => s2i st (fun x y r => k (pc + 1) lv (.int (x - y) :: r) σ)
    | .imul => s2i st (fun x y r => k (pc + 1) lv (.int (x * y) :: r) σ)
    | .iand => s2i st (fun x y r => k (pc + 1) lv (.int (x &&& y) :: r) σ)
    | .ior => s2i st (fun x y r => k (pc + 1) lv (.int (x ||| y) :: r) σ)
    | .ishl => s2i st (fun x y r => k (pc + 1) lv (.int (x <<< (y &&& 31)) :: r) σ)
    | .ishr => s2i st (fun x y r => k (pc + 1) lv (.int (x >>> (y &&& 31)) :: r) σ)
    | .iushr => s2i st (fun x y r => k (pc + 1) lv (.int (x.toUInt32 >>> (y.toUInt32 &&& Int32.toUInt32 31)).toInt32 :: r) σ)
    | .idiv => s2i st (fun x y r => ¬ y = 0 ∧ k (pc + 1) lv (.int (x / y) :: r) σ)
    | .ineg => s1i st (fun x r => k (pc + 1) lv (.int (-x) :: r) σ)
    | .ladd => s2l st (fun x y r => k (pc + 1) lv (.long (x + y) :: r) σ)
    | .lsub => s2l st (fun x y r => k (pc + 1) lv (.long (x - y) :: r) σ)
    | .lmul => s2l st (fun x y r => k (pc + 1) lv (.long (x * y) :: r) σ)
    | .land => s2l st (fun x y r => k (pc + 1) lv (.long (x &&& y) :: r) σ)
    | .lor => s2l st (fun x y r => k (pc + 1) lv (.long (x ||| y) :: r) σ)
    | .lxor => s2l st (fun x y r => k (pc + 1) lv (.long (x ^^^ y) :: r) σ)
    | .ldiv => s2l st (fun x y r => ¬ y = 0 ∧ k (pc + 1) lv (.long (x / y) :: r) σ)
    | .lrem => s2l st (fun x y r => ¬ y = 0 ∧ k (pc + 1) lv (.long (x - x / y * y) :: r) σ)
    | .lshl => sli st (fun x y r => k (pc + 1) lv (.long (x <<< (y.toInt64 &&& 63)) :: r) σ)
    | .lshr => sli st (fun x y r => k (pc + 1) lv (.long (x >>> (y.toInt64 &&& 63)) :: r) σ)
    | .lushr => sli st (fun x y r => k (pc + 1) lv (.long (x.toUInt64 >>> (y.toInt64.toUInt64 &&& Int64.toUInt64 63)).toInt64 :: r) σ)
    | .lcmp => s2l st (fun x y r => k (pc + 1) lv (.int (lg_cmp x y) :: r) σ)
    | .i2l => s1i st (fun x r => k (pc + 1) lv (.long x.toInt64 :: r) σ)
    | .l2i => s1l st (fun x r => k (pc + 1) lv (.int x.toInt32 :: r) σ)
    | .i2d => s1i st (fun x r => k (pc + 1) lv (.double (FP.i2d x) :: r) σ)
    | .l2d => s1l st (fun x r => k (pc + 1) lv (.double (FP.l2d x) :: r) σ)
    | .d2i => s1d st (fun x r => k (pc + 1) lv (.int (FP.d2i x) :: r) σ)
    | .d2l => s1d st (fun x r => k (pc + 1) lv (.long (FP.d2l x) :: r) σ)
    | .d2f => s1d st (fun x r => vf_n32 (FP.d2f x) ∧ k (pc + 1) lv (.float (FP.d2f x) :: r) σ)
    | .f2d => s1f st (fun x r => vf_n64 (FP.f2d x) ∧ k (pc + 1) lv (.double (FP.f2d x) :: r) σ)
    | .dadd => s2d st (fun x y r => vf_n64 (FP.dadd x y) ∧ k (pc + 1) lv (.double (FP.dadd x y) :: r) σ)
    | .dsub => s2d st (fun x y r => vf_n64 (FP.dsub x y) ∧ k (pc + 1) lv (.double (FP.dsub x y) :: r) σ)
    | .dmul => s2d st (fun x y r => vf_n64 (FP.dmul x y) ∧ k (pc + 1) lv (.double (FP.dmul x y) :: r) σ)
    | .ddiv => s2d st (fun x y r => vf_n64 (FP.ddiv x y) ∧ k (pc + 1) lv (.double (FP.ddiv x y) :: r) σ)
    | .dneg => s1d st (fun x r => k (pc + 1) lv (.double (FP.dneg x) :: r) σ)
    | .dcmp op => s2d st (fun x y r => k (pc + 1) lv (.int (Op.cmpValue (FP.dcmp x y) op) :: r) σ)
    | .ifCond c _ => s1i st (fun x r => (c0 c x → k tgt lv r σ) ∧ (¬ c0 c x → k (pc + 3) lv r σ))
    | .if_icmp c _ => s2i st (fun x y r => (c2 c x y → k tgt lv r σ) ∧ (¬ c2 c x y → k (pc + 3) lv r σ))
    | .goto _ => k tgt lv st σ
    | .dup => sdp st (fun w r => k (pc + 1) lv (w :: w :: r) σ)
    | .tableswitch dflt lo hi offs => s1i st (fun x r => (x.toInt < lo ∨ hi < x.toInt → k tgt lv r σ) ∧ tsw (fun t => k t lv r σ) pc x lo offs.toList)
    | .iaload => sri st (fun a i r => bif a == 999 then (¬ X.1 = 0 ∧ vp_in i (X.1 - 1) ∧ k (pc + 1) lv (.int (X.2 i.toNatClampNeg) :: r) σ) else ai σ a 0 (fun n g => vp_in i n ∧ k (pc + 1) lv (.int (g i.toNatClampNeg) :: r) σ))
    | .arraylength => s1r st (fun a r => bif a == 999 then (¬ X.1 = 0 ∧ k (pc + 1) lv (.int (nI (X.1 - 1)) :: r) σ) else False)
    | .baload => sri st (fun a i r => ai σ a 3 (fun n g => vp_in i n ∧ k (pc + 1) lv (.int (g i.toNatClampNeg) :: r) σ))
    | .laload => sri st (fun a i r => al σ a 1 (fun n g => vp_in i n ∧ k (pc + 1) lv (.long (g i.toNatClampNeg) :: r) σ))
    | .daload => sri st (fun a i r => ad σ a 2 (fun n g => vp_in i n ∧ k (pc + 1) lv (.double (g i.toNatClampNeg) :: r) σ))
    | .iastore => srii st (fun a i x r => ai σ a 0 (fun n g => vp_in i n ∧ k (pc + 1) lv r (σ.set a (.inl (0, n, .inl (upd g i.toNatClampNeg x))))))
    | .bastore => srii st (fun a i x r => ai σ a 3 (fun n g => vp_in i n ∧ k (pc + 1) lv r (σ.set a (.inl (3, n, .inl (upd g i.toNatClampNeg (vp_nar .boolean x)))))))
    | .lastore => sril st (fun a i x r => al σ a 1 (fun n g => vp_in i n ∧ k (pc + 1) lv r (σ.set a (.inl (1, n, .inr (.inl (vp_updL g i.toNatClampNeg x)))))))
    | .dastore => srid st (fun a i x r => ad σ a 2 (fun n g => vp_in i n ∧ k (pc + 1) lv r (σ.set a (.inl (2, n, .inr (.inr (.inr (.inl (vf_upd g i.toNatClampNeg x)))))))))
    | .getfield _ => s1r st (fun a r => ao σ a ci (fun fs => op1 (fs[tgt]?) (fun w => k (pc + 3) lv (w :: r) σ)))
    | .putfield _ => sri st (fun a x r => ao σ a ci (fun fs => bif Nat.blt tgt fs.length then pN v x (k (pc + 3) lv r (σ.set a (.inr (ci, fs.set tgt (.int x))))) else False))
    | .invokestatic i => op1 (CE.find? (fun q => q.1 == 2 * i)) (fun q => popK q.2.1 [] st (fun as rest => bif Nat.ble ((rest.map fun v => v.category).sum) 8 then q.2.2 as σ (fun w σ' => match w with | some v => k (pc + 3) lv (v :: rest) σ' | none => k (pc + 3) lv rest σ') else False))
    | .invokevirtual i => op1 (CE.find? (fun q => q.1 == 2 * i + 1)) (fun q => popK q.2.1 [] st (fun as rest => bif Nat.ble ((rest.map fun v => v.category).sum) 8 then q.2.2 as σ (fun w σ' => match w with | some v => k (pc + 3) lv (v :: rest) σ' | none => k (pc + 3) lv rest σ') else False))
    | .ireturn => match st with
      | [.int x] => Q (some (.int x)) σ
      | _ => False
    | .lreturn => match st with
      | [.long x] => Q (some (.long x)) σ
      | _ => False
    | .dreturn => match st with
      | [.double x] => Q (some (.double x)) σ
      | _ => False
    | .return_ => match st with
      | [] => Q none σ
      | _ => False
    | _ => False
/-- the locals that live at a cut, in the order of the slots -/
def cn (sl : List Nat) (lv : LV) : LV := sl.filterMap (fun i => (lg lv i).map (fun v => (i, v)))
theorem cn_mem {sl : List Nat} {lv : LV} {q : Nat × Value} (h : q ∈ cn sl lv) : q ∈ lv := by
  obtain ⟨i, -, h2⟩ := List.mem_filterMap.mp h
  obtain ⟨v, h3, h4⟩ := Option.map_eq_some_iff.mp h2
  rw [← h4]; exact lg_mem h3
def isCut (cut : List (Nat × List Nat)) (b : Bool) (pc : Nat) : Option (Nat × List Nat) := bif b then cut.find? (fun q => q.1 == pc) else none
def segF (X : Nat × (Nat → Int32)) (P : List En) (CE : List (Nat × Nat × Tr)) (cut : List (Nat × List Nat)) (G : Nat → LV → List Value → aS → Prop) (Q : Option Value → aS → Prop) (ih : Bool → Nat → LV → List Value → aS → Prop) (b : Bool) (pc : Nat) (lv : LV) (st : List Value) (σ : aS) : Prop := match isCut cut b pc with
  | some q => G pc (cn q.2 lv) st σ
  | none => op1 (P.find? (fun q => q.1 == pc)) (fun en => s1 X CE Q (ih true) en lv st σ)
noncomputable def seg (X : Nat × (Nat → Int32)) (P : List En) (CE : List (Nat × Nat × Tr)) (cut : List (Nat × List Nat)) (G : Nat → LV → List Value → aS → Prop) (Q : Option Value → aS → Prop) (n : Nat) : Bool → Nat → LV → List Value → aS → Prop :=
  Nat.rec (motive := fun _ => Bool → Nat → LV → List Value → aS → Prop) (fun _ pc lv st σ => G pc lv st σ) (fun _ ih => segF X P CE cut G Q ih) n
end
section
/-- what an entry of a program must be: the decoded instruction; its target, constant, field -/
def chk (cc : ByteArray) (nL : Nat) (own : String) (en : En) : Bool := match en with
  | (pc, ins, len, tgt, ci, v, wi) => decide (decode cc pc = .ok (ins, len)) && (match ins with
    | .iconst n => decide (v = .int (Int32.ofInt n)) && len == 1
    | .bipush n => decide (v = .int (Int8.ofInt n).toInt32) && len == 2
    | .sipush n => decide (v = .int (Int16.ofInt n).toInt32) && len == 3
    | .lconst n => decide (v = .long (Int64.ofNat n)) && len == 1
    | .dconst n => decide (v = .double (if n = 0 then FP.dconst0 else FP.dconst1)) && len == 1
    | .ldc2_w i => len == 3 && (match v with
      | .long x => decide (tables_1[wi]? = some (.constantLong own i x))
      | .double x => decide (tables_1[wi]? = some (.constantDouble own i x))
      | _ => false)
    | .ldc_w i => len == 3 && (match v with
      | .int x => decide (tables_1[wi]? = some (.constant own i x))
      | _ => false)
    | .ldc _ => false
    | .iload_n i => len == 1 && decide ((i : Nat) = tgt)
    | .lload_n i => len == 1 && decide ((i : Nat) = tgt)
    | .dload_n i => len == 1 && decide ((i : Nat) = tgt)
    | .aload_n i => len == 1 && decide ((i : Nat) = tgt)
    | .iload _ => len == 2
    | .lload _ => len == 2
    | .dload _ => len == 2
    | .aload _ => len == 2
    | .istore_n i => len == 1 && decide ((i : Nat) = tgt) && decide ((i : Nat) < nL)
    | .astore_n i => len == 1 && decide ((i : Nat) = tgt) && decide ((i : Nat) < nL)
    | .lstore_n i => len == 1 && decide ((i : Nat) = tgt) && decide ((i : Nat) + 1 < nL)
    | .dstore_n i => len == 1 && decide ((i : Nat) = tgt) && decide ((i : Nat) + 1 < nL)
    | .istore i => len == 2 && decide (i < nL)
    | .astore i => len == 2 && decide (i < nL)
    | .lstore i => len == 2 && decide (i + 1 < nL)
    | .dstore i => len == 2 && decide (i + 1 < nL)
    | .iinc i _ => len == 3 && decide (i < nL)
    | .ifCond _ off => len == 3 && decide ((pc : Int) + off = (tgt : Int))
    | .if_icmp _ off => len == 3 && decide ((pc : Int) + off = (tgt : Int))
    | .goto off => len == 3 && decide ((pc : Int) + off = (tgt : Int))
    | .tableswitch dflt lo hi offs => decide ((pc : Int) + dflt = (tgt : Int)) && decide (hi - lo + 1 = (offs.size : Int)) && decide (-2147483648 ≤ lo ∧ hi < 2147483648) && offs.toList.all (fun o => decide (0 ≤ (pc : Int) + o))
    | .getfield i => len == 3 && (match cl0[ci]? with
      | some q => decide (tgt < q.2.2) && decide (tables_1[wi]? = some (.fieldLink own i q.1 (q.2.1 tgt).2.1 (q.2.1 tgt).2.2.1)) && decide ((q.2.1 tgt).1 = q.1)
      | none => false)
    | .putfield i => len == 3 && (match cl0[ci]? with
      | some q => decide (tgt < q.2.2) && decide (tables_1[wi]? = some (.fieldLink own i q.1 (q.2.1 tgt).2.1 (q.2.1 tgt).2.2.1)) && decide ((q.2.1 tgt).1 = q.1) && (q.2.1 tgt).2.2.2 == false && decide (parseFieldDescriptor (q.2.1 tgt).2.2.1 = some (fty v))
      | none => false)
    | .invokestatic _ => len == 3
    | .invokevirtual _ => len == 3
    | _ => len == 1)
/-- the classes' own words are in the one list; their fields' types -/
def clI (q : vw_C) : Prop := (∀ w ∈ u_ws q.1 q.2.1 q.2.2, w ∈ lw_all) ∧ (∀ a, a < q.2.2 → ∀ b, b < q.2.2 → a ≠ b → (q.2.1 a).2.1 ≠ (q.2.1 b).2.1) ∧ ∀ k, k < q.2.2 → parseFieldDescriptor (q.2.1 k).2.2.1 = some ((parseFieldDescriptor (q.2.1 k).2.2.1).getD .int)
theorem in_all {ws : List Cond} (h : ws.all (fun w => decide (w ∈ tables_1) && goodWord w) = true) : ∀ w ∈ ws, w ∈ lw_all := by
  intro w hw
  have h1 := List.all_eq_true.mp h w hw
  rw [Bool.and_eq_true, decide_eq_true_eq] at h1
  exact List.mem_filter.mpr ⟨List.mem_append_right _ h1.1, h1.2⟩
theorem clI_0 : clI (RX0, TX0, 8) := ⟨in_all (by decide +kernel), nmX0, by decide +kernel⟩
theorem clI_1 : clI (RX2, TX2, 10) := ⟨in_all (by decide +kernel), nmX2, by decide +kernel⟩
theorem clI_2 : clI (RX3, TX3, 6) := ⟨in_all (by decide +kernel), nmX3, by decide +kernel⟩
theorem clI_3 : clI (RX4, TX4, 21) := ⟨in_all (by decide +kernel), nmX4, by decide +kernel⟩
theorem cl0_I {ci : Nat} {q : vw_C} (h : cl0[ci]? = some q) : clI q := by
  match ci, h with
  | 0, h => cases h; exact clI_0
  | 1, h => cases h; exact clI_1
  | 2, h => cases h; exact clI_2
  | 3, h => cases h; exact clI_3
  | k + 4, h => simp [cl0] at h
def isRet (ins : Instr) (v : Option Value) : Prop := match ins, v with
  | .ireturn, some (.int _) => True
  | .lreturn, some (.long _) => True
  | .dreturn, some (.double _) => True
  | .return_, none => True
  | _, _ => False
end
section
section
variable {p : Program} {l : Launch} {e : Env} {R : Room} {s : State} {m : MethodId} {args : Array Value} {below : List Frame} {meth : Method} {c : Code} {cells slots : Nat} {Z : State → Prop} {cc : ByteArray} {nL : Nat} {own : String} {D : va_G} {ρ : Nat → Nat} {τ : Nat → ClassId} {A : Nat → Prop} {H0 : Heap}
def Fx (p : Program) (m : MethodId) (c : Code) (cc : ByteArray) (nL : Nat) (s : State) (args : Array Value) (own : String) (D : va_G) (τ : Nat → ClassId) : Prop := p.tables.exec = Jvm.exec ∧ c.code = cc ∧ c.maxLocals = nL ∧ s.vm.findClass own = some m.cls ∧ (∀ w ∈ lw_all, w.before args s = true) ∧ va_K D cl0 (tyl τ) s
/-- from here the machine comes to Z -/
def Gd (p : Program) (l : Launch) (e : Env) (R : Room) (s : State) (m : MethodId) (args : Array Value) (below : List Frame) (meth : Method) (c : Code) (cells slots : Nat) (Z : State → Prop) (nL : Nat) (D : va_G) (ρ : Nat → Nat) (τ : Nat → ClassId) (A : Nat → Prop) (H0 : Heap) (pc : Nat) (lv : LV) (st : List Value) (σ : aS) : Prop := ∀ (H : Heap) (locs : List Loc) (ls : Array Slot), lv_has ls nL (lr ρ lv) → va_P D cl0 (wl ρ τ σ) H → va_D A (wl ρ τ σ) → va_S A H0 H locs → W p l e R s m args below meth c H locs cells slots Z (F0 m pc ls (st.map (rv ρ)))
/-- a call of this place of the pool does what its transformer says -/
def COK (p : Program) (l : Launch) (e : Env) (R : Room) (s : State) (m : MethodId) (args : Array Value) (below : List Frame) (meth : Method) (c : Code) (cells slots : Nat) (Z : State → Prop) (cc : ByteArray) (nL : Nat) (D : va_G) (ρ : Nat → Nat) (τ : Nat → ClassId) (A : Nat → Prop) (H0 : Heap) (q : Nat × Nat × Tr) : Prop := ∀ (ins : Instr) (pc : Nat) (as : List Value) (σ : aS) (kk : Option Value → aS → Prop) (lv : LV) (rest : List Value), (∃ i, (ins = .invokestatic i ∧ q.1 = 2 * i) ∨ (ins = .invokevirtual i ∧ q.1 = 2 * i + 1)) → decode cc pc = .ok (ins, 3) → as.length = q.2.1 → q.2.2 as σ kk → (rest.map fun v => v.category).sum ≤ 8 → (∀ v σ', kk v σ' → Gd p l e R s m args below meth c cells slots Z nL D ρ τ A H0 (pc + 3) lv (v.toList ++ rest) σ') → Gd p l e R s m args below meth c cells slots Z nL D ρ τ A H0 pc lv (as.reverse ++ rest) σ
def ROK (p : Program) (l : Launch) (e : Env) (R : Room) (s : State) (m : MethodId) (args : Array Value) (below : List Frame) (meth : Method) (c : Code) (cells slots : Nat) (Z : State → Prop) (cc : ByteArray) (nL : Nat) (D : va_G) (ρ : Nat → Nat) (τ : Nat → ClassId) (A : Nat → Prop) (H0 : Heap) (Q : Option Value → aS → Prop) : Prop := ∀ (ins : Instr) (pc : Nat) (v : Option Value) (σ : aS) (lv : LV), isRet ins v → decode cc pc = .ok (ins, 1) → Q v σ → Gd p l e R s m args below meth c cells slots Z nL D ρ τ A H0 pc lv v.toList σ
/-- the law's own script, at the place 999 -/
def XOK (ρ : Nat → Nat) (A : Nat → Prop) (H0 : Heap) (s : State) (X : Nat × (Nat → Int32)) : Prop := X.1 = 0 ∨ (H0 = s.heap ∧ va_X (ρ 999) (X.1 - 1) X.2 s s.heap ∧ ρ 999 < s.heap.size ∧ ¬ A (ρ 999))
theorem tsw_of {f : Nat → Prop} {pc : Nat} {x : Int32} : ∀ {offs : List Int} {lo : Int} (_ : tsw f pc x lo offs) (j : Nat) (o : Int), offs[j]? = some o → x = Int32.ofInt (lo + j) → f ((pc : Int) + o).toNat
  | [], _, _, j, o, h1, _ => by simp at h1
  | a :: r, lo, h, 0, o, h1, h2 => by
    simp at h1; subst h1
    exact h.1 (by simpa using h2)
  | a :: r, lo, h, j + 1, o, h1, h2 => by
    refine tsw_of h.2 j o (by simpa using h1) ?_
    rw [h2]; congr 1; push_cast; omega
set_option maxHeartbeats 4000000 in
set_option maxRecDepth 20000 in
theorem s1_sound {X : Nat × (Nat → Int32)} (hX : XOK ρ A H0 s X) (F : Fx p m c cc nL s args own D τ) {CE : List (Nat × Nat × Tr)} (hCE : ∀ q ∈ CE, COK p l e R s m args below meth c cells slots Z cc nL D ρ τ A H0 q) {Q : Option Value → aS → Prop} (hQ : ROK p l e R s m args below meth c cells slots Z cc nL D ρ τ A H0 Q) {k : Nat → LV → List Value → aS → Prop} (hk : ∀ pc lv st σ, k pc lv st σ → Gd p l e R s m args below meth c cells slots Z nL D ρ τ A H0 pc lv st σ) {en : En} (hchk : chk cc nL own en = true) {lv : LV} {st : List Value} {σ : aS} (h : s1 X CE Q k en lv st σ) : Gd p l e R s m args below meth c cells slots Z nL D ρ τ A H0 en.1 lv st σ := by
  obtain ⟨pc, ins, len, tgt, ci, v, wi⟩ := en
  obtain ⟨hx, hb, hml, hown, hts, hK⟩ := F
  have hb0 := hb
  unfold chk at hchk
  rw [Bool.and_eq_true] at hchk
  obtain ⟨hdg0, hc⟩ := hchk
  have hdg := of_decide_eq_true hdg0
  clear hdg0
  show Gd p l e R s m args below meth c cells slots Z nL D ρ τ A H0 pc lv st σ
  cases ins
  case iconst n =>
    rw [Bool.and_eq_true] at hc
    obtain ⟨hv, hlen⟩ := hc
    have hlen : len = 1 := eq_of_beq hlen
    subst hlen
    have hv := of_decide_eq_true hv
    subst hv
    intro H locs ls hl hP hD hS
    exact lv_iconst hx hb hdg rfl (hk _ _ _ _ h H locs ls hl hP hD hS)
  case bipush n =>
    rw [Bool.and_eq_true] at hc
    obtain ⟨hv, hlen⟩ := hc
    have hlen : len = 2 := eq_of_beq hlen
    subst hlen
    have hv := of_decide_eq_true hv
    subst hv
    intro H locs ls hl hP hD hS
    exact lv_bipush hx hb hdg rfl (hk _ _ _ _ h H locs ls hl hP hD hS)
  case sipush n =>
    rw [Bool.and_eq_true] at hc
    obtain ⟨hv, hlen⟩ := hc
    have hlen : len = 3 := eq_of_beq hlen
    subst hlen
    have hv := of_decide_eq_true hv
    subst hv
    intro H locs ls hl hP hD hS
    exact lv_sipush hx hb hdg rfl (hk _ _ _ _ h H locs ls hl hP hD hS)
  case lconst n =>
    rw [Bool.and_eq_true] at hc
    obtain ⟨hv, hlen⟩ := hc
    have hlen : len = 1 := eq_of_beq hlen
    subst hlen
    have hv := of_decide_eq_true hv
    subst hv
    intro H locs ls hl hP hD hS
    exact lv_lconst hx hb hdg rfl (hk _ _ _ _ h H locs ls hl hP hD hS)
  case dconst n =>
    rw [Bool.and_eq_true] at hc
    obtain ⟨hv, hlen⟩ := hc
    have hlen : len = 1 := eq_of_beq hlen
    subst hlen
    have hv := of_decide_eq_true hv
    subst hv
    intro H locs ls hl hP hD hS
    match n, hdg, h with
    | 0, hdg, h => exact lv_dconst0 hx hb hdg (hk _ _ _ _ h H locs ls hl hP hD hS)
    | 1, hdg, h => exact lv_dconst1 hx hb hdg (hk _ _ _ _ h H locs ls hl hP hD hS)
  case ldc2_w i =>
    rw [Bool.and_eq_true] at hc
    obtain ⟨hlen, hv⟩ := hc
    have hlen : len = 3 := eq_of_beq hlen
    subst hlen
    cases v with
    | long x => exact fun H locs ls hl hP hD hS => lv_ldc2 hx hb hown (hts _ (mw wi (of_decide_eq_true hv) rfl)) hdg (hk _ _ _ _ h H locs ls hl hP hD hS)
    | double x => exact fun H locs ls hl hP hD hS => lv_ldc2d hx hb hown (hts _ (mw wi (of_decide_eq_true hv) rfl)) hdg (hk _ _ _ _ h H locs ls hl hP hD hS)
    | _ => exact absurd hv (by simp)
  case ldc_w i =>
    rw [Bool.and_eq_true] at hc
    obtain ⟨hlen, hv⟩ := hc
    have hlen : len = 3 := eq_of_beq hlen
    subst hlen
    cases v with
    | int x => exact fun H locs ls hl hP hD hS => lv_ldcw hx hb hown (hts _ (mw wi (of_decide_eq_true hv) rfl)) hdg (hk _ _ _ _ h H locs ls hl hP hD hS)
    | _ => exact absurd hv (by simp)
  case ldc i =>
    exact absurd hc (by simp)
  case iload_n i =>
    rw [Bool.and_eq_true] at hc
    have hlen : len = 1 := eq_of_beq hc.1
    subst hlen
    have ht := of_decide_eq_true hc.2
    obtain ⟨x, hm, h⟩ := lgi_of h
    intro H locs ls hl hP hD hS
    exact lv_iload_n hx hb hdg ht (lr_at hl hm) (hk _ _ _ _ h H locs ls hl hP hD hS)
  case iload i =>
    have hlen : len = 2 := eq_of_beq hc
    subst hlen
    obtain ⟨x, hm, h⟩ := lgi_of h
    intro H locs ls hl hP hD hS
    exact lv_iload hx hb hdg (lr_at hl hm) (hk _ _ _ _ h H locs ls hl hP hD hS)
  case lload_n i =>
    rw [Bool.and_eq_true] at hc
    have hlen : len = 1 := eq_of_beq hc.1
    subst hlen
    have ht := of_decide_eq_true hc.2
    obtain ⟨x, hm, h⟩ := lgl_of h
    intro H locs ls hl hP hD hS
    exact lv_lload_n hx hb hdg ht (lr_at hl hm) (hk _ _ _ _ h H locs ls hl hP hD hS)
  case lload i =>
    have hlen : len = 2 := eq_of_beq hc
    subst hlen
    obtain ⟨x, hm, h⟩ := lgl_of h
    intro H locs ls hl hP hD hS
    exact lv_lload hx hb hdg (lr_at hl hm) (hk _ _ _ _ h H locs ls hl hP hD hS)
  case dload_n i =>
    rw [Bool.and_eq_true] at hc
    have hlen : len = 1 := eq_of_beq hc.1
    subst hlen
    have ht := of_decide_eq_true hc.2
    obtain ⟨x, hm, h⟩ := lgd_of h
    intro H locs ls hl hP hD hS
    exact lv_dload_n hx hb hdg ht (lr_at hl hm) (hk _ _ _ _ h H locs ls hl hP hD hS)
  case dload i =>
    have hlen : len = 2 := eq_of_beq hc
    subst hlen
    obtain ⟨x, hm, h⟩ := lgd_of h
    intro H locs ls hl hP hD hS
    exact lv_dload hx hb hdg (lr_at hl hm) (hk _ _ _ _ h H locs ls hl hP hD hS)
  case aload_n i =>
    rw [Bool.and_eq_true] at hc
    have hlen : len = 1 := eq_of_beq hc.1
    subst hlen
    have ht := of_decide_eq_true hc.2
    obtain ⟨x, hm, h⟩ := lga_of h
    intro H locs ls hl hP hD hS
    exact lv_aload_n hx hb hdg ht (lr_at hl hm) (hk _ _ _ _ h H locs ls hl hP hD hS)
  case aload i =>
    have hlen : len = 2 := eq_of_beq hc
    subst hlen
    obtain ⟨x, hm, h⟩ := lga_of h
    intro H locs ls hl hP hD hS
    exact lv_aload hx hb hdg (lr_at hl hm) (hk _ _ _ _ h H locs ls hl hP hD hS)
  case istore_n i =>
    rw [Bool.and_eq_true, Bool.and_eq_true] at hc
    obtain ⟨⟨hlen, ht⟩, hi⟩ := hc
    have hlen : len = 1 := eq_of_beq hlen
    subst hlen
    have ht := of_decide_eq_true ht
    have hi := of_decide_eq_true hi
    rw [ht] at hi
    obtain ⟨x, r, rfl, h8⟩ := s1i_of h
    have h9 := ltK_1 _ lv h8
    intro H locs ls hl hP hD hS
    exact lv_istore_n hx hb hdg ht hl hi (lr_sp1 ρ lv _ (.int x)) (fun ls hl => hk _ _ _ _ h9 H locs ls hl hP hD hS)
  case istore i =>
    rw [Bool.and_eq_true] at hc
    obtain ⟨hlen, hi⟩ := hc
    have hlen : len = 2 := eq_of_beq hlen
    subst hlen
    have hi := of_decide_eq_true hi
    obtain ⟨x, r, rfl, h8⟩ := s1i_of h
    have h9 := ltK_1 _ lv h8
    intro H locs ls hl hP hD hS
    exact lv_istore hx hb hdg hl hi (lr_sp1 ρ lv _ (.int x)) (fun ls hl => hk _ _ _ _ h9 H locs ls hl hP hD hS)
  case astore_n i =>
    rw [Bool.and_eq_true, Bool.and_eq_true] at hc
    obtain ⟨⟨hlen, ht⟩, hi⟩ := hc
    have hlen : len = 1 := eq_of_beq hlen
    subst hlen
    have ht := of_decide_eq_true ht
    have hi := of_decide_eq_true hi
    rw [ht] at hi
    obtain ⟨x, r, rfl, h8⟩ := s1r_of h
    have h9 := ltK_1 _ lv h8
    intro H locs ls hl hP hD hS
    exact lv_astore_n hx hb hdg ht hl hi (lr_sp1 ρ lv _ (.ref x)) (fun ls hl => hk _ _ _ _ h9 H locs ls hl hP hD hS)
  case astore i =>
    rw [Bool.and_eq_true] at hc
    obtain ⟨hlen, hi⟩ := hc
    have hlen : len = 2 := eq_of_beq hlen
    subst hlen
    have hi := of_decide_eq_true hi
    obtain ⟨x, r, rfl, h8⟩ := s1r_of h
    have h9 := ltK_1 _ lv h8
    intro H locs ls hl hP hD hS
    exact lv_astore hx hb hdg hl hi (lr_sp1 ρ lv _ (.ref x)) (fun ls hl => hk _ _ _ _ h9 H locs ls hl hP hD hS)
  case lstore_n i =>
    rw [Bool.and_eq_true, Bool.and_eq_true] at hc
    obtain ⟨⟨hlen, ht⟩, hi⟩ := hc
    have hlen : len = 1 := eq_of_beq hlen
    subst hlen
    have ht := of_decide_eq_true ht
    have hi := of_decide_eq_true hi
    rw [ht] at hi
    obtain ⟨x, r, rfl, h8⟩ := s1l_of h
    have h9 := ltK_2 _ lv h8
    intro H locs ls hl hP hD hS
    exact lv_lstore_n hx hb hdg ht hl hi (lr_sp2 ρ lv _ (.long x)) (fun ls hl => hk _ _ _ _ h9 H locs ls hl hP hD hS)
  case lstore i =>
    rw [Bool.and_eq_true] at hc
    obtain ⟨hlen, hi⟩ := hc
    have hlen : len = 2 := eq_of_beq hlen
    subst hlen
    have hi := of_decide_eq_true hi
    obtain ⟨x, r, rfl, h8⟩ := s1l_of h
    have h9 := ltK_2 _ lv h8
    intro H locs ls hl hP hD hS
    exact lv_lstore hx hb hdg hl hi (lr_sp2 ρ lv _ (.long x)) (fun ls hl => hk _ _ _ _ h9 H locs ls hl hP hD hS)
  case dstore_n i =>
    rw [Bool.and_eq_true, Bool.and_eq_true] at hc
    obtain ⟨⟨hlen, ht⟩, hi⟩ := hc
    have hlen : len = 1 := eq_of_beq hlen
    subst hlen
    have ht := of_decide_eq_true ht
    have hi := of_decide_eq_true hi
    rw [ht] at hi
    obtain ⟨x, r, rfl, h8⟩ := s1d_of h
    have h9 := ltK_2 _ lv h8
    intro H locs ls hl hP hD hS
    exact lv_dstore_n hx hb hdg ht hl hi (lr_sp2 ρ lv _ (.double x)) (fun ls hl => hk _ _ _ _ h9 H locs ls hl hP hD hS)
  case dstore i =>
    rw [Bool.and_eq_true] at hc
    obtain ⟨hlen, hi⟩ := hc
    have hlen : len = 2 := eq_of_beq hlen
    subst hlen
    have hi := of_decide_eq_true hi
    obtain ⟨x, r, rfl, h8⟩ := s1d_of h
    have h9 := ltK_2 _ lv h8
    intro H locs ls hl hP hD hS
    exact lv_dstore hx hb hdg hl hi (lr_sp2 ρ lv _ (.double x)) (fun ls hl => hk _ _ _ _ h9 H locs ls hl hP hD hS)
  case iinc i n =>
    rw [Bool.and_eq_true] at hc
    obtain ⟨hlen, hi⟩ := hc
    have hlen : len = 3 := eq_of_beq hlen
    subst hlen
    have hi := of_decide_eq_true hi
    obtain ⟨x, hm, h8⟩ := lgi_of h
    have h9 := ltK_1 _ lv h8
    intro H locs ls hl hP hD hS
    obtain ⟨j, hj⟩ := List.getElem?_of_mem (List.mem_map.mpr ⟨(i, .int x), hm, rfl⟩ : (i, Value.int x) ∈ lr ρ lv)
    exact lv_iinc hx hb hdg hl (k := j) hj rfl hi (lr_sp1 ρ lv _ (.int _)) (fun ls hl => hk _ _ _ _ h9 H locs ls hl hP hD hS)
  case iadd =>
    have hlen : len = 1 := eq_of_beq hc
    subst hlen
    obtain ⟨x, y, r, rfl, h⟩ := s2i_of h
    intro H locs ls hl hP hD hS
    exact lv_iadd hx hb hdg (hk _ _ _ _ h H locs ls hl hP hD hS)
  case isub =>
    have hlen : len = 1 := eq_of_beq hc
    subst hlen
    obtain ⟨x, y, r, rfl, h⟩ := s2i_of h
    intro H locs ls hl hP hD hS
    exact lv_isub hx hb hdg (hk _ _ _ _ h H locs ls hl hP hD hS)
  case imul =>
    have hlen : len = 1 := eq_of_beq hc
    subst hlen
    obtain ⟨x, y, r, rfl, h⟩ := s2i_of h
    intro H locs ls hl hP hD hS
    exact lv_imul hx hb hdg (hk _ _ _ _ h H locs ls hl hP hD hS)
  case iand =>
    have hlen : len = 1 := eq_of_beq hc
    subst hlen
    obtain ⟨x, y, r, rfl, h⟩ := s2i_of h
    intro H locs ls hl hP hD hS
    exact lv_iand hx hb hdg (hk _ _ _ _ h H locs ls hl hP hD hS)
  case ior =>
    have hlen : len = 1 := eq_of_beq hc
    subst hlen
    obtain ⟨x, y, r, rfl, h⟩ := s2i_of h
    intro H locs ls hl hP hD hS
    exact lv_ior hx hb hdg (hk _ _ _ _ h H locs ls hl hP hD hS)
  case ishl =>
    have hlen : len = 1 := eq_of_beq hc
    subst hlen
    obtain ⟨x, y, r, rfl, h⟩ := s2i_of h
    intro H locs ls hl hP hD hS
    exact lv_ishl hx hb hdg (hk _ _ _ _ h H locs ls hl hP hD hS)
  case ishr =>
    have hlen : len = 1 := eq_of_beq hc
    subst hlen
    obtain ⟨x, y, r, rfl, h⟩ := s2i_of h
    intro H locs ls hl hP hD hS
    exact lv_ishr hx hb hdg (hk _ _ _ _ h H locs ls hl hP hD hS)
  case iushr =>
    have hlen : len = 1 := eq_of_beq hc
    subst hlen
    obtain ⟨x, y, r, rfl, h⟩ := s2i_of h
    intro H locs ls hl hP hD hS
    exact lv_iushr hx hb hdg rfl (hk _ _ _ _ h H locs ls hl hP hD hS)
  case idiv =>
    have hlen : len = 1 := eq_of_beq hc
    subst hlen
    obtain ⟨x, y, r, rfl, hne, h⟩ := s2i_of h
    intro H locs ls hl hP hD hS
    exact lv_idiv hx hb hdg hne (hk _ _ _ _ h H locs ls hl hP hD hS)
  case ineg =>
    have hlen : len = 1 := eq_of_beq hc
    subst hlen
    obtain ⟨x, r, rfl, h⟩ := s1i_of h
    intro H locs ls hl hP hD hS
    exact lv_ineg hx hb hdg (hk _ _ _ _ h H locs ls hl hP hD hS)
  case ladd =>
    have hlen : len = 1 := eq_of_beq hc
    subst hlen
    obtain ⟨x, y, r, rfl, h⟩ := s2l_of h
    intro H locs ls hl hP hD hS
    exact lv_ladd hx hb hdg (hk _ _ _ _ h H locs ls hl hP hD hS)
  case lsub =>
    have hlen : len = 1 := eq_of_beq hc
    subst hlen
    obtain ⟨x, y, r, rfl, h⟩ := s2l_of h
    intro H locs ls hl hP hD hS
    exact lv_lsub hx hb hdg (hk _ _ _ _ h H locs ls hl hP hD hS)
  case lmul =>
    have hlen : len = 1 := eq_of_beq hc
    subst hlen
    obtain ⟨x, y, r, rfl, h⟩ := s2l_of h
    intro H locs ls hl hP hD hS
    exact lv_lmul hx hb hdg (hk _ _ _ _ h H locs ls hl hP hD hS)
  case land =>
    have hlen : len = 1 := eq_of_beq hc
    subst hlen
    obtain ⟨x, y, r, rfl, h⟩ := s2l_of h
    intro H locs ls hl hP hD hS
    exact lv_land hx hb hdg (hk _ _ _ _ h H locs ls hl hP hD hS)
  case lor =>
    have hlen : len = 1 := eq_of_beq hc
    subst hlen
    obtain ⟨x, y, r, rfl, h⟩ := s2l_of h
    intro H locs ls hl hP hD hS
    exact lv_lor hx hb hdg (hk _ _ _ _ h H locs ls hl hP hD hS)
  case lxor =>
    have hlen : len = 1 := eq_of_beq hc
    subst hlen
    obtain ⟨x, y, r, rfl, h⟩ := s2l_of h
    intro H locs ls hl hP hD hS
    exact lv_lxor hx hb hdg (hk _ _ _ _ h H locs ls hl hP hD hS)
  case ldiv =>
    have hlen : len = 1 := eq_of_beq hc
    subst hlen
    obtain ⟨x, y, r, rfl, hne, h⟩ := s2l_of h
    intro H locs ls hl hP hD hS
    exact lv_ldiv hx hb hdg hne (hk _ _ _ _ h H locs ls hl hP hD hS)
  case lrem =>
    have hlen : len = 1 := eq_of_beq hc
    subst hlen
    obtain ⟨x, y, r, rfl, hne, h⟩ := s2l_of h
    intro H locs ls hl hP hD hS
    exact lv_lrem hx hb hdg hne (hk _ _ _ _ h H locs ls hl hP hD hS)
  case lshl =>
    have hlen : len = 1 := eq_of_beq hc
    subst hlen
    obtain ⟨x, y, r, rfl, h⟩ := sli_of h
    intro H locs ls hl hP hD hS
    exact lv_lshl hx hb hdg rfl (hk _ _ _ _ h H locs ls hl hP hD hS)
  case lshr =>
    have hlen : len = 1 := eq_of_beq hc
    subst hlen
    obtain ⟨x, y, r, rfl, h⟩ := sli_of h
    intro H locs ls hl hP hD hS
    exact lv_lshr hx hb hdg rfl (hk _ _ _ _ h H locs ls hl hP hD hS)
  case lushr =>
    have hlen : len = 1 := eq_of_beq hc
    subst hlen
    obtain ⟨x, y, r, rfl, h⟩ := sli_of h
    intro H locs ls hl hP hD hS
    exact lv_lushr hx hb hdg rfl (hk _ _ _ _ h H locs ls hl hP hD hS)
  case lcmp =>
    have hlen : len = 1 := eq_of_beq hc
    subst hlen
    obtain ⟨x, y, r, rfl, h⟩ := s2l_of h
    intro H locs ls hl hP hD hS
    exact W.lcmp hx hb hdg (hk _ _ _ _ h H locs ls hl hP hD hS)
  case i2l =>
    have hlen : len = 1 := eq_of_beq hc
    subst hlen
    obtain ⟨x, r, rfl, h⟩ := s1i_of h
    intro H locs ls hl hP hD hS
    exact lv_i2l hx hb hdg rfl (hk _ _ _ _ h H locs ls hl hP hD hS)
  case l2i =>
    have hlen : len = 1 := eq_of_beq hc
    subst hlen
    obtain ⟨x, r, rfl, h⟩ := s1l_of h
    intro H locs ls hl hP hD hS
    exact lv_l2i hx hb hdg rfl (hk _ _ _ _ h H locs ls hl hP hD hS)
  case i2d =>
    have hlen : len = 1 := eq_of_beq hc
    subst hlen
    obtain ⟨x, r, rfl, h⟩ := s1i_of h
    intro H locs ls hl hP hD hS
    exact lv_i2d hx hb hdg (hk _ _ _ _ h H locs ls hl hP hD hS)
  case l2d =>
    have hlen : len = 1 := eq_of_beq hc
    subst hlen
    obtain ⟨x, r, rfl, h⟩ := s1l_of h
    intro H locs ls hl hP hD hS
    exact lv_l2d hx hb hdg (hk _ _ _ _ h H locs ls hl hP hD hS)
  case d2i =>
    have hlen : len = 1 := eq_of_beq hc
    subst hlen
    obtain ⟨x, r, rfl, h⟩ := s1d_of h
    intro H locs ls hl hP hD hS
    exact lv_d2i hx hb hdg (hk _ _ _ _ h H locs ls hl hP hD hS)
  case d2l =>
    have hlen : len = 1 := eq_of_beq hc
    subst hlen
    obtain ⟨x, r, rfl, h⟩ := s1d_of h
    intro H locs ls hl hP hD hS
    exact lv_d2l hx hb hdg (hk _ _ _ _ h H locs ls hl hP hD hS)
  case dneg =>
    have hlen : len = 1 := eq_of_beq hc
    subst hlen
    obtain ⟨x, r, rfl, h⟩ := s1d_of h
    intro H locs ls hl hP hD hS
    exact lv_dneg hx hb hdg (hk _ _ _ _ h H locs ls hl hP hD hS)
  case d2f =>
    have hlen : len = 1 := eq_of_beq hc
    subst hlen
    obtain ⟨x, r, rfl, hne, h⟩ := s1d_of h
    intro H locs ls hl hP hD hS
    exact lv_d2f hx hb hdg hne (hk _ _ _ _ h H locs ls hl hP hD hS)
  case f2d =>
    have hlen : len = 1 := eq_of_beq hc
    subst hlen
    obtain ⟨x, r, rfl, hne, h⟩ := s1f_of h
    intro H locs ls hl hP hD hS
    exact lv_f2d hx hb hdg hne (hk _ _ _ _ h H locs ls hl hP hD hS)
  case dadd =>
    have hlen : len = 1 := eq_of_beq hc
    subst hlen
    obtain ⟨x, y, r, rfl, hne, h⟩ := s2d_of h
    intro H locs ls hl hP hD hS
    exact lv_dadd hx hb hdg hne (hk _ _ _ _ h H locs ls hl hP hD hS)
  case dsub =>
    have hlen : len = 1 := eq_of_beq hc
    subst hlen
    obtain ⟨x, y, r, rfl, hne, h⟩ := s2d_of h
    intro H locs ls hl hP hD hS
    exact lv_dsub hx hb hdg hne (hk _ _ _ _ h H locs ls hl hP hD hS)
  case dmul =>
    have hlen : len = 1 := eq_of_beq hc
    subst hlen
    obtain ⟨x, y, r, rfl, hne, h⟩ := s2d_of h
    intro H locs ls hl hP hD hS
    exact lv_dmul hx hb hdg hne (hk _ _ _ _ h H locs ls hl hP hD hS)
  case ddiv =>
    have hlen : len = 1 := eq_of_beq hc
    subst hlen
    obtain ⟨x, y, r, rfl, hne, h⟩ := s2d_of h
    intro H locs ls hl hP hD hS
    exact lv_ddiv hx hb hdg hne (hk _ _ _ _ h H locs ls hl hP hD hS)
  case dcmp op =>
    have hlen : len = 1 := eq_of_beq hc
    subst hlen
    obtain ⟨x, y, r, rfl, h⟩ := s2d_of h
    intro H locs ls hl hP hD hS
    exact lv_dcmp hx hb hdg (hk _ _ _ _ h H locs ls hl hP hD hS)
  case ifCond cd off =>
    rw [Bool.and_eq_true] at hc
    obtain ⟨hlen, ht⟩ := hc
    have hlen : len = 3 := eq_of_beq hlen
    subst hlen
    have ht := of_decide_eq_true ht
    obtain ⟨x, r, rfl, h1, h2⟩ := s1i_of h
    intro H locs ls hl hP hD hS
    cases cd with
    | eq => exact lv_if_eq hx hb hdg ht (fun q => hk _ _ _ _ (h1 q) H locs ls hl hP hD hS) (fun q => hk _ _ _ _ (h2 q) H locs ls hl hP hD hS)
    | ne => exact lv_if_ne hx hb hdg ht (fun q => hk _ _ _ _ (h1 q) H locs ls hl hP hD hS) (fun q => hk _ _ _ _ (h2 (fun z => z q)) H locs ls hl hP hD hS)
    | lt => exact lv_if_lt hx hb hdg ht (fun q => hk _ _ _ _ (h1 q) H locs ls hl hP hD hS) (fun q => hk _ _ _ _ (h2 q) H locs ls hl hP hD hS)
    | ge => exact lv_if_ge hx hb hdg ht (fun q => hk _ _ _ _ (h1 q) H locs ls hl hP hD hS) (fun q => hk _ _ _ _ (h2 q) H locs ls hl hP hD hS)
    | gt => exact lv_if_gt hx hb hdg ht (fun q => hk _ _ _ _ (h1 q) H locs ls hl hP hD hS) (fun q => hk _ _ _ _ (h2 q) H locs ls hl hP hD hS)
    | le => exact lv_if_le hx hb hdg ht (fun q => hk _ _ _ _ (h1 q) H locs ls hl hP hD hS) (fun q => hk _ _ _ _ (h2 q) H locs ls hl hP hD hS)
  case if_icmp cd off =>
    rw [Bool.and_eq_true] at hc
    obtain ⟨hlen, ht⟩ := hc
    have hlen : len = 3 := eq_of_beq hlen
    subst hlen
    have ht := of_decide_eq_true ht
    obtain ⟨x, y, r, rfl, h1, h2⟩ := s2i_of h
    intro H locs ls hl hP hD hS
    cases cd with
    | eq => exact lv_icmp_eq hx hb hdg ht (fun q => hk _ _ _ _ (h1 q) H locs ls hl hP hD hS) (fun q => hk _ _ _ _ (h2 q) H locs ls hl hP hD hS)
    | ne => exact lv_icmp_ne hx hb hdg ht (fun q => hk _ _ _ _ (h1 q) H locs ls hl hP hD hS) (fun q => hk _ _ _ _ (h2 (fun z => z q)) H locs ls hl hP hD hS)
    | lt => exact lv_icmp_lt hx hb hdg ht (fun q => hk _ _ _ _ (h1 q) H locs ls hl hP hD hS) (fun q => hk _ _ _ _ (h2 q) H locs ls hl hP hD hS)
    | ge => exact lv_icmp_ge hx hb hdg ht (fun q => hk _ _ _ _ (h1 q) H locs ls hl hP hD hS) (fun q => hk _ _ _ _ (h2 q) H locs ls hl hP hD hS)
    | gt => exact lv_icmp_gt hx hb hdg ht (fun q => hk _ _ _ _ (h1 q) H locs ls hl hP hD hS) (fun q => hk _ _ _ _ (h2 q) H locs ls hl hP hD hS)
    | le => exact lv_icmp_le hx hb hdg ht (fun q => hk _ _ _ _ (h1 q) H locs ls hl hP hD hS) (fun q => hk _ _ _ _ (h2 q) H locs ls hl hP hD hS)
  case dup =>
    have hlen : len = 1 := eq_of_beq hc
    subst hlen
    obtain ⟨w, r, rfl, hw, h9⟩ := sdp_of h
    intro H locs ls hl hP hD hS
    exact lv_dup hx hb hdg (by rw [rv_cat]; exact hw) (hk _ _ _ _ h9 H locs ls hl hP hD hS)
  case goto off =>
    rw [Bool.and_eq_true] at hc
    obtain ⟨hlen, ht⟩ := hc
    have hlen : len = 3 := eq_of_beq hlen
    subst hlen
    have ht := of_decide_eq_true ht
    intro H locs ls hl hP hD hS
    exact lv_goto hx hb hdg ht (hk _ _ _ _ h H locs ls hl hP hD hS)
  case tableswitch dflt lo hi offs =>
    simp only [Bool.and_eq_true, decide_eq_true_eq] at hc
    obtain ⟨⟨⟨ht, hsz⟩, hr1, hr2⟩, hpos⟩ := hc
    obtain ⟨x, r, rfl, h1, h2⟩ := s1i_of h
    intro H locs ls hl hP hD hS
    by_cases hin : x.toInt < lo ∨ hi < x.toInt
    · exact lv_tableOut hx hb hdg hin ht (hk _ _ _ _ (h1 hin) H locs ls hl hP hD hS)
    · have q1 : ¬ x.toInt < lo := fun z => hin (Or.inl z)
      have q2 : ¬ hi < x.toInt := fun z => hin (Or.inr z)
      have hj : (x.toInt - lo).toNat < offs.size := by omega
      have ho : offs[(x.toInt - lo).toNat]? = some (offs[(x.toInt - lo).toNat]) := Array.getElem?_eq_getElem hj
      have hox : x = Int32.ofInt (lo + ((x.toInt - lo).toNat : Int)) := by
        rw [Int.toNat_of_nonneg (by omega), show lo + (x.toInt - lo) = x.toInt by omega]; exact (Int32.ofInt_toInt x).symm
      have hp := of_decide_eq_true (List.all_eq_true.mp hpos (offs[(x.toInt - lo).toNat]) (by rw [Array.mem_toList_iff]; exact Array.getElem_mem hj))
      exact lv_tableIn hx hb hdg q1 q2 ho (Int.toNat_of_nonneg hp).symm (hk _ _ _ _ (tsw_of h2 _ _ (by rw [Array.getElem?_toList]; exact ho) hox) H locs ls hl hP hD hS)
  case iaload =>
    have hlen : len = 1 := eq_of_beq hc
    subst hlen
    obtain ⟨a, i, r, rfl, h8⟩ := sri_of h
    intro H locs ls hl hP hD hS
    by_cases ha : (a == 999) = true
    · rw [ha] at h8
      have ha := eq_of_beq ha
      subst ha
      obtain ⟨hn, hin, h9⟩ := h8
      rcases hX with h0 | ⟨e0, h1, h2, h3⟩
      · exact absurd h0 hn
      · subst e0; exact va_sld hx hb h1 h2 h3 hS hin hdg (hk _ _ _ _ h9 H locs ls hl hP hD hS)
    · rw [Bool.not_eq_true] at ha
      rw [ha] at h8
      obtain ⟨n, g, hg, hin, h9⟩ := ai_of h8
      exact va_iald hx hb hK hP a 0 (wl_get ρ τ σ hg) rfl hin hdg (hk _ _ _ _ h9 H locs ls hl hP hD hS)
  case arraylength =>
    have hlen : len = 1 := eq_of_beq hc
    subst hlen
    obtain ⟨a, r, rfl, h8⟩ := s1r_of h
    intro H locs ls hl hP hD hS
    obtain ⟨ha, hn, h9⟩ := bif_of h8
    have ha := eq_of_beq ha
    subst ha
    rcases hX with h0 | ⟨e0, h1, h2, h3⟩
    · exact absurd h0 hn
    · subst e0; exact va_slen hx hb h1 h2 h3 hS hdg (hk _ _ _ _ h9 H locs ls hl hP hD hS)
  case baload =>
    have hlen : len = 1 := eq_of_beq hc
    subst hlen
    obtain ⟨a, i, r, rfl, h⟩ := sri_of h
    obtain ⟨n, g, hg, hin, h⟩ := ai_of h
    intro H locs ls hl hP hD hS
    exact va_zald hx hb hK hP a 3 (wl_get ρ τ σ hg) rfl hin hdg (hk _ _ _ _ h H locs ls hl hP hD hS)
  case laload =>
    have hlen : len = 1 := eq_of_beq hc
    subst hlen
    obtain ⟨a, i, r, rfl, h⟩ := sri_of h
    obtain ⟨n, g, hg, hin, h⟩ := al_of h
    intro H locs ls hl hP hD hS
    exact va_lald hx hb hK hP a 1 (wl_get ρ τ σ hg) rfl hin hdg (hk _ _ _ _ h H locs ls hl hP hD hS)
  case daload =>
    have hlen : len = 1 := eq_of_beq hc
    subst hlen
    obtain ⟨a, i, r, rfl, h⟩ := sri_of h
    obtain ⟨n, g, hg, hin, h⟩ := ad_of h
    intro H locs ls hl hP hD hS
    exact va_dald hx hb hK hP a 2 (wl_get ρ τ σ hg) rfl hin hdg (hk _ _ _ _ h H locs ls hl hP hD hS)
  case iastore =>
    have hlen : len = 1 := eq_of_beq hc
    subst hlen
    obtain ⟨a, i, x, r, rfl, h⟩ := srii_of h
    obtain ⟨n, g, hg, hin, h⟩ := ai_of h
    intro H locs ls hl hP hD hS
    refine va_iast hx hb hK hP hD hS a 0 (wl_get ρ τ σ hg) rfl hin hdg (fun H locs hP hD hS => ?_)
    have e := wl_set ρ τ σ a
    exact hk _ _ _ _ h H locs ls hl ((e _) ▸ hP) ((e _) ▸ hD) hS
  case bastore =>
    have hlen : len = 1 := eq_of_beq hc
    subst hlen
    obtain ⟨a, i, x, r, rfl, h⟩ := srii_of h
    obtain ⟨n, g, hg, hin, h⟩ := ai_of h
    intro H locs ls hl hP hD hS
    refine va_zast hx hb hK hP hD hS a 3 (wl_get ρ τ σ hg) rfl hin hdg (fun H locs hP hD hS => ?_)
    have e := wl_set ρ τ σ a
    exact hk _ _ _ _ h H locs ls hl ((e _) ▸ hP) ((e _) ▸ hD) hS
  case lastore =>
    have hlen : len = 1 := eq_of_beq hc
    subst hlen
    obtain ⟨a, i, x, r, rfl, h⟩ := sril_of h
    obtain ⟨n, g, hg, hin, h⟩ := al_of h
    intro H locs ls hl hP hD hS
    refine va_last hx hb hK hP hD hS a 1 (wl_get ρ τ σ hg) rfl hin hdg (fun H locs hP hD hS => ?_)
    have e := wl_set ρ τ σ a
    exact hk _ _ _ _ h H locs ls hl ((e _) ▸ hP) ((e _) ▸ hD) hS
  case dastore =>
    have hlen : len = 1 := eq_of_beq hc
    subst hlen
    obtain ⟨a, i, x, r, rfl, h⟩ := srid_of h
    obtain ⟨n, g, hg, hin, h⟩ := ad_of h
    intro H locs ls hl hP hD hS
    refine va_dast hx hb hK hP hD hS a 2 (wl_get ρ τ σ hg) rfl hin hdg (fun H locs hP hD hS => ?_)
    have e := wl_set ρ τ σ a
    exact hk _ _ _ _ h H locs ls hl ((e _) ▸ hP) ((e _) ▸ hD) hS
  case getfield i =>
    rw [Bool.and_eq_true] at hc
    obtain ⟨hlen, hc⟩ := hc
    have hlen : len = 3 := eq_of_beq hlen
    subst hlen
    obtain ⟨a, r, rfl, h⟩ := s1r_of h
    obtain ⟨fs, hfs, h⟩ := ao_of h
    obtain ⟨w, hw, h⟩ := op1_of h
    intro H locs ls hl hP hD hS
    split at hc
    · rename_i q hq
      simp only [Bool.and_eq_true, decide_eq_true_eq] at hc
      obtain ⟨⟨hn, hwd⟩, href⟩ := hc
      exact va_get (ref := q.1) (C := q.1) (T := q.2.1) (N := q.2.2) hx hb hts (cl0_I hq).1 hown hK hP a (wl_get ρ τ σ hfs) hq tgt hn (hts _ (mw wi hwd rfl)) (fun x hx => by rw [href] at hx; exact hx) (by show (fs.map (rv ρ))[tgt]? = _; rw [List.getElem?_map, hw]; rfl) hdg (hk _ _ _ _ h H locs ls hl hP hD hS)
    · exact absurd hc (by simp)
  case putfield i =>
    rw [Bool.and_eq_true] at hc
    obtain ⟨hlen, hc⟩ := hc
    have hlen : len = 3 := eq_of_beq hlen
    subst hlen
    obtain ⟨a, x, r, rfl, h1⟩ := sri_of h
    obtain ⟨fs, hfs, h2⟩ := ao_of h1
    obtain ⟨hlt, h3⟩ := bif_of h2
    intro H locs ls hl hP hD hS
    split at hc
    · rename_i q hq
      simp only [Bool.and_eq_true, decide_eq_true_eq] at hc
      obtain ⟨⟨⟨⟨hn, hwd⟩, href⟩, hfin⟩, hty⟩ := hc
      have h5 := pN_of h3
      refine va_put (v := .int x) (ref := q.1) (C := q.1) (T := q.2.1) (N := q.2.2) hx hb hts (cl0_I hq).1 _ (cl0_I hq).2.2 (cl0_I hq).2.1 hown hK hP hD hS a (wl_get ρ τ σ hfs) hq tgt hn (hts _ (mw wi hwd rfl)) (fun x hx => by rw [href] at hx; exact hx) (eq_of_beq hfin) hty h5.1 h5.2.1 (by rw [List.length_map]; exact Nat.le_of_ble_eq_true hlt) hdg (fun H locs hP hD hS => ?_)
      have e := wl_set ρ τ σ a (.inr (ci, fs.set tgt (.int x)))
      rw [show re ρ τ (.inr (ci, fs.set tgt (.int x))) = .inr (ci, (fs.map (rv ρ)).set tgt (.int x)) by show Sum.inr (ci, (fs.set tgt (.int x)).map (rv ρ)) = _; rw [List.map_set]; rfl] at e
      exact hk _ _ _ _ h5.2.2 H locs ls hl (e ▸ hP) (e ▸ hD) hS
    · exact absurd hc (by simp)
  case invokestatic i =>
    have hlen : len = 3 := eq_of_beq hc
    subst hlen
    obtain ⟨q, hq, h7⟩ := op1_of h
    obtain ⟨as, rest, rfl, hlen, h8⟩ := popK_of _ _ _ h7
    obtain ⟨hn, h9⟩ := bif_of h8
    have hqm := List.mem_of_find?_eq_some hq
    have hqi9 := List.find?_some hq
    have hqi := eq_of_beq hqi9
    rw [List.append_nil] at h9
    have e : as ++ rest = (as.reverse).reverse ++ rest := by rw [List.reverse_reverse]
    rw [e]
    exact hCE q hqm _ pc _ σ _ lv _ (⟨i, Or.inl ⟨rfl, hqi⟩⟩) hdg (by rw [List.length_reverse]; exact hlen) h9 (Nat.le_of_ble_eq_true hn) (fun v σ' z => by cases v <;> exact hk _ _ _ _ z)
  case invokevirtual i =>
    have hlen : len = 3 := eq_of_beq hc
    subst hlen
    obtain ⟨q, hq, h7⟩ := op1_of h
    obtain ⟨as, rest, rfl, hlen, h8⟩ := popK_of _ _ _ h7
    obtain ⟨hn, h9⟩ := bif_of h8
    have hqm := List.mem_of_find?_eq_some hq
    have hqi9 := List.find?_some hq
    have hqi := eq_of_beq hqi9
    rw [List.append_nil] at h9
    have e : as ++ rest = (as.reverse).reverse ++ rest := by rw [List.reverse_reverse]
    rw [e]
    exact hCE q hqm _ pc _ σ _ lv _ (⟨i, Or.inr ⟨rfl, hqi⟩⟩) hdg (by rw [List.length_reverse]; exact hlen) h9 (Nat.le_of_ble_eq_true hn) (fun v σ' z => by cases v <;> exact hk _ _ _ _ z)
  case ireturn =>
    have hlen : len = 1 := eq_of_beq hc
    subst hlen
    match st, h with
    | [.int x], h => exact hQ .ireturn pc (some (.int x)) σ lv trivial hdg h
  case lreturn =>
    have hlen : len = 1 := eq_of_beq hc
    subst hlen
    match st, h with
    | [.long x], h => exact hQ .lreturn pc (some (.long x)) σ lv trivial hdg h
  case dreturn =>
    have hlen : len = 1 := eq_of_beq hc
    subst hlen
    match st, h with
    | [.double x], h => exact hQ .dreturn pc (some (.double x)) σ lv trivial hdg h
  case return_ =>
    have hlen : len = 1 := eq_of_beq hc
    subst hlen
    match st, h with
    | [], h => exact hQ .return_ pc none σ lv trivial hdg h
  all_goals exact (h : False).elim
theorem Gd_cn {pc : Nat} {lv : LV} {st : List Value} {σ : aS} {sl : List Nat} (h : Gd p l e R s m args below meth c cells slots Z nL D ρ τ A H0 pc (cn sl lv) st σ) : Gd p l e R s m args below meth c cells slots Z nL D ρ τ A H0 pc lv st σ := fun H locs ls hl hP hD hS => h H locs ls ⟨hl.1, hl.2.1, fun q hq => by
  obtain ⟨q', h1, rfl⟩ := List.mem_map.mp hq
  exact hl.2.2 _ (List.mem_map.mpr ⟨q', cn_mem h1, rfl⟩)⟩ hP hD hS
theorem seg_sound {X : Nat × (Nat → Int32)} (hX : XOK ρ A H0 s X) (F : Fx p m c cc nL s args own D τ) {P : List En} (hchk : P.all (chk cc nL own) = true) {CE : List (Nat × Nat × Tr)} (hCE : ∀ q ∈ CE, COK p l e R s m args below meth c cells slots Z cc nL D ρ τ A H0 q) {Q : Option Value → aS → Prop} (hQ : ROK p l e R s m args below meth c cells slots Z cc nL D ρ τ A H0 Q) {cut : List (Nat × List Nat)} : ∀ (n : Nat) (b : Bool) (pc : Nat) (lv : LV) (st : List Value) (σ : aS), seg X P CE cut (Gd p l e R s m args below meth c cells slots Z nL D ρ τ A H0) Q n b pc lv st σ → Gd p l e R s m args below meth c cells slots Z nL D ρ τ A H0 pc lv st σ
  | 0, _, _, _, _, _, h => h
  | n + 1, b, pc, lv, st, σ, h => by
    have h : segF X P CE cut (Gd p l e R s m args below meth c cells slots Z nL D ρ τ A H0) Q (seg X P CE cut (Gd p l e R s m args below meth c cells slots Z nL D ρ τ A H0) Q n) b pc lv st σ := h
    unfold segF at h
    split at h
    · exact Gd_cn h
    · obtain ⟨en, he, h9⟩ := op1_of h
      have hpc : en.1 = pc := by simpa using List.find?_some he
      subst hpc
      exact s1_sound hX F hCE hQ (fun pc lv st σ z => seg_sound hX F hchk hCE hQ n true pc lv st σ z) (List.all_eq_true.mp hchk en (List.mem_of_find?_eq_some he)) h9
end
end
section
/-! A METHOD'S CONTRACT over a world of numbered cells, and its calls -/
abbrev rmL (n : Nat) : Room := { frames := n, cells := 0, slots := 0, locals := 48 * n }
def PW (D : va_G) (τ : Nat → ClassId) (ρ : Nat → Nat) (A : Nat → Prop) (as : List Value) (σ : aS) : Array Value → State → Prop := va_Pc (as.map (rv ρ)) (fun U => va_P D cl0 (wl ρ τ σ) U.heap ∧ va_K D cl0 (tyl τ) U ∧ va_D A (wl ρ τ σ))
def QW (D : va_G) (τ : Nat → ClassId) (ρ : Nat → Nat) (A : Nat → Prop) (post : Option Value → aS → Prop) : Array Value → State → Outcome → State → Prop := fun _ s o t => (∃ (v : Option Value) (σ : aS), o = .returned (v.map (rv ρ)) ∧ post v σ ∧ va_P D cl0 (wl ρ τ σ) t.heap ∧ va_K D cl0 (tyl τ) t ∧ va_D A (wl ρ τ σ)) ∧ va_F A s t
def MetW (l : Launch) (y : MethodName) (cc : ByteArray) (nL : Nat) (ret : Option FieldType) (lvl : Nat) (D : va_G) (τ : Nat → ClassId) (ρ : Nat → Nat) (A : Nat → Prop) (as : List Value) (σ : aS) (post : Option Value → aS → Prop) : Prop :=
  Met l y (.code y cc nL ret :: lw_all) (rmL lvl) (PW D τ ρ A as σ) (QW D τ ρ A post) 0 0 A
/-- the method does what its transformer says, in every world -/
def OK (l : Launch) (y : MethodName) (cc : ByteArray) (nL : Nat) (ret : Option FieldType) (lvl : Nat) (T : Tr) : Prop := ∀ (D : va_G) (τ : Nat → ClassId) (ρ : Nat → Nat) (A : Nat → Prop) (as : List Value) (σ : aS) (post : Option Value → aS → Prop), T as σ post → MetW l y cc nL ret lvl D τ ρ A as σ post
/-- what a body owes, without the machine -/
def Bd (P : List En) (CE : List (Nat × Nat × Tr)) (cut : List (Nat × List Nat)) (Q : Option Value → aS → Prop) (as : List Value) (σ : aS) : Prop := ∀ G : Nat → LV → List Value → aS → Prop, (∀ n b pc lv st σ, seg (0, fun _ => 0) P CE cut G Q n b pc lv st σ → G pc lv st σ) → G 0 (lv_args 0 as) [] σ
def rFit (ret : Option FieldType) (v : Option Value) : Prop := match ret, v with
  | some .boolean, some (.int x) => x = 0 ∨ x = 1
  | some .int, some (.int _) => True
  | some .long, some (.long _) => True
  | some .double, some (.double _) => True
  | none, none => True
  | _, _ => False
theorem lr_args (ρ : Nat → Nat) : ∀ (as : List Value) (i : Nat), lr ρ (lv_args i as) = lv_args i (as.map (rv ρ))
  | [], _ => rfl
  | v :: vs, i => by
    show (i, rv ρ v) :: lr ρ (lv_args (if v.category = 2 then i + 2 else i + 1) vs) = (i, rv ρ v) :: lv_args (if (rv ρ v).category = 2 then i + 2 else i + 1) (vs.map (rv ρ))
    rw [lr_args ρ vs, rv_cat]
theorem PW_blind (D : va_G) (τ : Nat → ClassId) (ρ : Nat → Nat) (A : Nat → Prop) (as : List Value) (σ : aS) : FrameBlind (PW D τ ρ A as σ) := fun a U g mk q => by
  obtain ⟨q0, qP, qK, qD⟩ := q
  exact ⟨q0, qP, va_K.moved (u := U) (U := U.calling g mk a) (Vm.Alike.refl U.vm) qK, qD⟩
/-- a list of calls is right for all methods of a class at a level -/
def CEok (l : Launch) (own : String) (lvl : Nat) (CE : List (Nat × Nat × Tr)) : Prop := ∀ q ∈ CE, ∀ {p : Program} {e : Env} {R : Room} {s : State} {m : MethodId} {args : Array Value} {below : List Frame} {meth : Method} {c : Code} {cells slots : Nat} {Z : State → Prop} {cc : ByteArray} {nL : Nat} {D : va_G} {ρ : Nat → Nat} {τ : Nat → ClassId} {A : Nat → Prop} {H0 : Heap}, Fx p m c cc nL s args own D τ → lvl ≤ R.frames → 48 * lvl ≤ R.locals → cells ≤ R.cells → slots ≤ R.slots → COK p l e R s m args below meth c cells slots Z cc nL D ρ τ A H0 q
section
variable {l : Launch} {own : String} {lvl lv2 : Nat} {y : MethodName} {bytes : ByteArray} {maxL n : Nat} {ret : Option FieldType} {T : Tr} {idx : Nat}
/-- behind a call -/
theorem call_end {p : Program} {e : Env} {R : Room} {s : State} {m : MethodId} {args : Array Value} {below : List Frame} {meth : Method} {c : Code} {cells slots : Nat} {Z : State → Prop} {nL : Nat} {D : va_G} {ρ : Nat → Nat} {τ : Nat → ClassId} {A : Nat → Prop} {H0 H : Heap} {locs : List Loc} {ls : Array Slot} {pc : Nat} {lv : LV} {st0 : List Value} {rest : List Value} {kk : Option Value → aS → Prop} {a : Array Value}
    (hr : va_Run p l e R s m args below meth c H locs cells slots 0 0 (F0 m pc ls st0) (rest.map (rv ρ)) (QW D τ ρ A kk a) A) (hl : lv_has ls nL (lr ρ lv)) (hS : va_S A H0 H locs)
    (hkk : ∀ v σ', kk v σ' → Gd p l e R s m args below meth c cells slots Z nL D ρ τ A H0 (pc + 3) lv (v.toList ++ rest) σ') : W p l e R s m args below meth c H locs cells slots Z (F0 m pc ls st0) := by
  intro U hU X
  obtain ⟨v, st₀, t, T', L, h0, X', hL, e1, e2, ⟨⟨v', σ', hv, hpost, hP', hK', hD'⟩, hF⟩, st⟩ := hr U hU X
  have hv : v = v'.map (rv ρ) := by cases hv; rfl
  subst hv
  have hz := hF.1
  have hq := hF.2
  rw [h0] at hz hq
  have hS' : va_S A H0 T'.heap (locs ++ L) := ⟨Nat.le_trans hS.1 (by rw [e1]; exact hz), fun q h1 h2 => by rw [e1, hq q (Nat.lt_of_lt_of_le h1 hS.1) h2]; exact hS.2.1 q h1 h2, fun q hq => by
    rcases List.mem_append.mp hq with h | h
    · exact hS.2.2 q h
    · exact hL q h⟩
  have key := hkk v' σ' hpost T'.heap (locs ++ L) ls hl (by rw [e1]; exact hP') hD' hS'
  have est : (v'.toList ++ rest).map (rv ρ) = (v'.map (rv ρ)).toList ++ rest.map (rv ρ) := by cases v' <;> simp
  rw [est] at key
  obtain ⟨t2, a1, b1⟩ := key T' rfl X'
  exact ⟨t2, st t2 a1, b1⟩
theorem ce_S (hOK : OK l y bytes maxL ret lv2 T) (h1 : Cond.methodLink own idx y ∈ lw_all) (h2 : Cond.static y ∈ lw_all) (h3 : Cond.initialized y.cls ∈ lw_all) (h4 : Cond.code y bytes maxL ret ∈ lw_all)
    (hd : y.cls ≠ "java/lang/invoke/MethodHandle" ∧ y.cls ≠ "java/lang/invoke/VarHandle" ∧ (parseMethodDescriptor y.desc).map (fun d => d.parameters.length) = some n) (hR : lv2 + 1 ≤ lvl ∧ 8 + (maxL + 11) + 48 * lv2 ≤ 48 * lvl) {CE : List (Nat × Nat × Tr)} (hCE : CEok l own lvl CE) : CEok l own lvl ((2 * idx, n, T) :: CE) := by
  intro q hq
  rcases List.mem_cons.mp hq with rfl | hq
  · intro p e R s m args below meth c cells slots Z cc nL D ρ τ A H0 F hRf hRl hRc hRs
    obtain ⟨hx, hb, hml, hown, hts, hK⟩ := F
    intro ins pc as σ kk lv rest hins hdg hlen hT hroom hkk H locs ls hl hP hD hS
    have hins : ins = .invokestatic idx := by
      obtain ⟨i, ⟨a1, a2⟩ | ⟨a1, a2⟩⟩ := hins
      · have : i = idx := by simp at a2; omega
        rw [a1, this]
      · simp at a2; omega
    subst hins
    have hM := hOK D τ ρ A as σ kk hT
    have est : (as.reverse ++ rest).map (rv ρ) = (as.map (rv ρ)).reverse ++ rest.map (rv ρ) := by simp
    rw [est]
    refine call_end (va_runS (As := as.map (rv ρ)) (rest := rest.map (rv ρ)) (n := n) ⟨hx, hb, hml, hown, hts⟩ hM (va_cwS n hts ?_ rfl rfl rfl hd ⟨?_, ?_⟩) ⟨PW_blind D τ ρ A as σ, fun U hU hW => ⟨rfl, by rw [hU]; exact hP, va_K.moved hW.alike hK, hD⟩⟩ rfl (by rw [List.length_map]; exact hlen) hl.1 rfl (lv_room (by rw [List.map_map]; exact Nat.le_trans (Nat.le_of_eq (congrArg List.sum (List.map_congr_left fun v _ => rv_cat ρ v))) hroom)) hdg ⟨hRc, hRs⟩) hl hS hkk
    · intro w hw
      have : w ∈ lw_all := by
        simp only [va_wsS, List.cons_append, List.nil_append, List.mem_cons] at hw
        rcases hw with rfl | rfl | rfl | rfl | hw
        · exact h1
        · exact h2
        · exact h3
        · exact h4
        · exact hw
      exact ⟨this, good_of_word (lw_all_good this)⟩
    · exact Nat.le_trans hR.1 hRf
    · exact Nat.le_trans hR.2 hRl
  · exact hCE q hq
theorem ce_V {ci : Nat} {C : vw_C} (hc : cl0[ci]? = some C) (hOK : OK l y bytes maxL ret lv2 T) (hrc : ∀ as σ kk, T as σ kk → ∃ a r fs, as = .ref a :: r ∧ σ[a]? = some (.inr (ci, fs))) (h1 : Cond.methodLink own idx y ∈ lw_all) (h2 : Cond.instanceMethod y ∈ lw_all) (h5 : Cond.selects C.1 y y ∈ lw_all) (h3 : Cond.initialized C.1 ∈ lw_all) (h4 : Cond.code y bytes maxL ret ∈ lw_all) (hyc : y.cls = C.1)
    (hd : y.cls ≠ "java/lang/invoke/MethodHandle" ∧ y.cls ≠ "java/lang/invoke/VarHandle" ∧ (parseMethodDescriptor y.desc).map (fun d => d.parameters.length) = some n) (hR : lv2 + 1 ≤ lvl ∧ 8 + (maxL + 11) + 48 * lv2 ≤ 48 * lvl) {CE : List (Nat × Nat × Tr)} (hCE : CEok l own lvl CE) : CEok l own lvl ((2 * idx + 1, n + 1, T) :: CE) := by
  intro q hq
  rcases List.mem_cons.mp hq with rfl | hq
  · intro p e R s m args below meth c cells slots Z cc nL D ρ τ A H0 F hRf hRl hRc hRs
    obtain ⟨hx, hb, hml, hown, hts, hK⟩ := F
    intro ins pc as σ kk lv rest hins hdg hlen hT hroom hkk H locs ls hl hP hD hS
    have hins : ins = .invokevirtual idx := by
      obtain ⟨i, ⟨a1, a2⟩ | ⟨a1, a2⟩⟩ := hins
      · simp at a2; omega
      · have : i = idx := by simp at a2; omega
        rw [a1, this]
    subst hins
    have hM := hOK D τ ρ A as σ kk hT
    obtain ⟨a, r, fs, rfl, hfs⟩ := hrc as σ kk hT
    have est : ((.ref a :: r).reverse ++ rest).map (rv ρ) = (r.map (rv ρ)).reverse ++ .ref (ρ a) :: rest.map (rv ρ) := by simp [rv]
    rw [est]
    refine call_end (va_runV (C := C.1) (As := r.map (rv ρ)) (rest := rest.map (rv ρ)) (n := n) (b := ρ a) ⟨hx, hb, hml, hown, hts⟩ hM (cwV n hts ?_ rfl rfl rfl ⟨hyc, hd⟩ ⟨?_, ?_⟩) ⟨PW_blind D τ ρ A (.ref a :: r) σ, va_recv hK hP hc (wl_get ρ τ σ hfs), fun U hU hW => ⟨rfl, by rw [hU]; exact hP, va_K.moved hW.alike hK, hD⟩⟩ rfl (by rw [List.length_map]; simp at hlen; exact hlen) hl.1 rfl (lv_room (by rw [List.map_map]; exact Nat.le_trans (Nat.le_of_eq (congrArg List.sum (List.map_congr_left fun v _ => rv_cat ρ v))) hroom)) hdg ⟨hRc, hRs⟩) hl hS hkk
    · intro w hw
      have : w ∈ lw_all := by
        simp only [wsV, List.cons_append, List.nil_append, List.mem_cons] at hw
        rcases hw with rfl | rfl | rfl | rfl | rfl | hw
        · exact h1
        · exact h2
        · exact h5
        · exact h3
        · exact h4
        · exact hw
      exact ⟨this, good_of_word (lw_all_good this)⟩
    · exact Nat.le_trans hR.1 hRf
    · exact Nat.le_trans hR.2 hRl
  · exact hCE q hq
theorem ce_0 : CEok l own lvl [] := fun q hq => absurd hq List.not_mem_nil
theorem isRet_v {ins : Instr} (h : isRet ins none) : ins = .return_ := by cases ins <;> first | rfl | exact h.elim
theorem isRet_i {ins : Instr} {x : Int32} (h : isRet ins (some (.int x))) : ins = .ireturn := by cases ins <;> first | rfl | exact h.elim
theorem isRet_l {ins : Instr} {x : Int64} (h : isRet ins (some (.long x))) : ins = .lreturn := by cases ins <;> first | rfl | exact h.elim
theorem isRet_d {ins : Instr} {x : UInt64} (h : isRet ins (some (.double x))) : ins = .dreturn := by cases ins <;> first | rfl | exact h.elim
theorem rFit_v {ret : Option FieldType} (h : rFit ret none) : ret = none := by
  cases ret with
  | none => rfl
  | some t => cases t <;> exact h.elim
theorem rFit_i {ret : Option FieldType} {x : Int32} (h : rFit ret (some (.int x))) : ret = some .int ∨ (ret = some .boolean ∧ (x = 0 ∨ x = 1)) := by
  cases ret with
  | none => exact h.elim
  | some t => cases t <;> first | exact Or.inl rfl | exact Or.inr ⟨rfl, h⟩ | exact h.elim
theorem rFit_l {ret : Option FieldType} {x : Int64} (h : rFit ret (some (.long x))) : ret = some .long := by
  cases ret with
  | none => exact h.elim
  | some t => cases t <;> first | rfl | exact h.elim
theorem rFit_d {ret : Option FieldType} {x : UInt64} (h : rFit ret (some (.double x))) : ret = some .double := by
  cases ret with
  | none => exact h.elim
  | some t => cases t <;> first | rfl | exact h.elim
/-- A METHOD OUT OF ITS BODY -/
theorem met_of {P : List En} {CE : List (Nat × Nat × Tr)} {cut : List (Nat × List Nat)} (hy : plainName y.cls = true) (hchk : P.all (chk bytes maxL y.cls) = true) (hCE : CEok l y.cls lvl CE) {D : va_G} {τ : Nat → ClassId} {ρ : Nat → Nat} {A : Nat → Prop} {as : List Value} {σ : aS} {post : Option Value → aS → Prop} (hlen : (lg_sl (as.map (rv ρ))).length ≤ maxL) (hB : Bd P CE cut (fun v σ => rFit ret v ∧ post v σ) as σ) : MetW l y bytes maxL ret lvl D τ ρ A as σ post := by
  refine Met.ofW (cc := bytes) (maxL := maxL) (ret := ret) hy rfl ?_
  intro p e s m args below meth c s₁ B hml hv
  obtain ⟨rfl, hP, hK, hD⟩ := hv
  have hx := B.exec
  have hb := B.bytes
  have hr := B.returns
  have hts := atoms_spec (ws := .code y bytes maxL ret :: lw_all) B.pre
  have hts : ∀ w ∈ lw_all, w.before _ s = true := fun w h => hts w (List.mem_cons_of_mem _ h)
  have hown : s.vm.findClass y.cls = some m.cls := findClass_of_methodNamed B.named
  have hlocks := B.notSynchronized
  have hl := lv_entry (as.map (rv ρ)) (n := maxL) hlen
  rw [lg_entry_eq]
  generalize (lg_sl (as.map (rv ρ)) ++ List.replicate (maxL - (lg_sl (as.map (rv ρ))).length) Slot.unset).toArray = ls at hl ⊢
  rw [← lr_args] at hl
  have F : Fx p m c bytes maxL s (as.map (rv ρ)).toArray y.cls D τ := ⟨hx, hb, hml, hown, hts, hK⟩
  refine hB (Gd p l e (headSpec (.code y bytes maxL ret :: lw_all) (rmL lvl)).room s m (as.map (rv ρ)).toArray below meth c 0 0 (MQ below (QW D τ ρ A post) (as.map (rv ρ)).toArray s 0 0 A) maxL D ρ τ A s.heap) (fun n b pc lv st σ h => seg_sound (Or.inl rfl) F hchk (fun q hq => hCE q hq F (Nat.le_refl _) (Nat.le_refl _) (Nat.zero_le _) (Nat.zero_le _)) ?_ n b pc lv st σ h) s.heap [] ls hl hP hD va_S.rf
  intro ins pc v σ lv hi hdg hq H locs ls hl hP hD hS
  obtain ⟨hfit, hq⟩ := hq
  have fin : ∀ t : State, t.heap = H → s.WarmedH t.vm → QW D τ ρ A post (as.map (rv ρ)).toArray s (.returned (v.map (rv ρ))) t := fun t ht hW => ⟨⟨v, σ, rfl, hq, by rw [ht]; exact hP, va_K.moved hW.alike hK, hD⟩, hS.F ht⟩
  cases v with
  | none =>
    have hi : ins = .return_ := isRet_v hi
    subst hi
    exact W.vret hx hb (hr.trans (rFit_v hfit)) fin hS.2.2 hdg
  | some v => cases v with
    | int x =>
      have hi : ins = .ireturn := isRet_i hi
      subst hi
      rcases rFit_i hfit with h | ⟨h, hf⟩
      · exact W.iret hx hb (hr.trans h) fin hS.2.2 hdg
      · exact W.zret (ty := .boolean) hx hb (hr.trans h) (by rcases hf with rfl | rfl <;> rfl) fin hS.2.2 hdg
    | long x =>
      have hi : ins = .lreturn := isRet_l hi
      subst hi
      exact W.lret hx hb (hr.trans (rFit_l hfit)) fin hS.2.2 hdg
    | double x =>
      have hi : ins = .dreturn := isRet_d hi
      subst hi
      exact W.dret hx hb (hr.trans (rFit_d hfit)) fin hS.2.2 hdg
    | _ => exact absurd hi (by cases ins <;> exact id)
end
end
section
def pgX1_told : List En := [(0, .lload_n 0, 1, 0, 0, .null, 0), (1, .invokestatic 7, 3, 0, 0, .null, 0), (4, .ifCond .eq 9, 3, 13, 0, .null, 0), (7, .ldc2_w 13, 3, 0, 0, .long 9221120237041090560, 179), (10, .goto 4, 3, 14, 0, .null, 0), (13, .lload_n 0, 1, 0, 0, .null, 0), (14, .lreturn, 1, 0, 0, .null, 0)]
theorem kkX1_told : pgX1_told.all (chk cX1_told 2 yX1_told.cls) = true := by decide +kernel
def pgX1_ofThree : List En := [(0, .iload_n 0, 1, 0, 0, .null, 0), (1, .ifCond .ne 7, 3, 8, 0, .null, 0), (4, .lload_n 1, 1, 1, 0, .null, 0), (5, .goto 14, 3, 19, 0, .null, 0), (8, .iload_n 0, 1, 0, 0, .null, 0), (9, .iconst 1, 1, 0, 0, .int 1, 0), (10, .if_icmp .ne 7, 3, 17, 0, .null, 0), (13, .lload_n 3, 1, 3, 0, .null, 0), (14, .goto 5, 3, 19, 0, .null, 0), (17, .lload 5, 2, 0, 0, .null, 0), (19, .lreturn, 1, 0, 0, .null, 0)]
theorem kkX1_ofThree : pgX1_ofThree.all (chk cX1_ofThree 7 yX1_ofThree.cls) = true := by decide +kernel
def pgX1_isNone : List En := [(0, .lload_n 0, 1, 0, 0, .null, 0), (1, .ldc2_w 15, 3, 0, 0, .long 9223372036854775807, 131), (4, .land, 1, 0, 0, .null, 0), (5, .ldc2_w 17, 3, 0, 0, .long 9218868437227405312, 132), (8, .lcmp, 1, 0, 0, .null, 0), (9, .ifCond .le 7, 3, 16, 0, .null, 0), (12, .iconst 1, 1, 0, 0, .int 1, 0), (13, .goto 4, 3, 17, 0, .null, 0), (16, .iconst 0, 1, 0, 0, .int 0, 0), (17, .ireturn, 1, 0, 0, .null, 0)]
theorem kkX1_isNone : pgX1_isNone.all (chk cX1_isNone 2 yX1_isNone.cls) = true := by decide +kernel
def pgX1_isFinite : List En := [(0, .lload_n 0, 1, 0, 0, .null, 0), (1, .ldc2_w 15, 3, 0, 0, .long 9223372036854775807, 131), (4, .land, 1, 0, 0, .null, 0), (5, .ldc2_w 17, 3, 0, 0, .long 9218868437227405312, 132), (8, .lcmp, 1, 0, 0, .null, 0), (9, .ifCond .ge 7, 3, 16, 0, .null, 0), (12, .iconst 1, 1, 0, 0, .int 1, 0), (13, .goto 4, 3, 17, 0, .null, 0), (16, .iconst 0, 1, 0, 0, .int 0, 0), (17, .ireturn, 1, 0, 0, .null, 0)]
theorem kkX1_isFinite : pgX1_isFinite.all (chk cX1_isFinite 2 yX1_isFinite.cls) = true := by decide +kernel
def pgX1_isInfinite : List En := [(0, .lload_n 0, 1, 0, 0, .null, 0), (1, .ldc2_w 15, 3, 0, 0, .long 9223372036854775807, 131), (4, .land, 1, 0, 0, .null, 0), (5, .ldc2_w 17, 3, 0, 0, .long 9218868437227405312, 132), (8, .lcmp, 1, 0, 0, .null, 0), (9, .ifCond .ne 7, 3, 16, 0, .null, 0), (12, .iconst 1, 1, 0, 0, .int 1, 0), (13, .goto 4, 3, 17, 0, .null, 0), (16, .iconst 0, 1, 0, 0, .int 0, 0), (17, .ireturn, 1, 0, 0, .null, 0)]
theorem kkX1_isInfinite : pgX1_isInfinite.all (chk cX1_isInfinite 2 yX1_isInfinite.cls) = true := by decide +kernel
def pgX1_isZero : List En := [(0, .lload_n 0, 1, 0, 0, .null, 0), (1, .ldc2_w 15, 3, 0, 0, .long 9223372036854775807, 131), (4, .land, 1, 0, 0, .null, 0), (5, .lconst 0, 1, 0, 0, .long 0, 0), (6, .lcmp, 1, 0, 0, .null, 0), (7, .ifCond .ne 7, 3, 14, 0, .null, 0), (10, .iconst 1, 1, 0, 0, .int 1, 0), (11, .goto 4, 3, 15, 0, .null, 0), (14, .iconst 0, 1, 0, 0, .int 0, 0), (15, .ireturn, 1, 0, 0, .null, 0)]
theorem kkX1_isZero : pgX1_isZero.all (chk cX1_isZero 2 yX1_isZero.cls) = true := by decide +kernel
def pgX1_rank : List En := [(0, .lload_n 0, 1, 0, 0, .null, 0), (1, .lconst 0, 1, 0, 0, .long 0, 0), (2, .lcmp, 1, 0, 0, .null, 0), (3, .ifCond .lt 7, 3, 10, 0, .null, 0), (6, .lload_n 0, 1, 0, 0, .null, 0), (7, .goto 8, 3, 15, 0, .null, 0), (10, .ldc2_w 19, 3, 0, 0, .long (-9223372036854775808), 142), (13, .lload_n 0, 1, 0, 0, .null, 0), (14, .lsub, 1, 0, 0, .null, 0), (15, .lreturn, 1, 0, 0, .null, 0)]
theorem kkX1_rank : pgX1_rank.all (chk cX1_rank 2 yX1_rank.cls) = true := by decide +kernel
def pgX1_isBelow : List En := [(0, .lload_n 0, 1, 0, 0, .null, 0), (1, .invokestatic 7, 3, 0, 0, .null, 0), (4, .ifCond .ne 26, 3, 30, 0, .null, 0), (7, .lload_n 2, 1, 2, 0, .null, 0), (8, .invokestatic 7, 3, 0, 0, .null, 0), (11, .ifCond .ne 19, 3, 30, 0, .null, 0), (14, .lload_n 0, 1, 0, 0, .null, 0), (15, .invokestatic 21, 3, 0, 0, .null, 0), (18, .lload_n 2, 1, 2, 0, .null, 0), (19, .invokestatic 21, 3, 0, 0, .null, 0), (22, .lcmp, 1, 0, 0, .null, 0), (23, .ifCond .ge 7, 3, 30, 0, .null, 0), (26, .iconst 1, 1, 0, 0, .int 1, 0), (27, .goto 4, 3, 31, 0, .null, 0), (30, .iconst 0, 1, 0, 0, .int 0, 0), (31, .ireturn, 1, 0, 0, .null, 0)]
theorem kkX1_isBelow : pgX1_isBelow.all (chk cX1_isBelow 4 yX1_isBelow.cls) = true := by decide +kernel
def pgX1_isFromTo : List En := [(0, .lload_n 0, 1, 0, 0, .null, 0), (1, .invokestatic 7, 3, 0, 0, .null, 0), (4, .ifCond .ne 32, 3, 36, 0, .null, 0), (7, .lload_n 2, 1, 2, 0, .null, 0), (8, .invokestatic 21, 3, 0, 0, .null, 0), (11, .lload_n 0, 1, 0, 0, .null, 0), (12, .invokestatic 21, 3, 0, 0, .null, 0), (15, .lcmp, 1, 0, 0, .null, 0), (16, .ifCond .gt 20, 3, 36, 0, .null, 0), (19, .lload_n 0, 1, 0, 0, .null, 0), (20, .invokestatic 21, 3, 0, 0, .null, 0), (23, .lload 4, 2, 0, 0, .null, 0), (25, .invokestatic 21, 3, 0, 0, .null, 0), (28, .lcmp, 1, 0, 0, .null, 0), (29, .ifCond .gt 7, 3, 36, 0, .null, 0), (32, .iconst 1, 1, 0, 0, .int 1, 0), (33, .goto 4, 3, 37, 0, .null, 0), (36, .iconst 0, 1, 0, 0, .int 0, 0), (37, .ireturn, 1, 0, 0, .null, 0)]
theorem kkX1_isFromTo : pgX1_isFromTo.all (chk cX1_isFromTo 6 yX1_isFromTo.cls) = true := by decide +kernel
def pgX1_strictRank : List En := [(0, .lload_n 0, 1, 0, 0, .null, 0), (1, .lconst 0, 1, 0, 0, .long 0, 0), (2, .lcmp, 1, 0, 0, .null, 0), (3, .ifCond .lt 7, 3, 10, 0, .null, 0), (6, .lload_n 0, 1, 0, 0, .null, 0), (7, .goto 12, 3, 19, 0, .null, 0), (10, .lload_n 0, 1, 0, 0, .null, 0), (11, .ldc2_w 15, 3, 0, 0, .long 9223372036854775807, 131), (14, .land, 1, 0, 0, .null, 0), (15, .ldc2_w 25, 3, 0, 0, .long (-1), 288), (18, .lxor, 1, 0, 0, .null, 0), (19, .lreturn, 1, 0, 0, .null, 0)]
theorem kkX1_strictRank : pgX1_strictRank.all (chk cX1_strictRank 2 yX1_strictRank.cls) = true := by decide +kernel
def pgX1_lesser : List En := [(0, .lload_n 0, 1, 0, 0, .null, 0), (1, .invokestatic 7, 3, 0, 0, .null, 0), (4, .ifCond .ne 10, 3, 14, 0, .null, 0), (7, .lload_n 2, 1, 2, 0, .null, 0), (8, .invokestatic 7, 3, 0, 0, .null, 0), (11, .ifCond .eq 7, 3, 18, 0, .null, 0), (14, .ldc2_w 13, 3, 0, 0, .long 9221120237041090560, 179), (17, .lreturn, 1, 0, 0, .null, 0), (18, .lload_n 0, 1, 0, 0, .null, 0), (19, .invokestatic 27, 3, 0, 0, .null, 0), (22, .lload_n 2, 1, 2, 0, .null, 0), (23, .invokestatic 27, 3, 0, 0, .null, 0), (26, .lcmp, 1, 0, 0, .null, 0), (27, .ifCond .gt 7, 3, 34, 0, .null, 0), (30, .lload_n 0, 1, 0, 0, .null, 0), (31, .goto 4, 3, 35, 0, .null, 0), (34, .lload_n 2, 1, 2, 0, .null, 0), (35, .lreturn, 1, 0, 0, .null, 0)]
theorem kkX1_lesser : pgX1_lesser.all (chk cX1_lesser 4 yX1_lesser.cls) = true := by decide +kernel
def pgX1_greater : List En := [(0, .lload_n 0, 1, 0, 0, .null, 0), (1, .invokestatic 7, 3, 0, 0, .null, 0), (4, .ifCond .ne 10, 3, 14, 0, .null, 0), (7, .lload_n 2, 1, 2, 0, .null, 0), (8, .invokestatic 7, 3, 0, 0, .null, 0), (11, .ifCond .eq 7, 3, 18, 0, .null, 0), (14, .ldc2_w 13, 3, 0, 0, .long 9221120237041090560, 179), (17, .lreturn, 1, 0, 0, .null, 0), (18, .lload_n 0, 1, 0, 0, .null, 0), (19, .invokestatic 27, 3, 0, 0, .null, 0), (22, .lload_n 2, 1, 2, 0, .null, 0), (23, .invokestatic 27, 3, 0, 0, .null, 0), (26, .lcmp, 1, 0, 0, .null, 0), (27, .ifCond .lt 7, 3, 34, 0, .null, 0), (30, .lload_n 0, 1, 0, 0, .null, 0), (31, .goto 4, 3, 35, 0, .null, 0), (34, .lload_n 2, 1, 2, 0, .null, 0), (35, .lreturn, 1, 0, 0, .null, 0)]
theorem kkX1_greater : pgX1_greater.all (chk cX1_greater 4 yX1_greater.cls) = true := by decide +kernel
def pgX1_zeroIfLess : List En := [(0, .lload_n 0, 1, 0, 0, .null, 0), (1, .invokestatic 7, 3, 0, 0, .null, 0), (4, .ifCond .ne 11, 3, 15, 0, .null, 0), (7, .lload_n 0, 1, 0, 0, .null, 0), (8, .lconst 0, 1, 0, 0, .long 0, 0), (9, .invokestatic 30, 3, 0, 0, .null, 0), (12, .ifCond .eq 7, 3, 19, 0, .null, 0), (15, .lconst 0, 1, 0, 0, .long 0, 0), (16, .goto 4, 3, 20, 0, .null, 0), (19, .lload_n 0, 1, 0, 0, .null, 0), (20, .lreturn, 1, 0, 0, .null, 0)]
theorem kkX1_zeroIfLess : pgX1_zeroIfLess.all (chk cX1_zeroIfLess 2 yX1_zeroIfLess.cls) = true := by decide +kernel
def pgX1_oneIfMore : List En := [(0, .lload_n 0, 1, 0, 0, .null, 0), (1, .invokestatic 7, 3, 0, 0, .null, 0), (4, .ifCond .ne 13, 3, 17, 0, .null, 0), (7, .ldc2_w 34, 3, 0, 0, .long 4607182418800017408, 343), (10, .lload_n 0, 1, 0, 0, .null, 0), (11, .invokestatic 30, 3, 0, 0, .null, 0), (14, .ifCond .eq 9, 3, 23, 0, .null, 0), (17, .ldc2_w 34, 3, 0, 0, .long 4607182418800017408, 343), (20, .goto 4, 3, 24, 0, .null, 0), (23, .lload_n 0, 1, 0, 0, .null, 0), (24, .lreturn, 1, 0, 0, .null, 0)]
theorem kkX1_oneIfMore : pgX1_oneIfMore.all (chk cX1_oneIfMore 2 yX1_oneIfMore.cls) = true := by decide +kernel
def pgX1_opposite : List En := [(0, .lload_n 0, 1, 0, 0, .null, 0), (1, .invokestatic 7, 3, 0, 0, .null, 0), (4, .ifCond .eq 9, 3, 13, 0, .null, 0), (7, .ldc2_w 13, 3, 0, 0, .long 9221120237041090560, 179), (10, .goto 8, 3, 18, 0, .null, 0), (13, .lload_n 0, 1, 0, 0, .null, 0), (14, .ldc2_w 19, 3, 0, 0, .long (-9223372036854775808), 142), (17, .lxor, 1, 0, 0, .null, 0), (18, .lreturn, 1, 0, 0, .null, 0)]
theorem kkX1_opposite : pgX1_opposite.all (chk cX1_opposite 2 yX1_opposite.cls) = true := by decide +kernel
def pgX1_size : List En := [(0, .lload_n 0, 1, 0, 0, .null, 0), (1, .invokestatic 7, 3, 0, 0, .null, 0), (4, .ifCond .eq 9, 3, 13, 0, .null, 0), (7, .ldc2_w 13, 3, 0, 0, .long 9221120237041090560, 179), (10, .goto 8, 3, 18, 0, .null, 0), (13, .lload_n 0, 1, 0, 0, .null, 0), (14, .ldc2_w 15, 3, 0, 0, .long 9223372036854775807, 131), (17, .land, 1, 0, 0, .null, 0), (18, .lreturn, 1, 0, 0, .null, 0)]
theorem kkX1_size : pgX1_size.all (chk cX1_size 2 yX1_size.cls) = true := by decide +kernel
def pgX1_signum : List En := [(0, .lload_n 0, 1, 0, 0, .null, 0), (1, .invokestatic 7, 3, 0, 0, .null, 0), (4, .ifCond .ne 10, 3, 14, 0, .null, 0), (7, .lload_n 0, 1, 0, 0, .null, 0), (8, .invokestatic 36, 3, 0, 0, .null, 0), (11, .ifCond .eq 7, 3, 18, 0, .null, 0), (14, .lload_n 0, 1, 0, 0, .null, 0), (15, .goto 12, 3, 27, 0, .null, 0), (18, .lload_n 0, 1, 0, 0, .null, 0), (19, .ldc2_w 19, 3, 0, 0, .long (-9223372036854775808), 142), (22, .land, 1, 0, 0, .null, 0), (23, .ldc2_w 34, 3, 0, 0, .long 4607182418800017408, 343), (26, .lor, 1, 0, 0, .null, 0), (27, .lreturn, 1, 0, 0, .null, 0)]
theorem kkX1_signum : pgX1_signum.all (chk cX1_signum 2 yX1_signum.cls) = true := by decide +kernel
def pgX1_up : List En := [(0, .lload_n 0, 1, 0, 0, .null, 0), (1, .invokestatic 7, 3, 0, 0, .null, 0), (4, .ifCond .ne 11, 3, 15, 0, .null, 0), (7, .lload_n 0, 1, 0, 0, .null, 0), (8, .ldc2_w 17, 3, 0, 0, .long 9218868437227405312, 132), (11, .lcmp, 1, 0, 0, .null, 0), (12, .ifCond .ne 5, 3, 17, 0, .null, 0), (15, .lload_n 0, 1, 0, 0, .null, 0), (16, .lreturn, 1, 0, 0, .null, 0), (17, .lload_n 0, 1, 0, 0, .null, 0), (18, .invokestatic 36, 3, 0, 0, .null, 0), (21, .ifCond .eq 5, 3, 26, 0, .null, 0), (24, .lconst 1, 1, 0, 0, .long 1, 0), (25, .lreturn, 1, 0, 0, .null, 0), (26, .lload_n 0, 1, 0, 0, .null, 0), (27, .lconst 0, 1, 0, 0, .long 0, 0), (28, .lcmp, 1, 0, 0, .null, 0), (29, .ifCond .le 9, 3, 38, 0, .null, 0), (32, .lload_n 0, 1, 0, 0, .null, 0), (33, .lconst 1, 1, 0, 0, .long 1, 0), (34, .ladd, 1, 0, 0, .null, 0), (35, .goto 6, 3, 41, 0, .null, 0), (38, .lload_n 0, 1, 0, 0, .null, 0), (39, .lconst 1, 1, 0, 0, .long 1, 0), (40, .lsub, 1, 0, 0, .null, 0), (41, .lreturn, 1, 0, 0, .null, 0)]
theorem kkX1_up : pgX1_up.all (chk cX1_up 2 yX1_up.cls) = true := by decide +kernel
def pgX1_down : List En := [(0, .lload_n 0, 1, 0, 0, .null, 0), (1, .invokestatic 39, 3, 0, 0, .null, 0), (4, .invokestatic 42, 3, 0, 0, .null, 0), (7, .invokestatic 39, 3, 0, 0, .null, 0), (10, .lreturn, 1, 0, 0, .null, 0)]
theorem kkX1_down : pgX1_down.all (chk cX1_down 2 yX1_down.cls) = true := by decide +kernel
def pgX1_scale : List En := [(0, .lload_n 0, 1, 0, 0, .null, 0), (1, .ldc2_w 17, 3, 0, 0, .long 9218868437227405312, 132), (4, .land, 1, 0, 0, .null, 0), (5, .bipush 52, 2, 0, 0, .int 52, 0), (7, .lushr, 1, 0, 0, .null, 0), (8, .l2i, 1, 0, 0, .null, 0), (9, .istore_n 2, 1, 2, 0, .null, 0), (10, .iload_n 2, 1, 2, 0, .null, 0), (11, .ifCond .ne 7, 3, 18, 0, .null, 0), (14, .iconst 1, 1, 0, 0, .int 1, 0), (15, .goto 4, 3, 19, 0, .null, 0), (18, .iload_n 2, 1, 2, 0, .null, 0), (19, .ireturn, 1, 0, 0, .null, 0)]
theorem kkX1_scale : pgX1_scale.all (chk cX1_scale 3 yX1_scale.cls) = true := by decide +kernel
def pgX1_fraction : List En := [(0, .lload_n 0, 1, 0, 0, .null, 0), (1, .ldc2_w 45, 3, 0, 0, .long 4503599627370495, 235), (4, .land, 1, 0, 0, .null, 0), (5, .lstore_n 2, 1, 2, 0, .null, 0), (6, .lload_n 0, 1, 0, 0, .null, 0), (7, .ldc2_w 17, 3, 0, 0, .long 9218868437227405312, 132), (10, .land, 1, 0, 0, .null, 0), (11, .lconst 0, 1, 0, 0, .long 0, 0), (12, .lcmp, 1, 0, 0, .null, 0), (13, .ifCond .ne 7, 3, 20, 0, .null, 0), (16, .lload_n 2, 1, 2, 0, .null, 0), (17, .goto 8, 3, 25, 0, .null, 0), (20, .lload_n 2, 1, 2, 0, .null, 0), (21, .ldc2_w 47, 3, 0, 0, .long 4503599627370496, 236), (24, .lor, 1, 0, 0, .null, 0), (25, .lreturn, 1, 0, 0, .null, 0)]
theorem kkX1_fraction : pgX1_fraction.all (chk cX1_fraction 4 yX1_fraction.cls) = true := by decide +kernel
def pgX1_lack : List En := [(0, .lload_n 0, 1, 0, 0, .null, 0), (1, .invokestatic 49, 3, 0, 0, .null, 0), (4, .bipush 11, 2, 0, 0, .int 11, 0), (6, .isub, 1, 0, 0, .null, 0), (7, .ireturn, 1, 0, 0, .null, 0)]
theorem kkX1_lack : pgX1_lack.all (chk cX1_lack 2 yX1_lack.cls) = true := by decide +kernel
def pgX1_moved : List En := [(0, .iload_n 2, 1, 2, 0, .null, 0), (1, .bipush 63, 2, 0, 0, .int 63, 0), (3, .if_icmp .lt 15, 3, 18, 0, .null, 0), (6, .lload_n 0, 1, 0, 0, .null, 0), (7, .lconst 0, 1, 0, 0, .long 0, 0), (8, .lcmp, 1, 0, 0, .null, 0), (9, .ifCond .ne 7, 3, 16, 0, .null, 0), (12, .lconst 0, 1, 0, 0, .long 0, 0), (13, .goto 4, 3, 17, 0, .null, 0), (16, .lconst 1, 1, 0, 0, .long 1, 0), (17, .lreturn, 1, 0, 0, .null, 0), (18, .lload_n 0, 1, 0, 0, .null, 0), (19, .iload_n 2, 1, 2, 0, .null, 0), (20, .lushr, 1, 0, 0, .null, 0), (21, .lstore_n 3, 1, 3, 0, .null, 0), (22, .lload_n 3, 1, 3, 0, .null, 0), (23, .iload_n 2, 1, 2, 0, .null, 0), (24, .lshl, 1, 0, 0, .null, 0), (25, .lload_n 0, 1, 0, 0, .null, 0), (26, .lcmp, 1, 0, 0, .null, 0), (27, .ifCond .ne 7, 3, 34, 0, .null, 0), (30, .lload_n 3, 1, 3, 0, .null, 0), (31, .goto 6, 3, 37, 0, .null, 0), (34, .lload_n 3, 1, 3, 0, .null, 0), (35, .lconst 1, 1, 0, 0, .long 1, 0), (36, .lor, 1, 0, 0, .null, 0), (37, .lreturn, 1, 0, 0, .null, 0)]
theorem kkX1_moved : pgX1_moved.all (chk cX1_moved 5 yX1_moved.cls) = true := by decide +kernel
def pgX1_packed : List En := [(0, .lload_n 3, 1, 3, 0, .null, 0), (1, .lconst 0, 1, 0, 0, .long 0, 0), (2, .lcmp, 1, 0, 0, .null, 0), (3, .ifCond .ne 5, 3, 8, 0, .null, 0), (6, .lload_n 0, 1, 0, 0, .null, 0), (7, .lreturn, 1, 0, 0, .null, 0), (8, .bipush 56, 2, 0, 0, .int 56, 0), (10, .istore 5, 2, 0, 0, .null, 0), (12, .bipush 64, 2, 0, 0, .int 64, 0), (14, .lload_n 3, 1, 3, 0, .null, 0), (15, .invokestatic 49, 3, 0, 0, .null, 0), (18, .isub, 1, 0, 0, .null, 0), (19, .iload 5, 2, 0, 0, .null, 0), (21, .isub, 1, 0, 0, .null, 0), (22, .istore 6, 2, 0, 0, .null, 0), (24, .iload 6, 2, 0, 0, .null, 0), (26, .iconst 1, 1, 0, 0, .int 1, 0), (27, .iload_n 2, 1, 2, 0, .null, 0), (28, .isub, 1, 0, 0, .null, 0), (29, .invokestatic 55, 3, 0, 0, .null, 0), (32, .istore 6, 2, 0, 0, .null, 0), (34, .iload_n 2, 1, 2, 0, .null, 0), (35, .iload 6, 2, 0, 0, .null, 0), (37, .iadd, 1, 0, 0, .null, 0), (38, .istore 7, 2, 0, 0, .null, 0), (40, .iload 7, 2, 0, 0, .null, 0), (42, .sipush 2046, 3, 0, 0, .int 2046, 0), (45, .if_icmp .le 9, 3, 54, 0, .null, 0), (48, .lload_n 0, 1, 0, 0, .null, 0), (49, .ldc2_w 17, 3, 0, 0, .long 9218868437227405312, 132), (52, .lor, 1, 0, 0, .null, 0), (53, .lreturn, 1, 0, 0, .null, 0), (54, .iload 6, 2, 0, 0, .null, 0), (56, .ifCond .lt 12, 3, 68, 0, .null, 0), (59, .lload_n 3, 1, 3, 0, .null, 0), (60, .iload 6, 2, 0, 0, .null, 0), (62, .invokestatic 61, 3, 0, 0, .null, 0), (65, .goto 8, 3, 73, 0, .null, 0), (68, .lload_n 3, 1, 3, 0, .null, 0), (69, .iload 6, 2, 0, 0, .null, 0), (71, .ineg, 1, 0, 0, .null, 0), (72, .lshl, 1, 0, 0, .null, 0), (73, .lstore 8, 2, 0, 0, .null, 0), (75, .lload 8, 2, 0, 0, .null, 0), (77, .iconst 3, 1, 0, 0, .int 3, 0), (78, .lushr, 1, 0, 0, .null, 0), (79, .lstore 10, 2, 0, 0, .null, 0), (81, .lload 8, 2, 0, 0, .null, 0), (83, .ldc2_w 65, 3, 0, 0, .long 7, 253), (86, .land, 1, 0, 0, .null, 0), (87, .lstore 12, 2, 0, 0, .null, 0), (89, .lload 12, 2, 0, 0, .null, 0), (91, .ldc2_w 67, 3, 0, 0, .long 4, 254), (94, .lcmp, 1, 0, 0, .null, 0), (95, .ifCond .gt 21, 3, 116, 0, .null, 0), (98, .lload 12, 2, 0, 0, .null, 0), (100, .ldc2_w 67, 3, 0, 0, .long 4, 254), (103, .lcmp, 1, 0, 0, .null, 0), (104, .ifCond .ne 18, 3, 122, 0, .null, 0), (107, .lload 10, 2, 0, 0, .null, 0), (109, .lconst 1, 1, 0, 0, .long 1, 0), (110, .land, 1, 0, 0, .null, 0), (111, .lconst 0, 1, 0, 0, .long 0, 0), (112, .lcmp, 1, 0, 0, .null, 0), (113, .ifCond .eq 9, 3, 122, 0, .null, 0), (116, .lload 10, 2, 0, 0, .null, 0), (118, .lconst 1, 1, 0, 0, .long 1, 0), (119, .ladd, 1, 0, 0, .null, 0), (120, .lstore 10, 2, 0, 0, .null, 0), (122, .lload_n 0, 1, 0, 0, .null, 0), (123, .iload 7, 2, 0, 0, .null, 0), (125, .iconst 1, 1, 0, 0, .int 1, 0), (126, .isub, 1, 0, 0, .null, 0), (127, .i2l, 1, 0, 0, .null, 0), (128, .bipush 52, 2, 0, 0, .int 52, 0), (130, .lshl, 1, 0, 0, .null, 0), (131, .lload 10, 2, 0, 0, .null, 0), (133, .ladd, 1, 0, 0, .null, 0), (134, .lor, 1, 0, 0, .null, 0), (135, .lreturn, 1, 0, 0, .null, 0)]
theorem kkX1_packed : pgX1_packed.all (chk cX1_packed 14 yX1_packed.cls) = true := by decide +kernel
def pgX1_plus : List En := [(0, .lload_n 0, 1, 0, 0, .null, 0), (1, .invokestatic 7, 3, 0, 0, .null, 0), (4, .ifCond .ne 10, 3, 14, 0, .null, 0), (7, .lload_n 2, 1, 2, 0, .null, 0), (8, .invokestatic 7, 3, 0, 0, .null, 0), (11, .ifCond .eq 7, 3, 18, 0, .null, 0), (14, .ldc2_w 13, 3, 0, 0, .long 9221120237041090560, 179), (17, .lreturn, 1, 0, 0, .null, 0), (18, .lload_n 0, 1, 0, 0, .null, 0), (19, .invokestatic 69, 3, 0, 0, .null, 0), (22, .ifCond .eq 21, 3, 43, 0, .null, 0), (25, .lload_n 2, 1, 2, 0, .null, 0), (26, .lload_n 0, 1, 0, 0, .null, 0), (27, .ldc2_w 19, 3, 0, 0, .long (-9223372036854775808), 142), (30, .lxor, 1, 0, 0, .null, 0), (31, .lcmp, 1, 0, 0, .null, 0), (32, .ifCond .ne 9, 3, 41, 0, .null, 0), (35, .ldc2_w 13, 3, 0, 0, .long 9221120237041090560, 179), (38, .goto 4, 3, 42, 0, .null, 0), (41, .lload_n 0, 1, 0, 0, .null, 0), (42, .lreturn, 1, 0, 0, .null, 0), (43, .lload_n 2, 1, 2, 0, .null, 0), (44, .invokestatic 69, 3, 0, 0, .null, 0), (47, .ifCond .eq 5, 3, 52, 0, .null, 0), (50, .lload_n 2, 1, 2, 0, .null, 0), (51, .lreturn, 1, 0, 0, .null, 0), (52, .lload_n 0, 1, 0, 0, .null, 0), (53, .ldc2_w 15, 3, 0, 0, .long 9223372036854775807, 131), (56, .land, 1, 0, 0, .null, 0), (57, .lload_n 2, 1, 2, 0, .null, 0), (58, .ldc2_w 15, 3, 0, 0, .long 9223372036854775807, 131), (61, .land, 1, 0, 0, .null, 0), (62, .lcmp, 1, 0, 0, .null, 0), (63, .ifCond .lt 7, 3, 70, 0, .null, 0), (66, .iconst 1, 1, 0, 0, .int 1, 0), (67, .goto 4, 3, 71, 0, .null, 0), (70, .iconst 0, 1, 0, 0, .int 0, 0), (71, .istore 4, 2, 0, 0, .null, 0), (73, .iload 4, 2, 0, 0, .null, 0), (75, .ifCond .eq 7, 3, 82, 0, .null, 0), (78, .lload_n 0, 1, 0, 0, .null, 0), (79, .goto 4, 3, 83, 0, .null, 0), (82, .lload_n 2, 1, 2, 0, .null, 0), (83, .lstore 5, 2, 0, 0, .null, 0), (85, .iload 4, 2, 0, 0, .null, 0), (87, .ifCond .eq 7, 3, 94, 0, .null, 0), (90, .lload_n 2, 1, 2, 0, .null, 0), (91, .goto 4, 3, 95, 0, .null, 0), (94, .lload_n 0, 1, 0, 0, .null, 0), (95, .lstore 7, 2, 0, 0, .null, 0), (97, .lload 5, 2, 0, 0, .null, 0), (99, .invokestatic 72, 3, 0, 0, .null, 0), (102, .istore 9, 2, 0, 0, .null, 0), (104, .lload 5, 2, 0, 0, .null, 0), (106, .invokestatic 75, 3, 0, 0, .null, 0), (109, .iconst 3, 1, 0, 0, .int 3, 0), (110, .lshl, 1, 0, 0, .null, 0), (111, .lstore 10, 2, 0, 0, .null, 0), (113, .lload 7, 2, 0, 0, .null, 0), (115, .invokestatic 75, 3, 0, 0, .null, 0), (118, .iconst 3, 1, 0, 0, .int 3, 0), (119, .lshl, 1, 0, 0, .null, 0), (120, .iload 9, 2, 0, 0, .null, 0), (122, .lload 7, 2, 0, 0, .null, 0), (124, .invokestatic 72, 3, 0, 0, .null, 0), (127, .isub, 1, 0, 0, .null, 0), (128, .invokestatic 61, 3, 0, 0, .null, 0), (131, .lstore 12, 2, 0, 0, .null, 0), (133, .lload_n 0, 1, 0, 0, .null, 0), (134, .lload_n 2, 1, 2, 0, .null, 0), (135, .lxor, 1, 0, 0, .null, 0), (136, .ldc2_w 19, 3, 0, 0, .long (-9223372036854775808), 142), (139, .land, 1, 0, 0, .null, 0), (140, .lconst 0, 1, 0, 0, .long 0, 0), (141, .lcmp, 1, 0, 0, .null, 0), (142, .ifCond .ne 19, 3, 161, 0, .null, 0), (145, .lload_n 0, 1, 0, 0, .null, 0), (146, .ldc2_w 19, 3, 0, 0, .long (-9223372036854775808), 142), (149, .land, 1, 0, 0, .null, 0), (150, .iload 9, 2, 0, 0, .null, 0), (152, .lload 10, 2, 0, 0, .null, 0), (154, .lload 12, 2, 0, 0, .null, 0), (156, .ladd, 1, 0, 0, .null, 0), (157, .invokestatic 78, 3, 0, 0, .null, 0), (160, .lreturn, 1, 0, 0, .null, 0), (161, .lload 10, 2, 0, 0, .null, 0), (163, .lload 12, 2, 0, 0, .null, 0), (165, .lcmp, 1, 0, 0, .null, 0), (166, .ifCond .ne 7, 3, 173, 0, .null, 0), (169, .lconst 0, 1, 0, 0, .long 0, 0), (170, .goto 19, 3, 189, 0, .null, 0), (173, .lload 5, 2, 0, 0, .null, 0), (175, .ldc2_w 19, 3, 0, 0, .long (-9223372036854775808), 142), (178, .land, 1, 0, 0, .null, 0), (179, .iload 9, 2, 0, 0, .null, 0), (181, .lload 10, 2, 0, 0, .null, 0), (183, .lload 12, 2, 0, 0, .null, 0), (185, .lsub, 1, 0, 0, .null, 0), (186, .invokestatic 78, 3, 0, 0, .null, 0), (189, .lreturn, 1, 0, 0, .null, 0)]
theorem kkX1_plus : pgX1_plus.all (chk cX1_plus 14 yX1_plus.cls) = true := by decide +kernel
def pgX1_times : List En := [(0, .lload_n 0, 1, 0, 0, .null, 0), (1, .invokestatic 7, 3, 0, 0, .null, 0), (4, .ifCond .ne 10, 3, 14, 0, .null, 0), (7, .lload_n 2, 1, 2, 0, .null, 0), (8, .invokestatic 7, 3, 0, 0, .null, 0), (11, .ifCond .eq 7, 3, 18, 0, .null, 0), (14, .ldc2_w 13, 3, 0, 0, .long 9221120237041090560, 179), (17, .lreturn, 1, 0, 0, .null, 0), (18, .lload_n 0, 1, 0, 0, .null, 0), (19, .lload_n 2, 1, 2, 0, .null, 0), (20, .lxor, 1, 0, 0, .null, 0), (21, .ldc2_w 19, 3, 0, 0, .long (-9223372036854775808), 142), (24, .land, 1, 0, 0, .null, 0), (25, .lstore 4, 2, 0, 0, .null, 0), (27, .lload_n 0, 1, 0, 0, .null, 0), (28, .invokestatic 69, 3, 0, 0, .null, 0), (31, .ifCond .ne 10, 3, 41, 0, .null, 0), (34, .lload_n 2, 1, 2, 0, .null, 0), (35, .invokestatic 69, 3, 0, 0, .null, 0), (38, .ifCond .eq 30, 3, 68, 0, .null, 0), (41, .lload_n 0, 1, 0, 0, .null, 0), (42, .invokestatic 36, 3, 0, 0, .null, 0), (45, .ifCond .ne 10, 3, 55, 0, .null, 0), (48, .lload_n 2, 1, 2, 0, .null, 0), (49, .invokestatic 36, 3, 0, 0, .null, 0), (52, .ifCond .eq 9, 3, 61, 0, .null, 0), (55, .ldc2_w 13, 3, 0, 0, .long 9221120237041090560, 179), (58, .goto 9, 3, 67, 0, .null, 0), (61, .lload 4, 2, 0, 0, .null, 0), (63, .ldc2_w 17, 3, 0, 0, .long 9218868437227405312, 132), (66, .lor, 1, 0, 0, .null, 0), (67, .lreturn, 1, 0, 0, .null, 0), (68, .lload_n 0, 1, 0, 0, .null, 0), (69, .invokestatic 36, 3, 0, 0, .null, 0), (72, .ifCond .ne 10, 3, 82, 0, .null, 0), (75, .lload_n 2, 1, 2, 0, .null, 0), (76, .invokestatic 36, 3, 0, 0, .null, 0), (79, .ifCond .eq 6, 3, 85, 0, .null, 0), (82, .lload 4, 2, 0, 0, .null, 0), (84, .lreturn, 1, 0, 0, .null, 0), (85, .lload_n 0, 1, 0, 0, .null, 0), (86, .invokestatic 75, 3, 0, 0, .null, 0), (89, .invokestatic 82, 3, 0, 0, .null, 0), (92, .istore 6, 2, 0, 0, .null, 0), (94, .lload_n 2, 1, 2, 0, .null, 0), (95, .invokestatic 75, 3, 0, 0, .null, 0), (98, .invokestatic 82, 3, 0, 0, .null, 0), (101, .istore 7, 2, 0, 0, .null, 0), (103, .lload_n 0, 1, 0, 0, .null, 0), (104, .invokestatic 75, 3, 0, 0, .null, 0), (107, .iload 6, 2, 0, 0, .null, 0), (109, .lshl, 1, 0, 0, .null, 0), (110, .lload_n 2, 1, 2, 0, .null, 0), (111, .invokestatic 75, 3, 0, 0, .null, 0), (114, .iload 7, 2, 0, 0, .null, 0), (116, .lshl, 1, 0, 0, .null, 0), (117, .invokestatic 85, 3, 0, 0, .null, 0), (120, .lstore 8, 2, 0, 0, .null, 0), (122, .lload 4, 2, 0, 0, .null, 0), (124, .lload_n 0, 1, 0, 0, .null, 0), (125, .invokestatic 72, 3, 0, 0, .null, 0), (128, .iload 6, 2, 0, 0, .null, 0), (130, .isub, 1, 0, 0, .null, 0), (131, .lload_n 2, 1, 2, 0, .null, 0), (132, .invokestatic 72, 3, 0, 0, .null, 0), (135, .iadd, 1, 0, 0, .null, 0), (136, .iload 7, 2, 0, 0, .null, 0), (138, .isub, 1, 0, 0, .null, 0), (139, .sipush 1023, 3, 0, 0, .int 1023, 0), (142, .isub, 1, 0, 0, .null, 0), (143, .lload 8, 2, 0, 0, .null, 0), (145, .invokestatic 78, 3, 0, 0, .null, 0), (148, .lreturn, 1, 0, 0, .null, 0)]
theorem kkX1_times : pgX1_times.all (chk cX1_times 10 yX1_times.cls) = true := by decide +kernel
def pgX1_topOfProduct : List En := [(0, .bipush 27, 2, 0, 0, .int 27, 0), (2, .istore 4, 2, 0, 0, .null, 0), (4, .lconst 1, 1, 0, 0, .long 1, 0), (5, .iload 4, 2, 0, 0, .null, 0), (7, .lshl, 1, 0, 0, .null, 0), (8, .lconst 1, 1, 0, 0, .long 1, 0), (9, .lsub, 1, 0, 0, .null, 0), (10, .lstore 5, 2, 0, 0, .null, 0), (12, .lload_n 0, 1, 0, 0, .null, 0), (13, .iload 4, 2, 0, 0, .null, 0), (15, .lushr, 1, 0, 0, .null, 0), (16, .lstore 7, 2, 0, 0, .null, 0), (18, .lload_n 0, 1, 0, 0, .null, 0), (19, .lload 5, 2, 0, 0, .null, 0), (21, .land, 1, 0, 0, .null, 0), (22, .lstore 9, 2, 0, 0, .null, 0), (24, .lload_n 2, 1, 2, 0, .null, 0), (25, .iload 4, 2, 0, 0, .null, 0), (27, .lushr, 1, 0, 0, .null, 0), (28, .lstore 11, 2, 0, 0, .null, 0), (30, .lload_n 2, 1, 2, 0, .null, 0), (31, .lload 5, 2, 0, 0, .null, 0), (33, .land, 1, 0, 0, .null, 0), (34, .lstore 13, 2, 0, 0, .null, 0), (36, .lload 9, 2, 0, 0, .null, 0), (38, .lload 13, 2, 0, 0, .null, 0), (40, .lmul, 1, 0, 0, .null, 0), (41, .lstore 15, 2, 0, 0, .null, 0), (43, .lload 7, 2, 0, 0, .null, 0), (45, .lload 13, 2, 0, 0, .null, 0), (47, .lmul, 1, 0, 0, .null, 0), (48, .lload 9, 2, 0, 0, .null, 0), (50, .lload 11, 2, 0, 0, .null, 0), (52, .lmul, 1, 0, 0, .null, 0), (53, .ladd, 1, 0, 0, .null, 0), (54, .lload 15, 2, 0, 0, .null, 0), (56, .iload 4, 2, 0, 0, .null, 0), (58, .lushr, 1, 0, 0, .null, 0), (59, .ladd, 1, 0, 0, .null, 0), (60, .lstore 17, 2, 0, 0, .null, 0), (62, .lload 7, 2, 0, 0, .null, 0), (64, .lload 11, 2, 0, 0, .null, 0), (66, .lmul, 1, 0, 0, .null, 0), (67, .lload 17, 2, 0, 0, .null, 0), (69, .iload 4, 2, 0, 0, .null, 0), (71, .lushr, 1, 0, 0, .null, 0), (72, .ladd, 1, 0, 0, .null, 0), (73, .lstore 19, 2, 0, 0, .null, 0), (75, .lload 17, 2, 0, 0, .null, 0), (77, .lload 5, 2, 0, 0, .null, 0), (79, .land, 1, 0, 0, .null, 0), (80, .iload 4, 2, 0, 0, .null, 0), (82, .lshl, 1, 0, 0, .null, 0), (83, .lload 15, 2, 0, 0, .null, 0), (85, .lload 5, 2, 0, 0, .null, 0), (87, .land, 1, 0, 0, .null, 0), (88, .lor, 1, 0, 0, .null, 0), (89, .lstore 21, 2, 0, 0, .null, 0), (91, .lload 19, 2, 0, 0, .null, 0), (93, .iconst 5, 1, 0, 0, .int 5, 0), (94, .lshl, 1, 0, 0, .null, 0), (95, .lload 21, 2, 0, 0, .null, 0), (97, .bipush 49, 2, 0, 0, .int 49, 0), (99, .invokestatic 61, 3, 0, 0, .null, 0), (102, .lor, 1, 0, 0, .null, 0), (103, .lreturn, 1, 0, 0, .null, 0)]
theorem kkX1_topOfProduct : pgX1_topOfProduct.all (chk cX1_topOfProduct 23 yX1_topOfProduct.cls) = true := by decide +kernel
def pgX1_over : List En := [(0, .lload_n 0, 1, 0, 0, .null, 0), (1, .invokestatic 7, 3, 0, 0, .null, 0), (4, .ifCond .ne 10, 3, 14, 0, .null, 0), (7, .lload_n 2, 1, 2, 0, .null, 0), (8, .invokestatic 7, 3, 0, 0, .null, 0), (11, .ifCond .eq 7, 3, 18, 0, .null, 0), (14, .ldc2_w 13, 3, 0, 0, .long 9221120237041090560, 179), (17, .lreturn, 1, 0, 0, .null, 0), (18, .lload_n 0, 1, 0, 0, .null, 0), (19, .lload_n 2, 1, 2, 0, .null, 0), (20, .lxor, 1, 0, 0, .null, 0), (21, .ldc2_w 19, 3, 0, 0, .long (-9223372036854775808), 142), (24, .land, 1, 0, 0, .null, 0), (25, .lstore 4, 2, 0, 0, .null, 0), (27, .lload_n 0, 1, 0, 0, .null, 0), (28, .invokestatic 69, 3, 0, 0, .null, 0), (31, .ifCond .eq 23, 3, 54, 0, .null, 0), (34, .lload_n 2, 1, 2, 0, .null, 0), (35, .invokestatic 69, 3, 0, 0, .null, 0), (38, .ifCond .eq 9, 3, 47, 0, .null, 0), (41, .ldc2_w 13, 3, 0, 0, .long 9221120237041090560, 179), (44, .goto 9, 3, 53, 0, .null, 0), (47, .lload 4, 2, 0, 0, .null, 0), (49, .ldc2_w 17, 3, 0, 0, .long 9218868437227405312, 132), (52, .lor, 1, 0, 0, .null, 0), (53, .lreturn, 1, 0, 0, .null, 0), (54, .lload_n 2, 1, 2, 0, .null, 0), (55, .invokestatic 36, 3, 0, 0, .null, 0), (58, .ifCond .eq 23, 3, 81, 0, .null, 0), (61, .lload_n 0, 1, 0, 0, .null, 0), (62, .invokestatic 36, 3, 0, 0, .null, 0), (65, .ifCond .eq 9, 3, 74, 0, .null, 0), (68, .ldc2_w 13, 3, 0, 0, .long 9221120237041090560, 179), (71, .goto 9, 3, 80, 0, .null, 0), (74, .lload 4, 2, 0, 0, .null, 0), (76, .ldc2_w 17, 3, 0, 0, .long 9218868437227405312, 132), (79, .lor, 1, 0, 0, .null, 0), (80, .lreturn, 1, 0, 0, .null, 0), (81, .lload_n 0, 1, 0, 0, .null, 0), (82, .invokestatic 36, 3, 0, 0, .null, 0), (85, .ifCond .ne 10, 3, 95, 0, .null, 0), (88, .lload_n 2, 1, 2, 0, .null, 0), (89, .invokestatic 69, 3, 0, 0, .null, 0), (92, .ifCond .eq 6, 3, 98, 0, .null, 0), (95, .lload 4, 2, 0, 0, .null, 0), (97, .lreturn, 1, 0, 0, .null, 0), (98, .lload_n 0, 1, 0, 0, .null, 0), (99, .invokestatic 75, 3, 0, 0, .null, 0), (102, .invokestatic 82, 3, 0, 0, .null, 0), (105, .istore 6, 2, 0, 0, .null, 0), (107, .lload_n 2, 1, 2, 0, .null, 0), (108, .invokestatic 75, 3, 0, 0, .null, 0), (111, .invokestatic 82, 3, 0, 0, .null, 0), (114, .istore 7, 2, 0, 0, .null, 0), (116, .lload_n 0, 1, 0, 0, .null, 0), (117, .invokestatic 75, 3, 0, 0, .null, 0), (120, .iload 6, 2, 0, 0, .null, 0), (122, .lshl, 1, 0, 0, .null, 0), (123, .lload_n 2, 1, 2, 0, .null, 0), (124, .invokestatic 75, 3, 0, 0, .null, 0), (127, .iload 7, 2, 0, 0, .null, 0), (129, .lshl, 1, 0, 0, .null, 0), (130, .invokestatic 89, 3, 0, 0, .null, 0), (133, .lstore 8, 2, 0, 0, .null, 0), (135, .lload 4, 2, 0, 0, .null, 0), (137, .lload_n 0, 1, 0, 0, .null, 0), (138, .invokestatic 72, 3, 0, 0, .null, 0), (141, .iload 6, 2, 0, 0, .null, 0), (143, .isub, 1, 0, 0, .null, 0), (144, .lload_n 2, 1, 2, 0, .null, 0), (145, .invokestatic 72, 3, 0, 0, .null, 0), (148, .iload 7, 2, 0, 0, .null, 0), (150, .isub, 1, 0, 0, .null, 0), (151, .isub, 1, 0, 0, .null, 0), (152, .sipush 1023, 3, 0, 0, .int 1023, 0), (155, .iadd, 1, 0, 0, .null, 0), (156, .iconst 1, 1, 0, 0, .int 1, 0), (157, .isub, 1, 0, 0, .null, 0), (158, .lload 8, 2, 0, 0, .null, 0), (160, .invokestatic 78, 3, 0, 0, .null, 0), (163, .lreturn, 1, 0, 0, .null, 0)]
theorem kkX1_over : pgX1_over.all (chk cX1_over 10 yX1_over.cls) = true := by decide +kernel
def pgX1_quotient : List En := [(0, .lload_n 2, 1, 2, 0, .null, 0), (1, .lconst 0, 1, 0, 0, .long 0, 0), (2, .lcmp, 1, 0, 0, .null, 0), (3, .ifCond .gt 5, 3, 8, 0, .null, 0), (6, .lconst 0, 1, 0, 0, .long 0, 0), (7, .lreturn, 1, 0, 0, .null, 0), (8, .bipush 8, 2, 0, 0, .int 8, 0), (10, .istore 4, 2, 0, 0, .null, 0), (12, .lload_n 0, 1, 0, 0, .null, 0), (13, .lload_n 2, 1, 2, 0, .null, 0), (14, .ldiv, 1, 0, 0, .null, 0), (15, .lstore 5, 2, 0, 0, .null, 0), (17, .lload_n 0, 1, 0, 0, .null, 0), (18, .lload_n 2, 1, 2, 0, .null, 0), (19, .lrem, 1, 0, 0, .null, 0), (20, .lstore 7, 2, 0, 0, .null, 0), (22, .iconst 0, 1, 0, 0, .int 0, 0), (23, .istore 9, 2, 0, 0, .null, 0), (25, .iload 9, 2, 0, 0, .null, 0), (27, .bipush 7, 2, 0, 0, .int 7, 0), (29, .if_icmp .ge 34, 3, 63, 0, .null, 0), (32, .lload 7, 2, 0, 0, .null, 0), (34, .iload 4, 2, 0, 0, .null, 0), (36, .lshl, 1, 0, 0, .null, 0), (37, .lstore 7, 2, 0, 0, .null, 0), (39, .lload 5, 2, 0, 0, .null, 0), (41, .iload 4, 2, 0, 0, .null, 0), (43, .lshl, 1, 0, 0, .null, 0), (44, .lload 7, 2, 0, 0, .null, 0), (46, .lload_n 2, 1, 2, 0, .null, 0), (47, .ldiv, 1, 0, 0, .null, 0), (48, .lor, 1, 0, 0, .null, 0), (49, .lstore 5, 2, 0, 0, .null, 0), (51, .lload 7, 2, 0, 0, .null, 0), (53, .lload_n 2, 1, 2, 0, .null, 0), (54, .lrem, 1, 0, 0, .null, 0), (55, .lstore 7, 2, 0, 0, .null, 0), (57, .iinc 9 1, 3, 0, 0, .null, 0), (60, .goto (-35), 3, 25, 0, .null, 0), (63, .lload 7, 2, 0, 0, .null, 0), (65, .lconst 0, 1, 0, 0, .long 0, 0), (66, .lcmp, 1, 0, 0, .null, 0), (67, .ifCond .ne 8, 3, 75, 0, .null, 0), (70, .lload 5, 2, 0, 0, .null, 0), (72, .goto 7, 3, 79, 0, .null, 0), (75, .lload 5, 2, 0, 0, .null, 0), (77, .lconst 1, 1, 0, 0, .long 1, 0), (78, .lor, 1, 0, 0, .null, 0), (79, .lreturn, 1, 0, 0, .null, 0)]
theorem kkX1_quotient : pgX1_quotient.all (chk cX1_quotient 10 yX1_quotient.cls) = true := by decide +kernel
def pgX1_root : List En := [(0, .lload_n 0, 1, 0, 0, .null, 0), (1, .invokestatic 7, 3, 0, 0, .null, 0), (4, .ifCond .ne 18, 3, 22, 0, .null, 0), (7, .lload_n 0, 1, 0, 0, .null, 0), (8, .invokestatic 36, 3, 0, 0, .null, 0), (11, .ifCond .ne 11, 3, 22, 0, .null, 0), (14, .lload_n 0, 1, 0, 0, .null, 0), (15, .ldc2_w 17, 3, 0, 0, .long 9218868437227405312, 132), (18, .lcmp, 1, 0, 0, .null, 0), (19, .ifCond .ne 5, 3, 24, 0, .null, 0), (22, .lload_n 0, 1, 0, 0, .null, 0), (23, .lreturn, 1, 0, 0, .null, 0), (24, .lload_n 0, 1, 0, 0, .null, 0), (25, .lconst 0, 1, 0, 0, .long 0, 0), (26, .lcmp, 1, 0, 0, .null, 0), (27, .ifCond .ge 7, 3, 34, 0, .null, 0), (30, .ldc2_w 13, 3, 0, 0, .long 9221120237041090560, 179), (33, .lreturn, 1, 0, 0, .null, 0), (34, .lload_n 0, 1, 0, 0, .null, 0), (35, .invokestatic 75, 3, 0, 0, .null, 0), (38, .invokestatic 82, 3, 0, 0, .null, 0), (41, .istore_n 2, 1, 2, 0, .null, 0), (42, .lload_n 0, 1, 0, 0, .null, 0), (43, .invokestatic 75, 3, 0, 0, .null, 0), (46, .iload_n 2, 1, 2, 0, .null, 0), (47, .lshl, 1, 0, 0, .null, 0), (48, .lstore_n 3, 1, 3, 0, .null, 0), (49, .lload_n 0, 1, 0, 0, .null, 0), (50, .invokestatic 72, 3, 0, 0, .null, 0), (53, .iload_n 2, 1, 2, 0, .null, 0), (54, .isub, 1, 0, 0, .null, 0), (55, .sipush 1075, 3, 0, 0, .int 1075, 0), (58, .isub, 1, 0, 0, .null, 0), (59, .istore 5, 2, 0, 0, .null, 0), (61, .iload 5, 2, 0, 0, .null, 0), (63, .iconst 1, 1, 0, 0, .int 1, 0), (64, .iand, 1, 0, 0, .null, 0), (65, .ifCond .eq 10, 3, 75, 0, .null, 0), (68, .lload_n 3, 1, 3, 0, .null, 0), (69, .iconst 1, 1, 0, 0, .int 1, 0), (70, .lshl, 1, 0, 0, .null, 0), (71, .lstore_n 3, 1, 3, 0, .null, 0), (72, .iinc 5 (-1), 3, 0, 0, .null, 0), (75, .lconst 0, 1, 0, 0, .long 0, 0), (76, .iload 5, 2, 0, 0, .null, 0), (78, .iconst 1, 1, 0, 0, .int 1, 0), (79, .ishr, 1, 0, 0, .null, 0), (80, .sipush 1049, 3, 0, 0, .int 1049, 0), (83, .iadd, 1, 0, 0, .null, 0), (84, .lload_n 3, 1, 3, 0, .null, 0), (85, .invokestatic 92, 3, 0, 0, .null, 0), (88, .invokestatic 78, 3, 0, 0, .null, 0), (91, .lreturn, 1, 0, 0, .null, 0)]
theorem kkX1_root : pgX1_root.all (chk cX1_root 6 yX1_root.cls) = true := by decide +kernel
def pgX1_wholeRoot : List En := [(0, .lconst 0, 1, 0, 0, .long 0, 0), (1, .lstore_n 2, 1, 2, 0, .null, 0), (2, .lconst 0, 1, 0, 0, .long 0, 0), (3, .lstore 4, 2, 0, 0, .null, 0), (5, .bipush 52, 2, 0, 0, .int 52, 0), (7, .istore 6, 2, 0, 0, .null, 0), (9, .iload 6, 2, 0, 0, .null, 0), (11, .bipush (-58), 2, 0, 0, .int (-58), 0), (13, .if_icmp .lt 67, 3, 80, 0, .null, 0), (16, .iload 6, 2, 0, 0, .null, 0), (18, .ifCond .lt 14, 3, 32, 0, .null, 0), (21, .lload_n 0, 1, 0, 0, .null, 0), (22, .iload 6, 2, 0, 0, .null, 0), (24, .lushr, 1, 0, 0, .null, 0), (25, .ldc2_w 95, 3, 0, 0, .long 3, 313), (28, .land, 1, 0, 0, .null, 0), (29, .goto 4, 3, 33, 0, .null, 0), (32, .lconst 0, 1, 0, 0, .long 0, 0), (33, .lstore 7, 2, 0, 0, .null, 0), (35, .lload 4, 2, 0, 0, .null, 0), (37, .iconst 2, 1, 0, 0, .int 2, 0), (38, .lshl, 1, 0, 0, .null, 0), (39, .lload 7, 2, 0, 0, .null, 0), (41, .lor, 1, 0, 0, .null, 0), (42, .lstore 4, 2, 0, 0, .null, 0), (44, .lload_n 2, 1, 2, 0, .null, 0), (45, .iconst 2, 1, 0, 0, .int 2, 0), (46, .lshl, 1, 0, 0, .null, 0), (47, .lconst 1, 1, 0, 0, .long 1, 0), (48, .lor, 1, 0, 0, .null, 0), (49, .lstore 9, 2, 0, 0, .null, 0), (51, .lload_n 2, 1, 2, 0, .null, 0), (52, .iconst 1, 1, 0, 0, .int 1, 0), (53, .lshl, 1, 0, 0, .null, 0), (54, .lstore_n 2, 1, 2, 0, .null, 0), (55, .lload 4, 2, 0, 0, .null, 0), (57, .lload 9, 2, 0, 0, .null, 0), (59, .lcmp, 1, 0, 0, .null, 0), (60, .ifCond .lt 14, 3, 74, 0, .null, 0), (63, .lload 4, 2, 0, 0, .null, 0), (65, .lload 9, 2, 0, 0, .null, 0), (67, .lsub, 1, 0, 0, .null, 0), (68, .lstore 4, 2, 0, 0, .null, 0), (70, .lload_n 2, 1, 2, 0, .null, 0), (71, .lconst 1, 1, 0, 0, .long 1, 0), (72, .lor, 1, 0, 0, .null, 0), (73, .lstore_n 2, 1, 2, 0, .null, 0), (74, .iinc 6 (-2), 3, 0, 0, .null, 0), (77, .goto (-68), 3, 9, 0, .null, 0), (80, .lload 4, 2, 0, 0, .null, 0), (82, .lconst 0, 1, 0, 0, .long 0, 0), (83, .lcmp, 1, 0, 0, .null, 0), (84, .ifCond .ne 7, 3, 91, 0, .null, 0), (87, .lload_n 2, 1, 2, 0, .null, 0), (88, .goto 6, 3, 94, 0, .null, 0), (91, .lload_n 2, 1, 2, 0, .null, 0), (92, .lconst 1, 1, 0, 0, .long 1, 0), (93, .lor, 1, 0, 0, .null, 0), (94, .lreturn, 1, 0, 0, .null, 0)]
theorem kkX1_wholeRoot : pgX1_wholeRoot.all (chk cX1_wholeRoot 11 yX1_wholeRoot.cls) = true := by decide +kernel
def pgX1_behindPoint : List En := [(0, .ldc2_w 45, 3, 0, 0, .long 4503599627370495, 235), (3, .iload_n 0, 1, 0, 0, .null, 0), (4, .sipush 1023, 3, 0, 0, .int 1023, 0), (7, .isub, 1, 0, 0, .null, 0), (8, .lushr, 1, 0, 0, .null, 0), (9, .lreturn, 1, 0, 0, .null, 0)]
theorem kkX1_behindPoint : pgX1_behindPoint.all (chk cX1_behindPoint 1 yX1_behindPoint.cls) = true := by decide +kernel
def pgX1_floor : List En := [(0, .lload_n 0, 1, 0, 0, .null, 0), (1, .invokestatic 72, 3, 0, 0, .null, 0), (4, .istore_n 2, 1, 2, 0, .null, 0), (5, .lload_n 0, 1, 0, 0, .null, 0), (6, .invokestatic 36, 3, 0, 0, .null, 0), (9, .ifCond .ne 10, 3, 19, 0, .null, 0), (12, .iload_n 2, 1, 2, 0, .null, 0), (13, .sipush 1075, 3, 0, 0, .int 1075, 0), (16, .if_icmp .lt 5, 3, 21, 0, .null, 0), (19, .lload_n 0, 1, 0, 0, .null, 0), (20, .lreturn, 1, 0, 0, .null, 0), (21, .iload_n 2, 1, 2, 0, .null, 0), (22, .sipush 1023, 3, 0, 0, .int 1023, 0), (25, .if_icmp .ge 17, 3, 42, 0, .null, 0), (28, .lload_n 0, 1, 0, 0, .null, 0), (29, .lconst 0, 1, 0, 0, .long 0, 0), (30, .lcmp, 1, 0, 0, .null, 0), (31, .ifCond .ge 9, 3, 40, 0, .null, 0), (34, .ldc2_w 97, 3, 0, 0, .long (-4616189618054758400), 331), (37, .goto 4, 3, 41, 0, .null, 0), (40, .lconst 0, 1, 0, 0, .long 0, 0), (41, .lreturn, 1, 0, 0, .null, 0), (42, .iload_n 2, 1, 2, 0, .null, 0), (43, .invokestatic 99, 3, 0, 0, .null, 0), (46, .lstore_n 3, 1, 3, 0, .null, 0), (47, .lload_n 0, 1, 0, 0, .null, 0), (48, .lconst 0, 1, 0, 0, .long 0, 0), (49, .lcmp, 1, 0, 0, .null, 0), (50, .ifCond .ge 9, 3, 59, 0, .null, 0), (53, .lload_n 0, 1, 0, 0, .null, 0), (54, .lload_n 3, 1, 3, 0, .null, 0), (55, .ladd, 1, 0, 0, .null, 0), (56, .goto 4, 3, 60, 0, .null, 0), (59, .lload_n 0, 1, 0, 0, .null, 0), (60, .lstore 5, 2, 0, 0, .null, 0), (62, .lload 5, 2, 0, 0, .null, 0), (64, .lload_n 3, 1, 3, 0, .null, 0), (65, .ldc2_w 25, 3, 0, 0, .long (-1), 288), (68, .lxor, 1, 0, 0, .null, 0), (69, .land, 1, 0, 0, .null, 0), (70, .lreturn, 1, 0, 0, .null, 0)]
theorem kkX1_floor : pgX1_floor.all (chk cX1_floor 7 yX1_floor.cls) = true := by decide +kernel
def pgX1_throughFloat : List En := [(0, .lload_n 0, 1, 0, 0, .null, 0), (1, .invokestatic 103, 3, 0, 0, .null, 0), (4, .ifCond .eq 10, 3, 14, 0, .null, 0), (7, .lload_n 0, 1, 0, 0, .null, 0), (8, .invokestatic 36, 3, 0, 0, .null, 0), (11, .ifCond .eq 5, 3, 16, 0, .null, 0), (14, .lload_n 0, 1, 0, 0, .null, 0), (15, .lreturn, 1, 0, 0, .null, 0), (16, .lload_n 0, 1, 0, 0, .null, 0), (17, .invokestatic 72, 3, 0, 0, .null, 0), (20, .istore_n 2, 1, 2, 0, .null, 0), (21, .bipush 29, 2, 0, 0, .int 29, 0), (23, .sipush 926, 3, 0, 0, .int 926, 0), (26, .iload_n 2, 1, 2, 0, .null, 0), (27, .isub, 1, 0, 0, .null, 0), (28, .invokestatic 55, 3, 0, 0, .null, 0), (31, .istore_n 3, 1, 3, 0, .null, 0), (32, .iload_n 3, 1, 3, 0, .null, 0), (33, .bipush 53, 2, 0, 0, .int 53, 0), (35, .if_icmp .le 9, 3, 44, 0, .null, 0), (38, .lload_n 0, 1, 0, 0, .null, 0), (39, .ldc2_w 19, 3, 0, 0, .long (-9223372036854775808), 142), (42, .land, 1, 0, 0, .null, 0), (43, .lreturn, 1, 0, 0, .null, 0), (44, .lload_n 0, 1, 0, 0, .null, 0), (45, .invokestatic 75, 3, 0, 0, .null, 0), (48, .lstore 4, 2, 0, 0, .null, 0), (50, .lconst 1, 1, 0, 0, .long 1, 0), (51, .iload_n 3, 1, 3, 0, .null, 0), (52, .iconst 1, 1, 0, 0, .int 1, 0), (53, .isub, 1, 0, 0, .null, 0), (54, .lshl, 1, 0, 0, .null, 0), (55, .lstore 6, 2, 0, 0, .null, 0), (57, .lload 4, 2, 0, 0, .null, 0), (59, .lload 6, 2, 0, 0, .null, 0), (61, .lload 6, 2, 0, 0, .null, 0), (63, .ladd, 1, 0, 0, .null, 0), (64, .lconst 1, 1, 0, 0, .long 1, 0), (65, .lsub, 1, 0, 0, .null, 0), (66, .land, 1, 0, 0, .null, 0), (67, .lstore 8, 2, 0, 0, .null, 0), (69, .lload 4, 2, 0, 0, .null, 0), (71, .lload 8, 2, 0, 0, .null, 0), (73, .lsub, 1, 0, 0, .null, 0), (74, .lstore 10, 2, 0, 0, .null, 0), (76, .lload 8, 2, 0, 0, .null, 0), (78, .lload 6, 2, 0, 0, .null, 0), (80, .lcmp, 1, 0, 0, .null, 0), (81, .ifCond .gt 22, 3, 103, 0, .null, 0), (84, .lload 8, 2, 0, 0, .null, 0), (86, .lload 6, 2, 0, 0, .null, 0), (88, .lcmp, 1, 0, 0, .null, 0), (89, .ifCond .ne 24, 3, 113, 0, .null, 0), (92, .lload 4, 2, 0, 0, .null, 0), (94, .iload_n 3, 1, 3, 0, .null, 0), (95, .lushr, 1, 0, 0, .null, 0), (96, .lconst 1, 1, 0, 0, .long 1, 0), (97, .land, 1, 0, 0, .null, 0), (98, .lconst 0, 1, 0, 0, .long 0, 0), (99, .lcmp, 1, 0, 0, .null, 0), (100, .ifCond .eq 13, 3, 113, 0, .null, 0), (103, .lload 10, 2, 0, 0, .null, 0), (105, .lload 6, 2, 0, 0, .null, 0), (107, .lload 6, 2, 0, 0, .null, 0), (109, .ladd, 1, 0, 0, .null, 0), (110, .ladd, 1, 0, 0, .null, 0), (111, .lstore 10, 2, 0, 0, .null, 0), (113, .lload 10, 2, 0, 0, .null, 0), (115, .lconst 0, 1, 0, 0, .long 0, 0), (116, .lcmp, 1, 0, 0, .null, 0), (117, .ifCond .ne 9, 3, 126, 0, .null, 0), (120, .lload_n 0, 1, 0, 0, .null, 0), (121, .ldc2_w 19, 3, 0, 0, .long (-9223372036854775808), 142), (124, .land, 1, 0, 0, .null, 0), (125, .lreturn, 1, 0, 0, .null, 0), (126, .iload_n 2, 1, 2, 0, .null, 0), (127, .iconst 1, 1, 0, 0, .int 1, 0), (128, .isub, 1, 0, 0, .null, 0), (129, .i2l, 1, 0, 0, .null, 0), (130, .bipush 52, 2, 0, 0, .int 52, 0), (132, .lshl, 1, 0, 0, .null, 0), (133, .lload 10, 2, 0, 0, .null, 0), (135, .ladd, 1, 0, 0, .null, 0), (136, .lstore 12, 2, 0, 0, .null, 0), (138, .lload_n 0, 1, 0, 0, .null, 0), (139, .ldc2_w 19, 3, 0, 0, .long (-9223372036854775808), 142), (142, .land, 1, 0, 0, .null, 0), (143, .lload 12, 2, 0, 0, .null, 0), (145, .ldc2_w 106, 3, 0, 0, .long 5183643171103440896, 339), (148, .lcmp, 1, 0, 0, .null, 0), (149, .ifCond .lt 9, 3, 158, 0, .null, 0), (152, .ldc2_w 17, 3, 0, 0, .long 9218868437227405312, 132), (155, .goto 5, 3, 160, 0, .null, 0), (158, .lload 12, 2, 0, 0, .null, 0), (160, .lor, 1, 0, 0, .null, 0), (161, .lreturn, 1, 0, 0, .null, 0)]
theorem kkX1_throughFloat : pgX1_throughFloat.all (chk cX1_throughFloat 14 yX1_throughFloat.cls) = true := by decide +kernel
def pgX1_cut : List En := [(0, .lload_n 0, 1, 0, 0, .null, 0), (1, .invokestatic 7, 3, 0, 0, .null, 0), (4, .ifCond .ne 13, 3, 17, 0, .null, 0), (7, .lload_n 0, 1, 0, 0, .null, 0), (8, .invokestatic 72, 3, 0, 0, .null, 0), (11, .sipush 1023, 3, 0, 0, .int 1023, 0), (14, .if_icmp .ge 5, 3, 19, 0, .null, 0), (17, .lconst 0, 1, 0, 0, .long 0, 0), (18, .lreturn, 1, 0, 0, .null, 0), (19, .lload_n 0, 1, 0, 0, .null, 0), (20, .lload 4, 2, 0, 0, .null, 0), (22, .invokestatic 30, 3, 0, 0, .null, 0), (25, .ifCond .ne 6, 3, 31, 0, .null, 0), (28, .lload 4, 2, 0, 0, .null, 0), (30, .lreturn, 1, 0, 0, .null, 0), (31, .lload_n 2, 1, 2, 0, .null, 0), (32, .lload_n 0, 1, 0, 0, .null, 0), (33, .invokestatic 30, 3, 0, 0, .null, 0), (36, .ifCond .ne 5, 3, 41, 0, .null, 0), (39, .lload_n 2, 1, 2, 0, .null, 0), (40, .lreturn, 1, 0, 0, .null, 0), (41, .lload_n 0, 1, 0, 0, .null, 0), (42, .invokestatic 72, 3, 0, 0, .null, 0), (45, .sipush 1075, 3, 0, 0, .int 1075, 0), (48, .if_icmp .lt 5, 3, 53, 0, .null, 0), (51, .lload_n 0, 1, 0, 0, .null, 0), (52, .lreturn, 1, 0, 0, .null, 0), (53, .lload_n 0, 1, 0, 0, .null, 0), (54, .lload_n 0, 1, 0, 0, .null, 0), (55, .invokestatic 72, 3, 0, 0, .null, 0), (58, .invokestatic 99, 3, 0, 0, .null, 0), (61, .ldc2_w 25, 3, 0, 0, .long (-1), 288), (64, .lxor, 1, 0, 0, .null, 0), (65, .land, 1, 0, 0, .null, 0), (66, .lreturn, 1, 0, 0, .null, 0)]
theorem kkX1_cut : pgX1_cut.all (chk cX1_cut 6 yX1_cut.cls) = true := by decide +kernel
def pgX1_lowTimes : List En := [(0, .lload_n 0, 1, 0, 0, .null, 0), (1, .lload_n 2, 1, 2, 0, .null, 0), (2, .invokestatic 108, 3, 0, 0, .null, 0), (5, .invokestatic 111, 3, 0, 0, .null, 0), (8, .invokestatic 114, 3, 0, 0, .null, 0), (11, .invokestatic 108, 3, 0, 0, .null, 0), (14, .lreturn, 1, 0, 0, .null, 0)]
theorem kkX1_lowTimes : pgX1_lowTimes.all (chk cX1_lowTimes 4 yX1_lowTimes.cls) = true := by decide +kernel
def pgX1_highTimes : List En := [(0, .lload_n 0, 1, 0, 0, .null, 0), (1, .lload_n 2, 1, 2, 0, .null, 0), (2, .invokestatic 108, 3, 0, 0, .null, 0), (5, .invokestatic 111, 3, 0, 0, .null, 0), (8, .invokestatic 42, 3, 0, 0, .null, 0), (11, .lstore 4, 2, 0, 0, .null, 0), (13, .lload 4, 2, 0, 0, .null, 0), (15, .invokestatic 7, 3, 0, 0, .null, 0), (18, .ifCond .eq 9, 3, 27, 0, .null, 0), (21, .ldc2_w 17, 3, 0, 0, .long 9218868437227405312, 132), (24, .goto 5, 3, 29, 0, .null, 0), (27, .lload 4, 2, 0, 0, .null, 0), (29, .lreturn, 1, 0, 0, .null, 0)]
theorem kkX1_highTimes : pgX1_highTimes.all (chk cX1_highTimes 6 yX1_highTimes.cls) = true := by decide +kernel
def pgJxe99ae_isNaN_b9ae7 : List En := [(0, .dload_n 0, 1, 0, 0, .null, 0), (1, .dload_n 0, 1, 0, 0, .null, 0), (2, .dcmp .l, 1, 0, 0, .null, 0), (3, .ifCond .eq 7, 3, 10, 0, .null, 0), (6, .iconst 1, 1, 0, 0, .int 1, 0), (7, .goto 4, 3, 11, 0, .null, 0), (10, .iconst 0, 1, 0, 0, .int 0, 0), (11, .ireturn, 1, 0, 0, .null, 0)]
theorem kkJxe99ae_isNaN_b9ae7 : pgJxe99ae_isNaN_b9ae7.all (chk cJxe99ae_isNaN_b9ae7 2 yJxe99ae_isNaN_b9ae7.cls) = true := by decide +kernel
def pgJxe99ae_doubleToLongBits_ccdee : List En := [(0, .dload_n 0, 1, 0, 0, .null, 0), (1, .invokestatic 122, 3, 0, 0, .null, 0), (4, .ifCond .ne 8, 3, 12, 0, .null, 0), (7, .dload_n 0, 1, 0, 0, .null, 0), (8, .invokestatic 134, 3, 0, 0, .null, 0), (11, .lreturn, 1, 0, 0, .null, 0), (12, .ldc2_w 137, 3, 0, 0, .long 9221120237041090560, 784), (15, .lreturn, 1, 0, 0, .null, 0)]
theorem kkJxe99ae_doubleToLongBits_ccdee : pgJxe99ae_doubleToLongBits_ccdee.all (chk cJxe99ae_doubleToLongBits_ccdee 2 yJxe99ae_doubleToLongBits_ccdee.cls) = true := by decide +kernel
def pgJ6_numberOfLeadingZeros_0f7a4 : List En := [(0, .iload_n 0, 1, 0, 0, .null, 0), (1, .ifCond .gt 14, 3, 15, 0, .null, 0), (4, .iload_n 0, 1, 0, 0, .null, 0), (5, .ifCond .ne 8, 3, 13, 0, .null, 0), (8, .bipush 32, 2, 0, 0, .int 32, 0), (10, .goto 4, 3, 14, 0, .null, 0), (13, .iconst 0, 1, 0, 0, .int 0, 0), (14, .ireturn, 1, 0, 0, .null, 0), (15, .bipush 31, 2, 0, 0, .int 31, 0), (17, .istore_n 1, 1, 1, 0, .null, 0), (18, .iload_n 0, 1, 0, 0, .null, 0), (19, .ldc_w 264, 3, 0, 0, .int 65536, 249), (22, .if_icmp .lt 11, 3, 33, 0, .null, 0), (25, .iinc 1 (-16), 3, 0, 0, .null, 0), (28, .iload_n 0, 1, 0, 0, .null, 0), (29, .bipush 16, 2, 0, 0, .int 16, 0), (31, .iushr, 1, 0, 0, .null, 0), (32, .istore_n 0, 1, 0, 0, .null, 0), (33, .iload_n 0, 1, 0, 0, .null, 0), (34, .sipush 256, 3, 0, 0, .int 256, 0), (37, .if_icmp .lt 11, 3, 48, 0, .null, 0), (40, .iinc 1 (-8), 3, 0, 0, .null, 0), (43, .iload_n 0, 1, 0, 0, .null, 0), (44, .bipush 8, 2, 0, 0, .int 8, 0), (46, .iushr, 1, 0, 0, .null, 0), (47, .istore_n 0, 1, 0, 0, .null, 0), (48, .iload_n 0, 1, 0, 0, .null, 0), (49, .bipush 16, 2, 0, 0, .int 16, 0), (51, .if_icmp .lt 10, 3, 61, 0, .null, 0), (54, .iinc 1 (-4), 3, 0, 0, .null, 0), (57, .iload_n 0, 1, 0, 0, .null, 0), (58, .iconst 4, 1, 0, 0, .int 4, 0), (59, .iushr, 1, 0, 0, .null, 0), (60, .istore_n 0, 1, 0, 0, .null, 0), (61, .iload_n 0, 1, 0, 0, .null, 0), (62, .iconst 4, 1, 0, 0, .int 4, 0), (63, .if_icmp .lt 10, 3, 73, 0, .null, 0), (66, .iinc 1 (-2), 3, 0, 0, .null, 0), (69, .iload_n 0, 1, 0, 0, .null, 0), (70, .iconst 2, 1, 0, 0, .int 2, 0), (71, .iushr, 1, 0, 0, .null, 0), (72, .istore_n 0, 1, 0, 0, .null, 0), (73, .iload_n 1, 1, 1, 0, .null, 0), (74, .iload_n 0, 1, 0, 0, .null, 0), (75, .iconst 1, 1, 0, 0, .int 1, 0), (76, .iushr, 1, 0, 0, .null, 0), (77, .isub, 1, 0, 0, .null, 0), (78, .ireturn, 1, 0, 0, .null, 0)]
theorem kkJ6_numberOfLeadingZeros_0f7a4 : pgJ6_numberOfLeadingZeros_0f7a4.all (chk cJ6_numberOfLeadingZeros_0f7a4 2 yJ6_numberOfLeadingZeros_0f7a4.cls) = true := by decide +kernel
def pgJ13_numberOfLeadingZeros_95d88 : List En := [(0, .lload_n 0, 1, 0, 0, .null, 0), (1, .bipush 32, 2, 0, 0, .int 32, 0), (3, .lushr, 1, 0, 0, .null, 0), (4, .l2i, 1, 0, 0, .null, 0), (5, .istore_n 2, 1, 2, 0, .null, 0), (6, .iload_n 2, 1, 2, 0, .null, 0), (7, .ifCond .ne 14, 3, 21, 0, .null, 0), (10, .bipush 32, 2, 0, 0, .int 32, 0), (12, .lload_n 0, 1, 0, 0, .null, 0), (13, .l2i, 1, 0, 0, .null, 0), (14, .invokestatic 308, 3, 0, 0, .null, 0), (17, .iadd, 1, 0, 0, .null, 0), (18, .goto 7, 3, 25, 0, .null, 0), (21, .iload_n 2, 1, 2, 0, .null, 0), (22, .invokestatic 308, 3, 0, 0, .null, 0), (25, .ireturn, 1, 0, 0, .null, 0)]
theorem kkJ13_numberOfLeadingZeros_95d88 : pgJ13_numberOfLeadingZeros_95d88.all (chk cJ13_numberOfLeadingZeros_95d88 3 yJ13_numberOfLeadingZeros_95d88.cls) = true := by decide +kernel
def pgJ9_max_7cf53 : List En := [(0, .iload_n 0, 1, 0, 0, .null, 0), (1, .iload_n 1, 1, 1, 0, .null, 0), (2, .if_icmp .lt 7, 3, 9, 0, .null, 0), (5, .iload_n 0, 1, 0, 0, .null, 0), (6, .goto 4, 3, 10, 0, .null, 0), (9, .iload_n 1, 1, 1, 0, .null, 0), (10, .ireturn, 1, 0, 0, .null, 0)]
theorem kkJ9_max_7cf53 : pgJ9_max_7cf53.all (chk cJ9_max_7cf53 2 yJ9_max_7cf53.cls) = true := by decide +kernel
end
section
def pgX0_isKind : List En := [(0, .iload_n 0, 1, 0, 0, .null, 0), (1, .ifCond .lt 13, 3, 14, 0, .null, 0), (4, .iload_n 0, 1, 0, 0, .null, 0), (5, .bipush 16, 2, 0, 0, .int 16, 0), (7, .if_icmp .gt 7, 3, 14, 0, .null, 0), (10, .iconst 1, 1, 0, 0, .int 1, 0), (11, .goto 4, 3, 15, 0, .null, 0), (14, .iconst 0, 1, 0, 0, .int 0, 0), (15, .ireturn, 1, 0, 0, .null, 0)]
theorem kkX0_isKind : pgX0_isKind.all (chk cX0_isKind 1 yX0_isKind.cls) = true := by decide +kernel
def pgX0_hasFirst : List En := [(0, .iload_n 0, 1, 0, 0, .null, 0), (1, .iconst 2, 1, 0, 0, .int 2, 0), (2, .if_icmp .lt 7, 3, 9, 0, .null, 0), (5, .iconst 1, 1, 0, 0, .int 1, 0), (6, .goto 4, 3, 10, 0, .null, 0), (9, .iconst 0, 1, 0, 0, .int 0, 0), (10, .ireturn, 1, 0, 0, .null, 0)]
theorem kkX0_hasFirst : pgX0_hasFirst.all (chk cX0_hasFirst 1 yX0_hasFirst.cls) = true := by decide +kernel
def pgX0_hasSecond : List En := [(0, .iload_n 0, 1, 0, 0, .null, 0), (1, .iconst 2, 1, 0, 0, .int 2, 0), (2, .if_icmp .lt 13, 3, 15, 0, .null, 0), (5, .iload_n 0, 1, 0, 0, .null, 0), (6, .bipush 7, 2, 0, 0, .int 7, 0), (8, .if_icmp .gt 7, 3, 15, 0, .null, 0), (11, .iconst 1, 1, 0, 0, .int 1, 0), (12, .goto 4, 3, 16, 0, .null, 0), (15, .iconst 0, 1, 0, 0, .int 0, 0), (16, .ireturn, 1, 0, 0, .null, 0)]
theorem kkX0_hasSecond : pgX0_hasSecond.all (chk cX0_hasSecond 1 yX0_hasSecond.cls) = true := by decide +kernel
def pgX0_has : List En := [(0, .iload_n 1, 1, 1, 0, .null, 0), (1, .ifCond .lt 15, 3, 16, 0, .null, 0), (4, .iload_n 1, 1, 1, 0, .null, 0), (5, .aload_n 0, 1, 0, 0, .null, 0), (6, .getfield 34, 3, 2, 0, .null, 35), (9, .if_icmp .ge 7, 3, 16, 0, .null, 0), (12, .iconst 1, 1, 0, 0, .int 1, 0), (13, .goto 4, 3, 17, 0, .null, 0), (16, .iconst 0, 1, 0, 0, .int 0, 0), (17, .ireturn, 1, 0, 0, .null, 0)]
theorem kkX0_has : pgX0_has.all (chk cX0_has 2 yX0_has.cls) = true := by decide +kernel
def pgX0_areParts : List En := [(0, .iload_n 1, 1, 1, 0, .null, 0), (1, .ifCond .ne 19, 3, 20, 0, .null, 0), (4, .iload_n 2, 1, 2, 0, .null, 0), (5, .ifCond .lt 13, 3, 18, 0, .null, 0), (8, .iload_n 2, 1, 2, 0, .null, 0), (9, .iload 4, 2, 0, 0, .null, 0), (11, .if_icmp .ge 7, 3, 18, 0, .null, 0), (14, .iconst 1, 1, 0, 0, .int 1, 0), (15, .goto 4, 3, 19, 0, .null, 0), (18, .iconst 0, 1, 0, 0, .int 0, 0), (19, .ireturn, 1, 0, 0, .null, 0), (20, .iload_n 1, 1, 1, 0, .null, 0), (21, .invokestatic 38, 3, 0, 0, .null, 0), (24, .ifCond .eq 11, 3, 35, 0, .null, 0), (27, .aload_n 0, 1, 0, 0, .null, 0), (28, .iload_n 2, 1, 2, 0, .null, 0), (29, .invokevirtual 42, 3, 0, 0, .null, 0), (32, .ifCond .eq 22, 3, 54, 0, .null, 0), (35, .iload_n 1, 1, 1, 0, .null, 0), (36, .invokestatic 45, 3, 0, 0, .null, 0), (39, .ifCond .eq 11, 3, 50, 0, .null, 0), (42, .aload_n 0, 1, 0, 0, .null, 0), (43, .iload_n 3, 1, 3, 0, .null, 0), (44, .invokevirtual 42, 3, 0, 0, .null, 0), (47, .ifCond .eq 7, 3, 54, 0, .null, 0), (50, .iconst 1, 1, 0, 0, .int 1, 0), (51, .goto 4, 3, 55, 0, .null, 0), (54, .iconst 0, 1, 0, 0, .int 0, 0), (55, .ireturn, 1, 0, 0, .null, 0)]
theorem kkX0_areParts : pgX0_areParts.all (chk cX0_areParts 5 yX0_areParts.cls) = true := by decide +kernel
def pgX0_add : List En := [(0, .aload_n 0, 1, 0, 0, .null, 0), (1, .getfield 34, 3, 2, 0, .null, 35), (4, .istore 6, 2, 0, 0, .null, 0), (6, .aload_n 0, 1, 0, 0, .null, 0), (7, .getfield 18, 3, 3, 0, .null, 37), (10, .iload 6, 2, 0, 0, .null, 0), (12, .iload_n 1, 1, 1, 0, .null, 0), (13, .iastore, 1, 0, 0, .null, 0), (14, .aload_n 0, 1, 0, 0, .null, 0), (15, .getfield 22, 3, 4, 0, .null, 38), (18, .iload 6, 2, 0, 0, .null, 0), (20, .iload_n 1, 1, 1, 0, .null, 0), (21, .ifCond .eq 10, 3, 31, 0, .null, 0), (24, .iload_n 1, 1, 1, 0, .null, 0), (25, .invokestatic 38, 3, 0, 0, .null, 0), (28, .ifCond .eq 7, 3, 35, 0, .null, 0), (31, .iload_n 2, 1, 2, 0, .null, 0), (32, .goto 4, 3, 36, 0, .null, 0), (35, .iconst 0, 1, 0, 0, .int 0, 0), (36, .iastore, 1, 0, 0, .null, 0), (37, .aload_n 0, 1, 0, 0, .null, 0), (38, .getfield 25, 3, 5, 0, .null, 39), (41, .iload 6, 2, 0, 0, .null, 0), (43, .iload_n 1, 1, 1, 0, .null, 0), (44, .invokestatic 45, 3, 0, 0, .null, 0), (47, .ifCond .eq 7, 3, 54, 0, .null, 0), (50, .iload_n 3, 1, 3, 0, .null, 0), (51, .goto 4, 3, 55, 0, .null, 0), (54, .iconst 0, 1, 0, 0, .int 0, 0), (55, .iastore, 1, 0, 0, .null, 0), (56, .aload_n 0, 1, 0, 0, .null, 0), (57, .getfield 28, 3, 6, 0, .null, 40), (60, .iload 6, 2, 0, 0, .null, 0), (62, .lload 4, 2, 0, 0, .null, 0), (64, .invokestatic 48, 3, 0, 0, .null, 0), (67, .lastore, 1, 0, 0, .null, 0), (68, .aload_n 0, 1, 0, 0, .null, 0), (69, .dup, 1, 0, 0, .null, 0), (70, .getfield 34, 3, 2, 0, .null, 35), (73, .iconst 1, 1, 0, 0, .int 1, 0), (74, .iadd, 1, 0, 0, .null, 0), (75, .putfield 34, 3, 2, 0, .int 0, 35), (78, .iload 6, 2, 0, 0, .null, 0), (80, .ireturn, 1, 0, 0, .null, 0)]
theorem kkX0_add : pgX0_add.all (chk cX0_add 7 yX0_add.cls) = true := by decide +kernel
def pgX0_withParts : List En := [(0, .iload_n 1, 1, 1, 0, .null, 0), (1, .istore_n 2, 1, 2, 0, .null, 0), (2, .aload_n 0, 1, 0, 0, .null, 0), (3, .getfield 34, 3, 2, 0, .null, 35), (6, .iconst 1, 1, 0, 0, .int 1, 0), (7, .isub, 1, 0, 0, .null, 0), (8, .istore_n 3, 1, 3, 0, .null, 0), (9, .iload_n 3, 1, 3, 0, .null, 0), (10, .ifCond .lt 63, 3, 73, 0, .null, 0), (13, .iload_n 2, 1, 2, 0, .null, 0), (14, .iload_n 3, 1, 3, 0, .null, 0), (15, .iushr, 1, 0, 0, .null, 0), (16, .iconst 1, 1, 0, 0, .int 1, 0), (17, .iand, 1, 0, 0, .null, 0), (18, .ifCond .eq 49, 3, 67, 0, .null, 0), (21, .aload_n 0, 1, 0, 0, .null, 0), (22, .getfield 18, 3, 3, 0, .null, 37), (25, .iload_n 3, 1, 3, 0, .null, 0), (26, .iaload, 1, 0, 0, .null, 0), (27, .invokestatic 38, 3, 0, 0, .null, 0), (30, .ifCond .eq 37, 3, 67, 0, .null, 0), (33, .iload_n 2, 1, 2, 0, .null, 0), (34, .iconst 1, 1, 0, 0, .int 1, 0), (35, .aload_n 0, 1, 0, 0, .null, 0), (36, .getfield 22, 3, 4, 0, .null, 38), (39, .iload_n 3, 1, 3, 0, .null, 0), (40, .iaload, 1, 0, 0, .null, 0), (41, .ishl, 1, 0, 0, .null, 0), (42, .ior, 1, 0, 0, .null, 0), (43, .istore_n 2, 1, 2, 0, .null, 0), (44, .aload_n 0, 1, 0, 0, .null, 0), (45, .getfield 18, 3, 3, 0, .null, 37), (48, .iload_n 3, 1, 3, 0, .null, 0), (49, .iaload, 1, 0, 0, .null, 0), (50, .invokestatic 45, 3, 0, 0, .null, 0), (53, .ifCond .eq 14, 3, 67, 0, .null, 0), (56, .iload_n 2, 1, 2, 0, .null, 0), (57, .iconst 1, 1, 0, 0, .int 1, 0), (58, .aload_n 0, 1, 0, 0, .null, 0), (59, .getfield 25, 3, 5, 0, .null, 39), (62, .iload_n 3, 1, 3, 0, .null, 0), (63, .iaload, 1, 0, 0, .null, 0), (64, .ishl, 1, 0, 0, .null, 0), (65, .ior, 1, 0, 0, .null, 0), (66, .istore_n 2, 1, 2, 0, .null, 0), (67, .iinc 3 (-1), 3, 0, 0, .null, 0), (70, .goto (-61), 3, 9, 0, .null, 0), (73, .iload_n 2, 1, 2, 0, .null, 0), (74, .ireturn, 1, 0, 0, .null, 0)]
theorem kkX0_withParts : pgX0_withParts.all (chk cX0_withParts 4 yX0_withParts.cls) = true := by decide +kernel
def pgX0_valueAt : List En := [(0, .aload_n 0, 1, 0, 0, .null, 0), (1, .iconst 1, 1, 0, 0, .int 1, 0), (2, .iload_n 1, 1, 1, 0, .null, 0), (3, .ishl, 1, 0, 0, .null, 0), (4, .invokevirtual 54, 3, 0, 0, .null, 0), (7, .istore 8, 2, 0, 0, .null, 0), (9, .iconst 0, 1, 0, 0, .int 0, 0), (10, .istore 9, 2, 0, 0, .null, 0), (12, .iload 9, 2, 0, 0, .null, 0), (14, .iload_n 1, 1, 1, 0, .null, 0), (15, .if_icmp .gt 129, 3, 144, 0, .null, 0), (18, .iload 8, 2, 0, 0, .null, 0), (20, .iload 9, 2, 0, 0, .null, 0), (22, .iushr, 1, 0, 0, .null, 0), (23, .iconst 1, 1, 0, 0, .int 1, 0), (24, .iand, 1, 0, 0, .null, 0), (25, .ifCond .ne 6, 3, 31, 0, .null, 0), (28, .goto 110, 3, 138, 0, .null, 0), (31, .aload_n 0, 1, 0, 0, .null, 0), (32, .getfield 18, 3, 3, 0, .null, 37), (35, .iload 9, 2, 0, 0, .null, 0), (37, .iaload, 1, 0, 0, .null, 0), (38, .ifCond .ne 31, 3, 69, 0, .null, 0), (41, .aload_n 0, 1, 0, 0, .null, 0), (42, .getfield 31, 3, 7, 0, .null, 41), (45, .iload 9, 2, 0, 0, .null, 0), (47, .aload_n 0, 1, 0, 0, .null, 0), (48, .getfield 22, 3, 4, 0, .null, 38), (51, .iload 9, 2, 0, 0, .null, 0), (53, .iaload, 1, 0, 0, .null, 0), (54, .lload_n 2, 1, 2, 0, .null, 0), (55, .lload 4, 2, 0, 0, .null, 0), (57, .lload 6, 2, 0, 0, .null, 0), (59, .invokestatic 58, 3, 0, 0, .null, 0), (62, .invokestatic 48, 3, 0, 0, .null, 0), (65, .lastore, 1, 0, 0, .null, 0), (66, .goto 72, 3, 138, 0, .null, 0), (69, .aload_n 0, 1, 0, 0, .null, 0), (70, .getfield 18, 3, 3, 0, .null, 37), (73, .iload 9, 2, 0, 0, .null, 0), (75, .iaload, 1, 0, 0, .null, 0), (76, .iconst 1, 1, 0, 0, .int 1, 0), (77, .if_icmp .ne 20, 3, 97, 0, .null, 0), (80, .aload_n 0, 1, 0, 0, .null, 0), (81, .getfield 31, 3, 7, 0, .null, 41), (84, .iload 9, 2, 0, 0, .null, 0), (86, .aload_n 0, 1, 0, 0, .null, 0), (87, .getfield 28, 3, 6, 0, .null, 40), (90, .iload 9, 2, 0, 0, .null, 0), (92, .laload, 1, 0, 0, .null, 0), (93, .lastore, 1, 0, 0, .null, 0), (94, .goto 44, 3, 138, 0, .null, 0), (97, .aload_n 0, 1, 0, 0, .null, 0), (98, .getfield 31, 3, 7, 0, .null, 41), (101, .iload 9, 2, 0, 0, .null, 0), (103, .aload_n 0, 1, 0, 0, .null, 0), (104, .getfield 18, 3, 3, 0, .null, 37), (107, .iload 9, 2, 0, 0, .null, 0), (109, .iaload, 1, 0, 0, .null, 0), (110, .aload_n 0, 1, 0, 0, .null, 0), (111, .getfield 31, 3, 7, 0, .null, 41), (114, .aload_n 0, 1, 0, 0, .null, 0), (115, .getfield 22, 3, 4, 0, .null, 38), (118, .iload 9, 2, 0, 0, .null, 0), (120, .iaload, 1, 0, 0, .null, 0), (121, .laload, 1, 0, 0, .null, 0), (122, .aload_n 0, 1, 0, 0, .null, 0), (123, .getfield 31, 3, 7, 0, .null, 41), (126, .aload_n 0, 1, 0, 0, .null, 0), (127, .getfield 25, 3, 5, 0, .null, 39), (130, .iload 9, 2, 0, 0, .null, 0), (132, .iaload, 1, 0, 0, .null, 0), (133, .laload, 1, 0, 0, .null, 0), (134, .invokestatic 62, 3, 0, 0, .null, 0), (137, .lastore, 1, 0, 0, .null, 0), (138, .iinc 9 1, 3, 0, 0, .null, 0), (141, .goto (-129), 3, 12, 0, .null, 0), (144, .aload_n 0, 1, 0, 0, .null, 0), (145, .getfield 31, 3, 7, 0, .null, 41), (148, .iload_n 1, 1, 1, 0, .null, 0), (149, .laload, 1, 0, 0, .null, 0), (150, .lreturn, 1, 0, 0, .null, 0)]
theorem kkX0_valueAt : pgX0_valueAt.all (chk cX0_valueAt 10 yX0_valueAt.cls) = true := by decide +kernel
def pgX0_made : List En := [(0, .iload_n 0, 1, 0, 0, .null, 0), (1, .tableswitch 157 2 15 #[71, 77, 86, 92, 98, 104, 110, 115, 120, 126, 131, 136, 141, 146], 71, 158, 0, .null, 0), (72, .lload_n 1, 1, 1, 0, .null, 0), (73, .lload_n 3, 1, 3, 0, .null, 0), (74, .invokestatic 66, 3, 0, 0, .null, 0), (77, .lreturn, 1, 0, 0, .null, 0), (78, .lload_n 1, 1, 1, 0, .null, 0), (79, .lload_n 3, 1, 3, 0, .null, 0), (80, .invokestatic 70, 3, 0, 0, .null, 0), (83, .invokestatic 66, 3, 0, 0, .null, 0), (86, .lreturn, 1, 0, 0, .null, 0), (87, .lload_n 1, 1, 1, 0, .null, 0), (88, .lload_n 3, 1, 3, 0, .null, 0), (89, .invokestatic 73, 3, 0, 0, .null, 0), (92, .lreturn, 1, 0, 0, .null, 0), (93, .lload_n 1, 1, 1, 0, .null, 0), (94, .lload_n 3, 1, 3, 0, .null, 0), (95, .invokestatic 76, 3, 0, 0, .null, 0), (98, .lreturn, 1, 0, 0, .null, 0), (99, .lload_n 1, 1, 1, 0, .null, 0), (100, .lload_n 3, 1, 3, 0, .null, 0), (101, .invokestatic 79, 3, 0, 0, .null, 0), (104, .lreturn, 1, 0, 0, .null, 0), (105, .lload_n 1, 1, 1, 0, .null, 0), (106, .lload_n 3, 1, 3, 0, .null, 0), (107, .invokestatic 82, 3, 0, 0, .null, 0), (110, .lreturn, 1, 0, 0, .null, 0), (111, .lload_n 1, 1, 1, 0, .null, 0), (112, .invokestatic 85, 3, 0, 0, .null, 0), (115, .lreturn, 1, 0, 0, .null, 0), (116, .lload_n 1, 1, 1, 0, .null, 0), (117, .invokestatic 87, 3, 0, 0, .null, 0), (120, .lreturn, 1, 0, 0, .null, 0), (121, .lload_n 1, 1, 1, 0, .null, 0), (122, .lload_n 1, 1, 1, 0, .null, 0), (123, .invokestatic 73, 3, 0, 0, .null, 0), (126, .lreturn, 1, 0, 0, .null, 0), (127, .lload_n 1, 1, 1, 0, .null, 0), (128, .invokestatic 90, 3, 0, 0, .null, 0), (131, .lreturn, 1, 0, 0, .null, 0), (132, .lload_n 1, 1, 1, 0, .null, 0), (133, .invokestatic 70, 3, 0, 0, .null, 0), (136, .lreturn, 1, 0, 0, .null, 0), (137, .lload_n 1, 1, 1, 0, .null, 0), (138, .invokestatic 93, 3, 0, 0, .null, 0), (141, .lreturn, 1, 0, 0, .null, 0), (142, .lload_n 1, 1, 1, 0, .null, 0), (143, .invokestatic 96, 3, 0, 0, .null, 0), (146, .lreturn, 1, 0, 0, .null, 0), (147, .lload_n 1, 1, 1, 0, .null, 0), (148, .ldc2_w 99, 3, 0, 0, .long (-4476578029606273024), 344), (151, .ldc2_w 101, 3, 0, 0, .long 4746794007244308480, 345), (154, .invokestatic 103, 3, 0, 0, .null, 0), (157, .lreturn, 1, 0, 0, .null, 0), (158, .lload_n 1, 1, 1, 0, .null, 0), (159, .ldc2_w 107, 3, 0, 0, .long (-4332462841530417152), 349), (162, .ldc2_w 109, 3, 0, 0, .long 4890909195324358656, 350), (165, .invokestatic 103, 3, 0, 0, .null, 0), (168, .lreturn, 1, 0, 0, .null, 0)]
theorem kkX0_made : pgX0_made.all (chk cX0_made 5 yX0_made.cls) = true := by decide +kernel
def pgX0_enclose : List En := [(0, .iconst 0, 1, 0, 0, .int 0, 0), (1, .istore 4, 2, 0, 0, .null, 0), (3, .iload 4, 2, 0, 0, .null, 0), (5, .aload_n 0, 1, 0, 0, .null, 0), (6, .getfield 34, 3, 2, 0, .null, 35), (9, .if_icmp .ge 108, 3, 117, 0, .null, 0), (12, .iload_n 1, 1, 1, 0, .null, 0), (13, .iload 4, 2, 0, 0, .null, 0), (15, .iushr, 1, 0, 0, .null, 0), (16, .iconst 1, 1, 0, 0, .int 1, 0), (17, .iand, 1, 0, 0, .null, 0), (18, .ifCond .ne 6, 3, 24, 0, .null, 0), (21, .goto 90, 3, 111, 0, .null, 0), (24, .aload_n 0, 1, 0, 0, .null, 0), (25, .getfield 18, 3, 3, 0, .null, 37), (28, .iload 4, 2, 0, 0, .null, 0), (30, .iaload, 1, 0, 0, .null, 0), (31, .ifCond .ne 40, 3, 71, 0, .null, 0), (34, .aload_n 0, 1, 0, 0, .null, 0), (35, .iload 4, 2, 0, 0, .null, 0), (37, .aload_n 2, 1, 2, 0, .null, 0), (38, .iload_n 3, 1, 3, 0, .null, 0), (39, .iconst 2, 1, 0, 0, .int 2, 0), (40, .aload_n 0, 1, 0, 0, .null, 0), (41, .getfield 22, 3, 4, 0, .null, 38), (44, .iload 4, 2, 0, 0, .null, 0), (46, .iaload, 1, 0, 0, .null, 0), (47, .imul, 1, 0, 0, .null, 0), (48, .iadd, 1, 0, 0, .null, 0), (49, .laload, 1, 0, 0, .null, 0), (50, .aload_n 2, 1, 2, 0, .null, 0), (51, .iload_n 3, 1, 3, 0, .null, 0), (52, .iconst 2, 1, 0, 0, .int 2, 0), (53, .aload_n 0, 1, 0, 0, .null, 0), (54, .getfield 22, 3, 4, 0, .null, 38), (57, .iload 4, 2, 0, 0, .null, 0), (59, .iaload, 1, 0, 0, .null, 0), (60, .imul, 1, 0, 0, .null, 0), (61, .iadd, 1, 0, 0, .null, 0), (62, .iconst 1, 1, 0, 0, .int 1, 0), (63, .iadd, 1, 0, 0, .null, 0), (64, .laload, 1, 0, 0, .null, 0), (65, .invokevirtual 111, 3, 0, 0, .null, 0), (68, .goto 43, 3, 111, 0, .null, 0), (71, .aload_n 0, 1, 0, 0, .null, 0), (72, .getfield 18, 3, 3, 0, .null, 37), (75, .iload 4, 2, 0, 0, .null, 0), (77, .iaload, 1, 0, 0, .null, 0), (78, .iconst 1, 1, 0, 0, .int 1, 0), (79, .if_icmp .ne 26, 3, 105, 0, .null, 0), (82, .aload_n 0, 1, 0, 0, .null, 0), (83, .iload 4, 2, 0, 0, .null, 0), (85, .aload_n 0, 1, 0, 0, .null, 0), (86, .getfield 28, 3, 6, 0, .null, 40), (89, .iload 4, 2, 0, 0, .null, 0), (91, .laload, 1, 0, 0, .null, 0), (92, .aload_n 0, 1, 0, 0, .null, 0), (93, .getfield 28, 3, 6, 0, .null, 40), (96, .iload 4, 2, 0, 0, .null, 0), (98, .laload, 1, 0, 0, .null, 0), (99, .invokevirtual 111, 3, 0, 0, .null, 0), (102, .goto 9, 3, 111, 0, .null, 0), (105, .aload_n 0, 1, 0, 0, .null, 0), (106, .iload 4, 2, 0, 0, .null, 0), (108, .invokevirtual 115, 3, 0, 0, .null, 0), (111, .iinc 4 1, 3, 0, 0, .null, 0), (114, .goto (-111), 3, 3, 0, .null, 0), (117, .return_, 1, 0, 0, .null, 0)]
theorem kkX0_enclose : pgX0_enclose.all (chk cX0_enclose 5 yX0_enclose.cls) = true := by decide +kernel
def pgX0_encloseMade : List En := [(0, .aload_n 0, 1, 0, 0, .null, 0), (1, .getfield 9, 3, 0, 0, .null, 31), (4, .aload_n 0, 1, 0, 0, .null, 0), (5, .getfield 22, 3, 4, 0, .null, 38), (8, .iload_n 1, 1, 1, 0, .null, 0), (9, .iaload, 1, 0, 0, .null, 0), (10, .laload, 1, 0, 0, .null, 0), (11, .lstore_n 2, 1, 2, 0, .null, 0), (12, .aload_n 0, 1, 0, 0, .null, 0), (13, .getfield 15, 3, 1, 0, .null, 33), (16, .aload_n 0, 1, 0, 0, .null, 0), (17, .getfield 22, 3, 4, 0, .null, 38), (20, .iload_n 1, 1, 1, 0, .null, 0), (21, .iaload, 1, 0, 0, .null, 0), (22, .laload, 1, 0, 0, .null, 0), (23, .lstore 4, 2, 0, 0, .null, 0), (25, .aload_n 0, 1, 0, 0, .null, 0), (26, .getfield 9, 3, 0, 0, .null, 31), (29, .aload_n 0, 1, 0, 0, .null, 0), (30, .getfield 25, 3, 5, 0, .null, 39), (33, .iload_n 1, 1, 1, 0, .null, 0), (34, .iaload, 1, 0, 0, .null, 0), (35, .laload, 1, 0, 0, .null, 0), (36, .lstore 6, 2, 0, 0, .null, 0), (38, .aload_n 0, 1, 0, 0, .null, 0), (39, .getfield 15, 3, 1, 0, .null, 33), (42, .aload_n 0, 1, 0, 0, .null, 0), (43, .getfield 25, 3, 5, 0, .null, 39), (46, .iload_n 1, 1, 1, 0, .null, 0), (47, .iaload, 1, 0, 0, .null, 0), (48, .laload, 1, 0, 0, .null, 0), (49, .lstore 8, 2, 0, 0, .null, 0), (51, .aload_n 0, 1, 0, 0, .null, 0), (52, .getfield 18, 3, 3, 0, .null, 37), (55, .iload_n 1, 1, 1, 0, .null, 0), (56, .iaload, 1, 0, 0, .null, 0), (57, .tableswitch 280 2 12 #[59, 86, 119, 153, 280, 280, 213, 224, 235, 280, 263], 59, 337, 0, .null, 0), (116, .aload_n 0, 1, 0, 0, .null, 0), (117, .iload_n 1, 1, 1, 0, .null, 0), (118, .lload_n 2, 1, 2, 0, .null, 0), (119, .lload 6, 2, 0, 0, .null, 0), (121, .invokestatic 66, 3, 0, 0, .null, 0), (124, .invokestatic 119, 3, 0, 0, .null, 0), (127, .lload 4, 2, 0, 0, .null, 0), (129, .lload 8, 2, 0, 0, .null, 0), (131, .invokestatic 66, 3, 0, 0, .null, 0), (134, .invokestatic 122, 3, 0, 0, .null, 0), (137, .invokevirtual 111, 3, 0, 0, .null, 0), (140, .goto 227, 3, 367, 0, .null, 0), (143, .aload_n 0, 1, 0, 0, .null, 0), (144, .iload_n 1, 1, 1, 0, .null, 0), (145, .lload_n 2, 1, 2, 0, .null, 0), (146, .lload 8, 2, 0, 0, .null, 0), (148, .invokestatic 70, 3, 0, 0, .null, 0), (151, .invokestatic 66, 3, 0, 0, .null, 0), (154, .invokestatic 119, 3, 0, 0, .null, 0), (157, .lload 4, 2, 0, 0, .null, 0), (159, .lload 6, 2, 0, 0, .null, 0), (161, .invokestatic 70, 3, 0, 0, .null, 0), (164, .invokestatic 66, 3, 0, 0, .null, 0), (167, .invokestatic 122, 3, 0, 0, .null, 0), (170, .invokevirtual 111, 3, 0, 0, .null, 0), (173, .goto 194, 3, 367, 0, .null, 0), (176, .aload_n 0, 1, 0, 0, .null, 0), (177, .iload_n 1, 1, 1, 0, .null, 0), (178, .lload_n 2, 1, 2, 0, .null, 0), (179, .lload 6, 2, 0, 0, .null, 0), (181, .invokestatic 73, 3, 0, 0, .null, 0), (184, .lload_n 2, 1, 2, 0, .null, 0), (185, .lload 8, 2, 0, 0, .null, 0), (187, .invokestatic 73, 3, 0, 0, .null, 0), (190, .lload 4, 2, 0, 0, .null, 0), (192, .lload 6, 2, 0, 0, .null, 0), (194, .invokestatic 73, 3, 0, 0, .null, 0), (197, .lload 4, 2, 0, 0, .null, 0), (199, .lload 8, 2, 0, 0, .null, 0), (201, .invokestatic 73, 3, 0, 0, .null, 0), (204, .invokevirtual 125, 3, 0, 0, .null, 0), (207, .goto 160, 3, 367, 0, .null, 0), (210, .lconst 0, 1, 0, 0, .long 0, 0), (211, .lload 6, 2, 0, 0, .null, 0), (213, .invokestatic 129, 3, 0, 0, .null, 0), (216, .ifCond .ne 20, 3, 236, 0, .null, 0), (219, .lload 8, 2, 0, 0, .null, 0), (221, .lconst 0, 1, 0, 0, .long 0, 0), (222, .invokestatic 129, 3, 0, 0, .null, 0), (225, .ifCond .ne 11, 3, 236, 0, .null, 0), (228, .aload_n 0, 1, 0, 0, .null, 0), (229, .iload_n 1, 1, 1, 0, .null, 0), (230, .invokevirtual 133, 3, 0, 0, .null, 0), (233, .goto 134, 3, 367, 0, .null, 0), (236, .aload_n 0, 1, 0, 0, .null, 0), (237, .iload_n 1, 1, 1, 0, .null, 0), (238, .lload_n 2, 1, 2, 0, .null, 0), (239, .lload 6, 2, 0, 0, .null, 0), (241, .invokestatic 76, 3, 0, 0, .null, 0), (244, .lload_n 2, 1, 2, 0, .null, 0), (245, .lload 8, 2, 0, 0, .null, 0), (247, .invokestatic 76, 3, 0, 0, .null, 0), (250, .lload 4, 2, 0, 0, .null, 0), (252, .lload 6, 2, 0, 0, .null, 0), (254, .invokestatic 76, 3, 0, 0, .null, 0), (257, .lload 4, 2, 0, 0, .null, 0), (259, .lload 8, 2, 0, 0, .null, 0), (261, .invokestatic 76, 3, 0, 0, .null, 0), (264, .invokevirtual 125, 3, 0, 0, .null, 0), (267, .goto 100, 3, 367, 0, .null, 0), (270, .aload_n 0, 1, 0, 0, .null, 0), (271, .iload_n 1, 1, 1, 0, .null, 0), (272, .lload_n 2, 1, 2, 0, .null, 0), (273, .lload 4, 2, 0, 0, .null, 0), (275, .invokevirtual 136, 3, 0, 0, .null, 0), (278, .goto 89, 3, 367, 0, .null, 0), (281, .aload_n 0, 1, 0, 0, .null, 0), (282, .iload_n 1, 1, 1, 0, .null, 0), (283, .lload_n 2, 1, 2, 0, .null, 0), (284, .lload 4, 2, 0, 0, .null, 0), (286, .invokevirtual 139, 3, 0, 0, .null, 0), (289, .goto 78, 3, 367, 0, .null, 0), (292, .aload_n 0, 1, 0, 0, .null, 0), (293, .iload_n 1, 1, 1, 0, .null, 0), (294, .lload_n 2, 1, 2, 0, .null, 0), (295, .lload 4, 2, 0, 0, .null, 0), (297, .invokevirtual 136, 3, 0, 0, .null, 0), (300, .aload_n 0, 1, 0, 0, .null, 0), (301, .iload_n 1, 1, 1, 0, .null, 0), (302, .aload_n 0, 1, 0, 0, .null, 0), (303, .getfield 9, 3, 0, 0, .null, 31), (306, .iload_n 1, 1, 1, 0, .null, 0), (307, .laload, 1, 0, 0, .null, 0), (308, .aload_n 0, 1, 0, 0, .null, 0), (309, .getfield 15, 3, 1, 0, .null, 33), (312, .iload_n 1, 1, 1, 0, .null, 0), (313, .laload, 1, 0, 0, .null, 0), (314, .invokevirtual 142, 3, 0, 0, .null, 0), (317, .goto 50, 3, 367, 0, .null, 0), (320, .aload_n 0, 1, 0, 0, .null, 0), (321, .iload_n 1, 1, 1, 0, .null, 0), (322, .lload 4, 2, 0, 0, .null, 0), (324, .invokestatic 70, 3, 0, 0, .null, 0), (327, .lload_n 2, 1, 2, 0, .null, 0), (328, .invokestatic 70, 3, 0, 0, .null, 0), (331, .invokevirtual 111, 3, 0, 0, .null, 0), (334, .goto 33, 3, 367, 0, .null, 0), (337, .aload_n 0, 1, 0, 0, .null, 0), (338, .iload_n 1, 1, 1, 0, .null, 0), (339, .aload_n 0, 1, 0, 0, .null, 0), (340, .getfield 18, 3, 3, 0, .null, 37), (343, .iload_n 1, 1, 1, 0, .null, 0), (344, .iaload, 1, 0, 0, .null, 0), (345, .lload_n 2, 1, 2, 0, .null, 0), (346, .lload 6, 2, 0, 0, .null, 0), (348, .invokestatic 62, 3, 0, 0, .null, 0), (351, .aload_n 0, 1, 0, 0, .null, 0), (352, .getfield 18, 3, 3, 0, .null, 37), (355, .iload_n 1, 1, 1, 0, .null, 0), (356, .iaload, 1, 0, 0, .null, 0), (357, .lload 4, 2, 0, 0, .null, 0), (359, .lload 8, 2, 0, 0, .null, 0), (361, .invokestatic 62, 3, 0, 0, .null, 0), (364, .invokevirtual 111, 3, 0, 0, .null, 0), (367, .return_, 1, 0, 0, .null, 0)]
theorem kkX0_encloseMade : pgX0_encloseMade.all (chk cX0_encloseMade 10 yX0_encloseMade.cls) = true := by decide +kernel
def pgX0_putWholeLine : List En := [(0, .aload_n 0, 1, 0, 0, .null, 0), (1, .getfield 9, 3, 0, 0, .null, 31), (4, .iload_n 1, 1, 1, 0, .null, 0), (5, .ldc2_w 145, 3, 0, 0, .long (-4503599627370496), 217), (8, .lastore, 1, 0, 0, .null, 0), (9, .aload_n 0, 1, 0, 0, .null, 0), (10, .getfield 15, 3, 1, 0, .null, 33), (13, .iload_n 1, 1, 1, 0, .null, 0), (14, .ldc2_w 147, 3, 0, 0, .long 9218868437227405312, 218), (17, .lastore, 1, 0, 0, .null, 0), (18, .return_, 1, 0, 0, .null, 0)]
theorem kkX0_putWholeLine : pgX0_putWholeLine.all (chk cX0_putWholeLine 2 yX0_putWholeLine.cls) = true := by decide +kernel
def pgX0_put : List En := [(0, .lload_n 2, 1, 2, 0, .null, 0), (1, .invokestatic 149, 3, 0, 0, .null, 0), (4, .ifCond .ne 11, 3, 15, 0, .null, 0), (7, .lload 4, 2, 0, 0, .null, 0), (9, .invokestatic 149, 3, 0, 0, .null, 0), (12, .ifCond .eq 9, 3, 21, 0, .null, 0), (15, .aload_n 0, 1, 0, 0, .null, 0), (16, .iload_n 1, 1, 1, 0, .null, 0), (17, .invokevirtual 133, 3, 0, 0, .null, 0), (20, .return_, 1, 0, 0, .null, 0), (21, .aload_n 0, 1, 0, 0, .null, 0), (22, .getfield 9, 3, 0, 0, .null, 31), (25, .iload_n 1, 1, 1, 0, .null, 0), (26, .lload_n 2, 1, 2, 0, .null, 0), (27, .lastore, 1, 0, 0, .null, 0), (28, .aload_n 0, 1, 0, 0, .null, 0), (29, .getfield 15, 3, 1, 0, .null, 33), (32, .iload_n 1, 1, 1, 0, .null, 0), (33, .lload 4, 2, 0, 0, .null, 0), (35, .lastore, 1, 0, 0, .null, 0), (36, .return_, 1, 0, 0, .null, 0)]
theorem kkX0_put : pgX0_put.all (chk cX0_put 6 yX0_put.cls) = true := by decide +kernel
def pgX0_putFour : List En := [(0, .lload_n 2, 1, 2, 0, .null, 0), (1, .lload 4, 2, 0, 0, .null, 0), (3, .invokestatic 79, 3, 0, 0, .null, 0), (6, .lload 6, 2, 0, 0, .null, 0), (8, .lload 8, 2, 0, 0, .null, 0), (10, .invokestatic 79, 3, 0, 0, .null, 0), (13, .invokestatic 79, 3, 0, 0, .null, 0), (16, .lstore 10, 2, 0, 0, .null, 0), (18, .lload_n 2, 1, 2, 0, .null, 0), (19, .lload 4, 2, 0, 0, .null, 0), (21, .invokestatic 82, 3, 0, 0, .null, 0), (24, .lload 6, 2, 0, 0, .null, 0), (26, .lload 8, 2, 0, 0, .null, 0), (28, .invokestatic 82, 3, 0, 0, .null, 0), (31, .invokestatic 82, 3, 0, 0, .null, 0), (34, .lstore 12, 2, 0, 0, .null, 0), (36, .aload_n 0, 1, 0, 0, .null, 0), (37, .iload_n 1, 1, 1, 0, .null, 0), (38, .lload 10, 2, 0, 0, .null, 0), (40, .invokestatic 119, 3, 0, 0, .null, 0), (43, .lload 12, 2, 0, 0, .null, 0), (45, .invokestatic 122, 3, 0, 0, .null, 0), (48, .invokevirtual 111, 3, 0, 0, .null, 0), (51, .return_, 1, 0, 0, .null, 0)]
theorem kkX0_putFour : pgX0_putFour.all (chk cX0_putFour 14 yX0_putFour.cls) = true := by decide +kernel
def pgX0_putSize : List En := [(0, .lload_n 2, 1, 2, 0, .null, 0), (1, .lconst 0, 1, 0, 0, .long 0, 0), (2, .invokestatic 129, 3, 0, 0, .null, 0), (5, .ifCond .ne 14, 3, 19, 0, .null, 0), (8, .aload_n 0, 1, 0, 0, .null, 0), (9, .iload_n 1, 1, 1, 0, .null, 0), (10, .lload_n 2, 1, 2, 0, .null, 0), (11, .lload 4, 2, 0, 0, .null, 0), (13, .invokevirtual 111, 3, 0, 0, .null, 0), (16, .goto 44, 3, 60, 0, .null, 0), (19, .lconst 0, 1, 0, 0, .long 0, 0), (20, .lload 4, 2, 0, 0, .null, 0), (22, .invokestatic 129, 3, 0, 0, .null, 0), (25, .ifCond .ne 20, 3, 45, 0, .null, 0), (28, .aload_n 0, 1, 0, 0, .null, 0), (29, .iload_n 1, 1, 1, 0, .null, 0), (30, .lload 4, 2, 0, 0, .null, 0), (32, .invokestatic 70, 3, 0, 0, .null, 0), (35, .lload_n 2, 1, 2, 0, .null, 0), (36, .invokestatic 70, 3, 0, 0, .null, 0), (39, .invokevirtual 111, 3, 0, 0, .null, 0), (42, .goto 18, 3, 60, 0, .null, 0), (45, .aload_n 0, 1, 0, 0, .null, 0), (46, .iload_n 1, 1, 1, 0, .null, 0), (47, .lconst 0, 1, 0, 0, .long 0, 0), (48, .lload_n 2, 1, 2, 0, .null, 0), (49, .invokestatic 70, 3, 0, 0, .null, 0), (52, .lload 4, 2, 0, 0, .null, 0), (54, .invokestatic 82, 3, 0, 0, .null, 0), (57, .invokevirtual 111, 3, 0, 0, .null, 0), (60, .return_, 1, 0, 0, .null, 0)]
theorem kkX0_putSize : pgX0_putSize.all (chk cX0_putSize 6 yX0_putSize.cls) = true := by decide +kernel
def pgX0_putRoot : List En := [(0, .lload_n 2, 1, 2, 0, .null, 0), (1, .lconst 0, 1, 0, 0, .long 0, 0), (2, .invokestatic 129, 3, 0, 0, .null, 0), (5, .ifCond .eq 9, 3, 14, 0, .null, 0), (8, .aload_n 0, 1, 0, 0, .null, 0), (9, .iload_n 1, 1, 1, 0, .null, 0), (10, .invokevirtual 133, 3, 0, 0, .null, 0), (13, .return_, 1, 0, 0, .null, 0), (14, .lload_n 2, 1, 2, 0, .null, 0), (15, .invokestatic 87, 3, 0, 0, .null, 0), (18, .invokestatic 119, 3, 0, 0, .null, 0), (21, .invokestatic 153, 3, 0, 0, .null, 0), (24, .lstore 6, 2, 0, 0, .null, 0), (26, .aload_n 0, 1, 0, 0, .null, 0), (27, .iload_n 1, 1, 1, 0, .null, 0), (28, .lload 6, 2, 0, 0, .null, 0), (30, .lload 4, 2, 0, 0, .null, 0), (32, .invokestatic 87, 3, 0, 0, .null, 0), (35, .invokestatic 122, 3, 0, 0, .null, 0), (38, .invokevirtual 111, 3, 0, 0, .null, 0), (41, .return_, 1, 0, 0, .null, 0)]
theorem kkX0_putRoot : pgX0_putRoot.all (chk cX0_putRoot 8 yX0_putRoot.cls) = true := by decide +kernel
def pgX0_putSquare : List En := [(0, .lload_n 2, 1, 2, 0, .null, 0), (1, .lload_n 2, 1, 2, 0, .null, 0), (2, .invokestatic 73, 3, 0, 0, .null, 0), (5, .invokestatic 119, 3, 0, 0, .null, 0), (8, .invokestatic 153, 3, 0, 0, .null, 0), (11, .lstore 6, 2, 0, 0, .null, 0), (13, .aload_n 0, 1, 0, 0, .null, 0), (14, .iload_n 1, 1, 1, 0, .null, 0), (15, .lload 6, 2, 0, 0, .null, 0), (17, .lload 4, 2, 0, 0, .null, 0), (19, .lload 4, 2, 0, 0, .null, 0), (21, .invokestatic 73, 3, 0, 0, .null, 0), (24, .invokestatic 122, 3, 0, 0, .null, 0), (27, .invokevirtual 111, 3, 0, 0, .null, 0), (30, .return_, 1, 0, 0, .null, 0)]
theorem kkX0_putSquare : pgX0_putSquare.all (chk cX0_putSquare 8 yX0_putSquare.cls) = true := by decide +kernel
def pgX2_place : List En := [(0, .iload_n 0, 1, 0, 0, .null, 0), (1, .bipush 6, 2, 0, 0, .int 6, 0), (3, .imul, 1, 0, 0, .null, 0), (4, .iconst 2, 1, 0, 0, .int 2, 0), (5, .iload_n 1, 1, 1, 0, .null, 0), (6, .imul, 1, 0, 0, .null, 0), (7, .iadd, 1, 0, 0, .null, 0), (8, .ireturn, 1, 0, 0, .null, 0)]
theorem kkX2_place : pgX2_place.all (chk cX2_place 2 yX2_place.cls) = true := by decide +kernel
def pgX2_has : List En := [(0, .iload_n 1, 1, 1, 0, .null, 0), (1, .ifCond .lt 15, 3, 16, 0, .null, 0), (4, .iload_n 1, 1, 1, 0, .null, 0), (5, .aload_n 0, 1, 0, 0, .null, 0), (6, .getfield 38, 3, 5, 1, .null, 77), (9, .if_icmp .ge 7, 3, 16, 0, .null, 0), (12, .iconst 1, 1, 0, 0, .int 1, 0), (13, .goto 4, 3, 17, 0, .null, 0), (16, .iconst 0, 1, 0, 0, .int 0, 0), (17, .ireturn, 1, 0, 0, .null, 0)]
theorem kkX2_has : pgX2_has.all (chk cX2_has 2 yX2_has.cls) = true := by decide +kernel
def pgX2_start : List En := [(0, .aload_n 0, 1, 0, 0, .null, 0), (1, .iload_n 2, 1, 2, 0, .null, 0), (2, .putfield 42, 3, 9, 1, .int 0, 82), (5, .iconst 0, 1, 0, 0, .int 0, 0), (6, .istore_n 3, 1, 3, 0, .null, 0), (7, .iload_n 3, 1, 3, 0, .null, 0), (8, .iconst 2, 1, 0, 0, .int 2, 0), (9, .iload_n 2, 1, 2, 0, .null, 0), (10, .imul, 1, 0, 0, .null, 0), (11, .if_icmp .ge 18, 3, 29, 0, .null, 0), (14, .aload_n 0, 1, 0, 0, .null, 0), (15, .getfield 11, 3, 0, 1, .null, 67), (18, .iload_n 3, 1, 3, 0, .null, 0), (19, .aload_n 1, 1, 1, 0, .null, 0), (20, .iload_n 3, 1, 3, 0, .null, 0), (21, .laload, 1, 0, 0, .null, 0), (22, .lastore, 1, 0, 0, .null, 0), (23, .iinc 3 1, 3, 0, 0, .null, 0), (26, .goto (-19), 3, 7, 0, .null, 0), (29, .aload_n 0, 1, 0, 0, .null, 0), (30, .iconst 1, 1, 0, 0, .int 1, 0), (31, .putfield 38, 3, 5, 1, .int 0, 77), (34, .return_, 1, 0, 0, .null, 0)]
theorem kkX2_start : pgX2_start.all (chk cX2_start 4 yX2_start.cls) = true := by decide +kernel
def pgX2_end : List En := [(0, .aload_n 0, 1, 0, 0, .null, 0), (1, .iconst 0, 1, 0, 0, .int 0, 0), (2, .putfield 38, 3, 5, 1, .int 0, 77), (5, .return_, 1, 0, 0, .null, 0)]
theorem kkX2_end : pgX2_end.all (chk cX2_end 1 yX2_end.cls) = true := by decide +kernel
def pgX2_measure : List En := [(0, .iconst 0, 1, 0, 0, .int 0, 0), (1, .istore_n 2, 1, 2, 0, .null, 0), (2, .iconst 0, 1, 0, 0, .int 0, 0), (3, .istore_n 3, 1, 3, 0, .null, 0), (4, .iload_n 3, 1, 3, 0, .null, 0), (5, .aload_n 0, 1, 0, 0, .null, 0), (6, .getfield 42, 3, 9, 1, .null, 82), (9, .if_icmp .ge 64, 3, 73, 0, .null, 0), (12, .iload_n 1, 1, 1, 0, .null, 0), (13, .iload_n 3, 1, 3, 0, .null, 0), (14, .invokestatic 45, 3, 0, 0, .null, 0), (17, .istore 4, 2, 0, 0, .null, 0), (19, .aload_n 0, 1, 0, 0, .null, 0), (20, .getfield 25, 3, 4, 1, .null, 75), (23, .iload_n 3, 1, 3, 0, .null, 0), (24, .aload_n 0, 1, 0, 0, .null, 0), (25, .getfield 11, 3, 0, 1, .null, 67), (28, .iload 4, 2, 0, 0, .null, 0), (30, .iconst 1, 1, 0, 0, .int 1, 0), (31, .iadd, 1, 0, 0, .null, 0), (32, .laload, 1, 0, 0, .null, 0), (33, .aload_n 0, 1, 0, 0, .null, 0), (34, .getfield 11, 3, 0, 1, .null, 67), (37, .iload 4, 2, 0, 0, .null, 0), (39, .laload, 1, 0, 0, .null, 0), (40, .invokestatic 49, 3, 0, 0, .null, 0), (43, .invokestatic 55, 3, 0, 0, .null, 0), (46, .lastore, 1, 0, 0, .null, 0), (47, .aload_n 0, 1, 0, 0, .null, 0), (48, .getfield 25, 3, 4, 1, .null, 75), (51, .iload_n 2, 1, 2, 0, .null, 0), (52, .laload, 1, 0, 0, .null, 0), (53, .aload_n 0, 1, 0, 0, .null, 0), (54, .getfield 25, 3, 4, 1, .null, 75), (57, .iload_n 3, 1, 3, 0, .null, 0), (58, .laload, 1, 0, 0, .null, 0), (59, .invokestatic 59, 3, 0, 0, .null, 0), (62, .ifCond .eq 5, 3, 67, 0, .null, 0), (65, .iload_n 3, 1, 3, 0, .null, 0), (66, .istore_n 2, 1, 2, 0, .null, 0), (67, .iinc 3 1, 3, 0, 0, .null, 0), (70, .goto (-66), 3, 4, 0, .null, 0), (73, .aload_n 0, 1, 0, 0, .null, 0), (74, .getfield 11, 3, 0, 1, .null, 67), (77, .iload_n 1, 1, 1, 0, .null, 0), (78, .iload_n 2, 1, 2, 0, .null, 0), (79, .invokestatic 45, 3, 0, 0, .null, 0), (82, .laload, 1, 0, 0, .null, 0), (83, .lstore_n 3, 1, 3, 0, .null, 0), (84, .aload_n 0, 1, 0, 0, .null, 0), (85, .getfield 11, 3, 0, 1, .null, 67), (88, .iload_n 1, 1, 1, 0, .null, 0), (89, .iload_n 2, 1, 2, 0, .null, 0), (90, .invokestatic 45, 3, 0, 0, .null, 0), (93, .iconst 1, 1, 0, 0, .int 1, 0), (94, .iadd, 1, 0, 0, .null, 0), (95, .laload, 1, 0, 0, .null, 0), (96, .lstore 5, 2, 0, 0, .null, 0), (98, .lload_n 3, 1, 3, 0, .null, 0), (99, .aload_n 0, 1, 0, 0, .null, 0), (100, .getfield 25, 3, 4, 1, .null, 75), (103, .iload_n 2, 1, 2, 0, .null, 0), (104, .laload, 1, 0, 0, .null, 0), (105, .ldc2_w 63, 3, 0, 0, .long 4611686018427387904, 371), (108, .invokestatic 65, 3, 0, 0, .null, 0), (111, .invokestatic 55, 3, 0, 0, .null, 0), (114, .lstore 7, 2, 0, 0, .null, 0), (116, .aload_n 0, 1, 0, 0, .null, 0), (117, .getfield 28, 3, 6, 1, .null, 79), (120, .iload_n 1, 1, 1, 0, .null, 0), (121, .iload_n 2, 1, 2, 0, .null, 0), (122, .iastore, 1, 0, 0, .null, 0), (123, .aload_n 0, 1, 0, 0, .null, 0), (124, .getfield 31, 3, 7, 1, .null, 80), (127, .iload_n 1, 1, 1, 0, .null, 0), (128, .lload 7, 2, 0, 0, .null, 0), (130, .lastore, 1, 0, 0, .null, 0), (131, .aload_n 0, 1, 0, 0, .null, 0), (132, .getfield 34, 3, 8, 1, .null, 81), (135, .iload_n 1, 1, 1, 0, .null, 0), (136, .lload_n 3, 1, 3, 0, .null, 0), (137, .lload 7, 2, 0, 0, .null, 0), (139, .invokestatic 59, 3, 0, 0, .null, 0), (142, .ifCond .eq 13, 3, 155, 0, .null, 0), (145, .lload 7, 2, 0, 0, .null, 0), (147, .lload 5, 2, 0, 0, .null, 0), (149, .invokestatic 59, 3, 0, 0, .null, 0), (152, .ifCond .ne 7, 3, 159, 0, .null, 0), (155, .iconst 1, 1, 0, 0, .int 1, 0), (156, .goto 4, 3, 160, 0, .null, 0), (159, .iconst 0, 1, 0, 0, .int 0, 0), (160, .bastore, 1, 0, 0, .null, 0), (161, .return_, 1, 0, 0, .null, 0)]
theorem kkX2_measure : pgX2_measure.all (chk cX2_measure 9 yX2_measure.cls) = true := by decide +kernel
def pgX2_split : List En := [(0, .aload_n 0, 1, 0, 0, .null, 0), (1, .getfield 38, 3, 5, 1, .null, 77), (4, .istore_n 2, 1, 2, 0, .null, 0), (5, .iconst 0, 1, 0, 0, .int 0, 0), (6, .istore_n 3, 1, 3, 0, .null, 0), (7, .iload_n 3, 1, 3, 0, .null, 0), (8, .bipush 6, 2, 0, 0, .int 6, 0), (10, .if_icmp .ge 33, 3, 43, 0, .null, 0), (13, .aload_n 0, 1, 0, 0, .null, 0), (14, .getfield 11, 3, 0, 1, .null, 67), (17, .iload_n 2, 1, 2, 0, .null, 0), (18, .iconst 0, 1, 0, 0, .int 0, 0), (19, .invokestatic 45, 3, 0, 0, .null, 0), (22, .iload_n 3, 1, 3, 0, .null, 0), (23, .iadd, 1, 0, 0, .null, 0), (24, .aload_n 0, 1, 0, 0, .null, 0), (25, .getfield 11, 3, 0, 1, .null, 67), (28, .iload_n 1, 1, 1, 0, .null, 0), (29, .iconst 0, 1, 0, 0, .int 0, 0), (30, .invokestatic 45, 3, 0, 0, .null, 0), (33, .iload_n 3, 1, 3, 0, .null, 0), (34, .iadd, 1, 0, 0, .null, 0), (35, .laload, 1, 0, 0, .null, 0), (36, .lastore, 1, 0, 0, .null, 0), (37, .iinc 3 1, 3, 0, 0, .null, 0), (40, .goto (-33), 3, 7, 0, .null, 0), (43, .aload_n 0, 1, 0, 0, .null, 0), (44, .getfield 11, 3, 0, 1, .null, 67), (47, .iload_n 1, 1, 1, 0, .null, 0), (48, .aload_n 0, 1, 0, 0, .null, 0), (49, .getfield 28, 3, 6, 1, .null, 79), (52, .iload_n 1, 1, 1, 0, .null, 0), (53, .iaload, 1, 0, 0, .null, 0), (54, .invokestatic 45, 3, 0, 0, .null, 0), (57, .iconst 1, 1, 0, 0, .int 1, 0), (58, .iadd, 1, 0, 0, .null, 0), (59, .aload_n 0, 1, 0, 0, .null, 0), (60, .getfield 31, 3, 7, 1, .null, 80), (63, .iload_n 1, 1, 1, 0, .null, 0), (64, .laload, 1, 0, 0, .null, 0), (65, .lastore, 1, 0, 0, .null, 0), (66, .aload_n 0, 1, 0, 0, .null, 0), (67, .getfield 11, 3, 0, 1, .null, 67), (70, .iload_n 2, 1, 2, 0, .null, 0), (71, .aload_n 0, 1, 0, 0, .null, 0), (72, .getfield 28, 3, 6, 1, .null, 79), (75, .iload_n 1, 1, 1, 0, .null, 0), (76, .iaload, 1, 0, 0, .null, 0), (77, .invokestatic 45, 3, 0, 0, .null, 0), (80, .aload_n 0, 1, 0, 0, .null, 0), (81, .getfield 31, 3, 7, 1, .null, 80), (84, .iload_n 1, 1, 1, 0, .null, 0), (85, .laload, 1, 0, 0, .null, 0), (86, .lastore, 1, 0, 0, .null, 0), (87, .aload_n 0, 1, 0, 0, .null, 0), (88, .dup, 1, 0, 0, .null, 0), (89, .getfield 38, 3, 5, 1, .null, 77), (92, .iconst 1, 1, 0, 0, .int 1, 0), (93, .iadd, 1, 0, 0, .null, 0), (94, .putfield 38, 3, 5, 1, .int 0, 77), (97, .iload_n 2, 1, 2, 0, .null, 0), (98, .ireturn, 1, 0, 0, .null, 0)]
theorem kkX2_split : pgX2_split.all (chk cX2_split 4 yX2_split.cls) = true := by decide +kernel
def pgX2_heaviest : List En := [(0, .bipush (-5), 2, 0, 0, .int (-5), 0), (2, .istore_n 1, 1, 1, 0, .null, 0), (3, .iconst 0, 1, 0, 0, .int 0, 0), (4, .istore_n 2, 1, 2, 0, .null, 0), (5, .iload_n 2, 1, 2, 0, .null, 0), (6, .aload_n 0, 1, 0, 0, .null, 0), (7, .getfield 38, 3, 5, 1, .null, 77), (10, .if_icmp .ge 57, 3, 67, 0, .null, 0), (13, .aload_n 0, 1, 0, 0, .null, 0), (14, .getfield 21, 3, 3, 1, .null, 73), (17, .iload_n 2, 1, 2, 0, .null, 0), (18, .iaload, 1, 0, 0, .null, 0), (19, .iconst 3, 1, 0, 0, .int 3, 0), (20, .if_icmp .ne 41, 3, 61, 0, .null, 0), (23, .aload_n 0, 1, 0, 0, .null, 0), (24, .getfield 34, 3, 8, 1, .null, 81), (27, .iload_n 2, 1, 2, 0, .null, 0), (28, .baload, 1, 0, 0, .null, 0), (29, .ifCond .eq 6, 3, 35, 0, .null, 0), (32, .goto 29, 3, 61, 0, .null, 0), (35, .iload_n 1, 1, 1, 0, .null, 0), (36, .bipush (-5), 2, 0, 0, .int (-5), 0), (38, .if_icmp .eq 21, 3, 59, 0, .null, 0), (41, .aload_n 0, 1, 0, 0, .null, 0), (42, .getfield 18, 3, 2, 1, .null, 71), (45, .iload_n 1, 1, 1, 0, .null, 0), (46, .laload, 1, 0, 0, .null, 0), (47, .aload_n 0, 1, 0, 0, .null, 0), (48, .getfield 18, 3, 2, 1, .null, 71), (51, .iload_n 2, 1, 2, 0, .null, 0), (52, .laload, 1, 0, 0, .null, 0), (53, .invokestatic 59, 3, 0, 0, .null, 0), (56, .ifCond .eq 5, 3, 61, 0, .null, 0), (59, .iload_n 2, 1, 2, 0, .null, 0), (60, .istore_n 1, 1, 1, 0, .null, 0), (61, .iinc 2 1, 3, 0, 0, .null, 0), (64, .goto (-59), 3, 5, 0, .null, 0), (67, .iload_n 1, 1, 1, 0, .null, 0), (68, .ireturn, 1, 0, 0, .null, 0)]
theorem kkX2_heaviest : pgX2_heaviest.all (chk cX2_heaviest 3 yX2_heaviest.cls) = true := by decide +kernel
def pgX2_holds : List En := [(0, .iconst 0, 1, 0, 0, .int 0, 0), (1, .istore 8, 2, 0, 0, .null, 0), (3, .iload 8, 2, 0, 0, .null, 0), (5, .aload_n 0, 1, 0, 0, .null, 0), (6, .getfield 42, 3, 9, 1, .null, 82), (9, .if_icmp .ge 51, 3, 60, 0, .null, 0), (12, .iload_n 1, 1, 1, 0, .null, 0), (13, .iload 8, 2, 0, 0, .null, 0), (15, .invokestatic 45, 3, 0, 0, .null, 0), (18, .istore 9, 2, 0, 0, .null, 0), (20, .iload 8, 2, 0, 0, .null, 0), (22, .lload_n 2, 1, 2, 0, .null, 0), (23, .lload 4, 2, 0, 0, .null, 0), (25, .lload 6, 2, 0, 0, .null, 0), (27, .invokestatic 68, 3, 0, 0, .null, 0), (30, .aload_n 0, 1, 0, 0, .null, 0), (31, .getfield 11, 3, 0, 1, .null, 67), (34, .iload 9, 2, 0, 0, .null, 0), (36, .laload, 1, 0, 0, .null, 0), (37, .aload_n 0, 1, 0, 0, .null, 0), (38, .getfield 11, 3, 0, 1, .null, 67), (41, .iload 9, 2, 0, 0, .null, 0), (43, .iconst 1, 1, 0, 0, .int 1, 0), (44, .iadd, 1, 0, 0, .null, 0), (45, .laload, 1, 0, 0, .null, 0), (46, .invokestatic 72, 3, 0, 0, .null, 0), (49, .ifCond .ne 5, 3, 54, 0, .null, 0), (52, .iconst 0, 1, 0, 0, .int 0, 0), (53, .ireturn, 1, 0, 0, .null, 0), (54, .iinc 8 1, 3, 0, 0, .null, 0), (57, .goto (-54), 3, 3, 0, .null, 0), (60, .iconst 1, 1, 0, 0, .int 1, 0), (61, .ireturn, 1, 0, 0, .null, 0)]
theorem kkX2_holds : pgX2_holds.all (chk cX2_holds 10 yX2_holds.cls) = true := by decide +kernel
def pgX2_lowMass : List En := [(0, .lconst 0, 1, 0, 0, .long 0, 0), (1, .lstore_n 2, 1, 2, 0, .null, 0), (2, .iconst 0, 1, 0, 0, .int 0, 0), (3, .istore 4, 2, 0, 0, .null, 0), (5, .iload 4, 2, 0, 0, .null, 0), (7, .aload_n 0, 1, 0, 0, .null, 0), (8, .getfield 38, 3, 5, 1, .null, 77), (11, .if_icmp .ge 38, 3, 49, 0, .null, 0), (14, .aload_n 0, 1, 0, 0, .null, 0), (15, .getfield 21, 3, 3, 1, .null, 73), (18, .iload 4, 2, 0, 0, .null, 0), (20, .iaload, 1, 0, 0, .null, 0), (21, .iload_n 1, 1, 1, 0, .null, 0), (22, .if_icmp .ne 21, 3, 43, 0, .null, 0), (25, .lload_n 2, 1, 2, 0, .null, 0), (26, .aload_n 0, 1, 0, 0, .null, 0), (27, .getfield 15, 3, 1, 1, .null, 69), (30, .iload 4, 2, 0, 0, .null, 0), (32, .laload, 1, 0, 0, .null, 0), (33, .invokestatic 55, 3, 0, 0, .null, 0), (36, .invokestatic 76, 3, 0, 0, .null, 0), (39, .invokestatic 79, 3, 0, 0, .null, 0), (42, .lstore_n 2, 1, 2, 0, .null, 0), (43, .iinc 4 1, 3, 0, 0, .null, 0), (46, .goto (-41), 3, 5, 0, .null, 0), (49, .lload_n 2, 1, 2, 0, .null, 0), (50, .lreturn, 1, 0, 0, .null, 0)]
theorem kkX2_lowMass : pgX2_lowMass.all (chk cX2_lowMass 5 yX2_lowMass.cls) = true := by decide +kernel
def pgX2_highMass : List En := [(0, .lconst 0, 1, 0, 0, .long 0, 0), (1, .lstore_n 2, 1, 2, 0, .null, 0), (2, .iconst 0, 1, 0, 0, .int 0, 0), (3, .istore 4, 2, 0, 0, .null, 0), (5, .iload 4, 2, 0, 0, .null, 0), (7, .aload_n 0, 1, 0, 0, .null, 0), (8, .getfield 38, 3, 5, 1, .null, 77), (11, .if_icmp .ge 35, 3, 46, 0, .null, 0), (14, .aload_n 0, 1, 0, 0, .null, 0), (15, .getfield 21, 3, 3, 1, .null, 73), (18, .iload 4, 2, 0, 0, .null, 0), (20, .iaload, 1, 0, 0, .null, 0), (21, .iload_n 1, 1, 1, 0, .null, 0), (22, .if_icmp .ne 18, 3, 40, 0, .null, 0), (25, .lload_n 2, 1, 2, 0, .null, 0), (26, .aload_n 0, 1, 0, 0, .null, 0), (27, .getfield 18, 3, 2, 1, .null, 71), (30, .iload 4, 2, 0, 0, .null, 0), (32, .laload, 1, 0, 0, .null, 0), (33, .invokestatic 55, 3, 0, 0, .null, 0), (36, .invokestatic 82, 3, 0, 0, .null, 0), (39, .lstore_n 2, 1, 2, 0, .null, 0), (40, .iinc 4 1, 3, 0, 0, .null, 0), (43, .goto (-38), 3, 5, 0, .null, 0), (46, .lload_n 2, 1, 2, 0, .null, 0), (47, .lreturn, 1, 0, 0, .null, 0)]
theorem kkX2_highMass : pgX2_highMass.all (chk cX2_highMass 5 yX2_highMass.cls) = true := by decide +kernel
def pgX2_howMany : List En := [(0, .iconst 0, 1, 0, 0, .int 0, 0), (1, .istore_n 2, 1, 2, 0, .null, 0), (2, .iconst 0, 1, 0, 0, .int 0, 0), (3, .istore_n 3, 1, 3, 0, .null, 0), (4, .iload_n 3, 1, 3, 0, .null, 0), (5, .aload_n 0, 1, 0, 0, .null, 0), (6, .getfield 38, 3, 5, 1, .null, 77), (9, .if_icmp .ge 22, 3, 31, 0, .null, 0), (12, .aload_n 0, 1, 0, 0, .null, 0), (13, .getfield 21, 3, 3, 1, .null, 73), (16, .iload_n 3, 1, 3, 0, .null, 0), (17, .iaload, 1, 0, 0, .null, 0), (18, .iload_n 1, 1, 1, 0, .null, 0), (19, .if_icmp .ne 6, 3, 25, 0, .null, 0), (22, .iinc 2 1, 3, 0, 0, .null, 0), (25, .iinc 3 1, 3, 0, 0, .null, 0), (28, .goto (-24), 3, 4, 0, .null, 0), (31, .iload_n 2, 1, 2, 0, .null, 0), (32, .ireturn, 1, 0, 0, .null, 0)]
theorem kkX2_howMany : pgX2_howMany.all (chk cX2_howMany 4 yX2_howMany.cls) = true := by decide +kernel
def pgX2_howManyStuck : List En := [(0, .iconst 0, 1, 0, 0, .int 0, 0), (1, .istore_n 1, 1, 1, 0, .null, 0), (2, .iconst 0, 1, 0, 0, .int 0, 0), (3, .istore_n 2, 1, 2, 0, .null, 0), (4, .iload_n 2, 1, 2, 0, .null, 0), (5, .aload_n 0, 1, 0, 0, .null, 0), (6, .getfield 38, 3, 5, 1, .null, 77), (9, .if_icmp .ge 31, 3, 40, 0, .null, 0), (12, .aload_n 0, 1, 0, 0, .null, 0), (13, .getfield 21, 3, 3, 1, .null, 73), (16, .iload_n 2, 1, 2, 0, .null, 0), (17, .iaload, 1, 0, 0, .null, 0), (18, .iconst 3, 1, 0, 0, .int 3, 0), (19, .if_icmp .ne 15, 3, 34, 0, .null, 0), (22, .aload_n 0, 1, 0, 0, .null, 0), (23, .getfield 34, 3, 8, 1, .null, 81), (26, .iload_n 2, 1, 2, 0, .null, 0), (27, .baload, 1, 0, 0, .null, 0), (28, .ifCond .eq 6, 3, 34, 0, .null, 0), (31, .iinc 1 1, 3, 0, 0, .null, 0), (34, .iinc 2 1, 3, 0, 0, .null, 0), (37, .goto (-33), 3, 4, 0, .null, 0), (40, .iload_n 1, 1, 1, 0, .null, 0), (41, .ireturn, 1, 0, 0, .null, 0)]
theorem kkX2_howManyStuck : pgX2_howManyStuck.all (chk cX2_howManyStuck 3 yX2_howManyStuck.cls) = true := by decide +kernel
def pgX3_draw : List En := [(0, .lload_n 1, 1, 1, 0, .null, 0), (1, .invokestatic 38, 3, 0, 0, .null, 0), (4, .ifCond .eq 18, 3, 22, 0, .null, 0), (7, .lload_n 3, 1, 3, 0, .null, 0), (8, .invokestatic 38, 3, 0, 0, .null, 0), (11, .ifCond .eq 11, 3, 22, 0, .null, 0), (14, .lload_n 1, 1, 1, 0, .null, 0), (15, .lload_n 3, 1, 3, 0, .null, 0), (16, .invokestatic 44, 3, 0, 0, .null, 0), (19, .ifCond .ne 6, 3, 25, 0, .null, 0), (22, .bipush (-2), 2, 0, 0, .int (-2), 0), (24, .ireturn, 1, 0, 0, .null, 0), (25, .aload_n 0, 1, 0, 0, .null, 0), (26, .getfield 31, 3, 4, 2, .null, 109), (29, .iconst 3, 1, 0, 0, .int 3, 0), (30, .if_icmp .lt 6, 3, 36, 0, .null, 0), (33, .bipush (-4), 2, 0, 0, .int (-4), 0), (35, .ireturn, 1, 0, 0, .null, 0), (36, .aload_n 0, 1, 0, 0, .null, 0), (37, .getfield 23, 3, 2, 2, .null, 107), (40, .iconst 2, 1, 0, 0, .int 2, 0), (41, .aload_n 0, 1, 0, 0, .null, 0), (42, .getfield 31, 3, 4, 2, .null, 109), (45, .imul, 1, 0, 0, .null, 0), (46, .lload_n 1, 1, 1, 0, .null, 0), (47, .lastore, 1, 0, 0, .null, 0), (48, .aload_n 0, 1, 0, 0, .null, 0), (49, .getfield 23, 3, 2, 2, .null, 107), (52, .iconst 2, 1, 0, 0, .int 2, 0), (53, .aload_n 0, 1, 0, 0, .null, 0), (54, .getfield 31, 3, 4, 2, .null, 109), (57, .imul, 1, 0, 0, .null, 0), (58, .iconst 1, 1, 0, 0, .int 1, 0), (59, .iadd, 1, 0, 0, .null, 0), (60, .lload_n 3, 1, 3, 0, .null, 0), (61, .lastore, 1, 0, 0, .null, 0), (62, .aload_n 0, 1, 0, 0, .null, 0), (63, .dup, 1, 0, 0, .null, 0), (64, .getfield 31, 3, 4, 2, .null, 109), (67, .iconst 1, 1, 0, 0, .int 1, 0), (68, .iadd, 1, 0, 0, .null, 0), (69, .putfield 31, 3, 4, 2, .int 0, 109), (72, .aload_n 0, 1, 0, 0, .null, 0), (73, .invokevirtual 48, 3, 0, 0, .null, 0), (76, .aload_n 0, 1, 0, 0, .null, 0), (77, .getfield 19, 3, 1, 2, .null, 106), (80, .invokevirtual 51, 3, 0, 0, .null, 0), (83, .aload_n 0, 1, 0, 0, .null, 0), (84, .getfield 31, 3, 4, 2, .null, 109), (87, .iconst 1, 1, 0, 0, .int 1, 0), (88, .isub, 1, 0, 0, .null, 0), (89, .ireturn, 1, 0, 0, .null, 0)]
theorem kkX3_draw : pgX3_draw.all (chk cX3_draw 5 yX3_draw.cls) = true := by decide +kernel
def pgX3_node : List En := [(0, .iload_n 1, 1, 1, 0, .null, 0), (1, .invokestatic 54, 3, 0, 0, .null, 0), (4, .ifCond .ne 6, 3, 10, 0, .null, 0), (7, .bipush (-2), 2, 0, 0, .int (-2), 0), (9, .ireturn, 1, 0, 0, .null, 0), (10, .aload_n 0, 1, 0, 0, .null, 0), (11, .getfield 10, 3, 0, 2, .null, 105), (14, .iload_n 1, 1, 1, 0, .null, 0), (15, .iload_n 2, 1, 2, 0, .null, 0), (16, .iload_n 3, 1, 3, 0, .null, 0), (17, .aload_n 0, 1, 0, 0, .null, 0), (18, .getfield 31, 3, 4, 2, .null, 109), (21, .invokevirtual 58, 3, 0, 0, .null, 0), (24, .ifCond .ne 5, 3, 29, 0, .null, 0), (27, .iconst (-1), 1, 0, 0, .int (-1), 0), (28, .ireturn, 1, 0, 0, .null, 0), (29, .aload_n 0, 1, 0, 0, .null, 0), (30, .getfield 10, 3, 0, 2, .null, 105), (33, .getfield 62, 3, 2, 0, .null, 36), (36, .bipush 32, 2, 0, 0, .int 32, 0), (38, .if_icmp .lt 6, 3, 44, 0, .null, 0), (41, .bipush (-4), 2, 0, 0, .int (-4), 0), (43, .ireturn, 1, 0, 0, .null, 0), (44, .aload_n 0, 1, 0, 0, .null, 0), (45, .getfield 10, 3, 0, 2, .null, 105), (48, .iload_n 1, 1, 1, 0, .null, 0), (49, .iload_n 2, 1, 2, 0, .null, 0), (50, .iload_n 3, 1, 3, 0, .null, 0), (51, .lload 4, 2, 0, 0, .null, 0), (53, .invokevirtual 65, 3, 0, 0, .null, 0), (56, .ireturn, 1, 0, 0, .null, 0)]
theorem kkX3_node : pgX3_node.all (chk cX3_node 6 yX3_node.cls) = true := by decide +kernel
def pgX3_role : List En := [(0, .iload_n 1, 1, 1, 0, .null, 0), (1, .ifCond .lt 18, 3, 19, 0, .null, 0), (4, .iload_n 1, 1, 1, 0, .null, 0), (5, .iconst 2, 1, 0, 0, .int 2, 0), (6, .aload_n 0, 1, 0, 0, .null, 0), (7, .getfield 31, 3, 4, 2, .null, 109), (10, .iadd, 1, 0, 0, .null, 0), (11, .if_icmp .ge 8, 3, 19, 0, .null, 0), (14, .iload_n 1, 1, 1, 0, .null, 0), (15, .iconst 5, 1, 0, 0, .int 5, 0), (16, .if_icmp .lt 6, 3, 22, 0, .null, 0), (19, .bipush (-2), 2, 0, 0, .int (-2), 0), (21, .ireturn, 1, 0, 0, .null, 0), (22, .iload_n 2, 1, 2, 0, .null, 0), (23, .bipush (-5), 2, 0, 0, .int (-5), 0), (25, .if_icmp .eq 16, 3, 41, 0, .null, 0), (28, .aload_n 0, 1, 0, 0, .null, 0), (29, .getfield 10, 3, 0, 2, .null, 105), (32, .iload_n 2, 1, 2, 0, .null, 0), (33, .invokevirtual 69, 3, 0, 0, .null, 0), (36, .ifCond .ne 5, 3, 41, 0, .null, 0), (39, .iconst (-1), 1, 0, 0, .int (-1), 0), (40, .ireturn, 1, 0, 0, .null, 0), (41, .aload_n 0, 1, 0, 0, .null, 0), (42, .getfield 27, 3, 3, 2, .null, 108), (45, .iload_n 1, 1, 1, 0, .null, 0), (46, .iaload, 1, 0, 0, .null, 0), (47, .istore_n 3, 1, 3, 0, .null, 0), (48, .aload_n 0, 1, 0, 0, .null, 0), (49, .getfield 27, 3, 3, 2, .null, 108), (52, .iload_n 1, 1, 1, 0, .null, 0), (53, .iload_n 2, 1, 2, 0, .null, 0), (54, .iastore, 1, 0, 0, .null, 0), (55, .aload_n 0, 1, 0, 0, .null, 0), (56, .getfield 19, 3, 1, 2, .null, 106), (59, .invokevirtual 51, 3, 0, 0, .null, 0), (62, .iload_n 3, 1, 3, 0, .null, 0), (63, .ireturn, 1, 0, 0, .null, 0)]
theorem kkX3_role : pgX3_role.all (chk cX3_role 4 yX3_role.cls) = true := by decide +kernel
def pgX3_begin : List En := [(0, .aload_n 0, 1, 0, 0, .null, 0), (1, .getfield 31, 3, 4, 2, .null, 109), (4, .ifCond .ne 6, 3, 10, 0, .null, 0), (7, .bipush (-3), 2, 0, 0, .int (-3), 0), (9, .ireturn, 1, 0, 0, .null, 0), (10, .iconst 0, 1, 0, 0, .int 0, 0), (11, .istore_n 1, 1, 1, 0, .null, 0), (12, .iconst 0, 1, 0, 0, .int 0, 0), (13, .istore_n 2, 1, 2, 0, .null, 0), (14, .iload_n 2, 1, 2, 0, .null, 0), (15, .iconst 5, 1, 0, 0, .int 5, 0), (16, .if_icmp .ge 31, 3, 47, 0, .null, 0), (19, .aload_n 0, 1, 0, 0, .null, 0), (20, .getfield 27, 3, 3, 2, .null, 108), (23, .iload_n 2, 1, 2, 0, .null, 0), (24, .iaload, 1, 0, 0, .null, 0), (25, .bipush (-5), 2, 0, 0, .int (-5), 0), (27, .if_icmp .eq 14, 3, 41, 0, .null, 0), (30, .iload_n 1, 1, 1, 0, .null, 0), (31, .iconst 1, 1, 0, 0, .int 1, 0), (32, .aload_n 0, 1, 0, 0, .null, 0), (33, .getfield 27, 3, 3, 2, .null, 108), (36, .iload_n 2, 1, 2, 0, .null, 0), (37, .iaload, 1, 0, 0, .null, 0), (38, .ishl, 1, 0, 0, .null, 0), (39, .ior, 1, 0, 0, .null, 0), (40, .istore_n 1, 1, 1, 0, .null, 0), (41, .iinc 2 1, 3, 0, 0, .null, 0), (44, .goto (-30), 3, 14, 0, .null, 0), (47, .aload_n 0, 1, 0, 0, .null, 0), (48, .aload_n 0, 1, 0, 0, .null, 0), (49, .getfield 10, 3, 0, 2, .null, 105), (52, .iload_n 1, 1, 1, 0, .null, 0), (53, .invokevirtual 72, 3, 0, 0, .null, 0), (56, .putfield 35, 3, 5, 2, .int 0, 110), (59, .aload_n 0, 1, 0, 0, .null, 0), (60, .getfield 19, 3, 1, 2, .null, 106), (63, .aload_n 0, 1, 0, 0, .null, 0), (64, .getfield 23, 3, 2, 2, .null, 107), (67, .aload_n 0, 1, 0, 0, .null, 0), (68, .getfield 31, 3, 4, 2, .null, 109), (71, .invokevirtual 76, 3, 0, 0, .null, 0), (74, .aload_n 0, 1, 0, 0, .null, 0), (75, .iconst 0, 1, 0, 0, .int 0, 0), (76, .invokevirtual 80, 3, 0, 0, .null, 0), (79, .aload_n 0, 1, 0, 0, .null, 0), (80, .getfield 31, 3, 4, 2, .null, 109), (83, .ireturn, 1, 0, 0, .null, 0)]
theorem kkX3_begin : pgX3_begin.all (chk cX3_begin 3 yX3_begin.cls) = true := by decide +kernel
def pgX3_run : List En := [(0, .iload_n 1, 1, 1, 0, .null, 0), (1, .ifCond .lt 9, 3, 10, 0, .null, 0), (4, .iload_n 1, 1, 1, 0, .null, 0), (5, .bipush 99, 2, 0, 0, .int 99, 0), (7, .if_icmp .le 6, 3, 13, 0, .null, 0), (10, .bipush (-2), 2, 0, 0, .int (-2), 0), (12, .ireturn, 1, 0, 0, .null, 0), (13, .aload_n 0, 1, 0, 0, .null, 0), (14, .getfield 19, 3, 1, 2, .null, 106), (17, .getfield 84, 3, 5, 1, .null, 78), (20, .ifCond .ne 6, 3, 26, 0, .null, 0), (23, .bipush (-3), 2, 0, 0, .int (-3), 0), (25, .ireturn, 1, 0, 0, .null, 0), (26, .aload_n 0, 1, 0, 0, .null, 0), (27, .getfield 19, 3, 1, 2, .null, 106), (30, .getfield 84, 3, 5, 1, .null, 78), (33, .bipush 100, 2, 0, 0, .int 100, 0), (35, .if_icmp .lt 6, 3, 41, 0, .null, 0), (38, .bipush (-4), 2, 0, 0, .int (-4), 0), (40, .ireturn, 1, 0, 0, .null, 0), (41, .aload_n 0, 1, 0, 0, .null, 0), (42, .getfield 19, 3, 1, 2, .null, 106), (45, .getfield 84, 3, 5, 1, .null, 78), (48, .istore_n 2, 1, 2, 0, .null, 0), (49, .iconst 0, 1, 0, 0, .int 0, 0), (50, .istore_n 3, 1, 3, 0, .null, 0), (51, .iload_n 3, 1, 3, 0, .null, 0), (52, .iload_n 1, 1, 1, 0, .null, 0), (53, .if_icmp .ge 63, 3, 116, 0, .null, 0), (56, .aload_n 0, 1, 0, 0, .null, 0), (57, .getfield 19, 3, 1, 2, .null, 106), (60, .getfield 84, 3, 5, 1, .null, 78), (63, .bipush 100, 2, 0, 0, .int 100, 0), (65, .if_icmp .ge 51, 3, 116, 0, .null, 0), (68, .aload_n 0, 1, 0, 0, .null, 0), (69, .getfield 19, 3, 1, 2, .null, 106), (72, .invokevirtual 85, 3, 0, 0, .null, 0), (75, .istore 4, 2, 0, 0, .null, 0), (77, .iload 4, 2, 0, 0, .null, 0), (79, .bipush (-5), 2, 0, 0, .int (-5), 0), (81, .if_icmp .ne 6, 3, 87, 0, .null, 0), (84, .goto 32, 3, 116, 0, .null, 0), (87, .aload_n 0, 1, 0, 0, .null, 0), (88, .getfield 19, 3, 1, 2, .null, 106), (91, .iload 4, 2, 0, 0, .null, 0), (93, .invokevirtual 89, 3, 0, 0, .null, 0), (96, .istore 5, 2, 0, 0, .null, 0), (98, .aload_n 0, 1, 0, 0, .null, 0), (99, .iload 4, 2, 0, 0, .null, 0), (101, .invokevirtual 80, 3, 0, 0, .null, 0), (104, .aload_n 0, 1, 0, 0, .null, 0), (105, .iload 5, 2, 0, 0, .null, 0), (107, .invokevirtual 80, 3, 0, 0, .null, 0), (110, .iinc 3 1, 3, 0, 0, .null, 0), (113, .goto (-62), 3, 51, 0, .null, 0), (116, .aload_n 0, 1, 0, 0, .null, 0), (117, .getfield 19, 3, 1, 2, .null, 106), (120, .getfield 84, 3, 5, 1, .null, 78), (123, .iload_n 2, 1, 2, 0, .null, 0), (124, .isub, 1, 0, 0, .null, 0), (125, .ireturn, 1, 0, 0, .null, 0)]
theorem kkX3_run : pgX3_run.all (chk cX3_run 6 yX3_run.cls) = true := by decide +kernel
def pgX3_boxes : List En := [(0, .aload_n 0, 1, 0, 0, .null, 0), (1, .getfield 19, 3, 1, 2, .null, 106), (4, .getfield 84, 3, 5, 1, .null, 78), (7, .ireturn, 1, 0, 0, .null, 0)]
theorem kkX3_boxes : pgX3_boxes.all (chk cX3_boxes 1 yX3_boxes.cls) = true := by decide +kernel
def pgX3_kind : List En := [(0, .aload_n 0, 1, 0, 0, .null, 0), (1, .getfield 19, 3, 1, 2, .null, 106), (4, .iload_n 1, 1, 1, 0, .null, 0), (5, .invokevirtual 92, 3, 0, 0, .null, 0), (8, .ifCond .eq 15, 3, 23, 0, .null, 0), (11, .aload_n 0, 1, 0, 0, .null, 0), (12, .getfield 19, 3, 1, 2, .null, 106), (15, .getfield 93, 3, 3, 1, .null, 74), (18, .iload_n 1, 1, 1, 0, .null, 0), (19, .iaload, 1, 0, 0, .null, 0), (20, .goto 4, 3, 24, 0, .null, 0), (23, .iconst (-1), 1, 0, 0, .int (-1), 0), (24, .ireturn, 1, 0, 0, .null, 0)]
theorem kkX3_kind : pgX3_kind.all (chk cX3_kind 2 yX3_kind.cls) = true := by decide +kernel
def pgX3_side : List En := [(0, .aload_n 0, 1, 0, 0, .null, 0), (1, .getfield 19, 3, 1, 2, .null, 106), (4, .iload_n 1, 1, 1, 0, .null, 0), (5, .invokevirtual 92, 3, 0, 0, .null, 0), (8, .ifCond .eq 22, 3, 30, 0, .null, 0), (11, .iload_n 2, 1, 2, 0, .null, 0), (12, .ifCond .lt 18, 3, 30, 0, .null, 0), (15, .iload_n 2, 1, 2, 0, .null, 0), (16, .aload_n 0, 1, 0, 0, .null, 0), (17, .getfield 31, 3, 4, 2, .null, 109), (20, .if_icmp .ge 10, 3, 30, 0, .null, 0), (23, .iload_n 3, 1, 3, 0, .null, 0), (24, .invokestatic 96, 3, 0, 0, .null, 0), (27, .ifCond .ne 11, 3, 38, 0, .null, 0), (33, .dup, 1, 0, 0, .null, 0), (38, .aload_n 0, 1, 0, 0, .null, 0), (39, .getfield 19, 3, 1, 2, .null, 106), (42, .getfield 102, 3, 0, 1, .null, 68), (45, .iload_n 1, 1, 1, 0, .null, 0), (46, .iload_n 2, 1, 2, 0, .null, 0), (47, .invokestatic 105, 3, 0, 0, .null, 0), (50, .iload_n 3, 1, 3, 0, .null, 0), (51, .iadd, 1, 0, 0, .null, 0), (52, .laload, 1, 0, 0, .null, 0), (53, .lreturn, 1, 0, 0, .null, 0)]
theorem kkX3_side : pgX3_side.all (chk cX3_side 4 yX3_side.cls) = true := by decide +kernel
def pgX3_weight : List En := [(0, .aload_n 0, 1, 0, 0, .null, 0), (1, .getfield 19, 3, 1, 2, .null, 106), (4, .iload_n 1, 1, 1, 0, .null, 0), (5, .invokevirtual 92, 3, 0, 0, .null, 0), (8, .ifCond .eq 10, 3, 18, 0, .null, 0), (11, .iload_n 2, 1, 2, 0, .null, 0), (12, .invokestatic 96, 3, 0, 0, .null, 0), (15, .ifCond .ne 5, 3, 20, 0, .null, 0), (18, .lconst 0, 1, 0, 0, .long 0, 0), (19, .lreturn, 1, 0, 0, .null, 0), (20, .iload_n 2, 1, 2, 0, .null, 0), (21, .ifCond .ne 15, 3, 36, 0, .null, 0), (24, .aload_n 0, 1, 0, 0, .null, 0), (25, .getfield 19, 3, 1, 2, .null, 106), (28, .getfield 109, 3, 1, 1, .null, 70), (31, .iload_n 1, 1, 1, 0, .null, 0), (32, .laload, 1, 0, 0, .null, 0), (33, .goto 12, 3, 45, 0, .null, 0), (36, .aload_n 0, 1, 0, 0, .null, 0), (37, .getfield 19, 3, 1, 2, .null, 106), (40, .getfield 112, 3, 2, 1, .null, 72), (43, .iload_n 1, 1, 1, 0, .null, 0), (44, .laload, 1, 0, 0, .null, 0), (45, .lreturn, 1, 0, 0, .null, 0)]
theorem kkX3_weight : pgX3_weight.all (chk cX3_weight 3 yX3_weight.cls) = true := by decide +kernel
def pgX3_enclosed : List En := [(0, .aload_n 0, 1, 0, 0, .null, 0), (1, .getfield 19, 3, 1, 2, .null, 106), (4, .iload_n 1, 1, 1, 0, .null, 0), (5, .invokevirtual 92, 3, 0, 0, .null, 0), (8, .ifCond .eq 21, 3, 29, 0, .null, 0), (11, .aload_n 0, 1, 0, 0, .null, 0), (12, .getfield 10, 3, 0, 2, .null, 105), (15, .iload_n 2, 1, 2, 0, .null, 0), (16, .invokevirtual 69, 3, 0, 0, .null, 0), (19, .ifCond .eq 10, 3, 29, 0, .null, 0), (22, .iload_n 3, 1, 3, 0, .null, 0), (23, .invokestatic 96, 3, 0, 0, .null, 0), (26, .ifCond .ne 5, 3, 31, 0, .null, 0), (29, .lconst 0, 1, 0, 0, .long 0, 0), (30, .lreturn, 1, 0, 0, .null, 0), (31, .aload_n 0, 1, 0, 0, .null, 0), (32, .getfield 10, 3, 0, 2, .null, 105), (35, .aload_n 0, 1, 0, 0, .null, 0), (36, .getfield 10, 3, 0, 2, .null, 105), (39, .iconst 1, 1, 0, 0, .int 1, 0), (40, .iload_n 2, 1, 2, 0, .null, 0), (41, .ishl, 1, 0, 0, .null, 0), (42, .invokevirtual 72, 3, 0, 0, .null, 0), (45, .aload_n 0, 1, 0, 0, .null, 0), (46, .getfield 19, 3, 1, 2, .null, 106), (49, .getfield 102, 3, 0, 1, .null, 68), (52, .iload_n 1, 1, 1, 0, .null, 0), (53, .iconst 0, 1, 0, 0, .int 0, 0), (54, .invokestatic 105, 3, 0, 0, .null, 0), (57, .invokevirtual 115, 3, 0, 0, .null, 0), (60, .iload_n 3, 1, 3, 0, .null, 0), (61, .ifCond .ne 15, 3, 76, 0, .null, 0), (64, .aload_n 0, 1, 0, 0, .null, 0), (65, .getfield 10, 3, 0, 2, .null, 105), (68, .getfield 119, 3, 0, 0, .null, 32), (71, .iload_n 2, 1, 2, 0, .null, 0), (72, .laload, 1, 0, 0, .null, 0), (73, .goto 12, 3, 85, 0, .null, 0), (76, .aload_n 0, 1, 0, 0, .null, 0), (77, .getfield 10, 3, 0, 2, .null, 105), (80, .getfield 120, 3, 1, 0, .null, 34), (83, .iload_n 2, 1, 2, 0, .null, 0), (84, .laload, 1, 0, 0, .null, 0), (85, .lreturn, 1, 0, 0, .null, 0)]
theorem kkX3_enclosed : pgX3_enclosed.all (chk cX3_enclosed 4 yX3_enclosed.cls) = true := by decide +kernel
def pgX3_value : List En := [(0, .aload_n 0, 1, 0, 0, .null, 0), (1, .getfield 10, 3, 0, 2, .null, 105), (4, .iload_n 1, 1, 1, 0, .null, 0), (5, .invokevirtual 69, 3, 0, 0, .null, 0), (8, .ifCond .eq 19, 3, 27, 0, .null, 0), (11, .aload_n 0, 1, 0, 0, .null, 0), (12, .getfield 10, 3, 0, 2, .null, 105), (15, .iload_n 1, 1, 1, 0, .null, 0), (16, .lload_n 2, 1, 2, 0, .null, 0), (17, .lload 4, 2, 0, 0, .null, 0), (19, .lload 6, 2, 0, 0, .null, 0), (21, .invokevirtual 121, 3, 0, 0, .null, 0), (24, .goto 4, 3, 28, 0, .null, 0), (27, .lconst 0, 1, 0, 0, .long 0, 0), (28, .lreturn, 1, 0, 0, .null, 0)]
theorem kkX3_value : pgX3_value.all (chk cX3_value 8 yX3_value.cls) = true := by decide +kernel
def pgX3_within : List En := [(0, .aload_n 0, 1, 0, 0, .null, 0), (1, .getfield 19, 3, 1, 2, .null, 106), (4, .iload_n 1, 1, 1, 0, .null, 0), (5, .invokevirtual 92, 3, 0, 0, .null, 0), (8, .ifCond .eq 14, 3, 22, 0, .null, 0), (11, .aload_n 0, 1, 0, 0, .null, 0), (12, .getfield 10, 3, 0, 2, .null, 105), (15, .iload_n 2, 1, 2, 0, .null, 0), (16, .invokevirtual 69, 3, 0, 0, .null, 0), (19, .ifCond .ne 5, 3, 24, 0, .null, 0), (22, .iconst (-1), 1, 0, 0, .int (-1), 0), (23, .ireturn, 1, 0, 0, .null, 0), (24, .aload_n 0, 1, 0, 0, .null, 0), (25, .getfield 19, 3, 1, 2, .null, 106), (28, .iload_n 1, 1, 1, 0, .null, 0), (29, .lload_n 3, 1, 3, 0, .null, 0), (30, .lload 5, 2, 0, 0, .null, 0), (32, .lload 7, 2, 0, 0, .null, 0), (34, .invokevirtual 125, 3, 0, 0, .null, 0), (37, .ifCond .ne 5, 3, 42, 0, .null, 0), (40, .iconst 0, 1, 0, 0, .int 0, 0), (41, .ireturn, 1, 0, 0, .null, 0), (42, .aload_n 0, 1, 0, 0, .null, 0), (43, .getfield 10, 3, 0, 2, .null, 105), (46, .iload_n 2, 1, 2, 0, .null, 0), (47, .lload_n 3, 1, 3, 0, .null, 0), (48, .lload 5, 2, 0, 0, .null, 0), (50, .lload 7, 2, 0, 0, .null, 0), (52, .invokevirtual 121, 3, 0, 0, .null, 0), (55, .lstore 9, 2, 0, 0, .null, 0), (57, .lload 9, 2, 0, 0, .null, 0), (59, .invokestatic 129, 3, 0, 0, .null, 0), (62, .ifCond .eq 5, 3, 67, 0, .null, 0), (65, .iconst 2, 1, 0, 0, .int 2, 0), (66, .ireturn, 1, 0, 0, .null, 0), (67, .aload_n 0, 1, 0, 0, .null, 0), (68, .getfield 10, 3, 0, 2, .null, 105), (71, .aload_n 0, 1, 0, 0, .null, 0), (72, .getfield 10, 3, 0, 2, .null, 105), (75, .iconst 1, 1, 0, 0, .int 1, 0), (76, .iload_n 2, 1, 2, 0, .null, 0), (77, .ishl, 1, 0, 0, .null, 0), (78, .invokevirtual 72, 3, 0, 0, .null, 0), (81, .aload_n 0, 1, 0, 0, .null, 0), (82, .getfield 19, 3, 1, 2, .null, 106), (85, .getfield 102, 3, 0, 1, .null, 68), (88, .iload_n 1, 1, 1, 0, .null, 0), (89, .iconst 0, 1, 0, 0, .int 0, 0), (90, .invokestatic 105, 3, 0, 0, .null, 0), (93, .invokevirtual 115, 3, 0, 0, .null, 0), (96, .lload 9, 2, 0, 0, .null, 0), (98, .aload_n 0, 1, 0, 0, .null, 0), (99, .getfield 10, 3, 0, 2, .null, 105), (102, .getfield 119, 3, 0, 0, .null, 32), (105, .iload_n 2, 1, 2, 0, .null, 0), (106, .laload, 1, 0, 0, .null, 0), (107, .aload_n 0, 1, 0, 0, .null, 0), (108, .getfield 10, 3, 0, 2, .null, 105), (111, .getfield 120, 3, 1, 0, .null, 34), (114, .iload_n 2, 1, 2, 0, .null, 0), (115, .laload, 1, 0, 0, .null, 0), (116, .invokestatic 132, 3, 0, 0, .null, 0), (119, .ifCond .eq 7, 3, 126, 0, .null, 0), (122, .iconst 2, 1, 0, 0, .int 2, 0), (123, .goto 4, 3, 127, 0, .null, 0), (126, .iconst 1, 1, 0, 0, .int 1, 0), (127, .ireturn, 1, 0, 0, .null, 0)]
theorem kkX3_within : pgX3_within.all (chk cX3_within 11 yX3_within.cls) = true := by decide +kernel
def pgX3_where : List En := [(0, .iconst 0, 1, 0, 0, .int 0, 0), (1, .istore 7, 2, 0, 0, .null, 0), (3, .iload 7, 2, 0, 0, .null, 0), (5, .aload_n 0, 1, 0, 0, .null, 0), (6, .getfield 19, 3, 1, 2, .null, 106), (9, .getfield 84, 3, 5, 1, .null, 78), (12, .if_icmp .ge 28, 3, 40, 0, .null, 0), (15, .aload_n 0, 1, 0, 0, .null, 0), (16, .getfield 19, 3, 1, 2, .null, 106), (19, .iload 7, 2, 0, 0, .null, 0), (21, .lload_n 1, 1, 1, 0, .null, 0), (22, .lload_n 3, 1, 3, 0, .null, 0), (23, .lload 5, 2, 0, 0, .null, 0), (25, .invokevirtual 125, 3, 0, 0, .null, 0), (28, .ifCond .eq 6, 3, 34, 0, .null, 0), (31, .iload 7, 2, 0, 0, .null, 0), (33, .ireturn, 1, 0, 0, .null, 0), (34, .iinc 7 1, 3, 0, 0, .null, 0), (37, .goto (-34), 3, 3, 0, .null, 0), (40, .bipush (-5), 2, 0, 0, .int (-5), 0), (42, .ireturn, 1, 0, 0, .null, 0)]
theorem kkX3_where : pgX3_where.all (chk cX3_where 8 yX3_where.cls) = true := by decide +kernel
def pgX3_mass : List En := [(0, .iload_n 1, 1, 1, 0, .null, 0), (1, .invokestatic 136, 3, 0, 0, .null, 0), (4, .ifCond .eq 20, 3, 24, 0, .null, 0), (7, .iload_n 2, 1, 2, 0, .null, 0), (8, .invokestatic 96, 3, 0, 0, .null, 0), (11, .ifCond .eq 13, 3, 24, 0, .null, 0), (14, .aload_n 0, 1, 0, 0, .null, 0), (15, .getfield 19, 3, 1, 2, .null, 106), (18, .getfield 84, 3, 5, 1, .null, 78), (21, .ifCond .ne 5, 3, 26, 0, .null, 0), (24, .lconst 0, 1, 0, 0, .long 0, 0), (25, .lreturn, 1, 0, 0, .null, 0), (26, .iload_n 2, 1, 2, 0, .null, 0), (27, .ifCond .ne 14, 3, 41, 0, .null, 0), (30, .aload_n 0, 1, 0, 0, .null, 0), (31, .getfield 19, 3, 1, 2, .null, 106), (34, .iload_n 1, 1, 1, 0, .null, 0), (35, .invokevirtual 139, 3, 0, 0, .null, 0), (38, .goto 11, 3, 49, 0, .null, 0), (41, .aload_n 0, 1, 0, 0, .null, 0), (42, .getfield 19, 3, 1, 2, .null, 106), (45, .iload_n 1, 1, 1, 0, .null, 0), (46, .invokevirtual 143, 3, 0, 0, .null, 0), (49, .lreturn, 1, 0, 0, .null, 0)]
theorem kkX3_mass : pgX3_mass.all (chk cX3_mass 3 yX3_mass.cls) = true := by decide +kernel
def pgX3_odds : List En := [(0, .iload_n 1, 1, 1, 0, .null, 0), (1, .invokestatic 96, 3, 0, 0, .null, 0), (4, .ifCond .eq 13, 3, 17, 0, .null, 0), (7, .aload_n 0, 1, 0, 0, .null, 0), (8, .getfield 19, 3, 1, 2, .null, 106), (11, .getfield 84, 3, 5, 1, .null, 78), (14, .ifCond .ne 5, 3, 19, 0, .null, 0), (17, .lconst 0, 1, 0, 0, .long 0, 0), (18, .lreturn, 1, 0, 0, .null, 0), (19, .iload_n 1, 1, 1, 0, .null, 0), (20, .ifCond .ne 10, 3, 30, 0, .null, 0), (23, .aload_n 0, 1, 0, 0, .null, 0), (24, .invokevirtual 146, 3, 0, 0, .null, 0), (27, .goto 7, 3, 34, 0, .null, 0), (30, .aload_n 0, 1, 0, 0, .null, 0), (31, .invokevirtual 150, 3, 0, 0, .null, 0), (34, .lreturn, 1, 0, 0, .null, 0)]
theorem kkX3_odds : pgX3_odds.all (chk cX3_odds 2 yX3_odds.cls) = true := by decide +kernel
def pgX3_share : List En := [(0, .iload_n 1, 1, 1, 0, .null, 0), (1, .invokestatic 136, 3, 0, 0, .null, 0), (4, .ifCond .ne 6, 3, 10, 0, .null, 0), (7, .bipush (-2), 2, 0, 0, .int (-2), 0), (9, .ireturn, 1, 0, 0, .null, 0), (10, .aload_n 0, 1, 0, 0, .null, 0), (11, .getfield 19, 3, 1, 2, .null, 106), (14, .getfield 84, 3, 5, 1, .null, 78), (17, .ifCond .ne 6, 3, 23, 0, .null, 0), (20, .bipush (-3), 2, 0, 0, .int (-3), 0), (22, .ireturn, 1, 0, 0, .null, 0), (23, .aload_n 0, 1, 0, 0, .null, 0), (24, .getfield 19, 3, 1, 2, .null, 106), (27, .iconst 3, 1, 0, 0, .int 3, 0), (28, .invokevirtual 153, 3, 0, 0, .null, 0), (31, .istore_n 2, 1, 2, 0, .null, 0), (32, .iload_n 2, 1, 2, 0, .null, 0), (33, .ifCond .ne 11, 3, 44, 0, .null, 0), (39, .dup, 1, 0, 0, .null, 0), (44, .aload_n 0, 1, 0, 0, .null, 0), (45, .getfield 19, 3, 1, 2, .null, 106), (48, .iload_n 1, 1, 1, 0, .null, 0), (49, .invokevirtual 153, 3, 0, 0, .null, 0), (52, .iload_n 2, 1, 2, 0, .null, 0), (53, .idiv, 1, 0, 0, .null, 0), (54, .ireturn, 1, 0, 0, .null, 0)]
theorem kkX3_share : pgX3_share.all (chk cX3_share 3 yX3_share.cls) = true := by decide +kernel
def pgX3_count : List En := [(0, .iload_n 1, 1, 1, 0, .null, 0), (1, .tableswitch 88 0 4 #[35, 40, 48, 56, 80], 35, 89, 0, .null, 0), (36, .aload_n 0, 1, 0, 0, .null, 0), (37, .getfield 31, 3, 4, 2, .null, 109), (40, .ireturn, 1, 0, 0, .null, 0), (41, .aload_n 0, 1, 0, 0, .null, 0), (42, .getfield 10, 3, 0, 2, .null, 105), (45, .getfield 62, 3, 2, 0, .null, 36), (48, .ireturn, 1, 0, 0, .null, 0), (49, .aload_n 0, 1, 0, 0, .null, 0), (50, .getfield 19, 3, 1, 2, .null, 106), (53, .getfield 84, 3, 5, 1, .null, 78), (56, .ireturn, 1, 0, 0, .null, 0), (57, .aload_n 0, 1, 0, 0, .null, 0), (58, .getfield 19, 3, 1, 2, .null, 106), (61, .getfield 84, 3, 5, 1, .null, 78), (64, .ifCond .ne 7, 3, 71, 0, .null, 0), (67, .iconst 0, 1, 0, 0, .int 0, 0), (68, .goto 12, 3, 80, 0, .null, 0), (71, .aload_n 0, 1, 0, 0, .null, 0), (72, .getfield 19, 3, 1, 2, .null, 106), (75, .getfield 84, 3, 5, 1, .null, 78), (78, .iconst 1, 1, 0, 0, .int 1, 0), (79, .isub, 1, 0, 0, .null, 0), (80, .ireturn, 1, 0, 0, .null, 0), (81, .aload_n 0, 1, 0, 0, .null, 0), (82, .getfield 19, 3, 1, 2, .null, 106), (85, .invokevirtual 159, 3, 0, 0, .null, 0), (88, .ireturn, 1, 0, 0, .null, 0), (89, .bipush (-2), 2, 0, 0, .int (-2), 0), (91, .ireturn, 1, 0, 0, .null, 0)]
theorem kkX3_count : pgX3_count.all (chk cX3_count 2 yX3_count.cls) = true := by decide +kernel
def pgX3_clear : List En := [(0, .aload_n 0, 1, 0, 0, .null, 0), (1, .getfield 10, 3, 0, 2, .null, 105), (4, .getfield 62, 3, 2, 0, .null, 36), (7, .istore_n 1, 1, 1, 0, .null, 0), (8, .aload_n 0, 1, 0, 0, .null, 0), (9, .getfield 10, 3, 0, 2, .null, 105), (12, .iconst 0, 1, 0, 0, .int 0, 0), (13, .putfield 62, 3, 2, 0, .int 0, 36), (16, .aload_n 0, 1, 0, 0, .null, 0), (17, .iconst 0, 1, 0, 0, .int 0, 0), (18, .putfield 31, 3, 4, 2, .int 0, 109), (21, .aload_n 0, 1, 0, 0, .null, 0), (22, .invokevirtual 48, 3, 0, 0, .null, 0), (25, .aload_n 0, 1, 0, 0, .null, 0), (26, .getfield 19, 3, 1, 2, .null, 106), (29, .invokevirtual 51, 3, 0, 0, .null, 0), (32, .iload_n 1, 1, 1, 0, .null, 0), (33, .ireturn, 1, 0, 0, .null, 0)]
theorem kkX3_clear : pgX3_clear.all (chk cX3_clear 2 yX3_clear.cls) = true := by decide +kernel
def pgX3_isEnd : List En := [(0, .iload_n 0, 1, 0, 0, .null, 0), (1, .ifCond .eq 8, 3, 9, 0, .null, 0), (4, .iload_n 0, 1, 0, 0, .null, 0), (5, .iconst 1, 1, 0, 0, .int 1, 0), (6, .if_icmp .ne 7, 3, 13, 0, .null, 0), (9, .iconst 1, 1, 0, 0, .int 1, 0), (10, .goto 4, 3, 14, 0, .null, 0), (13, .iconst 0, 1, 0, 0, .int 0, 0), (14, .ireturn, 1, 0, 0, .null, 0)]
theorem kkX3_isEnd : pgX3_isEnd.all (chk cX3_isEnd 1 yX3_isEnd.cls) = true := by decide +kernel
def pgX3_isBoxKind : List En := [(0, .iload_n 0, 1, 0, 0, .null, 0), (1, .ifCond .lt 12, 3, 13, 0, .null, 0), (4, .iload_n 0, 1, 0, 0, .null, 0), (5, .iconst 3, 1, 0, 0, .int 3, 0), (6, .if_icmp .gt 7, 3, 13, 0, .null, 0), (9, .iconst 1, 1, 0, 0, .int 1, 0), (10, .goto 4, 3, 14, 0, .null, 0), (13, .iconst 0, 1, 0, 0, .int 0, 0), (14, .ireturn, 1, 0, 0, .null, 0)]
theorem kkX3_isBoxKind : pgX3_isBoxKind.all (chk cX3_isBoxKind 1 yX3_isBoxKind.cls) = true := by decide +kernel
def pgX3_forgetRoles : List En := [(0, .iconst 0, 1, 0, 0, .int 0, 0), (1, .istore_n 1, 1, 1, 0, .null, 0), (2, .iload_n 1, 1, 1, 0, .null, 0), (3, .iconst 5, 1, 0, 0, .int 5, 0), (4, .if_icmp .ge 17, 3, 21, 0, .null, 0), (7, .aload_n 0, 1, 0, 0, .null, 0), (8, .getfield 27, 3, 3, 2, .null, 108), (11, .iload_n 1, 1, 1, 0, .null, 0), (12, .bipush (-5), 2, 0, 0, .int (-5), 0), (14, .iastore, 1, 0, 0, .null, 0), (15, .iinc 1 1, 3, 0, 0, .null, 0), (18, .goto (-16), 3, 2, 0, .null, 0), (21, .return_, 1, 0, 0, .null, 0)]
theorem kkX3_forgetRoles : pgX3_forgetRoles.all (chk cX3_forgetRoles 2 yX3_forgetRoles.cls) = true := by decide +kernel
def pgX3_settle : List En := [(0, .aload_n 0, 1, 0, 0, .null, 0), (1, .getfield 10, 3, 0, 2, .null, 105), (4, .aload_n 0, 1, 0, 0, .null, 0), (5, .getfield 35, 3, 5, 2, .null, 110), (8, .aload_n 0, 1, 0, 0, .null, 0), (9, .getfield 19, 3, 1, 2, .null, 106), (12, .getfield 102, 3, 0, 1, .null, 68), (15, .iload_n 1, 1, 1, 0, .null, 0), (16, .iconst 0, 1, 0, 0, .int 0, 0), (17, .invokestatic 105, 3, 0, 0, .null, 0), (20, .invokevirtual 115, 3, 0, 0, .null, 0), (23, .aload_n 0, 1, 0, 0, .null, 0), (24, .getfield 19, 3, 1, 2, .null, 106), (27, .getfield 93, 3, 3, 1, .null, 74), (30, .iload_n 1, 1, 1, 0, .null, 0), (31, .aload_n 0, 1, 0, 0, .null, 0), (32, .invokevirtual 162, 3, 0, 0, .null, 0), (35, .iastore, 1, 0, 0, .null, 0), (36, .aload_n 0, 1, 0, 0, .null, 0), (37, .getfield 19, 3, 1, 2, .null, 106), (40, .iload_n 1, 1, 1, 0, .null, 0), (41, .invokevirtual 165, 3, 0, 0, .null, 0), (44, .aload_n 0, 1, 0, 0, .null, 0), (45, .iload_n 1, 1, 1, 0, .null, 0), (46, .invokevirtual 168, 3, 0, 0, .null, 0), (49, .return_, 1, 0, 0, .null, 0)]
theorem kkX3_settle : pgX3_settle.all (chk cX3_settle 2 yX3_settle.cls) = true := by decide +kernel
def pgX3_kindNow : List En := [(0, .aload_n 0, 1, 0, 0, .null, 0), (1, .aload_n 0, 1, 0, 0, .null, 0), (2, .getfield 27, 3, 3, 2, .null, 108), (5, .iconst 0, 1, 0, 0, .int 0, 0), (6, .iaload, 1, 0, 0, .null, 0), (7, .invokevirtual 171, 3, 0, 0, .null, 0), (10, .ifCond .eq 5, 3, 15, 0, .null, 0), (13, .iconst 0, 1, 0, 0, .int 0, 0), (14, .ireturn, 1, 0, 0, .null, 0), (15, .aload_n 0, 1, 0, 0, .null, 0), (16, .aload_n 0, 1, 0, 0, .null, 0), (17, .getfield 27, 3, 3, 2, .null, 108), (20, .iconst 0, 1, 0, 0, .int 0, 0), (21, .iaload, 1, 0, 0, .null, 0), (22, .invokevirtual 174, 3, 0, 0, .null, 0), (25, .ifCond .eq 33, 3, 58, 0, .null, 0), (28, .aload_n 0, 1, 0, 0, .null, 0), (29, .aload_n 0, 1, 0, 0, .null, 0), (30, .getfield 27, 3, 3, 2, .null, 108), (33, .iconst 1, 1, 0, 0, .int 1, 0), (34, .iaload, 1, 0, 0, .null, 0), (35, .invokevirtual 174, 3, 0, 0, .null, 0), (38, .ifCond .eq 5, 3, 43, 0, .null, 0), (41, .iconst 1, 1, 0, 0, .int 1, 0), (42, .ireturn, 1, 0, 0, .null, 0), (43, .aload_n 0, 1, 0, 0, .null, 0), (44, .aload_n 0, 1, 0, 0, .null, 0), (45, .getfield 27, 3, 3, 2, .null, 108), (48, .iconst 1, 1, 0, 0, .int 1, 0), (49, .iaload, 1, 0, 0, .null, 0), (50, .invokevirtual 171, 3, 0, 0, .null, 0), (53, .ifCond .eq 5, 3, 58, 0, .null, 0), (56, .iconst 2, 1, 0, 0, .int 2, 0), (57, .ireturn, 1, 0, 0, .null, 0), (58, .iconst 3, 1, 0, 0, .int 3, 0), (59, .ireturn, 1, 0, 0, .null, 0)]
theorem kkX3_kindNow : pgX3_kindNow.all (chk cX3_kindNow 1 yX3_kindNow.cls) = true := by decide +kernel
def pgX3_surely : List En := [(0, .iload_n 1, 1, 1, 0, .null, 0), (1, .bipush (-5), 2, 0, 0, .int (-5), 0), (3, .if_icmp .eq 19, 3, 22, 0, .null, 0), (6, .lconst 0, 1, 0, 0, .long 0, 0), (7, .aload_n 0, 1, 0, 0, .null, 0), (8, .getfield 10, 3, 0, 2, .null, 105), (11, .getfield 119, 3, 0, 0, .null, 32), (14, .iload_n 1, 1, 1, 0, .null, 0), (15, .laload, 1, 0, 0, .null, 0), (16, .invokestatic 44, 3, 0, 0, .null, 0), (19, .ifCond .eq 7, 3, 26, 0, .null, 0), (22, .iconst 1, 1, 0, 0, .int 1, 0), (23, .goto 4, 3, 27, 0, .null, 0), (26, .iconst 0, 1, 0, 0, .int 0, 0), (27, .ireturn, 1, 0, 0, .null, 0)]
theorem kkX3_surely : pgX3_surely.all (chk cX3_surely 2 yX3_surely.cls) = true := by decide +kernel
def pgX3_surelyNot : List En := [(0, .iload_n 1, 1, 1, 0, .null, 0), (1, .bipush (-5), 2, 0, 0, .int (-5), 0), (3, .if_icmp .eq 23, 3, 26, 0, .null, 0), (6, .lconst 0, 1, 0, 0, .long 0, 0), (7, .aload_n 0, 1, 0, 0, .null, 0), (8, .getfield 10, 3, 0, 2, .null, 105), (11, .getfield 120, 3, 1, 0, .null, 34), (14, .iload_n 1, 1, 1, 0, .null, 0), (15, .laload, 1, 0, 0, .null, 0), (16, .invokestatic 44, 3, 0, 0, .null, 0), (19, .ifCond .ne 7, 3, 26, 0, .null, 0), (22, .iconst 1, 1, 0, 0, .int 1, 0), (23, .goto 4, 3, 27, 0, .null, 0), (26, .iconst 0, 1, 0, 0, .int 0, 0), (27, .ireturn, 1, 0, 0, .null, 0)]
theorem kkX3_surelyNot : pgX3_surelyNot.all (chk cX3_surelyNot 2 yX3_surelyNot.cls) = true := by decide +kernel
def pgX3_weigh : List En := [(0, .ldc2_w 177, 3, 0, 0, .long 4607182418800017408, 377), (3, .lstore_n 2, 1, 2, 0, .null, 0), (4, .ldc2_w 177, 3, 0, 0, .long 4607182418800017408, 377), (7, .lstore 4, 2, 0, 0, .null, 0), (9, .iconst 0, 1, 0, 0, .int 0, 0), (10, .istore 6, 2, 0, 0, .null, 0), (12, .iload 6, 2, 0, 0, .null, 0), (14, .aload_n 0, 1, 0, 0, .null, 0), (15, .getfield 31, 3, 4, 2, .null, 109), (18, .if_icmp .ge 97, 3, 115, 0, .null, 0), (21, .lload_n 2, 1, 2, 0, .null, 0), (22, .aload_n 0, 1, 0, 0, .null, 0), (23, .getfield 19, 3, 1, 2, .null, 106), (26, .getfield 179, 3, 4, 1, .null, 76), (29, .iload 6, 2, 0, 0, .null, 0), (31, .laload, 1, 0, 0, .null, 0), (32, .invokestatic 182, 3, 0, 0, .null, 0), (35, .invokestatic 186, 3, 0, 0, .null, 0), (38, .lstore_n 2, 1, 2, 0, .null, 0), (39, .lload 4, 2, 0, 0, .null, 0), (41, .aload_n 0, 1, 0, 0, .null, 0), (42, .getfield 19, 3, 1, 2, .null, 106), (45, .getfield 179, 3, 4, 1, .null, 76), (48, .iload 6, 2, 0, 0, .null, 0), (50, .laload, 1, 0, 0, .null, 0), (51, .invokestatic 190, 3, 0, 0, .null, 0), (54, .invokestatic 193, 3, 0, 0, .null, 0), (57, .lstore 4, 2, 0, 0, .null, 0), (59, .aload_n 0, 1, 0, 0, .null, 0), (60, .getfield 27, 3, 3, 2, .null, 108), (63, .iconst 2, 1, 0, 0, .int 2, 0), (64, .iload 6, 2, 0, 0, .null, 0), (66, .iadd, 1, 0, 0, .null, 0), (67, .iaload, 1, 0, 0, .null, 0), (68, .istore 7, 2, 0, 0, .null, 0), (70, .iload 7, 2, 0, 0, .null, 0), (72, .bipush (-5), 2, 0, 0, .int (-5), 0), (74, .if_icmp .eq 35, 3, 109, 0, .null, 0), (77, .lload_n 2, 1, 2, 0, .null, 0), (78, .aload_n 0, 1, 0, 0, .null, 0), (79, .getfield 10, 3, 0, 2, .null, 105), (82, .getfield 119, 3, 0, 0, .null, 32), (85, .iload 7, 2, 0, 0, .null, 0), (87, .laload, 1, 0, 0, .null, 0), (88, .invokestatic 186, 3, 0, 0, .null, 0), (91, .lstore_n 2, 1, 2, 0, .null, 0), (92, .lload 4, 2, 0, 0, .null, 0), (94, .aload_n 0, 1, 0, 0, .null, 0), (95, .getfield 10, 3, 0, 2, .null, 105), (98, .getfield 120, 3, 1, 0, .null, 34), (101, .iload 7, 2, 0, 0, .null, 0), (103, .laload, 1, 0, 0, .null, 0), (104, .invokestatic 193, 3, 0, 0, .null, 0), (107, .lstore 4, 2, 0, 0, .null, 0), (109, .iinc 6 1, 3, 0, 0, .null, 0), (112, .goto (-100), 3, 12, 0, .null, 0), (115, .aload_n 0, 1, 0, 0, .null, 0), (116, .getfield 19, 3, 1, 2, .null, 106), (119, .getfield 109, 3, 1, 1, .null, 70), (122, .iload_n 1, 1, 1, 0, .null, 0), (123, .lload_n 2, 1, 2, 0, .null, 0), (124, .lastore, 1, 0, 0, .null, 0), (125, .aload_n 0, 1, 0, 0, .null, 0), (126, .getfield 19, 3, 1, 2, .null, 106), (129, .getfield 112, 3, 2, 1, .null, 72), (132, .iload_n 1, 1, 1, 0, .null, 0), (133, .lload 4, 2, 0, 0, .null, 0), (135, .lastore, 1, 0, 0, .null, 0), (136, .return_, 1, 0, 0, .null, 0)]
theorem kkX3_weigh : pgX3_weigh.all (chk cX3_weigh 8 yX3_weigh.cls) = true := by decide +kernel
def pgX3_lowOdds : List En := [(0, .aload_n 0, 1, 0, 0, .null, 0), (1, .getfield 19, 3, 1, 2, .null, 106), (4, .iconst 1, 1, 0, 0, .int 1, 0), (5, .invokevirtual 139, 3, 0, 0, .null, 0), (8, .lstore_n 1, 1, 1, 0, .null, 0), (9, .lload_n 1, 1, 1, 0, .null, 0), (10, .aload_n 0, 1, 0, 0, .null, 0), (11, .getfield 19, 3, 1, 2, .null, 106), (14, .iconst 2, 1, 0, 0, .int 2, 0), (15, .invokevirtual 143, 3, 0, 0, .null, 0), (18, .invokestatic 196, 3, 0, 0, .null, 0), (21, .invokestatic 190, 3, 0, 0, .null, 0), (24, .lstore_n 3, 1, 3, 0, .null, 0), (25, .lload_n 3, 1, 3, 0, .null, 0), (26, .aload_n 0, 1, 0, 0, .null, 0), (27, .getfield 19, 3, 1, 2, .null, 106), (30, .iconst 3, 1, 0, 0, .int 3, 0), (31, .invokevirtual 143, 3, 0, 0, .null, 0), (34, .invokestatic 196, 3, 0, 0, .null, 0), (37, .invokestatic 190, 3, 0, 0, .null, 0), (40, .lstore 5, 2, 0, 0, .null, 0), (42, .lload_n 1, 1, 1, 0, .null, 0), (43, .lload 5, 2, 0, 0, .null, 0), (45, .invokestatic 199, 3, 0, 0, .null, 0), (48, .invokestatic 182, 3, 0, 0, .null, 0), (51, .invokestatic 202, 3, 0, 0, .null, 0), (54, .lreturn, 1, 0, 0, .null, 0)]
theorem kkX3_lowOdds : pgX3_lowOdds.all (chk cX3_lowOdds 7 yX3_lowOdds.cls) = true := by decide +kernel
def pgX3_highOdds : List En := [(0, .aload_n 0, 1, 0, 0, .null, 0), (1, .getfield 19, 3, 1, 2, .null, 106), (4, .iconst 1, 1, 0, 0, .int 1, 0), (5, .invokevirtual 143, 3, 0, 0, .null, 0), (8, .aload_n 0, 1, 0, 0, .null, 0), (9, .getfield 19, 3, 1, 2, .null, 106), (12, .iconst 3, 1, 0, 0, .int 3, 0), (13, .invokevirtual 143, 3, 0, 0, .null, 0), (16, .invokestatic 196, 3, 0, 0, .null, 0), (19, .invokestatic 190, 3, 0, 0, .null, 0), (22, .lstore_n 1, 1, 1, 0, .null, 0), (23, .lload_n 1, 1, 1, 0, .null, 0), (24, .aload_n 0, 1, 0, 0, .null, 0), (25, .getfield 19, 3, 1, 2, .null, 106), (28, .iconst 2, 1, 0, 0, .int 2, 0), (29, .invokevirtual 139, 3, 0, 0, .null, 0), (32, .invokestatic 196, 3, 0, 0, .null, 0), (35, .invokestatic 182, 3, 0, 0, .null, 0), (38, .lstore_n 3, 1, 3, 0, .null, 0), (39, .lload_n 1, 1, 1, 0, .null, 0), (40, .lload_n 3, 1, 3, 0, .null, 0), (41, .invokestatic 199, 3, 0, 0, .null, 0), (44, .invokestatic 190, 3, 0, 0, .null, 0), (47, .invokestatic 205, 3, 0, 0, .null, 0), (50, .lreturn, 1, 0, 0, .null, 0)]
theorem kkX3_highOdds : pgX3_highOdds.all (chk cX3_highOdds 5 yX3_highOdds.cls) = true := by decide +kernel
end
section
def pgX4_thrown : List En := [(0, .aload_n 0, 1, 0, 0, .null, 0), (1, .getfield 56, 3, 0, 3, .null, 634), (4, .ireturn, 1, 0, 0, .null, 0)]
theorem kkX4_thrown : pgX4_thrown.all (chk cX4_thrown 1 yX4_thrown.cls) = true := by decide +kernel
def pgX4_in : List En := [(0, .iload_n 0, 1, 0, 0, .null, 0), (1, .iload_n 1, 1, 1, 0, .null, 0), (2, .if_icmp .lt 12, 3, 14, 0, .null, 0), (5, .iload_n 0, 1, 0, 0, .null, 0), (6, .iload_n 2, 1, 2, 0, .null, 0), (7, .if_icmp .gt 7, 3, 14, 0, .null, 0), (10, .iconst 1, 1, 0, 0, .int 1, 0), (11, .goto 4, 3, 15, 0, .null, 0), (14, .iconst 0, 1, 0, 0, .int 0, 0), (15, .ireturn, 1, 0, 0, .null, 0)]
theorem kkX4_in : pgX4_in.all (chk cX4_in 3 yX4_in.cls) = true := by decide +kernel
def pgX4_bits : List En := [(0, .dload_n 0, 1, 0, 0, .null, 0), (1, .invokestatic 60, 3, 0, 0, .null, 0), (4, .lreturn, 1, 0, 0, .null, 0)]
theorem kkX4_bits : pgX4_bits.all (chk cX4_bits 2 yX4_bits.cls) = true := by decide +kernel
def pgX4_of : List En := [(0, .lload_n 0, 1, 0, 0, .null, 0), (1, .ldc2_w 66, 3, 0, 0, .long 9223372036854775807, 710), (4, .land, 1, 0, 0, .null, 0), (5, .ldc2_w 68, 3, 0, 0, .long 9218868437227405312, 711), (8, .lcmp, 1, 0, 0, .null, 0), (9, .ifCond .le 9, 3, 18, 0, .null, 0), (12, .ldc2_w 70, 3, 0, 0, .double 9221120237041090560, 712), (15, .goto 7, 3, 22, 0, .null, 0), (18, .lload_n 0, 1, 0, 0, .null, 0), (19, .invokestatic 72, 3, 0, 0, .null, 0), (22, .dreturn, 1, 0, 0, .null, 0)]
theorem kkX4_of : pgX4_of.all (chk cX4_of 2 yX4_of.cls) = true := by decide +kernel
def pgX4_isNot : List En := [(0, .dload_n 0, 1, 0, 0, .null, 0), (1, .dload_n 0, 1, 0, 0, .null, 0), (2, .dcmp .l, 1, 0, 0, .null, 0), (3, .ifCond .eq 7, 3, 10, 0, .null, 0), (6, .iconst 1, 1, 0, 0, .int 1, 0), (7, .goto 4, 3, 11, 0, .null, 0), (10, .iconst 0, 1, 0, 0, .int 0, 0), (11, .ireturn, 1, 0, 0, .null, 0)]
theorem kkX4_isNot : pgX4_isNot.all (chk cX4_isNot 2 yX4_isNot.cls) = true := by decide +kernel
def pgX4_up : List En := [(0, .dload_n 0, 1, 0, 0, .null, 0), (1, .dload_n 0, 1, 0, 0, .null, 0), (2, .dcmp .l, 1, 0, 0, .null, 0), (3, .ifCond .ne 11, 3, 14, 0, .null, 0), (6, .dload_n 0, 1, 0, 0, .null, 0), (7, .ldc2_w 76, 3, 0, 0, .double 9218868437227405312, 717), (10, .dcmp .l, 1, 0, 0, .null, 0), (11, .ifCond .ne 5, 3, 16, 0, .null, 0), (14, .dload_n 0, 1, 0, 0, .null, 0), (15, .dreturn, 1, 0, 0, .null, 0), (16, .dload_n 0, 1, 0, 0, .null, 0), (17, .dconst 0, 1, 0, 0, .double FP.dconst0, 0), (18, .dcmp .l, 1, 0, 0, .null, 0), (19, .ifCond .ne 8, 3, 27, 0, .null, 0), (22, .lconst 1, 1, 0, 0, .long 1, 0), (23, .invokestatic 78, 3, 0, 0, .null, 0), (26, .dreturn, 1, 0, 0, .null, 0), (27, .dload_n 0, 1, 0, 0, .null, 0), (28, .dconst 0, 1, 0, 0, .double FP.dconst0, 0), (29, .dcmp .l, 1, 0, 0, .null, 0), (30, .ifCond .le 12, 3, 42, 0, .null, 0), (33, .dload_n 0, 1, 0, 0, .null, 0), (34, .invokestatic 81, 3, 0, 0, .null, 0), (37, .lconst 1, 1, 0, 0, .long 1, 0), (38, .ladd, 1, 0, 0, .null, 0), (39, .goto 9, 3, 48, 0, .null, 0), (42, .dload_n 0, 1, 0, 0, .null, 0), (43, .invokestatic 81, 3, 0, 0, .null, 0), (46, .lconst 1, 1, 0, 0, .long 1, 0), (47, .lsub, 1, 0, 0, .null, 0), (48, .invokestatic 78, 3, 0, 0, .null, 0), (51, .dreturn, 1, 0, 0, .null, 0)]
theorem kkX4_up : pgX4_up.all (chk cX4_up 2 yX4_up.cls) = true := by decide +kernel
def pgX4_down : List En := [(0, .dload_n 0, 1, 0, 0, .null, 0), (1, .dload_n 0, 1, 0, 0, .null, 0), (2, .dcmp .l, 1, 0, 0, .null, 0), (3, .ifCond .eq 7, 3, 10, 0, .null, 0), (6, .dload_n 0, 1, 0, 0, .null, 0), (7, .goto 9, 3, 16, 0, .null, 0), (10, .dload_n 0, 1, 0, 0, .null, 0), (11, .dneg, 1, 0, 0, .null, 0), (12, .invokestatic 84, 3, 0, 0, .null, 0), (15, .dneg, 1, 0, 0, .null, 0), (16, .dreturn, 1, 0, 0, .null, 0)]
theorem kkX4_down : pgX4_down.all (chk cX4_down 2 yX4_down.cls) = true := by decide +kernel
def pgX4_isMinus : List En := [(0, .dload_n 0, 1, 0, 0, .null, 0), (1, .invokestatic 81, 3, 0, 0, .null, 0), (4, .lconst 0, 1, 0, 0, .long 0, 0), (5, .lcmp, 1, 0, 0, .null, 0), (6, .ifCond .ge 7, 3, 13, 0, .null, 0), (9, .iconst 1, 1, 0, 0, .int 1, 0), (10, .goto 4, 3, 14, 0, .null, 0), (13, .iconst 0, 1, 0, 0, .int 0, 0), (14, .ireturn, 1, 0, 0, .null, 0)]
theorem kkX4_isMinus : pgX4_isMinus.all (chk cX4_isMinus 2 yX4_isMinus.cls) = true := by decide +kernel
def pgX4_least : List En := [(0, .dload_n 0, 1, 0, 0, .null, 0), (1, .dload_n 0, 1, 0, 0, .null, 0), (2, .dcmp .l, 1, 0, 0, .null, 0), (3, .ifCond .ne 9, 3, 12, 0, .null, 0), (6, .dload_n 2, 1, 2, 0, .null, 0), (7, .dload_n 2, 1, 2, 0, .null, 0), (8, .dcmp .l, 1, 0, 0, .null, 0), (9, .ifCond .eq 7, 3, 16, 0, .null, 0), (12, .ldc2_w 70, 3, 0, 0, .double 9221120237041090560, 712), (15, .dreturn, 1, 0, 0, .null, 0), (16, .dload_n 0, 1, 0, 0, .null, 0), (17, .dload_n 2, 1, 2, 0, .null, 0), (18, .dcmp .g, 1, 0, 0, .null, 0), (19, .ifCond .lt 16, 3, 35, 0, .null, 0), (22, .dload_n 0, 1, 0, 0, .null, 0), (23, .dload_n 2, 1, 2, 0, .null, 0), (24, .dcmp .l, 1, 0, 0, .null, 0), (25, .ifCond .ne 14, 3, 39, 0, .null, 0), (28, .dload_n 0, 1, 0, 0, .null, 0), (29, .invokestatic 88, 3, 0, 0, .null, 0), (32, .ifCond .eq 7, 3, 39, 0, .null, 0), (35, .dload_n 0, 1, 0, 0, .null, 0), (36, .goto 4, 3, 40, 0, .null, 0), (39, .dload_n 2, 1, 2, 0, .null, 0), (40, .dreturn, 1, 0, 0, .null, 0)]
theorem kkX4_least : pgX4_least.all (chk cX4_least 4 yX4_least.cls) = true := by decide +kernel
def pgX4_greatest : List En := [(0, .dload_n 0, 1, 0, 0, .null, 0), (1, .dload_n 0, 1, 0, 0, .null, 0), (2, .dcmp .l, 1, 0, 0, .null, 0), (3, .ifCond .ne 9, 3, 12, 0, .null, 0), (6, .dload_n 2, 1, 2, 0, .null, 0), (7, .dload_n 2, 1, 2, 0, .null, 0), (8, .dcmp .l, 1, 0, 0, .null, 0), (9, .ifCond .eq 7, 3, 16, 0, .null, 0), (12, .ldc2_w 70, 3, 0, 0, .double 9221120237041090560, 712), (15, .dreturn, 1, 0, 0, .null, 0), (16, .dload_n 0, 1, 0, 0, .null, 0), (17, .dload_n 2, 1, 2, 0, .null, 0), (18, .dcmp .l, 1, 0, 0, .null, 0), (19, .ifCond .gt 16, 3, 35, 0, .null, 0), (22, .dload_n 0, 1, 0, 0, .null, 0), (23, .dload_n 2, 1, 2, 0, .null, 0), (24, .dcmp .l, 1, 0, 0, .null, 0), (25, .ifCond .ne 14, 3, 39, 0, .null, 0), (28, .dload_n 0, 1, 0, 0, .null, 0), (29, .invokestatic 88, 3, 0, 0, .null, 0), (32, .ifCond .ne 7, 3, 39, 0, .null, 0), (35, .dload_n 0, 1, 0, 0, .null, 0), (36, .goto 4, 3, 40, 0, .null, 0), (39, .dload_n 2, 1, 2, 0, .null, 0), (40, .dreturn, 1, 0, 0, .null, 0)]
theorem kkX4_greatest : pgX4_greatest.all (chk cX4_greatest 4 yX4_greatest.cls) = true := by decide +kernel
def pgX4_size : List En := [(0, .dload_n 0, 1, 0, 0, .null, 0), (1, .invokestatic 88, 3, 0, 0, .null, 0), (4, .ifCond .eq 8, 3, 12, 0, .null, 0), (7, .dload_n 0, 1, 0, 0, .null, 0), (8, .dneg, 1, 0, 0, .null, 0), (9, .goto 4, 3, 13, 0, .null, 0), (12, .dload_n 0, 1, 0, 0, .null, 0), (13, .dreturn, 1, 0, 0, .null, 0)]
theorem kkX4_size : pgX4_size.all (chk cX4_size 2 yX4_size.cls) = true := by decide +kernel
def pgX4_isFar : List En := [(0, .dload_n 0, 1, 0, 0, .null, 0), (1, .ldc2_w 76, 3, 0, 0, .double 9218868437227405312, 717), (4, .dcmp .l, 1, 0, 0, .null, 0), (5, .ifCond .eq 11, 3, 16, 0, .null, 0), (8, .dload_n 0, 1, 0, 0, .null, 0), (9, .ldc2_w 92, 3, 0, 0, .double 18442240474082181120, 716), (12, .dcmp .l, 1, 0, 0, .null, 0), (13, .ifCond .ne 7, 3, 20, 0, .null, 0), (16, .iconst 1, 1, 0, 0, .int 1, 0), (17, .goto 4, 3, 21, 0, .null, 0), (20, .iconst 0, 1, 0, 0, .int 0, 0), (21, .ireturn, 1, 0, 0, .null, 0)]
theorem kkX4_isFar : pgX4_isFar.all (chk cX4_isFar 2 yX4_isFar.cls) = true := by decide +kernel
def pgX4_added : List En := [(0, .dload_n 0, 1, 0, 0, .null, 0), (1, .dload_n 0, 1, 0, 0, .null, 0), (2, .dcmp .l, 1, 0, 0, .null, 0), (3, .ifCond .ne 29, 3, 32, 0, .null, 0), (6, .dload_n 2, 1, 2, 0, .null, 0), (7, .dload_n 2, 1, 2, 0, .null, 0), (8, .dcmp .l, 1, 0, 0, .null, 0), (9, .ifCond .ne 23, 3, 32, 0, .null, 0), (12, .dload_n 0, 1, 0, 0, .null, 0), (13, .invokestatic 94, 3, 0, 0, .null, 0), (16, .ifCond .eq 22, 3, 38, 0, .null, 0), (19, .dload_n 2, 1, 2, 0, .null, 0), (20, .invokestatic 94, 3, 0, 0, .null, 0), (23, .ifCond .eq 15, 3, 38, 0, .null, 0), (26, .dload_n 0, 1, 0, 0, .null, 0), (27, .dload_n 2, 1, 2, 0, .null, 0), (28, .dcmp .l, 1, 0, 0, .null, 0), (29, .ifCond .eq 9, 3, 38, 0, .null, 0), (32, .ldc2_w 70, 3, 0, 0, .double 9221120237041090560, 712), (35, .goto 6, 3, 41, 0, .null, 0), (38, .dload_n 0, 1, 0, 0, .null, 0), (39, .dload_n 2, 1, 2, 0, .null, 0), (40, .dadd, 1, 0, 0, .null, 0), (41, .dreturn, 1, 0, 0, .null, 0)]
theorem kkX4_added : pgX4_added.all (chk cX4_added 4 yX4_added.cls) = true := by decide +kernel
def pgX4_lessened : List En := [(0, .dload_n 0, 1, 0, 0, .null, 0), (1, .dload_n 0, 1, 0, 0, .null, 0), (2, .dcmp .l, 1, 0, 0, .null, 0), (3, .ifCond .ne 22, 3, 25, 0, .null, 0), (6, .dload_n 2, 1, 2, 0, .null, 0), (7, .dload_n 2, 1, 2, 0, .null, 0), (8, .dcmp .l, 1, 0, 0, .null, 0), (9, .ifCond .ne 16, 3, 25, 0, .null, 0), (12, .dload_n 0, 1, 0, 0, .null, 0), (13, .invokestatic 94, 3, 0, 0, .null, 0), (16, .ifCond .eq 15, 3, 31, 0, .null, 0), (19, .dload_n 0, 1, 0, 0, .null, 0), (20, .dload_n 2, 1, 2, 0, .null, 0), (21, .dcmp .l, 1, 0, 0, .null, 0), (22, .ifCond .ne 9, 3, 31, 0, .null, 0), (25, .ldc2_w 70, 3, 0, 0, .double 9221120237041090560, 712), (28, .goto 6, 3, 34, 0, .null, 0), (31, .dload_n 0, 1, 0, 0, .null, 0), (32, .dload_n 2, 1, 2, 0, .null, 0), (33, .dsub, 1, 0, 0, .null, 0), (34, .dreturn, 1, 0, 0, .null, 0)]
theorem kkX4_lessened : pgX4_lessened.all (chk cX4_lessened 4 yX4_lessened.cls) = true := by decide +kernel
def pgX4_timed : List En := [(0, .dload_n 0, 1, 0, 0, .null, 0), (1, .dload_n 0, 1, 0, 0, .null, 0), (2, .dcmp .l, 1, 0, 0, .null, 0), (3, .ifCond .ne 35, 3, 38, 0, .null, 0), (6, .dload_n 2, 1, 2, 0, .null, 0), (7, .dload_n 2, 1, 2, 0, .null, 0), (8, .dcmp .l, 1, 0, 0, .null, 0), (9, .ifCond .ne 29, 3, 38, 0, .null, 0), (12, .dload_n 0, 1, 0, 0, .null, 0), (13, .dconst 0, 1, 0, 0, .double FP.dconst0, 0), (14, .dcmp .l, 1, 0, 0, .null, 0), (15, .ifCond .ne 10, 3, 25, 0, .null, 0), (18, .dload_n 2, 1, 2, 0, .null, 0), (19, .invokestatic 94, 3, 0, 0, .null, 0), (22, .ifCond .ne 16, 3, 38, 0, .null, 0), (25, .dload_n 0, 1, 0, 0, .null, 0), (26, .invokestatic 94, 3, 0, 0, .null, 0), (29, .ifCond .eq 15, 3, 44, 0, .null, 0), (32, .dload_n 2, 1, 2, 0, .null, 0), (33, .dconst 0, 1, 0, 0, .double FP.dconst0, 0), (34, .dcmp .l, 1, 0, 0, .null, 0), (35, .ifCond .ne 9, 3, 44, 0, .null, 0), (38, .ldc2_w 70, 3, 0, 0, .double 9221120237041090560, 712), (41, .goto 6, 3, 47, 0, .null, 0), (44, .dload_n 0, 1, 0, 0, .null, 0), (45, .dload_n 2, 1, 2, 0, .null, 0), (46, .dmul, 1, 0, 0, .null, 0), (47, .dreturn, 1, 0, 0, .null, 0)]
theorem kkX4_timed : pgX4_timed.all (chk cX4_timed 4 yX4_timed.cls) = true := by decide +kernel
def pgX4_divided : List En := [(0, .dload_n 0, 1, 0, 0, .null, 0), (1, .dload_n 0, 1, 0, 0, .null, 0), (2, .dcmp .l, 1, 0, 0, .null, 0), (3, .ifCond .ne 35, 3, 38, 0, .null, 0), (6, .dload_n 2, 1, 2, 0, .null, 0), (7, .dload_n 2, 1, 2, 0, .null, 0), (8, .dcmp .l, 1, 0, 0, .null, 0), (9, .ifCond .ne 29, 3, 38, 0, .null, 0), (12, .dload_n 0, 1, 0, 0, .null, 0), (13, .dconst 0, 1, 0, 0, .double FP.dconst0, 0), (14, .dcmp .l, 1, 0, 0, .null, 0), (15, .ifCond .ne 9, 3, 24, 0, .null, 0), (18, .dload_n 2, 1, 2, 0, .null, 0), (19, .dconst 0, 1, 0, 0, .double FP.dconst0, 0), (20, .dcmp .l, 1, 0, 0, .null, 0), (21, .ifCond .eq 17, 3, 38, 0, .null, 0), (24, .dload_n 0, 1, 0, 0, .null, 0), (25, .invokestatic 94, 3, 0, 0, .null, 0), (28, .ifCond .eq 16, 3, 44, 0, .null, 0), (31, .dload_n 2, 1, 2, 0, .null, 0), (32, .invokestatic 94, 3, 0, 0, .null, 0), (35, .ifCond .eq 9, 3, 44, 0, .null, 0), (38, .ldc2_w 70, 3, 0, 0, .double 9221120237041090560, 712), (41, .goto 6, 3, 47, 0, .null, 0), (44, .dload_n 0, 1, 0, 0, .null, 0), (45, .dload_n 2, 1, 2, 0, .null, 0), (46, .ddiv, 1, 0, 0, .null, 0), (47, .dreturn, 1, 0, 0, .null, 0)]
theorem kkX4_divided : pgX4_divided.all (chk cX4_divided 4 yX4_divided.cls) = true := by decide +kernel
def pgX4_floor : List En := [(0, .dload_n 0, 1, 0, 0, .null, 0), (1, .dload_n 0, 1, 0, 0, .null, 0), (2, .dcmp .l, 1, 0, 0, .null, 0), (3, .ifCond .ne 20, 3, 23, 0, .null, 0), (6, .dload_n 0, 1, 0, 0, .null, 0), (7, .invokestatic 97, 3, 0, 0, .null, 0), (10, .ldc2_w 100, 3, 0, 0, .double 4841369599423283200, 801), (13, .dcmp .l, 1, 0, 0, .null, 0), (14, .ifCond .ge 9, 3, 23, 0, .null, 0), (17, .dload_n 0, 1, 0, 0, .null, 0), (18, .dconst 0, 1, 0, 0, .double FP.dconst0, 0), (19, .dcmp .l, 1, 0, 0, .null, 0), (20, .ifCond .ne 5, 3, 25, 0, .null, 0), (23, .dload_n 0, 1, 0, 0, .null, 0), (24, .dreturn, 1, 0, 0, .null, 0), (25, .dload_n 0, 1, 0, 0, .null, 0), (26, .d2l, 1, 0, 0, .null, 0), (27, .l2d, 1, 0, 0, .null, 0), (28, .dstore_n 2, 1, 2, 0, .null, 0), (29, .dload_n 2, 1, 2, 0, .null, 0), (30, .dload_n 0, 1, 0, 0, .null, 0), (31, .dcmp .l, 1, 0, 0, .null, 0), (32, .ifCond .le 9, 3, 41, 0, .null, 0), (35, .dload_n 2, 1, 2, 0, .null, 0), (36, .dconst 1, 1, 0, 0, .double FP.dconst1, 0), (37, .dsub, 1, 0, 0, .null, 0), (38, .goto 20, 3, 58, 0, .null, 0), (41, .dload_n 2, 1, 2, 0, .null, 0), (42, .dconst 0, 1, 0, 0, .double FP.dconst0, 0), (43, .dcmp .l, 1, 0, 0, .null, 0), (44, .ifCond .ne 13, 3, 57, 0, .null, 0), (47, .dload_n 0, 1, 0, 0, .null, 0), (48, .dconst 0, 1, 0, 0, .double FP.dconst0, 0), (49, .dcmp .l, 1, 0, 0, .null, 0), (50, .ifCond .le 7, 3, 57, 0, .null, 0), (53, .dconst 0, 1, 0, 0, .double FP.dconst0, 0), (54, .goto 4, 3, 58, 0, .null, 0), (57, .dload_n 2, 1, 2, 0, .null, 0), (58, .dreturn, 1, 0, 0, .null, 0)]
theorem kkX4_floor : pgX4_floor.all (chk cX4_floor 4 yX4_floor.cls) = true := by decide +kernel
def pgX4_root : List En := [(0, .dload_n 0, 1, 0, 0, .null, 0), (1, .dload_n 0, 1, 0, 0, .null, 0), (2, .dcmp .l, 1, 0, 0, .null, 0), (3, .ifCond .ne 9, 3, 12, 0, .null, 0), (6, .dload_n 0, 1, 0, 0, .null, 0), (7, .dconst 0, 1, 0, 0, .double FP.dconst0, 0), (8, .dcmp .g, 1, 0, 0, .null, 0), (9, .ifCond .ge 7, 3, 16, 0, .null, 0), (12, .ldc2_w 70, 3, 0, 0, .double 9221120237041090560, 712), (15, .dreturn, 1, 0, 0, .null, 0), (16, .dload_n 0, 1, 0, 0, .null, 0), (17, .dconst 0, 1, 0, 0, .double FP.dconst0, 0), (18, .dcmp .l, 1, 0, 0, .null, 0), (19, .ifCond .eq 11, 3, 30, 0, .null, 0), (22, .dload_n 0, 1, 0, 0, .null, 0), (23, .ldc2_w 76, 3, 0, 0, .double 9218868437227405312, 717), (26, .dcmp .l, 1, 0, 0, .null, 0), (27, .ifCond .ne 5, 3, 32, 0, .null, 0), (30, .dload_n 0, 1, 0, 0, .null, 0), (31, .dreturn, 1, 0, 0, .null, 0), (32, .dload_n 0, 1, 0, 0, .null, 0), (33, .invokestatic 81, 3, 0, 0, .null, 0), (36, .lstore_n 2, 1, 2, 0, .null, 0), (37, .lload_n 2, 1, 2, 0, .null, 0), (38, .bipush 52, 2, 0, 0, .int 52, 0), (40, .lshr, 1, 0, 0, .null, 0), (41, .l2i, 1, 0, 0, .null, 0), (42, .sipush 1075, 3, 0, 0, .int 1075, 0), (45, .isub, 1, 0, 0, .null, 0), (46, .istore 4, 2, 0, 0, .null, 0), (48, .lload_n 2, 1, 2, 0, .null, 0), (49, .ldc2_w 102, 3, 0, 0, .long 4503599627370495, 794), (52, .land, 1, 0, 0, .null, 0), (53, .ldc2_w 104, 3, 0, 0, .long 4503599627370496, 795), (56, .lor, 1, 0, 0, .null, 0), (57, .lstore 5, 2, 0, 0, .null, 0), (59, .iload 4, 2, 0, 0, .null, 0), (61, .sipush (-1075), 3, 0, 0, .int (-1075), 0), (64, .if_icmp .ne 32, 3, 96, 0, .null, 0), (67, .sipush (-1074), 3, 0, 0, .int (-1074), 0), (70, .istore 4, 2, 0, 0, .null, 0), (72, .lload_n 2, 1, 2, 0, .null, 0), (73, .lstore 5, 2, 0, 0, .null, 0), (75, .lload 5, 2, 0, 0, .null, 0), (77, .ldc2_w 104, 3, 0, 0, .long 4503599627370496, 795), (80, .lcmp, 1, 0, 0, .null, 0), (81, .ifCond .ge 15, 3, 96, 0, .null, 0), (84, .lload 5, 2, 0, 0, .null, 0), (86, .iconst 1, 1, 0, 0, .int 1, 0), (87, .lshl, 1, 0, 0, .null, 0), (88, .lstore 5, 2, 0, 0, .null, 0), (90, .iinc 4 (-1), 3, 0, 0, .null, 0), (93, .goto (-18), 3, 75, 0, .null, 0), (96, .iload 4, 2, 0, 0, .null, 0), (98, .iconst 1, 1, 0, 0, .int 1, 0), (99, .iand, 1, 0, 0, .null, 0), (100, .iconst 1, 1, 0, 0, .int 1, 0), (101, .if_icmp .ne 12, 3, 113, 0, .null, 0), (104, .lload 5, 2, 0, 0, .null, 0), (106, .iconst 1, 1, 0, 0, .int 1, 0), (107, .lshl, 1, 0, 0, .null, 0), (108, .lstore 5, 2, 0, 0, .null, 0), (110, .iinc 4 (-1), 3, 0, 0, .null, 0), (113, .lconst 0, 1, 0, 0, .long 0, 0), (114, .lstore 7, 2, 0, 0, .null, 0), (116, .lconst 0, 1, 0, 0, .long 0, 0), (117, .lstore 9, 2, 0, 0, .null, 0), (119, .iconst 0, 1, 0, 0, .int 0, 0), (120, .istore 11, 2, 0, 0, .null, 0), (122, .iload 11, 2, 0, 0, .null, 0), (124, .bipush 54, 2, 0, 0, .int 54, 0), (126, .if_icmp .ge 76, 3, 202, 0, .null, 0), (129, .lload 7, 2, 0, 0, .null, 0), (131, .iconst 2, 1, 0, 0, .int 2, 0), (132, .lshl, 1, 0, 0, .null, 0), (133, .iload 11, 2, 0, 0, .null, 0), (135, .bipush 27, 2, 0, 0, .int 27, 0), (137, .if_icmp .ge 20, 3, 157, 0, .null, 0), (140, .lload 5, 2, 0, 0, .null, 0), (142, .bipush 52, 2, 0, 0, .int 52, 0), (144, .iconst 2, 1, 0, 0, .int 2, 0), (145, .iload 11, 2, 0, 0, .null, 0), (147, .imul, 1, 0, 0, .null, 0), (148, .isub, 1, 0, 0, .null, 0), (149, .lshr, 1, 0, 0, .null, 0), (150, .ldc2_w 106, 3, 0, 0, .long 3, 796), (153, .land, 1, 0, 0, .null, 0), (154, .goto 4, 3, 158, 0, .null, 0), (157, .lconst 0, 1, 0, 0, .long 0, 0), (158, .lor, 1, 0, 0, .null, 0), (159, .lstore 7, 2, 0, 0, .null, 0), (161, .lload 9, 2, 0, 0, .null, 0), (163, .iconst 2, 1, 0, 0, .int 2, 0), (164, .lshl, 1, 0, 0, .null, 0), (165, .lconst 1, 1, 0, 0, .long 1, 0), (166, .lor, 1, 0, 0, .null, 0), (167, .lstore 12, 2, 0, 0, .null, 0), (169, .lload 9, 2, 0, 0, .null, 0), (171, .iconst 1, 1, 0, 0, .int 1, 0), (172, .lshl, 1, 0, 0, .null, 0), (173, .lstore 9, 2, 0, 0, .null, 0), (175, .lload 7, 2, 0, 0, .null, 0), (177, .lload 12, 2, 0, 0, .null, 0), (179, .lcmp, 1, 0, 0, .null, 0), (180, .ifCond .lt 16, 3, 196, 0, .null, 0), (183, .lload 7, 2, 0, 0, .null, 0), (185, .lload 12, 2, 0, 0, .null, 0), (187, .lsub, 1, 0, 0, .null, 0), (188, .lstore 7, 2, 0, 0, .null, 0), (190, .lload 9, 2, 0, 0, .null, 0), (192, .lconst 1, 1, 0, 0, .long 1, 0), (193, .lor, 1, 0, 0, .null, 0), (194, .lstore 9, 2, 0, 0, .null, 0), (196, .iinc 11 1, 3, 0, 0, .null, 0), (199, .goto (-77), 3, 122, 0, .null, 0), (202, .lload 9, 2, 0, 0, .null, 0), (204, .lconst 1, 1, 0, 0, .long 1, 0), (205, .ladd, 1, 0, 0, .null, 0), (206, .iconst 1, 1, 0, 0, .int 1, 0), (207, .lshr, 1, 0, 0, .null, 0), (208, .lstore 9, 2, 0, 0, .null, 0), (210, .iload 4, 2, 0, 0, .null, 0), (212, .iconst 2, 1, 0, 0, .int 2, 0), (213, .idiv, 1, 0, 0, .null, 0), (214, .bipush 26, 2, 0, 0, .int 26, 0), (216, .isub, 1, 0, 0, .null, 0), (217, .istore 11, 2, 0, 0, .null, 0), (219, .lload 9, 2, 0, 0, .null, 0), (221, .ldc2_w 108, 3, 0, 0, .long 9007199254740992, 797), (224, .lcmp, 1, 0, 0, .null, 0), (225, .ifCond .ne 11, 3, 236, 0, .null, 0), (228, .ldc2_w 104, 3, 0, 0, .long 4503599627370496, 795), (231, .lstore 9, 2, 0, 0, .null, 0), (233, .iinc 11 1, 3, 0, 0, .null, 0), (236, .iload 11, 2, 0, 0, .null, 0), (238, .sipush 1075, 3, 0, 0, .int 1075, 0), (241, .iadd, 1, 0, 0, .null, 0), (242, .i2l, 1, 0, 0, .null, 0), (243, .bipush 52, 2, 0, 0, .int 52, 0), (245, .lshl, 1, 0, 0, .null, 0), (246, .lload 9, 2, 0, 0, .null, 0), (248, .ldc2_w 104, 3, 0, 0, .long 4503599627370496, 795), (251, .lsub, 1, 0, 0, .null, 0), (252, .lor, 1, 0, 0, .null, 0), (253, .invokestatic 78, 3, 0, 0, .null, 0), (256, .dreturn, 1, 0, 0, .null, 0)]
theorem kkX4_root : pgX4_root.all (chk cX4_root 14 yX4_root.cls) = true := by decide +kernel
def pgX4_ends : List En := [(0, .aload_n 0, 1, 0, 0, .null, 0), (1, .iconst 0, 1, 0, 0, .int 0, 0), (2, .putfield 110, 3, 10, 3, .null, 644), (5, .aload_n 0, 1, 0, 0, .null, 0), (6, .iconst 0, 1, 0, 0, .int 0, 0), (7, .putfield 114, 3, 11, 3, .int 0, 645), (10, .aload_n 0, 1, 0, 0, .null, 0), (11, .iconst 0, 1, 0, 0, .int 0, 0), (12, .putfield 117, 3, 12, 3, .int 0, 646), (15, .return_, 1, 0, 0, .null, 0)]
theorem kkX4_ends : pgX4_ends.all (chk cX4_ends 1 yX4_ends.cls) = true := by decide +kernel
def pgX4_draw : List En := [(0, .aload_n 0, 1, 0, 0, .null, 0), (1, .iconst 0, 1, 0, 0, .int 0, 0), (2, .putfield 56, 3, 0, 3, .int 0, 634), (5, .lload_n 1, 1, 1, 0, .null, 0), (6, .invokestatic 78, 3, 0, 0, .null, 0), (9, .dstore 5, 2, 0, 0, .null, 0), (11, .lload_n 3, 1, 3, 0, .null, 0), (12, .invokestatic 78, 3, 0, 0, .null, 0), (15, .dstore 7, 2, 0, 0, .null, 0), (17, .dload 5, 2, 0, 0, .null, 0), (19, .dload 7, 2, 0, 0, .null, 0), (21, .dcmp .g, 1, 0, 0, .null, 0), (22, .ifCond .ge 21, 3, 43, 0, .null, 0), (25, .dload 5, 2, 0, 0, .null, 0), (27, .ldc2_w 92, 3, 0, 0, .double 18442240474082181120, 716), (30, .dcmp .l, 1, 0, 0, .null, 0), (31, .ifCond .eq 12, 3, 43, 0, .null, 0), (34, .dload 7, 2, 0, 0, .null, 0), (36, .ldc2_w 76, 3, 0, 0, .double 9218868437227405312, 717), (39, .dcmp .l, 1, 0, 0, .null, 0), (40, .ifCond .ne 6, 3, 46, 0, .null, 0), (43, .bipush (-2), 2, 0, 0, .int (-2), 0), (45, .ireturn, 1, 0, 0, .null, 0), (46, .aload_n 0, 1, 0, 0, .null, 0), (47, .getfield 120, 3, 1, 3, .null, 635), (50, .iconst 3, 1, 0, 0, .int 3, 0), (51, .if_icmp .ne 6, 3, 57, 0, .null, 0), (54, .bipush (-4), 2, 0, 0, .int (-4), 0), (56, .ireturn, 1, 0, 0, .null, 0), (57, .aload_n 0, 1, 0, 0, .null, 0), (58, .getfield 7, 3, 2, 3, .null, 636), (61, .aload_n 0, 1, 0, 0, .null, 0), (62, .getfield 120, 3, 1, 3, .null, 635), (65, .dload 5, 2, 0, 0, .null, 0), (67, .dastore, 1, 0, 0, .null, 0), (68, .aload_n 0, 1, 0, 0, .null, 0), (69, .getfield 13, 3, 3, 3, .null, 637), (72, .aload_n 0, 1, 0, 0, .null, 0), (73, .getfield 120, 3, 1, 3, .null, 635), (76, .dload 7, 2, 0, 0, .null, 0), (78, .dastore, 1, 0, 0, .null, 0), (79, .aload_n 0, 1, 0, 0, .null, 0), (80, .dup, 1, 0, 0, .null, 0), (81, .getfield 120, 3, 1, 3, .null, 635), (84, .iconst 1, 1, 0, 0, .int 1, 0), (85, .iadd, 1, 0, 0, .null, 0), (86, .putfield 120, 3, 1, 3, .int 0, 635), (89, .iconst 0, 1, 0, 0, .int 0, 0), (90, .istore 9, 2, 0, 0, .null, 0), (92, .iload 9, 2, 0, 0, .null, 0), (94, .iconst 5, 1, 0, 0, .int 5, 0), (95, .if_icmp .ge 18, 3, 113, 0, .null, 0), (98, .aload_n 0, 1, 0, 0, .null, 0), (99, .getfield 29, 3, 9, 3, .null, 643), (102, .iload 9, 2, 0, 0, .null, 0), (104, .bipush (-5), 2, 0, 0, .int (-5), 0), (106, .iastore, 1, 0, 0, .null, 0), (107, .iinc 9 1, 3, 0, 0, .null, 0), (110, .goto (-18), 3, 92, 0, .null, 0), (113, .aload_n 0, 1, 0, 0, .null, 0), (114, .invokevirtual 123, 3, 0, 0, .null, 0), (117, .aload_n 0, 1, 0, 0, .null, 0), (118, .getfield 120, 3, 1, 3, .null, 635), (121, .iconst 1, 1, 0, 0, .int 1, 0), (122, .isub, 1, 0, 0, .null, 0), (123, .ireturn, 1, 0, 0, .null, 0)]
theorem kkX4_draw : pgX4_draw.all (chk cX4_draw 10 yX4_draw.cls) = true := by decide +kernel
def pgX4_isNode : List En := [(0, .iload_n 1, 1, 1, 0, .null, 0), (1, .iconst 0, 1, 0, 0, .int 0, 0), (2, .aload_n 0, 1, 0, 0, .null, 0), (3, .getfield 126, 3, 4, 3, .null, 638), (6, .iconst 1, 1, 0, 0, .int 1, 0), (7, .isub, 1, 0, 0, .null, 0), (8, .invokestatic 129, 3, 0, 0, .null, 0), (11, .ireturn, 1, 0, 0, .null, 0)]
theorem kkX4_isNode : pgX4_isNode.all (chk cX4_isNode 2 yX4_isNode.cls) = true := by decide +kernel
def pgX4_isTwo : List En := [(0, .iload_n 0, 1, 0, 0, .null, 0), (1, .iconst 2, 1, 0, 0, .int 2, 0), (2, .bipush 7, 2, 0, 0, .int 7, 0), (4, .invokestatic 129, 3, 0, 0, .null, 0), (7, .ireturn, 1, 0, 0, .null, 0)]
theorem kkX4_isTwo : pgX4_isTwo.all (chk cX4_isTwo 1 yX4_isTwo.cls) = true := by decide +kernel
def pgX4_node : List En := [(0, .aload_n 0, 1, 0, 0, .null, 0), (1, .iconst 0, 1, 0, 0, .int 0, 0), (2, .putfield 56, 3, 0, 3, .int 0, 634), (5, .iload_n 1, 1, 1, 0, .null, 0), (6, .iconst 0, 1, 0, 0, .int 0, 0), (7, .bipush 16, 2, 0, 0, .int 16, 0), (9, .invokestatic 129, 3, 0, 0, .null, 0), (12, .ifCond .ne 6, 3, 18, 0, .null, 0), (15, .bipush (-2), 2, 0, 0, .int (-2), 0), (17, .ireturn, 1, 0, 0, .null, 0), (18, .iload_n 1, 1, 1, 0, .null, 0), (19, .ifCond .ne 17, 3, 36, 0, .null, 0), (22, .iload_n 2, 1, 2, 0, .null, 0), (23, .iconst 0, 1, 0, 0, .int 0, 0), (24, .aload_n 0, 1, 0, 0, .null, 0), (25, .getfield 120, 3, 1, 3, .null, 635), (28, .iconst 1, 1, 0, 0, .int 1, 0), (29, .isub, 1, 0, 0, .null, 0), (30, .invokestatic 129, 3, 0, 0, .null, 0), (33, .ifCond .eq 31, 3, 64, 0, .null, 0), (36, .iload_n 1, 1, 1, 0, .null, 0), (37, .iconst 1, 1, 0, 0, .int 1, 0), (38, .if_icmp .le 11, 3, 49, 0, .null, 0), (41, .aload_n 0, 1, 0, 0, .null, 0), (42, .iload_n 2, 1, 2, 0, .null, 0), (43, .invokevirtual 133, 3, 0, 0, .null, 0), (46, .ifCond .eq 18, 3, 64, 0, .null, 0), (49, .iload_n 1, 1, 1, 0, .null, 0), (50, .invokestatic 137, 3, 0, 0, .null, 0), (53, .ifCond .eq 13, 3, 66, 0, .null, 0), (56, .aload_n 0, 1, 0, 0, .null, 0), (57, .iload_n 3, 1, 3, 0, .null, 0), (58, .invokevirtual 133, 3, 0, 0, .null, 0), (61, .ifCond .ne 5, 3, 66, 0, .null, 0), (64, .iconst (-1), 1, 0, 0, .int (-1), 0), (65, .ireturn, 1, 0, 0, .null, 0), (66, .aload_n 0, 1, 0, 0, .null, 0), (67, .getfield 126, 3, 4, 3, .null, 638), (70, .bipush 32, 2, 0, 0, .int 32, 0), (72, .if_icmp .ne 6, 3, 78, 0, .null, 0), (75, .bipush (-4), 2, 0, 0, .int (-4), 0), (77, .ireturn, 1, 0, 0, .null, 0), (78, .aload_n 0, 1, 0, 0, .null, 0), (79, .getfield 16, 3, 5, 3, .null, 639), (82, .aload_n 0, 1, 0, 0, .null, 0), (83, .getfield 126, 3, 4, 3, .null, 638), (86, .iload_n 1, 1, 1, 0, .null, 0), (87, .iastore, 1, 0, 0, .null, 0), (88, .aload_n 0, 1, 0, 0, .null, 0), (89, .getfield 20, 3, 6, 3, .null, 640), (92, .aload_n 0, 1, 0, 0, .null, 0), (93, .getfield 126, 3, 4, 3, .null, 638), (96, .iload_n 2, 1, 2, 0, .null, 0), (97, .iastore, 1, 0, 0, .null, 0), (98, .aload_n 0, 1, 0, 0, .null, 0), (99, .getfield 23, 3, 7, 3, .null, 641), (102, .aload_n 0, 1, 0, 0, .null, 0), (103, .getfield 126, 3, 4, 3, .null, 638), (106, .iload_n 3, 1, 3, 0, .null, 0), (107, .iastore, 1, 0, 0, .null, 0), (108, .aload_n 0, 1, 0, 0, .null, 0), (109, .getfield 26, 3, 8, 3, .null, 642), (112, .aload_n 0, 1, 0, 0, .null, 0), (113, .getfield 126, 3, 4, 3, .null, 638), (116, .lload 4, 2, 0, 0, .null, 0), (118, .invokestatic 78, 3, 0, 0, .null, 0), (121, .dastore, 1, 0, 0, .null, 0), (122, .aload_n 0, 1, 0, 0, .null, 0), (123, .dup, 1, 0, 0, .null, 0), (124, .getfield 126, 3, 4, 3, .null, 638), (127, .iconst 1, 1, 0, 0, .int 1, 0), (128, .iadd, 1, 0, 0, .null, 0), (129, .putfield 126, 3, 4, 3, .int 0, 638), (132, .aload_n 0, 1, 0, 0, .null, 0), (133, .getfield 126, 3, 4, 3, .null, 638), (136, .iconst 1, 1, 0, 0, .int 1, 0), (137, .isub, 1, 0, 0, .null, 0), (138, .ireturn, 1, 0, 0, .null, 0)]
theorem kkX4_node : pgX4_node.all (chk cX4_node 6 yX4_node.cls) = true := by decide +kernel
def pgX4_role : List En := [(0, .aload_n 0, 1, 0, 0, .null, 0), (1, .iconst 0, 1, 0, 0, .int 0, 0), (2, .putfield 56, 3, 0, 3, .int 0, 634), (5, .iload_n 1, 1, 1, 0, .null, 0), (6, .iconst 0, 1, 0, 0, .int 0, 0), (7, .iconst 1, 1, 0, 0, .int 1, 0), (8, .aload_n 0, 1, 0, 0, .null, 0), (9, .getfield 120, 3, 1, 3, .null, 635), (12, .iadd, 1, 0, 0, .null, 0), (13, .invokestatic 129, 3, 0, 0, .null, 0), (16, .ifCond .ne 6, 3, 22, 0, .null, 0), (19, .bipush (-2), 2, 0, 0, .int (-2), 0), (21, .ireturn, 1, 0, 0, .null, 0), (22, .iload_n 2, 1, 2, 0, .null, 0), (23, .bipush (-5), 2, 0, 0, .int (-5), 0), (25, .if_icmp .eq 13, 3, 38, 0, .null, 0), (28, .aload_n 0, 1, 0, 0, .null, 0), (29, .iload_n 2, 1, 2, 0, .null, 0), (30, .invokevirtual 133, 3, 0, 0, .null, 0), (33, .ifCond .ne 5, 3, 38, 0, .null, 0), (36, .iconst (-1), 1, 0, 0, .int (-1), 0), (37, .ireturn, 1, 0, 0, .null, 0), (38, .aload_n 0, 1, 0, 0, .null, 0), (39, .getfield 29, 3, 9, 3, .null, 643), (42, .iload_n 1, 1, 1, 0, .null, 0), (43, .iaload, 1, 0, 0, .null, 0), (44, .istore_n 3, 1, 3, 0, .null, 0), (45, .aload_n 0, 1, 0, 0, .null, 0), (46, .getfield 29, 3, 9, 3, .null, 643), (49, .iload_n 1, 1, 1, 0, .null, 0), (50, .iload_n 2, 1, 2, 0, .null, 0), (51, .iastore, 1, 0, 0, .null, 0), (52, .aload_n 0, 1, 0, 0, .null, 0), (53, .invokevirtual 123, 3, 0, 0, .null, 0), (56, .iload_n 3, 1, 3, 0, .null, 0), (57, .ireturn, 1, 0, 0, .null, 0)]
theorem kkX4_role : pgX4_role.all (chk cX4_role 4 yX4_role.cls) = true := by decide +kernel
def pgX4_made : List En := [(0, .iload_n 0, 1, 0, 0, .null, 0), (1, .tableswitch 199 2 15 #[71, 77, 83, 89, 95, 101, 107, 112, 117, 123, 128, 141, 155, 185], 71, 200, 0, .null, 0), (72, .dload_n 1, 1, 1, 0, .null, 0), (73, .dload_n 3, 1, 3, 0, .null, 0), (74, .invokestatic 140, 3, 0, 0, .null, 0), (77, .dreturn, 1, 0, 0, .null, 0), (78, .dload_n 1, 1, 1, 0, .null, 0), (79, .dload_n 3, 1, 3, 0, .null, 0), (80, .invokestatic 144, 3, 0, 0, .null, 0), (83, .dreturn, 1, 0, 0, .null, 0), (84, .dload_n 1, 1, 1, 0, .null, 0), (85, .dload_n 3, 1, 3, 0, .null, 0), (86, .invokestatic 147, 3, 0, 0, .null, 0), (89, .dreturn, 1, 0, 0, .null, 0), (90, .dload_n 1, 1, 1, 0, .null, 0), (91, .dload_n 3, 1, 3, 0, .null, 0), (92, .invokestatic 150, 3, 0, 0, .null, 0), (95, .dreturn, 1, 0, 0, .null, 0), (96, .dload_n 1, 1, 1, 0, .null, 0), (97, .dload_n 3, 1, 3, 0, .null, 0), (98, .invokestatic 153, 3, 0, 0, .null, 0), (101, .dreturn, 1, 0, 0, .null, 0), (102, .dload_n 1, 1, 1, 0, .null, 0), (103, .dload_n 3, 1, 3, 0, .null, 0), (104, .invokestatic 156, 3, 0, 0, .null, 0), (107, .dreturn, 1, 0, 0, .null, 0), (108, .dload_n 1, 1, 1, 0, .null, 0), (109, .invokestatic 97, 3, 0, 0, .null, 0), (112, .dreturn, 1, 0, 0, .null, 0), (113, .dload_n 1, 1, 1, 0, .null, 0), (114, .invokestatic 159, 3, 0, 0, .null, 0), (117, .dreturn, 1, 0, 0, .null, 0), (118, .dload_n 1, 1, 1, 0, .null, 0), (119, .dload_n 1, 1, 1, 0, .null, 0), (120, .invokestatic 147, 3, 0, 0, .null, 0), (123, .dreturn, 1, 0, 0, .null, 0), (124, .dload_n 1, 1, 1, 0, .null, 0), (125, .invokestatic 162, 3, 0, 0, .null, 0), (128, .dreturn, 1, 0, 0, .null, 0), (129, .dload_n 1, 1, 1, 0, .null, 0), (130, .dload_n 1, 1, 1, 0, .null, 0), (131, .dcmp .l, 1, 0, 0, .null, 0), (132, .ifCond .eq 7, 3, 139, 0, .null, 0), (135, .dload_n 1, 1, 1, 0, .null, 0), (136, .goto 5, 3, 141, 0, .null, 0), (139, .dload_n 1, 1, 1, 0, .null, 0), (140, .dneg, 1, 0, 0, .null, 0), (141, .dreturn, 1, 0, 0, .null, 0), (142, .dload_n 1, 1, 1, 0, .null, 0), (143, .dload_n 1, 1, 1, 0, .null, 0), (144, .dcmp .l, 1, 0, 0, .null, 0), (145, .ifCond .eq 7, 3, 152, 0, .null, 0), (148, .dload_n 1, 1, 1, 0, .null, 0), (149, .goto 6, 3, 155, 0, .null, 0), (152, .dload_n 1, 1, 1, 0, .null, 0), (153, .d2f, 1, 0, 0, .null, 0), (154, .f2d, 1, 0, 0, .null, 0), (155, .dreturn, 1, 0, 0, .null, 0), (156, .dload_n 1, 1, 1, 0, .null, 0), (157, .dload_n 1, 1, 1, 0, .null, 0), (158, .dcmp .l, 1, 0, 0, .null, 0), (159, .ifCond .ne 9, 3, 168, 0, .null, 0), (162, .dload_n 1, 1, 1, 0, .null, 0), (163, .dconst 0, 1, 0, 0, .double FP.dconst0, 0), (164, .dcmp .l, 1, 0, 0, .null, 0), (165, .ifCond .ne 7, 3, 172, 0, .null, 0), (168, .dload_n 1, 1, 1, 0, .null, 0), (169, .goto 16, 3, 185, 0, .null, 0), (172, .dload_n 1, 1, 1, 0, .null, 0), (173, .dconst 0, 1, 0, 0, .double FP.dconst0, 0), (174, .dcmp .g, 1, 0, 0, .null, 0), (175, .ifCond .ge 9, 3, 184, 0, .null, 0), (178, .ldc2_w 165, 3, 0, 0, .double 13830554455654793216, 802), (181, .goto 4, 3, 185, 0, .null, 0), (184, .dconst 1, 1, 0, 0, .double FP.dconst1, 0), (185, .dreturn, 1, 0, 0, .null, 0), (186, .dload_n 1, 1, 1, 0, .null, 0), (187, .dload_n 1, 1, 1, 0, .null, 0), (188, .dcmp .l, 1, 0, 0, .null, 0), (189, .ifCond .eq 7, 3, 196, 0, .null, 0), (192, .dconst 0, 1, 0, 0, .double FP.dconst0, 0), (193, .goto 6, 3, 199, 0, .null, 0), (196, .dload_n 1, 1, 1, 0, .null, 0), (197, .d2i, 1, 0, 0, .null, 0), (198, .i2d, 1, 0, 0, .null, 0), (199, .dreturn, 1, 0, 0, .null, 0), (200, .dload_n 1, 1, 1, 0, .null, 0), (201, .dload_n 1, 1, 1, 0, .null, 0), (202, .dcmp .l, 1, 0, 0, .null, 0), (203, .ifCond .eq 7, 3, 210, 0, .null, 0), (206, .dconst 0, 1, 0, 0, .double FP.dconst0, 0), (207, .goto 6, 3, 213, 0, .null, 0), (210, .dload_n 1, 1, 1, 0, .null, 0), (211, .d2l, 1, 0, 0, .null, 0), (212, .l2d, 1, 0, 0, .null, 0), (213, .dreturn, 1, 0, 0, .null, 0)]
theorem kkX4_made : pgX4_made.all (chk cX4_made 5 yX4_made.cls) = true := by decide +kernel
def pgX4_valueAt : List En := [(0, .iconst 0, 1, 0, 0, .int 0, 0), (1, .istore 8, 2, 0, 0, .null, 0), (3, .iload 8, 2, 0, 0, .null, 0), (5, .iload_n 1, 1, 1, 0, .null, 0), (6, .if_icmp .gt 147, 3, 153, 0, .null, 0), (9, .aload_n 0, 1, 0, 0, .null, 0), (10, .getfield 16, 3, 5, 3, .null, 639), (13, .iload 8, 2, 0, 0, .null, 0), (15, .iaload, 1, 0, 0, .null, 0), (16, .ifCond .ne 45, 3, 61, 0, .null, 0), (19, .aload_n 0, 1, 0, 0, .null, 0), (20, .getfield 47, 3, 18, 3, .null, 652), (23, .iload 8, 2, 0, 0, .null, 0), (25, .aload_n 0, 1, 0, 0, .null, 0), (26, .getfield 20, 3, 6, 3, .null, 640), (29, .iload 8, 2, 0, 0, .null, 0), (31, .iaload, 1, 0, 0, .null, 0), (32, .ifCond .ne 7, 3, 39, 0, .null, 0), (35, .dload_n 2, 1, 2, 0, .null, 0), (36, .goto 21, 3, 57, 0, .null, 0), (39, .aload_n 0, 1, 0, 0, .null, 0), (40, .getfield 20, 3, 6, 3, .null, 640), (43, .iload 8, 2, 0, 0, .null, 0), (45, .iaload, 1, 0, 0, .null, 0), (46, .iconst 1, 1, 0, 0, .int 1, 0), (47, .if_icmp .ne 8, 3, 55, 0, .null, 0), (50, .dload 4, 2, 0, 0, .null, 0), (52, .goto 5, 3, 57, 0, .null, 0), (55, .dload 6, 2, 0, 0, .null, 0), (57, .dastore, 1, 0, 0, .null, 0), (58, .goto 89, 3, 147, 0, .null, 0), (61, .aload_n 0, 1, 0, 0, .null, 0), (62, .getfield 16, 3, 5, 3, .null, 639), (65, .iload 8, 2, 0, 0, .null, 0), (67, .iaload, 1, 0, 0, .null, 0), (68, .iconst 1, 1, 0, 0, .int 1, 0), (69, .if_icmp .ne 20, 3, 89, 0, .null, 0), (72, .aload_n 0, 1, 0, 0, .null, 0), (73, .getfield 47, 3, 18, 3, .null, 652), (76, .iload 8, 2, 0, 0, .null, 0), (78, .aload_n 0, 1, 0, 0, .null, 0), (79, .getfield 26, 3, 8, 3, .null, 642), (82, .iload 8, 2, 0, 0, .null, 0), (84, .daload, 1, 0, 0, .null, 0), (85, .dastore, 1, 0, 0, .null, 0), (86, .goto 61, 3, 147, 0, .null, 0), (89, .aload_n 0, 1, 0, 0, .null, 0), (90, .getfield 47, 3, 18, 3, .null, 652), (93, .iload 8, 2, 0, 0, .null, 0), (95, .aload_n 0, 1, 0, 0, .null, 0), (96, .getfield 16, 3, 5, 3, .null, 639), (99, .iload 8, 2, 0, 0, .null, 0), (101, .iaload, 1, 0, 0, .null, 0), (102, .aload_n 0, 1, 0, 0, .null, 0), (103, .getfield 47, 3, 18, 3, .null, 652), (106, .aload_n 0, 1, 0, 0, .null, 0), (107, .getfield 20, 3, 6, 3, .null, 640), (110, .iload 8, 2, 0, 0, .null, 0), (112, .iaload, 1, 0, 0, .null, 0), (113, .daload, 1, 0, 0, .null, 0), (114, .aload_n 0, 1, 0, 0, .null, 0), (115, .getfield 16, 3, 5, 3, .null, 639), (118, .iload 8, 2, 0, 0, .null, 0), (120, .iaload, 1, 0, 0, .null, 0), (121, .invokestatic 137, 3, 0, 0, .null, 0), (124, .ifCond .eq 18, 3, 142, 0, .null, 0), (127, .aload_n 0, 1, 0, 0, .null, 0), (128, .getfield 47, 3, 18, 3, .null, 652), (131, .aload_n 0, 1, 0, 0, .null, 0), (132, .getfield 23, 3, 7, 3, .null, 641), (135, .iload 8, 2, 0, 0, .null, 0), (137, .iaload, 1, 0, 0, .null, 0), (138, .daload, 1, 0, 0, .null, 0), (139, .goto 4, 3, 143, 0, .null, 0), (142, .dconst 0, 1, 0, 0, .double FP.dconst0, 0), (143, .invokestatic 167, 3, 0, 0, .null, 0), (146, .dastore, 1, 0, 0, .null, 0), (147, .iinc 8 1, 3, 0, 0, .null, 0), (150, .goto (-147), 3, 3, 0, .null, 0), (153, .aload_n 0, 1, 0, 0, .null, 0), (154, .getfield 47, 3, 18, 3, .null, 652), (157, .iload_n 1, 1, 1, 0, .null, 0), (158, .daload, 1, 0, 0, .null, 0), (159, .dreturn, 1, 0, 0, .null, 0)]
theorem kkX4_valueAt : pgX4_valueAt.all (chk cX4_valueAt 9 yX4_valueAt.cls) = true := by decide +kernel
def pgX4_value : List En := [(0, .aload_n 0, 1, 0, 0, .null, 0), (1, .iconst 0, 1, 0, 0, .int 0, 0), (2, .putfield 56, 3, 0, 3, .int 0, 634), (5, .aload_n 0, 1, 0, 0, .null, 0), (6, .iload_n 1, 1, 1, 0, .null, 0), (7, .invokevirtual 133, 3, 0, 0, .null, 0), (10, .ifCond .eq 28, 3, 38, 0, .null, 0), (13, .aload_n 0, 1, 0, 0, .null, 0), (14, .iload_n 1, 1, 1, 0, .null, 0), (15, .lload_n 2, 1, 2, 0, .null, 0), (16, .invokestatic 78, 3, 0, 0, .null, 0), (19, .lload 4, 2, 0, 0, .null, 0), (21, .invokestatic 78, 3, 0, 0, .null, 0), (24, .lload 6, 2, 0, 0, .null, 0), (26, .invokestatic 78, 3, 0, 0, .null, 0), (29, .invokevirtual 171, 3, 0, 0, .null, 0), (32, .invokestatic 81, 3, 0, 0, .null, 0), (35, .goto 4, 3, 39, 0, .null, 0), (38, .lconst 0, 1, 0, 0, .long 0, 0), (39, .lreturn, 1, 0, 0, .null, 0)]
theorem kkX4_value : pgX4_value.all (chk cX4_value 8 yX4_value.cls) = true := by decide +kernel
def pgX4_put : List En := [(0, .dload_n 2, 1, 2, 0, .null, 0), (1, .dload_n 2, 1, 2, 0, .null, 0), (2, .dcmp .l, 1, 0, 0, .null, 0), (3, .ifCond .ne 11, 3, 14, 0, .null, 0), (6, .dload 4, 2, 0, 0, .null, 0), (8, .dload 4, 2, 0, 0, .null, 0), (10, .dcmp .l, 1, 0, 0, .null, 0), (11, .ifCond .eq 7, 3, 18, 0, .null, 0), (14, .iconst 1, 1, 0, 0, .int 1, 0), (15, .goto 4, 3, 19, 0, .null, 0), (18, .iconst 0, 1, 0, 0, .int 0, 0), (19, .istore 6, 2, 0, 0, .null, 0), (21, .aload_n 0, 1, 0, 0, .null, 0), (22, .getfield 50, 3, 19, 3, .null, 653), (25, .iload_n 1, 1, 1, 0, .null, 0), (26, .iload 6, 2, 0, 0, .null, 0), (28, .ifCond .eq 9, 3, 37, 0, .null, 0), (31, .ldc2_w 92, 3, 0, 0, .double 18442240474082181120, 716), (34, .goto 4, 3, 38, 0, .null, 0), (37, .dload_n 2, 1, 2, 0, .null, 0), (38, .dastore, 1, 0, 0, .null, 0), (39, .aload_n 0, 1, 0, 0, .null, 0), (40, .getfield 53, 3, 20, 3, .null, 654), (43, .iload_n 1, 1, 1, 0, .null, 0), (44, .iload 6, 2, 0, 0, .null, 0), (46, .ifCond .eq 9, 3, 55, 0, .null, 0), (49, .ldc2_w 76, 3, 0, 0, .double 9218868437227405312, 717), (52, .goto 5, 3, 57, 0, .null, 0), (55, .dload 4, 2, 0, 0, .null, 0), (57, .dastore, 1, 0, 0, .null, 0), (58, .return_, 1, 0, 0, .null, 0)]
theorem kkX4_put : pgX4_put.all (chk cX4_put 7 yX4_put.cls) = true := by decide +kernel
def pgX4_putUp : List En := [(0, .aload_n 0, 1, 0, 0, .null, 0), (1, .iload_n 1, 1, 1, 0, .null, 0), (2, .dload_n 2, 1, 2, 0, .null, 0), (3, .dconst 0, 1, 0, 0, .double FP.dconst0, 0), (4, .dcmp .g, 1, 0, 0, .null, 0), (5, .ifCond .ge 7, 3, 12, 0, .null, 0), (8, .dconst 0, 1, 0, 0, .double FP.dconst0, 0), (9, .goto 4, 3, 13, 0, .null, 0), (12, .dload_n 2, 1, 2, 0, .null, 0), (13, .dload 4, 2, 0, 0, .null, 0), (15, .invokevirtual 175, 3, 0, 0, .null, 0), (18, .return_, 1, 0, 0, .null, 0)]
theorem kkX4_putUp : pgX4_putUp.all (chk cX4_putUp 6 yX4_putUp.cls) = true := by decide +kernel
def pgX4_putFour : List En := [(0, .aload_n 0, 1, 0, 0, .null, 0), (1, .iload_n 1, 1, 1, 0, .null, 0), (2, .dload_n 2, 1, 2, 0, .null, 0), (3, .dload 4, 2, 0, 0, .null, 0), (5, .invokestatic 153, 3, 0, 0, .null, 0), (8, .dload 6, 2, 0, 0, .null, 0), (10, .dload 8, 2, 0, 0, .null, 0), (12, .invokestatic 153, 3, 0, 0, .null, 0), (15, .invokestatic 153, 3, 0, 0, .null, 0), (18, .invokestatic 179, 3, 0, 0, .null, 0), (21, .dload_n 2, 1, 2, 0, .null, 0), (22, .dload 4, 2, 0, 0, .null, 0), (24, .invokestatic 156, 3, 0, 0, .null, 0), (27, .dload 6, 2, 0, 0, .null, 0), (29, .dload 8, 2, 0, 0, .null, 0), (31, .invokestatic 156, 3, 0, 0, .null, 0), (34, .invokestatic 156, 3, 0, 0, .null, 0), (37, .invokestatic 84, 3, 0, 0, .null, 0), (40, .invokevirtual 175, 3, 0, 0, .null, 0), (43, .return_, 1, 0, 0, .null, 0)]
theorem kkX4_putFour : pgX4_putFour.all (chk cX4_putFour 10 yX4_putFour.cls) = true := by decide +kernel
def pgX4_sizeLow : List En := [(0, .dload_n 0, 1, 0, 0, .null, 0), (1, .dconst 0, 1, 0, 0, .double FP.dconst0, 0), (2, .dcmp .g, 1, 0, 0, .null, 0), (3, .ifCond .lt 7, 3, 10, 0, .null, 0), (6, .dload_n 0, 1, 0, 0, .null, 0), (7, .goto 15, 3, 22, 0, .null, 0), (10, .dload_n 2, 1, 2, 0, .null, 0), (11, .dconst 0, 1, 0, 0, .double FP.dconst0, 0), (12, .dcmp .l, 1, 0, 0, .null, 0), (13, .ifCond .gt 8, 3, 21, 0, .null, 0), (16, .dload_n 2, 1, 2, 0, .null, 0), (17, .dneg, 1, 0, 0, .null, 0), (18, .goto 4, 3, 22, 0, .null, 0), (21, .dconst 0, 1, 0, 0, .double FP.dconst0, 0), (22, .dreturn, 1, 0, 0, .null, 0)]
theorem kkX4_sizeLow : pgX4_sizeLow.all (chk cX4_sizeLow 4 yX4_sizeLow.cls) = true := by decide +kernel
def pgX4_sizeHigh : List En := [(0, .dload_n 0, 1, 0, 0, .null, 0), (1, .dconst 0, 1, 0, 0, .double FP.dconst0, 0), (2, .dcmp .g, 1, 0, 0, .null, 0), (3, .ifCond .lt 7, 3, 10, 0, .null, 0), (6, .dload_n 2, 1, 2, 0, .null, 0), (7, .goto 20, 3, 27, 0, .null, 0), (10, .dload_n 2, 1, 2, 0, .null, 0), (11, .dconst 0, 1, 0, 0, .double FP.dconst0, 0), (12, .dcmp .l, 1, 0, 0, .null, 0), (13, .ifCond .gt 8, 3, 21, 0, .null, 0), (16, .dload_n 0, 1, 0, 0, .null, 0), (17, .dneg, 1, 0, 0, .null, 0), (18, .goto 9, 3, 27, 0, .null, 0), (21, .dload_n 0, 1, 0, 0, .null, 0), (22, .dneg, 1, 0, 0, .null, 0), (23, .dload_n 2, 1, 2, 0, .null, 0), (24, .invokestatic 156, 3, 0, 0, .null, 0), (27, .dreturn, 1, 0, 0, .null, 0)]
theorem kkX4_sizeHigh : pgX4_sizeHigh.all (chk cX4_sizeHigh 4 yX4_sizeHigh.cls) = true := by decide +kernel
def pgX4_enclose : List En := [(0, .aload_n 0, 1, 0, 0, .null, 0), (1, .getfield 16, 3, 5, 3, .null, 639), (4, .iload_n 1, 1, 1, 0, .null, 0), (5, .iaload, 1, 0, 0, .null, 0), (6, .istore_n 3, 1, 3, 0, .null, 0), (7, .iload_n 3, 1, 3, 0, .null, 0), (8, .ifCond .ne 39, 3, 47, 0, .null, 0), (11, .aload_n 0, 1, 0, 0, .null, 0), (12, .iload_n 1, 1, 1, 0, .null, 0), (13, .aload_n 0, 1, 0, 0, .null, 0), (14, .getfield 32, 3, 13, 3, .null, 647), (17, .iconst 3, 1, 0, 0, .int 3, 0), (18, .iload_n 2, 1, 2, 0, .null, 0), (19, .imul, 1, 0, 0, .null, 0), (20, .aload_n 0, 1, 0, 0, .null, 0), (21, .getfield 20, 3, 6, 3, .null, 640), (24, .iload_n 1, 1, 1, 0, .null, 0), (25, .iaload, 1, 0, 0, .null, 0), (26, .iadd, 1, 0, 0, .null, 0), (27, .daload, 1, 0, 0, .null, 0), (28, .aload_n 0, 1, 0, 0, .null, 0), (29, .getfield 35, 3, 14, 3, .null, 648), (32, .iconst 3, 1, 0, 0, .int 3, 0), (33, .iload_n 2, 1, 2, 0, .null, 0), (34, .imul, 1, 0, 0, .null, 0), (35, .aload_n 0, 1, 0, 0, .null, 0), (36, .getfield 20, 3, 6, 3, .null, 640), (39, .iload_n 1, 1, 1, 0, .null, 0), (40, .iaload, 1, 0, 0, .null, 0), (41, .iadd, 1, 0, 0, .null, 0), (42, .daload, 1, 0, 0, .null, 0), (43, .invokevirtual 175, 3, 0, 0, .null, 0), (46, .return_, 1, 0, 0, .null, 0), (47, .iload_n 3, 1, 3, 0, .null, 0), (48, .iconst 1, 1, 0, 0, .int 1, 0), (49, .if_icmp .ne 21, 3, 70, 0, .null, 0), (52, .aload_n 0, 1, 0, 0, .null, 0), (53, .iload_n 1, 1, 1, 0, .null, 0), (54, .aload_n 0, 1, 0, 0, .null, 0), (55, .getfield 26, 3, 8, 3, .null, 642), (58, .iload_n 1, 1, 1, 0, .null, 0), (59, .daload, 1, 0, 0, .null, 0), (60, .aload_n 0, 1, 0, 0, .null, 0), (61, .getfield 26, 3, 8, 3, .null, 642), (64, .iload_n 1, 1, 1, 0, .null, 0), (65, .daload, 1, 0, 0, .null, 0), (66, .invokevirtual 175, 3, 0, 0, .null, 0), (69, .return_, 1, 0, 0, .null, 0), (70, .aload_n 0, 1, 0, 0, .null, 0), (71, .getfield 50, 3, 19, 3, .null, 653), (74, .aload_n 0, 1, 0, 0, .null, 0), (75, .getfield 20, 3, 6, 3, .null, 640), (78, .iload_n 1, 1, 1, 0, .null, 0), (79, .iaload, 1, 0, 0, .null, 0), (80, .daload, 1, 0, 0, .null, 0), (81, .dstore 4, 2, 0, 0, .null, 0), (83, .aload_n 0, 1, 0, 0, .null, 0), (84, .getfield 53, 3, 20, 3, .null, 654), (87, .aload_n 0, 1, 0, 0, .null, 0), (88, .getfield 20, 3, 6, 3, .null, 640), (91, .iload_n 1, 1, 1, 0, .null, 0), (92, .iaload, 1, 0, 0, .null, 0), (93, .daload, 1, 0, 0, .null, 0), (94, .dstore 6, 2, 0, 0, .null, 0), (96, .iload_n 3, 1, 3, 0, .null, 0), (97, .invokestatic 137, 3, 0, 0, .null, 0), (100, .ifCond .eq 17, 3, 117, 0, .null, 0), (103, .aload_n 0, 1, 0, 0, .null, 0), (104, .getfield 50, 3, 19, 3, .null, 653), (107, .aload_n 0, 1, 0, 0, .null, 0), (108, .getfield 23, 3, 7, 3, .null, 641), (111, .iload_n 1, 1, 1, 0, .null, 0), (112, .iaload, 1, 0, 0, .null, 0), (113, .daload, 1, 0, 0, .null, 0), (114, .goto 4, 3, 118, 0, .null, 0), (117, .dconst 0, 1, 0, 0, .double FP.dconst0, 0), (118, .dstore 8, 2, 0, 0, .null, 0), (120, .iload_n 3, 1, 3, 0, .null, 0), (121, .invokestatic 137, 3, 0, 0, .null, 0), (124, .ifCond .eq 17, 3, 141, 0, .null, 0), (127, .aload_n 0, 1, 0, 0, .null, 0), (128, .getfield 53, 3, 20, 3, .null, 654), (131, .aload_n 0, 1, 0, 0, .null, 0), (132, .getfield 23, 3, 7, 3, .null, 641), (135, .iload_n 1, 1, 1, 0, .null, 0), (136, .iaload, 1, 0, 0, .null, 0), (137, .daload, 1, 0, 0, .null, 0), (138, .goto 4, 3, 142, 0, .null, 0), (141, .dconst 0, 1, 0, 0, .double FP.dconst0, 0), (142, .dstore 10, 2, 0, 0, .null, 0), (144, .iload_n 3, 1, 3, 0, .null, 0), (145, .tableswitch 353 2 12 #[59, 87, 115, 151, 353, 353, 215, 237, 282, 353, 339], 59, 498, 0, .null, 0), (204, .aload_n 0, 1, 0, 0, .null, 0), (205, .iload_n 1, 1, 1, 0, .null, 0), (206, .dload 4, 2, 0, 0, .null, 0), (208, .dload 8, 2, 0, 0, .null, 0), (210, .invokestatic 140, 3, 0, 0, .null, 0), (213, .invokestatic 179, 3, 0, 0, .null, 0), (216, .dload 6, 2, 0, 0, .null, 0), (218, .dload 10, 2, 0, 0, .null, 0), (220, .invokestatic 140, 3, 0, 0, .null, 0), (223, .invokestatic 84, 3, 0, 0, .null, 0), (226, .invokevirtual 175, 3, 0, 0, .null, 0), (229, .goto 290, 3, 519, 0, .null, 0), (232, .aload_n 0, 1, 0, 0, .null, 0), (233, .iload_n 1, 1, 1, 0, .null, 0), (234, .dload 4, 2, 0, 0, .null, 0), (236, .dload 10, 2, 0, 0, .null, 0), (238, .invokestatic 144, 3, 0, 0, .null, 0), (241, .invokestatic 179, 3, 0, 0, .null, 0), (244, .dload 6, 2, 0, 0, .null, 0), (246, .dload 8, 2, 0, 0, .null, 0), (248, .invokestatic 144, 3, 0, 0, .null, 0), (251, .invokestatic 84, 3, 0, 0, .null, 0), (254, .invokevirtual 175, 3, 0, 0, .null, 0), (257, .goto 262, 3, 519, 0, .null, 0), (260, .aload_n 0, 1, 0, 0, .null, 0), (261, .iload_n 1, 1, 1, 0, .null, 0), (262, .dload 4, 2, 0, 0, .null, 0), (264, .dload 8, 2, 0, 0, .null, 0), (266, .invokestatic 147, 3, 0, 0, .null, 0), (269, .dload 4, 2, 0, 0, .null, 0), (271, .dload 10, 2, 0, 0, .null, 0), (273, .invokestatic 147, 3, 0, 0, .null, 0), (276, .dload 6, 2, 0, 0, .null, 0), (278, .dload 8, 2, 0, 0, .null, 0), (280, .invokestatic 147, 3, 0, 0, .null, 0), (283, .dload 6, 2, 0, 0, .null, 0), (285, .dload 10, 2, 0, 0, .null, 0), (287, .invokestatic 147, 3, 0, 0, .null, 0), (290, .invokevirtual 182, 3, 0, 0, .null, 0), (293, .goto 226, 3, 519, 0, .null, 0), (296, .dload 8, 2, 0, 0, .null, 0), (298, .dconst 0, 1, 0, 0, .double FP.dconst0, 0), (299, .dcmp .l, 1, 0, 0, .null, 0), (300, .ifCond .gt 24, 3, 324, 0, .null, 0), (303, .dload 10, 2, 0, 0, .null, 0), (305, .dconst 0, 1, 0, 0, .double FP.dconst0, 0), (306, .dcmp .g, 1, 0, 0, .null, 0), (307, .ifCond .lt 17, 3, 324, 0, .null, 0), (310, .aload_n 0, 1, 0, 0, .null, 0), (311, .iload_n 1, 1, 1, 0, .null, 0), (312, .ldc2_w 70, 3, 0, 0, .double 9221120237041090560, 712), (315, .ldc2_w 70, 3, 0, 0, .double 9221120237041090560, 712), (318, .invokevirtual 175, 3, 0, 0, .null, 0), (321, .goto 198, 3, 519, 0, .null, 0), (324, .aload_n 0, 1, 0, 0, .null, 0), (325, .iload_n 1, 1, 1, 0, .null, 0), (326, .dload 4, 2, 0, 0, .null, 0), (328, .dload 8, 2, 0, 0, .null, 0), (330, .invokestatic 150, 3, 0, 0, .null, 0), (333, .dload 4, 2, 0, 0, .null, 0), (335, .dload 10, 2, 0, 0, .null, 0), (337, .invokestatic 150, 3, 0, 0, .null, 0), (340, .dload 6, 2, 0, 0, .null, 0), (342, .dload 8, 2, 0, 0, .null, 0), (344, .invokestatic 150, 3, 0, 0, .null, 0), (347, .dload 6, 2, 0, 0, .null, 0), (349, .dload 10, 2, 0, 0, .null, 0), (351, .invokestatic 150, 3, 0, 0, .null, 0), (354, .invokevirtual 182, 3, 0, 0, .null, 0), (357, .goto 162, 3, 519, 0, .null, 0), (360, .aload_n 0, 1, 0, 0, .null, 0), (361, .iload_n 1, 1, 1, 0, .null, 0), (362, .dload 4, 2, 0, 0, .null, 0), (364, .dload 6, 2, 0, 0, .null, 0), (366, .invokestatic 186, 3, 0, 0, .null, 0), (369, .dload 4, 2, 0, 0, .null, 0), (371, .dload 6, 2, 0, 0, .null, 0), (373, .invokestatic 189, 3, 0, 0, .null, 0), (376, .invokevirtual 192, 3, 0, 0, .null, 0), (379, .goto 140, 3, 519, 0, .null, 0), (382, .dload 4, 2, 0, 0, .null, 0), (384, .dconst 0, 1, 0, 0, .double FP.dconst0, 0), (385, .dcmp .g, 1, 0, 0, .null, 0), (386, .ifCond .ge 17, 3, 403, 0, .null, 0), (389, .aload_n 0, 1, 0, 0, .null, 0), (390, .iload_n 1, 1, 1, 0, .null, 0), (391, .ldc2_w 70, 3, 0, 0, .double 9221120237041090560, 712), (394, .ldc2_w 70, 3, 0, 0, .double 9221120237041090560, 712), (397, .invokevirtual 175, 3, 0, 0, .null, 0), (400, .goto 119, 3, 519, 0, .null, 0), (403, .aload_n 0, 1, 0, 0, .null, 0), (404, .iload_n 1, 1, 1, 0, .null, 0), (405, .dload 4, 2, 0, 0, .null, 0), (407, .invokestatic 159, 3, 0, 0, .null, 0), (410, .invokestatic 179, 3, 0, 0, .null, 0), (413, .dload 6, 2, 0, 0, .null, 0), (415, .invokestatic 159, 3, 0, 0, .null, 0), (418, .invokestatic 84, 3, 0, 0, .null, 0), (421, .invokevirtual 192, 3, 0, 0, .null, 0), (424, .goto 95, 3, 519, 0, .null, 0), (427, .dload 4, 2, 0, 0, .null, 0), (429, .dload 6, 2, 0, 0, .null, 0), (431, .invokestatic 186, 3, 0, 0, .null, 0), (434, .dstore 12, 2, 0, 0, .null, 0), (436, .dload 4, 2, 0, 0, .null, 0), (438, .dload 6, 2, 0, 0, .null, 0), (440, .invokestatic 189, 3, 0, 0, .null, 0), (443, .dstore 14, 2, 0, 0, .null, 0), (445, .dload 12, 2, 0, 0, .null, 0), (447, .dconst 0, 1, 0, 0, .double FP.dconst0, 0), (448, .dcmp .g, 1, 0, 0, .null, 0), (449, .ifCond .ge 7, 3, 456, 0, .null, 0), (452, .dconst 0, 1, 0, 0, .double FP.dconst0, 0), (453, .goto 5, 3, 458, 0, .null, 0), (456, .dload 12, 2, 0, 0, .null, 0), (458, .dstore 12, 2, 0, 0, .null, 0), (460, .aload_n 0, 1, 0, 0, .null, 0), (461, .iload_n 1, 1, 1, 0, .null, 0), (462, .dload 12, 2, 0, 0, .null, 0), (464, .dload 12, 2, 0, 0, .null, 0), (466, .dmul, 1, 0, 0, .null, 0), (467, .invokestatic 179, 3, 0, 0, .null, 0), (470, .dload 14, 2, 0, 0, .null, 0), (472, .dload 14, 2, 0, 0, .null, 0), (474, .dmul, 1, 0, 0, .null, 0), (475, .invokestatic 84, 3, 0, 0, .null, 0), (478, .invokevirtual 192, 3, 0, 0, .null, 0), (481, .goto 38, 3, 519, 0, .null, 0), (484, .aload_n 0, 1, 0, 0, .null, 0), (485, .iload_n 1, 1, 1, 0, .null, 0), (486, .dload 6, 2, 0, 0, .null, 0), (488, .dneg, 1, 0, 0, .null, 0), (489, .dload 4, 2, 0, 0, .null, 0), (491, .dneg, 1, 0, 0, .null, 0), (492, .invokevirtual 175, 3, 0, 0, .null, 0), (495, .goto 24, 3, 519, 0, .null, 0), (498, .aload_n 0, 1, 0, 0, .null, 0), (499, .iload_n 1, 1, 1, 0, .null, 0), (500, .iload_n 3, 1, 3, 0, .null, 0), (501, .dload 4, 2, 0, 0, .null, 0), (503, .dload 8, 2, 0, 0, .null, 0), (505, .invokestatic 167, 3, 0, 0, .null, 0), (508, .iload_n 3, 1, 3, 0, .null, 0), (509, .dload 6, 2, 0, 0, .null, 0), (511, .dload 10, 2, 0, 0, .null, 0), (513, .invokestatic 167, 3, 0, 0, .null, 0), (516, .invokevirtual 175, 3, 0, 0, .null, 0), (519, .return_, 1, 0, 0, .null, 0)]
theorem kkX4_enclose : pgX4_enclose.all (chk cX4_enclose 16 yX4_enclose.cls) = true := by decide +kernel
def pgX4_encloseTo : List En := [(0, .iconst 0, 1, 0, 0, .int 0, 0), (1, .istore_n 3, 1, 3, 0, .null, 0), (2, .iload_n 3, 1, 3, 0, .null, 0), (3, .iload_n 1, 1, 1, 0, .null, 0), (4, .if_icmp .gt 15, 3, 19, 0, .null, 0), (7, .aload_n 0, 1, 0, 0, .null, 0), (8, .iload_n 3, 1, 3, 0, .null, 0), (9, .iload_n 2, 1, 2, 0, .null, 0), (10, .invokevirtual 195, 3, 0, 0, .null, 0), (13, .iinc 3 1, 3, 0, 0, .null, 0), (16, .goto (-14), 3, 2, 0, .null, 0), (19, .return_, 1, 0, 0, .null, 0)]
theorem kkX4_encloseTo : pgX4_encloseTo.all (chk cX4_encloseTo 4 yX4_encloseTo.cls) = true := by decide +kernel
def pgX4_holds : List En := [(0, .aload_n 0, 1, 0, 0, .null, 0), (1, .getfield 29, 3, 9, 3, .null, 643), (4, .iload_n 1, 1, 1, 0, .null, 0), (5, .iaload, 1, 0, 0, .null, 0), (6, .istore_n 3, 1, 3, 0, .null, 0), (7, .iload_n 3, 1, 3, 0, .null, 0), (8, .bipush (-5), 2, 0, 0, .int (-5), 0), (10, .if_icmp .ne 5, 3, 15, 0, .null, 0), (13, .iconst 1, 1, 0, 0, .int 1, 0), (14, .ireturn, 1, 0, 0, .null, 0), (15, .aload_n 0, 1, 0, 0, .null, 0), (16, .iload_n 3, 1, 3, 0, .null, 0), (17, .iload_n 2, 1, 2, 0, .null, 0), (18, .invokevirtual 199, 3, 0, 0, .null, 0), (21, .aload_n 0, 1, 0, 0, .null, 0), (22, .getfield 50, 3, 19, 3, .null, 653), (25, .iload_n 3, 1, 3, 0, .null, 0), (26, .daload, 1, 0, 0, .null, 0), (27, .dconst 0, 1, 0, 0, .double FP.dconst0, 0), (28, .dcmp .l, 1, 0, 0, .null, 0), (29, .ifCond .le 7, 3, 36, 0, .null, 0), (32, .iconst 1, 1, 0, 0, .int 1, 0), (33, .goto 19, 3, 52, 0, .null, 0), (36, .aload_n 0, 1, 0, 0, .null, 0), (37, .getfield 53, 3, 20, 3, .null, 654), (40, .iload_n 3, 1, 3, 0, .null, 0), (41, .daload, 1, 0, 0, .null, 0), (42, .dconst 0, 1, 0, 0, .double FP.dconst0, 0), (43, .dcmp .l, 1, 0, 0, .null, 0), (44, .ifCond .gt 7, 3, 51, 0, .null, 0), (47, .iconst 0, 1, 0, 0, .int 0, 0), (48, .goto 4, 3, 52, 0, .null, 0), (51, .iconst (-1), 1, 0, 0, .int (-1), 0), (52, .ireturn, 1, 0, 0, .null, 0)]
theorem kkX4_holds : pgX4_holds.all (chk cX4_holds 4 yX4_holds.cls) = true := by decide +kernel
def pgX4_judge : List En := [(0, .aload_n 0, 1, 0, 0, .null, 0), (1, .iconst 0, 1, 0, 0, .int 0, 0), (2, .iload_n 1, 1, 1, 0, .null, 0), (3, .invokevirtual 202, 3, 0, 0, .null, 0), (6, .istore_n 2, 1, 2, 0, .null, 0), (7, .aload_n 0, 1, 0, 0, .null, 0), (8, .iconst 1, 1, 0, 0, .int 1, 0), (9, .iload_n 1, 1, 1, 0, .null, 0), (10, .invokevirtual 202, 3, 0, 0, .null, 0), (13, .istore_n 3, 1, 3, 0, .null, 0), (14, .aload_n 0, 1, 0, 0, .null, 0), (15, .getfield 38, 3, 15, 3, .null, 649), (18, .iload_n 1, 1, 1, 0, .null, 0), (19, .iload_n 2, 1, 2, 0, .null, 0), (20, .ifCond .ne 7, 3, 27, 0, .null, 0), (23, .iconst 0, 1, 0, 0, .int 0, 0), (24, .goto 31, 3, 55, 0, .null, 0), (27, .iload_n 2, 1, 2, 0, .null, 0), (28, .iconst 1, 1, 0, 0, .int 1, 0), (29, .if_icmp .ne 12, 3, 41, 0, .null, 0), (32, .iload_n 3, 1, 3, 0, .null, 0), (33, .iconst 1, 1, 0, 0, .int 1, 0), (34, .if_icmp .ne 7, 3, 41, 0, .null, 0), (37, .iconst 1, 1, 0, 0, .int 1, 0), (38, .goto 17, 3, 55, 0, .null, 0), (41, .iload_n 2, 1, 2, 0, .null, 0), (42, .iconst 1, 1, 0, 0, .int 1, 0), (43, .if_icmp .ne 11, 3, 54, 0, .null, 0), (46, .iload_n 3, 1, 3, 0, .null, 0), (47, .ifCond .ne 7, 3, 54, 0, .null, 0), (50, .iconst 2, 1, 0, 0, .int 2, 0), (51, .goto 4, 3, 55, 0, .null, 0), (54, .iconst 3, 1, 0, 0, .int 3, 0), (55, .iastore, 1, 0, 0, .null, 0), (56, .aload_n 0, 1, 0, 0, .null, 0), (57, .getfield 41, 3, 16, 3, .null, 650), (60, .iload_n 1, 1, 1, 0, .null, 0), (61, .dconst 1, 1, 0, 0, .double FP.dconst1, 0), (62, .dastore, 1, 0, 0, .null, 0), (63, .aload_n 0, 1, 0, 0, .null, 0), (64, .getfield 44, 3, 17, 3, .null, 651), (67, .iload_n 1, 1, 1, 0, .null, 0), (68, .dconst 1, 1, 0, 0, .double FP.dconst1, 0), (69, .dastore, 1, 0, 0, .null, 0), (70, .iconst 0, 1, 0, 0, .int 0, 0), (71, .istore 4, 2, 0, 0, .null, 0), (73, .iload 4, 2, 0, 0, .null, 0), (75, .aload_n 0, 1, 0, 0, .null, 0), (76, .getfield 120, 3, 1, 3, .null, 635), (79, .if_icmp .ge 110, 3, 189, 0, .null, 0), (82, .aload_n 0, 1, 0, 0, .null, 0), (83, .getfield 35, 3, 14, 3, .null, 648), (86, .iconst 3, 1, 0, 0, .int 3, 0), (87, .iload_n 1, 1, 1, 0, .null, 0), (88, .imul, 1, 0, 0, .null, 0), (89, .iload 4, 2, 0, 0, .null, 0), (91, .iadd, 1, 0, 0, .null, 0), (92, .daload, 1, 0, 0, .null, 0), (93, .aload_n 0, 1, 0, 0, .null, 0), (94, .getfield 32, 3, 13, 3, .null, 647), (97, .iconst 3, 1, 0, 0, .int 3, 0), (98, .iload_n 1, 1, 1, 0, .null, 0), (99, .imul, 1, 0, 0, .null, 0), (100, .iload 4, 2, 0, 0, .null, 0), (102, .iadd, 1, 0, 0, .null, 0), (103, .daload, 1, 0, 0, .null, 0), (104, .dsub, 1, 0, 0, .null, 0), (105, .dstore 5, 2, 0, 0, .null, 0), (107, .aload_n 0, 1, 0, 0, .null, 0), (108, .iload_n 1, 1, 1, 0, .null, 0), (109, .dload 5, 2, 0, 0, .null, 0), (111, .invokestatic 179, 3, 0, 0, .null, 0), (114, .dload 5, 2, 0, 0, .null, 0), (116, .invokestatic 84, 3, 0, 0, .null, 0), (119, .invokevirtual 206, 3, 0, 0, .null, 0), (122, .aload_n 0, 1, 0, 0, .null, 0), (123, .getfield 29, 3, 9, 3, .null, 643), (126, .iconst 2, 1, 0, 0, .int 2, 0), (127, .iload 4, 2, 0, 0, .null, 0), (129, .iadd, 1, 0, 0, .null, 0), (130, .iaload, 1, 0, 0, .null, 0), (131, .bipush (-5), 2, 0, 0, .int (-5), 0), (133, .if_icmp .eq 50, 3, 183, 0, .null, 0), (136, .aload_n 0, 1, 0, 0, .null, 0), (137, .aload_n 0, 1, 0, 0, .null, 0), (138, .getfield 29, 3, 9, 3, .null, 643), (141, .iconst 2, 1, 0, 0, .int 2, 0), (142, .iload 4, 2, 0, 0, .null, 0), (144, .iadd, 1, 0, 0, .null, 0), (145, .iaload, 1, 0, 0, .null, 0), (146, .iload_n 1, 1, 1, 0, .null, 0), (147, .invokevirtual 199, 3, 0, 0, .null, 0), (150, .aload_n 0, 1, 0, 0, .null, 0), (151, .iload_n 1, 1, 1, 0, .null, 0), (152, .aload_n 0, 1, 0, 0, .null, 0), (153, .getfield 50, 3, 19, 3, .null, 653), (156, .aload_n 0, 1, 0, 0, .null, 0), (157, .getfield 29, 3, 9, 3, .null, 643), (160, .iconst 2, 1, 0, 0, .int 2, 0), (161, .iload 4, 2, 0, 0, .null, 0), (163, .iadd, 1, 0, 0, .null, 0), (164, .iaload, 1, 0, 0, .null, 0), (165, .daload, 1, 0, 0, .null, 0), (166, .aload_n 0, 1, 0, 0, .null, 0), (167, .getfield 53, 3, 20, 3, .null, 654), (170, .aload_n 0, 1, 0, 0, .null, 0), (171, .getfield 29, 3, 9, 3, .null, 643), (174, .iconst 2, 1, 0, 0, .int 2, 0), (175, .iload 4, 2, 0, 0, .null, 0), (177, .iadd, 1, 0, 0, .null, 0), (178, .iaload, 1, 0, 0, .null, 0), (179, .daload, 1, 0, 0, .null, 0), (180, .invokevirtual 206, 3, 0, 0, .null, 0), (183, .iinc 4 1, 3, 0, 0, .null, 0), (186, .goto (-113), 3, 73, 0, .null, 0), (189, .return_, 1, 0, 0, .null, 0)]
theorem kkX4_judge : pgX4_judge.all (chk cX4_judge 7 yX4_judge.cls) = true := by decide +kernel
def pgX4_times : List En := [(0, .aload_n 0, 1, 0, 0, .null, 0), (1, .getfield 41, 3, 16, 3, .null, 650), (4, .iload_n 1, 1, 1, 0, .null, 0), (5, .daload, 1, 0, 0, .null, 0), (6, .dload_n 2, 1, 2, 0, .null, 0), (7, .dconst 0, 1, 0, 0, .double FP.dconst0, 0), (8, .dcmp .g, 1, 0, 0, .null, 0), (9, .ifCond .ge 7, 3, 16, 0, .null, 0), (12, .dconst 0, 1, 0, 0, .double FP.dconst0, 0), (13, .goto 4, 3, 17, 0, .null, 0), (16, .dload_n 2, 1, 2, 0, .null, 0), (17, .invokestatic 147, 3, 0, 0, .null, 0), (20, .invokestatic 179, 3, 0, 0, .null, 0), (23, .dstore 6, 2, 0, 0, .null, 0), (25, .aload_n 0, 1, 0, 0, .null, 0), (26, .getfield 44, 3, 17, 3, .null, 651), (29, .iload_n 1, 1, 1, 0, .null, 0), (30, .daload, 1, 0, 0, .null, 0), (31, .dload 4, 2, 0, 0, .null, 0), (33, .dconst 0, 1, 0, 0, .double FP.dconst0, 0), (34, .dcmp .g, 1, 0, 0, .null, 0), (35, .ifCond .ge 7, 3, 42, 0, .null, 0), (38, .dconst 0, 1, 0, 0, .double FP.dconst0, 0), (39, .goto 5, 3, 44, 0, .null, 0), (42, .dload 4, 2, 0, 0, .null, 0), (44, .invokestatic 147, 3, 0, 0, .null, 0), (47, .invokestatic 84, 3, 0, 0, .null, 0), (50, .dstore 8, 2, 0, 0, .null, 0), (52, .aload_n 0, 1, 0, 0, .null, 0), (53, .getfield 41, 3, 16, 3, .null, 650), (56, .iload_n 1, 1, 1, 0, .null, 0), (57, .dload 6, 2, 0, 0, .null, 0), (59, .dconst 0, 1, 0, 0, .double FP.dconst0, 0), (60, .dcmp .l, 1, 0, 0, .null, 0), (61, .ifCond .lt 8, 3, 69, 0, .null, 0), (64, .dload 6, 2, 0, 0, .null, 0), (66, .goto 4, 3, 70, 0, .null, 0), (69, .dconst 0, 1, 0, 0, .double FP.dconst0, 0), (70, .dastore, 1, 0, 0, .null, 0), (71, .aload_n 0, 1, 0, 0, .null, 0), (72, .getfield 44, 3, 17, 3, .null, 651), (75, .iload_n 1, 1, 1, 0, .null, 0), (76, .dload 8, 2, 0, 0, .null, 0), (78, .dload 8, 2, 0, 0, .null, 0), (80, .dcmp .l, 1, 0, 0, .null, 0), (81, .ifCond .eq 9, 3, 90, 0, .null, 0), (84, .ldc2_w 76, 3, 0, 0, .double 9218868437227405312, 717), (87, .goto 5, 3, 92, 0, .null, 0), (90, .dload 8, 2, 0, 0, .null, 0), (92, .dastore, 1, 0, 0, .null, 0), (93, .return_, 1, 0, 0, .null, 0)]
theorem kkX4_times : pgX4_times.all (chk cX4_times 10 yX4_times.cls) = true := by decide +kernel
def pgX4_begin : List En := [(0, .aload_n 0, 1, 0, 0, .null, 0), (1, .iconst 0, 1, 0, 0, .int 0, 0), (2, .putfield 56, 3, 0, 3, .int 0, 634), (5, .aload_n 0, 1, 0, 0, .null, 0), (6, .getfield 120, 3, 1, 3, .null, 635), (9, .ifCond .ne 6, 3, 15, 0, .null, 0), (12, .bipush (-3), 2, 0, 0, .int (-3), 0), (14, .ireturn, 1, 0, 0, .null, 0), (15, .aload_n 0, 1, 0, 0, .null, 0), (16, .iconst 1, 1, 0, 0, .int 1, 0), (17, .putfield 110, 3, 10, 3, .null, 644), (20, .aload_n 0, 1, 0, 0, .null, 0), (21, .iconst 1, 1, 0, 0, .int 1, 0), (22, .putfield 114, 3, 11, 3, .int 0, 645), (25, .aload_n 0, 1, 0, 0, .null, 0), (26, .iconst 0, 1, 0, 0, .int 0, 0), (27, .putfield 117, 3, 12, 3, .int 0, 646), (30, .iconst 0, 1, 0, 0, .int 0, 0), (31, .istore_n 1, 1, 1, 0, .null, 0), (32, .iload_n 1, 1, 1, 0, .null, 0), (33, .aload_n 0, 1, 0, 0, .null, 0), (34, .getfield 120, 3, 1, 3, .null, 635), (37, .if_icmp .ge 33, 3, 70, 0, .null, 0), (40, .aload_n 0, 1, 0, 0, .null, 0), (41, .getfield 32, 3, 13, 3, .null, 647), (44, .iload_n 1, 1, 1, 0, .null, 0), (45, .aload_n 0, 1, 0, 0, .null, 0), (46, .getfield 7, 3, 2, 3, .null, 636), (49, .iload_n 1, 1, 1, 0, .null, 0), (50, .daload, 1, 0, 0, .null, 0), (51, .dastore, 1, 0, 0, .null, 0), (52, .aload_n 0, 1, 0, 0, .null, 0), (53, .getfield 35, 3, 14, 3, .null, 648), (56, .iload_n 1, 1, 1, 0, .null, 0), (57, .aload_n 0, 1, 0, 0, .null, 0), (58, .getfield 13, 3, 3, 3, .null, 637), (61, .iload_n 1, 1, 1, 0, .null, 0), (62, .daload, 1, 0, 0, .null, 0), (63, .dastore, 1, 0, 0, .null, 0), (64, .iinc 1 1, 3, 0, 0, .null, 0), (67, .goto (-35), 3, 32, 0, .null, 0), (70, .aload_n 0, 1, 0, 0, .null, 0), (71, .iconst 0, 1, 0, 0, .int 0, 0), (72, .invokevirtual 209, 3, 0, 0, .null, 0), (75, .aload_n 0, 1, 0, 0, .null, 0), (76, .getfield 120, 3, 1, 3, .null, 635), (79, .ireturn, 1, 0, 0, .null, 0)]
theorem kkX4_begin : pgX4_begin.all (chk cX4_begin 2 yX4_begin.cls) = true := by decide +kernel
def pgX4_widest : List En := [(0, .iconst 0, 1, 0, 0, .int 0, 0), (1, .istore_n 2, 1, 2, 0, .null, 0), (2, .iconst 1, 1, 0, 0, .int 1, 0), (3, .istore_n 3, 1, 3, 0, .null, 0), (4, .iload_n 3, 1, 3, 0, .null, 0), (5, .aload_n 0, 1, 0, 0, .null, 0), (6, .getfield 120, 3, 1, 3, .null, 635), (9, .if_icmp .ge 61, 3, 70, 0, .null, 0), (12, .aload_n 0, 1, 0, 0, .null, 0), (13, .getfield 35, 3, 14, 3, .null, 648), (16, .iconst 3, 1, 0, 0, .int 3, 0), (17, .iload_n 1, 1, 1, 0, .null, 0), (18, .imul, 1, 0, 0, .null, 0), (19, .iload_n 3, 1, 3, 0, .null, 0), (20, .iadd, 1, 0, 0, .null, 0), (21, .daload, 1, 0, 0, .null, 0), (22, .aload_n 0, 1, 0, 0, .null, 0), (23, .getfield 32, 3, 13, 3, .null, 647), (26, .iconst 3, 1, 0, 0, .int 3, 0), (27, .iload_n 1, 1, 1, 0, .null, 0), (28, .imul, 1, 0, 0, .null, 0), (29, .iload_n 3, 1, 3, 0, .null, 0), (30, .iadd, 1, 0, 0, .null, 0), (31, .daload, 1, 0, 0, .null, 0), (32, .dsub, 1, 0, 0, .null, 0), (33, .aload_n 0, 1, 0, 0, .null, 0), (34, .getfield 35, 3, 14, 3, .null, 648), (37, .iconst 3, 1, 0, 0, .int 3, 0), (38, .iload_n 1, 1, 1, 0, .null, 0), (39, .imul, 1, 0, 0, .null, 0), (40, .iload_n 2, 1, 2, 0, .null, 0), (41, .iadd, 1, 0, 0, .null, 0), (42, .daload, 1, 0, 0, .null, 0), (43, .aload_n 0, 1, 0, 0, .null, 0), (44, .getfield 32, 3, 13, 3, .null, 647), (47, .iconst 3, 1, 0, 0, .int 3, 0), (48, .iload_n 1, 1, 1, 0, .null, 0), (49, .imul, 1, 0, 0, .null, 0), (50, .iload_n 2, 1, 2, 0, .null, 0), (51, .iadd, 1, 0, 0, .null, 0), (52, .daload, 1, 0, 0, .null, 0), (53, .dsub, 1, 0, 0, .null, 0), (54, .dcmp .l, 1, 0, 0, .null, 0), (55, .ifCond .le 7, 3, 62, 0, .null, 0), (58, .iload_n 3, 1, 3, 0, .null, 0), (59, .goto 4, 3, 63, 0, .null, 0), (62, .iload_n 2, 1, 2, 0, .null, 0), (63, .istore_n 2, 1, 2, 0, .null, 0), (64, .iinc 3 1, 3, 0, 0, .null, 0), (67, .goto (-63), 3, 4, 0, .null, 0), (70, .iload_n 2, 1, 2, 0, .null, 0), (71, .ireturn, 1, 0, 0, .null, 0)]
theorem kkX4_widest : pgX4_widest.all (chk cX4_widest 4 yX4_widest.cls) = true := by decide +kernel
def pgX4_middle : List En := [(0, .iconst 3, 1, 0, 0, .int 3, 0), (1, .iload_n 1, 1, 1, 0, .null, 0), (2, .imul, 1, 0, 0, .null, 0), (3, .aload_n 0, 1, 0, 0, .null, 0), (4, .iload_n 1, 1, 1, 0, .null, 0), (5, .invokevirtual 213, 3, 0, 0, .null, 0), (8, .iadd, 1, 0, 0, .null, 0), (9, .istore_n 2, 1, 2, 0, .null, 0), (10, .aload_n 0, 1, 0, 0, .null, 0), (11, .getfield 32, 3, 13, 3, .null, 647), (14, .iload_n 2, 1, 2, 0, .null, 0), (15, .daload, 1, 0, 0, .null, 0), (16, .aload_n 0, 1, 0, 0, .null, 0), (17, .getfield 35, 3, 14, 3, .null, 648), (20, .iload_n 2, 1, 2, 0, .null, 0), (21, .daload, 1, 0, 0, .null, 0), (22, .aload_n 0, 1, 0, 0, .null, 0), (23, .getfield 32, 3, 13, 3, .null, 647), (26, .iload_n 2, 1, 2, 0, .null, 0), (27, .daload, 1, 0, 0, .null, 0), (28, .dsub, 1, 0, 0, .null, 0), (29, .ldc2_w 217, 3, 0, 0, .double 4611686018427387904, 871), (32, .ddiv, 1, 0, 0, .null, 0), (33, .dadd, 1, 0, 0, .null, 0), (34, .dreturn, 1, 0, 0, .null, 0)]
theorem kkX4_middle : pgX4_middle.all (chk cX4_middle 3 yX4_middle.cls) = true := by decide +kernel
def pgX4_isTight : List En := [(0, .iconst 3, 1, 0, 0, .int 3, 0), (1, .iload_n 1, 1, 1, 0, .null, 0), (2, .imul, 1, 0, 0, .null, 0), (3, .aload_n 0, 1, 0, 0, .null, 0), (4, .iload_n 1, 1, 1, 0, .null, 0), (5, .invokevirtual 213, 3, 0, 0, .null, 0), (8, .iadd, 1, 0, 0, .null, 0), (9, .istore_n 2, 1, 2, 0, .null, 0), (10, .aload_n 0, 1, 0, 0, .null, 0), (11, .iload_n 1, 1, 1, 0, .null, 0), (12, .invokevirtual 219, 3, 0, 0, .null, 0), (15, .dstore_n 3, 1, 3, 0, .null, 0), (16, .dload_n 3, 1, 3, 0, .null, 0), (17, .aload_n 0, 1, 0, 0, .null, 0), (18, .getfield 32, 3, 13, 3, .null, 647), (21, .iload_n 2, 1, 2, 0, .null, 0), (22, .daload, 1, 0, 0, .null, 0), (23, .dcmp .l, 1, 0, 0, .null, 0), (24, .ifCond .le 14, 3, 38, 0, .null, 0), (27, .dload_n 3, 1, 3, 0, .null, 0), (28, .aload_n 0, 1, 0, 0, .null, 0), (29, .getfield 35, 3, 14, 3, .null, 648), (32, .iload_n 2, 1, 2, 0, .null, 0), (33, .daload, 1, 0, 0, .null, 0), (34, .dcmp .g, 1, 0, 0, .null, 0), (35, .ifCond .lt 7, 3, 42, 0, .null, 0), (38, .iconst 1, 1, 0, 0, .int 1, 0), (39, .goto 4, 3, 43, 0, .null, 0), (42, .iconst 0, 1, 0, 0, .int 0, 0), (43, .ireturn, 1, 0, 0, .null, 0)]
theorem kkX4_isTight : pgX4_isTight.all (chk cX4_isTight 5 yX4_isTight.cls) = true := by decide +kernel
def pgX4_next : List En := [(0, .iconst (-1), 1, 0, 0, .int (-1), 0), (1, .istore_n 1, 1, 1, 0, .null, 0), (2, .iconst 0, 1, 0, 0, .int 0, 0), (3, .istore_n 2, 1, 2, 0, .null, 0), (4, .iload_n 2, 1, 2, 0, .null, 0), (5, .aload_n 0, 1, 0, 0, .null, 0), (6, .getfield 114, 3, 11, 3, .null, 645), (9, .if_icmp .ge 49, 3, 58, 0, .null, 0), (12, .aload_n 0, 1, 0, 0, .null, 0), (13, .getfield 38, 3, 15, 3, .null, 649), (16, .iload_n 2, 1, 2, 0, .null, 0), (17, .iaload, 1, 0, 0, .null, 0), (18, .iconst 3, 1, 0, 0, .int 3, 0), (19, .if_icmp .ne 33, 3, 52, 0, .null, 0), (22, .aload_n 0, 1, 0, 0, .null, 0), (23, .iload_n 2, 1, 2, 0, .null, 0), (24, .invokevirtual 223, 3, 0, 0, .null, 0), (27, .ifCond .ne 25, 3, 52, 0, .null, 0), (30, .iload_n 1, 1, 1, 0, .null, 0), (31, .ifCond .lt 19, 3, 50, 0, .null, 0), (34, .aload_n 0, 1, 0, 0, .null, 0), (35, .getfield 44, 3, 17, 3, .null, 651), (38, .iload_n 2, 1, 2, 0, .null, 0), (39, .daload, 1, 0, 0, .null, 0), (40, .aload_n 0, 1, 0, 0, .null, 0), (41, .getfield 44, 3, 17, 3, .null, 651), (44, .iload_n 1, 1, 1, 0, .null, 0), (45, .daload, 1, 0, 0, .null, 0), (46, .dcmp .l, 1, 0, 0, .null, 0), (47, .ifCond .le 5, 3, 52, 0, .null, 0), (50, .iload_n 2, 1, 2, 0, .null, 0), (51, .istore_n 1, 1, 1, 0, .null, 0), (52, .iinc 2 1, 3, 0, 0, .null, 0), (55, .goto (-51), 3, 4, 0, .null, 0), (58, .iload_n 1, 1, 1, 0, .null, 0), (59, .ireturn, 1, 0, 0, .null, 0)]
theorem kkX4_next : pgX4_next.all (chk cX4_next 3 yX4_next.cls) = true := by decide +kernel
def pgX4_run : List En := [(0, .aload_n 0, 1, 0, 0, .null, 0), (1, .iconst 0, 1, 0, 0, .int 0, 0), (2, .putfield 56, 3, 0, 3, .int 0, 634), (5, .iload_n 1, 1, 1, 0, .null, 0), (6, .iconst 0, 1, 0, 0, .int 0, 0), (7, .bipush 99, 2, 0, 0, .int 99, 0), (9, .invokestatic 129, 3, 0, 0, .null, 0), (12, .ifCond .ne 6, 3, 18, 0, .null, 0), (15, .bipush (-2), 2, 0, 0, .int (-2), 0), (17, .ireturn, 1, 0, 0, .null, 0), (18, .aload_n 0, 1, 0, 0, .null, 0), (19, .getfield 110, 3, 10, 3, .null, 644), (22, .ifCond .ne 6, 3, 28, 0, .null, 0), (25, .bipush (-3), 2, 0, 0, .int (-3), 0), (27, .ireturn, 1, 0, 0, .null, 0), (28, .aload_n 0, 1, 0, 0, .null, 0), (29, .getfield 114, 3, 11, 3, .null, 645), (32, .bipush 100, 2, 0, 0, .int 100, 0), (34, .if_icmp .ne 6, 3, 40, 0, .null, 0), (37, .bipush (-4), 2, 0, 0, .int (-4), 0), (39, .ireturn, 1, 0, 0, .null, 0), (40, .iconst 0, 1, 0, 0, .int 0, 0), (41, .istore_n 2, 1, 2, 0, .null, 0), (42, .aload_n 0, 1, 0, 0, .null, 0), (43, .invokevirtual 226, 3, 0, 0, .null, 0), (46, .istore_n 3, 1, 3, 0, .null, 0), (47, .iload_n 2, 1, 2, 0, .null, 0), (48, .iload_n 1, 1, 1, 0, .null, 0), (49, .if_icmp .ge 170, 3, 219, 0, .null, 0), (52, .iload_n 3, 1, 3, 0, .null, 0), (53, .ifCond .lt 166, 3, 219, 0, .null, 0), (56, .aload_n 0, 1, 0, 0, .null, 0), (57, .getfield 114, 3, 11, 3, .null, 645), (60, .bipush 100, 2, 0, 0, .int 100, 0), (62, .if_icmp .ge 157, 3, 219, 0, .null, 0), (65, .aload_n 0, 1, 0, 0, .null, 0), (66, .iload_n 3, 1, 3, 0, .null, 0), (67, .invokevirtual 213, 3, 0, 0, .null, 0), (70, .istore 4, 2, 0, 0, .null, 0), (72, .aload_n 0, 1, 0, 0, .null, 0), (73, .iload_n 3, 1, 3, 0, .null, 0), (74, .invokevirtual 219, 3, 0, 0, .null, 0), (77, .dstore 5, 2, 0, 0, .null, 0), (79, .iconst 0, 1, 0, 0, .int 0, 0), (80, .istore 7, 2, 0, 0, .null, 0), (82, .iload 7, 2, 0, 0, .null, 0), (84, .iconst 3, 1, 0, 0, .int 3, 0), (85, .if_icmp .ge 59, 3, 144, 0, .null, 0), (88, .aload_n 0, 1, 0, 0, .null, 0), (89, .getfield 32, 3, 13, 3, .null, 647), (92, .iconst 3, 1, 0, 0, .int 3, 0), (93, .aload_n 0, 1, 0, 0, .null, 0), (94, .getfield 114, 3, 11, 3, .null, 645), (97, .imul, 1, 0, 0, .null, 0), (98, .iload 7, 2, 0, 0, .null, 0), (100, .iadd, 1, 0, 0, .null, 0), (101, .aload_n 0, 1, 0, 0, .null, 0), (102, .getfield 32, 3, 13, 3, .null, 647), (105, .iconst 3, 1, 0, 0, .int 3, 0), (106, .iload_n 3, 1, 3, 0, .null, 0), (107, .imul, 1, 0, 0, .null, 0), (108, .iload 7, 2, 0, 0, .null, 0), (110, .iadd, 1, 0, 0, .null, 0), (111, .daload, 1, 0, 0, .null, 0), (112, .dastore, 1, 0, 0, .null, 0), (113, .aload_n 0, 1, 0, 0, .null, 0), (114, .getfield 35, 3, 14, 3, .null, 648), (117, .iconst 3, 1, 0, 0, .int 3, 0), (118, .aload_n 0, 1, 0, 0, .null, 0), (119, .getfield 114, 3, 11, 3, .null, 645), (122, .imul, 1, 0, 0, .null, 0), (123, .iload 7, 2, 0, 0, .null, 0), (125, .iadd, 1, 0, 0, .null, 0), (126, .aload_n 0, 1, 0, 0, .null, 0), (127, .getfield 35, 3, 14, 3, .null, 648), (130, .iconst 3, 1, 0, 0, .int 3, 0), (131, .iload_n 3, 1, 3, 0, .null, 0), (132, .imul, 1, 0, 0, .null, 0), (133, .iload 7, 2, 0, 0, .null, 0), (135, .iadd, 1, 0, 0, .null, 0), (136, .daload, 1, 0, 0, .null, 0), (137, .dastore, 1, 0, 0, .null, 0), (138, .iinc 7 1, 3, 0, 0, .null, 0), (141, .goto (-59), 3, 82, 0, .null, 0), (144, .aload_n 0, 1, 0, 0, .null, 0), (145, .getfield 35, 3, 14, 3, .null, 648), (148, .iconst 3, 1, 0, 0, .int 3, 0), (149, .iload_n 3, 1, 3, 0, .null, 0), (150, .imul, 1, 0, 0, .null, 0), (151, .iload 4, 2, 0, 0, .null, 0), (153, .iadd, 1, 0, 0, .null, 0), (154, .dload 5, 2, 0, 0, .null, 0), (156, .dastore, 1, 0, 0, .null, 0), (157, .aload_n 0, 1, 0, 0, .null, 0), (158, .getfield 32, 3, 13, 3, .null, 647), (161, .iconst 3, 1, 0, 0, .int 3, 0), (162, .aload_n 0, 1, 0, 0, .null, 0), (163, .getfield 114, 3, 11, 3, .null, 645), (166, .imul, 1, 0, 0, .null, 0), (167, .iload 4, 2, 0, 0, .null, 0), (169, .iadd, 1, 0, 0, .null, 0), (170, .dload 5, 2, 0, 0, .null, 0), (172, .dastore, 1, 0, 0, .null, 0), (173, .aload_n 0, 1, 0, 0, .null, 0), (174, .dup, 1, 0, 0, .null, 0), (175, .getfield 114, 3, 11, 3, .null, 645), (178, .iconst 1, 1, 0, 0, .int 1, 0), (179, .iadd, 1, 0, 0, .null, 0), (180, .putfield 114, 3, 11, 3, .int 0, 645), (183, .aload_n 0, 1, 0, 0, .null, 0), (184, .iload_n 3, 1, 3, 0, .null, 0), (185, .invokevirtual 209, 3, 0, 0, .null, 0), (188, .aload_n 0, 1, 0, 0, .null, 0), (189, .aload_n 0, 1, 0, 0, .null, 0), (190, .getfield 114, 3, 11, 3, .null, 645), (193, .iconst 1, 1, 0, 0, .int 1, 0), (194, .isub, 1, 0, 0, .null, 0), (195, .invokevirtual 209, 3, 0, 0, .null, 0), (198, .iinc 2 1, 3, 0, 0, .null, 0), (201, .aload_n 0, 1, 0, 0, .null, 0), (202, .dup, 1, 0, 0, .null, 0), (203, .getfield 117, 3, 12, 3, .null, 646), (206, .iconst 1, 1, 0, 0, .int 1, 0), (207, .iadd, 1, 0, 0, .null, 0), (208, .putfield 117, 3, 12, 3, .int 0, 646), (211, .aload_n 0, 1, 0, 0, .null, 0), (212, .invokevirtual 226, 3, 0, 0, .null, 0), (215, .istore_n 3, 1, 3, 0, .null, 0), (216, .goto (-169), 3, 47, 0, .null, 0), (219, .iload_n 2, 1, 2, 0, .null, 0), (220, .ireturn, 1, 0, 0, .null, 0)]
theorem kkX4_run : pgX4_run.all (chk cX4_run 8 yX4_run.cls) = true := by decide +kernel
def pgX4_boxes : List En := [(0, .aload_n 0, 1, 0, 0, .null, 0), (1, .iconst 0, 1, 0, 0, .int 0, 0), (2, .putfield 56, 3, 0, 3, .int 0, 634), (5, .aload_n 0, 1, 0, 0, .null, 0), (6, .getfield 114, 3, 11, 3, .null, 645), (9, .ireturn, 1, 0, 0, .null, 0)]
theorem kkX4_boxes : pgX4_boxes.all (chk cX4_boxes 1 yX4_boxes.cls) = true := by decide +kernel
def pgX4_isBox : List En := [(0, .iload_n 1, 1, 1, 0, .null, 0), (1, .iconst 0, 1, 0, 0, .int 0, 0), (2, .aload_n 0, 1, 0, 0, .null, 0), (3, .getfield 114, 3, 11, 3, .null, 645), (6, .iconst 1, 1, 0, 0, .int 1, 0), (7, .isub, 1, 0, 0, .null, 0), (8, .invokestatic 129, 3, 0, 0, .null, 0), (11, .ireturn, 1, 0, 0, .null, 0)]
theorem kkX4_isBox : pgX4_isBox.all (chk cX4_isBox 2 yX4_isBox.cls) = true := by decide +kernel
def pgX4_kind : List En := [(0, .aload_n 0, 1, 0, 0, .null, 0), (1, .iconst 0, 1, 0, 0, .int 0, 0), (2, .putfield 56, 3, 0, 3, .int 0, 634), (5, .aload_n 0, 1, 0, 0, .null, 0), (6, .iload_n 1, 1, 1, 0, .null, 0), (7, .invokevirtual 230, 3, 0, 0, .null, 0), (10, .ifCond .eq 12, 3, 22, 0, .null, 0), (13, .aload_n 0, 1, 0, 0, .null, 0), (14, .getfield 38, 3, 15, 3, .null, 649), (17, .iload_n 1, 1, 1, 0, .null, 0), (18, .iaload, 1, 0, 0, .null, 0), (19, .goto 4, 3, 23, 0, .null, 0), (22, .iconst (-1), 1, 0, 0, .int (-1), 0), (23, .ireturn, 1, 0, 0, .null, 0)]
theorem kkX4_kind : pgX4_kind.all (chk cX4_kind 2 yX4_kind.cls) = true := by decide +kernel
def pgX4_side : List En := [(0, .aload_n 0, 1, 0, 0, .null, 0), (1, .iload_n 1, 1, 1, 0, .null, 0), (2, .invokevirtual 230, 3, 0, 0, .null, 0), (5, .ifCond .eq 30, 3, 35, 0, .null, 0), (8, .iload_n 2, 1, 2, 0, .null, 0), (9, .iconst 0, 1, 0, 0, .int 0, 0), (10, .aload_n 0, 1, 0, 0, .null, 0), (11, .getfield 120, 3, 1, 3, .null, 635), (14, .iconst 1, 1, 0, 0, .int 1, 0), (15, .isub, 1, 0, 0, .null, 0), (16, .invokestatic 129, 3, 0, 0, .null, 0), (19, .ifCond .eq 16, 3, 35, 0, .null, 0), (22, .iload_n 3, 1, 3, 0, .null, 0), (23, .iconst 0, 1, 0, 0, .int 0, 0), (24, .iconst 1, 1, 0, 0, .int 1, 0), (25, .invokestatic 129, 3, 0, 0, .null, 0), (28, .ifCond .eq 7, 3, 35, 0, .null, 0), (31, .iconst 1, 1, 0, 0, .int 1, 0), (32, .goto 4, 3, 36, 0, .null, 0), (35, .iconst 0, 1, 0, 0, .int 0, 0), (36, .istore 4, 2, 0, 0, .null, 0), (38, .aload_n 0, 1, 0, 0, .null, 0), (39, .iload 4, 2, 0, 0, .null, 0), (41, .ifCond .eq 7, 3, 48, 0, .null, 0), (44, .iconst 0, 1, 0, 0, .int 0, 0), (45, .goto 4, 3, 49, 0, .null, 0), (48, .iconst 1, 1, 0, 0, .int 1, 0), (49, .putfield 56, 3, 0, 3, .int 0, 634), (52, .iload 4, 2, 0, 0, .null, 0), (54, .ifCond .ne 7, 3, 61, 0, .null, 0), (57, .lconst 0, 1, 0, 0, .long 0, 0), (58, .goto 33, 3, 91, 0, .null, 0), (61, .iload_n 3, 1, 3, 0, .null, 0), (62, .ifCond .ne 16, 3, 78, 0, .null, 0), (65, .aload_n 0, 1, 0, 0, .null, 0), (66, .getfield 32, 3, 13, 3, .null, 647), (69, .iconst 3, 1, 0, 0, .int 3, 0), (70, .iload_n 1, 1, 1, 0, .null, 0), (71, .imul, 1, 0, 0, .null, 0), (72, .iload_n 2, 1, 2, 0, .null, 0), (73, .iadd, 1, 0, 0, .null, 0), (74, .daload, 1, 0, 0, .null, 0), (75, .goto 13, 3, 88, 0, .null, 0), (78, .aload_n 0, 1, 0, 0, .null, 0), (79, .getfield 35, 3, 14, 3, .null, 648), (82, .iconst 3, 1, 0, 0, .int 3, 0), (83, .iload_n 1, 1, 1, 0, .null, 0), (84, .imul, 1, 0, 0, .null, 0), (85, .iload_n 2, 1, 2, 0, .null, 0), (86, .iadd, 1, 0, 0, .null, 0), (87, .daload, 1, 0, 0, .null, 0), (88, .invokestatic 81, 3, 0, 0, .null, 0), (91, .lreturn, 1, 0, 0, .null, 0)]
theorem kkX4_side : pgX4_side.all (chk cX4_side 5 yX4_side.cls) = true := by decide +kernel
def pgX4_weight : List En := [(0, .aload_n 0, 1, 0, 0, .null, 0), (1, .iconst 0, 1, 0, 0, .int 0, 0), (2, .putfield 56, 3, 0, 3, .int 0, 634), (5, .aload_n 0, 1, 0, 0, .null, 0), (6, .iload_n 1, 1, 1, 0, .null, 0), (7, .invokevirtual 230, 3, 0, 0, .null, 0), (10, .ifCond .eq 37, 3, 47, 0, .null, 0), (13, .iload_n 2, 1, 2, 0, .null, 0), (14, .iconst 0, 1, 0, 0, .int 0, 0), (15, .iconst 1, 1, 0, 0, .int 1, 0), (16, .invokestatic 129, 3, 0, 0, .null, 0), (19, .ifCond .eq 28, 3, 47, 0, .null, 0), (22, .iload_n 2, 1, 2, 0, .null, 0), (23, .ifCond .ne 12, 3, 35, 0, .null, 0), (26, .aload_n 0, 1, 0, 0, .null, 0), (27, .getfield 41, 3, 16, 3, .null, 650), (30, .iload_n 1, 1, 1, 0, .null, 0), (31, .daload, 1, 0, 0, .null, 0), (32, .goto 9, 3, 41, 0, .null, 0), (35, .aload_n 0, 1, 0, 0, .null, 0), (36, .getfield 44, 3, 17, 3, .null, 651), (39, .iload_n 1, 1, 1, 0, .null, 0), (40, .daload, 1, 0, 0, .null, 0), (41, .invokestatic 81, 3, 0, 0, .null, 0), (44, .goto 4, 3, 48, 0, .null, 0), (47, .lconst 0, 1, 0, 0, .long 0, 0), (48, .lreturn, 1, 0, 0, .null, 0)]
theorem kkX4_weight : pgX4_weight.all (chk cX4_weight 3 yX4_weight.cls) = true := by decide +kernel
def pgX4_enclosed : List En := [(0, .aload_n 0, 1, 0, 0, .null, 0), (1, .iconst 0, 1, 0, 0, .int 0, 0), (2, .putfield 56, 3, 0, 3, .int 0, 634), (5, .aload_n 0, 1, 0, 0, .null, 0), (6, .iload_n 1, 1, 1, 0, .null, 0), (7, .invokevirtual 230, 3, 0, 0, .null, 0), (10, .ifCond .eq 20, 3, 30, 0, .null, 0), (13, .aload_n 0, 1, 0, 0, .null, 0), (14, .iload_n 2, 1, 2, 0, .null, 0), (15, .invokevirtual 133, 3, 0, 0, .null, 0), (18, .ifCond .eq 12, 3, 30, 0, .null, 0), (21, .iload_n 3, 1, 3, 0, .null, 0), (22, .iconst 0, 1, 0, 0, .int 0, 0), (23, .iconst 1, 1, 0, 0, .int 1, 0), (24, .invokestatic 129, 3, 0, 0, .null, 0), (27, .ifCond .ne 5, 3, 32, 0, .null, 0), (30, .lconst 0, 1, 0, 0, .long 0, 0), (31, .lreturn, 1, 0, 0, .null, 0), (32, .aload_n 0, 1, 0, 0, .null, 0), (33, .iload_n 2, 1, 2, 0, .null, 0), (34, .iload_n 1, 1, 1, 0, .null, 0), (35, .invokevirtual 199, 3, 0, 0, .null, 0), (38, .iload_n 3, 1, 3, 0, .null, 0), (39, .ifCond .ne 12, 3, 51, 0, .null, 0), (42, .aload_n 0, 1, 0, 0, .null, 0), (43, .getfield 50, 3, 19, 3, .null, 653), (46, .iload_n 2, 1, 2, 0, .null, 0), (47, .daload, 1, 0, 0, .null, 0), (48, .goto 9, 3, 57, 0, .null, 0), (51, .aload_n 0, 1, 0, 0, .null, 0), (52, .getfield 53, 3, 20, 3, .null, 654), (55, .iload_n 2, 1, 2, 0, .null, 0), (56, .daload, 1, 0, 0, .null, 0), (57, .invokestatic 81, 3, 0, 0, .null, 0), (60, .lreturn, 1, 0, 0, .null, 0)]
theorem kkX4_enclosed : pgX4_enclosed.all (chk cX4_enclosed 4 yX4_enclosed.cls) = true := by decide +kernel
def pgX4_isIn : List En := [(0, .iconst 1, 1, 0, 0, .int 1, 0), (1, .istore 8, 2, 0, 0, .null, 0), (3, .iconst 0, 1, 0, 0, .int 0, 0), (4, .istore 9, 2, 0, 0, .null, 0), (6, .iload 9, 2, 0, 0, .null, 0), (8, .aload_n 0, 1, 0, 0, .null, 0), (9, .getfield 120, 3, 1, 3, .null, 635), (12, .if_icmp .ge 79, 3, 91, 0, .null, 0), (15, .iload 9, 2, 0, 0, .null, 0), (17, .ifCond .ne 7, 3, 24, 0, .null, 0), (20, .dload_n 2, 1, 2, 0, .null, 0), (21, .goto 16, 3, 37, 0, .null, 0), (24, .iload 9, 2, 0, 0, .null, 0), (26, .iconst 1, 1, 0, 0, .int 1, 0), (27, .if_icmp .ne 8, 3, 35, 0, .null, 0), (30, .dload 4, 2, 0, 0, .null, 0), (32, .goto 5, 3, 37, 0, .null, 0), (35, .dload 6, 2, 0, 0, .null, 0), (37, .dstore 10, 2, 0, 0, .null, 0), (39, .iload 8, 2, 0, 0, .null, 0), (41, .ifCond .eq 41, 3, 82, 0, .null, 0), (44, .dload 10, 2, 0, 0, .null, 0), (46, .aload_n 0, 1, 0, 0, .null, 0), (47, .getfield 32, 3, 13, 3, .null, 647), (50, .iconst 3, 1, 0, 0, .int 3, 0), (51, .iload_n 1, 1, 1, 0, .null, 0), (52, .imul, 1, 0, 0, .null, 0), (53, .iload 9, 2, 0, 0, .null, 0), (55, .iadd, 1, 0, 0, .null, 0), (56, .daload, 1, 0, 0, .null, 0), (57, .dcmp .l, 1, 0, 0, .null, 0), (58, .ifCond .lt 24, 3, 82, 0, .null, 0), (61, .dload 10, 2, 0, 0, .null, 0), (63, .aload_n 0, 1, 0, 0, .null, 0), (64, .getfield 35, 3, 14, 3, .null, 648), (67, .iconst 3, 1, 0, 0, .int 3, 0), (68, .iload_n 1, 1, 1, 0, .null, 0), (69, .imul, 1, 0, 0, .null, 0), (70, .iload 9, 2, 0, 0, .null, 0), (72, .iadd, 1, 0, 0, .null, 0), (73, .daload, 1, 0, 0, .null, 0), (74, .dcmp .g, 1, 0, 0, .null, 0), (75, .ifCond .gt 7, 3, 82, 0, .null, 0), (78, .iconst 1, 1, 0, 0, .int 1, 0), (79, .goto 4, 3, 83, 0, .null, 0), (82, .iconst 0, 1, 0, 0, .int 0, 0), (83, .istore 8, 2, 0, 0, .null, 0), (85, .iinc 9 1, 3, 0, 0, .null, 0), (88, .goto (-82), 3, 6, 0, .null, 0), (91, .iload 8, 2, 0, 0, .null, 0), (93, .ireturn, 1, 0, 0, .null, 0)]
theorem kkX4_isIn : pgX4_isIn.all (chk cX4_isIn 12 yX4_isIn.cls) = true := by decide +kernel
def pgX4_within : List En := [(0, .aload_n 0, 1, 0, 0, .null, 0), (1, .iconst 0, 1, 0, 0, .int 0, 0), (2, .putfield 56, 3, 0, 3, .int 0, 634), (5, .aload_n 0, 1, 0, 0, .null, 0), (6, .iload_n 1, 1, 1, 0, .null, 0), (7, .invokevirtual 230, 3, 0, 0, .null, 0), (10, .ifCond .eq 11, 3, 21, 0, .null, 0), (13, .aload_n 0, 1, 0, 0, .null, 0), (14, .iload_n 2, 1, 2, 0, .null, 0), (15, .invokevirtual 133, 3, 0, 0, .null, 0), (18, .ifCond .ne 5, 3, 23, 0, .null, 0), (21, .iconst (-1), 1, 0, 0, .int (-1), 0), (22, .ireturn, 1, 0, 0, .null, 0), (23, .aload_n 0, 1, 0, 0, .null, 0), (24, .iload_n 1, 1, 1, 0, .null, 0), (25, .lload_n 3, 1, 3, 0, .null, 0), (26, .invokestatic 78, 3, 0, 0, .null, 0), (29, .lload 5, 2, 0, 0, .null, 0), (31, .invokestatic 78, 3, 0, 0, .null, 0), (34, .lload 7, 2, 0, 0, .null, 0), (36, .invokestatic 78, 3, 0, 0, .null, 0), (39, .invokevirtual 233, 3, 0, 0, .null, 0), (42, .ifCond .ne 5, 3, 47, 0, .null, 0), (45, .iconst 0, 1, 0, 0, .int 0, 0), (46, .ireturn, 1, 0, 0, .null, 0), (47, .aload_n 0, 1, 0, 0, .null, 0), (48, .iload_n 2, 1, 2, 0, .null, 0), (49, .lload_n 3, 1, 3, 0, .null, 0), (50, .invokestatic 78, 3, 0, 0, .null, 0), (53, .lload 5, 2, 0, 0, .null, 0), (55, .invokestatic 78, 3, 0, 0, .null, 0), (58, .lload 7, 2, 0, 0, .null, 0), (60, .invokestatic 78, 3, 0, 0, .null, 0), (63, .invokevirtual 171, 3, 0, 0, .null, 0), (66, .dstore 9, 2, 0, 0, .null, 0), (68, .aload_n 0, 1, 0, 0, .null, 0), (69, .iload_n 2, 1, 2, 0, .null, 0), (70, .iload_n 1, 1, 1, 0, .null, 0), (71, .invokevirtual 199, 3, 0, 0, .null, 0), (74, .dload 9, 2, 0, 0, .null, 0), (76, .invokestatic 237, 3, 0, 0, .null, 0), (79, .ifCond .ne 27, 3, 106, 0, .null, 0), (82, .dload 9, 2, 0, 0, .null, 0), (84, .aload_n 0, 1, 0, 0, .null, 0), (85, .getfield 50, 3, 19, 3, .null, 653), (88, .iload_n 2, 1, 2, 0, .null, 0), (89, .daload, 1, 0, 0, .null, 0), (90, .dcmp .l, 1, 0, 0, .null, 0), (91, .ifCond .lt 19, 3, 110, 0, .null, 0), (94, .dload 9, 2, 0, 0, .null, 0), (96, .aload_n 0, 1, 0, 0, .null, 0), (97, .getfield 53, 3, 20, 3, .null, 654), (100, .iload_n 2, 1, 2, 0, .null, 0), (101, .daload, 1, 0, 0, .null, 0), (102, .dcmp .g, 1, 0, 0, .null, 0), (103, .ifCond .gt 7, 3, 110, 0, .null, 0), (106, .iconst 2, 1, 0, 0, .int 2, 0), (107, .goto 4, 3, 111, 0, .null, 0), (110, .iconst 1, 1, 0, 0, .int 1, 0), (111, .ireturn, 1, 0, 0, .null, 0)]
theorem kkX4_within : pgX4_within.all (chk cX4_within 11 yX4_within.cls) = true := by decide +kernel
def pgX4_where : List En := [(0, .aload_n 0, 1, 0, 0, .null, 0), (1, .iconst 0, 1, 0, 0, .int 0, 0), (2, .putfield 56, 3, 0, 3, .int 0, 634), (5, .iconst 0, 1, 0, 0, .int 0, 0), (6, .istore 7, 2, 0, 0, .null, 0), (8, .iload 7, 2, 0, 0, .null, 0), (10, .aload_n 0, 1, 0, 0, .null, 0), (11, .getfield 114, 3, 11, 3, .null, 645), (14, .if_icmp .ge 34, 3, 48, 0, .null, 0), (17, .aload_n 0, 1, 0, 0, .null, 0), (18, .iload 7, 2, 0, 0, .null, 0), (20, .lload_n 1, 1, 1, 0, .null, 0), (21, .invokestatic 78, 3, 0, 0, .null, 0), (24, .lload_n 3, 1, 3, 0, .null, 0), (25, .invokestatic 78, 3, 0, 0, .null, 0), (28, .lload 5, 2, 0, 0, .null, 0), (30, .invokestatic 78, 3, 0, 0, .null, 0), (33, .invokevirtual 233, 3, 0, 0, .null, 0), (36, .ifCond .eq 6, 3, 42, 0, .null, 0), (39, .iload 7, 2, 0, 0, .null, 0), (41, .ireturn, 1, 0, 0, .null, 0), (42, .iinc 7 1, 3, 0, 0, .null, 0), (45, .goto (-37), 3, 8, 0, .null, 0), (48, .bipush (-5), 2, 0, 0, .int (-5), 0), (50, .ireturn, 1, 0, 0, .null, 0)]
theorem kkX4_where : pgX4_where.all (chk cX4_where 8 yX4_where.cls) = true := by decide +kernel
def pgX4_massLow : List En := [(0, .dconst 0, 1, 0, 0, .double FP.dconst0, 0), (1, .dstore_n 2, 1, 2, 0, .null, 0), (2, .iconst 0, 1, 0, 0, .int 0, 0), (3, .istore 4, 2, 0, 0, .null, 0), (5, .iload 4, 2, 0, 0, .null, 0), (7, .aload_n 0, 1, 0, 0, .null, 0), (8, .getfield 114, 3, 11, 3, .null, 645), (11, .if_icmp .ge 45, 3, 56, 0, .null, 0), (14, .aload_n 0, 1, 0, 0, .null, 0), (15, .getfield 38, 3, 15, 3, .null, 649), (18, .iload 4, 2, 0, 0, .null, 0), (20, .iaload, 1, 0, 0, .null, 0), (21, .iload_n 1, 1, 1, 0, .null, 0), (22, .if_icmp .ne 28, 3, 50, 0, .null, 0), (25, .dload_n 2, 1, 2, 0, .null, 0), (26, .aload_n 0, 1, 0, 0, .null, 0), (27, .getfield 41, 3, 16, 3, .null, 650), (30, .iload 4, 2, 0, 0, .null, 0), (32, .daload, 1, 0, 0, .null, 0), (33, .dadd, 1, 0, 0, .null, 0), (34, .invokestatic 179, 3, 0, 0, .null, 0), (37, .dstore_n 2, 1, 2, 0, .null, 0), (38, .dload_n 2, 1, 2, 0, .null, 0), (39, .dconst 0, 1, 0, 0, .double FP.dconst0, 0), (40, .dcmp .g, 1, 0, 0, .null, 0), (41, .ifCond .ge 7, 3, 48, 0, .null, 0), (44, .dconst 0, 1, 0, 0, .double FP.dconst0, 0), (45, .goto 4, 3, 49, 0, .null, 0), (48, .dload_n 2, 1, 2, 0, .null, 0), (49, .dstore_n 2, 1, 2, 0, .null, 0), (50, .iinc 4 1, 3, 0, 0, .null, 0), (53, .goto (-48), 3, 5, 0, .null, 0), (56, .dload_n 2, 1, 2, 0, .null, 0), (57, .dreturn, 1, 0, 0, .null, 0)]
theorem kkX4_massLow : pgX4_massLow.all (chk cX4_massLow 5 yX4_massLow.cls) = true := by decide +kernel
def pgX4_massHigh : List En := [(0, .dconst 0, 1, 0, 0, .double FP.dconst0, 0), (1, .dstore_n 2, 1, 2, 0, .null, 0), (2, .iconst 0, 1, 0, 0, .int 0, 0), (3, .istore 4, 2, 0, 0, .null, 0), (5, .iload 4, 2, 0, 0, .null, 0), (7, .aload_n 0, 1, 0, 0, .null, 0), (8, .getfield 114, 3, 11, 3, .null, 645), (11, .if_icmp .ge 37, 3, 48, 0, .null, 0), (14, .aload_n 0, 1, 0, 0, .null, 0), (15, .getfield 38, 3, 15, 3, .null, 649), (18, .iload 4, 2, 0, 0, .null, 0), (20, .iaload, 1, 0, 0, .null, 0), (21, .iload_n 1, 1, 1, 0, .null, 0), (22, .if_icmp .ne 18, 3, 40, 0, .null, 0), (25, .dload_n 2, 1, 2, 0, .null, 0), (26, .aload_n 0, 1, 0, 0, .null, 0), (27, .getfield 44, 3, 17, 3, .null, 651), (30, .iload 4, 2, 0, 0, .null, 0), (32, .daload, 1, 0, 0, .null, 0), (33, .dadd, 1, 0, 0, .null, 0), (34, .invokestatic 84, 3, 0, 0, .null, 0), (37, .goto 4, 3, 41, 0, .null, 0), (40, .dload_n 2, 1, 2, 0, .null, 0), (41, .dstore_n 2, 1, 2, 0, .null, 0), (42, .iinc 4 1, 3, 0, 0, .null, 0), (45, .goto (-40), 3, 5, 0, .null, 0), (48, .dload_n 2, 1, 2, 0, .null, 0), (49, .dreturn, 1, 0, 0, .null, 0)]
theorem kkX4_massHigh : pgX4_massHigh.all (chk cX4_massHigh 5 yX4_massHigh.cls) = true := by decide +kernel
def pgX4_mass : List En := [(0, .aload_n 0, 1, 0, 0, .null, 0), (1, .iconst 0, 1, 0, 0, .int 0, 0), (2, .putfield 56, 3, 0, 3, .int 0, 634), (5, .iload_n 1, 1, 1, 0, .null, 0), (6, .iconst 0, 1, 0, 0, .int 0, 0), (7, .iconst 3, 1, 0, 0, .int 3, 0), (8, .invokestatic 129, 3, 0, 0, .null, 0), (11, .ifCond .eq 19, 3, 30, 0, .null, 0), (14, .iload_n 2, 1, 2, 0, .null, 0), (15, .iconst 0, 1, 0, 0, .int 0, 0), (16, .iconst 1, 1, 0, 0, .int 1, 0), (17, .invokestatic 129, 3, 0, 0, .null, 0), (20, .ifCond .eq 10, 3, 30, 0, .null, 0), (23, .aload_n 0, 1, 0, 0, .null, 0), (24, .getfield 110, 3, 10, 3, .null, 644), (27, .ifCond .ne 5, 3, 32, 0, .null, 0), (30, .lconst 0, 1, 0, 0, .long 0, 0), (31, .lreturn, 1, 0, 0, .null, 0), (32, .iload_n 2, 1, 2, 0, .null, 0), (33, .ifCond .ne 11, 3, 44, 0, .null, 0), (36, .aload_n 0, 1, 0, 0, .null, 0), (37, .iload_n 1, 1, 1, 0, .null, 0), (38, .invokevirtual 240, 3, 0, 0, .null, 0), (41, .goto 8, 3, 49, 0, .null, 0), (44, .aload_n 0, 1, 0, 0, .null, 0), (45, .iload_n 1, 1, 1, 0, .null, 0), (46, .invokevirtual 243, 3, 0, 0, .null, 0), (49, .invokestatic 81, 3, 0, 0, .null, 0), (52, .lreturn, 1, 0, 0, .null, 0)]
theorem kkX4_mass : pgX4_mass.all (chk cX4_mass 3 yX4_mass.cls) = true := by decide +kernel
def pgX4_odds : List En := [(0, .aload_n 0, 1, 0, 0, .null, 0), (1, .iconst 0, 1, 0, 0, .int 0, 0), (2, .putfield 56, 3, 0, 3, .int 0, 634), (5, .iload_n 1, 1, 1, 0, .null, 0), (6, .iconst 0, 1, 0, 0, .int 0, 0), (7, .iconst 1, 1, 0, 0, .int 1, 0), (8, .invokestatic 129, 3, 0, 0, .null, 0), (11, .ifCond .eq 10, 3, 21, 0, .null, 0), (14, .aload_n 0, 1, 0, 0, .null, 0), (15, .getfield 110, 3, 10, 3, .null, 644), (18, .ifCond .ne 5, 3, 23, 0, .null, 0), (21, .lconst 0, 1, 0, 0, .long 0, 0), (22, .lreturn, 1, 0, 0, .null, 0), (23, .iload_n 1, 1, 1, 0, .null, 0), (24, .ifCond .ne 53, 3, 77, 0, .null, 0), (27, .aload_n 0, 1, 0, 0, .null, 0), (28, .iconst 1, 1, 0, 0, .int 1, 0), (29, .invokevirtual 240, 3, 0, 0, .null, 0), (32, .aload_n 0, 1, 0, 0, .null, 0), (33, .iconst 1, 1, 0, 0, .int 1, 0), (34, .invokevirtual 240, 3, 0, 0, .null, 0), (37, .aload_n 0, 1, 0, 0, .null, 0), (38, .iconst 2, 1, 0, 0, .int 2, 0), (39, .invokevirtual 243, 3, 0, 0, .null, 0), (42, .dadd, 1, 0, 0, .null, 0), (43, .invokestatic 84, 3, 0, 0, .null, 0), (46, .aload_n 0, 1, 0, 0, .null, 0), (47, .iconst 3, 1, 0, 0, .int 3, 0), (48, .invokevirtual 243, 3, 0, 0, .null, 0), (51, .dadd, 1, 0, 0, .null, 0), (52, .invokestatic 84, 3, 0, 0, .null, 0), (55, .invokestatic 150, 3, 0, 0, .null, 0), (58, .invokestatic 179, 3, 0, 0, .null, 0), (61, .dstore_n 2, 1, 2, 0, .null, 0), (62, .dload_n 2, 1, 2, 0, .null, 0), (63, .dconst 0, 1, 0, 0, .double FP.dconst0, 0), (64, .dcmp .l, 1, 0, 0, .null, 0), (65, .ifCond .lt 7, 3, 72, 0, .null, 0), (68, .dload_n 2, 1, 2, 0, .null, 0), (69, .goto 4, 3, 73, 0, .null, 0), (72, .dconst 0, 1, 0, 0, .double FP.dconst0, 0), (73, .invokestatic 81, 3, 0, 0, .null, 0), (76, .lreturn, 1, 0, 0, .null, 0), (77, .aload_n 0, 1, 0, 0, .null, 0), (78, .iconst 1, 1, 0, 0, .int 1, 0), (79, .invokevirtual 243, 3, 0, 0, .null, 0), (82, .aload_n 0, 1, 0, 0, .null, 0), (83, .iconst 3, 1, 0, 0, .int 3, 0), (84, .invokevirtual 243, 3, 0, 0, .null, 0), (87, .dadd, 1, 0, 0, .null, 0), (88, .invokestatic 84, 3, 0, 0, .null, 0), (91, .dstore_n 2, 1, 2, 0, .null, 0), (92, .dload_n 2, 1, 2, 0, .null, 0), (93, .dload_n 2, 1, 2, 0, .null, 0), (94, .aload_n 0, 1, 0, 0, .null, 0), (95, .iconst 2, 1, 0, 0, .int 2, 0), (96, .invokevirtual 240, 3, 0, 0, .null, 0), (99, .dadd, 1, 0, 0, .null, 0), (100, .invokestatic 179, 3, 0, 0, .null, 0), (103, .invokestatic 150, 3, 0, 0, .null, 0), (106, .invokestatic 84, 3, 0, 0, .null, 0), (109, .dstore 4, 2, 0, 0, .null, 0), (111, .dload 4, 2, 0, 0, .null, 0), (113, .dconst 1, 1, 0, 0, .double FP.dconst1, 0), (114, .dcmp .g, 1, 0, 0, .null, 0), (115, .ifCond .gt 8, 3, 123, 0, .null, 0), (118, .dload 4, 2, 0, 0, .null, 0), (120, .goto 4, 3, 124, 0, .null, 0), (123, .dconst 1, 1, 0, 0, .double FP.dconst1, 0), (124, .invokestatic 81, 3, 0, 0, .null, 0), (127, .lreturn, 1, 0, 0, .null, 0)]
theorem kkX4_odds : pgX4_odds.all (chk cX4_odds 6 yX4_odds.cls) = true := by decide +kernel
def pgX4_countOf : List En := [(0, .iconst 0, 1, 0, 0, .int 0, 0), (1, .istore_n 2, 1, 2, 0, .null, 0), (2, .iconst 0, 1, 0, 0, .int 0, 0), (3, .istore_n 3, 1, 3, 0, .null, 0), (4, .iload_n 3, 1, 3, 0, .null, 0), (5, .aload_n 0, 1, 0, 0, .null, 0), (6, .getfield 114, 3, 11, 3, .null, 645), (9, .if_icmp .ge 27, 3, 36, 0, .null, 0), (12, .iload_n 2, 1, 2, 0, .null, 0), (13, .aload_n 0, 1, 0, 0, .null, 0), (14, .getfield 38, 3, 15, 3, .null, 649), (17, .iload_n 3, 1, 3, 0, .null, 0), (18, .iaload, 1, 0, 0, .null, 0), (19, .iload_n 1, 1, 1, 0, .null, 0), (20, .if_icmp .ne 7, 3, 27, 0, .null, 0), (23, .iconst 1, 1, 0, 0, .int 1, 0), (24, .goto 4, 3, 28, 0, .null, 0), (27, .iconst 0, 1, 0, 0, .int 0, 0), (28, .iadd, 1, 0, 0, .null, 0), (29, .istore_n 2, 1, 2, 0, .null, 0), (30, .iinc 3 1, 3, 0, 0, .null, 0), (33, .goto (-29), 3, 4, 0, .null, 0), (36, .iload_n 2, 1, 2, 0, .null, 0), (37, .ireturn, 1, 0, 0, .null, 0)]
theorem kkX4_countOf : pgX4_countOf.all (chk cX4_countOf 4 yX4_countOf.cls) = true := by decide +kernel
def pgX4_share : List En := [(0, .aload_n 0, 1, 0, 0, .null, 0), (1, .iconst 0, 1, 0, 0, .int 0, 0), (2, .putfield 56, 3, 0, 3, .int 0, 634), (5, .iload_n 1, 1, 1, 0, .null, 0), (6, .iconst 0, 1, 0, 0, .int 0, 0), (7, .iconst 3, 1, 0, 0, .int 3, 0), (8, .invokestatic 129, 3, 0, 0, .null, 0), (11, .ifCond .ne 6, 3, 17, 0, .null, 0), (14, .bipush (-2), 2, 0, 0, .int (-2), 0), (16, .ireturn, 1, 0, 0, .null, 0), (17, .aload_n 0, 1, 0, 0, .null, 0), (18, .getfield 110, 3, 10, 3, .null, 644), (21, .ifCond .ne 6, 3, 27, 0, .null, 0), (24, .bipush (-3), 2, 0, 0, .int (-3), 0), (26, .ireturn, 1, 0, 0, .null, 0), (27, .aload_n 0, 1, 0, 0, .null, 0), (28, .iconst 3, 1, 0, 0, .int 3, 0), (29, .invokevirtual 246, 3, 0, 0, .null, 0), (32, .istore_n 2, 1, 2, 0, .null, 0), (33, .iload_n 2, 1, 2, 0, .null, 0), (34, .ifCond .ne 10, 3, 44, 0, .null, 0), (37, .aload_n 0, 1, 0, 0, .null, 0), (38, .iconst 1, 1, 0, 0, .int 1, 0), (39, .putfield 56, 3, 0, 3, .int 0, 634), (42, .iconst 0, 1, 0, 0, .int 0, 0), (43, .ireturn, 1, 0, 0, .null, 0), (44, .aload_n 0, 1, 0, 0, .null, 0), (45, .iload_n 1, 1, 1, 0, .null, 0), (46, .invokevirtual 246, 3, 0, 0, .null, 0), (49, .iload_n 2, 1, 2, 0, .null, 0), (50, .idiv, 1, 0, 0, .null, 0), (51, .ireturn, 1, 0, 0, .null, 0)]
theorem kkX4_share : pgX4_share.all (chk cX4_share 3 yX4_share.cls) = true := by decide +kernel
def pgX4_count : List En := [(0, .aload_n 0, 1, 0, 0, .null, 0), (1, .iconst 0, 1, 0, 0, .int 0, 0), (2, .putfield 56, 3, 0, 3, .int 0, 634), (5, .iconst 0, 1, 0, 0, .int 0, 0), (6, .istore_n 2, 1, 2, 0, .null, 0), (7, .iconst 0, 1, 0, 0, .int 0, 0), (8, .istore_n 3, 1, 3, 0, .null, 0), (9, .iload_n 3, 1, 3, 0, .null, 0), (10, .aload_n 0, 1, 0, 0, .null, 0), (11, .getfield 114, 3, 11, 3, .null, 645), (14, .if_icmp .ge 35, 3, 49, 0, .null, 0), (17, .iload_n 2, 1, 2, 0, .null, 0), (18, .aload_n 0, 1, 0, 0, .null, 0), (19, .getfield 38, 3, 15, 3, .null, 649), (22, .iload_n 3, 1, 3, 0, .null, 0), (23, .iaload, 1, 0, 0, .null, 0), (24, .iconst 3, 1, 0, 0, .int 3, 0), (25, .if_icmp .ne 15, 3, 40, 0, .null, 0), (28, .aload_n 0, 1, 0, 0, .null, 0), (29, .iload_n 3, 1, 3, 0, .null, 0), (30, .invokevirtual 223, 3, 0, 0, .null, 0), (33, .ifCond .eq 7, 3, 40, 0, .null, 0), (36, .iconst 1, 1, 0, 0, .int 1, 0), (37, .goto 4, 3, 41, 0, .null, 0), (40, .iconst 0, 1, 0, 0, .int 0, 0), (41, .iadd, 1, 0, 0, .null, 0), (42, .istore_n 2, 1, 2, 0, .null, 0), (43, .iinc 3 1, 3, 0, 0, .null, 0), (46, .goto (-37), 3, 9, 0, .null, 0), (49, .iload_n 1, 1, 1, 0, .null, 0), (50, .tableswitch 56 0 4 #[34, 39, 44, 49, 54], 34, 106, 0, .null, 0), (84, .aload_n 0, 1, 0, 0, .null, 0), (85, .getfield 120, 3, 1, 3, .null, 635), (88, .ireturn, 1, 0, 0, .null, 0), (89, .aload_n 0, 1, 0, 0, .null, 0), (90, .getfield 126, 3, 4, 3, .null, 638), (93, .ireturn, 1, 0, 0, .null, 0), (94, .aload_n 0, 1, 0, 0, .null, 0), (95, .getfield 114, 3, 11, 3, .null, 645), (98, .ireturn, 1, 0, 0, .null, 0), (99, .aload_n 0, 1, 0, 0, .null, 0), (100, .getfield 117, 3, 12, 3, .null, 646), (103, .ireturn, 1, 0, 0, .null, 0), (104, .iload_n 2, 1, 2, 0, .null, 0), (105, .ireturn, 1, 0, 0, .null, 0), (106, .bipush (-2), 2, 0, 0, .int (-2), 0), (108, .ireturn, 1, 0, 0, .null, 0)]
theorem kkX4_count : pgX4_count.all (chk cX4_count 4 yX4_count.cls) = true := by decide +kernel
def pgX4_clear : List En := [(0, .aload_n 0, 1, 0, 0, .null, 0), (1, .iconst 0, 1, 0, 0, .int 0, 0), (2, .putfield 56, 3, 0, 3, .int 0, 634), (5, .aload_n 0, 1, 0, 0, .null, 0), (6, .getfield 126, 3, 4, 3, .null, 638), (9, .istore_n 1, 1, 1, 0, .null, 0), (10, .aload_n 0, 1, 0, 0, .null, 0), (11, .iconst 0, 1, 0, 0, .int 0, 0), (12, .putfield 120, 3, 1, 3, .int 0, 635), (15, .aload_n 0, 1, 0, 0, .null, 0), (16, .iconst 0, 1, 0, 0, .int 0, 0), (17, .putfield 126, 3, 4, 3, .int 0, 638), (20, .iconst 0, 1, 0, 0, .int 0, 0), (21, .istore_n 2, 1, 2, 0, .null, 0), (22, .iload_n 2, 1, 2, 0, .null, 0), (23, .iconst 5, 1, 0, 0, .int 5, 0), (24, .if_icmp .ge 17, 3, 41, 0, .null, 0), (27, .aload_n 0, 1, 0, 0, .null, 0), (28, .getfield 29, 3, 9, 3, .null, 643), (31, .iload_n 2, 1, 2, 0, .null, 0), (32, .bipush (-5), 2, 0, 0, .int (-5), 0), (34, .iastore, 1, 0, 0, .null, 0), (35, .iinc 2 1, 3, 0, 0, .null, 0), (38, .goto (-16), 3, 22, 0, .null, 0), (41, .aload_n 0, 1, 0, 0, .null, 0), (42, .invokevirtual 123, 3, 0, 0, .null, 0), (45, .iload_n 1, 1, 1, 0, .null, 0), (46, .ireturn, 1, 0, 0, .null, 0)]
theorem kkX4_clear : pgX4_clear.all (chk cX4_clear 3 yX4_clear.cls) = true := by decide +kernel
end
section
def fJ9_max_7cf53 (a b : Int32) : Int32 := if a < b then b else a
def tJ9_max_7cf53 : Tr := fun as σ k => match as with
  | [.int a, .int b] => k (some (.int (fJ9_max_7cf53 a b))) σ
  | _ => False
theorem ce_max {l : Launch} {own : String} {lvl idx : Nat} (h1 : Cond.methodLink own idx Lib.Math.max.name ∈ lw_all) (h2 : Cond.static Lib.Math.max.name ∈ lw_all) (h3 : Cond.initialized "java/lang/Math" ∈ lw_all) (h4 : Cond.code Lib.Math.max.name Lib.Math.max.code 2 (some .int) ∈ lw_all) (hR : 1 ≤ lvl) {CE : List (Nat × Nat × Tr)} (hCE : CEok l own lvl CE) : CEok l own lvl ((2 * idx, 2, tJ9_max_7cf53) :: CE) := by
  intro q hq
  rcases List.mem_cons.mp hq with rfl | hq
  · intro p e R s m args below meth c cells slots Z cc nL D ρ τ A H0 F hRf hRl hRc hRs
    obtain ⟨hx, hb, hml, hown, hts, hK⟩ := F
    intro ins pc as σ kk lv rest hins hdg hlen hT hroom hkk H locs ls hl hP hD hS
    have hins : ins = .invokestatic idx := by
      obtain ⟨i, ⟨a1, a2⟩ | ⟨a1, a2⟩⟩ := hins
      · have : i = idx := by simp at a2; omega
        rw [a1, this]
      · simp at a2; omega
    subst hins
    change tJ9_max_7cf53 as σ kk at hT
    unfold tJ9_max_7cf53 at hT; split at hT
    · rename_i a b
      have hr2 : ((rest.map (rv ρ)).map fun v => v.category).sum ≤ 8 := by rw [List.map_map]; exact Nat.le_trans (Nat.le_of_eq (congrArg List.sum (List.map_congr_left fun v _ => rv_cat ρ v))) hroom
      exact va_mmax (rest := rest.map (rv ρ)) (x := a) (y := b) hx hb (by rw [hml]; exact hl.1.symm) hown (hts _ h1) (hts _ h2) (hts _ h3) (hts _ h4) (by omega) (by omega) hRc hRs hdg (hkk _ σ hT H locs ls hl hP hD hS)
    · exact hT.elim
  · exact hCE q hq
end
section
theorem leafL {post : Option Value → aS → Prop} {σ : aS} {x y : Int64} (h : post (some (.long x)) σ) (e : x = y) : post (some (.long y)) σ := e ▸ h
theorem leafI {post : Option Value → aS → Prop} {σ : aS} {x y : Int32} (h : post (some (.int x)) σ) (e : x = y) : post (some (.int y)) σ := e ▸ h
theorem leafD {post : Option Value → aS → Prop} {σ : aS} {x y : UInt64} (h : post (some (.double x)) σ) (e : x = y) : post (some (.double y)) σ := e ▸ h
def fJ6_numberOfLeadingZeros_0f7a4 (a : Int32) : Int32 :=
  if 0 < a then
    if a < (65536 : Int32) then
      if a < (256 : Int32) then
        if a < (16 : Int32) then
          if a < (4 : Int32) then
            ((31 : Int32) - (a.toUInt32 >>> ((1 : Int32).toUInt32 &&& Int32.toUInt32 31)).toInt32)
          else
            (((31 : Int32) + (-2 : Int32)) - ((a.toUInt32 >>> ((2 : Int32).toUInt32 &&& Int32.toUInt32 31)).toInt32.toUInt32 >>> ((1 : Int32).toUInt32 &&& Int32.toUInt32 31)).toInt32)
        else
          if (a.toUInt32 >>> ((4 : Int32).toUInt32 &&& Int32.toUInt32 31)).toInt32 < (4 : Int32) then
            (((31 : Int32) + (-4 : Int32)) - ((a.toUInt32 >>> ((4 : Int32).toUInt32 &&& Int32.toUInt32 31)).toInt32.toUInt32 >>> ((1 : Int32).toUInt32 &&& Int32.toUInt32 31)).toInt32)
          else
            ((((31 : Int32) + (-4 : Int32)) + (-2 : Int32)) - (((a.toUInt32 >>> ((4 : Int32).toUInt32 &&& Int32.toUInt32 31)).toInt32.toUInt32 >>> ((2 : Int32).toUInt32 &&& Int32.toUInt32 31)).toInt32.toUInt32 >>> ((1 : Int32).toUInt32 &&& Int32.toUInt32 31)).toInt32)
      else
        if (a.toUInt32 >>> ((8 : Int32).toUInt32 &&& Int32.toUInt32 31)).toInt32 < (16 : Int32) then
          if (a.toUInt32 >>> ((8 : Int32).toUInt32 &&& Int32.toUInt32 31)).toInt32 < (4 : Int32) then
            (((31 : Int32) + (-8 : Int32)) - ((a.toUInt32 >>> ((8 : Int32).toUInt32 &&& Int32.toUInt32 31)).toInt32.toUInt32 >>> ((1 : Int32).toUInt32 &&& Int32.toUInt32 31)).toInt32)
          else
            ((((31 : Int32) + (-8 : Int32)) + (-2 : Int32)) - (((a.toUInt32 >>> ((8 : Int32).toUInt32 &&& Int32.toUInt32 31)).toInt32.toUInt32 >>> ((2 : Int32).toUInt32 &&& Int32.toUInt32 31)).toInt32.toUInt32 >>> ((1 : Int32).toUInt32 &&& Int32.toUInt32 31)).toInt32)
        else
          if ((a.toUInt32 >>> ((8 : Int32).toUInt32 &&& Int32.toUInt32 31)).toInt32.toUInt32 >>> ((4 : Int32).toUInt32 &&& Int32.toUInt32 31)).toInt32 < (4 : Int32) then
            ((((31 : Int32) + (-8 : Int32)) + (-4 : Int32)) - (((a.toUInt32 >>> ((8 : Int32).toUInt32 &&& Int32.toUInt32 31)).toInt32.toUInt32 >>> ((4 : Int32).toUInt32 &&& Int32.toUInt32 31)).toInt32.toUInt32 >>> ((1 : Int32).toUInt32 &&& Int32.toUInt32 31)).toInt32)
          else
            (((((31 : Int32) + (-8 : Int32)) + (-4 : Int32)) + (-2 : Int32)) - ((((a.toUInt32 >>> ((8 : Int32).toUInt32 &&& Int32.toUInt32 31)).toInt32.toUInt32 >>> ((4 : Int32).toUInt32 &&& Int32.toUInt32 31)).toInt32.toUInt32 >>> ((2 : Int32).toUInt32 &&& Int32.toUInt32 31)).toInt32.toUInt32 >>> ((1 : Int32).toUInt32 &&& Int32.toUInt32 31)).toInt32)
    else
      if (a.toUInt32 >>> ((16 : Int32).toUInt32 &&& Int32.toUInt32 31)).toInt32 < (256 : Int32) then
        if (a.toUInt32 >>> ((16 : Int32).toUInt32 &&& Int32.toUInt32 31)).toInt32 < (16 : Int32) then
          if (a.toUInt32 >>> ((16 : Int32).toUInt32 &&& Int32.toUInt32 31)).toInt32 < (4 : Int32) then
            (((31 : Int32) + (-16 : Int32)) - ((a.toUInt32 >>> ((16 : Int32).toUInt32 &&& Int32.toUInt32 31)).toInt32.toUInt32 >>> ((1 : Int32).toUInt32 &&& Int32.toUInt32 31)).toInt32)
          else
            ((((31 : Int32) + (-16 : Int32)) + (-2 : Int32)) - (((a.toUInt32 >>> ((16 : Int32).toUInt32 &&& Int32.toUInt32 31)).toInt32.toUInt32 >>> ((2 : Int32).toUInt32 &&& Int32.toUInt32 31)).toInt32.toUInt32 >>> ((1 : Int32).toUInt32 &&& Int32.toUInt32 31)).toInt32)
        else
          if ((a.toUInt32 >>> ((16 : Int32).toUInt32 &&& Int32.toUInt32 31)).toInt32.toUInt32 >>> ((4 : Int32).toUInt32 &&& Int32.toUInt32 31)).toInt32 < (4 : Int32) then
            ((((31 : Int32) + (-16 : Int32)) + (-4 : Int32)) - (((a.toUInt32 >>> ((16 : Int32).toUInt32 &&& Int32.toUInt32 31)).toInt32.toUInt32 >>> ((4 : Int32).toUInt32 &&& Int32.toUInt32 31)).toInt32.toUInt32 >>> ((1 : Int32).toUInt32 &&& Int32.toUInt32 31)).toInt32)
          else
            (((((31 : Int32) + (-16 : Int32)) + (-4 : Int32)) + (-2 : Int32)) - ((((a.toUInt32 >>> ((16 : Int32).toUInt32 &&& Int32.toUInt32 31)).toInt32.toUInt32 >>> ((4 : Int32).toUInt32 &&& Int32.toUInt32 31)).toInt32.toUInt32 >>> ((2 : Int32).toUInt32 &&& Int32.toUInt32 31)).toInt32.toUInt32 >>> ((1 : Int32).toUInt32 &&& Int32.toUInt32 31)).toInt32)
      else
        if ((a.toUInt32 >>> ((16 : Int32).toUInt32 &&& Int32.toUInt32 31)).toInt32.toUInt32 >>> ((8 : Int32).toUInt32 &&& Int32.toUInt32 31)).toInt32 < (16 : Int32) then
          if ((a.toUInt32 >>> ((16 : Int32).toUInt32 &&& Int32.toUInt32 31)).toInt32.toUInt32 >>> ((8 : Int32).toUInt32 &&& Int32.toUInt32 31)).toInt32 < (4 : Int32) then
            ((((31 : Int32) + (-16 : Int32)) + (-8 : Int32)) - (((a.toUInt32 >>> ((16 : Int32).toUInt32 &&& Int32.toUInt32 31)).toInt32.toUInt32 >>> ((8 : Int32).toUInt32 &&& Int32.toUInt32 31)).toInt32.toUInt32 >>> ((1 : Int32).toUInt32 &&& Int32.toUInt32 31)).toInt32)
          else
            (((((31 : Int32) + (-16 : Int32)) + (-8 : Int32)) + (-2 : Int32)) - ((((a.toUInt32 >>> ((16 : Int32).toUInt32 &&& Int32.toUInt32 31)).toInt32.toUInt32 >>> ((8 : Int32).toUInt32 &&& Int32.toUInt32 31)).toInt32.toUInt32 >>> ((2 : Int32).toUInt32 &&& Int32.toUInt32 31)).toInt32.toUInt32 >>> ((1 : Int32).toUInt32 &&& Int32.toUInt32 31)).toInt32)
        else
          if (((a.toUInt32 >>> ((16 : Int32).toUInt32 &&& Int32.toUInt32 31)).toInt32.toUInt32 >>> ((8 : Int32).toUInt32 &&& Int32.toUInt32 31)).toInt32.toUInt32 >>> ((4 : Int32).toUInt32 &&& Int32.toUInt32 31)).toInt32 < (4 : Int32) then
            (((((31 : Int32) + (-16 : Int32)) + (-8 : Int32)) + (-4 : Int32)) - ((((a.toUInt32 >>> ((16 : Int32).toUInt32 &&& Int32.toUInt32 31)).toInt32.toUInt32 >>> ((8 : Int32).toUInt32 &&& Int32.toUInt32 31)).toInt32.toUInt32 >>> ((4 : Int32).toUInt32 &&& Int32.toUInt32 31)).toInt32.toUInt32 >>> ((1 : Int32).toUInt32 &&& Int32.toUInt32 31)).toInt32)
          else
            ((((((31 : Int32) + (-16 : Int32)) + (-8 : Int32)) + (-4 : Int32)) + (-2 : Int32)) - (((((a.toUInt32 >>> ((16 : Int32).toUInt32 &&& Int32.toUInt32 31)).toInt32.toUInt32 >>> ((8 : Int32).toUInt32 &&& Int32.toUInt32 31)).toInt32.toUInt32 >>> ((4 : Int32).toUInt32 &&& Int32.toUInt32 31)).toInt32.toUInt32 >>> ((2 : Int32).toUInt32 &&& Int32.toUInt32 31)).toInt32.toUInt32 >>> ((1 : Int32).toUInt32 &&& Int32.toUInt32 31)).toInt32)
  else
    if a = 0 then
      (32 : Int32)
    else
      (0 : Int32)
def tJ6_numberOfLeadingZeros_0f7a4 : Tr := fun as σ k => match as with
  | [.int a] => k (some (.int (fJ6_numberOfLeadingZeros_0f7a4 a))) σ
  | _ => False
def ceJ6_numberOfLeadingZeros_0f7a4 : List (Nat × Nat × Tr) := []
theorem coJ6_numberOfLeadingZeros_0f7a4 (l : Launch) : CEok l yJ6_numberOfLeadingZeros_0f7a4.cls 0 ceJ6_numberOfLeadingZeros_0f7a4 := ce_0
set_option maxRecDepth 20000 in
theorem okJ6_numberOfLeadingZeros_0f7a4 (l : Launch) : OK l yJ6_numberOfLeadingZeros_0f7a4 cJ6_numberOfLeadingZeros_0f7a4 2 (some .int) 0 tJ6_numberOfLeadingZeros_0f7a4 := by
  intro D τ ρ A as σ post h
  unfold tJ6_numberOfLeadingZeros_0f7a4 at h; split at h
  · rename_i a; have hk := h
    refine met_of (P := pgJ6_numberOfLeadingZeros_0f7a4) (CE := ceJ6_numberOfLeadingZeros_0f7a4) (cut := []) (by decide) kkJ6_numberOfLeadingZeros_0f7a4 (coJ6_numberOfLeadingZeros_0f7a4 l) (Nat.le_of_ble_eq_true rfl) ?_
    intro G hG; refine hG 120 false 0 _ _ _ ?_
    refine And.intro (fun (h0 : 0 < a) => ?_) (fun (h0 : ¬ 0 < a) => ?_)
    · refine And.intro (fun (h1 : a < (65536 : Int32)) => ?_) (fun (h1 : ¬ a < (65536 : Int32)) => ?_)
      · refine And.intro (fun (h2 : a < (256 : Int32)) => ?_) (fun (h2 : ¬ a < (256 : Int32)) => ?_)
        · refine And.intro (fun (h3 : a < (16 : Int32)) => ?_) (fun (h3 : ¬ a < (16 : Int32)) => ?_)
          · refine And.intro (fun (h4 : a < (4 : Int32)) => ?_) (fun (h4 : ¬ a < (4 : Int32)) => ?_)
            · exact And.intro trivial (leafI hk (by unfold fJ6_numberOfLeadingZeros_0f7a4; first | (rw [if_pos h0, if_pos h1, if_pos h2, if_pos h3, if_pos h4]; done) | (rw [if_pos h0, if_pos h1, if_pos h2, if_pos h3, if_pos h4]; rfl)))
            · exact And.intro trivial (leafI hk (by unfold fJ6_numberOfLeadingZeros_0f7a4; first | (rw [if_pos h0, if_pos h1, if_pos h2, if_pos h3, if_neg h4]; done) | (rw [if_pos h0, if_pos h1, if_pos h2, if_pos h3, if_neg h4]; rfl)))
          · refine And.intro (fun (h4 : (a.toUInt32 >>> ((4 : Int32).toUInt32 &&& Int32.toUInt32 31)).toInt32 < (4 : Int32)) => ?_) (fun (h4 : ¬ (a.toUInt32 >>> ((4 : Int32).toUInt32 &&& Int32.toUInt32 31)).toInt32 < (4 : Int32)) => ?_)
            · exact And.intro trivial (leafI hk (by unfold fJ6_numberOfLeadingZeros_0f7a4; first | (rw [if_pos h0, if_pos h1, if_pos h2, if_neg h3, if_pos h4]; done) | (rw [if_pos h0, if_pos h1, if_pos h2, if_neg h3, if_pos h4]; rfl)))
            · exact And.intro trivial (leafI hk (by unfold fJ6_numberOfLeadingZeros_0f7a4; first | (rw [if_pos h0, if_pos h1, if_pos h2, if_neg h3, if_neg h4]; done) | (rw [if_pos h0, if_pos h1, if_pos h2, if_neg h3, if_neg h4]; rfl)))
        · refine And.intro (fun (h3 : (a.toUInt32 >>> ((8 : Int32).toUInt32 &&& Int32.toUInt32 31)).toInt32 < (16 : Int32)) => ?_) (fun (h3 : ¬ (a.toUInt32 >>> ((8 : Int32).toUInt32 &&& Int32.toUInt32 31)).toInt32 < (16 : Int32)) => ?_)
          · refine And.intro (fun (h4 : (a.toUInt32 >>> ((8 : Int32).toUInt32 &&& Int32.toUInt32 31)).toInt32 < (4 : Int32)) => ?_) (fun (h4 : ¬ (a.toUInt32 >>> ((8 : Int32).toUInt32 &&& Int32.toUInt32 31)).toInt32 < (4 : Int32)) => ?_)
            · exact And.intro trivial (leafI hk (by unfold fJ6_numberOfLeadingZeros_0f7a4; first | (rw [if_pos h0, if_pos h1, if_neg h2, if_pos h3, if_pos h4]; done) | (rw [if_pos h0, if_pos h1, if_neg h2, if_pos h3, if_pos h4]; rfl)))
            · exact And.intro trivial (leafI hk (by unfold fJ6_numberOfLeadingZeros_0f7a4; first | (rw [if_pos h0, if_pos h1, if_neg h2, if_pos h3, if_neg h4]; done) | (rw [if_pos h0, if_pos h1, if_neg h2, if_pos h3, if_neg h4]; rfl)))
          · refine And.intro (fun (h4 : ((a.toUInt32 >>> ((8 : Int32).toUInt32 &&& Int32.toUInt32 31)).toInt32.toUInt32 >>> ((4 : Int32).toUInt32 &&& Int32.toUInt32 31)).toInt32 < (4 : Int32)) => ?_) (fun (h4 : ¬ ((a.toUInt32 >>> ((8 : Int32).toUInt32 &&& Int32.toUInt32 31)).toInt32.toUInt32 >>> ((4 : Int32).toUInt32 &&& Int32.toUInt32 31)).toInt32 < (4 : Int32)) => ?_)
            · exact And.intro trivial (leafI hk (by unfold fJ6_numberOfLeadingZeros_0f7a4; first | (rw [if_pos h0, if_pos h1, if_neg h2, if_neg h3, if_pos h4]; done) | (rw [if_pos h0, if_pos h1, if_neg h2, if_neg h3, if_pos h4]; rfl)))
            · exact And.intro trivial (leafI hk (by unfold fJ6_numberOfLeadingZeros_0f7a4; first | (rw [if_pos h0, if_pos h1, if_neg h2, if_neg h3, if_neg h4]; done) | (rw [if_pos h0, if_pos h1, if_neg h2, if_neg h3, if_neg h4]; rfl)))
      · refine And.intro (fun (h2 : (a.toUInt32 >>> ((16 : Int32).toUInt32 &&& Int32.toUInt32 31)).toInt32 < (256 : Int32)) => ?_) (fun (h2 : ¬ (a.toUInt32 >>> ((16 : Int32).toUInt32 &&& Int32.toUInt32 31)).toInt32 < (256 : Int32)) => ?_)
        · refine And.intro (fun (h3 : (a.toUInt32 >>> ((16 : Int32).toUInt32 &&& Int32.toUInt32 31)).toInt32 < (16 : Int32)) => ?_) (fun (h3 : ¬ (a.toUInt32 >>> ((16 : Int32).toUInt32 &&& Int32.toUInt32 31)).toInt32 < (16 : Int32)) => ?_)
          · refine And.intro (fun (h4 : (a.toUInt32 >>> ((16 : Int32).toUInt32 &&& Int32.toUInt32 31)).toInt32 < (4 : Int32)) => ?_) (fun (h4 : ¬ (a.toUInt32 >>> ((16 : Int32).toUInt32 &&& Int32.toUInt32 31)).toInt32 < (4 : Int32)) => ?_)
            · exact And.intro trivial (leafI hk (by unfold fJ6_numberOfLeadingZeros_0f7a4; first | (rw [if_pos h0, if_neg h1, if_pos h2, if_pos h3, if_pos h4]; done) | (rw [if_pos h0, if_neg h1, if_pos h2, if_pos h3, if_pos h4]; rfl)))
            · exact And.intro trivial (leafI hk (by unfold fJ6_numberOfLeadingZeros_0f7a4; first | (rw [if_pos h0, if_neg h1, if_pos h2, if_pos h3, if_neg h4]; done) | (rw [if_pos h0, if_neg h1, if_pos h2, if_pos h3, if_neg h4]; rfl)))
          · refine And.intro (fun (h4 : ((a.toUInt32 >>> ((16 : Int32).toUInt32 &&& Int32.toUInt32 31)).toInt32.toUInt32 >>> ((4 : Int32).toUInt32 &&& Int32.toUInt32 31)).toInt32 < (4 : Int32)) => ?_) (fun (h4 : ¬ ((a.toUInt32 >>> ((16 : Int32).toUInt32 &&& Int32.toUInt32 31)).toInt32.toUInt32 >>> ((4 : Int32).toUInt32 &&& Int32.toUInt32 31)).toInt32 < (4 : Int32)) => ?_)
            · exact And.intro trivial (leafI hk (by unfold fJ6_numberOfLeadingZeros_0f7a4; first | (rw [if_pos h0, if_neg h1, if_pos h2, if_neg h3, if_pos h4]; done) | (rw [if_pos h0, if_neg h1, if_pos h2, if_neg h3, if_pos h4]; rfl)))
            · exact And.intro trivial (leafI hk (by unfold fJ6_numberOfLeadingZeros_0f7a4; first | (rw [if_pos h0, if_neg h1, if_pos h2, if_neg h3, if_neg h4]; done) | (rw [if_pos h0, if_neg h1, if_pos h2, if_neg h3, if_neg h4]; rfl)))
        · refine And.intro (fun (h3 : ((a.toUInt32 >>> ((16 : Int32).toUInt32 &&& Int32.toUInt32 31)).toInt32.toUInt32 >>> ((8 : Int32).toUInt32 &&& Int32.toUInt32 31)).toInt32 < (16 : Int32)) => ?_) (fun (h3 : ¬ ((a.toUInt32 >>> ((16 : Int32).toUInt32 &&& Int32.toUInt32 31)).toInt32.toUInt32 >>> ((8 : Int32).toUInt32 &&& Int32.toUInt32 31)).toInt32 < (16 : Int32)) => ?_)
          · refine And.intro (fun (h4 : ((a.toUInt32 >>> ((16 : Int32).toUInt32 &&& Int32.toUInt32 31)).toInt32.toUInt32 >>> ((8 : Int32).toUInt32 &&& Int32.toUInt32 31)).toInt32 < (4 : Int32)) => ?_) (fun (h4 : ¬ ((a.toUInt32 >>> ((16 : Int32).toUInt32 &&& Int32.toUInt32 31)).toInt32.toUInt32 >>> ((8 : Int32).toUInt32 &&& Int32.toUInt32 31)).toInt32 < (4 : Int32)) => ?_)
            · exact And.intro trivial (leafI hk (by unfold fJ6_numberOfLeadingZeros_0f7a4; first | (rw [if_pos h0, if_neg h1, if_neg h2, if_pos h3, if_pos h4]; done) | (rw [if_pos h0, if_neg h1, if_neg h2, if_pos h3, if_pos h4]; rfl)))
            · exact And.intro trivial (leafI hk (by unfold fJ6_numberOfLeadingZeros_0f7a4; first | (rw [if_pos h0, if_neg h1, if_neg h2, if_pos h3, if_neg h4]; done) | (rw [if_pos h0, if_neg h1, if_neg h2, if_pos h3, if_neg h4]; rfl)))
          · refine And.intro (fun (h4 : (((a.toUInt32 >>> ((16 : Int32).toUInt32 &&& Int32.toUInt32 31)).toInt32.toUInt32 >>> ((8 : Int32).toUInt32 &&& Int32.toUInt32 31)).toInt32.toUInt32 >>> ((4 : Int32).toUInt32 &&& Int32.toUInt32 31)).toInt32 < (4 : Int32)) => ?_) (fun (h4 : ¬ (((a.toUInt32 >>> ((16 : Int32).toUInt32 &&& Int32.toUInt32 31)).toInt32.toUInt32 >>> ((8 : Int32).toUInt32 &&& Int32.toUInt32 31)).toInt32.toUInt32 >>> ((4 : Int32).toUInt32 &&& Int32.toUInt32 31)).toInt32 < (4 : Int32)) => ?_)
            · exact And.intro trivial (leafI hk (by unfold fJ6_numberOfLeadingZeros_0f7a4; first | (rw [if_pos h0, if_neg h1, if_neg h2, if_neg h3, if_pos h4]; done) | (rw [if_pos h0, if_neg h1, if_neg h2, if_neg h3, if_pos h4]; rfl)))
            · exact And.intro trivial (leafI hk (by unfold fJ6_numberOfLeadingZeros_0f7a4; first | (rw [if_pos h0, if_neg h1, if_neg h2, if_neg h3, if_neg h4]; done) | (rw [if_pos h0, if_neg h1, if_neg h2, if_neg h3, if_neg h4]; rfl)))
    · refine And.intro (fun (h1 : ¬ a = 0) => ?_) (fun h1q => have h1 : a = 0 := Classical.not_not.mp h1q; ?_)
      · exact And.intro trivial (leafI hk (by unfold fJ6_numberOfLeadingZeros_0f7a4; first | (rw [if_neg h0, if_neg h1]; done) | (rw [if_neg h0, if_neg h1]; rfl)))
      · exact And.intro trivial (leafI hk (by unfold fJ6_numberOfLeadingZeros_0f7a4; first | (rw [if_neg h0, if_pos h1]; done) | (rw [if_neg h0, if_pos h1]; rfl)))
  · exact h.elim
def fJ13_numberOfLeadingZeros_95d88 (a : Int64) : Int32 :=
  if (a.toUInt64 >>> ((32 : Int32).toInt64.toUInt64 &&& Int64.toUInt64 63)).toInt64.toInt32 = 0 then
    ((32 : Int32) + (fJ6_numberOfLeadingZeros_0f7a4 a.toInt32))
  else
    (fJ6_numberOfLeadingZeros_0f7a4 (a.toUInt64 >>> ((32 : Int32).toInt64.toUInt64 &&& Int64.toUInt64 63)).toInt64.toInt32)
def tJ13_numberOfLeadingZeros_95d88 : Tr := fun as σ k => match as with
  | [.long a] => k (some (.int (fJ13_numberOfLeadingZeros_95d88 a))) σ
  | _ => False
def ceJ13_numberOfLeadingZeros_95d88 : List (Nat × Nat × Tr) := (2 * 308, 1, tJ6_numberOfLeadingZeros_0f7a4) :: []
theorem coJ13_numberOfLeadingZeros_95d88 (l : Launch) : CEok l yJ13_numberOfLeadingZeros_95d88.cls 1 ceJ13_numberOfLeadingZeros_95d88 := ce_S (okJ6_numberOfLeadingZeros_0f7a4 l) (mw 246 (by decide +kernel) rfl) (mw 247 (by decide +kernel) rfl) (mw 8 (by decide +kernel) rfl) (mw 248 (by decide +kernel) rfl) (by decide) ⟨by decide, by decide⟩ (ce_0)
set_option maxRecDepth 20000 in
theorem okJ13_numberOfLeadingZeros_95d88 (l : Launch) : OK l yJ13_numberOfLeadingZeros_95d88 cJ13_numberOfLeadingZeros_95d88 3 (some .int) 1 tJ13_numberOfLeadingZeros_95d88 := by
  intro D τ ρ A as σ post h
  unfold tJ13_numberOfLeadingZeros_95d88 at h; split at h
  · rename_i a; have hk := h
    refine met_of (P := pgJ13_numberOfLeadingZeros_95d88) (CE := ceJ13_numberOfLeadingZeros_95d88) (cut := []) (by decide) kkJ13_numberOfLeadingZeros_95d88 (coJ13_numberOfLeadingZeros_95d88 l) (Nat.le_of_ble_eq_true rfl) ?_
    intro G hG; refine hG 120 false 0 _ _ _ ?_
    refine And.intro (fun (h0 : ¬ (a.toUInt64 >>> ((32 : Int32).toInt64.toUInt64 &&& Int64.toUInt64 63)).toInt64.toInt32 = 0) => ?_) (fun h0q => have h0 : (a.toUInt64 >>> ((32 : Int32).toInt64.toUInt64 &&& Int64.toUInt64 63)).toInt64.toInt32 = 0 := Classical.not_not.mp h0q; ?_)
    · exact And.intro trivial (leafI hk (by unfold fJ13_numberOfLeadingZeros_95d88; first | (rw [if_neg h0]; done) | (rw [if_neg h0]; rfl)))
    · exact And.intro trivial (leafI hk (by unfold fJ13_numberOfLeadingZeros_95d88; first | (rw [if_pos h0]; done) | (rw [if_pos h0]; rfl)))
  · exact h.elim
def fX1_isNone (a : Int64) : Int32 :=
  if (lg_cmp (a &&& (9223372036854775807 : Int64)) (9218868437227405312 : Int64)) ≤ 0 then
    (0 : Int32)
  else
    (1 : Int32)
def tX1_isNone : Tr := fun as σ k => match as with
  | [.long a] => k (some (.int (fX1_isNone a))) σ
  | _ => False
def ceX1_isNone : List (Nat × Nat × Tr) := []
theorem coX1_isNone (l : Launch) : CEok l yX1_isNone.cls 0 ceX1_isNone := ce_0
set_option maxRecDepth 20000 in
theorem okX1_isNone (l : Launch) : OK l yX1_isNone cX1_isNone 2 (some .boolean) 0 tX1_isNone := by
  intro D τ ρ A as σ post h
  unfold tX1_isNone at h; split at h
  · rename_i a; have hk := h
    refine met_of (P := pgX1_isNone) (CE := ceX1_isNone) (cut := []) (by decide) kkX1_isNone (coX1_isNone l) (Nat.le_of_ble_eq_true rfl) ?_
    intro G hG; refine hG 120 false 0 _ _ _ ?_
    refine And.intro (fun (h0 : (lg_cmp (a &&& (9223372036854775807 : Int64)) (9218868437227405312 : Int64)) ≤ 0) => ?_) (fun (h0 : ¬ (lg_cmp (a &&& (9223372036854775807 : Int64)) (9218868437227405312 : Int64)) ≤ 0) => ?_)
    · exact And.intro (Or.inl rfl) (leafI hk (by unfold fX1_isNone; first | (rw [if_pos h0]; done) | (rw [if_pos h0]; rfl)))
    · exact And.intro (Or.inr rfl) (leafI hk (by unfold fX1_isNone; first | (rw [if_neg h0]; done) | (rw [if_neg h0]; rfl)))
  · exact h.elim
def fX1_told (a : Int64) : Int64 :=
  if (fX1_isNone a) = 0 then
    a
  else
    (9221120237041090560 : Int64)
def tX1_told : Tr := fun as σ k => match as with
  | [.long a] => k (some (.long (fX1_told a))) σ
  | _ => False
def ceX1_told : List (Nat × Nat × Tr) := (2 * 7, 1, tX1_isNone) :: []
theorem coX1_told (l : Launch) : CEok l yX1_told.cls 1 ceX1_told := ce_S (okX1_isNone l) (mw 136 (by decide +kernel) rfl) (mw 137 (by decide +kernel) rfl) (mw 5 (by decide +kernel) rfl) (mw 138 (by decide +kernel) rfl) (by decide) ⟨by decide, by decide⟩ (ce_0)
set_option maxRecDepth 20000 in
theorem okX1_told (l : Launch) : OK l yX1_told cX1_told 2 (some .long) 1 tX1_told := by
  intro D τ ρ A as σ post h
  unfold tX1_told at h; split at h
  · rename_i a; have hk := h
    refine met_of (P := pgX1_told) (CE := ceX1_told) (cut := []) (by decide) kkX1_told (coX1_told l) (Nat.le_of_ble_eq_true rfl) ?_
    intro G hG; refine hG 120 false 0 _ _ _ ?_
    refine And.intro (fun (h0 : (fX1_isNone a) = 0) => ?_) (fun (h0 : ¬ (fX1_isNone a) = 0) => ?_)
    · exact And.intro trivial (leafL hk (by unfold fX1_told; first | (rw [if_pos h0]; done) | (rw [if_pos h0]; rfl)))
    · exact And.intro trivial (leafL hk (by unfold fX1_told; first | (rw [if_neg h0]; done) | (rw [if_neg h0]; rfl)))
  · exact h.elim
def fX1_ofThree (a : Int32) (b : Int64) (c : Int64) (d : Int64) : Int64 :=
  if a = 0 then
    b
  else
    if a = (1 : Int32) then
      c
    else
      d
def tX1_ofThree : Tr := fun as σ k => match as with
  | [.int a, .long b, .long c, .long d] => k (some (.long (fX1_ofThree a b c d))) σ
  | _ => False
def ceX1_ofThree : List (Nat × Nat × Tr) := []
theorem coX1_ofThree (l : Launch) : CEok l yX1_ofThree.cls 0 ceX1_ofThree := ce_0
set_option maxRecDepth 20000 in
theorem okX1_ofThree (l : Launch) : OK l yX1_ofThree cX1_ofThree 7 (some .long) 0 tX1_ofThree := by
  intro D τ ρ A as σ post h
  unfold tX1_ofThree at h; split at h
  · rename_i a b c d; have hk := h
    refine met_of (P := pgX1_ofThree) (CE := ceX1_ofThree) (cut := []) (by decide) kkX1_ofThree (coX1_ofThree l) (Nat.le_of_ble_eq_true rfl) ?_
    intro G hG; refine hG 120 false 0 _ _ _ ?_
    refine And.intro (fun (h0 : ¬ a = 0) => ?_) (fun h0q => have h0 : a = 0 := Classical.not_not.mp h0q; ?_)
    · refine And.intro (fun (h1 : ¬ a = (1 : Int32)) => ?_) (fun h1q => have h1 : a = (1 : Int32) := Classical.not_not.mp h1q; ?_)
      · exact And.intro trivial (leafL hk (by unfold fX1_ofThree; first | (rw [if_neg h0, if_neg h1]; done) | (rw [if_neg h0, if_neg h1]; rfl)))
      · exact And.intro trivial (leafL hk (by unfold fX1_ofThree; first | (rw [if_neg h0, if_pos h1]; done) | (rw [if_neg h0, if_pos h1]; rfl)))
    · exact And.intro trivial (leafL hk (by unfold fX1_ofThree; first | (rw [if_pos h0]; done) | (rw [if_pos h0]; rfl)))
  · exact h.elim
def fX1_isFinite (a : Int64) : Int32 :=
  if 0 ≤ (lg_cmp (a &&& (9223372036854775807 : Int64)) (9218868437227405312 : Int64)) then
    (0 : Int32)
  else
    (1 : Int32)
def tX1_isFinite : Tr := fun as σ k => match as with
  | [.long a] => k (some (.int (fX1_isFinite a))) σ
  | _ => False
def ceX1_isFinite : List (Nat × Nat × Tr) := []
theorem coX1_isFinite (l : Launch) : CEok l yX1_isFinite.cls 0 ceX1_isFinite := ce_0
set_option maxRecDepth 20000 in
theorem okX1_isFinite (l : Launch) : OK l yX1_isFinite cX1_isFinite 2 (some .boolean) 0 tX1_isFinite := by
  intro D τ ρ A as σ post h
  unfold tX1_isFinite at h; split at h
  · rename_i a; have hk := h
    refine met_of (P := pgX1_isFinite) (CE := ceX1_isFinite) (cut := []) (by decide) kkX1_isFinite (coX1_isFinite l) (Nat.le_of_ble_eq_true rfl) ?_
    intro G hG; refine hG 120 false 0 _ _ _ ?_
    refine And.intro (fun (h0 : 0 ≤ (lg_cmp (a &&& (9223372036854775807 : Int64)) (9218868437227405312 : Int64))) => ?_) (fun (h0 : ¬ 0 ≤ (lg_cmp (a &&& (9223372036854775807 : Int64)) (9218868437227405312 : Int64))) => ?_)
    · exact And.intro (Or.inl rfl) (leafI hk (by unfold fX1_isFinite; first | (rw [if_pos h0]; done) | (rw [if_pos h0]; rfl)))
    · exact And.intro (Or.inr rfl) (leafI hk (by unfold fX1_isFinite; first | (rw [if_neg h0]; done) | (rw [if_neg h0]; rfl)))
  · exact h.elim
def fX1_isInfinite (a : Int64) : Int32 :=
  if (lg_cmp (a &&& (9223372036854775807 : Int64)) (9218868437227405312 : Int64)) = 0 then
    (1 : Int32)
  else
    (0 : Int32)
def tX1_isInfinite : Tr := fun as σ k => match as with
  | [.long a] => k (some (.int (fX1_isInfinite a))) σ
  | _ => False
def ceX1_isInfinite : List (Nat × Nat × Tr) := []
theorem coX1_isInfinite (l : Launch) : CEok l yX1_isInfinite.cls 0 ceX1_isInfinite := ce_0
set_option maxRecDepth 20000 in
theorem okX1_isInfinite (l : Launch) : OK l yX1_isInfinite cX1_isInfinite 2 (some .boolean) 0 tX1_isInfinite := by
  intro D τ ρ A as σ post h
  unfold tX1_isInfinite at h; split at h
  · rename_i a; have hk := h
    refine met_of (P := pgX1_isInfinite) (CE := ceX1_isInfinite) (cut := []) (by decide) kkX1_isInfinite (coX1_isInfinite l) (Nat.le_of_ble_eq_true rfl) ?_
    intro G hG; refine hG 120 false 0 _ _ _ ?_
    refine And.intro (fun (h0 : ¬ (lg_cmp (a &&& (9223372036854775807 : Int64)) (9218868437227405312 : Int64)) = 0) => ?_) (fun h0q => have h0 : (lg_cmp (a &&& (9223372036854775807 : Int64)) (9218868437227405312 : Int64)) = 0 := Classical.not_not.mp h0q; ?_)
    · exact And.intro (Or.inl rfl) (leafI hk (by unfold fX1_isInfinite; first | (rw [if_neg h0]; done) | (rw [if_neg h0]; rfl)))
    · exact And.intro (Or.inr rfl) (leafI hk (by unfold fX1_isInfinite; first | (rw [if_pos h0]; done) | (rw [if_pos h0]; rfl)))
  · exact h.elim
def fX1_isZero (a : Int64) : Int32 :=
  if (lg_cmp (a &&& (9223372036854775807 : Int64)) (0 : Int64)) = 0 then
    (1 : Int32)
  else
    (0 : Int32)
def tX1_isZero : Tr := fun as σ k => match as with
  | [.long a] => k (some (.int (fX1_isZero a))) σ
  | _ => False
def ceX1_isZero : List (Nat × Nat × Tr) := []
theorem coX1_isZero (l : Launch) : CEok l yX1_isZero.cls 0 ceX1_isZero := ce_0
set_option maxRecDepth 20000 in
theorem okX1_isZero (l : Launch) : OK l yX1_isZero cX1_isZero 2 (some .boolean) 0 tX1_isZero := by
  intro D τ ρ A as σ post h
  unfold tX1_isZero at h; split at h
  · rename_i a; have hk := h
    refine met_of (P := pgX1_isZero) (CE := ceX1_isZero) (cut := []) (by decide) kkX1_isZero (coX1_isZero l) (Nat.le_of_ble_eq_true rfl) ?_
    intro G hG; refine hG 120 false 0 _ _ _ ?_
    refine And.intro (fun (h0 : ¬ (lg_cmp (a &&& (9223372036854775807 : Int64)) (0 : Int64)) = 0) => ?_) (fun h0q => have h0 : (lg_cmp (a &&& (9223372036854775807 : Int64)) (0 : Int64)) = 0 := Classical.not_not.mp h0q; ?_)
    · exact And.intro (Or.inl rfl) (leafI hk (by unfold fX1_isZero; first | (rw [if_neg h0]; done) | (rw [if_neg h0]; rfl)))
    · exact And.intro (Or.inr rfl) (leafI hk (by unfold fX1_isZero; first | (rw [if_pos h0]; done) | (rw [if_pos h0]; rfl)))
  · exact h.elim
def fX1_rank (a : Int64) : Int64 :=
  if (lg_cmp a (0 : Int64)) < 0 then
    ((-9223372036854775808 : Int64) - a)
  else
    a
def tX1_rank : Tr := fun as σ k => match as with
  | [.long a] => k (some (.long (fX1_rank a))) σ
  | _ => False
def ceX1_rank : List (Nat × Nat × Tr) := []
theorem coX1_rank (l : Launch) : CEok l yX1_rank.cls 0 ceX1_rank := ce_0
set_option maxRecDepth 20000 in
theorem okX1_rank (l : Launch) : OK l yX1_rank cX1_rank 2 (some .long) 0 tX1_rank := by
  intro D τ ρ A as σ post h
  unfold tX1_rank at h; split at h
  · rename_i a; have hk := h
    refine met_of (P := pgX1_rank) (CE := ceX1_rank) (cut := []) (by decide) kkX1_rank (coX1_rank l) (Nat.le_of_ble_eq_true rfl) ?_
    intro G hG; refine hG 120 false 0 _ _ _ ?_
    refine And.intro (fun (h0 : (lg_cmp a (0 : Int64)) < 0) => ?_) (fun (h0 : ¬ (lg_cmp a (0 : Int64)) < 0) => ?_)
    · exact And.intro trivial (leafL hk (by unfold fX1_rank; first | (rw [if_pos h0]; done) | (rw [if_pos h0]; rfl)))
    · exact And.intro trivial (leafL hk (by unfold fX1_rank; first | (rw [if_neg h0]; done) | (rw [if_neg h0]; rfl)))
  · exact h.elim
def fX1_isBelow (a : Int64) (b : Int64) : Int32 :=
  if (fX1_isNone a) = 0 then
    if (fX1_isNone b) = 0 then
      if 0 ≤ (lg_cmp (fX1_rank a) (fX1_rank b)) then
        (0 : Int32)
      else
        (1 : Int32)
    else
      (0 : Int32)
  else
    (0 : Int32)
def tX1_isBelow : Tr := fun as σ k => match as with
  | [.long a, .long b] => k (some (.int (fX1_isBelow a b))) σ
  | _ => False
def ceX1_isBelow : List (Nat × Nat × Tr) := (2 * 7, 1, tX1_isNone) :: (2 * 21, 1, tX1_rank) :: []
theorem coX1_isBelow (l : Launch) : CEok l yX1_isBelow.cls 1 ceX1_isBelow := ce_S (okX1_isNone l) (mw 136 (by decide +kernel) rfl) (mw 137 (by decide +kernel) rfl) (mw 5 (by decide +kernel) rfl) (mw 138 (by decide +kernel) rfl) (by decide) ⟨by decide, by decide⟩ (ce_S (okX1_rank l) (mw 139 (by decide +kernel) rfl) (mw 140 (by decide +kernel) rfl) (mw 5 (by decide +kernel) rfl) (mw 141 (by decide +kernel) rfl) (by decide) ⟨by decide, by decide⟩ (ce_0))
set_option maxRecDepth 20000 in
theorem okX1_isBelow (l : Launch) : OK l yX1_isBelow cX1_isBelow 4 (some .boolean) 1 tX1_isBelow := by
  intro D τ ρ A as σ post h
  unfold tX1_isBelow at h; split at h
  · rename_i a b; have hk := h
    refine met_of (P := pgX1_isBelow) (CE := ceX1_isBelow) (cut := []) (by decide) kkX1_isBelow (coX1_isBelow l) (Nat.le_of_ble_eq_true rfl) ?_
    intro G hG; refine hG 120 false 0 _ _ _ ?_
    refine And.intro (fun (h0 : ¬ (fX1_isNone a) = 0) => ?_) (fun h0q => have h0 : (fX1_isNone a) = 0 := Classical.not_not.mp h0q; ?_)
    · exact And.intro (Or.inl rfl) (leafI hk (by unfold fX1_isBelow; first | (rw [if_neg h0]; done) | (rw [if_neg h0]; rfl)))
    · refine And.intro (fun (h1 : ¬ (fX1_isNone b) = 0) => ?_) (fun h1q => have h1 : (fX1_isNone b) = 0 := Classical.not_not.mp h1q; ?_)
      · exact And.intro (Or.inl rfl) (leafI hk (by unfold fX1_isBelow; first | (rw [if_pos h0, if_neg h1]; done) | (rw [if_pos h0, if_neg h1]; rfl)))
      · refine And.intro (fun (h2 : 0 ≤ (lg_cmp (fX1_rank a) (fX1_rank b))) => ?_) (fun (h2 : ¬ 0 ≤ (lg_cmp (fX1_rank a) (fX1_rank b))) => ?_)
        · exact And.intro (Or.inl rfl) (leafI hk (by unfold fX1_isBelow; first | (rw [if_pos h0, if_pos h1, if_pos h2]; done) | (rw [if_pos h0, if_pos h1, if_pos h2]; rfl)))
        · exact And.intro (Or.inr rfl) (leafI hk (by unfold fX1_isBelow; first | (rw [if_pos h0, if_pos h1, if_neg h2]; done) | (rw [if_pos h0, if_pos h1, if_neg h2]; rfl)))
  · exact h.elim
def fX1_isFromTo (a : Int64) (b : Int64) (c : Int64) : Int32 :=
  if (fX1_isNone a) = 0 then
    if 0 < (lg_cmp (fX1_rank b) (fX1_rank a)) then
      (0 : Int32)
    else
      if 0 < (lg_cmp (fX1_rank a) (fX1_rank c)) then
        (0 : Int32)
      else
        (1 : Int32)
  else
    (0 : Int32)
def tX1_isFromTo : Tr := fun as σ k => match as with
  | [.long a, .long b, .long c] => k (some (.int (fX1_isFromTo a b c))) σ
  | _ => False
def ceX1_isFromTo : List (Nat × Nat × Tr) := (2 * 7, 1, tX1_isNone) :: (2 * 21, 1, tX1_rank) :: []
theorem coX1_isFromTo (l : Launch) : CEok l yX1_isFromTo.cls 1 ceX1_isFromTo := ce_S (okX1_isNone l) (mw 136 (by decide +kernel) rfl) (mw 137 (by decide +kernel) rfl) (mw 5 (by decide +kernel) rfl) (mw 138 (by decide +kernel) rfl) (by decide) ⟨by decide, by decide⟩ (ce_S (okX1_rank l) (mw 139 (by decide +kernel) rfl) (mw 140 (by decide +kernel) rfl) (mw 5 (by decide +kernel) rfl) (mw 141 (by decide +kernel) rfl) (by decide) ⟨by decide, by decide⟩ (ce_0))
set_option maxRecDepth 20000 in
theorem okX1_isFromTo (l : Launch) : OK l yX1_isFromTo cX1_isFromTo 6 (some .boolean) 1 tX1_isFromTo := by
  intro D τ ρ A as σ post h
  unfold tX1_isFromTo at h; split at h
  · rename_i a b c; have hk := h
    refine met_of (P := pgX1_isFromTo) (CE := ceX1_isFromTo) (cut := []) (by decide) kkX1_isFromTo (coX1_isFromTo l) (Nat.le_of_ble_eq_true rfl) ?_
    intro G hG; refine hG 120 false 0 _ _ _ ?_
    refine And.intro (fun (h0 : ¬ (fX1_isNone a) = 0) => ?_) (fun h0q => have h0 : (fX1_isNone a) = 0 := Classical.not_not.mp h0q; ?_)
    · exact And.intro (Or.inl rfl) (leafI hk (by unfold fX1_isFromTo; first | (rw [if_neg h0]; done) | (rw [if_neg h0]; rfl)))
    · refine And.intro (fun (h1 : 0 < (lg_cmp (fX1_rank b) (fX1_rank a))) => ?_) (fun (h1 : ¬ 0 < (lg_cmp (fX1_rank b) (fX1_rank a))) => ?_)
      · exact And.intro (Or.inl rfl) (leafI hk (by unfold fX1_isFromTo; first | (rw [if_pos h0, if_pos h1]; done) | (rw [if_pos h0, if_pos h1]; rfl)))
      · refine And.intro (fun (h2 : 0 < (lg_cmp (fX1_rank a) (fX1_rank c))) => ?_) (fun (h2 : ¬ 0 < (lg_cmp (fX1_rank a) (fX1_rank c))) => ?_)
        · exact And.intro (Or.inl rfl) (leafI hk (by unfold fX1_isFromTo; first | (rw [if_pos h0, if_neg h1, if_pos h2]; done) | (rw [if_pos h0, if_neg h1, if_pos h2]; rfl)))
        · exact And.intro (Or.inr rfl) (leafI hk (by unfold fX1_isFromTo; first | (rw [if_pos h0, if_neg h1, if_neg h2]; done) | (rw [if_pos h0, if_neg h1, if_neg h2]; rfl)))
  · exact h.elim
def fX1_strictRank (a : Int64) : Int64 :=
  if (lg_cmp a (0 : Int64)) < 0 then
    ((a &&& (9223372036854775807 : Int64)) ^^^ (-1 : Int64))
  else
    a
def tX1_strictRank : Tr := fun as σ k => match as with
  | [.long a] => k (some (.long (fX1_strictRank a))) σ
  | _ => False
def ceX1_strictRank : List (Nat × Nat × Tr) := []
theorem coX1_strictRank (l : Launch) : CEok l yX1_strictRank.cls 0 ceX1_strictRank := ce_0
set_option maxRecDepth 20000 in
theorem okX1_strictRank (l : Launch) : OK l yX1_strictRank cX1_strictRank 2 (some .long) 0 tX1_strictRank := by
  intro D τ ρ A as σ post h
  unfold tX1_strictRank at h; split at h
  · rename_i a; have hk := h
    refine met_of (P := pgX1_strictRank) (CE := ceX1_strictRank) (cut := []) (by decide) kkX1_strictRank (coX1_strictRank l) (Nat.le_of_ble_eq_true rfl) ?_
    intro G hG; refine hG 120 false 0 _ _ _ ?_
    refine And.intro (fun (h0 : (lg_cmp a (0 : Int64)) < 0) => ?_) (fun (h0 : ¬ (lg_cmp a (0 : Int64)) < 0) => ?_)
    · exact And.intro trivial (leafL hk (by unfold fX1_strictRank; first | (rw [if_pos h0]; done) | (rw [if_pos h0]; rfl)))
    · exact And.intro trivial (leafL hk (by unfold fX1_strictRank; first | (rw [if_neg h0]; done) | (rw [if_neg h0]; rfl)))
  · exact h.elim
def fX1_lesser (a : Int64) (b : Int64) : Int64 :=
  if (fX1_isNone a) = 0 then
    if (fX1_isNone b) = 0 then
      if 0 < (lg_cmp (fX1_strictRank a) (fX1_strictRank b)) then
        b
      else
        a
    else
      (9221120237041090560 : Int64)
  else
    (9221120237041090560 : Int64)
def tX1_lesser : Tr := fun as σ k => match as with
  | [.long a, .long b] => k (some (.long (fX1_lesser a b))) σ
  | _ => False
def ceX1_lesser : List (Nat × Nat × Tr) := (2 * 7, 1, tX1_isNone) :: (2 * 27, 1, tX1_strictRank) :: []
theorem coX1_lesser (l : Launch) : CEok l yX1_lesser.cls 1 ceX1_lesser := ce_S (okX1_isNone l) (mw 136 (by decide +kernel) rfl) (mw 137 (by decide +kernel) rfl) (mw 5 (by decide +kernel) rfl) (mw 138 (by decide +kernel) rfl) (by decide) ⟨by decide, by decide⟩ (ce_S (okX1_strictRank l) (mw 285 (by decide +kernel) rfl) (mw 286 (by decide +kernel) rfl) (mw 5 (by decide +kernel) rfl) (mw 287 (by decide +kernel) rfl) (by decide) ⟨by decide, by decide⟩ (ce_0))
set_option maxRecDepth 20000 in
theorem okX1_lesser (l : Launch) : OK l yX1_lesser cX1_lesser 4 (some .long) 1 tX1_lesser := by
  intro D τ ρ A as σ post h
  unfold tX1_lesser at h; split at h
  · rename_i a b; have hk := h
    refine met_of (P := pgX1_lesser) (CE := ceX1_lesser) (cut := []) (by decide) kkX1_lesser (coX1_lesser l) (Nat.le_of_ble_eq_true rfl) ?_
    intro G hG; refine hG 120 false 0 _ _ _ ?_
    refine And.intro (fun (h0 : ¬ (fX1_isNone a) = 0) => ?_) (fun h0q => have h0 : (fX1_isNone a) = 0 := Classical.not_not.mp h0q; ?_)
    · exact And.intro trivial (leafL hk (by unfold fX1_lesser; first | (rw [if_neg h0]; done) | (rw [if_neg h0]; rfl)))
    · refine And.intro (fun (h1 : (fX1_isNone b) = 0) => ?_) (fun (h1 : ¬ (fX1_isNone b) = 0) => ?_)
      · refine And.intro (fun (h2 : 0 < (lg_cmp (fX1_strictRank a) (fX1_strictRank b))) => ?_) (fun (h2 : ¬ 0 < (lg_cmp (fX1_strictRank a) (fX1_strictRank b))) => ?_)
        · exact And.intro trivial (leafL hk (by unfold fX1_lesser; first | (rw [if_pos h0, if_pos h1, if_pos h2]; done) | (rw [if_pos h0, if_pos h1, if_pos h2]; rfl)))
        · exact And.intro trivial (leafL hk (by unfold fX1_lesser; first | (rw [if_pos h0, if_pos h1, if_neg h2]; done) | (rw [if_pos h0, if_pos h1, if_neg h2]; rfl)))
      · exact And.intro trivial (leafL hk (by unfold fX1_lesser; first | (rw [if_pos h0, if_neg h1]; done) | (rw [if_pos h0, if_neg h1]; rfl)))
  · exact h.elim
def fX1_greater (a : Int64) (b : Int64) : Int64 :=
  if (fX1_isNone a) = 0 then
    if (fX1_isNone b) = 0 then
      if (lg_cmp (fX1_strictRank a) (fX1_strictRank b)) < 0 then
        b
      else
        a
    else
      (9221120237041090560 : Int64)
  else
    (9221120237041090560 : Int64)
def tX1_greater : Tr := fun as σ k => match as with
  | [.long a, .long b] => k (some (.long (fX1_greater a b))) σ
  | _ => False
def ceX1_greater : List (Nat × Nat × Tr) := (2 * 7, 1, tX1_isNone) :: (2 * 27, 1, tX1_strictRank) :: []
theorem coX1_greater (l : Launch) : CEok l yX1_greater.cls 1 ceX1_greater := ce_S (okX1_isNone l) (mw 136 (by decide +kernel) rfl) (mw 137 (by decide +kernel) rfl) (mw 5 (by decide +kernel) rfl) (mw 138 (by decide +kernel) rfl) (by decide) ⟨by decide, by decide⟩ (ce_S (okX1_strictRank l) (mw 285 (by decide +kernel) rfl) (mw 286 (by decide +kernel) rfl) (mw 5 (by decide +kernel) rfl) (mw 287 (by decide +kernel) rfl) (by decide) ⟨by decide, by decide⟩ (ce_0))
set_option maxRecDepth 20000 in
theorem okX1_greater (l : Launch) : OK l yX1_greater cX1_greater 4 (some .long) 1 tX1_greater := by
  intro D τ ρ A as σ post h
  unfold tX1_greater at h; split at h
  · rename_i a b; have hk := h
    refine met_of (P := pgX1_greater) (CE := ceX1_greater) (cut := []) (by decide) kkX1_greater (coX1_greater l) (Nat.le_of_ble_eq_true rfl) ?_
    intro G hG; refine hG 120 false 0 _ _ _ ?_
    refine And.intro (fun (h0 : ¬ (fX1_isNone a) = 0) => ?_) (fun h0q => have h0 : (fX1_isNone a) = 0 := Classical.not_not.mp h0q; ?_)
    · exact And.intro trivial (leafL hk (by unfold fX1_greater; first | (rw [if_neg h0]; done) | (rw [if_neg h0]; rfl)))
    · refine And.intro (fun (h1 : (fX1_isNone b) = 0) => ?_) (fun (h1 : ¬ (fX1_isNone b) = 0) => ?_)
      · refine And.intro (fun (h2 : (lg_cmp (fX1_strictRank a) (fX1_strictRank b)) < 0) => ?_) (fun (h2 : ¬ (lg_cmp (fX1_strictRank a) (fX1_strictRank b)) < 0) => ?_)
        · exact And.intro trivial (leafL hk (by unfold fX1_greater; first | (rw [if_pos h0, if_pos h1, if_pos h2]; done) | (rw [if_pos h0, if_pos h1, if_pos h2]; rfl)))
        · exact And.intro trivial (leafL hk (by unfold fX1_greater; first | (rw [if_pos h0, if_pos h1, if_neg h2]; done) | (rw [if_pos h0, if_pos h1, if_neg h2]; rfl)))
      · exact And.intro trivial (leafL hk (by unfold fX1_greater; first | (rw [if_pos h0, if_neg h1]; done) | (rw [if_pos h0, if_neg h1]; rfl)))
  · exact h.elim
def fX1_zeroIfLess (a : Int64) : Int64 :=
  if (fX1_isNone a) = 0 then
    if (fX1_isBelow a (0 : Int64)) = 0 then
      a
    else
      (0 : Int64)
  else
    (0 : Int64)
def tX1_zeroIfLess : Tr := fun as σ k => match as with
  | [.long a] => k (some (.long (fX1_zeroIfLess a))) σ
  | _ => False
def ceX1_zeroIfLess : List (Nat × Nat × Tr) := (2 * 7, 1, tX1_isNone) :: (2 * 30, 2, tX1_isBelow) :: []
theorem coX1_zeroIfLess (l : Launch) : CEok l yX1_zeroIfLess.cls 2 ceX1_zeroIfLess := ce_S (okX1_isNone l) (mw 136 (by decide +kernel) rfl) (mw 137 (by decide +kernel) rfl) (mw 5 (by decide +kernel) rfl) (mw 138 (by decide +kernel) rfl) (by decide) ⟨by decide, by decide⟩ (ce_S (okX1_isBelow l) (mw 317 (by decide +kernel) rfl) (mw 134 (by decide +kernel) rfl) (mw 5 (by decide +kernel) rfl) (mw 135 (by decide +kernel) rfl) (by decide) ⟨by decide, by decide⟩ (ce_0))
set_option maxRecDepth 20000 in
theorem okX1_zeroIfLess (l : Launch) : OK l yX1_zeroIfLess cX1_zeroIfLess 2 (some .long) 2 tX1_zeroIfLess := by
  intro D τ ρ A as σ post h
  unfold tX1_zeroIfLess at h; split at h
  · rename_i a; have hk := h
    refine met_of (P := pgX1_zeroIfLess) (CE := ceX1_zeroIfLess) (cut := []) (by decide) kkX1_zeroIfLess (coX1_zeroIfLess l) (Nat.le_of_ble_eq_true rfl) ?_
    intro G hG; refine hG 120 false 0 _ _ _ ?_
    refine And.intro (fun (h0 : ¬ (fX1_isNone a) = 0) => ?_) (fun h0q => have h0 : (fX1_isNone a) = 0 := Classical.not_not.mp h0q; ?_)
    · exact And.intro trivial (leafL hk (by unfold fX1_zeroIfLess; first | (rw [if_neg h0]; done) | (rw [if_neg h0]; rfl)))
    · refine And.intro (fun (h1 : (fX1_isBelow a (0 : Int64)) = 0) => ?_) (fun (h1 : ¬ (fX1_isBelow a (0 : Int64)) = 0) => ?_)
      · exact And.intro trivial (leafL hk (by unfold fX1_zeroIfLess; first | (rw [if_pos h0, if_pos h1]; done) | (rw [if_pos h0, if_pos h1]; rfl)))
      · exact And.intro trivial (leafL hk (by unfold fX1_zeroIfLess; first | (rw [if_pos h0, if_neg h1]; done) | (rw [if_pos h0, if_neg h1]; rfl)))
  · exact h.elim
def fX1_oneIfMore (a : Int64) : Int64 :=
  if (fX1_isNone a) = 0 then
    if (fX1_isBelow (4607182418800017408 : Int64) a) = 0 then
      a
    else
      (4607182418800017408 : Int64)
  else
    (4607182418800017408 : Int64)
def tX1_oneIfMore : Tr := fun as σ k => match as with
  | [.long a] => k (some (.long (fX1_oneIfMore a))) σ
  | _ => False
def ceX1_oneIfMore : List (Nat × Nat × Tr) := (2 * 7, 1, tX1_isNone) :: (2 * 30, 2, tX1_isBelow) :: []
theorem coX1_oneIfMore (l : Launch) : CEok l yX1_oneIfMore.cls 2 ceX1_oneIfMore := ce_S (okX1_isNone l) (mw 136 (by decide +kernel) rfl) (mw 137 (by decide +kernel) rfl) (mw 5 (by decide +kernel) rfl) (mw 138 (by decide +kernel) rfl) (by decide) ⟨by decide, by decide⟩ (ce_S (okX1_isBelow l) (mw 317 (by decide +kernel) rfl) (mw 134 (by decide +kernel) rfl) (mw 5 (by decide +kernel) rfl) (mw 135 (by decide +kernel) rfl) (by decide) ⟨by decide, by decide⟩ (ce_0))
set_option maxRecDepth 20000 in
theorem okX1_oneIfMore (l : Launch) : OK l yX1_oneIfMore cX1_oneIfMore 2 (some .long) 2 tX1_oneIfMore := by
  intro D τ ρ A as σ post h
  unfold tX1_oneIfMore at h; split at h
  · rename_i a; have hk := h
    refine met_of (P := pgX1_oneIfMore) (CE := ceX1_oneIfMore) (cut := []) (by decide) kkX1_oneIfMore (coX1_oneIfMore l) (Nat.le_of_ble_eq_true rfl) ?_
    intro G hG; refine hG 120 false 0 _ _ _ ?_
    refine And.intro (fun (h0 : ¬ (fX1_isNone a) = 0) => ?_) (fun h0q => have h0 : (fX1_isNone a) = 0 := Classical.not_not.mp h0q; ?_)
    · exact And.intro trivial (leafL hk (by unfold fX1_oneIfMore; first | (rw [if_neg h0]; done) | (rw [if_neg h0]; rfl)))
    · refine And.intro (fun (h1 : (fX1_isBelow (4607182418800017408 : Int64) a) = 0) => ?_) (fun (h1 : ¬ (fX1_isBelow (4607182418800017408 : Int64) a) = 0) => ?_)
      · exact And.intro trivial (leafL hk (by unfold fX1_oneIfMore; first | (rw [if_pos h0, if_pos h1]; done) | (rw [if_pos h0, if_pos h1]; rfl)))
      · exact And.intro trivial (leafL hk (by unfold fX1_oneIfMore; first | (rw [if_pos h0, if_neg h1]; done) | (rw [if_pos h0, if_neg h1]; rfl)))
  · exact h.elim
def fX1_opposite (a : Int64) : Int64 :=
  if (fX1_isNone a) = 0 then
    (a ^^^ (-9223372036854775808 : Int64))
  else
    (9221120237041090560 : Int64)
def tX1_opposite : Tr := fun as σ k => match as with
  | [.long a] => k (some (.long (fX1_opposite a))) σ
  | _ => False
def ceX1_opposite : List (Nat × Nat × Tr) := (2 * 7, 1, tX1_isNone) :: []
theorem coX1_opposite (l : Launch) : CEok l yX1_opposite.cls 1 ceX1_opposite := ce_S (okX1_isNone l) (mw 136 (by decide +kernel) rfl) (mw 137 (by decide +kernel) rfl) (mw 5 (by decide +kernel) rfl) (mw 138 (by decide +kernel) rfl) (by decide) ⟨by decide, by decide⟩ (ce_0)
set_option maxRecDepth 20000 in
theorem okX1_opposite (l : Launch) : OK l yX1_opposite cX1_opposite 2 (some .long) 1 tX1_opposite := by
  intro D τ ρ A as σ post h
  unfold tX1_opposite at h; split at h
  · rename_i a; have hk := h
    refine met_of (P := pgX1_opposite) (CE := ceX1_opposite) (cut := []) (by decide) kkX1_opposite (coX1_opposite l) (Nat.le_of_ble_eq_true rfl) ?_
    intro G hG; refine hG 120 false 0 _ _ _ ?_
    refine And.intro (fun (h0 : (fX1_isNone a) = 0) => ?_) (fun (h0 : ¬ (fX1_isNone a) = 0) => ?_)
    · exact And.intro trivial (leafL hk (by unfold fX1_opposite; first | (rw [if_pos h0]; done) | (rw [if_pos h0]; rfl)))
    · exact And.intro trivial (leafL hk (by unfold fX1_opposite; first | (rw [if_neg h0]; done) | (rw [if_neg h0]; rfl)))
  · exact h.elim
def fX1_size (a : Int64) : Int64 :=
  if (fX1_isNone a) = 0 then
    (a &&& (9223372036854775807 : Int64))
  else
    (9221120237041090560 : Int64)
def tX1_size : Tr := fun as σ k => match as with
  | [.long a] => k (some (.long (fX1_size a))) σ
  | _ => False
def ceX1_size : List (Nat × Nat × Tr) := (2 * 7, 1, tX1_isNone) :: []
theorem coX1_size (l : Launch) : CEok l yX1_size.cls 1 ceX1_size := ce_S (okX1_isNone l) (mw 136 (by decide +kernel) rfl) (mw 137 (by decide +kernel) rfl) (mw 5 (by decide +kernel) rfl) (mw 138 (by decide +kernel) rfl) (by decide) ⟨by decide, by decide⟩ (ce_0)
set_option maxRecDepth 20000 in
theorem okX1_size (l : Launch) : OK l yX1_size cX1_size 2 (some .long) 1 tX1_size := by
  intro D τ ρ A as σ post h
  unfold tX1_size at h; split at h
  · rename_i a; have hk := h
    refine met_of (P := pgX1_size) (CE := ceX1_size) (cut := []) (by decide) kkX1_size (coX1_size l) (Nat.le_of_ble_eq_true rfl) ?_
    intro G hG; refine hG 120 false 0 _ _ _ ?_
    refine And.intro (fun (h0 : (fX1_isNone a) = 0) => ?_) (fun (h0 : ¬ (fX1_isNone a) = 0) => ?_)
    · exact And.intro trivial (leafL hk (by unfold fX1_size; first | (rw [if_pos h0]; done) | (rw [if_pos h0]; rfl)))
    · exact And.intro trivial (leafL hk (by unfold fX1_size; first | (rw [if_neg h0]; done) | (rw [if_neg h0]; rfl)))
  · exact h.elim
def fX1_signum (a : Int64) : Int64 :=
  if (fX1_isNone a) = 0 then
    if (fX1_isZero a) = 0 then
      ((a &&& (-9223372036854775808 : Int64)) ||| (4607182418800017408 : Int64))
    else
      a
  else
    a
def tX1_signum : Tr := fun as σ k => match as with
  | [.long a] => k (some (.long (fX1_signum a))) σ
  | _ => False
def ceX1_signum : List (Nat × Nat × Tr) := (2 * 7, 1, tX1_isNone) :: (2 * 36, 1, tX1_isZero) :: []
theorem coX1_signum (l : Launch) : CEok l yX1_signum.cls 1 ceX1_signum := ce_S (okX1_isNone l) (mw 136 (by decide +kernel) rfl) (mw 137 (by decide +kernel) rfl) (mw 5 (by decide +kernel) rfl) (mw 138 (by decide +kernel) rfl) (by decide) ⟨by decide, by decide⟩ (ce_S (okX1_isZero l) (mw 264 (by decide +kernel) rfl) (mw 265 (by decide +kernel) rfl) (mw 5 (by decide +kernel) rfl) (mw 266 (by decide +kernel) rfl) (by decide) ⟨by decide, by decide⟩ (ce_0))
set_option maxRecDepth 20000 in
theorem okX1_signum (l : Launch) : OK l yX1_signum cX1_signum 2 (some .long) 1 tX1_signum := by
  intro D τ ρ A as σ post h
  unfold tX1_signum at h; split at h
  · rename_i a; have hk := h
    refine met_of (P := pgX1_signum) (CE := ceX1_signum) (cut := []) (by decide) kkX1_signum (coX1_signum l) (Nat.le_of_ble_eq_true rfl) ?_
    intro G hG; refine hG 120 false 0 _ _ _ ?_
    refine And.intro (fun (h0 : ¬ (fX1_isNone a) = 0) => ?_) (fun h0q => have h0 : (fX1_isNone a) = 0 := Classical.not_not.mp h0q; ?_)
    · exact And.intro trivial (leafL hk (by unfold fX1_signum; first | (rw [if_neg h0]; done) | (rw [if_neg h0]; rfl)))
    · refine And.intro (fun (h1 : (fX1_isZero a) = 0) => ?_) (fun (h1 : ¬ (fX1_isZero a) = 0) => ?_)
      · exact And.intro trivial (leafL hk (by unfold fX1_signum; first | (rw [if_pos h0, if_pos h1]; done) | (rw [if_pos h0, if_pos h1]; rfl)))
      · exact And.intro trivial (leafL hk (by unfold fX1_signum; first | (rw [if_pos h0, if_neg h1]; done) | (rw [if_pos h0, if_neg h1]; rfl)))
  · exact h.elim
def fX1_up (a : Int64) : Int64 :=
  if (fX1_isNone a) = 0 then
    if (lg_cmp a (9218868437227405312 : Int64)) = 0 then
      a
    else
      if (fX1_isZero a) = 0 then
        if (lg_cmp a (0 : Int64)) ≤ 0 then
          (a - (1 : Int64))
        else
          (a + (1 : Int64))
      else
        (1 : Int64)
  else
    a
def tX1_up : Tr := fun as σ k => match as with
  | [.long a] => k (some (.long (fX1_up a))) σ
  | _ => False
def ceX1_up : List (Nat × Nat × Tr) := (2 * 7, 1, tX1_isNone) :: (2 * 36, 1, tX1_isZero) :: []
theorem coX1_up (l : Launch) : CEok l yX1_up.cls 1 ceX1_up := ce_S (okX1_isNone l) (mw 136 (by decide +kernel) rfl) (mw 137 (by decide +kernel) rfl) (mw 5 (by decide +kernel) rfl) (mw 138 (by decide +kernel) rfl) (by decide) ⟨by decide, by decide⟩ (ce_S (okX1_isZero l) (mw 264 (by decide +kernel) rfl) (mw 265 (by decide +kernel) rfl) (mw 5 (by decide +kernel) rfl) (mw 266 (by decide +kernel) rfl) (by decide) ⟨by decide, by decide⟩ (ce_0))
set_option maxRecDepth 20000 in
theorem okX1_up (l : Launch) : OK l yX1_up cX1_up 2 (some .long) 1 tX1_up := by
  intro D τ ρ A as σ post h
  unfold tX1_up at h; split at h
  · rename_i a; have hk := h
    refine met_of (P := pgX1_up) (CE := ceX1_up) (cut := []) (by decide) kkX1_up (coX1_up l) (Nat.le_of_ble_eq_true rfl) ?_
    intro G hG; refine hG 120 false 0 _ _ _ ?_
    refine And.intro (fun (h0 : ¬ (fX1_isNone a) = 0) => ?_) (fun h0q => have h0 : (fX1_isNone a) = 0 := Classical.not_not.mp h0q; ?_)
    · exact And.intro trivial (leafL hk (by unfold fX1_up; first | (rw [if_neg h0]; done) | (rw [if_neg h0]; rfl)))
    · refine And.intro (fun (h1 : ¬ (lg_cmp a (9218868437227405312 : Int64)) = 0) => ?_) (fun h1q => have h1 : (lg_cmp a (9218868437227405312 : Int64)) = 0 := Classical.not_not.mp h1q; ?_)
      · refine And.intro (fun (h2 : (fX1_isZero a) = 0) => ?_) (fun (h2 : ¬ (fX1_isZero a) = 0) => ?_)
        · refine And.intro (fun (h3 : (lg_cmp a (0 : Int64)) ≤ 0) => ?_) (fun (h3 : ¬ (lg_cmp a (0 : Int64)) ≤ 0) => ?_)
          · exact And.intro trivial (leafL hk (by unfold fX1_up; first | (rw [if_pos h0, if_neg h1, if_pos h2, if_pos h3]; done) | (rw [if_pos h0, if_neg h1, if_pos h2, if_pos h3]; rfl)))
          · exact And.intro trivial (leafL hk (by unfold fX1_up; first | (rw [if_pos h0, if_neg h1, if_pos h2, if_neg h3]; done) | (rw [if_pos h0, if_neg h1, if_pos h2, if_neg h3]; rfl)))
        · exact And.intro trivial (leafL hk (by unfold fX1_up; first | (rw [if_pos h0, if_neg h1, if_neg h2]; done) | (rw [if_pos h0, if_neg h1, if_neg h2]; rfl)))
      · exact And.intro trivial (leafL hk (by unfold fX1_up; first | (rw [if_pos h0, if_pos h1]; done) | (rw [if_pos h0, if_pos h1]; rfl)))
  · exact h.elim
def fX1_down (a : Int64) : Int64 :=
  (fX1_opposite (fX1_up (fX1_opposite a)))
def tX1_down : Tr := fun as σ k => match as with
  | [.long a] => k (some (.long (fX1_down a))) σ
  | _ => False
def ceX1_down : List (Nat × Nat × Tr) := (2 * 39, 1, tX1_opposite) :: (2 * 42, 1, tX1_up) :: []
theorem coX1_down (l : Launch) : CEok l yX1_down.cls 2 ceX1_down := ce_S (okX1_opposite l) (mw 258 (by decide +kernel) rfl) (mw 259 (by decide +kernel) rfl) (mw 5 (by decide +kernel) rfl) (mw 260 (by decide +kernel) rfl) (by decide) ⟨by decide, by decide⟩ (ce_S (okX1_up l) (mw 261 (by decide +kernel) rfl) (mw 262 (by decide +kernel) rfl) (mw 5 (by decide +kernel) rfl) (mw 263 (by decide +kernel) rfl) (by decide) ⟨by decide, by decide⟩ (ce_0))
set_option maxRecDepth 20000 in
theorem okX1_down (l : Launch) : OK l yX1_down cX1_down 2 (some .long) 2 tX1_down := by
  intro D τ ρ A as σ post h
  unfold tX1_down at h; split at h
  · rename_i a; have hk := h
    refine met_of (P := pgX1_down) (CE := ceX1_down) (cut := []) (by decide) kkX1_down (coX1_down l) (Nat.le_of_ble_eq_true rfl) ?_
    intro G hG; refine hG 120 false 0 _ _ _ ?_
    exact And.intro trivial (leafL hk (by unfold fX1_down; rfl))
  · exact h.elim
def fX1_scale (a : Int64) : Int32 :=
  if ((a &&& (9218868437227405312 : Int64)).toUInt64 >>> ((52 : Int32).toInt64.toUInt64 &&& Int64.toUInt64 63)).toInt64.toInt32 = 0 then
    (1 : Int32)
  else
    ((a &&& (9218868437227405312 : Int64)).toUInt64 >>> ((52 : Int32).toInt64.toUInt64 &&& Int64.toUInt64 63)).toInt64.toInt32
def tX1_scale : Tr := fun as σ k => match as with
  | [.long a] => k (some (.int (fX1_scale a))) σ
  | _ => False
def ceX1_scale : List (Nat × Nat × Tr) := []
theorem coX1_scale (l : Launch) : CEok l yX1_scale.cls 0 ceX1_scale := ce_0
set_option maxRecDepth 20000 in
theorem okX1_scale (l : Launch) : OK l yX1_scale cX1_scale 3 (some .int) 0 tX1_scale := by
  intro D τ ρ A as σ post h
  unfold tX1_scale at h; split at h
  · rename_i a; have hk := h
    refine met_of (P := pgX1_scale) (CE := ceX1_scale) (cut := []) (by decide) kkX1_scale (coX1_scale l) (Nat.le_of_ble_eq_true rfl) ?_
    intro G hG; refine hG 120 false 0 _ _ _ ?_
    refine And.intro (fun (h0 : ¬ ((a &&& (9218868437227405312 : Int64)).toUInt64 >>> ((52 : Int32).toInt64.toUInt64 &&& Int64.toUInt64 63)).toInt64.toInt32 = 0) => ?_) (fun h0q => have h0 : ((a &&& (9218868437227405312 : Int64)).toUInt64 >>> ((52 : Int32).toInt64.toUInt64 &&& Int64.toUInt64 63)).toInt64.toInt32 = 0 := Classical.not_not.mp h0q; ?_)
    · exact And.intro trivial (leafI hk (by unfold fX1_scale; first | (rw [if_neg h0]; done) | (rw [if_neg h0]; rfl)))
    · exact And.intro trivial (leafI hk (by unfold fX1_scale; first | (rw [if_pos h0]; done) | (rw [if_pos h0]; rfl)))
  · exact h.elim
def fX1_fraction (a : Int64) : Int64 :=
  if (lg_cmp (a &&& (9218868437227405312 : Int64)) (0 : Int64)) = 0 then
    (a &&& (4503599627370495 : Int64))
  else
    ((a &&& (4503599627370495 : Int64)) ||| (4503599627370496 : Int64))
def tX1_fraction : Tr := fun as σ k => match as with
  | [.long a] => k (some (.long (fX1_fraction a))) σ
  | _ => False
def ceX1_fraction : List (Nat × Nat × Tr) := []
theorem coX1_fraction (l : Launch) : CEok l yX1_fraction.cls 0 ceX1_fraction := ce_0
set_option maxRecDepth 20000 in
theorem okX1_fraction (l : Launch) : OK l yX1_fraction cX1_fraction 4 (some .long) 0 tX1_fraction := by
  intro D τ ρ A as σ post h
  unfold tX1_fraction at h; split at h
  · rename_i a; have hk := h
    refine met_of (P := pgX1_fraction) (CE := ceX1_fraction) (cut := []) (by decide) kkX1_fraction (coX1_fraction l) (Nat.le_of_ble_eq_true rfl) ?_
    intro G hG; refine hG 120 false 0 _ _ _ ?_
    refine And.intro (fun (h0 : ¬ (lg_cmp (a &&& (9218868437227405312 : Int64)) (0 : Int64)) = 0) => ?_) (fun h0q => have h0 : (lg_cmp (a &&& (9218868437227405312 : Int64)) (0 : Int64)) = 0 := Classical.not_not.mp h0q; ?_)
    · exact And.intro trivial (leafL hk (by unfold fX1_fraction; first | (rw [if_neg h0]; done) | (rw [if_neg h0]; rfl)))
    · exact And.intro trivial (leafL hk (by unfold fX1_fraction; first | (rw [if_pos h0]; done) | (rw [if_pos h0]; rfl)))
  · exact h.elim
def fX1_lack (a : Int64) : Int32 :=
  ((fJ13_numberOfLeadingZeros_95d88 a) - (11 : Int32))
def tX1_lack : Tr := fun as σ k => match as with
  | [.long a] => k (some (.int (fX1_lack a))) σ
  | _ => False
def ceX1_lack : List (Nat × Nat × Tr) := (2 * 49, 1, tJ13_numberOfLeadingZeros_95d88) :: []
theorem coX1_lack (l : Launch) : CEok l yX1_lack.cls 2 ceX1_lack := ce_S (okJ13_numberOfLeadingZeros_95d88 l) (mw 243 (by decide +kernel) rfl) (mw 244 (by decide +kernel) rfl) (mw 7 (by decide +kernel) rfl) (mw 245 (by decide +kernel) rfl) (by decide) ⟨by decide, by decide⟩ (ce_0)
set_option maxRecDepth 20000 in
theorem okX1_lack (l : Launch) : OK l yX1_lack cX1_lack 2 (some .int) 2 tX1_lack := by
  intro D τ ρ A as σ post h
  unfold tX1_lack at h; split at h
  · rename_i a; have hk := h
    refine met_of (P := pgX1_lack) (CE := ceX1_lack) (cut := []) (by decide) kkX1_lack (coX1_lack l) (Nat.le_of_ble_eq_true rfl) ?_
    intro G hG; refine hG 120 false 0 _ _ _ ?_
    exact And.intro trivial (leafI hk (by unfold fX1_lack; rfl))
  · exact h.elim
def fX1_moved (a : Int64) (b : Int32) : Int64 :=
  if b < (63 : Int32) then
    if (lg_cmp ((a.toUInt64 >>> (b.toInt64.toUInt64 &&& Int64.toUInt64 63)).toInt64 <<< (b.toInt64 &&& 63)) a) = 0 then
      (a.toUInt64 >>> (b.toInt64.toUInt64 &&& Int64.toUInt64 63)).toInt64
    else
      ((a.toUInt64 >>> (b.toInt64.toUInt64 &&& Int64.toUInt64 63)).toInt64 ||| (1 : Int64))
  else
    if (lg_cmp a (0 : Int64)) = 0 then
      (0 : Int64)
    else
      (1 : Int64)
def tX1_moved : Tr := fun as σ k => match as with
  | [.long a, .int b] => k (some (.long (fX1_moved a b))) σ
  | _ => False
def ceX1_moved : List (Nat × Nat × Tr) := []
theorem coX1_moved (l : Launch) : CEok l yX1_moved.cls 0 ceX1_moved := ce_0
set_option maxRecDepth 20000 in
theorem okX1_moved (l : Launch) : OK l yX1_moved cX1_moved 5 (some .long) 0 tX1_moved := by
  intro D τ ρ A as σ post h
  unfold tX1_moved at h; split at h
  · rename_i a b; have hk := h
    refine met_of (P := pgX1_moved) (CE := ceX1_moved) (cut := []) (by decide) kkX1_moved (coX1_moved l) (Nat.le_of_ble_eq_true rfl) ?_
    intro G hG; refine hG 120 false 0 _ _ _ ?_
    refine And.intro (fun (h0 : b < (63 : Int32)) => ?_) (fun (h0 : ¬ b < (63 : Int32)) => ?_)
    · refine And.intro (fun (h1 : ¬ (lg_cmp ((a.toUInt64 >>> (b.toInt64.toUInt64 &&& Int64.toUInt64 63)).toInt64 <<< (b.toInt64 &&& 63)) a) = 0) => ?_) (fun h1q => have h1 : (lg_cmp ((a.toUInt64 >>> (b.toInt64.toUInt64 &&& Int64.toUInt64 63)).toInt64 <<< (b.toInt64 &&& 63)) a) = 0 := Classical.not_not.mp h1q; ?_)
      · exact And.intro trivial (leafL hk (by unfold fX1_moved; first | (rw [if_pos h0, if_neg h1]; done) | (rw [if_pos h0, if_neg h1]; rfl)))
      · exact And.intro trivial (leafL hk (by unfold fX1_moved; first | (rw [if_pos h0, if_pos h1]; done) | (rw [if_pos h0, if_pos h1]; rfl)))
    · refine And.intro (fun (h1 : ¬ (lg_cmp a (0 : Int64)) = 0) => ?_) (fun h1q => have h1 : (lg_cmp a (0 : Int64)) = 0 := Classical.not_not.mp h1q; ?_)
      · exact And.intro trivial (leafL hk (by unfold fX1_moved; first | (rw [if_neg h0, if_neg h1]; done) | (rw [if_neg h0, if_neg h1]; rfl)))
      · exact And.intro trivial (leafL hk (by unfold fX1_moved; first | (rw [if_neg h0, if_pos h1]; done) | (rw [if_neg h0, if_pos h1]; rfl)))
  · exact h.elim
def fX1_packed (a : Int64) (b : Int32) (c : Int64) : Int64 :=
  if (lg_cmp c (0 : Int64)) = 0 then
    a
  else
    if (b + (fJ9_max_7cf53 (((64 : Int32) - (fJ13_numberOfLeadingZeros_95d88 c)) - (56 : Int32)) ((1 : Int32) - b))) ≤ (2046 : Int32) then
      if (fJ9_max_7cf53 (((64 : Int32) - (fJ13_numberOfLeadingZeros_95d88 c)) - (56 : Int32)) ((1 : Int32) - b)) < 0 then
        if 0 < (lg_cmp ((c <<< ((-(fJ9_max_7cf53 (((64 : Int32) - (fJ13_numberOfLeadingZeros_95d88 c)) - (56 : Int32)) ((1 : Int32) - b))).toInt64 &&& 63)) &&& (7 : Int64)) (4 : Int64)) then
          (a ||| ((((b + (fJ9_max_7cf53 (((64 : Int32) - (fJ13_numberOfLeadingZeros_95d88 c)) - (56 : Int32)) ((1 : Int32) - b))) - (1 : Int32)).toInt64 <<< ((52 : Int32).toInt64 &&& 63)) + (((c <<< ((-(fJ9_max_7cf53 (((64 : Int32) - (fJ13_numberOfLeadingZeros_95d88 c)) - (56 : Int32)) ((1 : Int32) - b))).toInt64 &&& 63)).toUInt64 >>> ((3 : Int32).toInt64.toUInt64 &&& Int64.toUInt64 63)).toInt64 + (1 : Int64))))
        else
          if (lg_cmp ((c <<< ((-(fJ9_max_7cf53 (((64 : Int32) - (fJ13_numberOfLeadingZeros_95d88 c)) - (56 : Int32)) ((1 : Int32) - b))).toInt64 &&& 63)) &&& (7 : Int64)) (4 : Int64)) = 0 then
            if (lg_cmp (((c <<< ((-(fJ9_max_7cf53 (((64 : Int32) - (fJ13_numberOfLeadingZeros_95d88 c)) - (56 : Int32)) ((1 : Int32) - b))).toInt64 &&& 63)).toUInt64 >>> ((3 : Int32).toInt64.toUInt64 &&& Int64.toUInt64 63)).toInt64 &&& (1 : Int64)) (0 : Int64)) = 0 then
              (a ||| ((((b + (fJ9_max_7cf53 (((64 : Int32) - (fJ13_numberOfLeadingZeros_95d88 c)) - (56 : Int32)) ((1 : Int32) - b))) - (1 : Int32)).toInt64 <<< ((52 : Int32).toInt64 &&& 63)) + ((c <<< ((-(fJ9_max_7cf53 (((64 : Int32) - (fJ13_numberOfLeadingZeros_95d88 c)) - (56 : Int32)) ((1 : Int32) - b))).toInt64 &&& 63)).toUInt64 >>> ((3 : Int32).toInt64.toUInt64 &&& Int64.toUInt64 63)).toInt64))
            else
              (a ||| ((((b + (fJ9_max_7cf53 (((64 : Int32) - (fJ13_numberOfLeadingZeros_95d88 c)) - (56 : Int32)) ((1 : Int32) - b))) - (1 : Int32)).toInt64 <<< ((52 : Int32).toInt64 &&& 63)) + (((c <<< ((-(fJ9_max_7cf53 (((64 : Int32) - (fJ13_numberOfLeadingZeros_95d88 c)) - (56 : Int32)) ((1 : Int32) - b))).toInt64 &&& 63)).toUInt64 >>> ((3 : Int32).toInt64.toUInt64 &&& Int64.toUInt64 63)).toInt64 + (1 : Int64))))
          else
            (a ||| ((((b + (fJ9_max_7cf53 (((64 : Int32) - (fJ13_numberOfLeadingZeros_95d88 c)) - (56 : Int32)) ((1 : Int32) - b))) - (1 : Int32)).toInt64 <<< ((52 : Int32).toInt64 &&& 63)) + ((c <<< ((-(fJ9_max_7cf53 (((64 : Int32) - (fJ13_numberOfLeadingZeros_95d88 c)) - (56 : Int32)) ((1 : Int32) - b))).toInt64 &&& 63)).toUInt64 >>> ((3 : Int32).toInt64.toUInt64 &&& Int64.toUInt64 63)).toInt64))
      else
        if 0 < (lg_cmp ((fX1_moved c (fJ9_max_7cf53 (((64 : Int32) - (fJ13_numberOfLeadingZeros_95d88 c)) - (56 : Int32)) ((1 : Int32) - b))) &&& (7 : Int64)) (4 : Int64)) then
          (a ||| ((((b + (fJ9_max_7cf53 (((64 : Int32) - (fJ13_numberOfLeadingZeros_95d88 c)) - (56 : Int32)) ((1 : Int32) - b))) - (1 : Int32)).toInt64 <<< ((52 : Int32).toInt64 &&& 63)) + (((fX1_moved c (fJ9_max_7cf53 (((64 : Int32) - (fJ13_numberOfLeadingZeros_95d88 c)) - (56 : Int32)) ((1 : Int32) - b))).toUInt64 >>> ((3 : Int32).toInt64.toUInt64 &&& Int64.toUInt64 63)).toInt64 + (1 : Int64))))
        else
          if (lg_cmp ((fX1_moved c (fJ9_max_7cf53 (((64 : Int32) - (fJ13_numberOfLeadingZeros_95d88 c)) - (56 : Int32)) ((1 : Int32) - b))) &&& (7 : Int64)) (4 : Int64)) = 0 then
            if (lg_cmp (((fX1_moved c (fJ9_max_7cf53 (((64 : Int32) - (fJ13_numberOfLeadingZeros_95d88 c)) - (56 : Int32)) ((1 : Int32) - b))).toUInt64 >>> ((3 : Int32).toInt64.toUInt64 &&& Int64.toUInt64 63)).toInt64 &&& (1 : Int64)) (0 : Int64)) = 0 then
              (a ||| ((((b + (fJ9_max_7cf53 (((64 : Int32) - (fJ13_numberOfLeadingZeros_95d88 c)) - (56 : Int32)) ((1 : Int32) - b))) - (1 : Int32)).toInt64 <<< ((52 : Int32).toInt64 &&& 63)) + ((fX1_moved c (fJ9_max_7cf53 (((64 : Int32) - (fJ13_numberOfLeadingZeros_95d88 c)) - (56 : Int32)) ((1 : Int32) - b))).toUInt64 >>> ((3 : Int32).toInt64.toUInt64 &&& Int64.toUInt64 63)).toInt64))
            else
              (a ||| ((((b + (fJ9_max_7cf53 (((64 : Int32) - (fJ13_numberOfLeadingZeros_95d88 c)) - (56 : Int32)) ((1 : Int32) - b))) - (1 : Int32)).toInt64 <<< ((52 : Int32).toInt64 &&& 63)) + (((fX1_moved c (fJ9_max_7cf53 (((64 : Int32) - (fJ13_numberOfLeadingZeros_95d88 c)) - (56 : Int32)) ((1 : Int32) - b))).toUInt64 >>> ((3 : Int32).toInt64.toUInt64 &&& Int64.toUInt64 63)).toInt64 + (1 : Int64))))
          else
            (a ||| ((((b + (fJ9_max_7cf53 (((64 : Int32) - (fJ13_numberOfLeadingZeros_95d88 c)) - (56 : Int32)) ((1 : Int32) - b))) - (1 : Int32)).toInt64 <<< ((52 : Int32).toInt64 &&& 63)) + ((fX1_moved c (fJ9_max_7cf53 (((64 : Int32) - (fJ13_numberOfLeadingZeros_95d88 c)) - (56 : Int32)) ((1 : Int32) - b))).toUInt64 >>> ((3 : Int32).toInt64.toUInt64 &&& Int64.toUInt64 63)).toInt64))
    else
      (a ||| (9218868437227405312 : Int64))
def tX1_packed : Tr := fun as σ k => match as with
  | [.long a, .int b, .long c] => k (some (.long (fX1_packed a b c))) σ
  | _ => False
def ceX1_packed : List (Nat × Nat × Tr) := (2 * 49, 1, tJ13_numberOfLeadingZeros_95d88) :: (2 * 55, 2, tJ9_max_7cf53) :: (2 * 61, 2, tX1_moved) :: []
theorem coX1_packed (l : Launch) : CEok l yX1_packed.cls 2 ceX1_packed := ce_S (okJ13_numberOfLeadingZeros_95d88 l) (mw 243 (by decide +kernel) rfl) (mw 244 (by decide +kernel) rfl) (mw 7 (by decide +kernel) rfl) (mw 245 (by decide +kernel) rfl) (by decide) ⟨by decide, by decide⟩ (ce_max (mw 250 (by decide +kernel) rfl) (mw 251 (by decide +kernel) rfl) (mw 9 (by decide +kernel) rfl) (mw 252 (by decide +kernel) rfl) (by decide) (ce_S (okX1_moved l) (mw 237 (by decide +kernel) rfl) (mw 238 (by decide +kernel) rfl) (mw 5 (by decide +kernel) rfl) (mw 239 (by decide +kernel) rfl) (by decide) ⟨by decide, by decide⟩ (ce_0)))
set_option maxRecDepth 20000 in
theorem okX1_packed (l : Launch) : OK l yX1_packed cX1_packed 14 (some .long) 2 tX1_packed := by
  intro D τ ρ A as σ post h
  unfold tX1_packed at h; split at h
  · rename_i a b c; have hk := h
    refine met_of (P := pgX1_packed) (CE := ceX1_packed) (cut := []) (by decide) kkX1_packed (coX1_packed l) (Nat.le_of_ble_eq_true rfl) ?_
    intro G hG; refine hG 120 false 0 _ _ _ ?_
    refine And.intro (fun (h0 : ¬ (lg_cmp c (0 : Int64)) = 0) => ?_) (fun h0q => have h0 : (lg_cmp c (0 : Int64)) = 0 := Classical.not_not.mp h0q; ?_)
    · refine And.intro (fun (h1 : (b + (fJ9_max_7cf53 (((64 : Int32) - (fJ13_numberOfLeadingZeros_95d88 c)) - (56 : Int32)) ((1 : Int32) - b))) ≤ (2046 : Int32)) => ?_) (fun (h1 : ¬ (b + (fJ9_max_7cf53 (((64 : Int32) - (fJ13_numberOfLeadingZeros_95d88 c)) - (56 : Int32)) ((1 : Int32) - b))) ≤ (2046 : Int32)) => ?_)
      · refine And.intro (fun (h2 : (fJ9_max_7cf53 (((64 : Int32) - (fJ13_numberOfLeadingZeros_95d88 c)) - (56 : Int32)) ((1 : Int32) - b)) < 0) => ?_) (fun (h2 : ¬ (fJ9_max_7cf53 (((64 : Int32) - (fJ13_numberOfLeadingZeros_95d88 c)) - (56 : Int32)) ((1 : Int32) - b)) < 0) => ?_)
        · refine And.intro (fun (h3 : 0 < (lg_cmp ((c <<< ((-(fJ9_max_7cf53 (((64 : Int32) - (fJ13_numberOfLeadingZeros_95d88 c)) - (56 : Int32)) ((1 : Int32) - b))).toInt64 &&& 63)) &&& (7 : Int64)) (4 : Int64))) => ?_) (fun (h3 : ¬ 0 < (lg_cmp ((c <<< ((-(fJ9_max_7cf53 (((64 : Int32) - (fJ13_numberOfLeadingZeros_95d88 c)) - (56 : Int32)) ((1 : Int32) - b))).toInt64 &&& 63)) &&& (7 : Int64)) (4 : Int64))) => ?_)
          · exact And.intro trivial (leafL hk (by unfold fX1_packed; first | (rw [if_neg h0, if_pos h1, if_pos h2, if_pos h3]; done) | (rw [if_neg h0, if_pos h1, if_pos h2, if_pos h3]; rfl)))
          · refine And.intro (fun (h4 : ¬ (lg_cmp ((c <<< ((-(fJ9_max_7cf53 (((64 : Int32) - (fJ13_numberOfLeadingZeros_95d88 c)) - (56 : Int32)) ((1 : Int32) - b))).toInt64 &&& 63)) &&& (7 : Int64)) (4 : Int64)) = 0) => ?_) (fun h4q => have h4 : (lg_cmp ((c <<< ((-(fJ9_max_7cf53 (((64 : Int32) - (fJ13_numberOfLeadingZeros_95d88 c)) - (56 : Int32)) ((1 : Int32) - b))).toInt64 &&& 63)) &&& (7 : Int64)) (4 : Int64)) = 0 := Classical.not_not.mp h4q; ?_)
            · exact And.intro trivial (leafL hk (by unfold fX1_packed; first | (rw [if_neg h0, if_pos h1, if_pos h2, if_neg h3, if_neg h4]; done) | (rw [if_neg h0, if_pos h1, if_pos h2, if_neg h3, if_neg h4]; rfl)))
            · refine And.intro (fun (h5 : (lg_cmp (((c <<< ((-(fJ9_max_7cf53 (((64 : Int32) - (fJ13_numberOfLeadingZeros_95d88 c)) - (56 : Int32)) ((1 : Int32) - b))).toInt64 &&& 63)).toUInt64 >>> ((3 : Int32).toInt64.toUInt64 &&& Int64.toUInt64 63)).toInt64 &&& (1 : Int64)) (0 : Int64)) = 0) => ?_) (fun (h5 : ¬ (lg_cmp (((c <<< ((-(fJ9_max_7cf53 (((64 : Int32) - (fJ13_numberOfLeadingZeros_95d88 c)) - (56 : Int32)) ((1 : Int32) - b))).toInt64 &&& 63)).toUInt64 >>> ((3 : Int32).toInt64.toUInt64 &&& Int64.toUInt64 63)).toInt64 &&& (1 : Int64)) (0 : Int64)) = 0) => ?_)
              · exact And.intro trivial (leafL hk (by unfold fX1_packed; first | (rw [if_neg h0, if_pos h1, if_pos h2, if_neg h3, if_pos h4, if_pos h5]; done) | (rw [if_neg h0, if_pos h1, if_pos h2, if_neg h3, if_pos h4, if_pos h5]; rfl)))
              · exact And.intro trivial (leafL hk (by unfold fX1_packed; first | (rw [if_neg h0, if_pos h1, if_pos h2, if_neg h3, if_pos h4, if_neg h5]; done) | (rw [if_neg h0, if_pos h1, if_pos h2, if_neg h3, if_pos h4, if_neg h5]; rfl)))
        · refine And.intro (fun (h3 : 0 < (lg_cmp ((fX1_moved c (fJ9_max_7cf53 (((64 : Int32) - (fJ13_numberOfLeadingZeros_95d88 c)) - (56 : Int32)) ((1 : Int32) - b))) &&& (7 : Int64)) (4 : Int64))) => ?_) (fun (h3 : ¬ 0 < (lg_cmp ((fX1_moved c (fJ9_max_7cf53 (((64 : Int32) - (fJ13_numberOfLeadingZeros_95d88 c)) - (56 : Int32)) ((1 : Int32) - b))) &&& (7 : Int64)) (4 : Int64))) => ?_)
          · exact And.intro trivial (leafL hk (by unfold fX1_packed; first | (rw [if_neg h0, if_pos h1, if_neg h2, if_pos h3]; done) | (rw [if_neg h0, if_pos h1, if_neg h2, if_pos h3]; rfl)))
          · refine And.intro (fun (h4 : ¬ (lg_cmp ((fX1_moved c (fJ9_max_7cf53 (((64 : Int32) - (fJ13_numberOfLeadingZeros_95d88 c)) - (56 : Int32)) ((1 : Int32) - b))) &&& (7 : Int64)) (4 : Int64)) = 0) => ?_) (fun h4q => have h4 : (lg_cmp ((fX1_moved c (fJ9_max_7cf53 (((64 : Int32) - (fJ13_numberOfLeadingZeros_95d88 c)) - (56 : Int32)) ((1 : Int32) - b))) &&& (7 : Int64)) (4 : Int64)) = 0 := Classical.not_not.mp h4q; ?_)
            · exact And.intro trivial (leafL hk (by unfold fX1_packed; first | (rw [if_neg h0, if_pos h1, if_neg h2, if_neg h3, if_neg h4]; done) | (rw [if_neg h0, if_pos h1, if_neg h2, if_neg h3, if_neg h4]; rfl)))
            · refine And.intro (fun (h5 : (lg_cmp (((fX1_moved c (fJ9_max_7cf53 (((64 : Int32) - (fJ13_numberOfLeadingZeros_95d88 c)) - (56 : Int32)) ((1 : Int32) - b))).toUInt64 >>> ((3 : Int32).toInt64.toUInt64 &&& Int64.toUInt64 63)).toInt64 &&& (1 : Int64)) (0 : Int64)) = 0) => ?_) (fun (h5 : ¬ (lg_cmp (((fX1_moved c (fJ9_max_7cf53 (((64 : Int32) - (fJ13_numberOfLeadingZeros_95d88 c)) - (56 : Int32)) ((1 : Int32) - b))).toUInt64 >>> ((3 : Int32).toInt64.toUInt64 &&& Int64.toUInt64 63)).toInt64 &&& (1 : Int64)) (0 : Int64)) = 0) => ?_)
              · exact And.intro trivial (leafL hk (by unfold fX1_packed; first | (rw [if_neg h0, if_pos h1, if_neg h2, if_neg h3, if_pos h4, if_pos h5]; done) | (rw [if_neg h0, if_pos h1, if_neg h2, if_neg h3, if_pos h4, if_pos h5]; rfl)))
              · exact And.intro trivial (leafL hk (by unfold fX1_packed; first | (rw [if_neg h0, if_pos h1, if_neg h2, if_neg h3, if_pos h4, if_neg h5]; done) | (rw [if_neg h0, if_pos h1, if_neg h2, if_neg h3, if_pos h4, if_neg h5]; rfl)))
      · exact And.intro trivial (leafL hk (by unfold fX1_packed; first | (rw [if_neg h0, if_neg h1]; done) | (rw [if_neg h0, if_neg h1]; rfl)))
    · exact And.intro trivial (leafL hk (by unfold fX1_packed; first | (rw [if_pos h0]; done) | (rw [if_pos h0]; rfl)))
  · exact h.elim
def fX1_plus (a : Int64) (b : Int64) : Int64 :=
  if (fX1_isNone a) = 0 then
    if (fX1_isNone b) = 0 then
      if (fX1_isInfinite a) = 0 then
        if (fX1_isInfinite b) = 0 then
          if (lg_cmp (a &&& (9223372036854775807 : Int64)) (b &&& (9223372036854775807 : Int64))) < 0 then
            if (lg_cmp ((a ^^^ b) &&& (-9223372036854775808 : Int64)) (0 : Int64)) = 0 then
              (fX1_packed (a &&& (-9223372036854775808 : Int64)) (fX1_scale b) (((fX1_fraction b) <<< ((3 : Int32).toInt64 &&& 63)) + (fX1_moved ((fX1_fraction a) <<< ((3 : Int32).toInt64 &&& 63)) ((fX1_scale b) - (fX1_scale a)))))
            else
              if (lg_cmp ((fX1_fraction b) <<< ((3 : Int32).toInt64 &&& 63)) (fX1_moved ((fX1_fraction a) <<< ((3 : Int32).toInt64 &&& 63)) ((fX1_scale b) - (fX1_scale a)))) = 0 then
                (0 : Int64)
              else
                (fX1_packed (b &&& (-9223372036854775808 : Int64)) (fX1_scale b) (((fX1_fraction b) <<< ((3 : Int32).toInt64 &&& 63)) - (fX1_moved ((fX1_fraction a) <<< ((3 : Int32).toInt64 &&& 63)) ((fX1_scale b) - (fX1_scale a)))))
          else
            if (lg_cmp ((a ^^^ b) &&& (-9223372036854775808 : Int64)) (0 : Int64)) = 0 then
              (fX1_packed (a &&& (-9223372036854775808 : Int64)) (fX1_scale a) (((fX1_fraction a) <<< ((3 : Int32).toInt64 &&& 63)) + (fX1_moved ((fX1_fraction b) <<< ((3 : Int32).toInt64 &&& 63)) ((fX1_scale a) - (fX1_scale b)))))
            else
              if (lg_cmp ((fX1_fraction a) <<< ((3 : Int32).toInt64 &&& 63)) (fX1_moved ((fX1_fraction b) <<< ((3 : Int32).toInt64 &&& 63)) ((fX1_scale a) - (fX1_scale b)))) = 0 then
                (0 : Int64)
              else
                (fX1_packed (a &&& (-9223372036854775808 : Int64)) (fX1_scale a) (((fX1_fraction a) <<< ((3 : Int32).toInt64 &&& 63)) - (fX1_moved ((fX1_fraction b) <<< ((3 : Int32).toInt64 &&& 63)) ((fX1_scale a) - (fX1_scale b)))))
        else
          b
      else
        if (lg_cmp b (a ^^^ (-9223372036854775808 : Int64))) = 0 then
          (9221120237041090560 : Int64)
        else
          a
    else
      (9221120237041090560 : Int64)
  else
    (9221120237041090560 : Int64)
def tX1_plus : Tr := fun as σ k => match as with
  | [.long a, .long b] => k (some (.long (fX1_plus a b))) σ
  | _ => False
def ceX1_plus : List (Nat × Nat × Tr) := (2 * 7, 1, tX1_isNone) :: (2 * 69, 1, tX1_isInfinite) :: (2 * 72, 1, tX1_scale) :: (2 * 75, 1, tX1_fraction) :: (2 * 61, 2, tX1_moved) :: (2 * 78, 3, tX1_packed) :: []
theorem coX1_plus (l : Launch) : CEok l yX1_plus.cls 3 ceX1_plus := ce_S (okX1_isNone l) (mw 136 (by decide +kernel) rfl) (mw 137 (by decide +kernel) rfl) (mw 5 (by decide +kernel) rfl) (mw 138 (by decide +kernel) rfl) (by decide) ⟨by decide, by decide⟩ (ce_S (okX1_isInfinite l) (mw 226 (by decide +kernel) rfl) (mw 227 (by decide +kernel) rfl) (mw 5 (by decide +kernel) rfl) (mw 228 (by decide +kernel) rfl) (by decide) ⟨by decide, by decide⟩ (ce_S (okX1_scale l) (mw 229 (by decide +kernel) rfl) (mw 230 (by decide +kernel) rfl) (mw 5 (by decide +kernel) rfl) (mw 231 (by decide +kernel) rfl) (by decide) ⟨by decide, by decide⟩ (ce_S (okX1_fraction l) (mw 232 (by decide +kernel) rfl) (mw 233 (by decide +kernel) rfl) (mw 5 (by decide +kernel) rfl) (mw 234 (by decide +kernel) rfl) (by decide) ⟨by decide, by decide⟩ (ce_S (okX1_moved l) (mw 237 (by decide +kernel) rfl) (mw 238 (by decide +kernel) rfl) (mw 5 (by decide +kernel) rfl) (mw 239 (by decide +kernel) rfl) (by decide) ⟨by decide, by decide⟩ (ce_S (okX1_packed l) (mw 240 (by decide +kernel) rfl) (mw 241 (by decide +kernel) rfl) (mw 5 (by decide +kernel) rfl) (mw 242 (by decide +kernel) rfl) (by decide) ⟨by decide, by decide⟩ (ce_0))))))
set_option maxRecDepth 20000 in
theorem okX1_plus (l : Launch) : OK l yX1_plus cX1_plus 14 (some .long) 3 tX1_plus := by
  intro D τ ρ A as σ post h
  unfold tX1_plus at h; split at h
  · rename_i a b; have hk := h
    refine met_of (P := pgX1_plus) (CE := ceX1_plus) (cut := []) (by decide) kkX1_plus (coX1_plus l) (Nat.le_of_ble_eq_true rfl) ?_
    intro G hG; refine hG 120 false 0 _ _ _ ?_
    refine And.intro (fun (h0 : ¬ (fX1_isNone a) = 0) => ?_) (fun h0q => have h0 : (fX1_isNone a) = 0 := Classical.not_not.mp h0q; ?_)
    · exact And.intro trivial (leafL hk (by unfold fX1_plus; first | (rw [if_neg h0]; done) | (rw [if_neg h0]; rfl)))
    · refine And.intro (fun (h1 : (fX1_isNone b) = 0) => ?_) (fun (h1 : ¬ (fX1_isNone b) = 0) => ?_)
      · refine And.intro (fun (h2 : (fX1_isInfinite a) = 0) => ?_) (fun (h2 : ¬ (fX1_isInfinite a) = 0) => ?_)
        · refine And.intro (fun (h3 : (fX1_isInfinite b) = 0) => ?_) (fun (h3 : ¬ (fX1_isInfinite b) = 0) => ?_)
          · refine And.intro (fun (h4 : (lg_cmp (a &&& (9223372036854775807 : Int64)) (b &&& (9223372036854775807 : Int64))) < 0) => ?_) (fun (h4 : ¬ (lg_cmp (a &&& (9223372036854775807 : Int64)) (b &&& (9223372036854775807 : Int64))) < 0) => ?_)
            · refine And.intro (fun _ => ?_) (fun h => absurd (show (0 : Int32) = (0 : Int32) by decide) h)
              refine And.intro (fun _ => ?_) (fun h => absurd (show (0 : Int32) = (0 : Int32) by decide) h)
              refine And.intro (fun (h5 : ¬ (lg_cmp ((a ^^^ b) &&& (-9223372036854775808 : Int64)) (0 : Int64)) = 0) => ?_) (fun h5q => have h5 : (lg_cmp ((a ^^^ b) &&& (-9223372036854775808 : Int64)) (0 : Int64)) = 0 := Classical.not_not.mp h5q; ?_)
              · refine And.intro (fun (h6 : ¬ (lg_cmp ((fX1_fraction b) <<< ((3 : Int32).toInt64 &&& 63)) (fX1_moved ((fX1_fraction a) <<< ((3 : Int32).toInt64 &&& 63)) ((fX1_scale b) - (fX1_scale a)))) = 0) => ?_) (fun h6q => have h6 : (lg_cmp ((fX1_fraction b) <<< ((3 : Int32).toInt64 &&& 63)) (fX1_moved ((fX1_fraction a) <<< ((3 : Int32).toInt64 &&& 63)) ((fX1_scale b) - (fX1_scale a)))) = 0 := Classical.not_not.mp h6q; ?_)
                · exact And.intro trivial (leafL hk (by unfold fX1_plus; first | (rw [if_pos h0, if_pos h1, if_pos h2, if_pos h3, if_pos h4, if_neg h5, if_neg h6]; done) | (rw [if_pos h0, if_pos h1, if_pos h2, if_pos h3, if_pos h4, if_neg h5, if_neg h6]; rfl)))
                · exact And.intro trivial (leafL hk (by unfold fX1_plus; first | (rw [if_pos h0, if_pos h1, if_pos h2, if_pos h3, if_pos h4, if_neg h5, if_pos h6]; done) | (rw [if_pos h0, if_pos h1, if_pos h2, if_pos h3, if_pos h4, if_neg h5, if_pos h6]; rfl)))
              · exact And.intro trivial (leafL hk (by unfold fX1_plus; first | (rw [if_pos h0, if_pos h1, if_pos h2, if_pos h3, if_pos h4, if_pos h5]; done) | (rw [if_pos h0, if_pos h1, if_pos h2, if_pos h3, if_pos h4, if_pos h5]; rfl)))
            · refine And.intro (fun h => absurd (show (1 : Int32) = (0 : Int32) from h) (by decide)) (fun _ => ?_)
              refine And.intro (fun h => absurd (show (1 : Int32) = (0 : Int32) from h) (by decide)) (fun _ => ?_)
              refine And.intro (fun (h5 : ¬ (lg_cmp ((a ^^^ b) &&& (-9223372036854775808 : Int64)) (0 : Int64)) = 0) => ?_) (fun h5q => have h5 : (lg_cmp ((a ^^^ b) &&& (-9223372036854775808 : Int64)) (0 : Int64)) = 0 := Classical.not_not.mp h5q; ?_)
              · refine And.intro (fun (h6 : ¬ (lg_cmp ((fX1_fraction a) <<< ((3 : Int32).toInt64 &&& 63)) (fX1_moved ((fX1_fraction b) <<< ((3 : Int32).toInt64 &&& 63)) ((fX1_scale a) - (fX1_scale b)))) = 0) => ?_) (fun h6q => have h6 : (lg_cmp ((fX1_fraction a) <<< ((3 : Int32).toInt64 &&& 63)) (fX1_moved ((fX1_fraction b) <<< ((3 : Int32).toInt64 &&& 63)) ((fX1_scale a) - (fX1_scale b)))) = 0 := Classical.not_not.mp h6q; ?_)
                · exact And.intro trivial (leafL hk (by unfold fX1_plus; first | (rw [if_pos h0, if_pos h1, if_pos h2, if_pos h3, if_neg h4, if_neg h5, if_neg h6]; done) | (rw [if_pos h0, if_pos h1, if_pos h2, if_pos h3, if_neg h4, if_neg h5, if_neg h6]; rfl)))
                · exact And.intro trivial (leafL hk (by unfold fX1_plus; first | (rw [if_pos h0, if_pos h1, if_pos h2, if_pos h3, if_neg h4, if_neg h5, if_pos h6]; done) | (rw [if_pos h0, if_pos h1, if_pos h2, if_pos h3, if_neg h4, if_neg h5, if_pos h6]; rfl)))
              · exact And.intro trivial (leafL hk (by unfold fX1_plus; first | (rw [if_pos h0, if_pos h1, if_pos h2, if_pos h3, if_neg h4, if_pos h5]; done) | (rw [if_pos h0, if_pos h1, if_pos h2, if_pos h3, if_neg h4, if_pos h5]; rfl)))
          · exact And.intro trivial (leafL hk (by unfold fX1_plus; first | (rw [if_pos h0, if_pos h1, if_pos h2, if_neg h3]; done) | (rw [if_pos h0, if_pos h1, if_pos h2, if_neg h3]; rfl)))
        · refine And.intro (fun (h3 : ¬ (lg_cmp b (a ^^^ (-9223372036854775808 : Int64))) = 0) => ?_) (fun h3q => have h3 : (lg_cmp b (a ^^^ (-9223372036854775808 : Int64))) = 0 := Classical.not_not.mp h3q; ?_)
          · exact And.intro trivial (leafL hk (by unfold fX1_plus; first | (rw [if_pos h0, if_pos h1, if_neg h2, if_neg h3]; done) | (rw [if_pos h0, if_pos h1, if_neg h2, if_neg h3]; rfl)))
          · exact And.intro trivial (leafL hk (by unfold fX1_plus; first | (rw [if_pos h0, if_pos h1, if_neg h2, if_pos h3]; done) | (rw [if_pos h0, if_pos h1, if_neg h2, if_pos h3]; rfl)))
      · exact And.intro trivial (leafL hk (by unfold fX1_plus; first | (rw [if_pos h0, if_neg h1]; done) | (rw [if_pos h0, if_neg h1]; rfl)))
  · exact h.elim
def fX1_topOfProduct (a : Int64) (b : Int64) : Int64 :=
  (((((a.toUInt64 >>> ((27 : Int32).toInt64.toUInt64 &&& Int64.toUInt64 63)).toInt64 * (b.toUInt64 >>> ((27 : Int32).toInt64.toUInt64 &&& Int64.toUInt64 63)).toInt64) + (((((a.toUInt64 >>> ((27 : Int32).toInt64.toUInt64 &&& Int64.toUInt64 63)).toInt64 * (b &&& (((1 : Int64) <<< ((27 : Int32).toInt64 &&& 63)) - (1 : Int64)))) + ((a &&& (((1 : Int64) <<< ((27 : Int32).toInt64 &&& 63)) - (1 : Int64))) * (b.toUInt64 >>> ((27 : Int32).toInt64.toUInt64 &&& Int64.toUInt64 63)).toInt64)) + (((a &&& (((1 : Int64) <<< ((27 : Int32).toInt64 &&& 63)) - (1 : Int64))) * (b &&& (((1 : Int64) <<< ((27 : Int32).toInt64 &&& 63)) - (1 : Int64)))).toUInt64 >>> ((27 : Int32).toInt64.toUInt64 &&& Int64.toUInt64 63)).toInt64).toUInt64 >>> ((27 : Int32).toInt64.toUInt64 &&& Int64.toUInt64 63)).toInt64) <<< ((5 : Int32).toInt64 &&& 63)) ||| (fX1_moved (((((((a.toUInt64 >>> ((27 : Int32).toInt64.toUInt64 &&& Int64.toUInt64 63)).toInt64 * (b &&& (((1 : Int64) <<< ((27 : Int32).toInt64 &&& 63)) - (1 : Int64)))) + ((a &&& (((1 : Int64) <<< ((27 : Int32).toInt64 &&& 63)) - (1 : Int64))) * (b.toUInt64 >>> ((27 : Int32).toInt64.toUInt64 &&& Int64.toUInt64 63)).toInt64)) + (((a &&& (((1 : Int64) <<< ((27 : Int32).toInt64 &&& 63)) - (1 : Int64))) * (b &&& (((1 : Int64) <<< ((27 : Int32).toInt64 &&& 63)) - (1 : Int64)))).toUInt64 >>> ((27 : Int32).toInt64.toUInt64 &&& Int64.toUInt64 63)).toInt64) &&& (((1 : Int64) <<< ((27 : Int32).toInt64 &&& 63)) - (1 : Int64))) <<< ((27 : Int32).toInt64 &&& 63)) ||| (((a &&& (((1 : Int64) <<< ((27 : Int32).toInt64 &&& 63)) - (1 : Int64))) * (b &&& (((1 : Int64) <<< ((27 : Int32).toInt64 &&& 63)) - (1 : Int64)))) &&& (((1 : Int64) <<< ((27 : Int32).toInt64 &&& 63)) - (1 : Int64)))) (49 : Int32)))
def tX1_topOfProduct : Tr := fun as σ k => match as with
  | [.long a, .long b] => k (some (.long (fX1_topOfProduct a b))) σ
  | _ => False
def ceX1_topOfProduct : List (Nat × Nat × Tr) := (2 * 61, 2, tX1_moved) :: []
theorem coX1_topOfProduct (l : Launch) : CEok l yX1_topOfProduct.cls 1 ceX1_topOfProduct := ce_S (okX1_moved l) (mw 237 (by decide +kernel) rfl) (mw 238 (by decide +kernel) rfl) (mw 5 (by decide +kernel) rfl) (mw 239 (by decide +kernel) rfl) (by decide) ⟨by decide, by decide⟩ (ce_0)
set_option maxRecDepth 20000 in
theorem okX1_topOfProduct (l : Launch) : OK l yX1_topOfProduct cX1_topOfProduct 23 (some .long) 1 tX1_topOfProduct := by
  intro D τ ρ A as σ post h
  unfold tX1_topOfProduct at h; split at h
  · rename_i a b; have hk := h
    refine met_of (P := pgX1_topOfProduct) (CE := ceX1_topOfProduct) (cut := []) (by decide) kkX1_topOfProduct (coX1_topOfProduct l) (Nat.le_of_ble_eq_true rfl) ?_
    intro G hG; refine hG 120 false 0 _ _ _ ?_
    exact And.intro trivial (leafL hk (by unfold fX1_topOfProduct; rfl))
  · exact h.elim
def fX1_times (a : Int64) (b : Int64) : Int64 :=
  if (fX1_isNone a) = 0 then
    if (fX1_isNone b) = 0 then
      if (fX1_isInfinite a) = 0 then
        if (fX1_isInfinite b) = 0 then
          if (fX1_isZero a) = 0 then
            if (fX1_isZero b) = 0 then
              (fX1_packed ((a ^^^ b) &&& (-9223372036854775808 : Int64)) (((((fX1_scale a) - (fX1_lack (fX1_fraction a))) + (fX1_scale b)) - (fX1_lack (fX1_fraction b))) - (1023 : Int32)) (fX1_topOfProduct ((fX1_fraction a) <<< ((fX1_lack (fX1_fraction a)).toInt64 &&& 63)) ((fX1_fraction b) <<< ((fX1_lack (fX1_fraction b)).toInt64 &&& 63))))
            else
              ((a ^^^ b) &&& (-9223372036854775808 : Int64))
          else
            ((a ^^^ b) &&& (-9223372036854775808 : Int64))
        else
          if (fX1_isZero a) = 0 then
            if (fX1_isZero b) = 0 then
              (((a ^^^ b) &&& (-9223372036854775808 : Int64)) ||| (9218868437227405312 : Int64))
            else
              (9221120237041090560 : Int64)
          else
            (9221120237041090560 : Int64)
      else
        if (fX1_isZero a) = 0 then
          if (fX1_isZero b) = 0 then
            (((a ^^^ b) &&& (-9223372036854775808 : Int64)) ||| (9218868437227405312 : Int64))
          else
            (9221120237041090560 : Int64)
        else
          (9221120237041090560 : Int64)
    else
      (9221120237041090560 : Int64)
  else
    (9221120237041090560 : Int64)
def tX1_times : Tr := fun as σ k => match as with
  | [.long a, .long b] => k (some (.long (fX1_times a b))) σ
  | _ => False
def ceX1_times : List (Nat × Nat × Tr) := (2 * 7, 1, tX1_isNone) :: (2 * 69, 1, tX1_isInfinite) :: (2 * 36, 1, tX1_isZero) :: (2 * 75, 1, tX1_fraction) :: (2 * 82, 1, tX1_lack) :: (2 * 85, 2, tX1_topOfProduct) :: (2 * 72, 1, tX1_scale) :: (2 * 78, 3, tX1_packed) :: []
theorem coX1_times (l : Launch) : CEok l yX1_times.cls 3 ceX1_times := ce_S (okX1_isNone l) (mw 136 (by decide +kernel) rfl) (mw 137 (by decide +kernel) rfl) (mw 5 (by decide +kernel) rfl) (mw 138 (by decide +kernel) rfl) (by decide) ⟨by decide, by decide⟩ (ce_S (okX1_isInfinite l) (mw 226 (by decide +kernel) rfl) (mw 227 (by decide +kernel) rfl) (mw 5 (by decide +kernel) rfl) (mw 228 (by decide +kernel) rfl) (by decide) ⟨by decide, by decide⟩ (ce_S (okX1_isZero l) (mw 264 (by decide +kernel) rfl) (mw 265 (by decide +kernel) rfl) (mw 5 (by decide +kernel) rfl) (mw 266 (by decide +kernel) rfl) (by decide) ⟨by decide, by decide⟩ (ce_S (okX1_fraction l) (mw 232 (by decide +kernel) rfl) (mw 233 (by decide +kernel) rfl) (mw 5 (by decide +kernel) rfl) (mw 234 (by decide +kernel) rfl) (by decide) ⟨by decide, by decide⟩ (ce_S (okX1_lack l) (mw 272 (by decide +kernel) rfl) (mw 273 (by decide +kernel) rfl) (mw 5 (by decide +kernel) rfl) (mw 274 (by decide +kernel) rfl) (by decide) ⟨by decide, by decide⟩ (ce_S (okX1_topOfProduct l) (mw 275 (by decide +kernel) rfl) (mw 276 (by decide +kernel) rfl) (mw 5 (by decide +kernel) rfl) (mw 277 (by decide +kernel) rfl) (by decide) ⟨by decide, by decide⟩ (ce_S (okX1_scale l) (mw 229 (by decide +kernel) rfl) (mw 230 (by decide +kernel) rfl) (mw 5 (by decide +kernel) rfl) (mw 231 (by decide +kernel) rfl) (by decide) ⟨by decide, by decide⟩ (ce_S (okX1_packed l) (mw 240 (by decide +kernel) rfl) (mw 241 (by decide +kernel) rfl) (mw 5 (by decide +kernel) rfl) (mw 242 (by decide +kernel) rfl) (by decide) ⟨by decide, by decide⟩ (ce_0))))))))
set_option maxRecDepth 20000 in
theorem okX1_times (l : Launch) : OK l yX1_times cX1_times 10 (some .long) 3 tX1_times := by
  intro D τ ρ A as σ post h
  unfold tX1_times at h; split at h
  · rename_i a b; have hk := h
    refine met_of (P := pgX1_times) (CE := ceX1_times) (cut := []) (by decide) kkX1_times (coX1_times l) (Nat.le_of_ble_eq_true rfl) ?_
    intro G hG; refine hG 120 false 0 _ _ _ ?_
    refine And.intro (fun (h0 : ¬ (fX1_isNone a) = 0) => ?_) (fun h0q => have h0 : (fX1_isNone a) = 0 := Classical.not_not.mp h0q; ?_)
    · exact And.intro trivial (leafL hk (by unfold fX1_times; first | (rw [if_neg h0]; done) | (rw [if_neg h0]; rfl)))
    · refine And.intro (fun (h1 : (fX1_isNone b) = 0) => ?_) (fun (h1 : ¬ (fX1_isNone b) = 0) => ?_)
      · refine And.intro (fun (h2 : ¬ (fX1_isInfinite a) = 0) => ?_) (fun h2q => have h2 : (fX1_isInfinite a) = 0 := Classical.not_not.mp h2q; ?_)
        · refine And.intro (fun (h3 : ¬ (fX1_isZero a) = 0) => ?_) (fun h3q => have h3 : (fX1_isZero a) = 0 := Classical.not_not.mp h3q; ?_)
          · exact And.intro trivial (leafL hk (by unfold fX1_times; first | (rw [if_pos h0, if_pos h1, if_neg h2, if_neg h3]; done) | (rw [if_pos h0, if_pos h1, if_neg h2, if_neg h3]; rfl)))
          · refine And.intro (fun (h4 : (fX1_isZero b) = 0) => ?_) (fun (h4 : ¬ (fX1_isZero b) = 0) => ?_)
            · exact And.intro trivial (leafL hk (by unfold fX1_times; first | (rw [if_pos h0, if_pos h1, if_neg h2, if_pos h3, if_pos h4]; done) | (rw [if_pos h0, if_pos h1, if_neg h2, if_pos h3, if_pos h4]; rfl)))
            · exact And.intro trivial (leafL hk (by unfold fX1_times; first | (rw [if_pos h0, if_pos h1, if_neg h2, if_pos h3, if_neg h4]; done) | (rw [if_pos h0, if_pos h1, if_neg h2, if_pos h3, if_neg h4]; rfl)))
        · refine And.intro (fun (h3 : (fX1_isInfinite b) = 0) => ?_) (fun (h3 : ¬ (fX1_isInfinite b) = 0) => ?_)
          · refine And.intro (fun (h4 : ¬ (fX1_isZero a) = 0) => ?_) (fun h4q => have h4 : (fX1_isZero a) = 0 := Classical.not_not.mp h4q; ?_)
            · exact And.intro trivial (leafL hk (by unfold fX1_times; first | (rw [if_pos h0, if_pos h1, if_pos h2, if_pos h3, if_neg h4]; done) | (rw [if_pos h0, if_pos h1, if_pos h2, if_pos h3, if_neg h4]; rfl)))
            · refine And.intro (fun (h5 : (fX1_isZero b) = 0) => ?_) (fun (h5 : ¬ (fX1_isZero b) = 0) => ?_)
              · exact And.intro trivial (leafL hk (by unfold fX1_times; first | (rw [if_pos h0, if_pos h1, if_pos h2, if_pos h3, if_pos h4, if_pos h5]; done) | (rw [if_pos h0, if_pos h1, if_pos h2, if_pos h3, if_pos h4, if_pos h5]; rfl)))
              · exact And.intro trivial (leafL hk (by unfold fX1_times; first | (rw [if_pos h0, if_pos h1, if_pos h2, if_pos h3, if_pos h4, if_neg h5]; done) | (rw [if_pos h0, if_pos h1, if_pos h2, if_pos h3, if_pos h4, if_neg h5]; rfl)))
          · refine And.intro (fun (h4 : ¬ (fX1_isZero a) = 0) => ?_) (fun h4q => have h4 : (fX1_isZero a) = 0 := Classical.not_not.mp h4q; ?_)
            · exact And.intro trivial (leafL hk (by unfold fX1_times; first | (rw [if_pos h0, if_pos h1, if_pos h2, if_neg h3, if_neg h4]; done) | (rw [if_pos h0, if_pos h1, if_pos h2, if_neg h3, if_neg h4]; rfl)))
            · refine And.intro (fun (h5 : (fX1_isZero b) = 0) => ?_) (fun (h5 : ¬ (fX1_isZero b) = 0) => ?_)
              · exact And.intro trivial (leafL hk (by unfold fX1_times; first | (rw [if_pos h0, if_pos h1, if_pos h2, if_neg h3, if_pos h4, if_pos h5]; done) | (rw [if_pos h0, if_pos h1, if_pos h2, if_neg h3, if_pos h4, if_pos h5]; rfl)))
              · exact And.intro trivial (leafL hk (by unfold fX1_times; first | (rw [if_pos h0, if_pos h1, if_pos h2, if_neg h3, if_pos h4, if_neg h5]; done) | (rw [if_pos h0, if_pos h1, if_pos h2, if_neg h3, if_pos h4, if_neg h5]; rfl)))
      · exact And.intro trivial (leafL hk (by unfold fX1_times; first | (rw [if_pos h0, if_neg h1]; done) | (rw [if_pos h0, if_neg h1]; rfl)))
  · exact h.elim
def fX1_behindPoint (a : Int32) : Int64 :=
  ((4503599627370495 : Int64).toUInt64 >>> ((a - (1023 : Int32)).toInt64.toUInt64 &&& Int64.toUInt64 63)).toInt64
def tX1_behindPoint : Tr := fun as σ k => match as with
  | [.int a] => k (some (.long (fX1_behindPoint a))) σ
  | _ => False
def ceX1_behindPoint : List (Nat × Nat × Tr) := []
theorem coX1_behindPoint (l : Launch) : CEok l yX1_behindPoint.cls 0 ceX1_behindPoint := ce_0
set_option maxRecDepth 20000 in
theorem okX1_behindPoint (l : Launch) : OK l yX1_behindPoint cX1_behindPoint 1 (some .long) 0 tX1_behindPoint := by
  intro D τ ρ A as σ post h
  unfold tX1_behindPoint at h; split at h
  · rename_i a; have hk := h
    refine met_of (P := pgX1_behindPoint) (CE := ceX1_behindPoint) (cut := []) (by decide) kkX1_behindPoint (coX1_behindPoint l) (Nat.le_of_ble_eq_true rfl) ?_
    intro G hG; refine hG 120 false 0 _ _ _ ?_
    exact And.intro trivial (leafL hk (by unfold fX1_behindPoint; rfl))
  · exact h.elim
def fX1_floor (a : Int64) : Int64 :=
  if (fX1_isZero a) = 0 then
    if (fX1_scale a) < (1075 : Int32) then
      if (1023 : Int32) ≤ (fX1_scale a) then
        if 0 ≤ (lg_cmp a (0 : Int64)) then
          (a &&& ((fX1_behindPoint (fX1_scale a)) ^^^ (-1 : Int64)))
        else
          ((a + (fX1_behindPoint (fX1_scale a))) &&& ((fX1_behindPoint (fX1_scale a)) ^^^ (-1 : Int64)))
      else
        if 0 ≤ (lg_cmp a (0 : Int64)) then
          (0 : Int64)
        else
          (-4616189618054758400 : Int64)
    else
      a
  else
    a
def tX1_floor : Tr := fun as σ k => match as with
  | [.long a] => k (some (.long (fX1_floor a))) σ
  | _ => False
def ceX1_floor : List (Nat × Nat × Tr) := (2 * 72, 1, tX1_scale) :: (2 * 36, 1, tX1_isZero) :: (2 * 99, 1, tX1_behindPoint) :: []
theorem coX1_floor (l : Launch) : CEok l yX1_floor.cls 1 ceX1_floor := ce_S (okX1_scale l) (mw 229 (by decide +kernel) rfl) (mw 230 (by decide +kernel) rfl) (mw 5 (by decide +kernel) rfl) (mw 231 (by decide +kernel) rfl) (by decide) ⟨by decide, by decide⟩ (ce_S (okX1_isZero l) (mw 264 (by decide +kernel) rfl) (mw 265 (by decide +kernel) rfl) (mw 5 (by decide +kernel) rfl) (mw 266 (by decide +kernel) rfl) (by decide) ⟨by decide, by decide⟩ (ce_S (okX1_behindPoint l) (mw 332 (by decide +kernel) rfl) (mw 333 (by decide +kernel) rfl) (mw 5 (by decide +kernel) rfl) (mw 334 (by decide +kernel) rfl) (by decide) ⟨by decide, by decide⟩ (ce_0)))
set_option maxRecDepth 20000 in
theorem okX1_floor (l : Launch) : OK l yX1_floor cX1_floor 7 (some .long) 1 tX1_floor := by
  intro D τ ρ A as σ post h
  unfold tX1_floor at h; split at h
  · rename_i a; have hk := h
    refine met_of (P := pgX1_floor) (CE := ceX1_floor) (cut := []) (by decide) kkX1_floor (coX1_floor l) (Nat.le_of_ble_eq_true rfl) ?_
    intro G hG; refine hG 120 false 0 _ _ _ ?_
    refine And.intro (fun (h0 : ¬ (fX1_isZero a) = 0) => ?_) (fun h0q => have h0 : (fX1_isZero a) = 0 := Classical.not_not.mp h0q; ?_)
    · exact And.intro trivial (leafL hk (by unfold fX1_floor; first | (rw [if_neg h0]; done) | (rw [if_neg h0]; rfl)))
    · refine And.intro (fun (h1 : (fX1_scale a) < (1075 : Int32)) => ?_) (fun (h1 : ¬ (fX1_scale a) < (1075 : Int32)) => ?_)
      · refine And.intro (fun (h2 : (1023 : Int32) ≤ (fX1_scale a)) => ?_) (fun (h2 : ¬ (1023 : Int32) ≤ (fX1_scale a)) => ?_)
        · refine And.intro (fun (h3 : 0 ≤ (lg_cmp a (0 : Int64))) => ?_) (fun (h3 : ¬ 0 ≤ (lg_cmp a (0 : Int64))) => ?_)
          · exact And.intro trivial (leafL hk (by unfold fX1_floor; first | (rw [if_pos h0, if_pos h1, if_pos h2, if_pos h3]; done) | (rw [if_pos h0, if_pos h1, if_pos h2, if_pos h3]; rfl)))
          · exact And.intro trivial (leafL hk (by unfold fX1_floor; first | (rw [if_pos h0, if_pos h1, if_pos h2, if_neg h3]; done) | (rw [if_pos h0, if_pos h1, if_pos h2, if_neg h3]; rfl)))
        · refine And.intro (fun (h3 : 0 ≤ (lg_cmp a (0 : Int64))) => ?_) (fun (h3 : ¬ 0 ≤ (lg_cmp a (0 : Int64))) => ?_)
          · exact And.intro trivial (leafL hk (by unfold fX1_floor; first | (rw [if_pos h0, if_pos h1, if_neg h2, if_pos h3]; done) | (rw [if_pos h0, if_pos h1, if_neg h2, if_pos h3]; rfl)))
          · exact And.intro trivial (leafL hk (by unfold fX1_floor; first | (rw [if_pos h0, if_pos h1, if_neg h2, if_neg h3]; done) | (rw [if_pos h0, if_pos h1, if_neg h2, if_neg h3]; rfl)))
      · exact And.intro trivial (leafL hk (by unfold fX1_floor; first | (rw [if_pos h0, if_neg h1]; done) | (rw [if_pos h0, if_neg h1]; rfl)))
  · exact h.elim
def fX1_throughFloat (a : Int64) : Int64 :=
  if (fX1_isFinite a) = 0 then
    a
  else
    if (fX1_isZero a) = 0 then
      if (fJ9_max_7cf53 (29 : Int32) ((926 : Int32) - (fX1_scale a))) ≤ (53 : Int32) then
        if 0 < (lg_cmp ((fX1_fraction a) &&& ((((1 : Int64) <<< (((fJ9_max_7cf53 (29 : Int32) ((926 : Int32) - (fX1_scale a))) - (1 : Int32)).toInt64 &&& 63)) + ((1 : Int64) <<< (((fJ9_max_7cf53 (29 : Int32) ((926 : Int32) - (fX1_scale a))) - (1 : Int32)).toInt64 &&& 63))) - (1 : Int64))) ((1 : Int64) <<< (((fJ9_max_7cf53 (29 : Int32) ((926 : Int32) - (fX1_scale a))) - (1 : Int32)).toInt64 &&& 63))) then
          if (lg_cmp (((fX1_fraction a) - ((fX1_fraction a) &&& ((((1 : Int64) <<< (((fJ9_max_7cf53 (29 : Int32) ((926 : Int32) - (fX1_scale a))) - (1 : Int32)).toInt64 &&& 63)) + ((1 : Int64) <<< (((fJ9_max_7cf53 (29 : Int32) ((926 : Int32) - (fX1_scale a))) - (1 : Int32)).toInt64 &&& 63))) - (1 : Int64)))) + (((1 : Int64) <<< (((fJ9_max_7cf53 (29 : Int32) ((926 : Int32) - (fX1_scale a))) - (1 : Int32)).toInt64 &&& 63)) + ((1 : Int64) <<< (((fJ9_max_7cf53 (29 : Int32) ((926 : Int32) - (fX1_scale a))) - (1 : Int32)).toInt64 &&& 63)))) (0 : Int64)) = 0 then
            (a &&& (-9223372036854775808 : Int64))
          else
            if (lg_cmp ((((fX1_scale a) - (1 : Int32)).toInt64 <<< ((52 : Int32).toInt64 &&& 63)) + (((fX1_fraction a) - ((fX1_fraction a) &&& ((((1 : Int64) <<< (((fJ9_max_7cf53 (29 : Int32) ((926 : Int32) - (fX1_scale a))) - (1 : Int32)).toInt64 &&& 63)) + ((1 : Int64) <<< (((fJ9_max_7cf53 (29 : Int32) ((926 : Int32) - (fX1_scale a))) - (1 : Int32)).toInt64 &&& 63))) - (1 : Int64)))) + (((1 : Int64) <<< (((fJ9_max_7cf53 (29 : Int32) ((926 : Int32) - (fX1_scale a))) - (1 : Int32)).toInt64 &&& 63)) + ((1 : Int64) <<< (((fJ9_max_7cf53 (29 : Int32) ((926 : Int32) - (fX1_scale a))) - (1 : Int32)).toInt64 &&& 63))))) (5183643171103440896 : Int64)) < 0 then
              ((a &&& (-9223372036854775808 : Int64)) ||| ((((fX1_scale a) - (1 : Int32)).toInt64 <<< ((52 : Int32).toInt64 &&& 63)) + (((fX1_fraction a) - ((fX1_fraction a) &&& ((((1 : Int64) <<< (((fJ9_max_7cf53 (29 : Int32) ((926 : Int32) - (fX1_scale a))) - (1 : Int32)).toInt64 &&& 63)) + ((1 : Int64) <<< (((fJ9_max_7cf53 (29 : Int32) ((926 : Int32) - (fX1_scale a))) - (1 : Int32)).toInt64 &&& 63))) - (1 : Int64)))) + (((1 : Int64) <<< (((fJ9_max_7cf53 (29 : Int32) ((926 : Int32) - (fX1_scale a))) - (1 : Int32)).toInt64 &&& 63)) + ((1 : Int64) <<< (((fJ9_max_7cf53 (29 : Int32) ((926 : Int32) - (fX1_scale a))) - (1 : Int32)).toInt64 &&& 63))))))
            else
              ((a &&& (-9223372036854775808 : Int64)) ||| (9218868437227405312 : Int64))
        else
          if (lg_cmp ((fX1_fraction a) &&& ((((1 : Int64) <<< (((fJ9_max_7cf53 (29 : Int32) ((926 : Int32) - (fX1_scale a))) - (1 : Int32)).toInt64 &&& 63)) + ((1 : Int64) <<< (((fJ9_max_7cf53 (29 : Int32) ((926 : Int32) - (fX1_scale a))) - (1 : Int32)).toInt64 &&& 63))) - (1 : Int64))) ((1 : Int64) <<< (((fJ9_max_7cf53 (29 : Int32) ((926 : Int32) - (fX1_scale a))) - (1 : Int32)).toInt64 &&& 63))) = 0 then
            if (lg_cmp (((fX1_fraction a).toUInt64 >>> ((fJ9_max_7cf53 (29 : Int32) ((926 : Int32) - (fX1_scale a))).toInt64.toUInt64 &&& Int64.toUInt64 63)).toInt64 &&& (1 : Int64)) (0 : Int64)) = 0 then
              if (lg_cmp ((fX1_fraction a) - ((fX1_fraction a) &&& ((((1 : Int64) <<< (((fJ9_max_7cf53 (29 : Int32) ((926 : Int32) - (fX1_scale a))) - (1 : Int32)).toInt64 &&& 63)) + ((1 : Int64) <<< (((fJ9_max_7cf53 (29 : Int32) ((926 : Int32) - (fX1_scale a))) - (1 : Int32)).toInt64 &&& 63))) - (1 : Int64)))) (0 : Int64)) = 0 then
                (a &&& (-9223372036854775808 : Int64))
              else
                if (lg_cmp ((((fX1_scale a) - (1 : Int32)).toInt64 <<< ((52 : Int32).toInt64 &&& 63)) + ((fX1_fraction a) - ((fX1_fraction a) &&& ((((1 : Int64) <<< (((fJ9_max_7cf53 (29 : Int32) ((926 : Int32) - (fX1_scale a))) - (1 : Int32)).toInt64 &&& 63)) + ((1 : Int64) <<< (((fJ9_max_7cf53 (29 : Int32) ((926 : Int32) - (fX1_scale a))) - (1 : Int32)).toInt64 &&& 63))) - (1 : Int64))))) (5183643171103440896 : Int64)) < 0 then
                  ((a &&& (-9223372036854775808 : Int64)) ||| ((((fX1_scale a) - (1 : Int32)).toInt64 <<< ((52 : Int32).toInt64 &&& 63)) + ((fX1_fraction a) - ((fX1_fraction a) &&& ((((1 : Int64) <<< (((fJ9_max_7cf53 (29 : Int32) ((926 : Int32) - (fX1_scale a))) - (1 : Int32)).toInt64 &&& 63)) + ((1 : Int64) <<< (((fJ9_max_7cf53 (29 : Int32) ((926 : Int32) - (fX1_scale a))) - (1 : Int32)).toInt64 &&& 63))) - (1 : Int64))))))
                else
                  ((a &&& (-9223372036854775808 : Int64)) ||| (9218868437227405312 : Int64))
            else
              if (lg_cmp (((fX1_fraction a) - ((fX1_fraction a) &&& ((((1 : Int64) <<< (((fJ9_max_7cf53 (29 : Int32) ((926 : Int32) - (fX1_scale a))) - (1 : Int32)).toInt64 &&& 63)) + ((1 : Int64) <<< (((fJ9_max_7cf53 (29 : Int32) ((926 : Int32) - (fX1_scale a))) - (1 : Int32)).toInt64 &&& 63))) - (1 : Int64)))) + (((1 : Int64) <<< (((fJ9_max_7cf53 (29 : Int32) ((926 : Int32) - (fX1_scale a))) - (1 : Int32)).toInt64 &&& 63)) + ((1 : Int64) <<< (((fJ9_max_7cf53 (29 : Int32) ((926 : Int32) - (fX1_scale a))) - (1 : Int32)).toInt64 &&& 63)))) (0 : Int64)) = 0 then
                (a &&& (-9223372036854775808 : Int64))
              else
                if (lg_cmp ((((fX1_scale a) - (1 : Int32)).toInt64 <<< ((52 : Int32).toInt64 &&& 63)) + (((fX1_fraction a) - ((fX1_fraction a) &&& ((((1 : Int64) <<< (((fJ9_max_7cf53 (29 : Int32) ((926 : Int32) - (fX1_scale a))) - (1 : Int32)).toInt64 &&& 63)) + ((1 : Int64) <<< (((fJ9_max_7cf53 (29 : Int32) ((926 : Int32) - (fX1_scale a))) - (1 : Int32)).toInt64 &&& 63))) - (1 : Int64)))) + (((1 : Int64) <<< (((fJ9_max_7cf53 (29 : Int32) ((926 : Int32) - (fX1_scale a))) - (1 : Int32)).toInt64 &&& 63)) + ((1 : Int64) <<< (((fJ9_max_7cf53 (29 : Int32) ((926 : Int32) - (fX1_scale a))) - (1 : Int32)).toInt64 &&& 63))))) (5183643171103440896 : Int64)) < 0 then
                  ((a &&& (-9223372036854775808 : Int64)) ||| ((((fX1_scale a) - (1 : Int32)).toInt64 <<< ((52 : Int32).toInt64 &&& 63)) + (((fX1_fraction a) - ((fX1_fraction a) &&& ((((1 : Int64) <<< (((fJ9_max_7cf53 (29 : Int32) ((926 : Int32) - (fX1_scale a))) - (1 : Int32)).toInt64 &&& 63)) + ((1 : Int64) <<< (((fJ9_max_7cf53 (29 : Int32) ((926 : Int32) - (fX1_scale a))) - (1 : Int32)).toInt64 &&& 63))) - (1 : Int64)))) + (((1 : Int64) <<< (((fJ9_max_7cf53 (29 : Int32) ((926 : Int32) - (fX1_scale a))) - (1 : Int32)).toInt64 &&& 63)) + ((1 : Int64) <<< (((fJ9_max_7cf53 (29 : Int32) ((926 : Int32) - (fX1_scale a))) - (1 : Int32)).toInt64 &&& 63))))))
                else
                  ((a &&& (-9223372036854775808 : Int64)) ||| (9218868437227405312 : Int64))
          else
            if (lg_cmp ((fX1_fraction a) - ((fX1_fraction a) &&& ((((1 : Int64) <<< (((fJ9_max_7cf53 (29 : Int32) ((926 : Int32) - (fX1_scale a))) - (1 : Int32)).toInt64 &&& 63)) + ((1 : Int64) <<< (((fJ9_max_7cf53 (29 : Int32) ((926 : Int32) - (fX1_scale a))) - (1 : Int32)).toInt64 &&& 63))) - (1 : Int64)))) (0 : Int64)) = 0 then
              (a &&& (-9223372036854775808 : Int64))
            else
              if (lg_cmp ((((fX1_scale a) - (1 : Int32)).toInt64 <<< ((52 : Int32).toInt64 &&& 63)) + ((fX1_fraction a) - ((fX1_fraction a) &&& ((((1 : Int64) <<< (((fJ9_max_7cf53 (29 : Int32) ((926 : Int32) - (fX1_scale a))) - (1 : Int32)).toInt64 &&& 63)) + ((1 : Int64) <<< (((fJ9_max_7cf53 (29 : Int32) ((926 : Int32) - (fX1_scale a))) - (1 : Int32)).toInt64 &&& 63))) - (1 : Int64))))) (5183643171103440896 : Int64)) < 0 then
                ((a &&& (-9223372036854775808 : Int64)) ||| ((((fX1_scale a) - (1 : Int32)).toInt64 <<< ((52 : Int32).toInt64 &&& 63)) + ((fX1_fraction a) - ((fX1_fraction a) &&& ((((1 : Int64) <<< (((fJ9_max_7cf53 (29 : Int32) ((926 : Int32) - (fX1_scale a))) - (1 : Int32)).toInt64 &&& 63)) + ((1 : Int64) <<< (((fJ9_max_7cf53 (29 : Int32) ((926 : Int32) - (fX1_scale a))) - (1 : Int32)).toInt64 &&& 63))) - (1 : Int64))))))
              else
                ((a &&& (-9223372036854775808 : Int64)) ||| (9218868437227405312 : Int64))
      else
        (a &&& (-9223372036854775808 : Int64))
    else
      a
def tX1_throughFloat : Tr := fun as σ k => match as with
  | [.long a] => k (some (.long (fX1_throughFloat a))) σ
  | _ => False
def ceX1_throughFloat : List (Nat × Nat × Tr) := (2 * 103, 1, tX1_isFinite) :: (2 * 36, 1, tX1_isZero) :: (2 * 72, 1, tX1_scale) :: (2 * 55, 2, tJ9_max_7cf53) :: (2 * 75, 1, tX1_fraction) :: []
theorem coX1_throughFloat (l : Launch) : CEok l yX1_throughFloat.cls 1 ceX1_throughFloat := ce_S (okX1_isFinite l) (mw 338 (by decide +kernel) rfl) (mw 129 (by decide +kernel) rfl) (mw 5 (by decide +kernel) rfl) (mw 130 (by decide +kernel) rfl) (by decide) ⟨by decide, by decide⟩ (ce_S (okX1_isZero l) (mw 264 (by decide +kernel) rfl) (mw 265 (by decide +kernel) rfl) (mw 5 (by decide +kernel) rfl) (mw 266 (by decide +kernel) rfl) (by decide) ⟨by decide, by decide⟩ (ce_S (okX1_scale l) (mw 229 (by decide +kernel) rfl) (mw 230 (by decide +kernel) rfl) (mw 5 (by decide +kernel) rfl) (mw 231 (by decide +kernel) rfl) (by decide) ⟨by decide, by decide⟩ (ce_max (mw 250 (by decide +kernel) rfl) (mw 251 (by decide +kernel) rfl) (mw 9 (by decide +kernel) rfl) (mw 252 (by decide +kernel) rfl) (by decide) (ce_S (okX1_fraction l) (mw 232 (by decide +kernel) rfl) (mw 233 (by decide +kernel) rfl) (mw 5 (by decide +kernel) rfl) (mw 234 (by decide +kernel) rfl) (by decide) ⟨by decide, by decide⟩ (ce_0)))))
set_option maxRecDepth 20000 in
theorem okX1_throughFloat (l : Launch) : OK l yX1_throughFloat cX1_throughFloat 14 (some .long) 1 tX1_throughFloat := by
  intro D τ ρ A as σ post h
  unfold tX1_throughFloat at h; split at h
  · rename_i a; have hk := h
    refine met_of (P := pgX1_throughFloat) (CE := ceX1_throughFloat) (cut := []) (by decide) kkX1_throughFloat (coX1_throughFloat l) (Nat.le_of_ble_eq_true rfl) ?_
    intro G hG; refine hG 120 false 0 _ _ _ ?_
    refine And.intro (fun (h0 : (fX1_isFinite a) = 0) => ?_) (fun (h0 : ¬ (fX1_isFinite a) = 0) => ?_)
    · exact And.intro trivial (leafL hk (by unfold fX1_throughFloat; first | (rw [if_pos h0]; done) | (rw [if_pos h0]; rfl)))
    · refine And.intro (fun (h1 : (fX1_isZero a) = 0) => ?_) (fun (h1 : ¬ (fX1_isZero a) = 0) => ?_)
      · refine And.intro (fun (h2 : (fJ9_max_7cf53 (29 : Int32) ((926 : Int32) - (fX1_scale a))) ≤ (53 : Int32)) => ?_) (fun (h2 : ¬ (fJ9_max_7cf53 (29 : Int32) ((926 : Int32) - (fX1_scale a))) ≤ (53 : Int32)) => ?_)
        · refine And.intro (fun (h3 : 0 < (lg_cmp ((fX1_fraction a) &&& ((((1 : Int64) <<< (((fJ9_max_7cf53 (29 : Int32) ((926 : Int32) - (fX1_scale a))) - (1 : Int32)).toInt64 &&& 63)) + ((1 : Int64) <<< (((fJ9_max_7cf53 (29 : Int32) ((926 : Int32) - (fX1_scale a))) - (1 : Int32)).toInt64 &&& 63))) - (1 : Int64))) ((1 : Int64) <<< (((fJ9_max_7cf53 (29 : Int32) ((926 : Int32) - (fX1_scale a))) - (1 : Int32)).toInt64 &&& 63)))) => ?_) (fun (h3 : ¬ 0 < (lg_cmp ((fX1_fraction a) &&& ((((1 : Int64) <<< (((fJ9_max_7cf53 (29 : Int32) ((926 : Int32) - (fX1_scale a))) - (1 : Int32)).toInt64 &&& 63)) + ((1 : Int64) <<< (((fJ9_max_7cf53 (29 : Int32) ((926 : Int32) - (fX1_scale a))) - (1 : Int32)).toInt64 &&& 63))) - (1 : Int64))) ((1 : Int64) <<< (((fJ9_max_7cf53 (29 : Int32) ((926 : Int32) - (fX1_scale a))) - (1 : Int32)).toInt64 &&& 63)))) => ?_)
          · refine And.intro (fun (h4 : ¬ (lg_cmp (((fX1_fraction a) - ((fX1_fraction a) &&& ((((1 : Int64) <<< (((fJ9_max_7cf53 (29 : Int32) ((926 : Int32) - (fX1_scale a))) - (1 : Int32)).toInt64 &&& 63)) + ((1 : Int64) <<< (((fJ9_max_7cf53 (29 : Int32) ((926 : Int32) - (fX1_scale a))) - (1 : Int32)).toInt64 &&& 63))) - (1 : Int64)))) + (((1 : Int64) <<< (((fJ9_max_7cf53 (29 : Int32) ((926 : Int32) - (fX1_scale a))) - (1 : Int32)).toInt64 &&& 63)) + ((1 : Int64) <<< (((fJ9_max_7cf53 (29 : Int32) ((926 : Int32) - (fX1_scale a))) - (1 : Int32)).toInt64 &&& 63)))) (0 : Int64)) = 0) => ?_) (fun h4q => have h4 : (lg_cmp (((fX1_fraction a) - ((fX1_fraction a) &&& ((((1 : Int64) <<< (((fJ9_max_7cf53 (29 : Int32) ((926 : Int32) - (fX1_scale a))) - (1 : Int32)).toInt64 &&& 63)) + ((1 : Int64) <<< (((fJ9_max_7cf53 (29 : Int32) ((926 : Int32) - (fX1_scale a))) - (1 : Int32)).toInt64 &&& 63))) - (1 : Int64)))) + (((1 : Int64) <<< (((fJ9_max_7cf53 (29 : Int32) ((926 : Int32) - (fX1_scale a))) - (1 : Int32)).toInt64 &&& 63)) + ((1 : Int64) <<< (((fJ9_max_7cf53 (29 : Int32) ((926 : Int32) - (fX1_scale a))) - (1 : Int32)).toInt64 &&& 63)))) (0 : Int64)) = 0 := Classical.not_not.mp h4q; ?_)
            · refine And.intro (fun (h5 : (lg_cmp ((((fX1_scale a) - (1 : Int32)).toInt64 <<< ((52 : Int32).toInt64 &&& 63)) + (((fX1_fraction a) - ((fX1_fraction a) &&& ((((1 : Int64) <<< (((fJ9_max_7cf53 (29 : Int32) ((926 : Int32) - (fX1_scale a))) - (1 : Int32)).toInt64 &&& 63)) + ((1 : Int64) <<< (((fJ9_max_7cf53 (29 : Int32) ((926 : Int32) - (fX1_scale a))) - (1 : Int32)).toInt64 &&& 63))) - (1 : Int64)))) + (((1 : Int64) <<< (((fJ9_max_7cf53 (29 : Int32) ((926 : Int32) - (fX1_scale a))) - (1 : Int32)).toInt64 &&& 63)) + ((1 : Int64) <<< (((fJ9_max_7cf53 (29 : Int32) ((926 : Int32) - (fX1_scale a))) - (1 : Int32)).toInt64 &&& 63))))) (5183643171103440896 : Int64)) < 0) => ?_) (fun (h5 : ¬ (lg_cmp ((((fX1_scale a) - (1 : Int32)).toInt64 <<< ((52 : Int32).toInt64 &&& 63)) + (((fX1_fraction a) - ((fX1_fraction a) &&& ((((1 : Int64) <<< (((fJ9_max_7cf53 (29 : Int32) ((926 : Int32) - (fX1_scale a))) - (1 : Int32)).toInt64 &&& 63)) + ((1 : Int64) <<< (((fJ9_max_7cf53 (29 : Int32) ((926 : Int32) - (fX1_scale a))) - (1 : Int32)).toInt64 &&& 63))) - (1 : Int64)))) + (((1 : Int64) <<< (((fJ9_max_7cf53 (29 : Int32) ((926 : Int32) - (fX1_scale a))) - (1 : Int32)).toInt64 &&& 63)) + ((1 : Int64) <<< (((fJ9_max_7cf53 (29 : Int32) ((926 : Int32) - (fX1_scale a))) - (1 : Int32)).toInt64 &&& 63))))) (5183643171103440896 : Int64)) < 0) => ?_)
              · exact And.intro trivial (leafL hk (by unfold fX1_throughFloat; first | (rw [if_neg h0, if_pos h1, if_pos h2, if_pos h3, if_neg h4, if_pos h5]; done) | (rw [if_neg h0, if_pos h1, if_pos h2, if_pos h3, if_neg h4, if_pos h5]; rfl)))
              · exact And.intro trivial (leafL hk (by unfold fX1_throughFloat; first | (rw [if_neg h0, if_pos h1, if_pos h2, if_pos h3, if_neg h4, if_neg h5]; done) | (rw [if_neg h0, if_pos h1, if_pos h2, if_pos h3, if_neg h4, if_neg h5]; rfl)))
            · exact And.intro trivial (leafL hk (by unfold fX1_throughFloat; first | (rw [if_neg h0, if_pos h1, if_pos h2, if_pos h3, if_pos h4]; done) | (rw [if_neg h0, if_pos h1, if_pos h2, if_pos h3, if_pos h4]; rfl)))
          · refine And.intro (fun (h4 : ¬ (lg_cmp ((fX1_fraction a) &&& ((((1 : Int64) <<< (((fJ9_max_7cf53 (29 : Int32) ((926 : Int32) - (fX1_scale a))) - (1 : Int32)).toInt64 &&& 63)) + ((1 : Int64) <<< (((fJ9_max_7cf53 (29 : Int32) ((926 : Int32) - (fX1_scale a))) - (1 : Int32)).toInt64 &&& 63))) - (1 : Int64))) ((1 : Int64) <<< (((fJ9_max_7cf53 (29 : Int32) ((926 : Int32) - (fX1_scale a))) - (1 : Int32)).toInt64 &&& 63))) = 0) => ?_) (fun h4q => have h4 : (lg_cmp ((fX1_fraction a) &&& ((((1 : Int64) <<< (((fJ9_max_7cf53 (29 : Int32) ((926 : Int32) - (fX1_scale a))) - (1 : Int32)).toInt64 &&& 63)) + ((1 : Int64) <<< (((fJ9_max_7cf53 (29 : Int32) ((926 : Int32) - (fX1_scale a))) - (1 : Int32)).toInt64 &&& 63))) - (1 : Int64))) ((1 : Int64) <<< (((fJ9_max_7cf53 (29 : Int32) ((926 : Int32) - (fX1_scale a))) - (1 : Int32)).toInt64 &&& 63))) = 0 := Classical.not_not.mp h4q; ?_)
            · refine And.intro (fun (h5 : ¬ (lg_cmp ((fX1_fraction a) - ((fX1_fraction a) &&& ((((1 : Int64) <<< (((fJ9_max_7cf53 (29 : Int32) ((926 : Int32) - (fX1_scale a))) - (1 : Int32)).toInt64 &&& 63)) + ((1 : Int64) <<< (((fJ9_max_7cf53 (29 : Int32) ((926 : Int32) - (fX1_scale a))) - (1 : Int32)).toInt64 &&& 63))) - (1 : Int64)))) (0 : Int64)) = 0) => ?_) (fun h5q => have h5 : (lg_cmp ((fX1_fraction a) - ((fX1_fraction a) &&& ((((1 : Int64) <<< (((fJ9_max_7cf53 (29 : Int32) ((926 : Int32) - (fX1_scale a))) - (1 : Int32)).toInt64 &&& 63)) + ((1 : Int64) <<< (((fJ9_max_7cf53 (29 : Int32) ((926 : Int32) - (fX1_scale a))) - (1 : Int32)).toInt64 &&& 63))) - (1 : Int64)))) (0 : Int64)) = 0 := Classical.not_not.mp h5q; ?_)
              · refine And.intro (fun (h6 : (lg_cmp ((((fX1_scale a) - (1 : Int32)).toInt64 <<< ((52 : Int32).toInt64 &&& 63)) + ((fX1_fraction a) - ((fX1_fraction a) &&& ((((1 : Int64) <<< (((fJ9_max_7cf53 (29 : Int32) ((926 : Int32) - (fX1_scale a))) - (1 : Int32)).toInt64 &&& 63)) + ((1 : Int64) <<< (((fJ9_max_7cf53 (29 : Int32) ((926 : Int32) - (fX1_scale a))) - (1 : Int32)).toInt64 &&& 63))) - (1 : Int64))))) (5183643171103440896 : Int64)) < 0) => ?_) (fun (h6 : ¬ (lg_cmp ((((fX1_scale a) - (1 : Int32)).toInt64 <<< ((52 : Int32).toInt64 &&& 63)) + ((fX1_fraction a) - ((fX1_fraction a) &&& ((((1 : Int64) <<< (((fJ9_max_7cf53 (29 : Int32) ((926 : Int32) - (fX1_scale a))) - (1 : Int32)).toInt64 &&& 63)) + ((1 : Int64) <<< (((fJ9_max_7cf53 (29 : Int32) ((926 : Int32) - (fX1_scale a))) - (1 : Int32)).toInt64 &&& 63))) - (1 : Int64))))) (5183643171103440896 : Int64)) < 0) => ?_)
                · exact And.intro trivial (leafL hk (by unfold fX1_throughFloat; first | (rw [if_neg h0, if_pos h1, if_pos h2, if_neg h3, if_neg h4, if_neg h5, if_pos h6]; done) | (rw [if_neg h0, if_pos h1, if_pos h2, if_neg h3, if_neg h4, if_neg h5, if_pos h6]; rfl)))
                · exact And.intro trivial (leafL hk (by unfold fX1_throughFloat; first | (rw [if_neg h0, if_pos h1, if_pos h2, if_neg h3, if_neg h4, if_neg h5, if_neg h6]; done) | (rw [if_neg h0, if_pos h1, if_pos h2, if_neg h3, if_neg h4, if_neg h5, if_neg h6]; rfl)))
              · exact And.intro trivial (leafL hk (by unfold fX1_throughFloat; first | (rw [if_neg h0, if_pos h1, if_pos h2, if_neg h3, if_neg h4, if_pos h5]; done) | (rw [if_neg h0, if_pos h1, if_pos h2, if_neg h3, if_neg h4, if_pos h5]; rfl)))
            · refine And.intro (fun (h5 : (lg_cmp (((fX1_fraction a).toUInt64 >>> ((fJ9_max_7cf53 (29 : Int32) ((926 : Int32) - (fX1_scale a))).toInt64.toUInt64 &&& Int64.toUInt64 63)).toInt64 &&& (1 : Int64)) (0 : Int64)) = 0) => ?_) (fun (h5 : ¬ (lg_cmp (((fX1_fraction a).toUInt64 >>> ((fJ9_max_7cf53 (29 : Int32) ((926 : Int32) - (fX1_scale a))).toInt64.toUInt64 &&& Int64.toUInt64 63)).toInt64 &&& (1 : Int64)) (0 : Int64)) = 0) => ?_)
              · refine And.intro (fun (h6 : ¬ (lg_cmp ((fX1_fraction a) - ((fX1_fraction a) &&& ((((1 : Int64) <<< (((fJ9_max_7cf53 (29 : Int32) ((926 : Int32) - (fX1_scale a))) - (1 : Int32)).toInt64 &&& 63)) + ((1 : Int64) <<< (((fJ9_max_7cf53 (29 : Int32) ((926 : Int32) - (fX1_scale a))) - (1 : Int32)).toInt64 &&& 63))) - (1 : Int64)))) (0 : Int64)) = 0) => ?_) (fun h6q => have h6 : (lg_cmp ((fX1_fraction a) - ((fX1_fraction a) &&& ((((1 : Int64) <<< (((fJ9_max_7cf53 (29 : Int32) ((926 : Int32) - (fX1_scale a))) - (1 : Int32)).toInt64 &&& 63)) + ((1 : Int64) <<< (((fJ9_max_7cf53 (29 : Int32) ((926 : Int32) - (fX1_scale a))) - (1 : Int32)).toInt64 &&& 63))) - (1 : Int64)))) (0 : Int64)) = 0 := Classical.not_not.mp h6q; ?_)
                · refine And.intro (fun (h7 : (lg_cmp ((((fX1_scale a) - (1 : Int32)).toInt64 <<< ((52 : Int32).toInt64 &&& 63)) + ((fX1_fraction a) - ((fX1_fraction a) &&& ((((1 : Int64) <<< (((fJ9_max_7cf53 (29 : Int32) ((926 : Int32) - (fX1_scale a))) - (1 : Int32)).toInt64 &&& 63)) + ((1 : Int64) <<< (((fJ9_max_7cf53 (29 : Int32) ((926 : Int32) - (fX1_scale a))) - (1 : Int32)).toInt64 &&& 63))) - (1 : Int64))))) (5183643171103440896 : Int64)) < 0) => ?_) (fun (h7 : ¬ (lg_cmp ((((fX1_scale a) - (1 : Int32)).toInt64 <<< ((52 : Int32).toInt64 &&& 63)) + ((fX1_fraction a) - ((fX1_fraction a) &&& ((((1 : Int64) <<< (((fJ9_max_7cf53 (29 : Int32) ((926 : Int32) - (fX1_scale a))) - (1 : Int32)).toInt64 &&& 63)) + ((1 : Int64) <<< (((fJ9_max_7cf53 (29 : Int32) ((926 : Int32) - (fX1_scale a))) - (1 : Int32)).toInt64 &&& 63))) - (1 : Int64))))) (5183643171103440896 : Int64)) < 0) => ?_)
                  · exact And.intro trivial (leafL hk (by unfold fX1_throughFloat; first | (rw [if_neg h0, if_pos h1, if_pos h2, if_neg h3, if_pos h4, if_pos h5, if_neg h6, if_pos h7]; done) | (rw [if_neg h0, if_pos h1, if_pos h2, if_neg h3, if_pos h4, if_pos h5, if_neg h6, if_pos h7]; rfl)))
                  · exact And.intro trivial (leafL hk (by unfold fX1_throughFloat; first | (rw [if_neg h0, if_pos h1, if_pos h2, if_neg h3, if_pos h4, if_pos h5, if_neg h6, if_neg h7]; done) | (rw [if_neg h0, if_pos h1, if_pos h2, if_neg h3, if_pos h4, if_pos h5, if_neg h6, if_neg h7]; rfl)))
                · exact And.intro trivial (leafL hk (by unfold fX1_throughFloat; first | (rw [if_neg h0, if_pos h1, if_pos h2, if_neg h3, if_pos h4, if_pos h5, if_pos h6]; done) | (rw [if_neg h0, if_pos h1, if_pos h2, if_neg h3, if_pos h4, if_pos h5, if_pos h6]; rfl)))
              · refine And.intro (fun (h6 : ¬ (lg_cmp (((fX1_fraction a) - ((fX1_fraction a) &&& ((((1 : Int64) <<< (((fJ9_max_7cf53 (29 : Int32) ((926 : Int32) - (fX1_scale a))) - (1 : Int32)).toInt64 &&& 63)) + ((1 : Int64) <<< (((fJ9_max_7cf53 (29 : Int32) ((926 : Int32) - (fX1_scale a))) - (1 : Int32)).toInt64 &&& 63))) - (1 : Int64)))) + (((1 : Int64) <<< (((fJ9_max_7cf53 (29 : Int32) ((926 : Int32) - (fX1_scale a))) - (1 : Int32)).toInt64 &&& 63)) + ((1 : Int64) <<< (((fJ9_max_7cf53 (29 : Int32) ((926 : Int32) - (fX1_scale a))) - (1 : Int32)).toInt64 &&& 63)))) (0 : Int64)) = 0) => ?_) (fun h6q => have h6 : (lg_cmp (((fX1_fraction a) - ((fX1_fraction a) &&& ((((1 : Int64) <<< (((fJ9_max_7cf53 (29 : Int32) ((926 : Int32) - (fX1_scale a))) - (1 : Int32)).toInt64 &&& 63)) + ((1 : Int64) <<< (((fJ9_max_7cf53 (29 : Int32) ((926 : Int32) - (fX1_scale a))) - (1 : Int32)).toInt64 &&& 63))) - (1 : Int64)))) + (((1 : Int64) <<< (((fJ9_max_7cf53 (29 : Int32) ((926 : Int32) - (fX1_scale a))) - (1 : Int32)).toInt64 &&& 63)) + ((1 : Int64) <<< (((fJ9_max_7cf53 (29 : Int32) ((926 : Int32) - (fX1_scale a))) - (1 : Int32)).toInt64 &&& 63)))) (0 : Int64)) = 0 := Classical.not_not.mp h6q; ?_)
                · refine And.intro (fun (h7 : (lg_cmp ((((fX1_scale a) - (1 : Int32)).toInt64 <<< ((52 : Int32).toInt64 &&& 63)) + (((fX1_fraction a) - ((fX1_fraction a) &&& ((((1 : Int64) <<< (((fJ9_max_7cf53 (29 : Int32) ((926 : Int32) - (fX1_scale a))) - (1 : Int32)).toInt64 &&& 63)) + ((1 : Int64) <<< (((fJ9_max_7cf53 (29 : Int32) ((926 : Int32) - (fX1_scale a))) - (1 : Int32)).toInt64 &&& 63))) - (1 : Int64)))) + (((1 : Int64) <<< (((fJ9_max_7cf53 (29 : Int32) ((926 : Int32) - (fX1_scale a))) - (1 : Int32)).toInt64 &&& 63)) + ((1 : Int64) <<< (((fJ9_max_7cf53 (29 : Int32) ((926 : Int32) - (fX1_scale a))) - (1 : Int32)).toInt64 &&& 63))))) (5183643171103440896 : Int64)) < 0) => ?_) (fun (h7 : ¬ (lg_cmp ((((fX1_scale a) - (1 : Int32)).toInt64 <<< ((52 : Int32).toInt64 &&& 63)) + (((fX1_fraction a) - ((fX1_fraction a) &&& ((((1 : Int64) <<< (((fJ9_max_7cf53 (29 : Int32) ((926 : Int32) - (fX1_scale a))) - (1 : Int32)).toInt64 &&& 63)) + ((1 : Int64) <<< (((fJ9_max_7cf53 (29 : Int32) ((926 : Int32) - (fX1_scale a))) - (1 : Int32)).toInt64 &&& 63))) - (1 : Int64)))) + (((1 : Int64) <<< (((fJ9_max_7cf53 (29 : Int32) ((926 : Int32) - (fX1_scale a))) - (1 : Int32)).toInt64 &&& 63)) + ((1 : Int64) <<< (((fJ9_max_7cf53 (29 : Int32) ((926 : Int32) - (fX1_scale a))) - (1 : Int32)).toInt64 &&& 63))))) (5183643171103440896 : Int64)) < 0) => ?_)
                  · exact And.intro trivial (leafL hk (by unfold fX1_throughFloat; first | (rw [if_neg h0, if_pos h1, if_pos h2, if_neg h3, if_pos h4, if_neg h5, if_neg h6, if_pos h7]; done) | (rw [if_neg h0, if_pos h1, if_pos h2, if_neg h3, if_pos h4, if_neg h5, if_neg h6, if_pos h7]; rfl)))
                  · exact And.intro trivial (leafL hk (by unfold fX1_throughFloat; first | (rw [if_neg h0, if_pos h1, if_pos h2, if_neg h3, if_pos h4, if_neg h5, if_neg h6, if_neg h7]; done) | (rw [if_neg h0, if_pos h1, if_pos h2, if_neg h3, if_pos h4, if_neg h5, if_neg h6, if_neg h7]; rfl)))
                · exact And.intro trivial (leafL hk (by unfold fX1_throughFloat; first | (rw [if_neg h0, if_pos h1, if_pos h2, if_neg h3, if_pos h4, if_neg h5, if_pos h6]; done) | (rw [if_neg h0, if_pos h1, if_pos h2, if_neg h3, if_pos h4, if_neg h5, if_pos h6]; rfl)))
        · exact And.intro trivial (leafL hk (by unfold fX1_throughFloat; first | (rw [if_neg h0, if_pos h1, if_neg h2]; done) | (rw [if_neg h0, if_pos h1, if_neg h2]; rfl)))
      · exact And.intro trivial (leafL hk (by unfold fX1_throughFloat; first | (rw [if_neg h0, if_neg h1]; done) | (rw [if_neg h0, if_neg h1]; rfl)))
  · exact h.elim
def fX1_cut (a : Int64) (b : Int64) (c : Int64) : Int64 :=
  if (fX1_isNone a) = 0 then
    if (1023 : Int32) ≤ (fX1_scale a) then
      if (fX1_isBelow a c) = 0 then
        c
      else
        if (fX1_isBelow b a) = 0 then
          b
        else
          if (fX1_scale a) < (1075 : Int32) then
            (a &&& ((fX1_behindPoint (fX1_scale a)) ^^^ (-1 : Int64)))
          else
            a
    else
      (0 : Int64)
  else
    (0 : Int64)
def tX1_cut : Tr := fun as σ k => match as with
  | [.long a, .long b, .long c] => k (some (.long (fX1_cut a b c))) σ
  | _ => False
def ceX1_cut : List (Nat × Nat × Tr) := (2 * 7, 1, tX1_isNone) :: (2 * 72, 1, tX1_scale) :: (2 * 30, 2, tX1_isBelow) :: (2 * 99, 1, tX1_behindPoint) :: []
theorem coX1_cut (l : Launch) : CEok l yX1_cut.cls 2 ceX1_cut := ce_S (okX1_isNone l) (mw 136 (by decide +kernel) rfl) (mw 137 (by decide +kernel) rfl) (mw 5 (by decide +kernel) rfl) (mw 138 (by decide +kernel) rfl) (by decide) ⟨by decide, by decide⟩ (ce_S (okX1_scale l) (mw 229 (by decide +kernel) rfl) (mw 230 (by decide +kernel) rfl) (mw 5 (by decide +kernel) rfl) (mw 231 (by decide +kernel) rfl) (by decide) ⟨by decide, by decide⟩ (ce_S (okX1_isBelow l) (mw 317 (by decide +kernel) rfl) (mw 134 (by decide +kernel) rfl) (mw 5 (by decide +kernel) rfl) (mw 135 (by decide +kernel) rfl) (by decide) ⟨by decide, by decide⟩ (ce_S (okX1_behindPoint l) (mw 332 (by decide +kernel) rfl) (mw 333 (by decide +kernel) rfl) (mw 5 (by decide +kernel) rfl) (mw 334 (by decide +kernel) rfl) (by decide) ⟨by decide, by decide⟩ (ce_0))))
set_option maxRecDepth 20000 in
theorem okX1_cut (l : Launch) : OK l yX1_cut cX1_cut 6 (some .long) 2 tX1_cut := by
  intro D τ ρ A as σ post h
  unfold tX1_cut at h; split at h
  · rename_i a b c; have hk := h
    refine met_of (P := pgX1_cut) (CE := ceX1_cut) (cut := []) (by decide) kkX1_cut (coX1_cut l) (Nat.le_of_ble_eq_true rfl) ?_
    intro G hG; refine hG 120 false 0 _ _ _ ?_
    refine And.intro (fun (h0 : ¬ (fX1_isNone a) = 0) => ?_) (fun h0q => have h0 : (fX1_isNone a) = 0 := Classical.not_not.mp h0q; ?_)
    · exact And.intro trivial (leafL hk (by unfold fX1_cut; first | (rw [if_neg h0]; done) | (rw [if_neg h0]; rfl)))
    · refine And.intro (fun (h1 : (1023 : Int32) ≤ (fX1_scale a)) => ?_) (fun (h1 : ¬ (1023 : Int32) ≤ (fX1_scale a)) => ?_)
      · refine And.intro (fun (h2 : ¬ (fX1_isBelow a c) = 0) => ?_) (fun h2q => have h2 : (fX1_isBelow a c) = 0 := Classical.not_not.mp h2q; ?_)
        · refine And.intro (fun (h3 : ¬ (fX1_isBelow b a) = 0) => ?_) (fun h3q => have h3 : (fX1_isBelow b a) = 0 := Classical.not_not.mp h3q; ?_)
          · refine And.intro (fun (h4 : (fX1_scale a) < (1075 : Int32)) => ?_) (fun (h4 : ¬ (fX1_scale a) < (1075 : Int32)) => ?_)
            · exact And.intro trivial (leafL hk (by unfold fX1_cut; first | (rw [if_pos h0, if_pos h1, if_neg h2, if_neg h3, if_pos h4]; done) | (rw [if_pos h0, if_pos h1, if_neg h2, if_neg h3, if_pos h4]; rfl)))
            · exact And.intro trivial (leafL hk (by unfold fX1_cut; first | (rw [if_pos h0, if_pos h1, if_neg h2, if_neg h3, if_neg h4]; done) | (rw [if_pos h0, if_pos h1, if_neg h2, if_neg h3, if_neg h4]; rfl)))
          · exact And.intro trivial (leafL hk (by unfold fX1_cut; first | (rw [if_pos h0, if_pos h1, if_neg h2, if_pos h3]; done) | (rw [if_pos h0, if_pos h1, if_neg h2, if_pos h3]; rfl)))
        · exact And.intro trivial (leafL hk (by unfold fX1_cut; first | (rw [if_pos h0, if_pos h1, if_pos h2]; done) | (rw [if_pos h0, if_pos h1, if_pos h2]; rfl)))
      · exact And.intro trivial (leafL hk (by unfold fX1_cut; first | (rw [if_pos h0, if_neg h1]; done) | (rw [if_pos h0, if_neg h1]; rfl)))
  · exact h.elim
def fX1_lowTimes (a : Int64) (b : Int64) : Int64 :=
  (fX1_zeroIfLess (fX1_down (fX1_times a (fX1_zeroIfLess b))))
def tX1_lowTimes : Tr := fun as σ k => match as with
  | [.long a, .long b] => k (some (.long (fX1_lowTimes a b))) σ
  | _ => False
def ceX1_lowTimes : List (Nat × Nat × Tr) := (2 * 108, 1, tX1_zeroIfLess) :: (2 * 111, 2, tX1_times) :: (2 * 114, 1, tX1_down) :: []
theorem coX1_lowTimes (l : Launch) : CEok l yX1_lowTimes.cls 4 ceX1_lowTimes := ce_S (okX1_zeroIfLess l) (mw 382 (by decide +kernel) rfl) (mw 315 (by decide +kernel) rfl) (mw 5 (by decide +kernel) rfl) (mw 316 (by decide +kernel) rfl) (by decide) ⟨by decide, by decide⟩ (ce_S (okX1_times l) (mw 383 (by decide +kernel) rfl) (mw 270 (by decide +kernel) rfl) (mw 5 (by decide +kernel) rfl) (mw 271 (by decide +kernel) rfl) (by decide) ⟨by decide, by decide⟩ (ce_S (okX1_down l) (mw 384 (by decide +kernel) rfl) (mw 256 (by decide +kernel) rfl) (mw 5 (by decide +kernel) rfl) (mw 257 (by decide +kernel) rfl) (by decide) ⟨by decide, by decide⟩ (ce_0)))
set_option maxRecDepth 20000 in
theorem okX1_lowTimes (l : Launch) : OK l yX1_lowTimes cX1_lowTimes 4 (some .long) 4 tX1_lowTimes := by
  intro D τ ρ A as σ post h
  unfold tX1_lowTimes at h; split at h
  · rename_i a b; have hk := h
    refine met_of (P := pgX1_lowTimes) (CE := ceX1_lowTimes) (cut := []) (by decide) kkX1_lowTimes (coX1_lowTimes l) (Nat.le_of_ble_eq_true rfl) ?_
    intro G hG; refine hG 120 false 0 _ _ _ ?_
    exact And.intro trivial (leafL hk (by unfold fX1_lowTimes; rfl))
  · exact h.elim
def fX1_highTimes (a : Int64) (b : Int64) : Int64 :=
  if (fX1_isNone (fX1_up (fX1_times a (fX1_zeroIfLess b)))) = 0 then
    (fX1_up (fX1_times a (fX1_zeroIfLess b)))
  else
    (9218868437227405312 : Int64)
def tX1_highTimes : Tr := fun as σ k => match as with
  | [.long a, .long b] => k (some (.long (fX1_highTimes a b))) σ
  | _ => False
def ceX1_highTimes : List (Nat × Nat × Tr) := (2 * 108, 1, tX1_zeroIfLess) :: (2 * 111, 2, tX1_times) :: (2 * 42, 1, tX1_up) :: (2 * 7, 1, tX1_isNone) :: []
theorem coX1_highTimes (l : Launch) : CEok l yX1_highTimes.cls 4 ceX1_highTimes := ce_S (okX1_zeroIfLess l) (mw 382 (by decide +kernel) rfl) (mw 315 (by decide +kernel) rfl) (mw 5 (by decide +kernel) rfl) (mw 316 (by decide +kernel) rfl) (by decide) ⟨by decide, by decide⟩ (ce_S (okX1_times l) (mw 383 (by decide +kernel) rfl) (mw 270 (by decide +kernel) rfl) (mw 5 (by decide +kernel) rfl) (mw 271 (by decide +kernel) rfl) (by decide) ⟨by decide, by decide⟩ (ce_S (okX1_up l) (mw 261 (by decide +kernel) rfl) (mw 262 (by decide +kernel) rfl) (mw 5 (by decide +kernel) rfl) (mw 263 (by decide +kernel) rfl) (by decide) ⟨by decide, by decide⟩ (ce_S (okX1_isNone l) (mw 136 (by decide +kernel) rfl) (mw 137 (by decide +kernel) rfl) (mw 5 (by decide +kernel) rfl) (mw 138 (by decide +kernel) rfl) (by decide) ⟨by decide, by decide⟩ (ce_0))))
set_option maxRecDepth 20000 in
theorem okX1_highTimes (l : Launch) : OK l yX1_highTimes cX1_highTimes 6 (some .long) 4 tX1_highTimes := by
  intro D τ ρ A as σ post h
  unfold tX1_highTimes at h; split at h
  · rename_i a b; have hk := h
    refine met_of (P := pgX1_highTimes) (CE := ceX1_highTimes) (cut := []) (by decide) kkX1_highTimes (coX1_highTimes l) (Nat.le_of_ble_eq_true rfl) ?_
    intro G hG; refine hG 120 false 0 _ _ _ ?_
    refine And.intro (fun (h0 : (fX1_isNone (fX1_up (fX1_times a (fX1_zeroIfLess b)))) = 0) => ?_) (fun (h0 : ¬ (fX1_isNone (fX1_up (fX1_times a (fX1_zeroIfLess b)))) = 0) => ?_)
    · exact And.intro trivial (leafL hk (by unfold fX1_highTimes; first | (rw [if_pos h0]; done) | (rw [if_pos h0]; rfl)))
    · exact And.intro trivial (leafL hk (by unfold fX1_highTimes; first | (rw [if_neg h0]; done) | (rw [if_neg h0]; rfl)))
  · exact h.elim
end
section
/-- seven digits of a quotient: found, rest -/
def qLoop (n : Int64) : Nat → Int64 × Int64 → Int64 × Int64
  | 0, s => s
  | k + 1, s => qLoop n k ((s.1 <<< ((8 : Int32).toInt64 &&& 63)) ||| ((s.2 <<< ((8 : Int32).toInt64 &&& 63)) / n), (s.2 <<< ((8 : Int32).toInt64 &&& 63)) - (s.2 <<< ((8 : Int32).toInt64 &&& 63)) / n * n)
def qFin (s : Int64 × Int64) : Int64 := if lg_cmp s.2 0 = 0 then s.1 else s.1 ||| 1
def fX1_quotient (a b : Int64) : Int64 := if 0 < lg_cmp b 0 then qFin (qLoop b 7 (a / b, a - a / b * b)) else 0
def tX1_quotient : Tr := fun as σ k => match as with
  | [.long a, .long b] => k (some (.long (fX1_quotient a b))) σ
  | _ => False
set_option maxRecDepth 20000 in
theorem okX1_quotient (l : Launch) : OK l yX1_quotient cX1_quotient 10 (some .long) 0 tX1_quotient := by
  intro D τ ρ A as σ post h
  unfold tX1_quotient at h; split at h
  · rename_i a b; have hk := h
    refine met_of (P := pgX1_quotient) (CE := []) (cut := [(25, [0, 2, 4, 5, 7, 9])]) (by decide) kkX1_quotient ce_0 (Nat.le_of_ble_eq_true rfl) ?_
    intro G hG
    refine hG 120 false 0 _ _ _ ?_
    refine And.intro (fun (h0 : 0 < lg_cmp b 0) => ?_) (fun (h0 : ¬ 0 < lg_cmp b 0) => ?_)
    · have hb : ¬ b = 0 := fun e => by rw [e] at h0; exact absurd h0 (by decide)
      rw [fX1_quotient, if_pos h0] at hk
      have loop : ∀ (k j : Nat) (i : Int32) (fd rs : Int64), i = nI j → j + k = 7 → post (some (.long (qFin (qLoop b k (fd, rs))))) σ → G 25 [(0, .long a), (2, .long b), (4, .int 8), (5, .long fd), (7, .long rs), (9, .int i)] [] σ := by
        intro k
        induction k with
        | zero =>
          intro j i fd rs hi hj hp
          have : j = 7 := by omega
          subst this; subst hi
          refine hG 120 false 25 _ _ _ ?_
          refine And.intro (fun _ => ?_) (fun h => absurd (show (7 : Int32) ≤ nI 7 by decide) h)
          refine And.intro (fun (h1 : ¬ lg_cmp rs 0 = 0) => ?_) (fun h1q => have h1 : lg_cmp rs 0 = 0 := Classical.not_not.mp h1q; ?_)
          · exact And.intro trivial (leafL hp (by unfold qFin qLoop; rw [if_neg h1]))
          · exact And.intro trivial (leafL hp (by unfold qFin qLoop; rw [if_pos h1]))
        | succ k ih =>
          intro j i fd rs hi hj hp
          subst hi
          refine hG 120 false 25 _ _ _ ?_
          refine And.intro (fun h => absurd (show nI 7 ≤ nI j from h) (nI_ge (a := j) (b := 7) (by omega) (by omega))) (fun _ => ?_)
          refine And.intro hb (And.intro hb ?_)
          exact ih (j + 1) _ _ _ (nI_1 j) (by omega) hp
      refine And.intro hb (And.intro hb ?_)
      exact loop 7 0 _ _ _ rfl rfl hk
    · exact And.intro trivial (leafL hk (by unfold fX1_quotient; rw [if_neg h0]))
  · exact h.elim
/-- a digit of a root: found, rest -/
def wrStep (m : Int64) (sh : Int32) (s : Int64 × Int64) : Int64 × Int64 :=
  if lg_cmp ((s.2 <<< ((2 : Int32).toInt64 &&& 63)) ||| (if sh < 0 then 0 else (m.toUInt64 >>> (sh.toInt64.toUInt64 &&& Int64.toUInt64 63)).toInt64 &&& 3)) ((s.1 <<< ((2 : Int32).toInt64 &&& 63)) ||| 1) < 0
  then (s.1 <<< ((1 : Int32).toInt64 &&& 63), (s.2 <<< ((2 : Int32).toInt64 &&& 63)) ||| (if sh < 0 then 0 else (m.toUInt64 >>> (sh.toInt64.toUInt64 &&& Int64.toUInt64 63)).toInt64 &&& 3))
  else ((s.1 <<< ((1 : Int32).toInt64 &&& 63)) ||| 1, ((s.2 <<< ((2 : Int32).toInt64 &&& 63)) ||| (if sh < 0 then 0 else (m.toUInt64 >>> (sh.toInt64.toUInt64 &&& Int64.toUInt64 63)).toInt64 &&& 3)) - ((s.1 <<< ((2 : Int32).toInt64 &&& 63)) ||| 1))
def wrLoop (m : Int64) : Nat → Int32 → Int64 × Int64 → Int64 × Int64
  | 0, _, s => s
  | k + 1, sh, s => wrLoop m k (sh + (-2)) (wrStep m sh s)
def fX1_wholeRoot (a : Int64) : Int64 := qFin (wrLoop a 56 52 (0, 0))
def tX1_wholeRoot : Tr := fun as σ k => match as with
  | [.long a] => k (some (.long (fX1_wholeRoot a))) σ
  | _ => False
theorem i32_m2 {x : Int32} (h : -1000 < x.toInt ∧ x.toInt < 1000) : (x + (-2)).toInt = x.toInt - 2 := by
  rw [Int32.toInt_add, show ((-2 : Int32)).toInt = -2 from rfl, Int.bmod_eq_of_le] <;> omega
set_option maxRecDepth 20000 in
theorem okX1_wholeRoot (l : Launch) : OK l yX1_wholeRoot cX1_wholeRoot 11 (some .long) 0 tX1_wholeRoot := by
  intro D τ ρ A as σ post h
  unfold tX1_wholeRoot at h; split at h
  · rename_i a; have hk := h
    refine met_of (P := pgX1_wholeRoot) (CE := []) (cut := [(9, [0, 2, 4, 6])]) (by decide) kkX1_wholeRoot ce_0 (Nat.le_of_ble_eq_true rfl) ?_
    intro G hG
    have loop : ∀ (k : Nat) (sh : Int32) (fd rs : Int64), sh.toInt = 2 * (k : Int) - 60 → k ≤ 56 → post (some (.long (qFin (wrLoop a k sh (fd, rs))))) σ → G 9 [(0, .long a), (2, .long fd), (4, .long rs), (6, .int sh)] [] σ := by
      intro k
      induction k with
      | zero =>
        intro sh fd rs hs _ hp
        refine hG 120 false 9 _ _ _ ?_
        refine And.intro (fun _ => ?_) (fun h => absurd (show sh < (-58 : Int32) by rw [Int32.lt_iff_toInt_lt, hs]; decide) h)
        refine And.intro (fun (h1 : ¬ lg_cmp rs 0 = 0) => ?_) (fun h1q => have h1 : lg_cmp rs 0 = 0 := Classical.not_not.mp h1q; ?_)
        · exact And.intro trivial (leafL hp (by unfold qFin wrLoop; rw [if_neg h1]))
        · exact And.intro trivial (leafL hp (by unfold qFin wrLoop; rw [if_pos h1]))
      | succ k ih =>
        intro sh fd rs hs hk56 hp
        have hn : ¬ sh < (-58 : Int32) := by rw [Int32.lt_iff_toInt_lt, hs, show ((-58 : Int32)).toInt = -58 from rfl]; omega
        have hs2 : (sh + (-2)).toInt = 2 * (k : Int) - 60 := by rw [i32_m2 (by omega), hs]; omega
        refine hG 120 false 9 _ _ _ ?_
        refine And.intro (fun h => absurd h hn) (fun _ => ?_)
        rw [wrLoop] at hp
        refine And.intro (fun (h0 : sh < 0) => ?_) (fun (h0 : ¬ sh < 0) => ?_)
        · refine And.intro (fun (h1 : lg_cmp ((rs <<< ((2 : Int32).toInt64 &&& 63)) ||| 0) ((fd <<< ((2 : Int32).toInt64 &&& 63)) ||| 1) < 0) => ?_) (fun h1 => ?_)
          · have e : wrStep a sh (fd, rs) = (fd <<< ((1 : Int32).toInt64 &&& 63), (rs <<< ((2 : Int32).toInt64 &&& 63)) ||| 0) := by simp only [wrStep, if_pos h0]; rw [if_pos h1]
            rw [e] at hp
            exact ih _ _ _ hs2 (by omega) hp
          · have h1 : ¬ lg_cmp ((rs <<< ((2 : Int32).toInt64 &&& 63)) ||| 0) ((fd <<< ((2 : Int32).toInt64 &&& 63)) ||| 1) < 0 := h1
            have e : wrStep a sh (fd, rs) = ((fd <<< ((1 : Int32).toInt64 &&& 63)) ||| 1, ((rs <<< ((2 : Int32).toInt64 &&& 63)) ||| 0) - ((fd <<< ((2 : Int32).toInt64 &&& 63)) ||| 1)) := by simp only [wrStep, if_pos h0]; rw [if_neg h1]
            rw [e] at hp
            exact ih _ _ _ hs2 (by omega) hp
        · refine And.intro (fun h1 => ?_) (fun h1 => ?_)
          · have h1 : lg_cmp ((rs <<< ((2 : Int32).toInt64 &&& 63)) ||| ((a.toUInt64 >>> (sh.toInt64.toUInt64 &&& Int64.toUInt64 63)).toInt64 &&& 3)) ((fd <<< ((2 : Int32).toInt64 &&& 63)) ||| 1) < 0 := h1
            have e : wrStep a sh (fd, rs) = (fd <<< ((1 : Int32).toInt64 &&& 63), (rs <<< ((2 : Int32).toInt64 &&& 63)) ||| ((a.toUInt64 >>> (sh.toInt64.toUInt64 &&& Int64.toUInt64 63)).toInt64 &&& 3)) := by simp only [wrStep, if_neg h0]; rw [if_pos h1]
            rw [e] at hp
            exact ih _ _ _ hs2 (by omega) hp
          · have h1 : ¬ lg_cmp ((rs <<< ((2 : Int32).toInt64 &&& 63)) ||| ((a.toUInt64 >>> (sh.toInt64.toUInt64 &&& Int64.toUInt64 63)).toInt64 &&& 3)) ((fd <<< ((2 : Int32).toInt64 &&& 63)) ||| 1) < 0 := h1
            have e : wrStep a sh (fd, rs) = ((fd <<< ((1 : Int32).toInt64 &&& 63)) ||| 1, ((rs <<< ((2 : Int32).toInt64 &&& 63)) ||| ((a.toUInt64 >>> (sh.toInt64.toUInt64 &&& Int64.toUInt64 63)).toInt64 &&& 3)) - ((fd <<< ((2 : Int32).toInt64 &&& 63)) ||| 1)) := by simp only [wrStep, if_neg h0]; rw [if_neg h1]
            rw [e] at hp
            exact ih _ _ _ hs2 (by omega) hp
    refine hG 120 false 0 _ _ _ ?_
    exact loop 56 52 _ _ (by decide) (by omega) hk
  · exact h.elim
end
section
def fX1_over (a : Int64) (b : Int64) : Int64 :=
  if (fX1_isNone a) = 0 then
    if (fX1_isNone b) = 0 then
      if (fX1_isInfinite a) = 0 then
        if (fX1_isZero b) = 0 then
          if (fX1_isZero a) = 0 then
            if (fX1_isInfinite b) = 0 then
              (fX1_packed ((a ^^^ b) &&& (-9223372036854775808 : Int64)) (((((fX1_scale a) - (fX1_lack (fX1_fraction a))) - ((fX1_scale b) - (fX1_lack (fX1_fraction b)))) + (1023 : Int32)) - (1 : Int32)) (fX1_quotient ((fX1_fraction a) <<< ((fX1_lack (fX1_fraction a)).toInt64 &&& 63)) ((fX1_fraction b) <<< ((fX1_lack (fX1_fraction b)).toInt64 &&& 63))))
            else
              ((a ^^^ b) &&& (-9223372036854775808 : Int64))
          else
            ((a ^^^ b) &&& (-9223372036854775808 : Int64))
        else
          if (fX1_isZero a) = 0 then
            (((a ^^^ b) &&& (-9223372036854775808 : Int64)) ||| (9218868437227405312 : Int64))
          else
            (9221120237041090560 : Int64)
      else
        if (fX1_isInfinite b) = 0 then
          (((a ^^^ b) &&& (-9223372036854775808 : Int64)) ||| (9218868437227405312 : Int64))
        else
          (9221120237041090560 : Int64)
    else
      (9221120237041090560 : Int64)
  else
    (9221120237041090560 : Int64)
def tX1_over : Tr := fun as σ k => match as with
  | [.long a, .long b] => k (some (.long (fX1_over a b))) σ
  | _ => False
def ceX1_over : List (Nat × Nat × Tr) := (2 * 7, 1, tX1_isNone) :: (2 * 69, 1, tX1_isInfinite) :: (2 * 36, 1, tX1_isZero) :: (2 * 75, 1, tX1_fraction) :: (2 * 82, 1, tX1_lack) :: (2 * 89, 2, tX1_quotient) :: (2 * 72, 1, tX1_scale) :: (2 * 78, 3, tX1_packed) :: []
theorem coX1_over (l : Launch) : CEok l yX1_over.cls 3 ceX1_over := ce_S (okX1_isNone l) (mw 136 (by decide +kernel) rfl) (mw 137 (by decide +kernel) rfl) (mw 5 (by decide +kernel) rfl) (mw 138 (by decide +kernel) rfl) (by decide) ⟨by decide, by decide⟩ (ce_S (okX1_isInfinite l) (mw 226 (by decide +kernel) rfl) (mw 227 (by decide +kernel) rfl) (mw 5 (by decide +kernel) rfl) (mw 228 (by decide +kernel) rfl) (by decide) ⟨by decide, by decide⟩ (ce_S (okX1_isZero l) (mw 264 (by decide +kernel) rfl) (mw 265 (by decide +kernel) rfl) (mw 5 (by decide +kernel) rfl) (mw 266 (by decide +kernel) rfl) (by decide) ⟨by decide, by decide⟩ (ce_S (okX1_fraction l) (mw 232 (by decide +kernel) rfl) (mw 233 (by decide +kernel) rfl) (mw 5 (by decide +kernel) rfl) (mw 234 (by decide +kernel) rfl) (by decide) ⟨by decide, by decide⟩ (ce_S (okX1_lack l) (mw 272 (by decide +kernel) rfl) (mw 273 (by decide +kernel) rfl) (mw 5 (by decide +kernel) rfl) (mw 274 (by decide +kernel) rfl) (by decide) ⟨by decide, by decide⟩ (ce_S (okX1_quotient l) (mw 296 (by decide +kernel) rfl) (mw 297 (by decide +kernel) rfl) (mw 5 (by decide +kernel) rfl) (mw 298 (by decide +kernel) rfl) (by decide) ⟨by decide, by decide⟩ (ce_S (okX1_scale l) (mw 229 (by decide +kernel) rfl) (mw 230 (by decide +kernel) rfl) (mw 5 (by decide +kernel) rfl) (mw 231 (by decide +kernel) rfl) (by decide) ⟨by decide, by decide⟩ (ce_S (okX1_packed l) (mw 240 (by decide +kernel) rfl) (mw 241 (by decide +kernel) rfl) (mw 5 (by decide +kernel) rfl) (mw 242 (by decide +kernel) rfl) (by decide) ⟨by decide, by decide⟩ (ce_0))))))))
set_option maxRecDepth 20000 in
theorem okX1_over (l : Launch) : OK l yX1_over cX1_over 10 (some .long) 3 tX1_over := by
  intro D τ ρ A as σ post h
  unfold tX1_over at h; split at h
  · rename_i a b; have hk := h
    refine met_of (P := pgX1_over) (CE := ceX1_over) (cut := []) (by decide) kkX1_over (coX1_over l) (Nat.le_of_ble_eq_true rfl) ?_
    intro G hG; refine hG 120 false 0 _ _ _ ?_
    refine And.intro (fun (h0 : ¬ (fX1_isNone a) = 0) => ?_) (fun h0q => have h0 : (fX1_isNone a) = 0 := Classical.not_not.mp h0q; ?_)
    · exact And.intro trivial (leafL hk (by unfold fX1_over; first | (rw [if_neg h0]; done) | (rw [if_neg h0]; rfl)))
    · refine And.intro (fun (h1 : (fX1_isNone b) = 0) => ?_) (fun (h1 : ¬ (fX1_isNone b) = 0) => ?_)
      · refine And.intro (fun (h2 : (fX1_isInfinite a) = 0) => ?_) (fun (h2 : ¬ (fX1_isInfinite a) = 0) => ?_)
        · refine And.intro (fun (h3 : (fX1_isZero b) = 0) => ?_) (fun (h3 : ¬ (fX1_isZero b) = 0) => ?_)
          · refine And.intro (fun (h4 : ¬ (fX1_isZero a) = 0) => ?_) (fun h4q => have h4 : (fX1_isZero a) = 0 := Classical.not_not.mp h4q; ?_)
            · exact And.intro trivial (leafL hk (by unfold fX1_over; first | (rw [if_pos h0, if_pos h1, if_pos h2, if_pos h3, if_neg h4]; done) | (rw [if_pos h0, if_pos h1, if_pos h2, if_pos h3, if_neg h4]; rfl)))
            · refine And.intro (fun (h5 : (fX1_isInfinite b) = 0) => ?_) (fun (h5 : ¬ (fX1_isInfinite b) = 0) => ?_)
              · exact And.intro trivial (leafL hk (by unfold fX1_over; first | (rw [if_pos h0, if_pos h1, if_pos h2, if_pos h3, if_pos h4, if_pos h5]; done) | (rw [if_pos h0, if_pos h1, if_pos h2, if_pos h3, if_pos h4, if_pos h5]; rfl)))
              · exact And.intro trivial (leafL hk (by unfold fX1_over; first | (rw [if_pos h0, if_pos h1, if_pos h2, if_pos h3, if_pos h4, if_neg h5]; done) | (rw [if_pos h0, if_pos h1, if_pos h2, if_pos h3, if_pos h4, if_neg h5]; rfl)))
          · refine And.intro (fun (h4 : (fX1_isZero a) = 0) => ?_) (fun (h4 : ¬ (fX1_isZero a) = 0) => ?_)
            · exact And.intro trivial (leafL hk (by unfold fX1_over; first | (rw [if_pos h0, if_pos h1, if_pos h2, if_neg h3, if_pos h4]; done) | (rw [if_pos h0, if_pos h1, if_pos h2, if_neg h3, if_pos h4]; rfl)))
            · exact And.intro trivial (leafL hk (by unfold fX1_over; first | (rw [if_pos h0, if_pos h1, if_pos h2, if_neg h3, if_neg h4]; done) | (rw [if_pos h0, if_pos h1, if_pos h2, if_neg h3, if_neg h4]; rfl)))
        · refine And.intro (fun (h3 : (fX1_isInfinite b) = 0) => ?_) (fun (h3 : ¬ (fX1_isInfinite b) = 0) => ?_)
          · exact And.intro trivial (leafL hk (by unfold fX1_over; first | (rw [if_pos h0, if_pos h1, if_neg h2, if_pos h3]; done) | (rw [if_pos h0, if_pos h1, if_neg h2, if_pos h3]; rfl)))
          · exact And.intro trivial (leafL hk (by unfold fX1_over; first | (rw [if_pos h0, if_pos h1, if_neg h2, if_neg h3]; done) | (rw [if_pos h0, if_pos h1, if_neg h2, if_neg h3]; rfl)))
      · exact And.intro trivial (leafL hk (by unfold fX1_over; first | (rw [if_pos h0, if_neg h1]; done) | (rw [if_pos h0, if_neg h1]; rfl)))
  · exact h.elim
def fX1_root (a : Int64) : Int64 :=
  if (fX1_isNone a) = 0 then
    if (fX1_isZero a) = 0 then
      if (lg_cmp a (9218868437227405312 : Int64)) = 0 then
        a
      else
        if 0 ≤ (lg_cmp a (0 : Int64)) then
          if ((((fX1_scale a) - (fX1_lack (fX1_fraction a))) - (1075 : Int32)) &&& (1 : Int32)) = 0 then
            (fX1_packed (0 : Int64) (((((fX1_scale a) - (fX1_lack (fX1_fraction a))) - (1075 : Int32)) >>> ((1 : Int32) &&& 31)) + (1049 : Int32)) (fX1_wholeRoot ((fX1_fraction a) <<< ((fX1_lack (fX1_fraction a)).toInt64 &&& 63))))
          else
            (fX1_packed (0 : Int64) ((((((fX1_scale a) - (fX1_lack (fX1_fraction a))) - (1075 : Int32)) + (-1 : Int32)) >>> ((1 : Int32) &&& 31)) + (1049 : Int32)) (fX1_wholeRoot (((fX1_fraction a) <<< ((fX1_lack (fX1_fraction a)).toInt64 &&& 63)) <<< ((1 : Int32).toInt64 &&& 63))))
        else
          (9221120237041090560 : Int64)
    else
      a
  else
    a
def tX1_root : Tr := fun as σ k => match as with
  | [.long a] => k (some (.long (fX1_root a))) σ
  | _ => False
def ceX1_root : List (Nat × Nat × Tr) := (2 * 7, 1, tX1_isNone) :: (2 * 36, 1, tX1_isZero) :: (2 * 75, 1, tX1_fraction) :: (2 * 82, 1, tX1_lack) :: (2 * 72, 1, tX1_scale) :: (2 * 92, 1, tX1_wholeRoot) :: (2 * 78, 3, tX1_packed) :: []
theorem coX1_root (l : Launch) : CEok l yX1_root.cls 3 ceX1_root := ce_S (okX1_isNone l) (mw 136 (by decide +kernel) rfl) (mw 137 (by decide +kernel) rfl) (mw 5 (by decide +kernel) rfl) (mw 138 (by decide +kernel) rfl) (by decide) ⟨by decide, by decide⟩ (ce_S (okX1_isZero l) (mw 264 (by decide +kernel) rfl) (mw 265 (by decide +kernel) rfl) (mw 5 (by decide +kernel) rfl) (mw 266 (by decide +kernel) rfl) (by decide) ⟨by decide, by decide⟩ (ce_S (okX1_fraction l) (mw 232 (by decide +kernel) rfl) (mw 233 (by decide +kernel) rfl) (mw 5 (by decide +kernel) rfl) (mw 234 (by decide +kernel) rfl) (by decide) ⟨by decide, by decide⟩ (ce_S (okX1_lack l) (mw 272 (by decide +kernel) rfl) (mw 273 (by decide +kernel) rfl) (mw 5 (by decide +kernel) rfl) (mw 274 (by decide +kernel) rfl) (by decide) ⟨by decide, by decide⟩ (ce_S (okX1_scale l) (mw 229 (by decide +kernel) rfl) (mw 230 (by decide +kernel) rfl) (mw 5 (by decide +kernel) rfl) (mw 231 (by decide +kernel) rfl) (by decide) ⟨by decide, by decide⟩ (ce_S (okX1_wholeRoot l) (mw 310 (by decide +kernel) rfl) (mw 311 (by decide +kernel) rfl) (mw 5 (by decide +kernel) rfl) (mw 312 (by decide +kernel) rfl) (by decide) ⟨by decide, by decide⟩ (ce_S (okX1_packed l) (mw 240 (by decide +kernel) rfl) (mw 241 (by decide +kernel) rfl) (mw 5 (by decide +kernel) rfl) (mw 242 (by decide +kernel) rfl) (by decide) ⟨by decide, by decide⟩ (ce_0)))))))
set_option maxRecDepth 20000 in
theorem okX1_root (l : Launch) : OK l yX1_root cX1_root 6 (some .long) 3 tX1_root := by
  intro D τ ρ A as σ post h
  unfold tX1_root at h; split at h
  · rename_i a; have hk := h
    refine met_of (P := pgX1_root) (CE := ceX1_root) (cut := []) (by decide) kkX1_root (coX1_root l) (Nat.le_of_ble_eq_true rfl) ?_
    intro G hG; refine hG 120 false 0 _ _ _ ?_
    refine And.intro (fun (h0 : ¬ (fX1_isNone a) = 0) => ?_) (fun h0q => have h0 : (fX1_isNone a) = 0 := Classical.not_not.mp h0q; ?_)
    · exact And.intro trivial (leafL hk (by unfold fX1_root; first | (rw [if_neg h0]; done) | (rw [if_neg h0]; rfl)))
    · refine And.intro (fun (h1 : ¬ (fX1_isZero a) = 0) => ?_) (fun h1q => have h1 : (fX1_isZero a) = 0 := Classical.not_not.mp h1q; ?_)
      · exact And.intro trivial (leafL hk (by unfold fX1_root; first | (rw [if_pos h0, if_neg h1]; done) | (rw [if_pos h0, if_neg h1]; rfl)))
      · refine And.intro (fun (h2 : ¬ (lg_cmp a (9218868437227405312 : Int64)) = 0) => ?_) (fun h2q => have h2 : (lg_cmp a (9218868437227405312 : Int64)) = 0 := Classical.not_not.mp h2q; ?_)
        · refine And.intro (fun (h3 : 0 ≤ (lg_cmp a (0 : Int64))) => ?_) (fun (h3 : ¬ 0 ≤ (lg_cmp a (0 : Int64))) => ?_)
          · refine And.intro (fun (h4 : ((((fX1_scale a) - (fX1_lack (fX1_fraction a))) - (1075 : Int32)) &&& (1 : Int32)) = 0) => ?_) (fun (h4 : ¬ ((((fX1_scale a) - (fX1_lack (fX1_fraction a))) - (1075 : Int32)) &&& (1 : Int32)) = 0) => ?_)
            · exact And.intro trivial (leafL hk (by unfold fX1_root; first | (rw [if_pos h0, if_pos h1, if_neg h2, if_pos h3, if_pos h4]; done) | (rw [if_pos h0, if_pos h1, if_neg h2, if_pos h3, if_pos h4]; rfl)))
            · exact And.intro trivial (leafL hk (by unfold fX1_root; first | (rw [if_pos h0, if_pos h1, if_neg h2, if_pos h3, if_neg h4]; done) | (rw [if_pos h0, if_pos h1, if_neg h2, if_pos h3, if_neg h4]; rfl)))
          · exact And.intro trivial (leafL hk (by unfold fX1_root; first | (rw [if_pos h0, if_pos h1, if_neg h2, if_neg h3]; done) | (rw [if_pos h0, if_pos h1, if_neg h2, if_neg h3]; rfl)))
        · exact And.intro trivial (leafL hk (by unfold fX1_root; first | (rw [if_pos h0, if_pos h1, if_pos h2]; done) | (rw [if_pos h0, if_pos h1, if_pos h2]; rfl)))
  · exact h.elim
end
section
def fX0_isKind (a : Int32) : Int32 :=
  if a < 0 then
    (0 : Int32)
  else
    if (16 : Int32) < a then
      (0 : Int32)
    else
      (1 : Int32)
def tX0_isKind : Tr := fun as σ k => match as with
  | [.int a] => k (some (.int (fX0_isKind a))) σ
  | _ => False
def ceX0_isKind : List (Nat × Nat × Tr) := []
theorem coX0_isKind (l : Launch) : CEok l yX0_isKind.cls 0 ceX0_isKind := ce_0
set_option maxRecDepth 20000 in
theorem okX0_isKind (l : Launch) : OK l yX0_isKind cX0_isKind 1 (some .boolean) 0 tX0_isKind := by
  intro D τ ρ A as σ post h
  unfold tX0_isKind at h; split at h
  · rename_i a; have hk := h
    refine met_of (P := pgX0_isKind) (CE := ceX0_isKind) (cut := []) (by decide) kkX0_isKind (coX0_isKind l) (Nat.le_of_ble_eq_true rfl) ?_
    intro G hG; refine hG 120 false 0 _ _ _ ?_
    refine And.intro (fun (h0 : a < 0) => ?_) (fun (h0 : ¬ a < 0) => ?_)
    · exact And.intro (Or.inl rfl) (leafI hk (by unfold fX0_isKind; first | (rw [if_pos h0]; done) | (rw [if_pos h0]; rfl)))
    · refine And.intro (fun (h1 : (16 : Int32) < a) => ?_) (fun (h1 : ¬ (16 : Int32) < a) => ?_)
      · exact And.intro (Or.inl rfl) (leafI hk (by unfold fX0_isKind; first | (rw [if_neg h0, if_pos h1]; done) | (rw [if_neg h0, if_pos h1]; rfl)))
      · exact And.intro (Or.inr rfl) (leafI hk (by unfold fX0_isKind; first | (rw [if_neg h0, if_neg h1]; done) | (rw [if_neg h0, if_neg h1]; rfl)))
  · exact h.elim
def fX0_hasFirst (a : Int32) : Int32 :=
  if a < (2 : Int32) then
    (0 : Int32)
  else
    (1 : Int32)
def tX0_hasFirst : Tr := fun as σ k => match as with
  | [.int a] => k (some (.int (fX0_hasFirst a))) σ
  | _ => False
def ceX0_hasFirst : List (Nat × Nat × Tr) := []
theorem coX0_hasFirst (l : Launch) : CEok l yX0_hasFirst.cls 0 ceX0_hasFirst := ce_0
set_option maxRecDepth 20000 in
theorem okX0_hasFirst (l : Launch) : OK l yX0_hasFirst cX0_hasFirst 1 (some .boolean) 0 tX0_hasFirst := by
  intro D τ ρ A as σ post h
  unfold tX0_hasFirst at h; split at h
  · rename_i a; have hk := h
    refine met_of (P := pgX0_hasFirst) (CE := ceX0_hasFirst) (cut := []) (by decide) kkX0_hasFirst (coX0_hasFirst l) (Nat.le_of_ble_eq_true rfl) ?_
    intro G hG; refine hG 120 false 0 _ _ _ ?_
    refine And.intro (fun (h0 : a < (2 : Int32)) => ?_) (fun (h0 : ¬ a < (2 : Int32)) => ?_)
    · exact And.intro (Or.inl rfl) (leafI hk (by unfold fX0_hasFirst; first | (rw [if_pos h0]; done) | (rw [if_pos h0]; rfl)))
    · exact And.intro (Or.inr rfl) (leafI hk (by unfold fX0_hasFirst; first | (rw [if_neg h0]; done) | (rw [if_neg h0]; rfl)))
  · exact h.elim
def fX0_hasSecond (a : Int32) : Int32 :=
  if a < (2 : Int32) then
    (0 : Int32)
  else
    if (7 : Int32) < a then
      (0 : Int32)
    else
      (1 : Int32)
def tX0_hasSecond : Tr := fun as σ k => match as with
  | [.int a] => k (some (.int (fX0_hasSecond a))) σ
  | _ => False
def ceX0_hasSecond : List (Nat × Nat × Tr) := []
theorem coX0_hasSecond (l : Launch) : CEok l yX0_hasSecond.cls 0 ceX0_hasSecond := ce_0
set_option maxRecDepth 20000 in
theorem okX0_hasSecond (l : Launch) : OK l yX0_hasSecond cX0_hasSecond 1 (some .boolean) 0 tX0_hasSecond := by
  intro D τ ρ A as σ post h
  unfold tX0_hasSecond at h; split at h
  · rename_i a; have hk := h
    refine met_of (P := pgX0_hasSecond) (CE := ceX0_hasSecond) (cut := []) (by decide) kkX0_hasSecond (coX0_hasSecond l) (Nat.le_of_ble_eq_true rfl) ?_
    intro G hG; refine hG 120 false 0 _ _ _ ?_
    refine And.intro (fun (h0 : a < (2 : Int32)) => ?_) (fun (h0 : ¬ a < (2 : Int32)) => ?_)
    · exact And.intro (Or.inl rfl) (leafI hk (by unfold fX0_hasSecond; first | (rw [if_pos h0]; done) | (rw [if_pos h0]; rfl)))
    · refine And.intro (fun (h1 : (7 : Int32) < a) => ?_) (fun (h1 : ¬ (7 : Int32) < a) => ?_)
      · exact And.intro (Or.inl rfl) (leafI hk (by unfold fX0_hasSecond; first | (rw [if_neg h0, if_pos h1]; done) | (rw [if_neg h0, if_pos h1]; rfl)))
      · exact And.intro (Or.inr rfl) (leafI hk (by unfold fX0_hasSecond; first | (rw [if_neg h0, if_neg h1]; done) | (rw [if_neg h0, if_neg h1]; rfl)))
  · exact h.elim
def fX2_place (a : Int32) (b : Int32) : Int32 :=
  ((a * (6 : Int32)) + ((2 : Int32) * b))
def tX2_place : Tr := fun as σ k => match as with
  | [.int a, .int b] => k (some (.int (fX2_place a b))) σ
  | _ => False
def ceX2_place : List (Nat × Nat × Tr) := []
theorem coX2_place (l : Launch) : CEok l yX2_place.cls 0 ceX2_place := ce_0
set_option maxRecDepth 20000 in
theorem okX2_place (l : Launch) : OK l yX2_place cX2_place 2 (some .int) 0 tX2_place := by
  intro D τ ρ A as σ post h
  unfold tX2_place at h; split at h
  · rename_i a b; have hk := h
    refine met_of (P := pgX2_place) (CE := ceX2_place) (cut := []) (by decide) kkX2_place (coX2_place l) (Nat.le_of_ble_eq_true rfl) ?_
    intro G hG; refine hG 120 false 0 _ _ _ ?_
    exact And.intro trivial (leafI hk (by unfold fX2_place; rfl))
  · exact h.elim
def fX3_isEnd (a : Int32) : Int32 :=
  if a = 0 then
    (1 : Int32)
  else
    if a = (1 : Int32) then
      (1 : Int32)
    else
      (0 : Int32)
def tX3_isEnd : Tr := fun as σ k => match as with
  | [.int a] => k (some (.int (fX3_isEnd a))) σ
  | _ => False
def ceX3_isEnd : List (Nat × Nat × Tr) := []
theorem coX3_isEnd (l : Launch) : CEok l yX3_isEnd.cls 0 ceX3_isEnd := ce_0
set_option maxRecDepth 20000 in
theorem okX3_isEnd (l : Launch) : OK l yX3_isEnd cX3_isEnd 1 (some .boolean) 0 tX3_isEnd := by
  intro D τ ρ A as σ post h
  unfold tX3_isEnd at h; split at h
  · rename_i a; have hk := h
    refine met_of (P := pgX3_isEnd) (CE := ceX3_isEnd) (cut := []) (by decide) kkX3_isEnd (coX3_isEnd l) (Nat.le_of_ble_eq_true rfl) ?_
    intro G hG; refine hG 120 false 0 _ _ _ ?_
    refine And.intro (fun (h0 : a = 0) => ?_) (fun (h0 : ¬ a = 0) => ?_)
    · exact And.intro (Or.inr rfl) (leafI hk (by unfold fX3_isEnd; first | (rw [if_pos h0]; done) | (rw [if_pos h0]; rfl)))
    · refine And.intro (fun (h1 : ¬ a = (1 : Int32)) => ?_) (fun h1q => have h1 : a = (1 : Int32) := Classical.not_not.mp h1q; ?_)
      · exact And.intro (Or.inl rfl) (leafI hk (by unfold fX3_isEnd; first | (rw [if_neg h0, if_neg h1]; done) | (rw [if_neg h0, if_neg h1]; rfl)))
      · exact And.intro (Or.inr rfl) (leafI hk (by unfold fX3_isEnd; first | (rw [if_neg h0, if_pos h1]; done) | (rw [if_neg h0, if_pos h1]; rfl)))
  · exact h.elim
def fX3_isBoxKind (a : Int32) : Int32 :=
  if a < 0 then
    (0 : Int32)
  else
    if (3 : Int32) < a then
      (0 : Int32)
    else
      (1 : Int32)
def tX3_isBoxKind : Tr := fun as σ k => match as with
  | [.int a] => k (some (.int (fX3_isBoxKind a))) σ
  | _ => False
def ceX3_isBoxKind : List (Nat × Nat × Tr) := []
theorem coX3_isBoxKind (l : Launch) : CEok l yX3_isBoxKind.cls 0 ceX3_isBoxKind := ce_0
set_option maxRecDepth 20000 in
theorem okX3_isBoxKind (l : Launch) : OK l yX3_isBoxKind cX3_isBoxKind 1 (some .boolean) 0 tX3_isBoxKind := by
  intro D τ ρ A as σ post h
  unfold tX3_isBoxKind at h; split at h
  · rename_i a; have hk := h
    refine met_of (P := pgX3_isBoxKind) (CE := ceX3_isBoxKind) (cut := []) (by decide) kkX3_isBoxKind (coX3_isBoxKind l) (Nat.le_of_ble_eq_true rfl) ?_
    intro G hG; refine hG 120 false 0 _ _ _ ?_
    refine And.intro (fun (h0 : a < 0) => ?_) (fun (h0 : ¬ a < 0) => ?_)
    · exact And.intro (Or.inl rfl) (leafI hk (by unfold fX3_isBoxKind; first | (rw [if_pos h0]; done) | (rw [if_pos h0]; rfl)))
    · refine And.intro (fun (h1 : (3 : Int32) < a) => ?_) (fun (h1 : ¬ (3 : Int32) < a) => ?_)
      · exact And.intro (Or.inl rfl) (leafI hk (by unfold fX3_isBoxKind; first | (rw [if_neg h0, if_pos h1]; done) | (rw [if_neg h0, if_pos h1]; rfl)))
      · exact And.intro (Or.inr rfl) (leafI hk (by unfold fX3_isBoxKind; first | (rw [if_neg h0, if_neg h1]; done) | (rw [if_neg h0, if_neg h1]; rfl)))
  · exact h.elim
def fX0_made (a : Int32) (b : Int64) (c : Int64) : Int64 :=
  if a.toInt < 2 ∨ 15 < a.toInt then
    (fX1_cut b (-4332462841530417152 : Int64) (4890909195324358656 : Int64))
  else if a = (2 : Int32) then
    (fX1_plus b c)
  else if a = (3 : Int32) then
    (fX1_plus b (fX1_opposite c))
  else if a = (4 : Int32) then
    (fX1_times b c)
  else if a = (5 : Int32) then
    (fX1_over b c)
  else if a = (6 : Int32) then
    (fX1_lesser b c)
  else if a = (7 : Int32) then
    (fX1_greater b c)
  else if a = (8 : Int32) then
    (fX1_size b)
  else if a = (9 : Int32) then
    (fX1_root b)
  else if a = (10 : Int32) then
    (fX1_times b b)
  else if a = (11 : Int32) then
    (fX1_floor b)
  else if a = (12 : Int32) then
    (fX1_opposite b)
  else if a = (13 : Int32) then
    (fX1_throughFloat b)
  else if a = (14 : Int32) then
    (fX1_signum b)
  else
    (fX1_cut b (-4476578029606273024 : Int64) (4746794007244308480 : Int64))
def tX0_made : Tr := fun as σ k => match as with
  | [.int a, .long b, .long c] => k (some (.long (fX0_made a b c))) σ
  | _ => False
def ceX0_made : List (Nat × Nat × Tr) := (2 * 66, 2, tX1_plus) :: (2 * 70, 1, tX1_opposite) :: (2 * 73, 2, tX1_times) :: (2 * 76, 2, tX1_over) :: (2 * 79, 2, tX1_lesser) :: (2 * 82, 2, tX1_greater) :: (2 * 85, 1, tX1_size) :: (2 * 87, 1, tX1_root) :: (2 * 90, 1, tX1_floor) :: (2 * 93, 1, tX1_throughFloat) :: (2 * 96, 1, tX1_signum) :: (2 * 103, 3, tX1_cut) :: []
theorem coX0_made (l : Launch) : CEok l yX0_made.cls 4 ceX0_made := ce_S (okX1_plus l) (mw 223 (by decide +kernel) rfl) (mw 224 (by decide +kernel) rfl) (mw 5 (by decide +kernel) rfl) (mw 225 (by decide +kernel) rfl) (by decide) ⟨by decide, by decide⟩ (ce_S (okX1_opposite l) (mw 268 (by decide +kernel) rfl) (mw 259 (by decide +kernel) rfl) (mw 5 (by decide +kernel) rfl) (mw 260 (by decide +kernel) rfl) (by decide) ⟨by decide, by decide⟩ (ce_S (okX1_times l) (mw 269 (by decide +kernel) rfl) (mw 270 (by decide +kernel) rfl) (mw 5 (by decide +kernel) rfl) (mw 271 (by decide +kernel) rfl) (by decide) ⟨by decide, by decide⟩ (ce_S (okX1_over l) (mw 293 (by decide +kernel) rfl) (mw 294 (by decide +kernel) rfl) (mw 5 (by decide +kernel) rfl) (mw 295 (by decide +kernel) rfl) (by decide) ⟨by decide, by decide⟩ (ce_S (okX1_lesser l) (mw 282 (by decide +kernel) rfl) (mw 283 (by decide +kernel) rfl) (mw 5 (by decide +kernel) rfl) (mw 284 (by decide +kernel) rfl) (by decide) ⟨by decide, by decide⟩ (ce_S (okX1_greater l) (mw 289 (by decide +kernel) rfl) (mw 290 (by decide +kernel) rfl) (mw 5 (by decide +kernel) rfl) (mw 291 (by decide +kernel) rfl) (by decide) ⟨by decide, by decide⟩ (ce_S (okX1_size l) (mw 325 (by decide +kernel) rfl) (mw 326 (by decide +kernel) rfl) (mw 5 (by decide +kernel) rfl) (mw 327 (by decide +kernel) rfl) (by decide) ⟨by decide, by decide⟩ (ce_S (okX1_root l) (mw 307 (by decide +kernel) rfl) (mw 308 (by decide +kernel) rfl) (mw 5 (by decide +kernel) rfl) (mw 309 (by decide +kernel) rfl) (by decide) ⟨by decide, by decide⟩ (ce_S (okX1_floor l) (mw 328 (by decide +kernel) rfl) (mw 329 (by decide +kernel) rfl) (mw 5 (by decide +kernel) rfl) (mw 330 (by decide +kernel) rfl) (by decide) ⟨by decide, by decide⟩ (ce_S (okX1_throughFloat l) (mw 335 (by decide +kernel) rfl) (mw 336 (by decide +kernel) rfl) (mw 5 (by decide +kernel) rfl) (mw 337 (by decide +kernel) rfl) (by decide) ⟨by decide, by decide⟩ (ce_S (okX1_signum l) (mw 340 (by decide +kernel) rfl) (mw 341 (by decide +kernel) rfl) (mw 5 (by decide +kernel) rfl) (mw 342 (by decide +kernel) rfl) (by decide) ⟨by decide, by decide⟩ (ce_S (okX1_cut l) (mw 346 (by decide +kernel) rfl) (mw 347 (by decide +kernel) rfl) (mw 5 (by decide +kernel) rfl) (mw 348 (by decide +kernel) rfl) (by decide) ⟨by decide, by decide⟩ (ce_0))))))))))))
set_option maxRecDepth 20000 in
theorem okX0_made (l : Launch) : OK l yX0_made cX0_made 5 (some .long) 4 tX0_made := by
  intro D τ ρ A as σ post h
  unfold tX0_made at h; split at h
  · rename_i a b c; have hk := h
    refine met_of (P := pgX0_made) (CE := ceX0_made) (cut := []) (by decide) kkX0_made (coX0_made l) (Nat.le_of_ble_eq_true rfl) ?_
    intro G hG; refine hG 120 false 0 _ _ _ ?_
    refine And.intro (fun (h0 : a.toInt < 2 ∨ 15 < a.toInt) => ?_) ?_
    · exact And.intro trivial (leafL hk (by unfold fX0_made; first | (rw [if_pos h0]; done) | (rw [if_pos h0]; rfl)))
    refine And.intro (fun (hsw : a = (2 : Int32)) => ?_) ?_
    · subst hsw
      exact And.intro trivial (leafL hk (by unfold fX0_made; first | (rw [if_neg (show ¬ ((2 : Int32).toInt < 2 ∨ 15 < (2 : Int32).toInt) by decide), if_pos rfl]; done) | (rw [if_neg (show ¬ ((2 : Int32).toInt < 2 ∨ 15 < (2 : Int32).toInt) by decide), if_pos rfl]; rfl)))
    refine And.intro (fun (hsw : a = (3 : Int32)) => ?_) ?_
    · subst hsw
      exact And.intro trivial (leafL hk (by unfold fX0_made; first | (rw [if_neg (show ¬ ((3 : Int32).toInt < 2 ∨ 15 < (3 : Int32).toInt) by decide), if_neg (show ¬ ((3 : Int32) = 2) by decide), if_pos rfl]; done) | (rw [if_neg (show ¬ ((3 : Int32).toInt < 2 ∨ 15 < (3 : Int32).toInt) by decide), if_neg (show ¬ ((3 : Int32) = 2) by decide), if_pos rfl]; rfl)))
    refine And.intro (fun (hsw : a = (4 : Int32)) => ?_) ?_
    · subst hsw
      exact And.intro trivial (leafL hk (by unfold fX0_made; first | (rw [if_neg (show ¬ ((4 : Int32).toInt < 2 ∨ 15 < (4 : Int32).toInt) by decide), if_neg (show ¬ ((4 : Int32) = 2) by decide), if_neg (show ¬ ((4 : Int32) = 3) by decide), if_pos rfl]; done) | (rw [if_neg (show ¬ ((4 : Int32).toInt < 2 ∨ 15 < (4 : Int32).toInt) by decide), if_neg (show ¬ ((4 : Int32) = 2) by decide), if_neg (show ¬ ((4 : Int32) = 3) by decide), if_pos rfl]; rfl)))
    refine And.intro (fun (hsw : a = (5 : Int32)) => ?_) ?_
    · subst hsw
      exact And.intro trivial (leafL hk (by unfold fX0_made; first | (rw [if_neg (show ¬ ((5 : Int32).toInt < 2 ∨ 15 < (5 : Int32).toInt) by decide), if_neg (show ¬ ((5 : Int32) = 2) by decide), if_neg (show ¬ ((5 : Int32) = 3) by decide), if_neg (show ¬ ((5 : Int32) = 4) by decide), if_pos rfl]; done) | (rw [if_neg (show ¬ ((5 : Int32).toInt < 2 ∨ 15 < (5 : Int32).toInt) by decide), if_neg (show ¬ ((5 : Int32) = 2) by decide), if_neg (show ¬ ((5 : Int32) = 3) by decide), if_neg (show ¬ ((5 : Int32) = 4) by decide), if_pos rfl]; rfl)))
    refine And.intro (fun (hsw : a = (6 : Int32)) => ?_) ?_
    · subst hsw
      exact And.intro trivial (leafL hk (by unfold fX0_made; first | (rw [if_neg (show ¬ ((6 : Int32).toInt < 2 ∨ 15 < (6 : Int32).toInt) by decide), if_neg (show ¬ ((6 : Int32) = 2) by decide), if_neg (show ¬ ((6 : Int32) = 3) by decide), if_neg (show ¬ ((6 : Int32) = 4) by decide), if_neg (show ¬ ((6 : Int32) = 5) by decide), if_pos rfl]; done) | (rw [if_neg (show ¬ ((6 : Int32).toInt < 2 ∨ 15 < (6 : Int32).toInt) by decide), if_neg (show ¬ ((6 : Int32) = 2) by decide), if_neg (show ¬ ((6 : Int32) = 3) by decide), if_neg (show ¬ ((6 : Int32) = 4) by decide), if_neg (show ¬ ((6 : Int32) = 5) by decide), if_pos rfl]; rfl)))
    refine And.intro (fun (hsw : a = (7 : Int32)) => ?_) ?_
    · subst hsw
      exact And.intro trivial (leafL hk (by unfold fX0_made; first | (rw [if_neg (show ¬ ((7 : Int32).toInt < 2 ∨ 15 < (7 : Int32).toInt) by decide), if_neg (show ¬ ((7 : Int32) = 2) by decide), if_neg (show ¬ ((7 : Int32) = 3) by decide), if_neg (show ¬ ((7 : Int32) = 4) by decide), if_neg (show ¬ ((7 : Int32) = 5) by decide), if_neg (show ¬ ((7 : Int32) = 6) by decide), if_pos rfl]; done) | (rw [if_neg (show ¬ ((7 : Int32).toInt < 2 ∨ 15 < (7 : Int32).toInt) by decide), if_neg (show ¬ ((7 : Int32) = 2) by decide), if_neg (show ¬ ((7 : Int32) = 3) by decide), if_neg (show ¬ ((7 : Int32) = 4) by decide), if_neg (show ¬ ((7 : Int32) = 5) by decide), if_neg (show ¬ ((7 : Int32) = 6) by decide), if_pos rfl]; rfl)))
    refine And.intro (fun (hsw : a = (8 : Int32)) => ?_) ?_
    · subst hsw
      exact And.intro trivial (leafL hk (by unfold fX0_made; first | (rw [if_neg (show ¬ ((8 : Int32).toInt < 2 ∨ 15 < (8 : Int32).toInt) by decide), if_neg (show ¬ ((8 : Int32) = 2) by decide), if_neg (show ¬ ((8 : Int32) = 3) by decide), if_neg (show ¬ ((8 : Int32) = 4) by decide), if_neg (show ¬ ((8 : Int32) = 5) by decide), if_neg (show ¬ ((8 : Int32) = 6) by decide), if_neg (show ¬ ((8 : Int32) = 7) by decide), if_pos rfl]; done) | (rw [if_neg (show ¬ ((8 : Int32).toInt < 2 ∨ 15 < (8 : Int32).toInt) by decide), if_neg (show ¬ ((8 : Int32) = 2) by decide), if_neg (show ¬ ((8 : Int32) = 3) by decide), if_neg (show ¬ ((8 : Int32) = 4) by decide), if_neg (show ¬ ((8 : Int32) = 5) by decide), if_neg (show ¬ ((8 : Int32) = 6) by decide), if_neg (show ¬ ((8 : Int32) = 7) by decide), if_pos rfl]; rfl)))
    refine And.intro (fun (hsw : a = (9 : Int32)) => ?_) ?_
    · subst hsw
      exact And.intro trivial (leafL hk (by unfold fX0_made; first | (rw [if_neg (show ¬ ((9 : Int32).toInt < 2 ∨ 15 < (9 : Int32).toInt) by decide), if_neg (show ¬ ((9 : Int32) = 2) by decide), if_neg (show ¬ ((9 : Int32) = 3) by decide), if_neg (show ¬ ((9 : Int32) = 4) by decide), if_neg (show ¬ ((9 : Int32) = 5) by decide), if_neg (show ¬ ((9 : Int32) = 6) by decide), if_neg (show ¬ ((9 : Int32) = 7) by decide), if_neg (show ¬ ((9 : Int32) = 8) by decide), if_pos rfl]; done) | (rw [if_neg (show ¬ ((9 : Int32).toInt < 2 ∨ 15 < (9 : Int32).toInt) by decide), if_neg (show ¬ ((9 : Int32) = 2) by decide), if_neg (show ¬ ((9 : Int32) = 3) by decide), if_neg (show ¬ ((9 : Int32) = 4) by decide), if_neg (show ¬ ((9 : Int32) = 5) by decide), if_neg (show ¬ ((9 : Int32) = 6) by decide), if_neg (show ¬ ((9 : Int32) = 7) by decide), if_neg (show ¬ ((9 : Int32) = 8) by decide), if_pos rfl]; rfl)))
    refine And.intro (fun (hsw : a = (10 : Int32)) => ?_) ?_
    · subst hsw
      exact And.intro trivial (leafL hk (by unfold fX0_made; first | (rw [if_neg (show ¬ ((10 : Int32).toInt < 2 ∨ 15 < (10 : Int32).toInt) by decide), if_neg (show ¬ ((10 : Int32) = 2) by decide), if_neg (show ¬ ((10 : Int32) = 3) by decide), if_neg (show ¬ ((10 : Int32) = 4) by decide), if_neg (show ¬ ((10 : Int32) = 5) by decide), if_neg (show ¬ ((10 : Int32) = 6) by decide), if_neg (show ¬ ((10 : Int32) = 7) by decide), if_neg (show ¬ ((10 : Int32) = 8) by decide), if_neg (show ¬ ((10 : Int32) = 9) by decide), if_pos rfl]; done) | (rw [if_neg (show ¬ ((10 : Int32).toInt < 2 ∨ 15 < (10 : Int32).toInt) by decide), if_neg (show ¬ ((10 : Int32) = 2) by decide), if_neg (show ¬ ((10 : Int32) = 3) by decide), if_neg (show ¬ ((10 : Int32) = 4) by decide), if_neg (show ¬ ((10 : Int32) = 5) by decide), if_neg (show ¬ ((10 : Int32) = 6) by decide), if_neg (show ¬ ((10 : Int32) = 7) by decide), if_neg (show ¬ ((10 : Int32) = 8) by decide), if_neg (show ¬ ((10 : Int32) = 9) by decide), if_pos rfl]; rfl)))
    refine And.intro (fun (hsw : a = (11 : Int32)) => ?_) ?_
    · subst hsw
      exact And.intro trivial (leafL hk (by unfold fX0_made; first | (rw [if_neg (show ¬ ((11 : Int32).toInt < 2 ∨ 15 < (11 : Int32).toInt) by decide), if_neg (show ¬ ((11 : Int32) = 2) by decide), if_neg (show ¬ ((11 : Int32) = 3) by decide), if_neg (show ¬ ((11 : Int32) = 4) by decide), if_neg (show ¬ ((11 : Int32) = 5) by decide), if_neg (show ¬ ((11 : Int32) = 6) by decide), if_neg (show ¬ ((11 : Int32) = 7) by decide), if_neg (show ¬ ((11 : Int32) = 8) by decide), if_neg (show ¬ ((11 : Int32) = 9) by decide), if_neg (show ¬ ((11 : Int32) = 10) by decide), if_pos rfl]; done) | (rw [if_neg (show ¬ ((11 : Int32).toInt < 2 ∨ 15 < (11 : Int32).toInt) by decide), if_neg (show ¬ ((11 : Int32) = 2) by decide), if_neg (show ¬ ((11 : Int32) = 3) by decide), if_neg (show ¬ ((11 : Int32) = 4) by decide), if_neg (show ¬ ((11 : Int32) = 5) by decide), if_neg (show ¬ ((11 : Int32) = 6) by decide), if_neg (show ¬ ((11 : Int32) = 7) by decide), if_neg (show ¬ ((11 : Int32) = 8) by decide), if_neg (show ¬ ((11 : Int32) = 9) by decide), if_neg (show ¬ ((11 : Int32) = 10) by decide), if_pos rfl]; rfl)))
    refine And.intro (fun (hsw : a = (12 : Int32)) => ?_) ?_
    · subst hsw
      exact And.intro trivial (leafL hk (by unfold fX0_made; first | (rw [if_neg (show ¬ ((12 : Int32).toInt < 2 ∨ 15 < (12 : Int32).toInt) by decide), if_neg (show ¬ ((12 : Int32) = 2) by decide), if_neg (show ¬ ((12 : Int32) = 3) by decide), if_neg (show ¬ ((12 : Int32) = 4) by decide), if_neg (show ¬ ((12 : Int32) = 5) by decide), if_neg (show ¬ ((12 : Int32) = 6) by decide), if_neg (show ¬ ((12 : Int32) = 7) by decide), if_neg (show ¬ ((12 : Int32) = 8) by decide), if_neg (show ¬ ((12 : Int32) = 9) by decide), if_neg (show ¬ ((12 : Int32) = 10) by decide), if_neg (show ¬ ((12 : Int32) = 11) by decide), if_pos rfl]; done) | (rw [if_neg (show ¬ ((12 : Int32).toInt < 2 ∨ 15 < (12 : Int32).toInt) by decide), if_neg (show ¬ ((12 : Int32) = 2) by decide), if_neg (show ¬ ((12 : Int32) = 3) by decide), if_neg (show ¬ ((12 : Int32) = 4) by decide), if_neg (show ¬ ((12 : Int32) = 5) by decide), if_neg (show ¬ ((12 : Int32) = 6) by decide), if_neg (show ¬ ((12 : Int32) = 7) by decide), if_neg (show ¬ ((12 : Int32) = 8) by decide), if_neg (show ¬ ((12 : Int32) = 9) by decide), if_neg (show ¬ ((12 : Int32) = 10) by decide), if_neg (show ¬ ((12 : Int32) = 11) by decide), if_pos rfl]; rfl)))
    refine And.intro (fun (hsw : a = (13 : Int32)) => ?_) ?_
    · subst hsw
      exact And.intro trivial (leafL hk (by unfold fX0_made; first | (rw [if_neg (show ¬ ((13 : Int32).toInt < 2 ∨ 15 < (13 : Int32).toInt) by decide), if_neg (show ¬ ((13 : Int32) = 2) by decide), if_neg (show ¬ ((13 : Int32) = 3) by decide), if_neg (show ¬ ((13 : Int32) = 4) by decide), if_neg (show ¬ ((13 : Int32) = 5) by decide), if_neg (show ¬ ((13 : Int32) = 6) by decide), if_neg (show ¬ ((13 : Int32) = 7) by decide), if_neg (show ¬ ((13 : Int32) = 8) by decide), if_neg (show ¬ ((13 : Int32) = 9) by decide), if_neg (show ¬ ((13 : Int32) = 10) by decide), if_neg (show ¬ ((13 : Int32) = 11) by decide), if_neg (show ¬ ((13 : Int32) = 12) by decide), if_pos rfl]; done) | (rw [if_neg (show ¬ ((13 : Int32).toInt < 2 ∨ 15 < (13 : Int32).toInt) by decide), if_neg (show ¬ ((13 : Int32) = 2) by decide), if_neg (show ¬ ((13 : Int32) = 3) by decide), if_neg (show ¬ ((13 : Int32) = 4) by decide), if_neg (show ¬ ((13 : Int32) = 5) by decide), if_neg (show ¬ ((13 : Int32) = 6) by decide), if_neg (show ¬ ((13 : Int32) = 7) by decide), if_neg (show ¬ ((13 : Int32) = 8) by decide), if_neg (show ¬ ((13 : Int32) = 9) by decide), if_neg (show ¬ ((13 : Int32) = 10) by decide), if_neg (show ¬ ((13 : Int32) = 11) by decide), if_neg (show ¬ ((13 : Int32) = 12) by decide), if_pos rfl]; rfl)))
    refine And.intro (fun (hsw : a = (14 : Int32)) => ?_) ?_
    · subst hsw
      exact And.intro trivial (leafL hk (by unfold fX0_made; first | (rw [if_neg (show ¬ ((14 : Int32).toInt < 2 ∨ 15 < (14 : Int32).toInt) by decide), if_neg (show ¬ ((14 : Int32) = 2) by decide), if_neg (show ¬ ((14 : Int32) = 3) by decide), if_neg (show ¬ ((14 : Int32) = 4) by decide), if_neg (show ¬ ((14 : Int32) = 5) by decide), if_neg (show ¬ ((14 : Int32) = 6) by decide), if_neg (show ¬ ((14 : Int32) = 7) by decide), if_neg (show ¬ ((14 : Int32) = 8) by decide), if_neg (show ¬ ((14 : Int32) = 9) by decide), if_neg (show ¬ ((14 : Int32) = 10) by decide), if_neg (show ¬ ((14 : Int32) = 11) by decide), if_neg (show ¬ ((14 : Int32) = 12) by decide), if_neg (show ¬ ((14 : Int32) = 13) by decide), if_pos rfl]; done) | (rw [if_neg (show ¬ ((14 : Int32).toInt < 2 ∨ 15 < (14 : Int32).toInt) by decide), if_neg (show ¬ ((14 : Int32) = 2) by decide), if_neg (show ¬ ((14 : Int32) = 3) by decide), if_neg (show ¬ ((14 : Int32) = 4) by decide), if_neg (show ¬ ((14 : Int32) = 5) by decide), if_neg (show ¬ ((14 : Int32) = 6) by decide), if_neg (show ¬ ((14 : Int32) = 7) by decide), if_neg (show ¬ ((14 : Int32) = 8) by decide), if_neg (show ¬ ((14 : Int32) = 9) by decide), if_neg (show ¬ ((14 : Int32) = 10) by decide), if_neg (show ¬ ((14 : Int32) = 11) by decide), if_neg (show ¬ ((14 : Int32) = 12) by decide), if_neg (show ¬ ((14 : Int32) = 13) by decide), if_pos rfl]; rfl)))
    refine And.intro (fun (hsw : a = (15 : Int32)) => ?_) ?_
    · subst hsw
      exact And.intro trivial (leafL hk (by unfold fX0_made; first | (rw [if_neg (show ¬ ((15 : Int32).toInt < 2 ∨ 15 < (15 : Int32).toInt) by decide), if_neg (show ¬ ((15 : Int32) = 2) by decide), if_neg (show ¬ ((15 : Int32) = 3) by decide), if_neg (show ¬ ((15 : Int32) = 4) by decide), if_neg (show ¬ ((15 : Int32) = 5) by decide), if_neg (show ¬ ((15 : Int32) = 6) by decide), if_neg (show ¬ ((15 : Int32) = 7) by decide), if_neg (show ¬ ((15 : Int32) = 8) by decide), if_neg (show ¬ ((15 : Int32) = 9) by decide), if_neg (show ¬ ((15 : Int32) = 10) by decide), if_neg (show ¬ ((15 : Int32) = 11) by decide), if_neg (show ¬ ((15 : Int32) = 12) by decide), if_neg (show ¬ ((15 : Int32) = 13) by decide), if_neg (show ¬ ((15 : Int32) = 14) by decide)]; done) | (rw [if_neg (show ¬ ((15 : Int32).toInt < 2 ∨ 15 < (15 : Int32).toInt) by decide), if_neg (show ¬ ((15 : Int32) = 2) by decide), if_neg (show ¬ ((15 : Int32) = 3) by decide), if_neg (show ¬ ((15 : Int32) = 4) by decide), if_neg (show ¬ ((15 : Int32) = 5) by decide), if_neg (show ¬ ((15 : Int32) = 6) by decide), if_neg (show ¬ ((15 : Int32) = 7) by decide), if_neg (show ¬ ((15 : Int32) = 8) by decide), if_neg (show ¬ ((15 : Int32) = 9) by decide), if_neg (show ¬ ((15 : Int32) = 10) by decide), if_neg (show ¬ ((15 : Int32) = 11) by decide), if_neg (show ¬ ((15 : Int32) = 12) by decide), if_neg (show ¬ ((15 : Int32) = 13) by decide), if_neg (show ¬ ((15 : Int32) = 14) by decide)]; rfl)))
    exact trivial
  · exact h.elim
end
section
/-! THE CLASS'S WORLD: twenty cells, by a state of ints, int rows and long rows; rows are named by their cells -/
abbrev CS : Type := (Nat → Int32) × (Nat → Nat → Int32) × (Nat → Nat → Int64)
def setI (c : CS) (k : Nat) (x : Int32) : CS := (fun j => if j = k then x else c.1 j, c.2.1, c.2.2)
def setA (c : CS) (k : Nat) (f : Nat → Int32) : CS := (c.1, fun j => if j = k then f else c.2.1 j, c.2.2)
def setL (c : CS) (k : Nat) (f : Nat → Int64) : CS := (c.1, c.2.1, fun j => if j = k then f else c.2.2 j)
/-- ints: 0 draws, 1 needed, 2 Formulas.size, 3 Tiling.size, 4 Tiling.draws -/
def wC (c : CS) : aS := [
  .inr (2, [.ref 3, .ref 11, .ref 1, .ref 2, .int (c.1 0), .int (c.1 1)]),
  .inl (1, 6, .inr (.inl (c.2.2 1))), .inl (0, 5, .inl (c.2.1 2)),
  .inr (0, [.ref 4, .ref 5, .int (c.1 2), .ref 6, .ref 7, .ref 8, .ref 9, .ref 10]),
  .inl (1, 32, .inr (.inl (c.2.2 4))), .inl (1, 32, .inr (.inl (c.2.2 5))), .inl (0, 32, .inl (c.2.1 6)), .inl (0, 32, .inl (c.2.1 7)), .inl (0, 32, .inl (c.2.1 8)), .inl (1, 32, .inr (.inl (c.2.2 9))), .inl (1, 32, .inr (.inl (c.2.2 10))),
  .inr (1, [.ref 12, .ref 13, .ref 14, .ref 15, .ref 16, .int (c.1 3), .ref 17, .ref 18, .ref 19, .int (c.1 4)]),
  .inl (1, 600, .inr (.inl (c.2.2 12))), .inl (1, 100, .inr (.inl (c.2.2 13))), .inl (1, 100, .inr (.inl (c.2.2 14))), .inl (0, 100, .inl (c.2.1 15)), .inl (1, 3, .inr (.inl (c.2.2 16))), .inl (0, 100, .inl (c.2.1 17)), .inl (1, 100, .inr (.inl (c.2.2 18))), .inl (3, 100, .inl (c.2.1 19))]
theorem leafS {post : Option Value → aS → Prop} {v w : Option Value} {σ σ' : aS} (h : post v σ) (e : v = w) (e2 : σ = σ') : post w σ' := e ▸ e2 ▸ h
end
section
def vX0_has (c : CS) (a : Int32) : Int32 :=
  if a < 0 then
    (0 : Int32)
  else
    if (c.1 2) ≤ a then
      (0 : Int32)
    else
      (1 : Int32)
def tX0_has : Tr := fun as σ k => match as with
  | [.ref 3, .int a] => ∃ (c : CS) (M : aS), σ = wC c ++ M ∧ k (some (.int (vX0_has c a))) (wC c ++ M)
  | _ => False
def ceX0_has : List (Nat × Nat × Tr) := []
theorem coX0_has (l : Launch) : CEok l yX0_has.cls 0 ceX0_has := ce_0
theorem rcX0_has : ∀ as σ kk, tX0_has as σ kk → ∃ a r fs, as = .ref a :: r ∧ σ[a]? = some (.inr (0, fs)) := by
  intro as σ kk h
  unfold tX0_has at h; split at h
  · obtain ⟨c, M, rfl, -⟩ := h
    exact ⟨_, _, _, rfl, rfl⟩
  · exact h.elim
set_option maxRecDepth 20000 in
set_option maxHeartbeats 4000000 in
theorem okX0_has (l : Launch) : OK l yX0_has cX0_has 2 (some .boolean) 0 tX0_has := by
  intro D τ ρ A as σ post h
  unfold tX0_has at h; split at h
  · rename_i a; obtain ⟨c, M, rfl, hk⟩ := h
    refine met_of (P := pgX0_has) (CE := ceX0_has) (cut := []) (by decide) kkX0_has (coX0_has l) (Nat.le_of_ble_eq_true rfl) ?_
    intro G hG; refine hG 200 false 0 _ _ _ ?_
    refine And.intro (fun (h0 : a < 0) => ?_) (fun (h0 : ¬ a < 0) => ?_)
    · exact And.intro (Or.inl rfl) (leafS hk (congrArg (fun z => some (Value.int z)) (by unfold vX0_has; first | (rw [if_pos h0]; done) | (rw [if_pos h0]; rfl))) rfl)
    · refine And.intro (fun (h1 : (c.1 2) ≤ a) => ?_) (fun (h1 : ¬ (c.1 2) ≤ a) => ?_)
      · exact And.intro (Or.inl rfl) (leafS hk (congrArg (fun z => some (Value.int z)) (by unfold vX0_has; first | (rw [if_neg h0, if_pos h1]; done) | (rw [if_neg h0, if_pos h1]; rfl))) rfl)
      · exact And.intro (Or.inr rfl) (leafS hk (congrArg (fun z => some (Value.int z)) (by unfold vX0_has; first | (rw [if_neg h0, if_neg h1]; done) | (rw [if_neg h0, if_neg h1]; rfl))) rfl)
  · exact h.elim
def gX0_putWholeLine (c : CS) (a : Int32) : CS :=
  (setL (setL c 4 (vp_updL (c.2.2 4) a.toNatClampNeg (-4503599627370496 : Int64))) 5 (vp_updL ((setL c 4 (vp_updL (c.2.2 4) a.toNatClampNeg (-4503599627370496 : Int64))).2.2 5) a.toNatClampNeg (9218868437227405312 : Int64)))
def tX0_putWholeLine : Tr := fun as σ k => match as with
  | [.ref 3, .int a] => ∃ (c : CS) (M : aS), σ = wC c ++ M ∧ vp_in a 32 ∧ k none (wC (gX0_putWholeLine c a) ++ M)
  | _ => False
def ceX0_putWholeLine : List (Nat × Nat × Tr) := []
theorem coX0_putWholeLine (l : Launch) : CEok l yX0_putWholeLine.cls 0 ceX0_putWholeLine := ce_0
theorem rcX0_putWholeLine : ∀ as σ kk, tX0_putWholeLine as σ kk → ∃ a r fs, as = .ref a :: r ∧ σ[a]? = some (.inr (0, fs)) := by
  intro as σ kk h
  unfold tX0_putWholeLine at h; split at h
  · obtain ⟨c, M, rfl, -⟩ := h
    exact ⟨_, _, _, rfl, rfl⟩
  · exact h.elim
set_option maxRecDepth 20000 in
set_option maxHeartbeats 4000000 in
theorem okX0_putWholeLine (l : Launch) : OK l yX0_putWholeLine cX0_putWholeLine 2 none 0 tX0_putWholeLine := by
  intro D τ ρ A as σ post h
  unfold tX0_putWholeLine at h; split at h
  · rename_i a; obtain ⟨c, M, rfl, p1, hk⟩ := h
    refine met_of (P := pgX0_putWholeLine) (CE := ceX0_putWholeLine) (cut := []) (by decide) kkX0_putWholeLine (coX0_putWholeLine l) (Nat.le_of_ble_eq_true rfl) ?_
    intro G hG; refine hG 200 false 0 _ _ _ ?_
    refine And.intro (by first | assumption | (unfold vp_in; decide)) ?_
    refine And.intro (by first | assumption | (unfold vp_in; decide)) ?_
    exact And.intro trivial (leafS hk rfl (show wC _ ++ M = _ by unfold gX0_putWholeLine; rfl))
  · exact h.elim
def gX0_put (c : CS) (a : Int32) (b : Int64) (d : Int64) : CS :=
  if (fX1_isNone b) = 0 then
    if (fX1_isNone d) = 0 then
      (setL (setL c 4 (vp_updL (c.2.2 4) a.toNatClampNeg b)) 5 (vp_updL ((setL c 4 (vp_updL (c.2.2 4) a.toNatClampNeg b)).2.2 5) a.toNatClampNeg d))
    else
      (gX0_putWholeLine c a)
  else
    (gX0_putWholeLine c a)
def tX0_put : Tr := fun as σ k => match as with
  | [.ref 3, .int a, .long b, .long d] => ∃ (c : CS) (M : aS), σ = wC c ++ M ∧ vp_in a 32 ∧ k none (wC (gX0_put c a b d) ++ M)
  | _ => False
def ceX0_put : List (Nat × Nat × Tr) := (2 * 149, 1, tX1_isNone) :: (2 * 133 + 1, 1 + 1, tX0_putWholeLine) :: []
theorem coX0_put (l : Launch) : CEok l yX0_put.cls 1 ceX0_put := ce_S (okX1_isNone l) (mw 212 (by decide +kernel) rfl) (mw 137 (by decide +kernel) rfl) (mw 5 (by decide +kernel) rfl) (mw 138 (by decide +kernel) rfl) (by decide) ⟨by decide, by decide⟩ (ce_V (ci := 0) (n := 1) rfl (okX0_putWholeLine l) rcX0_putWholeLine (mw 213 (by decide +kernel) rfl) (mw 215 (by decide +kernel) rfl) (ms 3 (by decide +kernel) rfl) (mw 2 (by decide +kernel) rfl) (mw 216 (by decide +kernel) rfl) rfl (by decide) ⟨by decide, by decide⟩ (ce_0))
theorem rcX0_put : ∀ as σ kk, tX0_put as σ kk → ∃ a r fs, as = .ref a :: r ∧ σ[a]? = some (.inr (0, fs)) := by
  intro as σ kk h
  unfold tX0_put at h; split at h
  · obtain ⟨c, M, rfl, -⟩ := h
    exact ⟨_, _, _, rfl, rfl⟩
  · exact h.elim
set_option maxRecDepth 20000 in
set_option maxHeartbeats 4000000 in
theorem okX0_put (l : Launch) : OK l yX0_put cX0_put 6 none 1 tX0_put := by
  intro D τ ρ A as σ post h
  unfold tX0_put at h; split at h
  · rename_i a b d; obtain ⟨c, M, rfl, p1, hk⟩ := h
    refine met_of (P := pgX0_put) (CE := ceX0_put) (cut := []) (by decide) kkX0_put (coX0_put l) (Nat.le_of_ble_eq_true rfl) ?_
    intro G hG; refine hG 200 false 0 _ _ _ ?_
    refine And.intro (fun (h0 : ¬ (fX1_isNone b) = 0) => ?_) (fun h0q => have h0 : (fX1_isNone b) = 0 := Classical.not_not.mp h0q; ?_)
    · refine Exists.intro c (Exists.intro M (And.intro rfl (And.intro (by first | assumption | (unfold vp_in; decide)) (?_))))
      exact And.intro trivial (leafS hk rfl (show wC _ ++ M = _ by unfold gX0_put; first | (rw [if_neg h0]; done) | (rw [if_neg h0]; rfl)))
    · refine And.intro (fun (h1 : (fX1_isNone d) = 0) => ?_) (fun (h1 : ¬ (fX1_isNone d) = 0) => ?_)
      · refine And.intro (by first | assumption | (unfold vp_in; decide)) ?_
        refine And.intro (by first | assumption | (unfold vp_in; decide)) ?_
        exact And.intro trivial (leafS hk rfl (show wC _ ++ M = _ by unfold gX0_put; first | (rw [if_pos h0, if_pos h1]; done) | (rw [if_pos h0, if_pos h1]; rfl)))
      · refine Exists.intro c (Exists.intro M (And.intro rfl (And.intro (by first | assumption | (unfold vp_in; decide)) (?_))))
        exact And.intro trivial (leafS hk rfl (show wC _ ++ M = _ by unfold gX0_put; first | (rw [if_pos h0, if_neg h1]; done) | (rw [if_pos h0, if_neg h1]; rfl)))
  · exact h.elim
def gX0_putFour (c : CS) (a : Int32) (b : Int64) (d : Int64) (e : Int64) (f : Int64) : CS :=
  (gX0_put c a (fX1_down (fX1_lesser (fX1_lesser b d) (fX1_lesser e f))) (fX1_up (fX1_greater (fX1_greater b d) (fX1_greater e f))))
def tX0_putFour : Tr := fun as σ k => match as with
  | [.ref 3, .int a, .long b, .long d, .long e, .long f] => ∃ (c : CS) (M : aS), σ = wC c ++ M ∧ vp_in a 32 ∧ k none (wC (gX0_putFour c a b d e f) ++ M)
  | _ => False
def ceX0_putFour : List (Nat × Nat × Tr) := (2 * 79, 2, tX1_lesser) :: (2 * 82, 2, tX1_greater) :: (2 * 119, 1, tX1_down) :: (2 * 122, 1, tX1_up) :: (2 * 111 + 1, 3 + 1, tX0_put) :: []
theorem coX0_putFour (l : Launch) : CEok l yX0_putFour.cls 3 ceX0_putFour := ce_S (okX1_lesser l) (mw 282 (by decide +kernel) rfl) (mw 283 (by decide +kernel) rfl) (mw 5 (by decide +kernel) rfl) (mw 284 (by decide +kernel) rfl) (by decide) ⟨by decide, by decide⟩ (ce_S (okX1_greater l) (mw 289 (by decide +kernel) rfl) (mw 290 (by decide +kernel) rfl) (mw 5 (by decide +kernel) rfl) (mw 291 (by decide +kernel) rfl) (by decide) ⟨by decide, by decide⟩ (ce_S (okX1_down l) (mw 255 (by decide +kernel) rfl) (mw 256 (by decide +kernel) rfl) (mw 5 (by decide +kernel) rfl) (mw 257 (by decide +kernel) rfl) (by decide) ⟨by decide, by decide⟩ (ce_S (okX1_up l) (mw 267 (by decide +kernel) rfl) (mw 262 (by decide +kernel) rfl) (mw 5 (by decide +kernel) rfl) (mw 263 (by decide +kernel) rfl) (by decide) ⟨by decide, by decide⟩ (ce_V (ci := 0) (n := 3) rfl (okX0_put l) rcX0_put (mw 208 (by decide +kernel) rfl) (mw 210 (by decide +kernel) rfl) (ms 2 (by decide +kernel) rfl) (mw 2 (by decide +kernel) rfl) (mw 211 (by decide +kernel) rfl) rfl (by decide) ⟨by decide, by decide⟩ (ce_0)))))
theorem rcX0_putFour : ∀ as σ kk, tX0_putFour as σ kk → ∃ a r fs, as = .ref a :: r ∧ σ[a]? = some (.inr (0, fs)) := by
  intro as σ kk h
  unfold tX0_putFour at h; split at h
  · obtain ⟨c, M, rfl, -⟩ := h
    exact ⟨_, _, _, rfl, rfl⟩
  · exact h.elim
set_option maxRecDepth 20000 in
set_option maxHeartbeats 4000000 in
theorem okX0_putFour (l : Launch) : OK l yX0_putFour cX0_putFour 14 none 3 tX0_putFour := by
  intro D τ ρ A as σ post h
  unfold tX0_putFour at h; split at h
  · rename_i a b d e f; obtain ⟨c, M, rfl, p1, hk⟩ := h
    refine met_of (P := pgX0_putFour) (CE := ceX0_putFour) (cut := []) (by decide) kkX0_putFour (coX0_putFour l) (Nat.le_of_ble_eq_true rfl) ?_
    intro G hG; refine hG 200 false 0 _ _ _ ?_
    refine Exists.intro c (Exists.intro M (And.intro rfl (And.intro (by first | assumption | (unfold vp_in; decide)) (?_))))
    exact And.intro trivial (leafS hk rfl (show wC _ ++ M = _ by unfold gX0_putFour; rfl))
  · exact h.elim
def gX0_putSize (c : CS) (a : Int32) (b : Int64) (d : Int64) : CS :=
  if (fX1_isBelow b (0 : Int64)) = 0 then
    (gX0_put c a b d)
  else
    if (fX1_isBelow (0 : Int64) d) = 0 then
      (gX0_put c a (fX1_opposite d) (fX1_opposite b))
    else
      (gX0_put c a (0 : Int64) (fX1_greater (fX1_opposite b) d))
def tX0_putSize : Tr := fun as σ k => match as with
  | [.ref 3, .int a, .long b, .long d] => ∃ (c : CS) (M : aS), σ = wC c ++ M ∧ vp_in a 32 ∧ k none (wC (gX0_putSize c a b d) ++ M)
  | _ => False
def ceX0_putSize : List (Nat × Nat × Tr) := (2 * 129, 2, tX1_isBelow) :: (2 * 70, 1, tX1_opposite) :: (2 * 82, 2, tX1_greater) :: (2 * 111 + 1, 3 + 1, tX0_put) :: []
theorem coX0_putSize (l : Launch) : CEok l yX0_putSize.cls 2 ceX0_putSize := ce_S (okX1_isBelow l) (mw 292 (by decide +kernel) rfl) (mw 134 (by decide +kernel) rfl) (mw 5 (by decide +kernel) rfl) (mw 135 (by decide +kernel) rfl) (by decide) ⟨by decide, by decide⟩ (ce_S (okX1_opposite l) (mw 268 (by decide +kernel) rfl) (mw 259 (by decide +kernel) rfl) (mw 5 (by decide +kernel) rfl) (mw 260 (by decide +kernel) rfl) (by decide) ⟨by decide, by decide⟩ (ce_S (okX1_greater l) (mw 289 (by decide +kernel) rfl) (mw 290 (by decide +kernel) rfl) (mw 5 (by decide +kernel) rfl) (mw 291 (by decide +kernel) rfl) (by decide) ⟨by decide, by decide⟩ (ce_V (ci := 0) (n := 3) rfl (okX0_put l) rcX0_put (mw 208 (by decide +kernel) rfl) (mw 210 (by decide +kernel) rfl) (ms 2 (by decide +kernel) rfl) (mw 2 (by decide +kernel) rfl) (mw 211 (by decide +kernel) rfl) rfl (by decide) ⟨by decide, by decide⟩ (ce_0))))
theorem rcX0_putSize : ∀ as σ kk, tX0_putSize as σ kk → ∃ a r fs, as = .ref a :: r ∧ σ[a]? = some (.inr (0, fs)) := by
  intro as σ kk h
  unfold tX0_putSize at h; split at h
  · obtain ⟨c, M, rfl, -⟩ := h
    exact ⟨_, _, _, rfl, rfl⟩
  · exact h.elim
set_option maxRecDepth 20000 in
set_option maxHeartbeats 4000000 in
theorem okX0_putSize (l : Launch) : OK l yX0_putSize cX0_putSize 6 none 2 tX0_putSize := by
  intro D τ ρ A as σ post h
  unfold tX0_putSize at h; split at h
  · rename_i a b d; obtain ⟨c, M, rfl, p1, hk⟩ := h
    refine met_of (P := pgX0_putSize) (CE := ceX0_putSize) (cut := []) (by decide) kkX0_putSize (coX0_putSize l) (Nat.le_of_ble_eq_true rfl) ?_
    intro G hG; refine hG 200 false 0 _ _ _ ?_
    refine And.intro (fun (h0 : ¬ (fX1_isBelow b (0 : Int64)) = 0) => ?_) (fun h0q => have h0 : (fX1_isBelow b (0 : Int64)) = 0 := Classical.not_not.mp h0q; ?_)
    · refine And.intro (fun (h1 : ¬ (fX1_isBelow (0 : Int64) d) = 0) => ?_) (fun h1q => have h1 : (fX1_isBelow (0 : Int64) d) = 0 := Classical.not_not.mp h1q; ?_)
      · refine Exists.intro c (Exists.intro M (And.intro rfl (And.intro (by first | assumption | (unfold vp_in; decide)) (?_))))
        exact And.intro trivial (leafS hk rfl (show wC _ ++ M = _ by unfold gX0_putSize; first | (rw [if_neg h0, if_neg h1]; done) | (rw [if_neg h0, if_neg h1]; rfl)))
      · refine Exists.intro c (Exists.intro M (And.intro rfl (And.intro (by first | assumption | (unfold vp_in; decide)) (?_))))
        exact And.intro trivial (leafS hk rfl (show wC _ ++ M = _ by unfold gX0_putSize; first | (rw [if_neg h0, if_pos h1]; done) | (rw [if_neg h0, if_pos h1]; rfl)))
    · refine Exists.intro c (Exists.intro M (And.intro rfl (And.intro (by first | assumption | (unfold vp_in; decide)) (?_))))
      exact And.intro trivial (leafS hk rfl (show wC _ ++ M = _ by unfold gX0_putSize; first | (rw [if_pos h0]; done) | (rw [if_pos h0]; rfl)))
  · exact h.elim
def gX0_putRoot (c : CS) (a : Int32) (b : Int64) (d : Int64) : CS :=
  if (fX1_isBelow b (0 : Int64)) = 0 then
    (gX0_put c a (fX1_zeroIfLess (fX1_down (fX1_root b))) (fX1_up (fX1_root d)))
  else
    (gX0_putWholeLine c a)
def tX0_putRoot : Tr := fun as σ k => match as with
  | [.ref 3, .int a, .long b, .long d] => ∃ (c : CS) (M : aS), σ = wC c ++ M ∧ vp_in a 32 ∧ k none (wC (gX0_putRoot c a b d) ++ M)
  | _ => False
def ceX0_putRoot : List (Nat × Nat × Tr) := (2 * 129, 2, tX1_isBelow) :: (2 * 87, 1, tX1_root) :: (2 * 119, 1, tX1_down) :: (2 * 153, 1, tX1_zeroIfLess) :: (2 * 122, 1, tX1_up) :: (2 * 111 + 1, 3 + 1, tX0_put) :: (2 * 133 + 1, 1 + 1, tX0_putWholeLine) :: []
theorem coX0_putRoot (l : Launch) : CEok l yX0_putRoot.cls 4 ceX0_putRoot := ce_S (okX1_isBelow l) (mw 292 (by decide +kernel) rfl) (mw 134 (by decide +kernel) rfl) (mw 5 (by decide +kernel) rfl) (mw 135 (by decide +kernel) rfl) (by decide) ⟨by decide, by decide⟩ (ce_S (okX1_root l) (mw 307 (by decide +kernel) rfl) (mw 308 (by decide +kernel) rfl) (mw 5 (by decide +kernel) rfl) (mw 309 (by decide +kernel) rfl) (by decide) ⟨by decide, by decide⟩ (ce_S (okX1_down l) (mw 255 (by decide +kernel) rfl) (mw 256 (by decide +kernel) rfl) (mw 5 (by decide +kernel) rfl) (mw 257 (by decide +kernel) rfl) (by decide) ⟨by decide, by decide⟩ (ce_S (okX1_zeroIfLess l) (mw 314 (by decide +kernel) rfl) (mw 315 (by decide +kernel) rfl) (mw 5 (by decide +kernel) rfl) (mw 316 (by decide +kernel) rfl) (by decide) ⟨by decide, by decide⟩ (ce_S (okX1_up l) (mw 267 (by decide +kernel) rfl) (mw 262 (by decide +kernel) rfl) (mw 5 (by decide +kernel) rfl) (mw 263 (by decide +kernel) rfl) (by decide) ⟨by decide, by decide⟩ (ce_V (ci := 0) (n := 3) rfl (okX0_put l) rcX0_put (mw 208 (by decide +kernel) rfl) (mw 210 (by decide +kernel) rfl) (ms 2 (by decide +kernel) rfl) (mw 2 (by decide +kernel) rfl) (mw 211 (by decide +kernel) rfl) rfl (by decide) ⟨by decide, by decide⟩ (ce_V (ci := 0) (n := 1) rfl (okX0_putWholeLine l) rcX0_putWholeLine (mw 213 (by decide +kernel) rfl) (mw 215 (by decide +kernel) rfl) (ms 3 (by decide +kernel) rfl) (mw 2 (by decide +kernel) rfl) (mw 216 (by decide +kernel) rfl) rfl (by decide) ⟨by decide, by decide⟩ (ce_0)))))))
theorem rcX0_putRoot : ∀ as σ kk, tX0_putRoot as σ kk → ∃ a r fs, as = .ref a :: r ∧ σ[a]? = some (.inr (0, fs)) := by
  intro as σ kk h
  unfold tX0_putRoot at h; split at h
  · obtain ⟨c, M, rfl, -⟩ := h
    exact ⟨_, _, _, rfl, rfl⟩
  · exact h.elim
set_option maxRecDepth 20000 in
set_option maxHeartbeats 4000000 in
theorem okX0_putRoot (l : Launch) : OK l yX0_putRoot cX0_putRoot 8 none 4 tX0_putRoot := by
  intro D τ ρ A as σ post h
  unfold tX0_putRoot at h; split at h
  · rename_i a b d; obtain ⟨c, M, rfl, p1, hk⟩ := h
    refine met_of (P := pgX0_putRoot) (CE := ceX0_putRoot) (cut := []) (by decide) kkX0_putRoot (coX0_putRoot l) (Nat.le_of_ble_eq_true rfl) ?_
    intro G hG; refine hG 200 false 0 _ _ _ ?_
    refine And.intro (fun (h0 : (fX1_isBelow b (0 : Int64)) = 0) => ?_) (fun (h0 : ¬ (fX1_isBelow b (0 : Int64)) = 0) => ?_)
    · refine Exists.intro c (Exists.intro M (And.intro rfl (And.intro (by first | assumption | (unfold vp_in; decide)) (?_))))
      exact And.intro trivial (leafS hk rfl (show wC _ ++ M = _ by unfold gX0_putRoot; first | (rw [if_pos h0]; done) | (rw [if_pos h0]; rfl)))
    · refine Exists.intro c (Exists.intro M (And.intro rfl (And.intro (by first | assumption | (unfold vp_in; decide)) (?_))))
      exact And.intro trivial (leafS hk rfl (show wC _ ++ M = _ by unfold gX0_putRoot; first | (rw [if_neg h0]; done) | (rw [if_neg h0]; rfl)))
  · exact h.elim
def gX0_putSquare (c : CS) (a : Int32) (b : Int64) (d : Int64) : CS :=
  (gX0_put c a (fX1_zeroIfLess (fX1_down (fX1_times b b))) (fX1_up (fX1_times d d)))
def tX0_putSquare : Tr := fun as σ k => match as with
  | [.ref 3, .int a, .long b, .long d] => ∃ (c : CS) (M : aS), σ = wC c ++ M ∧ vp_in a 32 ∧ k none (wC (gX0_putSquare c a b d) ++ M)
  | _ => False
def ceX0_putSquare : List (Nat × Nat × Tr) := (2 * 73, 2, tX1_times) :: (2 * 119, 1, tX1_down) :: (2 * 153, 1, tX1_zeroIfLess) :: (2 * 122, 1, tX1_up) :: (2 * 111 + 1, 3 + 1, tX0_put) :: []
theorem coX0_putSquare (l : Launch) : CEok l yX0_putSquare.cls 4 ceX0_putSquare := ce_S (okX1_times l) (mw 269 (by decide +kernel) rfl) (mw 270 (by decide +kernel) rfl) (mw 5 (by decide +kernel) rfl) (mw 271 (by decide +kernel) rfl) (by decide) ⟨by decide, by decide⟩ (ce_S (okX1_down l) (mw 255 (by decide +kernel) rfl) (mw 256 (by decide +kernel) rfl) (mw 5 (by decide +kernel) rfl) (mw 257 (by decide +kernel) rfl) (by decide) ⟨by decide, by decide⟩ (ce_S (okX1_zeroIfLess l) (mw 314 (by decide +kernel) rfl) (mw 315 (by decide +kernel) rfl) (mw 5 (by decide +kernel) rfl) (mw 316 (by decide +kernel) rfl) (by decide) ⟨by decide, by decide⟩ (ce_S (okX1_up l) (mw 267 (by decide +kernel) rfl) (mw 262 (by decide +kernel) rfl) (mw 5 (by decide +kernel) rfl) (mw 263 (by decide +kernel) rfl) (by decide) ⟨by decide, by decide⟩ (ce_V (ci := 0) (n := 3) rfl (okX0_put l) rcX0_put (mw 208 (by decide +kernel) rfl) (mw 210 (by decide +kernel) rfl) (ms 2 (by decide +kernel) rfl) (mw 2 (by decide +kernel) rfl) (mw 211 (by decide +kernel) rfl) rfl (by decide) ⟨by decide, by decide⟩ (ce_0)))))
theorem rcX0_putSquare : ∀ as σ kk, tX0_putSquare as σ kk → ∃ a r fs, as = .ref a :: r ∧ σ[a]? = some (.inr (0, fs)) := by
  intro as σ kk h
  unfold tX0_putSquare at h; split at h
  · obtain ⟨c, M, rfl, -⟩ := h
    exact ⟨_, _, _, rfl, rfl⟩
  · exact h.elim
set_option maxRecDepth 20000 in
set_option maxHeartbeats 4000000 in
theorem okX0_putSquare (l : Launch) : OK l yX0_putSquare cX0_putSquare 8 none 4 tX0_putSquare := by
  intro D τ ρ A as σ post h
  unfold tX0_putSquare at h; split at h
  · rename_i a b d; obtain ⟨c, M, rfl, p1, hk⟩ := h
    refine met_of (P := pgX0_putSquare) (CE := ceX0_putSquare) (cut := []) (by decide) kkX0_putSquare (coX0_putSquare l) (Nat.le_of_ble_eq_true rfl) ?_
    intro G hG; refine hG 200 false 0 _ _ _ ?_
    refine Exists.intro c (Exists.intro M (And.intro rfl (And.intro (by first | assumption | (unfold vp_in; decide)) (?_))))
    exact And.intro trivial (leafS hk rfl (show wC _ ++ M = _ by unfold gX0_putSquare; rfl))
  · exact h.elim
def vX0_areParts (c : CS) (a : Int32) (b : Int32) (d : Int32) (e : Int32) : Int32 :=
  if a = 0 then
    if b < 0 then
      (0 : Int32)
    else
      if e ≤ b then
        (0 : Int32)
      else
        (1 : Int32)
  else
    if (fX0_hasFirst a) = 0 then
      if (fX0_hasSecond a) = 0 then
        (1 : Int32)
      else
        if (vX0_has c d) = 0 then
          (0 : Int32)
        else
          (1 : Int32)
    else
      if (vX0_has c b) = 0 then
        (0 : Int32)
      else
        if (fX0_hasSecond a) = 0 then
          (1 : Int32)
        else
          if (vX0_has c d) = 0 then
            (0 : Int32)
          else
            (1 : Int32)
def tX0_areParts : Tr := fun as σ k => match as with
  | [.ref 3, .int a, .int b, .int d, .int e] => ∃ (c : CS) (M : aS), σ = wC c ++ M ∧ k (some (.int (vX0_areParts c a b d e))) (wC c ++ M)
  | _ => False
def ceX0_areParts : List (Nat × Nat × Tr) := (2 * 38, 1, tX0_hasFirst) :: (2 * 45, 1, tX0_hasSecond) :: (2 * 42 + 1, 1 + 1, tX0_has) :: []
theorem coX0_areParts (l : Launch) : CEok l yX0_areParts.cls 1 ceX0_areParts := ce_S (okX0_hasFirst l) (mw 162 (by decide +kernel) rfl) (mw 163 (by decide +kernel) rfl) (mw 2 (by decide +kernel) rfl) (mw 164 (by decide +kernel) rfl) (by decide) ⟨by decide, by decide⟩ (ce_S (okX0_hasSecond l) (mw 169 (by decide +kernel) rfl) (mw 170 (by decide +kernel) rfl) (mw 2 (by decide +kernel) rfl) (mw 171 (by decide +kernel) rfl) (by decide) ⟨by decide, by decide⟩ (ce_V (ci := 0) (n := 1) rfl (okX0_has l) rcX0_has (mw 165 (by decide +kernel) rfl) (mw 166 (by decide +kernel) rfl) (mw 167 (by decide +kernel) rfl) (mw 2 (by decide +kernel) rfl) (mw 168 (by decide +kernel) rfl) rfl (by decide) ⟨by decide, by decide⟩ (ce_0)))
theorem rcX0_areParts : ∀ as σ kk, tX0_areParts as σ kk → ∃ a r fs, as = .ref a :: r ∧ σ[a]? = some (.inr (0, fs)) := by
  intro as σ kk h
  unfold tX0_areParts at h; split at h
  · obtain ⟨c, M, rfl, -⟩ := h
    exact ⟨_, _, _, rfl, rfl⟩
  · exact h.elim
set_option maxRecDepth 20000 in
set_option maxHeartbeats 4000000 in
theorem okX0_areParts (l : Launch) : OK l yX0_areParts cX0_areParts 5 (some .boolean) 1 tX0_areParts := by
  intro D τ ρ A as σ post h
  unfold tX0_areParts at h; split at h
  · rename_i a b d e; obtain ⟨c, M, rfl, hk⟩ := h
    refine met_of (P := pgX0_areParts) (CE := ceX0_areParts) (cut := []) (by decide) kkX0_areParts (coX0_areParts l) (Nat.le_of_ble_eq_true rfl) ?_
    intro G hG; refine hG 200 false 0 _ _ _ ?_
    refine And.intro (fun (h0 : ¬ a = 0) => ?_) (fun h0q => have h0 : a = 0 := Classical.not_not.mp h0q; ?_)
    · refine And.intro (fun (h1 : (fX0_hasFirst a) = 0) => ?_) (fun (h1 : ¬ (fX0_hasFirst a) = 0) => ?_)
      · refine And.intro (fun (h2 : (fX0_hasSecond a) = 0) => ?_) (fun (h2 : ¬ (fX0_hasSecond a) = 0) => ?_)
        · exact And.intro (Or.inr rfl) (leafS hk (congrArg (fun z => some (Value.int z)) (by unfold vX0_areParts; first | (rw [if_neg h0, if_pos h1, if_pos h2]; done) | (rw [if_neg h0, if_pos h1, if_pos h2]; rfl))) rfl)
        · refine Exists.intro c (Exists.intro M (And.intro rfl (?_)))
          refine And.intro (fun (h3 : (vX0_has c d) = 0) => ?_) (fun (h3 : ¬ (vX0_has c d) = 0) => ?_)
          · exact And.intro (Or.inl rfl) (leafS hk (congrArg (fun z => some (Value.int z)) (by unfold vX0_areParts; first | (rw [if_neg h0, if_pos h1, if_neg h2, if_pos h3]; done) | (rw [if_neg h0, if_pos h1, if_neg h2, if_pos h3]; rfl))) rfl)
          · exact And.intro (Or.inr rfl) (leafS hk (congrArg (fun z => some (Value.int z)) (by unfold vX0_areParts; first | (rw [if_neg h0, if_pos h1, if_neg h2, if_neg h3]; done) | (rw [if_neg h0, if_pos h1, if_neg h2, if_neg h3]; rfl))) rfl)
      · refine Exists.intro c (Exists.intro M (And.intro rfl (?_)))
        refine And.intro (fun (h2 : (vX0_has c b) = 0) => ?_) (fun (h2 : ¬ (vX0_has c b) = 0) => ?_)
        · exact And.intro (Or.inl rfl) (leafS hk (congrArg (fun z => some (Value.int z)) (by unfold vX0_areParts; first | (rw [if_neg h0, if_neg h1, if_pos h2]; done) | (rw [if_neg h0, if_neg h1, if_pos h2]; rfl))) rfl)
        · refine And.intro (fun (h3 : (fX0_hasSecond a) = 0) => ?_) (fun (h3 : ¬ (fX0_hasSecond a) = 0) => ?_)
          · exact And.intro (Or.inr rfl) (leafS hk (congrArg (fun z => some (Value.int z)) (by unfold vX0_areParts; first | (rw [if_neg h0, if_neg h1, if_neg h2, if_pos h3]; done) | (rw [if_neg h0, if_neg h1, if_neg h2, if_pos h3]; rfl))) rfl)
          · refine Exists.intro c (Exists.intro M (And.intro rfl (?_)))
            refine And.intro (fun (h4 : (vX0_has c d) = 0) => ?_) (fun (h4 : ¬ (vX0_has c d) = 0) => ?_)
            · exact And.intro (Or.inl rfl) (leafS hk (congrArg (fun z => some (Value.int z)) (by unfold vX0_areParts; first | (rw [if_neg h0, if_neg h1, if_neg h2, if_neg h3, if_pos h4]; done) | (rw [if_neg h0, if_neg h1, if_neg h2, if_neg h3, if_pos h4]; rfl))) rfl)
            · exact And.intro (Or.inr rfl) (leafS hk (congrArg (fun z => some (Value.int z)) (by unfold vX0_areParts; first | (rw [if_neg h0, if_neg h1, if_neg h2, if_neg h3, if_neg h4]; done) | (rw [if_neg h0, if_neg h1, if_neg h2, if_neg h3, if_neg h4]; rfl))) rfl)
    · refine And.intro (fun (h1 : b < 0) => ?_) (fun (h1 : ¬ b < 0) => ?_)
      · exact And.intro (Or.inl rfl) (leafS hk (congrArg (fun z => some (Value.int z)) (by unfold vX0_areParts; first | (rw [if_pos h0, if_pos h1]; done) | (rw [if_pos h0, if_pos h1]; rfl))) rfl)
      · refine And.intro (fun (h2 : e ≤ b) => ?_) (fun (h2 : ¬ e ≤ b) => ?_)
        · exact And.intro (Or.inl rfl) (leafS hk (congrArg (fun z => some (Value.int z)) (by unfold vX0_areParts; first | (rw [if_pos h0, if_neg h1, if_pos h2]; done) | (rw [if_pos h0, if_neg h1, if_pos h2]; rfl))) rfl)
        · exact And.intro (Or.inr rfl) (leafS hk (congrArg (fun z => some (Value.int z)) (by unfold vX0_areParts; first | (rw [if_pos h0, if_neg h1, if_neg h2]; done) | (rw [if_pos h0, if_neg h1, if_neg h2]; rfl))) rfl)
  · exact h.elim
def vX0_add (c : CS) (a : Int32) (b : Int32) (d : Int32) (e : Int64) : Int32 :=
  if a = 0 then
    if (fX0_hasSecond a) = 0 then
      (c.1 2)
    else
      (c.1 2)
  else
    if (fX0_hasFirst a) = 0 then
      if (fX0_hasSecond a) = 0 then
        (c.1 2)
      else
        (c.1 2)
    else
      if (fX0_hasSecond a) = 0 then
        (c.1 2)
      else
        (c.1 2)
def gX0_add (c : CS) (a : Int32) (b : Int32) (d : Int32) (e : Int64) : CS :=
  if a = 0 then
    if (fX0_hasSecond a) = 0 then
      (setI (setL (setA (setA (setA c 6 (upd (c.2.1 6) (c.1 2).toNatClampNeg a)) 7 (upd ((setA c 6 (upd (c.2.1 6) (c.1 2).toNatClampNeg a)).2.1 7) (c.1 2).toNatClampNeg b)) 8 (upd ((setA (setA c 6 (upd (c.2.1 6) (c.1 2).toNatClampNeg a)) 7 (upd ((setA c 6 (upd (c.2.1 6) (c.1 2).toNatClampNeg a)).2.1 7) (c.1 2).toNatClampNeg b)).2.1 8) (c.1 2).toNatClampNeg (0 : Int32))) 9 (vp_updL ((setA (setA (setA c 6 (upd (c.2.1 6) (c.1 2).toNatClampNeg a)) 7 (upd ((setA c 6 (upd (c.2.1 6) (c.1 2).toNatClampNeg a)).2.1 7) (c.1 2).toNatClampNeg b)) 8 (upd ((setA (setA c 6 (upd (c.2.1 6) (c.1 2).toNatClampNeg a)) 7 (upd ((setA c 6 (upd (c.2.1 6) (c.1 2).toNatClampNeg a)).2.1 7) (c.1 2).toNatClampNeg b)).2.1 8) (c.1 2).toNatClampNeg (0 : Int32))).2.2 9) (c.1 2).toNatClampNeg (fX1_told e))) 2 (((setL (setA (setA (setA c 6 (upd (c.2.1 6) (c.1 2).toNatClampNeg a)) 7 (upd ((setA c 6 (upd (c.2.1 6) (c.1 2).toNatClampNeg a)).2.1 7) (c.1 2).toNatClampNeg b)) 8 (upd ((setA (setA c 6 (upd (c.2.1 6) (c.1 2).toNatClampNeg a)) 7 (upd ((setA c 6 (upd (c.2.1 6) (c.1 2).toNatClampNeg a)).2.1 7) (c.1 2).toNatClampNeg b)).2.1 8) (c.1 2).toNatClampNeg (0 : Int32))) 9 (vp_updL ((setA (setA (setA c 6 (upd (c.2.1 6) (c.1 2).toNatClampNeg a)) 7 (upd ((setA c 6 (upd (c.2.1 6) (c.1 2).toNatClampNeg a)).2.1 7) (c.1 2).toNatClampNeg b)) 8 (upd ((setA (setA c 6 (upd (c.2.1 6) (c.1 2).toNatClampNeg a)) 7 (upd ((setA c 6 (upd (c.2.1 6) (c.1 2).toNatClampNeg a)).2.1 7) (c.1 2).toNatClampNeg b)).2.1 8) (c.1 2).toNatClampNeg (0 : Int32))).2.2 9) (c.1 2).toNatClampNeg (fX1_told e))).1 2) + (1 : Int32)))
    else
      (setI (setL (setA (setA (setA c 6 (upd (c.2.1 6) (c.1 2).toNatClampNeg a)) 7 (upd ((setA c 6 (upd (c.2.1 6) (c.1 2).toNatClampNeg a)).2.1 7) (c.1 2).toNatClampNeg b)) 8 (upd ((setA (setA c 6 (upd (c.2.1 6) (c.1 2).toNatClampNeg a)) 7 (upd ((setA c 6 (upd (c.2.1 6) (c.1 2).toNatClampNeg a)).2.1 7) (c.1 2).toNatClampNeg b)).2.1 8) (c.1 2).toNatClampNeg d)) 9 (vp_updL ((setA (setA (setA c 6 (upd (c.2.1 6) (c.1 2).toNatClampNeg a)) 7 (upd ((setA c 6 (upd (c.2.1 6) (c.1 2).toNatClampNeg a)).2.1 7) (c.1 2).toNatClampNeg b)) 8 (upd ((setA (setA c 6 (upd (c.2.1 6) (c.1 2).toNatClampNeg a)) 7 (upd ((setA c 6 (upd (c.2.1 6) (c.1 2).toNatClampNeg a)).2.1 7) (c.1 2).toNatClampNeg b)).2.1 8) (c.1 2).toNatClampNeg d)).2.2 9) (c.1 2).toNatClampNeg (fX1_told e))) 2 (((setL (setA (setA (setA c 6 (upd (c.2.1 6) (c.1 2).toNatClampNeg a)) 7 (upd ((setA c 6 (upd (c.2.1 6) (c.1 2).toNatClampNeg a)).2.1 7) (c.1 2).toNatClampNeg b)) 8 (upd ((setA (setA c 6 (upd (c.2.1 6) (c.1 2).toNatClampNeg a)) 7 (upd ((setA c 6 (upd (c.2.1 6) (c.1 2).toNatClampNeg a)).2.1 7) (c.1 2).toNatClampNeg b)).2.1 8) (c.1 2).toNatClampNeg d)) 9 (vp_updL ((setA (setA (setA c 6 (upd (c.2.1 6) (c.1 2).toNatClampNeg a)) 7 (upd ((setA c 6 (upd (c.2.1 6) (c.1 2).toNatClampNeg a)).2.1 7) (c.1 2).toNatClampNeg b)) 8 (upd ((setA (setA c 6 (upd (c.2.1 6) (c.1 2).toNatClampNeg a)) 7 (upd ((setA c 6 (upd (c.2.1 6) (c.1 2).toNatClampNeg a)).2.1 7) (c.1 2).toNatClampNeg b)).2.1 8) (c.1 2).toNatClampNeg d)).2.2 9) (c.1 2).toNatClampNeg (fX1_told e))).1 2) + (1 : Int32)))
  else
    if (fX0_hasFirst a) = 0 then
      if (fX0_hasSecond a) = 0 then
        (setI (setL (setA (setA (setA c 6 (upd (c.2.1 6) (c.1 2).toNatClampNeg a)) 7 (upd ((setA c 6 (upd (c.2.1 6) (c.1 2).toNatClampNeg a)).2.1 7) (c.1 2).toNatClampNeg (0 : Int32))) 8 (upd ((setA (setA c 6 (upd (c.2.1 6) (c.1 2).toNatClampNeg a)) 7 (upd ((setA c 6 (upd (c.2.1 6) (c.1 2).toNatClampNeg a)).2.1 7) (c.1 2).toNatClampNeg (0 : Int32))).2.1 8) (c.1 2).toNatClampNeg (0 : Int32))) 9 (vp_updL ((setA (setA (setA c 6 (upd (c.2.1 6) (c.1 2).toNatClampNeg a)) 7 (upd ((setA c 6 (upd (c.2.1 6) (c.1 2).toNatClampNeg a)).2.1 7) (c.1 2).toNatClampNeg (0 : Int32))) 8 (upd ((setA (setA c 6 (upd (c.2.1 6) (c.1 2).toNatClampNeg a)) 7 (upd ((setA c 6 (upd (c.2.1 6) (c.1 2).toNatClampNeg a)).2.1 7) (c.1 2).toNatClampNeg (0 : Int32))).2.1 8) (c.1 2).toNatClampNeg (0 : Int32))).2.2 9) (c.1 2).toNatClampNeg (fX1_told e))) 2 (((setL (setA (setA (setA c 6 (upd (c.2.1 6) (c.1 2).toNatClampNeg a)) 7 (upd ((setA c 6 (upd (c.2.1 6) (c.1 2).toNatClampNeg a)).2.1 7) (c.1 2).toNatClampNeg (0 : Int32))) 8 (upd ((setA (setA c 6 (upd (c.2.1 6) (c.1 2).toNatClampNeg a)) 7 (upd ((setA c 6 (upd (c.2.1 6) (c.1 2).toNatClampNeg a)).2.1 7) (c.1 2).toNatClampNeg (0 : Int32))).2.1 8) (c.1 2).toNatClampNeg (0 : Int32))) 9 (vp_updL ((setA (setA (setA c 6 (upd (c.2.1 6) (c.1 2).toNatClampNeg a)) 7 (upd ((setA c 6 (upd (c.2.1 6) (c.1 2).toNatClampNeg a)).2.1 7) (c.1 2).toNatClampNeg (0 : Int32))) 8 (upd ((setA (setA c 6 (upd (c.2.1 6) (c.1 2).toNatClampNeg a)) 7 (upd ((setA c 6 (upd (c.2.1 6) (c.1 2).toNatClampNeg a)).2.1 7) (c.1 2).toNatClampNeg (0 : Int32))).2.1 8) (c.1 2).toNatClampNeg (0 : Int32))).2.2 9) (c.1 2).toNatClampNeg (fX1_told e))).1 2) + (1 : Int32)))
      else
        (setI (setL (setA (setA (setA c 6 (upd (c.2.1 6) (c.1 2).toNatClampNeg a)) 7 (upd ((setA c 6 (upd (c.2.1 6) (c.1 2).toNatClampNeg a)).2.1 7) (c.1 2).toNatClampNeg (0 : Int32))) 8 (upd ((setA (setA c 6 (upd (c.2.1 6) (c.1 2).toNatClampNeg a)) 7 (upd ((setA c 6 (upd (c.2.1 6) (c.1 2).toNatClampNeg a)).2.1 7) (c.1 2).toNatClampNeg (0 : Int32))).2.1 8) (c.1 2).toNatClampNeg d)) 9 (vp_updL ((setA (setA (setA c 6 (upd (c.2.1 6) (c.1 2).toNatClampNeg a)) 7 (upd ((setA c 6 (upd (c.2.1 6) (c.1 2).toNatClampNeg a)).2.1 7) (c.1 2).toNatClampNeg (0 : Int32))) 8 (upd ((setA (setA c 6 (upd (c.2.1 6) (c.1 2).toNatClampNeg a)) 7 (upd ((setA c 6 (upd (c.2.1 6) (c.1 2).toNatClampNeg a)).2.1 7) (c.1 2).toNatClampNeg (0 : Int32))).2.1 8) (c.1 2).toNatClampNeg d)).2.2 9) (c.1 2).toNatClampNeg (fX1_told e))) 2 (((setL (setA (setA (setA c 6 (upd (c.2.1 6) (c.1 2).toNatClampNeg a)) 7 (upd ((setA c 6 (upd (c.2.1 6) (c.1 2).toNatClampNeg a)).2.1 7) (c.1 2).toNatClampNeg (0 : Int32))) 8 (upd ((setA (setA c 6 (upd (c.2.1 6) (c.1 2).toNatClampNeg a)) 7 (upd ((setA c 6 (upd (c.2.1 6) (c.1 2).toNatClampNeg a)).2.1 7) (c.1 2).toNatClampNeg (0 : Int32))).2.1 8) (c.1 2).toNatClampNeg d)) 9 (vp_updL ((setA (setA (setA c 6 (upd (c.2.1 6) (c.1 2).toNatClampNeg a)) 7 (upd ((setA c 6 (upd (c.2.1 6) (c.1 2).toNatClampNeg a)).2.1 7) (c.1 2).toNatClampNeg (0 : Int32))) 8 (upd ((setA (setA c 6 (upd (c.2.1 6) (c.1 2).toNatClampNeg a)) 7 (upd ((setA c 6 (upd (c.2.1 6) (c.1 2).toNatClampNeg a)).2.1 7) (c.1 2).toNatClampNeg (0 : Int32))).2.1 8) (c.1 2).toNatClampNeg d)).2.2 9) (c.1 2).toNatClampNeg (fX1_told e))).1 2) + (1 : Int32)))
    else
      if (fX0_hasSecond a) = 0 then
        (setI (setL (setA (setA (setA c 6 (upd (c.2.1 6) (c.1 2).toNatClampNeg a)) 7 (upd ((setA c 6 (upd (c.2.1 6) (c.1 2).toNatClampNeg a)).2.1 7) (c.1 2).toNatClampNeg b)) 8 (upd ((setA (setA c 6 (upd (c.2.1 6) (c.1 2).toNatClampNeg a)) 7 (upd ((setA c 6 (upd (c.2.1 6) (c.1 2).toNatClampNeg a)).2.1 7) (c.1 2).toNatClampNeg b)).2.1 8) (c.1 2).toNatClampNeg (0 : Int32))) 9 (vp_updL ((setA (setA (setA c 6 (upd (c.2.1 6) (c.1 2).toNatClampNeg a)) 7 (upd ((setA c 6 (upd (c.2.1 6) (c.1 2).toNatClampNeg a)).2.1 7) (c.1 2).toNatClampNeg b)) 8 (upd ((setA (setA c 6 (upd (c.2.1 6) (c.1 2).toNatClampNeg a)) 7 (upd ((setA c 6 (upd (c.2.1 6) (c.1 2).toNatClampNeg a)).2.1 7) (c.1 2).toNatClampNeg b)).2.1 8) (c.1 2).toNatClampNeg (0 : Int32))).2.2 9) (c.1 2).toNatClampNeg (fX1_told e))) 2 (((setL (setA (setA (setA c 6 (upd (c.2.1 6) (c.1 2).toNatClampNeg a)) 7 (upd ((setA c 6 (upd (c.2.1 6) (c.1 2).toNatClampNeg a)).2.1 7) (c.1 2).toNatClampNeg b)) 8 (upd ((setA (setA c 6 (upd (c.2.1 6) (c.1 2).toNatClampNeg a)) 7 (upd ((setA c 6 (upd (c.2.1 6) (c.1 2).toNatClampNeg a)).2.1 7) (c.1 2).toNatClampNeg b)).2.1 8) (c.1 2).toNatClampNeg (0 : Int32))) 9 (vp_updL ((setA (setA (setA c 6 (upd (c.2.1 6) (c.1 2).toNatClampNeg a)) 7 (upd ((setA c 6 (upd (c.2.1 6) (c.1 2).toNatClampNeg a)).2.1 7) (c.1 2).toNatClampNeg b)) 8 (upd ((setA (setA c 6 (upd (c.2.1 6) (c.1 2).toNatClampNeg a)) 7 (upd ((setA c 6 (upd (c.2.1 6) (c.1 2).toNatClampNeg a)).2.1 7) (c.1 2).toNatClampNeg b)).2.1 8) (c.1 2).toNatClampNeg (0 : Int32))).2.2 9) (c.1 2).toNatClampNeg (fX1_told e))).1 2) + (1 : Int32)))
      else
        (setI (setL (setA (setA (setA c 6 (upd (c.2.1 6) (c.1 2).toNatClampNeg a)) 7 (upd ((setA c 6 (upd (c.2.1 6) (c.1 2).toNatClampNeg a)).2.1 7) (c.1 2).toNatClampNeg b)) 8 (upd ((setA (setA c 6 (upd (c.2.1 6) (c.1 2).toNatClampNeg a)) 7 (upd ((setA c 6 (upd (c.2.1 6) (c.1 2).toNatClampNeg a)).2.1 7) (c.1 2).toNatClampNeg b)).2.1 8) (c.1 2).toNatClampNeg d)) 9 (vp_updL ((setA (setA (setA c 6 (upd (c.2.1 6) (c.1 2).toNatClampNeg a)) 7 (upd ((setA c 6 (upd (c.2.1 6) (c.1 2).toNatClampNeg a)).2.1 7) (c.1 2).toNatClampNeg b)) 8 (upd ((setA (setA c 6 (upd (c.2.1 6) (c.1 2).toNatClampNeg a)) 7 (upd ((setA c 6 (upd (c.2.1 6) (c.1 2).toNatClampNeg a)).2.1 7) (c.1 2).toNatClampNeg b)).2.1 8) (c.1 2).toNatClampNeg d)).2.2 9) (c.1 2).toNatClampNeg (fX1_told e))) 2 (((setL (setA (setA (setA c 6 (upd (c.2.1 6) (c.1 2).toNatClampNeg a)) 7 (upd ((setA c 6 (upd (c.2.1 6) (c.1 2).toNatClampNeg a)).2.1 7) (c.1 2).toNatClampNeg b)) 8 (upd ((setA (setA c 6 (upd (c.2.1 6) (c.1 2).toNatClampNeg a)) 7 (upd ((setA c 6 (upd (c.2.1 6) (c.1 2).toNatClampNeg a)).2.1 7) (c.1 2).toNatClampNeg b)).2.1 8) (c.1 2).toNatClampNeg d)) 9 (vp_updL ((setA (setA (setA c 6 (upd (c.2.1 6) (c.1 2).toNatClampNeg a)) 7 (upd ((setA c 6 (upd (c.2.1 6) (c.1 2).toNatClampNeg a)).2.1 7) (c.1 2).toNatClampNeg b)) 8 (upd ((setA (setA c 6 (upd (c.2.1 6) (c.1 2).toNatClampNeg a)) 7 (upd ((setA c 6 (upd (c.2.1 6) (c.1 2).toNatClampNeg a)).2.1 7) (c.1 2).toNatClampNeg b)).2.1 8) (c.1 2).toNatClampNeg d)).2.2 9) (c.1 2).toNatClampNeg (fX1_told e))).1 2) + (1 : Int32)))
def tX0_add : Tr := fun as σ k => match as with
  | [.ref 3, .int a, .int b, .int d, .long e] => ∃ (c : CS) (M : aS), σ = wC c ++ M ∧ vp_in (c.1 2) 32 ∧ k (some (.int (vX0_add c a b d e))) (wC (gX0_add c a b d e) ++ M)
  | _ => False
def ceX0_add : List (Nat × Nat × Tr) := (2 * 45, 1, tX0_hasSecond) :: (2 * 48, 1, tX1_told) :: (2 * 38, 1, tX0_hasFirst) :: []
theorem coX0_add (l : Launch) : CEok l yX0_add.cls 2 ceX0_add := ce_S (okX0_hasSecond l) (mw 169 (by decide +kernel) rfl) (mw 170 (by decide +kernel) rfl) (mw 2 (by decide +kernel) rfl) (mw 171 (by decide +kernel) rfl) (by decide) ⟨by decide, by decide⟩ (ce_S (okX1_told l) (mw 176 (by decide +kernel) rfl) (mw 177 (by decide +kernel) rfl) (mw 5 (by decide +kernel) rfl) (mw 178 (by decide +kernel) rfl) (by decide) ⟨by decide, by decide⟩ (ce_S (okX0_hasFirst l) (mw 162 (by decide +kernel) rfl) (mw 163 (by decide +kernel) rfl) (mw 2 (by decide +kernel) rfl) (mw 164 (by decide +kernel) rfl) (by decide) ⟨by decide, by decide⟩ (ce_0)))
theorem rcX0_add : ∀ as σ kk, tX0_add as σ kk → ∃ a r fs, as = .ref a :: r ∧ σ[a]? = some (.inr (0, fs)) := by
  intro as σ kk h
  unfold tX0_add at h; split at h
  · obtain ⟨c, M, rfl, -⟩ := h
    exact ⟨_, _, _, rfl, rfl⟩
  · exact h.elim
set_option maxRecDepth 20000 in
set_option maxHeartbeats 4000000 in
theorem okX0_add (l : Launch) : OK l yX0_add cX0_add 7 (some .int) 2 tX0_add := by
  intro D τ ρ A as σ post h
  unfold tX0_add at h; split at h
  · rename_i a b d e; obtain ⟨c, M, rfl, p1, hk⟩ := h
    refine met_of (P := pgX0_add) (CE := ceX0_add) (cut := []) (by decide) kkX0_add (coX0_add l) (Nat.le_of_ble_eq_true rfl) ?_
    intro G hG; refine hG 200 false 0 _ _ _ ?_
    refine And.intro (by first | assumption | (unfold vp_in; decide)) ?_
    refine And.intro (fun (h0 : a = 0) => ?_) (fun (h0 : ¬ a = 0) => ?_)
    · refine And.intro (by first | assumption | (unfold vp_in; decide)) ?_
      refine And.intro (fun (h1 : (fX0_hasSecond a) = 0) => ?_) (fun (h1 : ¬ (fX0_hasSecond a) = 0) => ?_)
      · refine And.intro (by first | assumption | (unfold vp_in; decide)) ?_
        refine And.intro (by first | assumption | (unfold vp_in; decide)) ?_
        exact And.intro trivial (leafS hk (congrArg (fun z => some (Value.int z)) (by unfold vX0_add; first | (rw [if_pos h0, if_pos h1]; done) | (rw [if_pos h0, if_pos h1]; rfl))) (show wC _ ++ M = _ by unfold gX0_add; first | (rw [if_pos h0, if_pos h1]; done) | (rw [if_pos h0, if_pos h1]; rfl)))
      · refine And.intro (by first | assumption | (unfold vp_in; decide)) ?_
        refine And.intro (by first | assumption | (unfold vp_in; decide)) ?_
        exact And.intro trivial (leafS hk (congrArg (fun z => some (Value.int z)) (by unfold vX0_add; first | (rw [if_pos h0, if_neg h1]; done) | (rw [if_pos h0, if_neg h1]; rfl))) (show wC _ ++ M = _ by unfold gX0_add; first | (rw [if_pos h0, if_neg h1]; done) | (rw [if_pos h0, if_neg h1]; rfl)))
    · refine And.intro (fun (h1 : (fX0_hasFirst a) = 0) => ?_) (fun (h1 : ¬ (fX0_hasFirst a) = 0) => ?_)
      · refine And.intro (by first | assumption | (unfold vp_in; decide)) ?_
        refine And.intro (fun (h2 : (fX0_hasSecond a) = 0) => ?_) (fun (h2 : ¬ (fX0_hasSecond a) = 0) => ?_)
        · refine And.intro (by first | assumption | (unfold vp_in; decide)) ?_
          refine And.intro (by first | assumption | (unfold vp_in; decide)) ?_
          exact And.intro trivial (leafS hk (congrArg (fun z => some (Value.int z)) (by unfold vX0_add; first | (rw [if_neg h0, if_pos h1, if_pos h2]; done) | (rw [if_neg h0, if_pos h1, if_pos h2]; rfl))) (show wC _ ++ M = _ by unfold gX0_add; first | (rw [if_neg h0, if_pos h1, if_pos h2]; done) | (rw [if_neg h0, if_pos h1, if_pos h2]; rfl)))
        · refine And.intro (by first | assumption | (unfold vp_in; decide)) ?_
          refine And.intro (by first | assumption | (unfold vp_in; decide)) ?_
          exact And.intro trivial (leafS hk (congrArg (fun z => some (Value.int z)) (by unfold vX0_add; first | (rw [if_neg h0, if_pos h1, if_neg h2]; done) | (rw [if_neg h0, if_pos h1, if_neg h2]; rfl))) (show wC _ ++ M = _ by unfold gX0_add; first | (rw [if_neg h0, if_pos h1, if_neg h2]; done) | (rw [if_neg h0, if_pos h1, if_neg h2]; rfl)))
      · refine And.intro (by first | assumption | (unfold vp_in; decide)) ?_
        refine And.intro (fun (h2 : (fX0_hasSecond a) = 0) => ?_) (fun (h2 : ¬ (fX0_hasSecond a) = 0) => ?_)
        · refine And.intro (by first | assumption | (unfold vp_in; decide)) ?_
          refine And.intro (by first | assumption | (unfold vp_in; decide)) ?_
          exact And.intro trivial (leafS hk (congrArg (fun z => some (Value.int z)) (by unfold vX0_add; first | (rw [if_neg h0, if_neg h1, if_pos h2]; done) | (rw [if_neg h0, if_neg h1, if_pos h2]; rfl))) (show wC _ ++ M = _ by unfold gX0_add; first | (rw [if_neg h0, if_neg h1, if_pos h2]; done) | (rw [if_neg h0, if_neg h1, if_pos h2]; rfl)))
        · refine And.intro (by first | assumption | (unfold vp_in; decide)) ?_
          refine And.intro (by first | assumption | (unfold vp_in; decide)) ?_
          exact And.intro trivial (leafS hk (congrArg (fun z => some (Value.int z)) (by unfold vX0_add; first | (rw [if_neg h0, if_neg h1, if_neg h2]; done) | (rw [if_neg h0, if_neg h1, if_neg h2]; rfl))) (show wC _ ++ M = _ by unfold gX0_add; first | (rw [if_neg h0, if_neg h1, if_neg h2]; done) | (rw [if_neg h0, if_neg h1, if_neg h2]; rfl)))
  · exact h.elim
def gX0_encloseMade (c : CS) (a : Int32) : CS :=
  if (c.2.1 6 a.toNatClampNeg).toInt < 2 ∨ 12 < (c.2.1 6 a.toNatClampNeg).toInt then
    (gX0_put c a (fX0_made (c.2.1 6 a.toNatClampNeg) (c.2.2 4 (c.2.1 7 a.toNatClampNeg).toNatClampNeg) (c.2.2 4 (c.2.1 8 a.toNatClampNeg).toNatClampNeg)) (fX0_made (c.2.1 6 a.toNatClampNeg) (c.2.2 5 (c.2.1 7 a.toNatClampNeg).toNatClampNeg) (c.2.2 5 (c.2.1 8 a.toNatClampNeg).toNatClampNeg)))
  else if (c.2.1 6 a.toNatClampNeg) = (2 : Int32) then
    (gX0_put c a (fX1_down (fX1_plus (c.2.2 4 (c.2.1 7 a.toNatClampNeg).toNatClampNeg) (c.2.2 4 (c.2.1 8 a.toNatClampNeg).toNatClampNeg))) (fX1_up (fX1_plus (c.2.2 5 (c.2.1 7 a.toNatClampNeg).toNatClampNeg) (c.2.2 5 (c.2.1 8 a.toNatClampNeg).toNatClampNeg))))
  else if (c.2.1 6 a.toNatClampNeg) = (3 : Int32) then
    (gX0_put c a (fX1_down (fX1_plus (c.2.2 4 (c.2.1 7 a.toNatClampNeg).toNatClampNeg) (fX1_opposite (c.2.2 5 (c.2.1 8 a.toNatClampNeg).toNatClampNeg)))) (fX1_up (fX1_plus (c.2.2 5 (c.2.1 7 a.toNatClampNeg).toNatClampNeg) (fX1_opposite (c.2.2 4 (c.2.1 8 a.toNatClampNeg).toNatClampNeg)))))
  else if (c.2.1 6 a.toNatClampNeg) = (4 : Int32) then
    (gX0_putFour c a (fX1_times (c.2.2 4 (c.2.1 7 a.toNatClampNeg).toNatClampNeg) (c.2.2 4 (c.2.1 8 a.toNatClampNeg).toNatClampNeg)) (fX1_times (c.2.2 4 (c.2.1 7 a.toNatClampNeg).toNatClampNeg) (c.2.2 5 (c.2.1 8 a.toNatClampNeg).toNatClampNeg)) (fX1_times (c.2.2 5 (c.2.1 7 a.toNatClampNeg).toNatClampNeg) (c.2.2 4 (c.2.1 8 a.toNatClampNeg).toNatClampNeg)) (fX1_times (c.2.2 5 (c.2.1 7 a.toNatClampNeg).toNatClampNeg) (c.2.2 5 (c.2.1 8 a.toNatClampNeg).toNatClampNeg)))
  else if (c.2.1 6 a.toNatClampNeg) = (5 : Int32) then
    if (fX1_isBelow (0 : Int64) (c.2.2 4 (c.2.1 8 a.toNatClampNeg).toNatClampNeg)) = 0 then
      if (fX1_isBelow (c.2.2 5 (c.2.1 8 a.toNatClampNeg).toNatClampNeg) (0 : Int64)) = 0 then
        (gX0_putWholeLine c a)
      else
        (gX0_putFour c a (fX1_over (c.2.2 4 (c.2.1 7 a.toNatClampNeg).toNatClampNeg) (c.2.2 4 (c.2.1 8 a.toNatClampNeg).toNatClampNeg)) (fX1_over (c.2.2 4 (c.2.1 7 a.toNatClampNeg).toNatClampNeg) (c.2.2 5 (c.2.1 8 a.toNatClampNeg).toNatClampNeg)) (fX1_over (c.2.2 5 (c.2.1 7 a.toNatClampNeg).toNatClampNeg) (c.2.2 4 (c.2.1 8 a.toNatClampNeg).toNatClampNeg)) (fX1_over (c.2.2 5 (c.2.1 7 a.toNatClampNeg).toNatClampNeg) (c.2.2 5 (c.2.1 8 a.toNatClampNeg).toNatClampNeg)))
    else
      (gX0_putFour c a (fX1_over (c.2.2 4 (c.2.1 7 a.toNatClampNeg).toNatClampNeg) (c.2.2 4 (c.2.1 8 a.toNatClampNeg).toNatClampNeg)) (fX1_over (c.2.2 4 (c.2.1 7 a.toNatClampNeg).toNatClampNeg) (c.2.2 5 (c.2.1 8 a.toNatClampNeg).toNatClampNeg)) (fX1_over (c.2.2 5 (c.2.1 7 a.toNatClampNeg).toNatClampNeg) (c.2.2 4 (c.2.1 8 a.toNatClampNeg).toNatClampNeg)) (fX1_over (c.2.2 5 (c.2.1 7 a.toNatClampNeg).toNatClampNeg) (c.2.2 5 (c.2.1 8 a.toNatClampNeg).toNatClampNeg)))
  else if (c.2.1 6 a.toNatClampNeg) = (6 : Int32) then
    (gX0_put c a (fX0_made (c.2.1 6 a.toNatClampNeg) (c.2.2 4 (c.2.1 7 a.toNatClampNeg).toNatClampNeg) (c.2.2 4 (c.2.1 8 a.toNatClampNeg).toNatClampNeg)) (fX0_made (c.2.1 6 a.toNatClampNeg) (c.2.2 5 (c.2.1 7 a.toNatClampNeg).toNatClampNeg) (c.2.2 5 (c.2.1 8 a.toNatClampNeg).toNatClampNeg)))
  else if (c.2.1 6 a.toNatClampNeg) = (7 : Int32) then
    (gX0_put c a (fX0_made (c.2.1 6 a.toNatClampNeg) (c.2.2 4 (c.2.1 7 a.toNatClampNeg).toNatClampNeg) (c.2.2 4 (c.2.1 8 a.toNatClampNeg).toNatClampNeg)) (fX0_made (c.2.1 6 a.toNatClampNeg) (c.2.2 5 (c.2.1 7 a.toNatClampNeg).toNatClampNeg) (c.2.2 5 (c.2.1 8 a.toNatClampNeg).toNatClampNeg)))
  else if (c.2.1 6 a.toNatClampNeg) = (8 : Int32) then
    (gX0_putSize c a (c.2.2 4 (c.2.1 7 a.toNatClampNeg).toNatClampNeg) (c.2.2 5 (c.2.1 7 a.toNatClampNeg).toNatClampNeg))
  else if (c.2.1 6 a.toNatClampNeg) = (9 : Int32) then
    (gX0_putRoot c a (c.2.2 4 (c.2.1 7 a.toNatClampNeg).toNatClampNeg) (c.2.2 5 (c.2.1 7 a.toNatClampNeg).toNatClampNeg))
  else if (c.2.1 6 a.toNatClampNeg) = (10 : Int32) then
    (gX0_putSquare (gX0_putSize c a (c.2.2 4 (c.2.1 7 a.toNatClampNeg).toNatClampNeg) (c.2.2 5 (c.2.1 7 a.toNatClampNeg).toNatClampNeg)) a ((gX0_putSize c a (c.2.2 4 (c.2.1 7 a.toNatClampNeg).toNatClampNeg) (c.2.2 5 (c.2.1 7 a.toNatClampNeg).toNatClampNeg)).2.2 4 a.toNatClampNeg) ((gX0_putSize c a (c.2.2 4 (c.2.1 7 a.toNatClampNeg).toNatClampNeg) (c.2.2 5 (c.2.1 7 a.toNatClampNeg).toNatClampNeg)).2.2 5 a.toNatClampNeg))
  else if (c.2.1 6 a.toNatClampNeg) = (11 : Int32) then
    (gX0_put c a (fX0_made (c.2.1 6 a.toNatClampNeg) (c.2.2 4 (c.2.1 7 a.toNatClampNeg).toNatClampNeg) (c.2.2 4 (c.2.1 8 a.toNatClampNeg).toNatClampNeg)) (fX0_made (c.2.1 6 a.toNatClampNeg) (c.2.2 5 (c.2.1 7 a.toNatClampNeg).toNatClampNeg) (c.2.2 5 (c.2.1 8 a.toNatClampNeg).toNatClampNeg)))
  else
    (gX0_put c a (fX1_opposite (c.2.2 5 (c.2.1 7 a.toNatClampNeg).toNatClampNeg)) (fX1_opposite (c.2.2 4 (c.2.1 7 a.toNatClampNeg).toNatClampNeg)))
def tX0_encloseMade : Tr := fun as σ k => match as with
  | [.ref 3, .int a] => ∃ (c : CS) (M : aS), σ = wC c ++ M ∧ vp_in a 32 ∧ vp_in (c.2.1 7 a.toNatClampNeg) 32 ∧ vp_in (c.2.1 8 a.toNatClampNeg) 32 ∧ k none (wC (gX0_encloseMade c a) ++ M)
  | _ => False
def ceX0_encloseMade : List (Nat × Nat × Tr) := (2 * 66, 2, tX1_plus) :: (2 * 119, 1, tX1_down) :: (2 * 122, 1, tX1_up) :: (2 * 111 + 1, 3 + 1, tX0_put) :: (2 * 70, 1, tX1_opposite) :: (2 * 73, 2, tX1_times) :: (2 * 125 + 1, 5 + 1, tX0_putFour) :: (2 * 129, 2, tX1_isBelow) :: (2 * 76, 2, tX1_over) :: (2 * 133 + 1, 1 + 1, tX0_putWholeLine) :: (2 * 62, 3, tX0_made) :: (2 * 136 + 1, 3 + 1, tX0_putSize) :: (2 * 139 + 1, 3 + 1, tX0_putRoot) :: (2 * 142 + 1, 3 + 1, tX0_putSquare) :: []
theorem coX0_encloseMade (l : Launch) : CEok l yX0_encloseMade.cls 5 ceX0_encloseMade := ce_S (okX1_plus l) (mw 223 (by decide +kernel) rfl) (mw 224 (by decide +kernel) rfl) (mw 5 (by decide +kernel) rfl) (mw 225 (by decide +kernel) rfl) (by decide) ⟨by decide, by decide⟩ (ce_S (okX1_down l) (mw 255 (by decide +kernel) rfl) (mw 256 (by decide +kernel) rfl) (mw 5 (by decide +kernel) rfl) (mw 257 (by decide +kernel) rfl) (by decide) ⟨by decide, by decide⟩ (ce_S (okX1_up l) (mw 267 (by decide +kernel) rfl) (mw 262 (by decide +kernel) rfl) (mw 5 (by decide +kernel) rfl) (mw 263 (by decide +kernel) rfl) (by decide) ⟨by decide, by decide⟩ (ce_V (ci := 0) (n := 3) rfl (okX0_put l) rcX0_put (mw 208 (by decide +kernel) rfl) (mw 210 (by decide +kernel) rfl) (ms 2 (by decide +kernel) rfl) (mw 2 (by decide +kernel) rfl) (mw 211 (by decide +kernel) rfl) rfl (by decide) ⟨by decide, by decide⟩ (ce_S (okX1_opposite l) (mw 268 (by decide +kernel) rfl) (mw 259 (by decide +kernel) rfl) (mw 5 (by decide +kernel) rfl) (mw 260 (by decide +kernel) rfl) (by decide) ⟨by decide, by decide⟩ (ce_S (okX1_times l) (mw 269 (by decide +kernel) rfl) (mw 270 (by decide +kernel) rfl) (mw 5 (by decide +kernel) rfl) (mw 271 (by decide +kernel) rfl) (by decide) ⟨by decide, by decide⟩ (ce_V (ci := 0) (n := 5) rfl (okX0_putFour l) rcX0_putFour (mw 278 (by decide +kernel) rfl) (mw 280 (by decide +kernel) rfl) (ms 5 (by decide +kernel) rfl) (mw 2 (by decide +kernel) rfl) (mw 281 (by decide +kernel) rfl) rfl (by decide) ⟨by decide, by decide⟩ (ce_S (okX1_isBelow l) (mw 292 (by decide +kernel) rfl) (mw 134 (by decide +kernel) rfl) (mw 5 (by decide +kernel) rfl) (mw 135 (by decide +kernel) rfl) (by decide) ⟨by decide, by decide⟩ (ce_S (okX1_over l) (mw 293 (by decide +kernel) rfl) (mw 294 (by decide +kernel) rfl) (mw 5 (by decide +kernel) rfl) (mw 295 (by decide +kernel) rfl) (by decide) ⟨by decide, by decide⟩ (ce_V (ci := 0) (n := 1) rfl (okX0_putWholeLine l) rcX0_putWholeLine (mw 213 (by decide +kernel) rfl) (mw 215 (by decide +kernel) rfl) (ms 3 (by decide +kernel) rfl) (mw 2 (by decide +kernel) rfl) (mw 216 (by decide +kernel) rfl) rfl (by decide) ⟨by decide, by decide⟩ (ce_S (okX0_made l) (mw 322 (by decide +kernel) rfl) (mw 323 (by decide +kernel) rfl) (mw 2 (by decide +kernel) rfl) (mw 324 (by decide +kernel) rfl) (by decide) ⟨by decide, by decide⟩ (ce_V (ci := 0) (n := 3) rfl (okX0_putSize l) rcX0_putSize (mw 299 (by decide +kernel) rfl) (mw 301 (by decide +kernel) rfl) (ms 6 (by decide +kernel) rfl) (mw 2 (by decide +kernel) rfl) (mw 302 (by decide +kernel) rfl) rfl (by decide) ⟨by decide, by decide⟩ (ce_V (ci := 0) (n := 3) rfl (okX0_putRoot l) rcX0_putRoot (mw 303 (by decide +kernel) rfl) (mw 305 (by decide +kernel) rfl) (ms 7 (by decide +kernel) rfl) (mw 2 (by decide +kernel) rfl) (mw 306 (by decide +kernel) rfl) rfl (by decide) ⟨by decide, by decide⟩ (ce_V (ci := 0) (n := 3) rfl (okX0_putSquare l) rcX0_putSquare (mw 318 (by decide +kernel) rfl) (mw 320 (by decide +kernel) rfl) (ms 8 (by decide +kernel) rfl) (mw 2 (by decide +kernel) rfl) (mw 321 (by decide +kernel) rfl) rfl (by decide) ⟨by decide, by decide⟩ (ce_0))))))))))))))
theorem rcX0_encloseMade : ∀ as σ kk, tX0_encloseMade as σ kk → ∃ a r fs, as = .ref a :: r ∧ σ[a]? = some (.inr (0, fs)) := by
  intro as σ kk h
  unfold tX0_encloseMade at h; split at h
  · obtain ⟨c, M, rfl, -⟩ := h
    exact ⟨_, _, _, rfl, rfl⟩
  · exact h.elim
set_option maxRecDepth 20000 in
set_option maxHeartbeats 4000000 in
theorem okX0_encloseMade (l : Launch) : OK l yX0_encloseMade cX0_encloseMade 10 none 5 tX0_encloseMade := by
  intro D τ ρ A as σ post h
  unfold tX0_encloseMade at h; split at h
  · rename_i a; obtain ⟨c, M, rfl, p1, p2, p3, hk⟩ := h
    refine met_of (P := pgX0_encloseMade) (CE := ceX0_encloseMade) (cut := []) (by decide) kkX0_encloseMade (coX0_encloseMade l) (Nat.le_of_ble_eq_true rfl) ?_
    intro G hG; refine hG 200 false 0 _ _ _ ?_
    refine And.intro (by first | assumption | (unfold vp_in; decide)) ?_
    refine And.intro (by first | assumption | (unfold vp_in; decide)) ?_
    refine And.intro (by first | assumption | (unfold vp_in; decide)) ?_
    refine And.intro (by first | assumption | (unfold vp_in; decide)) ?_
    refine And.intro (by first | assumption | (unfold vp_in; decide)) ?_
    refine And.intro (by first | assumption | (unfold vp_in; decide)) ?_
    refine And.intro (by first | assumption | (unfold vp_in; decide)) ?_
    refine And.intro (by first | assumption | (unfold vp_in; decide)) ?_
    refine And.intro (by first | assumption | (unfold vp_in; decide)) ?_
    refine And.intro (fun (h0 : (c.2.1 6 a.toNatClampNeg).toInt < 2 ∨ 12 < (c.2.1 6 a.toNatClampNeg).toInt) => ?_) ?_
    · refine And.intro (by first | assumption | (unfold vp_in; decide)) ?_
      refine And.intro (by first | assumption | (unfold vp_in; decide)) ?_
      refine Exists.intro c (Exists.intro M (And.intro rfl (And.intro (by first | assumption | (unfold vp_in; decide)) (?_))))
      exact And.intro trivial (leafS hk rfl (show wC _ ++ M = _ by unfold gX0_encloseMade; first | (rw [if_pos h0]; done) | (rw [if_pos h0]; rfl)))
    refine And.intro (fun (hw2 : (c.2.1 6 a.toNatClampNeg) = (2 : Int32)) => ?_) ?_
    · refine Exists.intro c (Exists.intro M (And.intro rfl (And.intro (by first | assumption | (unfold vp_in; decide)) (?_))))
      exact And.intro trivial (leafS hk rfl (show wC _ ++ M = _ by unfold gX0_encloseMade; first | (rw [hw2, if_neg (show ¬ ((2 : Int32).toInt < 2 ∨ 12 < (2 : Int32).toInt) by decide), if_pos rfl]; done) | (rw [hw2, if_neg (show ¬ ((2 : Int32).toInt < 2 ∨ 12 < (2 : Int32).toInt) by decide), if_pos rfl]; rfl)))
    refine And.intro (fun (hw3 : (c.2.1 6 a.toNatClampNeg) = (3 : Int32)) => ?_) ?_
    · refine Exists.intro c (Exists.intro M (And.intro rfl (And.intro (by first | assumption | (unfold vp_in; decide)) (?_))))
      exact And.intro trivial (leafS hk rfl (show wC _ ++ M = _ by unfold gX0_encloseMade; first | (rw [hw3, if_neg (show ¬ ((3 : Int32).toInt < 2 ∨ 12 < (3 : Int32).toInt) by decide), if_neg (show ¬ ((3 : Int32) = 2) by decide), if_pos rfl]; done) | (rw [hw3, if_neg (show ¬ ((3 : Int32).toInt < 2 ∨ 12 < (3 : Int32).toInt) by decide), if_neg (show ¬ ((3 : Int32) = 2) by decide), if_pos rfl]; rfl)))
    refine And.intro (fun (hw4 : (c.2.1 6 a.toNatClampNeg) = (4 : Int32)) => ?_) ?_
    · refine Exists.intro c (Exists.intro M (And.intro rfl (And.intro (by first | assumption | (unfold vp_in; decide)) (?_))))
      exact And.intro trivial (leafS hk rfl (show wC _ ++ M = _ by unfold gX0_encloseMade; first | (rw [hw4, if_neg (show ¬ ((4 : Int32).toInt < 2 ∨ 12 < (4 : Int32).toInt) by decide), if_neg (show ¬ ((4 : Int32) = 2) by decide), if_neg (show ¬ ((4 : Int32) = 3) by decide), if_pos rfl]; done) | (rw [hw4, if_neg (show ¬ ((4 : Int32).toInt < 2 ∨ 12 < (4 : Int32).toInt) by decide), if_neg (show ¬ ((4 : Int32) = 2) by decide), if_neg (show ¬ ((4 : Int32) = 3) by decide), if_pos rfl]; rfl)))
    refine And.intro (fun (hw5 : (c.2.1 6 a.toNatClampNeg) = (5 : Int32)) => ?_) ?_
    · refine And.intro (fun (h6 : ¬ (fX1_isBelow (0 : Int64) (c.2.2 4 (c.2.1 8 a.toNatClampNeg).toNatClampNeg)) = 0) => ?_) (fun h6q => have h6 : (fX1_isBelow (0 : Int64) (c.2.2 4 (c.2.1 8 a.toNatClampNeg).toNatClampNeg)) = 0 := Classical.not_not.mp h6q; ?_)
      · refine Exists.intro c (Exists.intro M (And.intro rfl (And.intro (by first | assumption | (unfold vp_in; decide)) (?_))))
        exact And.intro trivial (leafS hk rfl (show wC _ ++ M = _ by unfold gX0_encloseMade; first | (rw [hw5, if_neg (show ¬ ((5 : Int32).toInt < 2 ∨ 12 < (5 : Int32).toInt) by decide), if_neg (show ¬ ((5 : Int32) = 2) by decide), if_neg (show ¬ ((5 : Int32) = 3) by decide), if_neg (show ¬ ((5 : Int32) = 4) by decide), if_pos rfl, if_neg h6]; done) | (rw [hw5, if_neg (show ¬ ((5 : Int32).toInt < 2 ∨ 12 < (5 : Int32).toInt) by decide), if_neg (show ¬ ((5 : Int32) = 2) by decide), if_neg (show ¬ ((5 : Int32) = 3) by decide), if_neg (show ¬ ((5 : Int32) = 4) by decide), if_pos rfl, if_neg h6]; rfl)))
      · refine And.intro (fun (h7 : ¬ (fX1_isBelow (c.2.2 5 (c.2.1 8 a.toNatClampNeg).toNatClampNeg) (0 : Int64)) = 0) => ?_) (fun h7q => have h7 : (fX1_isBelow (c.2.2 5 (c.2.1 8 a.toNatClampNeg).toNatClampNeg) (0 : Int64)) = 0 := Classical.not_not.mp h7q; ?_)
        · refine Exists.intro c (Exists.intro M (And.intro rfl (And.intro (by first | assumption | (unfold vp_in; decide)) (?_))))
          exact And.intro trivial (leafS hk rfl (show wC _ ++ M = _ by unfold gX0_encloseMade; first | (rw [hw5, if_neg (show ¬ ((5 : Int32).toInt < 2 ∨ 12 < (5 : Int32).toInt) by decide), if_neg (show ¬ ((5 : Int32) = 2) by decide), if_neg (show ¬ ((5 : Int32) = 3) by decide), if_neg (show ¬ ((5 : Int32) = 4) by decide), if_pos rfl, if_pos h6, if_neg h7]; done) | (rw [hw5, if_neg (show ¬ ((5 : Int32).toInt < 2 ∨ 12 < (5 : Int32).toInt) by decide), if_neg (show ¬ ((5 : Int32) = 2) by decide), if_neg (show ¬ ((5 : Int32) = 3) by decide), if_neg (show ¬ ((5 : Int32) = 4) by decide), if_pos rfl, if_pos h6, if_neg h7]; rfl)))
        · refine Exists.intro c (Exists.intro M (And.intro rfl (And.intro (by first | assumption | (unfold vp_in; decide)) (?_))))
          exact And.intro trivial (leafS hk rfl (show wC _ ++ M = _ by unfold gX0_encloseMade; first | (rw [hw5, if_neg (show ¬ ((5 : Int32).toInt < 2 ∨ 12 < (5 : Int32).toInt) by decide), if_neg (show ¬ ((5 : Int32) = 2) by decide), if_neg (show ¬ ((5 : Int32) = 3) by decide), if_neg (show ¬ ((5 : Int32) = 4) by decide), if_pos rfl, if_pos h6, if_pos h7]; done) | (rw [hw5, if_neg (show ¬ ((5 : Int32).toInt < 2 ∨ 12 < (5 : Int32).toInt) by decide), if_neg (show ¬ ((5 : Int32) = 2) by decide), if_neg (show ¬ ((5 : Int32) = 3) by decide), if_neg (show ¬ ((5 : Int32) = 4) by decide), if_pos rfl, if_pos h6, if_pos h7]; rfl)))
    refine And.intro (fun (hw6 : (c.2.1 6 a.toNatClampNeg) = (6 : Int32)) => ?_) ?_
    · refine And.intro (by first | assumption | (unfold vp_in; decide)) ?_
      refine And.intro (by first | assumption | (unfold vp_in; decide)) ?_
      refine Exists.intro c (Exists.intro M (And.intro rfl (And.intro (by first | assumption | (unfold vp_in; decide)) (?_))))
      exact And.intro trivial (leafS hk rfl (show wC _ ++ M = _ by unfold gX0_encloseMade; first | (rw [hw6, if_neg (show ¬ ((6 : Int32).toInt < 2 ∨ 12 < (6 : Int32).toInt) by decide), if_neg (show ¬ ((6 : Int32) = 2) by decide), if_neg (show ¬ ((6 : Int32) = 3) by decide), if_neg (show ¬ ((6 : Int32) = 4) by decide), if_neg (show ¬ ((6 : Int32) = 5) by decide), if_pos rfl]; done) | (rw [hw6, if_neg (show ¬ ((6 : Int32).toInt < 2 ∨ 12 < (6 : Int32).toInt) by decide), if_neg (show ¬ ((6 : Int32) = 2) by decide), if_neg (show ¬ ((6 : Int32) = 3) by decide), if_neg (show ¬ ((6 : Int32) = 4) by decide), if_neg (show ¬ ((6 : Int32) = 5) by decide), if_pos rfl]; rfl)))
    refine And.intro (fun (hw7 : (c.2.1 6 a.toNatClampNeg) = (7 : Int32)) => ?_) ?_
    · refine And.intro (by first | assumption | (unfold vp_in; decide)) ?_
      refine And.intro (by first | assumption | (unfold vp_in; decide)) ?_
      refine Exists.intro c (Exists.intro M (And.intro rfl (And.intro (by first | assumption | (unfold vp_in; decide)) (?_))))
      exact And.intro trivial (leafS hk rfl (show wC _ ++ M = _ by unfold gX0_encloseMade; first | (rw [hw7, if_neg (show ¬ ((7 : Int32).toInt < 2 ∨ 12 < (7 : Int32).toInt) by decide), if_neg (show ¬ ((7 : Int32) = 2) by decide), if_neg (show ¬ ((7 : Int32) = 3) by decide), if_neg (show ¬ ((7 : Int32) = 4) by decide), if_neg (show ¬ ((7 : Int32) = 5) by decide), if_neg (show ¬ ((7 : Int32) = 6) by decide), if_pos rfl]; done) | (rw [hw7, if_neg (show ¬ ((7 : Int32).toInt < 2 ∨ 12 < (7 : Int32).toInt) by decide), if_neg (show ¬ ((7 : Int32) = 2) by decide), if_neg (show ¬ ((7 : Int32) = 3) by decide), if_neg (show ¬ ((7 : Int32) = 4) by decide), if_neg (show ¬ ((7 : Int32) = 5) by decide), if_neg (show ¬ ((7 : Int32) = 6) by decide), if_pos rfl]; rfl)))
    refine And.intro (fun (hw8 : (c.2.1 6 a.toNatClampNeg) = (8 : Int32)) => ?_) ?_
    · refine Exists.intro c (Exists.intro M (And.intro rfl (And.intro (by first | assumption | (unfold vp_in; decide)) (?_))))
      exact And.intro trivial (leafS hk rfl (show wC _ ++ M = _ by unfold gX0_encloseMade; first | (rw [hw8, if_neg (show ¬ ((8 : Int32).toInt < 2 ∨ 12 < (8 : Int32).toInt) by decide), if_neg (show ¬ ((8 : Int32) = 2) by decide), if_neg (show ¬ ((8 : Int32) = 3) by decide), if_neg (show ¬ ((8 : Int32) = 4) by decide), if_neg (show ¬ ((8 : Int32) = 5) by decide), if_neg (show ¬ ((8 : Int32) = 6) by decide), if_neg (show ¬ ((8 : Int32) = 7) by decide), if_pos rfl]; done) | (rw [hw8, if_neg (show ¬ ((8 : Int32).toInt < 2 ∨ 12 < (8 : Int32).toInt) by decide), if_neg (show ¬ ((8 : Int32) = 2) by decide), if_neg (show ¬ ((8 : Int32) = 3) by decide), if_neg (show ¬ ((8 : Int32) = 4) by decide), if_neg (show ¬ ((8 : Int32) = 5) by decide), if_neg (show ¬ ((8 : Int32) = 6) by decide), if_neg (show ¬ ((8 : Int32) = 7) by decide), if_pos rfl]; rfl)))
    refine And.intro (fun (hw9 : (c.2.1 6 a.toNatClampNeg) = (9 : Int32)) => ?_) ?_
    · refine Exists.intro c (Exists.intro M (And.intro rfl (And.intro (by first | assumption | (unfold vp_in; decide)) (?_))))
      exact And.intro trivial (leafS hk rfl (show wC _ ++ M = _ by unfold gX0_encloseMade; first | (rw [hw9, if_neg (show ¬ ((9 : Int32).toInt < 2 ∨ 12 < (9 : Int32).toInt) by decide), if_neg (show ¬ ((9 : Int32) = 2) by decide), if_neg (show ¬ ((9 : Int32) = 3) by decide), if_neg (show ¬ ((9 : Int32) = 4) by decide), if_neg (show ¬ ((9 : Int32) = 5) by decide), if_neg (show ¬ ((9 : Int32) = 6) by decide), if_neg (show ¬ ((9 : Int32) = 7) by decide), if_neg (show ¬ ((9 : Int32) = 8) by decide), if_pos rfl]; done) | (rw [hw9, if_neg (show ¬ ((9 : Int32).toInt < 2 ∨ 12 < (9 : Int32).toInt) by decide), if_neg (show ¬ ((9 : Int32) = 2) by decide), if_neg (show ¬ ((9 : Int32) = 3) by decide), if_neg (show ¬ ((9 : Int32) = 4) by decide), if_neg (show ¬ ((9 : Int32) = 5) by decide), if_neg (show ¬ ((9 : Int32) = 6) by decide), if_neg (show ¬ ((9 : Int32) = 7) by decide), if_neg (show ¬ ((9 : Int32) = 8) by decide), if_pos rfl]; rfl)))
    refine And.intro (fun (hw10 : (c.2.1 6 a.toNatClampNeg) = (10 : Int32)) => ?_) ?_
    · refine Exists.intro c (Exists.intro M (And.intro rfl (And.intro (by first | assumption | (unfold vp_in; decide)) (?_))))
      refine And.intro (by first | assumption | (unfold vp_in; decide)) ?_
      refine And.intro (by first | assumption | (unfold vp_in; decide)) ?_
      refine Exists.intro (gX0_putSize c a (c.2.2 4 (c.2.1 7 a.toNatClampNeg).toNatClampNeg) (c.2.2 5 (c.2.1 7 a.toNatClampNeg).toNatClampNeg)) (Exists.intro M (And.intro rfl (And.intro (by first | assumption | (unfold vp_in; decide)) (?_))))
      exact And.intro trivial (leafS hk rfl (show wC _ ++ M = _ by unfold gX0_encloseMade; first | (rw [hw10, if_neg (show ¬ ((10 : Int32).toInt < 2 ∨ 12 < (10 : Int32).toInt) by decide), if_neg (show ¬ ((10 : Int32) = 2) by decide), if_neg (show ¬ ((10 : Int32) = 3) by decide), if_neg (show ¬ ((10 : Int32) = 4) by decide), if_neg (show ¬ ((10 : Int32) = 5) by decide), if_neg (show ¬ ((10 : Int32) = 6) by decide), if_neg (show ¬ ((10 : Int32) = 7) by decide), if_neg (show ¬ ((10 : Int32) = 8) by decide), if_neg (show ¬ ((10 : Int32) = 9) by decide), if_pos rfl]; done) | (rw [hw10, if_neg (show ¬ ((10 : Int32).toInt < 2 ∨ 12 < (10 : Int32).toInt) by decide), if_neg (show ¬ ((10 : Int32) = 2) by decide), if_neg (show ¬ ((10 : Int32) = 3) by decide), if_neg (show ¬ ((10 : Int32) = 4) by decide), if_neg (show ¬ ((10 : Int32) = 5) by decide), if_neg (show ¬ ((10 : Int32) = 6) by decide), if_neg (show ¬ ((10 : Int32) = 7) by decide), if_neg (show ¬ ((10 : Int32) = 8) by decide), if_neg (show ¬ ((10 : Int32) = 9) by decide), if_pos rfl]; rfl)))
    refine And.intro (fun (hw11 : (c.2.1 6 a.toNatClampNeg) = (11 : Int32)) => ?_) ?_
    · refine And.intro (by first | assumption | (unfold vp_in; decide)) ?_
      refine And.intro (by first | assumption | (unfold vp_in; decide)) ?_
      refine Exists.intro c (Exists.intro M (And.intro rfl (And.intro (by first | assumption | (unfold vp_in; decide)) (?_))))
      exact And.intro trivial (leafS hk rfl (show wC _ ++ M = _ by unfold gX0_encloseMade; first | (rw [hw11, if_neg (show ¬ ((11 : Int32).toInt < 2 ∨ 12 < (11 : Int32).toInt) by decide), if_neg (show ¬ ((11 : Int32) = 2) by decide), if_neg (show ¬ ((11 : Int32) = 3) by decide), if_neg (show ¬ ((11 : Int32) = 4) by decide), if_neg (show ¬ ((11 : Int32) = 5) by decide), if_neg (show ¬ ((11 : Int32) = 6) by decide), if_neg (show ¬ ((11 : Int32) = 7) by decide), if_neg (show ¬ ((11 : Int32) = 8) by decide), if_neg (show ¬ ((11 : Int32) = 9) by decide), if_neg (show ¬ ((11 : Int32) = 10) by decide), if_pos rfl]; done) | (rw [hw11, if_neg (show ¬ ((11 : Int32).toInt < 2 ∨ 12 < (11 : Int32).toInt) by decide), if_neg (show ¬ ((11 : Int32) = 2) by decide), if_neg (show ¬ ((11 : Int32) = 3) by decide), if_neg (show ¬ ((11 : Int32) = 4) by decide), if_neg (show ¬ ((11 : Int32) = 5) by decide), if_neg (show ¬ ((11 : Int32) = 6) by decide), if_neg (show ¬ ((11 : Int32) = 7) by decide), if_neg (show ¬ ((11 : Int32) = 8) by decide), if_neg (show ¬ ((11 : Int32) = 9) by decide), if_neg (show ¬ ((11 : Int32) = 10) by decide), if_pos rfl]; rfl)))
    refine And.intro (fun (hw12 : (c.2.1 6 a.toNatClampNeg) = (12 : Int32)) => ?_) ?_
    · refine Exists.intro c (Exists.intro M (And.intro rfl (And.intro (by first | assumption | (unfold vp_in; decide)) (?_))))
      exact And.intro trivial (leafS hk rfl (show wC _ ++ M = _ by unfold gX0_encloseMade; first | (rw [hw12, if_neg (show ¬ ((12 : Int32).toInt < 2 ∨ 12 < (12 : Int32).toInt) by decide), if_neg (show ¬ ((12 : Int32) = 2) by decide), if_neg (show ¬ ((12 : Int32) = 3) by decide), if_neg (show ¬ ((12 : Int32) = 4) by decide), if_neg (show ¬ ((12 : Int32) = 5) by decide), if_neg (show ¬ ((12 : Int32) = 6) by decide), if_neg (show ¬ ((12 : Int32) = 7) by decide), if_neg (show ¬ ((12 : Int32) = 8) by decide), if_neg (show ¬ ((12 : Int32) = 9) by decide), if_neg (show ¬ ((12 : Int32) = 10) by decide), if_neg (show ¬ ((12 : Int32) = 11) by decide)]; done) | (rw [hw12, if_neg (show ¬ ((12 : Int32).toInt < 2 ∨ 12 < (12 : Int32).toInt) by decide), if_neg (show ¬ ((12 : Int32) = 2) by decide), if_neg (show ¬ ((12 : Int32) = 3) by decide), if_neg (show ¬ ((12 : Int32) = 4) by decide), if_neg (show ¬ ((12 : Int32) = 5) by decide), if_neg (show ¬ ((12 : Int32) = 6) by decide), if_neg (show ¬ ((12 : Int32) = 7) by decide), if_neg (show ¬ ((12 : Int32) = 8) by decide), if_neg (show ¬ ((12 : Int32) = 9) by decide), if_neg (show ¬ ((12 : Int32) = 10) by decide), if_neg (show ¬ ((12 : Int32) = 11) by decide)]; rfl)))
    exact trivial
  · exact h.elim
def vX2_has (c : CS) (a : Int32) : Int32 :=
  if a < 0 then
    (0 : Int32)
  else
    if (c.1 3) ≤ a then
      (0 : Int32)
    else
      (1 : Int32)
def tX2_has : Tr := fun as σ k => match as with
  | [.ref 11, .int a] => ∃ (c : CS) (M : aS), σ = wC c ++ M ∧ k (some (.int (vX2_has c a))) (wC c ++ M)
  | _ => False
def ceX2_has : List (Nat × Nat × Tr) := []
theorem coX2_has (l : Launch) : CEok l yX2_has.cls 0 ceX2_has := ce_0
theorem rcX2_has : ∀ as σ kk, tX2_has as σ kk → ∃ a r fs, as = .ref a :: r ∧ σ[a]? = some (.inr (1, fs)) := by
  intro as σ kk h
  unfold tX2_has at h; split at h
  · obtain ⟨c, M, rfl, -⟩ := h
    exact ⟨_, _, _, rfl, rfl⟩
  · exact h.elim
set_option maxRecDepth 20000 in
set_option maxHeartbeats 4000000 in
theorem okX2_has (l : Launch) : OK l yX2_has cX2_has 2 (some .boolean) 0 tX2_has := by
  intro D τ ρ A as σ post h
  unfold tX2_has at h; split at h
  · rename_i a; obtain ⟨c, M, rfl, hk⟩ := h
    refine met_of (P := pgX2_has) (CE := ceX2_has) (cut := []) (by decide) kkX2_has (coX2_has l) (Nat.le_of_ble_eq_true rfl) ?_
    intro G hG; refine hG 200 false 0 _ _ _ ?_
    refine And.intro (fun (h0 : a < 0) => ?_) (fun (h0 : ¬ a < 0) => ?_)
    · exact And.intro (Or.inl rfl) (leafS hk (congrArg (fun z => some (Value.int z)) (by unfold vX2_has; first | (rw [if_pos h0]; done) | (rw [if_pos h0]; rfl))) rfl)
    · refine And.intro (fun (h1 : (c.1 3) ≤ a) => ?_) (fun (h1 : ¬ (c.1 3) ≤ a) => ?_)
      · exact And.intro (Or.inl rfl) (leafS hk (congrArg (fun z => some (Value.int z)) (by unfold vX2_has; first | (rw [if_neg h0, if_pos h1]; done) | (rw [if_neg h0, if_pos h1]; rfl))) rfl)
      · exact And.intro (Or.inr rfl) (leafS hk (congrArg (fun z => some (Value.int z)) (by unfold vX2_has; first | (rw [if_neg h0, if_neg h1]; done) | (rw [if_neg h0, if_neg h1]; rfl))) rfl)
  · exact h.elim
def gX2_end (c : CS)  : CS :=
  (setI c 3 (0 : Int32))
def tX2_end : Tr := fun as σ k => match as with
  | [.ref 11] => ∃ (c : CS) (M : aS), σ = wC c ++ M ∧ k none (wC (gX2_end c ) ++ M)
  | _ => False
def ceX2_end : List (Nat × Nat × Tr) := []
theorem coX2_end (l : Launch) : CEok l yX2_end.cls 0 ceX2_end := ce_0
theorem rcX2_end : ∀ as σ kk, tX2_end as σ kk → ∃ a r fs, as = .ref a :: r ∧ σ[a]? = some (.inr (1, fs)) := by
  intro as σ kk h
  unfold tX2_end at h; split at h
  · obtain ⟨c, M, rfl, -⟩ := h
    exact ⟨_, _, _, rfl, rfl⟩
  · exact h.elim
set_option maxRecDepth 20000 in
set_option maxHeartbeats 4000000 in
theorem okX2_end (l : Launch) : OK l yX2_end cX2_end 1 none 0 tX2_end := by
  intro D τ ρ A as σ post h
  unfold tX2_end at h; split at h
  · obtain ⟨c, M, rfl, hk⟩ := h
    refine met_of (P := pgX2_end) (CE := ceX2_end) (cut := []) (by decide) kkX2_end (coX2_end l) (Nat.le_of_ble_eq_true rfl) ?_
    intro G hG; refine hG 200 false 0 _ _ _ ?_
    exact And.intro trivial (leafS hk rfl (show wC _ ++ M = _ by unfold gX2_end; rfl))
  · exact h.elim
end
section
def bX0_withParts_0 (c : CS) (a : Int32) (kr : Int32 → CS → Prop) (kc9 : Int32 → Int32 → CS → Prop) : Prop :=
  kc9 a ((c.1 2) - (1 : Int32)) c
def bX0_withParts_9 (c : CS) (l2 : Int32) (l3 : Int32) (kr : Int32 → CS → Prop) (kc9 : Int32 → Int32 → CS → Prop) : Prop :=
  (if l3 < 0 then
    kr l2 c
  else
    (if ((l2.toUInt32 >>> (l3.toUInt32 &&& Int32.toUInt32 31)).toInt32 &&& (1 : Int32)) = 0 then
      kc9 l2 (l3 + (-1 : Int32)) c
    else
      (vp_in l3 32 ∧ (if (fX0_hasFirst (c.2.1 6 l3.toNatClampNeg)) = 0 then
        kc9 l2 (l3 + (-1 : Int32)) c
      else
        (vp_in l3 32 ∧ (vp_in l3 32 ∧ (if (fX0_hasSecond (c.2.1 6 l3.toNatClampNeg)) = 0 then
          kc9 (l2 ||| ((1 : Int32) <<< ((c.2.1 7 l3.toNatClampNeg) &&& 31))) (l3 + (-1 : Int32)) c
        else
          (vp_in l3 32 ∧ kc9 ((l2 ||| ((1 : Int32) <<< ((c.2.1 7 l3.toNatClampNeg) &&& 31))) ||| ((1 : Int32) <<< ((c.2.1 8 l3.toNatClampNeg) &&& 31))) (l3 + (-1 : Int32)) c))))))))
def ceX0_withParts : List (Nat × Nat × Tr) := (2 * 38, 1, tX0_hasFirst) :: (2 * 45, 1, tX0_hasSecond) :: []
theorem coX0_withParts (l : Launch) : CEok l yX0_withParts.cls 1 ceX0_withParts := ce_S (okX0_hasFirst l) (mw 162 (by decide +kernel) rfl) (mw 163 (by decide +kernel) rfl) (mw 2 (by decide +kernel) rfl) (mw 164 (by decide +kernel) rfl) (by decide) ⟨by decide, by decide⟩ (ce_S (okX0_hasSecond l) (mw 169 (by decide +kernel) rfl) (mw 170 (by decide +kernel) rfl) (mw 2 (by decide +kernel) rfl) (mw 171 (by decide +kernel) rfl) (by decide) ⟨by decide, by decide⟩ (ce_0))
abbrev cutX0_withParts : List (Nat × List Nat) := [(9, [0, 2, 3])]
set_option maxRecDepth 20000 in
set_option maxHeartbeats 4000000 in
theorem lbX0_withParts_0 {G : Nat → LV → List Value → aS → Prop} {post : Option Value → aS → Prop} (hG : ∀ n b pc lv st σ, seg (0, fun _ => 0) pgX0_withParts ceX0_withParts cutX0_withParts G (fun v σ => rFit (some .int) v ∧ post v σ) n b pc lv st σ → G pc lv st σ) (c : CS) (M : aS) (a : Int32) (hb : bX0_withParts_0 c a (fun x X => rFit (some .int) (some (.int x)) ∧ post (some (.int x)) (wC X ++ M)) (fun z2 z3 X => G 9 [(0, .ref 3), (2, .int z2), (3, .int z3)] [] (wC X ++ M))) : G 0 [(0, .ref 3), (1, .int a)] [] (wC c ++ M) := by
  unfold bX0_withParts_0 at hb
  refine hG 400 false 0 _ _ _ ?_
  exact hb
set_option maxRecDepth 20000 in
set_option maxHeartbeats 4000000 in
theorem lbX0_withParts_9 {G : Nat → LV → List Value → aS → Prop} {post : Option Value → aS → Prop} (hG : ∀ n b pc lv st σ, seg (0, fun _ => 0) pgX0_withParts ceX0_withParts cutX0_withParts G (fun v σ => rFit (some .int) v ∧ post v σ) n b pc lv st σ → G pc lv st σ) (c : CS) (M : aS) (l2 : Int32) (l3 : Int32) (hb : bX0_withParts_9 c l2 l3 (fun x X => rFit (some .int) (some (.int x)) ∧ post (some (.int x)) (wC X ++ M)) (fun z2 z3 X => G 9 [(0, .ref 3), (2, .int z2), (3, .int z3)] [] (wC X ++ M))) : G 9 [(0, .ref 3), (2, .int l2), (3, .int l3)] [] (wC c ++ M) := by
  unfold bX0_withParts_9 at hb
  refine hG 400 false 9 _ _ _ ?_
  refine And.intro (fun (h : l3 < 0) => ?_) (fun (h : ¬ l3 < 0) => ?_)
  · rw [if_pos h] at hb
    exact hb
  · rw [if_neg h] at hb
    refine And.intro (fun (h : ((l2.toUInt32 >>> (l3.toUInt32 &&& Int32.toUInt32 31)).toInt32 &&& (1 : Int32)) = 0) => ?_) (fun (h : ¬ ((l2.toUInt32 >>> (l3.toUInt32 &&& Int32.toUInt32 31)).toInt32 &&& (1 : Int32)) = 0) => ?_)
    · rw [if_pos h] at hb
      exact hb
    · rw [if_neg h] at hb
      obtain ⟨hi, hb⟩ := hb
      refine And.intro hi ?_
      refine And.intro (fun (h : (fX0_hasFirst (c.2.1 6 l3.toNatClampNeg)) = 0) => ?_) (fun (h : ¬ (fX0_hasFirst (c.2.1 6 l3.toNatClampNeg)) = 0) => ?_)
      · rw [if_pos h] at hb
        exact hb
      · rw [if_neg h] at hb
        obtain ⟨hi, hb⟩ := hb
        refine And.intro hi ?_
        obtain ⟨hi, hb⟩ := hb
        refine And.intro hi ?_
        refine And.intro (fun (h : (fX0_hasSecond (c.2.1 6 l3.toNatClampNeg)) = 0) => ?_) (fun (h : ¬ (fX0_hasSecond (c.2.1 6 l3.toNatClampNeg)) = 0) => ?_)
        · rw [if_pos h] at hb
          exact hb
        · rw [if_neg h] at hb
          obtain ⟨hi, hb⟩ := hb
          refine And.intro hi ?_
          exact hb
/-- Formulas.size is a number up to 32; firsts and seconds are safe places -/
def NdOK (c : CS) (n : Nat) : Prop := n ≤ 32 ∧ c.1 2 = nI n ∧ ∀ i, i < n → vp_in (c.2.1 7 i) 32 ∧ vp_in (c.2.1 8 i) 32
def bitOf (l : Int32) (i : Int32) : Int32 := (l.toUInt32 >>> (i.toUInt32 &&& Int32.toUInt32 31)).toInt32 &&& (1 : Int32)
def wpStep (c : CS) (i : Nat) (l : Int32) : Int32 := if bitOf l (nI i) = 0 then l else if fX0_hasFirst (c.2.1 6 i) = 0 then l else if fX0_hasSecond (c.2.1 6 i) = 0 then l ||| ((1 : Int32) <<< (c.2.1 7 i &&& 31)) else (l ||| ((1 : Int32) <<< (c.2.1 7 i &&& 31))) ||| ((1 : Int32) <<< (c.2.1 8 i &&& 31))
def wpLoop (c : CS) : Nat → Int32 → Int32
  | 0, l => l
  | i + 1, l => wpLoop c i (wpStep c i l)
def wX0_withParts (c : CS) (a : Int32) (k : Int32 → CS → Prop) : Prop := ∃ n, n ≤ 32 ∧ c.1 2 = nI n ∧ k (wpLoop c n a) c
theorem mnX0_withParts {c : CS} {a : Int32} {k k' : Int32 → CS → Prop} (h : ∀ v c', k v c' → k' v c') (hw : wX0_withParts c a k) : wX0_withParts c a k' := by
  obtain ⟨n, h1, h2, h3⟩ := hw; exact ⟨n, h1, h2, h _ _ h3⟩
def tX0_withParts : Tr := fun as σ k => match as with
  | [.ref 3, .int a] => ∃ (c : CS) (M : aS), σ = wC c ++ M ∧ wX0_withParts c a (fun v c' => k (some (.int v)) (wC c' ++ M))
  | _ => False
theorem rcX0_withParts : ∀ as σ kk, tX0_withParts as σ kk → ∃ a r fs, as = .ref a :: r ∧ σ[a]? = some (.inr (0, fs)) := by
  intro as σ kk h
  unfold tX0_withParts at h; split at h
  · obtain ⟨c, M, rfl, -⟩ := h
    exact ⟨_, _, _, rfl, rfl⟩
  · exact h.elim
theorem nI_cl {i : Nat} (h : i < 1000) : (nI i).toNatClampNeg = i := nI_clamp (by omega)
theorem okX0_withParts (l : Launch) : OK l yX0_withParts cX0_withParts 4 (some .int) 1 tX0_withParts := by
  intro D τ ρ A as σ post h
  unfold tX0_withParts at h; split at h
  · rename_i a; obtain ⟨c, M, rfl, n, hn, hc, hk⟩ := h
    refine met_of (P := pgX0_withParts) (CE := ceX0_withParts) (cut := cutX0_withParts) (by decide) kkX0_withParts (coX0_withParts l) (Nat.le_of_ble_eq_true rfl) ?_
    intro G hG
    have loop : ∀ (i : Nat) (x : Int32), i ≤ 32 → post (some (.int (wpLoop c i x))) (wC c ++ M) → G 9 [(0, .ref 3), (2, .int x), (3, .int (nI i - 1))] [] (wC c ++ M) := by
      intro i
      induction i with
      | zero =>
        intro x _ hp
        refine lbX0_withParts_9 hG c M x _ ?_
        unfold bX0_withParts_9
        rw [if_pos (show nI 0 - 1 < 0 by decide)]
        exact ⟨trivial, hp⟩
      | succ i ih =>
        intro x hi hp
        rw [nI_pred]
        refine lbX0_withParts_9 hG c M x _ ?_
        unfold bX0_withParts_9
        rw [if_neg (nI_pos (by omega))]
        have hin : vp_in (nI i) 32 := vp_in_nI (by omega) (by omega)
        have hcl := nI_cl (i := i) (by omega)
        have hm : nI i + (-1 : Int32) = nI i - 1 := by rw [Int32.sub_eq_add_neg]
        rw [hm, hcl]
        have hp : post (some (.int (wpLoop c i (wpStep c i x)))) (wC c ++ M) := hp
        by_cases h0 : bitOf x (nI i) = 0
        · rw [if_pos (show ((x.toUInt32 >>> ((nI i).toUInt32 &&& Int32.toUInt32 31)).toInt32 &&& (1 : Int32)) = 0 from h0)]
          rw [wpStep, if_pos h0] at hp
          exact ih x (by omega) hp
        · rw [if_neg (show ¬ ((x.toUInt32 >>> ((nI i).toUInt32 &&& Int32.toUInt32 31)).toInt32 &&& (1 : Int32)) = 0 from h0)]
          refine ⟨hin, ?_⟩
          by_cases h1 : fX0_hasFirst (c.2.1 6 i) = 0
          · rw [if_pos h1]
            rw [wpStep, if_neg h0, if_pos h1] at hp
            exact ih x (by omega) hp
          · rw [if_neg h1]
            refine ⟨hin, hin, ?_⟩
            by_cases h2 : fX0_hasSecond (c.2.1 6 i) = 0
            · rw [if_pos h2]
              rw [wpStep, if_neg h0, if_neg h1, if_pos h2] at hp
              exact ih _ (by omega) hp
            · rw [if_neg h2]
              rw [wpStep, if_neg h0, if_neg h1, if_neg h2] at hp
              exact ⟨hin, ih _ (by omega) hp⟩
    refine lbX0_withParts_0 hG c M a ?_
    unfold bX0_withParts_0
    rw [hc]
    exact loop n a hn hk
  · exact h.elim
def bX0_valueAt_0 (c : CS) (a : Int32) (b : Int64) (d : Int64) (e : Int64) (kr : Int64 → CS → Prop) (kc12 : Int32 → Int64 → Int64 → Int64 → Int32 → Int32 → CS → Prop) : Prop :=
  (wX0_withParts c ((1 : Int32) <<< (a &&& 31)) (fun r1 X1 => kc12 a b d e r1 (0 : Int32) X1))
def bX0_valueAt_12 (c : CS) (a : Int32) (b : Int64) (d : Int64) (e : Int64) (l8 : Int32) (l9 : Int32) (kr : Int64 → CS → Prop) (kc12 : Int32 → Int64 → Int64 → Int64 → Int32 → Int32 → CS → Prop) : Prop :=
  (if a < l9 then
    (vp_in a 32 ∧ kr (c.2.2 10 a.toNatClampNeg) c)
  else
    (if ((l8.toUInt32 >>> (l9.toUInt32 &&& Int32.toUInt32 31)).toInt32 &&& (1 : Int32)) = 0 then
      kc12 a b d e l8 (l9 + (1 : Int32)) c
    else
      (vp_in l9 32 ∧ (if (c.2.1 6 l9.toNatClampNeg) = 0 then
        (vp_in l9 32 ∧ (vp_in l9 32 ∧ kc12 a b d e l8 (l9 + (1 : Int32)) (setL c 10 (vp_updL (c.2.2 10) l9.toNatClampNeg (fX1_told (fX1_ofThree (c.2.1 7 l9.toNatClampNeg) b d e))))))
      else
        (vp_in l9 32 ∧ (if (c.2.1 6 l9.toNatClampNeg) = (1 : Int32) then
          (vp_in l9 32 ∧ (vp_in l9 32 ∧ kc12 a b d e l8 (l9 + (1 : Int32)) (setL c 10 (vp_updL (c.2.2 10) l9.toNatClampNeg (c.2.2 9 l9.toNatClampNeg)))))
        else
          (vp_in l9 32 ∧ (vp_in l9 32 ∧ (vp_in (c.2.1 7 l9.toNatClampNeg) 32 ∧ (vp_in l9 32 ∧ (vp_in (c.2.1 8 l9.toNatClampNeg) 32 ∧ (vp_in l9 32 ∧ kc12 a b d e l8 (l9 + (1 : Int32)) (setL c 10 (vp_updL (c.2.2 10) l9.toNatClampNeg (fX0_made (c.2.1 6 l9.toNatClampNeg) (c.2.2 10 (c.2.1 7 l9.toNatClampNeg).toNatClampNeg) (c.2.2 10 (c.2.1 8 l9.toNatClampNeg).toNatClampNeg))))))))))))))))
def ceX0_valueAt : List (Nat × Nat × Tr) := (2 * 54 + 1, 1 + 1, tX0_withParts) :: (2 * 62, 3, tX0_made) :: (2 * 58, 4, tX1_ofThree) :: (2 * 48, 1, tX1_told) :: []
theorem coX0_valueAt (l : Launch) : CEok l yX0_valueAt.cls 5 ceX0_valueAt := ce_V (ci := 0) (n := 1) rfl (okX0_withParts l) rcX0_withParts (mw 432 (by decide +kernel) rfl) (mw 190 (by decide +kernel) rfl) (mw 191 (by decide +kernel) rfl) (mw 2 (by decide +kernel) rfl) (mw 192 (by decide +kernel) rfl) rfl (by decide) ⟨by decide, by decide⟩ (ce_S (okX0_made l) (mw 322 (by decide +kernel) rfl) (mw 323 (by decide +kernel) rfl) (mw 2 (by decide +kernel) rfl) (mw 324 (by decide +kernel) rfl) (by decide) ⟨by decide, by decide⟩ (ce_S (okX1_ofThree l) (mw 433 (by decide +kernel) rfl) (mw 434 (by decide +kernel) rfl) (mw 5 (by decide +kernel) rfl) (mw 435 (by decide +kernel) rfl) (by decide) ⟨by decide, by decide⟩ (ce_S (okX1_told l) (mw 176 (by decide +kernel) rfl) (mw 177 (by decide +kernel) rfl) (mw 5 (by decide +kernel) rfl) (mw 178 (by decide +kernel) rfl) (by decide) ⟨by decide, by decide⟩ (ce_0))))
abbrev cutX0_valueAt : List (Nat × List Nat) := [(12, [0, 1, 2, 4, 6, 8, 9])]
set_option maxRecDepth 20000 in
set_option maxHeartbeats 4000000 in
theorem lbX0_valueAt_0 {G : Nat → LV → List Value → aS → Prop} {post : Option Value → aS → Prop} (hG : ∀ n b pc lv st σ, seg (0, fun _ => 0) pgX0_valueAt ceX0_valueAt cutX0_valueAt G (fun v σ => rFit (some .long) v ∧ post v σ) n b pc lv st σ → G pc lv st σ) (c : CS) (M : aS) (a : Int32) (b : Int64) (d : Int64) (e : Int64) (hb : bX0_valueAt_0 c a b d e (fun x X => rFit (some .long) (some (.long x)) ∧ post (some (.long x)) (wC X ++ M)) (fun z1 z2 z4 z6 z8 z9 X => G 12 [(0, .ref 3), (1, .int z1), (2, .long z2), (4, .long z4), (6, .long z6), (8, .int z8), (9, .int z9)] [] (wC X ++ M))) : G 0 [(0, .ref 3), (1, .int a), (2, .long b), (4, .long d), (6, .long e)] [] (wC c ++ M) := by
  unfold bX0_valueAt_0 at hb
  refine hG 400 false 0 _ _ _ ?_
  refine Exists.intro c (Exists.intro M ((And.intro rfl (mnX0_withParts ?_ hb))))
  intro r1 X1 hb
  exact hb
set_option maxRecDepth 20000 in
set_option maxHeartbeats 4000000 in
theorem lbX0_valueAt_12 {G : Nat → LV → List Value → aS → Prop} {post : Option Value → aS → Prop} (hG : ∀ n b pc lv st σ, seg (0, fun _ => 0) pgX0_valueAt ceX0_valueAt cutX0_valueAt G (fun v σ => rFit (some .long) v ∧ post v σ) n b pc lv st σ → G pc lv st σ) (c : CS) (M : aS) (a : Int32) (b : Int64) (d : Int64) (e : Int64) (l8 : Int32) (l9 : Int32) (hb : bX0_valueAt_12 c a b d e l8 l9 (fun x X => rFit (some .long) (some (.long x)) ∧ post (some (.long x)) (wC X ++ M)) (fun z1 z2 z4 z6 z8 z9 X => G 12 [(0, .ref 3), (1, .int z1), (2, .long z2), (4, .long z4), (6, .long z6), (8, .int z8), (9, .int z9)] [] (wC X ++ M))) : G 12 [(0, .ref 3), (1, .int a), (2, .long b), (4, .long d), (6, .long e), (8, .int l8), (9, .int l9)] [] (wC c ++ M) := by
  unfold bX0_valueAt_12 at hb
  refine hG 400 false 12 _ _ _ ?_
  refine And.intro (fun (h : a < l9) => ?_) (fun (h : ¬ a < l9) => ?_)
  · rw [if_pos h] at hb
    obtain ⟨hi, hb⟩ := hb
    refine And.intro hi ?_
    exact hb
  · rw [if_neg h] at hb
    refine And.intro (fun (h : ¬ ((l8.toUInt32 >>> (l9.toUInt32 &&& Int32.toUInt32 31)).toInt32 &&& (1 : Int32)) = 0) => ?_) (fun hq => have h : ((l8.toUInt32 >>> (l9.toUInt32 &&& Int32.toUInt32 31)).toInt32 &&& (1 : Int32)) = 0 := Classical.not_not.mp hq; ?_)
    · rw [if_neg h] at hb
      obtain ⟨hi, hb⟩ := hb
      refine And.intro hi ?_
      refine And.intro (fun (h : ¬ (c.2.1 6 l9.toNatClampNeg) = 0) => ?_) (fun hq => have h : (c.2.1 6 l9.toNatClampNeg) = 0 := Classical.not_not.mp hq; ?_)
      · rw [if_neg h] at hb
        obtain ⟨hi, hb⟩ := hb
        refine And.intro hi ?_
        refine And.intro (fun (h : ¬ (c.2.1 6 l9.toNatClampNeg) = (1 : Int32)) => ?_) (fun hq => have h : (c.2.1 6 l9.toNatClampNeg) = (1 : Int32) := Classical.not_not.mp hq; ?_)
        · rw [if_neg h] at hb
          obtain ⟨hi, hb⟩ := hb
          refine And.intro hi ?_
          obtain ⟨hi, hb⟩ := hb
          refine And.intro hi ?_
          obtain ⟨hi, hb⟩ := hb
          refine And.intro hi ?_
          obtain ⟨hi, hb⟩ := hb
          refine And.intro hi ?_
          obtain ⟨hi, hb⟩ := hb
          refine And.intro hi ?_
          obtain ⟨hi, hb⟩ := hb
          refine And.intro hi ?_
          exact hb
        · rw [if_pos h] at hb
          obtain ⟨hi, hb⟩ := hb
          refine And.intro hi ?_
          obtain ⟨hi, hb⟩ := hb
          refine And.intro hi ?_
          exact hb
      · rw [if_pos h] at hb
        obtain ⟨hi, hb⟩ := hb
        refine And.intro hi ?_
        obtain ⟨hi, hb⟩ := hb
        refine And.intro hi ?_
        exact hb
    · rw [if_pos h] at hb
      exact hb
def vStep (c : CS) (x y z : Int64) (asked : Int32) (i : Nat) (v : Nat → Int64) : Nat → Int64 := if bitOf asked (nI i) = 0 then v else if c.2.1 6 i = 0 then vp_updL v i (fX1_told (fX1_ofThree (c.2.1 7 i) x y z)) else if c.2.1 6 i = 1 then vp_updL v i (c.2.2 9 i) else vp_updL v i (fX0_made (c.2.1 6 i) (v (c.2.1 7 i).toNatClampNeg) (v (c.2.1 8 i).toNatClampNeg))
def vLoop (c : CS) (x y z : Int64) (asked : Int32) : Nat → (Nat → Int64) → (Nat → Int64)
  | 0, v => v
  | i + 1, v => vStep c x y z asked i (vLoop c x y z asked i v)
/-- the row of values behind valueAt -/
def vRow (c : CS) (j n : Nat) (x y z : Int64) : Nat → Int64 := vLoop c x y z (wpLoop c n ((1 : Int32) <<< (nI j &&& 31))) (j + 1) (c.2.2 10)
def wX0_valueAt (c : CS) (a : Int32) (x y z : Int64) (k : Int64 → CS → Prop) : Prop := ∃ n j, NdOK c n ∧ j < n ∧ a = nI j ∧ k (vRow c j n x y z j) (setL c 10 (vRow c j n x y z))
theorem mnX0_valueAt {c : CS} {a : Int32} {x y z : Int64} {k k' : Int64 → CS → Prop} (h : ∀ v c', k v c' → k' v c') (hw : wX0_valueAt c a x y z k) : wX0_valueAt c a x y z k' := by
  obtain ⟨n, j, h1, h2, h3, h4⟩ := hw; exact ⟨n, j, h1, h2, h3, h _ _ h4⟩
def tX0_valueAt : Tr := fun as σ k => match as with
  | [.ref 3, .int a, .long x, .long y, .long z] => ∃ (c : CS) (M : aS), σ = wC c ++ M ∧ wX0_valueAt c a x y z (fun v c' => k (some (.long v)) (wC c' ++ M))
  | _ => False
theorem rcX0_valueAt : ∀ as σ kk, tX0_valueAt as σ kk → ∃ a r fs, as = .ref a :: r ∧ σ[a]? = some (.inr (0, fs)) := by
  intro as σ kk h
  unfold tX0_valueAt at h; split at h
  · obtain ⟨c, M, rfl, -⟩ := h
    exact ⟨_, _, _, rfl, rfl⟩
  · exact h.elim
theorem setL_self (c : CS) (k : Nat) : setL c k (c.2.2 k) = c := by
  unfold setL
  have : (fun j => if j = k then c.2.2 k else c.2.2 j) = c.2.2 := by
    funext j; by_cases h : j = k
    · subst h; simp
    · simp [h]
  rw [this]
theorem setL_setL (c : CS) (k : Nat) (f g : Nat → Int64) : setL (setL c k f) k g = setL c k g := by
  unfold setL
  have : (fun j => if j = k then g else (c.1, c.2.1, fun j => if j = k then f else c.2.2 j).2.2 j) = fun j => if j = k then g else c.2.2 j := by
    funext j; by_cases h : j = k <;> simp [h]
  exact congrArg (fun z => (c.1, c.2.1, z)) this
theorem okX0_valueAt (l : Launch) : OK l yX0_valueAt cX0_valueAt 10 (some .long) 5 tX0_valueAt := by
  intro D τ ρ A as σ post h
  unfold tX0_valueAt at h; split at h
  · rename_i a x y z; obtain ⟨c, M, rfl, n, j, ⟨hn, hc, hnd⟩, hj, rfl, hk⟩ := h
    refine met_of (P := pgX0_valueAt) (CE := ceX0_valueAt) (cut := cutX0_valueAt) (by decide) kkX0_valueAt (coX0_valueAt l) (Nat.le_of_ble_eq_true rfl) ?_
    intro G hG
    have loop : ∀ (r i : Nat), i + r = j + 1 → G 12 [(0, .ref 3), (1, .int (nI j)), (2, .long x), (4, .long y), (6, .long z), (8, .int (wpLoop c n ((1 : Int32) <<< (nI j &&& 31)))), (9, .int (nI i))] [] (wC (setL c 10 (vLoop c x y z (wpLoop c n ((1 : Int32) <<< (nI j &&& 31))) i (c.2.2 10))) ++ M) := by
      intro r
      induction r with
      | zero =>
        intro i hi
        have : i = j + 1 := by omega
        subst this
        refine lbX0_valueAt_12 hG _ M _ _ _ _ _ _ ?_
        unfold bX0_valueAt_12
        rw [if_pos (show nI j < nI (j + 1) from nI_lt (by omega) (by omega))]
        refine ⟨vp_in_nI (by omega) (by omega), trivial, ?_⟩
        rw [nI_cl (i := j) (by omega)]
        exact hk
      | succ r ih =>
        intro i hi
        have ih := ih (i + 1) (by omega)
        obtain ⟨v, hv⟩ : ∃ v, v = vLoop c x y z (wpLoop c n ((1 : Int32) <<< (nI j &&& 31))) i (c.2.2 10) := ⟨_, rfl⟩
        rw [show vLoop c x y z (wpLoop c n ((1 : Int32) <<< (nI j &&& 31))) (i + 1) (c.2.2 10) = vStep c x y z (wpLoop c n ((1 : Int32) <<< (nI j &&& 31))) i v by rw [hv]; rfl] at ih
        rw [← hv]
        generalize wpLoop c n ((1 : Int32) <<< (nI j &&& 31)) = asked at ih ⊢
        have hin : vp_in (nI i) 32 := vp_in_nI (by omega) (by omega)
        have hcl := nI_cl (i := i) (by omega)
        obtain ⟨hf, hs⟩ := hnd i (by omega)
        refine lbX0_valueAt_12 hG (setL c 10 v) M _ _ _ _ _ _ ?_
        unfold bX0_valueAt_12
        rw [if_neg (nI_nlt (by omega) (by omega))]
        rw [hcl, show nI i + (1 : Int32) = nI (i + 1) from nI_1 i]
        by_cases h0 : bitOf asked (nI i) = 0
        · rw [if_pos (show ((asked.toUInt32 >>> ((nI i).toUInt32 &&& Int32.toUInt32 31)).toInt32 &&& (1 : Int32)) = 0 from h0)]
          rw [vStep, if_pos h0] at ih
          exact ih
        · rw [if_neg (show ¬ ((asked.toUInt32 >>> ((nI i).toUInt32 &&& Int32.toUInt32 31)).toInt32 &&& (1 : Int32)) = 0 from h0)]
          refine ⟨hin, ?_⟩
          show (if c.2.1 6 i = 0 then _ else _)
          by_cases h1 : c.2.1 6 i = 0
          · rw [if_pos h1]
            rw [vStep, if_neg h0, if_pos h1] at ih
            rw [setL_setL]
            exact ⟨hin, hin, ih⟩
          · rw [if_neg h1]
            refine ⟨hin, ?_⟩
            show (if c.2.1 6 i = 1 then _ else _)
            by_cases h2 : c.2.1 6 i = 1
            · rw [if_pos h2]
              rw [vStep, if_neg h0, if_neg h1, if_pos h2] at ih
              rw [setL_setL]
              exact ⟨hin, hin, ih⟩
            · rw [if_neg h2]
              rw [vStep, if_neg h0, if_neg h1, if_neg h2] at ih
              rw [setL_setL]
              exact ⟨hin, hin, hf, hin, hs, hin, ih⟩
    refine lbX0_valueAt_0 hG c M (nI j) x y z ?_
    unfold bX0_valueAt_0
    refine ⟨n, hn, hc, ?_⟩
    have := loop (j + 1) 0 (by omega)
    rw [show vLoop c x y z (wpLoop c n ((1 : Int32) <<< (nI j &&& 31))) 0 (c.2.2 10) = c.2.2 10 from rfl, setL_self] at this
    exact this
  · exact h.elim
def bX0_enclose_0 (c : CS) (a : Int32) (d : Int32) (kr : CS → Prop) (kc3 : Int32 → Int32 → Int32 → CS → Prop) : Prop :=
  kc3 a d (0 : Int32) c
def bX0_enclose_3 (c : CS) (a : Int32) (d : Int32) (l4 : Int32) (kr : CS → Prop) (kc3 : Int32 → Int32 → Int32 → CS → Prop) : Prop :=
  (if (c.1 2) ≤ l4 then
    kr c
  else
    (if ((a.toUInt32 >>> (l4.toUInt32 &&& Int32.toUInt32 31)).toInt32 &&& (1 : Int32)) = 0 then
      kc3 a d (l4 + (1 : Int32)) c
    else
      (vp_in l4 32 ∧ (if (c.2.1 6 l4.toNatClampNeg) = 0 then
        (vp_in l4 32 ∧ (vp_in (d + ((2 : Int32) * (c.2.1 7 l4.toNatClampNeg))) 600 ∧ (vp_in l4 32 ∧ (vp_in ((d + ((2 : Int32) * (c.2.1 7 l4.toNatClampNeg))) + (1 : Int32)) 600 ∧ (vp_in l4 32 ∧ kc3 a d (l4 + (1 : Int32)) (gX0_put c l4 (c.2.2 12 (d + ((2 : Int32) * (c.2.1 7 l4.toNatClampNeg))).toNatClampNeg) (c.2.2 12 ((d + ((2 : Int32) * (c.2.1 7 l4.toNatClampNeg))) + (1 : Int32)).toNatClampNeg)))))))
      else
        (vp_in l4 32 ∧ (if (c.2.1 6 l4.toNatClampNeg) = (1 : Int32) then
          (vp_in l4 32 ∧ (vp_in l4 32 ∧ (vp_in l4 32 ∧ kc3 a d (l4 + (1 : Int32)) (gX0_put c l4 (c.2.2 9 l4.toNatClampNeg) (c.2.2 9 l4.toNatClampNeg)))))
        else
          (vp_in l4 32 ∧ (vp_in (c.2.1 7 l4.toNatClampNeg) 32 ∧ (vp_in (c.2.1 8 l4.toNatClampNeg) 32 ∧ kc3 a d (l4 + (1 : Int32)) (gX0_encloseMade c l4))))))))))
def ceX0_enclose : List (Nat × Nat × Tr) := (2 * 115 + 1, 1 + 1, tX0_encloseMade) :: (2 * 111 + 1, 3 + 1, tX0_put) :: []
theorem coX0_enclose (l : Launch) : CEok l yX0_enclose.cls 6 ceX0_enclose := ce_V (ci := 0) (n := 1) rfl (okX0_encloseMade l) rcX0_encloseMade (mw 219 (by decide +kernel) rfl) (mw 221 (by decide +kernel) rfl) (ms 4 (by decide +kernel) rfl) (mw 2 (by decide +kernel) rfl) (mw 222 (by decide +kernel) rfl) rfl (by decide) ⟨by decide, by decide⟩ (ce_V (ci := 0) (n := 3) rfl (okX0_put l) rcX0_put (mw 208 (by decide +kernel) rfl) (mw 210 (by decide +kernel) rfl) (ms 2 (by decide +kernel) rfl) (mw 2 (by decide +kernel) rfl) (mw 211 (by decide +kernel) rfl) rfl (by decide) ⟨by decide, by decide⟩ (ce_0))
abbrev cutX0_enclose : List (Nat × List Nat) := [(3, [0, 1, 2, 3, 4])]
set_option maxRecDepth 20000 in
set_option maxHeartbeats 4000000 in
theorem lbX0_enclose_0 {G : Nat → LV → List Value → aS → Prop} {post : Option Value → aS → Prop} (hG : ∀ n b pc lv st σ, seg (0, fun _ => 0) pgX0_enclose ceX0_enclose cutX0_enclose G (fun v σ => rFit none v ∧ post v σ) n b pc lv st σ → G pc lv st σ) (c : CS) (M : aS) (a : Int32) (d : Int32) (hb : bX0_enclose_0 c a d (fun X => rFit none none ∧ post none (wC X ++ M)) (fun z1 z3 z4 X => G 3 [(0, .ref 3), (1, .int z1), (2, .ref 12), (3, .int z3), (4, .int z4)] [] (wC X ++ M))) : G 0 [(0, .ref 3), (1, .int a), (2, .ref 12), (3, .int d)] [] (wC c ++ M) := by
  unfold bX0_enclose_0 at hb
  refine hG 400 false 0 _ _ _ ?_
  exact hb
set_option maxRecDepth 20000 in
set_option maxHeartbeats 4000000 in
theorem lbX0_enclose_3 {G : Nat → LV → List Value → aS → Prop} {post : Option Value → aS → Prop} (hG : ∀ n b pc lv st σ, seg (0, fun _ => 0) pgX0_enclose ceX0_enclose cutX0_enclose G (fun v σ => rFit none v ∧ post v σ) n b pc lv st σ → G pc lv st σ) (c : CS) (M : aS) (a : Int32) (d : Int32) (l4 : Int32) (hb : bX0_enclose_3 c a d l4 (fun X => rFit none none ∧ post none (wC X ++ M)) (fun z1 z3 z4 X => G 3 [(0, .ref 3), (1, .int z1), (2, .ref 12), (3, .int z3), (4, .int z4)] [] (wC X ++ M))) : G 3 [(0, .ref 3), (1, .int a), (2, .ref 12), (3, .int d), (4, .int l4)] [] (wC c ++ M) := by
  unfold bX0_enclose_3 at hb
  refine hG 400 false 3 _ _ _ ?_
  refine And.intro (fun (h : (c.1 2) ≤ l4) => ?_) (fun (h : ¬ (c.1 2) ≤ l4) => ?_)
  · rw [if_pos h] at hb
    exact hb
  · rw [if_neg h] at hb
    refine And.intro (fun (h : ¬ ((a.toUInt32 >>> (l4.toUInt32 &&& Int32.toUInt32 31)).toInt32 &&& (1 : Int32)) = 0) => ?_) (fun hq => have h : ((a.toUInt32 >>> (l4.toUInt32 &&& Int32.toUInt32 31)).toInt32 &&& (1 : Int32)) = 0 := Classical.not_not.mp hq; ?_)
    · rw [if_neg h] at hb
      obtain ⟨hi, hb⟩ := hb
      refine And.intro hi ?_
      refine And.intro (fun (h : ¬ (c.2.1 6 l4.toNatClampNeg) = 0) => ?_) (fun hq => have h : (c.2.1 6 l4.toNatClampNeg) = 0 := Classical.not_not.mp hq; ?_)
      · rw [if_neg h] at hb
        obtain ⟨hi, hb⟩ := hb
        refine And.intro hi ?_
        refine And.intro (fun (h : ¬ (c.2.1 6 l4.toNatClampNeg) = (1 : Int32)) => ?_) (fun hq => have h : (c.2.1 6 l4.toNatClampNeg) = (1 : Int32) := Classical.not_not.mp hq; ?_)
        · rw [if_neg h] at hb
          obtain ⟨hi0, hb⟩ := hb
          obtain ⟨hi1, hb⟩ := hb
          obtain ⟨hi2, hb⟩ := hb
          refine Exists.intro c (Exists.intro M ((And.intro rfl (And.intro hi0 (And.intro hi1 (And.intro hi2 (?_)))))))
          exact hb
        · rw [if_pos h] at hb
          obtain ⟨hi, hb⟩ := hb
          refine And.intro hi ?_
          obtain ⟨hi, hb⟩ := hb
          refine And.intro hi ?_
          obtain ⟨hi0, hb⟩ := hb
          refine Exists.intro c (Exists.intro M ((And.intro rfl (And.intro hi0 (?_)))))
          exact hb
      · rw [if_pos h] at hb
        obtain ⟨hi, hb⟩ := hb
        refine And.intro hi ?_
        obtain ⟨hi, hb⟩ := hb
        refine And.intro hi ?_
        obtain ⟨hi, hb⟩ := hb
        refine And.intro hi ?_
        obtain ⟨hi, hb⟩ := hb
        refine And.intro hi ?_
        obtain ⟨hi0, hb⟩ := hb
        refine Exists.intro c (Exists.intro M ((And.intro rfl (And.intro hi0 (?_)))))
        exact hb
    · rw [if_pos h] at hb
      exact hb
/-- only the rows 4 and 5 differ -/
def Fr45 (c d : CS) : Prop := d.1 = c.1 ∧ d.2.1 = c.2.1 ∧ ∀ j, j ≠ 4 → j ≠ 5 → d.2.2 j = c.2.2 j
theorem Fr45.refl (c : CS) : Fr45 c c := ⟨rfl, rfl, fun _ _ _ => rfl⟩
theorem Fr45.trans {a b c : CS} (h : Fr45 a b) (g : Fr45 b c) : Fr45 a c := ⟨g.1.trans h.1, g.2.1.trans h.2.1, fun j h4 h5 => (g.2.2 j h4 h5).trans (h.2.2 j h4 h5)⟩
theorem Fr45.s4 (c : CS) (f : Nat → Int64) : Fr45 c (setL c 4 f) := ⟨rfl, rfl, fun j h4 _ => by simp [setL, h4]⟩
theorem Fr45.s5 (c : CS) (f : Nat → Int64) : Fr45 c (setL c 5 f) := ⟨rfl, rfl, fun j _ h5 => by simp [setL, h5]⟩
theorem fr_whole (c : CS) (a : Int32) : Fr45 c (gX0_putWholeLine c a) := (Fr45.s4 c _).trans (Fr45.s5 _ _)
theorem fr_put (c : CS) (a : Int32) (b d : Int64) : Fr45 c (gX0_put c a b d) := by
  unfold gX0_put; repeat' split
  all_goals first | exact fr_whole _ _ | exact (Fr45.s4 c _).trans (Fr45.s5 _ _)
theorem fr_four (c : CS) (a : Int32) (b d e f : Int64) : Fr45 c (gX0_putFour c a b d e f) := fr_put _ _ _ _
theorem fr_size (c : CS) (a : Int32) (b d : Int64) : Fr45 c (gX0_putSize c a b d) := by
  unfold gX0_putSize; repeat' split
  all_goals exact fr_put _ _ _ _
theorem fr_root (c : CS) (a : Int32) (b d : Int64) : Fr45 c (gX0_putRoot c a b d) := by
  unfold gX0_putRoot; repeat' split
  all_goals first | exact fr_put _ _ _ _ | exact fr_whole _ _
theorem fr_square (c : CS) (a : Int32) (b d : Int64) : Fr45 c (gX0_putSquare c a b d) := fr_put _ _ _ _
theorem fr_ite {p : Prop} [Decidable p] {c a b : CS} (ha : Fr45 c a) (hb : Fr45 c b) : Fr45 c (if p then a else b) := by
  by_cases h : p
  · rw [if_pos h]; exact ha
  · rw [if_neg h]; exact hb
theorem fr_made (c : CS) (a : Int32) : Fr45 c (gX0_encloseMade c a) := by
  unfold gX0_encloseMade
  repeat' with_reducible refine fr_ite ?_ ?_
  all_goals with_reducible first | exact fr_put _ _ _ _ | exact fr_whole _ _ | exact fr_four _ _ _ _ _ _ | exact fr_root _ _ _ _ | exact fr_size _ _ _ _ | exact Fr45.trans (fr_size _ _ _ _) (fr_square _ _ _ _)
def eStep (asked place : Int32) (i : Nat) (c : CS) : CS := if bitOf asked (nI i) = 0 then c else if c.2.1 6 i = 0 then gX0_put c (nI i) (c.2.2 12 (place + 2 * c.2.1 7 i).toNatClampNeg) (c.2.2 12 (place + 2 * c.2.1 7 i + 1).toNatClampNeg) else if c.2.1 6 i = 1 then gX0_put c (nI i) (c.2.2 9 i) (c.2.2 9 i) else gX0_encloseMade c (nI i)
def eLoop (asked place : Int32) : Nat → CS → CS
  | 0, c => c
  | i + 1, c => eStep asked place i (eLoop asked place i c)
theorem fr_eStep (asked place : Int32) (i : Nat) (c : CS) : Fr45 c (eStep asked place i c) := by
  unfold eStep; repeat' split
  all_goals first | exact Fr45.refl _ | exact fr_put _ _ _ _ | exact fr_made _ _
theorem fr_eLoop (asked place : Int32) (c : CS) : ∀ i, Fr45 c (eLoop asked place i c)
  | 0 => Fr45.refl c
  | i + 1 => (fr_eLoop asked place c i).trans (fr_eStep asked place i _)
/-- a drawn node's side is there -/
def DrOK (c : CS) (n : Nat) (place : Int32) : Prop := ∀ i, i < n → c.2.1 6 i = 0 → vp_in (place + 2 * c.2.1 7 i) 600 ∧ vp_in (place + 2 * c.2.1 7 i + 1) 600
def wX0_enclose (c : CS) (asked place : Int32) (k : CS → Prop) : Prop := ∃ n, NdOK c n ∧ DrOK c n place ∧ k (eLoop asked place n c)
theorem mnX0_enclose {c : CS} {a b : Int32} {k k' : CS → Prop} (h : ∀ c', k c' → k' c') (hw : wX0_enclose c a b k) : wX0_enclose c a b k' := by
  obtain ⟨n, h1, h2, h3⟩ := hw; exact ⟨n, h1, h2, h _ h3⟩
def tX0_enclose : Tr := fun as σ k => match as with
  | [.ref 3, .int a, .ref 12, .int b] => ∃ (c : CS) (M : aS), σ = wC c ++ M ∧ wX0_enclose c a b (fun c' => k none (wC c' ++ M))
  | _ => False
theorem rcX0_enclose : ∀ as σ kk, tX0_enclose as σ kk → ∃ a r fs, as = .ref a :: r ∧ σ[a]? = some (.inr (0, fs)) := by
  intro as σ kk h
  unfold tX0_enclose at h; split at h
  · obtain ⟨c, M, rfl, -⟩ := h
    exact ⟨_, _, _, rfl, rfl⟩
  · exact h.elim
theorem okX0_enclose (l : Launch) : OK l yX0_enclose cX0_enclose 5 none 6 tX0_enclose := by
  intro D τ ρ A as σ post h
  unfold tX0_enclose at h; split at h
  · rename_i asked place; obtain ⟨c, M, rfl, n, ⟨hn, hc, hnd⟩, hdr, hk⟩ := h
    refine met_of (P := pgX0_enclose) (CE := ceX0_enclose) (cut := cutX0_enclose) (by decide) kkX0_enclose (coX0_enclose l) (Nat.le_of_ble_eq_true rfl) ?_
    intro G hG
    have loop : ∀ (r i : Nat), i + r = n → G 3 [(0, .ref 3), (1, .int asked), (2, .ref 12), (3, .int place), (4, .int (nI i))] [] (wC (eLoop asked place i c) ++ M) := by
      intro r
      induction r with
      | zero =>
        intro i hi
        have : i = n := by omega
        subst this
        refine lbX0_enclose_3 hG _ M _ _ _ ?_
        unfold bX0_enclose_3
        have hz : (eLoop asked place i c).1 2 = nI i := by rw [(fr_eLoop asked place c i).1]; exact hc
        rw [if_pos (show (eLoop asked place i c).1 2 ≤ nI i by rw [hz]; exact nI_le (Nat.le_refl _) (by omega))]
        exact ⟨trivial, hk⟩
      | succ r ih =>
        intro i hi
        have ih := ih (i + 1) (by omega)
        rw [show eLoop asked place (i + 1) c = eStep asked place i (eLoop asked place i c) from rfl] at ih
        have fr := fr_eLoop asked place c i
        generalize eLoop asked place i c = d at ih fr ⊢
        obtain ⟨f1, f2, f3⟩ := fr
        have hin : vp_in (nI i) 32 := vp_in_nI (by omega) (by omega)
        have hcl := nI_cl (i := i) (by omega)
        have hnd := hnd i (by omega)
        have hdr := hdr i (by omega)
        rw [← f2] at hnd hdr
        obtain ⟨hf, hs⟩ := hnd
        refine lbX0_enclose_3 hG d M _ _ _ ?_
        unfold bX0_enclose_3
        rw [if_neg (show ¬ d.1 2 ≤ nI i by rw [f1, hc]; exact nI_ge (by omega) (by omega))]
        rw [hcl, show nI i + (1 : Int32) = nI (i + 1) from nI_1 i]
        by_cases h0 : bitOf asked (nI i) = 0
        · rw [if_pos (show ((asked.toUInt32 >>> ((nI i).toUInt32 &&& Int32.toUInt32 31)).toInt32 &&& (1 : Int32)) = 0 from h0)]
          rw [eStep, if_pos h0] at ih
          exact ih
        · rw [if_neg (show ¬ ((asked.toUInt32 >>> ((nI i).toUInt32 &&& Int32.toUInt32 31)).toInt32 &&& (1 : Int32)) = 0 from h0)]
          refine ⟨hin, ?_⟩
          by_cases h1 : d.2.1 6 i = 0
          · rw [if_pos h1]
            rw [eStep, if_neg h0, if_pos h1] at ih
            obtain ⟨q1, q2⟩ := hdr h1
            exact ⟨hin, q1, hin, q2, hin, ih⟩
          · rw [if_neg h1]
            refine ⟨hin, ?_⟩
            by_cases h2 : d.2.1 6 i = 1
            · rw [if_pos h2]
              rw [eStep, if_neg h0, if_neg h1, if_pos h2] at ih
              exact ⟨hin, hin, hin, ih⟩
            · rw [if_neg h2]
              rw [eStep, if_neg h0, if_neg h1, if_neg h2] at ih
              exact ⟨hin, hf, hs, ih⟩
    refine lbX0_enclose_0 hG c M asked place ?_
    unfold bX0_enclose_0
    exact loop n 0 (by omega)
  · exact h.elim
end
section
def tD2L : Tr := fun as σ k => match as with
  | [.double a] => k (some (.long a.toInt64)) σ
  | _ => False
def tL2D : Tr := fun as σ k => match as with
  | [.long a] => vn_snl2d a = false ∧ k (some (.double a.toUInt64)) σ
  | _ => False
theorem ce_D2L {l : Launch} {own : String} {lvl idx : Nat} (h1 : Cond.methodLink own idx ⟨"java/lang/Double", "doubleToRawLongBits", "(D)J"⟩ ∈ lw_all) (hR : 1 ≤ lvl) {CE : List (Nat × Nat × Tr)} (hCE : CEok l own lvl CE) : CEok l own lvl ((2 * idx, 1, tD2L) :: CE) := by
  intro q hq
  rcases List.mem_cons.mp hq with rfl | hq
  · intro p e R s m args below meth c cells slots Z cc nL D ρ τ A H0 F hRf hRl hRc hRs
    obtain ⟨hx, hb, hml, hown, hts, hK⟩ := F
    intro ins pc as σ kk lv rest hins hdg hlen hT hroom hkk H locs ls hl hP hD hS
    have hins : ins = .invokestatic idx := by
      obtain ⟨i, ⟨a1, a2⟩ | ⟨a1, a2⟩⟩ := hins
      · have : i = idx := by simp at a2; omega
        rw [a1, this]
      · simp at a2; omega
    subst hins
    change tD2L as σ kk at hT
    unfold tD2L at hT; split at hT
    · rename_i a
      have hr2 : ((rest.map (rv ρ)).map fun v => v.category).sum ≤ 8 := by rw [List.map_map]; exact Nat.le_trans (Nat.le_of_eq (congrArg List.sum (List.map_congr_left fun v _ => rv_cat ρ v))) hroom
      exact vn_d2l (rest := rest.map (rv ρ)) (b := a) hx hb (by rw [hml]; exact hl.1.symm) hown (hts _ h1) (hts _ (mw 783 (by decide +kernel) rfl)) (hts _ (mw 782 (by decide +kernel) rfl)) (hts _ (mw 6 (by decide +kernel) rfl)) (by omega) (by omega) hdg (hkk _ σ hT H locs ls hl hP hD hS)
    · exact hT.elim
  · exact hCE q hq
theorem ce_L2D {l : Launch} {own : String} {lvl idx : Nat} (h1 : Cond.methodLink own idx ⟨"java/lang/Double", "longBitsToDouble", "(J)D"⟩ ∈ lw_all) (hR : 1 ≤ lvl) {CE : List (Nat × Nat × Tr)} (hCE : CEok l own lvl CE) : CEok l own lvl ((2 * idx, 1, tL2D) :: CE) := by
  intro q hq
  rcases List.mem_cons.mp hq with rfl | hq
  · intro p e R s m args below meth c cells slots Z cc nL D ρ τ A H0 F hRf hRl hRc hRs
    obtain ⟨hx, hb, hml, hown, hts, hK⟩ := F
    intro ins pc as σ kk lv rest hins hdg hlen hT hroom hkk H locs ls hl hP hD hS
    have hins : ins = .invokestatic idx := by
      obtain ⟨i, ⟨a1, a2⟩ | ⟨a1, a2⟩⟩ := hins
      · have : i = idx := by simp at a2; omega
        rw [a1, this]
      · simp at a2; omega
    subst hins
    change tL2D as σ kk at hT
    unfold tL2D at hT; split at hT
    · rename_i a
      have hr2 : ((rest.map (rv ρ)).map fun v => v.category).sum ≤ 8 := by rw [List.map_map]; exact Nat.le_trans (Nat.le_of_eq (congrArg List.sum (List.map_congr_left fun v _ => rv_cat ρ v))) hroom
      exact vn_l2d (rest := rest.map (rv ρ)) (b := a) hx hb (by rw [hml]; exact hl.1.symm) hown (hts _ h1) (hts _ (mw 715 (by decide +kernel) rfl)) (hts _ (mw 714 (by decide +kernel) rfl)) (hts _ (mw 6 (by decide +kernel) rfl)) hT.1 (by omega) (by omega) hdg (hkk _ σ hT.2 H locs ls hl hP hD hS)
    · exact hT.elim
  · exact hCE q hq
end
section
def bX2_start_0 (c : CS) (b : Int32) (kr : CS → Prop) (kc7 : Int32 → Int32 → CS → Prop) : Prop :=
  kc7 b (0 : Int32) (setI c 4 b)
def bX2_start_7 (c : CS) (b : Int32) (l3 : Int32) (kr : CS → Prop) (kc7 : Int32 → Int32 → CS → Prop) : Prop :=
  (if ((2 : Int32) * b) ≤ l3 then
    kr (setI c 3 (1 : Int32))
  else
    (vp_in l3 6 ∧ (vp_in l3 600 ∧ kc7 b (l3 + (1 : Int32)) (setL c 12 (vp_updL (c.2.2 12) l3.toNatClampNeg (c.2.2 1 l3.toNatClampNeg))))))
set_option maxRecDepth 20000 in
theorem mbX2_start_0 {c : CS} {b : Int32} {kr kq : CS → Prop} {kc7 kd7 : Int32 → Int32 → CS → Prop} (hr : ∀ X, kr X → kq X) (hc7 : ∀ z2 z3 X, kc7 z2 z3 X → kd7 z2 z3 X) (h : bX2_start_0 c b kr kc7) : bX2_start_0 c b kq kd7 := by
  unfold bX2_start_0 at h ⊢
  exact hc7 _ _ _ h
set_option maxRecDepth 20000 in
theorem mbX2_start_7 {c : CS} {b : Int32} {l3 : Int32} {kr kq : CS → Prop} {kc7 kd7 : Int32 → Int32 → CS → Prop} (hr : ∀ X, kr X → kq X) (hc7 : ∀ z2 z3 X, kc7 z2 z3 X → kd7 z2 z3 X) (h : bX2_start_7 c b l3 kr kc7) : bX2_start_7 c b l3 kq kd7 := by
  unfold bX2_start_7 at h ⊢
  by_cases hc : ((2 : Int32) * b) ≤ l3
  · rw [if_pos hc] at h ⊢
    exact hr _ h
  · rw [if_neg hc] at h ⊢
    obtain ⟨hi, h⟩ := h
    refine And.intro hi ?_
    obtain ⟨hi, h⟩ := h
    refine And.intro hi ?_
    exact hc7 _ _ _ h
def itX2_start_7 (kr : CS → Prop) : Nat → Int32 → Int32 → CS → Prop
  | 0, _, _, _ => False
  | n + 1, b, l3, c => bX2_start_7 c b l3 kr (fun z2 z3 X => itX2_start_7 kr n z2 z3 X)
theorem miX2_start_7 {kr kq : CS → Prop} (hr : ∀ X, kr X → kq X) : ∀ (n : Nat) (z2 : Int32) (z3 : Int32) (X : CS), itX2_start_7 kr n z2 z3 X → itX2_start_7 kq n z2 z3 X
  | 0, _, _, _, h => h
  | n + 1, _, _, _, h => mbX2_start_7 hr (fun _ _ _ h => miX2_start_7 hr n _ _ _ h) h
def wX2_start (c : CS) (b : Int32) (kr : CS → Prop) : Prop := bX2_start_0 c b kr (fun z2 z3 X => ∃ N, itX2_start_7 kr N z2 z3 X)
theorem mnX2_start {c : CS} {b : Int32} {kr kq : CS → Prop} (hr : ∀ X, kr X → kq X) (h : wX2_start c b kr) : wX2_start c b kq := mbX2_start_0 hr (fun _ _ _ h => h.elim fun N h => ⟨N, miX2_start_7 hr N _ _ _ h⟩) h
def tX2_start : Tr := fun as σ k => match as with
  | [.ref 11, .ref 1, .int b] => ∃ (c : CS) (M : aS), σ = wC c ++ M ∧ wX2_start c b (fun X => k none (wC X ++ M))
  | _ => False
def ceX2_start : List (Nat × Nat × Tr) := []
theorem coX2_start (l : Launch) : CEok l yX2_start.cls 0 ceX2_start := ce_0
abbrev cutX2_start : List (Nat × List Nat) := [(7, [0, 1, 2, 3])]
set_option maxRecDepth 20000 in
set_option maxHeartbeats 4000000 in
theorem lbX2_start_0 {G : Nat → LV → List Value → aS → Prop} {post : Option Value → aS → Prop} (hG : ∀ n b pc lv st σ, seg (0, fun _ => 0) pgX2_start ceX2_start cutX2_start G (fun v σ => rFit none v ∧ post v σ) n b pc lv st σ → G pc lv st σ) (c : CS) (M : aS) (b : Int32) (hb : bX2_start_0 c b (fun X => rFit none none ∧ post none (wC X ++ M)) (fun z2 z3 X => G 7 [(0, .ref 11), (1, .ref 1), (2, .int z2), (3, .int z3)] [] (wC X ++ M))) : G 0 [(0, .ref 11), (1, .ref 1), (2, .int b)] [] (wC c ++ M) := by
  unfold bX2_start_0 at hb
  refine hG 400 false 0 _ _ _ ?_
  exact hb
set_option maxRecDepth 20000 in
set_option maxHeartbeats 4000000 in
theorem lbX2_start_7 {G : Nat → LV → List Value → aS → Prop} {post : Option Value → aS → Prop} (hG : ∀ n b pc lv st σ, seg (0, fun _ => 0) pgX2_start ceX2_start cutX2_start G (fun v σ => rFit none v ∧ post v σ) n b pc lv st σ → G pc lv st σ) (c : CS) (M : aS) (b : Int32) (l3 : Int32) (hb : bX2_start_7 c b l3 (fun X => rFit none none ∧ post none (wC X ++ M)) (fun z2 z3 X => G 7 [(0, .ref 11), (1, .ref 1), (2, .int z2), (3, .int z3)] [] (wC X ++ M))) : G 7 [(0, .ref 11), (1, .ref 1), (2, .int b), (3, .int l3)] [] (wC c ++ M) := by
  unfold bX2_start_7 at hb
  refine hG 400 false 7 _ _ _ ?_
  refine And.intro (fun (h : ((2 : Int32) * b) ≤ l3) => ?_) (fun (h : ¬ ((2 : Int32) * b) ≤ l3) => ?_)
  · rw [if_pos h] at hb
    exact hb
  · rw [if_neg h] at hb
    obtain ⟨hi, hb⟩ := hb
    refine And.intro hi ?_
    obtain ⟨hi, hb⟩ := hb
    refine And.intro hi ?_
    exact hb
theorem giX2_start_7 {G : Nat → LV → List Value → aS → Prop} {post : Option Value → aS → Prop} (hG : ∀ n b pc lv st σ, seg (0, fun _ => 0) pgX2_start ceX2_start cutX2_start G (fun v σ => rFit none v ∧ post v σ) n b pc lv st σ → G pc lv st σ) (M : aS) : ∀ (n : Nat) (z2 : Int32) (z3 : Int32) (X : CS), itX2_start_7 (fun X => rFit none none ∧ post none (wC X ++ M)) n z2 z3 X → G 7 [(0, .ref 11), (1, .ref 1), (2, .int z2), (3, .int z3)] [] (wC X ++ M)
  | 0, _, _, _, h => h.elim
  | n + 1, _, _, _, h => lbX2_start_7 hG _ M _ _ (mbX2_start_7 (fun _ h => h) (fun _ _ _ h => giX2_start_7 hG M n _ _ _ h) h)
theorem rcX2_start : ∀ as σ kk, tX2_start as σ kk → ∃ a r fs, as = .ref a :: r ∧ σ[a]? = some (.inr (1, fs)) := by
  intro as σ kk h
  unfold tX2_start at h; split at h
  · obtain ⟨c, M, rfl, -⟩ := h
    exact ⟨_, _, _, rfl, rfl⟩
  · exact h.elim
set_option maxRecDepth 20000 in
theorem okX2_start (l : Launch) : OK l yX2_start cX2_start 4 none 0 tX2_start := by
  intro D τ ρ A as σ post h
  unfold tX2_start at h; split at h
  · rename_i b; obtain ⟨c, M, rfl, hw⟩ := h
    refine met_of (P := pgX2_start) (CE := ceX2_start) (cut := cutX2_start) (by decide) kkX2_start (coX2_start l) (Nat.le_of_ble_eq_true rfl) ?_
    intro G hG
    unfold wX2_start at hw
    refine lbX2_start_0 hG c M b (mbX2_start_0 ?_ ?_ hw)
    · exact fun _ h => ⟨trivial, h⟩
    · intro _ _ _ ⟨N, h⟩; exact giX2_start_7 hG M N _ _ _ (miX2_start_7 (fun _ h => ⟨trivial, h⟩) N _ _ _ h)
  · exact h.elim
def bX2_measure_0 (c : CS) (a : Int32) (kr : CS → Prop) (kc4 : Int32 → Int32 → Int32 → CS → Prop) : Prop :=
  kc4 a (0 : Int32) (0 : Int32) c
def bX2_measure_4 (c : CS) (a : Int32) (l2 : Int32) (l3 : Int32) (kr : CS → Prop) (kc4 : Int32 → Int32 → Int32 → CS → Prop) : Prop :=
  (if (c.1 4) ≤ l3 then
    (vp_in (fX2_place a l2) 600 ∧ (vp_in ((fX2_place a l2) + (1 : Int32)) 600 ∧ (vp_in l2 3 ∧ (vp_in a 100 ∧ (vp_in a 100 ∧ (if (fX1_isBelow (c.2.2 12 (fX2_place a l2).toNatClampNeg) (fX1_plus (c.2.2 12 (fX2_place a l2).toNatClampNeg) (fX1_over (c.2.2 16 l2.toNatClampNeg) (4611686018427387904 : Int64)))) = 0 then
      (vp_in a 100 ∧ kr (setA (setL (setA c 17 (upd (c.2.1 17) a.toNatClampNeg l2)) 18 (vp_updL ((setA c 17 (upd (c.2.1 17) a.toNatClampNeg l2)).2.2 18) a.toNatClampNeg (fX1_plus (c.2.2 12 (fX2_place a l2).toNatClampNeg) (fX1_over (c.2.2 16 l2.toNatClampNeg) (4611686018427387904 : Int64))))) 19 (upd ((setL (setA c 17 (upd (c.2.1 17) a.toNatClampNeg l2)) 18 (vp_updL ((setA c 17 (upd (c.2.1 17) a.toNatClampNeg l2)).2.2 18) a.toNatClampNeg (fX1_plus (c.2.2 12 (fX2_place a l2).toNatClampNeg) (fX1_over (c.2.2 16 l2.toNatClampNeg) (4611686018427387904 : Int64))))).2.1 19) a.toNatClampNeg (vp_nar .boolean (1 : Int32)))))
    else
      (if (fX1_isBelow (fX1_plus (c.2.2 12 (fX2_place a l2).toNatClampNeg) (fX1_over (c.2.2 16 l2.toNatClampNeg) (4611686018427387904 : Int64))) (c.2.2 12 ((fX2_place a l2) + (1 : Int32)).toNatClampNeg)) = 0 then
        (vp_in a 100 ∧ kr (setA (setL (setA c 17 (upd (c.2.1 17) a.toNatClampNeg l2)) 18 (vp_updL ((setA c 17 (upd (c.2.1 17) a.toNatClampNeg l2)).2.2 18) a.toNatClampNeg (fX1_plus (c.2.2 12 (fX2_place a l2).toNatClampNeg) (fX1_over (c.2.2 16 l2.toNatClampNeg) (4611686018427387904 : Int64))))) 19 (upd ((setL (setA c 17 (upd (c.2.1 17) a.toNatClampNeg l2)) 18 (vp_updL ((setA c 17 (upd (c.2.1 17) a.toNatClampNeg l2)).2.2 18) a.toNatClampNeg (fX1_plus (c.2.2 12 (fX2_place a l2).toNatClampNeg) (fX1_over (c.2.2 16 l2.toNatClampNeg) (4611686018427387904 : Int64))))).2.1 19) a.toNatClampNeg (vp_nar .boolean (1 : Int32)))))
      else
        (vp_in a 100 ∧ kr (setA (setL (setA c 17 (upd (c.2.1 17) a.toNatClampNeg l2)) 18 (vp_updL ((setA c 17 (upd (c.2.1 17) a.toNatClampNeg l2)).2.2 18) a.toNatClampNeg (fX1_plus (c.2.2 12 (fX2_place a l2).toNatClampNeg) (fX1_over (c.2.2 16 l2.toNatClampNeg) (4611686018427387904 : Int64))))) 19 (upd ((setL (setA c 17 (upd (c.2.1 17) a.toNatClampNeg l2)) 18 (vp_updL ((setA c 17 (upd (c.2.1 17) a.toNatClampNeg l2)).2.2 18) a.toNatClampNeg (fX1_plus (c.2.2 12 (fX2_place a l2).toNatClampNeg) (fX1_over (c.2.2 16 l2.toNatClampNeg) (4611686018427387904 : Int64))))).2.1 19) a.toNatClampNeg (vp_nar .boolean (0 : Int32))))))))))))
  else
    (vp_in ((fX2_place a l3) + (1 : Int32)) 600 ∧ (vp_in (fX2_place a l3) 600 ∧ (vp_in l3 3 ∧ (vp_in l2 3 ∧ (vp_in l3 3 ∧ (if (fX1_isBelow ((setL c 16 (vp_updL (c.2.2 16) l3.toNatClampNeg (fX1_plus (c.2.2 12 ((fX2_place a l3) + (1 : Int32)).toNatClampNeg) (fX1_opposite (c.2.2 12 (fX2_place a l3).toNatClampNeg))))).2.2 16 l2.toNatClampNeg) ((setL c 16 (vp_updL (c.2.2 16) l3.toNatClampNeg (fX1_plus (c.2.2 12 ((fX2_place a l3) + (1 : Int32)).toNatClampNeg) (fX1_opposite (c.2.2 12 (fX2_place a l3).toNatClampNeg))))).2.2 16 l3.toNatClampNeg)) = 0 then
      kc4 a l2 (l3 + (1 : Int32)) (setL c 16 (vp_updL (c.2.2 16) l3.toNatClampNeg (fX1_plus (c.2.2 12 ((fX2_place a l3) + (1 : Int32)).toNatClampNeg) (fX1_opposite (c.2.2 12 (fX2_place a l3).toNatClampNeg)))))
    else
      kc4 a l3 (l3 + (1 : Int32)) (setL c 16 (vp_updL (c.2.2 16) l3.toNatClampNeg (fX1_plus (c.2.2 12 ((fX2_place a l3) + (1 : Int32)).toNatClampNeg) (fX1_opposite (c.2.2 12 (fX2_place a l3).toNatClampNeg))))))))))))
set_option maxRecDepth 20000 in
theorem mbX2_measure_0 {c : CS} {a : Int32} {kr kq : CS → Prop} {kc4 kd4 : Int32 → Int32 → Int32 → CS → Prop} (hr : ∀ X, kr X → kq X) (hc4 : ∀ z1 z2 z3 X, kc4 z1 z2 z3 X → kd4 z1 z2 z3 X) (h : bX2_measure_0 c a kr kc4) : bX2_measure_0 c a kq kd4 := by
  unfold bX2_measure_0 at h ⊢
  exact hc4 _ _ _ _ h
set_option maxRecDepth 20000 in
theorem mbX2_measure_4 {c : CS} {a : Int32} {l2 : Int32} {l3 : Int32} {kr kq : CS → Prop} {kc4 kd4 : Int32 → Int32 → Int32 → CS → Prop} (hr : ∀ X, kr X → kq X) (hc4 : ∀ z1 z2 z3 X, kc4 z1 z2 z3 X → kd4 z1 z2 z3 X) (h : bX2_measure_4 c a l2 l3 kr kc4) : bX2_measure_4 c a l2 l3 kq kd4 := by
  unfold bX2_measure_4 at h ⊢
  by_cases hc : (c.1 4) ≤ l3
  · rw [if_pos hc] at h ⊢
    obtain ⟨hi, h⟩ := h
    refine And.intro hi ?_
    obtain ⟨hi, h⟩ := h
    refine And.intro hi ?_
    obtain ⟨hi, h⟩ := h
    refine And.intro hi ?_
    obtain ⟨hi, h⟩ := h
    refine And.intro hi ?_
    obtain ⟨hi, h⟩ := h
    refine And.intro hi ?_
    by_cases hc : (fX1_isBelow (c.2.2 12 (fX2_place a l2).toNatClampNeg) (fX1_plus (c.2.2 12 (fX2_place a l2).toNatClampNeg) (fX1_over (c.2.2 16 l2.toNatClampNeg) (4611686018427387904 : Int64)))) = 0
    · rw [if_pos hc] at h ⊢
      obtain ⟨hi, h⟩ := h
      refine And.intro hi ?_
      exact hr _ h
    · rw [if_neg hc] at h ⊢
      by_cases hc : (fX1_isBelow (fX1_plus (c.2.2 12 (fX2_place a l2).toNatClampNeg) (fX1_over (c.2.2 16 l2.toNatClampNeg) (4611686018427387904 : Int64))) (c.2.2 12 ((fX2_place a l2) + (1 : Int32)).toNatClampNeg)) = 0
      · rw [if_pos hc] at h ⊢
        obtain ⟨hi, h⟩ := h
        refine And.intro hi ?_
        exact hr _ h
      · rw [if_neg hc] at h ⊢
        obtain ⟨hi, h⟩ := h
        refine And.intro hi ?_
        exact hr _ h
  · rw [if_neg hc] at h ⊢
    obtain ⟨hi, h⟩ := h
    refine And.intro hi ?_
    obtain ⟨hi, h⟩ := h
    refine And.intro hi ?_
    obtain ⟨hi, h⟩ := h
    refine And.intro hi ?_
    obtain ⟨hi, h⟩ := h
    refine And.intro hi ?_
    obtain ⟨hi, h⟩ := h
    refine And.intro hi ?_
    by_cases hc : (fX1_isBelow ((setL c 16 (vp_updL (c.2.2 16) l3.toNatClampNeg (fX1_plus (c.2.2 12 ((fX2_place a l3) + (1 : Int32)).toNatClampNeg) (fX1_opposite (c.2.2 12 (fX2_place a l3).toNatClampNeg))))).2.2 16 l2.toNatClampNeg) ((setL c 16 (vp_updL (c.2.2 16) l3.toNatClampNeg (fX1_plus (c.2.2 12 ((fX2_place a l3) + (1 : Int32)).toNatClampNeg) (fX1_opposite (c.2.2 12 (fX2_place a l3).toNatClampNeg))))).2.2 16 l3.toNatClampNeg)) = 0
    · rw [if_pos hc] at h ⊢
      exact hc4 _ _ _ _ h
    · rw [if_neg hc] at h ⊢
      exact hc4 _ _ _ _ h
def itX2_measure_4 (kr : CS → Prop) : Nat → Int32 → Int32 → Int32 → CS → Prop
  | 0, _, _, _, _ => False
  | n + 1, a, l2, l3, c => bX2_measure_4 c a l2 l3 kr (fun z1 z2 z3 X => itX2_measure_4 kr n z1 z2 z3 X)
theorem miX2_measure_4 {kr kq : CS → Prop} (hr : ∀ X, kr X → kq X) : ∀ (n : Nat) (z1 : Int32) (z2 : Int32) (z3 : Int32) (X : CS), itX2_measure_4 kr n z1 z2 z3 X → itX2_measure_4 kq n z1 z2 z3 X
  | 0, _, _, _, _, h => h
  | n + 1, _, _, _, _, h => mbX2_measure_4 hr (fun _ _ _ _ h => miX2_measure_4 hr n _ _ _ _ h) h
def wX2_measure (c : CS) (a : Int32) (kr : CS → Prop) : Prop := bX2_measure_0 c a kr (fun z1 z2 z3 X => ∃ N, itX2_measure_4 kr N z1 z2 z3 X)
theorem mnX2_measure {c : CS} {a : Int32} {kr kq : CS → Prop} (hr : ∀ X, kr X → kq X) (h : wX2_measure c a kr) : wX2_measure c a kq := mbX2_measure_0 hr (fun _ _ _ _ h => h.elim fun N h => ⟨N, miX2_measure_4 hr N _ _ _ _ h⟩) h
def tX2_measure : Tr := fun as σ k => match as with
  | [.ref 11, .int a] => ∃ (c : CS) (M : aS), σ = wC c ++ M ∧ wX2_measure c a (fun X => k none (wC X ++ M))
  | _ => False
def ceX2_measure : List (Nat × Nat × Tr) := (2 * 45, 2, tX2_place) :: (2 * 65, 2, tX1_over) :: (2 * 55, 2, tX1_plus) :: (2 * 59, 2, tX1_isBelow) :: (2 * 49, 1, tX1_opposite) :: []
theorem coX2_measure (l : Launch) : CEok l yX2_measure.cls 4 ceX2_measure := ce_S (okX2_place l) (mw 367 (by decide +kernel) rfl) (mw 202 (by decide +kernel) rfl) (mw 3 (by decide +kernel) rfl) (mw 203 (by decide +kernel) rfl) (by decide) ⟨by decide, by decide⟩ (ce_S (okX1_over l) (mw 372 (by decide +kernel) rfl) (mw 294 (by decide +kernel) rfl) (mw 5 (by decide +kernel) rfl) (mw 295 (by decide +kernel) rfl) (by decide) ⟨by decide, by decide⟩ (ce_S (okX1_plus l) (mw 369 (by decide +kernel) rfl) (mw 224 (by decide +kernel) rfl) (mw 5 (by decide +kernel) rfl) (mw 225 (by decide +kernel) rfl) (by decide) ⟨by decide, by decide⟩ (ce_S (okX1_isBelow l) (mw 370 (by decide +kernel) rfl) (mw 134 (by decide +kernel) rfl) (mw 5 (by decide +kernel) rfl) (mw 135 (by decide +kernel) rfl) (by decide) ⟨by decide, by decide⟩ (ce_S (okX1_opposite l) (mw 368 (by decide +kernel) rfl) (mw 259 (by decide +kernel) rfl) (mw 5 (by decide +kernel) rfl) (mw 260 (by decide +kernel) rfl) (by decide) ⟨by decide, by decide⟩ (ce_0)))))
abbrev cutX2_measure : List (Nat × List Nat) := [(4, [0, 1, 2, 3])]
set_option maxRecDepth 20000 in
set_option maxHeartbeats 4000000 in
theorem lbX2_measure_0 {G : Nat → LV → List Value → aS → Prop} {post : Option Value → aS → Prop} (hG : ∀ n b pc lv st σ, seg (0, fun _ => 0) pgX2_measure ceX2_measure cutX2_measure G (fun v σ => rFit none v ∧ post v σ) n b pc lv st σ → G pc lv st σ) (c : CS) (M : aS) (a : Int32) (hb : bX2_measure_0 c a (fun X => rFit none none ∧ post none (wC X ++ M)) (fun z1 z2 z3 X => G 4 [(0, .ref 11), (1, .int z1), (2, .int z2), (3, .int z3)] [] (wC X ++ M))) : G 0 [(0, .ref 11), (1, .int a)] [] (wC c ++ M) := by
  unfold bX2_measure_0 at hb
  refine hG 400 false 0 _ _ _ ?_
  exact hb
set_option maxRecDepth 20000 in
set_option maxHeartbeats 4000000 in
theorem lbX2_measure_4 {G : Nat → LV → List Value → aS → Prop} {post : Option Value → aS → Prop} (hG : ∀ n b pc lv st σ, seg (0, fun _ => 0) pgX2_measure ceX2_measure cutX2_measure G (fun v σ => rFit none v ∧ post v σ) n b pc lv st σ → G pc lv st σ) (c : CS) (M : aS) (a : Int32) (l2 : Int32) (l3 : Int32) (hb : bX2_measure_4 c a l2 l3 (fun X => rFit none none ∧ post none (wC X ++ M)) (fun z1 z2 z3 X => G 4 [(0, .ref 11), (1, .int z1), (2, .int z2), (3, .int z3)] [] (wC X ++ M))) : G 4 [(0, .ref 11), (1, .int a), (2, .int l2), (3, .int l3)] [] (wC c ++ M) := by
  unfold bX2_measure_4 at hb
  refine hG 400 false 4 _ _ _ ?_
  refine And.intro (fun (h : (c.1 4) ≤ l3) => ?_) (fun (h : ¬ (c.1 4) ≤ l3) => ?_)
  · rw [if_pos h] at hb
    obtain ⟨hi, hb⟩ := hb
    refine And.intro hi ?_
    obtain ⟨hi, hb⟩ := hb
    refine And.intro hi ?_
    obtain ⟨hi, hb⟩ := hb
    refine And.intro hi ?_
    obtain ⟨hi, hb⟩ := hb
    refine And.intro hi ?_
    obtain ⟨hi, hb⟩ := hb
    refine And.intro hi ?_
    refine And.intro (fun (h : (fX1_isBelow (c.2.2 12 (fX2_place a l2).toNatClampNeg) (fX1_plus (c.2.2 12 (fX2_place a l2).toNatClampNeg) (fX1_over (c.2.2 16 l2.toNatClampNeg) (4611686018427387904 : Int64)))) = 0) => ?_) (fun (h : ¬ (fX1_isBelow (c.2.2 12 (fX2_place a l2).toNatClampNeg) (fX1_plus (c.2.2 12 (fX2_place a l2).toNatClampNeg) (fX1_over (c.2.2 16 l2.toNatClampNeg) (4611686018427387904 : Int64)))) = 0) => ?_)
    · rw [if_pos h] at hb
      obtain ⟨hi, hb⟩ := hb
      refine And.intro hi ?_
      exact hb
    · rw [if_neg h] at hb
      refine And.intro (fun (h : ¬ (fX1_isBelow (fX1_plus (c.2.2 12 (fX2_place a l2).toNatClampNeg) (fX1_over (c.2.2 16 l2.toNatClampNeg) (4611686018427387904 : Int64))) (c.2.2 12 ((fX2_place a l2) + (1 : Int32)).toNatClampNeg)) = 0) => ?_) (fun hq => have h : (fX1_isBelow (fX1_plus (c.2.2 12 (fX2_place a l2).toNatClampNeg) (fX1_over (c.2.2 16 l2.toNatClampNeg) (4611686018427387904 : Int64))) (c.2.2 12 ((fX2_place a l2) + (1 : Int32)).toNatClampNeg)) = 0 := Classical.not_not.mp hq; ?_)
      · rw [if_neg h] at hb
        obtain ⟨hi, hb⟩ := hb
        refine And.intro hi ?_
        exact hb
      · rw [if_pos h] at hb
        obtain ⟨hi, hb⟩ := hb
        refine And.intro hi ?_
        exact hb
  · rw [if_neg h] at hb
    obtain ⟨hi, hb⟩ := hb
    refine And.intro hi ?_
    obtain ⟨hi, hb⟩ := hb
    refine And.intro hi ?_
    obtain ⟨hi, hb⟩ := hb
    refine And.intro hi ?_
    obtain ⟨hi, hb⟩ := hb
    refine And.intro hi ?_
    obtain ⟨hi, hb⟩ := hb
    refine And.intro hi ?_
    refine And.intro (fun (h : (fX1_isBelow ((setL c 16 (vp_updL (c.2.2 16) l3.toNatClampNeg (fX1_plus (c.2.2 12 ((fX2_place a l3) + (1 : Int32)).toNatClampNeg) (fX1_opposite (c.2.2 12 (fX2_place a l3).toNatClampNeg))))).2.2 16 l2.toNatClampNeg) ((setL c 16 (vp_updL (c.2.2 16) l3.toNatClampNeg (fX1_plus (c.2.2 12 ((fX2_place a l3) + (1 : Int32)).toNatClampNeg) (fX1_opposite (c.2.2 12 (fX2_place a l3).toNatClampNeg))))).2.2 16 l3.toNatClampNeg)) = 0) => ?_) (fun (h : ¬ (fX1_isBelow ((setL c 16 (vp_updL (c.2.2 16) l3.toNatClampNeg (fX1_plus (c.2.2 12 ((fX2_place a l3) + (1 : Int32)).toNatClampNeg) (fX1_opposite (c.2.2 12 (fX2_place a l3).toNatClampNeg))))).2.2 16 l2.toNatClampNeg) ((setL c 16 (vp_updL (c.2.2 16) l3.toNatClampNeg (fX1_plus (c.2.2 12 ((fX2_place a l3) + (1 : Int32)).toNatClampNeg) (fX1_opposite (c.2.2 12 (fX2_place a l3).toNatClampNeg))))).2.2 16 l3.toNatClampNeg)) = 0) => ?_)
    · rw [if_pos h] at hb
      exact hb
    · rw [if_neg h] at hb
      exact hb
theorem giX2_measure_4 {G : Nat → LV → List Value → aS → Prop} {post : Option Value → aS → Prop} (hG : ∀ n b pc lv st σ, seg (0, fun _ => 0) pgX2_measure ceX2_measure cutX2_measure G (fun v σ => rFit none v ∧ post v σ) n b pc lv st σ → G pc lv st σ) (M : aS) : ∀ (n : Nat) (z1 : Int32) (z2 : Int32) (z3 : Int32) (X : CS), itX2_measure_4 (fun X => rFit none none ∧ post none (wC X ++ M)) n z1 z2 z3 X → G 4 [(0, .ref 11), (1, .int z1), (2, .int z2), (3, .int z3)] [] (wC X ++ M)
  | 0, _, _, _, _, h => h.elim
  | n + 1, _, _, _, _, h => lbX2_measure_4 hG _ M _ _ _ (mbX2_measure_4 (fun _ h => h) (fun _ _ _ _ h => giX2_measure_4 hG M n _ _ _ _ h) h)
theorem rcX2_measure : ∀ as σ kk, tX2_measure as σ kk → ∃ a r fs, as = .ref a :: r ∧ σ[a]? = some (.inr (1, fs)) := by
  intro as σ kk h
  unfold tX2_measure at h; split at h
  · obtain ⟨c, M, rfl, -⟩ := h
    exact ⟨_, _, _, rfl, rfl⟩
  · exact h.elim
set_option maxRecDepth 20000 in
theorem okX2_measure (l : Launch) : OK l yX2_measure cX2_measure 9 none 4 tX2_measure := by
  intro D τ ρ A as σ post h
  unfold tX2_measure at h; split at h
  · rename_i a; obtain ⟨c, M, rfl, hw⟩ := h
    refine met_of (P := pgX2_measure) (CE := ceX2_measure) (cut := cutX2_measure) (by decide) kkX2_measure (coX2_measure l) (Nat.le_of_ble_eq_true rfl) ?_
    intro G hG
    unfold wX2_measure at hw
    refine lbX2_measure_0 hG c M a (mbX2_measure_0 ?_ ?_ hw)
    · exact fun _ h => ⟨trivial, h⟩
    · intro _ _ _ _ ⟨N, h⟩; exact giX2_measure_4 hG M N _ _ _ _ (miX2_measure_4 (fun _ h => ⟨trivial, h⟩) N _ _ _ _ h)
  · exact h.elim
def bX2_split_0 (c : CS) (a : Int32) (kr : Int32 → CS → Prop) (kc7 : Int32 → Int32 → Int32 → CS → Prop) : Prop :=
  kc7 a (c.1 3) (0 : Int32) c
def bX2_split_7 (c : CS) (a : Int32) (l2 : Int32) (l3 : Int32) (kr : Int32 → CS → Prop) (kc7 : Int32 → Int32 → Int32 → CS → Prop) : Prop :=
  (if (6 : Int32) ≤ l3 then
    (vp_in a 100 ∧ (vp_in a 100 ∧ (vp_in ((fX2_place a (c.2.1 17 a.toNatClampNeg)) + (1 : Int32)) 600 ∧ (vp_in a 100 ∧ (vp_in a 100 ∧ (vp_in (fX2_place l2 ((setL c 12 (vp_updL (c.2.2 12) ((fX2_place a (c.2.1 17 a.toNatClampNeg)) + (1 : Int32)).toNatClampNeg (c.2.2 18 a.toNatClampNeg))).2.1 17 a.toNatClampNeg)) 600 ∧ kr l2 (setI (setL (setL c 12 (vp_updL (c.2.2 12) ((fX2_place a (c.2.1 17 a.toNatClampNeg)) + (1 : Int32)).toNatClampNeg (c.2.2 18 a.toNatClampNeg))) 12 (vp_updL ((setL c 12 (vp_updL (c.2.2 12) ((fX2_place a (c.2.1 17 a.toNatClampNeg)) + (1 : Int32)).toNatClampNeg (c.2.2 18 a.toNatClampNeg))).2.2 12) (fX2_place l2 ((setL c 12 (vp_updL (c.2.2 12) ((fX2_place a (c.2.1 17 a.toNatClampNeg)) + (1 : Int32)).toNatClampNeg (c.2.2 18 a.toNatClampNeg))).2.1 17 a.toNatClampNeg)).toNatClampNeg ((setL c 12 (vp_updL (c.2.2 12) ((fX2_place a (c.2.1 17 a.toNatClampNeg)) + (1 : Int32)).toNatClampNeg (c.2.2 18 a.toNatClampNeg))).2.2 18 a.toNatClampNeg))) 3 (((setL (setL c 12 (vp_updL (c.2.2 12) ((fX2_place a (c.2.1 17 a.toNatClampNeg)) + (1 : Int32)).toNatClampNeg (c.2.2 18 a.toNatClampNeg))) 12 (vp_updL ((setL c 12 (vp_updL (c.2.2 12) ((fX2_place a (c.2.1 17 a.toNatClampNeg)) + (1 : Int32)).toNatClampNeg (c.2.2 18 a.toNatClampNeg))).2.2 12) (fX2_place l2 ((setL c 12 (vp_updL (c.2.2 12) ((fX2_place a (c.2.1 17 a.toNatClampNeg)) + (1 : Int32)).toNatClampNeg (c.2.2 18 a.toNatClampNeg))).2.1 17 a.toNatClampNeg)).toNatClampNeg ((setL c 12 (vp_updL (c.2.2 12) ((fX2_place a (c.2.1 17 a.toNatClampNeg)) + (1 : Int32)).toNatClampNeg (c.2.2 18 a.toNatClampNeg))).2.2 18 a.toNatClampNeg))).1 3) + (1 : Int32)))))))))
  else
    (vp_in ((fX2_place a (0 : Int32)) + l3) 600 ∧ (vp_in ((fX2_place l2 (0 : Int32)) + l3) 600 ∧ kc7 a l2 (l3 + (1 : Int32)) (setL c 12 (vp_updL (c.2.2 12) ((fX2_place l2 (0 : Int32)) + l3).toNatClampNeg (c.2.2 12 ((fX2_place a (0 : Int32)) + l3).toNatClampNeg))))))
set_option maxRecDepth 20000 in
theorem mbX2_split_0 {c : CS} {a : Int32} {kr kq : Int32 → CS → Prop} {kc7 kd7 : Int32 → Int32 → Int32 → CS → Prop} (hr : ∀ x X, kr x X → kq x X) (hc7 : ∀ z1 z2 z3 X, kc7 z1 z2 z3 X → kd7 z1 z2 z3 X) (h : bX2_split_0 c a kr kc7) : bX2_split_0 c a kq kd7 := by
  unfold bX2_split_0 at h ⊢
  exact hc7 _ _ _ _ h
set_option maxRecDepth 20000 in
theorem mbX2_split_7 {c : CS} {a : Int32} {l2 : Int32} {l3 : Int32} {kr kq : Int32 → CS → Prop} {kc7 kd7 : Int32 → Int32 → Int32 → CS → Prop} (hr : ∀ x X, kr x X → kq x X) (hc7 : ∀ z1 z2 z3 X, kc7 z1 z2 z3 X → kd7 z1 z2 z3 X) (h : bX2_split_7 c a l2 l3 kr kc7) : bX2_split_7 c a l2 l3 kq kd7 := by
  unfold bX2_split_7 at h ⊢
  by_cases hc : (6 : Int32) ≤ l3
  · rw [if_pos hc] at h ⊢
    obtain ⟨hi, h⟩ := h
    refine And.intro hi ?_
    obtain ⟨hi, h⟩ := h
    refine And.intro hi ?_
    obtain ⟨hi, h⟩ := h
    refine And.intro hi ?_
    obtain ⟨hi, h⟩ := h
    refine And.intro hi ?_
    obtain ⟨hi, h⟩ := h
    refine And.intro hi ?_
    obtain ⟨hi, h⟩ := h
    refine And.intro hi ?_
    exact hr _ _ h
  · rw [if_neg hc] at h ⊢
    obtain ⟨hi, h⟩ := h
    refine And.intro hi ?_
    obtain ⟨hi, h⟩ := h
    refine And.intro hi ?_
    exact hc7 _ _ _ _ h
def itX2_split_7 (kr : Int32 → CS → Prop) : Nat → Int32 → Int32 → Int32 → CS → Prop
  | 0, _, _, _, _ => False
  | n + 1, a, l2, l3, c => bX2_split_7 c a l2 l3 kr (fun z1 z2 z3 X => itX2_split_7 kr n z1 z2 z3 X)
theorem miX2_split_7 {kr kq : Int32 → CS → Prop} (hr : ∀ x X, kr x X → kq x X) : ∀ (n : Nat) (z1 : Int32) (z2 : Int32) (z3 : Int32) (X : CS), itX2_split_7 kr n z1 z2 z3 X → itX2_split_7 kq n z1 z2 z3 X
  | 0, _, _, _, _, h => h
  | n + 1, _, _, _, _, h => mbX2_split_7 hr (fun _ _ _ _ h => miX2_split_7 hr n _ _ _ _ h) h
def wX2_split (c : CS) (a : Int32) (kr : Int32 → CS → Prop) : Prop := bX2_split_0 c a kr (fun z1 z2 z3 X => ∃ N, itX2_split_7 kr N z1 z2 z3 X)
theorem mnX2_split {c : CS} {a : Int32} {kr kq : Int32 → CS → Prop} (hr : ∀ x X, kr x X → kq x X) (h : wX2_split c a kr) : wX2_split c a kq := mbX2_split_0 hr (fun _ _ _ _ h => h.elim fun N h => ⟨N, miX2_split_7 hr N _ _ _ _ h⟩) h
def tX2_split : Tr := fun as σ k => match as with
  | [.ref 11, .int a] => ∃ (c : CS) (M : aS), σ = wC c ++ M ∧ wX2_split c a (fun x X => k (some (.int x)) (wC X ++ M))
  | _ => False
def ceX2_split : List (Nat × Nat × Tr) := (2 * 45, 2, tX2_place) :: []
theorem coX2_split (l : Launch) : CEok l yX2_split.cls 1 ceX2_split := ce_S (okX2_place l) (mw 367 (by decide +kernel) rfl) (mw 202 (by decide +kernel) rfl) (mw 3 (by decide +kernel) rfl) (mw 203 (by decide +kernel) rfl) (by decide) ⟨by decide, by decide⟩ (ce_0)
abbrev cutX2_split : List (Nat × List Nat) := [(7, [0, 1, 2, 3])]
set_option maxRecDepth 20000 in
set_option maxHeartbeats 4000000 in
theorem lbX2_split_0 {G : Nat → LV → List Value → aS → Prop} {post : Option Value → aS → Prop} (hG : ∀ n b pc lv st σ, seg (0, fun _ => 0) pgX2_split ceX2_split cutX2_split G (fun v σ => rFit (some .int) v ∧ post v σ) n b pc lv st σ → G pc lv st σ) (c : CS) (M : aS) (a : Int32) (hb : bX2_split_0 c a (fun x X => rFit (some .int) (some (.int x)) ∧ post (some (.int x)) (wC X ++ M)) (fun z1 z2 z3 X => G 7 [(0, .ref 11), (1, .int z1), (2, .int z2), (3, .int z3)] [] (wC X ++ M))) : G 0 [(0, .ref 11), (1, .int a)] [] (wC c ++ M) := by
  unfold bX2_split_0 at hb
  refine hG 400 false 0 _ _ _ ?_
  exact hb
set_option maxRecDepth 20000 in
set_option maxHeartbeats 4000000 in
theorem lbX2_split_7 {G : Nat → LV → List Value → aS → Prop} {post : Option Value → aS → Prop} (hG : ∀ n b pc lv st σ, seg (0, fun _ => 0) pgX2_split ceX2_split cutX2_split G (fun v σ => rFit (some .int) v ∧ post v σ) n b pc lv st σ → G pc lv st σ) (c : CS) (M : aS) (a : Int32) (l2 : Int32) (l3 : Int32) (hb : bX2_split_7 c a l2 l3 (fun x X => rFit (some .int) (some (.int x)) ∧ post (some (.int x)) (wC X ++ M)) (fun z1 z2 z3 X => G 7 [(0, .ref 11), (1, .int z1), (2, .int z2), (3, .int z3)] [] (wC X ++ M))) : G 7 [(0, .ref 11), (1, .int a), (2, .int l2), (3, .int l3)] [] (wC c ++ M) := by
  unfold bX2_split_7 at hb
  refine hG 400 false 7 _ _ _ ?_
  refine And.intro (fun (h : (6 : Int32) ≤ l3) => ?_) (fun (h : ¬ (6 : Int32) ≤ l3) => ?_)
  · rw [if_pos h] at hb
    obtain ⟨hi, hb⟩ := hb
    refine And.intro hi ?_
    obtain ⟨hi, hb⟩ := hb
    refine And.intro hi ?_
    obtain ⟨hi, hb⟩ := hb
    refine And.intro hi ?_
    obtain ⟨hi, hb⟩ := hb
    refine And.intro hi ?_
    obtain ⟨hi, hb⟩ := hb
    refine And.intro hi ?_
    obtain ⟨hi, hb⟩ := hb
    refine And.intro hi ?_
    exact hb
  · rw [if_neg h] at hb
    obtain ⟨hi, hb⟩ := hb
    refine And.intro hi ?_
    obtain ⟨hi, hb⟩ := hb
    refine And.intro hi ?_
    exact hb
theorem giX2_split_7 {G : Nat → LV → List Value → aS → Prop} {post : Option Value → aS → Prop} (hG : ∀ n b pc lv st σ, seg (0, fun _ => 0) pgX2_split ceX2_split cutX2_split G (fun v σ => rFit (some .int) v ∧ post v σ) n b pc lv st σ → G pc lv st σ) (M : aS) : ∀ (n : Nat) (z1 : Int32) (z2 : Int32) (z3 : Int32) (X : CS), itX2_split_7 (fun x X => rFit (some .int) (some (.int x)) ∧ post (some (.int x)) (wC X ++ M)) n z1 z2 z3 X → G 7 [(0, .ref 11), (1, .int z1), (2, .int z2), (3, .int z3)] [] (wC X ++ M)
  | 0, _, _, _, _, h => h.elim
  | n + 1, _, _, _, _, h => lbX2_split_7 hG _ M _ _ _ (mbX2_split_7 (fun _ _ h => h) (fun _ _ _ _ h => giX2_split_7 hG M n _ _ _ _ h) h)
theorem rcX2_split : ∀ as σ kk, tX2_split as σ kk → ∃ a r fs, as = .ref a :: r ∧ σ[a]? = some (.inr (1, fs)) := by
  intro as σ kk h
  unfold tX2_split at h; split at h
  · obtain ⟨c, M, rfl, -⟩ := h
    exact ⟨_, _, _, rfl, rfl⟩
  · exact h.elim
set_option maxRecDepth 20000 in
theorem okX2_split (l : Launch) : OK l yX2_split cX2_split 4 (some .int) 1 tX2_split := by
  intro D τ ρ A as σ post h
  unfold tX2_split at h; split at h
  · rename_i a; obtain ⟨c, M, rfl, hw⟩ := h
    refine met_of (P := pgX2_split) (CE := ceX2_split) (cut := cutX2_split) (by decide) kkX2_split (coX2_split l) (Nat.le_of_ble_eq_true rfl) ?_
    intro G hG
    unfold wX2_split at hw
    refine lbX2_split_0 hG c M a (mbX2_split_0 ?_ ?_ hw)
    · exact fun _ _ h => ⟨trivial, h⟩
    · intro _ _ _ _ ⟨N, h⟩; exact giX2_split_7 hG M N _ _ _ _ (miX2_split_7 (fun _ _ h => ⟨trivial, h⟩) N _ _ _ _ h)
  · exact h.elim
def bX2_heaviest_0 (c : CS)  (kr : Int32 → CS → Prop) (kc5 : Int32 → Int32 → CS → Prop) : Prop :=
  kc5 (-5 : Int32) (0 : Int32) c
def bX2_heaviest_5 (c : CS) (l1 : Int32) (l2 : Int32) (kr : Int32 → CS → Prop) (kc5 : Int32 → Int32 → CS → Prop) : Prop :=
  (if (c.1 3) ≤ l2 then
    kr l1 c
  else
    (vp_in l2 100 ∧ (if (c.2.1 15 l2.toNatClampNeg) = (3 : Int32) then
      (vp_in l2 100 ∧ (if (c.2.1 19 l2.toNatClampNeg) = 0 then
        (if l1 = (-5 : Int32) then
          kc5 l2 (l2 + (1 : Int32)) c
        else
          (vp_in l1 100 ∧ (vp_in l2 100 ∧ (if (fX1_isBelow (c.2.2 14 l1.toNatClampNeg) (c.2.2 14 l2.toNatClampNeg)) = 0 then
            kc5 l1 (l2 + (1 : Int32)) c
          else
            kc5 l2 (l2 + (1 : Int32)) c))))
      else
        kc5 l1 (l2 + (1 : Int32)) c))
    else
      kc5 l1 (l2 + (1 : Int32)) c)))
set_option maxRecDepth 20000 in
theorem mbX2_heaviest_0 {c : CS}  {kr kq : Int32 → CS → Prop} {kc5 kd5 : Int32 → Int32 → CS → Prop} (hr : ∀ x X, kr x X → kq x X) (hc5 : ∀ z1 z2 X, kc5 z1 z2 X → kd5 z1 z2 X) (h : bX2_heaviest_0 c  kr kc5) : bX2_heaviest_0 c  kq kd5 := by
  unfold bX2_heaviest_0 at h ⊢
  exact hc5 _ _ _ h
set_option maxRecDepth 20000 in
theorem mbX2_heaviest_5 {c : CS} {l1 : Int32} {l2 : Int32} {kr kq : Int32 → CS → Prop} {kc5 kd5 : Int32 → Int32 → CS → Prop} (hr : ∀ x X, kr x X → kq x X) (hc5 : ∀ z1 z2 X, kc5 z1 z2 X → kd5 z1 z2 X) (h : bX2_heaviest_5 c l1 l2 kr kc5) : bX2_heaviest_5 c l1 l2 kq kd5 := by
  unfold bX2_heaviest_5 at h ⊢
  by_cases hc : (c.1 3) ≤ l2
  · rw [if_pos hc] at h ⊢
    exact hr _ _ h
  · rw [if_neg hc] at h ⊢
    obtain ⟨hi, h⟩ := h
    refine And.intro hi ?_
    by_cases hc : (c.2.1 15 l2.toNatClampNeg) = (3 : Int32)
    · rw [if_pos hc] at h ⊢
      obtain ⟨hi, h⟩ := h
      refine And.intro hi ?_
      by_cases hc : (c.2.1 19 l2.toNatClampNeg) = 0
      · rw [if_pos hc] at h ⊢
        by_cases hc : l1 = (-5 : Int32)
        · rw [if_pos hc] at h ⊢
          exact hc5 _ _ _ h
        · rw [if_neg hc] at h ⊢
          obtain ⟨hi, h⟩ := h
          refine And.intro hi ?_
          obtain ⟨hi, h⟩ := h
          refine And.intro hi ?_
          by_cases hc : (fX1_isBelow (c.2.2 14 l1.toNatClampNeg) (c.2.2 14 l2.toNatClampNeg)) = 0
          · rw [if_pos hc] at h ⊢
            exact hc5 _ _ _ h
          · rw [if_neg hc] at h ⊢
            exact hc5 _ _ _ h
      · rw [if_neg hc] at h ⊢
        exact hc5 _ _ _ h
    · rw [if_neg hc] at h ⊢
      exact hc5 _ _ _ h
def itX2_heaviest_5 (kr : Int32 → CS → Prop) : Nat → Int32 → Int32 → CS → Prop
  | 0, _, _, _ => False
  | n + 1, l1, l2, c => bX2_heaviest_5 c l1 l2 kr (fun z1 z2 X => itX2_heaviest_5 kr n z1 z2 X)
theorem miX2_heaviest_5 {kr kq : Int32 → CS → Prop} (hr : ∀ x X, kr x X → kq x X) : ∀ (n : Nat) (z1 : Int32) (z2 : Int32) (X : CS), itX2_heaviest_5 kr n z1 z2 X → itX2_heaviest_5 kq n z1 z2 X
  | 0, _, _, _, h => h
  | n + 1, _, _, _, h => mbX2_heaviest_5 hr (fun _ _ _ h => miX2_heaviest_5 hr n _ _ _ h) h
def wX2_heaviest (c : CS)  (kr : Int32 → CS → Prop) : Prop := bX2_heaviest_0 c  kr (fun z1 z2 X => ∃ N, itX2_heaviest_5 kr N z1 z2 X)
theorem mnX2_heaviest {c : CS}  {kr kq : Int32 → CS → Prop} (hr : ∀ x X, kr x X → kq x X) (h : wX2_heaviest c  kr) : wX2_heaviest c  kq := mbX2_heaviest_0 hr (fun _ _ _ h => h.elim fun N h => ⟨N, miX2_heaviest_5 hr N _ _ _ h⟩) h
def tX2_heaviest : Tr := fun as σ k => match as with
  | [.ref 11] => ∃ (c : CS) (M : aS), σ = wC c ++ M ∧ wX2_heaviest c  (fun x X => k (some (.int x)) (wC X ++ M))
  | _ => False
def ceX2_heaviest : List (Nat × Nat × Tr) := (2 * 59, 2, tX1_isBelow) :: []
theorem coX2_heaviest (l : Launch) : CEok l yX2_heaviest.cls 2 ceX2_heaviest := ce_S (okX1_isBelow l) (mw 370 (by decide +kernel) rfl) (mw 134 (by decide +kernel) rfl) (mw 5 (by decide +kernel) rfl) (mw 135 (by decide +kernel) rfl) (by decide) ⟨by decide, by decide⟩ (ce_0)
abbrev cutX2_heaviest : List (Nat × List Nat) := [(5, [0, 1, 2])]
set_option maxRecDepth 20000 in
set_option maxHeartbeats 4000000 in
theorem lbX2_heaviest_0 {G : Nat → LV → List Value → aS → Prop} {post : Option Value → aS → Prop} (hG : ∀ n b pc lv st σ, seg (0, fun _ => 0) pgX2_heaviest ceX2_heaviest cutX2_heaviest G (fun v σ => rFit (some .int) v ∧ post v σ) n b pc lv st σ → G pc lv st σ) (c : CS) (M : aS)  (hb : bX2_heaviest_0 c  (fun x X => rFit (some .int) (some (.int x)) ∧ post (some (.int x)) (wC X ++ M)) (fun z1 z2 X => G 5 [(0, .ref 11), (1, .int z1), (2, .int z2)] [] (wC X ++ M))) : G 0 [(0, .ref 11)] [] (wC c ++ M) := by
  unfold bX2_heaviest_0 at hb
  refine hG 400 false 0 _ _ _ ?_
  exact hb
set_option maxRecDepth 20000 in
set_option maxHeartbeats 4000000 in
theorem lbX2_heaviest_5 {G : Nat → LV → List Value → aS → Prop} {post : Option Value → aS → Prop} (hG : ∀ n b pc lv st σ, seg (0, fun _ => 0) pgX2_heaviest ceX2_heaviest cutX2_heaviest G (fun v σ => rFit (some .int) v ∧ post v σ) n b pc lv st σ → G pc lv st σ) (c : CS) (M : aS) (l1 : Int32) (l2 : Int32) (hb : bX2_heaviest_5 c l1 l2 (fun x X => rFit (some .int) (some (.int x)) ∧ post (some (.int x)) (wC X ++ M)) (fun z1 z2 X => G 5 [(0, .ref 11), (1, .int z1), (2, .int z2)] [] (wC X ++ M))) : G 5 [(0, .ref 11), (1, .int l1), (2, .int l2)] [] (wC c ++ M) := by
  unfold bX2_heaviest_5 at hb
  refine hG 400 false 5 _ _ _ ?_
  refine And.intro (fun (h : (c.1 3) ≤ l2) => ?_) (fun (h : ¬ (c.1 3) ≤ l2) => ?_)
  · rw [if_pos h] at hb
    exact hb
  · rw [if_neg h] at hb
    obtain ⟨hi, hb⟩ := hb
    refine And.intro hi ?_
    refine And.intro (fun (h : ¬ (c.2.1 15 l2.toNatClampNeg) = (3 : Int32)) => ?_) (fun hq => have h : (c.2.1 15 l2.toNatClampNeg) = (3 : Int32) := Classical.not_not.mp hq; ?_)
    · rw [if_neg h] at hb
      exact hb
    · rw [if_pos h] at hb
      obtain ⟨hi, hb⟩ := hb
      refine And.intro hi ?_
      refine And.intro (fun (h : (c.2.1 19 l2.toNatClampNeg) = 0) => ?_) (fun (h : ¬ (c.2.1 19 l2.toNatClampNeg) = 0) => ?_)
      · rw [if_pos h] at hb
        refine And.intro (fun (h : l1 = (-5 : Int32)) => ?_) (fun (h : ¬ l1 = (-5 : Int32)) => ?_)
        · rw [if_pos h] at hb
          exact hb
        · rw [if_neg h] at hb
          obtain ⟨hi, hb⟩ := hb
          refine And.intro hi ?_
          obtain ⟨hi, hb⟩ := hb
          refine And.intro hi ?_
          refine And.intro (fun (h : (fX1_isBelow (c.2.2 14 l1.toNatClampNeg) (c.2.2 14 l2.toNatClampNeg)) = 0) => ?_) (fun (h : ¬ (fX1_isBelow (c.2.2 14 l1.toNatClampNeg) (c.2.2 14 l2.toNatClampNeg)) = 0) => ?_)
          · rw [if_pos h] at hb
            exact hb
          · rw [if_neg h] at hb
            exact hb
      · rw [if_neg h] at hb
        exact hb
theorem giX2_heaviest_5 {G : Nat → LV → List Value → aS → Prop} {post : Option Value → aS → Prop} (hG : ∀ n b pc lv st σ, seg (0, fun _ => 0) pgX2_heaviest ceX2_heaviest cutX2_heaviest G (fun v σ => rFit (some .int) v ∧ post v σ) n b pc lv st σ → G pc lv st σ) (M : aS) : ∀ (n : Nat) (z1 : Int32) (z2 : Int32) (X : CS), itX2_heaviest_5 (fun x X => rFit (some .int) (some (.int x)) ∧ post (some (.int x)) (wC X ++ M)) n z1 z2 X → G 5 [(0, .ref 11), (1, .int z1), (2, .int z2)] [] (wC X ++ M)
  | 0, _, _, _, h => h.elim
  | n + 1, _, _, _, h => lbX2_heaviest_5 hG _ M _ _ (mbX2_heaviest_5 (fun _ _ h => h) (fun _ _ _ h => giX2_heaviest_5 hG M n _ _ _ h) h)
theorem rcX2_heaviest : ∀ as σ kk, tX2_heaviest as σ kk → ∃ a r fs, as = .ref a :: r ∧ σ[a]? = some (.inr (1, fs)) := by
  intro as σ kk h
  unfold tX2_heaviest at h; split at h
  · obtain ⟨c, M, rfl, -⟩ := h
    exact ⟨_, _, _, rfl, rfl⟩
  · exact h.elim
set_option maxRecDepth 20000 in
theorem okX2_heaviest (l : Launch) : OK l yX2_heaviest cX2_heaviest 3 (some .int) 2 tX2_heaviest := by
  intro D τ ρ A as σ post h
  unfold tX2_heaviest at h; split at h
  · obtain ⟨c, M, rfl, hw⟩ := h
    refine met_of (P := pgX2_heaviest) (CE := ceX2_heaviest) (cut := cutX2_heaviest) (by decide) kkX2_heaviest (coX2_heaviest l) (Nat.le_of_ble_eq_true rfl) ?_
    intro G hG
    unfold wX2_heaviest at hw
    refine lbX2_heaviest_0 hG c M  (mbX2_heaviest_0 ?_ ?_ hw)
    · exact fun _ _ h => ⟨trivial, h⟩
    · intro _ _ _ ⟨N, h⟩; exact giX2_heaviest_5 hG M N _ _ _ (miX2_heaviest_5 (fun _ _ h => ⟨trivial, h⟩) N _ _ _ h)
  · exact h.elim
def bX2_holds_0 (c : CS) (a : Int32) (b : Int64) (d : Int64) (e : Int64) (kr : Int32 → CS → Prop) (kc3 : Int32 → Int64 → Int64 → Int64 → Int32 → CS → Prop) : Prop :=
  kc3 a b d e (0 : Int32) c
def bX2_holds_3 (c : CS) (a : Int32) (b : Int64) (d : Int64) (e : Int64) (l8 : Int32) (kr : Int32 → CS → Prop) (kc3 : Int32 → Int64 → Int64 → Int64 → Int32 → CS → Prop) : Prop :=
  (if (c.1 4) ≤ l8 then
    kr (1 : Int32) c
  else
    (vp_in (fX2_place a l8) 600 ∧ (vp_in ((fX2_place a l8) + (1 : Int32)) 600 ∧ (if (fX1_isFromTo (fX1_ofThree l8 b d e) (c.2.2 12 (fX2_place a l8).toNatClampNeg) (c.2.2 12 ((fX2_place a l8) + (1 : Int32)).toNatClampNeg)) = 0 then
      kr (0 : Int32) c
    else
      kc3 a b d e (l8 + (1 : Int32)) c))))
set_option maxRecDepth 20000 in
theorem mbX2_holds_0 {c : CS} {a : Int32} {b : Int64} {d : Int64} {e : Int64} {kr kq : Int32 → CS → Prop} {kc3 kd3 : Int32 → Int64 → Int64 → Int64 → Int32 → CS → Prop} (hr : ∀ x X, (x = 0 ∨ x = 1) → kr x X → kq x X) (hc3 : ∀ z1 z2 z4 z6 z8 X, kc3 z1 z2 z4 z6 z8 X → kd3 z1 z2 z4 z6 z8 X) (h : bX2_holds_0 c a b d e kr kc3) : bX2_holds_0 c a b d e kq kd3 := by
  unfold bX2_holds_0 at h ⊢
  exact hc3 _ _ _ _ _ _ h
set_option maxRecDepth 20000 in
theorem mbX2_holds_3 {c : CS} {a : Int32} {b : Int64} {d : Int64} {e : Int64} {l8 : Int32} {kr kq : Int32 → CS → Prop} {kc3 kd3 : Int32 → Int64 → Int64 → Int64 → Int32 → CS → Prop} (hr : ∀ x X, (x = 0 ∨ x = 1) → kr x X → kq x X) (hc3 : ∀ z1 z2 z4 z6 z8 X, kc3 z1 z2 z4 z6 z8 X → kd3 z1 z2 z4 z6 z8 X) (h : bX2_holds_3 c a b d e l8 kr kc3) : bX2_holds_3 c a b d e l8 kq kd3 := by
  unfold bX2_holds_3 at h ⊢
  by_cases hc : (c.1 4) ≤ l8
  · rw [if_pos hc] at h ⊢
    exact hr _ _ (Or.inr rfl) h
  · rw [if_neg hc] at h ⊢
    obtain ⟨hi, h⟩ := h
    refine And.intro hi ?_
    obtain ⟨hi, h⟩ := h
    refine And.intro hi ?_
    by_cases hc : (fX1_isFromTo (fX1_ofThree l8 b d e) (c.2.2 12 (fX2_place a l8).toNatClampNeg) (c.2.2 12 ((fX2_place a l8) + (1 : Int32)).toNatClampNeg)) = 0
    · rw [if_pos hc] at h ⊢
      exact hr _ _ (Or.inl rfl) h
    · rw [if_neg hc] at h ⊢
      exact hc3 _ _ _ _ _ _ h
def itX2_holds_3 (kr : Int32 → CS → Prop) : Nat → Int32 → Int64 → Int64 → Int64 → Int32 → CS → Prop
  | 0, _, _, _, _, _, _ => False
  | n + 1, a, b, d, e, l8, c => bX2_holds_3 c a b d e l8 kr (fun z1 z2 z4 z6 z8 X => itX2_holds_3 kr n z1 z2 z4 z6 z8 X)
theorem miX2_holds_3 {kr kq : Int32 → CS → Prop} (hr : ∀ x X, (x = 0 ∨ x = 1) → kr x X → kq x X) : ∀ (n : Nat) (z1 : Int32) (z2 : Int64) (z4 : Int64) (z6 : Int64) (z8 : Int32) (X : CS), itX2_holds_3 kr n z1 z2 z4 z6 z8 X → itX2_holds_3 kq n z1 z2 z4 z6 z8 X
  | 0, _, _, _, _, _, _, h => h
  | n + 1, _, _, _, _, _, _, h => mbX2_holds_3 hr (fun _ _ _ _ _ _ h => miX2_holds_3 hr n _ _ _ _ _ _ h) h
def wX2_holds (c : CS) (a : Int32) (b : Int64) (d : Int64) (e : Int64) (kr : Int32 → CS → Prop) : Prop := bX2_holds_0 c a b d e kr (fun z1 z2 z4 z6 z8 X => ∃ N, itX2_holds_3 kr N z1 z2 z4 z6 z8 X)
theorem mnX2_holds {c : CS} {a : Int32} {b : Int64} {d : Int64} {e : Int64} {kr kq : Int32 → CS → Prop} (hr : ∀ x X, (x = 0 ∨ x = 1) → kr x X → kq x X) (h : wX2_holds c a b d e kr) : wX2_holds c a b d e kq := mbX2_holds_0 hr (fun _ _ _ _ _ _ h => h.elim fun N h => ⟨N, miX2_holds_3 hr N _ _ _ _ _ _ h⟩) h
def tX2_holds : Tr := fun as σ k => match as with
  | [.ref 11, .int a, .long b, .long d, .long e] => ∃ (c : CS) (M : aS), σ = wC c ++ M ∧ wX2_holds c a b d e (fun x X => k (some (.int x)) (wC X ++ M))
  | _ => False
def ceX2_holds : List (Nat × Nat × Tr) := (2 * 45, 2, tX2_place) :: (2 * 68, 4, tX1_ofThree) :: (2 * 72, 3, tX1_isFromTo) :: []
theorem coX2_holds (l : Launch) : CEok l yX2_holds.cls 2 ceX2_holds := ce_S (okX2_place l) (mw 367 (by decide +kernel) rfl) (mw 202 (by decide +kernel) rfl) (mw 3 (by decide +kernel) rfl) (mw 203 (by decide +kernel) rfl) (by decide) ⟨by decide, by decide⟩ (ce_S (okX1_ofThree l) (mw 444 (by decide +kernel) rfl) (mw 434 (by decide +kernel) rfl) (mw 5 (by decide +kernel) rfl) (mw 435 (by decide +kernel) rfl) (by decide) ⟨by decide, by decide⟩ (ce_S (okX1_isFromTo l) (mw 445 (by decide +kernel) rfl) (mw 446 (by decide +kernel) rfl) (mw 5 (by decide +kernel) rfl) (mw 447 (by decide +kernel) rfl) (by decide) ⟨by decide, by decide⟩ (ce_0)))
abbrev cutX2_holds : List (Nat × List Nat) := [(3, [0, 1, 2, 4, 6, 8])]
set_option maxRecDepth 20000 in
set_option maxHeartbeats 4000000 in
theorem lbX2_holds_0 {G : Nat → LV → List Value → aS → Prop} {post : Option Value → aS → Prop} (hG : ∀ n b pc lv st σ, seg (0, fun _ => 0) pgX2_holds ceX2_holds cutX2_holds G (fun v σ => rFit (some .boolean) v ∧ post v σ) n b pc lv st σ → G pc lv st σ) (c : CS) (M : aS) (a : Int32) (b : Int64) (d : Int64) (e : Int64) (hb : bX2_holds_0 c a b d e (fun x X => rFit (some .boolean) (some (.int x)) ∧ post (some (.int x)) (wC X ++ M)) (fun z1 z2 z4 z6 z8 X => G 3 [(0, .ref 11), (1, .int z1), (2, .long z2), (4, .long z4), (6, .long z6), (8, .int z8)] [] (wC X ++ M))) : G 0 [(0, .ref 11), (1, .int a), (2, .long b), (4, .long d), (6, .long e)] [] (wC c ++ M) := by
  unfold bX2_holds_0 at hb
  refine hG 400 false 0 _ _ _ ?_
  exact hb
set_option maxRecDepth 20000 in
set_option maxHeartbeats 4000000 in
theorem lbX2_holds_3 {G : Nat → LV → List Value → aS → Prop} {post : Option Value → aS → Prop} (hG : ∀ n b pc lv st σ, seg (0, fun _ => 0) pgX2_holds ceX2_holds cutX2_holds G (fun v σ => rFit (some .boolean) v ∧ post v σ) n b pc lv st σ → G pc lv st σ) (c : CS) (M : aS) (a : Int32) (b : Int64) (d : Int64) (e : Int64) (l8 : Int32) (hb : bX2_holds_3 c a b d e l8 (fun x X => rFit (some .boolean) (some (.int x)) ∧ post (some (.int x)) (wC X ++ M)) (fun z1 z2 z4 z6 z8 X => G 3 [(0, .ref 11), (1, .int z1), (2, .long z2), (4, .long z4), (6, .long z6), (8, .int z8)] [] (wC X ++ M))) : G 3 [(0, .ref 11), (1, .int a), (2, .long b), (4, .long d), (6, .long e), (8, .int l8)] [] (wC c ++ M) := by
  unfold bX2_holds_3 at hb
  refine hG 400 false 3 _ _ _ ?_
  refine And.intro (fun (h : (c.1 4) ≤ l8) => ?_) (fun (h : ¬ (c.1 4) ≤ l8) => ?_)
  · rw [if_pos h] at hb
    exact hb
  · rw [if_neg h] at hb
    obtain ⟨hi, hb⟩ := hb
    refine And.intro hi ?_
    obtain ⟨hi, hb⟩ := hb
    refine And.intro hi ?_
    refine And.intro (fun (h : ¬ (fX1_isFromTo (fX1_ofThree l8 b d e) (c.2.2 12 (fX2_place a l8).toNatClampNeg) (c.2.2 12 ((fX2_place a l8) + (1 : Int32)).toNatClampNeg)) = 0) => ?_) (fun hq => have h : (fX1_isFromTo (fX1_ofThree l8 b d e) (c.2.2 12 (fX2_place a l8).toNatClampNeg) (c.2.2 12 ((fX2_place a l8) + (1 : Int32)).toNatClampNeg)) = 0 := Classical.not_not.mp hq; ?_)
    · rw [if_neg h] at hb
      exact hb
    · rw [if_pos h] at hb
      exact hb
theorem giX2_holds_3 {G : Nat → LV → List Value → aS → Prop} {post : Option Value → aS → Prop} (hG : ∀ n b pc lv st σ, seg (0, fun _ => 0) pgX2_holds ceX2_holds cutX2_holds G (fun v σ => rFit (some .boolean) v ∧ post v σ) n b pc lv st σ → G pc lv st σ) (M : aS) : ∀ (n : Nat) (z1 : Int32) (z2 : Int64) (z4 : Int64) (z6 : Int64) (z8 : Int32) (X : CS), itX2_holds_3 (fun x X => rFit (some .boolean) (some (.int x)) ∧ post (some (.int x)) (wC X ++ M)) n z1 z2 z4 z6 z8 X → G 3 [(0, .ref 11), (1, .int z1), (2, .long z2), (4, .long z4), (6, .long z6), (8, .int z8)] [] (wC X ++ M)
  | 0, _, _, _, _, _, _, h => h.elim
  | n + 1, _, _, _, _, _, _, h => lbX2_holds_3 hG _ M _ _ _ _ _ (mbX2_holds_3 (fun _ _ _ h => h) (fun _ _ _ _ _ _ h => giX2_holds_3 hG M n _ _ _ _ _ _ h) h)
theorem rcX2_holds : ∀ as σ kk, tX2_holds as σ kk → ∃ a r fs, as = .ref a :: r ∧ σ[a]? = some (.inr (1, fs)) := by
  intro as σ kk h
  unfold tX2_holds at h; split at h
  · obtain ⟨c, M, rfl, -⟩ := h
    exact ⟨_, _, _, rfl, rfl⟩
  · exact h.elim
set_option maxRecDepth 20000 in
theorem okX2_holds (l : Launch) : OK l yX2_holds cX2_holds 10 (some .boolean) 2 tX2_holds := by
  intro D τ ρ A as σ post h
  unfold tX2_holds at h; split at h
  · rename_i a b d e; obtain ⟨c, M, rfl, hw⟩ := h
    refine met_of (P := pgX2_holds) (CE := ceX2_holds) (cut := cutX2_holds) (by decide) kkX2_holds (coX2_holds l) (Nat.le_of_ble_eq_true rfl) ?_
    intro G hG
    unfold wX2_holds at hw
    refine lbX2_holds_0 hG c M a b d e (mbX2_holds_0 ?_ ?_ hw)
    · exact fun _ _ hf h => ⟨hf, h⟩
    · intro _ _ _ _ _ _ ⟨N, h⟩; exact giX2_holds_3 hG M N _ _ _ _ _ _ (miX2_holds_3 (fun _ _ hf h => ⟨hf, h⟩) N _ _ _ _ _ _ h)
  · exact h.elim
def bX2_lowMass_0 (c : CS) (a : Int32) (kr : Int64 → CS → Prop) (kc5 : Int32 → Int64 → Int32 → CS → Prop) : Prop :=
  kc5 a (0 : Int64) (0 : Int32) c
def bX2_lowMass_5 (c : CS) (a : Int32) (l2 : Int64) (l4 : Int32) (kr : Int64 → CS → Prop) (kc5 : Int32 → Int64 → Int32 → CS → Prop) : Prop :=
  (if (c.1 3) ≤ l4 then
    kr l2 c
  else
    (vp_in l4 100 ∧ (if (c.2.1 15 l4.toNatClampNeg) = a then
      (vp_in l4 100 ∧ kc5 a (fX1_zeroIfLess (fX1_down (fX1_plus l2 (c.2.2 13 l4.toNatClampNeg)))) (l4 + (1 : Int32)) c)
    else
      kc5 a l2 (l4 + (1 : Int32)) c)))
set_option maxRecDepth 20000 in
theorem mbX2_lowMass_0 {c : CS} {a : Int32} {kr kq : Int64 → CS → Prop} {kc5 kd5 : Int32 → Int64 → Int32 → CS → Prop} (hr : ∀ x X, kr x X → kq x X) (hc5 : ∀ z1 z2 z4 X, kc5 z1 z2 z4 X → kd5 z1 z2 z4 X) (h : bX2_lowMass_0 c a kr kc5) : bX2_lowMass_0 c a kq kd5 := by
  unfold bX2_lowMass_0 at h ⊢
  exact hc5 _ _ _ _ h
set_option maxRecDepth 20000 in
theorem mbX2_lowMass_5 {c : CS} {a : Int32} {l2 : Int64} {l4 : Int32} {kr kq : Int64 → CS → Prop} {kc5 kd5 : Int32 → Int64 → Int32 → CS → Prop} (hr : ∀ x X, kr x X → kq x X) (hc5 : ∀ z1 z2 z4 X, kc5 z1 z2 z4 X → kd5 z1 z2 z4 X) (h : bX2_lowMass_5 c a l2 l4 kr kc5) : bX2_lowMass_5 c a l2 l4 kq kd5 := by
  unfold bX2_lowMass_5 at h ⊢
  by_cases hc : (c.1 3) ≤ l4
  · rw [if_pos hc] at h ⊢
    exact hr _ _ h
  · rw [if_neg hc] at h ⊢
    obtain ⟨hi, h⟩ := h
    refine And.intro hi ?_
    by_cases hc : (c.2.1 15 l4.toNatClampNeg) = a
    · rw [if_pos hc] at h ⊢
      obtain ⟨hi, h⟩ := h
      refine And.intro hi ?_
      exact hc5 _ _ _ _ h
    · rw [if_neg hc] at h ⊢
      exact hc5 _ _ _ _ h
def itX2_lowMass_5 (kr : Int64 → CS → Prop) : Nat → Int32 → Int64 → Int32 → CS → Prop
  | 0, _, _, _, _ => False
  | n + 1, a, l2, l4, c => bX2_lowMass_5 c a l2 l4 kr (fun z1 z2 z4 X => itX2_lowMass_5 kr n z1 z2 z4 X)
theorem miX2_lowMass_5 {kr kq : Int64 → CS → Prop} (hr : ∀ x X, kr x X → kq x X) : ∀ (n : Nat) (z1 : Int32) (z2 : Int64) (z4 : Int32) (X : CS), itX2_lowMass_5 kr n z1 z2 z4 X → itX2_lowMass_5 kq n z1 z2 z4 X
  | 0, _, _, _, _, h => h
  | n + 1, _, _, _, _, h => mbX2_lowMass_5 hr (fun _ _ _ _ h => miX2_lowMass_5 hr n _ _ _ _ h) h
def wX2_lowMass (c : CS) (a : Int32) (kr : Int64 → CS → Prop) : Prop := bX2_lowMass_0 c a kr (fun z1 z2 z4 X => ∃ N, itX2_lowMass_5 kr N z1 z2 z4 X)
theorem mnX2_lowMass {c : CS} {a : Int32} {kr kq : Int64 → CS → Prop} (hr : ∀ x X, kr x X → kq x X) (h : wX2_lowMass c a kr) : wX2_lowMass c a kq := mbX2_lowMass_0 hr (fun _ _ _ _ h => h.elim fun N h => ⟨N, miX2_lowMass_5 hr N _ _ _ _ h⟩) h
def tX2_lowMass : Tr := fun as σ k => match as with
  | [.ref 11, .int a] => ∃ (c : CS) (M : aS), σ = wC c ++ M ∧ wX2_lowMass c a (fun x X => k (some (.long x)) (wC X ++ M))
  | _ => False
def ceX2_lowMass : List (Nat × Nat × Tr) := (2 * 55, 2, tX1_plus) :: (2 * 76, 1, tX1_down) :: (2 * 79, 1, tX1_zeroIfLess) :: []
theorem coX2_lowMass (l : Launch) : CEok l yX2_lowMass.cls 4 ceX2_lowMass := ce_S (okX1_plus l) (mw 369 (by decide +kernel) rfl) (mw 224 (by decide +kernel) rfl) (mw 5 (by decide +kernel) rfl) (mw 225 (by decide +kernel) rfl) (by decide) ⟨by decide, by decide⟩ (ce_S (okX1_down l) (mw 465 (by decide +kernel) rfl) (mw 256 (by decide +kernel) rfl) (mw 5 (by decide +kernel) rfl) (mw 257 (by decide +kernel) rfl) (by decide) ⟨by decide, by decide⟩ (ce_S (okX1_zeroIfLess l) (mw 466 (by decide +kernel) rfl) (mw 315 (by decide +kernel) rfl) (mw 5 (by decide +kernel) rfl) (mw 316 (by decide +kernel) rfl) (by decide) ⟨by decide, by decide⟩ (ce_0)))
abbrev cutX2_lowMass : List (Nat × List Nat) := [(5, [0, 1, 2, 4])]
set_option maxRecDepth 20000 in
set_option maxHeartbeats 4000000 in
theorem lbX2_lowMass_0 {G : Nat → LV → List Value → aS → Prop} {post : Option Value → aS → Prop} (hG : ∀ n b pc lv st σ, seg (0, fun _ => 0) pgX2_lowMass ceX2_lowMass cutX2_lowMass G (fun v σ => rFit (some .long) v ∧ post v σ) n b pc lv st σ → G pc lv st σ) (c : CS) (M : aS) (a : Int32) (hb : bX2_lowMass_0 c a (fun x X => rFit (some .long) (some (.long x)) ∧ post (some (.long x)) (wC X ++ M)) (fun z1 z2 z4 X => G 5 [(0, .ref 11), (1, .int z1), (2, .long z2), (4, .int z4)] [] (wC X ++ M))) : G 0 [(0, .ref 11), (1, .int a)] [] (wC c ++ M) := by
  unfold bX2_lowMass_0 at hb
  refine hG 400 false 0 _ _ _ ?_
  exact hb
set_option maxRecDepth 20000 in
set_option maxHeartbeats 4000000 in
theorem lbX2_lowMass_5 {G : Nat → LV → List Value → aS → Prop} {post : Option Value → aS → Prop} (hG : ∀ n b pc lv st σ, seg (0, fun _ => 0) pgX2_lowMass ceX2_lowMass cutX2_lowMass G (fun v σ => rFit (some .long) v ∧ post v σ) n b pc lv st σ → G pc lv st σ) (c : CS) (M : aS) (a : Int32) (l2 : Int64) (l4 : Int32) (hb : bX2_lowMass_5 c a l2 l4 (fun x X => rFit (some .long) (some (.long x)) ∧ post (some (.long x)) (wC X ++ M)) (fun z1 z2 z4 X => G 5 [(0, .ref 11), (1, .int z1), (2, .long z2), (4, .int z4)] [] (wC X ++ M))) : G 5 [(0, .ref 11), (1, .int a), (2, .long l2), (4, .int l4)] [] (wC c ++ M) := by
  unfold bX2_lowMass_5 at hb
  refine hG 400 false 5 _ _ _ ?_
  refine And.intro (fun (h : (c.1 3) ≤ l4) => ?_) (fun (h : ¬ (c.1 3) ≤ l4) => ?_)
  · rw [if_pos h] at hb
    exact hb
  · rw [if_neg h] at hb
    obtain ⟨hi, hb⟩ := hb
    refine And.intro hi ?_
    refine And.intro (fun (h : ¬ (c.2.1 15 l4.toNatClampNeg) = a) => ?_) (fun hq => have h : (c.2.1 15 l4.toNatClampNeg) = a := Classical.not_not.mp hq; ?_)
    · rw [if_neg h] at hb
      exact hb
    · rw [if_pos h] at hb
      obtain ⟨hi, hb⟩ := hb
      refine And.intro hi ?_
      exact hb
theorem giX2_lowMass_5 {G : Nat → LV → List Value → aS → Prop} {post : Option Value → aS → Prop} (hG : ∀ n b pc lv st σ, seg (0, fun _ => 0) pgX2_lowMass ceX2_lowMass cutX2_lowMass G (fun v σ => rFit (some .long) v ∧ post v σ) n b pc lv st σ → G pc lv st σ) (M : aS) : ∀ (n : Nat) (z1 : Int32) (z2 : Int64) (z4 : Int32) (X : CS), itX2_lowMass_5 (fun x X => rFit (some .long) (some (.long x)) ∧ post (some (.long x)) (wC X ++ M)) n z1 z2 z4 X → G 5 [(0, .ref 11), (1, .int z1), (2, .long z2), (4, .int z4)] [] (wC X ++ M)
  | 0, _, _, _, _, h => h.elim
  | n + 1, _, _, _, _, h => lbX2_lowMass_5 hG _ M _ _ _ (mbX2_lowMass_5 (fun _ _ h => h) (fun _ _ _ _ h => giX2_lowMass_5 hG M n _ _ _ _ h) h)
theorem rcX2_lowMass : ∀ as σ kk, tX2_lowMass as σ kk → ∃ a r fs, as = .ref a :: r ∧ σ[a]? = some (.inr (1, fs)) := by
  intro as σ kk h
  unfold tX2_lowMass at h; split at h
  · obtain ⟨c, M, rfl, -⟩ := h
    exact ⟨_, _, _, rfl, rfl⟩
  · exact h.elim
set_option maxRecDepth 20000 in
theorem okX2_lowMass (l : Launch) : OK l yX2_lowMass cX2_lowMass 5 (some .long) 4 tX2_lowMass := by
  intro D τ ρ A as σ post h
  unfold tX2_lowMass at h; split at h
  · rename_i a; obtain ⟨c, M, rfl, hw⟩ := h
    refine met_of (P := pgX2_lowMass) (CE := ceX2_lowMass) (cut := cutX2_lowMass) (by decide) kkX2_lowMass (coX2_lowMass l) (Nat.le_of_ble_eq_true rfl) ?_
    intro G hG
    unfold wX2_lowMass at hw
    refine lbX2_lowMass_0 hG c M a (mbX2_lowMass_0 ?_ ?_ hw)
    · exact fun _ _ h => ⟨trivial, h⟩
    · intro _ _ _ _ ⟨N, h⟩; exact giX2_lowMass_5 hG M N _ _ _ _ (miX2_lowMass_5 (fun _ _ h => ⟨trivial, h⟩) N _ _ _ _ h)
  · exact h.elim
def bX2_highMass_0 (c : CS) (a : Int32) (kr : Int64 → CS → Prop) (kc5 : Int32 → Int64 → Int32 → CS → Prop) : Prop :=
  kc5 a (0 : Int64) (0 : Int32) c
def bX2_highMass_5 (c : CS) (a : Int32) (l2 : Int64) (l4 : Int32) (kr : Int64 → CS → Prop) (kc5 : Int32 → Int64 → Int32 → CS → Prop) : Prop :=
  (if (c.1 3) ≤ l4 then
    kr l2 c
  else
    (vp_in l4 100 ∧ (if (c.2.1 15 l4.toNatClampNeg) = a then
      (vp_in l4 100 ∧ kc5 a (fX1_up (fX1_plus l2 (c.2.2 14 l4.toNatClampNeg))) (l4 + (1 : Int32)) c)
    else
      kc5 a l2 (l4 + (1 : Int32)) c)))
set_option maxRecDepth 20000 in
theorem mbX2_highMass_0 {c : CS} {a : Int32} {kr kq : Int64 → CS → Prop} {kc5 kd5 : Int32 → Int64 → Int32 → CS → Prop} (hr : ∀ x X, kr x X → kq x X) (hc5 : ∀ z1 z2 z4 X, kc5 z1 z2 z4 X → kd5 z1 z2 z4 X) (h : bX2_highMass_0 c a kr kc5) : bX2_highMass_0 c a kq kd5 := by
  unfold bX2_highMass_0 at h ⊢
  exact hc5 _ _ _ _ h
set_option maxRecDepth 20000 in
theorem mbX2_highMass_5 {c : CS} {a : Int32} {l2 : Int64} {l4 : Int32} {kr kq : Int64 → CS → Prop} {kc5 kd5 : Int32 → Int64 → Int32 → CS → Prop} (hr : ∀ x X, kr x X → kq x X) (hc5 : ∀ z1 z2 z4 X, kc5 z1 z2 z4 X → kd5 z1 z2 z4 X) (h : bX2_highMass_5 c a l2 l4 kr kc5) : bX2_highMass_5 c a l2 l4 kq kd5 := by
  unfold bX2_highMass_5 at h ⊢
  by_cases hc : (c.1 3) ≤ l4
  · rw [if_pos hc] at h ⊢
    exact hr _ _ h
  · rw [if_neg hc] at h ⊢
    obtain ⟨hi, h⟩ := h
    refine And.intro hi ?_
    by_cases hc : (c.2.1 15 l4.toNatClampNeg) = a
    · rw [if_pos hc] at h ⊢
      obtain ⟨hi, h⟩ := h
      refine And.intro hi ?_
      exact hc5 _ _ _ _ h
    · rw [if_neg hc] at h ⊢
      exact hc5 _ _ _ _ h
def itX2_highMass_5 (kr : Int64 → CS → Prop) : Nat → Int32 → Int64 → Int32 → CS → Prop
  | 0, _, _, _, _ => False
  | n + 1, a, l2, l4, c => bX2_highMass_5 c a l2 l4 kr (fun z1 z2 z4 X => itX2_highMass_5 kr n z1 z2 z4 X)
theorem miX2_highMass_5 {kr kq : Int64 → CS → Prop} (hr : ∀ x X, kr x X → kq x X) : ∀ (n : Nat) (z1 : Int32) (z2 : Int64) (z4 : Int32) (X : CS), itX2_highMass_5 kr n z1 z2 z4 X → itX2_highMass_5 kq n z1 z2 z4 X
  | 0, _, _, _, _, h => h
  | n + 1, _, _, _, _, h => mbX2_highMass_5 hr (fun _ _ _ _ h => miX2_highMass_5 hr n _ _ _ _ h) h
def wX2_highMass (c : CS) (a : Int32) (kr : Int64 → CS → Prop) : Prop := bX2_highMass_0 c a kr (fun z1 z2 z4 X => ∃ N, itX2_highMass_5 kr N z1 z2 z4 X)
theorem mnX2_highMass {c : CS} {a : Int32} {kr kq : Int64 → CS → Prop} (hr : ∀ x X, kr x X → kq x X) (h : wX2_highMass c a kr) : wX2_highMass c a kq := mbX2_highMass_0 hr (fun _ _ _ _ h => h.elim fun N h => ⟨N, miX2_highMass_5 hr N _ _ _ _ h⟩) h
def tX2_highMass : Tr := fun as σ k => match as with
  | [.ref 11, .int a] => ∃ (c : CS) (M : aS), σ = wC c ++ M ∧ wX2_highMass c a (fun x X => k (some (.long x)) (wC X ++ M))
  | _ => False
def ceX2_highMass : List (Nat × Nat × Tr) := (2 * 55, 2, tX1_plus) :: (2 * 82, 1, tX1_up) :: []
theorem coX2_highMass (l : Launch) : CEok l yX2_highMass.cls 4 ceX2_highMass := ce_S (okX1_plus l) (mw 369 (by decide +kernel) rfl) (mw 224 (by decide +kernel) rfl) (mw 5 (by decide +kernel) rfl) (mw 225 (by decide +kernel) rfl) (by decide) ⟨by decide, by decide⟩ (ce_S (okX1_up l) (mw 471 (by decide +kernel) rfl) (mw 262 (by decide +kernel) rfl) (mw 5 (by decide +kernel) rfl) (mw 263 (by decide +kernel) rfl) (by decide) ⟨by decide, by decide⟩ (ce_0))
abbrev cutX2_highMass : List (Nat × List Nat) := [(5, [0, 1, 2, 4])]
set_option maxRecDepth 20000 in
set_option maxHeartbeats 4000000 in
theorem lbX2_highMass_0 {G : Nat → LV → List Value → aS → Prop} {post : Option Value → aS → Prop} (hG : ∀ n b pc lv st σ, seg (0, fun _ => 0) pgX2_highMass ceX2_highMass cutX2_highMass G (fun v σ => rFit (some .long) v ∧ post v σ) n b pc lv st σ → G pc lv st σ) (c : CS) (M : aS) (a : Int32) (hb : bX2_highMass_0 c a (fun x X => rFit (some .long) (some (.long x)) ∧ post (some (.long x)) (wC X ++ M)) (fun z1 z2 z4 X => G 5 [(0, .ref 11), (1, .int z1), (2, .long z2), (4, .int z4)] [] (wC X ++ M))) : G 0 [(0, .ref 11), (1, .int a)] [] (wC c ++ M) := by
  unfold bX2_highMass_0 at hb
  refine hG 400 false 0 _ _ _ ?_
  exact hb
set_option maxRecDepth 20000 in
set_option maxHeartbeats 4000000 in
theorem lbX2_highMass_5 {G : Nat → LV → List Value → aS → Prop} {post : Option Value → aS → Prop} (hG : ∀ n b pc lv st σ, seg (0, fun _ => 0) pgX2_highMass ceX2_highMass cutX2_highMass G (fun v σ => rFit (some .long) v ∧ post v σ) n b pc lv st σ → G pc lv st σ) (c : CS) (M : aS) (a : Int32) (l2 : Int64) (l4 : Int32) (hb : bX2_highMass_5 c a l2 l4 (fun x X => rFit (some .long) (some (.long x)) ∧ post (some (.long x)) (wC X ++ M)) (fun z1 z2 z4 X => G 5 [(0, .ref 11), (1, .int z1), (2, .long z2), (4, .int z4)] [] (wC X ++ M))) : G 5 [(0, .ref 11), (1, .int a), (2, .long l2), (4, .int l4)] [] (wC c ++ M) := by
  unfold bX2_highMass_5 at hb
  refine hG 400 false 5 _ _ _ ?_
  refine And.intro (fun (h : (c.1 3) ≤ l4) => ?_) (fun (h : ¬ (c.1 3) ≤ l4) => ?_)
  · rw [if_pos h] at hb
    exact hb
  · rw [if_neg h] at hb
    obtain ⟨hi, hb⟩ := hb
    refine And.intro hi ?_
    refine And.intro (fun (h : ¬ (c.2.1 15 l4.toNatClampNeg) = a) => ?_) (fun hq => have h : (c.2.1 15 l4.toNatClampNeg) = a := Classical.not_not.mp hq; ?_)
    · rw [if_neg h] at hb
      exact hb
    · rw [if_pos h] at hb
      obtain ⟨hi, hb⟩ := hb
      refine And.intro hi ?_
      exact hb
theorem giX2_highMass_5 {G : Nat → LV → List Value → aS → Prop} {post : Option Value → aS → Prop} (hG : ∀ n b pc lv st σ, seg (0, fun _ => 0) pgX2_highMass ceX2_highMass cutX2_highMass G (fun v σ => rFit (some .long) v ∧ post v σ) n b pc lv st σ → G pc lv st σ) (M : aS) : ∀ (n : Nat) (z1 : Int32) (z2 : Int64) (z4 : Int32) (X : CS), itX2_highMass_5 (fun x X => rFit (some .long) (some (.long x)) ∧ post (some (.long x)) (wC X ++ M)) n z1 z2 z4 X → G 5 [(0, .ref 11), (1, .int z1), (2, .long z2), (4, .int z4)] [] (wC X ++ M)
  | 0, _, _, _, _, h => h.elim
  | n + 1, _, _, _, _, h => lbX2_highMass_5 hG _ M _ _ _ (mbX2_highMass_5 (fun _ _ h => h) (fun _ _ _ _ h => giX2_highMass_5 hG M n _ _ _ _ h) h)
theorem rcX2_highMass : ∀ as σ kk, tX2_highMass as σ kk → ∃ a r fs, as = .ref a :: r ∧ σ[a]? = some (.inr (1, fs)) := by
  intro as σ kk h
  unfold tX2_highMass at h; split at h
  · obtain ⟨c, M, rfl, -⟩ := h
    exact ⟨_, _, _, rfl, rfl⟩
  · exact h.elim
set_option maxRecDepth 20000 in
theorem okX2_highMass (l : Launch) : OK l yX2_highMass cX2_highMass 5 (some .long) 4 tX2_highMass := by
  intro D τ ρ A as σ post h
  unfold tX2_highMass at h; split at h
  · rename_i a; obtain ⟨c, M, rfl, hw⟩ := h
    refine met_of (P := pgX2_highMass) (CE := ceX2_highMass) (cut := cutX2_highMass) (by decide) kkX2_highMass (coX2_highMass l) (Nat.le_of_ble_eq_true rfl) ?_
    intro G hG
    unfold wX2_highMass at hw
    refine lbX2_highMass_0 hG c M a (mbX2_highMass_0 ?_ ?_ hw)
    · exact fun _ _ h => ⟨trivial, h⟩
    · intro _ _ _ _ ⟨N, h⟩; exact giX2_highMass_5 hG M N _ _ _ _ (miX2_highMass_5 (fun _ _ h => ⟨trivial, h⟩) N _ _ _ _ h)
  · exact h.elim
def bX2_howMany_0 (c : CS) (a : Int32) (kr : Int32 → CS → Prop) (kc4 : Int32 → Int32 → Int32 → CS → Prop) : Prop :=
  kc4 a (0 : Int32) (0 : Int32) c
def bX2_howMany_4 (c : CS) (a : Int32) (l2 : Int32) (l3 : Int32) (kr : Int32 → CS → Prop) (kc4 : Int32 → Int32 → Int32 → CS → Prop) : Prop :=
  (if (c.1 3) ≤ l3 then
    kr l2 c
  else
    (vp_in l3 100 ∧ (if (c.2.1 15 l3.toNatClampNeg) = a then
      kc4 a (l2 + (1 : Int32)) (l3 + (1 : Int32)) c
    else
      kc4 a l2 (l3 + (1 : Int32)) c)))
set_option maxRecDepth 20000 in
theorem mbX2_howMany_0 {c : CS} {a : Int32} {kr kq : Int32 → CS → Prop} {kc4 kd4 : Int32 → Int32 → Int32 → CS → Prop} (hr : ∀ x X, kr x X → kq x X) (hc4 : ∀ z1 z2 z3 X, kc4 z1 z2 z3 X → kd4 z1 z2 z3 X) (h : bX2_howMany_0 c a kr kc4) : bX2_howMany_0 c a kq kd4 := by
  unfold bX2_howMany_0 at h ⊢
  exact hc4 _ _ _ _ h
set_option maxRecDepth 20000 in
theorem mbX2_howMany_4 {c : CS} {a : Int32} {l2 : Int32} {l3 : Int32} {kr kq : Int32 → CS → Prop} {kc4 kd4 : Int32 → Int32 → Int32 → CS → Prop} (hr : ∀ x X, kr x X → kq x X) (hc4 : ∀ z1 z2 z3 X, kc4 z1 z2 z3 X → kd4 z1 z2 z3 X) (h : bX2_howMany_4 c a l2 l3 kr kc4) : bX2_howMany_4 c a l2 l3 kq kd4 := by
  unfold bX2_howMany_4 at h ⊢
  by_cases hc : (c.1 3) ≤ l3
  · rw [if_pos hc] at h ⊢
    exact hr _ _ h
  · rw [if_neg hc] at h ⊢
    obtain ⟨hi, h⟩ := h
    refine And.intro hi ?_
    by_cases hc : (c.2.1 15 l3.toNatClampNeg) = a
    · rw [if_pos hc] at h ⊢
      exact hc4 _ _ _ _ h
    · rw [if_neg hc] at h ⊢
      exact hc4 _ _ _ _ h
def itX2_howMany_4 (kr : Int32 → CS → Prop) : Nat → Int32 → Int32 → Int32 → CS → Prop
  | 0, _, _, _, _ => False
  | n + 1, a, l2, l3, c => bX2_howMany_4 c a l2 l3 kr (fun z1 z2 z3 X => itX2_howMany_4 kr n z1 z2 z3 X)
theorem miX2_howMany_4 {kr kq : Int32 → CS → Prop} (hr : ∀ x X, kr x X → kq x X) : ∀ (n : Nat) (z1 : Int32) (z2 : Int32) (z3 : Int32) (X : CS), itX2_howMany_4 kr n z1 z2 z3 X → itX2_howMany_4 kq n z1 z2 z3 X
  | 0, _, _, _, _, h => h
  | n + 1, _, _, _, _, h => mbX2_howMany_4 hr (fun _ _ _ _ h => miX2_howMany_4 hr n _ _ _ _ h) h
def wX2_howMany (c : CS) (a : Int32) (kr : Int32 → CS → Prop) : Prop := bX2_howMany_0 c a kr (fun z1 z2 z3 X => ∃ N, itX2_howMany_4 kr N z1 z2 z3 X)
theorem mnX2_howMany {c : CS} {a : Int32} {kr kq : Int32 → CS → Prop} (hr : ∀ x X, kr x X → kq x X) (h : wX2_howMany c a kr) : wX2_howMany c a kq := mbX2_howMany_0 hr (fun _ _ _ _ h => h.elim fun N h => ⟨N, miX2_howMany_4 hr N _ _ _ _ h⟩) h
def tX2_howMany : Tr := fun as σ k => match as with
  | [.ref 11, .int a] => ∃ (c : CS) (M : aS), σ = wC c ++ M ∧ wX2_howMany c a (fun x X => k (some (.int x)) (wC X ++ M))
  | _ => False
def ceX2_howMany : List (Nat × Nat × Tr) := []
theorem coX2_howMany (l : Launch) : CEok l yX2_howMany.cls 0 ceX2_howMany := ce_0
abbrev cutX2_howMany : List (Nat × List Nat) := [(4, [0, 1, 2, 3])]
set_option maxRecDepth 20000 in
set_option maxHeartbeats 4000000 in
theorem lbX2_howMany_0 {G : Nat → LV → List Value → aS → Prop} {post : Option Value → aS → Prop} (hG : ∀ n b pc lv st σ, seg (0, fun _ => 0) pgX2_howMany ceX2_howMany cutX2_howMany G (fun v σ => rFit (some .int) v ∧ post v σ) n b pc lv st σ → G pc lv st σ) (c : CS) (M : aS) (a : Int32) (hb : bX2_howMany_0 c a (fun x X => rFit (some .int) (some (.int x)) ∧ post (some (.int x)) (wC X ++ M)) (fun z1 z2 z3 X => G 4 [(0, .ref 11), (1, .int z1), (2, .int z2), (3, .int z3)] [] (wC X ++ M))) : G 0 [(0, .ref 11), (1, .int a)] [] (wC c ++ M) := by
  unfold bX2_howMany_0 at hb
  refine hG 400 false 0 _ _ _ ?_
  exact hb
set_option maxRecDepth 20000 in
set_option maxHeartbeats 4000000 in
theorem lbX2_howMany_4 {G : Nat → LV → List Value → aS → Prop} {post : Option Value → aS → Prop} (hG : ∀ n b pc lv st σ, seg (0, fun _ => 0) pgX2_howMany ceX2_howMany cutX2_howMany G (fun v σ => rFit (some .int) v ∧ post v σ) n b pc lv st σ → G pc lv st σ) (c : CS) (M : aS) (a : Int32) (l2 : Int32) (l3 : Int32) (hb : bX2_howMany_4 c a l2 l3 (fun x X => rFit (some .int) (some (.int x)) ∧ post (some (.int x)) (wC X ++ M)) (fun z1 z2 z3 X => G 4 [(0, .ref 11), (1, .int z1), (2, .int z2), (3, .int z3)] [] (wC X ++ M))) : G 4 [(0, .ref 11), (1, .int a), (2, .int l2), (3, .int l3)] [] (wC c ++ M) := by
  unfold bX2_howMany_4 at hb
  refine hG 400 false 4 _ _ _ ?_
  refine And.intro (fun (h : (c.1 3) ≤ l3) => ?_) (fun (h : ¬ (c.1 3) ≤ l3) => ?_)
  · rw [if_pos h] at hb
    exact hb
  · rw [if_neg h] at hb
    obtain ⟨hi, hb⟩ := hb
    refine And.intro hi ?_
    refine And.intro (fun (h : ¬ (c.2.1 15 l3.toNatClampNeg) = a) => ?_) (fun hq => have h : (c.2.1 15 l3.toNatClampNeg) = a := Classical.not_not.mp hq; ?_)
    · rw [if_neg h] at hb
      exact hb
    · rw [if_pos h] at hb
      exact hb
theorem giX2_howMany_4 {G : Nat → LV → List Value → aS → Prop} {post : Option Value → aS → Prop} (hG : ∀ n b pc lv st σ, seg (0, fun _ => 0) pgX2_howMany ceX2_howMany cutX2_howMany G (fun v σ => rFit (some .int) v ∧ post v σ) n b pc lv st σ → G pc lv st σ) (M : aS) : ∀ (n : Nat) (z1 : Int32) (z2 : Int32) (z3 : Int32) (X : CS), itX2_howMany_4 (fun x X => rFit (some .int) (some (.int x)) ∧ post (some (.int x)) (wC X ++ M)) n z1 z2 z3 X → G 4 [(0, .ref 11), (1, .int z1), (2, .int z2), (3, .int z3)] [] (wC X ++ M)
  | 0, _, _, _, _, h => h.elim
  | n + 1, _, _, _, _, h => lbX2_howMany_4 hG _ M _ _ _ (mbX2_howMany_4 (fun _ _ h => h) (fun _ _ _ _ h => giX2_howMany_4 hG M n _ _ _ _ h) h)
theorem rcX2_howMany : ∀ as σ kk, tX2_howMany as σ kk → ∃ a r fs, as = .ref a :: r ∧ σ[a]? = some (.inr (1, fs)) := by
  intro as σ kk h
  unfold tX2_howMany at h; split at h
  · obtain ⟨c, M, rfl, -⟩ := h
    exact ⟨_, _, _, rfl, rfl⟩
  · exact h.elim
set_option maxRecDepth 20000 in
theorem okX2_howMany (l : Launch) : OK l yX2_howMany cX2_howMany 4 (some .int) 0 tX2_howMany := by
  intro D τ ρ A as σ post h
  unfold tX2_howMany at h; split at h
  · rename_i a; obtain ⟨c, M, rfl, hw⟩ := h
    refine met_of (P := pgX2_howMany) (CE := ceX2_howMany) (cut := cutX2_howMany) (by decide) kkX2_howMany (coX2_howMany l) (Nat.le_of_ble_eq_true rfl) ?_
    intro G hG
    unfold wX2_howMany at hw
    refine lbX2_howMany_0 hG c M a (mbX2_howMany_0 ?_ ?_ hw)
    · exact fun _ _ h => ⟨trivial, h⟩
    · intro _ _ _ _ ⟨N, h⟩; exact giX2_howMany_4 hG M N _ _ _ _ (miX2_howMany_4 (fun _ _ h => ⟨trivial, h⟩) N _ _ _ _ h)
  · exact h.elim
def bX2_howManyStuck_0 (c : CS)  (kr : Int32 → CS → Prop) (kc4 : Int32 → Int32 → CS → Prop) : Prop :=
  kc4 (0 : Int32) (0 : Int32) c
def bX2_howManyStuck_4 (c : CS) (l1 : Int32) (l2 : Int32) (kr : Int32 → CS → Prop) (kc4 : Int32 → Int32 → CS → Prop) : Prop :=
  (if (c.1 3) ≤ l2 then
    kr l1 c
  else
    (vp_in l2 100 ∧ (if (c.2.1 15 l2.toNatClampNeg) = (3 : Int32) then
      (vp_in l2 100 ∧ (if (c.2.1 19 l2.toNatClampNeg) = 0 then
        kc4 l1 (l2 + (1 : Int32)) c
      else
        kc4 (l1 + (1 : Int32)) (l2 + (1 : Int32)) c))
    else
      kc4 l1 (l2 + (1 : Int32)) c)))
set_option maxRecDepth 20000 in
theorem mbX2_howManyStuck_0 {c : CS}  {kr kq : Int32 → CS → Prop} {kc4 kd4 : Int32 → Int32 → CS → Prop} (hr : ∀ x X, kr x X → kq x X) (hc4 : ∀ z1 z2 X, kc4 z1 z2 X → kd4 z1 z2 X) (h : bX2_howManyStuck_0 c  kr kc4) : bX2_howManyStuck_0 c  kq kd4 := by
  unfold bX2_howManyStuck_0 at h ⊢
  exact hc4 _ _ _ h
set_option maxRecDepth 20000 in
theorem mbX2_howManyStuck_4 {c : CS} {l1 : Int32} {l2 : Int32} {kr kq : Int32 → CS → Prop} {kc4 kd4 : Int32 → Int32 → CS → Prop} (hr : ∀ x X, kr x X → kq x X) (hc4 : ∀ z1 z2 X, kc4 z1 z2 X → kd4 z1 z2 X) (h : bX2_howManyStuck_4 c l1 l2 kr kc4) : bX2_howManyStuck_4 c l1 l2 kq kd4 := by
  unfold bX2_howManyStuck_4 at h ⊢
  by_cases hc : (c.1 3) ≤ l2
  · rw [if_pos hc] at h ⊢
    exact hr _ _ h
  · rw [if_neg hc] at h ⊢
    obtain ⟨hi, h⟩ := h
    refine And.intro hi ?_
    by_cases hc : (c.2.1 15 l2.toNatClampNeg) = (3 : Int32)
    · rw [if_pos hc] at h ⊢
      obtain ⟨hi, h⟩ := h
      refine And.intro hi ?_
      by_cases hc : (c.2.1 19 l2.toNatClampNeg) = 0
      · rw [if_pos hc] at h ⊢
        exact hc4 _ _ _ h
      · rw [if_neg hc] at h ⊢
        exact hc4 _ _ _ h
    · rw [if_neg hc] at h ⊢
      exact hc4 _ _ _ h
def itX2_howManyStuck_4 (kr : Int32 → CS → Prop) : Nat → Int32 → Int32 → CS → Prop
  | 0, _, _, _ => False
  | n + 1, l1, l2, c => bX2_howManyStuck_4 c l1 l2 kr (fun z1 z2 X => itX2_howManyStuck_4 kr n z1 z2 X)
theorem miX2_howManyStuck_4 {kr kq : Int32 → CS → Prop} (hr : ∀ x X, kr x X → kq x X) : ∀ (n : Nat) (z1 : Int32) (z2 : Int32) (X : CS), itX2_howManyStuck_4 kr n z1 z2 X → itX2_howManyStuck_4 kq n z1 z2 X
  | 0, _, _, _, h => h
  | n + 1, _, _, _, h => mbX2_howManyStuck_4 hr (fun _ _ _ h => miX2_howManyStuck_4 hr n _ _ _ h) h
def wX2_howManyStuck (c : CS)  (kr : Int32 → CS → Prop) : Prop := bX2_howManyStuck_0 c  kr (fun z1 z2 X => ∃ N, itX2_howManyStuck_4 kr N z1 z2 X)
theorem mnX2_howManyStuck {c : CS}  {kr kq : Int32 → CS → Prop} (hr : ∀ x X, kr x X → kq x X) (h : wX2_howManyStuck c  kr) : wX2_howManyStuck c  kq := mbX2_howManyStuck_0 hr (fun _ _ _ h => h.elim fun N h => ⟨N, miX2_howManyStuck_4 hr N _ _ _ h⟩) h
def tX2_howManyStuck : Tr := fun as σ k => match as with
  | [.ref 11] => ∃ (c : CS) (M : aS), σ = wC c ++ M ∧ wX2_howManyStuck c  (fun x X => k (some (.int x)) (wC X ++ M))
  | _ => False
def ceX2_howManyStuck : List (Nat × Nat × Tr) := []
theorem coX2_howManyStuck (l : Launch) : CEok l yX2_howManyStuck.cls 0 ceX2_howManyStuck := ce_0
abbrev cutX2_howManyStuck : List (Nat × List Nat) := [(4, [0, 1, 2])]
set_option maxRecDepth 20000 in
set_option maxHeartbeats 4000000 in
theorem lbX2_howManyStuck_0 {G : Nat → LV → List Value → aS → Prop} {post : Option Value → aS → Prop} (hG : ∀ n b pc lv st σ, seg (0, fun _ => 0) pgX2_howManyStuck ceX2_howManyStuck cutX2_howManyStuck G (fun v σ => rFit (some .int) v ∧ post v σ) n b pc lv st σ → G pc lv st σ) (c : CS) (M : aS)  (hb : bX2_howManyStuck_0 c  (fun x X => rFit (some .int) (some (.int x)) ∧ post (some (.int x)) (wC X ++ M)) (fun z1 z2 X => G 4 [(0, .ref 11), (1, .int z1), (2, .int z2)] [] (wC X ++ M))) : G 0 [(0, .ref 11)] [] (wC c ++ M) := by
  unfold bX2_howManyStuck_0 at hb
  refine hG 400 false 0 _ _ _ ?_
  exact hb
set_option maxRecDepth 20000 in
set_option maxHeartbeats 4000000 in
theorem lbX2_howManyStuck_4 {G : Nat → LV → List Value → aS → Prop} {post : Option Value → aS → Prop} (hG : ∀ n b pc lv st σ, seg (0, fun _ => 0) pgX2_howManyStuck ceX2_howManyStuck cutX2_howManyStuck G (fun v σ => rFit (some .int) v ∧ post v σ) n b pc lv st σ → G pc lv st σ) (c : CS) (M : aS) (l1 : Int32) (l2 : Int32) (hb : bX2_howManyStuck_4 c l1 l2 (fun x X => rFit (some .int) (some (.int x)) ∧ post (some (.int x)) (wC X ++ M)) (fun z1 z2 X => G 4 [(0, .ref 11), (1, .int z1), (2, .int z2)] [] (wC X ++ M))) : G 4 [(0, .ref 11), (1, .int l1), (2, .int l2)] [] (wC c ++ M) := by
  unfold bX2_howManyStuck_4 at hb
  refine hG 400 false 4 _ _ _ ?_
  refine And.intro (fun (h : (c.1 3) ≤ l2) => ?_) (fun (h : ¬ (c.1 3) ≤ l2) => ?_)
  · rw [if_pos h] at hb
    exact hb
  · rw [if_neg h] at hb
    obtain ⟨hi, hb⟩ := hb
    refine And.intro hi ?_
    refine And.intro (fun (h : ¬ (c.2.1 15 l2.toNatClampNeg) = (3 : Int32)) => ?_) (fun hq => have h : (c.2.1 15 l2.toNatClampNeg) = (3 : Int32) := Classical.not_not.mp hq; ?_)
    · rw [if_neg h] at hb
      exact hb
    · rw [if_pos h] at hb
      obtain ⟨hi, hb⟩ := hb
      refine And.intro hi ?_
      refine And.intro (fun (h : (c.2.1 19 l2.toNatClampNeg) = 0) => ?_) (fun (h : ¬ (c.2.1 19 l2.toNatClampNeg) = 0) => ?_)
      · rw [if_pos h] at hb
        exact hb
      · rw [if_neg h] at hb
        exact hb
theorem giX2_howManyStuck_4 {G : Nat → LV → List Value → aS → Prop} {post : Option Value → aS → Prop} (hG : ∀ n b pc lv st σ, seg (0, fun _ => 0) pgX2_howManyStuck ceX2_howManyStuck cutX2_howManyStuck G (fun v σ => rFit (some .int) v ∧ post v σ) n b pc lv st σ → G pc lv st σ) (M : aS) : ∀ (n : Nat) (z1 : Int32) (z2 : Int32) (X : CS), itX2_howManyStuck_4 (fun x X => rFit (some .int) (some (.int x)) ∧ post (some (.int x)) (wC X ++ M)) n z1 z2 X → G 4 [(0, .ref 11), (1, .int z1), (2, .int z2)] [] (wC X ++ M)
  | 0, _, _, _, h => h.elim
  | n + 1, _, _, _, h => lbX2_howManyStuck_4 hG _ M _ _ (mbX2_howManyStuck_4 (fun _ _ h => h) (fun _ _ _ h => giX2_howManyStuck_4 hG M n _ _ _ h) h)
theorem rcX2_howManyStuck : ∀ as σ kk, tX2_howManyStuck as σ kk → ∃ a r fs, as = .ref a :: r ∧ σ[a]? = some (.inr (1, fs)) := by
  intro as σ kk h
  unfold tX2_howManyStuck at h; split at h
  · obtain ⟨c, M, rfl, -⟩ := h
    exact ⟨_, _, _, rfl, rfl⟩
  · exact h.elim
set_option maxRecDepth 20000 in
theorem okX2_howManyStuck (l : Launch) : OK l yX2_howManyStuck cX2_howManyStuck 3 (some .int) 0 tX2_howManyStuck := by
  intro D τ ρ A as σ post h
  unfold tX2_howManyStuck at h; split at h
  · obtain ⟨c, M, rfl, hw⟩ := h
    refine met_of (P := pgX2_howManyStuck) (CE := ceX2_howManyStuck) (cut := cutX2_howManyStuck) (by decide) kkX2_howManyStuck (coX2_howManyStuck l) (Nat.le_of_ble_eq_true rfl) ?_
    intro G hG
    unfold wX2_howManyStuck at hw
    refine lbX2_howManyStuck_0 hG c M  (mbX2_howManyStuck_0 ?_ ?_ hw)
    · exact fun _ _ h => ⟨trivial, h⟩
    · intro _ _ _ ⟨N, h⟩; exact giX2_howManyStuck_4 hG M N _ _ _ (miX2_howManyStuck_4 (fun _ _ h => ⟨trivial, h⟩) N _ _ _ h)
  · exact h.elim
end
section
def bX3_forgetRoles_0 (c : CS)  (kr : CS → Prop) (kc2 : Int32 → CS → Prop) : Prop :=
  kc2 (0 : Int32) c
def bX3_forgetRoles_2 (c : CS) (l1 : Int32) (kr : CS → Prop) (kc2 : Int32 → CS → Prop) : Prop :=
  (if (5 : Int32) ≤ l1 then
    kr c
  else
    (vp_in l1 5 ∧ kc2 (l1 + (1 : Int32)) (setA c 2 (upd (c.2.1 2) l1.toNatClampNeg (-5 : Int32)))))
set_option maxRecDepth 20000 in
theorem mbX3_forgetRoles_0 {c : CS}  {kr kq : CS → Prop} {kc2 kd2 : Int32 → CS → Prop} (hr : ∀ X, kr X → kq X) (hc2 : ∀ z1 X, kc2 z1 X → kd2 z1 X) (h : bX3_forgetRoles_0 c  kr kc2) : bX3_forgetRoles_0 c  kq kd2 := by
  unfold bX3_forgetRoles_0 at h ⊢
  exact hc2 _ _ h
set_option maxRecDepth 20000 in
theorem mbX3_forgetRoles_2 {c : CS} {l1 : Int32} {kr kq : CS → Prop} {kc2 kd2 : Int32 → CS → Prop} (hr : ∀ X, kr X → kq X) (hc2 : ∀ z1 X, kc2 z1 X → kd2 z1 X) (h : bX3_forgetRoles_2 c l1 kr kc2) : bX3_forgetRoles_2 c l1 kq kd2 := by
  unfold bX3_forgetRoles_2 at h ⊢
  by_cases hc : (5 : Int32) ≤ l1
  · rw [if_pos hc] at h ⊢
    exact hr _ h
  · rw [if_neg hc] at h ⊢
    obtain ⟨hi, h⟩ := h
    refine And.intro hi ?_
    exact hc2 _ _ h
def itX3_forgetRoles_2 (kr : CS → Prop) : Nat → Int32 → CS → Prop
  | 0, _, _ => False
  | n + 1, l1, c => bX3_forgetRoles_2 c l1 kr (fun z1 X => itX3_forgetRoles_2 kr n z1 X)
theorem miX3_forgetRoles_2 {kr kq : CS → Prop} (hr : ∀ X, kr X → kq X) : ∀ (n : Nat) (z1 : Int32) (X : CS), itX3_forgetRoles_2 kr n z1 X → itX3_forgetRoles_2 kq n z1 X
  | 0, _, _, h => h
  | n + 1, _, _, h => mbX3_forgetRoles_2 hr (fun _ _ h => miX3_forgetRoles_2 hr n _ _ h) h
def wX3_forgetRoles (c : CS)  (kr : CS → Prop) : Prop := bX3_forgetRoles_0 c  kr (fun z1 X => ∃ N, itX3_forgetRoles_2 kr N z1 X)
theorem mnX3_forgetRoles {c : CS}  {kr kq : CS → Prop} (hr : ∀ X, kr X → kq X) (h : wX3_forgetRoles c  kr) : wX3_forgetRoles c  kq := mbX3_forgetRoles_0 hr (fun _ _ h => h.elim fun N h => ⟨N, miX3_forgetRoles_2 hr N _ _ h⟩) h
def tX3_forgetRoles : Tr := fun as σ k => match as with
  | [.ref 0] => ∃ (c : CS) (M : aS), σ = wC c ++ M ∧ wX3_forgetRoles c  (fun X => k none (wC X ++ M))
  | _ => False
def ceX3_forgetRoles : List (Nat × Nat × Tr) := []
theorem coX3_forgetRoles (l : Launch) : CEok l yX3_forgetRoles.cls 0 ceX3_forgetRoles := ce_0
abbrev cutX3_forgetRoles : List (Nat × List Nat) := [(2, [0, 1])]
set_option maxRecDepth 20000 in
set_option maxHeartbeats 4000000 in
theorem lbX3_forgetRoles_0 {G : Nat → LV → List Value → aS → Prop} {post : Option Value → aS → Prop} (hG : ∀ n b pc lv st σ, seg (0, fun _ => 0) pgX3_forgetRoles ceX3_forgetRoles cutX3_forgetRoles G (fun v σ => rFit none v ∧ post v σ) n b pc lv st σ → G pc lv st σ) (c : CS) (M : aS)  (hb : bX3_forgetRoles_0 c  (fun X => rFit none none ∧ post none (wC X ++ M)) (fun z1 X => G 2 [(0, .ref 0), (1, .int z1)] [] (wC X ++ M))) : G 0 [(0, .ref 0)] [] (wC c ++ M) := by
  unfold bX3_forgetRoles_0 at hb
  refine hG 400 false 0 _ _ _ ?_
  exact hb
set_option maxRecDepth 20000 in
set_option maxHeartbeats 4000000 in
theorem lbX3_forgetRoles_2 {G : Nat → LV → List Value → aS → Prop} {post : Option Value → aS → Prop} (hG : ∀ n b pc lv st σ, seg (0, fun _ => 0) pgX3_forgetRoles ceX3_forgetRoles cutX3_forgetRoles G (fun v σ => rFit none v ∧ post v σ) n b pc lv st σ → G pc lv st σ) (c : CS) (M : aS) (l1 : Int32) (hb : bX3_forgetRoles_2 c l1 (fun X => rFit none none ∧ post none (wC X ++ M)) (fun z1 X => G 2 [(0, .ref 0), (1, .int z1)] [] (wC X ++ M))) : G 2 [(0, .ref 0), (1, .int l1)] [] (wC c ++ M) := by
  unfold bX3_forgetRoles_2 at hb
  refine hG 400 false 2 _ _ _ ?_
  refine And.intro (fun (h : (5 : Int32) ≤ l1) => ?_) (fun (h : ¬ (5 : Int32) ≤ l1) => ?_)
  · rw [if_pos h] at hb
    exact hb
  · rw [if_neg h] at hb
    obtain ⟨hi, hb⟩ := hb
    refine And.intro hi ?_
    exact hb
theorem giX3_forgetRoles_2 {G : Nat → LV → List Value → aS → Prop} {post : Option Value → aS → Prop} (hG : ∀ n b pc lv st σ, seg (0, fun _ => 0) pgX3_forgetRoles ceX3_forgetRoles cutX3_forgetRoles G (fun v σ => rFit none v ∧ post v σ) n b pc lv st σ → G pc lv st σ) (M : aS) : ∀ (n : Nat) (z1 : Int32) (X : CS), itX3_forgetRoles_2 (fun X => rFit none none ∧ post none (wC X ++ M)) n z1 X → G 2 [(0, .ref 0), (1, .int z1)] [] (wC X ++ M)
  | 0, _, _, h => h.elim
  | n + 1, _, _, h => lbX3_forgetRoles_2 hG _ M _ (mbX3_forgetRoles_2 (fun _ h => h) (fun _ _ h => giX3_forgetRoles_2 hG M n _ _ h) h)
theorem rcX3_forgetRoles : ∀ as σ kk, tX3_forgetRoles as σ kk → ∃ a r fs, as = .ref a :: r ∧ σ[a]? = some (.inr (2, fs)) := by
  intro as σ kk h
  unfold tX3_forgetRoles at h; split at h
  · obtain ⟨c, M, rfl, -⟩ := h
    exact ⟨_, _, _, rfl, rfl⟩
  · exact h.elim
set_option maxRecDepth 20000 in
theorem okX3_forgetRoles (l : Launch) : OK l yX3_forgetRoles cX3_forgetRoles 2 none 0 tX3_forgetRoles := by
  intro D τ ρ A as σ post h
  unfold tX3_forgetRoles at h; split at h
  · obtain ⟨c, M, rfl, hw⟩ := h
    refine met_of (P := pgX3_forgetRoles) (CE := ceX3_forgetRoles) (cut := cutX3_forgetRoles) (by decide) kkX3_forgetRoles (coX3_forgetRoles l) (Nat.le_of_ble_eq_true rfl) ?_
    intro G hG
    unfold wX3_forgetRoles at hw
    refine lbX3_forgetRoles_0 hG c M  (mbX3_forgetRoles_0 ?_ ?_ hw)
    · exact fun _ h => ⟨trivial, h⟩
    · intro _ _ ⟨N, h⟩; exact giX3_forgetRoles_2 hG M N _ _ (miX3_forgetRoles_2 (fun _ h => ⟨trivial, h⟩) N _ _ h)
  · exact h.elim
def bX3_surely_0 (c : CS) (a : Int32) (kr : Int32 → CS → Prop)  : Prop :=
  (if a = (-5 : Int32) then
    kr (1 : Int32) c
  else
    (vp_in a 32 ∧ (if (fX1_isBelow (0 : Int64) (c.2.2 4 a.toNatClampNeg)) = 0 then
      kr (0 : Int32) c
    else
      kr (1 : Int32) c)))
set_option maxRecDepth 20000 in
theorem mbX3_surely_0 {c : CS} {a : Int32} {kr kq : Int32 → CS → Prop}  (hr : ∀ x X, (x = 0 ∨ x = 1) → kr x X → kq x X)  (h : bX3_surely_0 c a kr ) : bX3_surely_0 c a kq  := by
  unfold bX3_surely_0 at h ⊢
  by_cases hc : a = (-5 : Int32)
  · rw [if_pos hc] at h ⊢
    exact hr _ _ (Or.inr rfl) h
  · rw [if_neg hc] at h ⊢
    obtain ⟨hi, h⟩ := h
    refine And.intro hi ?_
    by_cases hc : (fX1_isBelow (0 : Int64) (c.2.2 4 a.toNatClampNeg)) = 0
    · rw [if_pos hc] at h ⊢
      exact hr _ _ (Or.inl rfl) h
    · rw [if_neg hc] at h ⊢
      exact hr _ _ (Or.inr rfl) h
def wX3_surely (c : CS) (a : Int32) (kr : Int32 → CS → Prop) : Prop := bX3_surely_0 c a kr 
theorem mnX3_surely {c : CS} {a : Int32} {kr kq : Int32 → CS → Prop} (hr : ∀ x X, (x = 0 ∨ x = 1) → kr x X → kq x X) (h : wX3_surely c a kr) : wX3_surely c a kq := mbX3_surely_0 hr  h
def tX3_surely : Tr := fun as σ k => match as with
  | [.ref 0, .int a] => ∃ (c : CS) (M : aS), σ = wC c ++ M ∧ wX3_surely c a (fun x X => k (some (.int x)) (wC X ++ M))
  | _ => False
def ceX3_surely : List (Nat × Nat × Tr) := (2 * 44, 2, tX1_isBelow) :: []
theorem coX3_surely (l : Launch) : CEok l yX3_surely.cls 2 ceX3_surely := ce_S (okX1_isBelow l) (mw 133 (by decide +kernel) rfl) (mw 134 (by decide +kernel) rfl) (mw 5 (by decide +kernel) rfl) (mw 135 (by decide +kernel) rfl) (by decide) ⟨by decide, by decide⟩ (ce_0)
abbrev cutX3_surely : List (Nat × List Nat) := []
set_option maxRecDepth 20000 in
set_option maxHeartbeats 4000000 in
theorem lbX3_surely_0 {G : Nat → LV → List Value → aS → Prop} {post : Option Value → aS → Prop} (hG : ∀ n b pc lv st σ, seg (0, fun _ => 0) pgX3_surely ceX3_surely cutX3_surely G (fun v σ => rFit (some .boolean) v ∧ post v σ) n b pc lv st σ → G pc lv st σ) (c : CS) (M : aS) (a : Int32) (hb : bX3_surely_0 c a (fun x X => rFit (some .boolean) (some (.int x)) ∧ post (some (.int x)) (wC X ++ M)) ) : G 0 [(0, .ref 0), (1, .int a)] [] (wC c ++ M) := by
  unfold bX3_surely_0 at hb
  refine hG 400 false 0 _ _ _ ?_
  refine And.intro (fun (h : a = (-5 : Int32)) => ?_) (fun (h : ¬ a = (-5 : Int32)) => ?_)
  · rw [if_pos h] at hb
    exact hb
  · rw [if_neg h] at hb
    obtain ⟨hi, hb⟩ := hb
    refine And.intro hi ?_
    refine And.intro (fun (h : (fX1_isBelow (0 : Int64) (c.2.2 4 a.toNatClampNeg)) = 0) => ?_) (fun (h : ¬ (fX1_isBelow (0 : Int64) (c.2.2 4 a.toNatClampNeg)) = 0) => ?_)
    · rw [if_pos h] at hb
      exact hb
    · rw [if_neg h] at hb
      exact hb
theorem rcX3_surely : ∀ as σ kk, tX3_surely as σ kk → ∃ a r fs, as = .ref a :: r ∧ σ[a]? = some (.inr (2, fs)) := by
  intro as σ kk h
  unfold tX3_surely at h; split at h
  · obtain ⟨c, M, rfl, -⟩ := h
    exact ⟨_, _, _, rfl, rfl⟩
  · exact h.elim
set_option maxRecDepth 20000 in
theorem okX3_surely (l : Launch) : OK l yX3_surely cX3_surely 2 (some .boolean) 2 tX3_surely := by
  intro D τ ρ A as σ post h
  unfold tX3_surely at h; split at h
  · rename_i a; obtain ⟨c, M, rfl, hw⟩ := h
    refine met_of (P := pgX3_surely) (CE := ceX3_surely) (cut := cutX3_surely) (by decide) kkX3_surely (coX3_surely l) (Nat.le_of_ble_eq_true rfl) ?_
    intro G hG
    unfold wX3_surely at hw
    refine lbX3_surely_0 hG c M a (mbX3_surely_0 ?_  hw)
    · exact fun _ _ hf h => ⟨hf, h⟩
  · exact h.elim
def bX3_surelyNot_0 (c : CS) (a : Int32) (kr : Int32 → CS → Prop)  : Prop :=
  (if a = (-5 : Int32) then
    kr (0 : Int32) c
  else
    (vp_in a 32 ∧ (if (fX1_isBelow (0 : Int64) (c.2.2 5 a.toNatClampNeg)) = 0 then
      kr (1 : Int32) c
    else
      kr (0 : Int32) c)))
set_option maxRecDepth 20000 in
theorem mbX3_surelyNot_0 {c : CS} {a : Int32} {kr kq : Int32 → CS → Prop}  (hr : ∀ x X, (x = 0 ∨ x = 1) → kr x X → kq x X)  (h : bX3_surelyNot_0 c a kr ) : bX3_surelyNot_0 c a kq  := by
  unfold bX3_surelyNot_0 at h ⊢
  by_cases hc : a = (-5 : Int32)
  · rw [if_pos hc] at h ⊢
    exact hr _ _ (Or.inl rfl) h
  · rw [if_neg hc] at h ⊢
    obtain ⟨hi, h⟩ := h
    refine And.intro hi ?_
    by_cases hc : (fX1_isBelow (0 : Int64) (c.2.2 5 a.toNatClampNeg)) = 0
    · rw [if_pos hc] at h ⊢
      exact hr _ _ (Or.inr rfl) h
    · rw [if_neg hc] at h ⊢
      exact hr _ _ (Or.inl rfl) h
def wX3_surelyNot (c : CS) (a : Int32) (kr : Int32 → CS → Prop) : Prop := bX3_surelyNot_0 c a kr 
theorem mnX3_surelyNot {c : CS} {a : Int32} {kr kq : Int32 → CS → Prop} (hr : ∀ x X, (x = 0 ∨ x = 1) → kr x X → kq x X) (h : wX3_surelyNot c a kr) : wX3_surelyNot c a kq := mbX3_surelyNot_0 hr  h
def tX3_surelyNot : Tr := fun as σ k => match as with
  | [.ref 0, .int a] => ∃ (c : CS) (M : aS), σ = wC c ++ M ∧ wX3_surelyNot c a (fun x X => k (some (.int x)) (wC X ++ M))
  | _ => False
def ceX3_surelyNot : List (Nat × Nat × Tr) := (2 * 44, 2, tX1_isBelow) :: []
theorem coX3_surelyNot (l : Launch) : CEok l yX3_surelyNot.cls 2 ceX3_surelyNot := ce_S (okX1_isBelow l) (mw 133 (by decide +kernel) rfl) (mw 134 (by decide +kernel) rfl) (mw 5 (by decide +kernel) rfl) (mw 135 (by decide +kernel) rfl) (by decide) ⟨by decide, by decide⟩ (ce_0)
abbrev cutX3_surelyNot : List (Nat × List Nat) := []
set_option maxRecDepth 20000 in
set_option maxHeartbeats 4000000 in
theorem lbX3_surelyNot_0 {G : Nat → LV → List Value → aS → Prop} {post : Option Value → aS → Prop} (hG : ∀ n b pc lv st σ, seg (0, fun _ => 0) pgX3_surelyNot ceX3_surelyNot cutX3_surelyNot G (fun v σ => rFit (some .boolean) v ∧ post v σ) n b pc lv st σ → G pc lv st σ) (c : CS) (M : aS) (a : Int32) (hb : bX3_surelyNot_0 c a (fun x X => rFit (some .boolean) (some (.int x)) ∧ post (some (.int x)) (wC X ++ M)) ) : G 0 [(0, .ref 0), (1, .int a)] [] (wC c ++ M) := by
  unfold bX3_surelyNot_0 at hb
  refine hG 400 false 0 _ _ _ ?_
  refine And.intro (fun (h : a = (-5 : Int32)) => ?_) (fun (h : ¬ a = (-5 : Int32)) => ?_)
  · rw [if_pos h] at hb
    exact hb
  · rw [if_neg h] at hb
    obtain ⟨hi, hb⟩ := hb
    refine And.intro hi ?_
    refine And.intro (fun (h : ¬ (fX1_isBelow (0 : Int64) (c.2.2 5 a.toNatClampNeg)) = 0) => ?_) (fun hq => have h : (fX1_isBelow (0 : Int64) (c.2.2 5 a.toNatClampNeg)) = 0 := Classical.not_not.mp hq; ?_)
    · rw [if_neg h] at hb
      exact hb
    · rw [if_pos h] at hb
      exact hb
theorem rcX3_surelyNot : ∀ as σ kk, tX3_surelyNot as σ kk → ∃ a r fs, as = .ref a :: r ∧ σ[a]? = some (.inr (2, fs)) := by
  intro as σ kk h
  unfold tX3_surelyNot at h; split at h
  · obtain ⟨c, M, rfl, -⟩ := h
    exact ⟨_, _, _, rfl, rfl⟩
  · exact h.elim
set_option maxRecDepth 20000 in
theorem okX3_surelyNot (l : Launch) : OK l yX3_surelyNot cX3_surelyNot 2 (some .boolean) 2 tX3_surelyNot := by
  intro D τ ρ A as σ post h
  unfold tX3_surelyNot at h; split at h
  · rename_i a; obtain ⟨c, M, rfl, hw⟩ := h
    refine met_of (P := pgX3_surelyNot) (CE := ceX3_surelyNot) (cut := cutX3_surelyNot) (by decide) kkX3_surelyNot (coX3_surelyNot l) (Nat.le_of_ble_eq_true rfl) ?_
    intro G hG
    unfold wX3_surelyNot at hw
    refine lbX3_surelyNot_0 hG c M a (mbX3_surelyNot_0 ?_  hw)
    · exact fun _ _ hf h => ⟨hf, h⟩
  · exact h.elim
def bX3_kindNow_0 (c : CS)  (kr : Int32 → CS → Prop)  : Prop :=
  (vp_in (0 : Int32) 5 ∧ (wX3_surelyNot c (c.2.1 2 (0 : Int32).toNatClampNeg) (fun r1 X1 => (if r1 = 0 then
    (vp_in (0 : Int32) 5 ∧ (wX3_surely X1 (X1.2.1 2 (0 : Int32).toNatClampNeg) (fun r2 X2 => (if r2 = 0 then
      kr (3 : Int32) X2
    else
      (vp_in (1 : Int32) 5 ∧ (wX3_surely X2 (X2.2.1 2 (1 : Int32).toNatClampNeg) (fun r3 X3 => (if r3 = 0 then
        (vp_in (1 : Int32) 5 ∧ (wX3_surelyNot X3 (X3.2.1 2 (1 : Int32).toNatClampNeg) (fun r4 X4 => (if r4 = 0 then
          kr (3 : Int32) X4
        else
          kr (2 : Int32) X4))))
      else
        kr (1 : Int32) X3))))))))
  else
    kr (0 : Int32) X1))))
set_option maxRecDepth 20000 in
theorem mbX3_kindNow_0 {c : CS}  {kr kq : Int32 → CS → Prop}  (hr : ∀ x X, kr x X → kq x X)  (h : bX3_kindNow_0 c  kr ) : bX3_kindNow_0 c  kq  := by
  unfold bX3_kindNow_0 at h ⊢
  obtain ⟨hi, h⟩ := h
  refine And.intro hi ?_
  refine mnX3_surelyNot ?_ h
  intro r1 X1 _ h
  by_cases hc : r1 = 0
  · rw [if_pos hc] at h ⊢
    obtain ⟨hi, h⟩ := h
    refine And.intro hi ?_
    refine mnX3_surely ?_ h
    intro r2 X2 _ h
    by_cases hc : r2 = 0
    · rw [if_pos hc] at h ⊢
      exact hr _ _ h
    · rw [if_neg hc] at h ⊢
      obtain ⟨hi, h⟩ := h
      refine And.intro hi ?_
      refine mnX3_surely ?_ h
      intro r3 X3 _ h
      by_cases hc : r3 = 0
      · rw [if_pos hc] at h ⊢
        obtain ⟨hi, h⟩ := h
        refine And.intro hi ?_
        refine mnX3_surelyNot ?_ h
        intro r4 X4 _ h
        by_cases hc : r4 = 0
        · rw [if_pos hc] at h ⊢
          exact hr _ _ h
        · rw [if_neg hc] at h ⊢
          exact hr _ _ h
      · rw [if_neg hc] at h ⊢
        exact hr _ _ h
  · rw [if_neg hc] at h ⊢
    exact hr _ _ h
def wX3_kindNow (c : CS)  (kr : Int32 → CS → Prop) : Prop := bX3_kindNow_0 c  kr 
theorem mnX3_kindNow {c : CS}  {kr kq : Int32 → CS → Prop} (hr : ∀ x X, kr x X → kq x X) (h : wX3_kindNow c  kr) : wX3_kindNow c  kq := mbX3_kindNow_0 hr  h
def tX3_kindNow : Tr := fun as σ k => match as with
  | [.ref 0] => ∃ (c : CS) (M : aS), σ = wC c ++ M ∧ wX3_kindNow c  (fun x X => k (some (.int x)) (wC X ++ M))
  | _ => False
def ceX3_kindNow : List (Nat × Nat × Tr) := (2 * 171 + 1, 1 + 1, tX3_surelyNot) :: (2 * 174 + 1, 1 + 1, tX3_surely) :: []
theorem coX3_kindNow (l : Launch) : CEok l yX3_kindNow.cls 3 ceX3_kindNow := ce_V (ci := 2) (n := 1) rfl (okX3_surelyNot l) rcX3_surelyNot (mw 355 (by decide +kernel) rfl) (mw 357 (by decide +kernel) rfl) (ms 10 (by decide +kernel) rfl) (mw 1 (by decide +kernel) rfl) (mw 358 (by decide +kernel) rfl) rfl (by decide) ⟨by decide, by decide⟩ (ce_V (ci := 2) (n := 1) rfl (okX3_surely l) rcX3_surely (mw 359 (by decide +kernel) rfl) (mw 361 (by decide +kernel) rfl) (ms 11 (by decide +kernel) rfl) (mw 1 (by decide +kernel) rfl) (mw 362 (by decide +kernel) rfl) rfl (by decide) ⟨by decide, by decide⟩ (ce_0))
abbrev cutX3_kindNow : List (Nat × List Nat) := []
set_option maxRecDepth 20000 in
set_option maxHeartbeats 4000000 in
theorem lbX3_kindNow_0 {G : Nat → LV → List Value → aS → Prop} {post : Option Value → aS → Prop} (hG : ∀ n b pc lv st σ, seg (0, fun _ => 0) pgX3_kindNow ceX3_kindNow cutX3_kindNow G (fun v σ => rFit (some .int) v ∧ post v σ) n b pc lv st σ → G pc lv st σ) (c : CS) (M : aS)  (hb : bX3_kindNow_0 c  (fun x X => rFit (some .int) (some (.int x)) ∧ post (some (.int x)) (wC X ++ M)) ) : G 0 [(0, .ref 0)] [] (wC c ++ M) := by
  unfold bX3_kindNow_0 at hb
  refine hG 400 false 0 _ _ _ ?_
  obtain ⟨hi, hb⟩ := hb
  refine And.intro hi ?_
  refine Exists.intro c (Exists.intro M ((And.intro rfl (mnX3_surelyNot ?_ hb))))
  intro r1 X1 _ hb
  refine And.intro (fun (h : r1 = 0) => ?_) (fun (h : ¬ r1 = 0) => ?_)
  · rw [if_pos h] at hb
    obtain ⟨hi, hb⟩ := hb
    refine And.intro hi ?_
    refine Exists.intro X1 (Exists.intro M ((And.intro rfl (mnX3_surely ?_ hb))))
    intro r2 X2 _ hb
    refine And.intro (fun (h : r2 = 0) => ?_) (fun (h : ¬ r2 = 0) => ?_)
    · rw [if_pos h] at hb
      exact hb
    · rw [if_neg h] at hb
      obtain ⟨hi, hb⟩ := hb
      refine And.intro hi ?_
      refine Exists.intro X2 (Exists.intro M ((And.intro rfl (mnX3_surely ?_ hb))))
      intro r3 X3 _ hb
      refine And.intro (fun (h : r3 = 0) => ?_) (fun (h : ¬ r3 = 0) => ?_)
      · rw [if_pos h] at hb
        obtain ⟨hi, hb⟩ := hb
        refine And.intro hi ?_
        refine Exists.intro X3 (Exists.intro M ((And.intro rfl (mnX3_surelyNot ?_ hb))))
        intro r4 X4 _ hb
        refine And.intro (fun (h : r4 = 0) => ?_) (fun (h : ¬ r4 = 0) => ?_)
        · rw [if_pos h] at hb
          exact hb
        · rw [if_neg h] at hb
          exact hb
      · rw [if_neg h] at hb
        exact hb
  · rw [if_neg h] at hb
    exact hb
theorem rcX3_kindNow : ∀ as σ kk, tX3_kindNow as σ kk → ∃ a r fs, as = .ref a :: r ∧ σ[a]? = some (.inr (2, fs)) := by
  intro as σ kk h
  unfold tX3_kindNow at h; split at h
  · obtain ⟨c, M, rfl, -⟩ := h
    exact ⟨_, _, _, rfl, rfl⟩
  · exact h.elim
set_option maxRecDepth 20000 in
theorem okX3_kindNow (l : Launch) : OK l yX3_kindNow cX3_kindNow 1 (some .int) 3 tX3_kindNow := by
  intro D τ ρ A as σ post h
  unfold tX3_kindNow at h; split at h
  · obtain ⟨c, M, rfl, hw⟩ := h
    refine met_of (P := pgX3_kindNow) (CE := ceX3_kindNow) (cut := cutX3_kindNow) (by decide) kkX3_kindNow (coX3_kindNow l) (Nat.le_of_ble_eq_true rfl) ?_
    intro G hG
    unfold wX3_kindNow at hw
    refine lbX3_kindNow_0 hG c M  (mbX3_kindNow_0 ?_  hw)
    · exact fun _ _ h => ⟨trivial, h⟩
  · exact h.elim
def bX3_weigh_0 (c : CS) (a : Int32) (kr : CS → Prop) (kc12 : Int32 → Int64 → Int64 → Int32 → CS → Prop) : Prop :=
  kc12 a (4607182418800017408 : Int64) (4607182418800017408 : Int64) (0 : Int32) c
def bX3_weigh_12 (c : CS) (a : Int32) (l2 : Int64) (l4 : Int64) (l6 : Int32) (kr : CS → Prop) (kc12 : Int32 → Int64 → Int64 → Int32 → CS → Prop) : Prop :=
  (if (c.1 0) ≤ l6 then
    (vp_in a 100 ∧ (vp_in a 100 ∧ kr (setL (setL c 13 (vp_updL (c.2.2 13) a.toNatClampNeg l2)) 14 (vp_updL ((setL c 13 (vp_updL (c.2.2 13) a.toNatClampNeg l2)).2.2 14) a.toNatClampNeg l4))))
  else
    (vp_in l6 3 ∧ (vp_in l6 3 ∧ (vp_in ((2 : Int32) + l6) 5 ∧ (if (c.2.1 2 ((2 : Int32) + l6).toNatClampNeg) = (-5 : Int32) then
      kc12 a (fX1_lowTimes l2 (fX1_down (c.2.2 16 l6.toNatClampNeg))) (fX1_highTimes l4 (fX1_up (c.2.2 16 l6.toNatClampNeg))) (l6 + (1 : Int32)) c
    else
      (vp_in (c.2.1 2 ((2 : Int32) + l6).toNatClampNeg) 32 ∧ (vp_in (c.2.1 2 ((2 : Int32) + l6).toNatClampNeg) 32 ∧ kc12 a (fX1_lowTimes (fX1_lowTimes l2 (fX1_down (c.2.2 16 l6.toNatClampNeg))) (c.2.2 4 (c.2.1 2 ((2 : Int32) + l6).toNatClampNeg).toNatClampNeg)) (fX1_highTimes (fX1_highTimes l4 (fX1_up (c.2.2 16 l6.toNatClampNeg))) (c.2.2 5 (c.2.1 2 ((2 : Int32) + l6).toNatClampNeg).toNatClampNeg)) (l6 + (1 : Int32)) c)))))))
set_option maxRecDepth 20000 in
theorem mbX3_weigh_0 {c : CS} {a : Int32} {kr kq : CS → Prop} {kc12 kd12 : Int32 → Int64 → Int64 → Int32 → CS → Prop} (hr : ∀ X, kr X → kq X) (hc12 : ∀ z1 z2 z4 z6 X, kc12 z1 z2 z4 z6 X → kd12 z1 z2 z4 z6 X) (h : bX3_weigh_0 c a kr kc12) : bX3_weigh_0 c a kq kd12 := by
  unfold bX3_weigh_0 at h ⊢
  exact hc12 _ _ _ _ _ h
set_option maxRecDepth 20000 in
theorem mbX3_weigh_12 {c : CS} {a : Int32} {l2 : Int64} {l4 : Int64} {l6 : Int32} {kr kq : CS → Prop} {kc12 kd12 : Int32 → Int64 → Int64 → Int32 → CS → Prop} (hr : ∀ X, kr X → kq X) (hc12 : ∀ z1 z2 z4 z6 X, kc12 z1 z2 z4 z6 X → kd12 z1 z2 z4 z6 X) (h : bX3_weigh_12 c a l2 l4 l6 kr kc12) : bX3_weigh_12 c a l2 l4 l6 kq kd12 := by
  unfold bX3_weigh_12 at h ⊢
  by_cases hc : (c.1 0) ≤ l6
  · rw [if_pos hc] at h ⊢
    obtain ⟨hi, h⟩ := h
    refine And.intro hi ?_
    obtain ⟨hi, h⟩ := h
    refine And.intro hi ?_
    exact hr _ h
  · rw [if_neg hc] at h ⊢
    obtain ⟨hi, h⟩ := h
    refine And.intro hi ?_
    obtain ⟨hi, h⟩ := h
    refine And.intro hi ?_
    obtain ⟨hi, h⟩ := h
    refine And.intro hi ?_
    by_cases hc : (c.2.1 2 ((2 : Int32) + l6).toNatClampNeg) = (-5 : Int32)
    · rw [if_pos hc] at h ⊢
      exact hc12 _ _ _ _ _ h
    · rw [if_neg hc] at h ⊢
      obtain ⟨hi, h⟩ := h
      refine And.intro hi ?_
      obtain ⟨hi, h⟩ := h
      refine And.intro hi ?_
      exact hc12 _ _ _ _ _ h
def itX3_weigh_12 (kr : CS → Prop) : Nat → Int32 → Int64 → Int64 → Int32 → CS → Prop
  | 0, _, _, _, _, _ => False
  | n + 1, a, l2, l4, l6, c => bX3_weigh_12 c a l2 l4 l6 kr (fun z1 z2 z4 z6 X => itX3_weigh_12 kr n z1 z2 z4 z6 X)
theorem miX3_weigh_12 {kr kq : CS → Prop} (hr : ∀ X, kr X → kq X) : ∀ (n : Nat) (z1 : Int32) (z2 : Int64) (z4 : Int64) (z6 : Int32) (X : CS), itX3_weigh_12 kr n z1 z2 z4 z6 X → itX3_weigh_12 kq n z1 z2 z4 z6 X
  | 0, _, _, _, _, _, h => h
  | n + 1, _, _, _, _, _, h => mbX3_weigh_12 hr (fun _ _ _ _ _ h => miX3_weigh_12 hr n _ _ _ _ _ h) h
def wX3_weigh (c : CS) (a : Int32) (kr : CS → Prop) : Prop := bX3_weigh_0 c a kr (fun z1 z2 z4 z6 X => ∃ N, itX3_weigh_12 kr N z1 z2 z4 z6 X)
theorem mnX3_weigh {c : CS} {a : Int32} {kr kq : CS → Prop} (hr : ∀ X, kr X → kq X) (h : wX3_weigh c a kr) : wX3_weigh c a kq := mbX3_weigh_0 hr (fun _ _ _ _ _ h => h.elim fun N h => ⟨N, miX3_weigh_12 hr N _ _ _ _ _ h⟩) h
def tX3_weigh : Tr := fun as σ k => match as with
  | [.ref 0, .int a] => ∃ (c : CS) (M : aS), σ = wC c ++ M ∧ wX3_weigh c a (fun X => k none (wC X ++ M))
  | _ => False
def ceX3_weigh : List (Nat × Nat × Tr) := (2 * 182, 1, tX1_down) :: (2 * 186, 2, tX1_lowTimes) :: (2 * 190, 1, tX1_up) :: (2 * 193, 2, tX1_highTimes) :: []
theorem coX3_weigh (l : Launch) : CEok l yX3_weigh.cls 5 ceX3_weigh := ce_S (okX1_down l) (mw 378 (by decide +kernel) rfl) (mw 256 (by decide +kernel) rfl) (mw 5 (by decide +kernel) rfl) (mw 257 (by decide +kernel) rfl) (by decide) ⟨by decide, by decide⟩ (ce_S (okX1_lowTimes l) (mw 379 (by decide +kernel) rfl) (mw 380 (by decide +kernel) rfl) (mw 5 (by decide +kernel) rfl) (mw 381 (by decide +kernel) rfl) (by decide) ⟨by decide, by decide⟩ (ce_S (okX1_up l) (mw 385 (by decide +kernel) rfl) (mw 262 (by decide +kernel) rfl) (mw 5 (by decide +kernel) rfl) (mw 263 (by decide +kernel) rfl) (by decide) ⟨by decide, by decide⟩ (ce_S (okX1_highTimes l) (mw 386 (by decide +kernel) rfl) (mw 387 (by decide +kernel) rfl) (mw 5 (by decide +kernel) rfl) (mw 388 (by decide +kernel) rfl) (by decide) ⟨by decide, by decide⟩ (ce_0))))
abbrev cutX3_weigh : List (Nat × List Nat) := [(12, [0, 1, 2, 4, 6])]
set_option maxRecDepth 20000 in
set_option maxHeartbeats 4000000 in
theorem lbX3_weigh_0 {G : Nat → LV → List Value → aS → Prop} {post : Option Value → aS → Prop} (hG : ∀ n b pc lv st σ, seg (0, fun _ => 0) pgX3_weigh ceX3_weigh cutX3_weigh G (fun v σ => rFit none v ∧ post v σ) n b pc lv st σ → G pc lv st σ) (c : CS) (M : aS) (a : Int32) (hb : bX3_weigh_0 c a (fun X => rFit none none ∧ post none (wC X ++ M)) (fun z1 z2 z4 z6 X => G 12 [(0, .ref 0), (1, .int z1), (2, .long z2), (4, .long z4), (6, .int z6)] [] (wC X ++ M))) : G 0 [(0, .ref 0), (1, .int a)] [] (wC c ++ M) := by
  unfold bX3_weigh_0 at hb
  refine hG 400 false 0 _ _ _ ?_
  exact hb
set_option maxRecDepth 20000 in
set_option maxHeartbeats 4000000 in
theorem lbX3_weigh_12 {G : Nat → LV → List Value → aS → Prop} {post : Option Value → aS → Prop} (hG : ∀ n b pc lv st σ, seg (0, fun _ => 0) pgX3_weigh ceX3_weigh cutX3_weigh G (fun v σ => rFit none v ∧ post v σ) n b pc lv st σ → G pc lv st σ) (c : CS) (M : aS) (a : Int32) (l2 : Int64) (l4 : Int64) (l6 : Int32) (hb : bX3_weigh_12 c a l2 l4 l6 (fun X => rFit none none ∧ post none (wC X ++ M)) (fun z1 z2 z4 z6 X => G 12 [(0, .ref 0), (1, .int z1), (2, .long z2), (4, .long z4), (6, .int z6)] [] (wC X ++ M))) : G 12 [(0, .ref 0), (1, .int a), (2, .long l2), (4, .long l4), (6, .int l6)] [] (wC c ++ M) := by
  unfold bX3_weigh_12 at hb
  refine hG 400 false 12 _ _ _ ?_
  refine And.intro (fun (h : (c.1 0) ≤ l6) => ?_) (fun (h : ¬ (c.1 0) ≤ l6) => ?_)
  · rw [if_pos h] at hb
    obtain ⟨hi, hb⟩ := hb
    refine And.intro hi ?_
    obtain ⟨hi, hb⟩ := hb
    refine And.intro hi ?_
    exact hb
  · rw [if_neg h] at hb
    obtain ⟨hi, hb⟩ := hb
    refine And.intro hi ?_
    obtain ⟨hi, hb⟩ := hb
    refine And.intro hi ?_
    obtain ⟨hi, hb⟩ := hb
    refine And.intro hi ?_
    refine And.intro (fun (h : (c.2.1 2 ((2 : Int32) + l6).toNatClampNeg) = (-5 : Int32)) => ?_) (fun (h : ¬ (c.2.1 2 ((2 : Int32) + l6).toNatClampNeg) = (-5 : Int32)) => ?_)
    · rw [if_pos h] at hb
      exact hb
    · rw [if_neg h] at hb
      obtain ⟨hi, hb⟩ := hb
      refine And.intro hi ?_
      obtain ⟨hi, hb⟩ := hb
      refine And.intro hi ?_
      exact hb
theorem giX3_weigh_12 {G : Nat → LV → List Value → aS → Prop} {post : Option Value → aS → Prop} (hG : ∀ n b pc lv st σ, seg (0, fun _ => 0) pgX3_weigh ceX3_weigh cutX3_weigh G (fun v σ => rFit none v ∧ post v σ) n b pc lv st σ → G pc lv st σ) (M : aS) : ∀ (n : Nat) (z1 : Int32) (z2 : Int64) (z4 : Int64) (z6 : Int32) (X : CS), itX3_weigh_12 (fun X => rFit none none ∧ post none (wC X ++ M)) n z1 z2 z4 z6 X → G 12 [(0, .ref 0), (1, .int z1), (2, .long z2), (4, .long z4), (6, .int z6)] [] (wC X ++ M)
  | 0, _, _, _, _, _, h => h.elim
  | n + 1, _, _, _, _, _, h => lbX3_weigh_12 hG _ M _ _ _ _ (mbX3_weigh_12 (fun _ h => h) (fun _ _ _ _ _ h => giX3_weigh_12 hG M n _ _ _ _ _ h) h)
theorem rcX3_weigh : ∀ as σ kk, tX3_weigh as σ kk → ∃ a r fs, as = .ref a :: r ∧ σ[a]? = some (.inr (2, fs)) := by
  intro as σ kk h
  unfold tX3_weigh at h; split at h
  · obtain ⟨c, M, rfl, -⟩ := h
    exact ⟨_, _, _, rfl, rfl⟩
  · exact h.elim
set_option maxRecDepth 20000 in
theorem okX3_weigh (l : Launch) : OK l yX3_weigh cX3_weigh 8 none 5 tX3_weigh := by
  intro D τ ρ A as σ post h
  unfold tX3_weigh at h; split at h
  · rename_i a; obtain ⟨c, M, rfl, hw⟩ := h
    refine met_of (P := pgX3_weigh) (CE := ceX3_weigh) (cut := cutX3_weigh) (by decide) kkX3_weigh (coX3_weigh l) (Nat.le_of_ble_eq_true rfl) ?_
    intro G hG
    unfold wX3_weigh at hw
    refine lbX3_weigh_0 hG c M a (mbX3_weigh_0 ?_ ?_ hw)
    · exact fun _ h => ⟨trivial, h⟩
    · intro _ _ _ _ _ ⟨N, h⟩; exact giX3_weigh_12 hG M N _ _ _ _ _ (miX3_weigh_12 (fun _ h => ⟨trivial, h⟩) N _ _ _ _ _ h)
  · exact h.elim
def bX3_settle_0 (c : CS) (a : Int32) (kr : CS → Prop)  : Prop :=
  (wX0_enclose c (c.1 1) (fX2_place a (0 : Int32)) (fun  X1 => (wX3_kindNow X1  (fun r2 X2 => (vp_in a 100 ∧ (wX2_measure (setA X2 15 (upd (X2.2.1 15) a.toNatClampNeg r2)) a (fun  X3 => (wX3_weigh X3 a (fun  X4 => kr X4)))))))))
set_option maxRecDepth 20000 in
theorem mbX3_settle_0 {c : CS} {a : Int32} {kr kq : CS → Prop}  (hr : ∀ X, kr X → kq X)  (h : bX3_settle_0 c a kr ) : bX3_settle_0 c a kq  := by
  unfold bX3_settle_0 at h ⊢
  refine mnX0_enclose ?_ h
  intro  X1 h
  refine mnX3_kindNow ?_ h
  intro r2 X2 h
  obtain ⟨hi, h⟩ := h
  refine And.intro hi ?_
  refine mnX2_measure ?_ h
  intro  X3 h
  refine mnX3_weigh ?_ h
  intro  X4 h
  exact hr _ h
def wX3_settle (c : CS) (a : Int32) (kr : CS → Prop) : Prop := bX3_settle_0 c a kr 
theorem mnX3_settle {c : CS} {a : Int32} {kr kq : CS → Prop} (hr : ∀ X, kr X → kq X) (h : wX3_settle c a kr) : wX3_settle c a kq := mbX3_settle_0 hr  h
def tX3_settle : Tr := fun as σ k => match as with
  | [.ref 0, .int a] => ∃ (c : CS) (M : aS), σ = wC c ++ M ∧ wX3_settle c a (fun X => k none (wC X ++ M))
  | _ => False
def ceX3_settle : List (Nat × Nat × Tr) := (2 * 105, 2, tX2_place) :: (2 * 115 + 1, 3 + 1, tX0_enclose) :: (2 * 162 + 1, 0 + 1, tX3_kindNow) :: (2 * 165 + 1, 1 + 1, tX2_measure) :: (2 * 168 + 1, 1 + 1, tX3_weigh) :: []
theorem coX3_settle (l : Launch) : CEok l yX3_settle.cls 7 ceX3_settle := ce_S (okX2_place l) (mw 201 (by decide +kernel) rfl) (mw 202 (by decide +kernel) rfl) (mw 3 (by decide +kernel) rfl) (mw 203 (by decide +kernel) rfl) (by decide) ⟨by decide, by decide⟩ (ce_V (ci := 0) (n := 3) rfl (okX0_enclose l) rcX0_enclose (mw 204 (by decide +kernel) rfl) (mw 205 (by decide +kernel) rfl) (mw 206 (by decide +kernel) rfl) (mw 2 (by decide +kernel) rfl) (mw 207 (by decide +kernel) rfl) rfl (by decide) ⟨by decide, by decide⟩ (ce_V (ci := 2) (n := 0) rfl (okX3_kindNow l) rcX3_kindNow (mw 351 (by decide +kernel) rfl) (mw 353 (by decide +kernel) rfl) (ms 9 (by decide +kernel) rfl) (mw 1 (by decide +kernel) rfl) (mw 354 (by decide +kernel) rfl) rfl (by decide) ⟨by decide, by decide⟩ (ce_V (ci := 1) (n := 1) rfl (okX2_measure l) rcX2_measure (mw 363 (by decide +kernel) rfl) (mw 364 (by decide +kernel) rfl) (mw 365 (by decide +kernel) rfl) (mw 3 (by decide +kernel) rfl) (mw 366 (by decide +kernel) rfl) rfl (by decide) ⟨by decide, by decide⟩ (ce_V (ci := 2) (n := 1) rfl (okX3_weigh l) rcX3_weigh (mw 373 (by decide +kernel) rfl) (mw 375 (by decide +kernel) rfl) (ms 12 (by decide +kernel) rfl) (mw 1 (by decide +kernel) rfl) (mw 376 (by decide +kernel) rfl) rfl (by decide) ⟨by decide, by decide⟩ (ce_0)))))
abbrev cutX3_settle : List (Nat × List Nat) := []
set_option maxRecDepth 20000 in
set_option maxHeartbeats 4000000 in
theorem lbX3_settle_0 {G : Nat → LV → List Value → aS → Prop} {post : Option Value → aS → Prop} (hG : ∀ n b pc lv st σ, seg (0, fun _ => 0) pgX3_settle ceX3_settle cutX3_settle G (fun v σ => rFit none v ∧ post v σ) n b pc lv st σ → G pc lv st σ) (c : CS) (M : aS) (a : Int32) (hb : bX3_settle_0 c a (fun X => rFit none none ∧ post none (wC X ++ M)) ) : G 0 [(0, .ref 0), (1, .int a)] [] (wC c ++ M) := by
  unfold bX3_settle_0 at hb
  refine hG 400 false 0 _ _ _ ?_
  refine Exists.intro c (Exists.intro M ((And.intro rfl (mnX0_enclose ?_ hb))))
  intro  X1 hb
  refine Exists.intro X1 (Exists.intro M ((And.intro rfl (mnX3_kindNow ?_ hb))))
  intro r2 X2 hb
  obtain ⟨hi, hb⟩ := hb
  refine And.intro hi ?_
  refine Exists.intro (setA X2 15 (upd (X2.2.1 15) a.toNatClampNeg r2)) (Exists.intro M ((And.intro rfl (mnX2_measure ?_ hb))))
  intro  X3 hb
  refine Exists.intro X3 (Exists.intro M ((And.intro rfl (mnX3_weigh ?_ hb))))
  intro  X4 hb
  exact hb
theorem rcX3_settle : ∀ as σ kk, tX3_settle as σ kk → ∃ a r fs, as = .ref a :: r ∧ σ[a]? = some (.inr (2, fs)) := by
  intro as σ kk h
  unfold tX3_settle at h; split at h
  · obtain ⟨c, M, rfl, -⟩ := h
    exact ⟨_, _, _, rfl, rfl⟩
  · exact h.elim
set_option maxRecDepth 20000 in
theorem okX3_settle (l : Launch) : OK l yX3_settle cX3_settle 2 none 7 tX3_settle := by
  intro D τ ρ A as σ post h
  unfold tX3_settle at h; split at h
  · rename_i a; obtain ⟨c, M, rfl, hw⟩ := h
    refine met_of (P := pgX3_settle) (CE := ceX3_settle) (cut := cutX3_settle) (by decide) kkX3_settle (coX3_settle l) (Nat.le_of_ble_eq_true rfl) ?_
    intro G hG
    unfold wX3_settle at hw
    refine lbX3_settle_0 hG c M a (mbX3_settle_0 ?_  hw)
    · exact fun _ h => ⟨trivial, h⟩
  · exact h.elim
def bX3_lowOdds_0 (c : CS)  (kr : Int64 → CS → Prop)  : Prop :=
  (wX2_lowMass c (1 : Int32) (fun r1 X1 => (wX2_highMass X1 (2 : Int32) (fun r2 X2 => (wX2_highMass X2 (3 : Int32) (fun r3 X3 => kr (fX1_zeroIfLess (fX1_down (fX1_over r1 (fX1_up (fX1_plus (fX1_up (fX1_plus r1 r2)) r3))))) X3))))))
set_option maxRecDepth 20000 in
theorem mbX3_lowOdds_0 {c : CS}  {kr kq : Int64 → CS → Prop}  (hr : ∀ x X, kr x X → kq x X)  (h : bX3_lowOdds_0 c  kr ) : bX3_lowOdds_0 c  kq  := by
  unfold bX3_lowOdds_0 at h ⊢
  refine mnX2_lowMass ?_ h
  intro r1 X1 h
  refine mnX2_highMass ?_ h
  intro r2 X2 h
  refine mnX2_highMass ?_ h
  intro r3 X3 h
  exact hr _ _ h
def wX3_lowOdds (c : CS)  (kr : Int64 → CS → Prop) : Prop := bX3_lowOdds_0 c  kr 
theorem mnX3_lowOdds {c : CS}  {kr kq : Int64 → CS → Prop} (hr : ∀ x X, kr x X → kq x X) (h : wX3_lowOdds c  kr) : wX3_lowOdds c  kq := mbX3_lowOdds_0 hr  h
def tX3_lowOdds : Tr := fun as σ k => match as with
  | [.ref 0] => ∃ (c : CS) (M : aS), σ = wC c ++ M ∧ wX3_lowOdds c  (fun x X => k (some (.long x)) (wC X ++ M))
  | _ => False
def ceX3_lowOdds : List (Nat × Nat × Tr) := (2 * 139 + 1, 1 + 1, tX2_lowMass) :: (2 * 143 + 1, 1 + 1, tX2_highMass) :: (2 * 196, 2, tX1_plus) :: (2 * 190, 1, tX1_up) :: (2 * 199, 2, tX1_over) :: (2 * 182, 1, tX1_down) :: (2 * 202, 1, tX1_zeroIfLess) :: []
theorem coX3_lowOdds (l : Launch) : CEok l yX3_lowOdds.cls 5 ceX3_lowOdds := ce_V (ci := 1) (n := 1) rfl (okX2_lowMass l) rcX2_lowMass (mw 461 (by decide +kernel) rfl) (mw 462 (by decide +kernel) rfl) (mw 463 (by decide +kernel) rfl) (mw 3 (by decide +kernel) rfl) (mw 464 (by decide +kernel) rfl) rfl (by decide) ⟨by decide, by decide⟩ (ce_V (ci := 1) (n := 1) rfl (okX2_highMass l) rcX2_highMass (mw 467 (by decide +kernel) rfl) (mw 468 (by decide +kernel) rfl) (mw 469 (by decide +kernel) rfl) (mw 3 (by decide +kernel) rfl) (mw 470 (by decide +kernel) rfl) rfl (by decide) ⟨by decide, by decide⟩ (ce_S (okX1_plus l) (mw 480 (by decide +kernel) rfl) (mw 224 (by decide +kernel) rfl) (mw 5 (by decide +kernel) rfl) (mw 225 (by decide +kernel) rfl) (by decide) ⟨by decide, by decide⟩ (ce_S (okX1_up l) (mw 385 (by decide +kernel) rfl) (mw 262 (by decide +kernel) rfl) (mw 5 (by decide +kernel) rfl) (mw 263 (by decide +kernel) rfl) (by decide) ⟨by decide, by decide⟩ (ce_S (okX1_over l) (mw 481 (by decide +kernel) rfl) (mw 294 (by decide +kernel) rfl) (mw 5 (by decide +kernel) rfl) (mw 295 (by decide +kernel) rfl) (by decide) ⟨by decide, by decide⟩ (ce_S (okX1_down l) (mw 378 (by decide +kernel) rfl) (mw 256 (by decide +kernel) rfl) (mw 5 (by decide +kernel) rfl) (mw 257 (by decide +kernel) rfl) (by decide) ⟨by decide, by decide⟩ (ce_S (okX1_zeroIfLess l) (mw 482 (by decide +kernel) rfl) (mw 315 (by decide +kernel) rfl) (mw 5 (by decide +kernel) rfl) (mw 316 (by decide +kernel) rfl) (by decide) ⟨by decide, by decide⟩ (ce_0)))))))
abbrev cutX3_lowOdds : List (Nat × List Nat) := []
set_option maxRecDepth 20000 in
set_option maxHeartbeats 4000000 in
theorem lbX3_lowOdds_0 {G : Nat → LV → List Value → aS → Prop} {post : Option Value → aS → Prop} (hG : ∀ n b pc lv st σ, seg (0, fun _ => 0) pgX3_lowOdds ceX3_lowOdds cutX3_lowOdds G (fun v σ => rFit (some .long) v ∧ post v σ) n b pc lv st σ → G pc lv st σ) (c : CS) (M : aS)  (hb : bX3_lowOdds_0 c  (fun x X => rFit (some .long) (some (.long x)) ∧ post (some (.long x)) (wC X ++ M)) ) : G 0 [(0, .ref 0)] [] (wC c ++ M) := by
  unfold bX3_lowOdds_0 at hb
  refine hG 400 false 0 _ _ _ ?_
  refine Exists.intro c (Exists.intro M ((And.intro rfl (mnX2_lowMass ?_ hb))))
  intro r1 X1 hb
  refine Exists.intro X1 (Exists.intro M ((And.intro rfl (mnX2_highMass ?_ hb))))
  intro r2 X2 hb
  refine Exists.intro X2 (Exists.intro M ((And.intro rfl (mnX2_highMass ?_ hb))))
  intro r3 X3 hb
  exact hb
theorem rcX3_lowOdds : ∀ as σ kk, tX3_lowOdds as σ kk → ∃ a r fs, as = .ref a :: r ∧ σ[a]? = some (.inr (2, fs)) := by
  intro as σ kk h
  unfold tX3_lowOdds at h; split at h
  · obtain ⟨c, M, rfl, -⟩ := h
    exact ⟨_, _, _, rfl, rfl⟩
  · exact h.elim
set_option maxRecDepth 20000 in
theorem okX3_lowOdds (l : Launch) : OK l yX3_lowOdds cX3_lowOdds 7 (some .long) 5 tX3_lowOdds := by
  intro D τ ρ A as σ post h
  unfold tX3_lowOdds at h; split at h
  · obtain ⟨c, M, rfl, hw⟩ := h
    refine met_of (P := pgX3_lowOdds) (CE := ceX3_lowOdds) (cut := cutX3_lowOdds) (by decide) kkX3_lowOdds (coX3_lowOdds l) (Nat.le_of_ble_eq_true rfl) ?_
    intro G hG
    unfold wX3_lowOdds at hw
    refine lbX3_lowOdds_0 hG c M  (mbX3_lowOdds_0 ?_  hw)
    · exact fun _ _ h => ⟨trivial, h⟩
  · exact h.elim
def bX3_highOdds_0 (c : CS)  (kr : Int64 → CS → Prop)  : Prop :=
  (wX2_highMass c (1 : Int32) (fun r1 X1 => (wX2_highMass X1 (3 : Int32) (fun r2 X2 => (wX2_lowMass X2 (2 : Int32) (fun r3 X3 => kr (fX1_oneIfMore (fX1_up (fX1_over (fX1_up (fX1_plus r1 r2)) (fX1_down (fX1_plus (fX1_up (fX1_plus r1 r2)) r3))))) X3))))))
set_option maxRecDepth 20000 in
theorem mbX3_highOdds_0 {c : CS}  {kr kq : Int64 → CS → Prop}  (hr : ∀ x X, kr x X → kq x X)  (h : bX3_highOdds_0 c  kr ) : bX3_highOdds_0 c  kq  := by
  unfold bX3_highOdds_0 at h ⊢
  refine mnX2_highMass ?_ h
  intro r1 X1 h
  refine mnX2_highMass ?_ h
  intro r2 X2 h
  refine mnX2_lowMass ?_ h
  intro r3 X3 h
  exact hr _ _ h
def wX3_highOdds (c : CS)  (kr : Int64 → CS → Prop) : Prop := bX3_highOdds_0 c  kr 
theorem mnX3_highOdds {c : CS}  {kr kq : Int64 → CS → Prop} (hr : ∀ x X, kr x X → kq x X) (h : wX3_highOdds c  kr) : wX3_highOdds c  kq := mbX3_highOdds_0 hr  h
def tX3_highOdds : Tr := fun as σ k => match as with
  | [.ref 0] => ∃ (c : CS) (M : aS), σ = wC c ++ M ∧ wX3_highOdds c  (fun x X => k (some (.long x)) (wC X ++ M))
  | _ => False
def ceX3_highOdds : List (Nat × Nat × Tr) := (2 * 143 + 1, 1 + 1, tX2_highMass) :: (2 * 196, 2, tX1_plus) :: (2 * 190, 1, tX1_up) :: (2 * 139 + 1, 1 + 1, tX2_lowMass) :: (2 * 182, 1, tX1_down) :: (2 * 199, 2, tX1_over) :: (2 * 205, 1, tX1_oneIfMore) :: []
theorem coX3_highOdds (l : Launch) : CEok l yX3_highOdds.cls 5 ceX3_highOdds := ce_V (ci := 1) (n := 1) rfl (okX2_highMass l) rcX2_highMass (mw 467 (by decide +kernel) rfl) (mw 468 (by decide +kernel) rfl) (mw 469 (by decide +kernel) rfl) (mw 3 (by decide +kernel) rfl) (mw 470 (by decide +kernel) rfl) rfl (by decide) ⟨by decide, by decide⟩ (ce_S (okX1_plus l) (mw 480 (by decide +kernel) rfl) (mw 224 (by decide +kernel) rfl) (mw 5 (by decide +kernel) rfl) (mw 225 (by decide +kernel) rfl) (by decide) ⟨by decide, by decide⟩ (ce_S (okX1_up l) (mw 385 (by decide +kernel) rfl) (mw 262 (by decide +kernel) rfl) (mw 5 (by decide +kernel) rfl) (mw 263 (by decide +kernel) rfl) (by decide) ⟨by decide, by decide⟩ (ce_V (ci := 1) (n := 1) rfl (okX2_lowMass l) rcX2_lowMass (mw 461 (by decide +kernel) rfl) (mw 462 (by decide +kernel) rfl) (mw 463 (by decide +kernel) rfl) (mw 3 (by decide +kernel) rfl) (mw 464 (by decide +kernel) rfl) rfl (by decide) ⟨by decide, by decide⟩ (ce_S (okX1_down l) (mw 378 (by decide +kernel) rfl) (mw 256 (by decide +kernel) rfl) (mw 5 (by decide +kernel) rfl) (mw 257 (by decide +kernel) rfl) (by decide) ⟨by decide, by decide⟩ (ce_S (okX1_over l) (mw 481 (by decide +kernel) rfl) (mw 294 (by decide +kernel) rfl) (mw 5 (by decide +kernel) rfl) (mw 295 (by decide +kernel) rfl) (by decide) ⟨by decide, by decide⟩ (ce_S (okX1_oneIfMore l) (mw 487 (by decide +kernel) rfl) (mw 488 (by decide +kernel) rfl) (mw 5 (by decide +kernel) rfl) (mw 489 (by decide +kernel) rfl) (by decide) ⟨by decide, by decide⟩ (ce_0)))))))
abbrev cutX3_highOdds : List (Nat × List Nat) := []
set_option maxRecDepth 20000 in
set_option maxHeartbeats 4000000 in
theorem lbX3_highOdds_0 {G : Nat → LV → List Value → aS → Prop} {post : Option Value → aS → Prop} (hG : ∀ n b pc lv st σ, seg (0, fun _ => 0) pgX3_highOdds ceX3_highOdds cutX3_highOdds G (fun v σ => rFit (some .long) v ∧ post v σ) n b pc lv st σ → G pc lv st σ) (c : CS) (M : aS)  (hb : bX3_highOdds_0 c  (fun x X => rFit (some .long) (some (.long x)) ∧ post (some (.long x)) (wC X ++ M)) ) : G 0 [(0, .ref 0)] [] (wC c ++ M) := by
  unfold bX3_highOdds_0 at hb
  refine hG 400 false 0 _ _ _ ?_
  refine Exists.intro c (Exists.intro M ((And.intro rfl (mnX2_highMass ?_ hb))))
  intro r1 X1 hb
  refine Exists.intro X1 (Exists.intro M ((And.intro rfl (mnX2_highMass ?_ hb))))
  intro r2 X2 hb
  refine Exists.intro X2 (Exists.intro M ((And.intro rfl (mnX2_lowMass ?_ hb))))
  intro r3 X3 hb
  exact hb
theorem rcX3_highOdds : ∀ as σ kk, tX3_highOdds as σ kk → ∃ a r fs, as = .ref a :: r ∧ σ[a]? = some (.inr (2, fs)) := by
  intro as σ kk h
  unfold tX3_highOdds at h; split at h
  · obtain ⟨c, M, rfl, -⟩ := h
    exact ⟨_, _, _, rfl, rfl⟩
  · exact h.elim
set_option maxRecDepth 20000 in
theorem okX3_highOdds (l : Launch) : OK l yX3_highOdds cX3_highOdds 5 (some .long) 5 tX3_highOdds := by
  intro D τ ρ A as σ post h
  unfold tX3_highOdds at h; split at h
  · obtain ⟨c, M, rfl, hw⟩ := h
    refine met_of (P := pgX3_highOdds) (CE := ceX3_highOdds) (cut := cutX3_highOdds) (by decide) kkX3_highOdds (coX3_highOdds l) (Nat.le_of_ble_eq_true rfl) ?_
    intro G hG
    unfold wX3_highOdds at hw
    refine lbX3_highOdds_0 hG c M  (mbX3_highOdds_0 ?_  hw)
    · exact fun _ _ h => ⟨trivial, h⟩
  · exact h.elim
def bX3_draw_0 (c : CS) (a : Int64) (b : Int64) (kr : Int32 → CS → Prop)  : Prop :=
  (if (fX1_isFinite a) = 0 then
    kr (-2 : Int32) c
  else
    (if (fX1_isFinite b) = 0 then
      kr (-2 : Int32) c
    else
      (if (fX1_isBelow a b) = 0 then
        kr (-2 : Int32) c
      else
        (if (c.1 0) < (3 : Int32) then
          (vp_in ((2 : Int32) * (c.1 0)) 6 ∧ (vp_in (((2 : Int32) * ((setL c 1 (vp_updL (c.2.2 1) ((2 : Int32) * (c.1 0)).toNatClampNeg a)).1 0)) + (1 : Int32)) 6 ∧ (wX3_forgetRoles (setI (setL (setL c 1 (vp_updL (c.2.2 1) ((2 : Int32) * (c.1 0)).toNatClampNeg a)) 1 (vp_updL ((setL c 1 (vp_updL (c.2.2 1) ((2 : Int32) * (c.1 0)).toNatClampNeg a)).2.2 1) (((2 : Int32) * ((setL c 1 (vp_updL (c.2.2 1) ((2 : Int32) * (c.1 0)).toNatClampNeg a)).1 0)) + (1 : Int32)).toNatClampNeg b)) 0 (((setL (setL c 1 (vp_updL (c.2.2 1) ((2 : Int32) * (c.1 0)).toNatClampNeg a)) 1 (vp_updL ((setL c 1 (vp_updL (c.2.2 1) ((2 : Int32) * (c.1 0)).toNatClampNeg a)).2.2 1) (((2 : Int32) * ((setL c 1 (vp_updL (c.2.2 1) ((2 : Int32) * (c.1 0)).toNatClampNeg a)).1 0)) + (1 : Int32)).toNatClampNeg b)).1 0) + (1 : Int32)))  (fun  X1 => kr (((gX2_end X1 ).1 0) - (1 : Int32)) (gX2_end X1 )))))
        else
          kr (-4 : Int32) c))))
set_option maxRecDepth 20000 in
theorem mbX3_draw_0 {c : CS} {a : Int64} {b : Int64} {kr kq : Int32 → CS → Prop}  (hr : ∀ x X, kr x X → kq x X)  (h : bX3_draw_0 c a b kr ) : bX3_draw_0 c a b kq  := by
  unfold bX3_draw_0 at h ⊢
  by_cases hc : (fX1_isFinite a) = 0
  · rw [if_pos hc] at h ⊢
    exact hr _ _ h
  · rw [if_neg hc] at h ⊢
    by_cases hc : (fX1_isFinite b) = 0
    · rw [if_pos hc] at h ⊢
      exact hr _ _ h
    · rw [if_neg hc] at h ⊢
      by_cases hc : (fX1_isBelow a b) = 0
      · rw [if_pos hc] at h ⊢
        exact hr _ _ h
      · rw [if_neg hc] at h ⊢
        by_cases hc : (c.1 0) < (3 : Int32)
        · rw [if_pos hc] at h ⊢
          obtain ⟨hi, h⟩ := h
          refine And.intro hi ?_
          obtain ⟨hi, h⟩ := h
          refine And.intro hi ?_
          refine mnX3_forgetRoles ?_ h
          intro  X1 h
          exact hr _ _ h
        · rw [if_neg hc] at h ⊢
          exact hr _ _ h
def wX3_draw (c : CS) (a : Int64) (b : Int64) (kr : Int32 → CS → Prop) : Prop := bX3_draw_0 c a b kr 
theorem mnX3_draw {c : CS} {a : Int64} {b : Int64} {kr kq : Int32 → CS → Prop} (hr : ∀ x X, kr x X → kq x X) (h : wX3_draw c a b kr) : wX3_draw c a b kq := mbX3_draw_0 hr  h
def tX3_draw : Tr := fun as σ k => match as with
  | [.ref 0, .long a, .long b] => ∃ (c : CS) (M : aS), σ = wC c ++ M ∧ wX3_draw c a b (fun x X => k (some (.int x)) (wC X ++ M))
  | _ => False
def ceX3_draw : List (Nat × Nat × Tr) := (2 * 38, 1, tX1_isFinite) :: (2 * 44, 2, tX1_isBelow) :: (2 * 48 + 1, 0 + 1, tX3_forgetRoles) :: (2 * 51 + 1, 0 + 1, tX2_end) :: []
theorem coX3_draw (l : Launch) : CEok l yX3_draw.cls 2 ceX3_draw := ce_S (okX1_isFinite l) (mw 128 (by decide +kernel) rfl) (mw 129 (by decide +kernel) rfl) (mw 5 (by decide +kernel) rfl) (mw 130 (by decide +kernel) rfl) (by decide) ⟨by decide, by decide⟩ (ce_S (okX1_isBelow l) (mw 133 (by decide +kernel) rfl) (mw 134 (by decide +kernel) rfl) (mw 5 (by decide +kernel) rfl) (mw 135 (by decide +kernel) rfl) (by decide) ⟨by decide, by decide⟩ (ce_V (ci := 2) (n := 0) rfl (okX3_forgetRoles l) rcX3_forgetRoles (mw 143 (by decide +kernel) rfl) (mw 145 (by decide +kernel) rfl) (ms 0 (by decide +kernel) rfl) (mw 1 (by decide +kernel) rfl) (mw 146 (by decide +kernel) rfl) rfl (by decide) ⟨by decide, by decide⟩ (ce_V (ci := 1) (n := 0) rfl (okX2_end l) rcX2_end (mw 147 (by decide +kernel) rfl) (mw 148 (by decide +kernel) rfl) (mw 149 (by decide +kernel) rfl) (mw 3 (by decide +kernel) rfl) (mw 150 (by decide +kernel) rfl) rfl (by decide) ⟨by decide, by decide⟩ (ce_0))))
abbrev cutX3_draw : List (Nat × List Nat) := []
set_option maxRecDepth 20000 in
set_option maxHeartbeats 4000000 in
theorem lbX3_draw_0 {G : Nat → LV → List Value → aS → Prop} {post : Option Value → aS → Prop} (hG : ∀ n b pc lv st σ, seg (0, fun _ => 0) pgX3_draw ceX3_draw cutX3_draw G (fun v σ => rFit (some .int) v ∧ post v σ) n b pc lv st σ → G pc lv st σ) (c : CS) (M : aS) (a : Int64) (b : Int64) (hb : bX3_draw_0 c a b (fun x X => rFit (some .int) (some (.int x)) ∧ post (some (.int x)) (wC X ++ M)) ) : G 0 [(0, .ref 0), (1, .long a), (3, .long b)] [] (wC c ++ M) := by
  unfold bX3_draw_0 at hb
  refine hG 400 false 0 _ _ _ ?_
  refine And.intro (fun (h : (fX1_isFinite a) = 0) => ?_) (fun (h : ¬ (fX1_isFinite a) = 0) => ?_)
  · rw [if_pos h] at hb
    exact hb
  · rw [if_neg h] at hb
    refine And.intro (fun (h : (fX1_isFinite b) = 0) => ?_) (fun (h : ¬ (fX1_isFinite b) = 0) => ?_)
    · rw [if_pos h] at hb
      exact hb
    · rw [if_neg h] at hb
      refine And.intro (fun (h : ¬ (fX1_isBelow a b) = 0) => ?_) (fun hq => have h : (fX1_isBelow a b) = 0 := Classical.not_not.mp hq; ?_)
      · rw [if_neg h] at hb
        refine And.intro (fun (h : (c.1 0) < (3 : Int32)) => ?_) (fun (h : ¬ (c.1 0) < (3 : Int32)) => ?_)
        · rw [if_pos h] at hb
          obtain ⟨hi, hb⟩ := hb
          refine And.intro hi ?_
          obtain ⟨hi, hb⟩ := hb
          refine And.intro hi ?_
          refine Exists.intro (setI (setL (setL c 1 (vp_updL (c.2.2 1) ((2 : Int32) * (c.1 0)).toNatClampNeg a)) 1 (vp_updL ((setL c 1 (vp_updL (c.2.2 1) ((2 : Int32) * (c.1 0)).toNatClampNeg a)).2.2 1) (((2 : Int32) * ((setL c 1 (vp_updL (c.2.2 1) ((2 : Int32) * (c.1 0)).toNatClampNeg a)).1 0)) + (1 : Int32)).toNatClampNeg b)) 0 (((setL (setL c 1 (vp_updL (c.2.2 1) ((2 : Int32) * (c.1 0)).toNatClampNeg a)) 1 (vp_updL ((setL c 1 (vp_updL (c.2.2 1) ((2 : Int32) * (c.1 0)).toNatClampNeg a)).2.2 1) (((2 : Int32) * ((setL c 1 (vp_updL (c.2.2 1) ((2 : Int32) * (c.1 0)).toNatClampNeg a)).1 0)) + (1 : Int32)).toNatClampNeg b)).1 0) + (1 : Int32))) (Exists.intro M ((And.intro rfl (mnX3_forgetRoles ?_ hb))))
          intro  X1 hb
          refine Exists.intro X1 (Exists.intro M ((And.intro rfl (?_))))
          exact hb
        · rw [if_neg h] at hb
          exact hb
      · rw [if_pos h] at hb
        exact hb
theorem rcX3_draw : ∀ as σ kk, tX3_draw as σ kk → ∃ a r fs, as = .ref a :: r ∧ σ[a]? = some (.inr (2, fs)) := by
  intro as σ kk h
  unfold tX3_draw at h; split at h
  · obtain ⟨c, M, rfl, -⟩ := h
    exact ⟨_, _, _, rfl, rfl⟩
  · exact h.elim
set_option maxRecDepth 20000 in
theorem okX3_draw (l : Launch) : OK l yX3_draw cX3_draw 5 (some .int) 2 tX3_draw := by
  intro D τ ρ A as σ post h
  unfold tX3_draw at h; split at h
  · rename_i a b; obtain ⟨c, M, rfl, hw⟩ := h
    refine met_of (P := pgX3_draw) (CE := ceX3_draw) (cut := cutX3_draw) (by decide) kkX3_draw (coX3_draw l) (Nat.le_of_ble_eq_true rfl) ?_
    intro G hG
    unfold wX3_draw at hw
    refine lbX3_draw_0 hG c M a b (mbX3_draw_0 ?_  hw)
    · exact fun _ _ h => ⟨trivial, h⟩
  · exact h.elim
def bX3_node_0 (c : CS) (a : Int32) (b : Int32) (d : Int32) (e : Int64) (kr : Int32 → CS → Prop)  : Prop :=
  (if (fX0_isKind a) = 0 then
    kr (-2 : Int32) c
  else
    (if (vX0_areParts c a b d (c.1 0)) = 0 then
      kr (-1 : Int32) c
    else
      (if (c.1 2) < (32 : Int32) then
        (vp_in (c.1 2) 32 ∧ kr (vX0_add c a b d e) (gX0_add c a b d e))
      else
        kr (-4 : Int32) c)))
set_option maxRecDepth 20000 in
theorem mbX3_node_0 {c : CS} {a : Int32} {b : Int32} {d : Int32} {e : Int64} {kr kq : Int32 → CS → Prop}  (hr : ∀ x X, kr x X → kq x X)  (h : bX3_node_0 c a b d e kr ) : bX3_node_0 c a b d e kq  := by
  unfold bX3_node_0 at h ⊢
  by_cases hc : (fX0_isKind a) = 0
  · rw [if_pos hc] at h ⊢
    exact hr _ _ h
  · rw [if_neg hc] at h ⊢
    by_cases hc : (vX0_areParts c a b d (c.1 0)) = 0
    · rw [if_pos hc] at h ⊢
      exact hr _ _ h
    · rw [if_neg hc] at h ⊢
      by_cases hc : (c.1 2) < (32 : Int32)
      · rw [if_pos hc] at h ⊢
        obtain ⟨hi, h⟩ := h
        refine And.intro hi ?_
        exact hr _ _ h
      · rw [if_neg hc] at h ⊢
        exact hr _ _ h
def wX3_node (c : CS) (a : Int32) (b : Int32) (d : Int32) (e : Int64) (kr : Int32 → CS → Prop) : Prop := bX3_node_0 c a b d e kr 
theorem mnX3_node {c : CS} {a : Int32} {b : Int32} {d : Int32} {e : Int64} {kr kq : Int32 → CS → Prop} (hr : ∀ x X, kr x X → kq x X) (h : wX3_node c a b d e kr) : wX3_node c a b d e kq := mbX3_node_0 hr  h
def tX3_node : Tr := fun as σ k => match as with
  | [.ref 0, .int a, .int b, .int d, .long e] => ∃ (c : CS) (M : aS), σ = wC c ++ M ∧ wX3_node c a b d e (fun x X => k (some (.int x)) (wC X ++ M))
  | _ => False
def ceX3_node : List (Nat × Nat × Tr) := (2 * 54, 1, tX0_isKind) :: (2 * 58 + 1, 4 + 1, tX0_areParts) :: (2 * 65 + 1, 4 + 1, tX0_add) :: []
theorem coX3_node (l : Launch) : CEok l yX3_node.cls 3 ceX3_node := ce_S (okX0_isKind l) (mw 155 (by decide +kernel) rfl) (mw 156 (by decide +kernel) rfl) (mw 2 (by decide +kernel) rfl) (mw 157 (by decide +kernel) rfl) (by decide) ⟨by decide, by decide⟩ (ce_V (ci := 0) (n := 4) rfl (okX0_areParts l) rcX0_areParts (mw 158 (by decide +kernel) rfl) (mw 159 (by decide +kernel) rfl) (mw 160 (by decide +kernel) rfl) (mw 2 (by decide +kernel) rfl) (mw 161 (by decide +kernel) rfl) rfl (by decide) ⟨by decide, by decide⟩ (ce_V (ci := 0) (n := 4) rfl (okX0_add l) rcX0_add (mw 172 (by decide +kernel) rfl) (mw 173 (by decide +kernel) rfl) (mw 174 (by decide +kernel) rfl) (mw 2 (by decide +kernel) rfl) (mw 175 (by decide +kernel) rfl) rfl (by decide) ⟨by decide, by decide⟩ (ce_0)))
abbrev cutX3_node : List (Nat × List Nat) := []
set_option maxRecDepth 20000 in
set_option maxHeartbeats 4000000 in
theorem lbX3_node_0 {G : Nat → LV → List Value → aS → Prop} {post : Option Value → aS → Prop} (hG : ∀ n b pc lv st σ, seg (0, fun _ => 0) pgX3_node ceX3_node cutX3_node G (fun v σ => rFit (some .int) v ∧ post v σ) n b pc lv st σ → G pc lv st σ) (c : CS) (M : aS) (a : Int32) (b : Int32) (d : Int32) (e : Int64) (hb : bX3_node_0 c a b d e (fun x X => rFit (some .int) (some (.int x)) ∧ post (some (.int x)) (wC X ++ M)) ) : G 0 [(0, .ref 0), (1, .int a), (2, .int b), (3, .int d), (4, .long e)] [] (wC c ++ M) := by
  unfold bX3_node_0 at hb
  refine hG 400 false 0 _ _ _ ?_
  refine And.intro (fun (h : ¬ (fX0_isKind a) = 0) => ?_) (fun hq => have h : (fX0_isKind a) = 0 := Classical.not_not.mp hq; ?_)
  · rw [if_neg h] at hb
    refine Exists.intro c (Exists.intro M ((And.intro rfl (?_))))
    refine And.intro (fun (h : ¬ (vX0_areParts c a b d (c.1 0)) = 0) => ?_) (fun hq => have h : (vX0_areParts c a b d (c.1 0)) = 0 := Classical.not_not.mp hq; ?_)
    · rw [if_neg h] at hb
      refine And.intro (fun (h : (c.1 2) < (32 : Int32)) => ?_) (fun (h : ¬ (c.1 2) < (32 : Int32)) => ?_)
      · rw [if_pos h] at hb
        obtain ⟨hi0, hb⟩ := hb
        refine Exists.intro c (Exists.intro M ((And.intro rfl (And.intro hi0 (?_)))))
        exact hb
      · rw [if_neg h] at hb
        exact hb
    · rw [if_pos h] at hb
      exact hb
  · rw [if_pos h] at hb
    exact hb
theorem rcX3_node : ∀ as σ kk, tX3_node as σ kk → ∃ a r fs, as = .ref a :: r ∧ σ[a]? = some (.inr (2, fs)) := by
  intro as σ kk h
  unfold tX3_node at h; split at h
  · obtain ⟨c, M, rfl, -⟩ := h
    exact ⟨_, _, _, rfl, rfl⟩
  · exact h.elim
set_option maxRecDepth 20000 in
theorem okX3_node (l : Launch) : OK l yX3_node cX3_node 6 (some .int) 3 tX3_node := by
  intro D τ ρ A as σ post h
  unfold tX3_node at h; split at h
  · rename_i a b d e; obtain ⟨c, M, rfl, hw⟩ := h
    refine met_of (P := pgX3_node) (CE := ceX3_node) (cut := cutX3_node) (by decide) kkX3_node (coX3_node l) (Nat.le_of_ble_eq_true rfl) ?_
    intro G hG
    unfold wX3_node at hw
    refine lbX3_node_0 hG c M a b d e (mbX3_node_0 ?_  hw)
    · exact fun _ _ h => ⟨trivial, h⟩
  · exact h.elim
def bX3_role_0 (c : CS) (a : Int32) (b : Int32) (kr : Int32 → CS → Prop)  : Prop :=
  (if a < 0 then
    kr (-2 : Int32) c
  else
    (if ((2 : Int32) + (c.1 0)) ≤ a then
      kr (-2 : Int32) c
    else
      (if a < (5 : Int32) then
        (if b = (-5 : Int32) then
          (vp_in a 5 ∧ (vp_in a 5 ∧ kr (c.2.1 2 a.toNatClampNeg) (gX2_end (setA c 2 (upd (c.2.1 2) a.toNatClampNeg b)) )))
        else
          (if (vX0_has c b) = 0 then
            kr (-1 : Int32) c
          else
            (vp_in a 5 ∧ (vp_in a 5 ∧ kr (c.2.1 2 a.toNatClampNeg) (gX2_end (setA c 2 (upd (c.2.1 2) a.toNatClampNeg b)) )))))
      else
        kr (-2 : Int32) c)))
set_option maxRecDepth 20000 in
theorem mbX3_role_0 {c : CS} {a : Int32} {b : Int32} {kr kq : Int32 → CS → Prop}  (hr : ∀ x X, kr x X → kq x X)  (h : bX3_role_0 c a b kr ) : bX3_role_0 c a b kq  := by
  unfold bX3_role_0 at h ⊢
  by_cases hc : a < 0
  · rw [if_pos hc] at h ⊢
    exact hr _ _ h
  · rw [if_neg hc] at h ⊢
    by_cases hc : ((2 : Int32) + (c.1 0)) ≤ a
    · rw [if_pos hc] at h ⊢
      exact hr _ _ h
    · rw [if_neg hc] at h ⊢
      by_cases hc : a < (5 : Int32)
      · rw [if_pos hc] at h ⊢
        by_cases hc : b = (-5 : Int32)
        · rw [if_pos hc] at h ⊢
          obtain ⟨hi, h⟩ := h
          refine And.intro hi ?_
          obtain ⟨hi, h⟩ := h
          refine And.intro hi ?_
          exact hr _ _ h
        · rw [if_neg hc] at h ⊢
          by_cases hc : (vX0_has c b) = 0
          · rw [if_pos hc] at h ⊢
            exact hr _ _ h
          · rw [if_neg hc] at h ⊢
            obtain ⟨hi, h⟩ := h
            refine And.intro hi ?_
            obtain ⟨hi, h⟩ := h
            refine And.intro hi ?_
            exact hr _ _ h
      · rw [if_neg hc] at h ⊢
        exact hr _ _ h
def wX3_role (c : CS) (a : Int32) (b : Int32) (kr : Int32 → CS → Prop) : Prop := bX3_role_0 c a b kr 
theorem mnX3_role {c : CS} {a : Int32} {b : Int32} {kr kq : Int32 → CS → Prop} (hr : ∀ x X, kr x X → kq x X) (h : wX3_role c a b kr) : wX3_role c a b kq := mbX3_role_0 hr  h
def tX3_role : Tr := fun as σ k => match as with
  | [.ref 0, .int a, .int b] => ∃ (c : CS) (M : aS), σ = wC c ++ M ∧ wX3_role c a b (fun x X => k (some (.int x)) (wC X ++ M))
  | _ => False
def ceX3_role : List (Nat × Nat × Tr) := (2 * 51 + 1, 0 + 1, tX2_end) :: (2 * 69 + 1, 1 + 1, tX0_has) :: []
theorem coX3_role (l : Launch) : CEok l yX3_role.cls 1 ceX3_role := ce_V (ci := 1) (n := 0) rfl (okX2_end l) rcX2_end (mw 147 (by decide +kernel) rfl) (mw 148 (by decide +kernel) rfl) (mw 149 (by decide +kernel) rfl) (mw 3 (by decide +kernel) rfl) (mw 150 (by decide +kernel) rfl) rfl (by decide) ⟨by decide, by decide⟩ (ce_V (ci := 0) (n := 1) rfl (okX0_has l) rcX0_has (mw 184 (by decide +kernel) rfl) (mw 166 (by decide +kernel) rfl) (mw 167 (by decide +kernel) rfl) (mw 2 (by decide +kernel) rfl) (mw 168 (by decide +kernel) rfl) rfl (by decide) ⟨by decide, by decide⟩ (ce_0))
abbrev cutX3_role : List (Nat × List Nat) := []
set_option maxRecDepth 20000 in
set_option maxHeartbeats 4000000 in
theorem lbX3_role_0 {G : Nat → LV → List Value → aS → Prop} {post : Option Value → aS → Prop} (hG : ∀ n b pc lv st σ, seg (0, fun _ => 0) pgX3_role ceX3_role cutX3_role G (fun v σ => rFit (some .int) v ∧ post v σ) n b pc lv st σ → G pc lv st σ) (c : CS) (M : aS) (a : Int32) (b : Int32) (hb : bX3_role_0 c a b (fun x X => rFit (some .int) (some (.int x)) ∧ post (some (.int x)) (wC X ++ M)) ) : G 0 [(0, .ref 0), (1, .int a), (2, .int b)] [] (wC c ++ M) := by
  unfold bX3_role_0 at hb
  refine hG 400 false 0 _ _ _ ?_
  refine And.intro (fun (h : a < 0) => ?_) (fun (h : ¬ a < 0) => ?_)
  · rw [if_pos h] at hb
    exact hb
  · rw [if_neg h] at hb
    refine And.intro (fun (h : ((2 : Int32) + (c.1 0)) ≤ a) => ?_) (fun (h : ¬ ((2 : Int32) + (c.1 0)) ≤ a) => ?_)
    · rw [if_pos h] at hb
      exact hb
    · rw [if_neg h] at hb
      refine And.intro (fun (h : a < (5 : Int32)) => ?_) (fun (h : ¬ a < (5 : Int32)) => ?_)
      · rw [if_pos h] at hb
        refine And.intro (fun (h : b = (-5 : Int32)) => ?_) (fun (h : ¬ b = (-5 : Int32)) => ?_)
        · rw [if_pos h] at hb
          obtain ⟨hi, hb⟩ := hb
          refine And.intro hi ?_
          obtain ⟨hi, hb⟩ := hb
          refine And.intro hi ?_
          refine Exists.intro (setA c 2 (upd (c.2.1 2) a.toNatClampNeg b)) (Exists.intro M ((And.intro rfl (?_))))
          exact hb
        · rw [if_neg h] at hb
          refine Exists.intro c (Exists.intro M ((And.intro rfl (?_))))
          refine And.intro (fun (h : ¬ (vX0_has c b) = 0) => ?_) (fun hq => have h : (vX0_has c b) = 0 := Classical.not_not.mp hq; ?_)
          · rw [if_neg h] at hb
            obtain ⟨hi, hb⟩ := hb
            refine And.intro hi ?_
            obtain ⟨hi, hb⟩ := hb
            refine And.intro hi ?_
            refine Exists.intro (setA c 2 (upd (c.2.1 2) a.toNatClampNeg b)) (Exists.intro M ((And.intro rfl (?_))))
            exact hb
          · rw [if_pos h] at hb
            exact hb
      · rw [if_neg h] at hb
        exact hb
theorem rcX3_role : ∀ as σ kk, tX3_role as σ kk → ∃ a r fs, as = .ref a :: r ∧ σ[a]? = some (.inr (2, fs)) := by
  intro as σ kk h
  unfold tX3_role at h; split at h
  · obtain ⟨c, M, rfl, -⟩ := h
    exact ⟨_, _, _, rfl, rfl⟩
  · exact h.elim
set_option maxRecDepth 20000 in
theorem okX3_role (l : Launch) : OK l yX3_role cX3_role 4 (some .int) 1 tX3_role := by
  intro D τ ρ A as σ post h
  unfold tX3_role at h; split at h
  · rename_i a b; obtain ⟨c, M, rfl, hw⟩ := h
    refine met_of (P := pgX3_role) (CE := ceX3_role) (cut := cutX3_role) (by decide) kkX3_role (coX3_role l) (Nat.le_of_ble_eq_true rfl) ?_
    intro G hG
    unfold wX3_role at hw
    refine lbX3_role_0 hG c M a b (mbX3_role_0 ?_  hw)
    · exact fun _ _ h => ⟨trivial, h⟩
  · exact h.elim
def bX3_begin_0 (c : CS)  (kr : Int32 → CS → Prop) (kc14 : Int32 → Int32 → CS → Prop) : Prop :=
  (if (c.1 0) = 0 then
    kr (-3 : Int32) c
  else
    kc14 (0 : Int32) (0 : Int32) c)
def bX3_begin_14 (c : CS) (l1 : Int32) (l2 : Int32) (kr : Int32 → CS → Prop) (kc14 : Int32 → Int32 → CS → Prop) : Prop :=
  (if (5 : Int32) ≤ l2 then
    (wX0_withParts c l1 (fun r1 X1 => (wX2_start (setI X1 1 r1) ((setI X1 1 r1).1 0) (fun  X2 => (wX3_settle X2 (0 : Int32) (fun  X3 => kr (X3.1 0) X3))))))
  else
    (vp_in l2 5 ∧ (if (c.2.1 2 l2.toNatClampNeg) = (-5 : Int32) then
      kc14 l1 (l2 + (1 : Int32)) c
    else
      (vp_in l2 5 ∧ kc14 (l1 ||| ((1 : Int32) <<< ((c.2.1 2 l2.toNatClampNeg) &&& 31))) (l2 + (1 : Int32)) c))))
set_option maxRecDepth 20000 in
theorem mbX3_begin_0 {c : CS}  {kr kq : Int32 → CS → Prop} {kc14 kd14 : Int32 → Int32 → CS → Prop} (hr : ∀ x X, kr x X → kq x X) (hc14 : ∀ z1 z2 X, kc14 z1 z2 X → kd14 z1 z2 X) (h : bX3_begin_0 c  kr kc14) : bX3_begin_0 c  kq kd14 := by
  unfold bX3_begin_0 at h ⊢
  by_cases hc : (c.1 0) = 0
  · rw [if_pos hc] at h ⊢
    exact hr _ _ h
  · rw [if_neg hc] at h ⊢
    exact hc14 _ _ _ h
set_option maxRecDepth 20000 in
theorem mbX3_begin_14 {c : CS} {l1 : Int32} {l2 : Int32} {kr kq : Int32 → CS → Prop} {kc14 kd14 : Int32 → Int32 → CS → Prop} (hr : ∀ x X, kr x X → kq x X) (hc14 : ∀ z1 z2 X, kc14 z1 z2 X → kd14 z1 z2 X) (h : bX3_begin_14 c l1 l2 kr kc14) : bX3_begin_14 c l1 l2 kq kd14 := by
  unfold bX3_begin_14 at h ⊢
  by_cases hc : (5 : Int32) ≤ l2
  · rw [if_pos hc] at h ⊢
    refine mnX0_withParts ?_ h
    intro r1 X1 h
    refine mnX2_start ?_ h
    intro  X2 h
    refine mnX3_settle ?_ h
    intro  X3 h
    exact hr _ _ h
  · rw [if_neg hc] at h ⊢
    obtain ⟨hi, h⟩ := h
    refine And.intro hi ?_
    by_cases hc : (c.2.1 2 l2.toNatClampNeg) = (-5 : Int32)
    · rw [if_pos hc] at h ⊢
      exact hc14 _ _ _ h
    · rw [if_neg hc] at h ⊢
      obtain ⟨hi, h⟩ := h
      refine And.intro hi ?_
      exact hc14 _ _ _ h
def itX3_begin_14 (kr : Int32 → CS → Prop) : Nat → Int32 → Int32 → CS → Prop
  | 0, _, _, _ => False
  | n + 1, l1, l2, c => bX3_begin_14 c l1 l2 kr (fun z1 z2 X => itX3_begin_14 kr n z1 z2 X)
theorem miX3_begin_14 {kr kq : Int32 → CS → Prop} (hr : ∀ x X, kr x X → kq x X) : ∀ (n : Nat) (z1 : Int32) (z2 : Int32) (X : CS), itX3_begin_14 kr n z1 z2 X → itX3_begin_14 kq n z1 z2 X
  | 0, _, _, _, h => h
  | n + 1, _, _, _, h => mbX3_begin_14 hr (fun _ _ _ h => miX3_begin_14 hr n _ _ _ h) h
def wX3_begin (c : CS)  (kr : Int32 → CS → Prop) : Prop := bX3_begin_0 c  kr (fun z1 z2 X => ∃ N, itX3_begin_14 kr N z1 z2 X)
theorem mnX3_begin {c : CS}  {kr kq : Int32 → CS → Prop} (hr : ∀ x X, kr x X → kq x X) (h : wX3_begin c  kr) : wX3_begin c  kq := mbX3_begin_0 hr (fun _ _ _ h => h.elim fun N h => ⟨N, miX3_begin_14 hr N _ _ _ h⟩) h
def tX3_begin : Tr := fun as σ k => match as with
  | [.ref 0] => ∃ (c : CS) (M : aS), σ = wC c ++ M ∧ wX3_begin c  (fun x X => k (some (.int x)) (wC X ++ M))
  | _ => False
def ceX3_begin : List (Nat × Nat × Tr) := (2 * 72 + 1, 1 + 1, tX0_withParts) :: (2 * 76 + 1, 2 + 1, tX2_start) :: (2 * 80 + 1, 1 + 1, tX3_settle) :: []
theorem coX3_begin (l : Launch) : CEok l yX3_begin.cls 8 ceX3_begin := ce_V (ci := 0) (n := 1) rfl (okX0_withParts l) rcX0_withParts (mw 189 (by decide +kernel) rfl) (mw 190 (by decide +kernel) rfl) (mw 191 (by decide +kernel) rfl) (mw 2 (by decide +kernel) rfl) (mw 192 (by decide +kernel) rfl) rfl (by decide) ⟨by decide, by decide⟩ (ce_V (ci := 1) (n := 2) rfl (okX2_start l) rcX2_start (mw 193 (by decide +kernel) rfl) (mw 194 (by decide +kernel) rfl) (mw 195 (by decide +kernel) rfl) (mw 3 (by decide +kernel) rfl) (mw 196 (by decide +kernel) rfl) rfl (by decide) ⟨by decide, by decide⟩ (ce_V (ci := 2) (n := 1) rfl (okX3_settle l) rcX3_settle (mw 197 (by decide +kernel) rfl) (mw 199 (by decide +kernel) rfl) (ms 1 (by decide +kernel) rfl) (mw 1 (by decide +kernel) rfl) (mw 200 (by decide +kernel) rfl) rfl (by decide) ⟨by decide, by decide⟩ (ce_0)))
abbrev cutX3_begin : List (Nat × List Nat) := [(14, [0, 1, 2])]
set_option maxRecDepth 20000 in
set_option maxHeartbeats 4000000 in
theorem lbX3_begin_0 {G : Nat → LV → List Value → aS → Prop} {post : Option Value → aS → Prop} (hG : ∀ n b pc lv st σ, seg (0, fun _ => 0) pgX3_begin ceX3_begin cutX3_begin G (fun v σ => rFit (some .int) v ∧ post v σ) n b pc lv st σ → G pc lv st σ) (c : CS) (M : aS)  (hb : bX3_begin_0 c  (fun x X => rFit (some .int) (some (.int x)) ∧ post (some (.int x)) (wC X ++ M)) (fun z1 z2 X => G 14 [(0, .ref 0), (1, .int z1), (2, .int z2)] [] (wC X ++ M))) : G 0 [(0, .ref 0)] [] (wC c ++ M) := by
  unfold bX3_begin_0 at hb
  refine hG 400 false 0 _ _ _ ?_
  refine And.intro (fun (h : ¬ (c.1 0) = 0) => ?_) (fun hq => have h : (c.1 0) = 0 := Classical.not_not.mp hq; ?_)
  · rw [if_neg h] at hb
    exact hb
  · rw [if_pos h] at hb
    exact hb
set_option maxRecDepth 20000 in
set_option maxHeartbeats 4000000 in
theorem lbX3_begin_14 {G : Nat → LV → List Value → aS → Prop} {post : Option Value → aS → Prop} (hG : ∀ n b pc lv st σ, seg (0, fun _ => 0) pgX3_begin ceX3_begin cutX3_begin G (fun v σ => rFit (some .int) v ∧ post v σ) n b pc lv st σ → G pc lv st σ) (c : CS) (M : aS) (l1 : Int32) (l2 : Int32) (hb : bX3_begin_14 c l1 l2 (fun x X => rFit (some .int) (some (.int x)) ∧ post (some (.int x)) (wC X ++ M)) (fun z1 z2 X => G 14 [(0, .ref 0), (1, .int z1), (2, .int z2)] [] (wC X ++ M))) : G 14 [(0, .ref 0), (1, .int l1), (2, .int l2)] [] (wC c ++ M) := by
  unfold bX3_begin_14 at hb
  refine hG 400 false 14 _ _ _ ?_
  refine And.intro (fun (h : (5 : Int32) ≤ l2) => ?_) (fun (h : ¬ (5 : Int32) ≤ l2) => ?_)
  · rw [if_pos h] at hb
    refine Exists.intro c (Exists.intro M ((And.intro rfl (mnX0_withParts ?_ hb))))
    intro r1 X1 hb
    refine Exists.intro (setI X1 1 r1) (Exists.intro M ((And.intro rfl (mnX2_start ?_ hb))))
    intro  X2 hb
    refine Exists.intro X2 (Exists.intro M ((And.intro rfl (mnX3_settle ?_ hb))))
    intro  X3 hb
    exact hb
  · rw [if_neg h] at hb
    obtain ⟨hi, hb⟩ := hb
    refine And.intro hi ?_
    refine And.intro (fun (h : (c.2.1 2 l2.toNatClampNeg) = (-5 : Int32)) => ?_) (fun (h : ¬ (c.2.1 2 l2.toNatClampNeg) = (-5 : Int32)) => ?_)
    · rw [if_pos h] at hb
      exact hb
    · rw [if_neg h] at hb
      obtain ⟨hi, hb⟩ := hb
      refine And.intro hi ?_
      exact hb
theorem giX3_begin_14 {G : Nat → LV → List Value → aS → Prop} {post : Option Value → aS → Prop} (hG : ∀ n b pc lv st σ, seg (0, fun _ => 0) pgX3_begin ceX3_begin cutX3_begin G (fun v σ => rFit (some .int) v ∧ post v σ) n b pc lv st σ → G pc lv st σ) (M : aS) : ∀ (n : Nat) (z1 : Int32) (z2 : Int32) (X : CS), itX3_begin_14 (fun x X => rFit (some .int) (some (.int x)) ∧ post (some (.int x)) (wC X ++ M)) n z1 z2 X → G 14 [(0, .ref 0), (1, .int z1), (2, .int z2)] [] (wC X ++ M)
  | 0, _, _, _, h => h.elim
  | n + 1, _, _, _, h => lbX3_begin_14 hG _ M _ _ (mbX3_begin_14 (fun _ _ h => h) (fun _ _ _ h => giX3_begin_14 hG M n _ _ _ h) h)
theorem rcX3_begin : ∀ as σ kk, tX3_begin as σ kk → ∃ a r fs, as = .ref a :: r ∧ σ[a]? = some (.inr (2, fs)) := by
  intro as σ kk h
  unfold tX3_begin at h; split at h
  · obtain ⟨c, M, rfl, -⟩ := h
    exact ⟨_, _, _, rfl, rfl⟩
  · exact h.elim
set_option maxRecDepth 20000 in
theorem okX3_begin (l : Launch) : OK l yX3_begin cX3_begin 3 (some .int) 8 tX3_begin := by
  intro D τ ρ A as σ post h
  unfold tX3_begin at h; split at h
  · obtain ⟨c, M, rfl, hw⟩ := h
    refine met_of (P := pgX3_begin) (CE := ceX3_begin) (cut := cutX3_begin) (by decide) kkX3_begin (coX3_begin l) (Nat.le_of_ble_eq_true rfl) ?_
    intro G hG
    unfold wX3_begin at hw
    refine lbX3_begin_0 hG c M  (mbX3_begin_0 ?_ ?_ hw)
    · exact fun _ _ h => ⟨trivial, h⟩
    · intro _ _ _ ⟨N, h⟩; exact giX3_begin_14 hG M N _ _ _ (miX3_begin_14 (fun _ _ h => ⟨trivial, h⟩) N _ _ _ h)
  · exact h.elim
end
section
def bX3_run_0 (c : CS) (a : Int32) (kr : Int32 → CS → Prop) (kc51 : Int32 → Int32 → Int32 → CS → Prop) : Prop :=
  (if a < 0 then
    kr (-2 : Int32) c
  else
    (if a ≤ (99 : Int32) then
      (if (c.1 3) = 0 then
        kr (-3 : Int32) c
      else
        (if (c.1 3) < (100 : Int32) then
          kc51 a (c.1 3) (0 : Int32) c
        else
          kr (-4 : Int32) c))
    else
      kr (-2 : Int32) c))
def bX3_run_51 (c : CS) (a : Int32) (l2 : Int32) (l3 : Int32) (kr : Int32 → CS → Prop) (kc51 : Int32 → Int32 → Int32 → CS → Prop) : Prop :=
  (if a ≤ l3 then
    kr ((c.1 3) - l2) c
  else
    (if (100 : Int32) ≤ (c.1 3) then
      kr ((c.1 3) - l2) c
    else
      (wX2_heaviest c  (fun r1 X1 => (if r1 = (-5 : Int32) then
        kr ((X1.1 3) - l2) X1
      else
        (wX2_split X1 r1 (fun r2 X2 => (wX3_settle X2 r1 (fun  X3 => (wX3_settle X3 r2 (fun  X4 => kc51 a l2 (l3 + (1 : Int32)) X4)))))))))))
set_option maxRecDepth 20000 in
theorem mbX3_run_0 {c : CS} {a : Int32} {kr kq : Int32 → CS → Prop} {kc51 kd51 : Int32 → Int32 → Int32 → CS → Prop} (hr : ∀ x X, kr x X → kq x X) (hc51 : ∀ z1 z2 z3 X, kc51 z1 z2 z3 X → kd51 z1 z2 z3 X) (h : bX3_run_0 c a kr kc51) : bX3_run_0 c a kq kd51 := by
  unfold bX3_run_0 at h ⊢
  by_cases hc : a < 0
  · rw [if_pos hc] at h ⊢
    exact hr _ _ h
  · rw [if_neg hc] at h ⊢
    by_cases hc : a ≤ (99 : Int32)
    · rw [if_pos hc] at h ⊢
      by_cases hc : (c.1 3) = 0
      · rw [if_pos hc] at h ⊢
        exact hr _ _ h
      · rw [if_neg hc] at h ⊢
        by_cases hc : (c.1 3) < (100 : Int32)
        · rw [if_pos hc] at h ⊢
          exact hc51 _ _ _ _ h
        · rw [if_neg hc] at h ⊢
          exact hr _ _ h
    · rw [if_neg hc] at h ⊢
      exact hr _ _ h
set_option maxRecDepth 20000 in
theorem mbX3_run_51 {c : CS} {a : Int32} {l2 : Int32} {l3 : Int32} {kr kq : Int32 → CS → Prop} {kc51 kd51 : Int32 → Int32 → Int32 → CS → Prop} (hr : ∀ x X, kr x X → kq x X) (hc51 : ∀ z1 z2 z3 X, kc51 z1 z2 z3 X → kd51 z1 z2 z3 X) (h : bX3_run_51 c a l2 l3 kr kc51) : bX3_run_51 c a l2 l3 kq kd51 := by
  unfold bX3_run_51 at h ⊢
  by_cases hc : a ≤ l3
  · rw [if_pos hc] at h ⊢
    exact hr _ _ h
  · rw [if_neg hc] at h ⊢
    by_cases hc : (100 : Int32) ≤ (c.1 3)
    · rw [if_pos hc] at h ⊢
      exact hr _ _ h
    · rw [if_neg hc] at h ⊢
      refine mnX2_heaviest ?_ h
      intro r1 X1 h
      by_cases hc : r1 = (-5 : Int32)
      · rw [if_pos hc] at h ⊢
        exact hr _ _ h
      · rw [if_neg hc] at h ⊢
        refine mnX2_split ?_ h
        intro r2 X2 h
        refine mnX3_settle ?_ h
        intro  X3 h
        refine mnX3_settle ?_ h
        intro  X4 h
        exact hc51 _ _ _ _ h
def itX3_run_51 (kr : Int32 → CS → Prop) : Nat → Int32 → Int32 → Int32 → CS → Prop
  | 0, _, _, _, _ => False
  | n + 1, a, l2, l3, c => bX3_run_51 c a l2 l3 kr (fun z1 z2 z3 X => itX3_run_51 kr n z1 z2 z3 X)
theorem miX3_run_51 {kr kq : Int32 → CS → Prop} (hr : ∀ x X, kr x X → kq x X) : ∀ (n : Nat) (z1 : Int32) (z2 : Int32) (z3 : Int32) (X : CS), itX3_run_51 kr n z1 z2 z3 X → itX3_run_51 kq n z1 z2 z3 X
  | 0, _, _, _, _, h => h
  | n + 1, _, _, _, _, h => mbX3_run_51 hr (fun _ _ _ _ h => miX3_run_51 hr n _ _ _ _ h) h
def wX3_run (c : CS) (a : Int32) (kr : Int32 → CS → Prop) : Prop := bX3_run_0 c a kr (fun z1 z2 z3 X => ∃ N, itX3_run_51 kr N z1 z2 z3 X)
theorem mnX3_run {c : CS} {a : Int32} {kr kq : Int32 → CS → Prop} (hr : ∀ x X, kr x X → kq x X) (h : wX3_run c a kr) : wX3_run c a kq := mbX3_run_0 hr (fun _ _ _ _ h => h.elim fun N h => ⟨N, miX3_run_51 hr N _ _ _ _ h⟩) h
def tX3_run : Tr := fun as σ k => match as with
  | [.ref 0, .int a] => ∃ (c : CS) (M : aS), σ = wC c ++ M ∧ wX3_run c a (fun x X => k (some (.int x)) (wC X ++ M))
  | _ => False
def ceX3_run : List (Nat × Nat × Tr) := (2 * 85 + 1, 0 + 1, tX2_heaviest) :: (2 * 89 + 1, 1 + 1, tX2_split) :: (2 * 80 + 1, 1 + 1, tX3_settle) :: []
theorem coX3_run (l : Launch) : CEok l yX3_run.cls 8 ceX3_run := ce_V (ci := 1) (n := 0) rfl (okX2_heaviest l) rcX2_heaviest (mw 393 (by decide +kernel) rfl) (mw 394 (by decide +kernel) rfl) (mw 395 (by decide +kernel) rfl) (mw 3 (by decide +kernel) rfl) (mw 396 (by decide +kernel) rfl) rfl (by decide) ⟨by decide, by decide⟩ (ce_V (ci := 1) (n := 1) rfl (okX2_split l) rcX2_split (mw 397 (by decide +kernel) rfl) (mw 398 (by decide +kernel) rfl) (mw 399 (by decide +kernel) rfl) (mw 3 (by decide +kernel) rfl) (mw 400 (by decide +kernel) rfl) rfl (by decide) ⟨by decide, by decide⟩ (ce_V (ci := 2) (n := 1) rfl (okX3_settle l) rcX3_settle (mw 197 (by decide +kernel) rfl) (mw 199 (by decide +kernel) rfl) (ms 1 (by decide +kernel) rfl) (mw 1 (by decide +kernel) rfl) (mw 200 (by decide +kernel) rfl) rfl (by decide) ⟨by decide, by decide⟩ (ce_0)))
abbrev cutX3_run : List (Nat × List Nat) := [(51, [0, 1, 2, 3])]
set_option maxRecDepth 20000 in
set_option maxHeartbeats 4000000 in
theorem lbX3_run_0 {G : Nat → LV → List Value → aS → Prop} {post : Option Value → aS → Prop} (hG : ∀ n b pc lv st σ, seg (0, fun _ => 0) pgX3_run ceX3_run cutX3_run G (fun v σ => rFit (some .int) v ∧ post v σ) n b pc lv st σ → G pc lv st σ) (c : CS) (M : aS) (a : Int32) (hb : bX3_run_0 c a (fun x X => rFit (some .int) (some (.int x)) ∧ post (some (.int x)) (wC X ++ M)) (fun z1 z2 z3 X => G 51 [(0, .ref 0), (1, .int z1), (2, .int z2), (3, .int z3)] [] (wC X ++ M))) : G 0 [(0, .ref 0), (1, .int a)] [] (wC c ++ M) := by
  unfold bX3_run_0 at hb
  refine hG 400 false 0 _ _ _ ?_
  refine And.intro (fun (h : a < 0) => ?_) (fun (h : ¬ a < 0) => ?_)
  · rw [if_pos h] at hb
    exact hb
  · rw [if_neg h] at hb
    refine And.intro (fun (h : a ≤ (99 : Int32)) => ?_) (fun (h : ¬ a ≤ (99 : Int32)) => ?_)
    · rw [if_pos h] at hb
      refine And.intro (fun (h : ¬ (c.1 3) = 0) => ?_) (fun hq => have h : (c.1 3) = 0 := Classical.not_not.mp hq; ?_)
      · rw [if_neg h] at hb
        refine And.intro (fun (h : (c.1 3) < (100 : Int32)) => ?_) (fun (h : ¬ (c.1 3) < (100 : Int32)) => ?_)
        · rw [if_pos h] at hb
          exact hb
        · rw [if_neg h] at hb
          exact hb
      · rw [if_pos h] at hb
        exact hb
    · rw [if_neg h] at hb
      exact hb
set_option maxRecDepth 20000 in
set_option maxHeartbeats 4000000 in
theorem lbX3_run_51 {G : Nat → LV → List Value → aS → Prop} {post : Option Value → aS → Prop} (hG : ∀ n b pc lv st σ, seg (0, fun _ => 0) pgX3_run ceX3_run cutX3_run G (fun v σ => rFit (some .int) v ∧ post v σ) n b pc lv st σ → G pc lv st σ) (c : CS) (M : aS) (a : Int32) (l2 : Int32) (l3 : Int32) (hb : bX3_run_51 c a l2 l3 (fun x X => rFit (some .int) (some (.int x)) ∧ post (some (.int x)) (wC X ++ M)) (fun z1 z2 z3 X => G 51 [(0, .ref 0), (1, .int z1), (2, .int z2), (3, .int z3)] [] (wC X ++ M))) : G 51 [(0, .ref 0), (1, .int a), (2, .int l2), (3, .int l3)] [] (wC c ++ M) := by
  unfold bX3_run_51 at hb
  refine hG 400 false 51 _ _ _ ?_
  refine And.intro (fun (h : a ≤ l3) => ?_) (fun (h : ¬ a ≤ l3) => ?_)
  · rw [if_pos h] at hb
    exact hb
  · rw [if_neg h] at hb
    refine And.intro (fun (h : (100 : Int32) ≤ (c.1 3)) => ?_) (fun (h : ¬ (100 : Int32) ≤ (c.1 3)) => ?_)
    · rw [if_pos h] at hb
      exact hb
    · rw [if_neg h] at hb
      refine Exists.intro c (Exists.intro M ((And.intro rfl (mnX2_heaviest ?_ hb))))
      intro r1 X1 hb
      refine And.intro (fun (h : ¬ r1 = (-5 : Int32)) => ?_) (fun hq => have h : r1 = (-5 : Int32) := Classical.not_not.mp hq; ?_)
      · rw [if_neg h] at hb
        refine Exists.intro X1 (Exists.intro M ((And.intro rfl (mnX2_split ?_ hb))))
        intro r2 X2 hb
        refine Exists.intro X2 (Exists.intro M ((And.intro rfl (mnX3_settle ?_ hb))))
        intro  X3 hb
        refine Exists.intro X3 (Exists.intro M ((And.intro rfl (mnX3_settle ?_ hb))))
        intro  X4 hb
        exact hb
      · rw [if_pos h] at hb
        exact hb
theorem giX3_run_51 {G : Nat → LV → List Value → aS → Prop} {post : Option Value → aS → Prop} (hG : ∀ n b pc lv st σ, seg (0, fun _ => 0) pgX3_run ceX3_run cutX3_run G (fun v σ => rFit (some .int) v ∧ post v σ) n b pc lv st σ → G pc lv st σ) (M : aS) : ∀ (n : Nat) (z1 : Int32) (z2 : Int32) (z3 : Int32) (X : CS), itX3_run_51 (fun x X => rFit (some .int) (some (.int x)) ∧ post (some (.int x)) (wC X ++ M)) n z1 z2 z3 X → G 51 [(0, .ref 0), (1, .int z1), (2, .int z2), (3, .int z3)] [] (wC X ++ M)
  | 0, _, _, _, _, h => h.elim
  | n + 1, _, _, _, _, h => lbX3_run_51 hG _ M _ _ _ (mbX3_run_51 (fun _ _ h => h) (fun _ _ _ _ h => giX3_run_51 hG M n _ _ _ _ h) h)
theorem rcX3_run : ∀ as σ kk, tX3_run as σ kk → ∃ a r fs, as = .ref a :: r ∧ σ[a]? = some (.inr (2, fs)) := by
  intro as σ kk h
  unfold tX3_run at h; split at h
  · obtain ⟨c, M, rfl, -⟩ := h
    exact ⟨_, _, _, rfl, rfl⟩
  · exact h.elim
set_option maxRecDepth 20000 in
theorem okX3_run (l : Launch) : OK l yX3_run cX3_run 6 (some .int) 8 tX3_run := by
  intro D τ ρ A as σ post h
  unfold tX3_run at h; split at h
  · rename_i a; obtain ⟨c, M, rfl, hw⟩ := h
    refine met_of (P := pgX3_run) (CE := ceX3_run) (cut := cutX3_run) (by decide) kkX3_run (coX3_run l) (Nat.le_of_ble_eq_true rfl) ?_
    intro G hG
    unfold wX3_run at hw
    refine lbX3_run_0 hG c M a (mbX3_run_0 ?_ ?_ hw)
    · exact fun _ _ h => ⟨trivial, h⟩
    · intro _ _ _ _ ⟨N, h⟩; exact giX3_run_51 hG M N _ _ _ _ (miX3_run_51 (fun _ _ h => ⟨trivial, h⟩) N _ _ _ _ h)
  · exact h.elim
def bX3_boxes_0 (c : CS)  (kr : Int32 → CS → Prop)  : Prop :=
  kr (c.1 3) c
set_option maxRecDepth 20000 in
theorem mbX3_boxes_0 {c : CS}  {kr kq : Int32 → CS → Prop}  (hr : ∀ x X, kr x X → kq x X)  (h : bX3_boxes_0 c  kr ) : bX3_boxes_0 c  kq  := by
  unfold bX3_boxes_0 at h ⊢
  exact hr _ _ h
def wX3_boxes (c : CS)  (kr : Int32 → CS → Prop) : Prop := bX3_boxes_0 c  kr 
theorem mnX3_boxes {c : CS}  {kr kq : Int32 → CS → Prop} (hr : ∀ x X, kr x X → kq x X) (h : wX3_boxes c  kr) : wX3_boxes c  kq := mbX3_boxes_0 hr  h
def tX3_boxes : Tr := fun as σ k => match as with
  | [.ref 0] => ∃ (c : CS) (M : aS), σ = wC c ++ M ∧ wX3_boxes c  (fun x X => k (some (.int x)) (wC X ++ M))
  | _ => False
def ceX3_boxes : List (Nat × Nat × Tr) := []
theorem coX3_boxes (l : Launch) : CEok l yX3_boxes.cls 0 ceX3_boxes := ce_0
abbrev cutX3_boxes : List (Nat × List Nat) := []
set_option maxRecDepth 20000 in
set_option maxHeartbeats 4000000 in
theorem lbX3_boxes_0 {G : Nat → LV → List Value → aS → Prop} {post : Option Value → aS → Prop} (hG : ∀ n b pc lv st σ, seg (0, fun _ => 0) pgX3_boxes ceX3_boxes cutX3_boxes G (fun v σ => rFit (some .int) v ∧ post v σ) n b pc lv st σ → G pc lv st σ) (c : CS) (M : aS)  (hb : bX3_boxes_0 c  (fun x X => rFit (some .int) (some (.int x)) ∧ post (some (.int x)) (wC X ++ M)) ) : G 0 [(0, .ref 0)] [] (wC c ++ M) := by
  unfold bX3_boxes_0 at hb
  refine hG 400 false 0 _ _ _ ?_
  exact hb
theorem rcX3_boxes : ∀ as σ kk, tX3_boxes as σ kk → ∃ a r fs, as = .ref a :: r ∧ σ[a]? = some (.inr (2, fs)) := by
  intro as σ kk h
  unfold tX3_boxes at h; split at h
  · obtain ⟨c, M, rfl, -⟩ := h
    exact ⟨_, _, _, rfl, rfl⟩
  · exact h.elim
set_option maxRecDepth 20000 in
theorem okX3_boxes (l : Launch) : OK l yX3_boxes cX3_boxes 1 (some .int) 0 tX3_boxes := by
  intro D τ ρ A as σ post h
  unfold tX3_boxes at h; split at h
  · obtain ⟨c, M, rfl, hw⟩ := h
    refine met_of (P := pgX3_boxes) (CE := ceX3_boxes) (cut := cutX3_boxes) (by decide) kkX3_boxes (coX3_boxes l) (Nat.le_of_ble_eq_true rfl) ?_
    intro G hG
    unfold wX3_boxes at hw
    refine lbX3_boxes_0 hG c M  (mbX3_boxes_0 ?_  hw)
    · exact fun _ _ h => ⟨trivial, h⟩
  · exact h.elim
def bX3_kind_0 (c : CS) (a : Int32) (kr : Int32 → CS → Prop)  : Prop :=
  (if (vX2_has c a) = 0 then
    kr (-1 : Int32) c
  else
    (vp_in a 100 ∧ kr (c.2.1 15 a.toNatClampNeg) c))
set_option maxRecDepth 20000 in
theorem mbX3_kind_0 {c : CS} {a : Int32} {kr kq : Int32 → CS → Prop}  (hr : ∀ x X, kr x X → kq x X)  (h : bX3_kind_0 c a kr ) : bX3_kind_0 c a kq  := by
  unfold bX3_kind_0 at h ⊢
  by_cases hc : (vX2_has c a) = 0
  · rw [if_pos hc] at h ⊢
    exact hr _ _ h
  · rw [if_neg hc] at h ⊢
    obtain ⟨hi, h⟩ := h
    refine And.intro hi ?_
    exact hr _ _ h
def wX3_kind (c : CS) (a : Int32) (kr : Int32 → CS → Prop) : Prop := bX3_kind_0 c a kr 
theorem mnX3_kind {c : CS} {a : Int32} {kr kq : Int32 → CS → Prop} (hr : ∀ x X, kr x X → kq x X) (h : wX3_kind c a kr) : wX3_kind c a kq := mbX3_kind_0 hr  h
def tX3_kind : Tr := fun as σ k => match as with
  | [.ref 0, .int a] => ∃ (c : CS) (M : aS), σ = wC c ++ M ∧ wX3_kind c a (fun x X => k (some (.int x)) (wC X ++ M))
  | _ => False
def ceX3_kind : List (Nat × Nat × Tr) := (2 * 92 + 1, 1 + 1, tX2_has) :: []
theorem coX3_kind (l : Launch) : CEok l yX3_kind.cls 1 ceX3_kind := ce_V (ci := 1) (n := 1) rfl (okX2_has l) rcX2_has (mw 409 (by decide +kernel) rfl) (mw 410 (by decide +kernel) rfl) (mw 411 (by decide +kernel) rfl) (mw 3 (by decide +kernel) rfl) (mw 412 (by decide +kernel) rfl) rfl (by decide) ⟨by decide, by decide⟩ (ce_0)
abbrev cutX3_kind : List (Nat × List Nat) := []
set_option maxRecDepth 20000 in
set_option maxHeartbeats 4000000 in
theorem lbX3_kind_0 {G : Nat → LV → List Value → aS → Prop} {post : Option Value → aS → Prop} (hG : ∀ n b pc lv st σ, seg (0, fun _ => 0) pgX3_kind ceX3_kind cutX3_kind G (fun v σ => rFit (some .int) v ∧ post v σ) n b pc lv st σ → G pc lv st σ) (c : CS) (M : aS) (a : Int32) (hb : bX3_kind_0 c a (fun x X => rFit (some .int) (some (.int x)) ∧ post (some (.int x)) (wC X ++ M)) ) : G 0 [(0, .ref 0), (1, .int a)] [] (wC c ++ M) := by
  unfold bX3_kind_0 at hb
  refine hG 400 false 0 _ _ _ ?_
  refine Exists.intro c (Exists.intro M ((And.intro rfl (?_))))
  refine And.intro (fun (h : (vX2_has c a) = 0) => ?_) (fun (h : ¬ (vX2_has c a) = 0) => ?_)
  · rw [if_pos h] at hb
    exact hb
  · rw [if_neg h] at hb
    obtain ⟨hi, hb⟩ := hb
    refine And.intro hi ?_
    exact hb
theorem rcX3_kind : ∀ as σ kk, tX3_kind as σ kk → ∃ a r fs, as = .ref a :: r ∧ σ[a]? = some (.inr (2, fs)) := by
  intro as σ kk h
  unfold tX3_kind at h; split at h
  · obtain ⟨c, M, rfl, -⟩ := h
    exact ⟨_, _, _, rfl, rfl⟩
  · exact h.elim
set_option maxRecDepth 20000 in
theorem okX3_kind (l : Launch) : OK l yX3_kind cX3_kind 2 (some .int) 1 tX3_kind := by
  intro D τ ρ A as σ post h
  unfold tX3_kind at h; split at h
  · rename_i a; obtain ⟨c, M, rfl, hw⟩ := h
    refine met_of (P := pgX3_kind) (CE := ceX3_kind) (cut := cutX3_kind) (by decide) kkX3_kind (coX3_kind l) (Nat.le_of_ble_eq_true rfl) ?_
    intro G hG
    unfold wX3_kind at hw
    refine lbX3_kind_0 hG c M a (mbX3_kind_0 ?_  hw)
    · exact fun _ _ h => ⟨trivial, h⟩
  · exact h.elim
def bX3_weight_0 (c : CS) (a : Int32) (b : Int32) (kr : Int64 → CS → Prop)  : Prop :=
  (if (vX2_has c a) = 0 then
    kr (0 : Int64) c
  else
    (if (fX3_isEnd b) = 0 then
      kr (0 : Int64) c
    else
      (if b = 0 then
        (vp_in a 100 ∧ kr (c.2.2 13 a.toNatClampNeg) c)
      else
        (vp_in a 100 ∧ kr (c.2.2 14 a.toNatClampNeg) c))))
set_option maxRecDepth 20000 in
theorem mbX3_weight_0 {c : CS} {a : Int32} {b : Int32} {kr kq : Int64 → CS → Prop}  (hr : ∀ x X, kr x X → kq x X)  (h : bX3_weight_0 c a b kr ) : bX3_weight_0 c a b kq  := by
  unfold bX3_weight_0 at h ⊢
  by_cases hc : (vX2_has c a) = 0
  · rw [if_pos hc] at h ⊢
    exact hr _ _ h
  · rw [if_neg hc] at h ⊢
    by_cases hc : (fX3_isEnd b) = 0
    · rw [if_pos hc] at h ⊢
      exact hr _ _ h
    · rw [if_neg hc] at h ⊢
      by_cases hc : b = 0
      · rw [if_pos hc] at h ⊢
        obtain ⟨hi, h⟩ := h
        refine And.intro hi ?_
        exact hr _ _ h
      · rw [if_neg hc] at h ⊢
        obtain ⟨hi, h⟩ := h
        refine And.intro hi ?_
        exact hr _ _ h
def wX3_weight (c : CS) (a : Int32) (b : Int32) (kr : Int64 → CS → Prop) : Prop := bX3_weight_0 c a b kr 
theorem mnX3_weight {c : CS} {a : Int32} {b : Int32} {kr kq : Int64 → CS → Prop} (hr : ∀ x X, kr x X → kq x X) (h : wX3_weight c a b kr) : wX3_weight c a b kq := mbX3_weight_0 hr  h
def tX3_weight : Tr := fun as σ k => match as with
  | [.ref 0, .int a, .int b] => ∃ (c : CS) (M : aS), σ = wC c ++ M ∧ wX3_weight c a b (fun x X => k (some (.long x)) (wC X ++ M))
  | _ => False
def ceX3_weight : List (Nat × Nat × Tr) := (2 * 92 + 1, 1 + 1, tX2_has) :: (2 * 96, 1, tX3_isEnd) :: []
theorem coX3_weight (l : Launch) : CEok l yX3_weight.cls 1 ceX3_weight := ce_V (ci := 1) (n := 1) rfl (okX2_has l) rcX2_has (mw 409 (by decide +kernel) rfl) (mw 410 (by decide +kernel) rfl) (mw 411 (by decide +kernel) rfl) (mw 3 (by decide +kernel) rfl) (mw 412 (by decide +kernel) rfl) rfl (by decide) ⟨by decide, by decide⟩ (ce_S (okX3_isEnd l) (mw 417 (by decide +kernel) rfl) (mw 418 (by decide +kernel) rfl) (mw 1 (by decide +kernel) rfl) (mw 419 (by decide +kernel) rfl) (by decide) ⟨by decide, by decide⟩ (ce_0))
abbrev cutX3_weight : List (Nat × List Nat) := []
set_option maxRecDepth 20000 in
set_option maxHeartbeats 4000000 in
theorem lbX3_weight_0 {G : Nat → LV → List Value → aS → Prop} {post : Option Value → aS → Prop} (hG : ∀ n b pc lv st σ, seg (0, fun _ => 0) pgX3_weight ceX3_weight cutX3_weight G (fun v σ => rFit (some .long) v ∧ post v σ) n b pc lv st σ → G pc lv st σ) (c : CS) (M : aS) (a : Int32) (b : Int32) (hb : bX3_weight_0 c a b (fun x X => rFit (some .long) (some (.long x)) ∧ post (some (.long x)) (wC X ++ M)) ) : G 0 [(0, .ref 0), (1, .int a), (2, .int b)] [] (wC c ++ M) := by
  unfold bX3_weight_0 at hb
  refine hG 400 false 0 _ _ _ ?_
  refine Exists.intro c (Exists.intro M ((And.intro rfl (?_))))
  refine And.intro (fun (h : (vX2_has c a) = 0) => ?_) (fun (h : ¬ (vX2_has c a) = 0) => ?_)
  · rw [if_pos h] at hb
    exact hb
  · rw [if_neg h] at hb
    refine And.intro (fun (h : ¬ (fX3_isEnd b) = 0) => ?_) (fun hq => have h : (fX3_isEnd b) = 0 := Classical.not_not.mp hq; ?_)
    · rw [if_neg h] at hb
      refine And.intro (fun (h : ¬ b = 0) => ?_) (fun hq => have h : b = 0 := Classical.not_not.mp hq; ?_)
      · rw [if_neg h] at hb
        obtain ⟨hi, hb⟩ := hb
        refine And.intro hi ?_
        exact hb
      · rw [if_pos h] at hb
        obtain ⟨hi, hb⟩ := hb
        refine And.intro hi ?_
        exact hb
    · rw [if_pos h] at hb
      exact hb
theorem rcX3_weight : ∀ as σ kk, tX3_weight as σ kk → ∃ a r fs, as = .ref a :: r ∧ σ[a]? = some (.inr (2, fs)) := by
  intro as σ kk h
  unfold tX3_weight at h; split at h
  · obtain ⟨c, M, rfl, -⟩ := h
    exact ⟨_, _, _, rfl, rfl⟩
  · exact h.elim
set_option maxRecDepth 20000 in
theorem okX3_weight (l : Launch) : OK l yX3_weight cX3_weight 3 (some .long) 1 tX3_weight := by
  intro D τ ρ A as σ post h
  unfold tX3_weight at h; split at h
  · rename_i a b; obtain ⟨c, M, rfl, hw⟩ := h
    refine met_of (P := pgX3_weight) (CE := ceX3_weight) (cut := cutX3_weight) (by decide) kkX3_weight (coX3_weight l) (Nat.le_of_ble_eq_true rfl) ?_
    intro G hG
    unfold wX3_weight at hw
    refine lbX3_weight_0 hG c M a b (mbX3_weight_0 ?_  hw)
    · exact fun _ _ h => ⟨trivial, h⟩
  · exact h.elim
def bX3_enclosed_0 (c : CS) (a : Int32) (b : Int32) (d : Int32) (kr : Int64 → CS → Prop)  : Prop :=
  (if (vX2_has c a) = 0 then
    kr (0 : Int64) c
  else
    (if (vX0_has c b) = 0 then
      kr (0 : Int64) c
    else
      (if (fX3_isEnd d) = 0 then
        kr (0 : Int64) c
      else
        (wX0_withParts c ((1 : Int32) <<< (b &&& 31)) (fun r1 X1 => (wX0_enclose X1 r1 (fX2_place a (0 : Int32)) (fun  X2 => (if d = 0 then
          (vp_in b 32 ∧ kr (X2.2.2 4 b.toNatClampNeg) X2)
        else
          (vp_in b 32 ∧ kr (X2.2.2 5 b.toNatClampNeg) X2)))))))))
set_option maxRecDepth 20000 in
theorem mbX3_enclosed_0 {c : CS} {a : Int32} {b : Int32} {d : Int32} {kr kq : Int64 → CS → Prop}  (hr : ∀ x X, kr x X → kq x X)  (h : bX3_enclosed_0 c a b d kr ) : bX3_enclosed_0 c a b d kq  := by
  unfold bX3_enclosed_0 at h ⊢
  by_cases hc : (vX2_has c a) = 0
  · rw [if_pos hc] at h ⊢
    exact hr _ _ h
  · rw [if_neg hc] at h ⊢
    by_cases hc : (vX0_has c b) = 0
    · rw [if_pos hc] at h ⊢
      exact hr _ _ h
    · rw [if_neg hc] at h ⊢
      by_cases hc : (fX3_isEnd d) = 0
      · rw [if_pos hc] at h ⊢
        exact hr _ _ h
      · rw [if_neg hc] at h ⊢
        refine mnX0_withParts ?_ h
        intro r1 X1 h
        refine mnX0_enclose ?_ h
        intro  X2 h
        by_cases hc : d = 0
        · rw [if_pos hc] at h ⊢
          obtain ⟨hi, h⟩ := h
          refine And.intro hi ?_
          exact hr _ _ h
        · rw [if_neg hc] at h ⊢
          obtain ⟨hi, h⟩ := h
          refine And.intro hi ?_
          exact hr _ _ h
def wX3_enclosed (c : CS) (a : Int32) (b : Int32) (d : Int32) (kr : Int64 → CS → Prop) : Prop := bX3_enclosed_0 c a b d kr 
theorem mnX3_enclosed {c : CS} {a : Int32} {b : Int32} {d : Int32} {kr kq : Int64 → CS → Prop} (hr : ∀ x X, kr x X → kq x X) (h : wX3_enclosed c a b d kr) : wX3_enclosed c a b d kq := mbX3_enclosed_0 hr  h
def tX3_enclosed : Tr := fun as σ k => match as with
  | [.ref 0, .int a, .int b, .int d] => ∃ (c : CS) (M : aS), σ = wC c ++ M ∧ wX3_enclosed c a b d (fun x X => k (some (.long x)) (wC X ++ M))
  | _ => False
def ceX3_enclosed : List (Nat × Nat × Tr) := (2 * 92 + 1, 1 + 1, tX2_has) :: (2 * 69 + 1, 1 + 1, tX0_has) :: (2 * 96, 1, tX3_isEnd) :: (2 * 72 + 1, 1 + 1, tX0_withParts) :: (2 * 105, 2, tX2_place) :: (2 * 115 + 1, 3 + 1, tX0_enclose) :: []
theorem coX3_enclosed (l : Launch) : CEok l yX3_enclosed.cls 7 ceX3_enclosed := ce_V (ci := 1) (n := 1) rfl (okX2_has l) rcX2_has (mw 409 (by decide +kernel) rfl) (mw 410 (by decide +kernel) rfl) (mw 411 (by decide +kernel) rfl) (mw 3 (by decide +kernel) rfl) (mw 412 (by decide +kernel) rfl) rfl (by decide) ⟨by decide, by decide⟩ (ce_V (ci := 0) (n := 1) rfl (okX0_has l) rcX0_has (mw 184 (by decide +kernel) rfl) (mw 166 (by decide +kernel) rfl) (mw 167 (by decide +kernel) rfl) (mw 2 (by decide +kernel) rfl) (mw 168 (by decide +kernel) rfl) rfl (by decide) ⟨by decide, by decide⟩ (ce_S (okX3_isEnd l) (mw 417 (by decide +kernel) rfl) (mw 418 (by decide +kernel) rfl) (mw 1 (by decide +kernel) rfl) (mw 419 (by decide +kernel) rfl) (by decide) ⟨by decide, by decide⟩ (ce_V (ci := 0) (n := 1) rfl (okX0_withParts l) rcX0_withParts (mw 189 (by decide +kernel) rfl) (mw 190 (by decide +kernel) rfl) (mw 191 (by decide +kernel) rfl) (mw 2 (by decide +kernel) rfl) (mw 192 (by decide +kernel) rfl) rfl (by decide) ⟨by decide, by decide⟩ (ce_S (okX2_place l) (mw 201 (by decide +kernel) rfl) (mw 202 (by decide +kernel) rfl) (mw 3 (by decide +kernel) rfl) (mw 203 (by decide +kernel) rfl) (by decide) ⟨by decide, by decide⟩ (ce_V (ci := 0) (n := 3) rfl (okX0_enclose l) rcX0_enclose (mw 204 (by decide +kernel) rfl) (mw 205 (by decide +kernel) rfl) (mw 206 (by decide +kernel) rfl) (mw 2 (by decide +kernel) rfl) (mw 207 (by decide +kernel) rfl) rfl (by decide) ⟨by decide, by decide⟩ (ce_0))))))
abbrev cutX3_enclosed : List (Nat × List Nat) := []
set_option maxRecDepth 20000 in
set_option maxHeartbeats 4000000 in
theorem lbX3_enclosed_0 {G : Nat → LV → List Value → aS → Prop} {post : Option Value → aS → Prop} (hG : ∀ n b pc lv st σ, seg (0, fun _ => 0) pgX3_enclosed ceX3_enclosed cutX3_enclosed G (fun v σ => rFit (some .long) v ∧ post v σ) n b pc lv st σ → G pc lv st σ) (c : CS) (M : aS) (a : Int32) (b : Int32) (d : Int32) (hb : bX3_enclosed_0 c a b d (fun x X => rFit (some .long) (some (.long x)) ∧ post (some (.long x)) (wC X ++ M)) ) : G 0 [(0, .ref 0), (1, .int a), (2, .int b), (3, .int d)] [] (wC c ++ M) := by
  unfold bX3_enclosed_0 at hb
  refine hG 400 false 0 _ _ _ ?_
  refine Exists.intro c (Exists.intro M ((And.intro rfl (?_))))
  refine And.intro (fun (h : (vX2_has c a) = 0) => ?_) (fun (h : ¬ (vX2_has c a) = 0) => ?_)
  · rw [if_pos h] at hb
    exact hb
  · rw [if_neg h] at hb
    refine Exists.intro c (Exists.intro M ((And.intro rfl (?_))))
    refine And.intro (fun (h : (vX0_has c b) = 0) => ?_) (fun (h : ¬ (vX0_has c b) = 0) => ?_)
    · rw [if_pos h] at hb
      exact hb
    · rw [if_neg h] at hb
      refine And.intro (fun (h : ¬ (fX3_isEnd d) = 0) => ?_) (fun hq => have h : (fX3_isEnd d) = 0 := Classical.not_not.mp hq; ?_)
      · rw [if_neg h] at hb
        refine Exists.intro c (Exists.intro M ((And.intro rfl (mnX0_withParts ?_ hb))))
        intro r1 X1 hb
        refine Exists.intro X1 (Exists.intro M ((And.intro rfl (mnX0_enclose ?_ hb))))
        intro  X2 hb
        refine And.intro (fun (h : ¬ d = 0) => ?_) (fun hq => have h : d = 0 := Classical.not_not.mp hq; ?_)
        · rw [if_neg h] at hb
          obtain ⟨hi, hb⟩ := hb
          refine And.intro hi ?_
          exact hb
        · rw [if_pos h] at hb
          obtain ⟨hi, hb⟩ := hb
          refine And.intro hi ?_
          exact hb
      · rw [if_pos h] at hb
        exact hb
theorem rcX3_enclosed : ∀ as σ kk, tX3_enclosed as σ kk → ∃ a r fs, as = .ref a :: r ∧ σ[a]? = some (.inr (2, fs)) := by
  intro as σ kk h
  unfold tX3_enclosed at h; split at h
  · obtain ⟨c, M, rfl, -⟩ := h
    exact ⟨_, _, _, rfl, rfl⟩
  · exact h.elim
set_option maxRecDepth 20000 in
theorem okX3_enclosed (l : Launch) : OK l yX3_enclosed cX3_enclosed 4 (some .long) 7 tX3_enclosed := by
  intro D τ ρ A as σ post h
  unfold tX3_enclosed at h; split at h
  · rename_i a b d; obtain ⟨c, M, rfl, hw⟩ := h
    refine met_of (P := pgX3_enclosed) (CE := ceX3_enclosed) (cut := cutX3_enclosed) (by decide) kkX3_enclosed (coX3_enclosed l) (Nat.le_of_ble_eq_true rfl) ?_
    intro G hG
    unfold wX3_enclosed at hw
    refine lbX3_enclosed_0 hG c M a b d (mbX3_enclosed_0 ?_  hw)
    · exact fun _ _ h => ⟨trivial, h⟩
  · exact h.elim
def bX3_value_0 (c : CS) (a : Int32) (b : Int64) (d : Int64) (e : Int64) (kr : Int64 → CS → Prop)  : Prop :=
  (if (vX0_has c a) = 0 then
    kr (0 : Int64) c
  else
    (wX0_valueAt c a b d e (fun r1 X1 => kr r1 X1)))
set_option maxRecDepth 20000 in
theorem mbX3_value_0 {c : CS} {a : Int32} {b : Int64} {d : Int64} {e : Int64} {kr kq : Int64 → CS → Prop}  (hr : ∀ x X, kr x X → kq x X)  (h : bX3_value_0 c a b d e kr ) : bX3_value_0 c a b d e kq  := by
  unfold bX3_value_0 at h ⊢
  by_cases hc : (vX0_has c a) = 0
  · rw [if_pos hc] at h ⊢
    exact hr _ _ h
  · rw [if_neg hc] at h ⊢
    refine mnX0_valueAt ?_ h
    intro r1 X1 h
    exact hr _ _ h
def wX3_value (c : CS) (a : Int32) (b : Int64) (d : Int64) (e : Int64) (kr : Int64 → CS → Prop) : Prop := bX3_value_0 c a b d e kr 
theorem mnX3_value {c : CS} {a : Int32} {b : Int64} {d : Int64} {e : Int64} {kr kq : Int64 → CS → Prop} (hr : ∀ x X, kr x X → kq x X) (h : wX3_value c a b d e kr) : wX3_value c a b d e kq := mbX3_value_0 hr  h
def tX3_value : Tr := fun as σ k => match as with
  | [.ref 0, .int a, .long b, .long d, .long e] => ∃ (c : CS) (M : aS), σ = wC c ++ M ∧ wX3_value c a b d e (fun x X => k (some (.long x)) (wC X ++ M))
  | _ => False
def ceX3_value : List (Nat × Nat × Tr) := (2 * 69 + 1, 1 + 1, tX0_has) :: (2 * 121 + 1, 4 + 1, tX0_valueAt) :: []
theorem coX3_value (l : Launch) : CEok l yX3_value.cls 6 ceX3_value := ce_V (ci := 0) (n := 1) rfl (okX0_has l) rcX0_has (mw 184 (by decide +kernel) rfl) (mw 166 (by decide +kernel) rfl) (mw 167 (by decide +kernel) rfl) (mw 2 (by decide +kernel) rfl) (mw 168 (by decide +kernel) rfl) rfl (by decide) ⟨by decide, by decide⟩ (ce_V (ci := 0) (n := 4) rfl (okX0_valueAt l) rcX0_valueAt (mw 428 (by decide +kernel) rfl) (mw 429 (by decide +kernel) rfl) (mw 430 (by decide +kernel) rfl) (mw 2 (by decide +kernel) rfl) (mw 431 (by decide +kernel) rfl) rfl (by decide) ⟨by decide, by decide⟩ (ce_0))
abbrev cutX3_value : List (Nat × List Nat) := []
set_option maxRecDepth 20000 in
set_option maxHeartbeats 4000000 in
theorem lbX3_value_0 {G : Nat → LV → List Value → aS → Prop} {post : Option Value → aS → Prop} (hG : ∀ n b pc lv st σ, seg (0, fun _ => 0) pgX3_value ceX3_value cutX3_value G (fun v σ => rFit (some .long) v ∧ post v σ) n b pc lv st σ → G pc lv st σ) (c : CS) (M : aS) (a : Int32) (b : Int64) (d : Int64) (e : Int64) (hb : bX3_value_0 c a b d e (fun x X => rFit (some .long) (some (.long x)) ∧ post (some (.long x)) (wC X ++ M)) ) : G 0 [(0, .ref 0), (1, .int a), (2, .long b), (4, .long d), (6, .long e)] [] (wC c ++ M) := by
  unfold bX3_value_0 at hb
  refine hG 400 false 0 _ _ _ ?_
  refine Exists.intro c (Exists.intro M ((And.intro rfl (?_))))
  refine And.intro (fun (h : (vX0_has c a) = 0) => ?_) (fun (h : ¬ (vX0_has c a) = 0) => ?_)
  · rw [if_pos h] at hb
    exact hb
  · rw [if_neg h] at hb
    refine Exists.intro c (Exists.intro M ((And.intro rfl (mnX0_valueAt ?_ hb))))
    intro r1 X1 hb
    exact hb
theorem rcX3_value : ∀ as σ kk, tX3_value as σ kk → ∃ a r fs, as = .ref a :: r ∧ σ[a]? = some (.inr (2, fs)) := by
  intro as σ kk h
  unfold tX3_value at h; split at h
  · obtain ⟨c, M, rfl, -⟩ := h
    exact ⟨_, _, _, rfl, rfl⟩
  · exact h.elim
set_option maxRecDepth 20000 in
theorem okX3_value (l : Launch) : OK l yX3_value cX3_value 8 (some .long) 6 tX3_value := by
  intro D τ ρ A as σ post h
  unfold tX3_value at h; split at h
  · rename_i a b d e; obtain ⟨c, M, rfl, hw⟩ := h
    refine met_of (P := pgX3_value) (CE := ceX3_value) (cut := cutX3_value) (by decide) kkX3_value (coX3_value l) (Nat.le_of_ble_eq_true rfl) ?_
    intro G hG
    unfold wX3_value at hw
    refine lbX3_value_0 hG c M a b d e (mbX3_value_0 ?_  hw)
    · exact fun _ _ h => ⟨trivial, h⟩
  · exact h.elim
def bX3_within_0 (c : CS) (a : Int32) (b : Int32) (d : Int64) (e : Int64) (f : Int64) (kr : Int32 → CS → Prop)  : Prop :=
  (if (vX2_has c a) = 0 then
    kr (-1 : Int32) c
  else
    (if (vX0_has c b) = 0 then
      kr (-1 : Int32) c
    else
      (wX2_holds c a d e f (fun r1 X1 => (if r1 = 0 then
        kr (0 : Int32) X1
      else
        (wX0_valueAt X1 b d e f (fun r2 X2 => (if (fX1_isNone r2) = 0 then
          (wX0_withParts X2 ((1 : Int32) <<< (b &&& 31)) (fun r3 X3 => (wX0_enclose X3 r3 (fX2_place a (0 : Int32)) (fun  X4 => (vp_in b 32 ∧ (vp_in b 32 ∧ (if (fX1_isFromTo r2 (X4.2.2 4 b.toNatClampNeg) (X4.2.2 5 b.toNatClampNeg)) = 0 then
            kr (1 : Int32) X4
          else
            kr (2 : Int32) X4)))))))
        else
          kr (2 : Int32) X2))))))))
set_option maxRecDepth 20000 in
theorem mbX3_within_0 {c : CS} {a : Int32} {b : Int32} {d : Int64} {e : Int64} {f : Int64} {kr kq : Int32 → CS → Prop}  (hr : ∀ x X, kr x X → kq x X)  (h : bX3_within_0 c a b d e f kr ) : bX3_within_0 c a b d e f kq  := by
  unfold bX3_within_0 at h ⊢
  by_cases hc : (vX2_has c a) = 0
  · rw [if_pos hc] at h ⊢
    exact hr _ _ h
  · rw [if_neg hc] at h ⊢
    by_cases hc : (vX0_has c b) = 0
    · rw [if_pos hc] at h ⊢
      exact hr _ _ h
    · rw [if_neg hc] at h ⊢
      refine mnX2_holds ?_ h
      intro r1 X1 _ h
      by_cases hc : r1 = 0
      · rw [if_pos hc] at h ⊢
        exact hr _ _ h
      · rw [if_neg hc] at h ⊢
        refine mnX0_valueAt ?_ h
        intro r2 X2 h
        by_cases hc : (fX1_isNone r2) = 0
        · rw [if_pos hc] at h ⊢
          refine mnX0_withParts ?_ h
          intro r3 X3 h
          refine mnX0_enclose ?_ h
          intro  X4 h
          obtain ⟨hi, h⟩ := h
          refine And.intro hi ?_
          obtain ⟨hi, h⟩ := h
          refine And.intro hi ?_
          by_cases hc : (fX1_isFromTo r2 (X4.2.2 4 b.toNatClampNeg) (X4.2.2 5 b.toNatClampNeg)) = 0
          · rw [if_pos hc] at h ⊢
            exact hr _ _ h
          · rw [if_neg hc] at h ⊢
            exact hr _ _ h
        · rw [if_neg hc] at h ⊢
          exact hr _ _ h
def wX3_within (c : CS) (a : Int32) (b : Int32) (d : Int64) (e : Int64) (f : Int64) (kr : Int32 → CS → Prop) : Prop := bX3_within_0 c a b d e f kr 
theorem mnX3_within {c : CS} {a : Int32} {b : Int32} {d : Int64} {e : Int64} {f : Int64} {kr kq : Int32 → CS → Prop} (hr : ∀ x X, kr x X → kq x X) (h : wX3_within c a b d e f kr) : wX3_within c a b d e f kq := mbX3_within_0 hr  h
def tX3_within : Tr := fun as σ k => match as with
  | [.ref 0, .int a, .int b, .long d, .long e, .long f] => ∃ (c : CS) (M : aS), σ = wC c ++ M ∧ wX3_within c a b d e f (fun x X => k (some (.int x)) (wC X ++ M))
  | _ => False
def ceX3_within : List (Nat × Nat × Tr) := (2 * 92 + 1, 1 + 1, tX2_has) :: (2 * 69 + 1, 1 + 1, tX0_has) :: (2 * 125 + 1, 4 + 1, tX2_holds) :: (2 * 121 + 1, 4 + 1, tX0_valueAt) :: (2 * 129, 1, tX1_isNone) :: (2 * 72 + 1, 1 + 1, tX0_withParts) :: (2 * 105, 2, tX2_place) :: (2 * 115 + 1, 3 + 1, tX0_enclose) :: (2 * 132, 3, tX1_isFromTo) :: []
theorem coX3_within (l : Launch) : CEok l yX3_within.cls 7 ceX3_within := ce_V (ci := 1) (n := 1) rfl (okX2_has l) rcX2_has (mw 409 (by decide +kernel) rfl) (mw 410 (by decide +kernel) rfl) (mw 411 (by decide +kernel) rfl) (mw 3 (by decide +kernel) rfl) (mw 412 (by decide +kernel) rfl) rfl (by decide) ⟨by decide, by decide⟩ (ce_V (ci := 0) (n := 1) rfl (okX0_has l) rcX0_has (mw 184 (by decide +kernel) rfl) (mw 166 (by decide +kernel) rfl) (mw 167 (by decide +kernel) rfl) (mw 2 (by decide +kernel) rfl) (mw 168 (by decide +kernel) rfl) rfl (by decide) ⟨by decide, by decide⟩ (ce_V (ci := 1) (n := 4) rfl (okX2_holds l) rcX2_holds (mw 440 (by decide +kernel) rfl) (mw 441 (by decide +kernel) rfl) (mw 442 (by decide +kernel) rfl) (mw 3 (by decide +kernel) rfl) (mw 443 (by decide +kernel) rfl) rfl (by decide) ⟨by decide, by decide⟩ (ce_V (ci := 0) (n := 4) rfl (okX0_valueAt l) rcX0_valueAt (mw 428 (by decide +kernel) rfl) (mw 429 (by decide +kernel) rfl) (mw 430 (by decide +kernel) rfl) (mw 2 (by decide +kernel) rfl) (mw 431 (by decide +kernel) rfl) rfl (by decide) ⟨by decide, by decide⟩ (ce_S (okX1_isNone l) (mw 448 (by decide +kernel) rfl) (mw 137 (by decide +kernel) rfl) (mw 5 (by decide +kernel) rfl) (mw 138 (by decide +kernel) rfl) (by decide) ⟨by decide, by decide⟩ (ce_V (ci := 0) (n := 1) rfl (okX0_withParts l) rcX0_withParts (mw 189 (by decide +kernel) rfl) (mw 190 (by decide +kernel) rfl) (mw 191 (by decide +kernel) rfl) (mw 2 (by decide +kernel) rfl) (mw 192 (by decide +kernel) rfl) rfl (by decide) ⟨by decide, by decide⟩ (ce_S (okX2_place l) (mw 201 (by decide +kernel) rfl) (mw 202 (by decide +kernel) rfl) (mw 3 (by decide +kernel) rfl) (mw 203 (by decide +kernel) rfl) (by decide) ⟨by decide, by decide⟩ (ce_V (ci := 0) (n := 3) rfl (okX0_enclose l) rcX0_enclose (mw 204 (by decide +kernel) rfl) (mw 205 (by decide +kernel) rfl) (mw 206 (by decide +kernel) rfl) (mw 2 (by decide +kernel) rfl) (mw 207 (by decide +kernel) rfl) rfl (by decide) ⟨by decide, by decide⟩ (ce_S (okX1_isFromTo l) (mw 449 (by decide +kernel) rfl) (mw 446 (by decide +kernel) rfl) (mw 5 (by decide +kernel) rfl) (mw 447 (by decide +kernel) rfl) (by decide) ⟨by decide, by decide⟩ (ce_0)))))))))
abbrev cutX3_within : List (Nat × List Nat) := []
set_option maxRecDepth 20000 in
set_option maxHeartbeats 4000000 in
theorem lbX3_within_0 {G : Nat → LV → List Value → aS → Prop} {post : Option Value → aS → Prop} (hG : ∀ n b pc lv st σ, seg (0, fun _ => 0) pgX3_within ceX3_within cutX3_within G (fun v σ => rFit (some .int) v ∧ post v σ) n b pc lv st σ → G pc lv st σ) (c : CS) (M : aS) (a : Int32) (b : Int32) (d : Int64) (e : Int64) (f : Int64) (hb : bX3_within_0 c a b d e f (fun x X => rFit (some .int) (some (.int x)) ∧ post (some (.int x)) (wC X ++ M)) ) : G 0 [(0, .ref 0), (1, .int a), (2, .int b), (3, .long d), (5, .long e), (7, .long f)] [] (wC c ++ M) := by
  unfold bX3_within_0 at hb
  refine hG 400 false 0 _ _ _ ?_
  refine Exists.intro c (Exists.intro M ((And.intro rfl (?_))))
  refine And.intro (fun (h : (vX2_has c a) = 0) => ?_) (fun (h : ¬ (vX2_has c a) = 0) => ?_)
  · rw [if_pos h] at hb
    exact hb
  · rw [if_neg h] at hb
    refine Exists.intro c (Exists.intro M ((And.intro rfl (?_))))
    refine And.intro (fun (h : ¬ (vX0_has c b) = 0) => ?_) (fun hq => have h : (vX0_has c b) = 0 := Classical.not_not.mp hq; ?_)
    · rw [if_neg h] at hb
      refine Exists.intro c (Exists.intro M ((And.intro rfl (mnX2_holds ?_ hb))))
      intro r1 X1 _ hb
      refine And.intro (fun (h : ¬ r1 = 0) => ?_) (fun hq => have h : r1 = 0 := Classical.not_not.mp hq; ?_)
      · rw [if_neg h] at hb
        refine Exists.intro X1 (Exists.intro M ((And.intro rfl (mnX0_valueAt ?_ hb))))
        intro r2 X2 hb
        refine And.intro (fun (h : (fX1_isNone r2) = 0) => ?_) (fun (h : ¬ (fX1_isNone r2) = 0) => ?_)
        · rw [if_pos h] at hb
          refine Exists.intro X2 (Exists.intro M ((And.intro rfl (mnX0_withParts ?_ hb))))
          intro r3 X3 hb
          refine Exists.intro X3 (Exists.intro M ((And.intro rfl (mnX0_enclose ?_ hb))))
          intro  X4 hb
          obtain ⟨hi, hb⟩ := hb
          refine And.intro hi ?_
          obtain ⟨hi, hb⟩ := hb
          refine And.intro hi ?_
          refine And.intro (fun (h : (fX1_isFromTo r2 (X4.2.2 4 b.toNatClampNeg) (X4.2.2 5 b.toNatClampNeg)) = 0) => ?_) (fun (h : ¬ (fX1_isFromTo r2 (X4.2.2 4 b.toNatClampNeg) (X4.2.2 5 b.toNatClampNeg)) = 0) => ?_)
          · rw [if_pos h] at hb
            exact hb
          · rw [if_neg h] at hb
            exact hb
        · rw [if_neg h] at hb
          exact hb
      · rw [if_pos h] at hb
        exact hb
    · rw [if_pos h] at hb
      exact hb
theorem rcX3_within : ∀ as σ kk, tX3_within as σ kk → ∃ a r fs, as = .ref a :: r ∧ σ[a]? = some (.inr (2, fs)) := by
  intro as σ kk h
  unfold tX3_within at h; split at h
  · obtain ⟨c, M, rfl, -⟩ := h
    exact ⟨_, _, _, rfl, rfl⟩
  · exact h.elim
set_option maxRecDepth 20000 in
theorem okX3_within (l : Launch) : OK l yX3_within cX3_within 11 (some .int) 7 tX3_within := by
  intro D τ ρ A as σ post h
  unfold tX3_within at h; split at h
  · rename_i a b d e f; obtain ⟨c, M, rfl, hw⟩ := h
    refine met_of (P := pgX3_within) (CE := ceX3_within) (cut := cutX3_within) (by decide) kkX3_within (coX3_within l) (Nat.le_of_ble_eq_true rfl) ?_
    intro G hG
    unfold wX3_within at hw
    refine lbX3_within_0 hG c M a b d e f (mbX3_within_0 ?_  hw)
    · exact fun _ _ h => ⟨trivial, h⟩
  · exact h.elim
def bX3_where_0 (c : CS) (a : Int64) (b : Int64) (d : Int64) (kr : Int32 → CS → Prop) (kc3 : Int64 → Int64 → Int64 → Int32 → CS → Prop) : Prop :=
  kc3 a b d (0 : Int32) c
def bX3_where_3 (c : CS) (a : Int64) (b : Int64) (d : Int64) (l7 : Int32) (kr : Int32 → CS → Prop) (kc3 : Int64 → Int64 → Int64 → Int32 → CS → Prop) : Prop :=
  (if (c.1 3) ≤ l7 then
    kr (-5 : Int32) c
  else
    (wX2_holds c l7 a b d (fun r1 X1 => (if r1 = 0 then
      kc3 a b d (l7 + (1 : Int32)) X1
    else
      kr l7 X1))))
set_option maxRecDepth 20000 in
theorem mbX3_where_0 {c : CS} {a : Int64} {b : Int64} {d : Int64} {kr kq : Int32 → CS → Prop} {kc3 kd3 : Int64 → Int64 → Int64 → Int32 → CS → Prop} (hr : ∀ x X, kr x X → kq x X) (hc3 : ∀ z1 z3 z5 z7 X, kc3 z1 z3 z5 z7 X → kd3 z1 z3 z5 z7 X) (h : bX3_where_0 c a b d kr kc3) : bX3_where_0 c a b d kq kd3 := by
  unfold bX3_where_0 at h ⊢
  exact hc3 _ _ _ _ _ h
set_option maxRecDepth 20000 in
theorem mbX3_where_3 {c : CS} {a : Int64} {b : Int64} {d : Int64} {l7 : Int32} {kr kq : Int32 → CS → Prop} {kc3 kd3 : Int64 → Int64 → Int64 → Int32 → CS → Prop} (hr : ∀ x X, kr x X → kq x X) (hc3 : ∀ z1 z3 z5 z7 X, kc3 z1 z3 z5 z7 X → kd3 z1 z3 z5 z7 X) (h : bX3_where_3 c a b d l7 kr kc3) : bX3_where_3 c a b d l7 kq kd3 := by
  unfold bX3_where_3 at h ⊢
  by_cases hc : (c.1 3) ≤ l7
  · rw [if_pos hc] at h ⊢
    exact hr _ _ h
  · rw [if_neg hc] at h ⊢
    refine mnX2_holds ?_ h
    intro r1 X1 _ h
    by_cases hc : r1 = 0
    · rw [if_pos hc] at h ⊢
      exact hc3 _ _ _ _ _ h
    · rw [if_neg hc] at h ⊢
      exact hr _ _ h
def itX3_where_3 (kr : Int32 → CS → Prop) : Nat → Int64 → Int64 → Int64 → Int32 → CS → Prop
  | 0, _, _, _, _, _ => False
  | n + 1, a, b, d, l7, c => bX3_where_3 c a b d l7 kr (fun z1 z3 z5 z7 X => itX3_where_3 kr n z1 z3 z5 z7 X)
theorem miX3_where_3 {kr kq : Int32 → CS → Prop} (hr : ∀ x X, kr x X → kq x X) : ∀ (n : Nat) (z1 : Int64) (z3 : Int64) (z5 : Int64) (z7 : Int32) (X : CS), itX3_where_3 kr n z1 z3 z5 z7 X → itX3_where_3 kq n z1 z3 z5 z7 X
  | 0, _, _, _, _, _, h => h
  | n + 1, _, _, _, _, _, h => mbX3_where_3 hr (fun _ _ _ _ _ h => miX3_where_3 hr n _ _ _ _ _ h) h
def wX3_where (c : CS) (a : Int64) (b : Int64) (d : Int64) (kr : Int32 → CS → Prop) : Prop := bX3_where_0 c a b d kr (fun z1 z3 z5 z7 X => ∃ N, itX3_where_3 kr N z1 z3 z5 z7 X)
theorem mnX3_where {c : CS} {a : Int64} {b : Int64} {d : Int64} {kr kq : Int32 → CS → Prop} (hr : ∀ x X, kr x X → kq x X) (h : wX3_where c a b d kr) : wX3_where c a b d kq := mbX3_where_0 hr (fun _ _ _ _ _ h => h.elim fun N h => ⟨N, miX3_where_3 hr N _ _ _ _ _ h⟩) h
def tX3_where : Tr := fun as σ k => match as with
  | [.ref 0, .long a, .long b, .long d] => ∃ (c : CS) (M : aS), σ = wC c ++ M ∧ wX3_where c a b d (fun x X => k (some (.int x)) (wC X ++ M))
  | _ => False
def ceX3_where : List (Nat × Nat × Tr) := (2 * 125 + 1, 4 + 1, tX2_holds) :: []
theorem coX3_where (l : Launch) : CEok l yX3_where.cls 3 ceX3_where := ce_V (ci := 1) (n := 4) rfl (okX2_holds l) rcX2_holds (mw 440 (by decide +kernel) rfl) (mw 441 (by decide +kernel) rfl) (mw 442 (by decide +kernel) rfl) (mw 3 (by decide +kernel) rfl) (mw 443 (by decide +kernel) rfl) rfl (by decide) ⟨by decide, by decide⟩ (ce_0)
abbrev cutX3_where : List (Nat × List Nat) := [(3, [0, 1, 3, 5, 7])]
set_option maxRecDepth 20000 in
set_option maxHeartbeats 4000000 in
theorem lbX3_where_0 {G : Nat → LV → List Value → aS → Prop} {post : Option Value → aS → Prop} (hG : ∀ n b pc lv st σ, seg (0, fun _ => 0) pgX3_where ceX3_where cutX3_where G (fun v σ => rFit (some .int) v ∧ post v σ) n b pc lv st σ → G pc lv st σ) (c : CS) (M : aS) (a : Int64) (b : Int64) (d : Int64) (hb : bX3_where_0 c a b d (fun x X => rFit (some .int) (some (.int x)) ∧ post (some (.int x)) (wC X ++ M)) (fun z1 z3 z5 z7 X => G 3 [(0, .ref 0), (1, .long z1), (3, .long z3), (5, .long z5), (7, .int z7)] [] (wC X ++ M))) : G 0 [(0, .ref 0), (1, .long a), (3, .long b), (5, .long d)] [] (wC c ++ M) := by
  unfold bX3_where_0 at hb
  refine hG 400 false 0 _ _ _ ?_
  exact hb
set_option maxRecDepth 20000 in
set_option maxHeartbeats 4000000 in
theorem lbX3_where_3 {G : Nat → LV → List Value → aS → Prop} {post : Option Value → aS → Prop} (hG : ∀ n b pc lv st σ, seg (0, fun _ => 0) pgX3_where ceX3_where cutX3_where G (fun v σ => rFit (some .int) v ∧ post v σ) n b pc lv st σ → G pc lv st σ) (c : CS) (M : aS) (a : Int64) (b : Int64) (d : Int64) (l7 : Int32) (hb : bX3_where_3 c a b d l7 (fun x X => rFit (some .int) (some (.int x)) ∧ post (some (.int x)) (wC X ++ M)) (fun z1 z3 z5 z7 X => G 3 [(0, .ref 0), (1, .long z1), (3, .long z3), (5, .long z5), (7, .int z7)] [] (wC X ++ M))) : G 3 [(0, .ref 0), (1, .long a), (3, .long b), (5, .long d), (7, .int l7)] [] (wC c ++ M) := by
  unfold bX3_where_3 at hb
  refine hG 400 false 3 _ _ _ ?_
  refine And.intro (fun (h : (c.1 3) ≤ l7) => ?_) (fun (h : ¬ (c.1 3) ≤ l7) => ?_)
  · rw [if_pos h] at hb
    exact hb
  · rw [if_neg h] at hb
    refine Exists.intro c (Exists.intro M ((And.intro rfl (mnX2_holds ?_ hb))))
    intro r1 X1 _ hb
    refine And.intro (fun (h : r1 = 0) => ?_) (fun (h : ¬ r1 = 0) => ?_)
    · rw [if_pos h] at hb
      exact hb
    · rw [if_neg h] at hb
      exact hb
theorem giX3_where_3 {G : Nat → LV → List Value → aS → Prop} {post : Option Value → aS → Prop} (hG : ∀ n b pc lv st σ, seg (0, fun _ => 0) pgX3_where ceX3_where cutX3_where G (fun v σ => rFit (some .int) v ∧ post v σ) n b pc lv st σ → G pc lv st σ) (M : aS) : ∀ (n : Nat) (z1 : Int64) (z3 : Int64) (z5 : Int64) (z7 : Int32) (X : CS), itX3_where_3 (fun x X => rFit (some .int) (some (.int x)) ∧ post (some (.int x)) (wC X ++ M)) n z1 z3 z5 z7 X → G 3 [(0, .ref 0), (1, .long z1), (3, .long z3), (5, .long z5), (7, .int z7)] [] (wC X ++ M)
  | 0, _, _, _, _, _, h => h.elim
  | n + 1, _, _, _, _, _, h => lbX3_where_3 hG _ M _ _ _ _ (mbX3_where_3 (fun _ _ h => h) (fun _ _ _ _ _ h => giX3_where_3 hG M n _ _ _ _ _ h) h)
theorem rcX3_where : ∀ as σ kk, tX3_where as σ kk → ∃ a r fs, as = .ref a :: r ∧ σ[a]? = some (.inr (2, fs)) := by
  intro as σ kk h
  unfold tX3_where at h; split at h
  · obtain ⟨c, M, rfl, -⟩ := h
    exact ⟨_, _, _, rfl, rfl⟩
  · exact h.elim
set_option maxRecDepth 20000 in
theorem okX3_where (l : Launch) : OK l yX3_where cX3_where 8 (some .int) 3 tX3_where := by
  intro D τ ρ A as σ post h
  unfold tX3_where at h; split at h
  · rename_i a b d; obtain ⟨c, M, rfl, hw⟩ := h
    refine met_of (P := pgX3_where) (CE := ceX3_where) (cut := cutX3_where) (by decide) kkX3_where (coX3_where l) (Nat.le_of_ble_eq_true rfl) ?_
    intro G hG
    unfold wX3_where at hw
    refine lbX3_where_0 hG c M a b d (mbX3_where_0 ?_ ?_ hw)
    · exact fun _ _ h => ⟨trivial, h⟩
    · intro _ _ _ _ _ ⟨N, h⟩; exact giX3_where_3 hG M N _ _ _ _ _ (miX3_where_3 (fun _ _ h => ⟨trivial, h⟩) N _ _ _ _ _ h)
  · exact h.elim
def bX3_mass_0 (c : CS) (a : Int32) (b : Int32) (kr : Int64 → CS → Prop)  : Prop :=
  (if (fX3_isBoxKind a) = 0 then
    kr (0 : Int64) c
  else
    (if (fX3_isEnd b) = 0 then
      kr (0 : Int64) c
    else
      (if (c.1 3) = 0 then
        kr (0 : Int64) c
      else
        (if b = 0 then
          (wX2_lowMass c a (fun r2 X2 => kr r2 X2))
        else
          (wX2_highMass c a (fun r1 X1 => kr r1 X1))))))
set_option maxRecDepth 20000 in
theorem mbX3_mass_0 {c : CS} {a : Int32} {b : Int32} {kr kq : Int64 → CS → Prop}  (hr : ∀ x X, kr x X → kq x X)  (h : bX3_mass_0 c a b kr ) : bX3_mass_0 c a b kq  := by
  unfold bX3_mass_0 at h ⊢
  by_cases hc : (fX3_isBoxKind a) = 0
  · rw [if_pos hc] at h ⊢
    exact hr _ _ h
  · rw [if_neg hc] at h ⊢
    by_cases hc : (fX3_isEnd b) = 0
    · rw [if_pos hc] at h ⊢
      exact hr _ _ h
    · rw [if_neg hc] at h ⊢
      by_cases hc : (c.1 3) = 0
      · rw [if_pos hc] at h ⊢
        exact hr _ _ h
      · rw [if_neg hc] at h ⊢
        by_cases hc : b = 0
        · rw [if_pos hc] at h ⊢
          refine mnX2_lowMass ?_ h
          intro r2 X2 h
          exact hr _ _ h
        · rw [if_neg hc] at h ⊢
          refine mnX2_highMass ?_ h
          intro r1 X1 h
          exact hr _ _ h
def wX3_mass (c : CS) (a : Int32) (b : Int32) (kr : Int64 → CS → Prop) : Prop := bX3_mass_0 c a b kr 
theorem mnX3_mass {c : CS} {a : Int32} {b : Int32} {kr kq : Int64 → CS → Prop} (hr : ∀ x X, kr x X → kq x X) (h : wX3_mass c a b kr) : wX3_mass c a b kq := mbX3_mass_0 hr  h
def tX3_mass : Tr := fun as σ k => match as with
  | [.ref 0, .int a, .int b] => ∃ (c : CS) (M : aS), σ = wC c ++ M ∧ wX3_mass c a b (fun x X => k (some (.long x)) (wC X ++ M))
  | _ => False
def ceX3_mass : List (Nat × Nat × Tr) := (2 * 136, 1, tX3_isBoxKind) :: (2 * 96, 1, tX3_isEnd) :: (2 * 143 + 1, 1 + 1, tX2_highMass) :: (2 * 139 + 1, 1 + 1, tX2_lowMass) :: []
theorem coX3_mass (l : Launch) : CEok l yX3_mass.cls 5 ceX3_mass := ce_S (okX3_isBoxKind l) (mw 458 (by decide +kernel) rfl) (mw 459 (by decide +kernel) rfl) (mw 1 (by decide +kernel) rfl) (mw 460 (by decide +kernel) rfl) (by decide) ⟨by decide, by decide⟩ (ce_S (okX3_isEnd l) (mw 417 (by decide +kernel) rfl) (mw 418 (by decide +kernel) rfl) (mw 1 (by decide +kernel) rfl) (mw 419 (by decide +kernel) rfl) (by decide) ⟨by decide, by decide⟩ (ce_V (ci := 1) (n := 1) rfl (okX2_highMass l) rcX2_highMass (mw 467 (by decide +kernel) rfl) (mw 468 (by decide +kernel) rfl) (mw 469 (by decide +kernel) rfl) (mw 3 (by decide +kernel) rfl) (mw 470 (by decide +kernel) rfl) rfl (by decide) ⟨by decide, by decide⟩ (ce_V (ci := 1) (n := 1) rfl (okX2_lowMass l) rcX2_lowMass (mw 461 (by decide +kernel) rfl) (mw 462 (by decide +kernel) rfl) (mw 463 (by decide +kernel) rfl) (mw 3 (by decide +kernel) rfl) (mw 464 (by decide +kernel) rfl) rfl (by decide) ⟨by decide, by decide⟩ (ce_0))))
abbrev cutX3_mass : List (Nat × List Nat) := []
set_option maxRecDepth 20000 in
set_option maxHeartbeats 4000000 in
theorem lbX3_mass_0 {G : Nat → LV → List Value → aS → Prop} {post : Option Value → aS → Prop} (hG : ∀ n b pc lv st σ, seg (0, fun _ => 0) pgX3_mass ceX3_mass cutX3_mass G (fun v σ => rFit (some .long) v ∧ post v σ) n b pc lv st σ → G pc lv st σ) (c : CS) (M : aS) (a : Int32) (b : Int32) (hb : bX3_mass_0 c a b (fun x X => rFit (some .long) (some (.long x)) ∧ post (some (.long x)) (wC X ++ M)) ) : G 0 [(0, .ref 0), (1, .int a), (2, .int b)] [] (wC c ++ M) := by
  unfold bX3_mass_0 at hb
  refine hG 400 false 0 _ _ _ ?_
  refine And.intro (fun (h : (fX3_isBoxKind a) = 0) => ?_) (fun (h : ¬ (fX3_isBoxKind a) = 0) => ?_)
  · rw [if_pos h] at hb
    exact hb
  · rw [if_neg h] at hb
    refine And.intro (fun (h : (fX3_isEnd b) = 0) => ?_) (fun (h : ¬ (fX3_isEnd b) = 0) => ?_)
    · rw [if_pos h] at hb
      exact hb
    · rw [if_neg h] at hb
      refine And.intro (fun (h : ¬ (c.1 3) = 0) => ?_) (fun hq => have h : (c.1 3) = 0 := Classical.not_not.mp hq; ?_)
      · rw [if_neg h] at hb
        refine And.intro (fun (h : ¬ b = 0) => ?_) (fun hq => have h : b = 0 := Classical.not_not.mp hq; ?_)
        · rw [if_neg h] at hb
          refine Exists.intro c (Exists.intro M ((And.intro rfl (mnX2_highMass ?_ hb))))
          intro r1 X1 hb
          exact hb
        · rw [if_pos h] at hb
          refine Exists.intro c (Exists.intro M ((And.intro rfl (mnX2_lowMass ?_ hb))))
          intro r2 X2 hb
          exact hb
      · rw [if_pos h] at hb
        exact hb
theorem rcX3_mass : ∀ as σ kk, tX3_mass as σ kk → ∃ a r fs, as = .ref a :: r ∧ σ[a]? = some (.inr (2, fs)) := by
  intro as σ kk h
  unfold tX3_mass at h; split at h
  · obtain ⟨c, M, rfl, -⟩ := h
    exact ⟨_, _, _, rfl, rfl⟩
  · exact h.elim
set_option maxRecDepth 20000 in
theorem okX3_mass (l : Launch) : OK l yX3_mass cX3_mass 3 (some .long) 5 tX3_mass := by
  intro D τ ρ A as σ post h
  unfold tX3_mass at h; split at h
  · rename_i a b; obtain ⟨c, M, rfl, hw⟩ := h
    refine met_of (P := pgX3_mass) (CE := ceX3_mass) (cut := cutX3_mass) (by decide) kkX3_mass (coX3_mass l) (Nat.le_of_ble_eq_true rfl) ?_
    intro G hG
    unfold wX3_mass at hw
    refine lbX3_mass_0 hG c M a b (mbX3_mass_0 ?_  hw)
    · exact fun _ _ h => ⟨trivial, h⟩
  · exact h.elim
def bX3_odds_0 (c : CS) (a : Int32) (kr : Int64 → CS → Prop)  : Prop :=
  (if (fX3_isEnd a) = 0 then
    kr (0 : Int64) c
  else
    (if (c.1 3) = 0 then
      kr (0 : Int64) c
    else
      (if a = 0 then
        (wX3_lowOdds c  (fun r2 X2 => kr r2 X2))
      else
        (wX3_highOdds c  (fun r1 X1 => kr r1 X1)))))
set_option maxRecDepth 20000 in
theorem mbX3_odds_0 {c : CS} {a : Int32} {kr kq : Int64 → CS → Prop}  (hr : ∀ x X, kr x X → kq x X)  (h : bX3_odds_0 c a kr ) : bX3_odds_0 c a kq  := by
  unfold bX3_odds_0 at h ⊢
  by_cases hc : (fX3_isEnd a) = 0
  · rw [if_pos hc] at h ⊢
    exact hr _ _ h
  · rw [if_neg hc] at h ⊢
    by_cases hc : (c.1 3) = 0
    · rw [if_pos hc] at h ⊢
      exact hr _ _ h
    · rw [if_neg hc] at h ⊢
      by_cases hc : a = 0
      · rw [if_pos hc] at h ⊢
        refine mnX3_lowOdds ?_ h
        intro r2 X2 h
        exact hr _ _ h
      · rw [if_neg hc] at h ⊢
        refine mnX3_highOdds ?_ h
        intro r1 X1 h
        exact hr _ _ h
def wX3_odds (c : CS) (a : Int32) (kr : Int64 → CS → Prop) : Prop := bX3_odds_0 c a kr 
theorem mnX3_odds {c : CS} {a : Int32} {kr kq : Int64 → CS → Prop} (hr : ∀ x X, kr x X → kq x X) (h : wX3_odds c a kr) : wX3_odds c a kq := mbX3_odds_0 hr  h
def tX3_odds : Tr := fun as σ k => match as with
  | [.ref 0, .int a] => ∃ (c : CS) (M : aS), σ = wC c ++ M ∧ wX3_odds c a (fun x X => k (some (.long x)) (wC X ++ M))
  | _ => False
def ceX3_odds : List (Nat × Nat × Tr) := (2 * 96, 1, tX3_isEnd) :: (2 * 150 + 1, 0 + 1, tX3_highOdds) :: (2 * 146 + 1, 0 + 1, tX3_lowOdds) :: []
theorem coX3_odds (l : Launch) : CEok l yX3_odds.cls 6 ceX3_odds := ce_S (okX3_isEnd l) (mw 417 (by decide +kernel) rfl) (mw 418 (by decide +kernel) rfl) (mw 1 (by decide +kernel) rfl) (mw 419 (by decide +kernel) rfl) (by decide) ⟨by decide, by decide⟩ (ce_V (ci := 2) (n := 0) rfl (okX3_highOdds l) rcX3_highOdds (mw 483 (by decide +kernel) rfl) (mw 485 (by decide +kernel) rfl) (ms 14 (by decide +kernel) rfl) (mw 1 (by decide +kernel) rfl) (mw 486 (by decide +kernel) rfl) rfl (by decide) ⟨by decide, by decide⟩ (ce_V (ci := 2) (n := 0) rfl (okX3_lowOdds l) rcX3_lowOdds (mw 476 (by decide +kernel) rfl) (mw 478 (by decide +kernel) rfl) (ms 13 (by decide +kernel) rfl) (mw 1 (by decide +kernel) rfl) (mw 479 (by decide +kernel) rfl) rfl (by decide) ⟨by decide, by decide⟩ (ce_0)))
abbrev cutX3_odds : List (Nat × List Nat) := []
set_option maxRecDepth 20000 in
set_option maxHeartbeats 4000000 in
theorem lbX3_odds_0 {G : Nat → LV → List Value → aS → Prop} {post : Option Value → aS → Prop} (hG : ∀ n b pc lv st σ, seg (0, fun _ => 0) pgX3_odds ceX3_odds cutX3_odds G (fun v σ => rFit (some .long) v ∧ post v σ) n b pc lv st σ → G pc lv st σ) (c : CS) (M : aS) (a : Int32) (hb : bX3_odds_0 c a (fun x X => rFit (some .long) (some (.long x)) ∧ post (some (.long x)) (wC X ++ M)) ) : G 0 [(0, .ref 0), (1, .int a)] [] (wC c ++ M) := by
  unfold bX3_odds_0 at hb
  refine hG 400 false 0 _ _ _ ?_
  refine And.intro (fun (h : (fX3_isEnd a) = 0) => ?_) (fun (h : ¬ (fX3_isEnd a) = 0) => ?_)
  · rw [if_pos h] at hb
    exact hb
  · rw [if_neg h] at hb
    refine And.intro (fun (h : ¬ (c.1 3) = 0) => ?_) (fun hq => have h : (c.1 3) = 0 := Classical.not_not.mp hq; ?_)
    · rw [if_neg h] at hb
      refine And.intro (fun (h : ¬ a = 0) => ?_) (fun hq => have h : a = 0 := Classical.not_not.mp hq; ?_)
      · rw [if_neg h] at hb
        refine Exists.intro c (Exists.intro M ((And.intro rfl (mnX3_highOdds ?_ hb))))
        intro r1 X1 hb
        exact hb
      · rw [if_pos h] at hb
        refine Exists.intro c (Exists.intro M ((And.intro rfl (mnX3_lowOdds ?_ hb))))
        intro r2 X2 hb
        exact hb
    · rw [if_pos h] at hb
      exact hb
theorem rcX3_odds : ∀ as σ kk, tX3_odds as σ kk → ∃ a r fs, as = .ref a :: r ∧ σ[a]? = some (.inr (2, fs)) := by
  intro as σ kk h
  unfold tX3_odds at h; split at h
  · obtain ⟨c, M, rfl, -⟩ := h
    exact ⟨_, _, _, rfl, rfl⟩
  · exact h.elim
set_option maxRecDepth 20000 in
theorem okX3_odds (l : Launch) : OK l yX3_odds cX3_odds 2 (some .long) 6 tX3_odds := by
  intro D τ ρ A as σ post h
  unfold tX3_odds at h; split at h
  · rename_i a; obtain ⟨c, M, rfl, hw⟩ := h
    refine met_of (P := pgX3_odds) (CE := ceX3_odds) (cut := cutX3_odds) (by decide) kkX3_odds (coX3_odds l) (Nat.le_of_ble_eq_true rfl) ?_
    intro G hG
    unfold wX3_odds at hw
    refine lbX3_odds_0 hG c M a (mbX3_odds_0 ?_  hw)
    · exact fun _ _ h => ⟨trivial, h⟩
  · exact h.elim
def bX3_count_0 (c : CS) (a : Int32) (kr : Int32 → CS → Prop)  : Prop :=
  (if a.toInt < 0 ∨ 4 < a.toInt then
    kr (-2 : Int32) c
  else if a = (0 : Int32) then
    kr (c.1 0) c
  else if a = (1 : Int32) then
    kr (c.1 2) c
  else if a = (2 : Int32) then
    kr (c.1 3) c
  else if a = (3 : Int32) then
    (if (c.1 3) = 0 then
      kr (0 : Int32) c
    else
      kr ((c.1 3) - (1 : Int32)) c)
  else
    (wX2_howManyStuck c  (fun r1 X1 => kr r1 X1)))
set_option maxRecDepth 20000 in
theorem mbX3_count_0 {c : CS} {a : Int32} {kr kq : Int32 → CS → Prop}  (hr : ∀ x X, kr x X → kq x X)  (h : bX3_count_0 c a kr ) : bX3_count_0 c a kq  := by
  unfold bX3_count_0 at h ⊢
  by_cases hc : a.toInt < 0 ∨ 4 < a.toInt
  · rw [if_pos hc] at h ⊢
    exact hr _ _ h
  rw [if_neg hc] at h ⊢
  by_cases hc : a = (0 : Int32)
  · rw [if_pos hc] at h ⊢
    exact hr _ _ h
  rw [if_neg hc] at h ⊢
  by_cases hc : a = (1 : Int32)
  · rw [if_pos hc] at h ⊢
    exact hr _ _ h
  rw [if_neg hc] at h ⊢
  by_cases hc : a = (2 : Int32)
  · rw [if_pos hc] at h ⊢
    exact hr _ _ h
  rw [if_neg hc] at h ⊢
  by_cases hc : a = (3 : Int32)
  · rw [if_pos hc] at h ⊢
    by_cases hc : (c.1 3) = 0
    · rw [if_pos hc] at h ⊢
      exact hr _ _ h
    · rw [if_neg hc] at h ⊢
      exact hr _ _ h
  rw [if_neg hc] at h ⊢
  refine mnX2_howManyStuck ?_ h
  intro r1 X1 h
  exact hr _ _ h
def wX3_count (c : CS) (a : Int32) (kr : Int32 → CS → Prop) : Prop := bX3_count_0 c a kr 
theorem mnX3_count {c : CS} {a : Int32} {kr kq : Int32 → CS → Prop} (hr : ∀ x X, kr x X → kq x X) (h : wX3_count c a kr) : wX3_count c a kq := mbX3_count_0 hr  h
def tX3_count : Tr := fun as σ k => match as with
  | [.ref 0, .int a] => ∃ (c : CS) (M : aS), σ = wC c ++ M ∧ wX3_count c a (fun x X => k (some (.int x)) (wC X ++ M))
  | _ => False
def ceX3_count : List (Nat × Nat × Tr) := (2 * 159 + 1, 0 + 1, tX2_howManyStuck) :: []
theorem coX3_count (l : Launch) : CEok l yX3_count.cls 1 ceX3_count := ce_V (ci := 1) (n := 0) rfl (okX2_howManyStuck l) rcX2_howManyStuck (mw 494 (by decide +kernel) rfl) (mw 495 (by decide +kernel) rfl) (mw 496 (by decide +kernel) rfl) (mw 3 (by decide +kernel) rfl) (mw 497 (by decide +kernel) rfl) rfl (by decide) ⟨by decide, by decide⟩ (ce_0)
abbrev cutX3_count : List (Nat × List Nat) := []
set_option maxRecDepth 20000 in
set_option maxHeartbeats 4000000 in
theorem lbX3_count_0 {G : Nat → LV → List Value → aS → Prop} {post : Option Value → aS → Prop} (hG : ∀ n b pc lv st σ, seg (0, fun _ => 0) pgX3_count ceX3_count cutX3_count G (fun v σ => rFit (some .int) v ∧ post v σ) n b pc lv st σ → G pc lv st σ) (c : CS) (M : aS) (a : Int32) (hb : bX3_count_0 c a (fun x X => rFit (some .int) (some (.int x)) ∧ post (some (.int x)) (wC X ++ M)) ) : G 0 [(0, .ref 0), (1, .int a)] [] (wC c ++ M) := by
  unfold bX3_count_0 at hb
  refine hG 400 false 0 _ _ _ ?_
  refine And.intro (fun (h : a.toInt < 0 ∨ 4 < a.toInt) => ?_) ?_
  · rw [if_pos h] at hb
    exact hb
  refine And.intro (fun (hw : a = (0 : Int32)) => ?_) ?_
  · rw [if_neg (show ¬ (a.toInt < 0 ∨ 4 < a.toInt) by rw [hw]; decide), if_pos hw] at hb
    exact hb
  refine And.intro (fun (hw : a = (1 : Int32)) => ?_) ?_
  · rw [if_neg (show ¬ (a.toInt < 0 ∨ 4 < a.toInt) by rw [hw]; decide), if_neg (show ¬ (a = (0 : Int32)) by rw [hw]; decide), if_pos hw] at hb
    exact hb
  refine And.intro (fun (hw : a = (2 : Int32)) => ?_) ?_
  · rw [if_neg (show ¬ (a.toInt < 0 ∨ 4 < a.toInt) by rw [hw]; decide), if_neg (show ¬ (a = (0 : Int32)) by rw [hw]; decide), if_neg (show ¬ (a = (1 : Int32)) by rw [hw]; decide), if_pos hw] at hb
    exact hb
  refine And.intro (fun (hw : a = (3 : Int32)) => ?_) ?_
  · rw [if_neg (show ¬ (a.toInt < 0 ∨ 4 < a.toInt) by rw [hw]; decide), if_neg (show ¬ (a = (0 : Int32)) by rw [hw]; decide), if_neg (show ¬ (a = (1 : Int32)) by rw [hw]; decide), if_neg (show ¬ (a = (2 : Int32)) by rw [hw]; decide), if_pos hw] at hb
    refine And.intro (fun (h : ¬ (c.1 3) = 0) => ?_) (fun hq => have h : (c.1 3) = 0 := Classical.not_not.mp hq; ?_)
    · rw [if_neg h] at hb
      exact hb
    · rw [if_pos h] at hb
      exact hb
  refine And.intro (fun (hw : a = (4 : Int32)) => ?_) ?_
  · rw [if_neg (show ¬ (a.toInt < 0 ∨ 4 < a.toInt) by rw [hw]; decide), if_neg (show ¬ (a = (0 : Int32)) by rw [hw]; decide), if_neg (show ¬ (a = (1 : Int32)) by rw [hw]; decide), if_neg (show ¬ (a = (2 : Int32)) by rw [hw]; decide), if_neg (show ¬ (a = (3 : Int32)) by rw [hw]; decide)] at hb
    refine Exists.intro c (Exists.intro M ((And.intro rfl (mnX2_howManyStuck ?_ hb))))
    intro r1 X1 hb
    exact hb
  exact trivial
theorem rcX3_count : ∀ as σ kk, tX3_count as σ kk → ∃ a r fs, as = .ref a :: r ∧ σ[a]? = some (.inr (2, fs)) := by
  intro as σ kk h
  unfold tX3_count at h; split at h
  · obtain ⟨c, M, rfl, -⟩ := h
    exact ⟨_, _, _, rfl, rfl⟩
  · exact h.elim
set_option maxRecDepth 20000 in
theorem okX3_count (l : Launch) : OK l yX3_count cX3_count 2 (some .int) 1 tX3_count := by
  intro D τ ρ A as σ post h
  unfold tX3_count at h; split at h
  · rename_i a; obtain ⟨c, M, rfl, hw⟩ := h
    refine met_of (P := pgX3_count) (CE := ceX3_count) (cut := cutX3_count) (by decide) kkX3_count (coX3_count l) (Nat.le_of_ble_eq_true rfl) ?_
    intro G hG
    unfold wX3_count at hw
    refine lbX3_count_0 hG c M a (mbX3_count_0 ?_  hw)
    · exact fun _ _ h => ⟨trivial, h⟩
  · exact h.elim
def bX3_clear_0 (c : CS)  (kr : Int32 → CS → Prop)  : Prop :=
  (wX3_forgetRoles (setI (setI c 2 (0 : Int32)) 0 (0 : Int32))  (fun  X1 => kr (c.1 2) (gX2_end X1 )))
set_option maxRecDepth 20000 in
theorem mbX3_clear_0 {c : CS}  {kr kq : Int32 → CS → Prop}  (hr : ∀ x X, kr x X → kq x X)  (h : bX3_clear_0 c  kr ) : bX3_clear_0 c  kq  := by
  unfold bX3_clear_0 at h ⊢
  refine mnX3_forgetRoles ?_ h
  intro  X1 h
  exact hr _ _ h
def wX3_clear (c : CS)  (kr : Int32 → CS → Prop) : Prop := bX3_clear_0 c  kr 
theorem mnX3_clear {c : CS}  {kr kq : Int32 → CS → Prop} (hr : ∀ x X, kr x X → kq x X) (h : wX3_clear c  kr) : wX3_clear c  kq := mbX3_clear_0 hr  h
def tX3_clear : Tr := fun as σ k => match as with
  | [.ref 0] => ∃ (c : CS) (M : aS), σ = wC c ++ M ∧ wX3_clear c  (fun x X => k (some (.int x)) (wC X ++ M))
  | _ => False
def ceX3_clear : List (Nat × Nat × Tr) := (2 * 48 + 1, 0 + 1, tX3_forgetRoles) :: (2 * 51 + 1, 0 + 1, tX2_end) :: []
theorem coX3_clear (l : Launch) : CEok l yX3_clear.cls 1 ceX3_clear := ce_V (ci := 2) (n := 0) rfl (okX3_forgetRoles l) rcX3_forgetRoles (mw 143 (by decide +kernel) rfl) (mw 145 (by decide +kernel) rfl) (ms 0 (by decide +kernel) rfl) (mw 1 (by decide +kernel) rfl) (mw 146 (by decide +kernel) rfl) rfl (by decide) ⟨by decide, by decide⟩ (ce_V (ci := 1) (n := 0) rfl (okX2_end l) rcX2_end (mw 147 (by decide +kernel) rfl) (mw 148 (by decide +kernel) rfl) (mw 149 (by decide +kernel) rfl) (mw 3 (by decide +kernel) rfl) (mw 150 (by decide +kernel) rfl) rfl (by decide) ⟨by decide, by decide⟩ (ce_0))
abbrev cutX3_clear : List (Nat × List Nat) := []
set_option maxRecDepth 20000 in
set_option maxHeartbeats 4000000 in
theorem lbX3_clear_0 {G : Nat → LV → List Value → aS → Prop} {post : Option Value → aS → Prop} (hG : ∀ n b pc lv st σ, seg (0, fun _ => 0) pgX3_clear ceX3_clear cutX3_clear G (fun v σ => rFit (some .int) v ∧ post v σ) n b pc lv st σ → G pc lv st σ) (c : CS) (M : aS)  (hb : bX3_clear_0 c  (fun x X => rFit (some .int) (some (.int x)) ∧ post (some (.int x)) (wC X ++ M)) ) : G 0 [(0, .ref 0)] [] (wC c ++ M) := by
  unfold bX3_clear_0 at hb
  refine hG 400 false 0 _ _ _ ?_
  refine Exists.intro (setI (setI c 2 (0 : Int32)) 0 (0 : Int32)) (Exists.intro M ((And.intro rfl (mnX3_forgetRoles ?_ hb))))
  intro  X1 hb
  refine Exists.intro X1 (Exists.intro M ((And.intro rfl (?_))))
  exact hb
theorem rcX3_clear : ∀ as σ kk, tX3_clear as σ kk → ∃ a r fs, as = .ref a :: r ∧ σ[a]? = some (.inr (2, fs)) := by
  intro as σ kk h
  unfold tX3_clear at h; split at h
  · obtain ⟨c, M, rfl, -⟩ := h
    exact ⟨_, _, _, rfl, rfl⟩
  · exact h.elim
set_option maxRecDepth 20000 in
theorem okX3_clear (l : Launch) : OK l yX3_clear cX3_clear 2 (some .int) 1 tX3_clear := by
  intro D τ ρ A as σ post h
  unfold tX3_clear at h; split at h
  · obtain ⟨c, M, rfl, hw⟩ := h
    refine met_of (P := pgX3_clear) (CE := ceX3_clear) (cut := cutX3_clear) (by decide) kkX3_clear (coX3_clear l) (Nat.le_of_ble_eq_true rfl) ?_
    intro G hG
    unfold wX3_clear at hw
    refine lbX3_clear_0 hG c M  (mbX3_clear_0 ?_  hw)
    · exact fun _ _ h => ⟨trivial, h⟩
  · exact h.elim
end
section
def bJxe99ae_isNaN_b9ae7_0 (a : UInt64) (kr : Int32 → Prop)  : Prop :=
  (if (Op.cmpValue (FP.dcmp a a) .l) = 0 then
    kr (0 : Int32) 
  else
    kr (1 : Int32) )
set_option maxRecDepth 20000 in
theorem mbJxe99ae_isNaN_b9ae7_0 {a : UInt64} {kr kq : Int32 → Prop}  (hr : ∀ x , (x = 0 ∨ x = 1) → kr x  → kq x )  (h : bJxe99ae_isNaN_b9ae7_0 a kr ) : bJxe99ae_isNaN_b9ae7_0 a kq  := by
  unfold bJxe99ae_isNaN_b9ae7_0 at h ⊢
  by_cases hc : (Op.cmpValue (FP.dcmp a a) .l) = 0
  · rw [if_pos hc] at h ⊢
    exact hr _ (Or.inl rfl) h
  · rw [if_neg hc] at h ⊢
    exact hr _ (Or.inr rfl) h
def wJxe99ae_isNaN_b9ae7 (a : UInt64) (kr : Int32 → Prop) : Prop := bJxe99ae_isNaN_b9ae7_0 a kr 
theorem mnJxe99ae_isNaN_b9ae7 {a : UInt64} {kr kq : Int32 → Prop} (hr : ∀ x , (x = 0 ∨ x = 1) → kr x  → kq x ) (h : wJxe99ae_isNaN_b9ae7 a kr) : wJxe99ae_isNaN_b9ae7 a kq := mbJxe99ae_isNaN_b9ae7_0 hr  h
def tJxe99ae_isNaN_b9ae7 : Tr := fun as σ k => match as with
  | [.double a] => True ∧ wJxe99ae_isNaN_b9ae7 a (fun x  => k (some (.int x)) (σ))
  | _ => False
def ceJxe99ae_isNaN_b9ae7 : List (Nat × Nat × Tr) := []
theorem coJxe99ae_isNaN_b9ae7 (l : Launch) : CEok l yJxe99ae_isNaN_b9ae7.cls 0 ceJxe99ae_isNaN_b9ae7 := ce_0
abbrev cutJxe99ae_isNaN_b9ae7 : List (Nat × List Nat) := []
set_option maxRecDepth 20000 in
set_option maxHeartbeats 4000000 in
theorem lbJxe99ae_isNaN_b9ae7_0 {G : Nat → LV → List Value → aS → Prop} {post : Option Value → aS → Prop} (hG : ∀ n b pc lv st σ, seg (0, fun _ => 0) pgJxe99ae_isNaN_b9ae7 ceJxe99ae_isNaN_b9ae7 cutJxe99ae_isNaN_b9ae7 G (fun v σ => rFit (some .boolean) v ∧ post v σ) n b pc lv st σ → G pc lv st σ) (σ : aS) (a : UInt64) (hb : bJxe99ae_isNaN_b9ae7_0 a (fun x  => rFit (some .boolean) (some (.int x)) ∧ post (some (.int x)) (σ)) ) : G 0 [(0, .double a)] [] (σ) := by
  unfold bJxe99ae_isNaN_b9ae7_0 at hb
  refine hG 400 false 0 _ _ _ ?_
  refine And.intro (fun (h : (Op.cmpValue (FP.dcmp a a) .l) = 0) => ?_) (fun (h : ¬ (Op.cmpValue (FP.dcmp a a) .l) = 0) => ?_)
  · rw [if_pos h] at hb
    exact hb
  · rw [if_neg h] at hb
    exact hb
set_option maxRecDepth 20000 in
theorem okJxe99ae_isNaN_b9ae7 (l : Launch) : OK l yJxe99ae_isNaN_b9ae7 cJxe99ae_isNaN_b9ae7 2 (some .boolean) 0 tJxe99ae_isNaN_b9ae7 := by
  intro D τ ρ A as σ post h
  unfold tJxe99ae_isNaN_b9ae7 at h; split at h
  · rename_i a; have hw := h.2
    refine met_of (P := pgJxe99ae_isNaN_b9ae7) (CE := ceJxe99ae_isNaN_b9ae7) (cut := cutJxe99ae_isNaN_b9ae7) (by decide) kkJxe99ae_isNaN_b9ae7 (coJxe99ae_isNaN_b9ae7 l) (Nat.le_of_ble_eq_true rfl) ?_
    intro G hG
    unfold wJxe99ae_isNaN_b9ae7 at hw
    refine lbJxe99ae_isNaN_b9ae7_0 hG σ a (mbJxe99ae_isNaN_b9ae7_0 ?_  hw)
    · exact fun _ hf h => ⟨hf, h⟩
  · exact h.elim
def bJxe99ae_doubleToLongBits_ccdee_0 (a : UInt64) (kr : Int64 → Prop)  : Prop :=
  (wJxe99ae_isNaN_b9ae7 a (fun r1 => (if r1 = 0 then
    kr a.toInt64 
  else
    kr (9221120237041090560 : Int64) )))
set_option maxRecDepth 20000 in
theorem mbJxe99ae_doubleToLongBits_ccdee_0 {a : UInt64} {kr kq : Int64 → Prop}  (hr : ∀ x , kr x  → kq x )  (h : bJxe99ae_doubleToLongBits_ccdee_0 a kr ) : bJxe99ae_doubleToLongBits_ccdee_0 a kq  := by
  unfold bJxe99ae_doubleToLongBits_ccdee_0 at h ⊢
  refine mnJxe99ae_isNaN_b9ae7 ?_ h
  intro r1 _ h
  by_cases hc : r1 = 0
  · rw [if_pos hc] at h ⊢
    exact hr _ h
  · rw [if_neg hc] at h ⊢
    exact hr _ h
def wJxe99ae_doubleToLongBits_ccdee (a : UInt64) (kr : Int64 → Prop) : Prop := bJxe99ae_doubleToLongBits_ccdee_0 a kr 
theorem mnJxe99ae_doubleToLongBits_ccdee {a : UInt64} {kr kq : Int64 → Prop} (hr : ∀ x , kr x  → kq x ) (h : wJxe99ae_doubleToLongBits_ccdee a kr) : wJxe99ae_doubleToLongBits_ccdee a kq := mbJxe99ae_doubleToLongBits_ccdee_0 hr  h
def tJxe99ae_doubleToLongBits_ccdee : Tr := fun as σ k => match as with
  | [.double a] => True ∧ wJxe99ae_doubleToLongBits_ccdee a (fun x  => k (some (.long x)) (σ))
  | _ => False
def ceJxe99ae_doubleToLongBits_ccdee : List (Nat × Nat × Tr) := (2 * 122, 1, tJxe99ae_isNaN_b9ae7) :: (2 * 134, 1, tD2L) :: []
theorem coJxe99ae_doubleToLongBits_ccdee (l : Launch) : CEok l yJxe99ae_doubleToLongBits_ccdee.cls 1 ceJxe99ae_doubleToLongBits_ccdee := ce_S (okJxe99ae_isNaN_b9ae7 l) (mw 778 (by decide +kernel) rfl) (mw 779 (by decide +kernel) rfl) (mw 6 (by decide +kernel) rfl) (mw 780 (by decide +kernel) rfl) (by decide) ⟨by decide, by decide⟩ (ce_D2L (mw 781 (by decide +kernel) rfl) (by decide) (ce_0))
abbrev cutJxe99ae_doubleToLongBits_ccdee : List (Nat × List Nat) := []
set_option maxRecDepth 20000 in
set_option maxHeartbeats 4000000 in
theorem lbJxe99ae_doubleToLongBits_ccdee_0 {G : Nat → LV → List Value → aS → Prop} {post : Option Value → aS → Prop} (hG : ∀ n b pc lv st σ, seg (0, fun _ => 0) pgJxe99ae_doubleToLongBits_ccdee ceJxe99ae_doubleToLongBits_ccdee cutJxe99ae_doubleToLongBits_ccdee G (fun v σ => rFit (some .long) v ∧ post v σ) n b pc lv st σ → G pc lv st σ) (σ : aS) (a : UInt64) (hb : bJxe99ae_doubleToLongBits_ccdee_0 a (fun x  => rFit (some .long) (some (.long x)) ∧ post (some (.long x)) (σ)) ) : G 0 [(0, .double a)] [] (σ) := by
  unfold bJxe99ae_doubleToLongBits_ccdee_0 at hb
  refine hG 400 false 0 _ _ _ ?_
  refine And.intro trivial (mnJxe99ae_isNaN_b9ae7 ?_ hb)
  intro r1 _ hb
  refine And.intro (fun (h : ¬ r1 = 0) => ?_) (fun hq => have h : r1 = 0 := Classical.not_not.mp hq; ?_)
  · rw [if_neg h] at hb
    exact hb
  · rw [if_pos h] at hb
    exact hb
set_option maxRecDepth 20000 in
theorem okJxe99ae_doubleToLongBits_ccdee (l : Launch) : OK l yJxe99ae_doubleToLongBits_ccdee cJxe99ae_doubleToLongBits_ccdee 2 (some .long) 1 tJxe99ae_doubleToLongBits_ccdee := by
  intro D τ ρ A as σ post h
  unfold tJxe99ae_doubleToLongBits_ccdee at h; split at h
  · rename_i a; have hw := h.2
    refine met_of (P := pgJxe99ae_doubleToLongBits_ccdee) (CE := ceJxe99ae_doubleToLongBits_ccdee) (cut := cutJxe99ae_doubleToLongBits_ccdee) (by decide) kkJxe99ae_doubleToLongBits_ccdee (coJxe99ae_doubleToLongBits_ccdee l) (Nat.le_of_ble_eq_true rfl) ?_
    intro G hG
    unfold wJxe99ae_doubleToLongBits_ccdee at hw
    refine lbJxe99ae_doubleToLongBits_ccdee_0 hG σ a (mbJxe99ae_doubleToLongBits_ccdee_0 ?_  hw)
    · exact fun _ h => ⟨trivial, h⟩
  · exact h.elim
def bX4_in_0 (a : Int32) (b : Int32) (d : Int32) (kr : Int32 → Prop)  : Prop :=
  (if a < b then
    kr (0 : Int32) 
  else
    (if d < a then
      kr (0 : Int32) 
    else
      kr (1 : Int32) ))
set_option maxRecDepth 20000 in
theorem mbX4_in_0 {a : Int32} {b : Int32} {d : Int32} {kr kq : Int32 → Prop}  (hr : ∀ x , (x = 0 ∨ x = 1) → kr x  → kq x )  (h : bX4_in_0 a b d kr ) : bX4_in_0 a b d kq  := by
  unfold bX4_in_0 at h ⊢
  by_cases hc : a < b
  · rw [if_pos hc] at h ⊢
    exact hr _ (Or.inl rfl) h
  · rw [if_neg hc] at h ⊢
    by_cases hc : d < a
    · rw [if_pos hc] at h ⊢
      exact hr _ (Or.inl rfl) h
    · rw [if_neg hc] at h ⊢
      exact hr _ (Or.inr rfl) h
def wX4_in (a : Int32) (b : Int32) (d : Int32) (kr : Int32 → Prop) : Prop := bX4_in_0 a b d kr 
theorem mnX4_in {a : Int32} {b : Int32} {d : Int32} {kr kq : Int32 → Prop} (hr : ∀ x , (x = 0 ∨ x = 1) → kr x  → kq x ) (h : wX4_in a b d kr) : wX4_in a b d kq := mbX4_in_0 hr  h
def tX4_in : Tr := fun as σ k => match as with
  | [.int a, .int b, .int d] => True ∧ wX4_in a b d (fun x  => k (some (.int x)) (σ))
  | _ => False
def ceX4_in : List (Nat × Nat × Tr) := []
theorem coX4_in (l : Launch) : CEok l yX4_in.cls 0 ceX4_in := ce_0
abbrev cutX4_in : List (Nat × List Nat) := []
set_option maxRecDepth 20000 in
set_option maxHeartbeats 4000000 in
theorem lbX4_in_0 {G : Nat → LV → List Value → aS → Prop} {post : Option Value → aS → Prop} (hG : ∀ n b pc lv st σ, seg (0, fun _ => 0) pgX4_in ceX4_in cutX4_in G (fun v σ => rFit (some .boolean) v ∧ post v σ) n b pc lv st σ → G pc lv st σ) (σ : aS) (a : Int32) (b : Int32) (d : Int32) (hb : bX4_in_0 a b d (fun x  => rFit (some .boolean) (some (.int x)) ∧ post (some (.int x)) (σ)) ) : G 0 [(0, .int a), (1, .int b), (2, .int d)] [] (σ) := by
  unfold bX4_in_0 at hb
  refine hG 400 false 0 _ _ _ ?_
  refine And.intro (fun (h : a < b) => ?_) (fun (h : ¬ a < b) => ?_)
  · rw [if_pos h] at hb
    exact hb
  · rw [if_neg h] at hb
    refine And.intro (fun (h : d < a) => ?_) (fun (h : ¬ d < a) => ?_)
    · rw [if_pos h] at hb
      exact hb
    · rw [if_neg h] at hb
      exact hb
set_option maxRecDepth 20000 in
theorem okX4_in (l : Launch) : OK l yX4_in cX4_in 3 (some .boolean) 0 tX4_in := by
  intro D τ ρ A as σ post h
  unfold tX4_in at h; split at h
  · rename_i a b d; have hw := h.2
    refine met_of (P := pgX4_in) (CE := ceX4_in) (cut := cutX4_in) (by decide) kkX4_in (coX4_in l) (Nat.le_of_ble_eq_true rfl) ?_
    intro G hG
    unfold wX4_in at hw
    refine lbX4_in_0 hG σ a b d (mbX4_in_0 ?_  hw)
    · exact fun _ hf h => ⟨hf, h⟩
  · exact h.elim
def bX4_bits_0 (a : UInt64) (kr : Int64 → Prop)  : Prop :=
  (wJxe99ae_doubleToLongBits_ccdee a (fun r1 => kr r1 ))
set_option maxRecDepth 20000 in
theorem mbX4_bits_0 {a : UInt64} {kr kq : Int64 → Prop}  (hr : ∀ x , kr x  → kq x )  (h : bX4_bits_0 a kr ) : bX4_bits_0 a kq  := by
  unfold bX4_bits_0 at h ⊢
  refine mnJxe99ae_doubleToLongBits_ccdee ?_ h
  intro r1 h
  exact hr _ h
def wX4_bits (a : UInt64) (kr : Int64 → Prop) : Prop := bX4_bits_0 a kr 
theorem mnX4_bits {a : UInt64} {kr kq : Int64 → Prop} (hr : ∀ x , kr x  → kq x ) (h : wX4_bits a kr) : wX4_bits a kq := mbX4_bits_0 hr  h
def tX4_bits : Tr := fun as σ k => match as with
  | [.double a] => True ∧ wX4_bits a (fun x  => k (some (.long x)) (σ))
  | _ => False
def ceX4_bits : List (Nat × Nat × Tr) := (2 * 60, 1, tJxe99ae_doubleToLongBits_ccdee) :: []
theorem coX4_bits (l : Launch) : CEok l yX4_bits.cls 2 ceX4_bits := ce_S (okJxe99ae_doubleToLongBits_ccdee l) (mw 775 (by decide +kernel) rfl) (mw 776 (by decide +kernel) rfl) (mw 6 (by decide +kernel) rfl) (mw 777 (by decide +kernel) rfl) (by decide) ⟨by decide, by decide⟩ (ce_0)
abbrev cutX4_bits : List (Nat × List Nat) := []
set_option maxRecDepth 20000 in
set_option maxHeartbeats 4000000 in
theorem lbX4_bits_0 {G : Nat → LV → List Value → aS → Prop} {post : Option Value → aS → Prop} (hG : ∀ n b pc lv st σ, seg (0, fun _ => 0) pgX4_bits ceX4_bits cutX4_bits G (fun v σ => rFit (some .long) v ∧ post v σ) n b pc lv st σ → G pc lv st σ) (σ : aS) (a : UInt64) (hb : bX4_bits_0 a (fun x  => rFit (some .long) (some (.long x)) ∧ post (some (.long x)) (σ)) ) : G 0 [(0, .double a)] [] (σ) := by
  unfold bX4_bits_0 at hb
  refine hG 400 false 0 _ _ _ ?_
  refine And.intro trivial (mnJxe99ae_doubleToLongBits_ccdee ?_ hb)
  intro r1 hb
  exact hb
set_option maxRecDepth 20000 in
theorem okX4_bits (l : Launch) : OK l yX4_bits cX4_bits 2 (some .long) 2 tX4_bits := by
  intro D τ ρ A as σ post h
  unfold tX4_bits at h; split at h
  · rename_i a; have hw := h.2
    refine met_of (P := pgX4_bits) (CE := ceX4_bits) (cut := cutX4_bits) (by decide) kkX4_bits (coX4_bits l) (Nat.le_of_ble_eq_true rfl) ?_
    intro G hG
    unfold wX4_bits at hw
    refine lbX4_bits_0 hG σ a (mbX4_bits_0 ?_  hw)
    · exact fun _ h => ⟨trivial, h⟩
  · exact h.elim
def bX4_of_0 (a : Int64) (kr : UInt64 → Prop)  : Prop :=
  (if (lg_cmp (a &&& (9223372036854775807 : Int64)) (9218868437227405312 : Int64)) ≤ 0 then
    (vn_snl2d a = false ∧ kr a.toUInt64 )
  else
    kr (9221120237041090560 : UInt64) )
set_option maxRecDepth 20000 in
theorem mbX4_of_0 {a : Int64} {kr kq : UInt64 → Prop}  (hr : ∀ x , kr x  → kq x )  (h : bX4_of_0 a kr ) : bX4_of_0 a kq  := by
  unfold bX4_of_0 at h ⊢
  by_cases hc : (lg_cmp (a &&& (9223372036854775807 : Int64)) (9218868437227405312 : Int64)) ≤ 0
  · rw [if_pos hc] at h ⊢
    obtain ⟨hi, h⟩ := h
    refine And.intro hi ?_
    exact hr _ h
  · rw [if_neg hc] at h ⊢
    exact hr _ h
def wX4_of (a : Int64) (kr : UInt64 → Prop) : Prop := bX4_of_0 a kr 
theorem mnX4_of {a : Int64} {kr kq : UInt64 → Prop} (hr : ∀ x , kr x  → kq x ) (h : wX4_of a kr) : wX4_of a kq := mbX4_of_0 hr  h
def tX4_of : Tr := fun as σ k => match as with
  | [.long a] => True ∧ wX4_of a (fun x  => k (some (.double x)) (σ))
  | _ => False
def ceX4_of : List (Nat × Nat × Tr) := (2 * 72, 1, tL2D) :: []
theorem coX4_of (l : Launch) : CEok l yX4_of.cls 1 ceX4_of := ce_L2D (mw 713 (by decide +kernel) rfl) (by decide) (ce_0)
abbrev cutX4_of : List (Nat × List Nat) := []
set_option maxRecDepth 20000 in
set_option maxHeartbeats 4000000 in
theorem lbX4_of_0 {G : Nat → LV → List Value → aS → Prop} {post : Option Value → aS → Prop} (hG : ∀ n b pc lv st σ, seg (0, fun _ => 0) pgX4_of ceX4_of cutX4_of G (fun v σ => rFit (some .double) v ∧ post v σ) n b pc lv st σ → G pc lv st σ) (σ : aS) (a : Int64) (hb : bX4_of_0 a (fun x  => rFit (some .double) (some (.double x)) ∧ post (some (.double x)) (σ)) ) : G 0 [(0, .long a)] [] (σ) := by
  unfold bX4_of_0 at hb
  refine hG 400 false 0 _ _ _ ?_
  refine And.intro (fun (h : (lg_cmp (a &&& (9223372036854775807 : Int64)) (9218868437227405312 : Int64)) ≤ 0) => ?_) (fun (h : ¬ (lg_cmp (a &&& (9223372036854775807 : Int64)) (9218868437227405312 : Int64)) ≤ 0) => ?_)
  · rw [if_pos h] at hb
    obtain ⟨hi, hb⟩ := hb
    refine And.intro hi ?_
    exact hb
  · rw [if_neg h] at hb
    exact hb
set_option maxRecDepth 20000 in
theorem okX4_of (l : Launch) : OK l yX4_of cX4_of 2 (some .double) 1 tX4_of := by
  intro D τ ρ A as σ post h
  unfold tX4_of at h; split at h
  · rename_i a; have hw := h.2
    refine met_of (P := pgX4_of) (CE := ceX4_of) (cut := cutX4_of) (by decide) kkX4_of (coX4_of l) (Nat.le_of_ble_eq_true rfl) ?_
    intro G hG
    unfold wX4_of at hw
    refine lbX4_of_0 hG σ a (mbX4_of_0 ?_  hw)
    · exact fun _ h => ⟨trivial, h⟩
  · exact h.elim
def bX4_isNot_0 (a : UInt64) (kr : Int32 → Prop)  : Prop :=
  (if (Op.cmpValue (FP.dcmp a a) .l) = 0 then
    kr (0 : Int32) 
  else
    kr (1 : Int32) )
set_option maxRecDepth 20000 in
theorem mbX4_isNot_0 {a : UInt64} {kr kq : Int32 → Prop}  (hr : ∀ x , (x = 0 ∨ x = 1) → kr x  → kq x )  (h : bX4_isNot_0 a kr ) : bX4_isNot_0 a kq  := by
  unfold bX4_isNot_0 at h ⊢
  by_cases hc : (Op.cmpValue (FP.dcmp a a) .l) = 0
  · rw [if_pos hc] at h ⊢
    exact hr _ (Or.inl rfl) h
  · rw [if_neg hc] at h ⊢
    exact hr _ (Or.inr rfl) h
def wX4_isNot (a : UInt64) (kr : Int32 → Prop) : Prop := bX4_isNot_0 a kr 
theorem mnX4_isNot {a : UInt64} {kr kq : Int32 → Prop} (hr : ∀ x , (x = 0 ∨ x = 1) → kr x  → kq x ) (h : wX4_isNot a kr) : wX4_isNot a kq := mbX4_isNot_0 hr  h
def tX4_isNot : Tr := fun as σ k => match as with
  | [.double a] => True ∧ wX4_isNot a (fun x  => k (some (.int x)) (σ))
  | _ => False
def ceX4_isNot : List (Nat × Nat × Tr) := []
theorem coX4_isNot (l : Launch) : CEok l yX4_isNot.cls 0 ceX4_isNot := ce_0
abbrev cutX4_isNot : List (Nat × List Nat) := []
set_option maxRecDepth 20000 in
set_option maxHeartbeats 4000000 in
theorem lbX4_isNot_0 {G : Nat → LV → List Value → aS → Prop} {post : Option Value → aS → Prop} (hG : ∀ n b pc lv st σ, seg (0, fun _ => 0) pgX4_isNot ceX4_isNot cutX4_isNot G (fun v σ => rFit (some .boolean) v ∧ post v σ) n b pc lv st σ → G pc lv st σ) (σ : aS) (a : UInt64) (hb : bX4_isNot_0 a (fun x  => rFit (some .boolean) (some (.int x)) ∧ post (some (.int x)) (σ)) ) : G 0 [(0, .double a)] [] (σ) := by
  unfold bX4_isNot_0 at hb
  refine hG 400 false 0 _ _ _ ?_
  refine And.intro (fun (h : (Op.cmpValue (FP.dcmp a a) .l) = 0) => ?_) (fun (h : ¬ (Op.cmpValue (FP.dcmp a a) .l) = 0) => ?_)
  · rw [if_pos h] at hb
    exact hb
  · rw [if_neg h] at hb
    exact hb
set_option maxRecDepth 20000 in
theorem okX4_isNot (l : Launch) : OK l yX4_isNot cX4_isNot 2 (some .boolean) 0 tX4_isNot := by
  intro D τ ρ A as σ post h
  unfold tX4_isNot at h; split at h
  · rename_i a; have hw := h.2
    refine met_of (P := pgX4_isNot) (CE := ceX4_isNot) (cut := cutX4_isNot) (by decide) kkX4_isNot (coX4_isNot l) (Nat.le_of_ble_eq_true rfl) ?_
    intro G hG
    unfold wX4_isNot at hw
    refine lbX4_isNot_0 hG σ a (mbX4_isNot_0 ?_  hw)
    · exact fun _ hf h => ⟨hf, h⟩
  · exact h.elim
def bX4_up_0 (a : UInt64) (kr : UInt64 → Prop)  : Prop :=
  (if (Op.cmpValue (FP.dcmp a a) .l) = 0 then
    (if (Op.cmpValue (FP.dcmp a (9218868437227405312 : UInt64)) .l) = 0 then
      kr a 
    else
      (if (Op.cmpValue (FP.dcmp a (FP.dconst0 : UInt64)) .l) = 0 then
        (wX4_of (1 : Int64) (fun r5 => kr r5 ))
      else
        (if (Op.cmpValue (FP.dcmp a (FP.dconst0 : UInt64)) .l) ≤ 0 then
          (wX4_bits a (fun r1 => (wX4_of (r1 - (1 : Int64)) (fun r2 => kr r2 ))))
        else
          (wX4_bits a (fun r3 => (wX4_of (r3 + (1 : Int64)) (fun r4 => kr r4 )))))))
  else
    kr a )
set_option maxRecDepth 20000 in
theorem mbX4_up_0 {a : UInt64} {kr kq : UInt64 → Prop}  (hr : ∀ x , kr x  → kq x )  (h : bX4_up_0 a kr ) : bX4_up_0 a kq  := by
  unfold bX4_up_0 at h ⊢
  by_cases hc : (Op.cmpValue (FP.dcmp a a) .l) = 0
  · rw [if_pos hc] at h ⊢
    by_cases hc : (Op.cmpValue (FP.dcmp a (9218868437227405312 : UInt64)) .l) = 0
    · rw [if_pos hc] at h ⊢
      exact hr _ h
    · rw [if_neg hc] at h ⊢
      by_cases hc : (Op.cmpValue (FP.dcmp a (FP.dconst0 : UInt64)) .l) = 0
      · rw [if_pos hc] at h ⊢
        refine mnX4_of ?_ h
        intro r5 h
        exact hr _ h
      · rw [if_neg hc] at h ⊢
        by_cases hc : (Op.cmpValue (FP.dcmp a (FP.dconst0 : UInt64)) .l) ≤ 0
        · rw [if_pos hc] at h ⊢
          refine mnX4_bits ?_ h
          intro r1 h
          refine mnX4_of ?_ h
          intro r2 h
          exact hr _ h
        · rw [if_neg hc] at h ⊢
          refine mnX4_bits ?_ h
          intro r3 h
          refine mnX4_of ?_ h
          intro r4 h
          exact hr _ h
  · rw [if_neg hc] at h ⊢
    exact hr _ h
def wX4_up (a : UInt64) (kr : UInt64 → Prop) : Prop := bX4_up_0 a kr 
theorem mnX4_up {a : UInt64} {kr kq : UInt64 → Prop} (hr : ∀ x , kr x  → kq x ) (h : wX4_up a kr) : wX4_up a kq := mbX4_up_0 hr  h
def tX4_up : Tr := fun as σ k => match as with
  | [.double a] => True ∧ wX4_up a (fun x  => k (some (.double x)) (σ))
  | _ => False
def ceX4_up : List (Nat × Nat × Tr) := (2 * 81, 1, tX4_bits) :: (2 * 78, 1, tX4_of) :: []
theorem coX4_up (l : Launch) : CEok l yX4_up.cls 3 ceX4_up := ce_S (okX4_bits l) (mw 772 (by decide +kernel) rfl) (mw 773 (by decide +kernel) rfl) (mw 4 (by decide +kernel) rfl) (mw 774 (by decide +kernel) rfl) (by decide) ⟨by decide, by decide⟩ (ce_S (okX4_of l) (mw 707 (by decide +kernel) rfl) (mw 708 (by decide +kernel) rfl) (mw 4 (by decide +kernel) rfl) (mw 709 (by decide +kernel) rfl) (by decide) ⟨by decide, by decide⟩ (ce_0))
abbrev cutX4_up : List (Nat × List Nat) := []
set_option maxRecDepth 20000 in
set_option maxHeartbeats 4000000 in
theorem lbX4_up_0 {G : Nat → LV → List Value → aS → Prop} {post : Option Value → aS → Prop} (hG : ∀ n b pc lv st σ, seg (0, fun _ => 0) pgX4_up ceX4_up cutX4_up G (fun v σ => rFit (some .double) v ∧ post v σ) n b pc lv st σ → G pc lv st σ) (σ : aS) (a : UInt64) (hb : bX4_up_0 a (fun x  => rFit (some .double) (some (.double x)) ∧ post (some (.double x)) (σ)) ) : G 0 [(0, .double a)] [] (σ) := by
  unfold bX4_up_0 at hb
  refine hG 400 false 0 _ _ _ ?_
  refine And.intro (fun (h : ¬ (Op.cmpValue (FP.dcmp a a) .l) = 0) => ?_) (fun hq => have h : (Op.cmpValue (FP.dcmp a a) .l) = 0 := Classical.not_not.mp hq; ?_)
  · rw [if_neg h] at hb
    exact hb
  · rw [if_pos h] at hb
    refine And.intro (fun (h : ¬ (Op.cmpValue (FP.dcmp a (9218868437227405312 : UInt64)) .l) = 0) => ?_) (fun hq => have h : (Op.cmpValue (FP.dcmp a (9218868437227405312 : UInt64)) .l) = 0 := Classical.not_not.mp hq; ?_)
    · rw [if_neg h] at hb
      refine And.intro (fun (h : ¬ (Op.cmpValue (FP.dcmp a (FP.dconst0 : UInt64)) .l) = 0) => ?_) (fun hq => have h : (Op.cmpValue (FP.dcmp a (FP.dconst0 : UInt64)) .l) = 0 := Classical.not_not.mp hq; ?_)
      · rw [if_neg h] at hb
        refine And.intro (fun (h : (Op.cmpValue (FP.dcmp a (FP.dconst0 : UInt64)) .l) ≤ 0) => ?_) (fun (h : ¬ (Op.cmpValue (FP.dcmp a (FP.dconst0 : UInt64)) .l) ≤ 0) => ?_)
        · rw [if_pos h] at hb
          refine And.intro trivial (mnX4_bits ?_ hb)
          intro r1 hb
          refine And.intro trivial (mnX4_of ?_ hb)
          intro r2 hb
          exact hb
        · rw [if_neg h] at hb
          refine And.intro trivial (mnX4_bits ?_ hb)
          intro r3 hb
          refine And.intro trivial (mnX4_of ?_ hb)
          intro r4 hb
          exact hb
      · rw [if_pos h] at hb
        refine And.intro trivial (mnX4_of ?_ hb)
        intro r5 hb
        exact hb
    · rw [if_pos h] at hb
      exact hb
set_option maxRecDepth 20000 in
theorem okX4_up (l : Launch) : OK l yX4_up cX4_up 2 (some .double) 3 tX4_up := by
  intro D τ ρ A as σ post h
  unfold tX4_up at h; split at h
  · rename_i a; have hw := h.2
    refine met_of (P := pgX4_up) (CE := ceX4_up) (cut := cutX4_up) (by decide) kkX4_up (coX4_up l) (Nat.le_of_ble_eq_true rfl) ?_
    intro G hG
    unfold wX4_up at hw
    refine lbX4_up_0 hG σ a (mbX4_up_0 ?_  hw)
    · exact fun _ h => ⟨trivial, h⟩
  · exact h.elim
def bX4_isMinus_0 (a : UInt64) (kr : Int32 → Prop)  : Prop :=
  (wX4_bits a (fun r1 => (if 0 ≤ (lg_cmp r1 (0 : Int64)) then
    kr (0 : Int32) 
  else
    kr (1 : Int32) )))
set_option maxRecDepth 20000 in
theorem mbX4_isMinus_0 {a : UInt64} {kr kq : Int32 → Prop}  (hr : ∀ x , (x = 0 ∨ x = 1) → kr x  → kq x )  (h : bX4_isMinus_0 a kr ) : bX4_isMinus_0 a kq  := by
  unfold bX4_isMinus_0 at h ⊢
  refine mnX4_bits ?_ h
  intro r1 h
  by_cases hc : 0 ≤ (lg_cmp r1 (0 : Int64))
  · rw [if_pos hc] at h ⊢
    exact hr _ (Or.inl rfl) h
  · rw [if_neg hc] at h ⊢
    exact hr _ (Or.inr rfl) h
def wX4_isMinus (a : UInt64) (kr : Int32 → Prop) : Prop := bX4_isMinus_0 a kr 
theorem mnX4_isMinus {a : UInt64} {kr kq : Int32 → Prop} (hr : ∀ x , (x = 0 ∨ x = 1) → kr x  → kq x ) (h : wX4_isMinus a kr) : wX4_isMinus a kq := mbX4_isMinus_0 hr  h
def tX4_isMinus : Tr := fun as σ k => match as with
  | [.double a] => True ∧ wX4_isMinus a (fun x  => k (some (.int x)) (σ))
  | _ => False
def ceX4_isMinus : List (Nat × Nat × Tr) := (2 * 81, 1, tX4_bits) :: []
theorem coX4_isMinus (l : Launch) : CEok l yX4_isMinus.cls 3 ceX4_isMinus := ce_S (okX4_bits l) (mw 772 (by decide +kernel) rfl) (mw 773 (by decide +kernel) rfl) (mw 4 (by decide +kernel) rfl) (mw 774 (by decide +kernel) rfl) (by decide) ⟨by decide, by decide⟩ (ce_0)
abbrev cutX4_isMinus : List (Nat × List Nat) := []
set_option maxRecDepth 20000 in
set_option maxHeartbeats 4000000 in
theorem lbX4_isMinus_0 {G : Nat → LV → List Value → aS → Prop} {post : Option Value → aS → Prop} (hG : ∀ n b pc lv st σ, seg (0, fun _ => 0) pgX4_isMinus ceX4_isMinus cutX4_isMinus G (fun v σ => rFit (some .boolean) v ∧ post v σ) n b pc lv st σ → G pc lv st σ) (σ : aS) (a : UInt64) (hb : bX4_isMinus_0 a (fun x  => rFit (some .boolean) (some (.int x)) ∧ post (some (.int x)) (σ)) ) : G 0 [(0, .double a)] [] (σ) := by
  unfold bX4_isMinus_0 at hb
  refine hG 400 false 0 _ _ _ ?_
  refine And.intro trivial (mnX4_bits ?_ hb)
  intro r1 hb
  refine And.intro (fun (h : 0 ≤ (lg_cmp r1 (0 : Int64))) => ?_) (fun (h : ¬ 0 ≤ (lg_cmp r1 (0 : Int64))) => ?_)
  · rw [if_pos h] at hb
    exact hb
  · rw [if_neg h] at hb
    exact hb
set_option maxRecDepth 20000 in
theorem okX4_isMinus (l : Launch) : OK l yX4_isMinus cX4_isMinus 2 (some .boolean) 3 tX4_isMinus := by
  intro D τ ρ A as σ post h
  unfold tX4_isMinus at h; split at h
  · rename_i a; have hw := h.2
    refine met_of (P := pgX4_isMinus) (CE := ceX4_isMinus) (cut := cutX4_isMinus) (by decide) kkX4_isMinus (coX4_isMinus l) (Nat.le_of_ble_eq_true rfl) ?_
    intro G hG
    unfold wX4_isMinus at hw
    refine lbX4_isMinus_0 hG σ a (mbX4_isMinus_0 ?_  hw)
    · exact fun _ hf h => ⟨hf, h⟩
  · exact h.elim
def bX4_down_0 (a : UInt64) (kr : UInt64 → Prop)  : Prop :=
  (if (Op.cmpValue (FP.dcmp a a) .l) = 0 then
    (wX4_up (FP.dneg a) (fun r1 => kr (FP.dneg r1) ))
  else
    kr a )
set_option maxRecDepth 20000 in
theorem mbX4_down_0 {a : UInt64} {kr kq : UInt64 → Prop}  (hr : ∀ x , kr x  → kq x )  (h : bX4_down_0 a kr ) : bX4_down_0 a kq  := by
  unfold bX4_down_0 at h ⊢
  by_cases hc : (Op.cmpValue (FP.dcmp a a) .l) = 0
  · rw [if_pos hc] at h ⊢
    refine mnX4_up ?_ h
    intro r1 h
    exact hr _ h
  · rw [if_neg hc] at h ⊢
    exact hr _ h
def wX4_down (a : UInt64) (kr : UInt64 → Prop) : Prop := bX4_down_0 a kr 
theorem mnX4_down {a : UInt64} {kr kq : UInt64 → Prop} (hr : ∀ x , kr x  → kq x ) (h : wX4_down a kr) : wX4_down a kq := mbX4_down_0 hr  h
def tX4_down : Tr := fun as σ k => match as with
  | [.double a] => True ∧ wX4_down a (fun x  => k (some (.double x)) (σ))
  | _ => False
def ceX4_down : List (Nat × Nat × Tr) := (2 * 84, 1, tX4_up) :: []
theorem coX4_down (l : Launch) : CEok l yX4_down.cls 4 ceX4_down := ce_S (okX4_up l) (mw 830 (by decide +kernel) rfl) (mw 831 (by decide +kernel) rfl) (mw 4 (by decide +kernel) rfl) (mw 832 (by decide +kernel) rfl) (by decide) ⟨by decide, by decide⟩ (ce_0)
abbrev cutX4_down : List (Nat × List Nat) := []
set_option maxRecDepth 20000 in
set_option maxHeartbeats 4000000 in
theorem lbX4_down_0 {G : Nat → LV → List Value → aS → Prop} {post : Option Value → aS → Prop} (hG : ∀ n b pc lv st σ, seg (0, fun _ => 0) pgX4_down ceX4_down cutX4_down G (fun v σ => rFit (some .double) v ∧ post v σ) n b pc lv st σ → G pc lv st σ) (σ : aS) (a : UInt64) (hb : bX4_down_0 a (fun x  => rFit (some .double) (some (.double x)) ∧ post (some (.double x)) (σ)) ) : G 0 [(0, .double a)] [] (σ) := by
  unfold bX4_down_0 at hb
  refine hG 400 false 0 _ _ _ ?_
  refine And.intro (fun (h : (Op.cmpValue (FP.dcmp a a) .l) = 0) => ?_) (fun (h : ¬ (Op.cmpValue (FP.dcmp a a) .l) = 0) => ?_)
  · rw [if_pos h] at hb
    refine And.intro trivial (mnX4_up ?_ hb)
    intro r1 hb
    exact hb
  · rw [if_neg h] at hb
    exact hb
set_option maxRecDepth 20000 in
theorem okX4_down (l : Launch) : OK l yX4_down cX4_down 2 (some .double) 4 tX4_down := by
  intro D τ ρ A as σ post h
  unfold tX4_down at h; split at h
  · rename_i a; have hw := h.2
    refine met_of (P := pgX4_down) (CE := ceX4_down) (cut := cutX4_down) (by decide) kkX4_down (coX4_down l) (Nat.le_of_ble_eq_true rfl) ?_
    intro G hG
    unfold wX4_down at hw
    refine lbX4_down_0 hG σ a (mbX4_down_0 ?_  hw)
    · exact fun _ h => ⟨trivial, h⟩
  · exact h.elim
def bX4_least_0 (a : UInt64) (b : UInt64) (kr : UInt64 → Prop)  : Prop :=
  (if (Op.cmpValue (FP.dcmp a a) .l) = 0 then
    (if (Op.cmpValue (FP.dcmp b b) .l) = 0 then
      (if (Op.cmpValue (FP.dcmp a b) .g) < 0 then
        kr a 
      else
        (if (Op.cmpValue (FP.dcmp a b) .l) = 0 then
          (wX4_isMinus a (fun r1 => (if r1 = 0 then
            kr b 
          else
            kr a )))
        else
          kr b ))
    else
      kr (9221120237041090560 : UInt64) )
  else
    kr (9221120237041090560 : UInt64) )
set_option maxRecDepth 20000 in
theorem mbX4_least_0 {a : UInt64} {b : UInt64} {kr kq : UInt64 → Prop}  (hr : ∀ x , kr x  → kq x )  (h : bX4_least_0 a b kr ) : bX4_least_0 a b kq  := by
  unfold bX4_least_0 at h ⊢
  by_cases hc : (Op.cmpValue (FP.dcmp a a) .l) = 0
  · rw [if_pos hc] at h ⊢
    by_cases hc : (Op.cmpValue (FP.dcmp b b) .l) = 0
    · rw [if_pos hc] at h ⊢
      by_cases hc : (Op.cmpValue (FP.dcmp a b) .g) < 0
      · rw [if_pos hc] at h ⊢
        exact hr _ h
      · rw [if_neg hc] at h ⊢
        by_cases hc : (Op.cmpValue (FP.dcmp a b) .l) = 0
        · rw [if_pos hc] at h ⊢
          refine mnX4_isMinus ?_ h
          intro r1 _ h
          by_cases hc : r1 = 0
          · rw [if_pos hc] at h ⊢
            exact hr _ h
          · rw [if_neg hc] at h ⊢
            exact hr _ h
        · rw [if_neg hc] at h ⊢
          exact hr _ h
    · rw [if_neg hc] at h ⊢
      exact hr _ h
  · rw [if_neg hc] at h ⊢
    exact hr _ h
def wX4_least (a : UInt64) (b : UInt64) (kr : UInt64 → Prop) : Prop := bX4_least_0 a b kr 
theorem mnX4_least {a : UInt64} {b : UInt64} {kr kq : UInt64 → Prop} (hr : ∀ x , kr x  → kq x ) (h : wX4_least a b kr) : wX4_least a b kq := mbX4_least_0 hr  h
def tX4_least : Tr := fun as σ k => match as with
  | [.double a, .double b] => True ∧ wX4_least a b (fun x  => k (some (.double x)) (σ))
  | _ => False
def ceX4_least : List (Nat × Nat × Tr) := (2 * 88, 1, tX4_isMinus) :: []
theorem coX4_least (l : Launch) : CEok l yX4_least.cls 4 ceX4_least := ce_S (okX4_isMinus l) (mw 769 (by decide +kernel) rfl) (mw 770 (by decide +kernel) rfl) (mw 4 (by decide +kernel) rfl) (mw 771 (by decide +kernel) rfl) (by decide) ⟨by decide, by decide⟩ (ce_0)
abbrev cutX4_least : List (Nat × List Nat) := []
set_option maxRecDepth 20000 in
set_option maxHeartbeats 4000000 in
theorem lbX4_least_0 {G : Nat → LV → List Value → aS → Prop} {post : Option Value → aS → Prop} (hG : ∀ n b pc lv st σ, seg (0, fun _ => 0) pgX4_least ceX4_least cutX4_least G (fun v σ => rFit (some .double) v ∧ post v σ) n b pc lv st σ → G pc lv st σ) (σ : aS) (a : UInt64) (b : UInt64) (hb : bX4_least_0 a b (fun x  => rFit (some .double) (some (.double x)) ∧ post (some (.double x)) (σ)) ) : G 0 [(0, .double a), (2, .double b)] [] (σ) := by
  unfold bX4_least_0 at hb
  refine hG 400 false 0 _ _ _ ?_
  refine And.intro (fun (h : ¬ (Op.cmpValue (FP.dcmp a a) .l) = 0) => ?_) (fun hq => have h : (Op.cmpValue (FP.dcmp a a) .l) = 0 := Classical.not_not.mp hq; ?_)
  · rw [if_neg h] at hb
    exact hb
  · rw [if_pos h] at hb
    refine And.intro (fun (h : (Op.cmpValue (FP.dcmp b b) .l) = 0) => ?_) (fun (h : ¬ (Op.cmpValue (FP.dcmp b b) .l) = 0) => ?_)
    · rw [if_pos h] at hb
      refine And.intro (fun (h : (Op.cmpValue (FP.dcmp a b) .g) < 0) => ?_) (fun (h : ¬ (Op.cmpValue (FP.dcmp a b) .g) < 0) => ?_)
      · rw [if_pos h] at hb
        exact hb
      · rw [if_neg h] at hb
        refine And.intro (fun (h : ¬ (Op.cmpValue (FP.dcmp a b) .l) = 0) => ?_) (fun hq => have h : (Op.cmpValue (FP.dcmp a b) .l) = 0 := Classical.not_not.mp hq; ?_)
        · rw [if_neg h] at hb
          exact hb
        · rw [if_pos h] at hb
          refine And.intro trivial (mnX4_isMinus ?_ hb)
          intro r1 _ hb
          refine And.intro (fun (h : r1 = 0) => ?_) (fun (h : ¬ r1 = 0) => ?_)
          · rw [if_pos h] at hb
            exact hb
          · rw [if_neg h] at hb
            exact hb
    · rw [if_neg h] at hb
      exact hb
set_option maxRecDepth 20000 in
theorem okX4_least (l : Launch) : OK l yX4_least cX4_least 4 (some .double) 4 tX4_least := by
  intro D τ ρ A as σ post h
  unfold tX4_least at h; split at h
  · rename_i a b; have hw := h.2
    refine met_of (P := pgX4_least) (CE := ceX4_least) (cut := cutX4_least) (by decide) kkX4_least (coX4_least l) (Nat.le_of_ble_eq_true rfl) ?_
    intro G hG
    unfold wX4_least at hw
    refine lbX4_least_0 hG σ a b (mbX4_least_0 ?_  hw)
    · exact fun _ h => ⟨trivial, h⟩
  · exact h.elim
def bX4_greatest_0 (a : UInt64) (b : UInt64) (kr : UInt64 → Prop)  : Prop :=
  (if (Op.cmpValue (FP.dcmp a a) .l) = 0 then
    (if (Op.cmpValue (FP.dcmp b b) .l) = 0 then
      (if 0 < (Op.cmpValue (FP.dcmp a b) .l) then
        kr a 
      else
        (if (Op.cmpValue (FP.dcmp a b) .l) = 0 then
          (wX4_isMinus a (fun r1 => (if r1 = 0 then
            kr a 
          else
            kr b )))
        else
          kr b ))
    else
      kr (9221120237041090560 : UInt64) )
  else
    kr (9221120237041090560 : UInt64) )
set_option maxRecDepth 20000 in
theorem mbX4_greatest_0 {a : UInt64} {b : UInt64} {kr kq : UInt64 → Prop}  (hr : ∀ x , kr x  → kq x )  (h : bX4_greatest_0 a b kr ) : bX4_greatest_0 a b kq  := by
  unfold bX4_greatest_0 at h ⊢
  by_cases hc : (Op.cmpValue (FP.dcmp a a) .l) = 0
  · rw [if_pos hc] at h ⊢
    by_cases hc : (Op.cmpValue (FP.dcmp b b) .l) = 0
    · rw [if_pos hc] at h ⊢
      by_cases hc : 0 < (Op.cmpValue (FP.dcmp a b) .l)
      · rw [if_pos hc] at h ⊢
        exact hr _ h
      · rw [if_neg hc] at h ⊢
        by_cases hc : (Op.cmpValue (FP.dcmp a b) .l) = 0
        · rw [if_pos hc] at h ⊢
          refine mnX4_isMinus ?_ h
          intro r1 _ h
          by_cases hc : r1 = 0
          · rw [if_pos hc] at h ⊢
            exact hr _ h
          · rw [if_neg hc] at h ⊢
            exact hr _ h
        · rw [if_neg hc] at h ⊢
          exact hr _ h
    · rw [if_neg hc] at h ⊢
      exact hr _ h
  · rw [if_neg hc] at h ⊢
    exact hr _ h
def wX4_greatest (a : UInt64) (b : UInt64) (kr : UInt64 → Prop) : Prop := bX4_greatest_0 a b kr 
theorem mnX4_greatest {a : UInt64} {b : UInt64} {kr kq : UInt64 → Prop} (hr : ∀ x , kr x  → kq x ) (h : wX4_greatest a b kr) : wX4_greatest a b kq := mbX4_greatest_0 hr  h
def tX4_greatest : Tr := fun as σ k => match as with
  | [.double a, .double b] => True ∧ wX4_greatest a b (fun x  => k (some (.double x)) (σ))
  | _ => False
def ceX4_greatest : List (Nat × Nat × Tr) := (2 * 88, 1, tX4_isMinus) :: []
theorem coX4_greatest (l : Launch) : CEok l yX4_greatest.cls 4 ceX4_greatest := ce_S (okX4_isMinus l) (mw 769 (by decide +kernel) rfl) (mw 770 (by decide +kernel) rfl) (mw 4 (by decide +kernel) rfl) (mw 771 (by decide +kernel) rfl) (by decide) ⟨by decide, by decide⟩ (ce_0)
abbrev cutX4_greatest : List (Nat × List Nat) := []
set_option maxRecDepth 20000 in
set_option maxHeartbeats 4000000 in
theorem lbX4_greatest_0 {G : Nat → LV → List Value → aS → Prop} {post : Option Value → aS → Prop} (hG : ∀ n b pc lv st σ, seg (0, fun _ => 0) pgX4_greatest ceX4_greatest cutX4_greatest G (fun v σ => rFit (some .double) v ∧ post v σ) n b pc lv st σ → G pc lv st σ) (σ : aS) (a : UInt64) (b : UInt64) (hb : bX4_greatest_0 a b (fun x  => rFit (some .double) (some (.double x)) ∧ post (some (.double x)) (σ)) ) : G 0 [(0, .double a), (2, .double b)] [] (σ) := by
  unfold bX4_greatest_0 at hb
  refine hG 400 false 0 _ _ _ ?_
  refine And.intro (fun (h : ¬ (Op.cmpValue (FP.dcmp a a) .l) = 0) => ?_) (fun hq => have h : (Op.cmpValue (FP.dcmp a a) .l) = 0 := Classical.not_not.mp hq; ?_)
  · rw [if_neg h] at hb
    exact hb
  · rw [if_pos h] at hb
    refine And.intro (fun (h : (Op.cmpValue (FP.dcmp b b) .l) = 0) => ?_) (fun (h : ¬ (Op.cmpValue (FP.dcmp b b) .l) = 0) => ?_)
    · rw [if_pos h] at hb
      refine And.intro (fun (h : 0 < (Op.cmpValue (FP.dcmp a b) .l)) => ?_) (fun (h : ¬ 0 < (Op.cmpValue (FP.dcmp a b) .l)) => ?_)
      · rw [if_pos h] at hb
        exact hb
      · rw [if_neg h] at hb
        refine And.intro (fun (h : ¬ (Op.cmpValue (FP.dcmp a b) .l) = 0) => ?_) (fun hq => have h : (Op.cmpValue (FP.dcmp a b) .l) = 0 := Classical.not_not.mp hq; ?_)
        · rw [if_neg h] at hb
          exact hb
        · rw [if_pos h] at hb
          refine And.intro trivial (mnX4_isMinus ?_ hb)
          intro r1 _ hb
          refine And.intro (fun (h : ¬ r1 = 0) => ?_) (fun hq => have h : r1 = 0 := Classical.not_not.mp hq; ?_)
          · rw [if_neg h] at hb
            exact hb
          · rw [if_pos h] at hb
            exact hb
    · rw [if_neg h] at hb
      exact hb
set_option maxRecDepth 20000 in
theorem okX4_greatest (l : Launch) : OK l yX4_greatest cX4_greatest 4 (some .double) 4 tX4_greatest := by
  intro D τ ρ A as σ post h
  unfold tX4_greatest at h; split at h
  · rename_i a b; have hw := h.2
    refine met_of (P := pgX4_greatest) (CE := ceX4_greatest) (cut := cutX4_greatest) (by decide) kkX4_greatest (coX4_greatest l) (Nat.le_of_ble_eq_true rfl) ?_
    intro G hG
    unfold wX4_greatest at hw
    refine lbX4_greatest_0 hG σ a b (mbX4_greatest_0 ?_  hw)
    · exact fun _ h => ⟨trivial, h⟩
  · exact h.elim
def bX4_size_0 (a : UInt64) (kr : UInt64 → Prop)  : Prop :=
  (wX4_isMinus a (fun r1 => (if r1 = 0 then
    kr a 
  else
    kr (FP.dneg a) )))
set_option maxRecDepth 20000 in
theorem mbX4_size_0 {a : UInt64} {kr kq : UInt64 → Prop}  (hr : ∀ x , kr x  → kq x )  (h : bX4_size_0 a kr ) : bX4_size_0 a kq  := by
  unfold bX4_size_0 at h ⊢
  refine mnX4_isMinus ?_ h
  intro r1 _ h
  by_cases hc : r1 = 0
  · rw [if_pos hc] at h ⊢
    exact hr _ h
  · rw [if_neg hc] at h ⊢
    exact hr _ h
def wX4_size (a : UInt64) (kr : UInt64 → Prop) : Prop := bX4_size_0 a kr 
theorem mnX4_size {a : UInt64} {kr kq : UInt64 → Prop} (hr : ∀ x , kr x  → kq x ) (h : wX4_size a kr) : wX4_size a kq := mbX4_size_0 hr  h
def tX4_size : Tr := fun as σ k => match as with
  | [.double a] => True ∧ wX4_size a (fun x  => k (some (.double x)) (σ))
  | _ => False
def ceX4_size : List (Nat × Nat × Tr) := (2 * 88, 1, tX4_isMinus) :: []
theorem coX4_size (l : Launch) : CEok l yX4_size.cls 4 ceX4_size := ce_S (okX4_isMinus l) (mw 769 (by decide +kernel) rfl) (mw 770 (by decide +kernel) rfl) (mw 4 (by decide +kernel) rfl) (mw 771 (by decide +kernel) rfl) (by decide) ⟨by decide, by decide⟩ (ce_0)
abbrev cutX4_size : List (Nat × List Nat) := []
set_option maxRecDepth 20000 in
set_option maxHeartbeats 4000000 in
theorem lbX4_size_0 {G : Nat → LV → List Value → aS → Prop} {post : Option Value → aS → Prop} (hG : ∀ n b pc lv st σ, seg (0, fun _ => 0) pgX4_size ceX4_size cutX4_size G (fun v σ => rFit (some .double) v ∧ post v σ) n b pc lv st σ → G pc lv st σ) (σ : aS) (a : UInt64) (hb : bX4_size_0 a (fun x  => rFit (some .double) (some (.double x)) ∧ post (some (.double x)) (σ)) ) : G 0 [(0, .double a)] [] (σ) := by
  unfold bX4_size_0 at hb
  refine hG 400 false 0 _ _ _ ?_
  refine And.intro trivial (mnX4_isMinus ?_ hb)
  intro r1 _ hb
  refine And.intro (fun (h : r1 = 0) => ?_) (fun (h : ¬ r1 = 0) => ?_)
  · rw [if_pos h] at hb
    exact hb
  · rw [if_neg h] at hb
    exact hb
set_option maxRecDepth 20000 in
theorem okX4_size (l : Launch) : OK l yX4_size cX4_size 2 (some .double) 4 tX4_size := by
  intro D τ ρ A as σ post h
  unfold tX4_size at h; split at h
  · rename_i a; have hw := h.2
    refine met_of (P := pgX4_size) (CE := ceX4_size) (cut := cutX4_size) (by decide) kkX4_size (coX4_size l) (Nat.le_of_ble_eq_true rfl) ?_
    intro G hG
    unfold wX4_size at hw
    refine lbX4_size_0 hG σ a (mbX4_size_0 ?_  hw)
    · exact fun _ h => ⟨trivial, h⟩
  · exact h.elim
def bX4_isFar_0 (a : UInt64) (kr : Int32 → Prop)  : Prop :=
  (if (Op.cmpValue (FP.dcmp a (9218868437227405312 : UInt64)) .l) = 0 then
    kr (1 : Int32) 
  else
    (if (Op.cmpValue (FP.dcmp a (18442240474082181120 : UInt64)) .l) = 0 then
      kr (1 : Int32) 
    else
      kr (0 : Int32) ))
set_option maxRecDepth 20000 in
theorem mbX4_isFar_0 {a : UInt64} {kr kq : Int32 → Prop}  (hr : ∀ x , (x = 0 ∨ x = 1) → kr x  → kq x )  (h : bX4_isFar_0 a kr ) : bX4_isFar_0 a kq  := by
  unfold bX4_isFar_0 at h ⊢
  by_cases hc : (Op.cmpValue (FP.dcmp a (9218868437227405312 : UInt64)) .l) = 0
  · rw [if_pos hc] at h ⊢
    exact hr _ (Or.inr rfl) h
  · rw [if_neg hc] at h ⊢
    by_cases hc : (Op.cmpValue (FP.dcmp a (18442240474082181120 : UInt64)) .l) = 0
    · rw [if_pos hc] at h ⊢
      exact hr _ (Or.inr rfl) h
    · rw [if_neg hc] at h ⊢
      exact hr _ (Or.inl rfl) h
def wX4_isFar (a : UInt64) (kr : Int32 → Prop) : Prop := bX4_isFar_0 a kr 
theorem mnX4_isFar {a : UInt64} {kr kq : Int32 → Prop} (hr : ∀ x , (x = 0 ∨ x = 1) → kr x  → kq x ) (h : wX4_isFar a kr) : wX4_isFar a kq := mbX4_isFar_0 hr  h
def tX4_isFar : Tr := fun as σ k => match as with
  | [.double a] => True ∧ wX4_isFar a (fun x  => k (some (.int x)) (σ))
  | _ => False
def ceX4_isFar : List (Nat × Nat × Tr) := []
theorem coX4_isFar (l : Launch) : CEok l yX4_isFar.cls 0 ceX4_isFar := ce_0
abbrev cutX4_isFar : List (Nat × List Nat) := []
set_option maxRecDepth 20000 in
set_option maxHeartbeats 4000000 in
theorem lbX4_isFar_0 {G : Nat → LV → List Value → aS → Prop} {post : Option Value → aS → Prop} (hG : ∀ n b pc lv st σ, seg (0, fun _ => 0) pgX4_isFar ceX4_isFar cutX4_isFar G (fun v σ => rFit (some .boolean) v ∧ post v σ) n b pc lv st σ → G pc lv st σ) (σ : aS) (a : UInt64) (hb : bX4_isFar_0 a (fun x  => rFit (some .boolean) (some (.int x)) ∧ post (some (.int x)) (σ)) ) : G 0 [(0, .double a)] [] (σ) := by
  unfold bX4_isFar_0 at hb
  refine hG 400 false 0 _ _ _ ?_
  refine And.intro (fun (h : (Op.cmpValue (FP.dcmp a (9218868437227405312 : UInt64)) .l) = 0) => ?_) (fun (h : ¬ (Op.cmpValue (FP.dcmp a (9218868437227405312 : UInt64)) .l) = 0) => ?_)
  · rw [if_pos h] at hb
    exact hb
  · rw [if_neg h] at hb
    refine And.intro (fun (h : ¬ (Op.cmpValue (FP.dcmp a (18442240474082181120 : UInt64)) .l) = 0) => ?_) (fun hq => have h : (Op.cmpValue (FP.dcmp a (18442240474082181120 : UInt64)) .l) = 0 := Classical.not_not.mp hq; ?_)
    · rw [if_neg h] at hb
      exact hb
    · rw [if_pos h] at hb
      exact hb
set_option maxRecDepth 20000 in
theorem okX4_isFar (l : Launch) : OK l yX4_isFar cX4_isFar 2 (some .boolean) 0 tX4_isFar := by
  intro D τ ρ A as σ post h
  unfold tX4_isFar at h; split at h
  · rename_i a; have hw := h.2
    refine met_of (P := pgX4_isFar) (CE := ceX4_isFar) (cut := cutX4_isFar) (by decide) kkX4_isFar (coX4_isFar l) (Nat.le_of_ble_eq_true rfl) ?_
    intro G hG
    unfold wX4_isFar at hw
    refine lbX4_isFar_0 hG σ a (mbX4_isFar_0 ?_  hw)
    · exact fun _ hf h => ⟨hf, h⟩
  · exact h.elim
def bX4_added_0 (a : UInt64) (b : UInt64) (kr : UInt64 → Prop)  : Prop :=
  (if (Op.cmpValue (FP.dcmp a a) .l) = 0 then
    (if (Op.cmpValue (FP.dcmp b b) .l) = 0 then
      (wX4_isFar a (fun r1 => (if r1 = 0 then
        (vf_n64 (FP.dadd a b) ∧ kr (FP.dadd a b) )
      else
        (wX4_isFar b (fun r2 => (if r2 = 0 then
          (vf_n64 (FP.dadd a b) ∧ kr (FP.dadd a b) )
        else
          (if (Op.cmpValue (FP.dcmp a b) .l) = 0 then
            (vf_n64 (FP.dadd a b) ∧ kr (FP.dadd a b) )
          else
            kr (9221120237041090560 : UInt64) )))))))
    else
      kr (9221120237041090560 : UInt64) )
  else
    kr (9221120237041090560 : UInt64) )
set_option maxRecDepth 20000 in
theorem mbX4_added_0 {a : UInt64} {b : UInt64} {kr kq : UInt64 → Prop}  (hr : ∀ x , kr x  → kq x )  (h : bX4_added_0 a b kr ) : bX4_added_0 a b kq  := by
  unfold bX4_added_0 at h ⊢
  by_cases hc : (Op.cmpValue (FP.dcmp a a) .l) = 0
  · rw [if_pos hc] at h ⊢
    by_cases hc : (Op.cmpValue (FP.dcmp b b) .l) = 0
    · rw [if_pos hc] at h ⊢
      refine mnX4_isFar ?_ h
      intro r1 _ h
      by_cases hc : r1 = 0
      · rw [if_pos hc] at h ⊢
        obtain ⟨hi, h⟩ := h
        refine And.intro hi ?_
        exact hr _ h
      · rw [if_neg hc] at h ⊢
        refine mnX4_isFar ?_ h
        intro r2 _ h
        by_cases hc : r2 = 0
        · rw [if_pos hc] at h ⊢
          obtain ⟨hi, h⟩ := h
          refine And.intro hi ?_
          exact hr _ h
        · rw [if_neg hc] at h ⊢
          by_cases hc : (Op.cmpValue (FP.dcmp a b) .l) = 0
          · rw [if_pos hc] at h ⊢
            obtain ⟨hi, h⟩ := h
            refine And.intro hi ?_
            exact hr _ h
          · rw [if_neg hc] at h ⊢
            exact hr _ h
    · rw [if_neg hc] at h ⊢
      exact hr _ h
  · rw [if_neg hc] at h ⊢
    exact hr _ h
def wX4_added (a : UInt64) (b : UInt64) (kr : UInt64 → Prop) : Prop := bX4_added_0 a b kr 
theorem mnX4_added {a : UInt64} {b : UInt64} {kr kq : UInt64 → Prop} (hr : ∀ x , kr x  → kq x ) (h : wX4_added a b kr) : wX4_added a b kq := mbX4_added_0 hr  h
def tX4_added : Tr := fun as σ k => match as with
  | [.double a, .double b] => True ∧ wX4_added a b (fun x  => k (some (.double x)) (σ))
  | _ => False
def ceX4_added : List (Nat × Nat × Tr) := (2 * 94, 1, tX4_isFar) :: []
theorem coX4_added (l : Launch) : CEok l yX4_added.cls 1 ceX4_added := ce_S (okX4_isFar l) (mw 754 (by decide +kernel) rfl) (mw 755 (by decide +kernel) rfl) (mw 4 (by decide +kernel) rfl) (mw 756 (by decide +kernel) rfl) (by decide) ⟨by decide, by decide⟩ (ce_0)
abbrev cutX4_added : List (Nat × List Nat) := []
set_option maxRecDepth 20000 in
set_option maxHeartbeats 4000000 in
theorem lbX4_added_0 {G : Nat → LV → List Value → aS → Prop} {post : Option Value → aS → Prop} (hG : ∀ n b pc lv st σ, seg (0, fun _ => 0) pgX4_added ceX4_added cutX4_added G (fun v σ => rFit (some .double) v ∧ post v σ) n b pc lv st σ → G pc lv st σ) (σ : aS) (a : UInt64) (b : UInt64) (hb : bX4_added_0 a b (fun x  => rFit (some .double) (some (.double x)) ∧ post (some (.double x)) (σ)) ) : G 0 [(0, .double a), (2, .double b)] [] (σ) := by
  unfold bX4_added_0 at hb
  refine hG 400 false 0 _ _ _ ?_
  refine And.intro (fun (h : ¬ (Op.cmpValue (FP.dcmp a a) .l) = 0) => ?_) (fun hq => have h : (Op.cmpValue (FP.dcmp a a) .l) = 0 := Classical.not_not.mp hq; ?_)
  · rw [if_neg h] at hb
    exact hb
  · rw [if_pos h] at hb
    refine And.intro (fun (h : ¬ (Op.cmpValue (FP.dcmp b b) .l) = 0) => ?_) (fun hq => have h : (Op.cmpValue (FP.dcmp b b) .l) = 0 := Classical.not_not.mp hq; ?_)
    · rw [if_neg h] at hb
      exact hb
    · rw [if_pos h] at hb
      refine And.intro trivial (mnX4_isFar ?_ hb)
      intro r1 _ hb
      refine And.intro (fun (h : r1 = 0) => ?_) (fun (h : ¬ r1 = 0) => ?_)
      · rw [if_pos h] at hb
        obtain ⟨hi, hb⟩ := hb
        refine And.intro hi ?_
        exact hb
      · rw [if_neg h] at hb
        refine And.intro trivial (mnX4_isFar ?_ hb)
        intro r2 _ hb
        refine And.intro (fun (h : r2 = 0) => ?_) (fun (h : ¬ r2 = 0) => ?_)
        · rw [if_pos h] at hb
          obtain ⟨hi, hb⟩ := hb
          refine And.intro hi ?_
          exact hb
        · rw [if_neg h] at hb
          refine And.intro (fun (h : (Op.cmpValue (FP.dcmp a b) .l) = 0) => ?_) (fun (h : ¬ (Op.cmpValue (FP.dcmp a b) .l) = 0) => ?_)
          · rw [if_pos h] at hb
            obtain ⟨hi, hb⟩ := hb
            refine And.intro hi ?_
            exact hb
          · rw [if_neg h] at hb
            exact hb
set_option maxRecDepth 20000 in
theorem okX4_added (l : Launch) : OK l yX4_added cX4_added 4 (some .double) 1 tX4_added := by
  intro D τ ρ A as σ post h
  unfold tX4_added at h; split at h
  · rename_i a b; have hw := h.2
    refine met_of (P := pgX4_added) (CE := ceX4_added) (cut := cutX4_added) (by decide) kkX4_added (coX4_added l) (Nat.le_of_ble_eq_true rfl) ?_
    intro G hG
    unfold wX4_added at hw
    refine lbX4_added_0 hG σ a b (mbX4_added_0 ?_  hw)
    · exact fun _ h => ⟨trivial, h⟩
  · exact h.elim
def bX4_lessened_0 (a : UInt64) (b : UInt64) (kr : UInt64 → Prop)  : Prop :=
  (if (Op.cmpValue (FP.dcmp a a) .l) = 0 then
    (if (Op.cmpValue (FP.dcmp b b) .l) = 0 then
      (wX4_isFar a (fun r1 => (if r1 = 0 then
        (vf_n64 (FP.dsub a b) ∧ kr (FP.dsub a b) )
      else
        (if (Op.cmpValue (FP.dcmp a b) .l) = 0 then
          kr (9221120237041090560 : UInt64) 
        else
          (vf_n64 (FP.dsub a b) ∧ kr (FP.dsub a b) )))))
    else
      kr (9221120237041090560 : UInt64) )
  else
    kr (9221120237041090560 : UInt64) )
set_option maxRecDepth 20000 in
theorem mbX4_lessened_0 {a : UInt64} {b : UInt64} {kr kq : UInt64 → Prop}  (hr : ∀ x , kr x  → kq x )  (h : bX4_lessened_0 a b kr ) : bX4_lessened_0 a b kq  := by
  unfold bX4_lessened_0 at h ⊢
  by_cases hc : (Op.cmpValue (FP.dcmp a a) .l) = 0
  · rw [if_pos hc] at h ⊢
    by_cases hc : (Op.cmpValue (FP.dcmp b b) .l) = 0
    · rw [if_pos hc] at h ⊢
      refine mnX4_isFar ?_ h
      intro r1 _ h
      by_cases hc : r1 = 0
      · rw [if_pos hc] at h ⊢
        obtain ⟨hi, h⟩ := h
        refine And.intro hi ?_
        exact hr _ h
      · rw [if_neg hc] at h ⊢
        by_cases hc : (Op.cmpValue (FP.dcmp a b) .l) = 0
        · rw [if_pos hc] at h ⊢
          exact hr _ h
        · rw [if_neg hc] at h ⊢
          obtain ⟨hi, h⟩ := h
          refine And.intro hi ?_
          exact hr _ h
    · rw [if_neg hc] at h ⊢
      exact hr _ h
  · rw [if_neg hc] at h ⊢
    exact hr _ h
def wX4_lessened (a : UInt64) (b : UInt64) (kr : UInt64 → Prop) : Prop := bX4_lessened_0 a b kr 
theorem mnX4_lessened {a : UInt64} {b : UInt64} {kr kq : UInt64 → Prop} (hr : ∀ x , kr x  → kq x ) (h : wX4_lessened a b kr) : wX4_lessened a b kq := mbX4_lessened_0 hr  h
def tX4_lessened : Tr := fun as σ k => match as with
  | [.double a, .double b] => True ∧ wX4_lessened a b (fun x  => k (some (.double x)) (σ))
  | _ => False
def ceX4_lessened : List (Nat × Nat × Tr) := (2 * 94, 1, tX4_isFar) :: []
theorem coX4_lessened (l : Launch) : CEok l yX4_lessened.cls 1 ceX4_lessened := ce_S (okX4_isFar l) (mw 754 (by decide +kernel) rfl) (mw 755 (by decide +kernel) rfl) (mw 4 (by decide +kernel) rfl) (mw 756 (by decide +kernel) rfl) (by decide) ⟨by decide, by decide⟩ (ce_0)
abbrev cutX4_lessened : List (Nat × List Nat) := []
set_option maxRecDepth 20000 in
set_option maxHeartbeats 4000000 in
theorem lbX4_lessened_0 {G : Nat → LV → List Value → aS → Prop} {post : Option Value → aS → Prop} (hG : ∀ n b pc lv st σ, seg (0, fun _ => 0) pgX4_lessened ceX4_lessened cutX4_lessened G (fun v σ => rFit (some .double) v ∧ post v σ) n b pc lv st σ → G pc lv st σ) (σ : aS) (a : UInt64) (b : UInt64) (hb : bX4_lessened_0 a b (fun x  => rFit (some .double) (some (.double x)) ∧ post (some (.double x)) (σ)) ) : G 0 [(0, .double a), (2, .double b)] [] (σ) := by
  unfold bX4_lessened_0 at hb
  refine hG 400 false 0 _ _ _ ?_
  refine And.intro (fun (h : ¬ (Op.cmpValue (FP.dcmp a a) .l) = 0) => ?_) (fun hq => have h : (Op.cmpValue (FP.dcmp a a) .l) = 0 := Classical.not_not.mp hq; ?_)
  · rw [if_neg h] at hb
    exact hb
  · rw [if_pos h] at hb
    refine And.intro (fun (h : ¬ (Op.cmpValue (FP.dcmp b b) .l) = 0) => ?_) (fun hq => have h : (Op.cmpValue (FP.dcmp b b) .l) = 0 := Classical.not_not.mp hq; ?_)
    · rw [if_neg h] at hb
      exact hb
    · rw [if_pos h] at hb
      refine And.intro trivial (mnX4_isFar ?_ hb)
      intro r1 _ hb
      refine And.intro (fun (h : r1 = 0) => ?_) (fun (h : ¬ r1 = 0) => ?_)
      · rw [if_pos h] at hb
        obtain ⟨hi, hb⟩ := hb
        refine And.intro hi ?_
        exact hb
      · rw [if_neg h] at hb
        refine And.intro (fun (h : ¬ (Op.cmpValue (FP.dcmp a b) .l) = 0) => ?_) (fun hq => have h : (Op.cmpValue (FP.dcmp a b) .l) = 0 := Classical.not_not.mp hq; ?_)
        · rw [if_neg h] at hb
          obtain ⟨hi, hb⟩ := hb
          refine And.intro hi ?_
          exact hb
        · rw [if_pos h] at hb
          exact hb
set_option maxRecDepth 20000 in
theorem okX4_lessened (l : Launch) : OK l yX4_lessened cX4_lessened 4 (some .double) 1 tX4_lessened := by
  intro D τ ρ A as σ post h
  unfold tX4_lessened at h; split at h
  · rename_i a b; have hw := h.2
    refine met_of (P := pgX4_lessened) (CE := ceX4_lessened) (cut := cutX4_lessened) (by decide) kkX4_lessened (coX4_lessened l) (Nat.le_of_ble_eq_true rfl) ?_
    intro G hG
    unfold wX4_lessened at hw
    refine lbX4_lessened_0 hG σ a b (mbX4_lessened_0 ?_  hw)
    · exact fun _ h => ⟨trivial, h⟩
  · exact h.elim
def bX4_timed_0 (a : UInt64) (b : UInt64) (kr : UInt64 → Prop)  : Prop :=
  (if (Op.cmpValue (FP.dcmp a a) .l) = 0 then
    (if (Op.cmpValue (FP.dcmp b b) .l) = 0 then
      (if (Op.cmpValue (FP.dcmp a (FP.dconst0 : UInt64)) .l) = 0 then
        (wX4_isFar b (fun r2 => (if r2 = 0 then
          (wX4_isFar a (fun r3 => (if r3 = 0 then
            (vf_n64 (FP.dmul a b) ∧ kr (FP.dmul a b) )
          else
            (if (Op.cmpValue (FP.dcmp b (FP.dconst0 : UInt64)) .l) = 0 then
              kr (9221120237041090560 : UInt64) 
            else
              (vf_n64 (FP.dmul a b) ∧ kr (FP.dmul a b) )))))
        else
          kr (9221120237041090560 : UInt64) )))
      else
        (wX4_isFar a (fun r1 => (if r1 = 0 then
          (vf_n64 (FP.dmul a b) ∧ kr (FP.dmul a b) )
        else
          (if (Op.cmpValue (FP.dcmp b (FP.dconst0 : UInt64)) .l) = 0 then
            kr (9221120237041090560 : UInt64) 
          else
            (vf_n64 (FP.dmul a b) ∧ kr (FP.dmul a b) ))))))
    else
      kr (9221120237041090560 : UInt64) )
  else
    kr (9221120237041090560 : UInt64) )
set_option maxRecDepth 20000 in
theorem mbX4_timed_0 {a : UInt64} {b : UInt64} {kr kq : UInt64 → Prop}  (hr : ∀ x , kr x  → kq x )  (h : bX4_timed_0 a b kr ) : bX4_timed_0 a b kq  := by
  unfold bX4_timed_0 at h ⊢
  by_cases hc : (Op.cmpValue (FP.dcmp a a) .l) = 0
  · rw [if_pos hc] at h ⊢
    by_cases hc : (Op.cmpValue (FP.dcmp b b) .l) = 0
    · rw [if_pos hc] at h ⊢
      by_cases hc : (Op.cmpValue (FP.dcmp a (FP.dconst0 : UInt64)) .l) = 0
      · rw [if_pos hc] at h ⊢
        refine mnX4_isFar ?_ h
        intro r2 _ h
        by_cases hc : r2 = 0
        · rw [if_pos hc] at h ⊢
          refine mnX4_isFar ?_ h
          intro r3 _ h
          by_cases hc : r3 = 0
          · rw [if_pos hc] at h ⊢
            obtain ⟨hi, h⟩ := h
            refine And.intro hi ?_
            exact hr _ h
          · rw [if_neg hc] at h ⊢
            by_cases hc : (Op.cmpValue (FP.dcmp b (FP.dconst0 : UInt64)) .l) = 0
            · rw [if_pos hc] at h ⊢
              exact hr _ h
            · rw [if_neg hc] at h ⊢
              obtain ⟨hi, h⟩ := h
              refine And.intro hi ?_
              exact hr _ h
        · rw [if_neg hc] at h ⊢
          exact hr _ h
      · rw [if_neg hc] at h ⊢
        refine mnX4_isFar ?_ h
        intro r1 _ h
        by_cases hc : r1 = 0
        · rw [if_pos hc] at h ⊢
          obtain ⟨hi, h⟩ := h
          refine And.intro hi ?_
          exact hr _ h
        · rw [if_neg hc] at h ⊢
          by_cases hc : (Op.cmpValue (FP.dcmp b (FP.dconst0 : UInt64)) .l) = 0
          · rw [if_pos hc] at h ⊢
            exact hr _ h
          · rw [if_neg hc] at h ⊢
            obtain ⟨hi, h⟩ := h
            refine And.intro hi ?_
            exact hr _ h
    · rw [if_neg hc] at h ⊢
      exact hr _ h
  · rw [if_neg hc] at h ⊢
    exact hr _ h
def wX4_timed (a : UInt64) (b : UInt64) (kr : UInt64 → Prop) : Prop := bX4_timed_0 a b kr 
theorem mnX4_timed {a : UInt64} {b : UInt64} {kr kq : UInt64 → Prop} (hr : ∀ x , kr x  → kq x ) (h : wX4_timed a b kr) : wX4_timed a b kq := mbX4_timed_0 hr  h
def tX4_timed : Tr := fun as σ k => match as with
  | [.double a, .double b] => True ∧ wX4_timed a b (fun x  => k (some (.double x)) (σ))
  | _ => False
def ceX4_timed : List (Nat × Nat × Tr) := (2 * 94, 1, tX4_isFar) :: []
theorem coX4_timed (l : Launch) : CEok l yX4_timed.cls 1 ceX4_timed := ce_S (okX4_isFar l) (mw 754 (by decide +kernel) rfl) (mw 755 (by decide +kernel) rfl) (mw 4 (by decide +kernel) rfl) (mw 756 (by decide +kernel) rfl) (by decide) ⟨by decide, by decide⟩ (ce_0)
abbrev cutX4_timed : List (Nat × List Nat) := []
set_option maxRecDepth 20000 in
set_option maxHeartbeats 4000000 in
theorem lbX4_timed_0 {G : Nat → LV → List Value → aS → Prop} {post : Option Value → aS → Prop} (hG : ∀ n b pc lv st σ, seg (0, fun _ => 0) pgX4_timed ceX4_timed cutX4_timed G (fun v σ => rFit (some .double) v ∧ post v σ) n b pc lv st σ → G pc lv st σ) (σ : aS) (a : UInt64) (b : UInt64) (hb : bX4_timed_0 a b (fun x  => rFit (some .double) (some (.double x)) ∧ post (some (.double x)) (σ)) ) : G 0 [(0, .double a), (2, .double b)] [] (σ) := by
  unfold bX4_timed_0 at hb
  refine hG 400 false 0 _ _ _ ?_
  refine And.intro (fun (h : ¬ (Op.cmpValue (FP.dcmp a a) .l) = 0) => ?_) (fun hq => have h : (Op.cmpValue (FP.dcmp a a) .l) = 0 := Classical.not_not.mp hq; ?_)
  · rw [if_neg h] at hb
    exact hb
  · rw [if_pos h] at hb
    refine And.intro (fun (h : ¬ (Op.cmpValue (FP.dcmp b b) .l) = 0) => ?_) (fun hq => have h : (Op.cmpValue (FP.dcmp b b) .l) = 0 := Classical.not_not.mp hq; ?_)
    · rw [if_neg h] at hb
      exact hb
    · rw [if_pos h] at hb
      refine And.intro (fun (h : ¬ (Op.cmpValue (FP.dcmp a (FP.dconst0 : UInt64)) .l) = 0) => ?_) (fun hq => have h : (Op.cmpValue (FP.dcmp a (FP.dconst0 : UInt64)) .l) = 0 := Classical.not_not.mp hq; ?_)
      · rw [if_neg h] at hb
        refine And.intro trivial (mnX4_isFar ?_ hb)
        intro r1 _ hb
        refine And.intro (fun (h : r1 = 0) => ?_) (fun (h : ¬ r1 = 0) => ?_)
        · rw [if_pos h] at hb
          obtain ⟨hi, hb⟩ := hb
          refine And.intro hi ?_
          exact hb
        · rw [if_neg h] at hb
          refine And.intro (fun (h : ¬ (Op.cmpValue (FP.dcmp b (FP.dconst0 : UInt64)) .l) = 0) => ?_) (fun hq => have h : (Op.cmpValue (FP.dcmp b (FP.dconst0 : UInt64)) .l) = 0 := Classical.not_not.mp hq; ?_)
          · rw [if_neg h] at hb
            obtain ⟨hi, hb⟩ := hb
            refine And.intro hi ?_
            exact hb
          · rw [if_pos h] at hb
            exact hb
      · rw [if_pos h] at hb
        refine And.intro trivial (mnX4_isFar ?_ hb)
        intro r2 _ hb
        refine And.intro (fun (h : ¬ r2 = 0) => ?_) (fun hq => have h : r2 = 0 := Classical.not_not.mp hq; ?_)
        · rw [if_neg h] at hb
          exact hb
        · rw [if_pos h] at hb
          refine And.intro trivial (mnX4_isFar ?_ hb)
          intro r3 _ hb
          refine And.intro (fun (h : r3 = 0) => ?_) (fun (h : ¬ r3 = 0) => ?_)
          · rw [if_pos h] at hb
            obtain ⟨hi, hb⟩ := hb
            refine And.intro hi ?_
            exact hb
          · rw [if_neg h] at hb
            refine And.intro (fun (h : ¬ (Op.cmpValue (FP.dcmp b (FP.dconst0 : UInt64)) .l) = 0) => ?_) (fun hq => have h : (Op.cmpValue (FP.dcmp b (FP.dconst0 : UInt64)) .l) = 0 := Classical.not_not.mp hq; ?_)
            · rw [if_neg h] at hb
              obtain ⟨hi, hb⟩ := hb
              refine And.intro hi ?_
              exact hb
            · rw [if_pos h] at hb
              exact hb
set_option maxRecDepth 20000 in
theorem okX4_timed (l : Launch) : OK l yX4_timed cX4_timed 4 (some .double) 1 tX4_timed := by
  intro D τ ρ A as σ post h
  unfold tX4_timed at h; split at h
  · rename_i a b; have hw := h.2
    refine met_of (P := pgX4_timed) (CE := ceX4_timed) (cut := cutX4_timed) (by decide) kkX4_timed (coX4_timed l) (Nat.le_of_ble_eq_true rfl) ?_
    intro G hG
    unfold wX4_timed at hw
    refine lbX4_timed_0 hG σ a b (mbX4_timed_0 ?_  hw)
    · exact fun _ h => ⟨trivial, h⟩
  · exact h.elim
def bX4_divided_0 (a : UInt64) (b : UInt64) (kr : UInt64 → Prop)  : Prop :=
  (if (Op.cmpValue (FP.dcmp a a) .l) = 0 then
    (if (Op.cmpValue (FP.dcmp b b) .l) = 0 then
      (if (Op.cmpValue (FP.dcmp a (FP.dconst0 : UInt64)) .l) = 0 then
        (if (Op.cmpValue (FP.dcmp b (FP.dconst0 : UInt64)) .l) = 0 then
          kr (9221120237041090560 : UInt64) 
        else
          (wX4_isFar a (fun r3 => (if r3 = 0 then
            (vf_n64 (FP.ddiv a b) ∧ kr (FP.ddiv a b) )
          else
            (wX4_isFar b (fun r4 => (if r4 = 0 then
              (vf_n64 (FP.ddiv a b) ∧ kr (FP.ddiv a b) )
            else
              kr (9221120237041090560 : UInt64) )))))))
      else
        (wX4_isFar a (fun r1 => (if r1 = 0 then
          (vf_n64 (FP.ddiv a b) ∧ kr (FP.ddiv a b) )
        else
          (wX4_isFar b (fun r2 => (if r2 = 0 then
            (vf_n64 (FP.ddiv a b) ∧ kr (FP.ddiv a b) )
          else
            kr (9221120237041090560 : UInt64) )))))))
    else
      kr (9221120237041090560 : UInt64) )
  else
    kr (9221120237041090560 : UInt64) )
set_option maxRecDepth 20000 in
theorem mbX4_divided_0 {a : UInt64} {b : UInt64} {kr kq : UInt64 → Prop}  (hr : ∀ x , kr x  → kq x )  (h : bX4_divided_0 a b kr ) : bX4_divided_0 a b kq  := by
  unfold bX4_divided_0 at h ⊢
  by_cases hc : (Op.cmpValue (FP.dcmp a a) .l) = 0
  · rw [if_pos hc] at h ⊢
    by_cases hc : (Op.cmpValue (FP.dcmp b b) .l) = 0
    · rw [if_pos hc] at h ⊢
      by_cases hc : (Op.cmpValue (FP.dcmp a (FP.dconst0 : UInt64)) .l) = 0
      · rw [if_pos hc] at h ⊢
        by_cases hc : (Op.cmpValue (FP.dcmp b (FP.dconst0 : UInt64)) .l) = 0
        · rw [if_pos hc] at h ⊢
          exact hr _ h
        · rw [if_neg hc] at h ⊢
          refine mnX4_isFar ?_ h
          intro r3 _ h
          by_cases hc : r3 = 0
          · rw [if_pos hc] at h ⊢
            obtain ⟨hi, h⟩ := h
            refine And.intro hi ?_
            exact hr _ h
          · rw [if_neg hc] at h ⊢
            refine mnX4_isFar ?_ h
            intro r4 _ h
            by_cases hc : r4 = 0
            · rw [if_pos hc] at h ⊢
              obtain ⟨hi, h⟩ := h
              refine And.intro hi ?_
              exact hr _ h
            · rw [if_neg hc] at h ⊢
              exact hr _ h
      · rw [if_neg hc] at h ⊢
        refine mnX4_isFar ?_ h
        intro r1 _ h
        by_cases hc : r1 = 0
        · rw [if_pos hc] at h ⊢
          obtain ⟨hi, h⟩ := h
          refine And.intro hi ?_
          exact hr _ h
        · rw [if_neg hc] at h ⊢
          refine mnX4_isFar ?_ h
          intro r2 _ h
          by_cases hc : r2 = 0
          · rw [if_pos hc] at h ⊢
            obtain ⟨hi, h⟩ := h
            refine And.intro hi ?_
            exact hr _ h
          · rw [if_neg hc] at h ⊢
            exact hr _ h
    · rw [if_neg hc] at h ⊢
      exact hr _ h
  · rw [if_neg hc] at h ⊢
    exact hr _ h
def wX4_divided (a : UInt64) (b : UInt64) (kr : UInt64 → Prop) : Prop := bX4_divided_0 a b kr 
theorem mnX4_divided {a : UInt64} {b : UInt64} {kr kq : UInt64 → Prop} (hr : ∀ x , kr x  → kq x ) (h : wX4_divided a b kr) : wX4_divided a b kq := mbX4_divided_0 hr  h
def tX4_divided : Tr := fun as σ k => match as with
  | [.double a, .double b] => True ∧ wX4_divided a b (fun x  => k (some (.double x)) (σ))
  | _ => False
def ceX4_divided : List (Nat × Nat × Tr) := (2 * 94, 1, tX4_isFar) :: []
theorem coX4_divided (l : Launch) : CEok l yX4_divided.cls 1 ceX4_divided := ce_S (okX4_isFar l) (mw 754 (by decide +kernel) rfl) (mw 755 (by decide +kernel) rfl) (mw 4 (by decide +kernel) rfl) (mw 756 (by decide +kernel) rfl) (by decide) ⟨by decide, by decide⟩ (ce_0)
abbrev cutX4_divided : List (Nat × List Nat) := []
set_option maxRecDepth 20000 in
set_option maxHeartbeats 4000000 in
theorem lbX4_divided_0 {G : Nat → LV → List Value → aS → Prop} {post : Option Value → aS → Prop} (hG : ∀ n b pc lv st σ, seg (0, fun _ => 0) pgX4_divided ceX4_divided cutX4_divided G (fun v σ => rFit (some .double) v ∧ post v σ) n b pc lv st σ → G pc lv st σ) (σ : aS) (a : UInt64) (b : UInt64) (hb : bX4_divided_0 a b (fun x  => rFit (some .double) (some (.double x)) ∧ post (some (.double x)) (σ)) ) : G 0 [(0, .double a), (2, .double b)] [] (σ) := by
  unfold bX4_divided_0 at hb
  refine hG 400 false 0 _ _ _ ?_
  refine And.intro (fun (h : ¬ (Op.cmpValue (FP.dcmp a a) .l) = 0) => ?_) (fun hq => have h : (Op.cmpValue (FP.dcmp a a) .l) = 0 := Classical.not_not.mp hq; ?_)
  · rw [if_neg h] at hb
    exact hb
  · rw [if_pos h] at hb
    refine And.intro (fun (h : ¬ (Op.cmpValue (FP.dcmp b b) .l) = 0) => ?_) (fun hq => have h : (Op.cmpValue (FP.dcmp b b) .l) = 0 := Classical.not_not.mp hq; ?_)
    · rw [if_neg h] at hb
      exact hb
    · rw [if_pos h] at hb
      refine And.intro (fun (h : ¬ (Op.cmpValue (FP.dcmp a (FP.dconst0 : UInt64)) .l) = 0) => ?_) (fun hq => have h : (Op.cmpValue (FP.dcmp a (FP.dconst0 : UInt64)) .l) = 0 := Classical.not_not.mp hq; ?_)
      · rw [if_neg h] at hb
        refine And.intro trivial (mnX4_isFar ?_ hb)
        intro r1 _ hb
        refine And.intro (fun (h : r1 = 0) => ?_) (fun (h : ¬ r1 = 0) => ?_)
        · rw [if_pos h] at hb
          obtain ⟨hi, hb⟩ := hb
          refine And.intro hi ?_
          exact hb
        · rw [if_neg h] at hb
          refine And.intro trivial (mnX4_isFar ?_ hb)
          intro r2 _ hb
          refine And.intro (fun (h : r2 = 0) => ?_) (fun (h : ¬ r2 = 0) => ?_)
          · rw [if_pos h] at hb
            obtain ⟨hi, hb⟩ := hb
            refine And.intro hi ?_
            exact hb
          · rw [if_neg h] at hb
            exact hb
      · rw [if_pos h] at hb
        refine And.intro (fun (h : (Op.cmpValue (FP.dcmp b (FP.dconst0 : UInt64)) .l) = 0) => ?_) (fun (h : ¬ (Op.cmpValue (FP.dcmp b (FP.dconst0 : UInt64)) .l) = 0) => ?_)
        · rw [if_pos h] at hb
          exact hb
        · rw [if_neg h] at hb
          refine And.intro trivial (mnX4_isFar ?_ hb)
          intro r3 _ hb
          refine And.intro (fun (h : r3 = 0) => ?_) (fun (h : ¬ r3 = 0) => ?_)
          · rw [if_pos h] at hb
            obtain ⟨hi, hb⟩ := hb
            refine And.intro hi ?_
            exact hb
          · rw [if_neg h] at hb
            refine And.intro trivial (mnX4_isFar ?_ hb)
            intro r4 _ hb
            refine And.intro (fun (h : r4 = 0) => ?_) (fun (h : ¬ r4 = 0) => ?_)
            · rw [if_pos h] at hb
              obtain ⟨hi, hb⟩ := hb
              refine And.intro hi ?_
              exact hb
            · rw [if_neg h] at hb
              exact hb
set_option maxRecDepth 20000 in
theorem okX4_divided (l : Launch) : OK l yX4_divided cX4_divided 4 (some .double) 1 tX4_divided := by
  intro D τ ρ A as σ post h
  unfold tX4_divided at h; split at h
  · rename_i a b; have hw := h.2
    refine met_of (P := pgX4_divided) (CE := ceX4_divided) (cut := cutX4_divided) (by decide) kkX4_divided (coX4_divided l) (Nat.le_of_ble_eq_true rfl) ?_
    intro G hG
    unfold wX4_divided at hw
    refine lbX4_divided_0 hG σ a b (mbX4_divided_0 ?_  hw)
    · exact fun _ h => ⟨trivial, h⟩
  · exact h.elim
def bX4_floor_0 (a : UInt64) (kr : UInt64 → Prop)  : Prop :=
  (if (Op.cmpValue (FP.dcmp a a) .l) = 0 then
    (wX4_size a (fun r1 => (if 0 ≤ (Op.cmpValue (FP.dcmp r1 (4841369599423283200 : UInt64)) .l) then
      kr a 
    else
      (if (Op.cmpValue (FP.dcmp a (FP.dconst0 : UInt64)) .l) = 0 then
        kr a 
      else
        (if (Op.cmpValue (FP.dcmp (FP.l2d (FP.d2l a)) a) .l) ≤ 0 then
          (if (Op.cmpValue (FP.dcmp (FP.l2d (FP.d2l a)) (FP.dconst0 : UInt64)) .l) = 0 then
            (if (Op.cmpValue (FP.dcmp a (FP.dconst0 : UInt64)) .l) ≤ 0 then
              kr (FP.l2d (FP.d2l a)) 
            else
              kr (FP.dconst0 : UInt64) )
          else
            kr (FP.l2d (FP.d2l a)) )
        else
          (vf_n64 (FP.dsub (FP.l2d (FP.d2l a)) (FP.dconst1 : UInt64)) ∧ kr (FP.dsub (FP.l2d (FP.d2l a)) (FP.dconst1 : UInt64)) ))))))
  else
    kr a )
set_option maxRecDepth 20000 in
theorem mbX4_floor_0 {a : UInt64} {kr kq : UInt64 → Prop}  (hr : ∀ x , kr x  → kq x )  (h : bX4_floor_0 a kr ) : bX4_floor_0 a kq  := by
  unfold bX4_floor_0 at h ⊢
  by_cases hc : (Op.cmpValue (FP.dcmp a a) .l) = 0
  · rw [if_pos hc] at h ⊢
    refine mnX4_size ?_ h
    intro r1 h
    by_cases hc : 0 ≤ (Op.cmpValue (FP.dcmp r1 (4841369599423283200 : UInt64)) .l)
    · rw [if_pos hc] at h ⊢
      exact hr _ h
    · rw [if_neg hc] at h ⊢
      by_cases hc : (Op.cmpValue (FP.dcmp a (FP.dconst0 : UInt64)) .l) = 0
      · rw [if_pos hc] at h ⊢
        exact hr _ h
      · rw [if_neg hc] at h ⊢
        by_cases hc : (Op.cmpValue (FP.dcmp (FP.l2d (FP.d2l a)) a) .l) ≤ 0
        · rw [if_pos hc] at h ⊢
          by_cases hc : (Op.cmpValue (FP.dcmp (FP.l2d (FP.d2l a)) (FP.dconst0 : UInt64)) .l) = 0
          · rw [if_pos hc] at h ⊢
            by_cases hc : (Op.cmpValue (FP.dcmp a (FP.dconst0 : UInt64)) .l) ≤ 0
            · rw [if_pos hc] at h ⊢
              exact hr _ h
            · rw [if_neg hc] at h ⊢
              exact hr _ h
          · rw [if_neg hc] at h ⊢
            exact hr _ h
        · rw [if_neg hc] at h ⊢
          obtain ⟨hi, h⟩ := h
          refine And.intro hi ?_
          exact hr _ h
  · rw [if_neg hc] at h ⊢
    exact hr _ h
def wX4_floor (a : UInt64) (kr : UInt64 → Prop) : Prop := bX4_floor_0 a kr 
theorem mnX4_floor {a : UInt64} {kr kq : UInt64 → Prop} (hr : ∀ x , kr x  → kq x ) (h : wX4_floor a kr) : wX4_floor a kq := mbX4_floor_0 hr  h
def tX4_floor : Tr := fun as σ k => match as with
  | [.double a] => True ∧ wX4_floor a (fun x  => k (some (.double x)) (σ))
  | _ => False
def ceX4_floor : List (Nat × Nat × Tr) := (2 * 97, 1, tX4_size) :: []
theorem coX4_floor (l : Launch) : CEok l yX4_floor.cls 5 ceX4_floor := ce_S (okX4_size l) (mw 788 (by decide +kernel) rfl) (mw 789 (by decide +kernel) rfl) (mw 4 (by decide +kernel) rfl) (mw 790 (by decide +kernel) rfl) (by decide) ⟨by decide, by decide⟩ (ce_0)
abbrev cutX4_floor : List (Nat × List Nat) := []
set_option maxRecDepth 20000 in
set_option maxHeartbeats 4000000 in
theorem lbX4_floor_0 {G : Nat → LV → List Value → aS → Prop} {post : Option Value → aS → Prop} (hG : ∀ n b pc lv st σ, seg (0, fun _ => 0) pgX4_floor ceX4_floor cutX4_floor G (fun v σ => rFit (some .double) v ∧ post v σ) n b pc lv st σ → G pc lv st σ) (σ : aS) (a : UInt64) (hb : bX4_floor_0 a (fun x  => rFit (some .double) (some (.double x)) ∧ post (some (.double x)) (σ)) ) : G 0 [(0, .double a)] [] (σ) := by
  unfold bX4_floor_0 at hb
  refine hG 400 false 0 _ _ _ ?_
  refine And.intro (fun (h : ¬ (Op.cmpValue (FP.dcmp a a) .l) = 0) => ?_) (fun hq => have h : (Op.cmpValue (FP.dcmp a a) .l) = 0 := Classical.not_not.mp hq; ?_)
  · rw [if_neg h] at hb
    exact hb
  · rw [if_pos h] at hb
    refine And.intro trivial (mnX4_size ?_ hb)
    intro r1 hb
    refine And.intro (fun (h : 0 ≤ (Op.cmpValue (FP.dcmp r1 (4841369599423283200 : UInt64)) .l)) => ?_) (fun (h : ¬ 0 ≤ (Op.cmpValue (FP.dcmp r1 (4841369599423283200 : UInt64)) .l)) => ?_)
    · rw [if_pos h] at hb
      exact hb
    · rw [if_neg h] at hb
      refine And.intro (fun (h : ¬ (Op.cmpValue (FP.dcmp a (FP.dconst0 : UInt64)) .l) = 0) => ?_) (fun hq => have h : (Op.cmpValue (FP.dcmp a (FP.dconst0 : UInt64)) .l) = 0 := Classical.not_not.mp hq; ?_)
      · rw [if_neg h] at hb
        refine And.intro (fun (h : (Op.cmpValue (FP.dcmp (FP.l2d (FP.d2l a)) a) .l) ≤ 0) => ?_) (fun (h : ¬ (Op.cmpValue (FP.dcmp (FP.l2d (FP.d2l a)) a) .l) ≤ 0) => ?_)
        · rw [if_pos h] at hb
          refine And.intro (fun (h : ¬ (Op.cmpValue (FP.dcmp (FP.l2d (FP.d2l a)) (FP.dconst0 : UInt64)) .l) = 0) => ?_) (fun hq => have h : (Op.cmpValue (FP.dcmp (FP.l2d (FP.d2l a)) (FP.dconst0 : UInt64)) .l) = 0 := Classical.not_not.mp hq; ?_)
          · rw [if_neg h] at hb
            exact hb
          · rw [if_pos h] at hb
            refine And.intro (fun (h : (Op.cmpValue (FP.dcmp a (FP.dconst0 : UInt64)) .l) ≤ 0) => ?_) (fun (h : ¬ (Op.cmpValue (FP.dcmp a (FP.dconst0 : UInt64)) .l) ≤ 0) => ?_)
            · rw [if_pos h] at hb
              exact hb
            · rw [if_neg h] at hb
              exact hb
        · rw [if_neg h] at hb
          obtain ⟨hi, hb⟩ := hb
          refine And.intro hi ?_
          exact hb
      · rw [if_pos h] at hb
        exact hb
set_option maxRecDepth 20000 in
theorem okX4_floor (l : Launch) : OK l yX4_floor cX4_floor 4 (some .double) 5 tX4_floor := by
  intro D τ ρ A as σ post h
  unfold tX4_floor at h; split at h
  · rename_i a; have hw := h.2
    refine met_of (P := pgX4_floor) (CE := ceX4_floor) (cut := cutX4_floor) (by decide) kkX4_floor (coX4_floor l) (Nat.le_of_ble_eq_true rfl) ?_
    intro G hG
    unfold wX4_floor at hw
    refine lbX4_floor_0 hG σ a (mbX4_floor_0 ?_  hw)
    · exact fun _ h => ⟨trivial, h⟩
  · exact h.elim
def bX4_root_0 (a : UInt64) (kr : UInt64 → Prop) (kc75 : UInt64 → Int64 → Int32 → Int64 → Prop) (kc122 : Int32 → Int64 → Int64 → Int64 → Int32 → Prop) : Prop :=
  (if (Op.cmpValue (FP.dcmp a a) .l) = 0 then
    (if 0 ≤ (Op.cmpValue (FP.dcmp a (FP.dconst0 : UInt64)) .g) then
      (if (Op.cmpValue (FP.dcmp a (FP.dconst0 : UInt64)) .l) = 0 then
        kr a 
      else
        (if (Op.cmpValue (FP.dcmp a (9218868437227405312 : UInt64)) .l) = 0 then
          kr a 
        else
          (wX4_bits a (fun r1 => (if ((r1 >>> ((52 : Int32).toInt64 &&& 63)).toInt32 - (1075 : Int32)) = (-1075 : Int32) then
            kc75 a r1 (-1074 : Int32) r1 
          else
            (if (((r1 >>> ((52 : Int32).toInt64 &&& 63)).toInt32 - (1075 : Int32)) &&& (1 : Int32)) = (1 : Int32) then
              kc122 (((r1 >>> ((52 : Int32).toInt64 &&& 63)).toInt32 - (1075 : Int32)) + (-1 : Int32)) (((r1 &&& (4503599627370495 : Int64)) ||| (4503599627370496 : Int64)) <<< ((1 : Int32).toInt64 &&& 63)) (0 : Int64) (0 : Int64) (0 : Int32) 
            else
              kc122 ((r1 >>> ((52 : Int32).toInt64 &&& 63)).toInt32 - (1075 : Int32)) ((r1 &&& (4503599627370495 : Int64)) ||| (4503599627370496 : Int64)) (0 : Int64) (0 : Int64) (0 : Int32) ))))))
    else
      kr (9221120237041090560 : UInt64) )
  else
    kr (9221120237041090560 : UInt64) )
def bX4_root_75 (a : UInt64) (l2 : Int64) (l4 : Int32) (l5 : Int64) (kr : UInt64 → Prop) (kc75 : UInt64 → Int64 → Int32 → Int64 → Prop) (kc122 : Int32 → Int64 → Int64 → Int64 → Int32 → Prop) : Prop :=
  (if 0 ≤ (lg_cmp l5 (4503599627370496 : Int64)) then
    (if (l4 &&& (1 : Int32)) = (1 : Int32) then
      kc122 (l4 + (-1 : Int32)) (l5 <<< ((1 : Int32).toInt64 &&& 63)) (0 : Int64) (0 : Int64) (0 : Int32) 
    else
      kc122 l4 l5 (0 : Int64) (0 : Int64) (0 : Int32) )
  else
    kc75 a l2 (l4 + (-1 : Int32)) (l5 <<< ((1 : Int32).toInt64 &&& 63)) )
def bX4_root_122 (l4 : Int32) (l5 : Int64) (l7 : Int64) (l9 : Int64) (l11 : Int32) (kr : UInt64 → Prop) (kc75 : UInt64 → Int64 → Int32 → Int64 → Prop) (kc122 : Int32 → Int64 → Int64 → Int64 → Int32 → Prop) : Prop :=
  (if (54 : Int32) ≤ l11 then
    (¬ (2 : Int32) = 0 ∧ (if (lg_cmp ((l9 + (1 : Int64)) >>> ((1 : Int32).toInt64 &&& 63)) (9007199254740992 : Int64)) = 0 then
      (wX4_of ((((((l4 / (2 : Int32)) - (26 : Int32)) + (1 : Int32)) + (1075 : Int32)).toInt64 <<< ((52 : Int32).toInt64 &&& 63)) ||| ((4503599627370496 : Int64) - (4503599627370496 : Int64))) (fun r3 => kr r3 ))
    else
      (wX4_of (((((l4 / (2 : Int32)) - (26 : Int32)) + (1075 : Int32)).toInt64 <<< ((52 : Int32).toInt64 &&& 63)) ||| (((l9 + (1 : Int64)) >>> ((1 : Int32).toInt64 &&& 63)) - (4503599627370496 : Int64))) (fun r2 => kr r2 ))))
  else
    (if (27 : Int32) ≤ l11 then
      (if (lg_cmp ((l7 <<< ((2 : Int32).toInt64 &&& 63)) ||| (0 : Int64)) ((l9 <<< ((2 : Int32).toInt64 &&& 63)) ||| (1 : Int64))) < 0 then
        kc122 l4 l5 ((l7 <<< ((2 : Int32).toInt64 &&& 63)) ||| (0 : Int64)) (l9 <<< ((1 : Int32).toInt64 &&& 63)) (l11 + (1 : Int32)) 
      else
        kc122 l4 l5 (((l7 <<< ((2 : Int32).toInt64 &&& 63)) ||| (0 : Int64)) - ((l9 <<< ((2 : Int32).toInt64 &&& 63)) ||| (1 : Int64))) ((l9 <<< ((1 : Int32).toInt64 &&& 63)) ||| (1 : Int64)) (l11 + (1 : Int32)) )
    else
      (if (lg_cmp ((l7 <<< ((2 : Int32).toInt64 &&& 63)) ||| ((l5 >>> (((52 : Int32) - ((2 : Int32) * l11)).toInt64 &&& 63)) &&& (3 : Int64))) ((l9 <<< ((2 : Int32).toInt64 &&& 63)) ||| (1 : Int64))) < 0 then
        kc122 l4 l5 ((l7 <<< ((2 : Int32).toInt64 &&& 63)) ||| ((l5 >>> (((52 : Int32) - ((2 : Int32) * l11)).toInt64 &&& 63)) &&& (3 : Int64))) (l9 <<< ((1 : Int32).toInt64 &&& 63)) (l11 + (1 : Int32)) 
      else
        kc122 l4 l5 (((l7 <<< ((2 : Int32).toInt64 &&& 63)) ||| ((l5 >>> (((52 : Int32) - ((2 : Int32) * l11)).toInt64 &&& 63)) &&& (3 : Int64))) - ((l9 <<< ((2 : Int32).toInt64 &&& 63)) ||| (1 : Int64))) ((l9 <<< ((1 : Int32).toInt64 &&& 63)) ||| (1 : Int64)) (l11 + (1 : Int32)) )))
set_option maxRecDepth 20000 in
theorem mbX4_root_0 {a : UInt64} {kr kq : UInt64 → Prop} {kc75 kd75 : UInt64 → Int64 → Int32 → Int64 → Prop} {kc122 kd122 : Int32 → Int64 → Int64 → Int64 → Int32 → Prop} (hr : ∀ x , kr x  → kq x ) (hc75 : ∀ z0 z2 z4 z5, kc75 z0 z2 z4 z5 → kd75 z0 z2 z4 z5) (hc122 : ∀ z4 z5 z7 z9 z11, kc122 z4 z5 z7 z9 z11 → kd122 z4 z5 z7 z9 z11) (h : bX4_root_0 a kr kc75 kc122) : bX4_root_0 a kq kd75 kd122 := by
  unfold bX4_root_0 at h ⊢
  by_cases hc : (Op.cmpValue (FP.dcmp a a) .l) = 0
  · rw [if_pos hc] at h ⊢
    by_cases hc : 0 ≤ (Op.cmpValue (FP.dcmp a (FP.dconst0 : UInt64)) .g)
    · rw [if_pos hc] at h ⊢
      by_cases hc : (Op.cmpValue (FP.dcmp a (FP.dconst0 : UInt64)) .l) = 0
      · rw [if_pos hc] at h ⊢
        exact hr _ h
      · rw [if_neg hc] at h ⊢
        by_cases hc : (Op.cmpValue (FP.dcmp a (9218868437227405312 : UInt64)) .l) = 0
        · rw [if_pos hc] at h ⊢
          exact hr _ h
        · rw [if_neg hc] at h ⊢
          refine mnX4_bits ?_ h
          intro r1 h
          by_cases hc : ((r1 >>> ((52 : Int32).toInt64 &&& 63)).toInt32 - (1075 : Int32)) = (-1075 : Int32)
          · rw [if_pos hc] at h ⊢
            exact hc75 _ _ _ _ h
          · rw [if_neg hc] at h ⊢
            by_cases hc : (((r1 >>> ((52 : Int32).toInt64 &&& 63)).toInt32 - (1075 : Int32)) &&& (1 : Int32)) = (1 : Int32)
            · rw [if_pos hc] at h ⊢
              exact hc122 _ _ _ _ _ h
            · rw [if_neg hc] at h ⊢
              exact hc122 _ _ _ _ _ h
    · rw [if_neg hc] at h ⊢
      exact hr _ h
  · rw [if_neg hc] at h ⊢
    exact hr _ h
set_option maxRecDepth 20000 in
theorem mbX4_root_75 {a : UInt64} {l2 : Int64} {l4 : Int32} {l5 : Int64} {kr kq : UInt64 → Prop} {kc75 kd75 : UInt64 → Int64 → Int32 → Int64 → Prop} {kc122 kd122 : Int32 → Int64 → Int64 → Int64 → Int32 → Prop} (hr : ∀ x , kr x  → kq x ) (hc75 : ∀ z0 z2 z4 z5, kc75 z0 z2 z4 z5 → kd75 z0 z2 z4 z5) (hc122 : ∀ z4 z5 z7 z9 z11, kc122 z4 z5 z7 z9 z11 → kd122 z4 z5 z7 z9 z11) (h : bX4_root_75 a l2 l4 l5 kr kc75 kc122) : bX4_root_75 a l2 l4 l5 kq kd75 kd122 := by
  unfold bX4_root_75 at h ⊢
  by_cases hc : 0 ≤ (lg_cmp l5 (4503599627370496 : Int64))
  · rw [if_pos hc] at h ⊢
    by_cases hc : (l4 &&& (1 : Int32)) = (1 : Int32)
    · rw [if_pos hc] at h ⊢
      exact hc122 _ _ _ _ _ h
    · rw [if_neg hc] at h ⊢
      exact hc122 _ _ _ _ _ h
  · rw [if_neg hc] at h ⊢
    exact hc75 _ _ _ _ h
set_option maxRecDepth 20000 in
theorem mbX4_root_122 {l4 : Int32} {l5 : Int64} {l7 : Int64} {l9 : Int64} {l11 : Int32} {kr kq : UInt64 → Prop} {kc75 kd75 : UInt64 → Int64 → Int32 → Int64 → Prop} {kc122 kd122 : Int32 → Int64 → Int64 → Int64 → Int32 → Prop} (hr : ∀ x , kr x  → kq x ) (hc75 : ∀ z0 z2 z4 z5, kc75 z0 z2 z4 z5 → kd75 z0 z2 z4 z5) (hc122 : ∀ z4 z5 z7 z9 z11, kc122 z4 z5 z7 z9 z11 → kd122 z4 z5 z7 z9 z11) (h : bX4_root_122 l4 l5 l7 l9 l11 kr kc75 kc122) : bX4_root_122 l4 l5 l7 l9 l11 kq kd75 kd122 := by
  unfold bX4_root_122 at h ⊢
  by_cases hc : (54 : Int32) ≤ l11
  · rw [if_pos hc] at h ⊢
    obtain ⟨hi, h⟩ := h
    refine And.intro hi ?_
    by_cases hc : (lg_cmp ((l9 + (1 : Int64)) >>> ((1 : Int32).toInt64 &&& 63)) (9007199254740992 : Int64)) = 0
    · rw [if_pos hc] at h ⊢
      refine mnX4_of ?_ h
      intro r3 h
      exact hr _ h
    · rw [if_neg hc] at h ⊢
      refine mnX4_of ?_ h
      intro r2 h
      exact hr _ h
  · rw [if_neg hc] at h ⊢
    by_cases hc : (27 : Int32) ≤ l11
    · rw [if_pos hc] at h ⊢
      by_cases hc : (lg_cmp ((l7 <<< ((2 : Int32).toInt64 &&& 63)) ||| (0 : Int64)) ((l9 <<< ((2 : Int32).toInt64 &&& 63)) ||| (1 : Int64))) < 0
      · rw [if_pos hc] at h ⊢
        exact hc122 _ _ _ _ _ h
      · rw [if_neg hc] at h ⊢
        exact hc122 _ _ _ _ _ h
    · rw [if_neg hc] at h ⊢
      by_cases hc : (lg_cmp ((l7 <<< ((2 : Int32).toInt64 &&& 63)) ||| ((l5 >>> (((52 : Int32) - ((2 : Int32) * l11)).toInt64 &&& 63)) &&& (3 : Int64))) ((l9 <<< ((2 : Int32).toInt64 &&& 63)) ||| (1 : Int64))) < 0
      · rw [if_pos hc] at h ⊢
        exact hc122 _ _ _ _ _ h
      · rw [if_neg hc] at h ⊢
        exact hc122 _ _ _ _ _ h
def itX4_root_122 (kr : UInt64 → Prop) : Nat → Int32 → Int64 → Int64 → Int64 → Int32 → Prop
  | 0, _, _, _, _, _ => False
  | n + 1, l4, l5, l7, l9, l11 => bX4_root_122 l4 l5 l7 l9 l11 kr (fun _ _ _ _ => False) (fun z4 z5 z7 z9 z11 => itX4_root_122 kr n z4 z5 z7 z9 z11)
theorem miX4_root_122 {kr kq : UInt64 → Prop} (hr : ∀ x , kr x  → kq x ) : ∀ (n : Nat) (z4 : Int32) (z5 : Int64) (z7 : Int64) (z9 : Int64) (z11 : Int32), itX4_root_122 kr n z4 z5 z7 z9 z11 → itX4_root_122 kq n z4 z5 z7 z9 z11
  | 0, _, _, _, _, _, h => h
  | n + 1, _, _, _, _, _, h => mbX4_root_122 hr (fun _ _ _ _ h => h) (fun _ _ _ _ _ h => miX4_root_122 hr n _ _ _ _ _ h) h
def itX4_root_75 (kr : UInt64 → Prop) : Nat → UInt64 → Int64 → Int32 → Int64 → Prop
  | 0, _, _, _, _ => False
  | n + 1, a, l2, l4, l5 => bX4_root_75 a l2 l4 l5 kr (fun z0 z2 z4 z5 => itX4_root_75 kr n z0 z2 z4 z5) (fun z4 z5 z7 z9 z11 => ∃ N, itX4_root_122 kr N z4 z5 z7 z9 z11)
theorem miX4_root_75 {kr kq : UInt64 → Prop} (hr : ∀ x , kr x  → kq x ) : ∀ (n : Nat) (z0 : UInt64) (z2 : Int64) (z4 : Int32) (z5 : Int64), itX4_root_75 kr n z0 z2 z4 z5 → itX4_root_75 kq n z0 z2 z4 z5
  | 0, _, _, _, _, h => h
  | n + 1, _, _, _, _, h => mbX4_root_75 hr (fun _ _ _ _ h => miX4_root_75 hr n _ _ _ _ h) (fun _ _ _ _ _ h => h.elim fun N h => ⟨N, miX4_root_122 hr N _ _ _ _ _ h⟩) h
def wX4_root (a : UInt64) (kr : UInt64 → Prop) : Prop := bX4_root_0 a kr (fun z0 z2 z4 z5 => ∃ N, itX4_root_75 kr N z0 z2 z4 z5) (fun z4 z5 z7 z9 z11 => ∃ N, itX4_root_122 kr N z4 z5 z7 z9 z11)
theorem mnX4_root {a : UInt64} {kr kq : UInt64 → Prop} (hr : ∀ x , kr x  → kq x ) (h : wX4_root a kr) : wX4_root a kq := mbX4_root_0 hr (fun _ _ _ _ h => h.elim fun N h => ⟨N, miX4_root_75 hr N _ _ _ _ h⟩) (fun _ _ _ _ _ h => h.elim fun N h => ⟨N, miX4_root_122 hr N _ _ _ _ _ h⟩) h
def tX4_root : Tr := fun as σ k => match as with
  | [.double a] => True ∧ wX4_root a (fun x  => k (some (.double x)) (σ))
  | _ => False
def ceX4_root : List (Nat × Nat × Tr) := (2 * 81, 1, tX4_bits) :: (2 * 78, 1, tX4_of) :: []
theorem coX4_root (l : Launch) : CEok l yX4_root.cls 3 ceX4_root := ce_S (okX4_bits l) (mw 772 (by decide +kernel) rfl) (mw 773 (by decide +kernel) rfl) (mw 4 (by decide +kernel) rfl) (mw 774 (by decide +kernel) rfl) (by decide) ⟨by decide, by decide⟩ (ce_S (okX4_of l) (mw 707 (by decide +kernel) rfl) (mw 708 (by decide +kernel) rfl) (mw 4 (by decide +kernel) rfl) (mw 709 (by decide +kernel) rfl) (by decide) ⟨by decide, by decide⟩ (ce_0))
abbrev cutX4_root : List (Nat × List Nat) := [(75, [0, 2, 4, 5]), (122, [4, 5, 7, 9, 11])]
set_option maxRecDepth 20000 in
set_option maxHeartbeats 4000000 in
theorem lbX4_root_0 {G : Nat → LV → List Value → aS → Prop} {post : Option Value → aS → Prop} (hG : ∀ n b pc lv st σ, seg (0, fun _ => 0) pgX4_root ceX4_root cutX4_root G (fun v σ => rFit (some .double) v ∧ post v σ) n b pc lv st σ → G pc lv st σ) (σ : aS) (a : UInt64) (hb : bX4_root_0 a (fun x  => rFit (some .double) (some (.double x)) ∧ post (some (.double x)) (σ)) (fun z0 z2 z4 z5 => G 75 [(0, .double z0), (2, .long z2), (4, .int z4), (5, .long z5)] [] (σ)) (fun z4 z5 z7 z9 z11 => G 122 [(4, .int z4), (5, .long z5), (7, .long z7), (9, .long z9), (11, .int z11)] [] (σ))) : G 0 [(0, .double a)] [] (σ) := by
  unfold bX4_root_0 at hb
  refine hG 400 false 0 _ _ _ ?_
  refine And.intro (fun (h : ¬ (Op.cmpValue (FP.dcmp a a) .l) = 0) => ?_) (fun hq => have h : (Op.cmpValue (FP.dcmp a a) .l) = 0 := Classical.not_not.mp hq; ?_)
  · rw [if_neg h] at hb
    exact hb
  · rw [if_pos h] at hb
    refine And.intro (fun (h : 0 ≤ (Op.cmpValue (FP.dcmp a (FP.dconst0 : UInt64)) .g)) => ?_) (fun (h : ¬ 0 ≤ (Op.cmpValue (FP.dcmp a (FP.dconst0 : UInt64)) .g)) => ?_)
    · rw [if_pos h] at hb
      refine And.intro (fun (h : (Op.cmpValue (FP.dcmp a (FP.dconst0 : UInt64)) .l) = 0) => ?_) (fun (h : ¬ (Op.cmpValue (FP.dcmp a (FP.dconst0 : UInt64)) .l) = 0) => ?_)
      · rw [if_pos h] at hb
        exact hb
      · rw [if_neg h] at hb
        refine And.intro (fun (h : ¬ (Op.cmpValue (FP.dcmp a (9218868437227405312 : UInt64)) .l) = 0) => ?_) (fun hq => have h : (Op.cmpValue (FP.dcmp a (9218868437227405312 : UInt64)) .l) = 0 := Classical.not_not.mp hq; ?_)
        · rw [if_neg h] at hb
          refine And.intro trivial (mnX4_bits ?_ hb)
          intro r1 hb
          refine And.intro (fun (h : ¬ ((r1 >>> ((52 : Int32).toInt64 &&& 63)).toInt32 - (1075 : Int32)) = (-1075 : Int32)) => ?_) (fun hq => have h : ((r1 >>> ((52 : Int32).toInt64 &&& 63)).toInt32 - (1075 : Int32)) = (-1075 : Int32) := Classical.not_not.mp hq; ?_)
          · rw [if_neg h] at hb
            refine And.intro (fun (h : ¬ (((r1 >>> ((52 : Int32).toInt64 &&& 63)).toInt32 - (1075 : Int32)) &&& (1 : Int32)) = (1 : Int32)) => ?_) (fun hq => have h : (((r1 >>> ((52 : Int32).toInt64 &&& 63)).toInt32 - (1075 : Int32)) &&& (1 : Int32)) = (1 : Int32) := Classical.not_not.mp hq; ?_)
            · rw [if_neg h] at hb
              exact hb
            · rw [if_pos h] at hb
              exact hb
          · rw [if_pos h] at hb
            exact hb
        · rw [if_pos h] at hb
          exact hb
    · rw [if_neg h] at hb
      exact hb
set_option maxRecDepth 20000 in
set_option maxHeartbeats 4000000 in
theorem lbX4_root_75 {G : Nat → LV → List Value → aS → Prop} {post : Option Value → aS → Prop} (hG : ∀ n b pc lv st σ, seg (0, fun _ => 0) pgX4_root ceX4_root cutX4_root G (fun v σ => rFit (some .double) v ∧ post v σ) n b pc lv st σ → G pc lv st σ) (σ : aS) (a : UInt64) (l2 : Int64) (l4 : Int32) (l5 : Int64) (hb : bX4_root_75 a l2 l4 l5 (fun x  => rFit (some .double) (some (.double x)) ∧ post (some (.double x)) (σ)) (fun z0 z2 z4 z5 => G 75 [(0, .double z0), (2, .long z2), (4, .int z4), (5, .long z5)] [] (σ)) (fun z4 z5 z7 z9 z11 => G 122 [(4, .int z4), (5, .long z5), (7, .long z7), (9, .long z9), (11, .int z11)] [] (σ))) : G 75 [(0, .double a), (2, .long l2), (4, .int l4), (5, .long l5)] [] (σ) := by
  unfold bX4_root_75 at hb
  refine hG 400 false 75 _ _ _ ?_
  refine And.intro (fun (h : 0 ≤ (lg_cmp l5 (4503599627370496 : Int64))) => ?_) (fun (h : ¬ 0 ≤ (lg_cmp l5 (4503599627370496 : Int64))) => ?_)
  · rw [if_pos h] at hb
    refine And.intro (fun (h : ¬ (l4 &&& (1 : Int32)) = (1 : Int32)) => ?_) (fun hq => have h : (l4 &&& (1 : Int32)) = (1 : Int32) := Classical.not_not.mp hq; ?_)
    · rw [if_neg h] at hb
      exact hb
    · rw [if_pos h] at hb
      exact hb
  · rw [if_neg h] at hb
    exact hb
set_option maxRecDepth 20000 in
set_option maxHeartbeats 4000000 in
theorem lbX4_root_122 {G : Nat → LV → List Value → aS → Prop} {post : Option Value → aS → Prop} (hG : ∀ n b pc lv st σ, seg (0, fun _ => 0) pgX4_root ceX4_root cutX4_root G (fun v σ => rFit (some .double) v ∧ post v σ) n b pc lv st σ → G pc lv st σ) (σ : aS) (l4 : Int32) (l5 : Int64) (l7 : Int64) (l9 : Int64) (l11 : Int32) (hb : bX4_root_122 l4 l5 l7 l9 l11 (fun x  => rFit (some .double) (some (.double x)) ∧ post (some (.double x)) (σ)) (fun z0 z2 z4 z5 => G 75 [(0, .double z0), (2, .long z2), (4, .int z4), (5, .long z5)] [] (σ)) (fun z4 z5 z7 z9 z11 => G 122 [(4, .int z4), (5, .long z5), (7, .long z7), (9, .long z9), (11, .int z11)] [] (σ))) : G 122 [(4, .int l4), (5, .long l5), (7, .long l7), (9, .long l9), (11, .int l11)] [] (σ) := by
  unfold bX4_root_122 at hb
  refine hG 400 false 122 _ _ _ ?_
  refine And.intro (fun (h : (54 : Int32) ≤ l11) => ?_) (fun (h : ¬ (54 : Int32) ≤ l11) => ?_)
  · rw [if_pos h] at hb
    obtain ⟨hi, hb⟩ := hb
    refine And.intro hi ?_
    refine And.intro (fun (h : ¬ (lg_cmp ((l9 + (1 : Int64)) >>> ((1 : Int32).toInt64 &&& 63)) (9007199254740992 : Int64)) = 0) => ?_) (fun hq => have h : (lg_cmp ((l9 + (1 : Int64)) >>> ((1 : Int32).toInt64 &&& 63)) (9007199254740992 : Int64)) = 0 := Classical.not_not.mp hq; ?_)
    · rw [if_neg h] at hb
      refine And.intro trivial (mnX4_of ?_ hb)
      intro r2 hb
      exact hb
    · rw [if_pos h] at hb
      refine And.intro trivial (mnX4_of ?_ hb)
      intro r3 hb
      exact hb
  · rw [if_neg h] at hb
    refine And.intro (fun (h : (27 : Int32) ≤ l11) => ?_) (fun (h : ¬ (27 : Int32) ≤ l11) => ?_)
    · rw [if_pos h] at hb
      refine And.intro (fun (h : (lg_cmp ((l7 <<< ((2 : Int32).toInt64 &&& 63)) ||| (0 : Int64)) ((l9 <<< ((2 : Int32).toInt64 &&& 63)) ||| (1 : Int64))) < 0) => ?_) (fun (h : ¬ (lg_cmp ((l7 <<< ((2 : Int32).toInt64 &&& 63)) ||| (0 : Int64)) ((l9 <<< ((2 : Int32).toInt64 &&& 63)) ||| (1 : Int64))) < 0) => ?_)
      · rw [if_pos h] at hb
        exact hb
      · rw [if_neg h] at hb
        exact hb
    · rw [if_neg h] at hb
      refine And.intro (fun (h : (lg_cmp ((l7 <<< ((2 : Int32).toInt64 &&& 63)) ||| ((l5 >>> (((52 : Int32) - ((2 : Int32) * l11)).toInt64 &&& 63)) &&& (3 : Int64))) ((l9 <<< ((2 : Int32).toInt64 &&& 63)) ||| (1 : Int64))) < 0) => ?_) (fun (h : ¬ (lg_cmp ((l7 <<< ((2 : Int32).toInt64 &&& 63)) ||| ((l5 >>> (((52 : Int32) - ((2 : Int32) * l11)).toInt64 &&& 63)) &&& (3 : Int64))) ((l9 <<< ((2 : Int32).toInt64 &&& 63)) ||| (1 : Int64))) < 0) => ?_)
      · rw [if_pos h] at hb
        exact hb
      · rw [if_neg h] at hb
        exact hb
theorem giX4_root_122 {G : Nat → LV → List Value → aS → Prop} {post : Option Value → aS → Prop} (hG : ∀ n b pc lv st σ, seg (0, fun _ => 0) pgX4_root ceX4_root cutX4_root G (fun v σ => rFit (some .double) v ∧ post v σ) n b pc lv st σ → G pc lv st σ) (σ : aS) : ∀ (n : Nat) (z4 : Int32) (z5 : Int64) (z7 : Int64) (z9 : Int64) (z11 : Int32), itX4_root_122 (fun x  => rFit (some .double) (some (.double x)) ∧ post (some (.double x)) (σ)) n z4 z5 z7 z9 z11 → G 122 [(4, .int z4), (5, .long z5), (7, .long z7), (9, .long z9), (11, .int z11)] [] (σ)
  | 0, _, _, _, _, _, h => h.elim
  | n + 1, _, _, _, _, _, h => lbX4_root_122 hG σ _ _ _ _ _ (mbX4_root_122 (fun _ h => h) (fun _ _ _ _ h => h.elim) (fun _ _ _ _ _ h => giX4_root_122 hG σ n _ _ _ _ _ h) h)
theorem giX4_root_75 {G : Nat → LV → List Value → aS → Prop} {post : Option Value → aS → Prop} (hG : ∀ n b pc lv st σ, seg (0, fun _ => 0) pgX4_root ceX4_root cutX4_root G (fun v σ => rFit (some .double) v ∧ post v σ) n b pc lv st σ → G pc lv st σ) (σ : aS) : ∀ (n : Nat) (z0 : UInt64) (z2 : Int64) (z4 : Int32) (z5 : Int64), itX4_root_75 (fun x  => rFit (some .double) (some (.double x)) ∧ post (some (.double x)) (σ)) n z0 z2 z4 z5 → G 75 [(0, .double z0), (2, .long z2), (4, .int z4), (5, .long z5)] [] (σ)
  | 0, _, _, _, _, h => h.elim
  | n + 1, _, _, _, _, h => lbX4_root_75 hG σ _ _ _ _ (mbX4_root_75 (fun _ h => h) (fun _ _ _ _ h => giX4_root_75 hG σ n _ _ _ _ h) (fun _ _ _ _ _ h => h.elim fun N h => giX4_root_122 hG σ N _ _ _ _ _ h) h)
set_option maxRecDepth 20000 in
theorem okX4_root (l : Launch) : OK l yX4_root cX4_root 14 (some .double) 3 tX4_root := by
  intro D τ ρ A as σ post h
  unfold tX4_root at h; split at h
  · rename_i a; have hw := h.2
    refine met_of (P := pgX4_root) (CE := ceX4_root) (cut := cutX4_root) (by decide) kkX4_root (coX4_root l) (Nat.le_of_ble_eq_true rfl) ?_
    intro G hG
    unfold wX4_root at hw
    refine lbX4_root_0 hG σ a (mbX4_root_0 ?_ ?_ ?_ hw)
    · exact fun _ h => ⟨trivial, h⟩
    · intro _ _ _ _ ⟨N, h⟩; exact giX4_root_75 hG σ N _ _ _ _ (miX4_root_75 (fun _ h => ⟨trivial, h⟩) N _ _ _ _ h)
    · intro _ _ _ _ _ ⟨N, h⟩; exact giX4_root_122 hG σ N _ _ _ _ _ (miX4_root_122 (fun _ h => ⟨trivial, h⟩) N _ _ _ _ _ h)
  · exact h.elim
def bX4_isTwo_0 (a : Int32) (kr : Int32 → Prop)  : Prop :=
  (wX4_in a (2 : Int32) (7 : Int32) (fun r1 => ((r1 = 0 ∨ r1 = 1) ∧ kr r1 )))
set_option maxRecDepth 20000 in
theorem mbX4_isTwo_0 {a : Int32} {kr kq : Int32 → Prop}  (hr : ∀ x , (x = 0 ∨ x = 1) → kr x  → kq x )  (h : bX4_isTwo_0 a kr ) : bX4_isTwo_0 a kq  := by
  unfold bX4_isTwo_0 at h ⊢
  refine mnX4_in ?_ h
  intro r1 _ h
  exact ⟨h.1, hr _ h.1 h.2⟩
def wX4_isTwo (a : Int32) (kr : Int32 → Prop) : Prop := bX4_isTwo_0 a kr 
theorem mnX4_isTwo {a : Int32} {kr kq : Int32 → Prop} (hr : ∀ x , (x = 0 ∨ x = 1) → kr x  → kq x ) (h : wX4_isTwo a kr) : wX4_isTwo a kq := mbX4_isTwo_0 hr  h
def tX4_isTwo : Tr := fun as σ k => match as with
  | [.int a] => True ∧ wX4_isTwo a (fun x  => k (some (.int x)) (σ))
  | _ => False
def ceX4_isTwo : List (Nat × Nat × Tr) := (2 * 129, 3, tX4_in) :: []
theorem coX4_isTwo (l : Launch) : CEok l yX4_isTwo.cls 1 ceX4_isTwo := ce_S (okX4_in l) (mw 726 (by decide +kernel) rfl) (mw 727 (by decide +kernel) rfl) (mw 4 (by decide +kernel) rfl) (mw 728 (by decide +kernel) rfl) (by decide) ⟨by decide, by decide⟩ (ce_0)
abbrev cutX4_isTwo : List (Nat × List Nat) := []
set_option maxRecDepth 20000 in
set_option maxHeartbeats 4000000 in
theorem lbX4_isTwo_0 {G : Nat → LV → List Value → aS → Prop} {post : Option Value → aS → Prop} (hG : ∀ n b pc lv st σ, seg (0, fun _ => 0) pgX4_isTwo ceX4_isTwo cutX4_isTwo G (fun v σ => rFit (some .boolean) v ∧ post v σ) n b pc lv st σ → G pc lv st σ) (σ : aS) (a : Int32) (hb : bX4_isTwo_0 a (fun x  => rFit (some .boolean) (some (.int x)) ∧ post (some (.int x)) (σ)) ) : G 0 [(0, .int a)] [] (σ) := by
  unfold bX4_isTwo_0 at hb
  refine hG 400 false 0 _ _ _ ?_
  refine And.intro trivial (mnX4_in ?_ hb)
  intro r1 _ hb
  exact hb.2
set_option maxRecDepth 20000 in
theorem okX4_isTwo (l : Launch) : OK l yX4_isTwo cX4_isTwo 1 (some .boolean) 1 tX4_isTwo := by
  intro D τ ρ A as σ post h
  unfold tX4_isTwo at h; split at h
  · rename_i a; have hw := h.2
    refine met_of (P := pgX4_isTwo) (CE := ceX4_isTwo) (cut := cutX4_isTwo) (by decide) kkX4_isTwo (coX4_isTwo l) (Nat.le_of_ble_eq_true rfl) ?_
    intro G hG
    unfold wX4_isTwo at hw
    refine lbX4_isTwo_0 hG σ a (mbX4_isTwo_0 ?_  hw)
    · exact fun _ hf h => ⟨hf, h⟩
  · exact h.elim
def bX4_made_0 (a : Int32) (b : UInt64) (d : UInt64) (kr : UInt64 → Prop)  : Prop :=
  (if a.toInt < 2 ∨ 15 < a.toInt then
    (if (Op.cmpValue (FP.dcmp b b) .l) = 0 then
      kr (FP.l2d (FP.d2l b)) 
    else
      kr (FP.dconst0 : UInt64) )
  else if a = (2 : Int32) then
    (wX4_added b d (fun r1 => kr r1 ))
  else if a = (3 : Int32) then
    (wX4_lessened b d (fun r2 => kr r2 ))
  else if a = (4 : Int32) then
    (wX4_timed b d (fun r3 => kr r3 ))
  else if a = (5 : Int32) then
    (wX4_divided b d (fun r4 => kr r4 ))
  else if a = (6 : Int32) then
    (wX4_least b d (fun r5 => kr r5 ))
  else if a = (7 : Int32) then
    (wX4_greatest b d (fun r6 => kr r6 ))
  else if a = (8 : Int32) then
    (wX4_size b (fun r7 => kr r7 ))
  else if a = (9 : Int32) then
    (wX4_root b (fun r8 => kr r8 ))
  else if a = (10 : Int32) then
    (wX4_timed b b (fun r9 => kr r9 ))
  else if a = (11 : Int32) then
    (wX4_floor b (fun r10 => kr r10 ))
  else if a = (12 : Int32) then
    (if (Op.cmpValue (FP.dcmp b b) .l) = 0 then
      kr (FP.dneg b) 
    else
      kr b )
  else if a = (13 : Int32) then
    (if (Op.cmpValue (FP.dcmp b b) .l) = 0 then
      (vf_n32 (FP.d2f b) ∧ (vf_n64 (FP.f2d (FP.d2f b)) ∧ kr (FP.f2d (FP.d2f b)) ))
    else
      kr b )
  else if a = (14 : Int32) then
    (if (Op.cmpValue (FP.dcmp b b) .l) = 0 then
      (if (Op.cmpValue (FP.dcmp b (FP.dconst0 : UInt64)) .l) = 0 then
        kr b 
      else
        (if 0 ≤ (Op.cmpValue (FP.dcmp b (FP.dconst0 : UInt64)) .g) then
          kr (FP.dconst1 : UInt64) 
        else
          kr (13830554455654793216 : UInt64) ))
    else
      kr b )
  else
    (if (Op.cmpValue (FP.dcmp b b) .l) = 0 then
      kr (FP.i2d (FP.d2i b)) 
    else
      kr (FP.dconst0 : UInt64) ))
set_option maxRecDepth 20000 in
theorem mbX4_made_0 {a : Int32} {b : UInt64} {d : UInt64} {kr kq : UInt64 → Prop}  (hr : ∀ x , kr x  → kq x )  (h : bX4_made_0 a b d kr ) : bX4_made_0 a b d kq  := by
  unfold bX4_made_0 at h ⊢
  by_cases hc : a.toInt < 2 ∨ 15 < a.toInt
  · rw [if_pos hc] at h ⊢
    by_cases hc : (Op.cmpValue (FP.dcmp b b) .l) = 0
    · rw [if_pos hc] at h ⊢
      exact hr _ h
    · rw [if_neg hc] at h ⊢
      exact hr _ h
  rw [if_neg hc] at h ⊢
  by_cases hc : a = (2 : Int32)
  · rw [if_pos hc] at h ⊢
    refine mnX4_added ?_ h
    intro r1 h
    exact hr _ h
  rw [if_neg hc] at h ⊢
  by_cases hc : a = (3 : Int32)
  · rw [if_pos hc] at h ⊢
    refine mnX4_lessened ?_ h
    intro r2 h
    exact hr _ h
  rw [if_neg hc] at h ⊢
  by_cases hc : a = (4 : Int32)
  · rw [if_pos hc] at h ⊢
    refine mnX4_timed ?_ h
    intro r3 h
    exact hr _ h
  rw [if_neg hc] at h ⊢
  by_cases hc : a = (5 : Int32)
  · rw [if_pos hc] at h ⊢
    refine mnX4_divided ?_ h
    intro r4 h
    exact hr _ h
  rw [if_neg hc] at h ⊢
  by_cases hc : a = (6 : Int32)
  · rw [if_pos hc] at h ⊢
    refine mnX4_least ?_ h
    intro r5 h
    exact hr _ h
  rw [if_neg hc] at h ⊢
  by_cases hc : a = (7 : Int32)
  · rw [if_pos hc] at h ⊢
    refine mnX4_greatest ?_ h
    intro r6 h
    exact hr _ h
  rw [if_neg hc] at h ⊢
  by_cases hc : a = (8 : Int32)
  · rw [if_pos hc] at h ⊢
    refine mnX4_size ?_ h
    intro r7 h
    exact hr _ h
  rw [if_neg hc] at h ⊢
  by_cases hc : a = (9 : Int32)
  · rw [if_pos hc] at h ⊢
    refine mnX4_root ?_ h
    intro r8 h
    exact hr _ h
  rw [if_neg hc] at h ⊢
  by_cases hc : a = (10 : Int32)
  · rw [if_pos hc] at h ⊢
    refine mnX4_timed ?_ h
    intro r9 h
    exact hr _ h
  rw [if_neg hc] at h ⊢
  by_cases hc : a = (11 : Int32)
  · rw [if_pos hc] at h ⊢
    refine mnX4_floor ?_ h
    intro r10 h
    exact hr _ h
  rw [if_neg hc] at h ⊢
  by_cases hc : a = (12 : Int32)
  · rw [if_pos hc] at h ⊢
    by_cases hc : (Op.cmpValue (FP.dcmp b b) .l) = 0
    · rw [if_pos hc] at h ⊢
      exact hr _ h
    · rw [if_neg hc] at h ⊢
      exact hr _ h
  rw [if_neg hc] at h ⊢
  by_cases hc : a = (13 : Int32)
  · rw [if_pos hc] at h ⊢
    by_cases hc : (Op.cmpValue (FP.dcmp b b) .l) = 0
    · rw [if_pos hc] at h ⊢
      obtain ⟨hi, h⟩ := h
      refine And.intro hi ?_
      obtain ⟨hi, h⟩ := h
      refine And.intro hi ?_
      exact hr _ h
    · rw [if_neg hc] at h ⊢
      exact hr _ h
  rw [if_neg hc] at h ⊢
  by_cases hc : a = (14 : Int32)
  · rw [if_pos hc] at h ⊢
    by_cases hc : (Op.cmpValue (FP.dcmp b b) .l) = 0
    · rw [if_pos hc] at h ⊢
      by_cases hc : (Op.cmpValue (FP.dcmp b (FP.dconst0 : UInt64)) .l) = 0
      · rw [if_pos hc] at h ⊢
        exact hr _ h
      · rw [if_neg hc] at h ⊢
        by_cases hc : 0 ≤ (Op.cmpValue (FP.dcmp b (FP.dconst0 : UInt64)) .g)
        · rw [if_pos hc] at h ⊢
          exact hr _ h
        · rw [if_neg hc] at h ⊢
          exact hr _ h
    · rw [if_neg hc] at h ⊢
      exact hr _ h
  rw [if_neg hc] at h ⊢
  by_cases hc : (Op.cmpValue (FP.dcmp b b) .l) = 0
  · rw [if_pos hc] at h ⊢
    exact hr _ h
  · rw [if_neg hc] at h ⊢
    exact hr _ h
def wX4_made (a : Int32) (b : UInt64) (d : UInt64) (kr : UInt64 → Prop) : Prop := bX4_made_0 a b d kr 
theorem mnX4_made {a : Int32} {b : UInt64} {d : UInt64} {kr kq : UInt64 → Prop} (hr : ∀ x , kr x  → kq x ) (h : wX4_made a b d kr) : wX4_made a b d kq := mbX4_made_0 hr  h
def tX4_made : Tr := fun as σ k => match as with
  | [.int a, .double b, .double d] => True ∧ wX4_made a b d (fun x  => k (some (.double x)) (σ))
  | _ => False
def ceX4_made : List (Nat × Nat × Tr) := (2 * 140, 2, tX4_added) :: (2 * 144, 2, tX4_lessened) :: (2 * 147, 2, tX4_timed) :: (2 * 150, 2, tX4_divided) :: (2 * 153, 2, tX4_least) :: (2 * 156, 2, tX4_greatest) :: (2 * 97, 1, tX4_size) :: (2 * 159, 1, tX4_root) :: (2 * 162, 1, tX4_floor) :: []
theorem coX4_made (l : Launch) : CEok l yX4_made.cls 6 ceX4_made := ce_S (okX4_added l) (mw 751 (by decide +kernel) rfl) (mw 752 (by decide +kernel) rfl) (mw 4 (by decide +kernel) rfl) (mw 753 (by decide +kernel) rfl) (by decide) ⟨by decide, by decide⟩ (ce_S (okX4_lessened l) (mw 757 (by decide +kernel) rfl) (mw 758 (by decide +kernel) rfl) (mw 4 (by decide +kernel) rfl) (mw 759 (by decide +kernel) rfl) (by decide) ⟨by decide, by decide⟩ (ce_S (okX4_timed l) (mw 760 (by decide +kernel) rfl) (mw 761 (by decide +kernel) rfl) (mw 4 (by decide +kernel) rfl) (mw 762 (by decide +kernel) rfl) (by decide) ⟨by decide, by decide⟩ (ce_S (okX4_divided l) (mw 763 (by decide +kernel) rfl) (mw 764 (by decide +kernel) rfl) (mw 4 (by decide +kernel) rfl) (mw 765 (by decide +kernel) rfl) (by decide) ⟨by decide, by decide⟩ (ce_S (okX4_least l) (mw 766 (by decide +kernel) rfl) (mw 767 (by decide +kernel) rfl) (mw 4 (by decide +kernel) rfl) (mw 768 (by decide +kernel) rfl) (by decide) ⟨by decide, by decide⟩ (ce_S (okX4_greatest l) (mw 785 (by decide +kernel) rfl) (mw 786 (by decide +kernel) rfl) (mw 4 (by decide +kernel) rfl) (mw 787 (by decide +kernel) rfl) (by decide) ⟨by decide, by decide⟩ (ce_S (okX4_size l) (mw 788 (by decide +kernel) rfl) (mw 789 (by decide +kernel) rfl) (mw 4 (by decide +kernel) rfl) (mw 790 (by decide +kernel) rfl) (by decide) ⟨by decide, by decide⟩ (ce_S (okX4_root l) (mw 791 (by decide +kernel) rfl) (mw 792 (by decide +kernel) rfl) (mw 4 (by decide +kernel) rfl) (mw 793 (by decide +kernel) rfl) (by decide) ⟨by decide, by decide⟩ (ce_S (okX4_floor l) (mw 798 (by decide +kernel) rfl) (mw 799 (by decide +kernel) rfl) (mw 4 (by decide +kernel) rfl) (mw 800 (by decide +kernel) rfl) (by decide) ⟨by decide, by decide⟩ (ce_0)))))))))
abbrev cutX4_made : List (Nat × List Nat) := []
set_option maxRecDepth 20000 in
set_option maxHeartbeats 4000000 in
theorem lbX4_made_0 {G : Nat → LV → List Value → aS → Prop} {post : Option Value → aS → Prop} (hG : ∀ n b pc lv st σ, seg (0, fun _ => 0) pgX4_made ceX4_made cutX4_made G (fun v σ => rFit (some .double) v ∧ post v σ) n b pc lv st σ → G pc lv st σ) (σ : aS) (a : Int32) (b : UInt64) (d : UInt64) (hb : bX4_made_0 a b d (fun x  => rFit (some .double) (some (.double x)) ∧ post (some (.double x)) (σ)) ) : G 0 [(0, .int a), (1, .double b), (3, .double d)] [] (σ) := by
  unfold bX4_made_0 at hb
  refine hG 400 false 0 _ _ _ ?_
  refine And.intro (fun (h : a.toInt < 2 ∨ 15 < a.toInt) => ?_) ?_
  · rw [if_pos h] at hb
    refine And.intro (fun (h : (Op.cmpValue (FP.dcmp b b) .l) = 0) => ?_) (fun (h : ¬ (Op.cmpValue (FP.dcmp b b) .l) = 0) => ?_)
    · rw [if_pos h] at hb
      exact hb
    · rw [if_neg h] at hb
      exact hb
  refine And.intro (fun (hw : a = (2 : Int32)) => ?_) ?_
  · rw [if_neg (show ¬ (a.toInt < 2 ∨ 15 < a.toInt) by rw [hw]; decide), if_pos hw] at hb
    refine And.intro trivial (mnX4_added ?_ hb)
    intro r1 hb
    exact hb
  refine And.intro (fun (hw : a = (3 : Int32)) => ?_) ?_
  · rw [if_neg (show ¬ (a.toInt < 2 ∨ 15 < a.toInt) by rw [hw]; decide), if_neg (show ¬ (a = (2 : Int32)) by rw [hw]; decide), if_pos hw] at hb
    refine And.intro trivial (mnX4_lessened ?_ hb)
    intro r2 hb
    exact hb
  refine And.intro (fun (hw : a = (4 : Int32)) => ?_) ?_
  · rw [if_neg (show ¬ (a.toInt < 2 ∨ 15 < a.toInt) by rw [hw]; decide), if_neg (show ¬ (a = (2 : Int32)) by rw [hw]; decide), if_neg (show ¬ (a = (3 : Int32)) by rw [hw]; decide), if_pos hw] at hb
    refine And.intro trivial (mnX4_timed ?_ hb)
    intro r3 hb
    exact hb
  refine And.intro (fun (hw : a = (5 : Int32)) => ?_) ?_
  · rw [if_neg (show ¬ (a.toInt < 2 ∨ 15 < a.toInt) by rw [hw]; decide), if_neg (show ¬ (a = (2 : Int32)) by rw [hw]; decide), if_neg (show ¬ (a = (3 : Int32)) by rw [hw]; decide), if_neg (show ¬ (a = (4 : Int32)) by rw [hw]; decide), if_pos hw] at hb
    refine And.intro trivial (mnX4_divided ?_ hb)
    intro r4 hb
    exact hb
  refine And.intro (fun (hw : a = (6 : Int32)) => ?_) ?_
  · rw [if_neg (show ¬ (a.toInt < 2 ∨ 15 < a.toInt) by rw [hw]; decide), if_neg (show ¬ (a = (2 : Int32)) by rw [hw]; decide), if_neg (show ¬ (a = (3 : Int32)) by rw [hw]; decide), if_neg (show ¬ (a = (4 : Int32)) by rw [hw]; decide), if_neg (show ¬ (a = (5 : Int32)) by rw [hw]; decide), if_pos hw] at hb
    refine And.intro trivial (mnX4_least ?_ hb)
    intro r5 hb
    exact hb
  refine And.intro (fun (hw : a = (7 : Int32)) => ?_) ?_
  · rw [if_neg (show ¬ (a.toInt < 2 ∨ 15 < a.toInt) by rw [hw]; decide), if_neg (show ¬ (a = (2 : Int32)) by rw [hw]; decide), if_neg (show ¬ (a = (3 : Int32)) by rw [hw]; decide), if_neg (show ¬ (a = (4 : Int32)) by rw [hw]; decide), if_neg (show ¬ (a = (5 : Int32)) by rw [hw]; decide), if_neg (show ¬ (a = (6 : Int32)) by rw [hw]; decide), if_pos hw] at hb
    refine And.intro trivial (mnX4_greatest ?_ hb)
    intro r6 hb
    exact hb
  refine And.intro (fun (hw : a = (8 : Int32)) => ?_) ?_
  · rw [if_neg (show ¬ (a.toInt < 2 ∨ 15 < a.toInt) by rw [hw]; decide), if_neg (show ¬ (a = (2 : Int32)) by rw [hw]; decide), if_neg (show ¬ (a = (3 : Int32)) by rw [hw]; decide), if_neg (show ¬ (a = (4 : Int32)) by rw [hw]; decide), if_neg (show ¬ (a = (5 : Int32)) by rw [hw]; decide), if_neg (show ¬ (a = (6 : Int32)) by rw [hw]; decide), if_neg (show ¬ (a = (7 : Int32)) by rw [hw]; decide), if_pos hw] at hb
    refine And.intro trivial (mnX4_size ?_ hb)
    intro r7 hb
    exact hb
  refine And.intro (fun (hw : a = (9 : Int32)) => ?_) ?_
  · rw [if_neg (show ¬ (a.toInt < 2 ∨ 15 < a.toInt) by rw [hw]; decide), if_neg (show ¬ (a = (2 : Int32)) by rw [hw]; decide), if_neg (show ¬ (a = (3 : Int32)) by rw [hw]; decide), if_neg (show ¬ (a = (4 : Int32)) by rw [hw]; decide), if_neg (show ¬ (a = (5 : Int32)) by rw [hw]; decide), if_neg (show ¬ (a = (6 : Int32)) by rw [hw]; decide), if_neg (show ¬ (a = (7 : Int32)) by rw [hw]; decide), if_neg (show ¬ (a = (8 : Int32)) by rw [hw]; decide), if_pos hw] at hb
    refine And.intro trivial (mnX4_root ?_ hb)
    intro r8 hb
    exact hb
  refine And.intro (fun (hw : a = (10 : Int32)) => ?_) ?_
  · rw [if_neg (show ¬ (a.toInt < 2 ∨ 15 < a.toInt) by rw [hw]; decide), if_neg (show ¬ (a = (2 : Int32)) by rw [hw]; decide), if_neg (show ¬ (a = (3 : Int32)) by rw [hw]; decide), if_neg (show ¬ (a = (4 : Int32)) by rw [hw]; decide), if_neg (show ¬ (a = (5 : Int32)) by rw [hw]; decide), if_neg (show ¬ (a = (6 : Int32)) by rw [hw]; decide), if_neg (show ¬ (a = (7 : Int32)) by rw [hw]; decide), if_neg (show ¬ (a = (8 : Int32)) by rw [hw]; decide), if_neg (show ¬ (a = (9 : Int32)) by rw [hw]; decide), if_pos hw] at hb
    refine And.intro trivial (mnX4_timed ?_ hb)
    intro r9 hb
    exact hb
  refine And.intro (fun (hw : a = (11 : Int32)) => ?_) ?_
  · rw [if_neg (show ¬ (a.toInt < 2 ∨ 15 < a.toInt) by rw [hw]; decide), if_neg (show ¬ (a = (2 : Int32)) by rw [hw]; decide), if_neg (show ¬ (a = (3 : Int32)) by rw [hw]; decide), if_neg (show ¬ (a = (4 : Int32)) by rw [hw]; decide), if_neg (show ¬ (a = (5 : Int32)) by rw [hw]; decide), if_neg (show ¬ (a = (6 : Int32)) by rw [hw]; decide), if_neg (show ¬ (a = (7 : Int32)) by rw [hw]; decide), if_neg (show ¬ (a = (8 : Int32)) by rw [hw]; decide), if_neg (show ¬ (a = (9 : Int32)) by rw [hw]; decide), if_neg (show ¬ (a = (10 : Int32)) by rw [hw]; decide), if_pos hw] at hb
    refine And.intro trivial (mnX4_floor ?_ hb)
    intro r10 hb
    exact hb
  refine And.intro (fun (hw : a = (12 : Int32)) => ?_) ?_
  · rw [if_neg (show ¬ (a.toInt < 2 ∨ 15 < a.toInt) by rw [hw]; decide), if_neg (show ¬ (a = (2 : Int32)) by rw [hw]; decide), if_neg (show ¬ (a = (3 : Int32)) by rw [hw]; decide), if_neg (show ¬ (a = (4 : Int32)) by rw [hw]; decide), if_neg (show ¬ (a = (5 : Int32)) by rw [hw]; decide), if_neg (show ¬ (a = (6 : Int32)) by rw [hw]; decide), if_neg (show ¬ (a = (7 : Int32)) by rw [hw]; decide), if_neg (show ¬ (a = (8 : Int32)) by rw [hw]; decide), if_neg (show ¬ (a = (9 : Int32)) by rw [hw]; decide), if_neg (show ¬ (a = (10 : Int32)) by rw [hw]; decide), if_neg (show ¬ (a = (11 : Int32)) by rw [hw]; decide), if_pos hw] at hb
    refine And.intro (fun (h : (Op.cmpValue (FP.dcmp b b) .l) = 0) => ?_) (fun (h : ¬ (Op.cmpValue (FP.dcmp b b) .l) = 0) => ?_)
    · rw [if_pos h] at hb
      exact hb
    · rw [if_neg h] at hb
      exact hb
  refine And.intro (fun (hw : a = (13 : Int32)) => ?_) ?_
  · rw [if_neg (show ¬ (a.toInt < 2 ∨ 15 < a.toInt) by rw [hw]; decide), if_neg (show ¬ (a = (2 : Int32)) by rw [hw]; decide), if_neg (show ¬ (a = (3 : Int32)) by rw [hw]; decide), if_neg (show ¬ (a = (4 : Int32)) by rw [hw]; decide), if_neg (show ¬ (a = (5 : Int32)) by rw [hw]; decide), if_neg (show ¬ (a = (6 : Int32)) by rw [hw]; decide), if_neg (show ¬ (a = (7 : Int32)) by rw [hw]; decide), if_neg (show ¬ (a = (8 : Int32)) by rw [hw]; decide), if_neg (show ¬ (a = (9 : Int32)) by rw [hw]; decide), if_neg (show ¬ (a = (10 : Int32)) by rw [hw]; decide), if_neg (show ¬ (a = (11 : Int32)) by rw [hw]; decide), if_neg (show ¬ (a = (12 : Int32)) by rw [hw]; decide), if_pos hw] at hb
    refine And.intro (fun (h : (Op.cmpValue (FP.dcmp b b) .l) = 0) => ?_) (fun (h : ¬ (Op.cmpValue (FP.dcmp b b) .l) = 0) => ?_)
    · rw [if_pos h] at hb
      obtain ⟨hi, hb⟩ := hb
      refine And.intro hi ?_
      obtain ⟨hi, hb⟩ := hb
      refine And.intro hi ?_
      exact hb
    · rw [if_neg h] at hb
      exact hb
  refine And.intro (fun (hw : a = (14 : Int32)) => ?_) ?_
  · rw [if_neg (show ¬ (a.toInt < 2 ∨ 15 < a.toInt) by rw [hw]; decide), if_neg (show ¬ (a = (2 : Int32)) by rw [hw]; decide), if_neg (show ¬ (a = (3 : Int32)) by rw [hw]; decide), if_neg (show ¬ (a = (4 : Int32)) by rw [hw]; decide), if_neg (show ¬ (a = (5 : Int32)) by rw [hw]; decide), if_neg (show ¬ (a = (6 : Int32)) by rw [hw]; decide), if_neg (show ¬ (a = (7 : Int32)) by rw [hw]; decide), if_neg (show ¬ (a = (8 : Int32)) by rw [hw]; decide), if_neg (show ¬ (a = (9 : Int32)) by rw [hw]; decide), if_neg (show ¬ (a = (10 : Int32)) by rw [hw]; decide), if_neg (show ¬ (a = (11 : Int32)) by rw [hw]; decide), if_neg (show ¬ (a = (12 : Int32)) by rw [hw]; decide), if_neg (show ¬ (a = (13 : Int32)) by rw [hw]; decide), if_pos hw] at hb
    refine And.intro (fun (h : ¬ (Op.cmpValue (FP.dcmp b b) .l) = 0) => ?_) (fun hq => have h : (Op.cmpValue (FP.dcmp b b) .l) = 0 := Classical.not_not.mp hq; ?_)
    · rw [if_neg h] at hb
      exact hb
    · rw [if_pos h] at hb
      refine And.intro (fun (h : ¬ (Op.cmpValue (FP.dcmp b (FP.dconst0 : UInt64)) .l) = 0) => ?_) (fun hq => have h : (Op.cmpValue (FP.dcmp b (FP.dconst0 : UInt64)) .l) = 0 := Classical.not_not.mp hq; ?_)
      · rw [if_neg h] at hb
        refine And.intro (fun (h : 0 ≤ (Op.cmpValue (FP.dcmp b (FP.dconst0 : UInt64)) .g)) => ?_) (fun (h : ¬ 0 ≤ (Op.cmpValue (FP.dcmp b (FP.dconst0 : UInt64)) .g)) => ?_)
        · rw [if_pos h] at hb
          exact hb
        · rw [if_neg h] at hb
          exact hb
      · rw [if_pos h] at hb
        exact hb
  refine And.intro (fun (hw : a = (15 : Int32)) => ?_) ?_
  · rw [if_neg (show ¬ (a.toInt < 2 ∨ 15 < a.toInt) by rw [hw]; decide), if_neg (show ¬ (a = (2 : Int32)) by rw [hw]; decide), if_neg (show ¬ (a = (3 : Int32)) by rw [hw]; decide), if_neg (show ¬ (a = (4 : Int32)) by rw [hw]; decide), if_neg (show ¬ (a = (5 : Int32)) by rw [hw]; decide), if_neg (show ¬ (a = (6 : Int32)) by rw [hw]; decide), if_neg (show ¬ (a = (7 : Int32)) by rw [hw]; decide), if_neg (show ¬ (a = (8 : Int32)) by rw [hw]; decide), if_neg (show ¬ (a = (9 : Int32)) by rw [hw]; decide), if_neg (show ¬ (a = (10 : Int32)) by rw [hw]; decide), if_neg (show ¬ (a = (11 : Int32)) by rw [hw]; decide), if_neg (show ¬ (a = (12 : Int32)) by rw [hw]; decide), if_neg (show ¬ (a = (13 : Int32)) by rw [hw]; decide), if_neg (show ¬ (a = (14 : Int32)) by rw [hw]; decide)] at hb
    refine And.intro (fun (h : (Op.cmpValue (FP.dcmp b b) .l) = 0) => ?_) (fun (h : ¬ (Op.cmpValue (FP.dcmp b b) .l) = 0) => ?_)
    · rw [if_pos h] at hb
      exact hb
    · rw [if_neg h] at hb
      exact hb
  exact trivial
set_option maxRecDepth 20000 in
theorem okX4_made (l : Launch) : OK l yX4_made cX4_made 5 (some .double) 6 tX4_made := by
  intro D τ ρ A as σ post h
  unfold tX4_made at h; split at h
  · rename_i a b d; have hw := h.2
    refine met_of (P := pgX4_made) (CE := ceX4_made) (cut := cutX4_made) (by decide) kkX4_made (coX4_made l) (Nat.le_of_ble_eq_true rfl) ?_
    intro G hG
    unfold wX4_made at hw
    refine lbX4_made_0 hG σ a b d (mbX4_made_0 ?_  hw)
    · exact fun _ h => ⟨trivial, h⟩
  · exact h.elim
def bX4_sizeLow_0 (a : UInt64) (b : UInt64) (kr : UInt64 → Prop)  : Prop :=
  (if (Op.cmpValue (FP.dcmp a (FP.dconst0 : UInt64)) .g) < 0 then
    (if 0 < (Op.cmpValue (FP.dcmp b (FP.dconst0 : UInt64)) .l) then
      kr (FP.dconst0 : UInt64) 
    else
      kr (FP.dneg b) )
  else
    kr a )
set_option maxRecDepth 20000 in
theorem mbX4_sizeLow_0 {a : UInt64} {b : UInt64} {kr kq : UInt64 → Prop}  (hr : ∀ x , kr x  → kq x )  (h : bX4_sizeLow_0 a b kr ) : bX4_sizeLow_0 a b kq  := by
  unfold bX4_sizeLow_0 at h ⊢
  by_cases hc : (Op.cmpValue (FP.dcmp a (FP.dconst0 : UInt64)) .g) < 0
  · rw [if_pos hc] at h ⊢
    by_cases hc : 0 < (Op.cmpValue (FP.dcmp b (FP.dconst0 : UInt64)) .l)
    · rw [if_pos hc] at h ⊢
      exact hr _ h
    · rw [if_neg hc] at h ⊢
      exact hr _ h
  · rw [if_neg hc] at h ⊢
    exact hr _ h
def wX4_sizeLow (a : UInt64) (b : UInt64) (kr : UInt64 → Prop) : Prop := bX4_sizeLow_0 a b kr 
theorem mnX4_sizeLow {a : UInt64} {b : UInt64} {kr kq : UInt64 → Prop} (hr : ∀ x , kr x  → kq x ) (h : wX4_sizeLow a b kr) : wX4_sizeLow a b kq := mbX4_sizeLow_0 hr  h
def tX4_sizeLow : Tr := fun as σ k => match as with
  | [.double a, .double b] => True ∧ wX4_sizeLow a b (fun x  => k (some (.double x)) (σ))
  | _ => False
def ceX4_sizeLow : List (Nat × Nat × Tr) := []
theorem coX4_sizeLow (l : Launch) : CEok l yX4_sizeLow.cls 0 ceX4_sizeLow := ce_0
abbrev cutX4_sizeLow : List (Nat × List Nat) := []
set_option maxRecDepth 20000 in
set_option maxHeartbeats 4000000 in
theorem lbX4_sizeLow_0 {G : Nat → LV → List Value → aS → Prop} {post : Option Value → aS → Prop} (hG : ∀ n b pc lv st σ, seg (0, fun _ => 0) pgX4_sizeLow ceX4_sizeLow cutX4_sizeLow G (fun v σ => rFit (some .double) v ∧ post v σ) n b pc lv st σ → G pc lv st σ) (σ : aS) (a : UInt64) (b : UInt64) (hb : bX4_sizeLow_0 a b (fun x  => rFit (some .double) (some (.double x)) ∧ post (some (.double x)) (σ)) ) : G 0 [(0, .double a), (2, .double b)] [] (σ) := by
  unfold bX4_sizeLow_0 at hb
  refine hG 400 false 0 _ _ _ ?_
  refine And.intro (fun (h : (Op.cmpValue (FP.dcmp a (FP.dconst0 : UInt64)) .g) < 0) => ?_) (fun (h : ¬ (Op.cmpValue (FP.dcmp a (FP.dconst0 : UInt64)) .g) < 0) => ?_)
  · rw [if_pos h] at hb
    refine And.intro (fun (h : 0 < (Op.cmpValue (FP.dcmp b (FP.dconst0 : UInt64)) .l)) => ?_) (fun (h : ¬ 0 < (Op.cmpValue (FP.dcmp b (FP.dconst0 : UInt64)) .l)) => ?_)
    · rw [if_pos h] at hb
      exact hb
    · rw [if_neg h] at hb
      exact hb
  · rw [if_neg h] at hb
    exact hb
set_option maxRecDepth 20000 in
theorem okX4_sizeLow (l : Launch) : OK l yX4_sizeLow cX4_sizeLow 4 (some .double) 0 tX4_sizeLow := by
  intro D τ ρ A as σ post h
  unfold tX4_sizeLow at h; split at h
  · rename_i a b; have hw := h.2
    refine met_of (P := pgX4_sizeLow) (CE := ceX4_sizeLow) (cut := cutX4_sizeLow) (by decide) kkX4_sizeLow (coX4_sizeLow l) (Nat.le_of_ble_eq_true rfl) ?_
    intro G hG
    unfold wX4_sizeLow at hw
    refine lbX4_sizeLow_0 hG σ a b (mbX4_sizeLow_0 ?_  hw)
    · exact fun _ h => ⟨trivial, h⟩
  · exact h.elim
def bX4_sizeHigh_0 (a : UInt64) (b : UInt64) (kr : UInt64 → Prop)  : Prop :=
  (if (Op.cmpValue (FP.dcmp a (FP.dconst0 : UInt64)) .g) < 0 then
    (if 0 < (Op.cmpValue (FP.dcmp b (FP.dconst0 : UInt64)) .l) then
      (wX4_greatest (FP.dneg a) b (fun r1 => kr r1 ))
    else
      kr (FP.dneg a) )
  else
    kr b )
set_option maxRecDepth 20000 in
theorem mbX4_sizeHigh_0 {a : UInt64} {b : UInt64} {kr kq : UInt64 → Prop}  (hr : ∀ x , kr x  → kq x )  (h : bX4_sizeHigh_0 a b kr ) : bX4_sizeHigh_0 a b kq  := by
  unfold bX4_sizeHigh_0 at h ⊢
  by_cases hc : (Op.cmpValue (FP.dcmp a (FP.dconst0 : UInt64)) .g) < 0
  · rw [if_pos hc] at h ⊢
    by_cases hc : 0 < (Op.cmpValue (FP.dcmp b (FP.dconst0 : UInt64)) .l)
    · rw [if_pos hc] at h ⊢
      refine mnX4_greatest ?_ h
      intro r1 h
      exact hr _ h
    · rw [if_neg hc] at h ⊢
      exact hr _ h
  · rw [if_neg hc] at h ⊢
    exact hr _ h
def wX4_sizeHigh (a : UInt64) (b : UInt64) (kr : UInt64 → Prop) : Prop := bX4_sizeHigh_0 a b kr 
theorem mnX4_sizeHigh {a : UInt64} {b : UInt64} {kr kq : UInt64 → Prop} (hr : ∀ x , kr x  → kq x ) (h : wX4_sizeHigh a b kr) : wX4_sizeHigh a b kq := mbX4_sizeHigh_0 hr  h
def tX4_sizeHigh : Tr := fun as σ k => match as with
  | [.double a, .double b] => True ∧ wX4_sizeHigh a b (fun x  => k (some (.double x)) (σ))
  | _ => False
def ceX4_sizeHigh : List (Nat × Nat × Tr) := (2 * 156, 2, tX4_greatest) :: []
theorem coX4_sizeHigh (l : Launch) : CEok l yX4_sizeHigh.cls 5 ceX4_sizeHigh := ce_S (okX4_greatest l) (mw 785 (by decide +kernel) rfl) (mw 786 (by decide +kernel) rfl) (mw 4 (by decide +kernel) rfl) (mw 787 (by decide +kernel) rfl) (by decide) ⟨by decide, by decide⟩ (ce_0)
abbrev cutX4_sizeHigh : List (Nat × List Nat) := []
set_option maxRecDepth 20000 in
set_option maxHeartbeats 4000000 in
theorem lbX4_sizeHigh_0 {G : Nat → LV → List Value → aS → Prop} {post : Option Value → aS → Prop} (hG : ∀ n b pc lv st σ, seg (0, fun _ => 0) pgX4_sizeHigh ceX4_sizeHigh cutX4_sizeHigh G (fun v σ => rFit (some .double) v ∧ post v σ) n b pc lv st σ → G pc lv st σ) (σ : aS) (a : UInt64) (b : UInt64) (hb : bX4_sizeHigh_0 a b (fun x  => rFit (some .double) (some (.double x)) ∧ post (some (.double x)) (σ)) ) : G 0 [(0, .double a), (2, .double b)] [] (σ) := by
  unfold bX4_sizeHigh_0 at hb
  refine hG 400 false 0 _ _ _ ?_
  refine And.intro (fun (h : (Op.cmpValue (FP.dcmp a (FP.dconst0 : UInt64)) .g) < 0) => ?_) (fun (h : ¬ (Op.cmpValue (FP.dcmp a (FP.dconst0 : UInt64)) .g) < 0) => ?_)
  · rw [if_pos h] at hb
    refine And.intro (fun (h : 0 < (Op.cmpValue (FP.dcmp b (FP.dconst0 : UInt64)) .l)) => ?_) (fun (h : ¬ 0 < (Op.cmpValue (FP.dcmp b (FP.dconst0 : UInt64)) .l)) => ?_)
    · rw [if_pos h] at hb
      refine And.intro trivial (mnX4_greatest ?_ hb)
      intro r1 hb
      exact hb
    · rw [if_neg h] at hb
      exact hb
  · rw [if_neg h] at hb
    exact hb
set_option maxRecDepth 20000 in
theorem okX4_sizeHigh (l : Launch) : OK l yX4_sizeHigh cX4_sizeHigh 4 (some .double) 5 tX4_sizeHigh := by
  intro D τ ρ A as σ post h
  unfold tX4_sizeHigh at h; split at h
  · rename_i a b; have hw := h.2
    refine met_of (P := pgX4_sizeHigh) (CE := ceX4_sizeHigh) (cut := cutX4_sizeHigh) (by decide) kkX4_sizeHigh (coX4_sizeHigh l) (Nat.le_of_ble_eq_true rfl) ?_
    intro G hG
    unfold wX4_sizeHigh at hw
    refine lbX4_sizeHigh_0 hG σ a b (mbX4_sizeHigh_0 ?_  hw)
    · exact fun _ h => ⟨trivial, h⟩
  · exact h.elim
end
