section
-- ===== PART A: goes FIRST, ahead of the names: the tables' words, and 'selects' of the private methods out of them =====
/-- a private method of a class that the tables say can be made, by its rows of tables_1 -/
def lw_okq (q : MethodName × Nat) : Prop := (q.1.cls ≠ "java/lang/invoke/MethodHandle" ∧ q.1.cls ≠ "java/lang/invoke/VarHandle") ∧ Cond.instantiable q.1.cls q.2 ∈ tables_1 ∧ Cond.privateMethod q.1 ∈ tables_1 ∧ Cond.instanceMethod q.1 ∈ tables_1
theorem lw_p0 : lw_okq (⟨"BoxIntegrals", "forgetRoles", "()V"⟩, 6) := ⟨⟨by decide +kernel, by decide +kernel⟩, List.mem_of_getElem? (i := 18) (by decide +kernel), List.mem_of_getElem? (i := 144) (by decide +kernel), List.mem_of_getElem? (i := 145) (by decide +kernel)⟩
theorem lw_p1 : lw_okq (⟨"BoxIntegrals", "settle", "(I)V"⟩, 6) := ⟨⟨by decide +kernel, by decide +kernel⟩, List.mem_of_getElem? (i := 18) (by decide +kernel), List.mem_of_getElem? (i := 198) (by decide +kernel), List.mem_of_getElem? (i := 199) (by decide +kernel)⟩
theorem lw_p2 : lw_okq (⟨"BoxIntegrals$Formulas", "put", "(IJJ)V"⟩, 8) := ⟨⟨by decide +kernel, by decide +kernel⟩, List.mem_of_getElem? (i := 26) (by decide +kernel), List.mem_of_getElem? (i := 209) (by decide +kernel), List.mem_of_getElem? (i := 210) (by decide +kernel)⟩
theorem lw_p3 : lw_okq (⟨"BoxIntegrals$Formulas", "putWholeLine", "(I)V"⟩, 8) := ⟨⟨by decide +kernel, by decide +kernel⟩, List.mem_of_getElem? (i := 26) (by decide +kernel), List.mem_of_getElem? (i := 214) (by decide +kernel), List.mem_of_getElem? (i := 215) (by decide +kernel)⟩
theorem lw_p4 : lw_okq (⟨"BoxIntegrals$Formulas", "encloseMade", "(I)V"⟩, 8) := ⟨⟨by decide +kernel, by decide +kernel⟩, List.mem_of_getElem? (i := 26) (by decide +kernel), List.mem_of_getElem? (i := 220) (by decide +kernel), List.mem_of_getElem? (i := 221) (by decide +kernel)⟩
theorem lw_p5 : lw_okq (⟨"BoxIntegrals$Formulas", "putFour", "(IJJJJ)V"⟩, 8) := ⟨⟨by decide +kernel, by decide +kernel⟩, List.mem_of_getElem? (i := 26) (by decide +kernel), List.mem_of_getElem? (i := 279) (by decide +kernel), List.mem_of_getElem? (i := 280) (by decide +kernel)⟩
theorem lw_p6 : lw_okq (⟨"BoxIntegrals$Formulas", "putSize", "(IJJ)V"⟩, 8) := ⟨⟨by decide +kernel, by decide +kernel⟩, List.mem_of_getElem? (i := 26) (by decide +kernel), List.mem_of_getElem? (i := 300) (by decide +kernel), List.mem_of_getElem? (i := 301) (by decide +kernel)⟩
theorem lw_p7 : lw_okq (⟨"BoxIntegrals$Formulas", "putRoot", "(IJJ)V"⟩, 8) := ⟨⟨by decide +kernel, by decide +kernel⟩, List.mem_of_getElem? (i := 26) (by decide +kernel), List.mem_of_getElem? (i := 304) (by decide +kernel), List.mem_of_getElem? (i := 305) (by decide +kernel)⟩
theorem lw_p8 : lw_okq (⟨"BoxIntegrals$Formulas", "putSquare", "(IJJ)V"⟩, 8) := ⟨⟨by decide +kernel, by decide +kernel⟩, List.mem_of_getElem? (i := 26) (by decide +kernel), List.mem_of_getElem? (i := 319) (by decide +kernel), List.mem_of_getElem? (i := 320) (by decide +kernel)⟩
theorem lw_p9 : lw_okq (⟨"BoxIntegrals", "kindNow", "()I"⟩, 6) := ⟨⟨by decide +kernel, by decide +kernel⟩, List.mem_of_getElem? (i := 18) (by decide +kernel), List.mem_of_getElem? (i := 352) (by decide +kernel), List.mem_of_getElem? (i := 353) (by decide +kernel)⟩
theorem lw_p10 : lw_okq (⟨"BoxIntegrals", "surelyNot", "(I)Z"⟩, 6) := ⟨⟨by decide +kernel, by decide +kernel⟩, List.mem_of_getElem? (i := 18) (by decide +kernel), List.mem_of_getElem? (i := 356) (by decide +kernel), List.mem_of_getElem? (i := 357) (by decide +kernel)⟩
theorem lw_p11 : lw_okq (⟨"BoxIntegrals", "surely", "(I)Z"⟩, 6) := ⟨⟨by decide +kernel, by decide +kernel⟩, List.mem_of_getElem? (i := 18) (by decide +kernel), List.mem_of_getElem? (i := 360) (by decide +kernel), List.mem_of_getElem? (i := 361) (by decide +kernel)⟩
theorem lw_p12 : lw_okq (⟨"BoxIntegrals", "weigh", "(I)V"⟩, 6) := ⟨⟨by decide +kernel, by decide +kernel⟩, List.mem_of_getElem? (i := 18) (by decide +kernel), List.mem_of_getElem? (i := 374) (by decide +kernel), List.mem_of_getElem? (i := 375) (by decide +kernel)⟩
theorem lw_p13 : lw_okq (⟨"BoxIntegrals", "lowOdds", "()J"⟩, 6) := ⟨⟨by decide +kernel, by decide +kernel⟩, List.mem_of_getElem? (i := 18) (by decide +kernel), List.mem_of_getElem? (i := 477) (by decide +kernel), List.mem_of_getElem? (i := 478) (by decide +kernel)⟩
theorem lw_p14 : lw_okq (⟨"BoxIntegrals", "highOdds", "()J"⟩, 6) := ⟨⟨by decide +kernel, by decide +kernel⟩, List.mem_of_getElem? (i := 18) (by decide +kernel), List.mem_of_getElem? (i := 484) (by decide +kernel), List.mem_of_getElem? (i := 485) (by decide +kernel)⟩
theorem lw_p15 : lw_okq (⟨"java/lang/Throwable", "fillInStackTrace", "(I)Ljava/lang/Throwable;"⟩, 6) := ⟨⟨by decide +kernel, by decide +kernel⟩, List.mem_of_getElem? (i := 535) (by decide +kernel), List.mem_of_getElem? (i := 533) (by decide +kernel), List.mem_of_getElem? (i := 534) (by decide +kernel)⟩
def lw_privs_1 : List (MethodName × Nat) := [(⟨"BoxIntegrals", "forgetRoles", "()V"⟩, 6), (⟨"BoxIntegrals", "settle", "(I)V"⟩, 6), (⟨"BoxIntegrals$Formulas", "put", "(IJJ)V"⟩, 8), (⟨"BoxIntegrals$Formulas", "putWholeLine", "(I)V"⟩, 8), (⟨"BoxIntegrals$Formulas", "encloseMade", "(I)V"⟩, 8), (⟨"BoxIntegrals$Formulas", "putFour", "(IJJJJ)V"⟩, 8), (⟨"BoxIntegrals$Formulas", "putSize", "(IJJ)V"⟩, 8), (⟨"BoxIntegrals$Formulas", "putRoot", "(IJJ)V"⟩, 8), (⟨"BoxIntegrals$Formulas", "putSquare", "(IJJ)V"⟩, 8), (⟨"BoxIntegrals", "kindNow", "()I"⟩, 6), (⟨"BoxIntegrals", "surelyNot", "(I)Z"⟩, 6), (⟨"BoxIntegrals", "surely", "(I)Z"⟩, 6), (⟨"BoxIntegrals", "weigh", "(I)V"⟩, 6), (⟨"BoxIntegrals", "lowOdds", "()J"⟩, 6), (⟨"BoxIntegrals", "highOdds", "()J"⟩, 6), (⟨"java/lang/Throwable", "fillInStackTrace", "(I)Ljava/lang/Throwable;"⟩, 6)]
theorem lw_r1 : ∀ q ∈ lw_privs_1, lw_okq q := List.forall_mem_cons.mpr ⟨lw_p0, List.forall_mem_cons.mpr ⟨lw_p1, List.forall_mem_cons.mpr ⟨lw_p2, List.forall_mem_cons.mpr ⟨lw_p3, List.forall_mem_cons.mpr ⟨lw_p4, List.forall_mem_cons.mpr ⟨lw_p5, List.forall_mem_cons.mpr ⟨lw_p6, List.forall_mem_cons.mpr ⟨lw_p7, List.forall_mem_cons.mpr ⟨lw_p8, List.forall_mem_cons.mpr ⟨lw_p9, List.forall_mem_cons.mpr ⟨lw_p10, List.forall_mem_cons.mpr ⟨lw_p11, List.forall_mem_cons.mpr ⟨lw_p12, List.forall_mem_cons.mpr ⟨lw_p13, List.forall_mem_cons.mpr ⟨lw_p14, List.forall_mem_cons.mpr ⟨lw_p15, fun _ h => absurd h List.not_mem_nil⟩⟩⟩⟩⟩⟩⟩⟩⟩⟩⟩⟩⟩⟩⟩⟩
theorem lw_p16 : lw_okq (⟨"BoxIntegralsModel", "ends", "()V"⟩, 21) := ⟨⟨by decide +kernel, by decide +kernel⟩, List.mem_of_getElem? (i := 629) (by decide +kernel), List.mem_of_getElem? (i := 719) (by decide +kernel), List.mem_of_getElem? (i := 720) (by decide +kernel)⟩
theorem lw_p17 : lw_okq (⟨"BoxIntegralsModel", "isNode", "(I)Z"⟩, 21) := ⟨⟨by decide +kernel, by decide +kernel⟩, List.mem_of_getElem? (i := 629) (by decide +kernel), List.mem_of_getElem? (i := 730) (by decide +kernel), List.mem_of_getElem? (i := 731) (by decide +kernel)⟩
theorem lw_p18 : lw_okq (⟨"BoxIntegralsModel", "valueAt", "(IDDD)D"⟩, 21) := ⟨⟨by decide +kernel, by decide +kernel⟩, List.mem_of_getElem? (i := 629) (by decide +kernel), List.mem_of_getElem? (i := 745) (by decide +kernel), List.mem_of_getElem? (i := 746) (by decide +kernel)⟩
theorem lw_p19 : lw_okq (⟨"BoxIntegralsModel", "judge", "(I)V"⟩, 21) := ⟨⟨by decide +kernel, by decide +kernel⟩, List.mem_of_getElem? (i := 629) (by decide +kernel), List.mem_of_getElem? (i := 808) (by decide +kernel), List.mem_of_getElem? (i := 809) (by decide +kernel)⟩
theorem lw_p20 : lw_okq (⟨"BoxIntegralsModel", "holds", "(II)I"⟩, 21) := ⟨⟨by decide +kernel, by decide +kernel⟩, List.mem_of_getElem? (i := 629) (by decide +kernel), List.mem_of_getElem? (i := 812) (by decide +kernel), List.mem_of_getElem? (i := 813) (by decide +kernel)⟩
theorem lw_p21 : lw_okq (⟨"BoxIntegralsModel", "encloseTo", "(II)V"⟩, 21) := ⟨⟨by decide +kernel, by decide +kernel⟩, List.mem_of_getElem? (i := 629) (by decide +kernel), List.mem_of_getElem? (i := 816) (by decide +kernel), List.mem_of_getElem? (i := 817) (by decide +kernel)⟩
theorem lw_p22 : lw_okq (⟨"BoxIntegralsModel", "enclose", "(II)V"⟩, 21) := ⟨⟨by decide +kernel, by decide +kernel⟩, List.mem_of_getElem? (i := 629) (by decide +kernel), List.mem_of_getElem? (i := 820) (by decide +kernel), List.mem_of_getElem? (i := 821) (by decide +kernel)⟩
theorem lw_p23 : lw_okq (⟨"BoxIntegralsModel", "put", "(IDD)V"⟩, 21) := ⟨⟨by decide +kernel, by decide +kernel⟩, List.mem_of_getElem? (i := 629) (by decide +kernel), List.mem_of_getElem? (i := 824) (by decide +kernel), List.mem_of_getElem? (i := 825) (by decide +kernel)⟩
theorem lw_p24 : lw_okq (⟨"BoxIntegralsModel", "putFour", "(IDDDD)V"⟩, 21) := ⟨⟨by decide +kernel, by decide +kernel⟩, List.mem_of_getElem? (i := 629) (by decide +kernel), List.mem_of_getElem? (i := 834) (by decide +kernel), List.mem_of_getElem? (i := 835) (by decide +kernel)⟩
theorem lw_p25 : lw_okq (⟨"BoxIntegralsModel", "putUp", "(IDD)V"⟩, 21) := ⟨⟨by decide +kernel, by decide +kernel⟩, List.mem_of_getElem? (i := 629) (by decide +kernel), List.mem_of_getElem? (i := 844) (by decide +kernel), List.mem_of_getElem? (i := 845) (by decide +kernel)⟩
theorem lw_p26 : lw_okq (⟨"BoxIntegralsModel", "times", "(IDD)V"⟩, 21) := ⟨⟨by decide +kernel, by decide +kernel⟩, List.mem_of_getElem? (i := 629) (by decide +kernel), List.mem_of_getElem? (i := 848) (by decide +kernel), List.mem_of_getElem? (i := 849) (by decide +kernel)⟩
theorem lw_p27 : lw_okq (⟨"BoxIntegralsModel", "next", "()I"⟩, 21) := ⟨⟨by decide +kernel, by decide +kernel⟩, List.mem_of_getElem? (i := 629) (by decide +kernel), List.mem_of_getElem? (i := 856) (by decide +kernel), List.mem_of_getElem? (i := 857) (by decide +kernel)⟩
theorem lw_p28 : lw_okq (⟨"BoxIntegralsModel", "isTight", "(I)Z"⟩, 21) := ⟨⟨by decide +kernel, by decide +kernel⟩, List.mem_of_getElem? (i := 629) (by decide +kernel), List.mem_of_getElem? (i := 860) (by decide +kernel), List.mem_of_getElem? (i := 861) (by decide +kernel)⟩
theorem lw_p29 : lw_okq (⟨"BoxIntegralsModel", "widest", "(I)I"⟩, 21) := ⟨⟨by decide +kernel, by decide +kernel⟩, List.mem_of_getElem? (i := 629) (by decide +kernel), List.mem_of_getElem? (i := 864) (by decide +kernel), List.mem_of_getElem? (i := 865) (by decide +kernel)⟩
theorem lw_p30 : lw_okq (⟨"BoxIntegralsModel", "middle", "(I)D"⟩, 21) := ⟨⟨by decide +kernel, by decide +kernel⟩, List.mem_of_getElem? (i := 629) (by decide +kernel), List.mem_of_getElem? (i := 868) (by decide +kernel), List.mem_of_getElem? (i := 869) (by decide +kernel)⟩
theorem lw_p31 : lw_okq (⟨"BoxIntegralsModel", "isBox", "(I)Z"⟩, 21) := ⟨⟨by decide +kernel, by decide +kernel⟩, List.mem_of_getElem? (i := 629) (by decide +kernel), List.mem_of_getElem? (i := 881) (by decide +kernel), List.mem_of_getElem? (i := 882) (by decide +kernel)⟩
def lw_privs_2 : List (MethodName × Nat) := [(⟨"BoxIntegralsModel", "ends", "()V"⟩, 21), (⟨"BoxIntegralsModel", "isNode", "(I)Z"⟩, 21), (⟨"BoxIntegralsModel", "valueAt", "(IDDD)D"⟩, 21), (⟨"BoxIntegralsModel", "judge", "(I)V"⟩, 21), (⟨"BoxIntegralsModel", "holds", "(II)I"⟩, 21), (⟨"BoxIntegralsModel", "encloseTo", "(II)V"⟩, 21), (⟨"BoxIntegralsModel", "enclose", "(II)V"⟩, 21), (⟨"BoxIntegralsModel", "put", "(IDD)V"⟩, 21), (⟨"BoxIntegralsModel", "putFour", "(IDDDD)V"⟩, 21), (⟨"BoxIntegralsModel", "putUp", "(IDD)V"⟩, 21), (⟨"BoxIntegralsModel", "times", "(IDD)V"⟩, 21), (⟨"BoxIntegralsModel", "next", "()I"⟩, 21), (⟨"BoxIntegralsModel", "isTight", "(I)Z"⟩, 21), (⟨"BoxIntegralsModel", "widest", "(I)I"⟩, 21), (⟨"BoxIntegralsModel", "middle", "(I)D"⟩, 21), (⟨"BoxIntegralsModel", "isBox", "(I)Z"⟩, 21)]
theorem lw_r2 : ∀ q ∈ lw_privs_2, lw_okq q := List.forall_mem_cons.mpr ⟨lw_p16, List.forall_mem_cons.mpr ⟨lw_p17, List.forall_mem_cons.mpr ⟨lw_p18, List.forall_mem_cons.mpr ⟨lw_p19, List.forall_mem_cons.mpr ⟨lw_p20, List.forall_mem_cons.mpr ⟨lw_p21, List.forall_mem_cons.mpr ⟨lw_p22, List.forall_mem_cons.mpr ⟨lw_p23, List.forall_mem_cons.mpr ⟨lw_p24, List.forall_mem_cons.mpr ⟨lw_p25, List.forall_mem_cons.mpr ⟨lw_p26, List.forall_mem_cons.mpr ⟨lw_p27, List.forall_mem_cons.mpr ⟨lw_p28, List.forall_mem_cons.mpr ⟨lw_p29, List.forall_mem_cons.mpr ⟨lw_p30, List.forall_mem_cons.mpr ⟨lw_p31, fun _ h => absurd h List.not_mem_nil⟩⟩⟩⟩⟩⟩⟩⟩⟩⟩⟩⟩⟩⟩⟩⟩
theorem lw_p32 : lw_okq (⟨"BoxIntegralsModel", "isIn", "(IDDD)Z"⟩, 21) := ⟨⟨by decide +kernel, by decide +kernel⟩, List.mem_of_getElem? (i := 629) (by decide +kernel), List.mem_of_getElem? (i := 901) (by decide +kernel), List.mem_of_getElem? (i := 902) (by decide +kernel)⟩
theorem lw_p33 : lw_okq (⟨"BoxIntegralsModel", "massLow", "(I)D"⟩, 21) := ⟨⟨by decide +kernel, by decide +kernel⟩, List.mem_of_getElem? (i := 629) (by decide +kernel), List.mem_of_getElem? (i := 916) (by decide +kernel), List.mem_of_getElem? (i := 917) (by decide +kernel)⟩
theorem lw_p34 : lw_okq (⟨"BoxIntegralsModel", "massHigh", "(I)D"⟩, 21) := ⟨⟨by decide +kernel, by decide +kernel⟩, List.mem_of_getElem? (i := 629) (by decide +kernel), List.mem_of_getElem? (i := 920) (by decide +kernel), List.mem_of_getElem? (i := 921) (by decide +kernel)⟩
theorem lw_p35 : lw_okq (⟨"BoxIntegralsModel", "countOf", "(I)I"⟩, 21) := ⟨⟨by decide +kernel, by decide +kernel⟩, List.mem_of_getElem? (i := 629) (by decide +kernel), List.mem_of_getElem? (i := 932) (by decide +kernel), List.mem_of_getElem? (i := 933) (by decide +kernel)⟩
def lw_privs_3 : List (MethodName × Nat) := [(⟨"BoxIntegralsModel", "isIn", "(IDDD)Z"⟩, 21), (⟨"BoxIntegralsModel", "massLow", "(I)D"⟩, 21), (⟨"BoxIntegralsModel", "massHigh", "(I)D"⟩, 21), (⟨"BoxIntegralsModel", "countOf", "(I)I"⟩, 21)]
theorem lw_r3 : ∀ q ∈ lw_privs_3, lw_okq q := List.forall_mem_cons.mpr ⟨lw_p32, List.forall_mem_cons.mpr ⟨lw_p33, List.forall_mem_cons.mpr ⟨lw_p34, List.forall_mem_cons.mpr ⟨lw_p35, fun _ h => absurd h List.not_mem_nil⟩⟩⟩⟩
def lw_privs : List (MethodName × Nat) := lw_privs_1 ++ (lw_privs_2 ++ (lw_privs_3))
def lw_tbl : List Cond := k2_sels lw_privs ++ tables_1
theorem lw_privs_ok : ∀ q ∈ lw_privs, lw_okq q := by
  show ∀ q ∈ lw_privs_1 ++ (lw_privs_2 ++ (lw_privs_3)), lw_okq q
  exact List.forall_mem_append.mpr ⟨lw_r1, List.forall_mem_append.mpr ⟨lw_r2, lw_r3⟩⟩
/-- the streams that the claim lets the run draw from -/
abbrev lw_cs : List Choice := [Jvm.Choice.named "NaN.bits", Jvm.Choice.named "NaN.copy"]
theorem lw_bits : nanBits ∈ lw_cs := by first | decide | exact List.mem_cons_self | simp [lw_cs, nanBits]
/-- every good word of the tables: one list for all methods -/
def lw_all : List Cond := lw_tbl.filter goodWord
theorem lw_all_tbl {w : Cond} (h : w ∈ lw_all) : w ∈ lw_tbl := (List.mem_filter.mp h).1
theorem mw {w : Cond} (k : Nat) (h : tables_1[k]? = some w) (g : goodWord w = true) : w ∈ lw_all := List.mem_filter.mpr ⟨List.mem_append_right _ (List.mem_of_getElem? h), g⟩
theorem ms {w : Cond} (k : Nat) (h : (k2_sels lw_privs)[k]? = some w) (g : goodWord w = true) : w ∈ lw_all := List.mem_filter.mpr ⟨List.mem_append_left _ (List.mem_of_getElem? h), g⟩
theorem lw_all_good {w : Cond} (h : w ∈ lw_all) : goodWord w = true := (List.mem_filter.mp h).2
theorem lw_goodT : GoodIn lw_tbl lw_all := fun w h => ⟨lw_all_tbl h, good_of_word (lw_all_good h)⟩
theorem lw_good1 (c : Cond) : GoodIn (c :: lw_all) lw_all := fun w h => ⟨List.mem_cons_of_mem _ h, good_of_word (lw_all_good h)⟩
theorem lw_goodM {big : List Cond} (hb : ∀ w ∈ lw_all, w ∈ big) {c : Cond} (h : c ∈ lw_all) : GoodIn big (c :: lw_all) := fun w hw => by
  rcases List.mem_cons.mp hw with rfl | hw
  · exact ⟨hb _ h, good_of_word (lw_all_good h)⟩
  · exact ⟨hb _ hw, good_of_word (lw_all_good hw)⟩
end
section
def RX0 : String := "BoxIntegrals$Formulas"
def TX0 : u_T := fun k => match k with
  | 0 => ("BoxIntegrals$Formulas", "lows", "[J", true)
  | 1 => ("BoxIntegrals$Formulas", "highs", "[J", true)
  | 2 => ("BoxIntegrals$Formulas", "size", "I", false)
  | 3 => ("BoxIntegrals$Formulas", "kinds", "[I", true)
  | 4 => ("BoxIntegrals$Formulas", "firsts", "[I", true)
  | 5 => ("BoxIntegrals$Formulas", "seconds", "[I", true)
  | 6 => ("BoxIntegrals$Formulas", "numbers", "[J", true)
  | _ => ("BoxIntegrals$Formulas", "values", "[J", true)
def tyX0 : Nat → FieldType := fun k => match k with
  | 0 => .array .long
  | 1 => .array .long
  | 2 => .int
  | 3 => .array .int
  | 4 => .array .int
  | 5 => .array .int
  | 6 => .array .long
  | _ => .array .long
theorem nmX0 : ∀ a, a < 8 → ∀ b, b < 8 → a ≠ b → (TX0 a).2.1 ≠ (TX0 b).2.1 := by decide +kernel
theorem tyX0_ok : ∀ k, k < 8 → parseFieldDescriptor (TX0 k).2.2.1 = some (tyX0 k) := by decide +kernel
abbrev cX0_init : ByteArray := prog_2_method_1_code
def yX0_init : MethodName := ⟨RX0, "<init>", "()V"⟩
abbrev cX0_isKind : ByteArray := prog_2_method_2_code
def yX0_isKind : MethodName := ⟨RX0, "isKind", "(I)Z"⟩
abbrev cX0_hasFirst : ByteArray := prog_2_method_3_code
def yX0_hasFirst : MethodName := ⟨RX0, "hasFirst", "(I)Z"⟩
abbrev cX0_hasSecond : ByteArray := prog_2_method_4_code
def yX0_hasSecond : MethodName := ⟨RX0, "hasSecond", "(I)Z"⟩
abbrev cX0_has : ByteArray := prog_2_method_5_code
def yX0_has : MethodName := ⟨RX0, "has", "(I)Z"⟩
abbrev cX0_areParts : ByteArray := prog_2_method_6_code
def yX0_areParts : MethodName := ⟨RX0, "areParts", "(IIII)Z"⟩
abbrev cX0_add : ByteArray := prog_2_method_7_code
def yX0_add : MethodName := ⟨RX0, "add", "(IIIJ)I"⟩
abbrev cX0_withParts : ByteArray := prog_2_method_8_code
def yX0_withParts : MethodName := ⟨RX0, "withParts", "(I)I"⟩
abbrev cX0_valueAt : ByteArray := prog_2_method_9_code
def yX0_valueAt : MethodName := ⟨RX0, "valueAt", "(IJJJ)J"⟩
abbrev cX0_made : ByteArray := prog_2_method_10_code
def yX0_made : MethodName := ⟨RX0, "made", "(IJJ)J"⟩
abbrev cX0_enclose : ByteArray := prog_2_method_11_code
def yX0_enclose : MethodName := ⟨RX0, "enclose", "(I[JI)V"⟩
abbrev cX0_encloseMade : ByteArray := prog_2_method_12_code
def yX0_encloseMade : MethodName := ⟨RX0, "encloseMade", "(I)V"⟩
abbrev cX0_putWholeLine : ByteArray := prog_2_method_13_code
def yX0_putWholeLine : MethodName := ⟨RX0, "putWholeLine", "(I)V"⟩
abbrev cX0_put : ByteArray := prog_2_method_14_code
def yX0_put : MethodName := ⟨RX0, "put", "(IJJ)V"⟩
abbrev cX0_putFour : ByteArray := prog_2_method_15_code
def yX0_putFour : MethodName := ⟨RX0, "putFour", "(IJJJJ)V"⟩
abbrev cX0_putSize : ByteArray := prog_2_method_16_code
def yX0_putSize : MethodName := ⟨RX0, "putSize", "(IJJ)V"⟩
abbrev cX0_putRoot : ByteArray := prog_2_method_17_code
def yX0_putRoot : MethodName := ⟨RX0, "putRoot", "(IJJ)V"⟩
abbrev cX0_putSquare : ByteArray := prog_2_method_18_code
def yX0_putSquare : MethodName := ⟨RX0, "putSquare", "(IJJ)V"⟩
def RX1 : String := "BoxIntegrals$Reals"
def TX1 : u_T := fun k => match k with
  | _ => ("", "", "", false)
def tyX1 : Nat → FieldType := fun k => match k with
  | _ => .int
theorem nmX1 : ∀ a, a < 0 → ∀ b, b < 0 → a ≠ b → (TX1 a).2.1 ≠ (TX1 b).2.1 := by decide +kernel
theorem tyX1_ok : ∀ k, k < 0 → parseFieldDescriptor (TX1 k).2.2.1 = some (tyX1 k) := by decide +kernel
abbrev cX1_told : ByteArray := prog_3_method_2_code
def yX1_told : MethodName := ⟨RX1, "told", "(J)J"⟩
abbrev cX1_ofThree : ByteArray := prog_3_method_3_code
def yX1_ofThree : MethodName := ⟨RX1, "ofThree", "(IJJJ)J"⟩
abbrev cX1_isNone : ByteArray := prog_3_method_4_code
def yX1_isNone : MethodName := ⟨RX1, "isNone", "(J)Z"⟩
abbrev cX1_isFinite : ByteArray := prog_3_method_5_code
def yX1_isFinite : MethodName := ⟨RX1, "isFinite", "(J)Z"⟩
abbrev cX1_isInfinite : ByteArray := prog_3_method_6_code
def yX1_isInfinite : MethodName := ⟨RX1, "isInfinite", "(J)Z"⟩
abbrev cX1_isZero : ByteArray := prog_3_method_7_code
def yX1_isZero : MethodName := ⟨RX1, "isZero", "(J)Z"⟩
abbrev cX1_rank : ByteArray := prog_3_method_8_code
def yX1_rank : MethodName := ⟨RX1, "rank", "(J)J"⟩
abbrev cX1_isBelow : ByteArray := prog_3_method_9_code
def yX1_isBelow : MethodName := ⟨RX1, "isBelow", "(JJ)Z"⟩
abbrev cX1_isFromTo : ByteArray := prog_3_method_10_code
def yX1_isFromTo : MethodName := ⟨RX1, "isFromTo", "(JJJ)Z"⟩
abbrev cX1_strictRank : ByteArray := prog_3_method_11_code
def yX1_strictRank : MethodName := ⟨RX1, "strictRank", "(J)J"⟩
abbrev cX1_lesser : ByteArray := prog_3_method_12_code
def yX1_lesser : MethodName := ⟨RX1, "lesser", "(JJ)J"⟩
abbrev cX1_greater : ByteArray := prog_3_method_13_code
def yX1_greater : MethodName := ⟨RX1, "greater", "(JJ)J"⟩
abbrev cX1_zeroIfLess : ByteArray := prog_3_method_14_code
def yX1_zeroIfLess : MethodName := ⟨RX1, "zeroIfLess", "(J)J"⟩
abbrev cX1_oneIfMore : ByteArray := prog_3_method_15_code
def yX1_oneIfMore : MethodName := ⟨RX1, "oneIfMore", "(J)J"⟩
abbrev cX1_opposite : ByteArray := prog_3_method_16_code
def yX1_opposite : MethodName := ⟨RX1, "opposite", "(J)J"⟩
abbrev cX1_size : ByteArray := prog_3_method_17_code
def yX1_size : MethodName := ⟨RX1, "size", "(J)J"⟩
abbrev cX1_signum : ByteArray := prog_3_method_18_code
def yX1_signum : MethodName := ⟨RX1, "signum", "(J)J"⟩
abbrev cX1_up : ByteArray := prog_3_method_19_code
def yX1_up : MethodName := ⟨RX1, "up", "(J)J"⟩
abbrev cX1_down : ByteArray := prog_3_method_20_code
def yX1_down : MethodName := ⟨RX1, "down", "(J)J"⟩
abbrev cX1_scale : ByteArray := prog_3_method_21_code
def yX1_scale : MethodName := ⟨RX1, "scale", "(J)I"⟩
abbrev cX1_fraction : ByteArray := prog_3_method_22_code
def yX1_fraction : MethodName := ⟨RX1, "fraction", "(J)J"⟩
abbrev cX1_lack : ByteArray := prog_3_method_23_code
def yX1_lack : MethodName := ⟨RX1, "lack", "(J)I"⟩
abbrev cX1_moved : ByteArray := prog_3_method_24_code
def yX1_moved : MethodName := ⟨RX1, "moved", "(JI)J"⟩
abbrev cX1_packed : ByteArray := prog_3_method_25_code
def yX1_packed : MethodName := ⟨RX1, "packed", "(JIJ)J"⟩
abbrev cX1_plus : ByteArray := prog_3_method_26_code
def yX1_plus : MethodName := ⟨RX1, "plus", "(JJ)J"⟩
abbrev cX1_times : ByteArray := prog_3_method_27_code
def yX1_times : MethodName := ⟨RX1, "times", "(JJ)J"⟩
abbrev cX1_topOfProduct : ByteArray := prog_3_method_28_code
def yX1_topOfProduct : MethodName := ⟨RX1, "topOfProduct", "(JJ)J"⟩
abbrev cX1_over : ByteArray := prog_3_method_29_code
def yX1_over : MethodName := ⟨RX1, "over", "(JJ)J"⟩
abbrev cX1_quotient : ByteArray := prog_3_method_30_code
def yX1_quotient : MethodName := ⟨RX1, "quotient", "(JJ)J"⟩
abbrev cX1_root : ByteArray := prog_3_method_31_code
def yX1_root : MethodName := ⟨RX1, "root", "(J)J"⟩
abbrev cX1_wholeRoot : ByteArray := prog_3_method_32_code
def yX1_wholeRoot : MethodName := ⟨RX1, "wholeRoot", "(J)J"⟩
abbrev cX1_behindPoint : ByteArray := prog_3_method_33_code
def yX1_behindPoint : MethodName := ⟨RX1, "behindPoint", "(I)J"⟩
abbrev cX1_floor : ByteArray := prog_3_method_34_code
def yX1_floor : MethodName := ⟨RX1, "floor", "(J)J"⟩
abbrev cX1_throughFloat : ByteArray := prog_3_method_35_code
def yX1_throughFloat : MethodName := ⟨RX1, "throughFloat", "(J)J"⟩
abbrev cX1_cut : ByteArray := prog_3_method_36_code
def yX1_cut : MethodName := ⟨RX1, "cut", "(JJJ)J"⟩
abbrev cX1_lowTimes : ByteArray := prog_3_method_37_code
def yX1_lowTimes : MethodName := ⟨RX1, "lowTimes", "(JJ)J"⟩
abbrev cX1_highTimes : ByteArray := prog_3_method_38_code
def yX1_highTimes : MethodName := ⟨RX1, "highTimes", "(JJ)J"⟩
def RX2 : String := "BoxIntegrals$Tiling"
def TX2 : u_T := fun k => match k with
  | 0 => ("BoxIntegrals$Tiling", "sides", "[J", true)
  | 1 => ("BoxIntegrals$Tiling", "lows", "[J", true)
  | 2 => ("BoxIntegrals$Tiling", "highs", "[J", true)
  | 3 => ("BoxIntegrals$Tiling", "kinds", "[I", true)
  | 4 => ("BoxIntegrals$Tiling", "widths", "[J", true)
  | 5 => ("BoxIntegrals$Tiling", "size", "I", false)
  | 6 => ("BoxIntegrals$Tiling", "cutDraws", "[I", true)
  | 7 => ("BoxIntegrals$Tiling", "middles", "[J", true)
  | 8 => ("BoxIntegrals$Tiling", "tight", "[Z", true)
  | _ => ("BoxIntegrals$Tiling", "draws", "I", false)
def tyX2 : Nat → FieldType := fun k => match k with
  | 0 => .array .long
  | 1 => .array .long
  | 2 => .array .long
  | 3 => .array .int
  | 4 => .array .long
  | 5 => .int
  | 6 => .array .int
  | 7 => .array .long
  | 8 => .array .boolean
  | _ => .int
theorem nmX2 : ∀ a, a < 10 → ∀ b, b < 10 → a ≠ b → (TX2 a).2.1 ≠ (TX2 b).2.1 := by decide +kernel
theorem tyX2_ok : ∀ k, k < 10 → parseFieldDescriptor (TX2 k).2.2.1 = some (tyX2 k) := by decide +kernel
abbrev cX2_init : ByteArray := prog_4_method_1_code
def yX2_init : MethodName := ⟨RX2, "<init>", "()V"⟩
abbrev cX2_place : ByteArray := prog_4_method_2_code
def yX2_place : MethodName := ⟨RX2, "place", "(II)I"⟩
abbrev cX2_has : ByteArray := prog_4_method_3_code
def yX2_has : MethodName := ⟨RX2, "has", "(I)Z"⟩
abbrev cX2_start : ByteArray := prog_4_method_4_code
def yX2_start : MethodName := ⟨RX2, "start", "([JI)V"⟩
abbrev cX2_end : ByteArray := prog_4_method_5_code
def yX2_end : MethodName := ⟨RX2, "end", "()V"⟩
abbrev cX2_measure : ByteArray := prog_4_method_6_code
def yX2_measure : MethodName := ⟨RX2, "measure", "(I)V"⟩
abbrev cX2_split : ByteArray := prog_4_method_7_code
def yX2_split : MethodName := ⟨RX2, "split", "(I)I"⟩
abbrev cX2_heaviest : ByteArray := prog_4_method_8_code
def yX2_heaviest : MethodName := ⟨RX2, "heaviest", "()I"⟩
abbrev cX2_holds : ByteArray := prog_4_method_9_code
def yX2_holds : MethodName := ⟨RX2, "holds", "(IJJJ)Z"⟩
abbrev cX2_lowMass : ByteArray := prog_4_method_10_code
def yX2_lowMass : MethodName := ⟨RX2, "lowMass", "(I)J"⟩
abbrev cX2_highMass : ByteArray := prog_4_method_11_code
def yX2_highMass : MethodName := ⟨RX2, "highMass", "(I)J"⟩
abbrev cX2_howMany : ByteArray := prog_4_method_12_code
def yX2_howMany : MethodName := ⟨RX2, "howMany", "(I)I"⟩
abbrev cX2_howManyStuck : ByteArray := prog_4_method_13_code
def yX2_howManyStuck : MethodName := ⟨RX2, "howManyStuck", "()I"⟩
def RX3 : String := "BoxIntegrals"
def TX3 : u_T := fun k => match k with
  | 0 => ("BoxIntegrals", "formulas", "LBoxIntegrals$Formulas;", true)
  | 1 => ("BoxIntegrals", "tiling", "LBoxIntegrals$Tiling;", true)
  | 2 => ("BoxIntegrals", "spans", "[J", true)
  | 3 => ("BoxIntegrals", "roles", "[I", true)
  | 4 => ("BoxIntegrals", "draws", "I", false)
  | _ => ("BoxIntegrals", "needed", "I", false)
def tyX3 : Nat → FieldType := fun k => match k with
  | 0 => .object "BoxIntegrals$Formulas"
  | 1 => .object "BoxIntegrals$Tiling"
  | 2 => .array .long
  | 3 => .array .int
  | 4 => .int
  | _ => .int
theorem nmX3 : ∀ a, a < 6 → ∀ b, b < 6 → a ≠ b → (TX3 a).2.1 ≠ (TX3 b).2.1 := by decide +kernel
theorem tyX3_ok : ∀ k, k < 6 → parseFieldDescriptor (TX3 k).2.2.1 = some (tyX3 k) := by decide +kernel
abbrev cX3_init : ByteArray := prog_1_method_1_code
def yX3_init : MethodName := ⟨RX3, "<init>", "()V"⟩
abbrev cX3_draw : ByteArray := prog_1_method_2_code
def yX3_draw : MethodName := ⟨RX3, "draw", "(JJ)I"⟩
abbrev cX3_node : ByteArray := prog_1_method_3_code
def yX3_node : MethodName := ⟨RX3, "node", "(IIIJ)I"⟩
abbrev cX3_role : ByteArray := prog_1_method_4_code
def yX3_role : MethodName := ⟨RX3, "role", "(II)I"⟩
abbrev cX3_begin : ByteArray := prog_1_method_5_code
def yX3_begin : MethodName := ⟨RX3, "begin", "()I"⟩
abbrev cX3_run : ByteArray := prog_1_method_6_code
def yX3_run : MethodName := ⟨RX3, "run", "(I)I"⟩
abbrev cX3_boxes : ByteArray := prog_1_method_7_code
def yX3_boxes : MethodName := ⟨RX3, "boxes", "()I"⟩
abbrev cX3_kind : ByteArray := prog_1_method_8_code
def yX3_kind : MethodName := ⟨RX3, "kind", "(I)I"⟩
abbrev cX3_side : ByteArray := prog_1_method_9_code
def yX3_side : MethodName := ⟨RX3, "side", "(III)J"⟩
abbrev cX3_weight : ByteArray := prog_1_method_10_code
def yX3_weight : MethodName := ⟨RX3, "weight", "(II)J"⟩
abbrev cX3_enclosed : ByteArray := prog_1_method_11_code
def yX3_enclosed : MethodName := ⟨RX3, "enclosed", "(III)J"⟩
abbrev cX3_value : ByteArray := prog_1_method_12_code
def yX3_value : MethodName := ⟨RX3, "value", "(IJJJ)J"⟩
abbrev cX3_within : ByteArray := prog_1_method_13_code
def yX3_within : MethodName := ⟨RX3, "within", "(IIJJJ)I"⟩
abbrev cX3_where : ByteArray := prog_1_method_14_code
def yX3_where : MethodName := ⟨RX3, "where", "(JJJ)I"⟩
abbrev cX3_mass : ByteArray := prog_1_method_15_code
def yX3_mass : MethodName := ⟨RX3, "mass", "(II)J"⟩
abbrev cX3_odds : ByteArray := prog_1_method_16_code
def yX3_odds : MethodName := ⟨RX3, "odds", "(I)J"⟩
abbrev cX3_share : ByteArray := prog_1_method_17_code
def yX3_share : MethodName := ⟨RX3, "share", "(I)I"⟩
abbrev cX3_count : ByteArray := prog_1_method_18_code
def yX3_count : MethodName := ⟨RX3, "count", "(I)I"⟩
abbrev cX3_clear : ByteArray := prog_1_method_19_code
def yX3_clear : MethodName := ⟨RX3, "clear", "()I"⟩
abbrev cX3_isEnd : ByteArray := prog_1_method_20_code
def yX3_isEnd : MethodName := ⟨RX3, "isEnd", "(I)Z"⟩
abbrev cX3_isBoxKind : ByteArray := prog_1_method_21_code
def yX3_isBoxKind : MethodName := ⟨RX3, "isBoxKind", "(I)Z"⟩
abbrev cX3_forgetRoles : ByteArray := prog_1_method_22_code
def yX3_forgetRoles : MethodName := ⟨RX3, "forgetRoles", "()V"⟩
abbrev cX3_settle : ByteArray := prog_1_method_23_code
def yX3_settle : MethodName := ⟨RX3, "settle", "(I)V"⟩
abbrev cX3_kindNow : ByteArray := prog_1_method_24_code
def yX3_kindNow : MethodName := ⟨RX3, "kindNow", "()I"⟩
abbrev cX3_surely : ByteArray := prog_1_method_25_code
def yX3_surely : MethodName := ⟨RX3, "surely", "(I)Z"⟩
abbrev cX3_surelyNot : ByteArray := prog_1_method_26_code
def yX3_surelyNot : MethodName := ⟨RX3, "surelyNot", "(I)Z"⟩
abbrev cX3_weigh : ByteArray := prog_1_method_27_code
def yX3_weigh : MethodName := ⟨RX3, "weigh", "(I)V"⟩
abbrev cX3_lowOdds : ByteArray := prog_1_method_28_code
def yX3_lowOdds : MethodName := ⟨RX3, "lowOdds", "()J"⟩
abbrev cX3_highOdds : ByteArray := prog_1_method_29_code
def yX3_highOdds : MethodName := ⟨RX3, "highOdds", "()J"⟩
def RX4 : String := "BoxIntegralsModel"
def TX4 : u_T := fun k => match k with
  | 0 => ("BoxIntegralsModel", "fault", "I", false)
  | 1 => ("BoxIntegralsModel", "draws", "I", false)
  | 2 => ("BoxIntegralsModel", "spanLow", "[D", true)
  | 3 => ("BoxIntegralsModel", "spanHigh", "[D", true)
  | 4 => ("BoxIntegralsModel", "nodes", "I", false)
  | 5 => ("BoxIntegralsModel", "kinds", "[I", true)
  | 6 => ("BoxIntegralsModel", "firsts", "[I", true)
  | 7 => ("BoxIntegralsModel", "seconds", "[I", true)
  | 8 => ("BoxIntegralsModel", "numbers", "[D", true)
  | 9 => ("BoxIntegralsModel", "roles", "[I", true)
  | 10 => ("BoxIntegralsModel", "isRun", "Z", false)
  | 11 => ("BoxIntegralsModel", "boxes", "I", false)
  | 12 => ("BoxIntegralsModel", "steps", "I", false)
  | 13 => ("BoxIntegralsModel", "lows", "[D", true)
  | 14 => ("BoxIntegralsModel", "highs", "[D", true)
  | 15 => ("BoxIntegralsModel", "boxKind", "[I", true)
  | 16 => ("BoxIntegralsModel", "weightLow", "[D", true)
  | 17 => ("BoxIntegralsModel", "weightHigh", "[D", true)
  | 18 => ("BoxIntegralsModel", "values", "[D", true)
  | 19 => ("BoxIntegralsModel", "low", "[D", true)
  | _ => ("BoxIntegralsModel", "high", "[D", true)
def tyX4 : Nat → FieldType := fun k => match k with
  | 0 => .int
  | 1 => .int
  | 2 => .array .double
  | 3 => .array .double
  | 4 => .int
  | 5 => .array .int
  | 6 => .array .int
  | 7 => .array .int
  | 8 => .array .double
  | 9 => .array .int
  | 10 => .boolean
  | 11 => .int
  | 12 => .int
  | 13 => .array .double
  | 14 => .array .double
  | 15 => .array .int
  | 16 => .array .double
  | 17 => .array .double
  | 18 => .array .double
  | 19 => .array .double
  | _ => .array .double
theorem nmX4 : ∀ a, a < 21 → ∀ b, b < 21 → a ≠ b → (TX4 a).2.1 ≠ (TX4 b).2.1 := by decide +kernel
theorem tyX4_ok : ∀ k, k < 21 → parseFieldDescriptor (TX4 k).2.2.1 = some (tyX4 k) := by decide +kernel
abbrev cX4_init : ByteArray := prog_6_method_1_code
def yX4_init : MethodName := ⟨RX4, "<init>", "()V"⟩
abbrev cX4_thrown : ByteArray := prog_6_method_2_code
def yX4_thrown : MethodName := ⟨RX4, "thrown", "()I"⟩
abbrev cX4_in : ByteArray := prog_6_method_3_code
def yX4_in : MethodName := ⟨RX4, "in", "(III)Z"⟩
abbrev cX4_bits : ByteArray := prog_6_method_4_code
def yX4_bits : MethodName := ⟨RX4, "bits", "(D)J"⟩
abbrev cX4_of : ByteArray := prog_6_method_5_code
def yX4_of : MethodName := ⟨RX4, "of", "(J)D"⟩
abbrev cX4_isNot : ByteArray := prog_6_method_6_code
def yX4_isNot : MethodName := ⟨RX4, "isNot", "(D)Z"⟩
abbrev cX4_up : ByteArray := prog_6_method_7_code
def yX4_up : MethodName := ⟨RX4, "up", "(D)D"⟩
abbrev cX4_down : ByteArray := prog_6_method_8_code
def yX4_down : MethodName := ⟨RX4, "down", "(D)D"⟩
abbrev cX4_isMinus : ByteArray := prog_6_method_9_code
def yX4_isMinus : MethodName := ⟨RX4, "isMinus", "(D)Z"⟩
abbrev cX4_least : ByteArray := prog_6_method_10_code
def yX4_least : MethodName := ⟨RX4, "least", "(DD)D"⟩
abbrev cX4_greatest : ByteArray := prog_6_method_11_code
def yX4_greatest : MethodName := ⟨RX4, "greatest", "(DD)D"⟩
abbrev cX4_size : ByteArray := prog_6_method_12_code
def yX4_size : MethodName := ⟨RX4, "size", "(D)D"⟩
abbrev cX4_isFar : ByteArray := prog_6_method_13_code
def yX4_isFar : MethodName := ⟨RX4, "isFar", "(D)Z"⟩
abbrev cX4_added : ByteArray := prog_6_method_14_code
def yX4_added : MethodName := ⟨RX4, "added", "(DD)D"⟩
abbrev cX4_lessened : ByteArray := prog_6_method_15_code
def yX4_lessened : MethodName := ⟨RX4, "lessened", "(DD)D"⟩
abbrev cX4_timed : ByteArray := prog_6_method_16_code
def yX4_timed : MethodName := ⟨RX4, "timed", "(DD)D"⟩
abbrev cX4_divided : ByteArray := prog_6_method_17_code
def yX4_divided : MethodName := ⟨RX4, "divided", "(DD)D"⟩
abbrev cX4_floor : ByteArray := prog_6_method_18_code
def yX4_floor : MethodName := ⟨RX4, "floor", "(D)D"⟩
abbrev cX4_root : ByteArray := prog_6_method_19_code
def yX4_root : MethodName := ⟨RX4, "root", "(D)D"⟩
abbrev cX4_ends : ByteArray := prog_6_method_20_code
def yX4_ends : MethodName := ⟨RX4, "ends", "()V"⟩
abbrev cX4_draw : ByteArray := prog_6_method_21_code
def yX4_draw : MethodName := ⟨RX4, "draw", "(JJ)I"⟩
abbrev cX4_isNode : ByteArray := prog_6_method_22_code
def yX4_isNode : MethodName := ⟨RX4, "isNode", "(I)Z"⟩
abbrev cX4_isTwo : ByteArray := prog_6_method_23_code
def yX4_isTwo : MethodName := ⟨RX4, "isTwo", "(I)Z"⟩
abbrev cX4_node : ByteArray := prog_6_method_24_code
def yX4_node : MethodName := ⟨RX4, "node", "(IIIJ)I"⟩
abbrev cX4_role : ByteArray := prog_6_method_25_code
def yX4_role : MethodName := ⟨RX4, "role", "(II)I"⟩
abbrev cX4_made : ByteArray := prog_6_method_26_code
def yX4_made : MethodName := ⟨RX4, "made", "(IDD)D"⟩
abbrev cX4_valueAt : ByteArray := prog_6_method_27_code
def yX4_valueAt : MethodName := ⟨RX4, "valueAt", "(IDDD)D"⟩
abbrev cX4_value : ByteArray := prog_6_method_28_code
def yX4_value : MethodName := ⟨RX4, "value", "(IJJJ)J"⟩
abbrev cX4_put : ByteArray := prog_6_method_29_code
def yX4_put : MethodName := ⟨RX4, "put", "(IDD)V"⟩
abbrev cX4_putUp : ByteArray := prog_6_method_30_code
def yX4_putUp : MethodName := ⟨RX4, "putUp", "(IDD)V"⟩
abbrev cX4_putFour : ByteArray := prog_6_method_31_code
def yX4_putFour : MethodName := ⟨RX4, "putFour", "(IDDDD)V"⟩
abbrev cX4_sizeLow : ByteArray := prog_6_method_32_code
def yX4_sizeLow : MethodName := ⟨RX4, "sizeLow", "(DD)D"⟩
abbrev cX4_sizeHigh : ByteArray := prog_6_method_33_code
def yX4_sizeHigh : MethodName := ⟨RX4, "sizeHigh", "(DD)D"⟩
abbrev cX4_enclose : ByteArray := prog_6_method_34_code
def yX4_enclose : MethodName := ⟨RX4, "enclose", "(II)V"⟩
abbrev cX4_encloseTo : ByteArray := prog_6_method_35_code
def yX4_encloseTo : MethodName := ⟨RX4, "encloseTo", "(II)V"⟩
abbrev cX4_holds : ByteArray := prog_6_method_36_code
def yX4_holds : MethodName := ⟨RX4, "holds", "(II)I"⟩
abbrev cX4_judge : ByteArray := prog_6_method_37_code
def yX4_judge : MethodName := ⟨RX4, "judge", "(I)V"⟩
abbrev cX4_times : ByteArray := prog_6_method_38_code
def yX4_times : MethodName := ⟨RX4, "times", "(IDD)V"⟩
abbrev cX4_begin : ByteArray := prog_6_method_39_code
def yX4_begin : MethodName := ⟨RX4, "begin", "()I"⟩
abbrev cX4_widest : ByteArray := prog_6_method_40_code
def yX4_widest : MethodName := ⟨RX4, "widest", "(I)I"⟩
abbrev cX4_middle : ByteArray := prog_6_method_41_code
def yX4_middle : MethodName := ⟨RX4, "middle", "(I)D"⟩
abbrev cX4_isTight : ByteArray := prog_6_method_42_code
def yX4_isTight : MethodName := ⟨RX4, "isTight", "(I)Z"⟩
abbrev cX4_next : ByteArray := prog_6_method_43_code
def yX4_next : MethodName := ⟨RX4, "next", "()I"⟩
abbrev cX4_run : ByteArray := prog_6_method_44_code
def yX4_run : MethodName := ⟨RX4, "run", "(I)I"⟩
abbrev cX4_boxes : ByteArray := prog_6_method_45_code
def yX4_boxes : MethodName := ⟨RX4, "boxes", "()I"⟩
abbrev cX4_isBox : ByteArray := prog_6_method_46_code
def yX4_isBox : MethodName := ⟨RX4, "isBox", "(I)Z"⟩
abbrev cX4_kind : ByteArray := prog_6_method_47_code
def yX4_kind : MethodName := ⟨RX4, "kind", "(I)I"⟩
abbrev cX4_side : ByteArray := prog_6_method_48_code
def yX4_side : MethodName := ⟨RX4, "side", "(III)J"⟩
abbrev cX4_weight : ByteArray := prog_6_method_49_code
def yX4_weight : MethodName := ⟨RX4, "weight", "(II)J"⟩
abbrev cX4_enclosed : ByteArray := prog_6_method_50_code
def yX4_enclosed : MethodName := ⟨RX4, "enclosed", "(III)J"⟩
abbrev cX4_isIn : ByteArray := prog_6_method_51_code
def yX4_isIn : MethodName := ⟨RX4, "isIn", "(IDDD)Z"⟩
abbrev cX4_within : ByteArray := prog_6_method_52_code
def yX4_within : MethodName := ⟨RX4, "within", "(IIJJJ)I"⟩
abbrev cX4_where : ByteArray := prog_6_method_53_code
def yX4_where : MethodName := ⟨RX4, "where", "(JJJ)I"⟩
abbrev cX4_massLow : ByteArray := prog_6_method_54_code
def yX4_massLow : MethodName := ⟨RX4, "massLow", "(I)D"⟩
abbrev cX4_massHigh : ByteArray := prog_6_method_55_code
def yX4_massHigh : MethodName := ⟨RX4, "massHigh", "(I)D"⟩
abbrev cX4_mass : ByteArray := prog_6_method_56_code
def yX4_mass : MethodName := ⟨RX4, "mass", "(II)J"⟩
abbrev cX4_odds : ByteArray := prog_6_method_57_code
def yX4_odds : MethodName := ⟨RX4, "odds", "(I)J"⟩
abbrev cX4_countOf : ByteArray := prog_6_method_58_code
def yX4_countOf : MethodName := ⟨RX4, "countOf", "(I)I"⟩
abbrev cX4_share : ByteArray := prog_6_method_59_code
def yX4_share : MethodName := ⟨RX4, "share", "(I)I"⟩
abbrev cX4_count : ByteArray := prog_6_method_60_code
def yX4_count : MethodName := ⟨RX4, "count", "(I)I"⟩
abbrev cX4_clear : ByteArray := prog_6_method_61_code
def yX4_clear : MethodName := ⟨RX4, "clear", "()I"⟩
def RJx00060 : String := "java/lang/ArrayIndexOutOfBoundsException"
def TJx00060 : u_T := fun k => match k with
  | 0 => ("java/lang/Throwable", "backtrace", "Ljava/lang/Object;", false)
  | 1 => ("java/lang/Throwable", "detailMessage", "Ljava/lang/String;", false)
  | 2 => ("java/lang/Throwable", "cause", "Ljava/lang/Throwable;", false)
  | 3 => ("java/lang/Throwable", "stackTrace", "[Ljava/lang/StackTraceElement;", false)
  | 4 => ("java/lang/Throwable", "depth", "I", false)
  | _ => ("java/lang/Throwable", "suppressedExceptions", "Ljava/util/List;", false)
def tyJx00060 : Nat → FieldType := fun k => match k with
  | 0 => .object "java/lang/Object"
  | 1 => .object "java/lang/String"
  | 2 => .object "java/lang/Throwable"
  | 3 => .array (.object "java/lang/StackTraceElement")
  | 4 => .int
  | _ => .object "java/util/List"
theorem nmJx00060 : ∀ a, a < 6 → ∀ b, b < 6 → a ≠ b → (TJx00060 a).2.1 ≠ (TJx00060 b).2.1 := by decide +kernel
theorem tyJx00060_ok : ∀ k, k < 6 → parseFieldDescriptor (TJx00060 k).2.2.1 = some (tyJx00060 k) := by decide +kernel
abbrev cJx00060_init_da8c8 : ByteArray := prog_8_method_1_code
def yJx00060_init_da8c8 : MethodName := ⟨RJx00060, "<init>", "()V"⟩
abbrev cJx00060_init_a7421 : ByteArray := prog_8_method_2_code
def yJx00060_init_a7421 : MethodName := ⟨RJx00060, "<init>", "(Ljava/lang/String;)V"⟩
def RJxe99ae : String := "java/lang/Double"
def TJxe99ae : u_T := fun k => match k with
  | _ => ("", "", "", false)
def tyJxe99ae : Nat → FieldType := fun k => match k with
  | _ => .int
theorem nmJxe99ae : ∀ a, a < 0 → ∀ b, b < 0 → a ≠ b → (TJxe99ae a).2.1 ≠ (TJxe99ae b).2.1 := by decide +kernel
theorem tyJxe99ae_ok : ∀ k, k < 0 → parseFieldDescriptor (TJxe99ae k).2.2.1 = some (tyJxe99ae k) := by decide +kernel
abbrev cJxe99ae_isNaN_b9ae7 : ByteArray := prog_9_method_6_code
def yJxe99ae_isNaN_b9ae7 : MethodName := ⟨RJxe99ae, "isNaN", "(D)Z"⟩
abbrev cJxe99ae_doubleToLongBits_ccdee : ByteArray := prog_9_method_23_code
def yJxe99ae_doubleToLongBits_ccdee : MethodName := ⟨RJxe99ae, "doubleToLongBits", "(D)J"⟩
def RJ6 : String := "java/lang/Integer"
def TJ6 : u_T := fun k => match k with
  | _ => ("", "", "", false)
def tyJ6 : Nat → FieldType := fun k => match k with
  | _ => .int
theorem nmJ6 : ∀ a, a < 0 → ∀ b, b < 0 → a ≠ b → (TJ6 a).2.1 ≠ (TJ6 b).2.1 := by decide +kernel
theorem tyJ6_ok : ∀ k, k < 0 → parseFieldDescriptor (TJ6 k).2.2.1 = some (tyJ6 k) := by decide +kernel
abbrev cJ6_numberOfLeadingZeros_0f7a4 : ByteArray := prog_12_method_47_code
def yJ6_numberOfLeadingZeros_0f7a4 : MethodName := ⟨RJ6, "numberOfLeadingZeros", "(I)I"⟩
def RJ13 : String := "java/lang/Long"
def TJ13 : u_T := fun k => match k with
  | _ => ("", "", "", false)
def tyJ13 : Nat → FieldType := fun k => match k with
  | _ => .int
theorem nmJ13 : ∀ a, a < 0 → ∀ b, b < 0 → a ≠ b → (TJ13 a).2.1 ≠ (TJ13 b).2.1 := by decide +kernel
theorem tyJ13_ok : ∀ k, k < 0 → parseFieldDescriptor (TJ13 k).2.2.1 = some (tyJ13 k) := by decide +kernel
abbrev cJ13_numberOfLeadingZeros_95d88 : ByteArray := prog_13_method_48_code
def yJ13_numberOfLeadingZeros_95d88 : MethodName := ⟨RJ13, "numberOfLeadingZeros", "(J)I"⟩
def RJ9 : String := "java/lang/Math"
def TJ9 : u_T := fun k => match k with
  | _ => ("", "", "", false)
def tyJ9 : Nat → FieldType := fun k => match k with
  | _ => .int
theorem nmJ9 : ∀ a, a < 0 → ∀ b, b < 0 → a ≠ b → (TJ9 a).2.1 ≠ (TJ9 b).2.1 := by decide +kernel
theorem tyJ9_ok : ∀ k, k < 0 → parseFieldDescriptor (TJ9 k).2.2.1 = some (tyJ9 k) := by decide +kernel
abbrev cJ9_max_7cf53 : ByteArray := prog_14_method_65_code
def yJ9_max_7cf53 : MethodName := ⟨RJ9, "max", "(II)I"⟩
def RJ0 : String := "java/lang/String"
def TJ0 : u_T := fun k => match k with
  | 0 => ("java/lang/String", "value", "[B", true)
  | _ => ("java/lang/String", "coder", "B", true)
def tyJ0 : Nat → FieldType := fun k => match k with
  | 0 => .array .byte
  | _ => .byte
theorem nmJ0 : ∀ a, a < 2 → ∀ b, b < 2 → a ≠ b → (TJ0 a).2.1 ≠ (TJ0 b).2.1 := by decide +kernel
theorem tyJ0_ok : ∀ k, k < 2 → parseFieldDescriptor (TJ0 k).2.2.1 = some (tyJ0 k) := by decide +kernel
def RL : String := "BoxIntegralsLaw"
abbrev cL_side : ByteArray := method_3_code
def yL_side : MethodName := ⟨RL, "side", "(LBoxIntegrals;III[J)I"⟩
abbrev cL_share : ByteArray := method_4_code
def yL_share : MethodName := ⟨RL, "share", "(LBoxIntegrals;I[J)I"⟩
abbrev cL_law : ByteArray := code
def yL_law : MethodName := ⟨RL, "law", "([I)Z"⟩
abbrev vwCl : List vw_C := [(RJ0, TJ0, 2), (RJx00060, TJx00060, 6), (RX0, TX0, 8), (RX2, TX2, 10), (RX3, TX3, 6), (RX4, TX4, 21)]
end
section
/-! A PROGRAM'S OWN READING: bytecode over a world of numbered cells; what it says holds of the machine (st_sound). Cells are named by their places: a reference's number is its place; ρ gives the addresses. -/
abbrev aE : Type := (Nat × vp_A) ⊕ (Nat × List Value)
abbrev aS : Type := List aE
abbrev LV : Type := List (Nat × Value)
/-- pc, instruction, length; target or field; class; constant; the word's place in the tables -/
abbrev En : Type := Nat × Instr × Nat × Nat × Nat × Value × Nat
abbrev Tr : Type := List Value → aS → (Option Value → aS → Prop) → Prop
abbrev cl0 : List vw_C := [(RX0, TX0, 8), (RX2, TX2, 10), (RX3, TX3, 6), (RX4, TX4, 21)]
def rv (ρ : Nat → Nat) (v : Value) : Value := match v with
  | .ref a => .ref (ρ a)
  | w => w
theorem rv_cat (ρ : Nat → Nat) (v : Value) : (rv ρ v).category = v.category := by cases v <;> rfl
def re (ρ : Nat → Nat) (τ : Nat → ClassId) (e : aE) : va_E := match e with
  | .inl a => .inl (τ a.1, a.2)
  | .inr o => .inr (o.1, o.2.map (rv ρ))
def wl (ρ : Nat → Nat) (τ : Nat → ClassId) (σ : aS) : va_W := σ.mapIdx (fun k e => (ρ k, re ρ τ e))
def lr (ρ : Nat → Nat) (lv : LV) : LV := lv.map (fun q => (q.1, rv ρ q.2))
abbrev tyl (τ : Nat → ClassId) : List (ClassId × FieldType) := [(τ 0, .int), (τ 1, .long), (τ 2, .double), (τ 3, .boolean)]
theorem wl_get (ρ : Nat → Nat) (τ : Nat → ClassId) (σ : aS) {k : Nat} {e : aE} (h : σ[k]? = some e) : (wl ρ τ σ)[k]? = some (ρ k, re ρ τ e) := by
  simp [wl, List.getElem?_mapIdx, h]
theorem wl_set (ρ : Nat → Nat) (τ : Nat → ClassId) (σ : aS) (k : Nat) (e : aE) : (wl ρ τ σ).set k (ρ k, re ρ τ e) = wl ρ τ (σ.set k e) := by
  apply List.ext_getElem?
  intro i
  simp only [wl, List.getElem?_set, List.getElem?_mapIdx, List.length_mapIdx]
  by_cases h : k = i
  · subst h
    by_cases h2 : k < σ.length <;> simp [h2]
  · simp [h]
-- stack shapes
def s1i (st : List Value) (f : Int32 → List Value → Prop) : Prop := match st with
  | .int x :: r => f x r
  | _ => False
def s2i (st : List Value) (f : Int32 → Int32 → List Value → Prop) : Prop := match st with
  | .int y :: .int x :: r => f x y r
  | _ => False
def s1l (st : List Value) (f : Int64 → List Value → Prop) : Prop := match st with
  | .long x :: r => f x r
  | _ => False
def s2l (st : List Value) (f : Int64 → Int64 → List Value → Prop) : Prop := match st with
  | .long y :: .long x :: r => f x y r
  | _ => False
def sli (st : List Value) (f : Int64 → Int32 → List Value → Prop) : Prop := match st with
  | .int y :: .long x :: r => f x y r
  | _ => False
def s1d (st : List Value) (f : UInt64 → List Value → Prop) : Prop := match st with
  | .double x :: r => f x r
  | _ => False
def s1f (st : List Value) (f : UInt32 → List Value → Prop) : Prop := match st with
  | .float x :: r => f x r
  | _ => False
def s2d (st : List Value) (f : UInt64 → UInt64 → List Value → Prop) : Prop := match st with
  | .double y :: .double x :: r => f x y r
  | _ => False
def s1r (st : List Value) (f : Nat → List Value → Prop) : Prop := match st with
  | .ref a :: r => f a r
  | _ => False
def sri (st : List Value) (f : Nat → Int32 → List Value → Prop) : Prop := match st with
  | .int i :: .ref a :: r => f a i r
  | _ => False
def srv (st : List Value) (f : Nat → Value → List Value → Prop) : Prop := match st with
  | v :: .ref a :: r => f a v r
  | _ => False
def srii (st : List Value) (f : Nat → Int32 → Int32 → List Value → Prop) : Prop := match st with
  | .int x :: .int i :: .ref a :: r => f a i x r
  | _ => False
def sril (st : List Value) (f : Nat → Int32 → Int64 → List Value → Prop) : Prop := match st with
  | .long x :: .int i :: .ref a :: r => f a i x r
  | _ => False
def srid (st : List Value) (f : Nat → Int32 → UInt64 → List Value → Prop) : Prop := match st with
  | .double x :: .int i :: .ref a :: r => f a i x r
  | _ => False
def ai (σ : aS) (a t : Nat) (f : Nat → (Nat → Int32) → Prop) : Prop := match σ[a]? with
  | some (.inl (t', n, .inl g)) => bif t' == t then f n g else False
  | _ => False
def al (σ : aS) (a t : Nat) (f : Nat → (Nat → Int64) → Prop) : Prop := match σ[a]? with
  | some (.inl (t', n, .inr (.inl g))) => bif t' == t then f n g else False
  | _ => False
def ad (σ : aS) (a t : Nat) (f : Nat → (Nat → UInt64) → Prop) : Prop := match σ[a]? with
  | some (.inl (t', n, .inr (.inr (.inr (.inl g))))) => bif t' == t then f n g else False
  | _ => False
def ao (σ : aS) (a ci : Nat) (f : List Value → Prop) : Prop := match σ[a]? with
  | some (.inr (c', fs)) => bif c' == ci then f fs else False
  | _ => False
def op1 {α : Type} (o : Option α) (f : α → Prop) : Prop := match o with
  | some x => f x
  | none => False
theorem s1i_of {st : List Value} {f : Int32 → List Value → Prop} (h : s1i st f) : ∃ x r, st = .int x :: r ∧ f x r := by
  unfold s1i at h; split at h
  · exact ⟨_, _, rfl, h⟩
  · exact h.elim
theorem s2i_of {st : List Value} {f : Int32 → Int32 → List Value → Prop} (h : s2i st f) : ∃ x y r, st = .int y :: .int x :: r ∧ f x y r := by
  unfold s2i at h; split at h
  · exact ⟨_, _, _, rfl, h⟩
  · exact h.elim
theorem s1l_of {st : List Value} {f : Int64 → List Value → Prop} (h : s1l st f) : ∃ x r, st = .long x :: r ∧ f x r := by
  unfold s1l at h; split at h
  · exact ⟨_, _, rfl, h⟩
  · exact h.elim
theorem s2l_of {st : List Value} {f : Int64 → Int64 → List Value → Prop} (h : s2l st f) : ∃ x y r, st = .long y :: .long x :: r ∧ f x y r := by
  unfold s2l at h; split at h
  · exact ⟨_, _, _, rfl, h⟩
  · exact h.elim
theorem sli_of {st : List Value} {f : Int64 → Int32 → List Value → Prop} (h : sli st f) : ∃ x y r, st = .int y :: .long x :: r ∧ f x y r := by
  unfold sli at h; split at h
  · exact ⟨_, _, _, rfl, h⟩
  · exact h.elim
theorem s1d_of {st : List Value} {f : UInt64 → List Value → Prop} (h : s1d st f) : ∃ x r, st = .double x :: r ∧ f x r := by
  unfold s1d at h; split at h
  · exact ⟨_, _, rfl, h⟩
  · exact h.elim
theorem s1f_of {st : List Value} {f : UInt32 → List Value → Prop} (h : s1f st f) : ∃ x r, st = .float x :: r ∧ f x r := by
  unfold s1f at h; split at h
  · exact ⟨_, _, rfl, h⟩
  · exact h.elim
theorem s2d_of {st : List Value} {f : UInt64 → UInt64 → List Value → Prop} (h : s2d st f) : ∃ x y r, st = .double y :: .double x :: r ∧ f x y r := by
  unfold s2d at h; split at h
  · exact ⟨_, _, _, rfl, h⟩
  · exact h.elim
theorem s1r_of {st : List Value} {f : Nat → List Value → Prop} (h : s1r st f) : ∃ a r, st = .ref a :: r ∧ f a r := by
  unfold s1r at h; split at h
  · exact ⟨_, _, rfl, h⟩
  · exact h.elim
theorem sri_of {st : List Value} {f : Nat → Int32 → List Value → Prop} (h : sri st f) : ∃ a i r, st = .int i :: .ref a :: r ∧ f a i r := by
  unfold sri at h; split at h
  · exact ⟨_, _, _, rfl, h⟩
  · exact h.elim
theorem srv_of {st : List Value} {f : Nat → Value → List Value → Prop} (h : srv st f) : ∃ a v r, st = v :: .ref a :: r ∧ f a v r := by
  unfold srv at h; split at h
  · exact ⟨_, _, _, rfl, h⟩
  · exact h.elim
theorem srii_of {st : List Value} {f : Nat → Int32 → Int32 → List Value → Prop} (h : srii st f) : ∃ a i x r, st = .int x :: .int i :: .ref a :: r ∧ f a i x r := by
  unfold srii at h; split at h
  · exact ⟨_, _, _, _, rfl, h⟩
  · exact h.elim
theorem sril_of {st : List Value} {f : Nat → Int32 → Int64 → List Value → Prop} (h : sril st f) : ∃ a i x r, st = .long x :: .int i :: .ref a :: r ∧ f a i x r := by
  unfold sril at h; split at h
  · exact ⟨_, _, _, _, rfl, h⟩
  · exact h.elim
theorem srid_of {st : List Value} {f : Nat → Int32 → UInt64 → List Value → Prop} (h : srid st f) : ∃ a i x r, st = .double x :: .int i :: .ref a :: r ∧ f a i x r := by
  unfold srid at h; split at h
  · exact ⟨_, _, _, _, rfl, h⟩
  · exact h.elim
theorem bif_of {b : Bool} {P : Prop} (h : bif b then P else False) : b = true ∧ P := by cases b with
  | true => exact ⟨rfl, h⟩
  | false => exact h.elim
theorem ai_of {σ : aS} {a t : Nat} {f : Nat → (Nat → Int32) → Prop} (h : ai σ a t f) : ∃ n g, σ[a]? = some (.inl (t, n, .inl g)) ∧ f n g := by
  unfold ai at h; split at h
  · rename_i t' n g e; obtain ⟨h1, h2⟩ := bif_of h; have := eq_of_beq h1; subst this; exact ⟨n, g, e, h2⟩
  · exact h.elim
theorem al_of {σ : aS} {a t : Nat} {f : Nat → (Nat → Int64) → Prop} (h : al σ a t f) : ∃ n g, σ[a]? = some (.inl (t, n, .inr (.inl g))) ∧ f n g := by
  unfold al at h; split at h
  · rename_i t' n g e; obtain ⟨h1, h2⟩ := bif_of h; have := eq_of_beq h1; subst this; exact ⟨n, g, e, h2⟩
  · exact h.elim
theorem ad_of {σ : aS} {a t : Nat} {f : Nat → (Nat → UInt64) → Prop} (h : ad σ a t f) : ∃ n g, σ[a]? = some (.inl (t, n, .inr (.inr (.inr (.inl g))))) ∧ f n g := by
  unfold ad at h; split at h
  · rename_i t' n g e; obtain ⟨h1, h2⟩ := bif_of h; have := eq_of_beq h1; subst this; exact ⟨n, g, e, h2⟩
  · exact h.elim
theorem ao_of {σ : aS} {a ci : Nat} {f : List Value → Prop} (h : ao σ a ci f) : ∃ fs, σ[a]? = some (.inr (ci, fs)) ∧ f fs := by
  unfold ao at h; split at h
  · rename_i c' fs e; obtain ⟨h1, h2⟩ := bif_of h; have := eq_of_beq h1; subst this; exact ⟨fs, e, h2⟩
  · exact h.elim
theorem op1_of {α : Type} {o : Option α} {f : α → Prop} (h : op1 o f) : ∃ x, o = some x ∧ f x := by
  unfold op1 at h; split at h
  · exact ⟨_, rfl, h⟩
  · exact h.elim
-- locals
def lg (lv : LV) (i : Nat) : Option Value := (lv.find? (fun q => q.1 == i)).map (fun q => q.2)
def sp1 (lv : LV) (i : Nat) (v : Value) : LV := (i, v) :: lv.filter (fun q => !(q.1 == i) && !(q.1 + 1 == i && q.2.category == 2))
def sp2 (lv : LV) (i : Nat) (v : Value) : LV := (i, v) :: lv.filter (fun q => !(q.1 == i) && (!(q.1 == i + 1) && !(q.1 + 1 == i && q.2.category == 2)))
def lgi (lv : LV) (i : Nat) (f : Int32 → Prop) : Prop := match lg lv i with
  | some (.int x) => f x
  | _ => False
def lgl (lv : LV) (i : Nat) (f : Int64 → Prop) : Prop := match lg lv i with
  | some (.long x) => f x
  | _ => False
def lgd (lv : LV) (i : Nat) (f : UInt64 → Prop) : Prop := match lg lv i with
  | some (.double x) => f x
  | _ => False
def lga (lv : LV) (i : Nat) (f : Nat → Prop) : Prop := match lg lv i with
  | some (.ref x) => f x
  | _ => False
theorem lg_mem {lv : LV} {i : Nat} {v : Value} (h : lg lv i = some v) : (i, v) ∈ lv := by
  unfold lg at h
  obtain ⟨q, h1, h2⟩ := Option.map_eq_some_iff.mp h
  have h3 := List.find?_some h1
  have h4 : q.1 = i := by simpa using h3
  have h5 := List.mem_of_find?_eq_some h1
  rw [← h4, ← h2]; exact h5
theorem lgi_of {lv : LV} {i : Nat} {f : Int32 → Prop} (h : lgi lv i f) : ∃ x, (i, .int x) ∈ lv ∧ f x := by
  unfold lgi at h; split at h
  · exact ⟨_, lg_mem (by assumption), h⟩
  · exact h.elim
theorem lgl_of {lv : LV} {i : Nat} {f : Int64 → Prop} (h : lgl lv i f) : ∃ x, (i, .long x) ∈ lv ∧ f x := by
  unfold lgl at h; split at h
  · exact ⟨_, lg_mem (by assumption), h⟩
  · exact h.elim
theorem lgd_of {lv : LV} {i : Nat} {f : UInt64 → Prop} (h : lgd lv i f) : ∃ x, (i, .double x) ∈ lv ∧ f x := by
  unfold lgd at h; split at h
  · exact ⟨_, lg_mem (by assumption), h⟩
  · exact h.elim
theorem lga_of {lv : LV} {i : Nat} {f : Nat → Prop} (h : lga lv i f) : ∃ x, (i, .ref x) ∈ lv ∧ f x := by
  unfold lga at h; split at h
  · exact ⟨_, lg_mem (by assumption), h⟩
  · exact h.elim
theorem lr_at {ρ : Nat → Nat} {ls : Array Slot} {nL : Nat} {lv : LV} (h : lv_has ls nL (lr ρ lv)) {i : Nat} {v : Value} (hm : (i, v) ∈ lv) : ls[i]? = some (.val (rv ρ v)) := h.2.2 (i, rv ρ v) (List.mem_map.mpr ⟨(i, v), hm, rfl⟩)
theorem lr_sp1 (ρ : Nat → Nat) (lv : LV) (i : Nat) (v : Value) : (i, rv ρ v) :: (lr ρ lv).filter (fun q => !(q.1 == i) && !(q.1 + 1 == i && q.2.category == 2)) = lr ρ (sp1 lv i v) := by
  simp only [lr, sp1, List.map_cons, List.filter_map]
  congr 2
  apply List.filter_congr
  intro q _
  simp [rv_cat]
theorem lr_sp2 (ρ : Nat → Nat) (lv : LV) (i : Nat) (v : Value) : (i, rv ρ v) :: (lr ρ lv).filter (fun q => !(q.1 == i) && (!(q.1 == i + 1) && !(q.1 + 1 == i && q.2.category == 2))) = lr ρ (sp2 lv i v) := by
  simp only [lr, sp2, List.map_cons, List.filter_map]
  congr 2
  apply List.filter_congr
  intro q _
  simp [rv_cat]
-- conditions
def c0 (c : ClassFile.Cond) (x : Int32) : Prop := match c with
  | .eq => x = 0
  | .ne => ¬ x = 0
  | .lt => x < 0
  | .ge => 0 ≤ x
  | .gt => 0 < x
  | .le => x ≤ 0
def c2 (c : ClassFile.Cond) (x y : Int32) : Prop := match c with
  | .eq => x = y
  | .ne => ¬ x = y
  | .lt => x < y
  | .ge => y ≤ x
  | .gt => y < x
  | .le => x ≤ y
/-- the cases of a tableswitch -/
def tsw (f : Nat → Prop) (pc : Nat) (x : Int32) : Int → List Int → Prop
  | _, [] => True
  | lo, off :: r => (x = Int32.ofInt lo → f ((pc : Int) + off).toNat) ∧ tsw f pc x (lo + 1) r
def s1 (X : Nat × (Nat → Int32)) (CE : List (Nat × Nat × Tr)) (Q : Option Value → aS → Prop) (k : Nat → LV → List Value → aS → Prop) (en : En) (lv : LV) (st : List Value) (σ : aS) : Prop := match en with
  | (pc, ins, len, tgt, ci, v, _) => match ins with
    | .iconst _ => k (pc + len) lv (v :: st) σ
    | .bipush _ => k (pc + len) lv (v :: st) σ
    | .sipush _ => k (pc + len) lv (v :: st) σ
    | .lconst _ => k (pc + len) lv (v :: st) σ
    | .dconst _ => k (pc + len) lv (v :: st) σ
    | .ldc2_w _ => k (pc + len) lv (v :: st) σ
    | .ldc_w _ => k (pc + len) lv (v :: st) σ
    | .ldc _ => k (pc + len) lv (v :: st) σ
    | .iload_n i => lgi lv i (fun x => k (pc + 1) lv (.int x :: st) σ)
    | .iload i => lgi lv i (fun x => k (pc + 2) lv (.int x :: st) σ)
    | .lload_n i => lgl lv i (fun x => k (pc + 1) lv (.long x :: st) σ)
    | .lload i => lgl lv i (fun x => k (pc + 2) lv (.long x :: st) σ)
    | .dload_n i => lgd lv i (fun x => k (pc + 1) lv (.double x :: st) σ)
    | .dload i => lgd lv i (fun x => k (pc + 2) lv (.double x :: st) σ)
    | .aload_n i => lga lv i (fun x => k (pc + 1) lv (.ref x :: st) σ)
    | .aload i => lga lv i (fun x => k (pc + 2) lv (.ref x :: st) σ)
    | .istore_n i => s1i st (fun x r => k (pc + 1) (sp1 lv i (.int x)) r σ)
    | .istore i => s1i st (fun x r => k (pc + 2) (sp1 lv i (.int x)) r σ)
    | .astore_n i => s1r st (fun x r => k (pc + 1) (sp1 lv i (.ref x)) r σ)
    | .astore i => s1r st (fun x r => k (pc + 2) (sp1 lv i (.ref x)) r σ)
    | .lstore_n i => s1l st (fun x r => k (pc + 1) (sp2 lv i (.long x)) r σ)
    | .lstore i => s1l st (fun x r => k (pc + 2) (sp2 lv i (.long x)) r σ)
    | .dstore_n i => s1d st (fun x r => k (pc + 1) (sp2 lv i (.double x)) r σ)
    | .dstore i => s1d st (fun x r => k (pc + 2) (sp2 lv i (.double x)) r σ)
    | .iinc i n => lgi lv i (fun x => k (pc + 3) (sp1 lv i (.int (x + Int32.ofInt n))) st σ)
    | .iadd => s2i st (fun x y r => k (pc + 1) lv (.int (x + y) :: r) σ)
    | .isub => s2i st (fun x y r => k (pc + 1) lv (.int (x - y) :: r) σ)
    | .imul => s2i st (fun x y r => k (pc + 1) lv (.int (x * y) :: r) σ)
    | .iand => s2i st (fun x y r => k (pc + 1) lv (.int (x &&& y) :: r) σ)
    | .ior => s2i st (fun x y r => k (pc + 1) lv (.int (x ||| y) :: r) σ)
    | .ishl => s2i st (fun x y r => k (pc + 1) lv (.int (x <<< (y &&& 31)) :: r) σ)
    | .ishr => s2i st (fun x y r => k (pc + 1) lv (.int (x >>> (y &&& 31)) :: r) σ)
    | .iushr => s2i st (fun x y r => k (pc + 1) lv (.int (x.toUInt32 >>> (y.toUInt32 &&& Int32.toUInt32 31)).toInt32 :: r) σ)
    | .idiv => s2i st (fun x y r => ¬ y = 0 ∧ k (pc + 1) lv (.int (x / y) :: r) σ)
    | .ineg => s1i st (fun x r => k (pc + 1) lv (.int (-x) :: r) σ)
    | .ladd => s2l st (fun x y r => k (pc + 1) lv (.long (x + y) :: r) σ)
    | .lsub => s2l st (fun x y r => k (pc + 1) lv (.long (x - y) :: r) σ)
    | .lmul => s2l st (fun x y r => k (pc + 1) lv (.long (x * y) :: r) σ)
    | .land => s2l st (fun x y r => k (pc + 1) lv (.long (x &&& y) :: r) σ)
    | .lor => s2l st (fun x y r => k (pc + 1) lv (.long (x ||| y) :: r) σ)
    | .lxor => s2l st (fun x y r => k (pc + 1) lv (.long (x ^^^ y) :: r) σ)
    | .ldiv => s2l st (fun x y r => ¬ y = 0 ∧ k (pc + 1) lv (.long (x / y) :: r) σ)
    | .lrem => s2l st (fun x y r => ¬ y = 0 ∧ k (pc + 1) lv (.long (x - x / y * y) :: r) σ)
    | .lshl => sli st (fun x y r => k (pc + 1) lv (.long (x <<< (y.toInt64 &&& 63)) :: r) σ)
    | .lshr => sli st (fun x y r => k (pc + 1) lv (.long (x >>> (y.toInt64 &&& 63)) :: r) σ)
    | .lushr => sli st (fun x y r => k (pc + 1) lv (.long (x.toUInt64 >>> (y.toInt64.toUInt64 &&& Int64.toUInt64 63)).toInt64 :: r) σ)
    | .lcmp => s2l st (fun x y r => k (pc + 1) lv (.int (lg_cmp x y) :: r) σ)
    | .i2l => s1i st (fun x r => k (pc + 1) lv (.long x.toInt64 :: r) σ)
    | .l2i => s1l st (fun x r => k (pc + 1) lv (.int x.toInt32 :: r) σ)
    | .i2d => s1i st (fun x r => k (pc + 1) lv (.double (FP.i2d x) :: r) σ)
    | .l2d => s1l st (fun x r => k (pc + 1) lv (.double (FP.l2d x) :: r) σ)
    | .d2i => s1d st (fun x r => k (pc + 1) lv (.int (FP.d2i x) :: r) σ)
    | .d2l => s1d st (fun x r => k (pc + 1) lv (.long (FP.d2l x) :: r) σ)
    | .d2f => s1d st (fun x r => vf_n32 (FP.d2f x) ∧ k (pc + 1) lv (.float (FP.d2f x) :: r) σ)
    | .f2d => s1f st (fun x r => vf_n64 (FP.f2d x) ∧ k (pc + 1) lv (.double (FP.f2d x) :: r) σ)
    | .dadd => s2d st (fun x y r => vf_n64 (FP.dadd x y) ∧ k (pc + 1) lv (.double (FP.dadd x y) :: r) σ)
    | .dsub => s2d st (fun x y r => vf_n64 (FP.dsub x y) ∧ k (pc + 1) lv (.double (FP.dsub x y) :: r) σ)
    | .dmul => s2d st (fun x y r => vf_n64 (FP.dmul x y) ∧ k (pc + 1) lv (.double (FP.dmul x y) :: r) σ)
    | .ddiv => s2d st (fun x y r => vf_n64 (FP.ddiv x y) ∧ k (pc + 1) lv (.double (FP.ddiv x y) :: r) σ)
    | .dneg => s1d st (fun x r => k (pc + 1) lv (.double (FP.dneg x) :: r) σ)
    | .dcmp op => s2d st (fun x y r => k (pc + 1) lv (.int (Op.cmpValue (FP.dcmp x y) op) :: r) σ)
    | .ifCond c _ => s1i st (fun x r => (c0 c x → k tgt lv r σ) ∧ (¬ c0 c x → k (pc + 3) lv r σ))
    | .if_icmp c _ => s2i st (fun x y r => (c2 c x y → k tgt lv r σ) ∧ (¬ c2 c x y → k (pc + 3) lv r σ))
    | .goto _ => k tgt lv st σ
    | .tableswitch dflt lo hi offs => s1i st (fun x r => (x.toInt < lo ∨ hi < x.toInt → k tgt lv r σ) ∧ tsw (fun t => k t lv r σ) pc x lo offs.toList)
    | .iaload => sri st (fun a i r => bif a == 999 then (¬ X.1 = 0 ∧ vp_in i (X.1 - 1) ∧ k (pc + 1) lv (.int (X.2 i.toNatClampNeg) :: r) σ) else ai σ a 0 (fun n g => vp_in i n ∧ k (pc + 1) lv (.int (g i.toNatClampNeg) :: r) σ))
    | .arraylength => s1r st (fun a r => bif a == 999 then (¬ X.1 = 0 ∧ k (pc + 1) lv (.int (nI (X.1 - 1)) :: r) σ) else False)
    | .baload => sri st (fun a i r => ai σ a 3 (fun n g => vp_in i n ∧ k (pc + 1) lv (.int (g i.toNatClampNeg) :: r) σ))
    | .laload => sri st (fun a i r => al σ a 1 (fun n g => vp_in i n ∧ k (pc + 1) lv (.long (g i.toNatClampNeg) :: r) σ))
    | .daload => sri st (fun a i r => ad σ a 2 (fun n g => vp_in i n ∧ k (pc + 1) lv (.double (g i.toNatClampNeg) :: r) σ))
    | .iastore => srii st (fun a i x r => ai σ a 0 (fun n g => vp_in i n ∧ k (pc + 1) lv r (σ.set a (.inl (0, n, .inl (upd g i.toNatClampNeg x))))))
    | .bastore => srii st (fun a i x r => ai σ a 3 (fun n g => vp_in i n ∧ k (pc + 1) lv r (σ.set a (.inl (3, n, .inl (upd g i.toNatClampNeg (vp_nar .boolean x)))))))
    | .lastore => sril st (fun a i x r => al σ a 1 (fun n g => vp_in i n ∧ k (pc + 1) lv r (σ.set a (.inl (1, n, .inr (.inl (vp_updL g i.toNatClampNeg x)))))))
    | .dastore => srid st (fun a i x r => ad σ a 2 (fun n g => vp_in i n ∧ k (pc + 1) lv r (σ.set a (.inl (2, n, .inr (.inr (.inr (.inl (vf_upd g i.toNatClampNeg x)))))))))
    | .getfield _ => s1r st (fun a r => ao σ a ci (fun fs => op1 (fs[tgt]?) (fun w => k (pc + 3) lv (w :: r) σ)))
    | .putfield _ => srv st (fun a w r => ao σ a ci (fun fs => bif Nat.blt tgt fs.length then (narrow (match cl0[ci]? with | some q => (parseFieldDescriptor (q.2.1 tgt).2.2.1).getD .int | none => .int) w = w ∧ fits (match cl0[ci]? with | some q => (parseFieldDescriptor (q.2.1 tgt).2.2.1).getD .int | none => .int) w = true ∧ (∀ a, ¬ w = .ref a) ∧ k (pc + 3) lv r (σ.set a (.inr (ci, fs.set tgt w)))) else False))
    | .invokestatic i => op1 (CE.find? (fun q => q.1 == 2 * i)) (fun q => bif Nat.ble q.2.1 st.length && Nat.ble ((st.drop q.2.1).map fun v => v.category).sum 8 then q.2.2 (st.take q.2.1).reverse σ (fun w σ' => k (pc + 3) lv (w.toList ++ st.drop q.2.1) σ') else False)
    | .invokevirtual i => op1 (CE.find? (fun q => q.1 == 2 * i + 1)) (fun q => bif Nat.ble q.2.1 st.length && Nat.ble ((st.drop q.2.1).map fun v => v.category).sum 8 then q.2.2 (st.take q.2.1).reverse σ (fun w σ' => k (pc + 3) lv (w.toList ++ st.drop q.2.1) σ') else False)
    | .ireturn => match st with
      | [.int x] => Q (some (.int x)) σ
      | _ => False
    | .lreturn => match st with
      | [.long x] => Q (some (.long x)) σ
      | _ => False
    | .dreturn => match st with
      | [.double x] => Q (some (.double x)) σ
      | _ => False
    | .return_ => match st with
      | [] => Q none σ
      | _ => False
    | _ => False
/-- the locals that live at a cut, in the order of the slots -/
def cn (sl : List Nat) (lv : LV) : LV := sl.filterMap (fun i => (lg lv i).map (fun v => (i, v)))
theorem cn_mem {sl : List Nat} {lv : LV} {q : Nat × Value} (h : q ∈ cn sl lv) : q ∈ lv := by
  obtain ⟨i, -, h2⟩ := List.mem_filterMap.mp h
  obtain ⟨v, h3, h4⟩ := Option.map_eq_some_iff.mp h2
  rw [← h4]; exact lg_mem h3
def isCut (cut : List (Nat × List Nat)) (b : Bool) (pc : Nat) : Option (Nat × List Nat) := bif b then cut.find? (fun q => q.1 == pc) else none
def seg (X : Nat × (Nat → Int32)) (P : List En) (CE : List (Nat × Nat × Tr)) (cut : List (Nat × List Nat)) (G : Nat → LV → List Value → aS → Prop) (Q : Option Value → aS → Prop) : Nat → Bool → Nat → LV → List Value → aS → Prop
  | 0, _, pc, lv, st, σ => G pc lv st σ
  | n + 1, b, pc, lv, st, σ => match isCut cut b pc with
    | some q => G pc (cn q.2 lv) st σ
    | none => op1 (P.find? (fun q => q.1 == pc)) (fun en => s1 X CE Q (fun pc lv st σ => seg X P CE cut G Q n true pc lv st σ) en lv st σ)
end
section
/-- what an entry of a program must be: the decoded instruction; its target, constant, field -/
def chk (cc : ByteArray) (nL : Nat) (own : String) (en : En) : Bool := match en with
  | (pc, ins, len, tgt, ci, v, wi) => decide (decode cc pc = .ok (ins, len)) && (match ins with
    | .iconst n => decide (v = .int (Int32.ofInt n)) && len == 1
    | .bipush n => decide (v = .int (Int8.ofInt n).toInt32) && len == 2
    | .sipush n => decide (v = .int (Int16.ofInt n).toInt32) && len == 3
    | .lconst n => decide (v = .long (Int64.ofNat n)) && len == 1
    | .dconst n => decide (v = .double (if n = 0 then FP.dconst0 else FP.dconst1)) && len == 1
    | .ldc2_w i => len == 3 && (match v with
      | .long x => decide (tables_1[wi]? = some (.constantLong own i x))
      | .double x => decide (tables_1[wi]? = some (.constantDouble own i x))
      | _ => false)
    | .ldc_w i => len == 3 && (match v with
      | .int x => decide (tables_1[wi]? = some (.constant own i x))
      | _ => false)
    | .ldc _ => false
    | .iload_n _ => len == 1
    | .lload_n _ => len == 1
    | .dload_n _ => len == 1
    | .aload_n _ => len == 1
    | .iload _ => len == 2
    | .lload _ => len == 2
    | .dload _ => len == 2
    | .aload _ => len == 2
    | .istore_n i => len == 1 && decide ((i : Nat) < nL)
    | .astore_n i => len == 1 && decide ((i : Nat) < nL)
    | .lstore_n i => len == 1 && decide ((i : Nat) + 1 < nL)
    | .dstore_n i => len == 1 && decide ((i : Nat) + 1 < nL)
    | .istore i => len == 2 && decide (i < nL)
    | .astore i => len == 2 && decide (i < nL)
    | .lstore i => len == 2 && decide (i + 1 < nL)
    | .dstore i => len == 2 && decide (i + 1 < nL)
    | .iinc i _ => len == 3 && decide (i < nL)
    | .ifCond _ off => len == 3 && decide ((pc : Int) + off = (tgt : Int))
    | .if_icmp _ off => len == 3 && decide ((pc : Int) + off = (tgt : Int))
    | .goto off => len == 3 && decide ((pc : Int) + off = (tgt : Int))
    | .tableswitch dflt lo hi offs => decide ((pc : Int) + dflt = (tgt : Int)) && decide (hi - lo + 1 = (offs.size : Int)) && decide (-2147483648 ≤ lo ∧ hi < 2147483648) && offs.toList.all (fun o => decide (0 ≤ (pc : Int) + o))
    | .getfield i => len == 3 && (match cl0[ci]? with
      | some q => decide (tgt < q.2.2) && decide (tables_1[wi]? = some (.fieldLink own i q.1 (q.2.1 tgt).2.1 (q.2.1 tgt).2.2.1)) && decide ((q.2.1 tgt).1 = q.1)
      | none => false)
    | .putfield i => len == 3 && (match cl0[ci]? with
      | some q => decide (tgt < q.2.2) && decide (tables_1[wi]? = some (.fieldLink own i q.1 (q.2.1 tgt).2.1 (q.2.1 tgt).2.2.1)) && decide ((q.2.1 tgt).1 = q.1) && (q.2.1 tgt).2.2.2 == false
      | none => false)
    | .invokestatic _ => len == 3
    | .invokevirtual _ => len == 3
    | _ => len == 1)
/-- the classes' own words are in the one list; their fields' types -/
def clI (q : vw_C) : Prop := (∀ w ∈ u_ws q.1 q.2.1 q.2.2, w ∈ lw_all) ∧ (∀ a, a < q.2.2 → ∀ b, b < q.2.2 → a ≠ b → (q.2.1 a).2.1 ≠ (q.2.1 b).2.1) ∧ ∀ k, k < q.2.2 → parseFieldDescriptor (q.2.1 k).2.2.1 = some ((parseFieldDescriptor (q.2.1 k).2.2.1).getD .int)
theorem in_all {ws : List Cond} (h : ws.all (fun w => decide (w ∈ tables_1) && goodWord w) = true) : ∀ w ∈ ws, w ∈ lw_all := by
  intro w hw
  have h1 := List.all_eq_true.mp h w hw
  rw [Bool.and_eq_true, decide_eq_true_eq] at h1
  exact List.mem_filter.mpr ⟨List.mem_append_right _ h1.1, h1.2⟩
theorem clI_0 : clI (RX0, TX0, 8) := ⟨in_all (by decide +kernel), nmX0, by decide +kernel⟩
theorem clI_1 : clI (RX2, TX2, 10) := ⟨in_all (by decide +kernel), nmX2, by decide +kernel⟩
theorem clI_2 : clI (RX3, TX3, 6) := ⟨in_all (by decide +kernel), nmX3, by decide +kernel⟩
theorem clI_3 : clI (RX4, TX4, 21) := ⟨in_all (by decide +kernel), nmX4, by decide +kernel⟩
theorem cl0_I {ci : Nat} {q : vw_C} (h : cl0[ci]? = some q) : clI q := by
  match ci, h with
  | 0, h => cases h; exact clI_0
  | 1, h => cases h; exact clI_1
  | 2, h => cases h; exact clI_2
  | 3, h => cases h; exact clI_3
  | k + 4, h => simp [cl0] at h
def isRet (ins : Instr) (v : Option Value) : Prop := match ins, v with
  | .ireturn, some (.int _) => True
  | .lreturn, some (.long _) => True
  | .dreturn, some (.double _) => True
  | .return_, none => True
  | _, _ => False
end
section
section
variable {p : Program} {l : Launch} {e : Env} {R : Room} {s : State} {m : MethodId} {args : Array Value} {below : List Frame} {meth : Method} {c : Code} {cells slots : Nat} {Z : State → Prop} {cc : ByteArray} {nL : Nat} {own : String} {D : va_G} {ρ : Nat → Nat} {τ : Nat → ClassId} {A : Nat → Prop} {H0 : Heap}
def Fx (p : Program) (m : MethodId) (c : Code) (cc : ByteArray) (nL : Nat) (s : State) (args : Array Value) (own : String) (D : va_G) (τ : Nat → ClassId) : Prop := p.tables.exec = Jvm.exec ∧ c.code = cc ∧ c.maxLocals = nL ∧ s.vm.findClass own = some m.cls ∧ (∀ w ∈ lw_all, w.before args s = true) ∧ va_K D cl0 (tyl τ) s
/-- from here the machine comes to Z -/
def Gd (p : Program) (l : Launch) (e : Env) (R : Room) (s : State) (m : MethodId) (args : Array Value) (below : List Frame) (meth : Method) (c : Code) (cells slots : Nat) (Z : State → Prop) (nL : Nat) (D : va_G) (ρ : Nat → Nat) (τ : Nat → ClassId) (A : Nat → Prop) (H0 : Heap) (pc : Nat) (lv : LV) (st : List Value) (σ : aS) : Prop := ∀ (H : Heap) (locs : List Loc) (ls : Array Slot), lv_has ls nL (lr ρ lv) → va_P D cl0 (wl ρ τ σ) H → va_D A (wl ρ τ σ) → va_S A H0 H locs → W p l e R s m args below meth c H locs cells slots Z (F0 m pc ls (st.map (rv ρ)))
/-- a call of this place of the pool does what its transformer says -/
def COK (p : Program) (l : Launch) (e : Env) (R : Room) (s : State) (m : MethodId) (args : Array Value) (below : List Frame) (meth : Method) (c : Code) (cells slots : Nat) (Z : State → Prop) (cc : ByteArray) (nL : Nat) (D : va_G) (ρ : Nat → Nat) (τ : Nat → ClassId) (A : Nat → Prop) (H0 : Heap) (q : Nat × Nat × Tr) : Prop := ∀ (ins : Instr) (pc : Nat) (as : List Value) (σ : aS) (kk : Option Value → aS → Prop) (lv : LV) (rest : List Value), (∃ i, (ins = .invokestatic i ∧ q.1 = 2 * i) ∨ (ins = .invokevirtual i ∧ q.1 = 2 * i + 1)) → decode cc pc = .ok (ins, 3) → as.length = q.2.1 → q.2.2 as σ kk → (rest.map fun v => v.category).sum ≤ 8 → (∀ v σ', kk v σ' → Gd p l e R s m args below meth c cells slots Z nL D ρ τ A H0 (pc + 3) lv (v.toList ++ rest) σ') → Gd p l e R s m args below meth c cells slots Z nL D ρ τ A H0 pc lv (as.reverse ++ rest) σ
def ROK (p : Program) (l : Launch) (e : Env) (R : Room) (s : State) (m : MethodId) (args : Array Value) (below : List Frame) (meth : Method) (c : Code) (cells slots : Nat) (Z : State → Prop) (cc : ByteArray) (nL : Nat) (D : va_G) (ρ : Nat → Nat) (τ : Nat → ClassId) (A : Nat → Prop) (H0 : Heap) (Q : Option Value → aS → Prop) : Prop := ∀ (ins : Instr) (pc : Nat) (v : Option Value) (σ : aS) (lv : LV), isRet ins v → decode cc pc = .ok (ins, 1) → Q v σ → Gd p l e R s m args below meth c cells slots Z nL D ρ τ A H0 pc lv v.toList σ
/-- the law's own script, at the place 999 -/
def XOK (ρ : Nat → Nat) (A : Nat → Prop) (H0 : Heap) (s : State) (X : Nat × (Nat → Int32)) : Prop := X.1 = 0 ∨ (H0 = s.heap ∧ va_X (ρ 999) (X.1 - 1) X.2 s s.heap ∧ ρ 999 < s.heap.size ∧ ¬ A (ρ 999))
theorem tsw_of {f : Nat → Prop} {pc : Nat} {x : Int32} : ∀ {offs : List Int} {lo : Int} (_ : tsw f pc x lo offs) (j : Nat) (o : Int), offs[j]? = some o → x = Int32.ofInt (lo + j) → f ((pc : Int) + o).toNat
  | [], _, _, j, o, h1, _ => by simp at h1
  | a :: r, lo, h, 0, o, h1, h2 => by
    simp at h1; subst h1
    exact h.1 (by simpa using h2)
  | a :: r, lo, h, j + 1, o, h1, h2 => by
    refine tsw_of h.2 j o (by simpa using h1) ?_
    rw [h2]; congr 1; push_cast; omega
set_option maxHeartbeats 4000000 in
set_option maxRecDepth 20000 in
theorem s1_sound {X : Nat × (Nat → Int32)} (hX : XOK ρ A H0 s X) (F : Fx p m c cc nL s args own D τ) {CE : List (Nat × Nat × Tr)} (hCE : ∀ q ∈ CE, COK p l e R s m args below meth c cells slots Z cc nL D ρ τ A H0 q) {Q : Option Value → aS → Prop} (hQ : ROK p l e R s m args below meth c cells slots Z cc nL D ρ τ A H0 Q) {k : Nat → LV → List Value → aS → Prop} (hk : ∀ pc lv st σ, k pc lv st σ → Gd p l e R s m args below meth c cells slots Z nL D ρ τ A H0 pc lv st σ) {en : En} (hchk : chk cc nL own en = true) {lv : LV} {st : List Value} {σ : aS} (h : s1 X CE Q k en lv st σ) : Gd p l e R s m args below meth c cells slots Z nL D ρ τ A H0 en.1 lv st σ := by
  obtain ⟨pc, ins, len, tgt, ci, v, wi⟩ := en
  obtain ⟨hx, hb, hml, hown, hts, hK⟩ := F
  have hb0 := hb
  unfold chk at hchk
  rw [Bool.and_eq_true] at hchk
  obtain ⟨hdg0, hc⟩ := hchk
  have hdg := of_decide_eq_true hdg0
  clear hdg0
  show Gd p l e R s m args below meth c cells slots Z nL D ρ τ A H0 pc lv st σ
  cases ins
  case iconst n =>
    rw [Bool.and_eq_true] at hc
    obtain ⟨hv, hlen⟩ := hc
    have hlen : len = 1 := eq_of_beq hlen
    subst hlen
    have hv := of_decide_eq_true hv
    subst hv
    intro H locs ls hl hP hD hS
    exact lv_iconst hx hb hdg rfl (hk _ _ _ _ h H locs ls hl hP hD hS)
  case bipush n =>
    rw [Bool.and_eq_true] at hc
    obtain ⟨hv, hlen⟩ := hc
    have hlen : len = 2 := eq_of_beq hlen
    subst hlen
    have hv := of_decide_eq_true hv
    subst hv
    intro H locs ls hl hP hD hS
    exact lv_bipush hx hb hdg rfl (hk _ _ _ _ h H locs ls hl hP hD hS)
  case sipush n =>
    rw [Bool.and_eq_true] at hc
    obtain ⟨hv, hlen⟩ := hc
    have hlen : len = 3 := eq_of_beq hlen
    subst hlen
    have hv := of_decide_eq_true hv
    subst hv
    intro H locs ls hl hP hD hS
    exact lv_sipush hx hb hdg rfl (hk _ _ _ _ h H locs ls hl hP hD hS)
  case lconst n =>
    rw [Bool.and_eq_true] at hc
    obtain ⟨hv, hlen⟩ := hc
    have hlen : len = 1 := eq_of_beq hlen
    subst hlen
    have hv := of_decide_eq_true hv
    subst hv
    intro H locs ls hl hP hD hS
    exact lv_lconst hx hb hdg rfl (hk _ _ _ _ h H locs ls hl hP hD hS)
  case dconst n =>
    rw [Bool.and_eq_true] at hc
    obtain ⟨hv, hlen⟩ := hc
    have hlen : len = 1 := eq_of_beq hlen
    subst hlen
    have hv := of_decide_eq_true hv
    subst hv
    intro H locs ls hl hP hD hS
    match n, hdg, h with
    | 0, hdg, h => exact lv_dconst0 hx hb hdg (hk _ _ _ _ h H locs ls hl hP hD hS)
    | 1, hdg, h => exact lv_dconst1 hx hb hdg (hk _ _ _ _ h H locs ls hl hP hD hS)
  case ldc2_w i =>
    rw [Bool.and_eq_true] at hc
    obtain ⟨hlen, hv⟩ := hc
    have hlen : len = 3 := eq_of_beq hlen
    subst hlen
    cases v with
    | long x => exact fun H locs ls hl hP hD hS => lv_ldc2 hx hb hown (hts _ (mw wi (of_decide_eq_true hv) rfl)) hdg (hk _ _ _ _ h H locs ls hl hP hD hS)
    | double x => exact fun H locs ls hl hP hD hS => lv_ldc2d hx hb hown (hts _ (mw wi (of_decide_eq_true hv) rfl)) hdg (hk _ _ _ _ h H locs ls hl hP hD hS)
    | _ => exact absurd hv (by simp)
  case ldc_w i =>
    rw [Bool.and_eq_true] at hc
    obtain ⟨hlen, hv⟩ := hc
    have hlen : len = 3 := eq_of_beq hlen
    subst hlen
    cases v with
    | int x => exact fun H locs ls hl hP hD hS => lv_ldcw hx hb hown (hts _ (mw wi (of_decide_eq_true hv) rfl)) hdg (hk _ _ _ _ h H locs ls hl hP hD hS)
    | _ => exact absurd hv (by simp)
  case ldc i =>
    exact absurd hc (by simp)
  case iload_n i =>
    have hlen : len = 1 := eq_of_beq hc
    subst hlen
    obtain ⟨x, hm, h⟩ := lgi_of h
    intro H locs ls hl hP hD hS
    exact lv_iload_n hx hb hdg rfl (lr_at hl hm) (hk _ _ _ _ h H locs ls hl hP hD hS)
  case iload i =>
    have hlen : len = 2 := eq_of_beq hc
    subst hlen
    obtain ⟨x, hm, h⟩ := lgi_of h
    intro H locs ls hl hP hD hS
    exact lv_iload hx hb hdg (lr_at hl hm) (hk _ _ _ _ h H locs ls hl hP hD hS)
  case lload_n i =>
    have hlen : len = 1 := eq_of_beq hc
    subst hlen
    obtain ⟨x, hm, h⟩ := lgl_of h
    intro H locs ls hl hP hD hS
    exact lv_lload_n hx hb hdg rfl (lr_at hl hm) (hk _ _ _ _ h H locs ls hl hP hD hS)
  case lload i =>
    have hlen : len = 2 := eq_of_beq hc
    subst hlen
    obtain ⟨x, hm, h⟩ := lgl_of h
    intro H locs ls hl hP hD hS
    exact lv_lload hx hb hdg (lr_at hl hm) (hk _ _ _ _ h H locs ls hl hP hD hS)
  case dload_n i =>
    have hlen : len = 1 := eq_of_beq hc
    subst hlen
    obtain ⟨x, hm, h⟩ := lgd_of h
    intro H locs ls hl hP hD hS
    exact lv_dload_n hx hb hdg rfl (lr_at hl hm) (hk _ _ _ _ h H locs ls hl hP hD hS)
  case dload i =>
    have hlen : len = 2 := eq_of_beq hc
    subst hlen
    obtain ⟨x, hm, h⟩ := lgd_of h
    intro H locs ls hl hP hD hS
    exact lv_dload hx hb hdg (lr_at hl hm) (hk _ _ _ _ h H locs ls hl hP hD hS)
  case aload_n i =>
    have hlen : len = 1 := eq_of_beq hc
    subst hlen
    obtain ⟨x, hm, h⟩ := lga_of h
    intro H locs ls hl hP hD hS
    exact lv_aload_n hx hb hdg rfl (lr_at hl hm) (hk _ _ _ _ h H locs ls hl hP hD hS)
  case aload i =>
    have hlen : len = 2 := eq_of_beq hc
    subst hlen
    obtain ⟨x, hm, h⟩ := lga_of h
    intro H locs ls hl hP hD hS
    exact lv_aload hx hb hdg (lr_at hl hm) (hk _ _ _ _ h H locs ls hl hP hD hS)
  case istore_n i =>
    rw [Bool.and_eq_true] at hc
    obtain ⟨hlen, hi⟩ := hc
    have hlen : len = 1 := eq_of_beq hlen
    subst hlen
    have hi := of_decide_eq_true hi
    obtain ⟨x, r, rfl, h⟩ := s1i_of h
    intro H locs ls hl hP hD hS
    exact lv_istore_n hx hb hdg rfl hl hi (lr_sp1 ρ lv _ (.int x)) (fun ls hl => (hk _ _ _ _ h H locs ls hl hP hD hS))
  case istore i =>
    rw [Bool.and_eq_true] at hc
    obtain ⟨hlen, hi⟩ := hc
    have hlen : len = 2 := eq_of_beq hlen
    subst hlen
    have hi := of_decide_eq_true hi
    obtain ⟨x, r, rfl, h⟩ := s1i_of h
    intro H locs ls hl hP hD hS
    exact lv_istore hx hb hdg hl hi (lr_sp1 ρ lv _ (.int x)) (fun ls hl => (hk _ _ _ _ h H locs ls hl hP hD hS))
  case astore_n i =>
    rw [Bool.and_eq_true] at hc
    obtain ⟨hlen, hi⟩ := hc
    have hlen : len = 1 := eq_of_beq hlen
    subst hlen
    have hi := of_decide_eq_true hi
    obtain ⟨x, r, rfl, h⟩ := s1r_of h
    intro H locs ls hl hP hD hS
    exact lv_astore_n hx hb hdg rfl hl hi (lr_sp1 ρ lv _ (.ref x)) (fun ls hl => (hk _ _ _ _ h H locs ls hl hP hD hS))
  case astore i =>
    rw [Bool.and_eq_true] at hc
    obtain ⟨hlen, hi⟩ := hc
    have hlen : len = 2 := eq_of_beq hlen
    subst hlen
    have hi := of_decide_eq_true hi
    obtain ⟨x, r, rfl, h⟩ := s1r_of h
    intro H locs ls hl hP hD hS
    exact lv_astore hx hb hdg hl hi (lr_sp1 ρ lv _ (.ref x)) (fun ls hl => (hk _ _ _ _ h H locs ls hl hP hD hS))
  case lstore_n i =>
    rw [Bool.and_eq_true] at hc
    obtain ⟨hlen, hi⟩ := hc
    have hlen : len = 1 := eq_of_beq hlen
    subst hlen
    have hi := of_decide_eq_true hi
    obtain ⟨x, r, rfl, h⟩ := s1l_of h
    intro H locs ls hl hP hD hS
    exact lv_lstore_n hx hb hdg rfl hl hi (lr_sp2 ρ lv _ (.long x)) (fun ls hl => (hk _ _ _ _ h H locs ls hl hP hD hS))
  case lstore i =>
    rw [Bool.and_eq_true] at hc
    obtain ⟨hlen, hi⟩ := hc
    have hlen : len = 2 := eq_of_beq hlen
    subst hlen
    have hi := of_decide_eq_true hi
    obtain ⟨x, r, rfl, h⟩ := s1l_of h
    intro H locs ls hl hP hD hS
    exact lv_lstore hx hb hdg hl hi (lr_sp2 ρ lv _ (.long x)) (fun ls hl => (hk _ _ _ _ h H locs ls hl hP hD hS))
  case dstore_n i =>
    rw [Bool.and_eq_true] at hc
    obtain ⟨hlen, hi⟩ := hc
    have hlen : len = 1 := eq_of_beq hlen
    subst hlen
    have hi := of_decide_eq_true hi
    obtain ⟨x, r, rfl, h⟩ := s1d_of h
    intro H locs ls hl hP hD hS
    exact lv_dstore_n hx hb hdg rfl hl hi (lr_sp2 ρ lv _ (.double x)) (fun ls hl => (hk _ _ _ _ h H locs ls hl hP hD hS))
  case dstore i =>
    rw [Bool.and_eq_true] at hc
    obtain ⟨hlen, hi⟩ := hc
    have hlen : len = 2 := eq_of_beq hlen
    subst hlen
    have hi := of_decide_eq_true hi
    obtain ⟨x, r, rfl, h⟩ := s1d_of h
    intro H locs ls hl hP hD hS
    exact lv_dstore hx hb hdg hl hi (lr_sp2 ρ lv _ (.double x)) (fun ls hl => (hk _ _ _ _ h H locs ls hl hP hD hS))
  case iinc i n =>
    rw [Bool.and_eq_true] at hc
    obtain ⟨hlen, hi⟩ := hc
    have hlen : len = 3 := eq_of_beq hlen
    subst hlen
    have hi := of_decide_eq_true hi
    obtain ⟨x, hm, h⟩ := lgi_of h
    intro H locs ls hl hP hD hS
    obtain ⟨j, hj⟩ := List.getElem?_of_mem (List.mem_map.mpr ⟨(i, .int x), hm, rfl⟩ : (i, Value.int x) ∈ lr ρ lv)
    exact lv_iinc hx hb hdg hl (k := j) hj rfl hi (lr_sp1 ρ lv _ (.int _)) (fun ls hl => (hk _ _ _ _ h H locs ls hl hP hD hS))
  case iadd =>
    have hlen : len = 1 := eq_of_beq hc
    subst hlen
    obtain ⟨x, y, r, rfl, h⟩ := s2i_of h
    intro H locs ls hl hP hD hS
    exact lv_iadd hx hb hdg (hk _ _ _ _ h H locs ls hl hP hD hS)
  case isub =>
    have hlen : len = 1 := eq_of_beq hc
    subst hlen
    obtain ⟨x, y, r, rfl, h⟩ := s2i_of h
    intro H locs ls hl hP hD hS
    exact lv_isub hx hb hdg (hk _ _ _ _ h H locs ls hl hP hD hS)
  case imul =>
    have hlen : len = 1 := eq_of_beq hc
    subst hlen
    obtain ⟨x, y, r, rfl, h⟩ := s2i_of h
    intro H locs ls hl hP hD hS
    exact lv_imul hx hb hdg (hk _ _ _ _ h H locs ls hl hP hD hS)
  case iand =>
    have hlen : len = 1 := eq_of_beq hc
    subst hlen
    obtain ⟨x, y, r, rfl, h⟩ := s2i_of h
    intro H locs ls hl hP hD hS
    exact lv_iand hx hb hdg (hk _ _ _ _ h H locs ls hl hP hD hS)
  case ior =>
    have hlen : len = 1 := eq_of_beq hc
    subst hlen
    obtain ⟨x, y, r, rfl, h⟩ := s2i_of h
    intro H locs ls hl hP hD hS
    exact lv_ior hx hb hdg (hk _ _ _ _ h H locs ls hl hP hD hS)
  case ishl =>
    have hlen : len = 1 := eq_of_beq hc
    subst hlen
    obtain ⟨x, y, r, rfl, h⟩ := s2i_of h
    intro H locs ls hl hP hD hS
    exact lv_ishl hx hb hdg (hk _ _ _ _ h H locs ls hl hP hD hS)
  case ishr =>
    have hlen : len = 1 := eq_of_beq hc
    subst hlen
    obtain ⟨x, y, r, rfl, h⟩ := s2i_of h
    intro H locs ls hl hP hD hS
    exact lv_ishr hx hb hdg (hk _ _ _ _ h H locs ls hl hP hD hS)
  case iushr =>
    have hlen : len = 1 := eq_of_beq hc
    subst hlen
    obtain ⟨x, y, r, rfl, h⟩ := s2i_of h
    intro H locs ls hl hP hD hS
    exact lv_iushr hx hb hdg rfl (hk _ _ _ _ h H locs ls hl hP hD hS)
  case idiv =>
    have hlen : len = 1 := eq_of_beq hc
    subst hlen
    obtain ⟨x, y, r, rfl, hne, h⟩ := s2i_of h
    intro H locs ls hl hP hD hS
    exact lv_idiv hx hb hdg hne (hk _ _ _ _ h H locs ls hl hP hD hS)
  case ineg =>
    have hlen : len = 1 := eq_of_beq hc
    subst hlen
    obtain ⟨x, r, rfl, h⟩ := s1i_of h
    intro H locs ls hl hP hD hS
    exact lv_ineg hx hb hdg (hk _ _ _ _ h H locs ls hl hP hD hS)
  case ladd =>
    have hlen : len = 1 := eq_of_beq hc
    subst hlen
    obtain ⟨x, y, r, rfl, h⟩ := s2l_of h
    intro H locs ls hl hP hD hS
    exact lv_ladd hx hb hdg (hk _ _ _ _ h H locs ls hl hP hD hS)
  case lsub =>
    have hlen : len = 1 := eq_of_beq hc
    subst hlen
    obtain ⟨x, y, r, rfl, h⟩ := s2l_of h
    intro H locs ls hl hP hD hS
    exact lv_lsub hx hb hdg (hk _ _ _ _ h H locs ls hl hP hD hS)
  case lmul =>
    have hlen : len = 1 := eq_of_beq hc
    subst hlen
    obtain ⟨x, y, r, rfl, h⟩ := s2l_of h
    intro H locs ls hl hP hD hS
    exact lv_lmul hx hb hdg (hk _ _ _ _ h H locs ls hl hP hD hS)
  case land =>
    have hlen : len = 1 := eq_of_beq hc
    subst hlen
    obtain ⟨x, y, r, rfl, h⟩ := s2l_of h
    intro H locs ls hl hP hD hS
    exact lv_land hx hb hdg (hk _ _ _ _ h H locs ls hl hP hD hS)
  case lor =>
    have hlen : len = 1 := eq_of_beq hc
    subst hlen
    obtain ⟨x, y, r, rfl, h⟩ := s2l_of h
    intro H locs ls hl hP hD hS
    exact lv_lor hx hb hdg (hk _ _ _ _ h H locs ls hl hP hD hS)
  case lxor =>
    have hlen : len = 1 := eq_of_beq hc
    subst hlen
    obtain ⟨x, y, r, rfl, h⟩ := s2l_of h
    intro H locs ls hl hP hD hS
    exact lv_lxor hx hb hdg (hk _ _ _ _ h H locs ls hl hP hD hS)
  case ldiv =>
    have hlen : len = 1 := eq_of_beq hc
    subst hlen
    obtain ⟨x, y, r, rfl, hne, h⟩ := s2l_of h
    intro H locs ls hl hP hD hS
    exact lv_ldiv hx hb hdg hne (hk _ _ _ _ h H locs ls hl hP hD hS)
  case lrem =>
    have hlen : len = 1 := eq_of_beq hc
    subst hlen
    obtain ⟨x, y, r, rfl, hne, h⟩ := s2l_of h
    intro H locs ls hl hP hD hS
    exact lv_lrem hx hb hdg hne (hk _ _ _ _ h H locs ls hl hP hD hS)
  case lshl =>
    have hlen : len = 1 := eq_of_beq hc
    subst hlen
    obtain ⟨x, y, r, rfl, h⟩ := sli_of h
    intro H locs ls hl hP hD hS
    exact lv_lshl hx hb hdg rfl (hk _ _ _ _ h H locs ls hl hP hD hS)
  case lshr =>
    have hlen : len = 1 := eq_of_beq hc
    subst hlen
    obtain ⟨x, y, r, rfl, h⟩ := sli_of h
    intro H locs ls hl hP hD hS
    exact lv_lshr hx hb hdg rfl (hk _ _ _ _ h H locs ls hl hP hD hS)
  case lushr =>
    have hlen : len = 1 := eq_of_beq hc
    subst hlen
    obtain ⟨x, y, r, rfl, h⟩ := sli_of h
    intro H locs ls hl hP hD hS
    exact lv_lushr hx hb hdg rfl (hk _ _ _ _ h H locs ls hl hP hD hS)
  case lcmp =>
    have hlen : len = 1 := eq_of_beq hc
    subst hlen
    obtain ⟨x, y, r, rfl, h⟩ := s2l_of h
    intro H locs ls hl hP hD hS
    exact W.lcmp hx hb hdg (hk _ _ _ _ h H locs ls hl hP hD hS)
  case i2l =>
    have hlen : len = 1 := eq_of_beq hc
    subst hlen
    obtain ⟨x, r, rfl, h⟩ := s1i_of h
    intro H locs ls hl hP hD hS
    exact lv_i2l hx hb hdg rfl (hk _ _ _ _ h H locs ls hl hP hD hS)
  case l2i =>
    have hlen : len = 1 := eq_of_beq hc
    subst hlen
    obtain ⟨x, r, rfl, h⟩ := s1l_of h
    intro H locs ls hl hP hD hS
    exact lv_l2i hx hb hdg rfl (hk _ _ _ _ h H locs ls hl hP hD hS)
  case i2d =>
    have hlen : len = 1 := eq_of_beq hc
    subst hlen
    obtain ⟨x, r, rfl, h⟩ := s1i_of h
    intro H locs ls hl hP hD hS
    exact lv_i2d hx hb hdg (hk _ _ _ _ h H locs ls hl hP hD hS)
  case l2d =>
    have hlen : len = 1 := eq_of_beq hc
    subst hlen
    obtain ⟨x, r, rfl, h⟩ := s1l_of h
    intro H locs ls hl hP hD hS
    exact lv_l2d hx hb hdg (hk _ _ _ _ h H locs ls hl hP hD hS)
  case d2i =>
    have hlen : len = 1 := eq_of_beq hc
    subst hlen
    obtain ⟨x, r, rfl, h⟩ := s1d_of h
    intro H locs ls hl hP hD hS
    exact lv_d2i hx hb hdg (hk _ _ _ _ h H locs ls hl hP hD hS)
  case d2l =>
    have hlen : len = 1 := eq_of_beq hc
    subst hlen
    obtain ⟨x, r, rfl, h⟩ := s1d_of h
    intro H locs ls hl hP hD hS
    exact lv_d2l hx hb hdg (hk _ _ _ _ h H locs ls hl hP hD hS)
  case dneg =>
    have hlen : len = 1 := eq_of_beq hc
    subst hlen
    obtain ⟨x, r, rfl, h⟩ := s1d_of h
    intro H locs ls hl hP hD hS
    exact lv_dneg hx hb hdg (hk _ _ _ _ h H locs ls hl hP hD hS)
  case d2f =>
    have hlen : len = 1 := eq_of_beq hc
    subst hlen
    obtain ⟨x, r, rfl, hne, h⟩ := s1d_of h
    intro H locs ls hl hP hD hS
    exact lv_d2f hx hb hdg hne (hk _ _ _ _ h H locs ls hl hP hD hS)
  case f2d =>
    have hlen : len = 1 := eq_of_beq hc
    subst hlen
    obtain ⟨x, r, rfl, hne, h⟩ := s1f_of h
    intro H locs ls hl hP hD hS
    exact lv_f2d hx hb hdg hne (hk _ _ _ _ h H locs ls hl hP hD hS)
  case dadd =>
    have hlen : len = 1 := eq_of_beq hc
    subst hlen
    obtain ⟨x, y, r, rfl, hne, h⟩ := s2d_of h
    intro H locs ls hl hP hD hS
    exact lv_dadd hx hb hdg hne (hk _ _ _ _ h H locs ls hl hP hD hS)
  case dsub =>
    have hlen : len = 1 := eq_of_beq hc
    subst hlen
    obtain ⟨x, y, r, rfl, hne, h⟩ := s2d_of h
    intro H locs ls hl hP hD hS
    exact lv_dsub hx hb hdg hne (hk _ _ _ _ h H locs ls hl hP hD hS)
  case dmul =>
    have hlen : len = 1 := eq_of_beq hc
    subst hlen
    obtain ⟨x, y, r, rfl, hne, h⟩ := s2d_of h
    intro H locs ls hl hP hD hS
    exact lv_dmul hx hb hdg hne (hk _ _ _ _ h H locs ls hl hP hD hS)
  case ddiv =>
    have hlen : len = 1 := eq_of_beq hc
    subst hlen
    obtain ⟨x, y, r, rfl, hne, h⟩ := s2d_of h
    intro H locs ls hl hP hD hS
    exact lv_ddiv hx hb hdg hne (hk _ _ _ _ h H locs ls hl hP hD hS)
  case dcmp op =>
    have hlen : len = 1 := eq_of_beq hc
    subst hlen
    obtain ⟨x, y, r, rfl, h⟩ := s2d_of h
    intro H locs ls hl hP hD hS
    exact lv_dcmp hx hb hdg (hk _ _ _ _ h H locs ls hl hP hD hS)
  case ifCond cd off =>
    rw [Bool.and_eq_true] at hc
    obtain ⟨hlen, ht⟩ := hc
    have hlen : len = 3 := eq_of_beq hlen
    subst hlen
    have ht := of_decide_eq_true ht
    obtain ⟨x, r, rfl, h1, h2⟩ := s1i_of h
    intro H locs ls hl hP hD hS
    cases cd with
    | eq => exact lv_if_eq hx hb hdg ht (fun q => hk _ _ _ _ (h1 q) H locs ls hl hP hD hS) (fun q => hk _ _ _ _ (h2 q) H locs ls hl hP hD hS)
    | ne => exact lv_if_ne hx hb hdg ht (fun q => hk _ _ _ _ (h1 q) H locs ls hl hP hD hS) (fun q => hk _ _ _ _ (h2 (fun z => z q)) H locs ls hl hP hD hS)
    | lt => exact lv_if_lt hx hb hdg ht (fun q => hk _ _ _ _ (h1 q) H locs ls hl hP hD hS) (fun q => hk _ _ _ _ (h2 q) H locs ls hl hP hD hS)
    | ge => exact lv_if_ge hx hb hdg ht (fun q => hk _ _ _ _ (h1 q) H locs ls hl hP hD hS) (fun q => hk _ _ _ _ (h2 q) H locs ls hl hP hD hS)
    | gt => exact lv_if_gt hx hb hdg ht (fun q => hk _ _ _ _ (h1 q) H locs ls hl hP hD hS) (fun q => hk _ _ _ _ (h2 q) H locs ls hl hP hD hS)
    | le => exact lv_if_le hx hb hdg ht (fun q => hk _ _ _ _ (h1 q) H locs ls hl hP hD hS) (fun q => hk _ _ _ _ (h2 q) H locs ls hl hP hD hS)
  case if_icmp cd off =>
    rw [Bool.and_eq_true] at hc
    obtain ⟨hlen, ht⟩ := hc
    have hlen : len = 3 := eq_of_beq hlen
    subst hlen
    have ht := of_decide_eq_true ht
    obtain ⟨x, y, r, rfl, h1, h2⟩ := s2i_of h
    intro H locs ls hl hP hD hS
    cases cd with
    | eq => exact lv_icmp_eq hx hb hdg ht (fun q => hk _ _ _ _ (h1 q) H locs ls hl hP hD hS) (fun q => hk _ _ _ _ (h2 q) H locs ls hl hP hD hS)
    | ne => exact lv_icmp_ne hx hb hdg ht (fun q => hk _ _ _ _ (h1 q) H locs ls hl hP hD hS) (fun q => hk _ _ _ _ (h2 (fun z => z q)) H locs ls hl hP hD hS)
    | lt => exact lv_icmp_lt hx hb hdg ht (fun q => hk _ _ _ _ (h1 q) H locs ls hl hP hD hS) (fun q => hk _ _ _ _ (h2 q) H locs ls hl hP hD hS)
    | ge => exact lv_icmp_ge hx hb hdg ht (fun q => hk _ _ _ _ (h1 q) H locs ls hl hP hD hS) (fun q => hk _ _ _ _ (h2 q) H locs ls hl hP hD hS)
    | gt => exact lv_icmp_gt hx hb hdg ht (fun q => hk _ _ _ _ (h1 q) H locs ls hl hP hD hS) (fun q => hk _ _ _ _ (h2 q) H locs ls hl hP hD hS)
    | le => exact lv_icmp_le hx hb hdg ht (fun q => hk _ _ _ _ (h1 q) H locs ls hl hP hD hS) (fun q => hk _ _ _ _ (h2 q) H locs ls hl hP hD hS)
  case goto off =>
    rw [Bool.and_eq_true] at hc
    obtain ⟨hlen, ht⟩ := hc
    have hlen : len = 3 := eq_of_beq hlen
    subst hlen
    have ht := of_decide_eq_true ht
    intro H locs ls hl hP hD hS
    exact lv_goto hx hb hdg ht (hk _ _ _ _ h H locs ls hl hP hD hS)
  case tableswitch dflt lo hi offs =>
    simp only [Bool.and_eq_true, decide_eq_true_eq] at hc
    obtain ⟨⟨⟨ht, hsz⟩, hr1, hr2⟩, hpos⟩ := hc
    obtain ⟨x, r, rfl, h1, h2⟩ := s1i_of h
    intro H locs ls hl hP hD hS
    by_cases hin : x.toInt < lo ∨ hi < x.toInt
    · exact lv_tableOut hx hb hdg hin ht (hk _ _ _ _ (h1 hin) H locs ls hl hP hD hS)
    · have q1 : ¬ x.toInt < lo := fun z => hin (Or.inl z)
      have q2 : ¬ hi < x.toInt := fun z => hin (Or.inr z)
      have hj : (x.toInt - lo).toNat < offs.size := by omega
      have ho : offs[(x.toInt - lo).toNat]? = some (offs[(x.toInt - lo).toNat]) := Array.getElem?_eq_getElem hj
      have hox : x = Int32.ofInt (lo + ((x.toInt - lo).toNat : Int)) := by
        rw [Int.toNat_of_nonneg (by omega), show lo + (x.toInt - lo) = x.toInt by omega]; exact (Int32.ofInt_toInt x).symm
      have hp := of_decide_eq_true (List.all_eq_true.mp hpos (offs[(x.toInt - lo).toNat]) (by rw [Array.mem_toList_iff]; exact Array.getElem_mem hj))
      exact lv_tableIn hx hb hdg q1 q2 ho (Int.toNat_of_nonneg hp).symm (hk _ _ _ _ (tsw_of h2 _ _ (by rw [Array.getElem?_toList]; exact ho) hox) H locs ls hl hP hD hS)
  case iaload =>
    have hlen : len = 1 := eq_of_beq hc
    subst hlen
    obtain ⟨a, i, r, rfl, h8⟩ := sri_of h
    intro H locs ls hl hP hD hS
    by_cases ha : (a == 999) = true
    · rw [ha] at h8
      have ha := eq_of_beq ha
      subst ha
      obtain ⟨hn, hin, h9⟩ := h8
      rcases hX with h0 | ⟨e0, h1, h2, h3⟩
      · exact absurd h0 hn
      · subst e0; exact va_sld hx hb h1 h2 h3 hS hin hdg (hk _ _ _ _ h9 H locs ls hl hP hD hS)
    · rw [Bool.not_eq_true] at ha
      rw [ha] at h8
      obtain ⟨n, g, hg, hin, h9⟩ := ai_of h8
      exact va_iald hx hb hK hP a 0 (wl_get ρ τ σ hg) rfl hin hdg (hk _ _ _ _ h9 H locs ls hl hP hD hS)
  case arraylength =>
    have hlen : len = 1 := eq_of_beq hc
    subst hlen
    obtain ⟨a, r, rfl, h8⟩ := s1r_of h
    intro H locs ls hl hP hD hS
    obtain ⟨ha, hn, h9⟩ := bif_of h8
    have ha := eq_of_beq ha
    subst ha
    rcases hX with h0 | ⟨e0, h1, h2, h3⟩
    · exact absurd h0 hn
    · subst e0; exact va_slen hx hb h1 h2 h3 hS hdg (hk _ _ _ _ h9 H locs ls hl hP hD hS)
  case baload =>
    have hlen : len = 1 := eq_of_beq hc
    subst hlen
    obtain ⟨a, i, r, rfl, h⟩ := sri_of h
    obtain ⟨n, g, hg, hin, h⟩ := ai_of h
    intro H locs ls hl hP hD hS
    exact va_zald hx hb hK hP a 3 (wl_get ρ τ σ hg) rfl hin hdg (hk _ _ _ _ h H locs ls hl hP hD hS)
  case laload =>
    have hlen : len = 1 := eq_of_beq hc
    subst hlen
    obtain ⟨a, i, r, rfl, h⟩ := sri_of h
    obtain ⟨n, g, hg, hin, h⟩ := al_of h
    intro H locs ls hl hP hD hS
    exact va_lald hx hb hK hP a 1 (wl_get ρ τ σ hg) rfl hin hdg (hk _ _ _ _ h H locs ls hl hP hD hS)
  case daload =>
    have hlen : len = 1 := eq_of_beq hc
    subst hlen
    obtain ⟨a, i, r, rfl, h⟩ := sri_of h
    obtain ⟨n, g, hg, hin, h⟩ := ad_of h
    intro H locs ls hl hP hD hS
    exact va_dald hx hb hK hP a 2 (wl_get ρ τ σ hg) rfl hin hdg (hk _ _ _ _ h H locs ls hl hP hD hS)
  case iastore =>
    have hlen : len = 1 := eq_of_beq hc
    subst hlen
    obtain ⟨a, i, x, r, rfl, h⟩ := srii_of h
    obtain ⟨n, g, hg, hin, h⟩ := ai_of h
    intro H locs ls hl hP hD hS
    refine va_iast hx hb hK hP hD hS a 0 (wl_get ρ τ σ hg) rfl hin hdg (fun H locs hP hD hS => ?_)
    have e := wl_set ρ τ σ a
    exact hk _ _ _ _ h H locs ls hl ((e _) ▸ hP) ((e _) ▸ hD) hS
  case bastore =>
    have hlen : len = 1 := eq_of_beq hc
    subst hlen
    obtain ⟨a, i, x, r, rfl, h⟩ := srii_of h
    obtain ⟨n, g, hg, hin, h⟩ := ai_of h
    intro H locs ls hl hP hD hS
    refine va_zast hx hb hK hP hD hS a 3 (wl_get ρ τ σ hg) rfl hin hdg (fun H locs hP hD hS => ?_)
    have e := wl_set ρ τ σ a
    exact hk _ _ _ _ h H locs ls hl ((e _) ▸ hP) ((e _) ▸ hD) hS
  case lastore =>
    have hlen : len = 1 := eq_of_beq hc
    subst hlen
    obtain ⟨a, i, x, r, rfl, h⟩ := sril_of h
    obtain ⟨n, g, hg, hin, h⟩ := al_of h
    intro H locs ls hl hP hD hS
    refine va_last hx hb hK hP hD hS a 1 (wl_get ρ τ σ hg) rfl hin hdg (fun H locs hP hD hS => ?_)
    have e := wl_set ρ τ σ a
    exact hk _ _ _ _ h H locs ls hl ((e _) ▸ hP) ((e _) ▸ hD) hS
  case dastore =>
    have hlen : len = 1 := eq_of_beq hc
    subst hlen
    obtain ⟨a, i, x, r, rfl, h⟩ := srid_of h
    obtain ⟨n, g, hg, hin, h⟩ := ad_of h
    intro H locs ls hl hP hD hS
    refine va_dast hx hb hK hP hD hS a 2 (wl_get ρ τ σ hg) rfl hin hdg (fun H locs hP hD hS => ?_)
    have e := wl_set ρ τ σ a
    exact hk _ _ _ _ h H locs ls hl ((e _) ▸ hP) ((e _) ▸ hD) hS
  case getfield i =>
    rw [Bool.and_eq_true] at hc
    obtain ⟨hlen, hc⟩ := hc
    have hlen : len = 3 := eq_of_beq hlen
    subst hlen
    obtain ⟨a, r, rfl, h⟩ := s1r_of h
    obtain ⟨fs, hfs, h⟩ := ao_of h
    obtain ⟨w, hw, h⟩ := op1_of h
    intro H locs ls hl hP hD hS
    split at hc
    · rename_i q hq
      simp only [Bool.and_eq_true, decide_eq_true_eq] at hc
      obtain ⟨⟨hn, hwd⟩, href⟩ := hc
      exact va_get (ref := q.1) (C := q.1) (T := q.2.1) (N := q.2.2) hx hb hts (cl0_I hq).1 hown hK hP a (wl_get ρ τ σ hfs) hq tgt hn (hts _ (mw wi hwd rfl)) (fun x hx => by rw [href] at hx; exact hx) (by show (fs.map (rv ρ))[tgt]? = _; rw [List.getElem?_map, hw]; rfl) hdg (hk _ _ _ _ h H locs ls hl hP hD hS)
    · exact absurd hc (by simp)
  case putfield i =>
    rw [Bool.and_eq_true] at hc
    obtain ⟨hlen, hc⟩ := hc
    have hlen : len = 3 := eq_of_beq hlen
    subst hlen
    obtain ⟨a, w, r, rfl, h⟩ := srv_of h
    obtain ⟨fs, hfs, h⟩ := ao_of h
    obtain ⟨hlt, hn1, hn2, hnr, h⟩ := bif_of h
    intro H locs ls hl hP hD hS
    split at hc
    · rename_i q hq
      rw [hq] at hn1 hn2
      simp only [Bool.and_eq_true, decide_eq_true_eq] at hc
      obtain ⟨⟨⟨hn, hwd⟩, href⟩, hfin⟩ := hc
      have hw : rv ρ w = w := by cases w <;> first | rfl | exact absurd rfl (hnr _)
      refine va_put (v := rv ρ w) (ref := q.1) (C := q.1) (T := q.2.1) (N := q.2.2) hx hb hts (cl0_I hq).1 _ (cl0_I hq).2.2 (cl0_I hq).2.1 hown hK hP hD hS a (wl_get ρ τ σ hfs) hq tgt hn (hts _ (mw wi hwd rfl)) (fun x hx => by rw [href] at hx; exact hx) (eq_of_beq hfin) ((cl0_I hq).2.2 tgt hn) (by rw [hw]; exact hn1) (by rw [hw]; exact hn2) (by rw [List.length_map]; exact Nat.le_of_ble_eq_true hlt) hdg (fun H locs hP hD hS => ?_)
      have e := wl_set ρ τ σ a (.inr (ci, fs.set tgt w))
      rw [show re ρ τ (.inr (ci, fs.set tgt w)) = .inr (ci, (fs.map (rv ρ)).set tgt (rv ρ w)) by show Sum.inr (ci, (fs.set tgt w).map (rv ρ)) = _; rw [List.map_set]] at e
      exact hk _ _ _ _ h H locs ls hl (e ▸ hP) (e ▸ hD) hS
    · exact absurd hc (by simp)
  case invokestatic i =>
    have hlen : len = 3 := eq_of_beq hc
    subst hlen
    obtain ⟨q, hq, h8⟩ := op1_of h
    obtain ⟨hn, h9⟩ := bif_of h8
    rw [Bool.and_eq_true] at hn
    have hqm := List.mem_of_find?_eq_some hq
    have hqi9 := List.find?_some hq
    have hqi := eq_of_beq hqi9
    have e : st = ((st.take q.2.1).reverse).reverse ++ st.drop q.2.1 := by rw [List.reverse_reverse, List.take_append_drop]
    have hlen : ((st.take q.2.1).reverse).length = q.2.1 := by rw [List.length_reverse, List.length_take]; exact Nat.min_eq_left (Nat.le_of_ble_eq_true hn.1)
    rw [e]
    exact hCE q hqm _ pc _ σ _ lv _ (⟨i, Or.inl ⟨rfl, hqi⟩⟩) hdg hlen h9 (Nat.le_of_ble_eq_true hn.2) (fun v σ' z => hk _ _ _ _ z)
  case invokevirtual i =>
    have hlen : len = 3 := eq_of_beq hc
    subst hlen
    obtain ⟨q, hq, h8⟩ := op1_of h
    obtain ⟨hn, h9⟩ := bif_of h8
    rw [Bool.and_eq_true] at hn
    have hqm := List.mem_of_find?_eq_some hq
    have hqi9 := List.find?_some hq
    have hqi := eq_of_beq hqi9
    have e : st = ((st.take q.2.1).reverse).reverse ++ st.drop q.2.1 := by rw [List.reverse_reverse, List.take_append_drop]
    have hlen : ((st.take q.2.1).reverse).length = q.2.1 := by rw [List.length_reverse, List.length_take]; exact Nat.min_eq_left (Nat.le_of_ble_eq_true hn.1)
    rw [e]
    exact hCE q hqm _ pc _ σ _ lv _ (⟨i, Or.inr ⟨rfl, hqi⟩⟩) hdg hlen h9 (Nat.le_of_ble_eq_true hn.2) (fun v σ' z => hk _ _ _ _ z)
  case ireturn =>
    have hlen : len = 1 := eq_of_beq hc
    subst hlen
    match st, h with
    | [.int x], h => exact hQ .ireturn pc (some (.int x)) σ lv trivial hdg h
  case lreturn =>
    have hlen : len = 1 := eq_of_beq hc
    subst hlen
    match st, h with
    | [.long x], h => exact hQ .lreturn pc (some (.long x)) σ lv trivial hdg h
  case dreturn =>
    have hlen : len = 1 := eq_of_beq hc
    subst hlen
    match st, h with
    | [.double x], h => exact hQ .dreturn pc (some (.double x)) σ lv trivial hdg h
  case return_ =>
    have hlen : len = 1 := eq_of_beq hc
    subst hlen
    match st, h with
    | [], h => exact hQ .return_ pc none σ lv trivial hdg h
  all_goals exact (h : False).elim
theorem Gd_cn {pc : Nat} {lv : LV} {st : List Value} {σ : aS} {sl : List Nat} (h : Gd p l e R s m args below meth c cells slots Z nL D ρ τ A H0 pc (cn sl lv) st σ) : Gd p l e R s m args below meth c cells slots Z nL D ρ τ A H0 pc lv st σ := fun H locs ls hl hP hD hS => h H locs ls ⟨hl.1, hl.2.1, fun q hq => by
  obtain ⟨q', h1, rfl⟩ := List.mem_map.mp hq
  exact hl.2.2 _ (List.mem_map.mpr ⟨q', cn_mem h1, rfl⟩)⟩ hP hD hS
theorem seg_sound {X : Nat × (Nat → Int32)} (hX : XOK ρ A H0 s X) (F : Fx p m c cc nL s args own D τ) {P : List En} (hchk : P.all (chk cc nL own) = true) {CE : List (Nat × Nat × Tr)} (hCE : ∀ q ∈ CE, COK p l e R s m args below meth c cells slots Z cc nL D ρ τ A H0 q) {Q : Option Value → aS → Prop} (hQ : ROK p l e R s m args below meth c cells slots Z cc nL D ρ τ A H0 Q) {cut : List (Nat × List Nat)} : ∀ (n : Nat) (b : Bool) (pc : Nat) (lv : LV) (st : List Value) (σ : aS), seg X P CE cut (Gd p l e R s m args below meth c cells slots Z nL D ρ τ A H0) Q n b pc lv st σ → Gd p l e R s m args below meth c cells slots Z nL D ρ τ A H0 pc lv st σ
  | 0, _, _, _, _, _, h => h
  | n + 1, b, pc, lv, st, σ, h => by
    rw [seg] at h
    split at h
    · exact Gd_cn h
    · obtain ⟨en, he, h9⟩ := op1_of h
      have hpc : en.1 = pc := by simpa using List.find?_some he
      subst hpc
      exact s1_sound hX F hCE hQ (fun pc lv st σ z => seg_sound hX F hchk hCE hQ n true pc lv st σ z) (List.all_eq_true.mp hchk en (List.mem_of_find?_eq_some he)) h9
end
end
section
/-! A METHOD'S CONTRACT over a world of numbered cells, and its calls -/
abbrev rmL (n : Nat) : Room := { frames := n, cells := 0, slots := 0, locals := 48 * n }
def PW (D : va_G) (τ : Nat → ClassId) (ρ : Nat → Nat) (A : Nat → Prop) (as : List Value) (σ : aS) : Array Value → State → Prop := va_Pc (as.map (rv ρ)) (fun U => va_P D cl0 (wl ρ τ σ) U.heap ∧ va_K D cl0 (tyl τ) U ∧ va_D A (wl ρ τ σ))
def QW (D : va_G) (τ : Nat → ClassId) (ρ : Nat → Nat) (A : Nat → Prop) (post : Option Value → aS → Prop) : Array Value → State → Outcome → State → Prop := fun _ s o t => (∃ (v : Option Value) (σ : aS), o = .returned (v.map (rv ρ)) ∧ post v σ ∧ va_P D cl0 (wl ρ τ σ) t.heap ∧ va_K D cl0 (tyl τ) t ∧ va_D A (wl ρ τ σ)) ∧ va_F A s t
def MetW (l : Launch) (y : MethodName) (cc : ByteArray) (nL : Nat) (ret : Option FieldType) (lvl : Nat) (D : va_G) (τ : Nat → ClassId) (ρ : Nat → Nat) (A : Nat → Prop) (as : List Value) (σ : aS) (post : Option Value → aS → Prop) : Prop :=
  Met l y (.code y cc nL ret :: lw_all) (rmL lvl) (PW D τ ρ A as σ) (QW D τ ρ A post) 0 0 A
/-- the method does what its transformer says, in every world -/
def OK (l : Launch) (y : MethodName) (cc : ByteArray) (nL : Nat) (ret : Option FieldType) (lvl : Nat) (T : Tr) : Prop := ∀ (D : va_G) (τ : Nat → ClassId) (ρ : Nat → Nat) (A : Nat → Prop) (as : List Value) (σ : aS) (post : Option Value → aS → Prop), T as σ post → MetW l y cc nL ret lvl D τ ρ A as σ post
/-- what a body owes, without the machine -/
def Bd (P : List En) (CE : List (Nat × Nat × Tr)) (cut : List (Nat × List Nat)) (Q : Option Value → aS → Prop) (as : List Value) (σ : aS) : Prop := ∀ G : Nat → LV → List Value → aS → Prop, (∀ n b pc lv st σ, seg (0, fun _ => 0) P CE cut G Q n b pc lv st σ → G pc lv st σ) → G 0 (lv_args 0 as) [] σ
def rFit (ret : Option FieldType) (v : Option Value) : Prop := match ret, v with
  | some .boolean, some (.int x) => x = 0 ∨ x = 1
  | some .int, some (.int _) => True
  | some .long, some (.long _) => True
  | some .double, some (.double _) => True
  | none, none => True
  | _, _ => False
theorem lr_args (ρ : Nat → Nat) : ∀ (as : List Value) (i : Nat), lr ρ (lv_args i as) = lv_args i (as.map (rv ρ))
  | [], _ => rfl
  | v :: vs, i => by
    show (i, rv ρ v) :: lr ρ (lv_args (if v.category = 2 then i + 2 else i + 1) vs) = (i, rv ρ v) :: lv_args (if (rv ρ v).category = 2 then i + 2 else i + 1) (vs.map (rv ρ))
    rw [lr_args ρ vs, rv_cat]
theorem PW_blind (D : va_G) (τ : Nat → ClassId) (ρ : Nat → Nat) (A : Nat → Prop) (as : List Value) (σ : aS) : FrameBlind (PW D τ ρ A as σ) := fun a U g mk q => by
  obtain ⟨q0, qP, qK, qD⟩ := q
  exact ⟨q0, qP, va_K.moved (u := U) (U := U.calling g mk a) (Vm.Alike.refl U.vm) qK, qD⟩
/-- a list of calls is right for all methods of a class at a level -/
def CEok (l : Launch) (own : String) (lvl : Nat) (CE : List (Nat × Nat × Tr)) : Prop := ∀ q ∈ CE, ∀ {p : Program} {e : Env} {R : Room} {s : State} {m : MethodId} {args : Array Value} {below : List Frame} {meth : Method} {c : Code} {cells slots : Nat} {Z : State → Prop} {cc : ByteArray} {nL : Nat} {D : va_G} {ρ : Nat → Nat} {τ : Nat → ClassId} {A : Nat → Prop} {H0 : Heap}, Fx p m c cc nL s args own D τ → lvl ≤ R.frames → 48 * lvl ≤ R.locals → cells ≤ R.cells → slots ≤ R.slots → COK p l e R s m args below meth c cells slots Z cc nL D ρ τ A H0 q
section
variable {l : Launch} {own : String} {lvl lv2 : Nat} {y : MethodName} {bytes : ByteArray} {maxL n : Nat} {ret : Option FieldType} {T : Tr} {idx : Nat}
/-- behind a call -/
theorem call_end {p : Program} {e : Env} {R : Room} {s : State} {m : MethodId} {args : Array Value} {below : List Frame} {meth : Method} {c : Code} {cells slots : Nat} {Z : State → Prop} {nL : Nat} {D : va_G} {ρ : Nat → Nat} {τ : Nat → ClassId} {A : Nat → Prop} {H0 H : Heap} {locs : List Loc} {ls : Array Slot} {pc : Nat} {lv : LV} {st0 : List Value} {rest : List Value} {kk : Option Value → aS → Prop} {a : Array Value}
    (hr : va_Run p l e R s m args below meth c H locs cells slots 0 0 (F0 m pc ls st0) (rest.map (rv ρ)) (QW D τ ρ A kk a) A) (hl : lv_has ls nL (lr ρ lv)) (hS : va_S A H0 H locs)
    (hkk : ∀ v σ', kk v σ' → Gd p l e R s m args below meth c cells slots Z nL D ρ τ A H0 (pc + 3) lv (v.toList ++ rest) σ') : W p l e R s m args below meth c H locs cells slots Z (F0 m pc ls st0) := by
  intro U hU X
  obtain ⟨v, st₀, t, T', L, h0, X', hL, e1, e2, ⟨⟨v', σ', hv, hpost, hP', hK', hD'⟩, hF⟩, st⟩ := hr U hU X
  have hv : v = v'.map (rv ρ) := by cases hv; rfl
  subst hv
  have hz := hF.1
  have hq := hF.2
  rw [h0] at hz hq
  have hS' : va_S A H0 T'.heap (locs ++ L) := ⟨Nat.le_trans hS.1 (by rw [e1]; exact hz), fun q h1 h2 => by rw [e1, hq q (Nat.lt_of_lt_of_le h1 hS.1) h2]; exact hS.2.1 q h1 h2, fun q hq => by
    rcases List.mem_append.mp hq with h | h
    · exact hS.2.2 q h
    · exact hL q h⟩
  have key := hkk v' σ' hpost T'.heap (locs ++ L) ls hl (by rw [e1]; exact hP') hD' hS'
  have est : (v'.toList ++ rest).map (rv ρ) = (v'.map (rv ρ)).toList ++ rest.map (rv ρ) := by cases v' <;> simp
  rw [est] at key
  obtain ⟨t2, a1, b1⟩ := key T' rfl X'
  exact ⟨t2, st t2 a1, b1⟩
theorem ce_S (hOK : OK l y bytes maxL ret lv2 T) (h1 : Cond.methodLink own idx y ∈ lw_all) (h2 : Cond.static y ∈ lw_all) (h3 : Cond.initialized y.cls ∈ lw_all) (h4 : Cond.code y bytes maxL ret ∈ lw_all)
    (hd : y.cls ≠ "java/lang/invoke/MethodHandle" ∧ y.cls ≠ "java/lang/invoke/VarHandle" ∧ (parseMethodDescriptor y.desc).map (fun d => d.parameters.length) = some n) (hR : lv2 + 1 ≤ lvl ∧ 8 + (maxL + 11) + 48 * lv2 ≤ 48 * lvl) {CE : List (Nat × Nat × Tr)} (hCE : CEok l own lvl CE) : CEok l own lvl ((2 * idx, n, T) :: CE) := by
  intro q hq
  rcases List.mem_cons.mp hq with rfl | hq
  · intro p e R s m args below meth c cells slots Z cc nL D ρ τ A H0 F hRf hRl hRc hRs
    obtain ⟨hx, hb, hml, hown, hts, hK⟩ := F
    intro ins pc as σ kk lv rest hins hdg hlen hT hroom hkk H locs ls hl hP hD hS
    have hins : ins = .invokestatic idx := by
      obtain ⟨i, ⟨a1, a2⟩ | ⟨a1, a2⟩⟩ := hins
      · have : i = idx := by simp at a2; omega
        rw [a1, this]
      · simp at a2; omega
    subst hins
    have hM := hOK D τ ρ A as σ kk hT
    have est : (as.reverse ++ rest).map (rv ρ) = (as.map (rv ρ)).reverse ++ rest.map (rv ρ) := by simp
    rw [est]
    refine call_end (va_runS (As := as.map (rv ρ)) (rest := rest.map (rv ρ)) (n := n) ⟨hx, hb, hml, hown, hts⟩ hM (va_cwS n hts ?_ rfl rfl rfl hd ⟨?_, ?_⟩) ⟨PW_blind D τ ρ A as σ, fun U hU hW => ⟨rfl, by rw [hU]; exact hP, va_K.moved hW.alike hK, hD⟩⟩ rfl (by rw [List.length_map]; exact hlen) hl.1 rfl (lv_room (by rw [List.map_map]; exact Nat.le_trans (Nat.le_of_eq (congrArg List.sum (List.map_congr_left fun v _ => rv_cat ρ v))) hroom)) hdg ⟨hRc, hRs⟩) hl hS hkk
    · intro w hw
      have : w ∈ lw_all := by
        simp only [va_wsS, List.cons_append, List.nil_append, List.mem_cons] at hw
        rcases hw with rfl | rfl | rfl | rfl | hw
        · exact h1
        · exact h2
        · exact h3
        · exact h4
        · exact hw
      exact ⟨this, good_of_word (lw_all_good this)⟩
    · exact Nat.le_trans hR.1 hRf
    · exact Nat.le_trans hR.2 hRl
  · exact hCE q hq
theorem ce_V {ci : Nat} {C : vw_C} (hc : cl0[ci]? = some C) (hOK : OK l y bytes maxL ret lv2 T) (hrc : ∀ as σ kk, T as σ kk → ∃ a r fs, as = .ref a :: r ∧ σ[a]? = some (.inr (ci, fs))) (h1 : Cond.methodLink own idx y ∈ lw_all) (h2 : Cond.instanceMethod y ∈ lw_all) (h5 : Cond.selects C.1 y y ∈ lw_all) (h3 : Cond.initialized C.1 ∈ lw_all) (h4 : Cond.code y bytes maxL ret ∈ lw_all) (hyc : y.cls = C.1)
    (hd : y.cls ≠ "java/lang/invoke/MethodHandle" ∧ y.cls ≠ "java/lang/invoke/VarHandle" ∧ (parseMethodDescriptor y.desc).map (fun d => d.parameters.length) = some n) (hR : lv2 + 1 ≤ lvl ∧ 8 + (maxL + 11) + 48 * lv2 ≤ 48 * lvl) {CE : List (Nat × Nat × Tr)} (hCE : CEok l own lvl CE) : CEok l own lvl ((2 * idx + 1, n + 1, T) :: CE) := by
  intro q hq
  rcases List.mem_cons.mp hq with rfl | hq
  · intro p e R s m args below meth c cells slots Z cc nL D ρ τ A H0 F hRf hRl hRc hRs
    obtain ⟨hx, hb, hml, hown, hts, hK⟩ := F
    intro ins pc as σ kk lv rest hins hdg hlen hT hroom hkk H locs ls hl hP hD hS
    have hins : ins = .invokevirtual idx := by
      obtain ⟨i, ⟨a1, a2⟩ | ⟨a1, a2⟩⟩ := hins
      · simp at a2; omega
      · have : i = idx := by simp at a2; omega
        rw [a1, this]
    subst hins
    have hM := hOK D τ ρ A as σ kk hT
    obtain ⟨a, r, fs, rfl, hfs⟩ := hrc as σ kk hT
    have est : ((.ref a :: r).reverse ++ rest).map (rv ρ) = (r.map (rv ρ)).reverse ++ .ref (ρ a) :: rest.map (rv ρ) := by simp [rv]
    rw [est]
    refine call_end (va_runV (C := C.1) (As := r.map (rv ρ)) (rest := rest.map (rv ρ)) (n := n) (b := ρ a) ⟨hx, hb, hml, hown, hts⟩ hM (cwV n hts ?_ rfl rfl rfl ⟨hyc, hd⟩ ⟨?_, ?_⟩) ⟨PW_blind D τ ρ A (.ref a :: r) σ, va_recv hK hP hc (wl_get ρ τ σ hfs), fun U hU hW => ⟨rfl, by rw [hU]; exact hP, va_K.moved hW.alike hK, hD⟩⟩ rfl (by rw [List.length_map]; simp at hlen; exact hlen) hl.1 rfl (lv_room (by rw [List.map_map]; exact Nat.le_trans (Nat.le_of_eq (congrArg List.sum (List.map_congr_left fun v _ => rv_cat ρ v))) hroom)) hdg ⟨hRc, hRs⟩) hl hS hkk
    · intro w hw
      have : w ∈ lw_all := by
        simp only [wsV, List.cons_append, List.nil_append, List.mem_cons] at hw
        rcases hw with rfl | rfl | rfl | rfl | rfl | hw
        · exact h1
        · exact h2
        · exact h5
        · exact h3
        · exact h4
        · exact hw
      exact ⟨this, good_of_word (lw_all_good this)⟩
    · exact Nat.le_trans hR.1 hRf
    · exact Nat.le_trans hR.2 hRl
  · exact hCE q hq
theorem ce_0 : CEok l own lvl [] := fun q hq => absurd hq List.not_mem_nil
theorem isRet_v {ins : Instr} (h : isRet ins none) : ins = .return_ := by cases ins <;> first | rfl | exact h.elim
theorem isRet_i {ins : Instr} {x : Int32} (h : isRet ins (some (.int x))) : ins = .ireturn := by cases ins <;> first | rfl | exact h.elim
theorem isRet_l {ins : Instr} {x : Int64} (h : isRet ins (some (.long x))) : ins = .lreturn := by cases ins <;> first | rfl | exact h.elim
theorem isRet_d {ins : Instr} {x : UInt64} (h : isRet ins (some (.double x))) : ins = .dreturn := by cases ins <;> first | rfl | exact h.elim
theorem rFit_v {ret : Option FieldType} (h : rFit ret none) : ret = none := by
  cases ret with
  | none => rfl
  | some t => cases t <;> exact h.elim
theorem rFit_i {ret : Option FieldType} {x : Int32} (h : rFit ret (some (.int x))) : ret = some .int ∨ (ret = some .boolean ∧ (x = 0 ∨ x = 1)) := by
  cases ret with
  | none => exact h.elim
  | some t => cases t <;> first | exact Or.inl rfl | exact Or.inr ⟨rfl, h⟩ | exact h.elim
theorem rFit_l {ret : Option FieldType} {x : Int64} (h : rFit ret (some (.long x))) : ret = some .long := by
  cases ret with
  | none => exact h.elim
  | some t => cases t <;> first | rfl | exact h.elim
theorem rFit_d {ret : Option FieldType} {x : UInt64} (h : rFit ret (some (.double x))) : ret = some .double := by
  cases ret with
  | none => exact h.elim
  | some t => cases t <;> first | rfl | exact h.elim
/-- A METHOD OUT OF ITS BODY -/
theorem met_of {P : List En} {CE : List (Nat × Nat × Tr)} {cut : List (Nat × List Nat)} (hy : plainName y.cls = true) (hchk : P.all (chk bytes maxL y.cls) = true) (hCE : CEok l y.cls lvl CE) {D : va_G} {τ : Nat → ClassId} {ρ : Nat → Nat} {A : Nat → Prop} {as : List Value} {σ : aS} {post : Option Value → aS → Prop} (hlen : (lg_sl (as.map (rv ρ))).length ≤ maxL) (hB : Bd P CE cut (fun v σ => rFit ret v ∧ post v σ) as σ) : MetW l y bytes maxL ret lvl D τ ρ A as σ post := by
  refine Met.ofW (cc := bytes) (maxL := maxL) (ret := ret) hy rfl ?_
  intro p e s m args below meth c s₁ B hml hv
  obtain ⟨rfl, hP, hK, hD⟩ := hv
  have hx := B.exec
  have hb := B.bytes
  have hr := B.returns
  have hts := atoms_spec (ws := .code y bytes maxL ret :: lw_all) B.pre
  have hts : ∀ w ∈ lw_all, w.before _ s = true := fun w h => hts w (List.mem_cons_of_mem _ h)
  have hown : s.vm.findClass y.cls = some m.cls := findClass_of_methodNamed B.named
  have hlocks := B.notSynchronized
  have hl := lv_entry (as.map (rv ρ)) (n := maxL) hlen
  rw [lg_entry_eq]
  generalize (lg_sl (as.map (rv ρ)) ++ List.replicate (maxL - (lg_sl (as.map (rv ρ))).length) Slot.unset).toArray = ls at hl ⊢
  rw [← lr_args] at hl
  have F : Fx p m c bytes maxL s (as.map (rv ρ)).toArray y.cls D τ := ⟨hx, hb, hml, hown, hts, hK⟩
  refine hB (Gd p l e (headSpec (.code y bytes maxL ret :: lw_all) (rmL lvl)).room s m (as.map (rv ρ)).toArray below meth c 0 0 (MQ below (QW D τ ρ A post) (as.map (rv ρ)).toArray s 0 0 A) maxL D ρ τ A s.heap) (fun n b pc lv st σ h => seg_sound (Or.inl rfl) F hchk (fun q hq => hCE q hq F (Nat.le_refl _) (Nat.le_refl _) (Nat.zero_le _) (Nat.zero_le _)) ?_ n b pc lv st σ h) s.heap [] ls hl hP hD va_S.rf
  intro ins pc v σ lv hi hdg hq H locs ls hl hP hD hS
  obtain ⟨hfit, hq⟩ := hq
  have fin : ∀ t : State, t.heap = H → s.WarmedH t.vm → QW D τ ρ A post (as.map (rv ρ)).toArray s (.returned (v.map (rv ρ))) t := fun t ht hW => ⟨⟨v, σ, rfl, hq, by rw [ht]; exact hP, va_K.moved hW.alike hK, hD⟩, hS.F ht⟩
  cases v with
  | none =>
    have hi : ins = .return_ := isRet_v hi
    subst hi
    exact W.vret hx hb (hr.trans (rFit_v hfit)) fin hS.2.2 hdg
  | some v => cases v with
    | int x =>
      have hi : ins = .ireturn := isRet_i hi
      subst hi
      rcases rFit_i hfit with h | ⟨h, hf⟩
      · exact W.iret hx hb (hr.trans h) fin hS.2.2 hdg
      · exact W.zret (ty := .boolean) hx hb (hr.trans h) (by rcases hf with rfl | rfl <;> rfl) fin hS.2.2 hdg
    | long x =>
      have hi : ins = .lreturn := isRet_l hi
      subst hi
      exact W.lret hx hb (hr.trans (rFit_l hfit)) fin hS.2.2 hdg
    | double x =>
      have hi : ins = .dreturn := isRet_d hi
      subst hi
      exact W.dret hx hb (hr.trans (rFit_d hfit)) fin hS.2.2 hdg
    | _ => exact absurd hi (by cases ins <;> exact id)
end
end
