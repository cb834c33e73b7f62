

/-! What the start gives: the classes, the constants, the texts. -/
def NF : List Cond := flatC (Jvm.Cond.and given_1 narrow_1)
def tmS : Nat → Term := fun i => if i = 22 then .string RX2 103 else .string "CockTower$Word" (([113, 119, 122, 125, 128, 131, 134, 137, 140, 143, 146, 149, 152, 155, 158, 161, 164, 167, 170, 173, 176, 179] : List Nat).getD i 0)
abbrev stW (i : Nat) : Term := .static "CockTower$Word" (wNm.getD i "") "LCockTower$Word;"
def nfEL : List Nat := [93, 101, 110, 120, 131, 143, 156, 170, 185, 78, 72, 67, 201, 218, 236, 255, 275, 296, 318, 341, 365, 4]
theorem nfE : ∀ i, i < 22 → NF[nfEL.getD i 0]? = some (Cond.exactly (stW i) "CockTower$Word") := by decide +kernel
def nfVL : List Nat := [96, 104, 113, 123, 134, 146, 159, 173, 188, 81, 75, 70, 204, 221, 239, 258, 278, 299, 321, 344, 368, 7]
theorem nfV : ∀ i, i < 22 → NF[nfVL.getD i 0]? = some (Cond.eq (.field (stW i) "CockTower$Word" "value" "I") (.int (wVl.getD i 0))) := by decide +kernel
def nfOL : List Nat := [94, 102, 111, 121, 132, 144, 157, 171, 186, 79, 73, 68, 202, 219, 237, 256, 276, 297, 319, 342, 366, 5]
theorem nfO : ∀ i, i < 22 → NF[nfOL.getD i 0]? = some (Cond.eq (.field (stW i) "java/lang/Enum" "ordinal" "I") (.int (wOr.getD i 0))) := by decide +kernel
def nfTL : List Nat := [95, 103, 112, 122, 133, 145, 158, 172, 187, 80, 74, 69, 203, 220, 238, 257, 277, 298, 320, 343, 367, 6]
theorem nfT : ∀ i, i < 22 → NF[nfTL.getD i 0]? = some (Cond.eq (.field (stW i) "CockTower$Word" "text" "Ljava/lang/String;") (tmS i)) := by decide +kernel
def nfPL : List Nat := [0, 109, 118, 128, 139, 151, 164, 178, 193, 100, 99, 98, 209, 226, 244, 263, 283, 304, 326, 349, 373, 97, 109, 0, 119, 129, 140, 152, 165, 179, 194, 108, 107, 106, 210, 227, 245, 264, 284, 305, 327, 350, 374, 105, 118, 119, 0, 130, 141, 153, 166, 180, 195, 117, 116, 115, 211, 228, 246, 265, 285, 306, 328, 351, 375, 114, 128, 129, 130, 0, 142, 154, 167, 181, 196, 127, 126, 125, 212, 229, 247, 266, 286, 307, 329, 352, 376, 124, 139, 140, 141, 142, 0, 155, 168, 182, 197, 138, 137, 136, 213, 230, 248, 267, 287, 308, 330, 353, 377, 135, 151, 152, 153, 154, 155, 0, 169, 183, 198, 150, 149, 148, 214, 231, 249, 268, 288, 309, 331, 354, 378, 147, 164, 165, 166, 167, 168, 169, 0, 184, 199, 163, 162, 161, 215, 232, 250, 269, 289, 310, 332, 355, 379, 160, 178, 179, 180, 181, 182, 183, 184, 0, 200, 177, 176, 175, 216, 233, 251, 270, 290, 311, 333, 356, 380, 174, 193, 194, 195, 196, 197, 198, 199, 200, 0, 192, 191, 190, 217, 234, 252, 271, 291, 312, 334, 357, 381, 189, 100, 108, 117, 127, 138, 150, 163, 177, 192, 0, 84, 83, 208, 225, 243, 262, 282, 303, 325, 348, 372, 82, 99, 107, 116, 126, 137, 149, 162, 176, 191, 84, 0, 77, 207, 224, 242, 261, 281, 302, 324, 347, 371, 76, 98, 106, 115, 125, 136, 148, 161, 175, 190, 83, 77, 0, 206, 223, 241, 260, 280, 301, 323, 346, 370, 71, 209, 210, 211, 212, 213, 214, 215, 216, 217, 208, 207, 206, 0, 235, 253, 272, 292, 313, 335, 358, 382, 205, 226, 227, 228, 229, 230, 231, 232, 233, 234, 225, 224, 223, 235, 0, 254, 273, 293, 314, 336, 359, 383, 222, 244, 245, 246, 247, 248, 249, 250, 251, 252, 243, 242, 241, 253, 254, 0, 274, 294, 315, 337, 360, 384, 240, 263, 264, 265, 266, 267, 268, 269, 270, 271, 262, 261, 260, 272, 273, 274, 0, 295, 316, 338, 361, 385, 259, 283, 284, 285, 286, 287, 288, 289, 290, 291, 282, 281, 280, 292, 293, 294, 295, 0, 317, 339, 362, 386, 279, 304, 305, 306, 307, 308, 309, 310, 311, 312, 303, 302, 301, 313, 314, 315, 316, 317, 0, 340, 363, 387, 300, 326, 327, 328, 329, 330, 331, 332, 333, 334, 325, 324, 323, 335, 336, 337, 338, 339, 340, 0, 364, 388, 322, 349, 350, 351, 352, 353, 354, 355, 356, 357, 348, 347, 346, 358, 359, 360, 361, 362, 363, 364, 0, 389, 345, 373, 374, 375, 376, 377, 378, 379, 380, 381, 372, 371, 370, 382, 383, 384, 385, 386, 387, 388, 389, 0, 369, 97, 105, 114, 124, 135, 147, 160, 174, 189, 82, 76, 71, 205, 222, 240, 259, 279, 300, 322, 345, 369, 0]
theorem nfP : ∀ i, i < 22 → ∀ j, j < 22 → i ≠ j → NF[nfPL.getD (22 * i + j) 0]? = some (Cond.not (.eq (stW i) (stW j))) ∨ NF[nfPL.getD (22 * i + j) 0]? = some (Cond.not (.eq (stW j) (stW i))) := by decide +kernel
def nfSeL : List Nat := [558, 566, 574, 584, 592, 601, 611, 620, 629, 552, 545, 538, 641, 649, 659, 666, 674, 684, 694, 703, 712, 534, 442]
theorem nfSe : ∀ i, i < 23 → NF[nfSeL.getD i 0]? = some (Cond.exactly (tmS i) "java/lang/String") := by decide +kernel
def nfScL : List Nat := [559, 567, 575, 585, 593, 602, 612, 621, 630, 553, 546, 539, 642, 650, 660, 667, 675, 685, 695, 704, 713, 535, 443]
theorem nfSc : ∀ i, i < 23 → NF[nfScL.getD i 0]? = some (Cond.eq (.field (tmS i) "java/lang/String" "coder" "B") (.int 0)) := by decide +kernel
def nfSaL : List Nat := [560, 568, 576, 586, 594, 603, 613, 622, 631, 554, 547, 540, 643, 651, 661, 668, 676, 686, 696, 705, 714, 536, 444]
theorem nfSa : ∀ i, i < 23 → NF[nfSaL.getD i 0]? = some (Cond.arrayOf (.field (tmS i) "java/lang/String" "value" "[B") .byte) := by decide +kernel
def nfSlL : List Nat := [561, 569, 577, 587, 595, 604, 614, 623, 632, 555, 548, 541, 644, 652, 662, 669, 677, 687, 697, 706, 715, 537, 445]
theorem nfSl : ∀ i, i < 23 → NF[nfSlL.getD i 0]? = some (Cond.eq (.length (.field (tmS i) "java/lang/String" "value" "[B")) (.int (Int32.ofNat (sLen.getD i 0)))) := by decide +kernel
def nfSbL : List Nat := [562, 563, 564, 565, 0, 0, 0, 0, 0, 570, 571, 572, 573, 0, 0, 0, 0, 0, 578, 579, 580, 581, 582, 583, 0, 0, 0, 588, 589, 590, 591, 0, 0, 0, 0, 0, 596, 597, 598, 599, 0, 0, 0, 0, 0, 605, 606, 607, 608, 609, 610, 0, 0, 0, 615, 616, 617, 618, 619, 0, 0, 0, 0, 624, 625, 626, 627, 628, 0, 0, 0, 0, 633, 634, 635, 636, 637, 638, 639, 640, 0, 556, 557, 0, 0, 0, 0, 0, 0, 0, 549, 550, 551, 0, 0, 0, 0, 0, 0, 542, 543, 544, 0, 0, 0, 0, 0, 0, 645, 646, 647, 648, 0, 0, 0, 0, 0, 653, 654, 655, 656, 657, 658, 0, 0, 0, 663, 664, 665, 0, 0, 0, 0, 0, 0, 670, 671, 672, 673, 0, 0, 0, 0, 0, 678, 679, 680, 681, 682, 683, 0, 0, 0, 688, 689, 690, 691, 692, 693, 0, 0, 0, 698, 699, 700, 701, 702, 0, 0, 0, 0, 707, 708, 709, 710, 711, 0, 0, 0, 0, 716, 717, 718, 719, 0, 0, 0, 0, 0, 0, 0, 0, 0, 0, 0, 0, 0, 0, 446, 447, 448, 449, 450, 451, 452, 453, 454]
theorem nfSb : ∀ i, i < 23 → ∀ j, j < sLen.getD i 0 → NF[nfSbL.getD (9 * i + j) 0]? = some (Cond.eq (.elem (.field (tmS i) "java/lang/String" "value" "[B") (.int (Int32.ofNat j))) (.int ((sByt.getD i []).getD j 0))) := by decide +kernel
def nfAL : List Nat := [20, 21, 22, 23, 24, 25, 26, 27, 28, 29, 30, 31, 32, 33, 34, 35, 36, 37, 38, 39, 40, 41]
theorem nfA : ∀ i, i < 22 → NF[nfAL.getD i 0]? = some (Cond.eq (.elem (.static "CockTower$Word" "ALL" "[LCockTower$Word;") (.int (Int32.ofNat i))) (stW i)) := by decide +kernel
def nfWL : List Nat := [45, 46, 47, 48, 49, 50, 51, 52, 53, 54, 55, 56, 57, 58, 59, 60, 61, 62, 63, 64, 65, 66]
theorem nfW : ∀ i, i < 22 → NF[nfWL.getD i 0]? = some (Cond.eq (.elem (.static "CockTower$1" "$SwitchMap$CockTower$Word" "[I") (.int (Int32.ofNat i))) (.int (swL.getD i 0))) := by decide +kernel
def nfFL : List Nat := [88, 89, 90, 91, 92]
theorem nfF : ∀ i, i < 5 → NF[nfFL.getD i 0]? = some (Cond.eq (.elem (.static "CockTower" "FACTORIAL" "[I") (.int (Int32.ofNat i))) (.int (facL.getD i 0))) := by decide +kernel
theorem nf1 : NF[17]? = some (Cond.arrayOf (.static "CockTower$Word" "ALL" "[LCockTower$Word;") (.object "CockTower$Word")) := by decide +kernel
theorem nf2 : NF[18]? = some (Cond.eq (.length (.static "CockTower$Word" "ALL" "[LCockTower$Word;")) (.int 22)) := by decide +kernel
theorem nf3 : NF[43]? = some (Cond.arrayOf (.static "CockTower$1" "$SwitchMap$CockTower$Word" "[I") .int) := by decide +kernel
theorem nf4 : NF[44]? = some (Cond.eq (.length (.static "CockTower$1" "$SwitchMap$CockTower$Word" "[I")) (.int 22)) := by decide +kernel
theorem nf5 : NF[86]? = some (Cond.arrayOf (.static "CockTower" "FACTORIAL" "[I") .int) := by decide +kernel
theorem nf6 : NF[87]? = some (Cond.eq (.length (.static "CockTower" "FACTORIAL" "[I")) (.int 5)) := by decide +kernel
theorem nf7 : NF[10]? = some (Cond.eq (.static "java/lang/String" "COMPACT_STRINGS" "Z") (.int 1)) := by decide +kernel
theorem nf8 : NF[11]? = some (Cond.isRef (.static "jdk/internal/util/Preconditions" "SIOOBE_FORMATTER" "Ljava/util/function/BiFunction;")) := by decide +kernel
theorem nf9 : NF[8]? = some (Cond.isRef (.static Bundle.tN "UNASSIGNED_STACK" Bundle.steD)) := by decide +kernel
theorem nf10 : NF[9]? = some (Cond.isRef (.static Bundle.tN "SUPPRESSED_SENTINEL" Bundle.listD)) := by decide +kernel
theorem nf11 : NF[407]? = some (Cond.not (.castable xIAE xNSE)) := by decide +kernel
def nfML : List Nat := [408, 455, 463, 473, 481, 510, 518]
theorem nfM : ∀ i, i < 7 → NF[nfML.getD i 0]? = some (Cond.exactly (.string RX8 (msgs.getD i (0, "")).1) "java/lang/String") := by decide +kernel
def tbLL : List Nat := [1957, 1958, 1959, 1960, 1961, 1962, 1963, 1964, 1965, 945, 943, 913, 1966, 1967, 1968, 1969, 1970, 1971, 1972, 1973, 1974, 295]
theorem tbL : ∀ i, i < 22 → lw_tbl[tbLL.getD i 0]? = some (Cond.laysStatic "CockTower$Word" (wNm.getD i "") "LCockTower$Word;") := by decide +kernel
def tbML : List Nat := [649, 1000, 1014, 1026, 1066, 1106, 1238]
theorem tbM : ∀ i, i < 7 → lw_tbl[tbML.getD i 0]? = some (Cond.stringRef RX8 (msgs.getD i (0, "")).1 (msgs.getD i (0, "")).2) := by decide +kernel
def tbNL : List Nat := [144, 209, 226, 243, 248, 251, 346]
theorem tbN : ∀ i, i < 7 → lw_tbl[tbNL.getD i 0]? = some (Cond.methodLinkNest (nestI.getD i ("", 0, yX4_init)).1 (nestI.getD i ("", 0, yX4_init)).2.1 (nestI.getD i ("", 0, yX4_init)).2.2 RX8) := by decide +kernel
def tbTL : List Nat := [613, 615, 617, 993, 613, 615, 617, 611]
theorem tbT : ∀ i, i < 8 → lw_tbl[tbTL.getD i 0]? = some ((thw xNSE ++ thw xIAE).getD i (.count 0)) := by decide +kernel
theorem t_a : (.laysStatic "CockTower$Word" "ALL" "[LCockTower$Word;" : Cond) ∈ lw_tbl := List.mem_of_getElem? (i := 788) (by decide +kernel)
theorem t_s : (.laysStatic "CockTower$1" "$SwitchMap$CockTower$Word" "[I" : Cond) ∈ lw_tbl := List.mem_of_getElem? (i := 824) (by decide +kernel)
theorem t_f : (.laysStatic "CockTower" "FACTORIAL" "[I" : Cond) ∈ lw_tbl := List.mem_of_getElem? (i := 1161) (by decide +kernel)
theorem t_c : (.laysStatic "java/lang/String" "COMPACT_STRINGS" "Z" : Cond) ∈ lw_tbl := List.mem_of_getElem? (i := 713) (by decide +kernel)
theorem t_p : (.laysStatic "jdk/internal/util/Preconditions" "SIOOBE_FORMATTER" "Ljava/util/function/BiFunction;" : Cond) ∈ lw_tbl := List.mem_of_getElem? (i := 754) (by decide +kernel)
theorem t_u : (.laysStatic Bundle.tN "UNASSIGNED_STACK" Bundle.steD : Cond) ∈ lw_tbl := List.mem_of_getElem? (i := 636) (by decide +kernel)
theorem t_v : (.laysStatic Bundle.tN "SUPPRESSED_SENTINEL" Bundle.listD : Cond) ∈ lw_tbl := List.mem_of_getElem? (i := 638) (by decide +kernel)
theorem t_r : (.stringRef RX2 103 ";()+-*/<=" : Cond) ∈ lw_tbl := List.mem_of_getElem? (i := 699) (by decide +kernel)
theorem t_w6 : (.methodLinkNest RX6 65 yX8_within RX8 : Cond) ∈ lw_tbl := List.mem_of_getElem? (i := 444) (by decide +kernel)
theorem t_w4 : (.methodLinkNest RX4 67 yX8_within RX8 : Cond) ∈ lw_tbl := List.mem_of_getElem? (i := 465) (by decide +kernel)
theorem t_i_w : (.initialized "CockTower$Word" : Cond) ∈ lw_tbl := List.mem_of_getElem? (i := 115) (by decide +kernel)
theorem t_i_1 : (.initialized "CockTower$1" : Cond) ∈ lw_tbl := List.mem_of_getElem? (i := 128) (by decide +kernel)
theorem t_i_8 : (.initialized "CockTower" : Cond) ∈ lw_tbl := List.mem_of_getElem? (i := 108) (by decide +kernel)
theorem t_i_s : (.initialized "java/lang/String" : Cond) ∈ lw_tbl := List.mem_of_getElem? (i := 123) (by decide +kernel)
theorem t_i_p : (.initialized "jdk/internal/util/Preconditions" : Cond) ∈ lw_tbl := List.mem_of_getElem? (i := 126) (by decide +kernel)
theorem t_i_t : (.initialized "java/lang/Throwable" : Cond) ∈ lw_tbl := List.mem_of_getElem? (i := 117) (by decide +kernel)
theorem sb_ne : ∀ i, i < 23 → ∀ j, j < 23 → sLen.getD i 0 = sLen.getD j 0 → (∀ k, k < sLen.getD i 0 → (sByt.getD i []).getD k 0 = (sByt.getD j []).getD k 0) → i = j := by decide +kernel
theorem my_Sof {args : Array Value} {s : State} {A : Nat → Prop} (hn : ∀ (k : Nat) (c : Cond), NF[k]? = some c → c.before args s = true) (hA : ∀ a : Nat, a < s.heap.size → ¬ A a) :
    ∃ adK adV : Nat → Nat, vk_S 23 sLen sByt adK adV A s s.heap ∧ ∀ i : Nat, i < 23 → (tmS i).eval args s none [] s = some (.ref (adK i)) := by
  have h0 : ∀ i : Nat, ∃ q : Nat × Nat, i < 23 → (tmS i).eval args s none [] s = some (.ref q.1) ∧ va_O "java/lang/String" q.1 A s s.heap ∧ va_OF "java/lang/String" "coder" "B" (.int 0) q.1 A s s.heap ∧ (Term.field (tmS i) "java/lang/String" "value" "[B").eval args s none [] s = some (.ref q.2) ∧ va_OF "java/lang/String" "value" "[B" (.ref q.2) q.1 A s s.heap ∧ va_T .byte q.2 (sLen.getD i 0) (fun j => .int ((sByt.getD i []).getD j 0)) A s s.heap := by
    intro i
    by_cases hi : i < 23
    · obtain ⟨a, c, cA, kA, q1, q2, q3, q4, q5, q6, -⟩ := Cond.exactly_spec (args := args) (first := s) (o := none) (s := s) (idx := []) (t := tmS i) (cls := "java/lang/String") (hn _ _ (nfSe i hi))
      obtain ⟨t, ht, hT⟩ := va_Tof (f := fun j => .int ((sByt.getD i []).getD j 0)) (A := A) ((show ∀ i, i < 23 → sLen.getD i 0 < 2 ^ 31 by decide +kernel) i hi) (hn _ _ (nfSa i hi)) (va_eqt (hn _ _ (nfSl i hi))) (fun j hj => va_eqt (hn _ _ (nfSb i hi j hj))) hA
      exact ⟨(a, t), fun _ => ⟨q1, ⟨cA, q3, q5, by rw [q6]; exact q2, hA a (Array.getElem?_eq_some_iff.mp q3).1⟩, vk_OFof q1 (va_eqt (hn _ _ (nfSc i hi))) hA, ht, vk_OFof q1 ht hA, hT⟩⟩
    · exact ⟨(0, 0), fun h => absurd h hi⟩
  obtain ⟨ad, had⟩ := Classical.axiomOfChoice h0
  refine ⟨fun i => (ad i).1, fun i => (ad i).2, ⟨fun i hi => ⟨(had i hi).2.1, (had i hi).2.2.1, (had i hi).2.2.2.2.1, (had i hi).2.2.2.2.2⟩, fun i j hi hj e => ?_⟩, fun i hi => (had i hi).1⟩
  obtain ⟨a1, -, -, a4, -, cl, a6, -, -, a7, a8, a9, -⟩ := had i hi
  obtain ⟨b1, -, -, b4, -, cl', b6, -, -, b7, b8, b9, -⟩ := had j hj
  have e0 : (ad i).1 = (ad j).1 := e
  have ev : (ad i).2 = (ad j).2 := by
    rw [va_fe a1, e0, ← va_fe b1, b4] at a4
    exact (Value.ref.inj (Option.some.inj a4)).symm
  rw [ev, b6] at a6
  cases a6
  have hlen : sLen.getD i 0 = sLen.getD j 0 := by
    have h := a8.symm.trans b8
    have h2 := congrArg Int32.toNatClampNeg h
    exact (show ∀ i, i < 23 → ∀ j, j < 23 → (Int32.ofNat (sLen.getD i 0)).toNatClampNeg = (Int32.ofNat (sLen.getD j 0)).toNatClampNeg → sLen.getD i 0 = sLen.getD j 0 by decide +kernel) i hi j hj h2
  refine sb_ne i hi j hj hlen (fun k hk => ?_)
  have h1 := a9 k hk
  rw [b9 k (hlen ▸ hk)] at h1
  exact (Value.int.inj (Option.some.inj h1)).symm

theorem env_K {s : State} {args : Array Value} (htw : ∀ w ∈ WS, w.before args s = true) : ∃ (G : va_G) (cy : Nat → ClassId), va_K G vwCl (tysW cy) s := by
  obtain ⟨c0, iS0, hKn0⟩ := u_known (C := RX1) (T := TX1) (N := 3) (n := 3) htw wi_X1 (htw _ m_208)
  obtain ⟨c1, iS1, hKn1⟩ := u_known (C := RX2) (T := TX2) (N := 15) (n := 15) htw wi_X2 (htw _ m_242)
  obtain ⟨c2, iS2, hKn2⟩ := u_known (C := RX3) (T := TX3) (N := 3) (n := 3) htw wi_X3 (htw _ m_225)
  obtain ⟨c3, iS3, hKn3⟩ := u_known (C := RX4) (T := TX4) (N := 12) (n := 12) htw wi_X4 (htw _ m_143)
  obtain ⟨c4, iS4, hKn4⟩ := u_known (C := RX6) (T := TX6) (N := 10) (n := 10) htw wi_X6 (htw _ m_250)
  obtain ⟨c5, iS5, hKn5⟩ := u_known (C := RX8) (T := TX8) (N := 15) (n := 15) htw wi_X8 (htw _ m_135)
  obtain ⟨c6, iS6, hKn6⟩ := u_known (C := RX9) (T := TX9) (N := 65) (n := 65) htw wi_X9 (htw _ m_1296)
  obtain ⟨y0, k0, o0, f0, g0, h0⟩ := Cond.arrayClass_spec (htw _ m_206)
  obtain ⟨y1, k1, o1, f1, g1, h1⟩ := Cond.arrayClass_spec (htw _ m_292)
  obtain ⟨y2, k2, o2, f2, g2, h2⟩ := Cond.arrayClass_spec (htw _ m_293)
  obtain ⟨y3, k3, o3, f3, g3, h3⟩ := Cond.arrayClass_spec (htw _ m_1497)
  refine ⟨(fun k => match k with | 0 => c0 | 1 => c1 | 2 => c2 | 3 => c3 | 4 => c4 | 5 => c5 | _ => c6, fun k => match k with | 0 => iS0 | 1 => iS1 | 2 => iS2 | 3 => iS3 | 4 => iS4 | 5 => iS5 | _ => iS6), (fun k => match k with | 0 => y0 | 1 => y1 | 2 => y2 | _ => y3), ?_, ?_⟩
  · intro k q hq
    match k, hq with
    | 0, hq => cases hq; exact hKn0
    | 1, hq => cases hq; exact hKn1
    | 2, hq => cases hq; exact hKn2
    | 3, hq => cases hq; exact hKn3
    | 4, hq => cases hq; exact hKn4
    | 5, hq => cases hq; exact hKn5
    | 6, hq => cases hq; exact hKn6
    | k + 7, hq => simp [vwCl] at hq
  · intro k q hq
    match k, hq with
    | 0, hq => cases hq; exact ⟨fun N z => ⟨(fun k h => by cases h), k0, g0, o0, h0⟩, f0⟩
    | 1, hq => cases hq; exact ⟨fun N z => ⟨(fun k h => by cases h), k1, g1, o1, h1⟩, f1⟩
    | 2, hq => cases hq; exact ⟨fun N z => ⟨(fun k h => by cases h), k2, g2, o2, h2⟩, f2⟩
    | 3, hq => cases hq; exact ⟨fun N z => ⟨(fun k h => by cases h), k3, g3, o3, h3⟩, f3⟩
    | k + 4, hq => simp [tysW] at hq
theorem env_A {s : State} {args : Array Value} {A : Nat → Prop} (hts : ∀ w ∈ lw_tbl, w.before args s = true) (hn : ∀ (k : Nat) (c : Cond), NF[k]? = some c → c.before args s = true) (hA : ∀ a : Nat, a < s.heap.size → ¬ A a) : ∃ ad : Nat → Nat, ∀ (G : va_G) (cy : Nat → ClassId) (ρ : Nat → Nat), XI (G, cy, ρ, ad) A s s.heap ∧ XN (YC (G, cy, ρ, ad)) A s s.heap := by
  have htb : ∀ (k : Nat) (c : Cond), lw_tbl[k]? = some c → c.before args s = true := fun k c h => hts c (List.mem_of_getElem? h)
  obtain ⟨adW, hEn, hev⟩ := va_Enof2 (A := A) (E := "CockTower$Word") (d := "LCockTower$Word;") (nm := wNm) (F := wFs) (fun i hi => htb _ _ (tbL i hi)) (hts _ t_i_w) (fun i hi => hn _ _ (nfE i hi)) (fun q hq i hi => by
    simp only [wFs, List.mem_cons, List.not_mem_nil, or_false] at hq
    rcases hq with rfl | rfl
    · exact hn _ _ (nfV i hi)
    · exact hn _ _ (nfO i hi)) (fun i j hi hj hij => (nfP i hi j hj hij).imp (fun h => hn _ _ h) (fun h => hn _ _ h)) hA
  obtain ⟨adK, adV, hSt, hKe⟩ := my_Sof (A := A) hn hA
  obtain ⟨tA, eA, hTA⟩ := va_Tof (f := fun j => .ref (adW j)) (A := A) (N := 22) (by decide) (hn _ _ nf1) (va_eqt (hn _ _ nf2)) (fun j hj => va_eqv (hn _ _ (nfA j hj)) (hev j hj)) hA
  obtain ⟨tF, eF, hTF⟩ := va_Tof (f := fun j => .int (facL.getD j 0)) (A := A) (N := 5) (by decide) (hn _ _ nf5) (va_eqt (hn _ _ nf6)) (fun j hj => va_eqt (hn _ _ (nfF j hj))) hA
  obtain ⟨tS, eS, hTS⟩ := va_Tof (f := fun j => .int (swL.getD j 0)) (A := A) (N := 22) (by decide) (hn _ _ nf3) (va_eqt (hn _ _ nf4)) (fun j hj => va_eqt (hn _ _ (nfW j hj))) hA
  have hEf : va_Ef 22 "CockTower$Word" "text" "Ljava/lang/String;" (fun i => .ref (adK i)) adW A s s.heap := va_Efof (tm := tmS) (nm := wNm) (fun i hi => hev i hi) (fun i hi => hn _ _ (nfT i hi)) (fun i hi => hKe i (by omega)) hA
  have hYT : YT A s s.heap := by
    refine ⟨vx_Zqof (hts _ t_u) (hts _ t_i_t) (hn _ _ nf9) hA, vx_Zqof (hts _ t_v) (hts _ t_i_t) (hn _ _ nf10) hA, fun w hw => ?_, fun q hq => ?_, va_Nc.of (hn _ _ nf11)⟩
    · obtain ⟨i, hi, e⟩ := List.mem_iff_getElem.mp hw
      have hi8 : i < 8 := hi
      have h9 := htb _ _ (tbT i hi8)
      have eq0 : (thw xNSE ++ thw xIAE).getD i (.count 0) = w := by rw [List.getD_eq_getElem?_getD, List.getElem?_eq_getElem hi, Option.getD_some, e]
      rw [eq0] at h9
      exact va_Nw.of (by
        simp only [thw, List.cons_append, List.nil_append, List.mem_cons, List.not_mem_nil, or_false] at hw
        rcases hw with rfl | rfl | rfl | rfl | rfl | rfl | rfl | rfl <;> rfl) h9
    · obtain ⟨i, hi, e⟩ := List.mem_iff_getElem.mp hq
      have hi7 : i < 7 := hi
      have h9 := htb _ _ (tbM i hi7)
      have h8 := hn _ _ (nfM i hi7)
      have eq0 : msgs.getD i (0, "") = q := by rw [List.getD_eq_getElem?_getD, List.getElem?_eq_getElem hi, Option.getD_some, e]
      rw [eq0] at h9 h8
      obtain ⟨a, c, cA, kA, q1, -⟩ := Cond.exactly_spec (args := args) (first := s) (o := none) (s := s) (idx := []) (t := .string RX8 q.1) (cls := "java/lang/String") h8
      exact ⟨a, vk_R.of h9 q1⟩
  refine ⟨fun i => if i < 100 then adW i else if i < 200 then adK (i - 100) else if i < 300 then adV (i - 200) else if i = 300 then tA else if i = 301 then tF else tS, fun G cy ρ => ?_⟩
  have hw : ∀ i, i < 22 → (fun i => if i < 100 then adW i else if i < 200 then adK (i - 100) else if i < 300 then adV (i - 200) else if i = 300 then tA else if i = 301 then tF else tS) i = adW i := fun i hi => if_pos (by omega)
  generalize hg : (fun i => if i < 100 then adW i else if i < 200 then adK (i - 100) else if i < 300 then adV (i - 200) else if i = 300 then tA else if i = 301 then tF else tS) = ad at hw ⊢
  have hk : ∀ i, i < 23 → ad (100 + i) = adK i := fun i hi => by rw [← hg]; simp only []; rw [if_neg (by omega), if_pos (by omega), Nat.add_sub_cancel_left]
  have hv : ∀ i, i < 23 → ad (200 + i) = adV i := fun i hi => by rw [← hg]; simp only []; rw [if_neg (by omega), if_neg (by omega), if_pos (by omega), Nat.add_sub_cancel_left]
  have h300 : ad 300 = tA := by rw [← hg]; rfl
  have h301 : ad 301 = tF := by rw [← hg]; rfl
  have h302 : ad 302 = tS := by rw [← hg]; rfl
  have hEn' : EnW ad A s s.heap := ⟨fun i hi => by rw [hw i hi]; exact hEn.1 i hi, fun i j hi hj h => hEn.2 i j hi hj (by rw [hw i hi, hw j hj] at h; exact h)⟩
  have hS' : vk_S 23 sLen sByt (fun k => ad (100 + k)) (fun k => ad (200 + k)) A s s.heap := ⟨fun i hi => by
    simp only [hk i hi, hv i hi]
    exact hSt.1 i hi, fun i j hi hj h => hSt.2 i j hi hj (by simp only [hk i hi, hk j hj] at h; exact h)⟩
  refine ⟨⟨fun q hq => ?_, hEn'⟩, va_Nw.of rfl (hts _ t_w6), va_Nw.of rfl (hts _ t_w4), hYT, hEn', fun i hi => ?_, hS', ?_, ?_, ?_, ?_, ?_, ?_, ?_, ?_, ?_⟩
  · obtain ⟨i, hi, e⟩ := List.mem_iff_getElem.mp hq
    have h9 := htb _ _ (tbN i hi)
    have eq0 : nestI.getD i ("", 0, yX4_init) = q := by rw [List.getD_eq_getElem?_getD, List.getElem?_eq_getElem hi, Option.getD_some, e]
    rw [eq0] at h9
    exact va_Nw.of rfl h9
  · show va_OF _ _ _ (.ref (ad (100 + i))) (ad i) A s s.heap
    rw [hk i (by omega), hw i hi]
    exact hEf i hi
  · show va_Z _ _ _ (.ref (ad 300)) A s s.heap
    rw [h300]
    exact va_Zref (hts _ t_a) (hts _ t_i_w) eA hA
  · show va_T _ (ad 300) 22 (fun j => .ref (ad j)) A s s.heap
    rw [h300]
    obtain ⟨cell, a1, a2, a3, a4, a5, a6, a7⟩ := hTA
    exact ⟨cell, a1, a2, a3, a4, a5, fun j hj => (by show cell.slots[j]? = some (Value.ref (ad j)); rw [hw j hj]; exact a6 j hj), a7⟩
  · show va_Z _ _ _ (.ref (ad 301)) A s s.heap
    rw [h301]
    exact va_Zref (hts _ t_f) (hts _ t_i_8) eF hA
  · show va_T _ (ad 301) _ _ A s s.heap
    rw [h301]
    exact hTF
  · show va_Z _ _ _ (.ref (ad 302)) A s s.heap
    rw [h302]
    exact va_Zref (hts _ t_s) (hts _ t_i_1) eS hA
  · show va_T _ (ad 302) _ _ A s s.heap
    rw [h302]
    exact hTS
  · exact va_Zof (hts _ t_c) (hts _ t_i_s) (va_eqi (hn _ _ nf7)) hA
  · show vk_R RX2 103 ";()+-*/<=" (ad (100 + 22)) s
    rw [hk 22 (by decide)]
    exact vk_R.of (hts _ t_r) (hKe 22 (by decide))
  · exact va_Zqof (hts _ t_p) (hts _ t_i_p) (hn _ _ nf8) hA
theorem law_env {p : Program} {l : Launch} {s : State} {m : MethodId} {meth : Method} {c : Code} {b L : Nat} {xs : Nat → Int32} (hflags : l.flags = flags0) (C0 : lw_At p s m meth c b L xs) : l.stackTraces = false ∧ ∃ w : Wd, FX w p m c cL_law 7 s #[Value.ref b] RL ∧ XI w (A0 s) s s.heap ∧ XN (YC w) (A0 s) s s.heap := by
  obtain ⟨hx, hb, hr, hml, hown, hts, hX, hbl, hlocks, hgv⟩ := id C0
  have hn : ∀ (k : Nat) (c : Cond), NF[k]? = some c → c.before #[Value.ref b] s = true := fun k c h => flat_of_before _ hgv c (List.mem_of_getElem? h)
  have htw : ∀ w ∈ WS, w.before #[Value.ref b] s = true := fun w hw => hts w ((List.mem_filter.mp hw).1)
  obtain ⟨G, cy, hK⟩ := env_K htw
  obtain ⟨ad, had⟩ := env_A (A := A0 s) hts hn (fun a h => Nat.not_le.mpr h)
  obtain ⟨h1, h2⟩ := had G cy (fun _ => 0)
  exact ⟨by unfold Launch.stackTraces; rw [hflags]; decide +kernel, (G, cy, fun _ => 0, ad), ⟨⟨hx, hb, hml, hown, htw⟩, hK⟩, h1, h2⟩
theorem whole_of {p : Program} {e : Env} {s : State} {m : MethodId} {below : List Frame} {meth : Method} {c : Code} (l : Launch) (hflags : l.flags = flags0) {b L : Nat} {xs : Nat → Int32} (hL : L ≤ 3072) (C0 : lw_At p s m meth c b L xs) (n : Nat) (R : Mem → Mem → Prop) (hR0 : R mc0 mm0) (hR : ∀ (x4 : Int32) (M M2 : Mem), R M M2 → ∃ M9 M8, lw_step n xs x4 M M2 = some (M9, M8) ∧ R M9 M8) : W p l e room_1 s m #[Value.ref b] below meth c s.heap [] 0 0 (lw_Z below #[Value.ref b] s) (entryFrame m ([Value.ref b] : List Value).toArray 7) := by
  obtain ⟨hst, w, F, h1, h2⟩ := law_env hflags C0
  obtain ⟨hx, hb, hr, hml, hown, hts, hX, hbl, hlocks, hgv⟩ := id C0
  exact law_walk F hst h1 h2 hX hbl hr hlocks hL n R hR0 hR
