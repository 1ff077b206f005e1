/-- the tables' words that ride along every call -/
def TG : List Cond := lw_tbl.filter goodWord
theorem TG_in {w : Cond} (h : w ∈ lw_tbl) (g : goodWord w = true) : w ∈ TG := List.mem_filter.mpr ⟨h, g⟩
theorem TG_good : ∀ w ∈ TG, (w.onTables && w.keeps) = true ∨ ∃ ty, w = .arrayClass ty := fun _ h => good_of_word (List.mem_filter.mp h).2
theorem TG_lw : ∀ w ∈ TG, w ∈ lw_tbl := fun _ h => (List.mem_filter.mp h).1
theorem tb_1 : ∀ w ∈ tables_1_1, w ∈ lw_tbl := fun w h => (List.mem_append_right _ (List.mem_append_left _ h))
theorem tw_1 {w : Cond} (i : Nat) (h : tables_1_1[i]? = some w) (g : goodWord w = true) : w ∈ TG := TG_in (tb_1 _ (List.mem_of_getElem? h)) g
theorem tb_2 : ∀ w ∈ tables_1_2, w ∈ lw_tbl := fun w h => (List.mem_append_right _ (List.mem_append_right _ (List.mem_append_left _ h)))
theorem tw_2 {w : Cond} (i : Nat) (h : tables_1_2[i]? = some w) (g : goodWord w = true) : w ∈ TG := TG_in (tb_2 _ (List.mem_of_getElem? h)) g
theorem tb_3 : ∀ w ∈ tables_1_3, w ∈ lw_tbl := fun w h => (List.mem_append_right _ (List.mem_append_right _ (List.mem_append_right _ (List.mem_append_left _ h))))
theorem tw_3 {w : Cond} (i : Nat) (h : tables_1_3[i]? = some w) (g : goodWord w = true) : w ∈ TG := TG_in (tb_3 _ (List.mem_of_getElem? h)) g
theorem tb_4 : ∀ w ∈ tables_1_4, w ∈ lw_tbl := fun w h => (List.mem_append_right _ (List.mem_append_right _ (List.mem_append_right _ (List.mem_append_right _ (List.mem_append_left _ h)))))
theorem tw_4 {w : Cond} (i : Nat) (h : tables_1_4[i]? = some w) (g : goodWord w = true) : w ∈ TG := TG_in (tb_4 _ (List.mem_of_getElem? h)) g
theorem tb_5 : ∀ w ∈ tables_1_5, w ∈ lw_tbl := fun w h => (List.mem_append_right _ (List.mem_append_right _ (List.mem_append_right _ (List.mem_append_right _ (List.mem_append_right _ (List.mem_append_left _ h))))))
theorem tw_5 {w : Cond} (i : Nat) (h : tables_1_5[i]? = some w) (g : goodWord w = true) : w ∈ TG := TG_in (tb_5 _ (List.mem_of_getElem? h)) g
theorem tb_6 : ∀ w ∈ tables_1_6, w ∈ lw_tbl := fun w h => (List.mem_append_right _ (List.mem_append_right _ (List.mem_append_right _ (List.mem_append_right _ (List.mem_append_right _ (List.mem_append_right _ (List.mem_append_left _ h)))))))
theorem tw_6 {w : Cond} (i : Nat) (h : tables_1_6[i]? = some w) (g : goodWord w = true) : w ∈ TG := TG_in (tb_6 _ (List.mem_of_getElem? h)) g
theorem tb_7 : ∀ w ∈ tables_1_7, w ∈ lw_tbl := fun w h => (List.mem_append_right _ (List.mem_append_right _ (List.mem_append_right _ (List.mem_append_right _ (List.mem_append_right _ (List.mem_append_right _ (List.mem_append_right _ (List.mem_append_left _ h))))))))
theorem tw_7 {w : Cond} (i : Nat) (h : tables_1_7[i]? = some w) (g : goodWord w = true) : w ∈ TG := TG_in (tb_7 _ (List.mem_of_getElem? h)) g
theorem tb_8 : ∀ w ∈ tables_1_8, w ∈ lw_tbl := fun w h => (List.mem_append_right _ (List.mem_append_right _ (List.mem_append_right _ (List.mem_append_right _ (List.mem_append_right _ (List.mem_append_right _ (List.mem_append_right _ (List.mem_append_right _ (List.mem_append_left _ h)))))))))
theorem tw_8 {w : Cond} (i : Nat) (h : tables_1_8[i]? = some w) (g : goodWord w = true) : w ∈ TG := TG_in (tb_8 _ (List.mem_of_getElem? h)) g
theorem tb_9 : ∀ w ∈ tables_1_9, w ∈ lw_tbl := fun w h => (List.mem_append_right _ (List.mem_append_right _ (List.mem_append_right _ (List.mem_append_right _ (List.mem_append_right _ (List.mem_append_right _ (List.mem_append_right _ (List.mem_append_right _ (List.mem_append_right _ (List.mem_append_left _ h))))))))))
theorem tw_9 {w : Cond} (i : Nat) (h : tables_1_9[i]? = some w) (g : goodWord w = true) : w ∈ TG := TG_in (tb_9 _ (List.mem_of_getElem? h)) g
theorem tb_10 : ∀ w ∈ tables_1_10, w ∈ lw_tbl := fun w h => (List.mem_append_right _ (List.mem_append_right _ (List.mem_append_right _ (List.mem_append_right _ (List.mem_append_right _ (List.mem_append_right _ (List.mem_append_right _ (List.mem_append_right _ (List.mem_append_right _ (List.mem_append_right _ (List.mem_append_left _ h)))))))))))
theorem tw_10 {w : Cond} (i : Nat) (h : tables_1_10[i]? = some w) (g : goodWord w = true) : w ∈ TG := TG_in (tb_10 _ (List.mem_of_getElem? h)) g
theorem tb_11 : ∀ w ∈ tables_1_11, w ∈ lw_tbl := fun w h => (List.mem_append_right _ (List.mem_append_right _ (List.mem_append_right _ (List.mem_append_right _ (List.mem_append_right _ (List.mem_append_right _ (List.mem_append_right _ (List.mem_append_right _ (List.mem_append_right _ (List.mem_append_right _ (List.mem_append_right _ (List.mem_append_left _ h))))))))))))
theorem tw_11 {w : Cond} (i : Nat) (h : tables_1_11[i]? = some w) (g : goodWord w = true) : w ∈ TG := TG_in (tb_11 _ (List.mem_of_getElem? h)) g
theorem tb_12 : ∀ w ∈ tables_1_12, w ∈ lw_tbl := fun w h => (List.mem_append_right _ (List.mem_append_right _ (List.mem_append_right _ (List.mem_append_right _ (List.mem_append_right _ (List.mem_append_right _ (List.mem_append_right _ (List.mem_append_right _ (List.mem_append_right _ (List.mem_append_right _ (List.mem_append_right _ (List.mem_append_right _ (List.mem_append_left _ h)))))))))))))
theorem tw_12 {w : Cond} (i : Nat) (h : tables_1_12[i]? = some w) (g : goodWord w = true) : w ∈ TG := TG_in (tb_12 _ (List.mem_of_getElem? h)) g
theorem tb_13 : ∀ w ∈ tables_1_13, w ∈ lw_tbl := fun w h => (List.mem_append_right _ (List.mem_append_right _ (List.mem_append_right _ (List.mem_append_right _ (List.mem_append_right _ (List.mem_append_right _ (List.mem_append_right _ (List.mem_append_right _ (List.mem_append_right _ (List.mem_append_right _ (List.mem_append_right _ (List.mem_append_right _ (List.mem_append_right _ (List.mem_append_left _ h))))))))))))))
theorem tw_13 {w : Cond} (i : Nat) (h : tables_1_13[i]? = some w) (g : goodWord w = true) : w ∈ TG := TG_in (tb_13 _ (List.mem_of_getElem? h)) g
theorem tb_14 : ∀ w ∈ tables_1_14, w ∈ lw_tbl := fun w h => (List.mem_append_right _ (List.mem_append_right _ (List.mem_append_right _ (List.mem_append_right _ (List.mem_append_right _ (List.mem_append_right _ (List.mem_append_right _ (List.mem_append_right _ (List.mem_append_right _ (List.mem_append_right _ (List.mem_append_right _ (List.mem_append_right _ (List.mem_append_right _ (List.mem_append_right _ h))))))))))))))
theorem tw_14 {w : Cond} (i : Nat) (h : tables_1_14[i]? = some w) (g : goodWord w = true) : w ∈ TG := TG_in (tb_14 _ (List.mem_of_getElem? h)) g
theorem tw_s {w : Cond} (i : Nat) (h : (k2_sels lw_privs)[i]? = some w) (g : goodWord w = true) : w ∈ TG := TG_in (List.mem_append_left _ (List.mem_of_getElem? h)) g
abbrev wsOf (y : MethodName) (b : ByteArray) (n : Nat) (r : Option FieldType) : List Cond := Cond.code y b n r :: TG
theorem gwt_in {y : MethodName} {b : ByteArray} {n : Nat} {r : Option FieldType} (h : Cond.code y b n r ∈ TG) : GoodIn TG (wsOf y b n r) := fun w hw => by
  rcases List.mem_cons.mp hw with e | e
  · rw [e]; exact ⟨h, TG_good _ h⟩
  · exact ⟨e, TG_good _ e⟩
/-- the words that speak of nests: they are no good words, but they stay -/
def isNest : Cond → Bool
  | .methodLinkNest .. => true
  | .fieldLinkNest .. => true
  | _ => false
def NW (U : State) : Prop := ∀ w ∈ lw_tbl, isNest w = true → va_Nw w U
theorem NW.same {u U : State} (h : u.vm = U.vm) (z : NW u) : NW U := fun w hw hn => va_Nw.same (by cases w <;> first | rfl | cases hn) h (z w hw hn)
theorem NW.warm {s U : State} (h : s.WarmedH U.vm) (z : NW s) : NW U := fun w hw hn => by
  cases w <;> first | exact va_Nw.warmM h (z _ hw hn) | exact va_Nw.warmF h (z _ hw hn) | (cases hn; done)
theorem NW.of {A : Array Value} {s : State} (h : ∀ w ∈ lw_tbl, w.before A s = true) : NW s := fun w hw hn => va_Nw.of (by cases w <;> first | rfl | cases hn) (h w hw)
theorem goodIn_x {big : List Cond} (ws : List Cond) (ps : List Nat) (hp : ws = ps.filterMap (fun i => big[i]?)) : ∀ w ∈ ws, w ∈ big := by
  intro w hw
  rw [hp] at hw
  obtain ⟨i, -, hi⟩ := List.mem_filterMap.mp hw
  exact List.mem_of_getElem? hi
theorem n_V : ∀ a, a < 15 → ∀ b, b < 15 → a ≠ b → (F_V a).2.1 ≠ (F_V b).2.1 := by decide +kernel
theorem t_V_ok : ∀ k, k < 15 → parseFieldDescriptor (F_V k).2.2.1 = some (t_V k) := by decide +kernel
theorem in_V : ∀ w ∈ u_ws R_V F_V 15, w ∈ TG := fun w hw => TG_in (List.mem_append_right _ ((goodIn_x (big := tables_1) (u_ws R_V F_V 15) [730, 732, 734, 736, 738, 740, 742, 744, 746, 748, 750, 752, 754, 756, 758] (by decide +kernel)) w hw)) (List.all_eq_true.mp (show (u_ws R_V F_V 15).all goodWord = true by decide +kernel) w hw)
theorem n_Snk : ∀ a, a < 7 → ∀ b, b < 7 → a ≠ b → (F_Snk a).2.1 ≠ (F_Snk b).2.1 := by decide +kernel
theorem t_Snk_ok : ∀ k, k < 7 → parseFieldDescriptor (F_Snk k).2.2.1 = some (t_Snk k) := by decide +kernel
theorem in_Snk : ∀ w ∈ u_ws R_Snk F_Snk 7, w ∈ TG := fun w hw => TG_in (List.mem_append_right _ ((goodIn_x (big := tables_1) (u_ws R_Snk F_Snk 7) [54, 56, 58, 60, 62, 64, 66] (by decide +kernel)) w hw)) (List.all_eq_true.mp (show (u_ws R_Snk F_Snk 7).all goodWord = true by decide +kernel) w hw)
theorem n_Scn : ∀ a, a < 8 → ∀ b, b < 8 → a ≠ b → (F_Scn a).2.1 ≠ (F_Scn b).2.1 := by decide +kernel
theorem t_Scn_ok : ∀ k, k < 8 → parseFieldDescriptor (F_Scn k).2.2.1 = some (t_Scn k) := by decide +kernel
theorem in_Scn : ∀ w ∈ u_ws R_Scn F_Scn 8, w ∈ TG := fun w hw => TG_in (List.mem_append_right _ ((goodIn_x (big := tables_1) (u_ws R_Scn F_Scn 8) [107, 109, 111, 113, 115, 117, 119, 121] (by decide +kernel)) w hw)) (List.all_eq_true.mp (show (u_ws R_Scn F_Scn 8).all goodWord = true by decide +kernel) w hw)
theorem n_Sch : ∀ a, a < 13 → ∀ b, b < 13 → a ≠ b → (F_Sch a).2.1 ≠ (F_Sch b).2.1 := by decide +kernel
theorem t_Sch_ok : ∀ k, k < 13 → parseFieldDescriptor (F_Sch k).2.2.1 = some (t_Sch k) := by decide +kernel
theorem in_Sch : ∀ w ∈ u_ws R_Sch F_Sch 13, w ∈ TG := fun w hw => TG_in (List.mem_append_right _ ((goodIn_x (big := tables_1) (u_ws R_Sch F_Sch 13) [190, 192, 194, 196, 198, 200, 202, 204, 206, 208, 210, 212, 214] (by decide +kernel)) w hw)) (List.all_eq_true.mp (show (u_ws R_Sch F_Sch 13).all goodWord = true by decide +kernel) w hw)
theorem n_Rec : ∀ a, a < 15 → ∀ b, b < 15 → a ≠ b → (F_Rec a).2.1 ≠ (F_Rec b).2.1 := by decide +kernel
theorem t_Rec_ok : ∀ k, k < 15 → parseFieldDescriptor (F_Rec k).2.2.1 = some (t_Rec k) := by decide +kernel
theorem in_Rec : ∀ w ∈ u_ws R_Rec F_Rec 15, w ∈ TG := fun w hw => TG_in (List.mem_append_right _ ((goodIn_x (big := tables_1) (u_ws R_Rec F_Rec 15) [250, 252, 254, 256, 258, 260, 262, 264, 266, 268, 270, 272, 274, 276, 278] (by decide +kernel)) w hw)) (List.all_eq_true.mp (show (u_ws R_Rec F_Rec 15).all goodWord = true by decide +kernel) w hw)
theorem n_Wrt : ∀ a, a < 20 → ∀ b, b < 20 → a ≠ b → (F_Wrt a).2.1 ≠ (F_Wrt b).2.1 := by decide +kernel
theorem t_Wrt_ok : ∀ k, k < 20 → parseFieldDescriptor (F_Wrt k).2.2.1 = some (t_Wrt k) := by decide +kernel
theorem in_Wrt : ∀ w ∈ u_ws R_Wrt F_Wrt 20, w ∈ TG := fun w hw => TG_in (List.mem_append_right _ ((goodIn_x (big := tables_1) (u_ws R_Wrt F_Wrt 20) [311, 313, 315, 317, 319, 321, 323, 325, 327, 329, 331, 333, 335, 337, 339, 341, 343, 345, 347, 349] (by decide +kernel)) w hw)) (List.all_eq_true.mp (show (u_ws R_Wrt F_Wrt 20).all goodWord = true by decide +kernel) w hw)
theorem n_Vlt : ∀ a, a < 20 → ∀ b, b < 20 → a ≠ b → (F_Vlt a).2.1 ≠ (F_Vlt b).2.1 := by decide +kernel
theorem t_Vlt_ok : ∀ k, k < 20 → parseFieldDescriptor (F_Vlt k).2.2.1 = some (t_Vlt k) := by decide +kernel
theorem in_Vlt : ∀ w ∈ u_ws R_Vlt F_Vlt 20, w ∈ TG := fun w hw => TG_in (List.mem_append_right _ ((goodIn_x (big := tables_1) (u_ws R_Vlt F_Vlt 20) [423, 425, 427, 429, 431, 433, 435, 437, 439, 441, 443, 445, 447, 449, 451, 453, 455, 457, 459, 461] (by decide +kernel)) w hw)) (List.all_eq_true.mp (show (u_ws R_Vlt F_Vlt 20).all goodWord = true by decide +kernel) w hw)
theorem n_Opn : ∀ a, a < 17 → ∀ b, b < 17 → a ≠ b → (F_Opn a).2.1 ≠ (F_Opn b).2.1 := by decide +kernel
theorem t_Opn_ok : ∀ k, k < 17 → parseFieldDescriptor (F_Opn k).2.2.1 = some (t_Opn k) := by decide +kernel
theorem in_Opn : ∀ w ∈ u_ws R_Opn F_Opn 17, w ∈ TG := fun w hw => TG_in (List.mem_append_right _ ((goodIn_x (big := tables_1) (u_ws R_Opn F_Opn 17) [513, 515, 517, 519, 521, 523, 525, 527, 529, 531, 533, 535, 537, 539, 541, 543, 545] (by decide +kernel)) w hw)) (List.all_eq_true.mp (show (u_ws R_Opn F_Opn 17).all goodWord = true by decide +kernel) w hw)
theorem n_Src : ∀ a, a < 5 → ∀ b, b < 5 → a ≠ b → (F_Src a).2.1 ≠ (F_Src b).2.1 := by decide +kernel
theorem t_Src_ok : ∀ k, k < 5 → parseFieldDescriptor (F_Src k).2.2.1 = some (t_Src k) := by decide +kernel
theorem in_Src : ∀ w ∈ u_ws R_Src F_Src 5, w ∈ TG := fun w hw => TG_in (List.mem_append_right _ ((goodIn_x (big := tables_1) (u_ws R_Src F_Src 5) [484, 486, 488, 490, 492] (by decide +kernel)) w hw)) (List.all_eq_true.mp (show (u_ws R_Src F_Src 5).all goodWord = true by decide +kernel) w hw)
theorem n_Qry : ∀ a, a < 20 → ∀ b, b < 20 → a ≠ b → (F_Qry a).2.1 ≠ (F_Qry b).2.1 := by decide +kernel
theorem t_Qry_ok : ∀ k, k < 20 → parseFieldDescriptor (F_Qry k).2.2.1 = some (t_Qry k) := by decide +kernel
theorem in_Qry : ∀ w ∈ u_ws R_Qry F_Qry 20, w ∈ TG := fun w hw => TG_in (List.mem_append_right _ ((goodIn_x (big := tables_1) (u_ws R_Qry F_Qry 20) [588, 590, 592, 594, 596, 598, 600, 602, 604, 606, 608, 610, 612, 614, 616, 618, 620, 622, 624, 626] (by decide +kernel)) w hw)) (List.all_eq_true.mp (show (u_ws R_Qry F_Qry 20).all goodWord = true by decide +kernel) w hw)
theorem n_Ans : ∀ a, a < 16 → ∀ b, b < 16 → a ≠ b → (F_Ans a).2.1 ≠ (F_Ans b).2.1 := by decide +kernel
theorem t_Ans_ok : ∀ k, k < 16 → parseFieldDescriptor (F_Ans k).2.2.1 = some (t_Ans k) := by decide +kernel
theorem in_Ans : ∀ w ∈ u_ws R_Ans F_Ans 16, w ∈ TG := fun w hw => TG_in (List.mem_append_right _ ((goodIn_x (big := tables_1) (u_ws R_Ans F_Ans 16) [658, 660, 662, 664, 666, 668, 670, 672, 674, 676, 678, 680, 682, 684, 686, 688] (by decide +kernel)) w hw)) (List.all_eq_true.mp (show (u_ws R_Ans F_Ans 16).all goodWord = true by decide +kernel) w hw)
theorem n_Asm : ∀ a, a < 4 → ∀ b, b < 4 → a ≠ b → (F_Asm a).2.1 ≠ (F_Asm b).2.1 := by decide +kernel
theorem t_Asm_ok : ∀ k, k < 4 → parseFieldDescriptor (F_Asm k).2.2.1 = some (t_Asm k) := by decide +kernel
theorem in_Asm : ∀ w ∈ u_ws R_Asm F_Asm 4, w ∈ TG := fun w hw => TG_in (List.mem_append_right _ ((goodIn_x (big := tables_1) (u_ws R_Asm F_Asm 4) [706, 708, 710, 712] (by decide +kernel)) w hw)) (List.all_eq_true.mp (show (u_ws R_Asm F_Asm 4).all goodWord = true by decide +kernel) w hw)
theorem n_Mod : ∀ a, a < 167 → ∀ b, b < 167 → a ≠ b → (F_Mod a).2.1 ≠ (F_Mod b).2.1 := by decide +kernel
theorem t_Mod_ok : ∀ k, k < 167 → parseFieldDescriptor (F_Mod k).2.2.1 = some (t_Mod k) := by decide +kernel
theorem in_Mod : ∀ w ∈ u_ws R_Mod F_Mod 167, w ∈ TG := fun w hw => TG_in (List.mem_append_right _ ((goodIn_x (big := tables_1) (u_ws R_Mod F_Mod 167) [2023, 2025, 2027, 2029, 2031, 2033, 2035, 2037, 2039, 2041, 2043, 2045, 2047, 2049, 2051, 2053, 2055, 2057, 2059, 2061, 2063, 2065, 2067, 2069, 2071, 2073, 2075, 2077, 2079, 2081, 2083, 2085, 2087, 2089, 2091, 2093, 2095, 2097, 2099, 2101, 2103, 2105, 2107, 2109, 2111, 2113, 2115, 2117, 2119, 2121, 2123, 2125, 2127, 2129, 2131, 2133, 2135, 2137, 2139, 2141, 2143, 2145, 2147, 2149, 2151, 2153, 2155, 2157, 2159, 2161, 2163, 2165, 2167, 2169, 2171, 2173, 2175, 2177, 2179, 2181, 2183, 2185, 2187, 2189, 2191, 2193, 2195, 2197, 2199, 2201, 2203, 2205, 2207, 2209, 2211, 2213, 2215, 2217, 2219, 2221, 2223, 2225, 2227, 2229, 2231, 2233, 2235, 2237, 2239, 2241, 2243, 2245, 2247, 2249, 2251, 2253, 2255, 2257, 2259, 2261, 2263, 2265, 2267, 2269, 2271, 2273, 2275, 2277, 2279, 2281, 2283, 2285, 2287, 2289, 2291, 2293, 2295, 2297, 2299, 2301, 2303, 2305, 2307, 2309, 2311, 2313, 2315, 2317, 2319, 2321, 2323, 2325, 2327, 2329, 2331, 2333, 2335, 2337, 2339, 2341, 2343, 2345, 2347, 2349, 2351, 2353, 2355] (by decide +kernel)) w hw)) (List.all_eq_true.mp (show (u_ws R_Mod F_Mod 167).all goodWord = true by decide +kernel) w hw)
