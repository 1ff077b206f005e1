/-! chunks of the class: the least and the greatest of all pages -/
def LoHi (E : List SEn) (VL : Nat → Int64) (ty md : Nat) (L : List Nat) (l9 l11 : Int64) : Prop := (vs E md L).length ≠ 0 → ∃ lo hi, lo ∈ vs E md L ∧ hi ∈ vs E md L ∧ l9 = VL lo ∧ l11 = VL hi ∧ IsMn ty (pvs E (vs E md L)) (pvI E lo) ∧ IsMx ty (pvs E (vs E md L)) (pvI E hi)
theorem vs_app2 {E : List SEn} {md : Nat} {a b : List Nat} : vs E md (a ++ b) = vs E md a ++ vs E md b := List.filter_append ..
theorem pvs_app2 {E : List SEn} {a b : List Nat} : pvs E (a ++ b) = pvs E a ++ pvs E b := List.map_append
theorem pvd_pvq {E : List SEn} {l : List Nat} {k : Nat} (h : k < l.length) : pvd (pvs E l) k = pvI E (l.getD k 0) := by
  unfold pvd pvs
  rw [List.getD_eq_getElem?_getD, List.getElem?_map, List.getElem?_eq_getElem h, List.getD_eq_getElem?_getD, List.getElem?_eq_getElem h]
  rfl
/-- behind a page: the rule of the two bounds -/
def LhR (E : List SEn) (VL : Nat → Int64) (ty md : Nat) (es : List Nat) (vals : Nat) (l9 l11 l9' l11' : Int64) (Z : List Nat) : Prop := ∀ (y : St) (post : Int32 → St → Prop) (rec49 : Nat → Int32 → Int32 → Int32 → Int32 → Int32 → Int32 → Int32 → Int32 → Int64 → Int64 → Int32 → Int32 → Nat → Nat → St → Prop) (l1 l2 l3 l5 l6 l13 l14 l15 : Int32) (all kb nb : Nat), fR y 45 6 = some 36 → EnW y E ty Z → fL y 39 = VL → fI y 45 11 = nI es.length → fI y 45 12 = nI (vs E md es).length → ((vs E md es).length ≠ 0 → fJ y 45 13 = VL ((vs E md es).getD (mnF ty (pvs E (vs E md es)) ((vs E md es).length - 1)) 0) ∧ fJ y 45 14 = VL ((vs E md es).getD (mxF ty (pvs E (vs E md es)) ((vs E md es).length - 1)) 0)) →
  rec49 45 l1 l2 l3 (nI ty) l5 l6 (nI (all + es.length)) (nI (vals + (vs E md es).length)) l9' l11' l13 (l14 + 1) kb nb y →
  (((fI y 45 12) ≤ 0 → j_Wrt_putChunk_143 post rec49 45 l1 l2 l3 (nI ty) l5 l6 (nI all) (nI vals) l9 l11 l13 l14 l15 kb nb y) ∧ (¬ (fI y 45 12) ≤ 0 → ((nI vals = 0 → j_Wrt_putChunk_137 post rec49 45 l1 l2 l3 (nI ty) l5 l6 (nI all) (nI vals) l9 l11 l13 l14 l15 kb nb y) ∧ (¬ nI vals = 0 → wp_Wrt_compare (fun (r67 : Int32) (x66 : St) => ((0 ≤ r67 → j_Wrt_putChunk_143 post rec49 45 l1 l2 l3 (nI ty) l5 l6 (nI all) (nI vals) l9 l11 l13 l14 l15 kb nb x66) ∧ (¬ 0 ≤ r67 → j_Wrt_putChunk_137 post rec49 45 l1 l2 l3 (nI ty) l5 l6 (nI all) (nI vals) l9 l11 l13 l14 l15 kb nb x66))) 45 (nI ty) (fJ y 45 13) l9 y))))
theorem lh_step {E : List SEn} {VL : Nat → Int64} {ty md : Nat} {L es Z : List Nat} {l9 l11 : Int64} (hty : ty < 4) (h : LoHi E VL ty md L l9 l11) (hok : ∀ i, i ∈ Z → okVv ty (pvI E i)) (h1 : ∀ i, i ∈ L → i ∈ Z) (h2 : ∀ i, i ∈ es → i ∈ Z) (hl : (vs E md L).length < 2 ^ 30) (hes : es.length ≤ 1000) : ∃ l9' l11', LoHi E VL ty md (L ++ es) l9' l11' ∧ LhR E VL ty md es (vs E md L).length l9 l11 l9' l11' Z := by
  have vle := vs_le (E := E) (md := md) (es := es)
  by_cases c : (vs E md es).length = 0
  · refine ⟨l9, l11, ?_, ?_⟩
    · unfold LoHi
      rw [vs_app2, List.length_eq_zero_iff.mp c, List.append_nil]
      exact h
    · intro y post rec49 l1 l2 l3 l5 l6 l13 l14 l15 all kb nb e1 e2 e3 e4 e5 e6 k
      rw [e5]
      refine br_t (by rw [c]; decide) ?_
      unfold j_Wrt_putChunk_143
      rw [e5]
      refine br_t (by rw [c]; decide) ?_
      unfold j_Wrt_putChunk_176
      rw [e4, e5, nI_add, nI_add]
      exact nm_e (nm_e k)
  · have pl := pvs_len (E := E) (l := vs E md es)
    have m1 := mnF_le (ty := ty) (P := pvs E (vs E md es)) ((vs E md es).length - 1)
    have m2 := mxF_le (ty := ty) (P := pvs E (vs E md es)) ((vs E md es).length - 1)
    have inZ : ∀ i, i ∈ vs E md es → i ∈ Z := fun i hi => h2 i (List.mem_filter.mp hi).1
    have inZ' : ∀ i, i ∈ vs E md L → i ∈ Z := fun i hi => h1 i (List.mem_filter.mp hi).1
    have gm := getD_mem (B := vs E md es) (i := mnF ty (pvs E (vs E md es)) ((vs E md es).length - 1)) (by omega)
    have gx := getD_mem (B := vs E md es) (i := mxF ty (pvs E (vs E md es)) ((vs E md es).length - 1)) (by omega)
    have q := mn_is (ty := ty) (P := pvs E (vs E md es)) (fun i hi => by rw [pvd_pvq (by omega)]; exact hok _ (inZ _ (getD_mem (by omega)))) ((pvs E (vs E md es)).length - 1) (by omega)
    rw [show (pvs E (vs E md es)).length - 1 + 1 = (pvs E (vs E md es)).length by omega, List.take_length, pl, pvd_pvq (by omega), pvd_pvq (by omega)] at q
    generalize hmn : (vs E md es).getD (mnF ty (pvs E (vs E md es)) ((vs E md es).length - 1)) 0 = mn at *
    generalize hmx : (vs E md es).getD (mxF ty (pvs E (vs E md es)) ((vs E md es).length - 1)) 0 = mx at *
    have cp : ¬ nI (vs E md es).length ≤ 0 := by (first | omega | (simp (disch := omega) only [Int32.le_iff_toInt_le, Int32.lt_iff_toInt_lt, z_eq, z_in, nI_toInt, z_cl, z_m1, z_sg, z_255, Int32.reduceToInt] <;> omega) | (simp only [Int32.le_iff_toInt_le, Int32.lt_iff_toInt_lt, z_eq, z_in, z_add, z_sub, z_mul, z_neg, z_nI, z_cl, z_sg, z_255, z_lit, Int32.reduceToInt] <;> omega))
    by_cases c0 : (vs E md L).length = 0
    · refine ⟨VL mn, VL mx, ?_, ?_⟩
      · unfold LoHi
        rw [vs_app2, List.length_eq_zero_iff.mp c0, List.nil_append]
        exact fun _ => ⟨mn, mx, gm, gx, rfl, rfl, q.1, q.2⟩
      · intro y post rec49 l1 l2 l3 l5 l6 l13 l14 l15 all kb nb e1 e2 e3 e4 e5 e6 k
        rw [hmn, hmx] at e6
        obtain ⟨g1, g2⟩ := e6 c
        rw [e5]
        refine br_f cp (br_t (by rw [c0]; rfl) ?_)
        unfold j_Wrt_putChunk_137
        rw [g1]
        refine nm_e ?_
        unfold j_Wrt_putChunk_143
        rw [e5]
        refine br_f cp (br_t (by rw [c0]; rfl) ?_)
        unfold j_Wrt_putChunk_170
        rw [g2]
        refine nm_e ?_
        unfold j_Wrt_putChunk_176
        rw [e4, e5, nI_add, nI_add]
        exact nm_e (nm_e k)
    · obtain ⟨lo, hi, o1, o2, o3, o4, o5, o6⟩ := h c0
      have k1 := cmpV_lt (hok _ (inZ _ gm)) (hok _ (inZ' _ o1))
      have k2 := cmpV_lt (hok _ (inZ _ gx)) (hok _ (inZ' _ o2))
      have nz : ¬ nI (vs E md L).length = 0 := fun z => c0 (nI_inj (b := 0) (by omega) (by decide) z)
      have ea : pvs E (vs E md (L ++ es)) = pvs E (vs E md L) ++ pvs E (vs E md es) := by rw [vs_app2, pvs_app2]
      refine ⟨if cmpV ty (pvI E mn) (pvI E lo) < 0 then VL mn else l9, if 0 < cmpV ty (pvI E mx) (pvI E hi) then VL mx else l11, fun _ => ⟨if cmpV ty (pvI E mn) (pvI E lo) < 0 then mn else lo, if 0 < cmpV ty (pvI E mx) (pvI E hi) then mx else hi, ?_, ?_, ?_, ?_, ?_, ?_⟩, ?_⟩
      · rw [vs_app2]; split
        · exact List.mem_append_right _ gm
        · exact List.mem_append_left _ o1
      · rw [vs_app2]; split
        · exact List.mem_append_right _ gx
        · exact List.mem_append_left _ o2
      · split
        · rfl
        · exact o3
      · split
        · rfl
        · exact o4
      · rw [ea]; split
        · rename_i z; exact (o5.app q.1).1 (k1.1.mp z)
        · rename_i z; exact (o5.app q.1).2 (fun w => z (k1.1.mpr w))
      · rw [ea]; split
        · rename_i z; exact (o6.app q.2).1 (k2.2.mp z)
        · rename_i z; exact (o6.app q.2).2 (fun w => z (k2.2.mpr w))
      · intro y post rec49 l1 l2 l3 l5 l6 l13 l14 l15 all kb nb e1 e2 e3 e4 e5 e6 k
        rw [hmn, hmx] at e6
        obtain ⟨g1, g2⟩ := e6 c
        have rf : ∀ i, i ∈ Z → RfC y 42 ty (VL i) (pvI E i) := fun i hi => by
          have := (e2 i hi).2.2.2.2.2
          rw [e3] at this
          exact this
        have tail : ∀ v9, v9 = (if cmpV ty (pvI E mn) (pvI E lo) < 0 then VL mn else l9) → j_Wrt_putChunk_143 post rec49 45 l1 l2 l3 (nI ty) l5 l6 (nI all) (nI (vs E md L).length) v9 l11 l13 l14 l15 kb nb y := fun v9 hv9 => by
          unfold j_Wrt_putChunk_143
          rw [e5]
          refine br_f cp (br_f nz ?_)
          rw [g2, o4]
          unfold wp_Wrt_compare
          refine ⟨36, e1, 36, e1, c_compare hty (rf _ (inZ _ gx)) (rf _ (inZ' _ o2)) ?_⟩
          rw [← hv9] at k
          by_cases w : 0 < cmpV ty (pvI E mx) (pvI E hi)
          · rw [if_pos w] at k
            refine br_f (fun z => Int32.not_lt.mpr z w) ?_
            unfold j_Wrt_putChunk_170
            rw [g2]
            refine nm_e ?_
            unfold j_Wrt_putChunk_176
            rw [e4, e5, nI_add, nI_add]
            exact nm_e (nm_e k)
          · rw [if_neg w, o4] at k
            refine br_t (Int32.not_lt.mp w) ?_
            unfold j_Wrt_putChunk_176
            rw [e4, e5, nI_add, nI_add]
            exact nm_e (nm_e k)
        rw [e5]
        refine br_f cp (br_f nz ?_)
        rw [g1, o3]
        unfold wp_Wrt_compare
        refine ⟨36, e1, 36, e1, c_compare hty (rf _ (inZ _ gm)) (rf _ (inZ' _ o1)) ?_⟩
        by_cases w : cmpV ty (pvI E mn) (pvI E lo) < 0
        · refine br_f (fun z => Int32.not_lt.mpr z w) ?_
          unfold j_Wrt_putChunk_137
          rw [g1]
          exact nm_e (tail _ (if_pos w).symm)
        · refine br_t (Int32.not_lt.mp w) ?_
          rw [← o3]
          exact tail _ (if_neg w).symm
