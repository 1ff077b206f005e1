def oS : List String := ["StripedVault$Schema", "StripedVault$Schema", "StripedVault$Schema", "StripedVault$Schema", "StripedVault$Schema", "StripedVault$Schema", "StripedVault$Schema", "StripedVault$Schema", "StripedVault$Records", "StripedVault$Records", "StripedVault$Assembler", "StripedVault$Query", "StripedVault$Query", "StripedVault$Query", "StripedVault$Query", "StripedVault$Query", "StripedVault$Query", "StripedVault$Query", "StripedVault$Query", "StripedVault$Query", "StripedVault$Query", "StripedVault$Query", "StripedVault$Query", "StripedVault$Query"]
def iS : List Nat := [141, 147, 149, 155, 157, 159, 161, 163, 181, 187, 174, 75, 157, 159, 161, 163, 90, 102, 196, 198, 200, 202, 204, 206]
def tmS (i : Nat) : Term := .string (oS.getD i "") (iS.getD i 0)
theorem gs_1 : ∀ i, i < 24 → Cond.exactly (tmS i) "java/lang/String" ∈ flatC (Jvm.Cond.and given_1 narrow_1) := by decide +kernel
theorem gs_2 : ∀ i, i < 24 → Cond.eq (.field (tmS i) "java/lang/String" "coder" "B") (.int 0) ∈ flatC (Jvm.Cond.and given_1 narrow_1) := by decide +kernel
theorem gs_3 : ∀ i, i < 24 → Cond.arrayOf (.field (tmS i) "java/lang/String" "value" "[B") .byte ∈ flatC (Jvm.Cond.and given_1 narrow_1) := by decide +kernel
theorem gs_4 : ∀ i, i < 24 → Cond.eq (.length (.field (tmS i) "java/lang/String" "value" "[B")) (.int (Int32.ofNat (sLen.getD i 0))) ∈ flatC (Jvm.Cond.and given_1 narrow_1) := by decide +kernel
theorem gs_5 : ∀ i, i < 24 → ∀ j, j < sLen.getD i 0 → Cond.eq (.elem (.field (tmS i) "java/lang/String" "value" "[B") (.int (Int32.ofNat j))) (.int ((sByt.getD i []).getD j 0)) ∈ flatC (Jvm.Cond.and given_1 narrow_1) := by decide +kernel
theorem gs_6 : ∀ i, i < 24 → sLen.getD i 0 < 2 ^ 31 := by decide +kernel
theorem gs_7 : ∀ i, i < 24 → ∀ j, j < 24 → i ≠ j → sLen.getD i 0 ≠ sLen.getD j 0 ∨ ∃ k, k < sLen.getD i 0 ∧ (sByt.getD i []).getD k 0 ≠ (sByt.getD j []).getD k 0 := by decide +kernel
theorem gm_1 : Cond.arrayOf (.static "StripedVault" "MAGIC" "[B") .byte ∈ flatC (Jvm.Cond.and given_1 narrow_1) := by decide +kernel
theorem gm_2 : Cond.eq (.length (.static "StripedVault" "MAGIC" "[B")) (.int (Int32.ofNat 4)) ∈ flatC (Jvm.Cond.and given_1 narrow_1) := by decide +kernel
theorem gm_3 : ∀ j, j < 4 → Cond.eq (.elem (.static "StripedVault" "MAGIC" "[B") (.int (Int32.ofNat j))) (.int (magicI j)) ∈ flatC (Jvm.Cond.and given_1 narrow_1) := by decide +kernel
theorem gc_1 : Cond.arrayOf (.static "StripedVault" "CRC_OF_NIBBLE" "[I") .int ∈ flatC (Jvm.Cond.and given_1 narrow_1) := by decide +kernel
theorem gc_2 : Cond.eq (.length (.static "StripedVault" "CRC_OF_NIBBLE" "[I")) (.int (Int32.ofNat 16)) ∈ flatC (Jvm.Cond.and given_1 narrow_1) := by decide +kernel
theorem gc_3 : ∀ j, j < 16 → Cond.eq (.elem (.static "StripedVault" "CRC_OF_NIBBLE" "[I") (.int (Int32.ofNat j))) (.int (crcI j)) ∈ flatC (Jvm.Cond.and given_1 narrow_1) := by decide +kernel
theorem gk_1 : Cond.eq (.static "java/lang/String" "COMPACT_STRINGS" "Z") (.int 1) ∈ flatC (Jvm.Cond.and given_1 narrow_1) := by decide +kernel
theorem gk_2 : Cond.isRef (.static "jdk/internal/util/Preconditions" "SIOOBE_FORMATTER" "Ljava/util/function/BiFunction;") ∈ flatC (Jvm.Cond.and given_1 narrow_1) := by decide +kernel
theorem gd_11 : Cond.eq (.string "StripedVault$Records" 181) (.string "StripedVault$Assembler" 143) ∈ flatC (Jvm.Cond.and given_1 narrow_1) := by decide +kernel
theorem gd_12 : Cond.eq (.string "StripedVault$Records" 187) (.string "StripedVault$Assembler" 145) ∈ flatC (Jvm.Cond.and given_1 narrow_1) := by decide +kernel
theorem gd_19 : Cond.eq (.string "StripedVault$Schema" 163) (.string "StripedVault$Query" 100) ∈ flatC (Jvm.Cond.and given_1 narrow_1) := by decide +kernel
theorem gd_27 : Cond.eq (.string "StripedVault$Records" 181) (.string "StripedVault$Query" 208) ∈ flatC (Jvm.Cond.and given_1 narrow_1) := by decide +kernel
theorem gd_28 : Cond.eq (.string "StripedVault$Records" 187) (.string "StripedVault$Query" 210) ∈ flatC (Jvm.Cond.and given_1 narrow_1) := by decide +kernel
theorem OF_inj {o n d : String} {v v' : Value} {a : Nat} {A : Nat → Prop} {U : State} {H : Heap} (h : va_OF o n d v a A U H) (k : va_OF o n d v' a A U H) : v = v' := by
  obtain ⟨cf, kc, i, f, cell, h1, -, h3, -, h5, -⟩ := h
  obtain ⟨cf', kc', i', f', cell', k1, -, k3, -, k5, -⟩ := k
  rw [h1] at k1
  cases k1
  rw [h3] at k3
  cases k3
  rw [h5] at k5
  exact Option.some.inj k5
theorem T_len {ty : FieldType} {t N N' : Nat} {f g : Nat → Value} {A : Nat → Prop} {U : State} {H : Heap} (h : va_T ty t N f A U H) (k : va_T ty t N' g A U H) (hN : N < 2 ^ 31) (hN' : N' < 2 ^ 31) : N = N' := by
  obtain ⟨cell, h1, -, -, -, h5, -, -⟩ := h
  obtain ⟨cell', k1, -, -, -, k5, -, -⟩ := k
  rw [h1] at k1
  cases k1
  rw [h5] at k5
  have e := congrArg Int32.toInt k5
  have a : (nI N).toInt = N := nI_toInt hN
  have b : (nI N').toInt = N' := nI_toInt hN'
  have e : (nI N).toInt = (nI N').toInt := e
  omega
theorem T_at {ty : FieldType} {t N N' : Nat} {f g : Nat → Value} {A : Nat → Prop} {U : State} {H : Heap} (h : va_T ty t N f A U H) (k : va_T ty t N' g A U H) {j : Nat} (hj : j < N) (hj' : j < N') : f j = g j := by
  obtain ⟨cell, h1, -, -, -, -, h6, -⟩ := h
  obtain ⟨cell', k1, -, -, -, -, k6, -⟩ := k
  rw [h1] at k1
  cases k1
  have a := h6 j hj
  rw [k6 j hj'] at a
  exact (Option.some.inj a).symm
theorem ck_R {s : State} {b : Nat} {kK : Nat → Nat} (hts : ∀ w ∈ lw_tbl, w.before #[Value.ref b] s = true) (hq : ∀ w ∈ flatC (Jvm.Cond.and given_1 narrow_1), w.before #[Value.ref b] s = true) (hev : ∀ i : Nat, i < 24 → (tmS i).eval #[Value.ref b] s none [] s = some (.ref (kK i))) : ∀ i, i < NCON → vk_R (cOwn i) (cIdx i) (cTx i) (kK (cJ i)) s
  | 0, _ => vk_R.of (hts _ wn_4_137) (hev 0 (by decide))
  | 1, _ => vk_R.of (hts _ wn_4_204) (hev 1 (by decide))
  | 2, _ => vk_R.of (hts _ wn_4_205) (hev 2 (by decide))
  | 3, _ => vk_R.of (hts _ wn_4_215) (hev 3 (by decide))
  | 4, _ => vk_R.of (hts _ wn_4_216) (hev 4 (by decide))
  | 5, _ => vk_R.of (hts _ wn_4_217) (hev 5 (by decide))
  | 6, _ => vk_R.of (hts _ wn_4_218) (hev 6 (by decide))
  | 7, _ => vk_R.of (hts _ wn_4_219) (hev 7 (by decide))
  | 8, _ => vk_R.of (hts _ wn_5_64) (hev 8 (by decide))
  | 9, _ => vk_R.of (hts _ wn_5_66) (hev 9 (by decide))
  | 10, _ => vk_R.of (hts _ wn_7_113) (hev 10 (by decide))
  | 11, _ => vk_R.of (hts _ wn_7_123) (va_eqR (hq _ gd_11) (hev 8 (by decide)))
  | 12, _ => vk_R.of (hts _ wn_7_124) (va_eqR (hq _ gd_12) (hev 9 (by decide)))
  | 13, _ => vk_R.of (hts _ wn_7_141) (hev 11 (by decide))
  | 14, _ => vk_R.of (hts _ wn_7_158) (hev 12 (by decide))
  | 15, _ => vk_R.of (hts _ wn_7_160) (hev 13 (by decide))
  | 16, _ => vk_R.of (hts _ wn_7_161) (hev 14 (by decide))
  | 17, _ => vk_R.of (hts _ wn_7_162) (hev 15 (by decide))
  | 18, _ => vk_R.of (hts _ wn_7_175) (hev 16 (by decide))
  | 19, _ => vk_R.of (hts _ wn_7_176) (va_eqR (hq _ gd_19) (hev 7 (by decide)))
  | 20, _ => vk_R.of (hts _ wn_7_177) (hev 17 (by decide))
  | 21, _ => vk_R.of (hts _ wn_7_178) (hev 18 (by decide))
  | 22, _ => vk_R.of (hts _ wn_7_179) (hev 19 (by decide))
  | 23, _ => vk_R.of (hts _ wn_7_180) (hev 20 (by decide))
  | 24, _ => vk_R.of (hts _ wn_7_181) (hev 21 (by decide))
  | 25, _ => vk_R.of (hts _ wn_7_182) (hev 22 (by decide))
  | 26, _ => vk_R.of (hts _ wn_7_183) (hev 23 (by decide))
  | 27, _ => vk_R.of (hts _ wn_7_184) (va_eqR (hq _ gd_27) (hev 8 (by decide)))
  | 28, _ => vk_R.of (hts _ wn_7_185) (va_eqR (hq _ gd_28) (hev 9 (by decide)))
  | n + 29, h => absurd (show n + 29 < 29 from h) (by omega)
theorem ck_S {s : State} {b : Nat} (hq : ∀ w ∈ flatC (Jvm.Cond.and given_1 narrow_1), w.before #[Value.ref b] s = true) {A : Nat → Prop} (hA : ∀ a : Nat, a < s.heap.size → ¬ A a) : ∃ kK kV : Nat → Nat, vk_S NSTR sLen sByt kK kV A s s.heap ∧ ∀ i : Nat, i < 24 → (tmS i).eval #[Value.ref b] s none [] s = some (.ref (kK i)) := by
  have h0 : ∀ i : Nat, ∃ q : Nat × Nat, i < 24 → (tmS i).eval #[Value.ref b] s none [] s = some (.ref q.1) ∧ va_O "java/lang/String" q.1 A s s.heap ∧ va_OF "java/lang/String" "coder" "B" (.int 0) q.1 A s s.heap ∧ va_OF "java/lang/String" "value" "[B" (.ref q.2) q.1 A s s.heap ∧ va_T .byte q.2 (sLen.getD i 0) (fun j => .int ((sByt.getD i []).getD j 0)) A s s.heap := by
    intro i
    by_cases hi : i < 24
    · have z : ∀ k, k < 1 → [sLen.getD i 0].getD k 0 = sLen.getD i 0 := fun k hk => by
        have e : k = 0 := by omega
        subst e; rfl
      have z2 : ∀ k, k < 1 → [sByt.getD i []].getD k [] = sByt.getD i [] := fun k hk => by
        have e : k = 0 := by omega
        subst e; rfl
      obtain ⟨aK, aV, hs, he⟩ := vk_Sof (N := 1) (tm := fun _ => tmS i) (len := [sLen.getD i 0]) (byt := [sByt.getD i []]) (args := #[Value.ref b]) (s := s) (A := A) (fun k hk => by rw [z k hk]; exact gs_6 i hi) (fun k hk => hq _ (gs_1 i hi)) (fun k hk => hq _ (gs_2 i hi)) (fun k hk => hq _ (gs_3 i hi)) (fun k hk => by rw [z k hk]; exact hq _ (gs_4 i hi)) (fun k hk j hj => by rw [z k hk] at hj; rw [z2 k hk]; exact hq _ (gs_5 i hi j hj)) (fun k j hk hj hne => absurd (show k = j by omega) hne) hA
      have h1 := hs.1 0 (by decide)
      exact ⟨(aK 0, aV 0), fun _ => ⟨he 0 (by decide), h1.1, h1.2.1, h1.2.2.1, h1.2.2.2⟩⟩
    · exact ⟨(0, 0), fun h => absurd h hi⟩
  obtain ⟨ad, had⟩ := Classical.axiomOfChoice h0
  refine ⟨fun i => (ad i).1, fun i => (ad i).2, ⟨fun i hi => (had i hi).2, fun i j hi hj e => ?_⟩, fun i hi => (had i hi).1⟩
  have e : (ad i).1 = (ad j).1 := e
  have hi : i < 24 := hi
  have hj : j < 24 := hj
  by_cases hij : i = j
  · exact hij
  · exfalso
    obtain ⟨-, -, -, h3, h4⟩ := had i hi
    obtain ⟨-, -, -, k3, k4⟩ := had j hj
    rw [e] at h3
    have ev := OF_inj h3 k3
    have ev : (ad i).2 = (ad j).2 := by injection ev
    rw [ev] at h4
    rcases gs_7 i hi j hj hij with z | ⟨k, hk, z⟩
    · exact z (T_len h4 k4 (gs_6 i hi) (gs_6 j hj))
    · have hl := T_len h4 k4 (gs_6 i hi) (gs_6 j hj)
      have hv := T_at h4 k4 hk (by rw [← hl]; exact hk)
      have hv : Value.int ((sByt.getD i []).getD k 0) = Value.int ((sByt.getD j []).getD k 0) := hv
      injection hv with hv
      exact z hv
theorem ck_of {p : Program} {s : State} {m : MethodId} {meth : Method} {c : Code} {b L : Nat} {xs : Nat → Int32} (C0 : lw_At p s m meth c b L xs) : ∃ (tM tC : Nat) (kK kV : Nat → Nat), CK s.heap tM tC kK kV s := by
  obtain ⟨hx, hb, hr, hml, hown0, hts, hX, hbl, hlocks, hgv⟩ := id C0
  have hT : ∀ w ∈ TG, w.before #[Value.ref b] s = true := fun w h => hts w (TG_lw w h)
  have hq := flat_of_before _ hgv
  have hA : ∀ a : Nat, a < s.heap.size → ¬ (fun q : Nat => s.heap.size ≤ q) a := fun a h => Nat.not_le.mpr h
  obtain ⟨tM, eM, hM⟩ := va_Tof (N := 4) (f := fun j => .int (magicI j)) (A := fun q : Nat => s.heap.size ≤ q) (by decide) (hq _ gm_1) (va_eqt (hq _ gm_2)) (fun j hj => va_eqt (hq _ (gm_3 j hj))) hA
  obtain ⟨tC, eC, hC⟩ := va_Tof (N := 16) (f := fun j => .int (crcI j)) (A := fun q : Nat => s.heap.size ≤ q) (by decide) (hq _ gc_1) (va_eqt (hq _ gc_2)) (fun j hj => va_eqt (hq _ (gc_3 j hj))) hA
  obtain ⟨kK, kV, hS, hev⟩ := ck_S hq (A := fun q : Nat => s.heap.size ≤ q) hA
  exact ⟨tM, tC, kK, kV, va_Zof (hts _ wn_5_134) (hT _ w_1_1) eM hA, hM, va_Zof (hts _ wn_6_45) (hT _ w_1_1) eC hA, hC, va_Zof (hts _ wn_4_165) (hT _ w_1_17) (va_eqt (hq _ gk_1)) hA, va_Zqof (hts _ wn_4_181) (hT _ w_1_19) (hq _ gk_2) hA, hS, ck_R hts hq hev⟩
