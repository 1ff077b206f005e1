/-! opened, row of the output's methods -/
def opA (o : Bool) (a b c d e l1 : Int32) : Int32 := if o = false then -1 else if l1 = 0 then a else if l1 = 1 then b else if l1 = 2 then c else if l1 = 3 then d else if l1 = 4 then e else -1
theorem ppA_len {nC : Nat} {G : List Nat} : ∀ CK : List (List PgW), (ppA nC G CK).length + CK.length = tlN CK := by
  have key : ∀ n (CK : List (List PgW)), CK.length = n → (ppA nC G CK).length + CK.length = tlN CK := by
    intro n
    induction n with
    | zero => intro CK h; rw [List.length_eq_zero_iff.mp h]; rfl
    | succ n ih =>
      intro CK h
      have e : CK = CK.take n ++ [CK.getD n []] := by rw [← tk_sn (by omega), List.take_of_length_le (by omega)]
      have l : (CK.take n).length = n := by rw [List.length_take]; omega
      have i := ih (CK.take n) l
      rw [e, ppA_add, tlN_add, List.length_append, List.length_append, pgP_len, l]
      rw [l] at i
      show _ + _ + (n + 1) = _
      omega
  exact fun CK => key CK.length CK rfl
section
variable {x : St} {F : List SFd} {G : List Nat} {CK : List (List PgW)} {K : List ChT} {l1 : Int32} {o : Bool}
def opW (o : Bool) (F : List SFd) (G : List Nat) (CK : List (List PgW)) (l1 : Int32) : Int32 := opA o (nI (smN G)) (nI G.length) (nI F.length) (nI (ncol F)) (nI (tlN CK - CK.length)) l1
theorem s_opened {post : Int32 → St → Prop} (hL : LM x) (h82 : fI x 0 82 = if o = true then 1 else 0) (hO : o = true → OpM x F (smN G) G K CK) (p : post (opW o F G CK l1) (setI x 0 0 0)) : wp_Mod_opened post l1 x := by
  have eI : ∀ k, k ≠ 0 → fI (setI x 0 0 0) 0 k = fI x 0 k := fun k hk => gI_ne hk
  have l9 : fN (setI x 0 0 0) 9 = 3 := hL 9
  have l10 : fN (setI x 0 0 0) 10 = 3 := hL 10
  unfold wp_Mod_opened
  refine nm_e ?_
  rw [eI 82 (by decide), h82, l9, l10]
  cases o with
  | false => exact bn_t rfl p
  | true =>
    obtain ⟨h1, -, -, -, h5, -, h7, -, -, -, -, -, -, Q, -, q2, -⟩ := hO rfl
    have e9 : rA (setI x 0 0 0) 9 1 = nI F.length := by rw [show (1 : Int32) = nI 1 from rfl, rA_nI (by decide)]; exact h1.1
    have e10 : rA (setI x 0 0 0) 10 1 = nI (ncol F) := by rw [show (1 : Int32) = nI 1 from rfl, rA_nI (by decide)]; exact h1.2.1
    have e86 : fI x 0 86 = nI (tlN CK - CK.length) := by
      have := ppA_len (nC := ncol F) (G := G) CK
      rw [q2.2.2.1, show tlN CK - CK.length = (ppA (ncol F) G CK).length by omega]
    rw [eI 86 (by decide), eI 85 (by decide), eI 84 (by decide), e86, h5, h7, e9, e10]
    unfold opW opA at p
    rw [if_neg (by decide)] at p
    refine bn_f (by decide) ?_
    by_cases c0 : l1 = 0
    · rw [if_pos c0] at p; exact bn_t c0 p
    rw [if_neg c0] at p
    refine bn_f c0 ?_
    by_cases c1 : l1 = 1
    · rw [if_pos c1] at p; exact bn_t c1 p
    rw [if_neg c1] at p
    refine bn_f c1 ?_
    by_cases c2 : l1 = 2
    · rw [if_pos c2] at p; exact bn_t c2 ⟨vp_in_nI (n := 1) (by decide) (by decide), p⟩
    rw [if_neg c2] at p
    refine bn_f c2 ?_
    by_cases c3 : l1 = 3
    · rw [if_pos c3] at p; exact bn_t c3 ⟨vp_in_nI (n := 1) (by decide) (by decide), p⟩
    rw [if_neg c3] at p
    refine bn_f c3 ?_
    by_cases c4 : l1 = 4
    · rw [if_pos c4] at p; exact bn_t c4 p
    rw [if_neg c4] at p
    exact bn_f c4 p
theorem k_opened {post : Int32 → St → Prop} (h97 : fI x 97 0 = if o = true then 1 else 0) (hO : o = true → OpC x F (smN G) G K CK) (p : post (opW o F G CK l1) x) : wp_V_opened post 0 l1 x := by
  unfold wp_V_opened
  rw [show stC 0 8 = 97 from rfl, show stC 97 5 = 70 from rfl, h97]
  cases o with
  | false => exact bn_t rfl p
  | true =>
    obtain ⟨O1, -, O3, O4, -, -, -, -, -, -, -, -, -, -, bb, dE, O15⟩ := hO rfl
    rw [O3, O4, O1.1, O1.2.1, O15.2.2.2]
    unfold opW opA at p
    rw [if_neg (by decide)] at p
    have ti : ∀ {v : Int32} {n : Int}, v.toInt = n → l1.toInt = n → l1 = v := fun h1 h2 => Int32.toInt_inj.mp (h2.trans h1.symm)
    refine bn_f (by decide) ⟨fun z => ?_, fun z => ?_, fun z => ?_, fun z => ?_, fun z => ?_, fun z => ?_⟩
    · rw [if_pos (ti (v := 0) rfl z)] at p; exact p
    · have e := ti (v := 1) rfl z
      rw [e, if_neg (by decide), if_pos rfl] at p; exact p
    · have e := ti (v := 2) rfl z
      rw [e, if_neg (by decide), if_neg (by decide), if_pos rfl] at p; exact p
    · have e := ti (v := 3) rfl z
      rw [e, if_neg (by decide), if_neg (by decide), if_neg (by decide), if_pos rfl] at p; exact p
    · have e := ti (v := 4) rfl z
      rw [e, if_neg (by decide), if_neg (by decide), if_neg (by decide), if_neg (by decide), if_pos rfl] at p; exact p
    · have no : ∀ v : Int32, 0 ≤ v.toInt → v.toInt ≤ 4 → l1 ≠ v := fun v a b w => by rw [w] at z; omega
      rw [if_neg (no 0 (by decide) (by decide)), if_neg (no 1 (by decide) (by decide)), if_neg (no 2 (by decide) (by decide)), if_neg (no 3 (by decide) (by decide)), if_neg (no 4 (by decide) (by decide))] at p
      exact p
end
