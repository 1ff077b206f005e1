/-! one value of a field is written, class: the method -/
section
variable {x y : St} {F : List SFd} {W : Nat → Bool} {V : Nat → Int64} {b : Nat} {e : Nat → Nat} {S : Nat → List SEn} {g : Int32} {D d : Nat}
theorem AppA.ex {κ : Nat → Nat} {B C : List Nat} {Pre : St → Prop} {R : St → St → Prop} {Wp : (St → Prop) → Nat → Nat → St → Prop} (hκ : ∀ t, SnkId t → κ t ≤ roomOf t) {Z : Prop} (hZ : ∀ x, Pre x → Z) (h : Z → AppA κ B C Pre R Wp) : AppA κ B C Pre R Wp := by
  by_cases c : Z
  · exact h c
  · exact ⟨κ, Kle.refl hκ, fun x post kb nb _ _ _ h4 => absurd (hZ x h4) c⟩
def okWG (F : List SFd) (W : Nat → Bool) (V : Nat → Int64) (b : Nat) (e : Nat → Nat) (D d : Nat) : Prop := ∀ (κ : Nat → Nat) (S : Nat → List SEn) (g : Int32) (dp : Nat) (B : List Nat), (∀ t, SnkId t → κ t ≤ roomOf t) → (g = -1 ∨ ∃ f, f < F.length ∧ g = nI f ∧ fTy F f = 4) → upS wOne (fPa F) g = dp → 17 ≤ dp + D → JG F W S g → GdS F W S → AppA κ B (tlG vlB F W D g S) (fun x => TcC x F W V b e S ∧ CuC x F W e S g) (RgC F W e (rgF F g) S g) (fun post kb nb x => (wr_Asm_writeAll d).2.1 post 146 g (nI dp) kb nb x)
def okWO (F : List SFd) (W : Nat → Bool) (V : Nat → Int64) (b : Nat) (e : Nat → Nat) (D d : Nat) : Prop := ∀ (κ : Nat → Nat) (S : Nat → List SEn) (f dp : Nat) (B : List Nat), (∀ t, SnkId t → κ t ≤ roomOf t) → f < F.length → upS wOne (fPa F) (nI f) = dp + 1 → 17 ≤ dp + 1 + D → gdL F W f ≠ [] → JG F W S (nI f) → GdS F W S → AppA κ B (tlO (tlG vlB F W D) vlB F f (gdc F W f) S) (fun x => TcC x F W V b e S ∧ CuC x F W e S (nI f)) (RgC F W e (rF F f) S (nI f)) (fun post kb nb x => (wr_Asm_writeAll d).2.2 post 146 (nI f) (nI dp) kb nb x)
theorem writeOne_of (hw : WfS F) (hG : okWG F W V b e D d) : okWO F W V b e D (d + 1) := by
  intro κ S f dp B hκ hf hdp hD hgd J G
  have h128 := hw.1
  have h64 := hw.2.1
  obtain ⟨g1, g2, g3⟩ := gdc_ok hgd
  generalize hc : gdc F W f = c at *
  have ic : inG F (nI f) (lfC F c) := (inG_f hf h128).mpr g3
  obtain ⟨n1, n2, n3⟩ := J.1 c g1 g2 ic
  have pos := List.length_pos_iff.mpr n1
  unfold tlO
  by_cases ht : fTy F f = 4
  · rw [if_pos ht]
    refine (AppA.one (hG κ S (nI f) (dp + 1) B hκ (Or.inr ⟨f, hf, rfl, ht⟩) hdp hD J G)).cg (fun _ _ h => h) (fun _ _ _ _ h => h) (fun post kb nb x _ hp z => ?_)
    show wb_Asm_writeOne post (wr_Asm_writeAll d).1 (wr_Asm_writeAll d).2.1 (wr_Asm_writeAll d).2.2 146 (nI f) (nI dp) kb nb x
    have l72 : fN x 72 = 128 := hp.1.1 72 (by decide)
    have e72 : rA x 72 (nI f) = fTy F f := by rw [rA_nI (by omega)]; exact (hp.1.2.1.2.2.2.1 f hf).2.1
    unfold wb_Asm_writeOne
    rw [show stC 146 1 = 97 from rfl, show stC 97 5 = 70 from rfl, show stC 70 3 = 72 from rfl, l72]
    refine ⟨vp_in_nI (by omega) (by decide), nm_r e72 (bn_t ht ?_)⟩
    rw [nI_1]
    exact z
  · rw [if_neg ht]
    obtain ⟨lc, cb⟩ := leaf_col hw hf ht g1 g3
    have cb' : ncol (F.take f) = c := cb.symm
    obtain ⟨ty1, ty2⟩ := tyC_ok hw g1
    rw [lc] at ty1
    have md : mdC F c = dG F (nI f) := by unfold mdC; rw [lc]
    have mem : (S c).getD 0 en0 ∈ S c := by rw [en_at pos]; exact List.getElem_mem pos
    obtain ⟨⟨-, -, r2, r3, -⟩, r4⟩ := (G c g1 g2).2 _ mem
    rw [r4] at r2 r3
    have n3' : dG F (nI f) ≤ ((S c).getD 0 en0).2.2.1 := n3
    have eq : ((S c).getD 0 en0).2.2.1 = mdC F c := by omega
    have lo : rst (rF F f) (S c) = (S c).drop 1 := by
      have := leaf_one (F := F) (W := W) (S := S) G g1 g2 n1
      rw [show mrC F c = rF F f from by unfold mrC; rw [lc]] at this
      exact this
    generalize hv : ((S c).getD 0 en0).2.2.2 = v at *
    have rf : ∀ x, TcC x F W V b e S ∧ CuC x F W e S (nI f) → RfP x b (tyC F c) (V (e c - (S c).length)) v := fun x hp => by
      have := ((hp.1.2.2.2.2.2 c g1 g2).2.2.2 0 pos).2.2.1 (by rw [r4]; exact eq)
      rw [Nat.add_zero, hp.1.2.2.2.1, hv, r4] at this
      exact this
    generalize hval : V (e c - (S c).length) = val at *
    refine AppA.ex hκ (Z := (tyC F c ≠ 3 → val = v.1) ∧ (tyC F c = 3 → val = lN (256 * (uL val / 256) + v.2.length) ∧ v.2.length ≤ 255)) (fun x hp => ?_) (fun ⟨z1, z2⟩ => ?_)
    · obtain ⟨k1, k2⟩ := rf x hp
      refine ⟨k1, fun z => ?_⟩
      obtain ⟨o1, a', o2, o3, -⟩ := k2 z
      have b3 := hp.1.2.2.1
      have l255 := o1.1
      rw [o2, uL_lN (by omega), show (256 * a' + v.2.length) / 256 = a' by omega]
      exact ⟨rfl, l255⟩
    · have A := k_valW (κ := κ) (B := B) (a := uL val / 256) (v := v) (w := val) ty2 z1 (fun z => (z2 z).1) hκ (wr_Asm_writeAll d).2.1 (wr_Asm_writeAll d).1 (wr_Asm_writeAll d).2.2 (nI f) (nI dp) (nI c)
      refine A.as.first (fun x hK hp => ?_)
      have l72 : fN x 72 = 128 := hp.1.1 72 (by decide)
      have l78 : fN x 78 = 128 := hp.1.1 78 (by decide)
      have l150 : fN x 150 = 64 := hp.1.1 150 (by decide)
      have l85 : fN x 85 = 11001 := hp.1.1 85 (by decide)
      have l82 : fN x 82 = 120255 := hp.1.1 82 (by decide)
      obtain ⟨a1, a2, a3, -⟩ := hp.1.2.2.2.2.2 c g1 g2
      have cu : fA x 150 c = nI (e c - (S c).length) := hp.2 c g1 g2 ic
      have nsk : ¬ skRow 150 := st150.2.1
      refine ⟨setA x 150 (nI c) (nI (e c - (S c).length) + 1), setA_sk hK nsk, fun h => h, fun h => setA_snk hK sn147 nsk h, fun z => ?_, fun y fy => ⟨FAs.trans FAs.a (FK.as fy), fun c' hc' wc' hi => ?_, fun c' hc' wc' hn => ?_⟩, fun post kb nb z => ?_⟩
      · obtain ⟨o1, a', o2, o3, o4⟩ := (rf x hp).2 z
        have b3 := hp.1.2.2.1
        have l255 := o1.1
        have ea : uL val / 256 = a' := by rw [o2, uL_lN (by omega)]; omega
        have e82 : fA (setA x 150 (nI c) (nI (e c - (S c).length) + 1)) 82 = fA x 82 := ((FAs.a (x := x) (i := nI c) (v := nI (e c - (S c).length) + 1)).row st82 (by decide) hK).1
        refine ⟨o1, ?_, ?_, fun j hj => ?_⟩
        · show _ ≤ fN x 82; rw [l82, ea]; omega
        · show fN x 82 < _; rw [l82]; decide
        · rw [e82, ea]; exact o4 j hj
      · have k := leaf_col hw hf ht hc' ((inG_f hf h128).mp hi)
        have ec : c' = c := by rw [k.2, ← cb]
        rw [ec, (fk_row sn147 st150 (setA_sk hK nsk) fy).1, gA_on (by omega)]
        show _ = nI (e c - (rst (rF F f) (S c)).length)
        rw [lo, List.length_drop, nI_1]
        congr 1
        omega
      · have ne : c' ≠ c := fun w => hn (by rw [w]; exact ic)
        rw [(fk_row sn147 st150 (setA_sk hK nsk) fy).1, gA_off (by omega) ne]
      · show wb_Asm_writeOne post (wr_Asm_writeAll d).1 (wr_Asm_writeAll d).2.1 (wr_Asm_writeAll d).2.2 146 (nI f) (nI dp) kb nb x
        have e72 : rA x 72 (nI f) = nI (tyC F c) := by rw [rA_nI (by omega), ← ty1]; exact (hp.1.2.1.2.2.2.1 f hf).2.1
        have e78 : rA x 78 (nI f) = nI c := by rw [rA_nI (by omega), ← cb']; exact (hp.1.2.1.2.2.2.1 f hf).2.2.2.2.2.2.2.1
        have e150 : rA x 150 (nI c) = nI (e c - (S c).length) := by rw [rA_nI (by omega)]; exact cu
        have e85 : rL x 85 (nI (e c - (S c).length)) = val := by rw [rL_nI (by omega), hp.1.2.2.2.1]; exact hval
        unfold wb_Asm_writeOne
        rw [show stC 146 1 = 97 from rfl, show stC 97 5 = 70 from rfl, show stC 70 3 = 72 from rfl, show stC 70 9 = 78 from rfl, show stC 146 2 = 150 from rfl, show stC 97 9 = 85 from rfl, show stC 146 0 = 147 from rfl, l72, l78, l150, l85]
        refine ⟨vp_in_nI (by omega) (by decide), nm_r e72 (bn_f (fun w => ht (by rw [ty1]; exact w)) ⟨vp_in_nI (by omega) (by decide), nm_r e78 ?_⟩)⟩
        rw [e150]
        refine ⟨vp_in_nI (by omega) (by decide), vp_in_nI (by omega) (by decide), nm_r e85 ⟨vp_in_nI (by omega) (by decide), vp_in_nI (by omega) (by decide), nm_e z⟩⟩
end
