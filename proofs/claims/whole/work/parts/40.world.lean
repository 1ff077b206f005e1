def fv (ad : Nat → Nat) (st : Nat → Nat → Nat) (x : St) (o k t : Nat) : Value := match t with
  | 0 => .int (x.1 o k)
  | 1 => .long (x.2.1 o k)
  | 2 => (match x.2.2.1 o k with | none => .null | some q => .ref (ad q))
  | _ => .ref (ad (st o k))
def fl (ad : Nat → Nat) (st : Nat → Nat → Nat) (t : Nat) (x : St) (o : Nat) : List Value := (List.range (nf t)).map (fun k => fv ad st x o k (fk t k))
def ent (ad : Nat → Nat) (st : Nat → Nat → Nat) (cI cB cJ cZ : ClassId) (t : Nat) (x : St) (o : Nat) : va_E :=
  if t < 13 then .inr (t, fl ad st t x o) else if t = 22 then .inl (cJ, x.2.2.2.2.2 o, .inr (.inl (x.2.2.2.2.1 o))) else .inl (if t = 20 then cI else if t = 21 then cB else cZ, x.2.2.2.2.2 o, .inl (x.2.2.2.1 o))
def pic (ad : Nat → Nat) (st : Nat → Nat → Nat) (kc : Nat → Nat) (NN : Nat) (cI cB cJ cZ : ClassId) (x : St) : va_W := (List.range NN).map (fun o => (ad o, ent ad st cI cB cJ cZ (kc o) x o))
section Pic
variable {ad : Nat → Nat} {st : Nat → Nat → Nat} {kc : Nat → Nat} {NN : Nat} {cI cB cJ cZ : ClassId} {x y : St} {o k t : Nat}
theorem pic_at (h : o < NN) : (pic ad st kc NN cI cB cJ cZ x)[o]? = some (ad o, ent ad st cI cB cJ cZ (kc o) x o) := by
  simp [pic, h]
theorem pic_obj (h : o < NN) (hk : kc o = t) (ht : t < 13) : (pic ad st kc NN cI cB cJ cZ x)[o]? = some (ad o, .inr (t, fl ad st t x o)) := by
  rw [pic_at h, hk, ent, if_pos ht]
theorem pic_int (h : o < NN) (hk : kc o = 20) : (pic ad st kc NN cI cB cJ cZ x)[o]? = some (ad o, .inl (cI, fN x o, .inl (fA x o))) := by
  rw [pic_at h, hk]; rfl
theorem pic_byte (h : o < NN) (hk : kc o = 21) : (pic ad st kc NN cI cB cJ cZ x)[o]? = some (ad o, .inl (cB, fN x o, .inl (fA x o))) := by
  rw [pic_at h, hk]; rfl
theorem pic_long (h : o < NN) (hk : kc o = 22) : (pic ad st kc NN cI cB cJ cZ x)[o]? = some (ad o, .inl (cJ, fN x o, .inr (.inl (fL x o)))) := by
  rw [pic_at h, hk]; rfl
theorem pic_bool (h : o < NN) (hk : kc o = 23) : (pic ad st kc NN cI cB cJ cZ x)[o]? = some (ad o, .inl (cZ, fN x o, .inl (fA x o))) := by
  rw [pic_at h, hk]; rfl
theorem pic_set (ho : o < NN) (h : ∀ j, j ≠ o → ent ad st cI cB cJ cZ (kc j) y j = ent ad st cI cB cJ cZ (kc j) x j) : (pic ad st kc NN cI cB cJ cZ x).set o (ad o, ent ad st cI cB cJ cZ (kc o) y o) = pic ad st kc NN cI cB cJ cZ y := by
  apply List.ext_getElem?
  intro j
  by_cases hj : j < NN
  · by_cases e : o = j
    · subst e
      rw [List.getElem?_set_self (by simp [pic]; exact ho), pic_at ho]
    · rw [List.getElem?_set_ne e, pic_at hj, pic_at hj, h j (Ne.symm e)]
  · rw [List.getElem?_eq_none (by simp [pic]; omega), List.getElem?_eq_none (by simp [pic]; omega)]
theorem fl_len : (fl ad st t x o).length = nf t := by simp [fl]
theorem fl_at (h : k < nf t) : (fl ad st t x o)[k]? = some (fv ad st x o k (fk t k)) := by simp [fl, h]
theorem fl_set (hk : k < nf t) (h : ∀ j, j ≠ k → fv ad st y o j (fk t j) = fv ad st x o j (fk t j)) : (fl ad st t x o).set k (fv ad st y o k (fk t k)) = fl ad st t y o := by
  apply List.ext_getElem?
  intro j
  by_cases hj : j < nf t
  · by_cases e : k = j
    · subst e
      rw [List.getElem?_set_self (by rw [fl_len]; exact hk), fl_at hk]
    · rw [List.getElem?_set_ne e, fl_at hj, fl_at hj, h j (Ne.symm e)]
  · rw [List.getElem?_eq_none (by rw [List.length_set, fl_len]; omega), List.getElem?_eq_none (by rw [fl_len]; omega)]
theorem fv_I {v : Int32} {b j : Nat} (h : ¬ (o = b ∧ j = k)) : fv ad st (setI x b k v) o j t = fv ad st x o j t := by
  rcases t with _ | _ | _ | t
  · show Value.int (if o = b ∧ j = k then v else x.1 o j) = _
    rw [if_neg h]; rfl
  · rfl
  · rfl
  · rfl
theorem fv_J {v : Int64} {b j : Nat} (h : ¬ (o = b ∧ j = k)) : fv ad st (setJ x b k v) o j t = fv ad st x o j t := by
  rcases t with _ | _ | _ | t
  · rfl
  · show Value.long (if o = b ∧ j = k then v else x.2.1 o j) = _
    rw [if_neg h]; rfl
  · rfl
  · rfl
theorem fv_R {v : Option Nat} {b j : Nat} (h : ¬ (o = b ∧ j = k)) : fv ad st (setR x b k v) o j t = fv ad st x o j t := by
  rcases t with _ | _ | _ | t
  · rfl
  · rfl
  · show (match (if o = b ∧ j = k then v else x.2.2.1 o j) with | none => Value.null | some q => .ref (ad q)) = _
    rw [if_neg h]; rfl
  · rfl
theorem fl_eq (h : ∀ j, fv ad st y o j (fk t j) = fv ad st x o j (fk t j)) : fl ad st t y o = fl ad st t x o := by
  unfold fl
  apply List.map_congr_left
  intro j _
  exact h j
theorem pic_I {v : Int32} (ho : o < NN) (hk : kc o = t) (ht : t < 13) (hkn : k < nf t) (hf : fk t k = 0) : (pic ad st kc NN cI cB cJ cZ x).set o (ad o, .inr (t, (fl ad st t x o).set k (.int v))) = pic ad st kc NN cI cB cJ cZ (setI x o k v) := by
  have e1 : Value.int v = fv ad st (setI x o k v) o k (fk t k) := by
    rw [hf]; show _ = Value.int (if o = o ∧ k = k then v else x.1 o k); rw [if_pos ⟨rfl, rfl⟩]
  rw [e1, fl_set hkn (fun j hj => fv_I (fun z => hj z.2))]
  have e2 : (Sum.inr (t, fl ad st t (setI x o k v) o) : va_E) = ent ad st cI cB cJ cZ (kc o) (setI x o k v) o := by rw [hk, ent, if_pos ht]
  rw [e2]
  exact pic_set ho (fun j hj => by unfold ent; rw [fl_eq (fun i => fv_I (fun z => hj z.1))]; rfl)
theorem pic_J {v : Int64} (ho : o < NN) (hk : kc o = t) (ht : t < 13) (hkn : k < nf t) (hf : fk t k = 1) : (pic ad st kc NN cI cB cJ cZ x).set o (ad o, .inr (t, (fl ad st t x o).set k (.long v))) = pic ad st kc NN cI cB cJ cZ (setJ x o k v) := by
  have e1 : Value.long v = fv ad st (setJ x o k v) o k (fk t k) := by
    rw [hf]; show _ = Value.long (if o = o ∧ k = k then v else x.2.1 o k); rw [if_pos ⟨rfl, rfl⟩]
  rw [e1, fl_set hkn (fun j hj => fv_J (fun z => hj z.2))]
  have e2 : (Sum.inr (t, fl ad st t (setJ x o k v) o) : va_E) = ent ad st cI cB cJ cZ (kc o) (setJ x o k v) o := by rw [hk, ent, if_pos ht]
  rw [e2]
  exact pic_set ho (fun j hj => by unfold ent; rw [fl_eq (fun i => fv_J (fun z => hj z.1))]; rfl)
theorem pic_R {q : Nat} (ho : o < NN) (hk : kc o = t) (ht : t < 13) (hkn : k < nf t) (hf : fk t k = 2) : (pic ad st kc NN cI cB cJ cZ x).set o (ad o, .inr (t, (fl ad st t x o).set k (.ref (ad q)))) = pic ad st kc NN cI cB cJ cZ (setR x o k (some q)) := by
  have e1 : Value.ref (ad q) = fv ad st (setR x o k (some q)) o k (fk t k) := by
    rw [hf]
    show _ = (match (if o = o ∧ k = k then some q else x.2.2.1 o k) with | none => Value.null | some q => .ref (ad q))
    rw [if_pos ⟨rfl, rfl⟩]
  rw [e1, fl_set hkn (fun j hj => fv_R (fun z => hj z.2))]
  have e2 : (Sum.inr (t, fl ad st t (setR x o k (some q)) o) : va_E) = ent ad st cI cB cJ cZ (kc o) (setR x o k (some q)) o := by rw [hk, ent, if_pos ht]
  rw [e2]
  exact pic_set ho (fun j hj => by unfold ent; rw [fl_eq (fun i => fv_R (fun z => hj z.1))]; rfl)
theorem fl_A {i v : Int32} {b : Nat} : fl ad st t (setA x b i v) o = fl ad st t x o := rfl
theorem fl_L {i : Int32} {v : Int64} {b : Nat} : fl ad st t (setL x b i v) o = fl ad st t x o := rfl
theorem ent_A {i v : Int32} {b : Nat} (h : o ≠ b) : ent ad st cI cB cJ cZ t (setA x b i v) o = ent ad st cI cB cJ cZ t x o := by
  unfold ent
  rw [fl_A]
  have e : (setA x b i v).2.2.2.1 o = x.2.2.2.1 o := by show (if o = b then _ else _) = _; rw [if_neg h]
  rw [e]; rfl
theorem ent_L {i : Int32} {v : Int64} {b : Nat} (h : o ≠ b) : ent ad st cI cB cJ cZ t (setL x b i v) o = ent ad st cI cB cJ cZ t x o := by
  unfold ent
  rw [fl_L]
  have e : (setL x b i v).2.2.2.2.1 o = x.2.2.2.2.1 o := by show (if o = b then _ else _) = _; rw [if_neg h]
  rw [e]; rfl
theorem row_A {i v : Int32} : (setA x o i v).2.2.2.1 o = upd (x.2.2.2.1 o) i.toNatClampNeg v := by show (if o = o then _ else _) = _; rw [if_pos rfl]
theorem row_L {i : Int32} {v : Int64} : (setL x o i v).2.2.2.2.1 o = vp_updL (x.2.2.2.2.1 o) i.toNatClampNeg v := by show (if o = o then _ else _) = _; rw [if_pos rfl]
theorem pic_Ai {i v : Int32} (ho : o < NN) (hk : kc o = 20) : (pic ad st kc NN cI cB cJ cZ x).set o (ad o, .inl (cI, fN x o, .inl (upd (fA x o) i.toNatClampNeg v))) = pic ad st kc NN cI cB cJ cZ (setA x o i v) := by
  have e2 : (Sum.inl (cI, fN x o, Sum.inl (upd (fA x o) i.toNatClampNeg v)) : va_E) = ent ad st cI cB cJ cZ (kc o) (setA x o i v) o := by
    rw [hk]; show _ = (Sum.inl (cI, (setA x o i v).2.2.2.2.2 o, Sum.inl ((setA x o i v).2.2.2.1 o)) : va_E); rw [row_A]; rfl
  rw [e2]
  exact pic_set ho (fun j hj => ent_A hj)
theorem pic_Ab {i v : Int32} (ho : o < NN) (hk : kc o = 21) : (pic ad st kc NN cI cB cJ cZ x).set o (ad o, .inl (cB, fN x o, .inl (upd (fA x o) i.toNatClampNeg v))) = pic ad st kc NN cI cB cJ cZ (setA x o i v) := by
  have e2 : (Sum.inl (cB, fN x o, Sum.inl (upd (fA x o) i.toNatClampNeg v)) : va_E) = ent ad st cI cB cJ cZ (kc o) (setA x o i v) o := by
    rw [hk]; show _ = (Sum.inl (cB, (setA x o i v).2.2.2.2.2 o, Sum.inl ((setA x o i v).2.2.2.1 o)) : va_E); rw [row_A]; rfl
  rw [e2]
  exact pic_set ho (fun j hj => ent_A hj)
theorem pic_Az {i v : Int32} (ho : o < NN) (hk : kc o = 23) : (pic ad st kc NN cI cB cJ cZ x).set o (ad o, .inl (cZ, fN x o, .inl (upd (fA x o) i.toNatClampNeg v))) = pic ad st kc NN cI cB cJ cZ (setA x o i v) := by
  have e2 : (Sum.inl (cZ, fN x o, Sum.inl (upd (fA x o) i.toNatClampNeg v)) : va_E) = ent ad st cI cB cJ cZ (kc o) (setA x o i v) o := by
    rw [hk]; show _ = (Sum.inl (cZ, (setA x o i v).2.2.2.2.2 o, Sum.inl ((setA x o i v).2.2.2.1 o)) : va_E); rw [row_A]; rfl
  rw [e2]
  exact pic_set ho (fun j hj => ent_A hj)
theorem pic_Al {i : Int32} {v : Int64} (ho : o < NN) (hk : kc o = 22) : (pic ad st kc NN cI cB cJ cZ x).set o (ad o, .inl (cJ, fN x o, .inr (.inl (vp_updL (fL x o) i.toNatClampNeg v)))) = pic ad st kc NN cI cB cJ cZ (setL x o i v) := by
  have e2 : (Sum.inl (cJ, fN x o, Sum.inr (Sum.inl (vp_updL (fL x o) i.toNatClampNeg v))) : va_E) = ent ad st cI cB cJ cZ (kc o) (setL x o i v) o := by
    rw [hk]; show _ = (Sum.inl (cJ, (setL x o i v).2.2.2.2.2 o, Sum.inr (Sum.inl ((setL x o i v).2.2.2.2.1 o))) : va_E); rw [row_L]; rfl
  rw [e2]
  exact pic_set ho (fun j hj => ent_L hj)
end Pic
/-- fields that hold cells hold cells of their kind -/
def WT (kc : Nat → Nat) (NN : Nat) (x : St) : Prop := ∀ o k q : Nat, o < NN → fk (kc o) k = 2 → x.2.2.1 o k = some q → q < NN ∧ kc q = rt (kc o) k
/-- the heap holds the world -/
def Wd (dC : Nat → ClassId) (dI : Nat → Nat → Nat) (cI cB cJ cZ : ClassId) (ad : Nat → Nat) (st : Nat → Nat → Nat) (kc : Nat → Nat) (NN : Nat) (A : Nat → Prop) (x : St) (H : Heap) : Prop :=
  va_P (dC, dI) CL (pic ad st kc NN cI cB cJ cZ x) H ∧ va_D A (pic ad st kc NN cI cB cJ cZ x) ∧ WT kc NN x
theorem WT_R {kc : Nat → Nat} {NN : Nat} {x : St} {o k q : Nat} (h : WT kc NN x) (hq : q < NN) (hk : kc q = rt (kc o) k) : WT kc NN (setR x o k (some q)) := by
  intro a b c ha hb hc
  have hc : (if a = o ∧ b = k then some q else x.2.2.1 a b) = some c := hc
  by_cases e : a = o ∧ b = k
  · rw [if_pos e] at hc
    have e3 : q = c := Option.some.inj hc
    rw [← e3, e.1, e.2]
    exact ⟨hq, hk⟩
  · rw [if_neg e] at hc
    exact h a b c ha hb hc
/-- a contract's start over a world -/
def PW (dC : Nat → ClassId) (dI : Nat → Nat → Nat) (cI cB cJ cZ : ClassId) (ad : Nat → Nat) (st : Nat → Nat → Nat) (kc : Nat → Nat) (NN sz : Nat) (x : St) (U : State) : Prop :=
  U.heap.size = sz ∧ Wd dC dI cI cB cJ cZ ad st kc NN (fun _ => True) x U.heap ∧ va_K (dC, dI) CL (TY cI cB cJ cZ) U ∧ NW U
theorem PW.blind {dC : Nat → ClassId} {dI : Nat → Nat → Nat} {cI cB cJ cZ : ClassId} {ad : Nat → Nat} {st : Nat → Nat → Nat} {kc : Nat → Nat} {NN sz : Nat} {x : St} {av : List Value} : FrameBlind (va_Pc av (PW dC dI cI cB cJ cZ ad st kc NN sz x)) := fun a U g mk q => by
  obtain ⟨q0, q1, qW, qK, qN⟩ := q
  exact ⟨q0, q1, qW, va_K.moved (u := U) (U := U.calling g mk a) (Vm.Alike.refl U.vm) qK, NW.same (u := U) (U := U.calling g mk a) rfl qN⟩
theorem PW.at {dC : Nat → ClassId} {dI : Nat → Nat → Nat} {cI cB cJ cZ : ClassId} {ad : Nat → Nat} {st : Nat → Nat → Nat} {kc : Nat → Nat} {NN : Nat} {A : Nat → Prop} {s : State} {H : Heap} {x : St} (av : List Value) (hW : Wd dC dI cI cB cJ cZ ad st kc NN A x H) (hK : va_K (dC, dI) CL (TY cI cB cJ cZ) s) (hN : NW s) :
    ∀ U : State, U.heap = H → s.WarmedH U.vm → va_Pc av (PW dC dI cI cB cJ cZ ad st kc NN H.size x) av.toArray U := fun U hU hM =>
  ⟨rfl, by rw [hU], by rw [hU]; exact ⟨hW.1, hW.2.1.weaken (fun _ _ _ _ => trivial), hW.2.2⟩, va_K.moved hM.alike hK, NW.warm hM hN⟩
theorem Wd.free {dC : Nat → ClassId} {dI : Nat → Nat → Nat} {cI cB cJ cZ : ClassId} {ad : Nat → Nat} {st : Nat → Nat → Nat} {kc : Nat → Nat} {NN : Nat} {A : Nat → Prop} {x : St} {H0 H : Heap} {locs : List Loc} (hW : Wd dC dI cI cB cJ cZ ad st kc NN A x H) (hS : va_S A H0 H locs) (hA : ∀ q : Nat, H0.size ≤ q → A q) : ∀ q : Nat, va_A (pic ad st kc NN cI cB cJ cZ x) H.size q → A q := by
  intro q h
  rcases h with ⟨k, e, h⟩ | h
  · exact hW.2.1.2 k _ h
  · exact hA q (Nat.le_trans hS.1 h)
theorem Wd.back {dC : Nat → ClassId} {dI : Nat → Nat → Nat} {cI cB cJ cZ : ClassId} {ad : Nat → Nat} {st : Nat → Nat → Nat} {kc : Nat → Nat} {NN : Nat} {A B : Nat → Prop} {x : St} {H H1 : Heap} (h : Wd dC dI cI cB cJ cZ ad st kc NN B x H) (e : H = H1) (hF : ∀ q, B q → A q) : Wd dC dI cI cB cJ cZ ad st kc NN A x H1 := by
  subst e
  exact ⟨h.1, h.2.1.weaken (fun _ q _ z => hF q.1 z), h.2.2⟩
section WRows
variable {p : Program} {l : Launch} {e : Env} {R : Room} {s : State} {m : MethodId} {args : Array Value} {below : List Frame} {meth : Method} {c : Code} {H : Heap} {locs : List Loc} {cells slots : Nat} {Q : State → Prop}
variable {cc : ByteArray} {pc : Nat} {ls : Array Slot} {rest : List Value} {dC : Nat → ClassId} {dI : Nat → Nat → Nat} {cI cB cJ cZ : ClassId} {A : Nat → Prop} {H0 : Heap}
variable {ad : Nat → Nat} {st : Nat → Nat → Nat} {kc : Nat → Nat} {NN : Nat} {x : St} {o k t index N : Nat} {own ref nm ds C : String} {fin : Bool} {T : u_T}
theorem w_geti (hx : p.tables.exec = Jvm.exec) (hb : c.code = cc) (hT : ∀ w ∈ TG, w.before args s = true) (hown : s.vm.findClass own = some m.cls) (hK : va_K (dC, dI) CL (TY cI cB cJ cZ) s) (hW : Wd dC dI cI cB cJ cZ ad st kc NN A x H) (ho : o < NN) (hk : kc o = t) (ht : t < 13) (hin : ∀ w ∈ u_ws C T N, w ∈ TG) (hc : CL[t]? = some (C, T, N)) (hn : nf t = N) (hkN : k < N) (hf : fk t k = 0) (hTk : T k = (ref, nm, ds, fin)) (hlink : Cond.fieldLink own index ref nm ds ∈ TG) (hdg : decode cc pc = .ok (.getfield index, 3))
    (kk : W p l e R s m args below meth c H locs cells slots Q (F0 m (pc + 3) ls (.int (fI x o k) :: rest))) : W p l e R s m args below meth c H locs cells slots Q (F0 m pc ls (.ref (ad o) :: rest)) :=
  f_get (D := (dC, dI)) (ci := t) (v := .int (fI x o k)) hx hb hT hin hown hK hW.1 o (pic_obj ho hk ht) hc k hkN hTk hlink (by rw [fl_at (by rw [hn]; exact hkN), hf]; rfl) hdg kk
theorem w_getj (hx : p.tables.exec = Jvm.exec) (hb : c.code = cc) (hT : ∀ w ∈ TG, w.before args s = true) (hown : s.vm.findClass own = some m.cls) (hK : va_K (dC, dI) CL (TY cI cB cJ cZ) s) (hW : Wd dC dI cI cB cJ cZ ad st kc NN A x H) (ho : o < NN) (hk : kc o = t) (ht : t < 13) (hin : ∀ w ∈ u_ws C T N, w ∈ TG) (hc : CL[t]? = some (C, T, N)) (hn : nf t = N) (hkN : k < N) (hf : fk t k = 1) (hTk : T k = (ref, nm, ds, fin)) (hlink : Cond.fieldLink own index ref nm ds ∈ TG) (hdg : decode cc pc = .ok (.getfield index, 3))
    (kk : W p l e R s m args below meth c H locs cells slots Q (F0 m (pc + 3) ls (.long (fJ x o k) :: rest))) : W p l e R s m args below meth c H locs cells slots Q (F0 m pc ls (.ref (ad o) :: rest)) :=
  f_get (D := (dC, dI)) (ci := t) (v := .long (fJ x o k)) hx hb hT hin hown hK hW.1 o (pic_obj ho hk ht) hc k hkN hTk hlink (by rw [fl_at (by rw [hn]; exact hkN), hf]; rfl) hdg kk
theorem w_getf {q : Nat} (hx : p.tables.exec = Jvm.exec) (hb : c.code = cc) (hT : ∀ w ∈ TG, w.before args s = true) (hown : s.vm.findClass own = some m.cls) (hK : va_K (dC, dI) CL (TY cI cB cJ cZ) s) (hW : Wd dC dI cI cB cJ cZ ad st kc NN A x H) (ho : o < NN) (hk : kc o = t) (ht : t < 13) (hin : ∀ w ∈ u_ws C T N, w ∈ TG) (hc : CL[t]? = some (C, T, N)) (hn : nf t = N) (hkN : k < N) (hf : fk t k = 3) (hTk : T k = (ref, nm, ds, fin)) (hlink : Cond.fieldLink own index ref nm ds ∈ TG) (hdg : decode cc pc = .ok (.getfield index, 3)) (hq : st o k = q)
    (kk : W p l e R s m args below meth c H locs cells slots Q (F0 m (pc + 3) ls (.ref (ad q) :: rest))) : W p l e R s m args below meth c H locs cells slots Q (F0 m pc ls (.ref (ad o) :: rest)) := by
  subst hq
  exact f_get (D := (dC, dI)) (ci := t) (v := .ref (ad (st o k))) hx hb hT hin hown hK hW.1 o (pic_obj ho hk ht) hc k hkN hTk hlink (by rw [fl_at (by rw [hn]; exact hkN), hf]; rfl) hdg kk
theorem w_getr {q : Nat} (hx : p.tables.exec = Jvm.exec) (hb : c.code = cc) (hT : ∀ w ∈ TG, w.before args s = true) (hown : s.vm.findClass own = some m.cls) (hK : va_K (dC, dI) CL (TY cI cB cJ cZ) s) (hW : Wd dC dI cI cB cJ cZ ad st kc NN A x H) (ho : o < NN) (hk : kc o = t) (ht : t < 13) (hin : ∀ w ∈ u_ws C T N, w ∈ TG) (hc : CL[t]? = some (C, T, N)) (hn : nf t = N) (hkN : k < N) (hf : fk t k = 2) (hTk : T k = (ref, nm, ds, fin)) (hlink : Cond.fieldLink own index ref nm ds ∈ TG) (hdg : decode cc pc = .ok (.getfield index, 3)) (hq : fR x o k = some q)
    (kk : q < NN → kc q = rt t k → W p l e R s m args below meth c H locs cells slots Q (F0 m (pc + 3) ls (.ref (ad q) :: rest))) : W p l e R s m args below meth c H locs cells slots Q (F0 m pc ls (.ref (ad o) :: rest)) := by
  have h2 := hW.2.2 o k q ho (by rw [hk]; exact hf) hq
  rw [hk] at h2
  exact f_get (D := (dC, dI)) (ci := t) (v := .ref (ad q)) hx hb hT hin hown hK hW.1 o (pic_obj ho hk ht) hc k hkN hTk hlink (by rw [fl_at (by rw [hn]; exact hkN), hf]; show some (match x.2.2.1 o k with | none => Value.null | some q => .ref (ad q)) = _; rw [show x.2.2.1 o k = some q from hq]) hdg (kk h2.1 h2.2)
theorem w_puti {v : Int32} {ty : FieldType} (hx : p.tables.exec = Jvm.exec) (hb : c.code = cc) (hT : ∀ w ∈ TG, w.before args s = true) (hown : s.vm.findClass own = some m.cls) (hK : va_K (dC, dI) CL (TY cI cB cJ cZ) s) (hW : Wd dC dI cI cB cJ cZ ad st kc NN A x H) (hS : va_S A H0 H locs) (ho : o < NN) (hk : kc o = t) (ht : t < 13) (hin : ∀ w ∈ u_ws C T N, w ∈ TG) (ty0 : Nat → FieldType) (hty : ∀ k, k < N → parseFieldDescriptor (T k).2.2.1 = some (ty0 k)) (hnm : ∀ a, a < N → ∀ b, b < N → a ≠ b → (T a).2.1 ≠ (T b).2.1) (hc : CL[t]? = some (C, T, N)) (hn : nf t = N) (hkN : k < N) (hf : fk t k = 0) (hTk : T k = (ref, nm, ds, false)) (hlink : Cond.fieldLink own index ref nm ds ∈ TG) (hd : parseFieldDescriptor ds = some ty) (hna : narrow ty (.int v) = .int v) (hfit : fits ty (.int v) = true) (hdg : decode cc pc = .ok (.putfield index, 3))
    (kk : ∀ (H1 : Heap) (locs1 : List Loc), Wd dC dI cI cB cJ cZ ad st kc NN A (setI x o k v) H1 → va_S A H0 H1 locs1 → W p l e R s m args below meth c H1 locs1 cells slots Q (F0 m (pc + 3) ls rest)) : W p l e R s m args below meth c H locs cells slots Q (F0 m pc ls (.int v :: .ref (ad o) :: rest)) :=
  f_put (D := (dC, dI)) (ci := t) (v := .int v) (ty := ty) hx hb hT hin ty0 hty hnm hown hK hW.1 hW.2.1 hS o (pic_obj ho hk ht) hc k hkN hTk hlink hd hna hfit (by rw [fl_len, hn]; exact hkN) hdg (fun H1 locs1 hP hD hS => by
    rw [pic_I ho hk ht (by rw [hn]; exact hkN) hf] at hP hD
    exact kk H1 locs1 ⟨hP, hD, hW.2.2⟩ hS)
theorem w_putj {v : Int64} (hx : p.tables.exec = Jvm.exec) (hb : c.code = cc) (hT : ∀ w ∈ TG, w.before args s = true) (hown : s.vm.findClass own = some m.cls) (hK : va_K (dC, dI) CL (TY cI cB cJ cZ) s) (hW : Wd dC dI cI cB cJ cZ ad st kc NN A x H) (hS : va_S A H0 H locs) (ho : o < NN) (hk : kc o = t) (ht : t < 13) (hin : ∀ w ∈ u_ws C T N, w ∈ TG) (ty0 : Nat → FieldType) (hty : ∀ k, k < N → parseFieldDescriptor (T k).2.2.1 = some (ty0 k)) (hnm : ∀ a, a < N → ∀ b, b < N → a ≠ b → (T a).2.1 ≠ (T b).2.1) (hc : CL[t]? = some (C, T, N)) (hn : nf t = N) (hkN : k < N) (hf : fk t k = 1) (hTk : T k = (ref, nm, ds, false)) (hlink : Cond.fieldLink own index ref nm ds ∈ TG) (hd : parseFieldDescriptor ds = some .long) (hdg : decode cc pc = .ok (.putfield index, 3))
    (kk : ∀ (H1 : Heap) (locs1 : List Loc), Wd dC dI cI cB cJ cZ ad st kc NN A (setJ x o k v) H1 → va_S A H0 H1 locs1 → W p l e R s m args below meth c H1 locs1 cells slots Q (F0 m (pc + 3) ls rest)) : W p l e R s m args below meth c H locs cells slots Q (F0 m pc ls (.long v :: .ref (ad o) :: rest)) :=
  f_put (D := (dC, dI)) (ci := t) (v := .long v) (ty := .long) hx hb hT hin ty0 hty hnm hown hK hW.1 hW.2.1 hS o (pic_obj ho hk ht) hc k hkN hTk hlink hd rfl rfl (by rw [fl_len, hn]; exact hkN) hdg (fun H1 locs1 hP hD hS => by
    rw [pic_J ho hk ht (by rw [hn]; exact hkN) hf] at hP hD
    exact kk H1 locs1 ⟨hP, hD, hW.2.2⟩ hS)
theorem w_putr {q : Nat} {ty : FieldType} (hx : p.tables.exec = Jvm.exec) (hb : c.code = cc) (hT : ∀ w ∈ TG, w.before args s = true) (hown : s.vm.findClass own = some m.cls) (hK : va_K (dC, dI) CL (TY cI cB cJ cZ) s) (hW : Wd dC dI cI cB cJ cZ ad st kc NN A x H) (hS : va_S A H0 H locs) (ho : o < NN) (hk : kc o = t) (ht : t < 13) (hin : ∀ w ∈ u_ws C T N, w ∈ TG) (ty0 : Nat → FieldType) (hty : ∀ k, k < N → parseFieldDescriptor (T k).2.2.1 = some (ty0 k)) (hnm : ∀ a, a < N → ∀ b, b < N → a ≠ b → (T a).2.1 ≠ (T b).2.1) (hc : CL[t]? = some (C, T, N)) (hn : nf t = N) (hkN : k < N) (hf : fk t k = 2) (hTk : T k = (ref, nm, ds, false)) (hlink : Cond.fieldLink own index ref nm ds ∈ TG) (hd : parseFieldDescriptor ds = some ty) (hna : narrow ty (.ref (ad q)) = .ref (ad q)) (hfit : fits ty (.ref (ad q)) = true) (hq : q < NN) (hkq : kc q = rt t k) (hdg : decode cc pc = .ok (.putfield index, 3))
    (kk : ∀ (H1 : Heap) (locs1 : List Loc), Wd dC dI cI cB cJ cZ ad st kc NN A (setR x o k (some q)) H1 → va_S A H0 H1 locs1 → W p l e R s m args below meth c H1 locs1 cells slots Q (F0 m (pc + 3) ls rest)) : W p l e R s m args below meth c H locs cells slots Q (F0 m pc ls (.ref (ad q) :: .ref (ad o) :: rest)) :=
  f_put (D := (dC, dI)) (ci := t) (v := .ref (ad q)) (ty := ty) hx hb hT hin ty0 hty hnm hown hK hW.1 hW.2.1 hS o (pic_obj ho hk ht) hc k hkN hTk hlink hd hna hfit (by rw [fl_len, hn]; exact hkN) hdg (fun H1 locs1 hP hD hS => by
    rw [pic_R ho hk ht (by rw [hn]; exact hkN) hf] at hP hD
    exact kk H1 locs1 ⟨hP, hD, WT_R hW.2.2 hq (by rw [hk]; exact hkq)⟩ hS)
theorem w_iald {i : Int32} (hx : p.tables.exec = Jvm.exec) (hb : c.code = cc) (hK : va_K (dC, dI) CL (TY cI cB cJ cZ) s) (hW : Wd dC dI cI cB cJ cZ ad st kc NN A x H) (ho : o < NN) (hk : kc o = 20) (hin : vp_in i (fN x o)) (hdg : decode cc pc = .ok (.iaload, 1))
    (kk : W p l e R s m args below meth c H locs cells slots Q (F0 m (pc + 1) ls (.int (rA x o i) :: rest))) : W p l e R s m args below meth c H locs cells slots Q (F0 m pc ls (.int i :: .ref (ad o) :: rest)) :=
  va_iald hx hb hK hW.1 o 0 (pic_int ho hk) rfl hin hdg kk
theorem w_bald {i : Int32} (hx : p.tables.exec = Jvm.exec) (hb : c.code = cc) (hK : va_K (dC, dI) CL (TY cI cB cJ cZ) s) (hW : Wd dC dI cI cB cJ cZ ad st kc NN A x H) (ho : o < NN) (hk : kc o = 21) (hin : vp_in i (fN x o)) (hdg : decode cc pc = .ok (.baload, 1))
    (kk : W p l e R s m args below meth c H locs cells slots Q (F0 m (pc + 1) ls (.int (rA x o i) :: rest))) : W p l e R s m args below meth c H locs cells slots Q (F0 m pc ls (.int i :: .ref (ad o) :: rest)) :=
  va_bald hx hb hK hW.1 o 1 (pic_byte ho hk) rfl hin hdg kk
theorem w_zald {i : Int32} (hx : p.tables.exec = Jvm.exec) (hb : c.code = cc) (hK : va_K (dC, dI) CL (TY cI cB cJ cZ) s) (hW : Wd dC dI cI cB cJ cZ ad st kc NN A x H) (ho : o < NN) (hk : kc o = 23) (hin : vp_in i (fN x o)) (hdg : decode cc pc = .ok (.baload, 1))
    (kk : W p l e R s m args below meth c H locs cells slots Q (F0 m (pc + 1) ls (.int (rA x o i) :: rest))) : W p l e R s m args below meth c H locs cells slots Q (F0 m pc ls (.int i :: .ref (ad o) :: rest)) :=
  va_zald hx hb hK hW.1 o 3 (pic_bool ho hk) rfl hin hdg kk
theorem w_lald {i : Int32} (hx : p.tables.exec = Jvm.exec) (hb : c.code = cc) (hK : va_K (dC, dI) CL (TY cI cB cJ cZ) s) (hW : Wd dC dI cI cB cJ cZ ad st kc NN A x H) (ho : o < NN) (hk : kc o = 22) (hin : vp_in i (fN x o)) (hdg : decode cc pc = .ok (.laload, 1))
    (kk : W p l e R s m args below meth c H locs cells slots Q (F0 m (pc + 1) ls (.long (rL x o i) :: rest))) : W p l e R s m args below meth c H locs cells slots Q (F0 m pc ls (.int i :: .ref (ad o) :: rest)) :=
  va_lald hx hb hK hW.1 o 2 (pic_long ho hk) rfl hin hdg kk
theorem w_iast {i v : Int32} (hx : p.tables.exec = Jvm.exec) (hb : c.code = cc) (hK : va_K (dC, dI) CL (TY cI cB cJ cZ) s) (hW : Wd dC dI cI cB cJ cZ ad st kc NN A x H) (hS : va_S A H0 H locs) (ho : o < NN) (hk : kc o = 20) (hin : vp_in i (fN x o)) (hdg : decode cc pc = .ok (.iastore, 1))
    (kk : ∀ (H1 : Heap) (locs1 : List Loc), Wd dC dI cI cB cJ cZ ad st kc NN A (setA x o i v) H1 → va_S A H0 H1 locs1 → W p l e R s m args below meth c H1 locs1 cells slots Q (F0 m (pc + 1) ls rest)) : W p l e R s m args below meth c H locs cells slots Q (F0 m pc ls (.int v :: .int i :: .ref (ad o) :: rest)) :=
  va_iast hx hb hK hW.1 hW.2.1 hS o 0 (pic_int ho hk) rfl hin hdg (fun H1 locs1 hP hD hS => by
    rw [pic_Ai ho hk] at hP hD
    exact kk H1 locs1 ⟨hP, hD, hW.2.2⟩ hS)
theorem w_bast {i v : Int32} (hx : p.tables.exec = Jvm.exec) (hb : c.code = cc) (hK : va_K (dC, dI) CL (TY cI cB cJ cZ) s) (hW : Wd dC dI cI cB cJ cZ ad st kc NN A x H) (hS : va_S A H0 H locs) (ho : o < NN) (hk : kc o = 21) (hin : vp_in i (fN x o)) (hdg : decode cc pc = .ok (.bastore, 1))
    (kk : ∀ (H1 : Heap) (locs1 : List Loc), Wd dC dI cI cB cJ cZ ad st kc NN A (setA x o i (vp_nar .byte v)) H1 → va_S A H0 H1 locs1 → W p l e R s m args below meth c H1 locs1 cells slots Q (F0 m (pc + 1) ls rest)) : W p l e R s m args below meth c H locs cells slots Q (F0 m pc ls (.int v :: .int i :: .ref (ad o) :: rest)) :=
  va_bast hx hb hK hW.1 hW.2.1 hS o 1 (pic_byte ho hk) rfl hin hdg (fun H1 locs1 hP hD hS => by
    rw [pic_Ab ho hk] at hP hD
    exact kk H1 locs1 ⟨hP, hD, hW.2.2⟩ hS)
theorem w_zast {i v : Int32} (hx : p.tables.exec = Jvm.exec) (hb : c.code = cc) (hK : va_K (dC, dI) CL (TY cI cB cJ cZ) s) (hW : Wd dC dI cI cB cJ cZ ad st kc NN A x H) (hS : va_S A H0 H locs) (ho : o < NN) (hk : kc o = 23) (hin : vp_in i (fN x o)) (hdg : decode cc pc = .ok (.bastore, 1))
    (kk : ∀ (H1 : Heap) (locs1 : List Loc), Wd dC dI cI cB cJ cZ ad st kc NN A (setA x o i (vp_nar .boolean v)) H1 → va_S A H0 H1 locs1 → W p l e R s m args below meth c H1 locs1 cells slots Q (F0 m (pc + 1) ls rest)) : W p l e R s m args below meth c H locs cells slots Q (F0 m pc ls (.int v :: .int i :: .ref (ad o) :: rest)) :=
  va_zast hx hb hK hW.1 hW.2.1 hS o 3 (pic_bool ho hk) rfl hin hdg (fun H1 locs1 hP hD hS => by
    rw [pic_Az ho hk] at hP hD
    exact kk H1 locs1 ⟨hP, hD, hW.2.2⟩ hS)
theorem w_last {i : Int32} {v : Int64} (hx : p.tables.exec = Jvm.exec) (hb : c.code = cc) (hK : va_K (dC, dI) CL (TY cI cB cJ cZ) s) (hW : Wd dC dI cI cB cJ cZ ad st kc NN A x H) (hS : va_S A H0 H locs) (ho : o < NN) (hk : kc o = 22) (hin : vp_in i (fN x o)) (hdg : decode cc pc = .ok (.lastore, 1))
    (kk : ∀ (H1 : Heap) (locs1 : List Loc), Wd dC dI cI cB cJ cZ ad st kc NN A (setL x o i v) H1 → va_S A H0 H1 locs1 → W p l e R s m args below meth c H1 locs1 cells slots Q (F0 m (pc + 1) ls rest)) : W p l e R s m args below meth c H locs cells slots Q (F0 m pc ls (.long v :: .int i :: .ref (ad o) :: rest)) :=
  va_last hx hb hK hW.1 hW.2.1 hS o 2 (pic_long ho hk) rfl hin hdg (fun H1 locs1 hP hD hS => by
    rw [pic_Al ho hk] at hP hD
    exact kk H1 locs1 ⟨hP, hD, hW.2.2⟩ hS)
theorem w_alen {ty : FieldType} {t0 : Nat} {cA : ClassId} {v : vp_A} (hx : p.tables.exec = Jvm.exec) (hb : c.code = cc) (hK : va_K (dC, dI) CL (TY cI cB cJ cZ) s) (hW : Wd dC dI cI cB cJ cZ ad st kc NN A x H) (ha : (pic ad st kc NN cI cB cJ cZ x)[o]? = some (ad o, .inl (cA, v))) (hv : v.1 = fN x o) (ht : (TY cI cB cJ cZ)[t0]? = some (cA, ty)) (hdg : decode cc pc = .ok (.arraylength, 1))
    (kk : W p l e R s m args below meth c H locs cells slots Q (F0 m (pc + 1) ls (.int (nI (fN x o)) :: rest))) : W p l e R s m args below meth c H locs cells slots Q (F0 m pc ls (.ref (ad o) :: rest)) :=
  va_alen hx hb hK hW.1 o t0 ha ht (v := nI (fN x o)) (by rw [hv]; rfl) hdg kk
end WRows

