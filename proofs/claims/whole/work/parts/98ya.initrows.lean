/-! constructors: rows -/
abbrev zI (k : ClassId) (n : Nat) : va_E := .inl (k, n, .inl (fun _ => 0))
abbrev zL (k : ClassId) (n : Nat) : va_E := .inl (k, n, .inr (.inl (fun _ => 0)))
def rmI (mc ms : Nat) : Room := { frames := 1, cells := mc, slots := ms, locals := 12 }
def Pn (D : va_G) (kA : Nat → ClassId) (w : va_W) (sz h0 : Nat) : Array Value → State → Prop := va_Pc [.ref h0] (fun U => U.heap.size = sz ∧ va_P D classes w U.heap ∧ va_K D classes (tyA kA) U ∧ va_D (fun _ => True) w)
def Bn (D : va_G) (wf : (Nat → Nat) → va_W) (A : Nat → Prop) (u : Nat → Nat) (t : State) : Prop := va_P D classes (wf u) t.heap ∧ va_D A (wf u)
theorem Pn_blind {D : va_G} {kA : Nat → ClassId} {w : va_W} {sz h0 : Nat} : FrameBlind (Pn D kA w sz h0) := by
  intro a U g mk h
  obtain ⟨q0, q1, qP, qK, qD⟩ := h
  exact ⟨q0, q1, qP, va_K.moved (u := U) (U := U.calling g mk a) (Vm.Alike.refl U.vm) qK, qD⟩
section Init1
variable {p : Program} {l : Launch} {e : Env} {R : Room} {s : State} {m : MethodId} {args : Array Value} {below : List Frame} {meth : Method} {c : Code} {H H0 : Heap} {locs : List Loc} {cells slots : Nat} {Q : State → Prop} {cc : ByteArray} {pc : Nat} {ls : Array Slot} {rest : List Value} {D : va_G} {cl : List vw_C} {ws : va_W} {tys : List (ClassId × FieldType)} {A : Nat → Prop}
theorem nw_arr (hexec : p.tables.exec = Jvm.exec) (hb : c.code = cc) {atype : ArrayType} (harr : (Cond.arrayClass (newarray.typeOf atype)).before args s = true) (hK : va_K D cl tys s) (t : Nat) {kt : ClassId} (ht : tys[t]? = some (kt, newarray.typeOf atype)) (hP : va_P D cl ws H) (hD : va_D A ws) (hS : va_S A H0 H locs) (hA : ∀ q, H0.size ≤ q → A q)
    {n : Int32} {N' : Nat} {a0 : vp_A} (ha : ∀ cA : ClassId, vp_cell cA a0 = arrV cA N' (fun _ => defaultValue (newarray.typeOf atype))) (hn : ¬ n < 0) (hN : n.toNatClampNeg = N') (hbytes : N' * componentBytes (newarray.typeOf atype) ≤ 536870912) (hcells : cells + 1 ≤ R.cells) (hslots : slots + N' ≤ R.slots) (hdg : decode cc pc = .ok (.newarray atype, 2))
    (kk : ∀ (q : Nat) (H1 : Heap), va_P D cl (ws ++ [(q, .inl (kt, a0))]) H1 → va_D A (ws ++ [(q, .inl (kt, a0))]) → va_S A H0 H1 locs →
      W p l e R s m args below meth c H1 locs (cells + 1) (slots + N') Q (F0 m (pc + 2) ls (.ref q :: rest))) : W p l e R s m args below meth c H locs cells slots Q (F0 m pc ls (.int n :: rest)) := by
  refine va_newa hexec hb harr rfl hK hP hD hS hA ha hn hN hbytes hcells hslots hdg (fun q cA H1 hK' hP' hD' hS' => ?_)
  have h1 := (hK.2 t _ ht).2
  have h2 := (hK'.2 tys.length (cA, newarray.typeOf atype) (by simp)).2
  have e1 : cA = kt := by cases atype <;> exact Option.some.inj (h2.symm.trans h1)
  rw [e1] at hP' hD'
  exact kk q H1 hP' hD' hS'
theorem nw_q (hexec : p.tables.exec = Jvm.exec) (hb : c.code = cc) {own C : String} {index : Nat} (hown : s.vm.findClass own = some m.cls) (hclink : (Cond.classLink own index C).before args s = true) (hover : va_AO C s) (hK : va_K D cl tys s) (t : Nat) {kt : ClassId} (ht : tys[t]? = some (kt, .object C)) (hP : va_P D cl ws H) (hD : va_D A ws) (hS : va_S A H0 H locs) (hA : ∀ q, H0.size ≤ q → A q)
    {n : Int32} {N' : Nat} (hn : ¬ n < 0) (hN : n.toNatClampNeg = N') (hbytes : N' * 4 ≤ 536870912) (hcells : cells + 1 ≤ R.cells) (hslots : slots + N' ≤ R.slots) (hdg : decode cc pc = .ok (.anewarray index, 3))
    (kk : ∀ (q : Nat) (H1 : Heap), va_P D cl (ws ++ [(q, .inl (kt, N', .inr (.inr (.inr (.inr (fun _ => none))))))]) H1 → va_D A (ws ++ [(q, .inl (kt, N', .inr (.inr (.inr (.inr (fun _ => none))))))]) → va_S A H0 H1 locs →
      W p l e R s m args below meth c H1 locs (cells + 1) (slots + N') Q (F0 m (pc + 3) ls (.ref q :: rest))) : W p l e R s m args below meth c H locs cells slots Q (F0 m pc ls (.int n :: rest)) := by
  refine va_newq hexec hb hown hclink hover hK hP hD hS hA hn hN hbytes hcells hslots hdg (fun q cA H1 hK' hP' hD' hS' => ?_)
  obtain ⟨_, _, _, _, _, h1⟩ := (hK.2 t _ ht).2
  obtain ⟨_, _, _, _, _, h2⟩ := (hK'.2 tys.length (cA, .object C) (by simp)).2
  have e1 : cA = kt := Option.some.inj (h2.symm.trans h1)
  rw [e1] at hP' hD'
  exact kk q H1 hP' hD' hS'
theorem jn {R0 w1 : va_W} {q : Nat} {e0 : va_E} {H1 : Heap} (hP : va_P D cl (R0 ++ [(q, e0)]) H) (hD : va_D A (R0 ++ [(q, e0)])) (hk : ∀ z : Nat, z < H.size → ¬ va_A [(q, e0)] H.size z → H1[z]? = H[z]?) (hF : ∀ z, va_A [(q, e0)] H.size z → A z) (hP1 : va_P D cl w1 H1) (hD1 : va_D (va_A [(q, e0)] H.size) w1) : va_P D cl (R0 ++ w1) H1 ∧ va_D A (R0 ++ w1) := by
  have sub : ∀ (k : Nat) (x : Nat × va_E), R0[k]? = some x → (R0 ++ [(q, e0)])[k]? = some x := fun k x hx => by rw [List.getElem?_append_left (List.getElem?_eq_some_iff.mp hx).1]; exact hx
  have last : (R0 ++ [(q, e0)])[R0.length]? = some (q, e0) := by simp
  have hPR : va_P D cl R0 H := fun k x hx => hP k x (sub k x hx)
  have ne : ∀ (k : Nat) (x : Nat × va_E), R0[k]? = some x → ¬ va_A [(q, e0)] H.size x.1 := by
    intro k x hx z
    rcases z with ⟨j, e', hj⟩ | z
    · have h0 : j < 1 := (List.getElem?_eq_some_iff.mp hj).1
      have h1 : j = 0 := by omega
      subst h1
      have h9 : some (q, e0) = some (x.1, e') := hj
      have h2 : q = x.1 := congrArg Prod.fst (Option.some.inj h9)
      have h3 := hD.1 k R0.length x (q, e0) (sub k x hx) last h2.symm
      have h4 := (List.getElem?_eq_some_iff.mp hx).1
      omega
    · exact absurd (hPR k x hx).lt (Nat.not_lt.mpr z)
  refine ⟨(hPR.kept (fun k x hx => hk x.1 (hPR k x hx).lt (ne k x hx))).app hP1, va_D.app ?_ ?_ ?_⟩
  · exact ⟨fun i j a b hi hj hab => hD.1 i j a b (sub i a hi) (sub j b hj) hab, fun k x hx => hD.2 k x (sub k x hx)⟩
  · exact hD1.weaken (fun k x hx hz => hF _ hz)
  · intro i j a b hi hj hab
    exact ne i a hi (by rw [hab]; exact hD1.2 j b hj)
end Init1
