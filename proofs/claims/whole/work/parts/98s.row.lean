/-! row: it throws, the law catches -/
def eN : String := "java/util/NoSuchElementException"
def at0 : List Cond := vx_at0 "SortingNets" 330 eN ["java/lang/RuntimeException", "java/lang/Exception"]
theorem at0_ot : ∀ w ∈ Cond.classLink "SortingNets" 328 eN :: Cond.initialized eN :: at0, vx_ot w = true := by decide +kernel
theorem at0_tb : ∀ w ∈ at0.filter goodWord, w ∈ TB := by decide +kernel
/-- the words of the throw that don't stand in TB -/
def at0_B : List Cond := [.declares (Bundle.init0 "java/lang/RuntimeException"), .declares (Bundle.init0 "java/lang/Exception"), .declares (Bundle.init0 Bundle.tN), .castable eN eN]
theorem at0_out : ∀ w ∈ at0.filter (fun w => !goodWord w), w ∈ at0_B := by decide +kernel
/-- the search for a handler where the table has one row alone, and she takes it -/
theorem rc_step {e : Env} {S : State} {f : JFrame} {a : Addr} {r : List Frame} {mt : Method} {cd : Code} {x : ExceptionTableEntry} {k : ClassId} {cell : Cell} (hm : S.vm.method? f.method = some mt) (hc : mt.code = some cd) (ht : cd.exceptionTable.toList = [x]) (hx : covers x f.pc = true) (h0 : x.catchType ≠ 0) (hl : S.vm.ClassLinks e.platform f.method.cls x.catchType k) (hcell : S.heap[a]? = some cell) (hv : cell.vm = .none) (hk1 : ∃ z, S.vm.classes[cell.cls]? = some z) (hk2 : ∃ z, S.vm.classes[k]? = some z) (hfit : S.vm.assignable cell.cls k = true) : (stepThrowing e S a (.java f :: r)).Is ((S.setVm (S.vm.noted f.method.cls x.catchType (.cls k))).setFrames (.java { f with pc := x.handlerPc, stack := [.ref a] } :: r)) [] := by
  generalize hV : S.vm.noted f.method.cls x.catchType (.cls k) = V
  have hA : S.vm.Alike V := by rw [← hV]; exact (Vm.Alike.refl S.vm).noted _ _ _
  obtain ⟨z1, hz1⟩ := hk1
  obtain ⟨z2, hz2⟩ := hk2
  obtain ⟨y1, hy1, -⟩ := hA.2.2 _ _ hz1
  obtain ⟨y2, hy2, -⟩ := hA.2.2 _ _ hz2
  have hF : V.assignable cell.cls k = true := by rw [hA.assignable]; exact hfit
  have hG := resolveClass_links e.toSetting hl
  rw [hV] at hG
  obtain ⟨hR1, hR2⟩ := hG.op (op := VmOp.resolveClass f.method.cls x.catchType) rfl
  have hLa := VmOp.lands_eq hR2 (Nat.le_of_eq hA.2.1)
  have hT : ∀ (Q : Handler → Pre) (E : CtlPost) (d : Bool) (acts : List Action), wp (findHandler f a) Q E e d acts S ↔ Q (.found x.handlerPc) d acts (S.setVm V) := by
    intro Q E d acts
    unfold covers at hx
    rw [W.findHandler_eq hm hc, ht]
    simp [findHandler.go, hx, h0, hR1, hR2, hLa, hcell, hv, hy1, hy2, hF, VmOp.dirties, VmOp.acts]
  simp only [stepThrowing, searchFrame, vmDo]
  generalize hg : Sem.go _ e false [] S = res
  obtain ⟨as, rfl, ha⟩ := Sem.eq_ok_of hg (a := Handler.found x.handlerPc) (s' := S.setVm V) (acts' := []) (by simp [hT])
  exact ⟨rfl, ha⟩
/-- a throw over the method's frame, where the table's one row takes it -/
theorem rc_catch {p : Program} {l : Launch} {e : Env} {R : Room} {s : State} {m : MethodId} {args : Array Value} {below : List Frame} {meth : Method} {c : Code} {H : Heap} {locs : List Loc} {cells slots pc : Nat} {ls : Array Slot} {rest : List Value} {Q : State → Prop} {own name E : String} {ce : Cell} {q : Addr} {x : ExceptionTableEntry} (hown : s.vm.findClass own = some m.cls) (ht : c.exceptionTable.toList = [x]) (hx : covers x pc = true) (h0 : x.catchType ≠ 0) (hlink : (Cond.classLink own x.catchType name).before args s = true) (hcast : (Cond.castable E name).before args s = true) (hcell : H[q]? = some ce) (hv : ce.vm = .none) (hcl : s.vm.findClass E = some ce.cls) (kk : W p l e R s m args below meth c H locs cells slots Q (F0 m x.handlerPc ls [.ref q])) : vx_W p l e R s m args below meth c H locs cells slots Q (F0 m pc ls rest) q := by
  intro T hT X
  have hpl : e.platform.magicAccessors = ({} : Platform).magicAccessors := by rw [X.admits.platform]
  obtain ⟨k1, k2, hk1, hk2, hasg⟩ := Cond.castable_spec hcast
  cases Option.some.inj (hk1.symm.trans hcl)
  obtain ⟨k3, hk3, hlk⟩ := Cond.classLink_spec hown hlink e.platform hpl
  cases Option.some.inj (hk2.symm.trans hk3)
  obtain ⟨dk, _, _, kt, hd, _, _, _, _, hkt, _, hopen⟩ := hlk.here
  have hW := X.warmed
  obtain ⟨z1, hz1, -⟩ := Vm.findClass_spec hcl
  obtain ⟨y1, hy1, -⟩ := hW.alike.2.2 _ _ hz1
  obtain ⟨y2, hy2, -⟩ := hW.alike.2.2 _ _ hkt
  have hX' := X.noted (hW.noted hd hopen (State.rightAt_cls hlk))
  generalize hV : T.vm.noted m.cls x.catchType (.cls k2) = V at hX'
  obtain ⟨t, st, hQ⟩ := kk (T.setVm V) hT hX'
  refine ⟨t, ?_, hQ⟩
  obtain ⟨hgo, hin⟩ := At.throwing (g := F0 m pc ls rest) X.here q
  refine Steps.head hgo hin ?_
  have h1 := rc_step (e := e) (S := (T.setTop (F0 m pc ls rest)).pushFrame (.throwing q)) (f := F0 m pc ls rest) (a := q) (r := T.frames.tail) (mt := meth) (cd := c) (x := x) (k := k2) (cell := ce) (by rw [throwing_vm]; exact X.method') X.code ht hx h0 (by rw [throwing_vm]; exact hW.classLinks hlk) (by rw [throwing_heap, hT]; exact hcell) hv (by rw [throwing_vm]; exact ⟨y1, hy1⟩) (by rw [throwing_vm]; exact ⟨y2, hy2⟩) (by rw [throwing_vm, hW.alike.assignable]; exact hasg)
  rw [stepThread_throwing (frames_entered X.here.top _), h1.1, throwing_vm]
  rw [show (F0 m pc ls rest).method = m from rfl, hV]
  obtain ⟨g₀, hg⟩ := Option.isSome_iff_exists.mp X.here.top
  obtain ⟨r, hr⟩ := State.topJava?_eq_some.mp hg
  have hr' : (T.setVm V).frames = .java g₀ :: r := hr
  rw [State.setTop_of_frames _ hr'] at st
  have hE : ∀ (F G : List Frame), ((T.setFrames F).setVm V).setFrames G = (T.setVm V).setFrames G := fun F G => by
    show ((T.setVm V).setFrames F).setFrames G = _
    rw [State.setFrames_setFrames]
  rw [hr, List.tail_cons, State.pushFrame, State.setTop_of_frames _ hr, State.setFrames_setFrames, hE]
  exact st
