/-! row: it throws, the law catches -/
def eN : String := "java/util/NoSuchElementException"
def at0 : List Cond := vx_at0 "SortingNets" 330 eN ["java/lang/RuntimeException", "java/lang/Exception"]
theorem at0_ot : ∀ w ∈ Cond.classLink "SortingNets" 328 eN :: Cond.initialized eN :: at0, vx_ot w = true := by decide +kernel
theorem at0_tb : ∀ w ∈ at0.filter goodWord, w ∈ TB := by decide +kernel
/-- the words of the throw that don't stand in TB -/
def at0_B : List Cond := [.declares (Bundle.init0 "java/lang/RuntimeException"), .declares (Bundle.init0 "java/lang/Exception"), .declares (Bundle.init0 Bundle.tN), .castable eN eN]
theorem at0_out : ∀ w ∈ at0.filter (fun w => !goodWord w), w ∈ at0_B := by decide +kernel
/-- the search for a handler where the table has one row alone, and she takes it -/
theorem rc_step {e : Env} {S : State} {f : JFrame} {a : Addr} {r : List Frame} {mt : Method} {cd : Code} {x : ExceptionTableEntry} {k : ClassId} {cell : Cell} (hm : S.vm.method? f.method = some mt) (hc : mt.code = some cd) (ht : cd.exceptionTable.toList = [x]) (hx : covers x f.pc = true) (h0 : x.catchType ≠ 0) (hl : S.vm.ClassLinks e.platform f.method.cls x.catchType k) (hcell : S.heap[a]? = some cell) (hv : cell.vm = .none) (hk1 : ∃ z, S.vm.classes[cell.cls]? = some z) (hk2 : ∃ z, S.vm.classes[k]? = some z) (hfit : S.vm.assignable cell.cls k = true) : (stepThrowing e S a (.java f :: r)).Is ((S.setVm (S.vm.noted f.method.cls x.catchType (.cls k))).setFrames (.java { f with pc := x.handlerPc, stack := [.ref a] } :: r)) [] := by
  generalize hV : S.vm.noted f.method.cls x.catchType (.cls k) = V
  have hA : S.vm.Alike V := by rw [← hV]; exact (Vm.Alike.refl S.vm).noted _ _ _
  obtain ⟨z1, hz1⟩ := hk1
  obtain ⟨z2, hz2⟩ := hk2
  obtain ⟨y1, hy1, -⟩ := hA.2.2 _ _ hz1
  obtain ⟨y2, hy2, -⟩ := hA.2.2 _ _ hz2
  have hF : V.assignable cell.cls k = true := by rw [hA.assignable]; exact hfit
  have hR := (resolveClass_links e.toSetting hl).op (op := VmOp.resolveClass f.method.cls x.catchType) rfl
  rw [hV] at hR
  have hT : ∀ (Q : Handler → Pre) (E : CtlPost) (d : Bool) (acts : List Action), wp (findHandler f a) Q E e d acts S ↔ Q (.found x.handlerPc) d acts (S.setVm V) := by
    intro Q E d acts
    unfold covers at hx
    rw [W.findHandler_eq hm hc, ht]
    simp [findHandler.go, hx, h0, hR.1, hR.2, hcell, hv, hy1, hy2, hF, VmOp.dirties, VmOp.acts]
  unfold stepThrowing searchFrame vmDo
  generalize hg : Sem.go _ e false [] S = res
  obtain ⟨as, rfl, ha⟩ := Sem.eq_ok_of hg (a := Handler.found x.handlerPc) (s' := S.setVm V) (acts' := []) (by simp [hT])
  exact ⟨rfl, ha⟩
