/-! row: what the throw asks of the state -/
theorem at0_Bt : ∀ w ∈ at0_B, w.onTables = true := by decide +kernel
def ThS (A : Nat → Prop) (U : State) : Prop := (∀ w ∈ at0_B, va_Nw w U) ∧ vx_Zq Bundle.tN "UNASSIGNED_STACK" Bundle.steD A U U.heap ∧ vx_Zq Bundle.tN "SUPPRESSED_SENTINEL" Bundle.listD A U U.heap
theorem at0_warm {s U : State} (hW : s.WarmedH U.vm) (h : ∀ w ∈ at0_B, va_Nw w s) : ∀ w ∈ at0_B, va_Nw w U := by
  intro w hw
  have hz := h w hw
  unfold at0_B at hw
  rcases List.mem_cons.mp hw with e | hw
  · subst e; exact va_Nw.warmD hW hz
  rcases List.mem_cons.mp hw with e | hw
  · subst e; exact va_Nw.warmD hW hz
  rcases List.mem_cons.mp hw with e | hw
  · subst e; exact va_Nw.warmD hW hz
  rcases List.mem_cons.mp hw with e | hw
  · subst e; exact va_Nw.warmC hW hz
  · cases hw
theorem ThS.to {A : Nat → Prop} {ad : Nat → Nat} {s U : State} {locs : List Loc} (h : ThS A s) (hS : va_S A s.heap U.heap locs) (hW : s.WarmedH U.vm) (hA : ∀ q, Aw ad q → A q) : ThS (Aw ad) U := ⟨at0_warm hW h.1, vx_Zq.narrow (vx_Zq.kept (vx_Zq.moved hW.alike h.2.1) hS.2.1) hA, vx_Zq.narrow (vx_Zq.kept (vx_Zq.moved hW.alike h.2.2) hS.2.1) hA⟩
theorem ThS.blind {A : Nat → Prop} {U : State} {g : JFrame} {mk : MethodId} {a : Array Value} (h : ThS A U) : ThS A (U.calling g mk a) := by
  have hvm : U.vm.Alike (U.calling g mk a).vm := Vm.Alike.refl U.vm
  exact ⟨fun w hw => va_Nw.same (at0_Bt w hw) (rfl : U.vm = (U.calling g mk a).vm) (h.1 w hw), vx_Zq.moved hvm h.2.1, vx_Zq.moved hvm h.2.2⟩
theorem ThS.hat {A : Nat → Prop} {s : State} {args : Array Value} (h : ThS A s) (hts : ∀ w ∈ TB, w.before args s = true) : ∀ w ∈ at0, w.before args s = true := vx_hat (B := at0_B) (fun w hw => hts w (at0_tb w hw)) at0_out (fun w hw => va_Nw.use (at0_Bt w hw) (h.1 w hw))
