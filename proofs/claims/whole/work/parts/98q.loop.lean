/-! the law: its loop -/
abbrev LK : Type := (Program × Launch × Env) × (State × MethodId × Nat × List Frame) × (Method × Code) × (va_G × (Nat → Nat) × (Nat → ClassId))
def LG (K : LK) (ce sl : Nat) : Cx Unit := ((K.1.1, K.1.2.1, K.1.2.2, room_1), (K.2.1.1, K.2.1.2.1, #[Value.ref K.2.1.2.2.1], K.2.1.2.2.2), (K.2.2.1.1, K.2.2.1.2, ce, sl), (K.2.2.2.1, K.2.2.2.2.1, K.2.2.2.2.2, fun q => K.2.1.1.heap.size ≤ q), fun _ _ => lw_Z K.2.1.2.2.2 #[Value.ref K.2.1.2.2.1] K.2.1.1)
theorem go_widen {K : LK} {ce sl ce' sl' nL pc : Nat} {lv : List (Nat × Value)} {st : List Value} {μ : Mem} {o : Option (Unit × Mem)} (h1 : ce ≤ ce') (h2 : sl ≤ sl') (kk : Go (LG K ce' sl') nL pc lv st μ o) : Go (LG K ce sl) nL pc lv st μ o := fun H locs ls r μ' ho hP hS hl => W.widen h1 h2 (kk H locs ls r μ' ho hP hS hl)
theorem go_scl {Γ : Cx Unit} {L pc : Nat} {lv : List (Nat × Value)} {sc : Nat → Int32} {st : List Value} {μ : Mem} {o : Option (Unit × Mem)} (h : LH Γ L sc) (hd : decode code pc = .ok (.arraylength, 1)) (kk : Go Γ 8 (pc + 1) lv (.int (nI L) :: st) μ o) : Go Γ 8 pc lv (.ref 66 :: st) μ o := fun H locs ls r μ' ho hP hS hl => va_slen h.1.1 h.1.2.1 h.2.2.1 h.2.2.2.1 h.2.2.2.2 hS hd (kk H locs ls r μ' ho hP hS hl)
theorem go_sce {Γ : Cx Unit} {i L pc : Nat} {lv : List (Nat × Value)} {sc : Nat → Int32} {st : List Value} {μ : Mem} {o : Option (Unit × Mem)} (h : LH Γ L sc) (hi : i < L) (hL : L ≤ 2560) (hd : decode code pc = .ok (.iaload, 1)) (kk : Go Γ 8 (pc + 1) lv (.int (sc i) :: st) μ o) : Go Γ 8 pc lv (.int (nI i) :: .ref 66 :: st) μ o := by
  intro H locs ls r μ' ho hP hS hl
  have hin : vp_in (nI i) L := inb_in (inb_nI hi (by omega))
  have kk' := kk H locs ls r μ' ho hP hS hl
  rw [← tn_nI (show i < 2 ^ 31 by omega)] at kk'
  exact va_sld h.1.1 h.1.2.1 h.2.2.1 h.2.2.2.1 h.2.2.2.2 hS hin hd kk'
theorem go_end {K : LK} {ce sl : Nat} {lv : List (Nat × Value)} {μ : Mem} {o : Option (Unit × Mem)} {L : Nat} {sc : Nat → Int32} (h : LH (LG K ce sl) L sc) (hret : K.2.2.1.1.sig.returnType = ret) (h1 : ce ≤ 601024) (h2 : sl ≤ 7293034) : Go (LG K ce sl) 8 1537 lv [] μ o := by
  refine go_iconst h.1 d_law_1537 (v := 1) rfl ?_
  intro H locs ls r μ' ho hP hS hl
  refine va_forget (fun q hq => hS.2.2 q hq) ?_
  refine W.widen (k := 601024) (n := 7293034) h1 h2 ?_
  exact lw_ret h.1.1 h.1.2.1 hret h.1.2.2.2.2.2.1 d_law_1538
theorem law_loop {K : LK} {L : Nat} {sc : Nat → Int32} {o : Option (Unit × Mem)} (N : Nat) (hN : 10000 ≤ N) (hL : L ≤ 2560) (C S dc ds : Nat) (hC : ∀ k, k ≤ 512 → C + k * dc ≤ 601024) (hS : ∀ k, k ≤ 512 → S + k * ds ≤ 7293034) (h : ∀ k, k ≤ 512 → LH (LG K (C + k * dc) (S + k * ds)) L sc) (hret : K.2.2.1.1.sig.returnType = ret)
    (hrow : ∀ k i μ, k < 512 → i + 5 ≤ L → Rel μ → (∀ μ2, Rel μ2 → Go (LG K (C + (k + 1) * dc) (S + (k + 1) * ds)) 8 1531 (lvL i) [] μ2 o) → Go (LG K (C + k * dc) (S + k * ds)) 8 1476 (lvL i) [] μ o) :
    ∀ (n k : Nat) (μ : Mem), k + n = 512 → Rel μ → Go (LG K (C + k * dc) (S + k * ds)) 8 23 (lvL (5 * k)) [] μ o := by
  intro n
  induction n with
  | zero =>
    intro k μ hk hr
    have hh := h k (by omega)
    refine go_iload hh.1 d_law_23 (q := 4) rfl ?_
    refine go_aload_n hh.1 d_law_25 rfl (q := 0) rfl ?_
    refine go_scl hh d_law_26 ?_
    refine go_iconst hh.1 d_law_27 (v := 5) rfl ?_
    refine go_isub hh.1 d_law_28 ?_
    have e5 : (5 : Int32).toInt = 5 := rfl
    have sb : (nI L - 5).toInt = (L : Int) - 5 := by rw [fb_subI (by rw [nI_toInt (by omega), e5]; omega) (by rw [nI_toInt (by omega), e5]; omega), nI_toInt (by omega), e5]
    refine go_icmp_gt 1537 hh.1 d_law_29 rfl (fun _ => go_end hh hret (hC k (by omega)) (hS k (by omega))) (fun z => absurd ?_ z)
    rw [Int32.lt_iff_toInt_lt, sb, nI_toInt (by omega)]
    omega
  | succ n ih =>
    intro k μ hk hr
    have hh := h k (by omega)
    refine go_iload hh.1 d_law_23 (q := 4) rfl ?_
    refine go_aload_n hh.1 d_law_25 rfl (q := 0) rfl ?_
    refine go_scl hh d_law_26 ?_
    refine go_iconst hh.1 d_law_27 (v := 5) rfl ?_
    refine go_isub hh.1 d_law_28 ?_
    have e5 : (5 : Int32).toInt = 5 := rfl
    have sb : (nI L - 5).toInt = (L : Int) - 5 := by rw [fb_subI (by rw [nI_toInt (by omega), e5]; omega) (by rw [nI_toInt (by omega), e5]; omega), nI_toInt (by omega), e5]
    refine go_icmp_gt 1537 hh.1 d_law_29 rfl (fun _ => go_end hh hret (hC k (by omega)) (hS k (by omega))) (fun z => ?_)
    rw [Int32.lt_iff_toInt_lt, sb, nI_toInt (by omega)] at z
    have hi : 5 * k + 5 ≤ L := (by omega)
    have next : ∀ μ2, Rel μ2 → Go (LG K (C + (k + 1) * dc) (S + (k + 1) * ds)) 8 1531 (lvL (5 * k)) [] μ2 o := by
      intro μ2 hr2
      have h1 := h (k + 1) (by omega)
      refine go_iinc h1.1 d_law_1531 (q := 4) (v := nI (5 * (k + 1))) rfl ?_ (by decide) rfl ?_
      · rw [show Int32.ofInt 5 = nI 5 from rfl, nI_add, show 5 * k + 5 = 5 * (k + 1) by omega]
      · refine go_goto 23 h1.1 d_law_1534 rfl ?_
        exact go_sub [1, 2, 3, 4, 0] rfl (ih (k + 1) μ2 (by omega) hr2)
    have mn : C + k * dc ≤ C + (k + 1) * dc := Nat.add_le_add_left (Nat.mul_le_mul_right _ (Nat.le_succ k)) _
    have mn' : S + k * ds ≤ S + (k + 1) * ds := Nat.add_le_add_left (Nat.mul_le_mul_right _ (Nat.le_succ k)) _
    refine go_aload_n hh.1 d_law_32 rfl (q := 0) rfl ?_
    refine go_iload hh.1 d_law_33 (q := 4) rfl ?_
    refine go_sce hh (i := 5 * k) (by omega) hL d_law_35 ?_
    refine go_bipush hh.1 d_law_36 (v := 63) rfl ?_
    refine go_iand hh.1 d_law_38 ?_
    exact law_switch N hN hh hi hL hr (fun μ2 hr2 => go_widen mn mn' (next μ2 hr2)) (hrow k (5 * k) μ (by omega) hi hr next) _
