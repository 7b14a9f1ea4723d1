/-! the class's cells and the reference's: shapes, and what refers to what -/
def SC : Sh := [.inl 9, .inl 7, .inr (0, 600), .inl 4, .inr (0, 16), .inr (0, 16), .inr (0, 16), .inr (0, 15), .inr (0, 15), .inl 6, .inl 5, .inl 5, .inl 8, .inr (0, 128), .inr (0, 128), .inl 3, .inl 0, .inl 6, .inl 2, .inr (2, 5), .inr (0, 4), .inr (0, 4), .inr (0, 6), .inr (0, 6), .inr (0, 6), .inr (0, 6), .inl 1, .inr (0, 12), .inl 6, .inl 1, .inr (0, 12), .inl 6, .inl 1, .inr (0, 12), .inl 6, .inl 1, .inr (0, 12), .inl 6, .inl 1, .inr (0, 12), .inl 6, .inl 2, .inr (2, 5), .inr (0, 4), .inr (0, 4), .inr (0, 6), .inr (0, 6), .inr (0, 6), .inr (0, 6), .inl 1, .inr (0, 12), .inl 6, .inl 1, .inr (0, 12), .inl 6, .inl 1, .inr (0, 12), .inl 6, .inl 1, .inr (0, 12), .inl 6, .inl 1, .inr (0, 12), .inl 6]
def SR : Sh := [.inl 10, .inr (0, 600), .inr (0, 12), .inr (0, 146), .inr (0, 146), .inr (0, 10), .inr (0, 160), .inr (0, 30), .inr (0, 40), .inr (0, 4), .inr (0, 4), .inr (0, 3280), .inr (0, 3280), .inr (0, 4)]
/-- the two halls change places: where the one is -/
def hA (c : Bool) : Nat := if c then 41 else 18
/-- a hall's k-th dance; its row is the next cell, its tangle the one behind -/
def dA (h k : Nat) : Nat := h + 8 + 3 * k
/-- the references of the class: b tells which hall is present -/
def RTab (b : Bool) : Nat → Nat → Option Nat
  | 0, 1 => some (hA b)
  | 0, 2 => some (hA (!b))
  | 0, 0 => some 1
  | 0, 3 => some 3
  | 0, 4 => some 9
  | 0, 5 => some 10
  | 0, 6 => some 11
  | 0, 7 => some 12
  | 0, 8 => some 15
  | 0, 9 => some 16
  | 1, 0 => some 2
  | 3, 0 => some 4
  | 3, 1 => some 5
  | 3, 2 => some 6
  | 3, 4 => some 7
  | 3, 5 => some 8
  | 12, 0 => some 13
  | 12, 1 => some 14
  | 16, 0 => some 17
  | 18, 1 => some 19
  | 18, 3 => some 20
  | 18, 4 => some 21
  | 18, 6 => some 22
  | 18, 7 => some 23
  | 18, 8 => some 24
  | 18, 9 => some 25
  | 19, 0 => some 26
  | 19, 1 => some 29
  | 19, 2 => some 32
  | 19, 3 => some 35
  | 19, 4 => some 38
  | 26, 0 => some 27
  | 26, 4 => some 28
  | 29, 0 => some 30
  | 29, 4 => some 31
  | 32, 0 => some 33
  | 32, 4 => some 34
  | 35, 0 => some 36
  | 35, 4 => some 37
  | 38, 0 => some 39
  | 38, 4 => some 40
  | 41, 1 => some 42
  | 41, 3 => some 43
  | 41, 4 => some 44
  | 41, 6 => some 45
  | 41, 7 => some 46
  | 41, 8 => some 47
  | 41, 9 => some 48
  | 42, 0 => some 49
  | 42, 1 => some 52
  | 42, 2 => some 55
  | 42, 3 => some 58
  | 42, 4 => some 61
  | 49, 0 => some 50
  | 49, 4 => some 51
  | 52, 0 => some 53
  | 52, 4 => some 54
  | 55, 0 => some 56
  | 55, 4 => some 57
  | 58, 0 => some 59
  | 58, 4 => some 60
  | 61, 0 => some 62
  | 61, 4 => some 63
  | _, _ => none
def RM : Nat → Nat → Option Nat
  | 0, 1 => some 1
  | 0, 12 => some 2
  | 0, 16 => some 3
  | 0, 17 => some 4
  | 0, 18 => some 5
  | 0, 19 => some 6
  | 0, 20 => some 7
  | 0, 25 => some 8
  | 0, 27 => some 9
  | 0, 28 => some 10
  | 0, 34 => some 11
  | 0, 35 => some 12
  | 0, 40 => some 13
  | _, _ => none
section RT
variable {w : Wd} {b : Bool} (hR : w.2.2 = RTab b)

theorem rc_0_0 (hR : w.2.2 = RTab b) : wr w 0 0 = some 1 := congrFun (congrFun hR 0) 0
theorem rc_0_3 (hR : w.2.2 = RTab b) : wr w 0 3 = some 3 := congrFun (congrFun hR 0) 3
theorem rc_0_4 (hR : w.2.2 = RTab b) : wr w 0 4 = some 9 := congrFun (congrFun hR 0) 4
theorem rc_0_5 (hR : w.2.2 = RTab b) : wr w 0 5 = some 10 := congrFun (congrFun hR 0) 5
theorem rc_0_6 (hR : w.2.2 = RTab b) : wr w 0 6 = some 11 := congrFun (congrFun hR 0) 6
theorem rc_0_7 (hR : w.2.2 = RTab b) : wr w 0 7 = some 12 := congrFun (congrFun hR 0) 7
theorem rc_0_8 (hR : w.2.2 = RTab b) : wr w 0 8 = some 15 := congrFun (congrFun hR 0) 8
theorem rc_0_9 (hR : w.2.2 = RTab b) : wr w 0 9 = some 16 := congrFun (congrFun hR 0) 9
theorem rc_1_0 (hR : w.2.2 = RTab b) : wr w 1 0 = some 2 := congrFun (congrFun hR 1) 0
theorem rc_3_0 (hR : w.2.2 = RTab b) : wr w 3 0 = some 4 := congrFun (congrFun hR 3) 0
theorem rc_3_1 (hR : w.2.2 = RTab b) : wr w 3 1 = some 5 := congrFun (congrFun hR 3) 1
theorem rc_3_2 (hR : w.2.2 = RTab b) : wr w 3 2 = some 6 := congrFun (congrFun hR 3) 2
theorem rc_3_4 (hR : w.2.2 = RTab b) : wr w 3 4 = some 7 := congrFun (congrFun hR 3) 4
theorem rc_3_5 (hR : w.2.2 = RTab b) : wr w 3 5 = some 8 := congrFun (congrFun hR 3) 5
theorem rc_12_0 (hR : w.2.2 = RTab b) : wr w 12 0 = some 13 := congrFun (congrFun hR 12) 0
theorem rc_12_1 (hR : w.2.2 = RTab b) : wr w 12 1 = some 14 := congrFun (congrFun hR 12) 1
theorem rc_16_0 (hR : w.2.2 = RTab b) : wr w 16 0 = some 17 := congrFun (congrFun hR 16) 0
theorem rc_0_1 (hR : w.2.2 = RTab b) : wr w 0 1 = some (hA b) := congrFun (congrFun hR 0) 1
theorem rc_0_2 (hR : w.2.2 = RTab b) : wr w 0 2 = some (hA (!b)) := congrFun (congrFun hR 0) 2
theorem rh_1 (hR : w.2.2 = RTab b) (c : Bool) : wr w (hA c) 1 = some (hA c + 1) := by
  cases c <;> exact congrFun (congrFun hR _) _
theorem rh_3 (hR : w.2.2 = RTab b) (c : Bool) : wr w (hA c) 3 = some (hA c + 2) := by
  cases c <;> exact congrFun (congrFun hR _) _
theorem rh_4 (hR : w.2.2 = RTab b) (c : Bool) : wr w (hA c) 4 = some (hA c + 3) := by
  cases c <;> exact congrFun (congrFun hR _) _
theorem rh_6 (hR : w.2.2 = RTab b) (c : Bool) : wr w (hA c) 6 = some (hA c + 4) := by
  cases c <;> exact congrFun (congrFun hR _) _
theorem rh_7 (hR : w.2.2 = RTab b) (c : Bool) : wr w (hA c) 7 = some (hA c + 5) := by
  cases c <;> exact congrFun (congrFun hR _) _
theorem rh_8 (hR : w.2.2 = RTab b) (c : Bool) : wr w (hA c) 8 = some (hA c + 6) := by
  cases c <;> exact congrFun (congrFun hR _) _
theorem rh_9 (hR : w.2.2 = RTab b) (c : Bool) : wr w (hA c) 9 = some (hA c + 7) := by
  cases c <;> exact congrFun (congrFun hR _) _
theorem lt5_cases {k : Nat} (h : k < 5) : k = 0 ∨ k = 1 ∨ k = 2 ∨ k = 3 ∨ k = 4 := by omega
theorem rh_d (hR : w.2.2 = RTab b) (c : Bool) {k : Nat} (hk : k < 5) : wr w (hA c + 1) k = some (dA (hA c) k) := by
  rcases lt5_cases hk with rfl | rfl | rfl | rfl | rfl <;> cases c <;> exact congrFun (congrFun hR _) _
theorem rd_0 (hR : w.2.2 = RTab b) (c : Bool) {k : Nat} (hk : k < 5) : wr w (dA (hA c) k) 0 = some (dA (hA c) k + 1) := by
  rcases lt5_cases hk with rfl | rfl | rfl | rfl | rfl <;> cases c <;> exact congrFun (congrFun hR _) _
theorem rd_4 (hR : w.2.2 = RTab b) (c : Bool) {k : Nat} (hk : k < 5) : wr w (dA (hA c) k) 4 = some (dA (hA c) k + 2) := by
  rcases lt5_cases hk with rfl | rfl | rfl | rfl | rfl <;> cases c <;> exact congrFun (congrFun hR _) _
end RT
theorem sh_h (c : Bool) : SC[hA c]? = some (.inl 2) := by cases c <;> rfl
theorem sh_h1 (c : Bool) : SC[hA c + 1]? = some (.inr (2, 5)) := by cases c <;> rfl
theorem sh_h2 (c : Bool) : SC[hA c + 2]? = some (.inr (0, 4)) := by cases c <;> rfl
theorem sh_h3 (c : Bool) : SC[hA c + 3]? = some (.inr (0, 4)) := by cases c <;> rfl
theorem sh_h4 (c : Bool) : SC[hA c + 4]? = some (.inr (0, 6)) := by cases c <;> rfl
theorem sh_h5 (c : Bool) : SC[hA c + 5]? = some (.inr (0, 6)) := by cases c <;> rfl
theorem sh_h6 (c : Bool) : SC[hA c + 6]? = some (.inr (0, 6)) := by cases c <;> rfl
theorem sh_h7 (c : Bool) : SC[hA c + 7]? = some (.inr (0, 6)) := by cases c <;> rfl
theorem sh_d (c : Bool) {k : Nat} (hk : k < 5) : SC[dA (hA c) k]? = some (.inl 1) := by
  rcases lt5_cases hk with rfl | rfl | rfl | rfl | rfl <;> cases c <;> rfl
theorem sh_dr (c : Bool) {k : Nat} (hk : k < 5) : SC[dA (hA c) k + 1]? = some (.inr (0, 12)) := by
  rcases lt5_cases hk with rfl | rfl | rfl | rfl | rfl <;> cases c <;> rfl
theorem sh_dn (c : Bool) {k : Nat} (hk : k < 5) : SC[dA (hA c) k + 2]? = some (.inl 6) := by
  rcases lt5_cases hk with rfl | rfl | rfl | rfl | rfl <;> cases c <;> rfl
section RTM
variable {w : Wd}
theorem rm_1 (hR : w.2.2 = RM) : wr w 0 1 = some 1 := congrFun (congrFun hR 0) 1
theorem rm_12 (hR : w.2.2 = RM) : wr w 0 12 = some 2 := congrFun (congrFun hR 0) 12
theorem rm_16 (hR : w.2.2 = RM) : wr w 0 16 = some 3 := congrFun (congrFun hR 0) 16
theorem rm_17 (hR : w.2.2 = RM) : wr w 0 17 = some 4 := congrFun (congrFun hR 0) 17
theorem rm_18 (hR : w.2.2 = RM) : wr w 0 18 = some 5 := congrFun (congrFun hR 0) 18
theorem rm_19 (hR : w.2.2 = RM) : wr w 0 19 = some 6 := congrFun (congrFun hR 0) 19
theorem rm_20 (hR : w.2.2 = RM) : wr w 0 20 = some 7 := congrFun (congrFun hR 0) 20
theorem rm_25 (hR : w.2.2 = RM) : wr w 0 25 = some 8 := congrFun (congrFun hR 0) 25
theorem rm_27 (hR : w.2.2 = RM) : wr w 0 27 = some 9 := congrFun (congrFun hR 0) 27
theorem rm_28 (hR : w.2.2 = RM) : wr w 0 28 = some 10 := congrFun (congrFun hR 0) 28
theorem rm_34 (hR : w.2.2 = RM) : wr w 0 34 = some 11 := congrFun (congrFun hR 0) 34
theorem rm_35 (hR : w.2.2 = RM) : wr w 0 35 = some 12 := congrFun (congrFun hR 0) 35
theorem rm_40 (hR : w.2.2 = RM) : wr w 0 40 = some 13 := congrFun (congrFun hR 0) 40
end RTM
/-- an index within, by its bounds -/
theorem vin {i : Int32} {n : Nat} (h1 : 0 ≤ i) (h2 : i.toNatClampNeg < n) : vp_in i n := by
  rintro (h | h)
  · exact absurd h (Int32.not_lt.mpr h1)
  · omega
theorem toN_lt {i : Int32} {n : Nat} (h1 : 0 ≤ i) (h2 : i < Int32.ofNat n) (hn : n < 2 ^ 31) : i.toNatClampNeg < n := by
  rw [Int32.lt_iff_toInt_lt, Int32.toInt_ofNat_of_lt hn] at h2
  rw [Int32.le_iff_toInt_le, Int32.toInt_zero] at h1
  have : (i.toNatClampNeg : Int) = i.toInt := by
    show ((i.toInt.toNat : Nat) : Int) = _
    omega
  omega
theorem lt5 {i : Int32} (h1 : 0 ≤ i) (h2 : i < 5) : i.toNatClampNeg < 5 := toN_lt (n := 5) h1 h2 (by decide)
/-- a put that looks at its index first -/
def pf (w : Wd) (a n : Nat) (i v : Int32) : Wd := if 0 ≤ i ∧ i < Int32.ofNat n then si w a i.toNatClampNeg v else w
/-- a read that looks at its index first -/
def gf (w : Wd) (a n : Nat) (i : Int32) : Int32 := if 0 ≤ i ∧ i < Int32.ofNat n then wi w a i.toNatClampNeg else 0
theorem pf_R (w : Wd) (a n : Nat) (i v : Int32) : (pf w a n i v).2.2 = w.2.2 := by unfold pf; split <;> rfl
theorem si_R (w : Wd) (a i : Nat) (v : Int32) : (si w a i v).2.2 = w.2.2 := rfl
theorem sl_R (w : Wd) (a i : Nat) (v : Int64) : (sl w a i v).2.2 = w.2.2 := rfl
theorem z_ite {c : Prop} {hdc : Decidable c} {x y : Int32} (h1 : x = 0 ∨ x = 1) (h2 : y = 0 ∨ y = 1) : (if c then x else y) = 0 ∨ (if c then x else y) = 1 := by
  split
  · exact h1
  · exact h2
theorem g_sub {S : Sh} {M : Mth} {pc : Nat} {lv lv2 : List (Nat × Value)} {st : List Value} {w : Wd} {Q : Option Value → Wd → Prop} (ks : List Nat) (hk : ks.filterMap (fun k => lv[k]?) = lv2) (k : Go S M pc lv2 st w Q) : Go S M pc lv st w Q :=
  g_lv (fun q hq => by
    rw [← hk] at hq
    obtain ⟨i, -, hi⟩ := List.mem_filterMap.mp hq
    exact List.mem_of_getElem? hi) k
/-- the same, of a class some of whose methods are overridden -/
theorem cl_ofF {S : Sh} {M : Mth} {as : List Value} {w : Wd} {Q : Option Value → Wd → Prop} (hy : plainFor M.1 = true) (hl : (lg_sl as).length ≤ M.2.2.1) (k : Go S M 0 (lv_args 0 as) [] w Q) : Cl S M as w Q := by
  intro l E
  refine va_MetF (cc := M.2.1) (maxL := M.2.2.1) (ret := M.2.2.2.1) hy rfl ?_
  intro p e s m args below meth c s₁ B hml hv
  obtain ⟨rfl, hK, hH⟩ := hv
  have hlv := lv_entry (as.map (rv E.2.1)) (n := M.2.2.1) (by rw [lg_sl_len]; exact hl)
  rw [lg_entry_eq]
  generalize (lg_sl (as.map (rv E.2.1)) ++ List.replicate (M.2.2.1 - (lg_sl (as.map (rv E.2.1))).length) Slot.unset).toArray = ls at hlv ⊢
  rw [lv_args_map] at hlv
  exact k p l e s m _ below meth c s.heap [] ls E ⟨B.exec, B.bytes, B.returns, hml, findClass_of_methodNamed B.named, atoms_spec (ws := mW M) B.pre, B.notSynchronized, hK⟩ hH va_S.rf hlv
theorem vp_lt {i : Int32} {n : Nat} (h : vp_in i n) : i.toNatClampNeg < n := Nat.not_le.mp fun q => h (Or.inr q)
theorem sw_out {x : Int32} (hi : Nat) (h9 : hi < 2 ^ 31) (f : ∀ v : Nat, v ≤ hi → ¬ x = Int32.ofNat v) : x.toInt < 0 ∨ (hi : Int) < x.toInt := by
  rcases Int.lt_or_le x.toInt 0 with h | h
  · exact Or.inl h
  · refine Or.inr (Int.not_le.mp fun h2 => ?_)
    have e : x = Int32.ofNat x.toInt.toNat := by
      apply Int32.toInt_inj.mp
      rw [Int32.toInt_ofNat_of_lt (by omega)]
      omega
    exact f x.toInt.toNat (by omega) e
/-- a text's sign -/
def chST (i : Nat) (k : Int32) : Int32 := (bytST.getD i []).getD k.toNatClampNeg 0
theorem cN_1 : Int32.ofInt (-1) = -1 := by decide
theorem c_0 : Int32.ofInt 0 = 0 := by decide
theorem c_1 : Int32.ofInt 1 = 1 := by decide
theorem c_2 : Int32.ofInt 2 = 2 := by decide
theorem c_3 : Int32.ofInt 3 = 3 := by decide
theorem c_4 : Int32.ofInt 4 = 4 := by decide
theorem c_5 : Int32.ofInt 5 = 5 := by decide
