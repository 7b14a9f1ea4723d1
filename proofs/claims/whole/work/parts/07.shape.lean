/-! the class's cells and the reference's: shapes, and what refers to what -/
def SC : Sh := [.inl 9, .inl 7, .inr (0, 600), .inl 2, .inr (2, 5), .inl 1, .inr (0, 12), .inl 6, .inl 1, .inr (0, 12), .inl 6, .inl 1, .inr (0, 12), .inl 6, .inl 1, .inr (0, 12), .inl 6, .inl 1, .inr (0, 12), .inl 6, .inr (0, 4), .inr (0, 4), .inr (0, 6), .inr (0, 6), .inr (0, 6), .inr (0, 6), .inl 2, .inr (2, 5), .inl 1, .inr (0, 12), .inl 6, .inl 1, .inr (0, 12), .inl 6, .inl 1, .inr (0, 12), .inl 6, .inl 1, .inr (0, 12), .inl 6, .inl 1, .inr (0, 12), .inl 6, .inr (0, 4), .inr (0, 4), .inr (0, 6), .inr (0, 6), .inr (0, 6), .inr (0, 6), .inl 4, .inr (0, 16), .inr (0, 16), .inr (0, 16), .inr (0, 15), .inr (0, 15), .inl 6, .inl 5, .inl 5, .inl 8, .inr (0, 128), .inr (0, 128), .inl 3, .inl 0, .inl 6]
def SR : Sh := [.inl 10, .inr (0, 600), .inr (0, 12), .inr (0, 146), .inr (0, 146), .inr (0, 10), .inr (0, 160), .inr (0, 30), .inr (0, 40), .inr (0, 4), .inr (0, 4), .inr (0, 3280), .inr (0, 3280), .inr (0, 4)]
/-- the two halls change places: where the one is -/
def hA (c : Bool) : Nat := if c then 26 else 3
/-- a hall's k-th dance; its row is the next cell, its tangle the one behind -/
def dA (h k : Nat) : Nat := h + 2 + 3 * k
/-- the references of the class: b tells which hall is present -/
def RTab (b : Bool) : Nat → Nat → Option Nat
  | 0, 1 => some (hA b)
  | 0, 2 => some (hA (!b))
  | 0, 0 => some 1
  | 0, 3 => some 49
  | 0, 4 => some 55
  | 0, 5 => some 56
  | 0, 6 => some 57
  | 0, 7 => some 58
  | 0, 8 => some 61
  | 0, 9 => some 62
  | 1, 0 => some 2
  | 3, 1 => some 4
  | 3, 3 => some 20
  | 3, 4 => some 21
  | 3, 6 => some 22
  | 3, 7 => some 23
  | 3, 8 => some 24
  | 3, 9 => some 25
  | 4, 0 => some 5
  | 4, 1 => some 8
  | 4, 2 => some 11
  | 4, 3 => some 14
  | 4, 4 => some 17
  | 5, 0 => some 6
  | 5, 4 => some 7
  | 8, 0 => some 9
  | 8, 4 => some 10
  | 11, 0 => some 12
  | 11, 4 => some 13
  | 14, 0 => some 15
  | 14, 4 => some 16
  | 17, 0 => some 18
  | 17, 4 => some 19
  | 26, 1 => some 27
  | 26, 3 => some 43
  | 26, 4 => some 44
  | 26, 6 => some 45
  | 26, 7 => some 46
  | 26, 8 => some 47
  | 26, 9 => some 48
  | 27, 0 => some 28
  | 27, 1 => some 31
  | 27, 2 => some 34
  | 27, 3 => some 37
  | 27, 4 => some 40
  | 28, 0 => some 29
  | 28, 4 => some 30
  | 31, 0 => some 32
  | 31, 4 => some 33
  | 34, 0 => some 35
  | 34, 4 => some 36
  | 37, 0 => some 38
  | 37, 4 => some 39
  | 40, 0 => some 41
  | 40, 4 => some 42
  | 49, 0 => some 50
  | 49, 1 => some 51
  | 49, 2 => some 52
  | 49, 4 => some 53
  | 49, 5 => some 54
  | 58, 0 => some 59
  | 58, 1 => some 60
  | 62, 0 => some 63
  | _, _ => none
def RM : Nat → Nat → Option Nat
  | 0, 1 => some 1
  | 0, 12 => some 2
  | 0, 16 => some 3
  | 0, 17 => some 4
  | 0, 18 => some 5
  | 0, 19 => some 6
  | 0, 20 => some 7
  | 0, 25 => some 8
  | 0, 27 => some 9
  | 0, 28 => some 10
  | 0, 34 => some 11
  | 0, 35 => some 12
  | 0, 40 => some 13
  | _, _ => none
section RT
variable {w : Wd} {b : Bool} (hR : w.2.2 = RTab b)

theorem rc_0_0 (hR : w.2.2 = RTab b) : wr w 0 0 = some 1 := congrFun (congrFun hR 0) 0
theorem rc_0_3 (hR : w.2.2 = RTab b) : wr w 0 3 = some 49 := congrFun (congrFun hR 0) 3
theorem rc_0_4 (hR : w.2.2 = RTab b) : wr w 0 4 = some 55 := congrFun (congrFun hR 0) 4
theorem rc_0_5 (hR : w.2.2 = RTab b) : wr w 0 5 = some 56 := congrFun (congrFun hR 0) 5
theorem rc_0_6 (hR : w.2.2 = RTab b) : wr w 0 6 = some 57 := congrFun (congrFun hR 0) 6
theorem rc_0_7 (hR : w.2.2 = RTab b) : wr w 0 7 = some 58 := congrFun (congrFun hR 0) 7
theorem rc_0_8 (hR : w.2.2 = RTab b) : wr w 0 8 = some 61 := congrFun (congrFun hR 0) 8
theorem rc_0_9 (hR : w.2.2 = RTab b) : wr w 0 9 = some 62 := congrFun (congrFun hR 0) 9
theorem rc_1_0 (hR : w.2.2 = RTab b) : wr w 1 0 = some 2 := congrFun (congrFun hR 1) 0
theorem rc_49_0 (hR : w.2.2 = RTab b) : wr w 49 0 = some 50 := congrFun (congrFun hR 49) 0
theorem rc_49_1 (hR : w.2.2 = RTab b) : wr w 49 1 = some 51 := congrFun (congrFun hR 49) 1
theorem rc_49_2 (hR : w.2.2 = RTab b) : wr w 49 2 = some 52 := congrFun (congrFun hR 49) 2
theorem rc_49_4 (hR : w.2.2 = RTab b) : wr w 49 4 = some 53 := congrFun (congrFun hR 49) 4
theorem rc_49_5 (hR : w.2.2 = RTab b) : wr w 49 5 = some 54 := congrFun (congrFun hR 49) 5
theorem rc_58_0 (hR : w.2.2 = RTab b) : wr w 58 0 = some 59 := congrFun (congrFun hR 58) 0
theorem rc_58_1 (hR : w.2.2 = RTab b) : wr w 58 1 = some 60 := congrFun (congrFun hR 58) 1
theorem rc_62_0 (hR : w.2.2 = RTab b) : wr w 62 0 = some 63 := congrFun (congrFun hR 62) 0
theorem rc_0_1 (hR : w.2.2 = RTab b) : wr w 0 1 = some (hA b) := congrFun (congrFun hR 0) 1
theorem rc_0_2 (hR : w.2.2 = RTab b) : wr w 0 2 = some (hA (!b)) := congrFun (congrFun hR 0) 2
theorem rh_1 (hR : w.2.2 = RTab b) (c : Bool) : wr w (hA c) 1 = some (hA c + 1) := by
  cases c <;> exact congrFun (congrFun hR _) _
theorem rh_3 (hR : w.2.2 = RTab b) (c : Bool) : wr w (hA c) 3 = some (hA c + 17) := by
  cases c <;> exact congrFun (congrFun hR _) _
theorem rh_4 (hR : w.2.2 = RTab b) (c : Bool) : wr w (hA c) 4 = some (hA c + 18) := by
  cases c <;> exact congrFun (congrFun hR _) _
theorem rh_6 (hR : w.2.2 = RTab b) (c : Bool) : wr w (hA c) 6 = some (hA c + 19) := by
  cases c <;> exact congrFun (congrFun hR _) _
theorem rh_7 (hR : w.2.2 = RTab b) (c : Bool) : wr w (hA c) 7 = some (hA c + 20) := by
  cases c <;> exact congrFun (congrFun hR _) _
theorem rh_8 (hR : w.2.2 = RTab b) (c : Bool) : wr w (hA c) 8 = some (hA c + 21) := by
  cases c <;> exact congrFun (congrFun hR _) _
theorem rh_9 (hR : w.2.2 = RTab b) (c : Bool) : wr w (hA c) 9 = some (hA c + 22) := by
  cases c <;> exact congrFun (congrFun hR _) _
theorem lt5_cases {k : Nat} (h : k < 5) : k = 0 ∨ k = 1 ∨ k = 2 ∨ k = 3 ∨ k = 4 := by omega
theorem rh_d (hR : w.2.2 = RTab b) (c : Bool) {k : Nat} (hk : k < 5) : wr w (hA c + 1) k = some (dA (hA c) k) := by
  rcases lt5_cases hk with rfl | rfl | rfl | rfl | rfl <;> cases c <;> exact congrFun (congrFun hR _) _
theorem rd_0 (hR : w.2.2 = RTab b) (c : Bool) {k : Nat} (hk : k < 5) : wr w (dA (hA c) k) 0 = some (dA (hA c) k + 1) := by
  rcases lt5_cases hk with rfl | rfl | rfl | rfl | rfl <;> cases c <;> exact congrFun (congrFun hR _) _
theorem rd_4 (hR : w.2.2 = RTab b) (c : Bool) {k : Nat} (hk : k < 5) : wr w (dA (hA c) k) 4 = some (dA (hA c) k + 2) := by
  rcases lt5_cases hk with rfl | rfl | rfl | rfl | rfl <;> cases c <;> exact congrFun (congrFun hR _) _
end RT
theorem sh_h (c : Bool) : SC[hA c]? = some (.inl 2) := by cases c <;> rfl
theorem sh_h1 (c : Bool) : SC[hA c + 1]? = some (.inr (2, 5)) := by cases c <;> rfl
theorem sh_h17 (c : Bool) : SC[hA c + 17]? = some (.inr (0, 4)) := by cases c <;> rfl
theorem sh_h18 (c : Bool) : SC[hA c + 18]? = some (.inr (0, 4)) := by cases c <;> rfl
theorem sh_h19 (c : Bool) : SC[hA c + 19]? = some (.inr (0, 6)) := by cases c <;> rfl
theorem sh_h20 (c : Bool) : SC[hA c + 20]? = some (.inr (0, 6)) := by cases c <;> rfl
theorem sh_h21 (c : Bool) : SC[hA c + 21]? = some (.inr (0, 6)) := by cases c <;> rfl
theorem sh_h22 (c : Bool) : SC[hA c + 22]? = some (.inr (0, 6)) := by cases c <;> rfl
theorem sh_d (c : Bool) {k : Nat} (hk : k < 5) : SC[dA (hA c) k]? = some (.inl 1) := by
  rcases lt5_cases hk with rfl | rfl | rfl | rfl | rfl <;> cases c <;> rfl
theorem sh_dr (c : Bool) {k : Nat} (hk : k < 5) : SC[dA (hA c) k + 1]? = some (.inr (0, 12)) := by
  rcases lt5_cases hk with rfl | rfl | rfl | rfl | rfl <;> cases c <;> rfl
theorem sh_dn (c : Bool) {k : Nat} (hk : k < 5) : SC[dA (hA c) k + 2]? = some (.inl 6) := by
  rcases lt5_cases hk with rfl | rfl | rfl | rfl | rfl <;> cases c <;> rfl
section RTM
variable {w : Wd}
theorem rm_1 (hR : w.2.2 = RM) : wr w 0 1 = some 1 := congrFun (congrFun hR 0) 1
theorem rm_12 (hR : w.2.2 = RM) : wr w 0 12 = some 2 := congrFun (congrFun hR 0) 12
theorem rm_16 (hR : w.2.2 = RM) : wr w 0 16 = some 3 := congrFun (congrFun hR 0) 16
theorem rm_17 (hR : w.2.2 = RM) : wr w 0 17 = some 4 := congrFun (congrFun hR 0) 17
theorem rm_18 (hR : w.2.2 = RM) : wr w 0 18 = some 5 := congrFun (congrFun hR 0) 18
theorem rm_19 (hR : w.2.2 = RM) : wr w 0 19 = some 6 := congrFun (congrFun hR 0) 19
theorem rm_20 (hR : w.2.2 = RM) : wr w 0 20 = some 7 := congrFun (congrFun hR 0) 20
theorem rm_25 (hR : w.2.2 = RM) : wr w 0 25 = some 8 := congrFun (congrFun hR 0) 25
theorem rm_27 (hR : w.2.2 = RM) : wr w 0 27 = some 9 := congrFun (congrFun hR 0) 27
theorem rm_28 (hR : w.2.2 = RM) : wr w 0 28 = some 10 := congrFun (congrFun hR 0) 28
theorem rm_34 (hR : w.2.2 = RM) : wr w 0 34 = some 11 := congrFun (congrFun hR 0) 34
theorem rm_35 (hR : w.2.2 = RM) : wr w 0 35 = some 12 := congrFun (congrFun hR 0) 35
theorem rm_40 (hR : w.2.2 = RM) : wr w 0 40 = some 13 := congrFun (congrFun hR 0) 40
end RTM
/-- an index within, by its bounds -/
theorem vin {i : Int32} {n : Nat} (h1 : 0 ≤ i) (h2 : i.toNatClampNeg < n) : vp_in i n := by
  rintro (h | h)
  · exact absurd h (Int32.not_lt.mpr h1)
  · omega
theorem toN_lt {i : Int32} {n : Nat} (h1 : 0 ≤ i) (h2 : i < Int32.ofNat n) (hn : n < 2 ^ 31) : i.toNatClampNeg < n := by
  rw [Int32.lt_iff_toInt_lt, Int32.toInt_ofNat_of_lt hn] at h2
  rw [Int32.le_iff_toInt_le, Int32.toInt_zero] at h1
  have : (i.toNatClampNeg : Int) = i.toInt := by
    show ((i.toInt.toNat : Nat) : Int) = _
    omega
  omega
theorem lt5 {i : Int32} (h1 : 0 ≤ i) (h2 : i < 5) : i.toNatClampNeg < 5 := toN_lt (n := 5) h1 h2 (by decide)
/-- a put that looks at its index first -/
def pf (w : Wd) (a n : Nat) (i v : Int32) : Wd := if 0 ≤ i ∧ i < Int32.ofNat n then si w a i.toNatClampNeg v else w
/-- a read that looks at its index first -/
def gf (w : Wd) (a n : Nat) (i : Int32) : Int32 := if 0 ≤ i ∧ i < Int32.ofNat n then wi w a i.toNatClampNeg else 0
theorem pf_R (w : Wd) (a n : Nat) (i v : Int32) : (pf w a n i v).2.2 = w.2.2 := by unfold pf; split <;> rfl
theorem si_R (w : Wd) (a i : Nat) (v : Int32) : (si w a i v).2.2 = w.2.2 := rfl
theorem sl_R (w : Wd) (a i : Nat) (v : Int64) : (sl w a i v).2.2 = w.2.2 := rfl
theorem z_ite {c : Prop} {hdc : Decidable c} {x y : Int32} (h1 : x = 0 ∨ x = 1) (h2 : y = 0 ∨ y = 1) : (if c then x else y) = 0 ∨ (if c then x else y) = 1 := by
  split
  · exact h1
  · exact h2
theorem g_sub {S : Sh} {M : Mth} {pc : Nat} {lv lv2 : List (Nat × Value)} {st : List Value} {w : Wd} {Q : Option Value → Wd → Prop} (ks : List Nat) (hk : ks.filterMap (fun k => lv[k]?) = lv2) (k : Go S M pc lv2 st w Q) : Go S M pc lv st w Q :=
  g_lv (fun q hq => by
    rw [← hk] at hq
    obtain ⟨i, -, hi⟩ := List.mem_filterMap.mp hq
    exact List.mem_of_getElem? hi) k
/-- the same, of a class some of whose methods are overridden -/
theorem cl_ofF {S : Sh} {M : Mth} {as : List Value} {w : Wd} {Q : Option Value → Wd → Prop} (hy : plainFor M.1 = true) (hl : (lg_sl as).length ≤ M.2.2.1) (k : Go S M 0 (lv_args 0 as) [] w Q) : Cl S M as w Q := by
  intro l E
  refine va_MetF (cc := M.2.1) (maxL := M.2.2.1) (ret := M.2.2.2.1) hy rfl ?_
  intro p e s m args below meth c s₁ B hml hv
  obtain ⟨rfl, hK, hH⟩ := hv
  have hlv := lv_entry (as.map (rv E.2.1)) (n := M.2.2.1) (by rw [lg_sl_len]; exact hl)
  rw [lg_entry_eq]
  generalize (lg_sl (as.map (rv E.2.1)) ++ List.replicate (M.2.2.1 - (lg_sl (as.map (rv E.2.1))).length) Slot.unset).toArray = ls at hlv ⊢
  rw [lv_args_map] at hlv
  exact k p l e s m _ below meth c s.heap [] ls E ⟨B.exec, B.bytes, B.returns, hml, findClass_of_methodNamed B.named, atoms_spec (ws := mW M) B.pre, B.notSynchronized, hK⟩ hH va_S.rf hlv
theorem vp_lt {i : Int32} {n : Nat} (h : vp_in i n) : i.toNatClampNeg < n := Nat.not_le.mp fun q => h (Or.inr q)
theorem sw_out {x : Int32} (hi : Nat) (h9 : hi < 2 ^ 31) (f : ∀ v : Nat, v ≤ hi → ¬ x = Int32.ofNat v) : x.toInt < 0 ∨ (hi : Int) < x.toInt := by
  rcases Int.lt_or_le x.toInt 0 with h | h
  · exact Or.inl h
  · refine Or.inr (Int.not_le.mp fun h2 => ?_)
    have e : x = Int32.ofNat x.toInt.toNat := by
      apply Int32.toInt_inj.mp
      rw [Int32.toInt_ofNat_of_lt (by omega)]
      omega
    exact f x.toInt.toNat (by omega) e
/-- a text's sign -/
def chST (i : Nat) (k : Int32) : Int32 := (bytST.getD i []).getD k.toNatClampNeg 0
theorem cN_1 : Int32.ofInt (-1) = -1 := by decide
theorem c_0 : Int32.ofInt 0 = 0 := by decide
theorem c_1 : Int32.ofInt 1 = 1 := by decide
theorem c_2 : Int32.ofInt 2 = 2 := by decide
theorem c_3 : Int32.ofInt 3 = 3 := by decide
theorem c_4 : Int32.ofInt 4 = 4 := by decide
theorem c_5 : Int32.ofInt 5 = 5 := by decide
