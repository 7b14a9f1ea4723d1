/-! what the Statement gives of the texts and the statics -/
def NF : List Cond := flatC (Jvm.Cond.and given_1 narrow_1)
def idxST : List Nat := [62, 71, 76, 81, 86, 182, 184, 186, 188]
def tmST (i : Nat) : Term := .string RX8 (idxST.getD i 0)
theorem nf1 : ∀ i, i < nST → Cond.exactly (tmST i) "java/lang/String" ∈ NF := by decide +kernel
theorem nf2 : ∀ i, i < nST → Cond.eq (.field (tmST i) "java/lang/String" "code\x72" "B") (.int 0) ∈ NF := by decide +kernel
theorem nf3 : ∀ i, i < nST → Cond.arrayOf (.field (tmST i) "java/lang/String" "value" "[B") .byte ∈ NF := by decide +kernel
theorem nf4 : ∀ i, i < nST → Cond.eq (.length (.field (tmST i) "java/lang/String" "value" "[B")) (.int (Int32.ofNat (lenST.getD i 0))) ∈ NF := by decide +kernel
theorem nf5 : ∀ i, i < nST → ∀ j, j < lenST.getD i 0 → Cond.eq (.elem (.field (tmST i) "java/lang/String" "value" "[B") (.int (Int32.ofNat j))) (.int ((bytST.getD i []).getD j 0)) ∈ NF := by decide +kernel
theorem nf6 : ∀ i, i < nST → ∀ j, j < nST → i ≠ j → Cond.not (Cond.eq (tmST i) (tmST j)) ∈ NF ∨ Cond.not (Cond.eq (tmST j) (tmST i)) ∈ NF := by decide +kernel
theorem nf7 : ∀ q ∈ resST, q.1 ≠ RX8 → Cond.eq (tmST q.2.2.2) (.string q.1 q.2.1) ∈ NF ∨ Cond.eq (.string q.1 q.2.1) (tmST q.2.2.2) ∈ NF := by decide +kernel
theorem nf8 : ∀ q ∈ resST, q.1 = RX8 → tmST q.2.2.2 = .string q.1 q.2.1 := by decide +kernel
theorem nf9 : ∀ q ∈ resST, q.2.2.2 < nST := by decide +kernel
theorem nf10 : Cond.eq (.static "java/lang/String" "COMPACT_STRINGS" "Z") (.int 1) ∈ NF := by decide +kernel
theorem nf11 : Cond.isRef (.static "jdk/internal/util/Preconditions" "SIOOBE_FORMATTE\x52" "Ljava/util/function/BiFunction;") ∈ NF := by decide +kernel
theorem nf12 : ∀ q ∈ resST, Cond.stringRef q.1 q.2.1 q.2.2.1 ∈ tables_1 := by decide +kernel
theorem nf13 : ∀ i, i < nST → lenST.getD i 0 < 2 ^ 31 := by decide +kernel
theorem str_start {s : State} {args : Array Value} (hgv : (Jvm.Cond.and given_1 narrow_1).before args s = true) (hts : ∀ w ∈ lw_tbl, w.before args s = true) :
    ∃ (adK adV : Nat → Nat) (tS : Nat), vk_S nST lenST bytST adK adV (lA s) s s.heap ∧ va_Z "java/lang/String" "COMPACT_STRINGS" "Z" (.int 1) (lA s) s s.heap ∧
      (va_Z "jdk/internal/util/Preconditions" "SIOOBE_FORMATTE\x52" "Ljava/util/function/BiFunction;" .null (lA s) s s.heap ∨ va_Z "jdk/internal/util/Preconditions" "SIOOBE_FORMATTE\x52" "Ljava/util/function/BiFunction;" (.ref tS) (lA s) s s.heap) ∧ ∀ q ∈ resST, vk_R q.1 q.2.1 q.2.2.1 (adK q.2.2.2) s := by
  have hf : ∀ c ∈ NF, c.before args s = true := flat_of_before _ hgv
  have hA : ∀ a : Nat, a < s.heap.size → ¬ lA s a := fun a h => Nat.not_le.mpr h
  have hT : ∀ (i : Nat) {w : Cond}, tables_1[i]? = some w → w.before args s = true := fun i _ h => hts _ (List.mem_append_right _ (List.mem_of_getElem? h))
  obtain ⟨adK, adV, hS, hev⟩ := vk_Sof (args := args) (N := nST) (tm := tmST) (len := lenST) (byt := bytST) (A := lA s) nf13 (fun i hi => hf _ (nf1 i hi)) (fun i hi => hf _ (nf2 i hi)) (fun i hi => hf _ (nf3 i hi)) (fun i hi => hf _ (nf4 i hi)) (fun i hi j hj => hf _ (nf5 i hi j hj)) (fun i j hi hj hij => (nf6 i hi j hj hij).imp (hf _) (hf _)) hA
  have hC := va_Zof (args := args) (A := lA s) (hT 388 (w := .laysStatic "java/lang/String" "COMPACT_STRINGS" "Z") (by decide +kernel)) (hT 12 (w := .initialized "java/lang/String") (by decide +kernel)) (va_eqi (hf _ nf10)) hA
  have hP := va_Zqof (args := args) (A := lA s) (hT 404 (w := .laysStatic "jdk/internal/util/Preconditions" "SIOOBE_FORMATTE\x52" "Ljava/util/function/BiFunction;") (by decide +kernel)) (hT 14 (w := .initialized "jdk/internal/util/Preconditions") (by decide +kernel)) (hf _ nf11) hA
  have hR : ∀ q ∈ resST, vk_R q.1 q.2.1 q.2.2.1 (adK q.2.2.2) s := fun q hq => by
    refine vk_R.of (A := args) (hts _ (List.mem_append_right _ (nf12 q hq))) ?_
    have e := hev _ (nf9 q hq)
    by_cases h8 : q.1 = RX8
    · rw [nf8 q hq h8] at e
      exact e
    · rcases nf7 q hq h8 with h | h
      · exact va_eqR (hf _ h) e
      · exact va_eqv (hf _ h) e
  rcases hP with hP | ⟨t, hP⟩
  · exact ⟨adK, adV, 0, hS, hC, Or.inl hP, hR⟩
  · exact ⟨adK, adV, t, hS, hC, Or.inr hP, hR⟩
theorem rt_out (b : Bool) (a j : Nat) (h : 64 ≤ a ∨ 12 ≤ j) : RTab b a j = none := by
  unfold RTab
  split <;> first | rfl | omega
theorem rm_out (a j : Nat) (h : 14 ≤ a ∨ 50 ≤ j) : RM a j = none := by
  unfold RM
  split <;> first | rfl | omega
def bd (A J : Nat) (w : Wd) : Prop := ∀ a j, (A ≤ a ∨ J ≤ j) → w.2.2 a j = none
theorem bd_0 (A J : Nat) : bd A J w0 := fun _ _ _ => rfl
theorem bd_si {A J : Nat} {w : Wd} {a i : Nat} {v : Int32} (h : bd A J w) : bd A J (si w a i v) := h
theorem bd_sr {A J : Nat} {w : Wd} {a i : Nat} {v : Option Nat} (h : bd A J w) (ha : a < A) (hi : i < J) : bd A J (sr w a i v) := fun x j hx => (up2_ne _ _ (fun q => by omega)).trans (h x j hx)
theorem bdC : bd 64 12 (iX10_init w0) := by
  unfold iX10_init iX0_init iX3_init iX5_init iX4_init iX9_init iX7_init iX8_init iX2_3 iX2_26 iX1_init iX7_init
  repeat (first | exact bd_0 _ _ | exact bd_sr (by repeat (first | exact bd_0 _ _ | apply bd_si | (refine bd_sr ?_ (by decide) (by decide)))) (by decide) (by decide) | apply bd_si | (refine bd_sr ?_ (by decide) (by decide)))
theorem bdR : bd 14 50 (iX11_init w0) := by
  unfold iX11_init
  repeat (first | exact bd_0 _ _ | apply bd_si | (refine bd_sr ?_ (by decide) (by decide)))
theorem inC : ∀ a, a < 64 → ∀ j, j < 12 → (iX10_init w0).2.2 a j = RTab false a j := by decide +kernel
theorem inR : ∀ a, a < 14 → ∀ j, j < 50 → (iX11_init w0).2.2 a j = RM a j := by decide +kernel
theorem rel0 : RelE (iX10_init w0) (iX11_init w0) := by
  have r1 : (iX10_init w0).2.2 = RTab false := by
    funext a j
    by_cases h : 64 ≤ a ∨ 12 ≤ j
    · rw [bdC a j h, rt_out false a j h]
    · exact inC a (by omega) j (by omega)
  have r2 : (iX11_init w0).2.2 = RM := by
    funext a j
    by_cases h : 14 ≤ a ∨ 50 ≤ j
    · rw [bdR a j h, rm_out a j h]
    · exact inR a (by omega) j (by omega)
  refine ⟨false, r1, r2, by decide +kernel, by decide +kernel, fun q => absurd q (by decide +kernel), ⟨0, by decide, by decide +kernel, by decide +kernel, fun k hk => absurd hk (Nat.not_lt_zero k)⟩, 0, ⟨0, 0, by decide, by decide, by decide, by decide +kernel, by decide +kernel, by decide +kernel, by decide +kernel, by decide +kernel, by decide +kernel, by decide +kernel, by decide +kernel, by decide +kernel, by decide +kernel, fun _ => ⟨rfl, rfl, by decide +kernel⟩, fun d hd => absurd hd (Nat.not_lt_zero d), fun d hd => absurd hd (Nat.not_lt_zero d), fun d hd => absurd hd (Nat.not_lt_zero d)⟩, ⟨0, 0, by decide, by decide, by decide +kernel, by decide +kernel, by decide +kernel, by decide +kernel, fun _ => ⟨rfl, rfl⟩, fun d hd => absurd hd (Nat.not_lt_zero d), fun d hd => absurd hd (Nat.not_lt_zero d)⟩⟩
