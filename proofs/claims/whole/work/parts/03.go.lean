/-! THE MINI MACHINE: worlds of a fixed shape, whose cells are named by small numbers; 'Go' is the walk of a method's body from a place on, 'Cl' a whole call; both end in a predicate of the answer and the world behind it. -/
/-- what the cells hold: whole numbers, long ones, references (by small numbers) -/
abbrev Wd : Type := (Nat → Nat → Int32) × (Nat → Nat → Int64) × (Nat → Nat → Option Nat)
/-- the cells: an object of a class (by its place in vwCl), or an array (0 int, 1 long, else references) of a length -/
abbrev Sh : Type := List (Nat ⊕ (Nat × Nat))
def up2 {α : Type} (f : Nat → Nat → α) (a i : Nat) (v : α) : Nat → Nat → α := fun b j => if b = a ∧ j = i then v else f b j
def wi (w : Wd) (a i : Nat) : Int32 := w.1 a i
def wl (w : Wd) (a i : Nat) : Int64 := w.2.1 a i
def wr (w : Wd) (a i : Nat) : Option Nat := w.2.2 a i
def si (w : Wd) (a i : Nat) (v : Int32) : Wd := (up2 w.1 a i v, w.2.1, w.2.2)
def sl (w : Wd) (a i : Nat) (v : Int64) : Wd := (w.1, up2 w.2.1 a i v, w.2.2)
def sr (w : Wd) (a i : Nat) (v : Option Nat) : Wd := (w.1, w.2.1, up2 w.2.2 a i v)
/-- a value whose reference is a small number, as the machine has it -/
def rv (φ : Nat → Nat) : Value → Value
  | .ref k => .ref (φ k)
  | v => v
theorem rv_cat (φ : Nat → Nat) (v : Value) : (rv φ v).category = v.category := by cases v <;> rfl
def fv (φ : Nat → Nat) (w : Wd) (a k : Nat) : Nat → Value
  | 0 => .int (w.1 a k)
  | 1 => .int (w.1 a k)
  | 2 => .long (w.2.1 a k)
  | _ => va_rf ((w.2.2 a k).map φ)
def fl (φ : Nat → Nat) (w : Wd) (a : Nat) (ks : List Nat) : List Value := ks.mapIdx (fun k t => fv φ w a k t)
def ce (φ : Nat → Nat) (cA : Nat → ClassId) (w : Wd) (a : Nat) : Nat ⊕ (Nat × Nat) → va_E
  | .inl c => .inr (c, fl φ w a (KD.getD c []))
  | .inr (0, n) => .inl (cA a, n, .inl (fun i => w.1 a i))
  | .inr (1, n) => .inl (cA a, n, .inr (.inl (fun i => w.2.1 a i)))
  | .inr (_, n) => .inl (cA a, n, .inr (.inr (.inr (.inr (fun i => (w.2.2 a i).map φ)))))
def mk (S : Sh) (φ : Nat → Nat) (cA : Nat → ClassId) (w : Wd) : va_W := S.mapIdx (fun a e => (φ a, ce φ cA w a e))
theorem mk_at {S : Sh} {φ : Nat → Nat} {cA : Nat → ClassId} {w : Wd} {a : Nat} {e : Nat ⊕ (Nat × Nat)} (h : S[a]? = some e) : (mk S φ cA w)[a]? = some (φ a, ce φ cA w a e) := by
  simp [mk, List.getElem?_mapIdx, h]
theorem fl_at {φ : Nat → Nat} {w : Wd} {a k t : Nat} {ks : List Nat} (h : ks[k]? = some t) : (fl φ w a ks)[k]? = some (fv φ w a k t) := by
  simp [fl, List.getElem?_mapIdx, h]
theorem up2_self {α : Type} (f : Nat → Nat → α) (a i : Nat) (v : α) : up2 f a i v a i = v := by simp [up2]
theorem up2_ne {α : Type} (f : Nat → Nat → α) {a i b j : Nat} (v : α) (h : ¬ (b = a ∧ j = i)) : up2 f a i v b j = f b j := by simp [up2, h]
/-- two worlds that differ at one cell alone -/
theorem mk_set {S : Sh} {φ : Nat → Nat} {cA : Nat → ClassId} {w w' : Wd} {a : Nat} {e : Nat ⊕ (Nat × Nat)} {x : va_E} (h : S[a]? = some e) (hx : ce φ cA w' a e = x) (ho : ∀ b e', b ≠ a → ce φ cA w' b e' = ce φ cA w b e') : mk S φ cA w' = (mk S φ cA w).set a (φ a, x) := by
  apply List.ext_getElem?
  intro b
  have hl : a < (mk S φ cA w).length := by
    have := (List.getElem?_eq_some_iff.mp h).1
    simpa [mk] using this
  by_cases hb : b = a
  · subst hb
    rw [List.getElem?_set_self hl, mk_at h, hx]
  · rw [List.getElem?_set_ne (Ne.symm hb)]
    simp only [mk, List.getElem?_mapIdx]
    cases S[b]? with
    | none => rfl
    | some e' => simp [ho b e' hb]
theorem ce_ne {φ : Nat → Nat} {cA : Nat → ClassId} {w w' : Wd} {b : Nat} (h1 : ∀ i, w'.1 b i = w.1 b i) (h2 : ∀ i, w'.2.1 b i = w.2.1 b i) (h3 : ∀ i, w'.2.2 b i = w.2.2 b i) (e : Nat ⊕ (Nat × Nat)) : ce φ cA w' b e = ce φ cA w b e := by
  have f1 : w'.1 b = w.1 b := funext h1
  have f2 : w'.2.1 b = w.2.1 b := funext h2
  have f3 : w'.2.2 b = w.2.2 b := funext h3
  have g : ∀ k t, fv φ w' b k t = fv φ w b k t := by
    intro k t
    match t with
    | 0 => simp [fv, f1]
    | 1 => simp [fv, f1]
    | 2 => simp [fv, f2]
    | t + 3 => simp [fv, f3]
  match e with
  | .inl c => simp [ce, fl, g]
  | .inr (0, n) => simp [ce, f1]
  | .inr (1, n) => simp [ce, f2]
  | .inr (t + 2, n) => simp [ce, f3]
theorem si_ne {w : Wd} {a i b : Nat} {v : Int32} (h : b ≠ a) (φ : Nat → Nat) (cA : Nat → ClassId) (e : Nat ⊕ (Nat × Nat)) : ce φ cA (si w a i v) b e = ce φ cA w b e :=
  ce_ne (w := w) (w' := si w a i v) (fun j => up2_ne _ _ (fun q => h q.1)) (fun _ => rfl) (fun _ => rfl) e
theorem sl_ne {w : Wd} {a i b : Nat} {v : Int64} (h : b ≠ a) (φ : Nat → Nat) (cA : Nat → ClassId) (e : Nat ⊕ (Nat × Nat)) : ce φ cA (sl w a i v) b e = ce φ cA w b e :=
  ce_ne (w := w) (w' := sl w a i v) (fun _ => rfl) (fun j => up2_ne _ _ (fun q => h q.1)) (fun _ => rfl) e
theorem sr_ne {w : Wd} {a i b : Nat} {v : Option Nat} (h : b ≠ a) (φ : Nat → Nat) (cA : Nat → ClassId) (e : Nat ⊕ (Nat × Nat)) : ce φ cA (sr w a i v) b e = ce φ cA w b e :=
  ce_ne (w := w) (w' := sr w a i v) (fun _ => rfl) (fun _ => rfl) (fun j => up2_ne _ _ (fun q => h q.1)) e
theorem fl_si {φ : Nat → Nat} {w : Wd} {a k t : Nat} {ks : List Nat} {v : Int32} (h : ks[k]? = some t) (ht : t = 0 ∨ t = 1) : fl φ (si w a k v) a ks = (fl φ w a ks).set k (.int v) := by
  apply List.ext_getElem?
  intro j
  have hk : k < (fl φ w a ks).length := by simpa [fl] using (List.getElem?_eq_some_iff.mp h).1
  by_cases hj : j = k
  · subst hj
    rw [List.getElem?_set_self hk, fl_at h]
    rcases ht with rfl | rfl <;> simp [fv, si, up2]
  · rw [List.getElem?_set_ne (Ne.symm hj)]
    simp only [fl, List.getElem?_mapIdx]
    cases ks[j]? with
    | none => rfl
    | some u =>
      simp only [Option.map_some]
      match u with
      | 0 => simp [fv, si, up2, hj]
      | 1 => simp [fv, si, up2, hj]
      | 2 => simp [fv, si]
      | u + 3 => simp [fv, si]
theorem fl_sl {φ : Nat → Nat} {w : Wd} {a k : Nat} {ks : List Nat} {v : Int64} (h : ks[k]? = some 2) : fl φ (sl w a k v) a ks = (fl φ w a ks).set k (.long v) := by
  apply List.ext_getElem?
  intro j
  have hk : k < (fl φ w a ks).length := by simpa [fl] using (List.getElem?_eq_some_iff.mp h).1
  by_cases hj : j = k
  · subst hj
    rw [List.getElem?_set_self hk, fl_at h]
    simp [fv, sl, up2]
  · rw [List.getElem?_set_ne (Ne.symm hj)]
    simp only [fl, List.getElem?_mapIdx]
    cases ks[j]? with
    | none => rfl
    | some u =>
      simp only [Option.map_some]
      match u with
      | 0 => simp [fv, sl]
      | 1 => simp [fv, sl]
      | 2 => simp [fv, sl, up2, hj]
      | u + 3 => simp [fv, sl]
theorem fl_sr {φ : Nat → Nat} {w : Wd} {a k : Nat} {ks : List Nat} {v : Option Nat} (h : ks[k]? = some 3) : fl φ (sr w a k v) a ks = (fl φ w a ks).set k (va_rf (v.map φ)) := by
  apply List.ext_getElem?
  intro j
  have hk : k < (fl φ w a ks).length := by simpa [fl] using (List.getElem?_eq_some_iff.mp h).1
  by_cases hj : j = k
  · subst hj
    rw [List.getElem?_set_self hk, fl_at h]
    simp [fv, sr, up2]
  · rw [List.getElem?_set_ne (Ne.symm hj)]
    simp only [fl, List.getElem?_mapIdx]
    cases ks[j]? with
    | none => rfl
    | some u =>
      simp only [Option.map_some]
      match u with
      | 0 => simp [fv, sr]
      | 1 => simp [fv, sr]
      | 2 => simp [fv, sr]
      | u + 3 => simp [fv, sr, up2, hj]
/-! the surroundings -/
/-- a method: its name, its code, how many locals, what it returns, how deep its calls go -/
abbrev Mth : Type := MethodName × ByteArray × Nat × Option FieldType × Nat
def mW (M : Mth) : List Cond := .code M.1 M.2.1 M.2.2.1 M.2.2.2.1 :: TBL
def rmD (d : Nat) : Room := { frames := d, cells := 0, slots := 0, locals := d * 60 }
abbrev En : Type := va_G × (Nat → Nat) × (Nat → ClassId) × Unit
def eA (S : Sh) (E : En) : Nat → Prop := fun q => ∃ k, k < S.length ∧ q = E.2.1 k
def eTy (cA : Nat → ClassId) (a : Nat) : Nat ⊕ (Nat × Nat) → Option (ClassId × FieldType)
  | .inl _ => none
  | .inr (0, _) => some (cA a, FieldType.int)
  | .inr (1, _) => some (cA a, FieldType.long)
  | .inr (_, _) => some (cA a, FieldType.object RX1)
def eT (S : Sh) (E : En) : List (ClassId × FieldType) := (S.mapIdx fun a e => eTy E.2.2.1 a e).filterMap id
theorem eT_at {S : Sh} {E : En} {a : Nat} {e : Nat ⊕ (Nat × Nat)} {x : ClassId × FieldType} (h : S[a]? = some e) (hx : eTy E.2.2.1 a e = some x) : ∃ t : Nat, (eT S E)[t]? = some x := by
  refine List.getElem?_of_mem (List.mem_filterMap.mpr ⟨some x, ?_, rfl⟩)
  refine List.mem_of_getElem? (i := a) ?_
  simp [List.getElem?_mapIdx, h, hx]
/-- the texts that the code names -/
def nST : Nat := 9
def lenST : List Nat := [4, 5, 6, 4, 5, 2, 2, 2, 2]
def bytST : List (List Int32) := [[104, 97, 108, 108], [100, 97, 110, 99, 101], [117, 110, 115, 117, 114, 101], [115, 101, 101, 110], [115, 108, 105, 112, 115], [110, 119], [110, 101], [115, 119], [115, 101]]
def resST : List (String × Nat × String × Nat) := [(RX8, 62, "hall", 0), (RX8, 86, "slips", 4), (RX8, 71, "dance", 1), (RX8, 76, "unsure", 2), (RX8, 81, "seen", 3), (RX8, 182, "nw", 5), (RX8, 184, "ne", 6), (RX8, 186, "sw", 7), (RX8, 188, "se", 8), (RX11, 126, "hall", 0), (RX11, 197, "slips", 4), (RX11, 128, "dance", 1), (RX11, 130, "unsure", 2), (RX11, 132, "seen", 3), (RX11, 214, "nw", 5), (RX11, 216, "ne", 6), (RX11, 218, "sw", 7), (RX11, 220, "se", 8)]
def eSioo (S : Sh) (E : En) (v : Value) (U : State) (H : Heap) : Prop := va_Z "jdk/internal/util/Preconditions" "SIOOBE_FORMATTE\x52" "Ljava/util/function/BiFunction;" v (eA S E) U H
def eStr (S : Sh) (E : En) (U : State) (H : Heap) : Prop := vk_S nST lenST bytST (fun i => E.2.1 (1000 + i)) (fun i => E.2.1 (2000 + i)) (eA S E) U H ∧ va_Z "java/lang/String" "COMPACT_STRINGS" "Z" (.int 1) (eA S E) U H ∧ (eSioo S E .null U H ∨ eSioo S E (.ref (E.2.1 3000)) U H)
theorem eStr.moved {S : Sh} {E : En} {u U : State} {H : Heap} (hvm : u.vm.Alike U.vm) (h : eStr S E u H) : eStr S E U H := ⟨vk_S.moved hvm h.1, va_Z.moved hvm h.2.1, h.2.2.imp (va_Z.moved hvm) (va_Z.moved hvm)⟩
theorem eStr.kept {S : Sh} {E : En} {U : State} {H H1 : Heap} (h : eStr S E U H) (hq : ∀ a : Nat, a < H.size → ¬ eA S E a → H1[a]? = H[a]?) : eStr S E U H1 := ⟨vk_S.kept h.1 hq, va_Z.kept h.2.1 hq, h.2.2.imp (fun z => va_Z.kept z hq) (fun z => va_Z.kept z hq)⟩
def eK (S : Sh) (E : En) (U : State) : Prop := va_K E.1 vwCl (eT S E) U ∧ (∀ i j, i < S.length → j < S.length → E.2.1 i = E.2.1 j → i = j) ∧ (∀ w ∈ NST, va_Nw w U) ∧ eStr S E U U.heap ∧ ∀ q ∈ resST, vk_R q.1 q.2.1 q.2.2.1 (E.2.1 (1000 + q.2.2.2)) U
def eH (S : Sh) (E : En) (w : Wd) (H : Heap) : Prop := va_P E.1 vwCl (mk S E.2.1 E.2.2.1 w) H
theorem eD {S : Sh} {E : En} {U : State} (h : eK S E U) (w : Wd) : va_D (eA S E) (mk S E.2.1 E.2.2.1 w) := by
  have key : ∀ (k : Nat) (q : Nat × va_E), (mk S E.2.1 E.2.2.1 w)[k]? = some q → k < S.length ∧ q.1 = E.2.1 k := by
    intro k q hk
    have hl : k < S.length := by simpa [mk] using (List.getElem?_eq_some_iff.mp hk).1
    obtain ⟨e, he⟩ : ∃ e, S[k]? = some e := ⟨_, List.getElem?_eq_getElem hl⟩
    rw [mk_at he] at hk
    cases hk
    exact ⟨hl, rfl⟩
  refine ⟨fun i j x y hi hj hxy => ?_, fun k q hk => ?_⟩
  · obtain ⟨h1, h2⟩ := key i x hi
    obtain ⟨h3, h4⟩ := key j y hj
    exact h.2.1 i j h1 h3 (by rw [← h2, ← h4]; exact hxy)
  · obtain ⟨h1, h2⟩ := key k q hk
    exact ⟨k, h1, h2⟩
theorem eK.moved {S : Sh} {E : En} {s U : State} (hW : s.WarmedH U.vm) (hh : ∀ a : Nat, a < s.heap.size → ¬ eA S E a → U.heap[a]? = s.heap[a]?) (h : eK S E s) : eK S E U :=
  ⟨va_K.moved hW.alike h.1, h.2.1, fun w hw => NST_warm w hw s U hW (h.2.2.1 w hw), (h.2.2.2.1.moved hW.alike).kept hh, fun q hq => vk_R.warm hW (h.2.2.2.2 q hq)⟩
theorem eK.same {S : Sh} {E : En} {s U : State} (hv : s.vm = U.vm) (hh : U.heap = s.heap) (h : eK S E s) : eK S E U :=
  ⟨va_K.moved (by rw [hv]; exact Vm.Alike.refl _) h.1, h.2.1, fun w hw => va_Nw.same (NST_tabs w hw) hv (h.2.2.1 w hw), by rw [hh]; exact h.2.2.2.1.moved (by rw [hv]; exact Vm.Alike.refl _), fun q hq => vk_R.same hv.symm (h.2.2.2.2 q hq)⟩
/-- a call's start and end -/
def mP (S : Sh) (E : En) (as : List Value) (w : Wd) : Array Value → State → Prop := fun v U => v = (as.map (rv E.2.1)).toArray ∧ eK S E U ∧ eH S E w U.heap
def mQ (S : Sh) (E : En) (Q : Option Value → Wd → Prop) : Array Value → State → Outcome → State → Prop := fun _ st oc t => ∃ (r : Option Value) (w' : Wd), oc = .returned (r.map (rv E.2.1)) ∧ Q r w' ∧ eH S E w' t.heap ∧ va_F (eA S E) st t
def Cl (S : Sh) (M : Mth) (as : List Value) (w : Wd) (Q : Option Value → Wd → Prop) : Prop :=
  ∀ (l : Launch) (E : En), Met l M.1 (mW M) (rmD M.2.2.2.2) (mP S E as w) (mQ S E Q) 0 0 (eA S E)
abbrev gPre (S : Sh) (M : Mth) (E : En) (p : Program) (s : State) (m : MethodId) (args : Array Value) (meth : Method) (c : Code) : Prop :=
  p.tables.exec = Jvm.exec ∧ c.code = M.2.1 ∧ meth.sig.returnType = M.2.2.2.1 ∧ c.maxLocals = M.2.2.1 ∧ s.vm.findClass M.1.cls = some m.cls ∧ (∀ w ∈ mW M, w.before args s = true) ∧ meth.locks = false ∧ eK S E s
def Go (S : Sh) (M : Mth) (pc : Nat) (lv : List (Nat × Value)) (st : List Value) (w : Wd) (Q : Option Value → Wd → Prop) : Prop :=
  ∀ (p : Program) (l : Launch) (e : Env) (s : State) (m : MethodId) (args : Array Value) (below : List Frame) (meth : Method) (c : Code) (H : Heap) (locs : List Loc) (ls : Array Slot) (E : En),
    gPre S M E p s m args meth c → eH S E w H → va_S (eA S E) s.heap H locs → lv_has ls M.2.2.1 (lv.map fun q => (q.1, rv E.2.1 q.2)) →
    W p l e (rmD M.2.2.2.2) s m args below meth c H locs 0 0 (MQ below (mQ S E Q) args s 0 0 (eA S E)) (F0 m pc ls (st.map (rv E.2.1)))
theorem lv_args_map (φ : Nat → Nat) : ∀ (vs : List Value) (i : Nat), lv_args i (vs.map (rv φ)) = (lv_args i vs).map (fun q => (q.1, rv φ q.2))
  | [], _ => rfl
  | v :: vs, i => by
    simp only [List.map_cons, lv_args, rv_cat]
    rw [lv_args_map φ vs]
theorem lg_sl_len (φ : Nat → Nat) : ∀ vs : List Value, (lg_sl (vs.map (rv φ))).length = (lg_sl vs).length
  | [] => rfl
  | v :: vs => by
    have := lg_sl_len φ vs
    simp only [lg_sl, List.map_cons, List.flatMap_cons, List.length_append, rv_cat] at this ⊢
    rw [this]
    by_cases h : v.category = 2 <;> simp [h]
/-- a call is the walk of its body -/
theorem cl_of {S : Sh} {M : Mth} {as : List Value} {w : Wd} {Q : Option Value → Wd → Prop} (hy : plainName M.1.cls = true) (hl : (lg_sl as).length ≤ M.2.2.1) (k : Go S M 0 (lv_args 0 as) [] w Q) : Cl S M as w Q := by
  intro l E
  refine Met.ofW (cc := M.2.1) (maxL := M.2.2.1) (ret := M.2.2.2.1) hy rfl ?_
  intro p e s m args below meth c s₁ B hml hv
  obtain ⟨rfl, hK, hH⟩ := hv
  have hlv := lv_entry (as.map (rv E.2.1)) (n := M.2.2.1) (by rw [lg_sl_len]; exact hl)
  rw [lg_entry_eq]
  generalize (lg_sl (as.map (rv E.2.1)) ++ List.replicate (M.2.2.1 - (lg_sl (as.map (rv E.2.1))).length) Slot.unset).toArray = ls at hlv ⊢
  rw [lv_args_map] at hlv
  exact k p l e s m _ below meth c s.heap [] ls E ⟨B.exec, B.bytes, B.returns, hml, findClass_of_methodNamed B.named, atoms_spec (ws := mW M) B.pre, B.notSynchronized, hK⟩ hH va_S.rf hlv
