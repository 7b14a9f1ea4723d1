/-! the rules of the mini machine: an instruction each -/
theorem irem_eq (x y : Int32) : x - x / y * y = x % y := Int32.toInt_inj.mp (by rw [rem_toInt, Int32.toInt_mod])
theorem lrem_eq (x y : Int64) : x - x / y * y = x % y := Int64.toInt_inj.mp (by rw [Jvm.Kit.i64_rem, Int64.toInt_mod])
/-- storing into a local: in its place by number -/
def lvI (x : Nat × Value) : List (Nat × Value) → List (Nat × Value)
  | [] => [x]
  | y :: r => if x.1 < y.1 then x :: y :: r else y :: lvI x r
theorem lvI_mem (x : Nat × Value) : ∀ (l : List (Nat × Value)) (q : Nat × Value), q ∈ lvI x l → q ∈ x :: l
  | [], q, h => h
  | y :: r, q, h => by
    unfold lvI at h
    split at h
    · exact h
    · rcases List.mem_cons.mp h with h | h
      · exact List.mem_cons_of_mem _ (List.mem_cons.mpr (Or.inl h))
      · rcases List.mem_cons.mp (lvI_mem x r q h) with h | h
        · exact List.mem_cons.mpr (Or.inl h)
        · exact List.mem_cons_of_mem _ (List.mem_cons_of_mem _ h)
def lvS (i : Nat) (v : Value) (lv : List (Nat × Value)) : List (Nat × Value) := lvI (i, v) (lv.filter fun q => !(q.1 == i) && !(q.1 + 1 == i && q.2.category == 2))
def lvS2 (i : Nat) (v : Value) (lv : List (Nat × Value)) : List (Nat × Value) := lvI (i, v) (lv.filter fun q => !(q.1 == i) && (!(q.1 == i + 1) && !(q.1 + 1 == i && q.2.category == 2)))
theorem lvS_has {φ : Nat → Nat} {ls : Array Slot} {nL i : Nat} {v : Value} {lv lv2 : List (Nat × Value)} (hl : lvS i v lv = lv2) (h : lv_has ls nL ((i, rv φ v) :: (lv.map fun q => (q.1, rv φ q.2)).filter fun q => !(q.1 == i) && !(q.1 + 1 == i && q.2.category == 2))) : lv_has ls nL (lv2.map fun q => (q.1, rv φ q.2)) := by
  subst hl
  refine ⟨h.1, h.2.1, fun q hq => h.2.2 q ?_⟩
  obtain ⟨x, hx, rfl⟩ := List.mem_map.mp hq
  rcases List.mem_cons.mp (lvI_mem _ _ x hx) with rfl | hx
  · exact List.mem_cons_self
  · obtain ⟨h1, h2⟩ := List.mem_filter.mp hx
    refine List.mem_cons_of_mem _ (List.mem_filter.mpr ⟨List.mem_map.mpr ⟨x, h1, rfl⟩, ?_⟩)
    simpa [rv_cat] using h2
theorem lvS2_has {φ : Nat → Nat} {ls : Array Slot} {nL i : Nat} {v : Value} {lv lv2 : List (Nat × Value)} (hl : lvS2 i v lv = lv2) (h : lv_has ls nL ((i, rv φ v) :: (lv.map fun q => (q.1, rv φ q.2)).filter fun q => !(q.1 == i) && (!(q.1 == i + 1) && !(q.1 + 1 == i && q.2.category == 2)))) : lv_has ls nL (lv2.map fun q => (q.1, rv φ q.2)) := by
  subst hl
  refine ⟨h.1, h.2.1, fun q hq => h.2.2 q ?_⟩
  obtain ⟨x, hx, rfl⟩ := List.mem_map.mp hq
  rcases List.mem_cons.mp (lvI_mem _ _ x hx) with rfl | hx
  · exact List.mem_cons_self
  · obtain ⟨h1, h2⟩ := List.mem_filter.mp hx
    refine List.mem_cons_of_mem _ (List.mem_filter.mpr ⟨List.mem_map.mpr ⟨x, h1, rfl⟩, ?_⟩)
    simpa [rv_cat] using h2
section GO
variable {S : Sh} {M : Mth} {pc : Nat} {lv : List (Nat × Value)} {st : List Value} {w : Wd} {Q : Option Value → Wd → Prop}
theorem g_lv {lv2 : List (Nat × Value)} (h : ∀ q ∈ lv2, q ∈ lv) (k : Go S M pc lv2 st w Q) : Go S M pc lv st w Q := by
  intro p l e s m args below meth c H locs ls E G h1 h2 h3
  exact k p l e s m args below meth c H locs ls E G h1 h2 ⟨h3.1, h3.2.1, fun q hq => by
    obtain ⟨x, hx, rfl⟩ := List.mem_map.mp hq
    exact h3.2.2 _ (List.mem_map.mpr ⟨x, h x hx, rfl⟩)⟩
theorem lv_here {φ : Nat → Nat} {ls : Array Slot} {nL : Nat} (h : lv_has ls nL (lv.map fun q => (q.1, rv φ q.2))) (k : Nat) {i : Nat} {v : Value} (hk : lv[k]? = some (i, v)) : ls[i]? = some (.val (rv φ v)) :=
  h.2.2 (i, rv φ v) (List.mem_map.mpr ⟨(i, v), List.mem_of_getElem? hk, rfl⟩)
theorem g_iconst {n : Int} {v : Int32} (hd : decode M.2.1 pc = .ok (.iconst n, 1)) (hv : Int32.ofInt n = v) (k : Go S M (pc + 1) lv (.int v :: st) w Q) : Go S M pc lv st w Q := by
  intro p l e s m args below meth c H locs ls E G h1 h2 h3
  exact lv_iconst G.1 G.2.1 hd hv (k p l e s m args below meth c H locs ls E G h1 h2 h3)
theorem g_bipush {n : Int} {v : Int32} (hd : decode M.2.1 pc = .ok (.bipush n, 2)) (hv : (Int8.ofInt n).toInt32 = v) (k : Go S M (pc + 2) lv (.int v :: st) w Q) : Go S M pc lv st w Q := by
  intro p l e s m args below meth c H locs ls E G h1 h2 h3
  exact lv_bipush G.1 G.2.1 hd hv (k p l e s m args below meth c H locs ls E G h1 h2 h3)
theorem g_sipush {n : Int} {v : Int32} (hd : decode M.2.1 pc = .ok (.sipush n, 3)) (hv : (Int16.ofInt n).toInt32 = v) (k : Go S M (pc + 3) lv (.int v :: st) w Q) : Go S M pc lv st w Q := by
  intro p l e s m args below meth c H locs ls E G h1 h2 h3
  exact lv_sipush G.1 G.2.1 hd hv (k p l e s m args below meth c H locs ls E G h1 h2 h3)
theorem g_lconst {n : Fin 2} {v : Int64} (hd : decode M.2.1 pc = .ok (.lconst n, 1)) (hv : Int64.ofNat (n : Nat) = v) (k : Go S M (pc + 1) lv (.long v :: st) w Q) : Go S M pc lv st w Q := by
  intro p l e s m args below meth c H locs ls E G h1 h2 h3
  exact lv_lconst G.1 G.2.1 hd hv (k p l e s m args below meth c H locs ls E G h1 h2 h3)
theorem g_iload_n {j : Fin 4} {i : Nat} {x : Int32} (hd : decode M.2.1 pc = .ok (.iload_n j, 1)) (hi : (j : Nat) = i) (q : Nat) (hq : lv[q]? = some (i, .int x)) (k : Go S M (pc + 1) lv (.int x :: st) w Q) : Go S M pc lv st w Q := by
  intro p l e s m args below meth c H locs ls E G h1 h2 h3
  exact lv_iload_n G.1 G.2.1 hd hi (lv_here h3 q hq) (k p l e s m args below meth c H locs ls E G h1 h2 h3)
theorem g_iload {i : Nat} {x : Int32} (hd : decode M.2.1 pc = .ok (.iload i, 2)) (q : Nat) (hq : lv[q]? = some (i, .int x)) (k : Go S M (pc + 2) lv (.int x :: st) w Q) : Go S M pc lv st w Q := by
  intro p l e s m args below meth c H locs ls E G h1 h2 h3
  exact lv_iload G.1 G.2.1 hd (lv_here h3 q hq) (k p l e s m args below meth c H locs ls E G h1 h2 h3)
theorem g_lload_n {j : Fin 4} {i : Nat} {x : Int64} (hd : decode M.2.1 pc = .ok (.lload_n j, 1)) (hi : (j : Nat) = i) (q : Nat) (hq : lv[q]? = some (i, .long x)) (k : Go S M (pc + 1) lv (.long x :: st) w Q) : Go S M pc lv st w Q := by
  intro p l e s m args below meth c H locs ls E G h1 h2 h3
  exact lv_lload_n G.1 G.2.1 hd hi (lv_here h3 q hq) (k p l e s m args below meth c H locs ls E G h1 h2 h3)
theorem g_lload {i : Nat} {x : Int64} (hd : decode M.2.1 pc = .ok (.lload i, 2)) (q : Nat) (hq : lv[q]? = some (i, .long x)) (k : Go S M (pc + 2) lv (.long x :: st) w Q) : Go S M pc lv st w Q := by
  intro p l e s m args below meth c H locs ls E G h1 h2 h3
  exact lv_lload G.1 G.2.1 hd (lv_here h3 q hq) (k p l e s m args below meth c H locs ls E G h1 h2 h3)
theorem g_aload_n {j : Fin 4} {i : Nat} {x : Nat} (hd : decode M.2.1 pc = .ok (.aload_n j, 1)) (hi : (j : Nat) = i) (q : Nat) (hq : lv[q]? = some (i, .ref x)) (k : Go S M (pc + 1) lv (.ref x :: st) w Q) : Go S M pc lv st w Q := by
  intro p l e s m args below meth c H locs ls E G h1 h2 h3
  exact lv_aload_n G.1 G.2.1 hd hi (lv_here h3 q hq) (k p l e s m args below meth c H locs ls E G h1 h2 h3)
theorem g_aload {i : Nat} {x : Nat} (hd : decode M.2.1 pc = .ok (.aload i, 2)) (q : Nat) (hq : lv[q]? = some (i, .ref x)) (k : Go S M (pc + 2) lv (.ref x :: st) w Q) : Go S M pc lv st w Q := by
  intro p l e s m args below meth c H locs ls E G h1 h2 h3
  exact lv_aload G.1 G.2.1 hd (lv_here h3 q hq) (k p l e s m args below meth c H locs ls E G h1 h2 h3)
theorem g_aload_nN {j : Fin 4} {i : Nat} (hd : decode M.2.1 pc = .ok (.aload_n j, 1)) (hi : (j : Nat) = i) (q : Nat) (hq : lv[q]? = some (i, .null)) (k : Go S M (pc + 1) lv (.null :: st) w Q) : Go S M pc lv st w Q := by
  intro p l e s m args below meth c H locs ls E G h1 h2 h3
  exact lv_aload_nN G.1 G.2.1 hd hi (lv_here h3 q hq) (k p l e s m args below meth c H locs ls E G h1 h2 h3)
theorem g_aloadN {i : Nat} (hd : decode M.2.1 pc = .ok (.aload i, 2)) (q : Nat) (hq : lv[q]? = some (i, .null)) (k : Go S M (pc + 2) lv (.null :: st) w Q) : Go S M pc lv st w Q := by
  intro p l e s m args below meth c H locs ls E G h1 h2 h3
  exact lv_aloadN G.1 G.2.1 hd (lv_here h3 q hq) (k p l e s m args below meth c H locs ls E G h1 h2 h3)
theorem g_istore_n {i : Nat} {lv2 : List (Nat × Value)} {j : Fin 4} {x : Int32} (hd : decode M.2.1 pc = .ok (.istore_n j, 1)) (hi : (j : Nat) = i) (hn : i < M.2.2.1) (hl : lvS i (.int x) lv = lv2) (k : Go S M (pc + 1) lv2 st w Q) : Go S M pc lv ((.int x) :: st) w Q := by
  intro p l e s m args below meth c H locs ls E G h1 h2 h3
  exact lv_istore_n G.1 G.2.1 hd hi h3 hn rfl (fun ls2 h4 => k p l e s m args below meth c H locs ls2 E G h1 h2 (lvS_has hl h4))
theorem g_istore {i : Nat} {lv2 : List (Nat × Value)} {x : Int32} (hd : decode M.2.1 pc = .ok (.istore i, 2)) (hn : i < M.2.2.1) (hl : lvS i (.int x) lv = lv2) (k : Go S M (pc + 2) lv2 st w Q) : Go S M pc lv ((.int x) :: st) w Q := by
  intro p l e s m args below meth c H locs ls E G h1 h2 h3
  exact lv_istore G.1 G.2.1 hd h3 hn rfl (fun ls2 h4 => k p l e s m args below meth c H locs ls2 E G h1 h2 (lvS_has hl h4))
theorem g_lstore_n {i : Nat} {lv2 : List (Nat × Value)} {j : Fin 4} {x : Int64} (hd : decode M.2.1 pc = .ok (.lstore_n j, 1)) (hi : (j : Nat) = i) (hn : i + 1 < M.2.2.1) (hl : lvS2 i (.long x) lv = lv2) (k : Go S M (pc + 1) lv2 st w Q) : Go S M pc lv ((.long x) :: st) w Q := by
  intro p l e s m args below meth c H locs ls E G h1 h2 h3
  exact lv_lstore_n G.1 G.2.1 hd hi h3 hn rfl (fun ls2 h4 => k p l e s m args below meth c H locs ls2 E G h1 h2 (lvS2_has hl h4))
theorem g_lstore {i : Nat} {lv2 : List (Nat × Value)} {x : Int64} (hd : decode M.2.1 pc = .ok (.lstore i, 2)) (hn : i + 1 < M.2.2.1) (hl : lvS2 i (.long x) lv = lv2) (k : Go S M (pc + 2) lv2 st w Q) : Go S M pc lv ((.long x) :: st) w Q := by
  intro p l e s m args below meth c H locs ls E G h1 h2 h3
  exact lv_lstore G.1 G.2.1 hd h3 hn rfl (fun ls2 h4 => k p l e s m args below meth c H locs ls2 E G h1 h2 (lvS2_has hl h4))
theorem g_astore_n {i : Nat} {lv2 : List (Nat × Value)} {j : Fin 4} {x : Nat} (hd : decode M.2.1 pc = .ok (.astore_n j, 1)) (hi : (j : Nat) = i) (hn : i < M.2.2.1) (hl : lvS i (.ref x) lv = lv2) (k : Go S M (pc + 1) lv2 st w Q) : Go S M pc lv ((.ref x) :: st) w Q := by
  intro p l e s m args below meth c H locs ls E G h1 h2 h3
  exact lv_astore_n G.1 G.2.1 hd hi h3 hn rfl (fun ls2 h4 => k p l e s m args below meth c H locs ls2 E G h1 h2 (lvS_has hl h4))
theorem g_astore {i : Nat} {lv2 : List (Nat × Value)} {x : Nat} (hd : decode M.2.1 pc = .ok (.astore i, 2)) (hn : i < M.2.2.1) (hl : lvS i (.ref x) lv = lv2) (k : Go S M (pc + 2) lv2 st w Q) : Go S M pc lv ((.ref x) :: st) w Q := by
  intro p l e s m args below meth c H locs ls E G h1 h2 h3
  exact lv_astore G.1 G.2.1 hd h3 hn rfl (fun ls2 h4 => k p l e s m args below meth c H locs ls2 E G h1 h2 (lvS_has hl h4))
theorem g_astore_nN {i : Nat} {lv2 : List (Nat × Value)} {j : Fin 4} (hd : decode M.2.1 pc = .ok (.astore_n j, 1)) (hi : (j : Nat) = i) (hn : i < M.2.2.1) (hl : lvS i .null lv = lv2) (k : Go S M (pc + 1) lv2 st w Q) : Go S M pc lv (.null :: st) w Q := by
  intro p l e s m args below meth c H locs ls E G h1 h2 h3
  exact lv_astore_nN G.1 G.2.1 hd hi h3 hn rfl (fun ls2 h4 => k p l e s m args below meth c H locs ls2 E G h1 h2 (lvS_has hl h4))
theorem g_astoreN {i : Nat} {lv2 : List (Nat × Value)} (hd : decode M.2.1 pc = .ok (.astore i, 2)) (hn : i < M.2.2.1) (hl : lvS i .null lv = lv2) (k : Go S M (pc + 2) lv2 st w Q) : Go S M pc lv (.null :: st) w Q := by
  intro p l e s m args below meth c H locs ls E G h1 h2 h3
  exact lv_astoreN G.1 G.2.1 hd h3 hn rfl (fun ls2 h4 => k p l e s m args below meth c H locs ls2 E G h1 h2 (lvS_has hl h4))
theorem g_iinc {i : Nat} {n : Int} {x : Int32} {lv2 : List (Nat × Value)} (hd : decode M.2.1 pc = .ok (.iinc i n, 3)) (q : Nat) (hq : lv[q]? = some (i, .int x)) (hn : i < M.2.2.1) {v : Int32} (hv : x + Int32.ofInt n = v) (hl : lvS i (.int v) lv = lv2) (k : Go S M (pc + 3) lv2 st w Q) : Go S M pc lv st w Q := by
  intro p l e s m args below meth c H locs ls E G h1 h2 h3
  exact lv_iinc G.1 G.2.1 hd h3 (k := q) (by rw [List.getElem?_map, hq]; rfl) hv hn rfl (fun ls2 h4 => k p l e s m args below meth c H locs ls2 E G h1 h2 (lvS_has hl h4))
theorem g_iadd {x y : Int32} (hd : decode M.2.1 pc = .ok (.iadd, 1)) (k : Go S M (pc + 1) lv (.int (x + y) :: st) w Q) : Go S M pc lv (.int y :: .int x :: st) w Q := by
  intro p l e s m args below meth c H locs ls E G h1 h2 h3
  exact lv_iadd G.1 G.2.1 hd (k p l e s m args below meth c H locs ls E G h1 h2 h3)
theorem g_isub {x y : Int32} (hd : decode M.2.1 pc = .ok (.isub, 1)) (k : Go S M (pc + 1) lv (.int (x - y) :: st) w Q) : Go S M pc lv (.int y :: .int x :: st) w Q := by
  intro p l e s m args below meth c H locs ls E G h1 h2 h3
  exact lv_isub G.1 G.2.1 hd (k p l e s m args below meth c H locs ls E G h1 h2 h3)
theorem g_imul {x y : Int32} (hd : decode M.2.1 pc = .ok (.imul, 1)) (k : Go S M (pc + 1) lv (.int (x * y) :: st) w Q) : Go S M pc lv (.int y :: .int x :: st) w Q := by
  intro p l e s m args below meth c H locs ls E G h1 h2 h3
  exact lv_imul G.1 G.2.1 hd (k p l e s m args below meth c H locs ls E G h1 h2 h3)
theorem g_iand {x y : Int32} (hd : decode M.2.1 pc = .ok (.iand, 1)) (k : Go S M (pc + 1) lv (.int (x &&& y) :: st) w Q) : Go S M pc lv (.int y :: .int x :: st) w Q := by
  intro p l e s m args below meth c H locs ls E G h1 h2 h3
  exact lv_iand G.1 G.2.1 hd (k p l e s m args below meth c H locs ls E G h1 h2 h3)
theorem g_ior {x y : Int32} (hd : decode M.2.1 pc = .ok (.ior, 1)) (k : Go S M (pc + 1) lv (.int (x ||| y) :: st) w Q) : Go S M pc lv (.int y :: .int x :: st) w Q := by
  intro p l e s m args below meth c H locs ls E G h1 h2 h3
  exact lv_ior G.1 G.2.1 hd (k p l e s m args below meth c H locs ls E G h1 h2 h3)
theorem g_ixor {x y : Int32} (hd : decode M.2.1 pc = .ok (.ixor, 1)) (k : Go S M (pc + 1) lv (.int (x ^^^ y) :: st) w Q) : Go S M pc lv (.int y :: .int x :: st) w Q := by
  intro p l e s m args below meth c H locs ls E G h1 h2 h3
  exact lv_ixor G.1 G.2.1 hd (k p l e s m args below meth c H locs ls E G h1 h2 h3)
theorem g_ishl {x y : Int32} (hd : decode M.2.1 pc = .ok (.ishl, 1)) (k : Go S M (pc + 1) lv (.int (x <<< (y &&& 31)) :: st) w Q) : Go S M pc lv (.int y :: .int x :: st) w Q := by
  intro p l e s m args below meth c H locs ls E G h1 h2 h3
  exact lv_ishl G.1 G.2.1 hd (k p l e s m args below meth c H locs ls E G h1 h2 h3)
theorem g_ishr {x y : Int32} (hd : decode M.2.1 pc = .ok (.ishr, 1)) (k : Go S M (pc + 1) lv (.int (x >>> (y &&& 31)) :: st) w Q) : Go S M pc lv (.int y :: .int x :: st) w Q := by
  intro p l e s m args below meth c H locs ls E G h1 h2 h3
  exact lv_ishr G.1 G.2.1 hd (k p l e s m args below meth c H locs ls E G h1 h2 h3)
theorem g_ladd {x y : Int64} (hd : decode M.2.1 pc = .ok (.ladd, 1)) (k : Go S M (pc + 1) lv (.long (x + y) :: st) w Q) : Go S M pc lv (.long y :: .long x :: st) w Q := by
  intro p l e s m args below meth c H locs ls E G h1 h2 h3
  exact lv_ladd G.1 G.2.1 hd (k p l e s m args below meth c H locs ls E G h1 h2 h3)
theorem g_lsub {x y : Int64} (hd : decode M.2.1 pc = .ok (.lsub, 1)) (k : Go S M (pc + 1) lv (.long (x - y) :: st) w Q) : Go S M pc lv (.long y :: .long x :: st) w Q := by
  intro p l e s m args below meth c H locs ls E G h1 h2 h3
  exact lv_lsub G.1 G.2.1 hd (k p l e s m args below meth c H locs ls E G h1 h2 h3)
theorem g_lmul {x y : Int64} (hd : decode M.2.1 pc = .ok (.lmul, 1)) (k : Go S M (pc + 1) lv (.long (x * y) :: st) w Q) : Go S M pc lv (.long y :: .long x :: st) w Q := by
  intro p l e s m args below meth c H locs ls E G h1 h2 h3
  exact lv_lmul G.1 G.2.1 hd (k p l e s m args below meth c H locs ls E G h1 h2 h3)
theorem g_idiv {x y : Int32} (hd : decode M.2.1 pc = .ok (.idiv, 1)) (hne : ¬ y = 0) (k : Go S M (pc + 1) lv (.int (x / y) :: st) w Q) : Go S M pc lv (.int y :: .int x :: st) w Q := by
  intro p l e s m args below meth c H locs ls E G h1 h2 h3
  exact lv_idiv G.1 G.2.1 hd hne (k p l e s m args below meth c H locs ls E G h1 h2 h3)
theorem g_irem {x y : Int32} (hd : decode M.2.1 pc = .ok (.irem, 1)) (hne : ¬ y = 0) (k : Go S M (pc + 1) lv (.int (x % y) :: st) w Q) : Go S M pc lv (.int y :: .int x :: st) w Q := by
  intro p l e s m args below meth c H locs ls E G h1 h2 h3
  exact lv_irem G.1 G.2.1 hd hne (by rw [irem_eq]; exact (k p l e s m args below meth c H locs ls E G h1 h2 h3))
theorem g_ldiv {x y : Int64} (hd : decode M.2.1 pc = .ok (.ldiv, 1)) (hne : ¬ y = 0) (k : Go S M (pc + 1) lv (.long (x / y) :: st) w Q) : Go S M pc lv (.long y :: .long x :: st) w Q := by
  intro p l e s m args below meth c H locs ls E G h1 h2 h3
  exact lv_ldiv G.1 G.2.1 hd hne (k p l e s m args below meth c H locs ls E G h1 h2 h3)
theorem g_lrem {x y : Int64} (hd : decode M.2.1 pc = .ok (.lrem, 1)) (hne : ¬ y = 0) (k : Go S M (pc + 1) lv (.long (x % y) :: st) w Q) : Go S M pc lv (.long y :: .long x :: st) w Q := by
  intro p l e s m args below meth c H locs ls E G h1 h2 h3
  exact lv_lrem G.1 G.2.1 hd hne (by rw [lrem_eq]; exact (k p l e s m args below meth c H locs ls E G h1 h2 h3))
theorem g_ineg {x : Int32} (hd : decode M.2.1 pc = .ok (.ineg, 1)) (k : Go S M (pc + 1) lv (.int (-x) :: st) w Q) : Go S M pc lv (.int x :: st) w Q := by
  intro p l e s m args below meth c H locs ls E G h1 h2 h3
  exact lv_ineg G.1 G.2.1 hd (k p l e s m args below meth c H locs ls E G h1 h2 h3)
theorem g_lneg {x : Int64} (hd : decode M.2.1 pc = .ok (.lneg, 1)) (k : Go S M (pc + 1) lv (.long (-x) :: st) w Q) : Go S M pc lv (.long x :: st) w Q := by
  intro p l e s m args below meth c H locs ls E G h1 h2 h3
  exact lv_lneg G.1 G.2.1 hd (k p l e s m args below meth c H locs ls E G h1 h2 h3)
theorem g_i2l {x : Int32} (hd : decode M.2.1 pc = .ok (.i2l, 1)) (k : Go S M (pc + 1) lv (.long x.toInt64 :: st) w Q) : Go S M pc lv (.int x :: st) w Q := by
  intro p l e s m args below meth c H locs ls E G h1 h2 h3
  exact lv_i2l G.1 G.2.1 hd rfl (k p l e s m args below meth c H locs ls E G h1 h2 h3)
theorem g_l2i {x : Int64} (hd : decode M.2.1 pc = .ok (.l2i, 1)) (k : Go S M (pc + 1) lv (.int x.toInt32 :: st) w Q) : Go S M pc lv (.long x :: st) w Q := by
  intro p l e s m args below meth c H locs ls E G h1 h2 h3
  exact lv_l2i G.1 G.2.1 hd rfl (k p l e s m args below meth c H locs ls E G h1 h2 h3)
theorem g_iushr {x y : Int32} (hd : decode M.2.1 pc = .ok (.iushr, 1)) (k : Go S M (pc + 1) lv (.int (x.toUInt32 >>> (y.toUInt32 &&& Int32.toUInt32 31)).toInt32 :: st) w Q) : Go S M pc lv (.int y :: .int x :: st) w Q := by
  intro p l e s m args below meth c H locs ls E G h1 h2 h3
  exact lv_iushr G.1 G.2.1 hd rfl (k p l e s m args below meth c H locs ls E G h1 h2 h3)
theorem g_lcmp {x y : Int64} (hd : decode M.2.1 pc = .ok (.lcmp, 1)) (k : Go S M (pc + 1) lv (.int (lg_cmp x y) :: st) w Q) : Go S M pc lv (.long y :: .long x :: st) w Q := by
  intro p l e s m args below meth c H locs ls E G h1 h2 h3
  exact W.lcmp G.1 G.2.1 hd (k p l e s m args below meth c H locs ls E G h1 h2 h3)
theorem g_dup {v : Value} (hd : decode M.2.1 pc = .ok (.dup, 1)) (hc : v.category = 1) (k : Go S M (pc + 1) lv (v :: v :: st) w Q) : Go S M pc lv (v :: st) w Q := by
  intro p l e s m args below meth c H locs ls E G h1 h2 h3
  exact lv_dup G.1 G.2.1 hd (by rw [rv_cat]; exact hc) (k p l e s m args below meth c H locs ls E G h1 h2 h3)
theorem g_dup2 {v u : Value} (hd : decode M.2.1 pc = .ok (.dup2, 1)) (hc : v.category = 1) (hu : u.category = 1) (k : Go S M (pc + 1) lv (v :: u :: v :: u :: st) w Q) : Go S M pc lv (v :: u :: st) w Q := by
  intro p l e s m args below meth c H locs ls E G h1 h2 h3
  exact lv_dup2_11 G.1 G.2.1 hd (by rw [rv_cat]; exact hc) (by rw [rv_cat]; exact hu) (k p l e s m args below meth c H locs ls E G h1 h2 h3)
theorem g_pop {v : Value} (hd : decode M.2.1 pc = .ok (.pop, 1)) (hc : v.category = 1) (k : Go S M (pc + 1) lv st w Q) : Go S M pc lv (v :: st) w Q := by
  intro p l e s m args below meth c H locs ls E G h1 h2 h3
  exact lv_pop G.1 G.2.1 hd (by rw [rv_cat]; exact hc) (k p l e s m args below meth c H locs ls E G h1 h2 h3)
theorem g_null (hd : decode M.2.1 pc = .ok (.aconst_null, 1)) (k : Go S M (pc + 1) lv (.null :: st) w Q) : Go S M pc lv st w Q := by
  intro p l e s m args below meth c H locs ls E G h1 h2 h3
  exact lv_null G.1 G.2.1 hd (k p l e s m args below meth c H locs ls E G h1 h2 h3)
theorem g_goto {off : Int} {tgt : Nat} (hd : decode M.2.1 pc = .ok (.goto off, 3)) (ht : (pc : Int) + off = (tgt : Int)) (k : Go S M tgt lv st w Q) : Go S M pc lv st w Q := by
  intro p l e s m args below meth c H locs ls E G h1 h2 h3
  exact lv_goto G.1 G.2.1 hd ht (k p l e s m args below meth c H locs ls E G h1 h2 h3)
theorem g_ifnullR {off : Int} {x : Nat} (hd : decode M.2.1 pc = .ok (.ifnull off, 3)) (k : Go S M (pc + 3) lv st w Q) : Go S M pc lv (.ref x :: st) w Q := by
  intro p l e s m args below meth c H locs ls E G h1 h2 h3
  exact lv_ifnull G.1 G.2.1 hd (k p l e s m args below meth c H locs ls E G h1 h2 h3)
theorem g_ifnullN {off : Int} {tgt : Nat} (hd : decode M.2.1 pc = .ok (.ifnull off, 3)) (ht : (pc : Int) + off = (tgt : Int)) (k : Go S M tgt lv st w Q) : Go S M pc lv (.null :: st) w Q := by
  intro p l e s m args below meth c H locs ls E G h1 h2 h3
  exact lv_ifnullN G.1 G.2.1 hd ht (k p l e s m args below meth c H locs ls E G h1 h2 h3)
theorem g_ifnonnullR {off : Int} {tgt : Nat} {x : Nat} (hd : decode M.2.1 pc = .ok (.ifnonnull off, 3)) (ht : (pc : Int) + off = (tgt : Int)) (k : Go S M tgt lv st w Q) : Go S M pc lv (.ref x :: st) w Q := by
  intro p l e s m args below meth c H locs ls E G h1 h2 h3
  exact lv_ifnonnull G.1 G.2.1 hd ht (k p l e s m args below meth c H locs ls E G h1 h2 h3)
theorem g_ifnonnullN {off : Int} (hd : decode M.2.1 pc = .ok (.ifnonnull off, 3)) (k : Go S M (pc + 3) lv st w Q) : Go S M pc lv (.null :: st) w Q := by
  intro p l e s m args below meth c H locs ls E G h1 h2 h3
  exact lv_ifnonnullN G.1 G.2.1 hd (k p l e s m args below meth c H locs ls E G h1 h2 h3)
theorem g_icmp_eq {x y : Int32} {off : Int} {tgt : Nat} (hd : decode M.2.1 pc = .ok (.if_icmp .eq off, 3)) (ht : (pc : Int) + off = (tgt : Int)) (kt : x = y → Go S M tgt lv st w Q) (kf : ¬ x = y → Go S M (pc + 3) lv st w Q) : Go S M pc lv (.int y :: .int x :: st) w Q := by
  intro p l e s m args below meth c H locs ls E G h1 h2 h3
  exact lv_icmp_eq G.1 G.2.1 hd ht (fun q => kt q p l e s m args below meth c H locs ls E G h1 h2 h3) (fun q => kf q p l e s m args below meth c H locs ls E G h1 h2 h3)
theorem g_icmp_ne {x y : Int32} {off : Int} {tgt : Nat} (hd : decode M.2.1 pc = .ok (.if_icmp .ne off, 3)) (ht : (pc : Int) + off = (tgt : Int)) (kt : ¬ x = y → Go S M tgt lv st w Q) (kf : x = y → Go S M (pc + 3) lv st w Q) : Go S M pc lv (.int y :: .int x :: st) w Q := by
  intro p l e s m args below meth c H locs ls E G h1 h2 h3
  exact lv_icmp_ne G.1 G.2.1 hd ht (fun q => kt q p l e s m args below meth c H locs ls E G h1 h2 h3) (fun q => kf q p l e s m args below meth c H locs ls E G h1 h2 h3)
theorem g_icmp_lt {x y : Int32} {off : Int} {tgt : Nat} (hd : decode M.2.1 pc = .ok (.if_icmp .lt off, 3)) (ht : (pc : Int) + off = (tgt : Int)) (kt : x < y → Go S M tgt lv st w Q) (kf : ¬ x < y → Go S M (pc + 3) lv st w Q) : Go S M pc lv (.int y :: .int x :: st) w Q := by
  intro p l e s m args below meth c H locs ls E G h1 h2 h3
  exact lv_icmp_lt G.1 G.2.1 hd ht (fun q => kt q p l e s m args below meth c H locs ls E G h1 h2 h3) (fun q => kf q p l e s m args below meth c H locs ls E G h1 h2 h3)
theorem g_icmp_ge {x y : Int32} {off : Int} {tgt : Nat} (hd : decode M.2.1 pc = .ok (.if_icmp .ge off, 3)) (ht : (pc : Int) + off = (tgt : Int)) (kt : y ≤ x → Go S M tgt lv st w Q) (kf : ¬ y ≤ x → Go S M (pc + 3) lv st w Q) : Go S M pc lv (.int y :: .int x :: st) w Q := by
  intro p l e s m args below meth c H locs ls E G h1 h2 h3
  exact lv_icmp_ge G.1 G.2.1 hd ht (fun q => kt q p l e s m args below meth c H locs ls E G h1 h2 h3) (fun q => kf q p l e s m args below meth c H locs ls E G h1 h2 h3)
theorem g_icmp_gt {x y : Int32} {off : Int} {tgt : Nat} (hd : decode M.2.1 pc = .ok (.if_icmp .gt off, 3)) (ht : (pc : Int) + off = (tgt : Int)) (kt : y < x → Go S M tgt lv st w Q) (kf : ¬ y < x → Go S M (pc + 3) lv st w Q) : Go S M pc lv (.int y :: .int x :: st) w Q := by
  intro p l e s m args below meth c H locs ls E G h1 h2 h3
  exact lv_icmp_gt G.1 G.2.1 hd ht (fun q => kt q p l e s m args below meth c H locs ls E G h1 h2 h3) (fun q => kf q p l e s m args below meth c H locs ls E G h1 h2 h3)
theorem g_icmp_le {x y : Int32} {off : Int} {tgt : Nat} (hd : decode M.2.1 pc = .ok (.if_icmp .le off, 3)) (ht : (pc : Int) + off = (tgt : Int)) (kt : x ≤ y → Go S M tgt lv st w Q) (kf : ¬ x ≤ y → Go S M (pc + 3) lv st w Q) : Go S M pc lv (.int y :: .int x :: st) w Q := by
  intro p l e s m args below meth c H locs ls E G h1 h2 h3
  exact lv_icmp_le G.1 G.2.1 hd ht (fun q => kt q p l e s m args below meth c H locs ls E G h1 h2 h3) (fun q => kf q p l e s m args below meth c H locs ls E G h1 h2 h3)
theorem g_if_eq {x : Int32} {off : Int} {tgt : Nat} (hd : decode M.2.1 pc = .ok (.ifCond .eq off, 3)) (ht : (pc : Int) + off = (tgt : Int)) (kt : x = 0 → Go S M tgt lv st w Q) (kf : ¬ x = 0 → Go S M (pc + 3) lv st w Q) : Go S M pc lv (.int x :: st) w Q := by
  intro p l e s m args below meth c H locs ls E G h1 h2 h3
  exact lv_if_eq G.1 G.2.1 hd ht (fun q => kt q p l e s m args below meth c H locs ls E G h1 h2 h3) (fun q => kf q p l e s m args below meth c H locs ls E G h1 h2 h3)
theorem g_if_ne {x : Int32} {off : Int} {tgt : Nat} (hd : decode M.2.1 pc = .ok (.ifCond .ne off, 3)) (ht : (pc : Int) + off = (tgt : Int)) (kt : ¬ x = 0 → Go S M tgt lv st w Q) (kf : x = 0 → Go S M (pc + 3) lv st w Q) : Go S M pc lv (.int x :: st) w Q := by
  intro p l e s m args below meth c H locs ls E G h1 h2 h3
  exact lv_if_ne G.1 G.2.1 hd ht (fun q => kt q p l e s m args below meth c H locs ls E G h1 h2 h3) (fun q => kf q p l e s m args below meth c H locs ls E G h1 h2 h3)
theorem g_if_lt {x : Int32} {off : Int} {tgt : Nat} (hd : decode M.2.1 pc = .ok (.ifCond .lt off, 3)) (ht : (pc : Int) + off = (tgt : Int)) (kt : x < 0 → Go S M tgt lv st w Q) (kf : ¬ x < 0 → Go S M (pc + 3) lv st w Q) : Go S M pc lv (.int x :: st) w Q := by
  intro p l e s m args below meth c H locs ls E G h1 h2 h3
  exact lv_if_lt G.1 G.2.1 hd ht (fun q => kt q p l e s m args below meth c H locs ls E G h1 h2 h3) (fun q => kf q p l e s m args below meth c H locs ls E G h1 h2 h3)
theorem g_if_ge {x : Int32} {off : Int} {tgt : Nat} (hd : decode M.2.1 pc = .ok (.ifCond .ge off, 3)) (ht : (pc : Int) + off = (tgt : Int)) (kt : 0 ≤ x → Go S M tgt lv st w Q) (kf : ¬ 0 ≤ x → Go S M (pc + 3) lv st w Q) : Go S M pc lv (.int x :: st) w Q := by
  intro p l e s m args below meth c H locs ls E G h1 h2 h3
  exact lv_if_ge G.1 G.2.1 hd ht (fun q => kt q p l e s m args below meth c H locs ls E G h1 h2 h3) (fun q => kf q p l e s m args below meth c H locs ls E G h1 h2 h3)
theorem g_if_gt {x : Int32} {off : Int} {tgt : Nat} (hd : decode M.2.1 pc = .ok (.ifCond .gt off, 3)) (ht : (pc : Int) + off = (tgt : Int)) (kt : 0 < x → Go S M tgt lv st w Q) (kf : ¬ 0 < x → Go S M (pc + 3) lv st w Q) : Go S M pc lv (.int x :: st) w Q := by
  intro p l e s m args below meth c H locs ls E G h1 h2 h3
  exact lv_if_gt G.1 G.2.1 hd ht (fun q => kt q p l e s m args below meth c H locs ls E G h1 h2 h3) (fun q => kf q p l e s m args below meth c H locs ls E G h1 h2 h3)
theorem g_if_le {x : Int32} {off : Int} {tgt : Nat} (hd : decode M.2.1 pc = .ok (.ifCond .le off, 3)) (ht : (pc : Int) + off = (tgt : Int)) (kt : x ≤ 0 → Go S M tgt lv st w Q) (kf : ¬ x ≤ 0 → Go S M (pc + 3) lv st w Q) : Go S M pc lv (.int x :: st) w Q := by
  intro p l e s m args below meth c H locs ls E G h1 h2 h3
  exact lv_if_le G.1 G.2.1 hd ht (fun q => kt q p l e s m args below meth c H locs ls E G h1 h2 h3) (fun q => kf q p l e s m args below meth c H locs ls E G h1 h2 h3)
theorem g_tabIn {dflt lo hi : Int} {offs : Array Int} {len : Nat} {x : Int32} {off : Int} {tgt : Nat} (hd : decode M.2.1 pc = .ok (.tableswitch dflt lo hi offs, len)) (q1 : ¬ x.toInt < lo) (q2 : ¬ hi < x.toInt) (ho : offs[(x.toInt - lo).toNat]? = some off) (ht : (pc : Int) + off = (tgt : Int)) (k : Go S M tgt lv st w Q) : Go S M pc lv (.int x :: st) w Q := by
  intro p l e s m args below meth c H locs ls E G h1 h2 h3
  exact lv_tableIn G.1 G.2.1 hd q1 q2 ho ht (k p l e s m args below meth c H locs ls E G h1 h2 h3)
theorem g_tabOut {dflt lo hi : Int} {offs : Array Int} {len : Nat} {x : Int32} {tgt : Nat} (hd : decode M.2.1 pc = .ok (.tableswitch dflt lo hi offs, len)) (q1 : x.toInt < lo ∨ hi < x.toInt) (ht : (pc : Int) + dflt = (tgt : Int)) (k : Go S M tgt lv st w Q) : Go S M pc lv (.int x :: st) w Q := by
  intro p l e s m args below meth c H locs ls E G h1 h2 h3
  exact lv_tableOut G.1 G.2.1 hd q1 ht (k p l e s m args below meth c H locs ls E G h1 h2 h3)
theorem g_ldc {own : String} {idx : Nat} {v : Int32} (hd : decode M.2.1 pc = .ok (.ldc idx, 2)) (ho : M.1.cls = own) (hc : Jvm.Cond.constant own idx v ∈ TBL) (k : Go S M (pc + 2) lv (.int v :: st) w Q) : Go S M pc lv st w Q := by
  intro p l e s m args below meth c H locs ls E G h1 h2 h3
  exact lv_ldc G.1 G.2.1 (ho ▸ G.2.2.2.2.1) (G.2.2.2.2.2.1 _ (List.mem_cons_of_mem _ hc)) hd (k p l e s m args below meth c H locs ls E G h1 h2 h3)
theorem g_ldcw {own : String} {idx : Nat} {v : Int32} (hd : decode M.2.1 pc = .ok (.ldc_w idx, 3)) (ho : M.1.cls = own) (hc : Jvm.Cond.constant own idx v ∈ TBL) (k : Go S M (pc + 3) lv (.int v :: st) w Q) : Go S M pc lv st w Q := by
  intro p l e s m args below meth c H locs ls E G h1 h2 h3
  exact lv_ldcw G.1 G.2.1 (ho ▸ G.2.2.2.2.1) (G.2.2.2.2.2.1 _ (List.mem_cons_of_mem _ hc)) hd (k p l e s m args below meth c H locs ls E G h1 h2 h3)
/-! fields -/
/-- what a field's entry names: class c, place k, kind t -/
def FAt (own : String) (idx c k t : Nat) : Prop := ∃ (C : String) (T : u_T) (N : Nat), vwCl[c]? = some (C, T, N) ∧ k < N ∧ (∀ w ∈ u_ws C T N, w ∈ TBL) ∧ (KD.getD c [])[k]? = some t ∧ (Cond.fieldLink own idx (T k).1 (T k).2.1 (T k).2.2.1 ∈ TBL ∨ ∃ host, Cond.fieldLinkNest own idx (T k).1 (T k).2.1 (T k).2.2.1 host ∈ NST)
/-- a type of a kind -/
def tyOK (t : Nat) (ty : FieldType) : Prop := match t with
  | 0 => ty = .int
  | 1 => ty = .boolean
  | 2 => ty = .long
  | _ => (∃ n, ty = .object n) ∨ ∃ n, ty = .array n
/-- what may be stored there -/
def FPut (c k t : Nat) : Prop := ∃ (C : String) (T : u_T) (N : Nat) (ty : Nat → FieldType), vwCl[c]? = some (C, T, N) ∧ (∀ j, j < N → parseFieldDescriptor (T j).2.2.1 = some (ty j)) ∧ (∀ a, a < N → ∀ b, b < N → a ≠ b → (T a).2.1 ≠ (T b).2.1) ∧ (T k).2.2.2 = false ∧ tyOK t (ty k)
theorem g_get {own : String} {idx cI j t a : Nat} {v : Value} (hd : decode M.2.1 pc = .ok (.getfield idx, 3)) (ho : M.1.cls = own) (hf : FAt own idx cI j t) (hS : S[a]? = some (.inl cI)) (hv : ∀ φ, fv φ w a j t = rv φ v) (k : Go S M (pc + 3) lv (v :: st) w Q) : Go S M pc lv (.ref a :: st) w Q := by
  intro p l e s m args below meth c H locs ls E G h1 h2 h3
  obtain ⟨C, T, N, f1, f2, f3, f4, f5⟩ := hf
  have hv2 : (fl E.2.1 w a (KD.getD cI []))[j]? = some (rv E.2.1 v) := by rw [fl_at f4, hv]
  have hts := fun x hx => G.2.2.2.2.2.1 x (List.mem_cons_of_mem _ hx)
  rcases f5 with f5 | ⟨host, f5⟩
  · exact va_get (Ts := TBL) G.1 G.2.1 hts f3 (ho ▸ G.2.2.2.2.1) G.2.2.2.2.2.2.2.1 h1 a (mk_at hS) f1 j f2 (hts _ f5) (fun _ h => h) hv2 hd (k p l e s m args below meth c H locs ls E G h1 h2 h3)
  · exact va_getN (Ts := TBL) G.1 G.2.1 hts f3 (ho ▸ G.2.2.2.2.1) G.2.2.2.2.2.2.2.1 h1 a (mk_at hS) f1 j f2 (va_Nw.use (NST_tabs _ f5) (G.2.2.2.2.2.2.2.2.2.1 _ f5)) (fun _ h => h) hv2 hd (k p l e s m args below meth c H locs ls E G h1 h2 h3)
theorem g_getI {own : String} {idx cI j a : Nat} (hd : decode M.2.1 pc = .ok (.getfield idx, 3)) (ho : M.1.cls = own) (hf : FAt own idx cI j 0) (hS : S[a]? = some (.inl cI)) (k : Go S M (pc + 3) lv (.int (wi w a j) :: st) w Q) : Go S M pc lv (.ref a :: st) w Q := g_get hd ho hf hS (fun _ => rfl) k
theorem g_getZ {own : String} {idx cI j a : Nat} (hd : decode M.2.1 pc = .ok (.getfield idx, 3)) (ho : M.1.cls = own) (hf : FAt own idx cI j 1) (hS : S[a]? = some (.inl cI)) (k : Go S M (pc + 3) lv (.int (wi w a j) :: st) w Q) : Go S M pc lv (.ref a :: st) w Q := g_get hd ho hf hS (fun _ => rfl) k
theorem g_getL {own : String} {idx cI j a : Nat} (hd : decode M.2.1 pc = .ok (.getfield idx, 3)) (ho : M.1.cls = own) (hf : FAt own idx cI j 2) (hS : S[a]? = some (.inl cI)) (k : Go S M (pc + 3) lv (.long (wl w a j) :: st) w Q) : Go S M pc lv (.ref a :: st) w Q := g_get hd ho hf hS (fun _ => rfl) k
theorem g_getR {own : String} {idx cI j a b : Nat} (hd : decode M.2.1 pc = .ok (.getfield idx, 3)) (ho : M.1.cls = own) (hf : FAt own idx cI j 3) (hS : S[a]? = some (.inl cI)) (hb : wr w a j = some b) (k : Go S M (pc + 3) lv (.ref b :: st) w Q) : Go S M pc lv (.ref a :: st) w Q := g_get (v := .ref b) hd ho hf hS (fun φ => by show va_rf ((w.2.2 a j).map φ) = _; rw [show w.2.2 a j = some b from hb]; rfl) k
theorem g_put {own : String} {idx cI j t a : Nat} {v : Value} {w2 : Wd} (hd : decode M.2.1 pc = .ok (.putfield idx, 3)) (ho : M.1.cls = own) (hf : FAt own idx cI j t) (hp : FPut cI j t) (hS : S[a]? = some (.inl cI))
    (hv : ∀ φ, fl φ w2 a (KD.getD cI []) = (fl φ w a (KD.getD cI [])).set j (rv φ v)) (hoth : ∀ b, b ≠ a → ∀ φ cA e, ce φ cA w2 b e = ce φ cA w b e)
    (hn : ∀ ty : FieldType, tyOK t ty → ∀ φ, narrow ty (rv φ v) = rv φ v ∧ fits ty (rv φ v) = true)
    (k : Go S M (pc + 3) lv st w2 Q) : Go S M pc lv (v :: .ref a :: st) w Q := by
  intro p l e s m args below meth c H locs ls E G h1 h2 h3
  obtain ⟨C, T, N, f1, f2, f3, f4, f5⟩ := hf
  obtain ⟨C', T', N', ty, g1, g2, g3, g4, g5⟩ := hp
  have hCT : (C', T', N') = (C, T, N) := Option.some.inj (g1.symm.trans f1)
  cases hCT
  have hts := fun x hx => G.2.2.2.2.2.1 x (List.mem_cons_of_mem _ hx)
  have hl : j < (fl E.2.1 w a (KD.getD cI [])).length := by simpa [fl] using (List.getElem?_eq_some_iff.mp f4).1
  have hmk : mk S E.2.1 E.2.2.1 w2 = (mk S E.2.1 E.2.2.1 w).set a (E.2.1 a, .inr (cI, (fl E.2.1 w a (KD.getD cI [])).set j (rv E.2.1 v))) := mk_set hS (by show (Sum.inr (cI, _) : va_E) = _; rw [hv]) (fun b e' hb => hoth b hb _ _ _)
  obtain ⟨n1, n2⟩ := hn (ty j) g5 E.2.1
  rcases f5 with f5 | ⟨host, f5⟩
  · refine va_put (Ts := TBL) G.1 G.2.1 hts f3 ty g2 g3 (ho ▸ G.2.2.2.2.1) G.2.2.2.2.2.2.2.1 h1 (eD G.2.2.2.2.2.2.2 w) h2 a (mk_at hS) f1 j f2 (hts _ f5) (fun _ h => h) g4 (g2 j f2) n1 n2 hl hd (fun H1 locs1 hP1 hD1 hS1 => ?_)
    rw [← hmk] at hP1
    exact k p l e s m args below meth c H1 locs1 ls E G hP1 hS1 h3
  · refine va_putN (Ts := TBL) G.1 G.2.1 hts f3 ty g2 g3 (ho ▸ G.2.2.2.2.1) G.2.2.2.2.2.2.2.1 h1 (eD G.2.2.2.2.2.2.2 w) h2 a (mk_at hS) f1 j f2 (va_Nw.use (NST_tabs _ f5) (G.2.2.2.2.2.2.2.2.2.1 _ f5)) (fun _ h => h) g4 (g2 j f2) n1 n2 hl hd (fun H1 locs1 hP1 hD1 hS1 => ?_)
    rw [← hmk] at hP1
    exact k p l e s m args below meth c H1 locs1 ls E G hP1 hS1 h3
theorem FAt.kd {own : String} {idx c k t : Nat} (h : FAt own idx c k t) : (KD.getD c [])[k]? = some t := by
  obtain ⟨_, _, _, _, _, _, h4, _⟩ := h
  exact h4
theorem g_putI {own : String} {idx cI j a : Nat} {v : Int32} (hd : decode M.2.1 pc = .ok (.putfield idx, 3)) (ho : M.1.cls = own) (hf : FAt own idx cI j 0) (hp : FPut cI j 0) (hS : S[a]? = some (.inl cI)) (k : Go S M (pc + 3) lv st (si w a j v) Q) : Go S M pc lv (.int v :: .ref a :: st) w Q :=
  g_put (v := .int v) hd ho hf hp hS (fun _ => fl_si hf.kd (Or.inl rfl)) (fun _ h _ _ _ => si_ne h _ _ _) (fun ty h φ => by cases h; exact ⟨rfl, rfl⟩) k
theorem g_putZ {own : String} {idx cI j a : Nat} {v : Int32} (hd : decode M.2.1 pc = .ok (.putfield idx, 3)) (ho : M.1.cls = own) (hf : FAt own idx cI j 1) (hp : FPut cI j 1) (hS : S[a]? = some (.inl cI)) (hz : v = 0 ∨ v = 1) (k : Go S M (pc + 3) lv st (si w a j v) Q) : Go S M pc lv (.int v :: .ref a :: st) w Q :=
  g_put (v := .int v) hd ho hf hp hS (fun _ => fl_si hf.kd (Or.inr rfl)) (fun _ h _ _ _ => si_ne h _ _ _) (fun ty h φ => by cases h; rcases hz with rfl | rfl <;> exact ⟨rfl, rfl⟩) k
theorem g_putL {own : String} {idx cI j a : Nat} {v : Int64} (hd : decode M.2.1 pc = .ok (.putfield idx, 3)) (ho : M.1.cls = own) (hf : FAt own idx cI j 2) (hp : FPut cI j 2) (hS : S[a]? = some (.inl cI)) (k : Go S M (pc + 3) lv st (sl w a j v) Q) : Go S M pc lv (.long v :: .ref a :: st) w Q :=
  g_put (v := .long v) hd ho hf hp hS (fun _ => fl_sl hf.kd) (fun _ h _ _ _ => sl_ne h _ _ _) (fun ty h φ => by cases h; exact ⟨rfl, rfl⟩) k
theorem g_putR {own : String} {idx cI j a b : Nat} (hd : decode M.2.1 pc = .ok (.putfield idx, 3)) (ho : M.1.cls = own) (hf : FAt own idx cI j 3) (hp : FPut cI j 3) (hS : S[a]? = some (.inl cI)) (k : Go S M (pc + 3) lv st (sr w a j (some b)) Q) : Go S M pc lv (.ref b :: .ref a :: st) w Q :=
  g_put (v := .ref b) hd ho hf hp hS (fun _ => fl_sr hf.kd) (fun _ h _ _ _ => sr_ne h _ _ _) (fun ty h φ => by rcases h with ⟨n, rfl⟩ | ⟨n, rfl⟩ <;> exact ⟨rfl, rfl⟩) k
/-! arrays -/
theorem g_iald {a n j : Nat} {i : Int32} (hd : decode M.2.1 pc = .ok (.iaload, 1)) (hS : S[a]? = some (.inr (0, n))) (hin : vp_in i n) (hj : i.toNatClampNeg = j) (k : Go S M (pc + 1) lv (.int (wi w a j) :: st) w Q) : Go S M pc lv (.int i :: .ref a :: st) w Q := by
  subst hj
  intro p l e s m args below meth c H locs ls E G h1 h2 h3
  obtain ⟨t0, ht⟩ := eT_at (E := E) hS rfl
  exact va_iald G.1 G.2.1 G.2.2.2.2.2.2.2.1 h1 a t0 (mk_at hS) ht hin hd (k p l e s m args below meth c H locs ls E G h1 h2 h3)
theorem g_lald {a n : Nat} {i : Int32} (hd : decode M.2.1 pc = .ok (.laload, 1)) (hS : S[a]? = some (.inr (1, n))) (hin : vp_in i n) (k : Go S M (pc + 1) lv (.long (wl w a i.toNatClampNeg) :: st) w Q) : Go S M pc lv (.int i :: .ref a :: st) w Q := by
  intro p l e s m args below meth c H locs ls E G h1 h2 h3
  obtain ⟨t0, ht⟩ := eT_at (E := E) hS rfl
  exact va_lald G.1 G.2.1 G.2.2.2.2.2.2.2.1 h1 a t0 (mk_at hS) ht hin hd (k p l e s m args below meth c H locs ls E G h1 h2 h3)
theorem g_aald {a n b : Nat} {i : Int32} (hd : decode M.2.1 pc = .ok (.aaload, 1)) (hS : S[a]? = some (.inr (2, n))) (hin : vp_in i n) (hb : wr w a i.toNatClampNeg = some b) (k : Go S M (pc + 1) lv (.ref b :: st) w Q) : Go S M pc lv (.int i :: .ref a :: st) w Q := by
  intro p l e s m args below meth c H locs ls E G h1 h2 h3
  obtain ⟨t0, ht⟩ := eT_at (E := E) hS rfl
  refine va_aldq G.1 G.2.1 G.2.2.2.2.2.2.2.1 h1 a t0 (mk_at hS) ht hin hd ?_
  rw [show w.2.2 a i.toNatClampNeg = some b from hb]
  exact k p l e s m args below meth c H locs ls E G h1 h2 h3
theorem g_alen {a t n : Nat} {v : Int32} (hd : decode M.2.1 pc = .ok (.arraylength, 1)) (hS : S[a]? = some (.inr (t, n))) (hv : Int32.ofNat n = v) (k : Go S M (pc + 1) lv (.int v :: st) w Q) : Go S M pc lv (.ref a :: st) w Q := by
  intro p l e s m args below meth c H locs ls E G h1 h2 h3
  match t, hS with
  | 0, hS =>
    obtain ⟨t0, ht⟩ := eT_at (E := E) hS rfl
    exact va_alen G.1 G.2.1 G.2.2.2.2.2.2.2.1 h1 a t0 (mk_at hS) ht hv hd (k p l e s m args below meth c H locs ls E G h1 h2 h3)
  | 1, hS =>
    obtain ⟨t0, ht⟩ := eT_at (E := E) hS rfl
    exact va_alen G.1 G.2.1 G.2.2.2.2.2.2.2.1 h1 a t0 (mk_at hS) ht hv hd (k p l e s m args below meth c H locs ls E G h1 h2 h3)
  | t + 2, hS =>
    obtain ⟨t0, ht⟩ := eT_at (E := E) hS rfl
    exact va_alen G.1 G.2.1 G.2.2.2.2.2.2.2.1 h1 a t0 (mk_at hS) ht hv hd (k p l e s m args below meth c H locs ls E G h1 h2 h3)
theorem g_iast {a n j : Nat} {i v : Int32} (hd : decode M.2.1 pc = .ok (.iastore, 1)) (hS : S[a]? = some (.inr (0, n))) (hin : vp_in i n) (hj : i.toNatClampNeg = j) (k : Go S M (pc + 1) lv st (si w a j v) Q) : Go S M pc lv (.int v :: .int i :: .ref a :: st) w Q := by
  subst hj
  intro p l e s m args below meth c H locs ls E G h1 h2 h3
  obtain ⟨t0, ht⟩ := eT_at (E := E) hS rfl
  have hmk : mk S E.2.1 E.2.2.1 (si w a i.toNatClampNeg v) = (mk S E.2.1 E.2.2.1 w).set a (E.2.1 a, .inl (E.2.2.1 a, n, .inl (upd (fun i => w.1 a i) i.toNatClampNeg v))) := mk_set hS (by
    have e1 : (fun j => (si w a i.toNatClampNeg v).1 a j) = upd (fun i => w.1 a i) i.toNatClampNeg v := by
      funext j
      by_cases hj : j = i.toNatClampNeg
      · subst hj; simp [si, up2, upd]
      · simp [si, up2, upd, hj]
    show Sum.inl (E.2.2.1 a, n, Sum.inl (fun j => (si w a i.toNatClampNeg v).1 a j)) = _
    rw [e1]) (fun b e' hb => si_ne hb _ _ _)
  refine va_iast G.1 G.2.1 G.2.2.2.2.2.2.2.1 h1 (eD G.2.2.2.2.2.2.2 w) h2 a t0 (mk_at hS) ht hin hd (fun H1 locs1 hP1 hD1 hS1 => ?_)
  rw [← hmk] at hP1
  exact k p l e s m args below meth c H1 locs1 ls E G hP1 hS1 h3
/-! returns -/
theorem g_qOK {E : En} {s t : State} {H : Heap} {locs : List Loc} {a : Array Value} {r : Option Value} (hq : Q r w) (h1 : eH S E w H) (h2 : va_S (eA S E) s.heap H locs) (ht : t.heap = H) : mQ S E Q a s (.returned (r.map (rv E.2.1))) t :=
  ⟨r, w, rfl, hq, by rw [ht]; exact h1, h2.F ht⟩
theorem g_iret {v : Int32} (hd : decode M.2.1 pc = .ok (.ireturn, 1)) (hr : M.2.2.2.1 = some .int) (hq : Q (some (.int v)) w) : Go S M pc lv [.int v] w Q := by
  intro p l e s m args below meth c H locs ls E G h1 h2 h3
  have hlocks := G.2.2.2.2.2.2.1
  exact W.iret G.1 G.2.1 (G.2.2.1.trans hr) (fun t ht _ => g_qOK (r := some (.int v)) hq h1 h2 ht) h2.2.2 hd
theorem g_zret {v : Int32} {ty : FieldType} (hd : decode M.2.1 pc = .ok (.ireturn, 1)) (hr : M.2.2.2.1 = some ty) (hn : narrow ty (.int v) = .int v) (hq : Q (some (.int v)) w) : Go S M pc lv [.int v] w Q := by
  intro p l e s m args below meth c H locs ls E G h1 h2 h3
  have hlocks := G.2.2.2.2.2.2.1
  exact W.zret G.1 G.2.1 (G.2.2.1.trans hr) hn (fun t ht _ => g_qOK (r := some (.int v)) hq h1 h2 ht) h2.2.2 hd
theorem g_bret {v : Int32} (hd : decode M.2.1 pc = .ok (.ireturn, 1)) (hr : M.2.2.2.1 = some .boolean) (hz : v = 0 ∨ v = 1) (hq : Q (some (.int v)) w) : Go S M pc lv [.int v] w Q :=
  g_zret hd hr (by rcases hz with rfl | rfl <;> rfl) hq
theorem g_lret {v : Int64} (hd : decode M.2.1 pc = .ok (.lreturn, 1)) (hr : M.2.2.2.1 = some .long) (hq : Q (some (.long v)) w) : Go S M pc lv [.long v] w Q := by
  intro p l e s m args below meth c H locs ls E G h1 h2 h3
  have hlocks := G.2.2.2.2.2.2.1
  exact W.lret G.1 G.2.1 (G.2.2.1.trans hr) (fun t ht _ => g_qOK (r := some (.long v)) hq h1 h2 ht) h2.2.2 hd
theorem g_vret (hd : decode M.2.1 pc = .ok (.return_, 1)) (hr : M.2.2.2.1 = none) (hq : Q none w) : Go S M pc lv [] w Q := by
  intro p l e s m args below meth c H locs ls E G h1 h2 h3
  have hlocks := G.2.2.2.2.2.2.1
  exact W.vret G.1 G.2.1 (G.2.2.1.trans hr) (fun t ht _ => g_qOK (r := none) hq h1 h2 ht) h2.2.2 hd
theorem g_aret {b : Nat} {n : String} (hd : decode M.2.1 pc = .ok (.areturn, 1)) (hr : M.2.2.2.1 = some (.object n)) (hq : Q (some (.ref b)) w) : Go S M pc lv [.ref b] w Q := by
  intro p l e s m args below meth c H locs ls E G h1 h2 h3
  have hlocks := G.2.2.2.2.2.2.1
  exact W.aret G.1 G.2.1 (G.2.2.1.trans hr) (Or.inl ⟨_, rfl⟩) (Or.inr ⟨_, rfl⟩) (fun t ht _ => g_qOK (r := some (.ref b)) hq h1 h2 ht) h2.2.2 hd
theorem g_aretN {n : String} (hd : decode M.2.1 pc = .ok (.areturn, 1)) (hr : M.2.2.2.1 = some (.object n)) (hq : Q (some .null) w) : Go S M pc lv [.null] w Q := by
  intro p l e s m args below meth c H locs ls E G h1 h2 h3
  have hlocks := G.2.2.2.2.2.2.1
  exact W.aret G.1 G.2.1 (G.2.2.1.trans hr) (Or.inl ⟨_, rfl⟩) (Or.inl rfl) (fun t ht _ => g_qOK (r := some .null) hq h1 h2 ht) h2.2.2 hd
/-! calls -/
/-- what a method's entry names -/
def CAt (own : String) (idx : Nat) (M' : Mth) (n : Nat) : Prop := (Cond.methodLink own idx M'.1 ∈ TBL ∨ ∃ host, Cond.methodLinkNest own idx M'.1 host ∈ NST) ∧ Cond.code M'.1 M'.2.1 M'.2.2.1 M'.2.2.2.1 ∈ TBL ∧ Cond.initialized M'.1.cls ∈ TBL ∧ (M'.1.cls ≠ "java/lang/invoke/MethodHandle" ∧ M'.1.cls ≠ "java/lang/invoke/VarHandle") ∧ (parseMethodDescriptor M'.1.desc).map (fun d => d.parameters.length) = some n ∧ M'.2.2.1 ≤ 41
theorem g_after {Q' : Option Value → Wd → Prop} {p : Program} {l : Launch} {e : Env} {s : State} {m : MethodId} {args : Array Value} {below : List Frame} {meth : Method} {c : Code} {H : Heap} {locs : List Loc} {ls : Array Slot} {E : En} {a : Array Value} {st0 : List Value}
    (G : gPre S M E p s m args meth c) (h2 : va_S (eA S E) s.heap H locs) (h3 : lv_has ls M.2.2.1 (lv.map fun q => (q.1, rv E.2.1 q.2)))
    (hr : va_Run p l e (rmD M.2.2.2.2) s m args below meth c H locs 0 0 0 0 (F0 m pc ls st0) (st.map (rv E.2.1)) (mQ S E Q' a) (eA S E)) (k : ∀ r w', Q' r w' → Go S M (pc + 3) lv (r.toList ++ st) w' Q) :
    W p l e (rmD M.2.2.2.2) s m args below meth c H locs 0 0 (MQ below (mQ S E Q) args s 0 0 (eA S E)) (F0 m pc ls st0) := by
  intro T hT X
  obtain ⟨v, st₀, t, T', L, h0, X', hL, e1, e2, ⟨r, w', hv, hq, hH, hz, hk⟩, stp⟩ := hr T hT X
  have hv : v = r.map (rv E.2.1) := Outcome.returned.inj hv
  subst hv
  rw [h0] at hz hk
  obtain ⟨t2, a1, b1⟩ := k r w' hq p l e s m args below meth c T'.heap (locs ++ L) ls E G (by rw [e1]; exact hH)
    ⟨Nat.le_trans h2.1 (by rw [e1]; exact hz), fun q g1 g2 => by rw [e1, hk q (Nat.lt_of_lt_of_le g1 h2.1) g2]; exact h2.2.1 q g1 g2, fun q hq => by
      rcases List.mem_append.mp hq with h | h
      · exact h2.2.2 q h
      · exact hL q h⟩ h3 T' rfl X'
  refine ⟨t2, stp t2 ?_, b1⟩
  have : ((r.map (rv E.2.1)).toList ++ st.map (rv E.2.1)) = (r.toList ++ st).map (rv E.2.1) := by cases r <;> rfl
  show Steps p.tables e below (T'.setTop { F0 m pc ls st0 with pc := pc + 3, stack := (r.map (rv E.2.1)).toList ++ st.map (rv E.2.1) }) t2
  rw [this]
  exact a1
theorem mP_blind (E : En) (as : List Value) (w : Wd) : FrameBlind (mP S E as w) := fun a U g mk q => ⟨q.1, eK.same (s := U) (U := U.calling g mk a) rfl rfl q.2.1, q.2.2⟩
theorem mW_warm {M' : Mth} {s : State} {args : Array Value} (hts : ∀ w ∈ TBL, w.before args s = true) (hc : Cond.code M'.1 M'.2.1 M'.2.2.1 M'.2.2.2.1 ∈ TBL) : ∀ w ∈ mW M', ∀ (a' : Array Value) (U : State), s.WarmedH U.vm → w.before a' U = true := by
  intro w hw a' U hW
  rcases List.mem_cons.mp hw with rfl | hw
  · exact word_at hW (TBL_good _ hc) (hts _ hc)
  · exact word_at hW (TBL_good _ hw) (hts _ hw)
theorem params_of {y : MethodName} {n : Nat} (h : (parseMethodDescriptor y.desc).map (fun d => d.parameters.length) = some n) : ∀ sig, parseMethodDescriptor y.desc = some sig → n = sig.parameters.length := fun sig h2 => by
  rw [h2] at h
  exact (Option.some.inj h).symm
theorem map_rev_app (φ : Nat → Nat) (as rest : List Value) : (as.reverse ++ rest).map (rv φ) = (as.map (rv φ)).reverse ++ rest.map (rv φ) := by rw [List.map_append, List.map_reverse]
theorem sum_cat (φ : Nat → Nat) (st : List Value) : ((st.map (rv φ)).map fun v => v.category).sum = (st.map fun v => v.category).sum := by
  rw [List.map_map]
  congr 2
  funext v
  exact rv_cat φ v
theorem g_callS {M' : Mth} {own : String} {idx n : Nat} {as st2 : List Value} (hd : decode M.2.1 pc = .ok (.invokestatic idx, 3)) (ho : M.1.cls = own) (hc : CAt own idx M' n) (hst : Cond.static M'.1 ∈ TBL) (hD : M'.2.2.2.2 + 1 ≤ M.2.2.2.2) (hn : as.length = n) (hs : as.reverse ++ st = st2) (hcat : (st.map fun v => v.category).sum ≤ 8)
    (k : Cl S M' as w (fun r w' => Go S M (pc + 3) lv (r.toList ++ st) w' Q)) : Go S M pc lv st2 w Q := by
  subst hs
  intro p l e s m args below meth c H locs ls E G h1 h2 h3
  obtain ⟨c1, c2, c3, c4, c5, c6⟩ := hc
  have hts : ∀ x ∈ TBL, x.before args s = true := fun x hx => G.2.2.2.2.2.1 x (List.mem_cons_of_mem _ hx)
  have hpre : PreS s H (mP S E as w) (as.map (rv E.2.1)) := ⟨mP_blind E as w, fun U hU hW => ⟨rfl, eK.moved hW (fun x g1 g2 => by rw [hU]; exact h2.2.1 x g1 g2) G.2.2.2.2.2.2.2, by rw [hU]; exact h1⟩⟩
  have hfix : CallFix p m c M.2.1 M.2.2.1 s args TBL own := ⟨G.1, G.2.1, G.2.2.2.1, ho ▸ G.2.2.2.2.1, hts⟩
  have hlo : 8 + (M'.2.2.1 + 11) + (rmD M'.2.2.2.2).locals ≤ (rmD M.2.2.2.2).locals := by show 8 + (M'.2.2.1 + 11) + M'.2.2.2.2 * 60 ≤ M.2.2.2.2 * 60; omega
  refine g_after G h2 h3 (Q' := fun r w' => Go S M (pc + 3) lv (r.toList ++ st) w' Q) (a := (as.map (rv E.2.1)).toArray) ?_ (fun r w' h => h)
  rcases c1 with c1 | ⟨host, c1⟩
  · exact va_runS (As := as.map (rv E.2.1)) (rest := st.map (rv E.2.1)) hfix (k l E) ⟨⟨rfl, rfl, hD, hlo, mW_warm hts c2, List.mem_cons_self, hts _ c2, hts _ c3, c4, params_of c5, hts _ c1⟩, hts _ hst⟩ hpre rfl (by rw [List.length_map]; exact hn) h3.1 (map_rev_app _ _ _) (lv_room (by rw [sum_cat]; exact hcat)) hd ⟨Nat.zero_le _, Nat.zero_le _⟩
  · exact va_runSN (As := as.map (rv E.2.1)) (rest := st.map (rv E.2.1)) hfix (k l E) ⟨⟨⟨rfl, rfl, hD, hlo, mW_warm hts c2, List.mem_cons_self⟩, hts _ c2, hts _ c3, c4, params_of c5, va_Nw.use (NST_tabs _ c1) (G.2.2.2.2.2.2.2.2.2.1 _ c1)⟩, hts _ hst, trivial⟩ hpre rfl (by rw [List.length_map]; exact hn) h3.1 (map_rev_app _ _ _) (lv_room (by rw [sum_cat]; exact hcat)) hd ⟨Nat.zero_le _, Nat.zero_le _⟩
theorem g_callV {M' : Mth} {own : String} {idx n a cI : Nat} {as st2 : List Value} (hd : decode M.2.1 pc = .ok (.invokevirtual idx, 3)) (ho : M.1.cls = own) (hc : CAt own idx M' n) (hin : Cond.instanceMethod M'.1 ∈ TBL ∧ Cond.selects M'.1.cls M'.1 M'.1 ∈ TBL) (hD : M'.2.2.2.2 + 1 ≤ M.2.2.2.2) (hS : S[a]? = some (.inl cI)) (hcl : ∃ q, vwCl[cI]? = some q ∧ q.1 = M'.1.cls) (hn : as.length = n) (hs : as.reverse ++ .ref a :: st = st2) (hcat : (st.map fun v => v.category).sum ≤ 8)
    (k : Cl S M' (.ref a :: as) w (fun r w' => Go S M (pc + 3) lv (r.toList ++ st) w' Q)) : Go S M pc lv st2 w Q := by
  subst hs
  intro p l e s m args below meth c H locs ls E G h1 h2 h3
  obtain ⟨c1, c2, c3, c4, c5, c6⟩ := hc
  obtain ⟨q, hq, hq2⟩ := hcl
  have hts : ∀ x ∈ TBL, x.before args s = true := fun x hx => G.2.2.2.2.2.1 x (List.mem_cons_of_mem _ hx)
  have hrec := va_recv G.2.2.2.2.2.2.2.1 h1 hq (mk_at hS)
  rw [hq2] at hrec
  have hpre : PreV s H M'.1.cls (E.2.1 a) (mP S E (.ref a :: as) w) (as.map (rv E.2.1)) := ⟨mP_blind E _ w, hrec, fun U hU hW => ⟨rfl, eK.moved hW (fun x g1 g2 => by rw [hU]; exact h2.2.1 x g1 g2) G.2.2.2.2.2.2.2, by rw [hU]; exact h1⟩⟩
  have hfix : CallFix p m c M.2.1 M.2.2.1 s args TBL own := ⟨G.1, G.2.1, G.2.2.2.1, ho ▸ G.2.2.2.2.1, hts⟩
  have hlo : 8 + (M'.2.2.1 + 11) + (rmD M'.2.2.2.2).locals ≤ (rmD M.2.2.2.2).locals := by show 8 + (M'.2.2.1 + 11) + M'.2.2.2.2 * 60 ≤ M.2.2.2.2 * 60; omega
  refine g_after G h2 h3 (Q' := fun r w' => Go S M (pc + 3) lv (r.toList ++ st) w' Q) (a := (Value.ref (E.2.1 a) :: as.map (rv E.2.1)).toArray) ?_ (fun r w' h => h)
  rcases c1 with c1 | ⟨host, c1⟩
  · exact va_runV (As := as.map (rv E.2.1)) (rest := st.map (rv E.2.1)) hfix (k l E) ⟨⟨rfl, rfl, hD, hlo, mW_warm hts c2, List.mem_cons_self, hts _ c2, hts _ c3, c4, params_of c5, hts _ c1⟩, hts _ hin.1, hts _ hin.2⟩ hpre rfl (by rw [List.length_map]; exact hn) h3.1 (map_rev_app _ _ _) (lv_room (by rw [sum_cat]; exact hcat)) hd ⟨Nat.zero_le _, Nat.zero_le _⟩
  · exact va_runVN (As := as.map (rv E.2.1)) (rest := st.map (rv E.2.1)) hfix (k l E) ⟨⟨⟨rfl, rfl, hD, hlo, mW_warm hts c2, List.mem_cons_self⟩, hts _ c2, hts _ c3, c4, params_of c5, va_Nw.use (NST_tabs _ c1) (G.2.2.2.2.2.2.2.2.2.1 _ c1)⟩, hts _ hin.1, hts _ hin.2⟩ hpre rfl (by rw [List.length_map]; exact hn) h3.1 (map_rev_app _ _ _) (lv_room (by rw [sum_cat]; exact hcat)) hd ⟨Nat.zero_le _, Nat.zero_le _⟩
theorem g_ldcS {i idx : Nat} {own tx : String} (hd : decode M.2.1 pc = .ok (.ldc idx, 2)) (ho : M.1.cls = own) (hi : (own, idx, tx, i) ∈ resST) (k : Go S M (pc + 2) lv (.ref (1000 + i) :: st) w Q) : Go S M pc lv st w Q := by
  intro p l e s m args below meth c H locs ls E G h1 h2 h3
  exact va_ldcS G.1 G.2.1 (ho ▸ G.2.2.2.2.1) (G.2.2.2.2.2.2.2.2.2.2.2 _ hi) hd (k p l e s m args below meth c H locs ls E G h1 h2 h3)
theorem g_callStr {M' : Mth} {own : String} {idx n i : Nat} {as st2 : List Value} (hi9 : i < nST) (hd : decode M.2.1 pc = .ok (.invokevirtual idx, 3)) (ho : M.1.cls = own) (hc : CAt own idx M' n) (hin : Cond.instanceMethod M'.1 ∈ TBL ∧ Cond.selects M'.1.cls M'.1 M'.1 ∈ TBL) (hD : M'.2.2.2.2 + 1 ≤ M.2.2.2.2) (hcl : M'.1.cls = "java/lang/String") (hn : as.length = n) (hs : as.reverse ++ .ref (1000 + i) :: st = st2) (hcat : (st.map fun v => v.category).sum ≤ 8)
    (k : Cl S M' (.ref (1000 + i) :: as) w (fun r w' => Go S M (pc + 3) lv (r.toList ++ st) w' Q)) : Go S M pc lv st2 w Q := by
  subst hs
  intro p l e s m args below meth c H locs ls E G h1 h2 h3
  obtain ⟨c1, c2, c3, c4, c5, c6⟩ := hc
  have hts : ∀ x ∈ TBL, x.before args s = true := fun x hx => G.2.2.2.2.2.1 x (List.mem_cons_of_mem _ hx)
  have hrec : ∃ cell : Cell, H[E.2.1 (1000 + i)]? = some cell ∧ cell.vm.isStatics = false ∧ s.vm.findClass M'.1.cls = some cell.cls := by
    rw [hcl]
    exact vk_recv (N := nST) (len := lenST) (byt := bytST) (adK := fun i => E.2.1 (1000 + i)) (adV := fun i => E.2.1 (2000 + i)) G.2.2.2.2.2.2.2.2.2.2.1.1 hi9 h2
  have hpre : PreV s H M'.1.cls (E.2.1 (1000 + i)) (mP S E (.ref (1000 + i) :: as) w) (as.map (rv E.2.1)) := ⟨mP_blind E _ w, hrec, fun U hU hW => ⟨rfl, eK.moved hW (fun x g1 g2 => by rw [hU]; exact h2.2.1 x g1 g2) G.2.2.2.2.2.2.2, by rw [hU]; exact h1⟩⟩
  have hfix : CallFix p m c M.2.1 M.2.2.1 s args TBL own := ⟨G.1, G.2.1, G.2.2.2.1, ho ▸ G.2.2.2.2.1, hts⟩
  have hlo : 8 + (M'.2.2.1 + 11) + (rmD M'.2.2.2.2).locals ≤ (rmD M.2.2.2.2).locals := by show 8 + (M'.2.2.1 + 11) + M'.2.2.2.2 * 60 ≤ M.2.2.2.2 * 60; omega
  refine g_after G h2 h3 (Q' := fun r w' => Go S M (pc + 3) lv (r.toList ++ st) w' Q) (a := (Value.ref (E.2.1 (1000 + i)) :: as.map (rv E.2.1)).toArray) ?_ (fun r w' h => h)
  rcases c1 with c1 | ⟨host, c1⟩
  · exact va_runV (As := as.map (rv E.2.1)) (rest := st.map (rv E.2.1)) hfix (k l E) ⟨⟨rfl, rfl, hD, hlo, mW_warm hts c2, List.mem_cons_self, hts _ c2, hts _ c3, c4, params_of c5, hts _ c1⟩, hts _ hin.1, hts _ hin.2⟩ hpre rfl (by rw [List.length_map]; exact hn) h3.1 (map_rev_app _ _ _) (lv_room (by rw [sum_cat]; exact hcat)) hd ⟨Nat.zero_le _, Nat.zero_le _⟩
  · exact va_runVN (As := as.map (rv E.2.1)) (rest := st.map (rv E.2.1)) hfix (k l E) ⟨⟨⟨rfl, rfl, hD, hlo, mW_warm hts c2, List.mem_cons_self⟩, hts _ c2, hts _ c3, c4, params_of c5, va_Nw.use (NST_tabs _ c1) (G.2.2.2.2.2.2.2.2.2.1 _ c1)⟩, hts _ hin.1, hts _ hin.2⟩ hpre rfl (by rw [List.length_map]; exact hn) h3.1 (map_rev_app _ _ _) (lv_room (by rw [sum_cat]; exact hcat)) hd ⟨Nat.zero_le _, Nat.zero_le _⟩
theorem g_strV {i idx : Nat} (hd : decode M.2.1 pc = .ok (.getfield idx, 3)) (ho : M.1.cls = "java/lang/String") (hc : Cond.fieldLink "java/lang/String" idx "java/lang/String" "value" "[B" ∈ TBL) (hi : i < nST) (k : Go S M (pc + 3) lv (.ref (2000 + i) :: st) w Q) : Go S M pc lv (.ref (1000 + i) :: st) w Q := by
  intro p l e s m args below meth c H locs ls E G h1 h2 h3
  exact vk_getf G.1 G.2.1 (G.2.2.2.2.2.2.2.2.2.2.1.1.1 i hi).2.2.1 h2 (ho ▸ G.2.2.2.2.1) (G.2.2.2.2.2.1 _ (List.mem_cons_of_mem _ hc)) (fun _ h => h) hd (k p l e s m args below meth c H locs ls E G h1 h2 h3)
theorem g_strC {i idx : Nat} (hd : decode M.2.1 pc = .ok (.getfield idx, 3)) (ho : M.1.cls = "java/lang/String") (hc : Cond.fieldLink "java/lang/String" idx "java/lang/String" "coder" "B" ∈ TBL) (hi : i < nST) (k : Go S M (pc + 3) lv (.int 0 :: st) w Q) : Go S M pc lv (.ref (1000 + i) :: st) w Q := by
  intro p l e s m args below meth c H locs ls E G h1 h2 h3
  exact vk_getf G.1 G.2.1 (G.2.2.2.2.2.2.2.2.2.2.1.1.1 i hi).2.1 h2 (ho ▸ G.2.2.2.2.1) (G.2.2.2.2.2.1 _ (List.mem_cons_of_mem _ hc)) (fun _ h => h) hd (k p l e s m args below meth c H locs ls E G h1 h2 h3)
theorem g_strLen {i : Nat} (hd : decode M.2.1 pc = .ok (.arraylength, 1)) (hi : i < nST) (k : Go S M (pc + 1) lv (.int (Int32.ofNat (lenST.getD i 0)) :: st) w Q) : Go S M pc lv (.ref (2000 + i) :: st) w Q := by
  intro p l e s m args below meth c H locs ls E G h1 h2 h3
  exact va_tlen G.1 G.2.1 (G.2.2.2.2.2.2.2.2.2.2.1.1.1 i hi).2.2.2 h2 rfl hd (k p l e s m args below meth c H locs ls E G h1 h2 h3)
theorem g_strAt {i : Nat} {j : Int32} (hd : decode M.2.1 pc = .ok (.baload, 1)) (hi : i < nST) (hin : vp_in j (lenST.getD i 0)) (k : Go S M (pc + 1) lv (.int ((bytST.getD i []).getD j.toNatClampNeg 0) :: st) w Q) : Go S M pc lv (.int j :: .ref (2000 + i) :: st) w Q := by
  intro p l e s m args below meth c H locs ls E G h1 h2 h3
  exact va_tb G.1 G.2.1 (G.2.2.2.2.2.2.2.2.2.2.1.1.1 i hi).2.2.2 h2 hin rfl hd (k p l e s m args below meth c H locs ls E G h1 h2 h3)
theorem g_getsC {idx : Nat} (hd : decode M.2.1 pc = .ok (.getstatic idx, 3)) (ho : M.1.cls = "java/lang/String") (hc : Cond.fieldLink "java/lang/String" idx "java/lang/String" "COMPACT_STRINGS" "Z" ∈ TBL) (k : Go S M (pc + 3) lv (.int 1 :: st) w Q) : Go S M pc lv st w Q := by
  intro p l e s m args below meth c H locs ls E G h1 h2 h3
  exact va_gets G.1 G.2.1 G.2.2.2.2.2.2.2.2.2.2.1.2.1 h2 (ho ▸ G.2.2.2.2.1) (G.2.2.2.2.2.1 _ (List.mem_cons_of_mem _ hc)) (fun _ h => h) hd (k p l e s m args below meth c H locs ls E G h1 h2 h3)
theorem g_getsS {idx : Nat} (hd : decode M.2.1 pc = .ok (.getstatic idx, 3)) (ho : M.1.cls = "java/lang/String") (hc : Cond.fieldLink "java/lang/String" idx "jdk/internal/util/Preconditions" "SIOOBE_FORMATTER" "Ljava/util/function/BiFunction;" ∈ TBL) (k1 : Go S M (pc + 3) lv (.null :: st) w Q) (k2 : Go S M (pc + 3) lv (.ref 3000 :: st) w Q) : Go S M pc lv st w Q := by
  intro p l e s m args below meth c H locs ls E G h1 h2 h3
  rcases G.2.2.2.2.2.2.2.2.2.2.1.2.2 with hz | hz
  · exact va_gets G.1 G.2.1 hz h2 (ho ▸ G.2.2.2.2.1) (G.2.2.2.2.2.1 _ (List.mem_cons_of_mem _ hc)) (fun _ h => h) hd (k1 p l e s m args below meth c H locs ls E G h1 h2 h3)
  · exact va_gets G.1 G.2.1 hz h2 (ho ▸ G.2.2.2.2.1) (G.2.2.2.2.2.1 _ (List.mem_cons_of_mem _ hc)) (fun _ h => h) hd (k2 p l e s m args below meth c H locs ls E G h1 h2 h3)
theorem g_i2c {x : Int32} (hd : decode M.2.1 pc = .ok (.i2c, 1)) (k : Go S M (pc + 1) lv (.int (x.toUInt32 % 65536).toInt32 :: st) w Q) : Go S M pc lv (.int x :: st) w Q := by
  intro p l e s m args below meth c H locs ls E G h1 h2 h3
  exact lv_i2c G.1 G.2.1 hd rfl (k p l e s m args below meth c H locs ls E G h1 h2 h3)
theorem cl_mono {as : List Value} {Q' : Option Value → Wd → Prop} (hm : ∀ r w', Q r w' → Q' r w') (h : Cl S M as w Q) : Cl S M as w Q' := by
  intro l E p e ha hc hk s m args below hf happ hP hK
  obtain ⟨n, o, g1, g2, g3, ⟨r, w', e1, hq, hH, hF⟩, hx⟩ := h l E p e ha hc hk s m args below hf happ hP hK
  exact ⟨n, o, g1, g2, g3, ⟨r, w', e1, hm r w' hq, hH, hF⟩, hx⟩
theorem go_mono {Q' : Option Value → Wd → Prop} (hm : ∀ r w', Q r w' → Q' r w') (h : Go S M pc lv st w Q) : Go S M pc lv st w Q' := by
  intro p l e s m args below meth c H locs ls E G h1 h2 h3 T hT X
  obtain ⟨t, a, o, b1, b2, ⟨r, w', e1, hq, hH, hF⟩, b4⟩ := h p l e s m args below meth c H locs ls E G h1 h2 h3 T hT X
  exact ⟨t, a, o, b1, b2, ⟨r, w', e1, hm r w' hq, hH, hF⟩, b4⟩
end GO
/-- calls by what they return -/
def ClI (S : Sh) (M : Mth) (as : List Value) (w : Wd) (Q : Int32 → Wd → Prop) : Prop := Cl S M as w (fun r w' => ∃ x, r = some (.int x) ∧ Q x w')
def ClL (S : Sh) (M : Mth) (as : List Value) (w : Wd) (Q : Int64 → Wd → Prop) : Prop := Cl S M as w (fun r w' => ∃ x, r = some (.long x) ∧ Q x w')
def ClV (S : Sh) (M : Mth) (as : List Value) (w : Wd) (Q : Wd → Prop) : Prop := Cl S M as w (fun r w' => r = none ∧ Q w')
theorem ClI.mono {S : Sh} {M : Mth} {as : List Value} {w : Wd} {Q Q' : Int32 → Wd → Prop} (hm : ∀ r w', Q r w' → Q' r w') (h : ClI S M as w Q) : ClI S M as w Q' := cl_mono (fun _ w' ⟨x, e, h⟩ => ⟨x, e, hm x w' h⟩) h
theorem ClL.mono {S : Sh} {M : Mth} {as : List Value} {w : Wd} {Q Q' : Int64 → Wd → Prop} (hm : ∀ r w', Q r w' → Q' r w') (h : ClL S M as w Q) : ClL S M as w Q' := cl_mono (fun _ w' ⟨x, e, h⟩ => ⟨x, e, hm x w' h⟩) h
theorem ClV.mono {S : Sh} {M : Mth} {as : List Value} {w : Wd} {Q Q' : Wd → Prop} (hm : ∀ w', Q w' → Q' w') (h : ClV S M as w Q) : ClV S M as w Q' := cl_mono (fun _ w' ⟨e, h⟩ => ⟨e, hm w' h⟩) h

