/-! FRAME LAYER: one world of all cells, by places 0..79 at addresses ad; memory mu: ints and longs by place and index -/
abbrev Mem : Type := (Nat → Nat → Int32) × (Nat → Nat → Int64)
def pI (μ : Mem) (p k : Nat) (v : Int32) : Mem := (fun p' k' => if p' = p then (if k' = k then v else μ.1 p k') else μ.1 p' k', μ.2)
def pL (μ : Mem) (p k : Nat) (v : Int64) : Mem := (μ.1, fun p' k' => if p' = p then (if k' = k then v else μ.2 p k') else μ.2 p' k')
def cpI (μ : Mem) (p q n : Nat) : Mem := (fun p' k => if p' = q then (if k < n then μ.1 p k else μ.1 q k) else μ.1 p' k, μ.2)
def sh_tab : List ((Nat × Nat) ⊕ (Nat × List Nat)) := [.inr (9, [3, 6, 13, 0, 28, 0, 37, 49, 51, 53, 59, 61, 63]), .inr (1, [0, 0, 4, 5]), .inl (0, 3), .inl (0, 6), .inr (4, [7, 8, 9, 10, 11, 12, 0]), .inl (0, 3), .inl (0, 6), .inl (0, 4), .inl (0, 6), .inl (0, 6), .inl (0, 8), .inl (4, 2), .inr (4, [15, 16, 17, 18, 19, 20, 0]), .inl (0, 3), .inl (0, 6), .inl (0, 4), .inl (0, 6), .inl (0, 6), .inl (0, 8), .inr (4, [22, 23, 24, 25, 26, 27, 0]), .inl (0, 3), .inl (0, 6), .inl (0, 4), .inl (0, 6), .inl (0, 6), .inl (0, 8), .inl (5, 4), .inr (6, [0, 0, 30]), .inl (0, 40), .inr (6, [0, 0, 32]), .inl (0, 40), .inr (6, [0, 0, 34]), .inl (0, 40), .inr (6, [0, 0, 36]), .inl (0, 40), .inr (5, [38, 0, 0, 0, 0, 39, 42, 0, 0, 0, 0, 0, 0, 0, 0]), .inl (1, 320), .inr (1, [0, 0, 40, 41]), .inl (0, 3), .inl (0, 6), .inr (4, [43, 44, 45, 46, 47, 48, 0]), .inl (0, 3), .inl (0, 6), .inl (0, 4), .inl (0, 6), .inl (0, 6), .inl (0, 8), .inr (7, [50, 0, 0, 0]), .inl (0, 6), .inr (2, [52, 0]), .inl (0, 6), .inr (3, [54, 0, 0, 0, 0, 55, 56, 57, 58]), .inl (0, 6), .inl (0, 6), .inl (0, 7), .inl (0, 6), .inl (3, 384), .inr (0, [60, 0]), .inl (0, 3), .inr (8, [62, 1]), .inl (3, 4), .inl (0, 3), .inr (10, [65, 66, 0, 0, 0, 67, 68, 69, 0, 0, 70, 71, 0, 0, 0, 0, 0, 0, 72, 0, 0, 0, 0, 0, 0, 0, 0, 73, 0, 74, 75, 76, 0, 0, 77, 78, 79, 80, 0, 81]), .inl (0, 162), .inl (2, 2), .inl (0, 3), .inl (0, 6), .inl (0, 54), .inl (0, 3), .inl (0, 6), .inl (0, 320), .inl (0, 6), .inl (0, 6), .inl (2, 162), .inl (2, 28672), .inl (0, 3), .inl (0, 4), .inl (0, 4), .inl (0, 160), .inl (0, 8)]
def shp (p : Nat) : (Nat × Nat) ⊕ (Nat × List Nat) := sh_tab.getD p (.inl (0, 0))
def nPl : Nat := 80
def fvs (ad : Nat → Nat) (μ : Mem) (p : Nat) : Nat → List Nat → List Value
  | _, [] => []
  | k, c :: t => (match c with | 0 => Value.int (μ.1 p k) | 1 => .long (μ.2 p k) | r + 2 => .ref (ad r)) :: fvs ad μ p (k + 1) t
def arr_ (ad : Nat → Nat) (μ : Mem) (p t : Nat) : (Nat → Int32) ⊕ (Nat → Int64) ⊕ (Nat → UInt32) ⊕ (Nat → UInt64) ⊕ (Nat → Option Nat) :=
  if t = 3 then .inr (.inl (μ.2 p)) else if t = 4 then .inr (.inr (.inr (.inr (fun i => some (ad (12 + 7 * i)))))) else if t = 5 then .inr (.inr (.inr (.inr (fun i => some (ad (27 + 2 * i)))))) else .inl (μ.1 p)
def cell (ad : Nat → Nat) (cy : Nat → ClassId) (μ : Mem) (p : Nat) : va_E := match shp p with
  | .inl (t, n) => .inl (cy t, n, arr_ ad μ p t)
  | .inr (ci, fs) => .inr (ci, fvs ad μ p 0 fs)
def wd (ad : Nat → Nat) (cy : Nat → ClassId) (μ : Mem) : va_W := (List.range nPl).map (fun p => (ad p, cell ad cy μ p))
def tysOf (cy : Nat → ClassId) : List (ClassId × FieldType) := [(cy 0, .int), (cy 1, .byte), (cy 2, .boolean), (cy 3, .long), (cy 4, .object "ThreeAwake$Post"), (cy 5, .object "ThreeAwake$Sheet")]
theorem wd_at {ad : Nat → Nat} {cy : Nat → ClassId} {μ : Mem} {p : Nat} (h : p < nPl) : (wd ad cy μ)[p]? = some (ad p, cell ad cy μ p) := by
  simp [wd, h]
theorem wd_inv {ad : Nat → Nat} {cy : Nat → ClassId} {μ : Mem} {k : Nat} {q : Nat × va_E} (h : (wd ad cy μ)[k]? = some q) : k < nPl ∧ q = (ad k, cell ad cy μ k) := by
  have hk : k < nPl := by
    have := (List.getElem?_eq_some_iff.mp h).1
    simpa [wd] using this
  rw [wd_at hk] at h
  exact ⟨hk, (Option.some.inj h).symm⟩
theorem wd_set {ad : Nat → Nat} {cy : Nat → ClassId} {μ μ' : Mem} {p : Nat} {e : va_E} (hp : p < nPl) (he : e = cell ad cy μ' p) (ho : ∀ q, q ≠ p → cell ad cy μ q = cell ad cy μ' q) : (wd ad cy μ).set p (ad p, e) = wd ad cy μ' := by
  apply List.ext_getElem?
  intro k
  by_cases hk : k < nPl
  · by_cases hkp : k = p
    · subst hkp
      rw [wd_at hk, List.getElem?_set_self (by simpa [wd] using hk), he]
    · rw [List.getElem?_set_ne (fun h => hkp h.symm), wd_at hk, wd_at hk, ho k hkp]
  · rw [List.getElem?_eq_none (by simpa [wd] using hk), List.getElem?_eq_none (by simpa [wd] using hk)]
theorem fvs_cong {ad : Nat → Nat} {μ μ' : Mem} {p : Nat} (h1 : ∀ k, μ.1 p k = μ'.1 p k) (h2 : ∀ k, μ.2 p k = μ'.2 p k) : ∀ (fs : List Nat) (k : Nat), fvs ad μ p k fs = fvs ad μ' p k fs := by
  intro fs
  induction fs with
  | nil => intro k; rfl
  | cons c t ih =>
    intro k
    simp only [fvs, ih]
    congr 1
    split
    · rw [h1]
    · rw [h2]
    · rfl
theorem cell_cong {ad : Nat → Nat} {cy : Nat → ClassId} {μ μ' : Mem} {p : Nat} (h1 : ∀ k, μ.1 p k = μ'.1 p k) (h2 : ∀ k, μ.2 p k = μ'.2 p k) : cell ad cy μ p = cell ad cy μ' p := by
  unfold cell
  split
  · have e1 : μ.1 p = μ'.1 p := funext h1
    have e2 : μ.2 p = μ'.2 p := funext h2
    simp only [arr_, e1, e2]
  · rw [fvs_cong h1 h2]
def AD (ad : Nat → Nat) : Nat → Prop := fun q => ∃ p, p < nPl ∧ ad p = q
def inj_ (ad : Nat → Nat) : Prop := ∀ i j, i < nPl → j < nPl → ad i = ad j → i = j
theorem wd_D {ad : Nat → Nat} {cy : Nat → ClassId} {μ : Mem} {A : Nat → Prop} (hi : inj_ ad) (hA : ∀ p, p < nPl → A (ad p)) : va_D A (wd ad cy μ) := by
  refine ⟨fun i j p q hp hq h => ?_, fun k q hk => ?_⟩
  · obtain ⟨h1, rfl⟩ := wd_inv hp
    obtain ⟨h2, rfl⟩ := wd_inv hq
    exact hi i j h1 h2 h
  · obtain ⟨h1, rfl⟩ := wd_inv hk
    exact hA k h1
def powT : List Int32 := [1, 3, 9, 27]
def shuT : List Int32 := [0, 1, 2, 4, 5, 6, 8, 9, 10, 16, 17, 18, 20, 21, 22, 24, 25, 26, 32, 33, 34, 36, 37, 38, 40, 41, 42]
def powF (j : Nat) : Int32 := powT.getD j 0
def shuF (j : Nat) : Int32 := shuT.getD j 0
def strL : List Nat := [6, 8, 4, 5, 5, 3, 5, 5, 7, 7]
def strY : List (List Int32) := [[115, 105, 115, 116, 101, 114], [113, 117, 97, 114, 116, 101, 114, 115], [110, 101, 101, 100], [115, 116, 111, 114, 109], [119, 97, 116, 99, 104], [98, 101, 100], [112, 108, 97, 105, 110], [103, 108, 97, 115, 115], [118, 105, 115, 105, 116, 111, 114], [100, 114, 101, 97, 109, 101, 114]]
def strK : List Nat := [88, 100, 105, 110, 115, 120, 162, 164, 166, 168]
def strT : List String := ["sister", "quarters", "need", "storm", "watch", "bed", "plain", "glass", "visitor", "dreamer"]
def strB (i j : Nat) : Int32 := (strY.getD i []).getD j 0
/-- what lies outside the world: the two static rows (places 80, 81), the String constants (82..91) and their bytes (92..101), links of nest mates -/
def ST (ad : Nat → Nat) (A : Nat → Prop) (U : State) (H : Heap) : Prop :=
  va_Z "ThreeAwake" "POWER" "[I" (.ref (ad 80)) A U H ∧ va_T .int (ad 80) 4 (fun j => .int (powF j)) A U H ∧ va_Z "ThreeAwake" "SHUT" "[I" (.ref (ad 81)) A U H ∧ va_T .int (ad 81) 27 (fun j => .int (shuF j)) A U H ∧ vk_S 10 strL strY (fun i => ad (82 + i)) (fun i => ad (92 + i)) A U H ∧ (∀ i, i < 10 → vk_R RX5 (strK.getD i 0) (strT.getD i "") (ad (82 + i)) U) ∧ va_Z "java/lang/String" "COMPACT_STRINGS" "Z" (.int 1) A U H ∧ (va_Z "jdk/internal/util/Preconditions" "SIOOBE_FORMATTER" "Ljava/util/function/BiFunction;" .null A U H ∨ va_Z "jdk/internal/util/Preconditions" "SIOOBE_FORMATTER" "Ljava/util/function/BiFunction;" (.ref (ad 102)) A U H) ∧ va_Nw (.fieldLinkNest RX0 19 "ThreeAwake" "SHUT" "[I" "ThreeAwake") U ∧ va_Nw (.fieldLinkNest RX1 41 "ThreeAwake" "POWER" "[I" "ThreeAwake") U ∧ va_Nw (.fieldLinkNest RX3 56 "ThreeAwake" "SHUT" "[I" "ThreeAwake") U ∧ va_Nw (.fieldLinkNest RX7 37 "ThreeAwake" "SHUT" "[I" "ThreeAwake") U
theorem ST.warm {ad : Nat → Nat} {A : Nat → Prop} {s U : State} {H : Heap} (hW : s.WarmedH U.vm) (h : ST ad A s H) : ST ad A U H := by
  obtain ⟨h1, h2, h3, h4, h5, h6, h7, h8, h9, h10, h11, h12⟩ := h
  exact ⟨h1.moved hW.alike, h2.moved hW.alike, h3.moved hW.alike, h4.moved hW.alike, h5.moved hW.alike, fun i hi => (h6 i hi).warm hW, h7.moved hW.alike, h8.elim (fun h => Or.inl (h.moved hW.alike)) (fun h => Or.inr (h.moved hW.alike)), h9.warmF hW, h10.warmF hW, h11.warmF hW, h12.warmF hW⟩
theorem ST.same {ad : Nat → Nat} {A : Nat → Prop} {u U : State} {H : Heap} (hv : u.vm = U.vm) (h : ST ad A u H) : ST ad A U H := by
  have ha : u.vm.Alike U.vm := by rw [← hv]; exact Vm.Alike.refl u.vm
  obtain ⟨h1, h2, h3, h4, h5, h6, h7, h8, h9, h10, h11, h12⟩ := h
  exact ⟨h1.moved ha, h2.moved ha, h3.moved ha, h4.moved ha, h5.moved ha, fun i hi => (h6 i hi).same hv.symm, h7.moved ha, h8.elim (fun h => Or.inl (h.moved ha)) (fun h => Or.inr (h.moved ha)), h9.same rfl hv, h10.same rfl hv, h11.same rfl hv, h12.same rfl hv⟩
theorem ST.kept {ad : Nat → Nat} {A : Nat → Prop} {U : State} {H H1 : Heap} (h : ST ad A U H) (hq : ∀ a : Nat, a < H.size → ¬ A a → H1[a]? = H[a]?) : ST ad A U H1 := by
  obtain ⟨h1, h2, h3, h4, h5, h6, h7, h8, h9, h10, h11, h12⟩ := h
  exact ⟨h1.kept hq, h2.kept hq, h3.kept hq, h4.kept hq, h5.kept hq, h6, h7.kept hq, h8.elim (fun h => Or.inl (h.kept hq)) (fun h => Or.inr (h.kept hq)), h9, h10, h11, h12⟩
theorem ST.narrow {ad : Nat → Nat} {A B : Nat → Prop} {U : State} {H : Heap} (h : ST ad A U H) (hAB : ∀ q, B q → A q) : ST ad B U H := by
  obtain ⟨h1, h2, h3, h4, h5, h6, h7, h8, h9, h10, h11, h12⟩ := h
  exact ⟨h1.narrow hAB, h2.narrow hAB, h3.narrow hAB, h4.narrow hAB, h5.narrow hAB, h6, h7.narrow hAB, h8.elim (fun h => Or.inl (h.narrow hAB)) (fun h => Or.inr (h.narrow hAB)), h9, h10, h11, h12⟩
/-! values: a reference is a place -/
def cv (ad : Nat → Nat) : Value → Value := fun v => match v with | .ref a => .ref (ad a) | w => w
def cvs (ad : Nat → Nat) (l : List Value) : List Value := l.map (cv ad)
def cvl (ad : Nat → Nat) (l : List (Nat × Value)) : List (Nat × Value) := l.map (fun q => (q.1, cv ad q.2))
theorem cv_cat (ad : Nat → Nat) (v : Value) : (cv ad v).category = v.category := by cases v <;> rfl
def lkv : List (Nat × Value) → Nat → Option Value
  | [], _ => none
  | q :: t, i => if q.1 = i then some q.2 else lkv t i
theorem lkv_mem {i : Nat} {v : Value} : ∀ {l : List (Nat × Value)}, lkv l i = some v → (i, v) ∈ l
  | [], h => by simp [lkv] at h
  | q :: t, h => by
    unfold lkv at h
    split at h
    · rename_i hq
      obtain rfl := Option.some.inj h
      subst hq
      exact List.mem_cons_self
    · exact List.mem_cons_of_mem _ (lkv_mem h)
def st1 (l : List (Nat × Value)) (i : Nat) (v : Value) : List (Nat × Value) := (i, v) :: l.filter (fun q => !(q.1 == i) && !(q.1 + 1 == i && q.2.category == 2))
def st2 (l : List (Nat × Value)) (i : Nat) (v : Value) : List (Nat × Value) := (i, v) :: l.filter (fun q => !(q.1 == i) && (!(q.1 == i + 1) && !(q.1 + 1 == i && q.2.category == 2)))
theorem cvl_st1 (ad : Nat → Nat) (l : List (Nat × Value)) (i : Nat) (v : Value) : (i, cv ad v) :: (cvl ad l).filter (fun q => !(q.1 == i) && !(q.1 + 1 == i && q.2.category == 2)) = cvl ad (st1 l i v) := by
  simp only [cvl, st1, List.map_cons, List.filter_map]
  congr 2
  apply List.filter_congr
  intro q _
  simp [cv_cat]
theorem cvl_st2 (ad : Nat → Nat) (l : List (Nat × Value)) (i : Nat) (v : Value) : (i, cv ad v) :: (cvl ad l).filter (fun q => !(q.1 == i) && (!(q.1 == i + 1) && !(q.1 + 1 == i && q.2.category == 2))) = cvl ad (st2 l i v) := by
  simp only [cvl, st2, List.map_cons, List.filter_map]
  congr 2
  apply List.filter_congr
  intro q _
  simp [cv_cat]
theorem cvl_mem {ad : Nat → Nat} {l : List (Nat × Value)} {i : Nat} {v : Value} (h : (i, v) ∈ l) : (i, cv ad v) ∈ cvl ad l := List.mem_map.mpr ⟨(i, v), h, rfl⟩
theorem cvl_at {ad : Nat → Nat} {la : Array Slot} {nL : Nat} {l : List (Nat × Value)} (h : lv_has la nL (cvl ad l)) {i : Nat} {v : Value} (hk : lkv l i = some v) : la[i]? = some (.val (cv ad v)) := h.2.2 (i, cv ad v) (cvl_mem (lkv_mem hk))
def lsub (l : List (Nat × Value)) : List (Nat × Value) → Prop
  | [] => True
  | q :: t => lkv l q.1 = some q.2 ∧ lsub l t
theorem lsub_mem {l : List (Nat × Value)} : ∀ {l' : List (Nat × Value)}, lsub l l' → ∀ q ∈ l', q ∈ l
  | [], _, q, h => by cases h
  | a :: t, hs, q, h => by
    rcases List.mem_cons.mp h with rfl | h
    · exact lkv_mem hs.1
    · exact lsub_mem hs.2 q h
/-! the context of a walk, and the walk -/
def CX (p : Program) (s : State) (m : MethodId) (args : Array Value) (meth : Method) (c : Code) (cc : ByteArray) (nL : Nat) (own : String) (ret : Option FieldType) (D : va_G) (cy : Nat → ClassId) (ad : Nat → Nat) (A : Nat → Prop) : Prop :=
  p.tables.exec = Jvm.exec ∧ c.code = cc ∧ c.maxLocals = nL ∧ s.vm.findClass own = some m.cls ∧ (∀ w ∈ wsL_law, w.before args s = true) ∧ va_K D vwCl (tysOf cy) s ∧ meth.sig.returnType = ret ∧ meth.locks = false ∧ inj_ ad ∧ (∀ q, q < nPl → A (ad q)) ∧ ST ad A s s.heap
def WA (p : Program) (l : Launch) (e : Env) (R : Room) (s : State) (m : MethodId) (args : Array Value) (below : List Frame) (meth : Method) (c : Code) (nL : Nat) (D : va_G) (cy : Nat → ClassId) (ad : Nat → Nat) (A : Nat → Prop) (kc ks : Nat) (Z : State → Prop) (μ : Mem) (ls : List (Nat × Value)) (pc : Nat) (st : List Value) : Prop :=
  ∀ (H : Heap) (locs : List Loc) (la : Array Slot), va_P D vwCl (wd ad cy μ) H → va_S A s.heap H locs → lv_has la nL (cvl ad ls) → W p l e R s m args below meth c H locs kc ks Z (F0 m pc la (cvs ad st))
def ZZ (below : List Frame) (args : Array Value) (s : State) (D : va_G) (cy : Nat → ClassId) (ad : Nat → Nat) (A : Nat → Prop) (kc ks : Nat) (r : Option Value) (μ : Mem) : State → Prop :=
  MQ below (fun _ st oc t => (oc = .returned (r.map (cv ad)) ∧ va_P D vwCl (wd ad cy μ) t.heap) ∧ va_F A st t) args s kc ks A
def rmD (d : Nat) : Room := { frames := d + 1, cells := 0, slots := 0, locals := 60 * (d + 1) }
def WLD (D : va_G) (cy : Nat → ClassId) (ad : Nat → Nat) (μ : Mem) (U : State) : Prop := va_P D vwCl (wd ad cy μ) U.heap ∧ va_K D vwCl (tysOf cy) U ∧ inj_ ad ∧ ST ad (AD ad) U U.heap
/-- the method y at launch: from memory μ with arguments vs it answers r and leaves μ' -/
def HT (d : Nat) (y : MethodName) (b : ByteArray) (nL : Nat) (ret : Option FieldType) (vs : List Value) (μ : Mem) (r : Option Value) (μ' : Mem) : Prop :=
  ∀ (l : Launch) (D : va_G) (cy : Nat → ClassId) (ad : Nat → Nat), Met l y (Cond.code y b nL ret :: wsL_law) (rmD d) (va_Pc (cvs ad vs) (WLD D cy ad μ)) (fun _ st oc t => (oc = .returned (r.map (cv ad)) ∧ va_P D vwCl (wd ad cy μ') t.heap) ∧ va_F (AD ad) st t) 0 0 (AD ad)
def las : Nat → List Value → List (Nat × Value)
  | _, [] => []
  | i, v :: t => (i, v) :: las (i + v.category) t
