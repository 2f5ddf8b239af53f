theorem klL_8 : Cond.classLink RL 8 RX11 ∈ TB := in_tbk in_t1 27 rfl rfl
theorem ka_11 : Cond.instantiable RX11 14 ∈ TB := in_tbk in_t1 28 rfl rfl
theorem km_X11_init : Cond.methodLink RL 25 yX11_init ∈ TB := in_tbk in_t1 29 rfl rfl
theorem klL_26 : Cond.classLink RL 26 RX12 ∈ TB := in_tbk in_t5 219 rfl rfl
theorem ka_12 : Cond.instantiable RX12 57 ∈ TB := in_tbk in_t5 220 rfl rfl
theorem km_X12_init : Cond.methodLink RL 28 yX12_init ∈ TB := in_tbk in_t5 221 rfl rfl
theorem XB_in : ∀ w ∈ XB, w ∈ lw_tbl := by decide +kernel
theorem kS_0 : Cond.stringRef RX12 201 "abcdefgh" ∈ lw_tbl := in_t6 _ (List.mem_of_getElem? (i := 197) rfl)
theorem kS_1 : Cond.stringRef RX12 227 "urdls" ∈ lw_tbl := in_t7 _ (List.mem_of_getElem? (i := 31) rfl)
theorem kS_2 : Cond.stringRef RX12 271 "kslhnt" ∈ lw_tbl := in_t7 _ (List.mem_of_getElem? (i := 85) rfl)
theorem kS_3 : Cond.stringRef RX12 276 "<>=" ∈ lw_tbl := in_t7 _ (List.mem_of_getElem? (i := 86) rfl)
theorem kS_4 : Cond.stringRef RX12 278 "+-" ∈ lw_tbl := in_t7 _ (List.mem_of_getElem? (i := 87) rfl)
theorem kS_5 : Cond.stringRef RX12 280 "*/" ∈ lw_tbl := in_t7 _ (List.mem_of_getElem? (i := 88) rfl)
theorem kS_6 : Cond.stringRef RX12 394 "hpobc" ∈ lw_tbl := in_t8 _ (List.mem_of_getElem? (i := 9) rfl)
theorem kLs_C : Cond.laysStatic "java/lang/String" "COMPACT_STRINGS" "Z" ∈ lw_tbl := in_t6 _ (List.mem_of_getElem? (i := 215) rfl)
theorem kIn_C : Cond.initialized "java/lang/String" ∈ lw_tbl := in_t1 _ (List.mem_of_getElem? (i := 15) rfl)
theorem kLs_P : Cond.laysStatic "jdk/internal/util/Preconditions" "SIOOBE_FORMATTER" "Ljava/util/function/BiFunction;" ∈ lw_tbl := in_t6 _ (List.mem_of_getElem? (i := 231) rfl)
theorem kIn_P : Cond.initialized "jdk/internal/util/Preconditions" ∈ lw_tbl := in_t1 _ (List.mem_of_getElem? (i := 17) rfl)
theorem kLs_U : Cond.laysStatic "java/lang/Throwable" "UNASSIGNED_STACK" "[Ljava/lang/StackTraceElement;" ∈ lw_tbl := in_t5 _ (List.mem_of_getElem? (i := 156) rfl)
theorem kIn_U : Cond.initialized "java/lang/Throwable" ∈ lw_tbl := in_t1 _ (List.mem_of_getElem? (i := 19) rfl)
theorem kLs_N : Cond.laysStatic "java/lang/Throwable" "SUPPRESSED_SENTINEL" "Ljava/util/List;" ∈ lw_tbl := in_t5 _ (List.mem_of_getElem? (i := 158) rfl)
theorem kIn_N : Cond.initialized "java/lang/Throwable" ∈ lw_tbl := in_t1 _ (List.mem_of_getElem? (i := 19) rfl)
def tmS (j : Nat) : Term := Term.string "PanesOfTheDeadModel" (idxS.getD j 0)
def gvL : List Cond := (List.range 7).map (fun i => Cond.exactly (tmS i) "java/lang/String") ++ (List.range 7).map (fun i => Cond.eq (.field (tmS i) "java/lang/String" "coder" "B") (.int 0)) ++ (List.range 7).map (fun i => Cond.arrayOf (.field (tmS i) "java/lang/String" "value" "[B") .byte) ++ (List.range 7).map (fun i => Cond.eq (.length (.field (tmS i) "java/lang/String" "value" "[B")) (.int (Int32.ofNat (lenS.getD i 0))))
def gvE : List Cond := (List.range 7).flatMap (fun i => (List.range (lenS.getD i 0)).map (fun j => Cond.eq (.elem (.field (tmS i) "java/lang/String" "value" "[B") (.int (Int32.ofNat j))) (.int ((bytS.getD i []).getD j 0))))
def gvN (l : List Cond) : Bool := (List.range 7).all (fun i => (List.range 7).all (fun j => i == j || l.contains (Cond.not (Cond.eq (tmS i) (tmS j))) || l.contains (Cond.not (Cond.eq (tmS j) (tmS i)))))
def nowF : Nat → Int32 := (upd (upd (upd (upd (upd (upd (upd (upd (fun _ => 0) ((16 + 0) : Int32).toNatClampNeg (-1)) ((16 + 1) : Int32).toNatClampNeg (-1)) ((16 + 2) : Int32).toNatClampNeg (-1)) ((16 + 3) : Int32).toNatClampNeg (-1)) ((16 + 4) : Int32).toNatClampNeg (-1)) ((16 + 5) : Int32).toNatClampNeg (-1)) ((16 + 6) : Int32).toNatClampNeg (-1)) ((16 + 7) : Int32).toNatClampNeg (-1))
def u0 : US := (fun i k => if i = 3 then (if k = 0 then 1 else if k = 1 then 1 else 0) else if i = 47 then (if k = 3 then 1 else if k = 4 then 1 else 0) else 0, fun i => if i = 55 then nowF else fun _ => 0, fun _ _ => 0, fun k => if k = 0 then 13 else 14)
def adF (as : List Nat) (adK adV : Nat → Nat) (t b : Nat) (i : Nat) : Nat := if i < 86 then as.getD i 0 else if i < 110 then adK (i - 100) else if i < 120 then adV (i - 110) else if i = 120 then t else b
