/-! the calls that change the state, as Both -/
section BOPS
variable {A : Ab}
theorem bo_target (x s v w : Int32) (hw : w = 0 ∨ w = 1) (hA : okA A) : Both A mX5_target [.ref 0, .int x, .int s, .int v, .int w] mX6_target [.ref 64, .int x, .int s, .int v, .int w] := ⟨(opTarget A x s v w).1, (opTarget A x s v w).2, ok_target hw hA, fun _ _ h k => ct_X5_target hw hA h k, fun _ _ h k => ct_X6_target hw hA h k⟩
theorem bo_drop (x : Int32) (hA : okA A) : Both A mX5_drop [.ref 0, .int x] mX6_drop [.ref 64, .int x] := ⟨(opDrop A x).1, (opDrop A x).2, ok_drop hA, fun _ _ h k => ct_X5_drop hA h k, fun _ _ h k => ct_X6_drop hA h k⟩
theorem bo_go (hA : okA A) : Both A mX5_go [.ref 0] mX6_go [.ref 64] := ⟨(opGo A ).1, (opGo A ).2, ok_go hA, fun _ _ h k => ct_X5_go hA h k, fun _ _ h k => ct_X6_go hA h k⟩
theorem bo_spacings (a b c e : Int32) (hA : okA A) : Both A mX5_spacings [.ref 0, .int a, .int b, .int c, .int e] mX6_spacings [.ref 64, .int a, .int b, .int c, .int e] := ⟨(opSpac A a b c e).1, (opSpac A a b c e).2, ok_spac hA, fun _ _ h k => ct_X5_spacings hA h k, fun _ _ h k => ct_X6_spacings hA h k⟩
theorem bo_set (x y : Int32) (hA : okA A) : Both A mX5_set [.ref 0, .int x, .int y] mX6_set [.ref 64, .int x, .int y] := ⟨(opSet A x y).1, (opSet A x y).2, ok_set hA, fun _ _ h k => ct_X5_set hA h k, fun _ _ h k => ct_X6_set hA h k⟩
theorem bo_append (x : Int32) (hA : okA A) : Both A mX5_append [.ref 0, .int x] mX6_append [.ref 64, .int x] := ⟨(opAppend A x).1, (opAppend A x).2, ok_append hA, fun _ _ h k => ct_X5_append hA h k, fun _ _ h k => ct_X6_append hA h k⟩
theorem bo_clear (hA : okA A) : Both A mX5_clear [.ref 0] mX6_clear [.ref 64] := ⟨(opClear A ).1, (opClear A ).2, ok_clear hA, fun _ _ h k => ct_X5_clear hA h k, fun _ _ h k => ct_X6_clear h k⟩
theorem bo_undo (hA : okA A) : Both A mX5_undo [.ref 0] mX6_undo [.ref 64] := ⟨(opUndo A ).1, (opUndo A ).2, ok_undo hA, fun _ _ h k => ct_X5_undo hA h k, fun _ _ h k => ct_X6_undo hA h k⟩
theorem bo_save (hA : okA A) : Both A mX5_save [.ref 0] mX6_save [.ref 64] := ⟨(opSave A ).1, (opSave A ).2, ok_save hA, fun _ _ h k => ct_X5_save hA h k, fun _ _ h k => ct_X6_save hA h k⟩
theorem bo_restore (hA : okA A) : Both A mX5_restore [.ref 0] mX6_restore [.ref 64] := ⟨(opRestore A ).1, (opRestore A ).2, ok_restore hA, fun _ _ h k => ct_X5_restore hA h k, fun _ _ h k => ct_X6_restore hA h k⟩
theorem bo_fits (hA : okA A) (x v w : Int32) : Both A mX5_fits [.ref 0, .int x, .int v, .int w] mX6_fits [.ref 64, .int x, .int v, .int w] := both_lk hA (lk_fits hA x v w)
theorem bo_targetOf (hA : okA A) (x w : Int32) : Both A mX5_targetOf [.ref 0, .int x, .int w] mX6_targetOf [.ref 64, .int x, .int w] := both_lk hA (lk_targetOf hA x w)
theorem bo_ghost (hA : okA A) (x w : Int32) : Both A mX5_ghost [.ref 0, .int x, .int w] mX6_ghost [.ref 64, .int x, .int w] := both_lk hA (lk_ghost hA x w)
theorem bo_told (hA : okA A) (x w : Int32) : Both A mX5_told [.ref 0, .int x, .int w] mX6_told [.ref 64, .int x, .int w] := both_lk hA (lk_told hA x w)
theorem bo_echo (hA : okA A) (x g w : Int32) : Both A mX5_echo [.ref 0, .int x, .int g, .int w] mX6_echo [.ref 64, .int x, .int g, .int w] := both_lk hA (lk_echo hA x g w)
theorem bo_alike (hA : okA A) (x : Int32) : Both A mX5_alike [.ref 0, .int x] mX6_alike [.ref 64, .int x] := both_lk hA (lk_alike hA x)
theorem bo_unfold (hA : okA A) (x y w : Int32) : Both A mX5_unfold [.ref 0, .int x, .int y, .int w] mX6_unfold [.ref 64, .int x, .int y, .int w] := both_lk hA (lk_unfold hA x y w)
theorem bo_sign (hA : okA A) (x : Int32) : Both A mX5_sign [.ref 0, .int x] mX6_sign [.ref 64, .int x] := both_lk hA (lk_sign hA x)
theorem bo_count (hA : okA A) (x : Int32) : Both A mX5_count [.ref 0, .int x] mX6_count [.ref 64, .int x] := both_lk hA (lk_count hA x)
end BOPS
