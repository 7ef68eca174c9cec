/-! THE ABSTRACT STATE: scalars, locks (0 start, 1 time), clients (0 phase, 1 start, 2 last, 3 ticket, 4 rows done), lists (2c: data, 2c + 1: writes), own writes, primaries, entries made -/
abbrev AS : Type := (Nat → Int32) × (Nat → Nat → Int32) × (Nat → Nat → Int32) × (Nat → List (Int32 × Int32)) × (Nat → List (Nat × Int32)) × (Nat → Nat) × Nat
def zsc (A : AS) : Nat → Int32 := A.1
def zlk (A : AS) : Nat → Nat → Int32 := A.2.1
def ztf (A : AS) : Nat → Nat → Int32 := A.2.2.1
def zl (A : AS) : Nat → List (Int32 × Int32) := A.2.2.2.1
def zow (A : AS) : Nat → List (Nat × Int32) := A.2.2.2.2.1
def zlp (A : AS) : Nat → Nat := A.2.2.2.2.2.1
def zne (A : AS) : Nat := A.2.2.2.2.2.2
def usc (A : AS) (j : Nat) (v : Int32) : AS := (fun i => if i = j then v else zsc A i, zlk A, ztf A, zl A, zow A, zlp A, zne A)
def ulk (A : AS) (j c : Nat) (v : Int32) : AS := (zsc A, up2 (zlk A) j c v, ztf A, zl A, zow A, zlp A, zne A)
def utf (A : AS) (j c : Nat) (v : Int32) : AS := (zsc A, zlk A, up2 (ztf A) j c v, zl A, zow A, zlp A, zne A)
def ul (A : AS) (j : Nat) (v : List (Int32 × Int32)) : AS := (zsc A, zlk A, ztf A, fun i => if i = j then v else zl A i, zow A, zlp A, zne A)
def uow (A : AS) (j : Nat) (v : List (Nat × Int32)) : AS := (zsc A, zlk A, ztf A, zl A, fun i => if i = j then v else zow A i, zlp A, zne A)
def ulp (A : AS) (j : Nat) (v : Nat) : AS := (zsc A, zlk A, ztf A, zl A, zow A, fun i => if i = j then v else zlp A i, zne A)
def une (A : AS) (v : Nat) : AS := (zsc A, zlk A, ztf A, zl A, zow A, zlp A, v)
theorem zsc_usc (A : AS) (j : Nat) (v : Int32) (x : Nat) : zsc (usc A j v) x = if x = j then v else zsc A x := rfl
theorem zlk_usc (A : AS) (j : Nat) (v : Int32) (x y : Nat) : zlk (usc A j v) x y = zlk A x y := rfl
theorem ztf_usc (A : AS) (j : Nat) (v : Int32) (x y : Nat) : ztf (usc A j v) x y = ztf A x y := rfl
theorem zl_usc (A : AS) (j : Nat) (v : Int32) (x : Nat) : zl (usc A j v) x = zl A x := rfl
theorem zow_usc (A : AS) (j : Nat) (v : Int32) (x : Nat) : zow (usc A j v) x = zow A x := rfl
theorem zlp_usc (A : AS) (j : Nat) (v : Int32) (x : Nat) : zlp (usc A j v) x = zlp A x := rfl
theorem zne_usc (A : AS) (j : Nat) (v : Int32) : zne (usc A j v)  = zne A  := rfl
theorem zsc_ulk (A : AS) (j c : Nat) (v : Int32) (x : Nat) : zsc (ulk A j c v) x = zsc A x := rfl
theorem zlk_ulk (A : AS) (j c : Nat) (v : Int32) (x y : Nat) : zlk (ulk A j c v) x y = if x = j ∧ y = c then v else zlk A x y := rfl
theorem ztf_ulk (A : AS) (j c : Nat) (v : Int32) (x y : Nat) : ztf (ulk A j c v) x y = ztf A x y := rfl
theorem zl_ulk (A : AS) (j c : Nat) (v : Int32) (x : Nat) : zl (ulk A j c v) x = zl A x := rfl
theorem zow_ulk (A : AS) (j c : Nat) (v : Int32) (x : Nat) : zow (ulk A j c v) x = zow A x := rfl
theorem zlp_ulk (A : AS) (j c : Nat) (v : Int32) (x : Nat) : zlp (ulk A j c v) x = zlp A x := rfl
theorem zne_ulk (A : AS) (j c : Nat) (v : Int32) : zne (ulk A j c v)  = zne A  := rfl
theorem zsc_utf (A : AS) (j c : Nat) (v : Int32) (x : Nat) : zsc (utf A j c v) x = zsc A x := rfl
theorem zlk_utf (A : AS) (j c : Nat) (v : Int32) (x y : Nat) : zlk (utf A j c v) x y = zlk A x y := rfl
theorem ztf_utf (A : AS) (j c : Nat) (v : Int32) (x y : Nat) : ztf (utf A j c v) x y = if x = j ∧ y = c then v else ztf A x y := rfl
theorem zl_utf (A : AS) (j c : Nat) (v : Int32) (x : Nat) : zl (utf A j c v) x = zl A x := rfl
theorem zow_utf (A : AS) (j c : Nat) (v : Int32) (x : Nat) : zow (utf A j c v) x = zow A x := rfl
theorem zlp_utf (A : AS) (j c : Nat) (v : Int32) (x : Nat) : zlp (utf A j c v) x = zlp A x := rfl
theorem zne_utf (A : AS) (j c : Nat) (v : Int32) : zne (utf A j c v)  = zne A  := rfl
theorem zsc_ul (A : AS) (j : Nat) (v : List (Int32 × Int32)) (x : Nat) : zsc (ul A j v) x = zsc A x := rfl
theorem zlk_ul (A : AS) (j : Nat) (v : List (Int32 × Int32)) (x y : Nat) : zlk (ul A j v) x y = zlk A x y := rfl
theorem ztf_ul (A : AS) (j : Nat) (v : List (Int32 × Int32)) (x y : Nat) : ztf (ul A j v) x y = ztf A x y := rfl
theorem zl_ul (A : AS) (j : Nat) (v : List (Int32 × Int32)) (x : Nat) : zl (ul A j v) x = if x = j then v else zl A x := rfl
theorem zow_ul (A : AS) (j : Nat) (v : List (Int32 × Int32)) (x : Nat) : zow (ul A j v) x = zow A x := rfl
theorem zlp_ul (A : AS) (j : Nat) (v : List (Int32 × Int32)) (x : Nat) : zlp (ul A j v) x = zlp A x := rfl
theorem zne_ul (A : AS) (j : Nat) (v : List (Int32 × Int32)) : zne (ul A j v)  = zne A  := rfl
theorem zsc_uow (A : AS) (j : Nat) (v : List (Nat × Int32)) (x : Nat) : zsc (uow A j v) x = zsc A x := rfl
theorem zlk_uow (A : AS) (j : Nat) (v : List (Nat × Int32)) (x y : Nat) : zlk (uow A j v) x y = zlk A x y := rfl
theorem ztf_uow (A : AS) (j : Nat) (v : List (Nat × Int32)) (x y : Nat) : ztf (uow A j v) x y = ztf A x y := rfl
theorem zl_uow (A : AS) (j : Nat) (v : List (Nat × Int32)) (x : Nat) : zl (uow A j v) x = zl A x := rfl
theorem zow_uow (A : AS) (j : Nat) (v : List (Nat × Int32)) (x : Nat) : zow (uow A j v) x = if x = j then v else zow A x := rfl
theorem zlp_uow (A : AS) (j : Nat) (v : List (Nat × Int32)) (x : Nat) : zlp (uow A j v) x = zlp A x := rfl
theorem zne_uow (A : AS) (j : Nat) (v : List (Nat × Int32)) : zne (uow A j v)  = zne A  := rfl
theorem zsc_ulp (A : AS) (j : Nat) (v : Nat) (x : Nat) : zsc (ulp A j v) x = zsc A x := rfl
theorem zlk_ulp (A : AS) (j : Nat) (v : Nat) (x y : Nat) : zlk (ulp A j v) x y = zlk A x y := rfl
theorem ztf_ulp (A : AS) (j : Nat) (v : Nat) (x y : Nat) : ztf (ulp A j v) x y = ztf A x y := rfl
theorem zl_ulp (A : AS) (j : Nat) (v : Nat) (x : Nat) : zl (ulp A j v) x = zl A x := rfl
theorem zow_ulp (A : AS) (j : Nat) (v : Nat) (x : Nat) : zow (ulp A j v) x = zow A x := rfl
theorem zlp_ulp (A : AS) (j : Nat) (v : Nat) (x : Nat) : zlp (ulp A j v) x = if x = j then v else zlp A x := rfl
theorem zne_ulp (A : AS) (j : Nat) (v : Nat) : zne (ulp A j v)  = zne A  := rfl
theorem zsc_une (A : AS) (v : Nat) (x : Nat) : zsc (une A v) x = zsc A x := rfl
theorem zlk_une (A : AS) (v : Nat) (x y : Nat) : zlk (une A v) x y = zlk A x y := rfl
theorem ztf_une (A : AS) (v : Nat) (x y : Nat) : ztf (une A v) x y = ztf A x y := rfl
theorem zl_une (A : AS) (v : Nat) (x : Nat) : zl (une A v) x = zl A x := rfl
theorem zow_une (A : AS) (v : Nat) (x : Nat) : zow (une A v) x = zow A x := rfl
theorem zlp_une (A : AS) (v : Nat) (x : Nat) : zlp (une A v) x = zlp A x := rfl
theorem zne_une (A : AS) (v : Nat) : zne (une A v) = v := rfl
