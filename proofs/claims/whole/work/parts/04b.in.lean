set_option maxRecDepth 20000 in
theorem rhin0 : ∀ w ∈ wsX00, w ∈ rhTs := by decide +kernel
set_option maxRecDepth 20000 in
theorem rhin1 : ∀ w ∈ wsX10, w ∈ rhTs := by decide +kernel
set_option maxRecDepth 20000 in
theorem rhin2 : ∀ w ∈ wsX20, w ∈ rhTs := by decide +kernel
set_option maxRecDepth 20000 in
theorem rhin3 : ∀ w ∈ wsX30, w ∈ rhTs := by decide +kernel
set_option maxRecDepth 20000 in
theorem rhin4 : ∀ w ∈ wsX40, w ∈ rhTs := by decide +kernel
set_option maxRecDepth 20000 in
theorem rhin5 : ∀ w ∈ wsX50, w ∈ rhTs := by decide +kernel
set_option maxRecDepth 20000 in
theorem rhin6 : ∀ w ∈ wsX60, w ∈ rhTs := by decide +kernel
set_option maxRecDepth 20000 in
theorem rhin7 : ∀ w ∈ wsX70, w ∈ rhTs := by decide +kernel
set_option maxRecDepth 20000 in
theorem rhin8 : ∀ w ∈ wsX80, w ∈ rhTs := by decide +kernel
set_option maxRecDepth 20000 in
theorem rhin9 : ∀ w ∈ wsX90, w ∈ rhTs := by decide +kernel
set_option maxRecDepth 20000 in
theorem rhin10 : ∀ w ∈ wsX100, w ∈ rhTs := by decide +kernel
set_option maxRecDepth 20000 in
theorem rhin11 : ∀ w ∈ wsX110, w ∈ rhTs := by decide +kernel
set_option maxRecDepth 20000 in
theorem rhin12 : ∀ w ∈ wsX120, w ∈ rhTs := by decide +kernel
