/-! THROWS (made by wip/whole/gen/thr.py) -/
abbrev thN : List String := ["java/lang/RuntimeException", "java/lang/Exception"]
theorem thN_fit : ∀ n ∈ thN, Bundle.fit n = true := by decide +kernel
theorem th_io_fit : Bundle.fit "java/lang/IndexOutOfBoundsException" = true := by decide +kernel
theorem th_io_ini : Cond.initialized "java/lang/IndexOutOfBoundsException" ∈ jW := jWm 22 (by decide +kernel) (by decide +kernel)
theorem th_io_at : ∀ w ∈ vx_atS RX10 167 "java/lang/IndexOutOfBoundsException" thN, w ∈ jW := by decide +kernel
theorem th_io_good : ∀ w ∈ Cond.classLink RX10 163 "java/lang/IndexOutOfBoundsException" :: Cond.initialized "java/lang/IndexOutOfBoundsException" :: vx_atS RX10 167 "java/lang/IndexOutOfBoundsException" thN, vx_ot w = true := by decide +kernel
theorem th_ns_fit : Bundle.fit "java/util/NoSuchElementException" = true := by decide +kernel
theorem th_ns_ini : Cond.initialized "java/util/NoSuchElementException" ∈ jW := jWm 23 (by decide +kernel) (by decide +kernel)
theorem th_ns_good : ∀ w ∈ Cond.classLink RX10 182 "java/util/NoSuchElementException" :: Cond.initialized "java/util/NoSuchElementException" :: vx_atS RX10 186 "java/util/NoSuchElementException" thN, vx_ot w = true := by decide +kernel
theorem th_is_fit : Bundle.fit "java/lang/IllegalStateException" = true := by decide +kernel
theorem th_is_ini : Cond.initialized "java/lang/IllegalStateException" ∈ jW := jWm 25 (by decide +kernel) (by decide +kernel)
theorem th_is_at : ∀ w ∈ vx_atS RX10 258 "java/lang/IllegalStateException" thN, w ∈ jW := by decide +kernel
theorem th_is_good : ∀ w ∈ Cond.classLink RX10 254 "java/lang/IllegalStateException" :: Cond.initialized "java/lang/IllegalStateException" :: vx_atS RX10 258 "java/lang/IllegalStateException" thN, vx_ot w = true := by decide +kernel
