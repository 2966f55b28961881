section
theorem zz_probe : (Cond.not (.castable "[Ljava/lang/StackTraceElement;" "java/lang/Integer") : Cond).onTables = true := by decide +kernel
end
