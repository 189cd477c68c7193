-- needs: 07zzz40.sim2
/-! all calls -/
theorem simB : Sim INV := ⟨sim0, sim1, sim2, sim3, sim4, sim5, sim6, sim7, sim8, sim9, sim10, sim11, sim12, sim13, sim14, sim15, sim16, sim17, sim18, sim19, sim20, sim21, sim22, sim23, sim24, sim25, sim26, sim27, sim28, sim29, sim30, sim31, sim32, sim33, sim34, sim35, sim36, sim37, sim38, sim39, sim40, sim41⟩
