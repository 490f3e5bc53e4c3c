theorem am_k28 : (List.range 7).all (fun k => am_okM (264 + k)) = true := by decide +kernel
