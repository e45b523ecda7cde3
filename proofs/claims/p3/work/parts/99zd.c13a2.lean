theorem nd13_ : xl13.Nodup := by decide +kernel
