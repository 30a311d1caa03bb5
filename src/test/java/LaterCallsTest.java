/** What calls behind the 512th answer is free, but the machine throws in none of them. */
public final class LaterCallsTest {
    public static void main(String[] args) {
        for (int run = 0; run < 20; run++) {
            WeftStore x = new WeftStore();
            Calls calls = new Calls(1000 + run);
            for (int i = 0; i < 3000; i++) {
                Calls.Call call = calls.next();
                String got = call.on(x);
                calls.saw(call, got);
                boolean isDue = !got.startsWith("throws ")
                        || got.equals("throws java.lang.IndexOutOfBoundsException")
                        || got.equals("throws java.lang.IllegalArgumentException")
                        || got.equals("throws java.lang.IllegalStateException");
                Check.is(call + " is answered as a call of the face, not " + got, isDue, true);
            }
        }
        writesOfValues();
        Check.end();
    }

    private static void writesOfValues() {
        WeftStore x = new WeftStore();
        for (int n = 0; n < 24; n++) {
            x.node(0, n);
        }
        for (int i = 0; i < 100; i++) {
            x.begin();
            for (int n = 0; n < 24; n++) {
                x.write(0, n, i);
            }
            x.commit(0, true);
        }
        Check.eq("time()", x.time(), 124);
        Check.is("valueAt", x.valueAt(0, 124) >= 0, true);
    }
}
