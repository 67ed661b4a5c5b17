/** What the project's tests share: answers that are due, and how a test program ends. */
final class Expect {
    interface Call {
        void run();
    }

    private static int done;
    private static int wrong;
    private static String named = "";
    private static int told;

    private Expect() {
    }

    /** A test with a name of its own: what is wrong in it is told by this name, and ends no other test. */
    static void named(String name, Call test) {
        named = name + ": ";
        told = 0;
        int before = done;
        try {
            test.run();
        } catch (RuntimeException e) {
            tell("threw " + e + (e.getStackTrace().length > 0 ? " at " + e.getStackTrace()[0] : ""));
        }
        if (done == before) {
            tell("looked at nothing");
        }
        named = "";
    }

    static void equal(String what, long got, long due) {
        done++;
        if (got != due) {
            tell(what + " answered " + got + ", due is " + due);
        }
    }

    static void isTrue(String what, boolean got) {
        done++;
        if (!got) {
            tell(what + " does not hold");
        }
    }

    static void same(String what, String got, String due) {
        done++;
        if (!got.equals(due)) {
            int from = Math.max(0, firstDifference(got, due) - 30);
            tell(what + " from character " + from + ":\n  got " + part(got, from) + "\n  due " + part(due, from));
        }
    }

    private static int firstDifference(String a, String b) {
        int at = 0;
        while (at < a.length() && at < b.length() && a.charAt(at) == b.charAt(at)) {
            at++;
        }
        return at;
    }

    private static String part(String text, int from) {
        return text.substring(Math.min(from, text.length()), Math.min(from + 120, text.length()));
    }

    /** The very class is asked for: a class below it would be thrown by the machine. */
    static void refuses(String what, Class<? extends RuntimeException> due, Call call) {
        done++;
        try {
            call.run();
        } catch (RuntimeException e) {
            if (e.getClass() != due) {
                tell(what + " threw " + e + ", due is " + due.getName());
            }
            return;
        }
        tell(what + " threw nothing, due is " + due.getName());
    }

    /** Refused without a trace: nothing that can be looked at is another than before. */
    static void refusesAndKeeps(String what, Class<? extends RuntimeException> due, RunStore x, Call call) {
        String before = all(x);
        refuses(what, due, call);
        same("all that can be seen after " + what, all(x), before);
    }

    /** All that can be seen of a store, by calls that change nothing. */
    static String all(RunStore x) {
        return rows(x) + " checked=" + x.count(5) + " passed=" + x.count(6) + " bad=" + x.badAt();
    }

    /** As all(), but without what a fault may change. */
    static String rows(RunStore x) {
        StringBuilder seen = new StringBuilder();
        for (int what = 0; what < 8; what++) {
            if (what != 5 && what != 6) {
                seen.append(x.count(what)).append(' ');
            }
        }
        seen.append("log");
        for (int i = 0; i < x.count(2); i++) {
            seen.append(' ').append(x.logged(i));
        }
        for (int t = 0; t < x.count(3); t++) {
            seen.append(" table");
            for (int what = 0; what < 4; what++) {
                seen.append(' ').append(x.table(t, what));
            }
            for (long key = -40; key < 40; key++) {
                seen.append(x.may(t, key) ? '1' : '0');
            }
        }
        for (int b = 0; b < x.count(0); b++) {
            seen.append(" block ").append(x.sum(b));
            for (int i = 0; i < 32; i++) {
                seen.append(' ').append(x.byteAt(b, i));
            }
        }
        return seen.append(" check=").append(x.check()).toString();
    }

    private static void tell(String text) {
        wrong++;
        told++;
        if (told <= (named.isEmpty() ? 40 : 3)) {
            System.out.println(named + text);
        }
    }

    static void end(String name) {
        System.out.println(name + ": " + done + " looks, " + wrong + " wrong");
        if (wrong != 0 || done == 0) {
            System.exit(1);
        }
    }
}
