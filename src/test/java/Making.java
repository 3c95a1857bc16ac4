import java.util.function.Supplier;

/** A call that makes something of the first places of a room: into the next one, and into each of those it is made of. */
final class Making {
    static final String REFUSED = "refused";

    interface Call {
        void run(Transseria x, int place);
    }

    private Making() {
    }

    /** What is due is a text, or REFUSED; all other places, and with REFUSED that one too, are to hold what they held. */
    static void is(Check check, String what, Supplier<Transseria> room, Call call, String want, String... held) {
        for (int k = held.length; k >= 0; k--) {
            int place = k;
            Transseria x = room.get();
            String where = what + " at " + place;
            boolean refused = want.equals(REFUSED);
            if (refused) {
                check.noState(where, () -> call.run(x, place));
            } else {
                call.run(x, place);
                check.text(where, Rooms.text(x, place), want);
            }
            for (int other = 0; other <= held.length; other++) {
                if (other != place || refused) {
                    check.text(where + ": place " + other, Rooms.text(x, other), other < held.length ? held[other] : "nothing");
                }
            }
        }
    }
}
