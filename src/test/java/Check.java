/** What the test programs share: comparing answers, feeding texts, and a picture of all that can be asked. */
final class Check {
    /** A call that may throw. */
    interface Call {
        Object run();
    }

    /** A call with the number of a stop, a passenger, a ticket or a case. */
    interface Numbered {
        Object run(int number);
    }

    static final Class<IndexOutOfBoundsException> NO_SUCH = IndexOutOfBoundsException.class;
    static final Class<IllegalArgumentException> BAD = IllegalArgumentException.class;
    static final Class<IllegalStateException> NOT_NOW = IllegalStateException.class;

    /** A short line for texts: one passenger with 1000 cents. */
    static final String SMALL = "line 0 1;passenger a 1000;";

    /** The setup that makes the state of a new object. */
    static final String DEFAULT =
            "line 0 0 0 1 1 1 2 2; passenger ann 9000; passenger bob 1200; passenger cy 20000;";

    /** The clock is 99999 behind this. */
    static final String TO_THE_END = "wait 9999;".repeat(10) + "wait 9;";

    /** A case is not overdue behind this, but a minute later. */
    static final String FOURTEEN_DAYS = "wait 9999;wait 9999;wait 162;";

    private static int wrong = 0;
    private static int made = 0;
    private static String about = "";

    private Check() {
    }

    static void due(String what, Object want, Object got) {
        made++;
        if (!want.equals(got)) {
            wrong++;
            System.out.println(about + what + ": answered " + got + ", due is " + want);
        }
    }

    /** Goes before the reports of all comparisons from now on. */
    static void about(String words) {
        about = words + "\n    ";
    }

    static int made() {
        return made;
    }

    /** The call must throw exactly this exception and change nothing that can be asked. */
    static void dueThrow(String what, TicketCheck x, Class<? extends RuntimeException> want, Call call) {
        String before = picture(x);
        due(what, "throws " + want.getName(), answer(call));
        due(what + " changes nothing", before, picture(x));
    }

    /** The numbers from 0 to count - 1 are there, and no other ones. */
    static void dueNumbers(String what, TicketCheck x, int count, Numbered call) {
        for (int number = 0; number < count; number++) {
            int there = number;
            due(what + " of " + number + " is there", false, answer(() -> call.run(there)).startsWith("throws"));
        }
        for (int number : new int[] {-1, count, Integer.MIN_VALUE, Integer.MAX_VALUE}) {
            dueThrow(what + " of " + number, x, NO_SUCH, () -> call.run(number));
        }
    }

    static String answer(Call call) {
        try {
            return String.valueOf(call.run());
        } catch (RuntimeException e) {
            return "throws " + e.getClass().getName();
        }
    }

    static void end(String name) {
        System.out.println(name + ": " + made + " comparisons, " + wrong + " wrong");
        if (wrong != 0) {
            System.exit(1);
        }
    }

    static void feed(TicketCheck x, String text) {
        int length = x.truncateInput(0);
        for (int start = 0; start < text.length(); start += 20) {
            length = x.append(word(text, start), word(text, start + 4), word(text, start + 8),
                    word(text, start + 12), word(text, start + 16));
        }
        due("feeding a text", (text.length() + 19) / 20 * 20, length);
        x.truncateInput(text.length());
    }

    private static int word(String text, int start) {
        int word = 0;
        for (int i = start; i < start + 4; i++) {
            word = word << 8 | (i < text.length() ? text.charAt(i) : ' ');
        }
        return word;
    }

    static int load(TicketCheck x, String text) {
        feed(x, text);
        return x.load();
    }

    static int play(TicketCheck x, String text) {
        feed(x, text);
        return x.play();
    }

    static TicketCheck loaded(String text) {
        TicketCheck x = new TicketCheck();
        if (load(x, text) == TicketCheck.NONE) {
            throw new AssertionError(text + ": code " + x.errorCode() + " at " + x.errorOffset());
        }
        return x;
    }

    /** A new object behind a script that must be good. */
    static TicketCheck played(String script) {
        TicketCheck x = new TicketCheck();
        more(x, script);
        return x;
    }

    static void more(TicketCheck x, String script) {
        if (play(x, script) == TicketCheck.NONE) {
            throw new AssertionError(script + ": code " + x.errorCode() + " at " + x.errorOffset());
        }
    }

    static void waitLong(TicketCheck x, int minutes) {
        int left = minutes;
        while (left > 0) {
            x.waitFor(Math.min(left, 9999));
            left -= Math.min(left, 9999);
        }
    }

    /** The sign ^ stands before the token that is wrong; it is no part of the text. */
    static void setupFails(int code, String marked) {
        TicketCheck x = new TicketCheck();
        String before = statePicture(x);
        due("load " + marked, TicketCheck.NONE, load(x, marked.replace("^", "")));
        dueError(x, code, marked, before);
    }

    /** A script for the new object, and the same behind a setup that makes the same state. */
    static void scriptFails(int code, String marked) {
        TicketCheck x = new TicketCheck();
        String before = statePicture(x);
        due("play " + marked, TicketCheck.NONE, play(x, marked.replace("^", "")));
        dueError(x, code, marked, before);
        setupFails(code, DEFAULT + marked);
    }

    private static void dueError(TicketCheck x, int code, String marked, String before) {
        due("code of " + marked, code, x.errorCode());
        due("offset of " + marked, marked.indexOf('^'), x.errorOffset());
        due("state after " + marked, before, statePicture(x));
        due("changes after " + marked, 0, x.undoableChanges());
    }

    static String name(TicketCheck x, int passenger) {
        StringBuilder name = new StringBuilder();
        for (int i = 0; x.nameByte(passenger, i) != TicketCheck.NONE; i++) {
            name.append((char) x.nameByte(passenger, i));
        }
        return name.toString();
    }

    /** The output without writing it anew. */
    static String output(TicketCheck x) {
        StringBuilder text = new StringBuilder();
        for (int i = 0; x.outputByte(i) != TicketCheck.NONE; i++) {
            text.append((char) x.outputByte(i));
        }
        return text.toString();
    }

    /** The answers of all calls that change nothing but have no part in the texts, the output and undo. */
    static String statePicture(TicketCheck x) {
        StringBuilder all = new StringBuilder();
        put(all, x.clock(), x.day(), x.stopCount(), x.passengerCount(), x.ticketCount(), x.caseCount(),
                x.ticketSales(), x.finesPaid(), x.inspections(), x.inconsistencies());
        all.append(x.faultShare()).append(' ').append(x.meanPrice());
        for (int i = 0; i < x.stopCount(); i++) {
            put(all, x.zone(i));
        }
        for (int i = 0; i < x.passengerCount(); i++) {
            put(all, x.money(i), x.isRiding(i) ? 1 : 0, x.rideEnd(i), x.rideTicket(i), x.faultNow(i), x.debt(i),
                    x.unpaidCases(i));
            for (int k = 0; k < 7; k++) {
                put(all, x.nameByte(i, k));
            }
        }
        for (int i = 0; i < x.ticketCount(); i++) {
            put(all, x.ticketHolder(i), x.ticketKind(i), x.ticketZones(i), x.ticketPrice(i), x.stampTime(i),
                    x.stampStop(i), x.ticketRides(i), x.isInTime(i) ? 1 : 0);
        }
        for (int i = 0; i < x.caseCount(); i++) {
            put(all, x.casePassenger(i), x.caseFault(i), x.caseState(i), x.caseTime(i), x.amountDue(i),
                    x.caseTicket(i), x.isOverdue(i) ? 1 : 0);
            for (int k = 0; k < x.ticketCount(); k++) {
                put(all, x.outlook(i, k));
            }
        }
        return all.toString();
    }

    static String picture(TicketCheck x) {
        StringBuilder all = new StringBuilder(statePicture(x));
        put(all, x.undoableChanges(), x.errorCode(), x.errorOffset());
        return all.append(output(x)).toString();
    }

    private static void put(StringBuilder all, int... values) {
        all.append('[');
        for (int value : values) {
            all.append(value).append(' ');
        }
        all.append(']');
    }
}
