/** The sentences of promises 1 to 17, in their order, each with a test of its own. */
final class CallSentences {
    private static final int NONE = TicketCheck.NONE;
    private static final int MIN = Integer.MIN_VALUE;
    private static final int MAX = Integer.MAX_VALUE;
    private static final int SPACES = 0x20202020;

    private CallSentences() {
    }

    static void run() {
        newObject();
        append();
        truncateInput();
        load();
        play();
        errorCode();
        errorOffset();
        buy();
        ride();
        inspect();
        waitFor();
        appeal();
        decide();
        pay();
        undo();
        save();
        restore();
    }

    private static void newObject() {
        Document.section("Promise 1");
        Document.sentence("Creates the state that load() makes of the text \"line 0 0 0 1 1 1 2 2; passenger ann 9000; passenger "
                + "bob 1200; passenger cy 20000;\", with an empty input buffer, no reported error, an empty output, no saved "
                + "state and no change to undo.");
        TicketCheck x = new TicketCheck();
        Check.due("the state", Check.statePicture(Check.loaded(Check.DEFAULT)), Check.statePicture(x));
        Check.due("8 stops", 8, x.stopCount());
        Check.due("the zone of the last stop", 2, x.zone(7));
        Check.due("3 passengers", 3, x.passengerCount());
        Check.due("the name of the last one", "cy", Check.name(x, 2));
        Check.due("the money of the last one", 20000, x.money(2));
        Check.dueThrow("an empty input", x, Check.BAD, () -> x.truncateInput(1));
        Check.due("no code", 0, x.errorCode());
        Check.due("no offset", NONE, x.errorOffset());
        Check.due("an empty output", NONE, x.outputByte(0));
        Check.dueThrow("nothing in slot 0", x, Check.NOT_NOW, () -> x.restore(0));
        Check.dueThrow("nothing in slot 1", x, Check.NOT_NOW, () -> x.restore(1));
        Check.due("no change", 0, x.undoableChanges());
        Check.dueThrow("nothing to undo", x, Check.NOT_NOW, () -> x.undo());
    }

    // ---- input

    private static int appendSpaces(TicketCheck x) {
        return x.append(SPACES, SPACES, SPACES, SPACES, SPACES);
    }

    /** Each byte of a parameter in turn is made a sign that belongs to no token. */
    private static void bytesOf(int parameter, int first) {
        for (int place = 0; place < 4; place++) {
            int[] words = {SPACES, SPACES, SPACES, SPACES, SPACES};
            words[parameter] ^= (' ' ^ 0xf7) << 24 - 8 * place;
            TicketCheck x = new TicketCheck();
            x.append(words[0], words[1], words[2], words[3], words[4]);
            x.play();
            Check.due("byte " + (first + place), first + place, x.errorOffset());
        }
    }

    private static void append() {
        Document.section("Promise 2");
        Document.sentence("Appends 20 bytes to the input buffer: the four bytes of each parameter, the most significant byte "
                + "first.");
        TicketCheck x = new TicketCheck();
        Check.due("20 bytes", 20, x.append(0x77616974, 0x20393939, 0x393b7761, 0x69742038, 0x3b776169));
        Check.due("20 more", 40, x.append(0x74372020, SPACES, SPACES, SPACES, 0x2020203b));
        Check.due("wait 9999;wait 8;wait7;", 3, x.play());
        Check.due("the sum", 10014, x.clock());
        Document.sentence("bytes 0 to 3");
        bytesOf(0, 0);
        Document.sentence("bytes 4 to 7");
        bytesOf(1, 4);
        Document.sentence("bytes 8 to 11");
        bytesOf(2, 8);
        Document.sentence("bytes 12 to 15");
        bytesOf(3, 12);
        Document.sentence("bytes 16 to 19");
        bytesOf(4, 16);
        Document.sentence("Returns the new length of the input buffer; NONE, with no change, if it would exceed 700.");
        TicketCheck y = new TicketCheck();
        for (int length = 20; length <= 700; length += 20) {
            Check.due("the length", length, appendSpaces(y));
        }
        Check.due("behind 700", NONE, appendSpaces(y));
        Check.due("no change", 700, y.truncateInput(700));
        y.truncateInput(681);
        Check.due("behind 681", NONE, y.append(-1, -1, -1, -1, -1));
        Check.due("no change at 681", 681, y.truncateInput(681));
        Check.due("no byte has changed", 0, y.play());
        Check.feed(y, " ".repeat(680));
        Check.due("behind 680", 700, appendSpaces(y));
    }

    private static void truncateInput() {
        Document.section("Promise 3");
        Document.sentence("Shortens the input buffer.");
        TicketCheck x = new TicketCheck();
        Check.feed(x, "wait 123;");
        x.truncateInput(6);
        Check.due("the next bytes go there", 26, x.append(0x3b202020, SPACES, SPACES, SPACES, SPACES));
        x.play();
        Check.due("wait 1;", 1, x.clock());
        Document.sentence("the new length, 0 to the current length", "Returns the new length.");
        Check.due("an empty buffer", 0, x.truncateInput(0));
        Check.feed(x, "wait 123;");
        Check.due("the current length", 9, x.truncateInput(9));
        Check.due("a byte less", 8, x.truncateInput(8));
        Check.due("nothing", 0, x.truncateInput(0));
        Document.sentence("Throws `IllegalArgumentException` if length is out of range");
        Check.dueThrow("an empty buffer", x, Check.BAD, () -> x.truncateInput(1));
        Check.feed(x, "wait 123;");
        for (int length : new int[] {-1, 10, 700, MIN, MAX}) {
            Check.dueThrow("length " + length, x, Check.BAD, () -> x.truncateInput(length));
        }
        Check.due("nothing is cut off", 1, x.play());
    }

    private static void isEmptied(String text, boolean byLoad) {
        TicketCheck x = new TicketCheck();
        Check.feed(x, text);
        Check.answer(() -> byLoad ? x.load() : x.play());
        Check.due("the next length behind " + text, 20, appendSpaces(x));
    }

    private static void load() {
        Document.section("Promise 4");
        Document.sentence("Parses the input buffer as a setup and empties the buffer in any case.");
        Check.due("a setup", 1, Check.load(new TicketCheck(), Check.SMALL));
        isEmptied(Check.SMALL, true);
        isEmptied(Check.SMALL + "#", true);
        isEmptied("wait 1;", true);
        isEmptied("", true);
        Document.sentence("Without an error the state is replaced; before the first command the clock and all totals are 0, "
                + "and there are no tickets and no cases.");
        TicketCheck x = Check.played("buy cy day 3;ride cy 0 7 with 0;ride ann 7 0;inspect cy;pay 0;inspect ann;wait 5;");
        Check.due("two passengers", 2, Check.load(x, "line 3 2;passenger q 5000;passenger r 7;buy q short 1;"));
        Check.due("stops", 2, x.stopCount());
        Check.due("zone", 3, x.zone(0));
        Check.due("name", "q", Check.name(x, 0));
        Check.due("money", 4850, x.money(0));
        Check.due("clock", 0, x.clock());
        Check.due("sales", 150, x.ticketSales());
        Check.due("fines", 0, x.finesPaid());
        Check.due("inspections", 0, x.inspections());
        Check.due("tickets", 1, x.ticketCount());
        Check.due("cases", 0, x.caseCount());
        Check.due("no ride", NONE, x.rideEnd(0));
        Check.due("no ticket of a ride", NONE, x.rideTicket(0));
        Check.due("no fault", 0, x.faultNow(0));
        Check.due("no stamp", NONE, x.stampTime(0));
        Check.due("no rides", 0, x.ticketRides(0));
        Check.due("the new ride can be inspected", 2, Check.play(x, "ride q 0 1;inspect q;"));
        Document.sentence("With an error the state does not change.");
        Check.setupFails(1, "line 3 3;passenger q 5;wait 1;wait 2^");
        Check.setupFails(6, "line 3 3;passenger q 5000;buy q day 15;buy q day 15;buy q day 15^;");
        Document.sentence("Returns the number of passengers; NONE if there is an error.");
        Check.due("1", 1, Check.load(x, "line 0 1;passenger a 1;wait 1;wait 1;wait 1;"));
        Check.due("8", 8, Check.load(x, "line 0 1;passenger a 1;passenger b 1;passenger c 1;passenger d 1;passenger e 1;"
                + "passenger f 1;passenger g 1;passenger h 1;"));
        Check.due("an error", NONE, Check.load(x, "line 0 1;passenger a 1"));
    }

    private static void play() {
        Document.section("Promise 5");
        Document.sentence("Parses the input buffer as a script and empties the buffer in any case.");
        Check.due("a script", 1, Check.play(new TicketCheck(), "wait 1;"));
        isEmptied("wait 1;", false);
        isEmptied("wait 0;", false);
        isEmptied(Check.SMALL, false);
        isEmptied("", false);
        Document.sentence("Without an error the commands are executed one after the other as a single change (also if there is "
                + "none).");
        TicketCheck x = Check.played("wait 1;wait 2;ride ann 0 1;wait 2;ride ann 1 0;");
        Check.due("the clock", 5, x.clock());
        Check.due("the last ride", 7, x.rideEnd(0));
        Check.due("one change", 1, x.undoableChanges());
        x.undo();
        Check.due("undone as one", 0, x.clock());
        Check.due("no command", 0, x.play());
        Check.due("no command is a change", 1, x.undoableChanges());
        Document.sentence("With an error the state does not change (commands before the error have no effect).");
        Check.scriptFails(2, "buy ann day 1;ride ann 0 1 with 0;inspect ann;wait 5;wait ^0;");
        Check.scriptFails(6, "buy bob day 1;ride bob 0 1 with 0;buy bob day 15^;");
        Document.sentence("Returns the number of commands; NONE if there is an error.");
        Check.due("spaces alone", 0, Check.play(x, "   "));
        Check.due("one", 1, Check.play(x, "wait 1;"));
        Check.due("three", 3, Check.play(x, "wait 1;wait 1;wait 1;"));
        Check.due("an error", NONE, Check.play(x, "wait 1;wait 1"));
    }

    private static void codeIs(int code, int offset, TicketCheck x) {
        Check.due("the code", code, x.errorCode());
        Check.due("the offset", offset, x.errorOffset());
    }

    private static void errorCode() {
        Document.section("Promise 6");
        Document.sentence("Returns the error code of the latest call of load() or play().");
        TicketCheck x = new TicketCheck();
        Check.load(x, "line 4");
        Check.due("of load", 2, x.errorCode());
        Check.play(x, "inspect dan;");
        Check.due("of play", 3, x.errorCode());
        x.waitFor(1);
        x.undo();
        appendSpaces(x);
        Check.due("other calls leave it", 3, x.errorCode());
        x.load();
        Check.due("of load again", 1, x.errorCode());
        Document.sentence("Returns the code, 1 to 6; 0 if there was no error or no such call.");
        Check.due("no such call", 0, new TicketCheck().errorCode());
        Check.scriptFails(1, "^x;");
        Check.scriptFails(2, "wait ^0;");
        Check.scriptFails(3, "inspect ^x;");
        Check.setupFails(4, "line 0 1;passenger a 1;passenger ^a 1;");
        Check.setupFails(5, "line 0 0 0 0 0 0 0 0 0 0 0 0 ^0;");
        Check.scriptFails(6, "inspect ann^;");
        Check.load(x, Check.SMALL);
        Check.due("no error of load", 0, x.errorCode());
        Check.play(x, "wait 0;");
        x.play();
        Check.due("no error of play", 0, x.errorCode());
    }

    private static void errorOffset() {
        Document.section("Promise 7");
        Document.sentence("Returns the error offset of the latest call of load() or play().");
        TicketCheck x = new TicketCheck();
        Check.load(x, "line 4");
        codeIs(2, 5, x);
        Check.play(x, "inspect dan;");
        codeIs(3, 8, x);
        x.waitFor(1);
        x.undo();
        appendSpaces(x);
        codeIs(3, 8, x);
        x.load();
        codeIs(1, 20, x);
        Document.sentence("Returns the offset; NONE if errorCode() is 0.");
        codeIs(0, NONE, new TicketCheck());
        Check.load(x, "");
        codeIs(1, 0, x);
        Check.load(x, Check.SMALL);
        codeIs(0, NONE, x);
        Check.play(x, "wait 0;");
        codeIs(2, 5, x);
        x.play();
        codeIs(0, NONE, x);
    }

    // ---- changes

    private static void buy() {
        Document.section("Promise 8");
        Document.sentence("Sells a ticket.", "the bit mask of the zones, 1 to 15", "SINGLE, DAY or SHORT");
        int[] prices = {200, 500, 150};
        for (int kind = TicketCheck.SINGLE; kind <= TicketCheck.SHORT; kind++) {
            for (int zones = 1; zones <= 15; zones++) {
                TicketCheck x = new TicketCheck();
                x.buy(2, kind, zones);
                int price = prices[kind] * (kind == TicketCheck.SHORT ? 1 : Integer.bitCount(zones));
                Check.due("the holder", 2, x.ticketHolder(0));
                Check.due("the kind", kind, x.ticketKind(0));
                Check.due("the zones", zones, x.ticketZones(0));
                Check.due("the price", 20000 - price, x.money(2));
            }
        }
        Document.sentence("Returns the number of the ticket.");
        TicketCheck y = new TicketCheck();
        Check.due("the first", 0, y.buy(2, TicketCheck.DAY, 1));
        Check.due("the next", 1, y.buy(0, TicketCheck.SHORT, 1));
        Document.sentence("Throws `IndexOutOfBoundsException` if the passenger does not exist");
        for (int passenger : new int[] {-1, 3, MIN, MAX}) {
            Check.dueThrow("passenger " + passenger, y, Check.NO_SUCH, () -> y.buy(passenger, TicketCheck.DAY, 1));
        }
        Document.sentence("Throws `IllegalArgumentException` if kind or zones is out of range");
        for (int kind : new int[] {-1, 3, MIN, MAX}) {
            Check.dueThrow("kind " + kind, y, Check.BAD, () -> y.buy(2, kind, 1));
        }
        for (int zones : new int[] {-1, 0, 16, MIN, MAX}) {
            Check.dueThrow("zones " + zones, y, Check.BAD, () -> y.buy(2, TicketCheck.SHORT, zones));
        }
        Document.sentence("Throws `IllegalStateException` if there are 30 tickets, or if the passenger does not have enough "
                + "money");
        TicketCheck full = Check.played("buy cy short 1;".repeat(29));
        Check.due("the 30th", 29, full.buy(2, TicketCheck.SHORT, 1));
        Check.dueThrow("the 31st", full, Check.NOT_NOW, () -> full.buy(2, TicketCheck.SHORT, 1));
        full.undo();
        Check.due("the 30th again", 29, full.buy(2, TicketCheck.SHORT, 1));
        TicketCheck poor = Check.loaded("line 0 1;passenger a 149;passenger b 150;passenger c 799;passenger d 800;"
                + "passenger e 1999;passenger f 2000;passenger g 0;");
        Check.dueThrow("149 for 150", poor, Check.NOT_NOW, () -> poor.buy(0, TicketCheck.SHORT, 15));
        Check.due("150 for 150", 0, poor.buy(1, TicketCheck.SHORT, 15));
        Check.dueThrow("799 for 800", poor, Check.NOT_NOW, () -> poor.buy(2, TicketCheck.SINGLE, 15));
        Check.due("800 for 800", 1, poor.buy(3, TicketCheck.SINGLE, 15));
        Check.dueThrow("1999 for 2000", poor, Check.NOT_NOW, () -> poor.buy(4, TicketCheck.DAY, 15));
        Check.due("2000 for 2000", 2, poor.buy(5, TicketCheck.DAY, 15));
        Check.due("nothing is left", 0, poor.money(5));
        Check.dueThrow("no money", poor, Check.NOT_NOW, () -> poor.buy(6, TicketCheck.SHORT, 1));
    }

    private static void ride() {
        Document.section("Promise 9");
        Document.sentence("Lets a passenger begin a ride.");
        TicketCheck x = Check.played("wait 9;");
        x.ride(1, 2, 4, NONE);
        Check.due("on the tram", true, x.isRiding(1));
        Check.due("alone", false, x.isRiding(0));
        Check.due("the end", 13, x.rideEnd(1));
        Document.sentence("The ticket counts one more ride, and it is stamped if it was not stamped before.");
        Check.more(x, "buy ann day 7;buy ann day 7;wait 1;");
        x.ride(0, 3, 4, 1);
        Check.due("one ride", 1, x.ticketRides(1));
        Check.due("the time", 10, x.stampTime(1));
        Check.due("the stop", 3, x.stampStop(1));
        Check.due("not the other ticket", 0, x.ticketRides(0));
        Check.due("no stamp on it", NONE, x.stampTime(0));
        x.waitFor(2);
        x.ride(0, 6, 7, 1);
        Check.due("two rides", 2, x.ticketRides(1));
        Check.due("the same time", 10, x.stampTime(1));
        Check.due("the same stop", 3, x.stampStop(1));
        Document.sentence("number of a ticket, or NONE");
        x.waitFor(2);
        x.ride(0, 6, 7, NONE);
        Check.due("no ticket", NONE, x.rideTicket(0));
        Check.due("no more ride of the ticket", 2, x.ticketRides(1));
        Document.sentence("Returns the time at which the ride ends.");
        Check.due("one stop", 2, new TicketCheck().ride(0, 0, 1, NONE));
        Check.due("back over all stops", 14, new TicketCheck().ride(0, 7, 0, NONE));
        Check.due("behind the last minute", 100013, Check.played(Check.TO_THE_END).ride(0, 0, 7, NONE));
        rideThrows();
    }

    private static void rideThrows() {
        TicketCheck x = Check.played("buy ann day 7;");
        Document.sentence("Throws `IndexOutOfBoundsException` if the passenger or a stop does not exist, or if ticket is neither "
                + "NONE nor the number of a ticket");
        for (int no : new int[] {-1, 8, MIN, MAX}) {
            Check.dueThrow("passenger " + no, x, Check.NO_SUCH, () -> x.ride(no, 0, 1, NONE));
            Check.dueThrow("from " + no, x, Check.NO_SUCH, () -> x.ride(0, no, 1, NONE));
            Check.dueThrow("to " + no, x, Check.NO_SUCH, () -> x.ride(0, 1, no, NONE));
        }
        Check.dueThrow("passenger 3", x, Check.NO_SUCH, () -> x.ride(3, 0, 1, NONE));
        for (int ticket : new int[] {-2, 1, MIN, MAX}) {
            Check.dueThrow("ticket " + ticket, x, Check.NO_SUCH, () -> x.ride(0, 0, 1, ticket));
        }
        Document.sentence("Throws `IllegalArgumentException` if to is from");
        Check.dueThrow("the first stop", x, Check.BAD, () -> x.ride(0, 0, 0, 0));
        Check.dueThrow("the last stop", x, Check.BAD, () -> x.ride(0, 7, 7, NONE));
        Document.sentence("Throws `IllegalStateException` if the passenger is on the tram, or if the ticket belongs to another "
                + "passenger");
        Check.dueThrow("the ticket of ann", x, Check.NOT_NOW, () -> x.ride(1, 0, 1, 0));
        x.ride(0, 0, 7, 0);
        x.waitFor(13);
        Check.dueThrow("a minute before the end", x, Check.NOT_NOW, () -> x.ride(0, 7, 0, 0));
        x.waitFor(1);
        Check.due("at the end", 28, x.ride(0, 7, 0, 0));
    }

    private static void inspect() {
        Document.section("Promise 10");
        Document.sentence("Inspects a passenger.");
        TicketCheck x = Check.played("ride ann 0 1;ride bob 0 1;");
        x.inspect(1);
        Check.due("an inspection", 1, x.inspections());
        Check.due("of bob", 1, x.casePassenger(0));
        Document.sentence("Returns the fault, 1 to 5; 0 if there is none.");
        found(0, "buy ann day 7;ride ann 0 7 with 0;");
        found(1, "ride ann 0 7;");
        found(2, "buy ann day 7;wait 1430;ride ann 0 7 with 0;wait 10;");
        found(3, "buy ann day 3;ride ann 0 7 with 0;");
        found(4, "buy ann single 1;" + "ride ann 0 1 with 0;wait 2;".repeat(3) + "ride ann 0 1 with 0;");
        found(5, "buy ann short 7;ride ann 0 5 with 0;");
        Document.sentence("Throws `IndexOutOfBoundsException` if the passenger does not exist");
        for (int passenger : new int[] {-1, 3, MIN, MAX}) {
            Check.dueThrow("passenger " + passenger, x, Check.NO_SUCH, () -> x.inspect(passenger));
        }
        Document.sentence("Throws `IllegalStateException` if the passenger is not on the tram, if this ride has been inspected "
                + "already, or if there are 20 cases (whether there is a fault or not)");
        Check.dueThrow("no ride yet", x, Check.NOT_NOW, () -> x.inspect(2));
        Check.dueThrow("inspected already", x, Check.NOT_NOW, () -> x.inspect(1));
        x.waitFor(2);
        Check.dueThrow("at the end of the ride", x, Check.NOT_NOW, () -> x.inspect(0));
        x.undo();
        x.waitFor(1);
        Check.due("a minute before the end", 1, x.inspect(0));
        TicketCheck y = Check.played("buy ann day 1;" + "ride cy 0 1;inspect cy;wait 2;".repeat(19));
        Check.more(y, "ride ann 0 1 with 0;ride cy 0 1;ride bob 0 1;");
        Check.due("19 cases and no fault", 0, y.inspect(0));
        Check.due("19 cases and a fault", 1, y.inspect(2));
        Check.more(y, "wait 2;ride ann 0 1 with 0;");
        Check.dueThrow("20 cases and no fault", y, Check.NOT_NOW, () -> y.inspect(0));
        y.ride(2, 0, 1, NONE);
        Check.dueThrow("20 cases and a fault", y, Check.NOT_NOW, () -> y.inspect(2));
    }

    private static void found(int fault, String script) {
        Check.due("found behind " + script, fault, Check.played(script).inspect(0));
    }

    private static void waitFor() {
        Document.section("Promise 11");
        Document.sentence("Lets time pass.");
        TicketCheck x = Check.played("ride ann 0 2;");
        x.waitFor(4);
        Check.due("the clock", 4, x.clock());
        Check.due("the ride has ended", false, x.isRiding(0));
        Document.sentence("1 to 9999", "Returns the clock afterwards.");
        Check.due("the shortest time", 5, x.waitFor(1));
        Check.due("the longest time", 10004, x.waitFor(9999));
        Document.sentence("Throws `IllegalArgumentException` if minutes is out of range");
        for (int minutes : new int[] {-1, 0, 10000, MIN, MAX}) {
            Check.dueThrow(minutes + " minutes", x, Check.BAD, () -> x.waitFor(minutes));
        }
        Document.sentence("Throws `IllegalStateException` if the clock would exceed 99999");
        Check.more(x, "wait 9999;".repeat(9) + "wait 3;");
        Check.due("the clock now", 99998, x.clock());
        Check.dueThrow("to 100000", x, Check.NOT_NOW, () -> x.waitFor(2));
        Check.dueThrow("far behind", x, Check.NOT_NOW, () -> x.waitFor(9999));
        Check.due("to 99999", 99999, x.waitFor(1));
        Check.dueThrow("no more", x, Check.NOT_NOW, () -> x.waitFor(1));
    }

    /** Cases 0 to 2 of ann, bob and cy at minute 0; ticket 0 of cy is not stamped. */
    private static TicketCheck withCases() {
        return Check.played("ride ann 0 7;inspect ann;ride bob 0 7;inspect bob;ride cy 0 7;inspect cy;buy cy day 7;");
    }

    private static void noSuchCase(String call, TicketCheck x, Check.Numbered made) {
        for (int number : new int[] {-1, x.caseCount(), MIN, MAX}) {
            Check.dueThrow(call + " of case " + number, x, Check.NO_SUCH, () -> made.run(number));
        }
    }

    private static void appeal() {
        Document.section("Promise 12");
        Document.sentence("Appeals against a case.");
        TicketCheck x = withCases();
        x.appeal(1, 0);
        Check.due("appealed", TicketCheck.APPEALED, x.caseState(1));
        Check.due("the ticket", 0, x.caseTicket(1));
        Check.due("not the next one", TicketCheck.OPEN, x.caseState(2));
        Document.sentence("Returns the number of appeals that have not been decided, including this one.");
        Check.due("the second one", 2, x.appeal(0, 0));
        x.decide(1);
        Check.due("the third one, the first is decided", 2, x.appeal(2, 0));
        Check.due("the first one", 1, withCases().appeal(2, 0));
        x.undo();
        x.undo();
        x.undo();
        Check.due("the undone ones do not count", 2, x.appeal(2, 0));
        TicketCheck many = Check.played("ride cy 0 1;inspect cy;wait 2;".repeat(20));
        many.buy(0, TicketCheck.SHORT, 1);
        for (int number = 0; number < 20; number++) {
            Check.due("appeals", number + 1, many.appeal(number, 0));
        }
        many.undo();
        Check.due("the last one again", 20, many.appeal(19, 0));
        TicketCheck fewer = Check.played("ride ann 0 1;inspect ann;buy cy short 1;");
        Check.more(fewer, "ride bob 0 1;inspect bob;appeal 1 0;");
        fewer.undo();
        Check.due("a case that is undone does not count", 1, fewer.appeal(0, 0));
        Document.sentence("Throws `IndexOutOfBoundsException` if the case or the ticket does not exist");
        TicketCheck y = withCases();
        noSuchCase("appeal", y, number -> y.appeal(number, 0));
        for (int ticket : new int[] {-1, 1, MIN, MAX}) {
            Check.dueThrow("ticket " + ticket, y, Check.NO_SUCH, () -> y.appeal(0, ticket));
        }
        Document.sentence("Throws `IllegalStateException` if the case is not open, or if it is overdue");
        Check.more(y, "appeal 0 0;");
        Check.dueThrow("appealed", y, Check.NOT_NOW, () -> y.appeal(0, 0));
        Check.more(y, "decide 0;");
        Check.dueThrow("rejected", y, Check.NOT_NOW, () -> y.appeal(0, 0));
        Check.more(y, "pay 2;");
        Check.dueThrow("paid", y, Check.NOT_NOW, () -> y.appeal(2, 0));
        TicketCheck reduced = reducible();
        Check.more(reduced, "appeal 0 0;decide 0;");
        Check.dueThrow("reduced", reduced, Check.NOT_NOW, () -> reduced.appeal(0, 0));
        TicketCheck late = withCases();
        Check.more(late, Check.FOURTEEN_DAYS);
        Check.due("in the last minute", 1, late.appeal(0, 0));
        late.waitFor(1);
        Check.dueThrow("a minute later", late, Check.NOT_NOW, () -> late.appeal(1, 0));
    }

    /** Case 0 of ann, who has a good ticket 0. */
    private static TicketCheck reducible() {
        return Check.played("buy ann day 7;ride ann 0 1 with 0;wait 2;ride ann 0 7;inspect ann;");
    }

    private static void decide() {
        Document.section("Promise 13");
        Document.sentence("Decides an appeal.", "Returns the new state of the case, REDUCED or REJECTED.");
        TicketCheck x = reducible();
        x.appeal(0, 0);
        Check.due("reduced", TicketCheck.REDUCED, x.decide(0));
        Check.due("the reduced amount", 700, x.amountDue(0));
        TicketCheck y = withCases();
        y.appeal(2, 0);
        Check.due("rejected", TicketCheck.REJECTED, y.decide(2));
        Check.due("the higher amount", 6500, y.amountDue(2));
        Check.due("no other case", 6000, y.amountDue(1));
        Document.sentence("Throws `IndexOutOfBoundsException` if the case does not exist");
        noSuchCase("decide", y, number -> y.decide(number));
        Document.sentence("Throws `IllegalStateException` if the case is not appealed");
        Check.dueThrow("open", y, Check.NOT_NOW, () -> y.decide(0));
        Check.dueThrow("rejected", y, Check.NOT_NOW, () -> y.decide(2));
        y.pay(2);
        Check.dueThrow("paid", y, Check.NOT_NOW, () -> y.decide(2));
        Check.dueThrow("reduced", x, Check.NOT_NOW, () -> x.decide(0));
        Check.more(y, "appeal 0 0;" + Check.FOURTEEN_DAYS + "wait 1;");
        Check.due("overdue, but appealed", TicketCheck.REJECTED, y.decide(0));
    }

    private static void pay() {
        Document.section("Promise 14");
        Document.sentence("Pays a case.", "Returns what is paid.");
        TicketCheck x = withCases();
        Check.due("an open case", 6000, x.pay(0));
        Check.due("the state", TicketCheck.PAID, x.caseState(0));
        Check.due("the money", 3000, x.money(0));
        Check.more(x, "appeal 2 0;decide 2;" + Check.FOURTEEN_DAYS);
        Check.due("a rejected case in the last minute", 6500, x.pay(2));
        x.undo();
        x.waitFor(1);
        Check.due("a minute later", 8000, x.pay(2));
        TicketCheck y = reducible();
        Check.more(y, "appeal 0 0;decide 0;");
        Check.due("a reduced case", 700, y.pay(0));
        Document.sentence("Throws `IndexOutOfBoundsException` if the case does not exist");
        noSuchCase("pay", x, number -> x.pay(number));
        TicketCheck none = new TicketCheck();
        Check.dueThrow("there is no case", none, Check.NO_SUCH, () -> none.pay(0));
        Document.sentence("Throws `IllegalStateException` if the case is appealed or paid, or if the passenger does not have "
                + "enough money");
        Check.dueThrow("paid", x, Check.NOT_NOW, () -> x.pay(2));
        TicketCheck appealed = withCases();
        appealed.appeal(2, 0);
        Check.dueThrow("appealed", appealed, Check.NOT_NOW, () -> appealed.pay(2));
        TicketCheck poor = Check.loaded("line 0 1;passenger a 5999;passenger b 6000;passenger c 7499;passenger d 7500;"
                + "ride a 0 1;inspect a;ride b 0 1;inspect b;ride c 0 1;inspect c;ride d 0 1;inspect d;");
        Check.dueThrow("5999 for 6000", poor, Check.NOT_NOW, () -> poor.pay(0));
        Check.due("6000 for 6000", 6000, poor.pay(1));
        Check.more(poor, Check.FOURTEEN_DAYS + "wait 1;");
        Check.dueThrow("7499 for 7500", poor, Check.NOT_NOW, () -> poor.pay(2));
        Check.due("7500 for 7500", 7500, poor.pay(3));
        Check.due("nothing is left", 0, poor.money(3));
    }

    private static void undo() {
        Document.section("Promise 15");
        Document.sentence("Undoes the latest change.");
        TicketCheck x = Check.played("wait 1;");
        x.buy(0, TicketCheck.DAY, 1);
        x.undo();
        Check.due("no ticket", 0, x.ticketCount());
        Check.due("the money is back", 9000, x.money(0));
        Check.due("the change before stays", 1, x.clock());
        Document.sentence("Returns the number of changes that can still be undone.");
        x.waitFor(1);
        x.waitFor(1);
        Check.due("two", 2, x.undo());
        Check.due("one", 1, x.undo());
        Check.due("none", 0, x.undo());
        Document.sentence("Throws `IllegalStateException` if there is no change to undo");
        Check.dueThrow("all is undone", x, Check.NOT_NOW, () -> x.undo());
        TicketCheck none = new TicketCheck();
        Check.dueThrow("a new object", none, Check.NOT_NOW, () -> none.undo());
        TicketCheck nine = new TicketCheck();
        for (int i = 0; i < 9; i++) {
            nine.waitFor(1);
        }
        for (int i = 0; i < 8; i++) {
            nine.undo();
        }
        Check.dueThrow("the ninth one", nine, Check.NOT_NOW, () -> nine.undo());
    }

    private static void save() {
        Document.section("Promise 16");
        Document.sentence("Saves the state in a slot and overwrites what was saved there.");
        TicketCheck x = Check.played("wait 5;");
        x.save(0);
        x.waitFor(1);
        x.save(0);
        x.save(1);
        x.waitFor(1);
        Check.due("the later state", 6, x.restore(0));
        x.waitFor(3);
        x.save(0);
        Check.due("not that of the other slot", 6, x.restore(1));
        Document.sentence("This is not a change.");
        TicketCheck y = Check.played("wait 5;");
        y.save(0);
        y.save(1);
        Check.due("one change", 1, y.undoableChanges());
        y.undo();
        Check.due("undo undoes the wait", 0, y.clock());
        Document.sentence("0 or 1", "Returns the clock.");
        y.waitFor(7);
        Check.due("slot 0", 7, y.save(0));
        y.waitFor(1);
        Check.due("slot 1", 8, y.save(1));
        Document.sentence("Throws `IllegalArgumentException` if slot is out of range");
        for (int slot : new int[] {-1, 2, MIN, MAX}) {
            Check.dueThrow("slot " + slot, y, Check.BAD, () -> y.save(slot));
        }
    }

    private static void restore() {
        Document.section("Promise 17");
        Document.sentence("Makes a saved state the present state.");
        TicketCheck x = reducible();
        String saved = Check.statePicture(x);
        x.save(0);
        Check.more(x, "pay 0;wait 14;ride ann 7 6 with 0;inspect ann;buy ann day 7;");
        x.restore(0);
        Check.due("the state", saved, Check.statePicture(x));
        Document.sentence("The state stays saved.");
        Check.more(x, "pay 0;wait 14;ride ann 7 6 with 0;inspect ann;buy ann day 7;");
        x.restore(0);
        Check.due("the same state", saved, Check.statePicture(x));
        x.undo();
        x.undo();
        x.restore(0);
        Check.due("the same state behind undo", saved, Check.statePicture(x));
        Document.sentence("0 or 1", "Returns the clock of that state.");
        x.waitFor(1);
        x.save(1);
        Check.due("slot 0", 2, x.restore(0));
        Check.due("slot 1", 3, x.restore(1));
        Document.sentence("Throws `IllegalArgumentException` if slot is out of range");
        for (int slot : new int[] {-1, 2, MIN, MAX}) {
            Check.dueThrow("slot " + slot, x, Check.BAD, () -> x.restore(slot));
        }
        Document.sentence("Throws `IllegalStateException` if nothing is saved in the slot");
        TicketCheck y = new TicketCheck();
        y.save(1);
        Check.dueThrow("slot 0", y, Check.NOT_NOW, () -> y.restore(0));
        TicketCheck z = new TicketCheck();
        z.save(0);
        Check.dueThrow("slot 1", z, Check.NOT_NOW, () -> z.restore(1));
    }
}
