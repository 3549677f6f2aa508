import java.util.Arrays;

/** Promises 1 to 7: the new object, the input buffer, load() and play() with their errors. */
final class TextTest {
    public static void main(String[] args) {
        promise1NewObject();
        promise2Append();
        promise2AppendBytes();
        promise3TruncateInput();
        promise4Load();
        promise4LoadLimits();
        promise4LoadCommands();
        promise4And5EmptyTheBuffer();
        promise5Play();
        promise5PlayEveryCommand();
        promise6And7Latest();
        nothingIsLeftOver();
        textsThatAreCutOff();
        syntaxErrorsOfSetups();
        syntaxErrorsOfCommands();
        rangeErrorsOfSetups();
        rangeErrorsOfCommands();
        nameErrors();
        tooManyErrors();
        notPossibleErrors();
        lowestCodeGoesFirst();
        namesAndSpaces();
        Check.end("TextTest");
    }

    private static void promise1NewObject() {
        TicketCheck x = new TicketCheck();
        Check.due("a new object has no change to undo", 0, x.undoableChanges());
        Check.due("a new object has an empty buffer", 20, x.append(0x20202020, 0x20202020, 0x20202020, 0, 0));
        x.truncateInput(0);
        Check.due("a new object has no error code", 0, x.errorCode());
        Check.due("a new object has no error offset", -1, x.errorOffset());
        Check.due("a new object has no output", -1, x.outputByte(0));
        Check.dueThrow("a new object has nothing in slot 0", x, Check.NOT_NOW, () -> x.restore(0));
        Check.dueThrow("a new object has nothing in slot 1", x, Check.NOT_NOW, () -> x.restore(1));
        Check.dueThrow("a new object has nothing to undo", x, Check.NOT_NOW, () -> x.undo());
        Check.due("the state is that of the text", Check.statePicture(Check.loaded(Check.DEFAULT)), Check.statePicture(x));
        int[] zones = {0, 0, 0, 1, 1, 1, 2, 2};
        Check.due("stops", zones.length, x.stopCount());
        for (int i = 0; i < zones.length; i++) {
            Check.due("zone of stop " + i, zones[i], x.zone(i));
        }
        Check.due("passengers", 3, x.passengerCount());
        Check.due("money of ann", 9000, x.money(0));
        Check.due("money of bob", 1200, x.money(1));
        Check.due("money of cy", 20000, x.money(2));
        Check.due("ann", "ann", Check.name(x, 0));
        Check.due("bob", "bob", Check.name(x, 1));
        Check.due("cy", "cy", Check.name(x, 2));
    }

    private static void promise2Append() {
        TicketCheck x = new TicketCheck();
        for (int length = 20; length <= 700; length += 20) {
            Check.due("append up to " + length, length, x.append(0x20202020, 0x20202020, 0x20202020, 0x20202020, 0x20202020));
        }
        Check.due("append above 700", -1, x.append(0x3b3b3b3b, 0, 0, 0, 0));
        Check.due("nothing is appended then", 700, x.truncateInput(700));
        x.truncateInput(681);
        Check.due("append from 681 on", -1, x.append(0x3b3b3b3b, 0, 0, 0, 0));
        Check.due("nothing is appended from 681 on", 681, x.truncateInput(681));
        Check.due("spaces alone are a script without a command", 0, x.play());
        Check.due("append into the emptied buffer", 20, x.append(0, 0, 0, 0, 0));
        x.truncateInput(0);
        Check.feed(x, " ".repeat(680));
        Check.due("append from 680 on", 700, x.append(0x20202020, 0x20202020, 0x20202020, 0x20202020, 0x2020203b));
        Check.due("the last byte counts", -1, x.play());
        Check.due("the last byte's offset", 699, x.errorOffset());
    }

    private static void promise2AppendBytes() {
        TicketCheck x = new TicketCheck();
        int[][] words = {
            {0x6c696e65, 0x20302031, 0x3b706173, 0x73656e67, 0x65722061},
            {0x62636465, 0x66203132, 0x3334353b, 0x20202020, 0x20202020},
        };
        for (int[] w : words) {
            x.append(w[0], w[1], w[2], w[3], w[4]);
        }
        Check.due("the most significant byte goes first", 1, x.load());
        Check.due("the name came whole", "abcdef", Check.name(x, 0));
        Check.due("the number came whole", 12345, x.money(0));
        for (int place = 0; place < 20; place++) {
            int[] w = new int[5];
            Arrays.fill(w, 0x20202020);
            w[place / 4] ^= (0x20 ^ 0xbb) << 24 - place % 4 * 8;
            x.append(w[0], w[1], w[2], w[3], w[4]);
            Check.due("a byte above 127 belongs to no token", -1, x.play());
            Check.due("its code", 1, x.errorCode());
            Check.due("its place", place, x.errorOffset());
        }
    }

    private static void promise3TruncateInput() {
        TicketCheck x = new TicketCheck();
        Check.due("an empty buffer can be cut to 0", 0, x.truncateInput(0));
        Check.dueThrow("an empty buffer cannot be cut to 1", x, Check.BAD, () -> x.truncateInput(1));
        Check.feed(x, "wait 12;");
        Check.dueThrow("longer than it is", x, Check.BAD, () -> x.truncateInput(9));
        Check.dueThrow("below 0", x, Check.BAD, () -> x.truncateInput(-1));
        Check.dueThrow("far below 0", x, Check.BAD, () -> x.truncateInput(Integer.MIN_VALUE));
        Check.dueThrow("far too long", x, Check.BAD, () -> x.truncateInput(Integer.MAX_VALUE));
        Check.due("as long as it is", 8, x.truncateInput(8));
        Check.due("shorter", 6, x.truncateInput(6));
        Check.due("what is cut off is gone", 26, x.append(0x3b202020, 0x20202020, 0x20202020, 0x20202020, 0x20202020));
        Check.due("the rest is read", 1, x.play());
        Check.due("wait 1", 1, x.clock());
        Check.due("truncating is no change", 1, x.undoableChanges());
    }

    private static void promise4Load() {
        TicketCheck x = new TicketCheck();
        x.buy(0, 1, 15);
        x.ride(0, 0, 7, 0);
        x.ride(1, 0, 7, -1);
        x.inspect(1);
        x.waitFor(100);
        x.save(1);
        Check.due("load returns the passengers", 2, Check.load(x, "line 3 2;passenger dee 7;passenger ed 99999;"));
        Check.due("a load is one change", 6, x.undoableChanges());
        Check.due("the stops are new", 2, x.stopCount());
        Check.due("zone 3", 3, x.zone(0));
        Check.due("zone 2", 2, x.zone(1));
        Check.due("the clock is 0", 0, x.clock());
        Check.due("no ticket", 0, x.ticketCount());
        Check.due("no case", 0, x.caseCount());
        Check.due("no inspection", 0, x.inspections());
        Check.due("no fine paid", 0, x.finesPaid());
        Check.due("no sale", 0, x.ticketSales());
        Check.due("no ride", -1, x.rideEnd(0));
        Check.due("no ride of another one", -1, x.rideEnd(1));
        Check.due("nothing odd", 0, x.inconsistencies());
        Check.due("load keeps the saved states", 100, x.restore(1));
        Check.due("and what is in them", 3, x.passengerCount());
        Check.due("undo the restore", 6, x.undo());
        Check.due("undo the load", 5, x.undo());
        Check.due("the old clock", 100, x.clock());
        Check.due("the old ticket", 1, x.ticketCount());
        Check.due("the old case", 1, x.caseCount());
    }

    private static void promise4LoadLimits() {
        TicketCheck x = new TicketCheck();
        String eight = "passenger a 0;passenger b 1;passenger c 2;passenger d 3;"
                + "passenger e 4;passenger f 5;passenger g 6;passenger abcdef 99999;";
        Check.due("12 stops and 8 passengers", 8, Check.load(x, "line 0 1 2 3 3 2 1 0 0 1 2 3;" + eight));
        Check.due("12 stops", 12, x.stopCount());
        Check.due("the last stop's zone", 3, x.zone(11));
        Check.due("the last passenger's money", 99999, x.money(7));
        Check.due("the last passenger's name", "abcdef", Check.name(x, 7));
        Check.due("the first passenger's money", 0, x.money(0));
        Check.due("a full buffer", 1, Check.load(x, Check.SMALL + " ".repeat(700 - Check.SMALL.length())));
        String front = "line 0 1;passenger a ";
        Check.due("leading zeros to the end", 1, Check.load(x, front + "0".repeat(678 - front.length()) + "12345;"));
        Check.due("leading zeros do not count", 12345, x.money(0));
    }

    private static void promise4LoadCommands() {
        TicketCheck x = new TicketCheck();
        String text = "line 0 1 2;passenger a 20000;passenger b 9000;buy a day 7;ride a 0 2 with 0;inspect a;"
                + "ride b 2 0;inspect b;wait 30;buy b day 7;appeal 0 1;decide 0;pay 0;ride b 0 1 with 1;inspect b;";
        Check.due("a setup with commands", 2, Check.load(x, text));
        Check.due("one change", 1, x.undoableChanges());
        Check.due("clock", 30, x.clock());
        Check.due("tickets", 2, x.ticketCount());
        Check.due("money of a", 18500, x.money(0));
        Check.due("money of b", 1000, x.money(1));
        Check.due("fines", 6500, x.finesPaid());
        Check.due("inspections", 3, x.inspections());
        Check.due("cases", 1, x.caseCount());
        Check.due("the case is paid", 4, x.caseState(0));
        Check.due("nothing odd, for the money at the load counts", 0, x.inconsistencies());
        Check.due("undo takes all back", 0, x.undo());
        Check.due("the first line", 8, x.stopCount());
        String before = Check.statePicture(x);
        Check.due("a late error", -1, Check.load(x, text + "pay 0;"));
        Check.due("nothing changes", before, Check.statePicture(x));
        Check.due("no change to undo", 0, x.undoableChanges());
    }

    private static void promise4And5EmptyTheBuffer() {
        TicketCheck x = new TicketCheck();
        Check.load(x, Check.DEFAULT);
        Check.dueThrow("load empties the buffer", x, Check.BAD, () -> x.truncateInput(1));
        Check.load(x, "line 0 x");
        Check.dueThrow("load empties it after an error", x, Check.BAD, () -> x.truncateInput(1));
        Check.play(x, "wait 1;");
        Check.dueThrow("play empties the buffer", x, Check.BAD, () -> x.truncateInput(1));
        Check.play(x, "wait x;");
        Check.dueThrow("play empties it after an error", x, Check.BAD, () -> x.truncateInput(1));
    }

    private static void promise5Play() {
        TicketCheck x = new TicketCheck();
        Check.due("an empty script", 0, x.play());
        Check.due("is a change", 1, x.undoableChanges());
        Check.due("spaces alone", 0, Check.play(x, "   "));
        Check.due("are a change", 2, x.undoableChanges());
        Check.due("two commands", 2, Check.play(x, "wait 1; wait 2;"));
        Check.due("are a single change", 3, x.undoableChanges());
        Check.due("the clock", 3, x.clock());
        String before = Check.statePicture(x);
        Check.due("an error after a good command", -1, Check.play(x, "wait 5; buy ann day 1; wait 0;"));
        Check.due("nothing changes", before, Check.statePicture(x));
        Check.due("an error is no change", 3, x.undoableChanges());
        x.undo();
        Check.due("undo takes the script back", 0, x.clock());
        Check.due("many commands", 100, Check.play(x, "wait 1;".repeat(100)));
        Check.due("all are executed", 100, x.clock());
    }

    private static void promise5PlayEveryCommand() {
        TicketCheck x = new TicketCheck();
        TicketCheck y = new TicketCheck();
        x.buy(0, 0, 3);
        x.buy(1, 1, 1);
        x.buy(2, 2, 15);
        x.ride(0, 0, 4, 0);
        x.ride(1, 7, 6, 1);
        x.ride(2, 5, 3, -1);
        x.inspect(0);
        x.inspect(1);
        x.inspect(2);
        x.waitFor(7);
        x.appeal(1, 2);
        x.decide(1);
        x.appeal(0, 1);
        x.pay(1);
        Check.due("every command", 14, Check.play(y, "buy ann single 3;buy bob day 1;buy cy short 15;"
                + "ride ann 0 4 with 0;ride bob 7 6 with 1;ride cy 5 3;inspect ann;inspect bob;inspect cy;"
                + "wait 7;appeal 1 2;decide 1;appeal 0 1;pay 1;"));
        Check.due("does what its method does", Check.statePicture(x), Check.statePicture(y));
        Check.due("there were two cases", 2, y.caseCount());
    }

    private static void promise6And7Latest() {
        TicketCheck x = new TicketCheck();
        Check.load(x, "line 0 1;passenger a 100000;");
        Check.due("the code stays", 2, x.errorCode());
        Check.due("the offset stays", 21, x.errorOffset());
        Check.play(x, "  buy");
        Check.due("the code of the latest call", 1, x.errorCode());
        Check.due("the offset of the latest call", 5, x.errorOffset());
        x.waitFor(1);
        Check.due("another call leaves the code", 1, x.errorCode());
        x.undo();
        Check.due("undo leaves the code", 1, x.errorCode());
        Check.due("undo leaves the offset", 5, x.errorOffset());
        x.save(0);
        x.restore(0);
        Check.due("restore leaves the code", 1, x.errorCode());
        Check.due("feeding leaves the code", 20, x.append(0x20202020, 0x20202020, 0x20202020, 0x20202020, 0x20202020));
        Check.due("still the code", 1, x.errorCode());
        x.play();
        Check.due("no error, no code", 0, x.errorCode());
        Check.due("no error, no offset", -1, x.errorOffset());
        Check.load(x, "");
        Check.due("an empty setup ends too early", 1, x.errorCode());
        Check.due("at its end", 0, x.errorOffset());
        Check.load(x, Check.SMALL);
        Check.due("a good load has no code", 0, x.errorCode());
        Check.due("a good load has no offset", -1, x.errorOffset());
    }

    /** What an earlier load() or play() did must not show in a later one. */
    private static void nothingIsLeftOver() {
        TicketCheck x = new TicketCheck();
        String used = "buy ann day 7;ride ann 0 7 with 0;inspect ann;ride cy 0 7;inspect cy;pay 0;wait 50;";
        Check.due("a script", 7, Check.play(x, used));
        Check.due("a script that fails late", -1, Check.play(x, "wait 50;pay 0;"));
        Check.due("a load", 1, Check.load(x, "line 0 1;passenger a 9000;"));
        Check.due("its clock", 0, x.clock());
        Check.due("its tickets", 0, x.ticketCount());
        Check.due("its fines", 0, x.finesPaid());
        Check.due("its inspections", 0, x.inspections());
        Check.due("a case in the place of a paid one", 2, Check.play(x, "ride a 0 1;inspect a;"));
        Check.due("it is open", TicketCheck.OPEN, x.caseState(0));
        Check.due("a ticket in the place of a stamped one", 1, Check.play(x, "buy a day 7;"));
        Check.due("it is not stamped", -1, x.stampTime(0));
        Check.due("a ride that is inspected stays so", -1, Check.play(x, "inspect a;"));
        Check.due("code 6", 6, x.errorCode());
    }

    /** The bytes behind the end of the text are still in the buffer, but they must not be read. */
    private static void textsThatAreCutOff() {
        cutOff("wait 1", "2;");
        cutOff("buy ann day 1", "2;");
        cutOff("buy ann day", "s");
        cutOff("ride ann 0 1 with", "out");
        cutOff("wait 1", ";");
        TicketCheck x = new TicketCheck();
        Check.due("a word up to the last byte", -1, Check.play(x, " ".repeat(697) + "buy"));
        Check.due("ends at 700", 700, x.errorOffset());
        Check.due("a number up to the last byte", -1, Check.play(x, " ".repeat(693) + "wait 55"));
        Check.due("ends at 700, too", 700, x.errorOffset());
    }

    private static void cutOff(String text, String rest) {
        TicketCheck x = new TicketCheck();
        Check.feed(x, text + rest);
        x.truncateInput(text.length());
        Check.due(text + " alone", -1, x.play());
        Check.due(text + " ends too early", 1, x.errorCode());
        Check.due(text + " ends where it is cut off", text.length(), x.errorOffset());
    }

    private static void syntaxErrorsOfSetups() {
        String[] texts = {
            "^", "   ^", "^;", "^7", "^lines 0 1;", "^lin 0 1;", "^Line 0 1;", "^passenger a 1;", "^linex 0 1;",
            "line^", "line  ^", "line ^;", "line 0^", "line 0^;", "line 0 ^passenger", "line ^a 0;", "line 0 ^line;",
            "line 0 1^", "line 0 1   ^", "line 0 1 ^passenger a 1;", "line 0 1 ^-1;", "line 0 1^,2;",
            "line 0 1;^", "line 0 1;  ^", "line 0 1;^;", "line 0 1;^1", "line 0 1;^wait 1;", "line 0 1;^passengers a 1;",
            "line 0 1;passenger^", "line 0 1;passenger ^1;", "line 0 1;passenger ^;", "line 0 1;passenger ^abcdefg 1;",
            "line 0 1;passenger a^", "line 0 1;passenger a ^;", "line 0 1;passenger a ^b;", "line 0 1;passenger a ^#;",
            "line 0 1;passenger a 1^", "line 0 1;passenger a 1 ^", "line 0 1;passenger a 1 ^wait", "line 0 1;passenger a 1 ^1;",
            "line 0 1;passenger a 1;^;", "line 0 1;passenger a 1;^5;", "line 0 1;passenger a 1;^line 0 1;",
            "line 0 1;passenger a 1;^abc;", "line 0 1;passenger a 1;wait 1;^passenger b 1;",
            "line 0 1;passenger a 1;^passengerb 1;", "line 0 1;passenger a 1;^\u0000",
            "line 0^\t1;passenger a 1;", "line 0 1;^\npassenger a 1;", "line 0 1;passenger ^A 1;", "line 0 1;passenger a^B 1;",
            "line 0^/1;", "line 0^:1;", "line 0 1;passenger a^` 1;", "line 0 1;passenger a^{ 1;",
        };
        for (String text : texts) {
            Check.setupFails(1, text);
        }
    }

    private static void syntaxErrorsOfCommands() {
        String[] texts = {
            "^;", "^4;", "^line 0 1;", "wait 1;^passenger x 1;", "^buys ann day 1;", "^bu", "^waits 1;", "^\u00e4;", "wait 1;^;", "wait 1; ^x",
            "buy^", "buy ^;", "buy ^1", "buy ^abcdefg", "buy ann^", "buy ann ^;", "buy ann ^1", "buy ann ^days 1;", "buy ann ^with 1;",
            "buy ann day^", "buy ann day ^;", "buy ann day ^day", "buy ann day 1^", "buy ann day 1 ^", "buy ann day 1 ^1;", "buy ann day 1 ^x;",
            "ride^", "ride ^0 1;", "ride ann^", "ride ann ^;", "ride ann ^bob", "ride ann 0^", "ride ann 0^;", "ride ann 0 ^x",
            "ride ann 0 1^", "ride ann 0 1 ^", "ride ann 0 1 ^2;", "ride ann 0 1 ^without 1;", "ride ann 0 1 with^", "ride ann 0 1 with^;",
            "ride ann 0 1 with ^with", "buy ann day 1;ride ann 0 1 with 0^", "buy ann day 1;ride ann 0 1 with 0 ^0;",
            "inspect^", "inspect ^;", "inspect ^0;", "inspect ann^", "inspect ann ^bob;", "inspect ann^0;",
            "wait^", "wait ^;", "wait ^x;", "wait 1^", "wait 1 ^2;", "wait 1^x;",
            "appeal^", "appeal ^;", "appeal ^x 0;", "decide^", "decide ^;", "decide ^ann;", "pay^", "pay ^;", "pay ^ann;",
            "buy bob day 1;ride ann 0 1;inspect ann;appeal 0^", "buy bob day 1;ride ann 0 1;inspect ann;appeal 0^;",
            "buy bob day 1;ride ann 0 1;inspect ann;appeal 0 ^with 0;", "buy bob day 1;ride ann 0 1;inspect ann;appeal 0 0^",
            "buy bob day 1;ride ann 0 1;inspect ann;appeal 0 0 ^0;", "buy bob day 1;ride ann 0 1;inspect ann;appeal 0 0;decide 0 ^0;",
            "buy bob day 1;ride ann 0 1;inspect ann;pay 0 ^0;", "buy bob day 1;ride ann 0 1;inspect ann;pay 0 ^",
        };
        for (String text : texts) {
            Check.scriptFails(1, text);
        }
    }

    private static void rangeErrorsOfSetups() {
        String[] texts = {
            "line ^4 0;", "line 0 ^4;", "line 0 1 2 3 ^4;", "line ^99999999999999999999 0;", "line 0 ^4294967296;",
            "line 0 1 ^18446744073709551616;", "line ^10", "line ^0004",
            "line 0 1;passenger a ^100000;", "line 0 1;passenger a ^4294967297;", "line 0 1;passenger a 1;passenger b ^0100000",
        };
        for (String text : texts) {
            Check.setupFails(2, text);
        }
    }

    private static void rangeErrorsOfCommands() {
        String[] texts = {
            "buy ann day ^0;", "buy ann single ^16;", "buy ann short ^4294967297;", "buy ann day ^000", "buy bob day ^16",
            "ride ann ^8 0;", "ride ann 0 ^8;", "ride ann 0 ^0;", "ride ann 7 ^7;", "ride ann ^4294967296 1;", "ride ann 0 ^00",
            "ride ann 0 1 with ^0;", "buy ann day 1;ride ann 0 1 with ^1;", "ride ann 1 0 with ^99999999999",
            "wait ^0;", "wait ^10000;", "wait ^4294967297;", "wait 9999;wait ^0",
            "wait 9999;".repeat(10) + "wait ^10;", "wait 9999;".repeat(10) + "wait 9;wait ^1;", "wait 9999;".repeat(10) + "wait ^9999;",
            "appeal ^0 0;", "buy ann day 1;appeal ^0 0;", "ride ann 0 1;inspect ann;appeal 0 ^0;", "decide ^0;", "pay ^0;",
            "ride ann 0 1;inspect ann;buy ann day 1;appeal ^1 0;", "ride ann 0 1;inspect ann;buy ann day 1;appeal 0 ^1;",
            "ride ann 0 1;inspect ann;decide ^1;", "ride ann 0 1;inspect ann;pay ^1;", "ride ann 0 1;inspect ann;pay ^4294967296;",
        };
        for (String text : texts) {
            Check.scriptFails(2, text);
        }
        Check.due("the clock may be 99999", 11, Check.play(new TicketCheck(), "wait 9999;".repeat(10) + "wait 9;"));
        Check.due("stop 7, zones 15", 2, Check.play(new TicketCheck(), "ride ann 7 0;buy cy day 15;"));
        Check.due("ticket 0, case 0", 5, Check.play(new TicketCheck(),
                "ride ann 0 7;inspect ann;buy cy short 1;appeal 0 0;decide 0;"));
    }

    private static void nameErrors() {
        Check.scriptFails(3, "buy ^dan day 1;");
        Check.scriptFails(3, "buy ^an day 1;");
        Check.scriptFails(3, "buy ^anna day 1;");
        Check.scriptFails(3, "buy ^abcdef");
        Check.scriptFails(3, "buy ^single 1;");
        Check.scriptFails(3, "ride ^cyy 0 1;");
        Check.scriptFails(3, "inspect ^c;");
        Check.scriptFails(3, "wait 1;inspect ^inspec");
        Check.setupFails(4, "line 0 1;passenger a 1;passenger ^a 2;");
        Check.setupFails(4, "line 0 1;passenger ab 1;passenger b 1;passenger a 2;passenger ^ab");
        Check.setupFails(4, "line 0 1;passenger a 1;passenger abcdef 1;passenger ^abcdef 1;");
        Check.due("the names of the line before are free", 1, Check.load(new TicketCheck(), "line 0 1;passenger ann 1;"));
        Check.setupFails(3, "line 0 1;passenger a 1;inspect ^ann;");
    }

    private static void tooManyErrors() {
        String twelve = "line 0 1 2 3 0 1 2 3 0 1 2 3";
        Check.setupFails(5, twelve + " ^0;passenger a 1;");
        Check.setupFails(5, twelve + " ^3");
        Check.setupFails(5, twelve + " ^0003 0 0 0");
        String eight = "line 0 1;passenger a 0;passenger b 0;passenger c 0;passenger d 0;"
                + "passenger e 0;passenger f 0;passenger g 0;passenger h 0;";
        Check.setupFails(5, eight + "^passenger i 0;");
        Check.setupFails(5, eight + "^passenger");
        Check.setupFails(5, eight + "^passenger a 0;");
        Check.setupFails(1, eight + "^passengers i 0;");
        Check.setupFails(1, eight + "wait 1;^passenger i 0;");
    }

    private static void notPossibleErrors() {
        String[] texts = {
            "buy bob day 7^;", "buy bob day 3;buy bob short 1;buy bob short 1 ^;",
            "buy cy short 1;".repeat(30) + "buy cy short 1^;",
            "ride ann 0 1;ride ann 1 0^;", "ride ann 0 7;wait 13;ride ann 0 1^;", "buy ann day 1;ride bob 0 1 with 0^;",
            "inspect ann^;", "ride ann 0 1;wait 2;inspect ann^;", "ride ann 0 1;inspect ann;inspect ann^;",
            "ride ann 0 1;inspect ann;buy bob day 1;appeal 0 0;appeal 0 0^;", "ride ann 0 1;inspect ann;decide 0^;",
            "ride ann 0 1;inspect ann;pay 0;pay 0^;", "ride bob 0 1;inspect bob;pay 0^;",
            "ride ann 0 1;inspect ann;buy bob day 1;appeal 0 0;pay 0^;", "ride ann 0 1;inspect ann;pay 0;buy bob day 1;appeal 0 0^;",
            "ride ann 0 1;inspect ann;buy bob day 1;wait 9999;wait 9999;wait 163;appeal 0 0^;",
        };
        for (String text : texts) {
            Check.scriptFails(6, text);
        }
        Check.due("not yet overdue", 7, Check.play(new TicketCheck(),
                "ride ann 0 1;inspect ann;buy bob day 1;wait 9999;wait 9999;wait 162;appeal 0 0;"));
        Check.due("the tram has arrived", 3, Check.play(new TicketCheck(), "ride ann 0 7;wait 14;ride ann 0 1;"));
    }

    private static void lowestCodeGoesFirst() {
        Check.setupFails(1, "line 0 1;passenger abcdef 1;passenger ^abcdefg 1;");
        Check.scriptFails(1, "inspect ^abcdefgh;");
        Check.setupFails(2, "line 0 1 2 3 0 1 2 3 0 1 2 3 ^4;");
        Check.setupFails(2, "line 0 1 2 3 0 1 2 3 0 1 2 3 ^99999999999;");
        Check.setupFails(1, "line 0 1 2 3 0 1 2 3 0 1 2 3 ^a;");
        Check.scriptFails(1, "inspect ann^");
        Check.scriptFails(1, "buy bob day 15 ^with;");
    }

    private static void namesAndSpaces() {
        TicketCheck x = new TicketCheck();
        Check.due("keywords as names", 4, Check.load(x, "line 0 1;passenger line 900;passenger buy 900;"
                + "passenger with 900;passenger day 900;buy buy short 1;buy day day 1;ride with 0 1;ride buy 1 0 with 0;inspect with;"));
        Check.due("the ticket of buy", 1, x.ticketHolder(0));
        Check.due("the ticket of day", 3, x.ticketHolder(1));
        Check.due("the case of with", 2, x.casePassenger(0));
        Check.due("no space but between two words and two numbers", 1,
                Check.load(x, "line0 1 2;passenger a1000;buy a single3;ride a0 1with0;inspect a;wait5;ride a1 0;inspect a;"));
        Check.due("all is read", 2, x.inspections());
        Check.due("spaces everywhere", 1, Check.load(x,
                "   line   0    1 2  ;   passenger   a   1000  ;  buy  a  single  3  ;  ride  a  0  1  with  0  ;  "));
        Check.due("all is read, too", 1, x.ticketRides(0));
        Check.due("a number runs on", -1, Check.load(x, "line 01;passenger a 1;"));
        Check.due("so one zone is missing", 7, x.errorOffset());
    }
}
