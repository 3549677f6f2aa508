import java.util.ArrayList;
import java.util.List;
import java.util.Random;

/**
 * Long runs of mixed calls from fixed seeds: one object gets calls, a second one the same as texts.
 * They must agree on the state and on what is refused, and undo, save and restore must bring back old states.
 */
final class RandomRunTest {
    private static final String[] NAMES = {"ann", "bob", "cy", "nobody"};
    private static final String[] KINDS = {"single", "day", "short"};
    private static final String SETUP = "line 0 0 1 1 2 2 3 3 0;passenger ann 90000;passenger bob 99999;passenger cy 30000;";
    private static final int RUNS = 150;
    private static final int CALLS = 500;

    private final Random random;
    private final TicketCheck byCalls = new TicketCheck();
    private final TicketCheck byTexts = new TicketCheck();
    private final List<String> older = new ArrayList<>();
    private final String[] saved = new String[2];
    private int refused;
    private int accepted;

    private RandomRunTest(int seed) {
        random = new Random(seed);
    }

    public static void main(String[] args) {
        int refused = 0;
        int accepted = 0;
        for (int seed = 0; seed < RUNS; seed++) {
            RandomRunTest run = new RandomRunTest(seed);
            run.run(seed);
            refused += run.refused;
            accepted += run.accepted;
        }
        Check.due("many calls are accepted", true, accepted > RUNS * CALLS / 8);
        Check.due("many calls are refused", true, refused > RUNS * CALLS / 8);
        for (int seed = 0; seed < RUNS; seed++) {
            wildCalls(new Random(seed));
            wildTexts(new Random(seed));
        }
        Check.end("RandomRunTest");
    }

    private void run(int seed) {
        Check.load(byCalls, SETUP);
        Check.load(byTexts, SETUP);
        older.add(Check.statePicture(new TicketCheck()));
        for (int i = 0; i < CALLS; i++) {
            step();
            String what = "seed " + seed + ", step " + i;
            Check.due(what + ": calls and texts agree", Check.statePicture(byCalls), Check.statePicture(byTexts));
            Check.due(what + ": changes", older.size(), byCalls.undoableChanges());
            Check.due(what + ": nothing odd", 0, byCalls.inconsistencies());
        }
    }

    private void step() {
        int kind = random.nextInt(100);
        if (kind < 6 && !older.isEmpty()) {
            byCalls.undo();
            byTexts.undo();
            Check.due("undo", older.remove(older.size() - 1), Check.statePicture(byCalls));
        } else if (kind < 9) {
            int slot = random.nextInt(2);
            saved[slot] = Check.statePicture(byCalls);
            byCalls.save(slot);
            byTexts.save(slot);
        } else if (kind < 11) {
            restore(random.nextInt(2));
        } else {
            command();
        }
    }

    private void restore(int slot) {
        String before = Check.statePicture(byCalls);
        if (saved[slot] == null) {
            Check.dueThrow("restore", byCalls, Check.NOT_NOW, () -> byCalls.restore(slot));
            return;
        }
        byCalls.restore(slot);
        byTexts.restore(slot);
        keep(before);
        Check.due("restore", saved[slot], Check.statePicture(byCalls));
    }

    private void keep(String picture) {
        older.add(picture);
        if (older.size() > 8) {
            older.remove(0);
        }
    }

    private void command() {
        int passenger = random.nextInt(32) == 0 ? 3 : random.nextInt(3);
        int ticket = random.nextInt(byCalls.ticketCount() + 1);
        int number = random.nextInt(byCalls.caseCount() + 1);
        String name = NAMES[passenger];
        switch (random.nextInt(12)) {
            case 0: {
                int kind = random.nextInt(3);
                int zones = random.nextInt(17);
                both("buy " + name + " " + KINDS[kind] + " " + zones + ";", () -> byCalls.buy(passenger, kind, zones));
                break;
            }
            case 1:
            case 2:
            case 3: {
                int from = random.nextInt(10);
                int to = random.nextInt(9);
                int with = random.nextInt(3) == 0 ? TicketCheck.NONE : ticket;
                String tail = with == TicketCheck.NONE ? ";" : " with " + with + ";";
                both("ride " + name + " " + from + " " + to + tail, () -> byCalls.ride(passenger, from, to, with));
                break;
            }
            case 4:
            case 5:
                both("inspect " + name + ";", () -> byCalls.inspect(passenger));
                break;
            case 6:
            case 7: {
                int minutes = random.nextInt(20) == 0 ? random.nextInt(10002) : random.nextInt(12);
                both("wait " + minutes + ";", () -> byCalls.waitFor(minutes));
                break;
            }
            case 8:
                both("appeal " + number + " " + ticket + ";", () -> byCalls.appeal(number, ticket));
                break;
            case 9:
                both("decide " + number + ";", () -> byCalls.decide(number));
                break;
            case 10:
                both("pay " + number + ";", () -> byCalls.pay(number));
                break;
            default:
                both("", () -> byCalls.play());
                break;
        }
    }

    private void both(String text, Check.Call call) {
        String before = Check.statePicture(byCalls);
        String answer = Check.answer(call);
        int played = Check.play(byTexts, text);
        if (!answer.startsWith("throws")) {
            accepted++;
            keep(before);
            Check.due(text, text.isEmpty() ? 0 : 1, played);
            return;
        }
        refused++;
        Check.due(text, -1, played);
        Check.due(text + " changes nothing", before, Check.statePicture(byCalls));
        boolean notPossible = answer.equals("throws " + Check.NOT_NOW.getName()) && !text.startsWith("wait");
        int code = notPossible ? 6 : text.contains("nobody") ? 3 : 2;
        Check.due("code of " + text, code, byTexts.errorCode());
    }

    /** Any numbers whatever: only the exceptions of the document may come out, and they change nothing. */
    private static void wildCalls(Random random) {
        TicketCheck x = new TicketCheck();
        Check.load(x, SETUP);
        for (int i = 0; i < CALLS; i++) {
            String before = Check.picture(x);
            int a = wild(random);
            int b = wild(random);
            int c = wild(random);
            int d = wild(random);
            String answer = Check.answer(() -> wildCall(random.nextInt(12), x, a, b, c, d));
            if (answer.startsWith("throws")) {
                Check.due("a refused call changes nothing", before, Check.picture(x));
                boolean listed = answer.equals("throws " + Check.NO_SUCH.getName())
                        || answer.equals("throws " + Check.BAD.getName())
                        || answer.equals("throws " + Check.NOT_NOW.getName());
                Check.due(answer + " is listed", true, listed);
            }
        }
    }

    private static Object wildCall(int call, TicketCheck x, int a, int b, int c, int d) {
        switch (call) {
            case 0: return x.buy(a, b, c);
            case 1: return x.ride(a, b, c, d);
            case 2: return x.inspect(a);
            case 3: return x.waitFor(a);
            case 4: return x.appeal(a, b);
            case 5: return x.decide(a);
            case 6: return x.pay(a);
            case 7: return x.truncateInput(a);
            case 8: return x.append(a, b, c, d, a);
            case 9: return x.save(a);
            case 10: return x.restore(a);
            default: return x.zonesBetween(a, b) + x.cheapestKind(c, d) + x.outputByte(a) + x.writeCases();
        }
    }

    private static int wild(Random random) {
        switch (random.nextInt(8)) {
            case 0: return random.nextInt();
            case 1: return random.nextBoolean() ? Integer.MAX_VALUE : Integer.MIN_VALUE;
            case 2: return random.nextInt(40) - 5;
            default: return random.nextInt(4) - 1;
        }
    }

    /** Texts from parts of good ones: every load and play must end, and an error must change nothing. */
    private static void wildTexts(Random random) {
        String[] parts = {"line", "passenger", "buy", "ride", "inspect", "wait", "appeal", "decide", "pay", "with", "single",
            "day", "short", "ann", "bob", "cy", "toolong", "0", "1", "2", "15", "99999999999", ";", ";", ";", ";", "#", "\u00ff",
            "line 0 1;passenger ann 20000;", "buy ann day 1;", "ride ann 0 1 with 0;", "inspect ann;", "ride cy 0 1;"};
        TicketCheck x = new TicketCheck();
        for (int i = 0; i < 100; i++) {
            StringBuilder text = new StringBuilder();
            for (int k = random.nextInt(12); k > 0; k--) {
                text.append(parts[random.nextInt(parts.length)]).append(random.nextInt(4) == 0 ? "" : " ");
            }
            String before = Check.statePicture(x);
            int changes = x.undoableChanges();
            int answer = random.nextBoolean() ? Check.load(x, text.toString()) : Check.play(x, text.toString());
            boolean failed = answer == TicketCheck.NONE;
            Check.due("an error has a code", failed, x.errorCode() != 0);
            Check.due("an error has an offset", failed, x.errorOffset() >= 0);
            Check.due("the offset is in the text", true, x.errorOffset() <= text.length());
            if (failed) {
                Check.due("an error changes nothing", before, Check.statePicture(x));
                Check.due("an error is no change", changes, x.undoableChanges());
            } else {
                Check.due("a good text is a change", Math.min(8, changes + 1), x.undoableChanges());
            }
        }
    }
}
