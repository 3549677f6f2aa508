import java.lang.reflect.Constructor;
import java.lang.reflect.Field;
import java.lang.reflect.Method;
import java.lang.reflect.Modifier;
import java.util.Arrays;
import java.util.Set;
import java.util.TreeSet;

/** The public face: just the constants, the constructor and the methods of the document. */
final class FaceTest {
    private static final String[] METHODS = {
        "int append(int, int, int, int, int)",
        "int truncateInput(int) IllegalArgumentException",
        "int load()",
        "int play()",
        "int errorCode()",
        "int errorOffset()",
        "int buy(int, int, int) IndexOutOfBoundsException IllegalArgumentException IllegalStateException",
        "int ride(int, int, int, int) IndexOutOfBoundsException IllegalArgumentException IllegalStateException",
        "int inspect(int) IndexOutOfBoundsException IllegalStateException",
        "int waitFor(int) IllegalArgumentException IllegalStateException",
        "int appeal(int, int) IndexOutOfBoundsException IllegalStateException",
        "int decide(int) IndexOutOfBoundsException IllegalStateException",
        "int pay(int) IndexOutOfBoundsException IllegalStateException",
        "int undo() IllegalStateException",
        "int save(int) IllegalArgumentException",
        "int restore(int) IllegalArgumentException IllegalStateException",
        "int clock()",
        "int day()",
        "int stopCount()",
        "int passengerCount()",
        "int ticketCount()",
        "int caseCount()",
        "int undoableChanges()",
        "int zone(int) IndexOutOfBoundsException",
        "int zonesBetween(int, int) IndexOutOfBoundsException",
        "int money(int) IndexOutOfBoundsException",
        "boolean isRiding(int) IndexOutOfBoundsException",
        "int rideEnd(int) IndexOutOfBoundsException",
        "int rideTicket(int) IndexOutOfBoundsException",
        "int faultNow(int) IndexOutOfBoundsException",
        "int debt(int) IndexOutOfBoundsException",
        "int unpaidCases(int) IndexOutOfBoundsException",
        "int nameByte(int, int) IndexOutOfBoundsException",
        "int cheapestKind(int, int) IndexOutOfBoundsException",
        "int ticketHolder(int) IndexOutOfBoundsException",
        "int ticketKind(int) IndexOutOfBoundsException",
        "int ticketZones(int) IndexOutOfBoundsException",
        "int ticketPrice(int) IndexOutOfBoundsException",
        "int stampTime(int) IndexOutOfBoundsException",
        "int stampStop(int) IndexOutOfBoundsException",
        "int ticketRides(int) IndexOutOfBoundsException",
        "boolean isInTime(int) IndexOutOfBoundsException",
        "int casePassenger(int) IndexOutOfBoundsException",
        "int caseFault(int) IndexOutOfBoundsException",
        "int caseState(int) IndexOutOfBoundsException",
        "int caseTime(int) IndexOutOfBoundsException",
        "int amountDue(int) IndexOutOfBoundsException",
        "int caseTicket(int) IndexOutOfBoundsException",
        "boolean isOverdue(int) IndexOutOfBoundsException",
        "int outlook(int, int) IndexOutOfBoundsException",
        "int ticketSales()",
        "int finesPaid()",
        "int inspections()",
        "int inconsistencies()",
        "double faultShare()",
        "float meanPrice()",
        "int writeCases()",
        "int outputByte(int)",
    };

    private static final String[] CONSTANTS = {
        "NONE -1", "SINGLE 0", "DAY 1", "SHORT 2", "OPEN 0", "APPEALED 1", "REDUCED 2", "REJECTED 3", "PAID 4",
    };

    public static void main(String[] args) throws IllegalAccessException {
        Check.due("the class is public and final", Modifier.PUBLIC | Modifier.FINAL,
                TicketCheck.class.getModifiers() & (Modifier.PUBLIC | Modifier.FINAL));
        Check.due("the methods", new TreeSet<>(Arrays.asList(METHODS)), openMethods());
        Check.due("the constants", new TreeSet<>(Arrays.asList(CONSTANTS)), openFields());
        Constructor<?>[] constructors = TicketCheck.class.getDeclaredConstructors();
        Check.due("one constructor", 1, constructors.length);
        Check.due("it is public and has no parameter", "public TicketCheck()", constructors[0].toString());
        noPrivateMethodBearsAPublicName();
        Check.end("FaceTest");
    }

    private static Set<String> openMethods() {
        Set<String> found = new TreeSet<>();
        for (Method method : TicketCheck.class.getDeclaredMethods()) {
            if (!Modifier.isPrivate(method.getModifiers())) {
                found.add(describe(method));
            }
        }
        return found;
    }

    private static String describe(Method method) {
        StringBuilder text = new StringBuilder();
        text.append(Modifier.isPublic(method.getModifiers()) ? "" : "not public: ");
        text.append(method.getReturnType().getName()).append(' ').append(method.getName()).append('(');
        for (int i = 0; i < method.getParameterCount(); i++) {
            text.append(i == 0 ? "" : ", ").append(method.getParameterTypes()[i].getName());
        }
        text.append(')');
        for (Class<?> thrown : method.getExceptionTypes()) {
            text.append(' ').append(thrown.getSimpleName());
        }
        return text.toString();
    }

    private static Set<String> openFields() throws IllegalAccessException {
        Set<String> found = new TreeSet<>();
        for (Field field : TicketCheck.class.getDeclaredFields()) {
            if (!Modifier.isPrivate(field.getModifiers())) {
                found.add(field.getName() + " " + field.getInt(null));
            }
        }
        return found;
    }

    private static void noPrivateMethodBearsAPublicName() {
        Set<String> names = new TreeSet<>();
        for (Method method : TicketCheck.class.getDeclaredMethods()) {
            Check.due(method.getName() + " is there once", true, names.add(method.getName()));
        }
    }
}
