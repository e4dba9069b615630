import java.lang.reflect.InvocationTargetException;
import java.lang.reflect.Method;
import java.util.ArrayList;
import java.util.HashMap;
import java.util.List;
import java.util.Map;
import java.util.Random;

/** Runs of calls drawn by fixed seeds, on a WhyRoom and on the PlainModel: every answer is the same. */
public final class ModelTest {
    private static final int RUNS = 1500;
    private static final String[] TELLING = {"asked", "upper", "lower", "finding"};
    private static final int[] WILD = {-1, -2, Integer.MIN_VALUE, Integer.MAX_VALUE, 1 << 20, 41, 81, 10, 14, 6, 3, 2147483646};

    private final Map<String, Method> real = methodsOf(WhyRoom.class);
    private final Map<String, Method> plain = methodsOf(PlainModel.class);
    private final List<String> names = new ArrayList<>(new java.util.TreeSet<>(real.keySet()));
    private Random random;
    private WhyRoom room;
    private PlainModel model;
    private StringBuilder log;
    private int wrong;
    private final Map<String, Integer> served = new HashMap<>();

    public static void main(String[] args) throws ReflectiveOperationException {
        ModelTest test = new ModelTest();
        int runs = args.length > 0 ? Integer.parseInt(args[0]) : RUNS;
        for (int run = 0; run < runs && test.wrong == 0; run++) {
            test.random = new Random(7919L * run + (args.length > 1 ? Long.parseLong(args[1]) : 1));
            test.run();
        }
        for (String name : test.names) {
            if (test.wrong == 0 && test.served.getOrDefault(name, 0) < 5) {
                System.out.println(name + " was hardly ever answered: the runs are too poor");
                test.wrong++;
            }
        }
        if (test.wrong != 0) {
            System.exit(1);
        }
        System.out.println("runs as the plain model: " + runs);
    }

    private static Map<String, Method> methodsOf(Class<?> type) {
        Map<String, Method> out = new HashMap<>();
        for (Method method : type.getDeclaredMethods()) {
            boolean isFace = type == PlainModel.class || java.lang.reflect.Modifier.isPublic(method.getModifiers());
            if (isFace && !method.isSynthetic() && !java.lang.reflect.Modifier.isPrivate(method.getModifiers())) {
                method.setAccessible(true);
                out.put(method.getName(), method);
            }
        }
        return out;
    }

    private void run() throws ReflectiveOperationException {
        room = new WhyRoom();
        model = new PlainModel();
        log = new StringBuilder();
        if (random.nextInt(8) != 0) {
            writeRoom();
        }
        for (int i = 0; i < 100 && wrong == 0; i++) {
            int what = random.nextInt(60);
            if (what == 0) {
                writeRoom();
            } else if (what <= 2) {
                writeTale();
            } else if (what <= 4) {
                playOn();
            } else {
                callSome();
            }
        }
        call("digest");
        for (int f = 1; f <= 5; f++) {
            call("findings", f);
        }
    }

    private void callSome() throws ReflectiveOperationException {
        String name = names.get(random.nextInt(names.size()));
        if ((name.equals("room") || name.equals("away")) && random.nextInt(3) != 0) {
            return;
        }
        int[] args = new int[real.get(name).getParameterCount()];
        for (int i = 0; i < args.length; i++) {
            args[i] = argument(name, i);
        }
        call(name, args);
    }

    private int argument(String name, int i) {
        if (random.nextInt(40) == 0) {
            return WILD[random.nextInt(WILD.length)];
        }
        if (random.nextInt(40) == 0) {
            return random.nextInt();
        }
        int claims = Math.max(1, room.count(0));
        int reasons = Math.max(1, room.count(1));
        switch (name) {
            case "row":
                return random.nextInt(i == 0 ? 6 : 9);
            case "lay":
                return i == 2 ? random.nextInt(14) == 0 ? random.nextInt() : random.nextInt(10) : random.nextInt(6);
            case "text":
                return random.nextInt(i == 0 ? 4 : 12);
            case "put":
                return i == 2 ? random.nextInt(300) - 150 : random.nextInt(i == 0 ? 4 : 40);
            case "reason":
                return random.nextInt(i == 0 ? reasons : 3);
            case "trust":
                return i == 0 ? random.nextInt(reasons) : 1 + random.nextInt(9);
            case "answer":
                return random.nextInt(i == 0 ? reasons : claims);
            case "mark":
                return i == 0 ? random.nextInt(claims) : 1 + random.nextInt(5);
            case "claim":
                return random.nextInt(i == 0 ? claims : 5);
            case "away", "learn":
                return random.nextInt(i == 0 ? claims : 2);
            case "law":
                return random.nextInt(2);
            case "undo":
                return random.nextInt(room.count(2) + 1);
            case "longest":
                return random.nextInt(i == 0 ? claims : 6);
            case "fits":
                return random.nextInt(i == 2 ? 6 : claims);
            case "odds":
                return random.nextInt(i == 1 ? 7 : claims);
            case "night":
                return 1 + random.nextInt(i == 0 ? 20 : 2147483646);
            case "count":
                return random.nextInt(9);
            case "findings":
                return 1 + random.nextInt(5);
            case "image", "on":
                return random.nextInt(3);
            case "room", "fault":
                return random.nextInt(4);
            case "tear", "mean", "at", "copy", "asks", "judge", "held", "lied":
                return random.nextInt(6);
            default:
                return random.nextInt(claims);
        }
    }

    /** A TEXT that is a ROOM, or nearly. */
    private void writeRoom() throws ReflectiveOperationException {
        StringBuilder text = new StringBuilder();
        int claims = 1 + random.nextInt(10);
        String letters = random.nextInt(4) == 0 ? "hhaameec" : "cccceelahmhc";
        StringBuilder kinds = new StringBuilder();
        blanks(text);
        for (int x = 0; x < claims; x++) {
            char letter = letters.charAt(random.nextInt(letters.length()));
            kinds.append(letter);
            text.append(letter);
            blanks(text);
        }
        int most = random.nextInt(16);
        int parts = 1 + random.nextInt(3);
        int[] reasons = new int[10];
        for (int k = 0; k < most; k++) {
            int x = random.nextInt(claims);
            boolean bad = "el".indexOf(kinds.charAt(x)) >= 0 || reasons[x] == 4;
            if (bad && random.nextInt(100) != 0) {
                continue;
            }
            int before = text.length();
            writeReason(text, x, claims, Math.min(claims - 1, 1 + random.nextInt(parts)));
            if (text.length() > 80 && random.nextInt(10) != 0) {
                text.setLength(before);
                break;
            }
            reasons[x]++;
            blanks(text);
        }
        if (random.nextInt(6) == 0) {
            spoil(text);
        }
        text.setLength(Math.min(80, text.length()));
        int t = random.nextInt(4);
        call("text", t, text.length());
        for (int i = 0; i < text.length(); i++) {
            call("put", t, i, text.charAt(i) + 256 * random.nextInt(2));
        }
        call("fault", t);
        call("room", t);
    }

    private void blanks(StringBuilder text) {
        while (random.nextInt(12) == 0) {
            text.append(' ');
        }
    }

    private void writeReason(StringBuilder text, int x, int claims, int many) {
        text.append('b').append(x).append(many);
        int told = 1 << x;
        for (int i = 0; i < many; i++) {
            int part = random.nextInt(claims);
            while ((told >> part & 1) == 1 && random.nextInt(300) != 0) {
                part = random.nextInt(claims);
            }
            told |= 1 << part;
            text.append(part);
        }
        text.append(1 + random.nextInt(9));
    }

    private void spoil(StringBuilder text) {
        String signs = "celahmb0123456789 x";
        int place = text.length() == 0 ? 0 : random.nextInt(text.length());
        switch (random.nextInt(4)) {
            case 0:
                text.insert(place, signs.charAt(random.nextInt(signs.length())));
                break;
            case 1:
                text.setLength(place);
                break;
            case 2:
                text.deleteCharAt(place);
                break;
            default:
                text.setCharAt(place, random.nextInt(4) == 0 ? (char) random.nextInt(256)
                        : signs.charAt(random.nextInt(signs.length())));
        }
    }

    /** A ROW that tells an EVENING, mostly one that could be. */
    private void writeTale() throws ReflectiveOperationException {
        int claims = room.count(0);
        int reasons = room.count(1);
        if (claims == 0 || reasons == 0) {
            return;
        }
        int r = random.nextInt(6);
        int pairs = random.nextInt(random.nextInt(5) == 0 ? 17 : 5);
        int x = random.nextInt(claims);
        List<Integer> tale = new ArrayList<>(List.of(x));
        for (int i = 0; i < pairs; i++) {
            int[] pair = pairFrom(x, claims, reasons);
            tale.add(pair[0]);
            tale.add(pair[1]);
            x = pair[1];
        }
        call("row", r, tale.size());
        for (int i = 0; i < tale.size(); i++) {
            call("lay", r, i, random.nextInt(60) == 0 ? 10 : tale.get(i));
        }
        call("judge", r);
        call("held", r);
        call("lied", r);
    }

    private int[] pairFrom(int x, int claims, int reasons) throws ReflectiveOperationException {
        int k = random.nextInt(reasons);
        for (int tries = 0; tries < 40 && random.nextInt(60) != 0; tries++) {
            k = random.nextInt(reasons);
            call("reason", k, 0);
            if (room.asked() == x) {
                break;
            }
        }
        call("reason", k, 1);
        int parts = room.asked();
        int part = random.nextInt(claims);
        while ((parts >> part & 1) == 0 && random.nextInt(60) != 0) {
            part = random.nextInt(claims);
        }
        return new int[] {k, part};
    }

    /** Some ANSWERS that may be. */
    private void playOn() throws ReflectiveOperationException {
        if (random.nextInt(3) == 0 || room.may() <= 0) {
            call("begin", random.nextInt(Math.max(1, room.count(0))));
        }
        int answers = random.nextInt(8);
        for (int i = 0; i < answers && room.may() > 0; i++) {
            List<Integer> open = new ArrayList<>();
            for (int k = 0; k < 14; k++) {
                if ((room.may() >> k & 1) == 1) {
                    open.add(k);
                }
            }
            int k = open.get(random.nextInt(open.size()));
            call("reason", k, 1);
            int parts = room.asked();
            int part = Integer.numberOfTrailingZeros(parts);
            if (random.nextBoolean()) {
                part = 31 - Integer.numberOfLeadingZeros(parts);
            }
            call("answer", k, part);
            call("ends");
            call("may");
        }
    }

    private void call(String name, int... args) throws ReflectiveOperationException {
        if (wrong > 0) {
            return;
        }
        Object[] boxed = new Object[args.length];
        for (int i = 0; i < args.length; i++) {
            boxed[i] = args[i];
        }
        log.append(name).append(java.util.Arrays.toString(args)).append('\n');
        long due = ask(plain.get(name), model, boxed);
        long got = ask(real.get(name), room, boxed);
        if (got >= 0 || name.equals("digest")) {
            served.merge(name, 1, Integer::sum);
        }
        compare(name, due, got);
        for (String telling : TELLING) {
            compare(telling, ask(plain.get(telling), model), ask(real.get(telling), room));
        }
        if (random.nextInt(20) == 0 || got < 0) {
            compare("digest", model.digest(), room.digest());
        }
    }

    private long ask(Method method, Object on, Object... args) throws ReflectiveOperationException {
        model.forget();
        try {
            return ((Number) method.invoke(on, args)).longValue();
        } catch (InvocationTargetException thrown) {
            System.out.println(log);
            throw thrown;
        }
    }

    private void compare(String name, long due, long got) {
        if (due != got && wrong == 0) {
            wrong++;
            System.out.println(log + name + " answered " + got + ", due is " + due);
        }
    }
}
