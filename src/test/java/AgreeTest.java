import java.lang.reflect.InvocationTargetException;
import java.lang.reflect.Method;
import java.util.ArrayList;
import java.util.Arrays;
import java.util.Comparator;
import java.util.List;
import java.util.Random;

/** Runs by draws of a told seed: the class answers each call as the model does, whatever is asked of it. */
public final class AgreeTest {
    private static final Due DUE = new Due();
    /** An object is used for at most 512 calls: what later ones answer is free. */
    private static final int RUNS = 1500, CALLS = 512;
    private static final int[] EDGES = {-1, 0, 1, 40, 41, 200, 201, Integer.MIN_VALUE, Integer.MAX_VALUE, -1000000};

    private static Random draws;
    private static InkTaken told;
    private static Model model;
    private static int run;
    private static int called;

    public static void main(String[] args) throws ReflectiveOperationException {
        List<Method> calls = new ArrayList<>();
        for (Method one : Model.class.getDeclaredMethods()) {
            boolean helper = java.lang.reflect.Modifier.isPrivate(one.getModifiers()) || one.isSynthetic();
            if (!helper) calls.add(one);
        }
        calls.sort(Comparator.comparing(Method::getName));
        DUE.is("calls of the face", calls.size(), 36);
        for (run = 0; run < RUNS; run++) {
            draws = new Random(run);
            begin();
            if (run % 8 != 0) tell();
            while (called < CALLS) any(calls.get(draws.nextInt(calls.size())));
        }
        textsOneByteOff("i10,6;s3;l09;w1,0,4;a2,0,7;y63,1,20;");
        DUE.end();
    }

    private static void begin() {
        told = new InkTaken();
        model = new Model();
        called = 0;
    }

    /** Every byte in place of every one, and between any two; every one left out. */
    private static void textsOneByteOff(String text) throws ReflectiveOperationException {
        for (int at = 0; at <= text.length(); at++) {
            String ahead = text.substring(0, at);
            String behind = text.substring(Math.min(at + 1, text.length()));
            readAnew(ahead + behind);
            for (int one = 0; one < 256; one++) {
                readAnew(ahead + (char) one + behind);
                readAnew(ahead + (char) one + text.substring(at));
            }
        }
    }

    private static void readAnew(String text) throws ReflectiveOperationException {
        begin();
        read(text);
        same(Model.class.getDeclaredMethod("count", int.class), new Object[] {3});
    }

    private static void any(Method call) throws ReflectiveOperationException {
        if (call.getName().equals("archive") || call.getName().equals("feed")) {
            if (draws.nextInt(12) == 0) tell();
            return;
        }
        Object[] numbers = new Object[call.getParameterCount()];
        for (int i = 0; i < numbers.length; i++) numbers[i] = number();
        same(call, numbers);
        if (call.getName().equals("row") && draws.nextInt(3) > 0) fill((int) numbers[0]);
    }

    /** DAYS as a row would tell them, so that forged has something to find. */
    private static void fill(int row) throws ReflectiveOperationException {
        Method set = Model.class.getDeclaredMethod("set", int.class, int.class, int.class);
        for (int i = 0; i < 12; i++) same(set, new Object[] {row, i, draws.nextInt(model.count(4) + 3) - 1});
    }

    private static void same(Method call, Object[] numbers) throws ReflectiveOperationException {
        if (called >= CALLS) return;
        called++;
        Object due = call.invoke(model, numbers);
        Object got;
        try {
            got = InkTaken.class.getMethod(call.getName(), call.getParameterTypes()).invoke(told, numbers);
        } catch (InvocationTargetException thrown) {
            got = thrown.getCause();
        }
        DUE.is("run " + run + ": " + call.getName() + Arrays.toString(numbers), got, due);
    }

    private static int number() {
        switch (draws.nextInt(20)) {
            case 0: return EDGES[draws.nextInt(EDGES.length)];
            case 1: return draws.nextInt(100);
            case 2: return draws.nextInt();
            case 3: return draws.nextInt(1000000);
            case 4: case 5: case 6: case 7: case 8: return draws.nextInt(16);
            case 9: case 10: return draws.nextInt(30);
            default: return draws.nextInt(5);
        }
    }

    private static void tell() throws ReflectiveOperationException {
        StringBuilder text = new StringBuilder();
        text.append('i').append(1 + draws.nextInt(draws.nextBoolean() ? 12 : 99)).append(',');
        text.append(1 + draws.nextInt(draws.nextBoolean() ? 12 : 99)).append(';');
        int hands = 1 + draws.nextInt(4);
        for (int i = 0; i < hands; i++) text.append("sprhl".charAt(draws.nextInt(5))).append(draws.nextInt(10)).append(';');
        int copies = draws.nextInt(11);
        for (int i = 0; i < copies; i++) {
            text.append('w').append(draws.nextInt(6)).append(',').append(draws.nextInt(hands)).append(',');
            text.append(1 + draws.nextInt(9)).append(';');
        }
        int deeds = draws.nextInt(6);
        for (int i = 0; i < deeds; i++) {
            text.append(draws.nextBoolean() ? 'a' : 'y').append(1 + draws.nextInt(draws.nextInt(3) == 0 ? 63 : 7));
            text.append(',').append(draws.nextInt(i + 1)).append(',').append(draws.nextInt(21)).append(';');
        }
        if (draws.nextInt(3) == 0) spoil(text);
        read(text.toString());
    }

    private static void read(String text) throws ReflectiveOperationException {
        Method feed = Model.class.getDeclaredMethod("feed", int.class);
        for (int i = 0; i < text.length(); i++) same(feed, new Object[] {(int) text.charAt(i)});
        same(Model.class.getDeclaredMethod("archive"), new Object[0]);
        same(Model.class.getDeclaredMethod("fault"), new Object[0]);
    }

    private static void spoil(StringBuilder text) {
        String signs = "isprhlwayq,;0123456789 ";
        for (int i = 1 + draws.nextInt(2); i > 0; i--) {
            int at = draws.nextInt(text.length());
            char sign = draws.nextInt(20) == 0 ? (char) draws.nextInt(256) : signs.charAt(draws.nextInt(signs.length()));
            switch (draws.nextInt(4)) {
                case 0: text.deleteCharAt(at); break;
                case 1: text.insert(at, sign); break;
                case 2: text.setLength(at + 1); break;
                default: text.setCharAt(at, sign); break;
            }
        }
    }
}
