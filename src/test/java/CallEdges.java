final class CallEdges { static void run() {} }
